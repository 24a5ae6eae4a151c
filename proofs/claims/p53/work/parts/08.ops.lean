/-! plain instructions, carried over -/
section AOPS
variable {p : Program} {l : Launch} {e : Env} {R : Room} {s : State} {m : MethodId} {args : Array Value} {below : List Frame} {meth : Method} {c : Code} {D : AG} {A : Nat → Prop} {Q : State → Prop} {S : ASt} {cc : ByteArray} {pc len : Nat} {lv : ALv} {st : List Value} {fr : AFr} {H : Heap} {locs : List Loc} {ls : Array Slot}
abbrev aK (p : Program) (l : Launch) (e : Env) (R : Room) (s : State) (m : MethodId) (args : Array Value) (below : List Frame) (meth : Method) (c : Code) (Q : State → Prop) (S : ASt) (H : Heap) (locs : List Loc) (fr : AFr) : Prop := ∀ ls : Array Slot, lv_has ls c.maxLocals fr.2.1 → W p l e R s m args below meth c H locs S.2.2.1 S.2.2.2 Q (F0 m fr.1 ls fr.2.2)

theorem ao_iconst {n : Int} (hx : p.tables.exec = Jvm.exec) (hb : c.code = cc) (hd : decode cc pc = .ok (.iconst n, 1)) (hl : lv_has ls c.maxLocals lv) (h : aOp c.maxLocals (.iconst n) pc lv st = some fr) (k : aK p l e R s m args below meth c Q S H locs fr) : W p l e R s m args below meth c H locs S.2.2.1 S.2.2.2 Q (F0 m pc ls st) := by
  obtain rfl := Option.some.inj h
  exact lv_iconst hx hb hd rfl (k ls hl)
theorem ao_bipush {n : Int} (hx : p.tables.exec = Jvm.exec) (hb : c.code = cc) (hd : decode cc pc = .ok (.bipush n, 2)) (hl : lv_has ls c.maxLocals lv) (h : aOp c.maxLocals (.bipush n) pc lv st = some fr) (k : aK p l e R s m args below meth c Q S H locs fr) : W p l e R s m args below meth c H locs S.2.2.1 S.2.2.2 Q (F0 m pc ls st) := by
  obtain rfl := Option.some.inj h
  exact lv_bipush hx hb hd rfl (k ls hl)
theorem ao_sipush {n : Int} (hx : p.tables.exec = Jvm.exec) (hb : c.code = cc) (hd : decode cc pc = .ok (.sipush n, 3)) (hl : lv_has ls c.maxLocals lv) (h : aOp c.maxLocals (.sipush n) pc lv st = some fr) (k : aK p l e R s m args below meth c Q S H locs fr) : W p l e R s m args below meth c H locs S.2.2.1 S.2.2.2 Q (F0 m pc ls st) := by
  obtain rfl := Option.some.inj h
  exact lv_sipush hx hb hd rfl (k ls hl)
theorem ao_lconst {n : Fin 2} (hx : p.tables.exec = Jvm.exec) (hb : c.code = cc) (hd : decode cc pc = .ok (.lconst n, 1)) (hl : lv_has ls c.maxLocals lv) (h : aOp c.maxLocals (.lconst n) pc lv st = some fr) (k : aK p l e R s m args below meth c Q S H locs fr) : W p l e R s m args below meth c H locs S.2.2.1 S.2.2.2 Q (F0 m pc ls st) := by
  obtain rfl := Option.some.inj h
  exact lv_lconst hx hb hd rfl (k ls hl)
theorem ao_iload_n {i : Fin 4} (hx : p.tables.exec = Jvm.exec) (hb : c.code = cc) (hd : decode cc pc = .ok (.iload_n i, 1)) (hl : lv_has ls c.maxLocals lv) (h : aOp c.maxLocals (.iload_n i) pc lv st = some fr) (k : aK p l e R s m args below meth c Q S H locs fr) : W p l e R s m args below meth c H locs S.2.2.1 S.2.2.2 Q (F0 m pc ls st) := by
  have h : aLdI lv i 1 pc st = some fr := h
  unfold aLdI at h
  split at h
  · rename_i x hx2
    obtain rfl := Option.some.inj h
    exact lv_iload_n hx hb hd rfl (hl.2.2 _ (aGet_mem hx2)) (k ls hl)
  · cases h
theorem ao_istore_n {i : Fin 4} (hx : p.tables.exec = Jvm.exec) (hb : c.code = cc) (hd : decode cc pc = .ok (.istore_n i, 1)) (hl : lv_has ls c.maxLocals lv) (h : aOp c.maxLocals (.istore_n i) pc lv st = some fr) (k : aK p l e R s m args below meth c Q S H locs fr) : W p l e R s m args below meth c H locs S.2.2.1 S.2.2.2 Q (F0 m pc ls st) := by
  have h : aStI c.maxLocals lv i 1 pc st = some fr := h
  unfold aStI at h
  split at h
  · split at h
    · rename_i hi
      obtain rfl := Option.some.inj h
      exact lv_istore_n hx hb hd rfl hl hi rfl (fun ls1 hl1 => k ls1 hl1)
    · cases h
  · cases h
theorem ao_iload {i : Nat} (hx : p.tables.exec = Jvm.exec) (hb : c.code = cc) (hd : decode cc pc = .ok (.iload i, 2)) (hl : lv_has ls c.maxLocals lv) (h : aOp c.maxLocals (.iload i) pc lv st = some fr) (k : aK p l e R s m args below meth c Q S H locs fr) : W p l e R s m args below meth c H locs S.2.2.1 S.2.2.2 Q (F0 m pc ls st) := by
  have h : aLdI lv i 2 pc st = some fr := h
  unfold aLdI at h
  split at h
  · rename_i x hx2
    obtain rfl := Option.some.inj h
    exact lv_iload hx hb hd (hl.2.2 _ (aGet_mem hx2)) (k ls hl)
  · cases h
theorem ao_istore {i : Nat} (hx : p.tables.exec = Jvm.exec) (hb : c.code = cc) (hd : decode cc pc = .ok (.istore i, 2)) (hl : lv_has ls c.maxLocals lv) (h : aOp c.maxLocals (.istore i) pc lv st = some fr) (k : aK p l e R s m args below meth c Q S H locs fr) : W p l e R s m args below meth c H locs S.2.2.1 S.2.2.2 Q (F0 m pc ls st) := by
  have h : aStI c.maxLocals lv i 2 pc st = some fr := h
  unfold aStI at h
  split at h
  · split at h
    · rename_i hi
      obtain rfl := Option.some.inj h
      exact lv_istore hx hb hd hl hi rfl (fun ls1 hl1 => k ls1 hl1)
    · cases h
  · cases h
theorem ao_lload_n {i : Fin 4} (hx : p.tables.exec = Jvm.exec) (hb : c.code = cc) (hd : decode cc pc = .ok (.lload_n i, 1)) (hl : lv_has ls c.maxLocals lv) (h : aOp c.maxLocals (.lload_n i) pc lv st = some fr) (k : aK p l e R s m args below meth c Q S H locs fr) : W p l e R s m args below meth c H locs S.2.2.1 S.2.2.2 Q (F0 m pc ls st) := by
  have h : aLdL lv i 1 pc st = some fr := h
  unfold aLdL at h
  split at h
  · rename_i x hx2
    obtain rfl := Option.some.inj h
    exact lv_lload_n hx hb hd rfl (hl.2.2 _ (aGet_mem hx2)) (k ls hl)
  · cases h
theorem ao_lstore_n {i : Fin 4} (hx : p.tables.exec = Jvm.exec) (hb : c.code = cc) (hd : decode cc pc = .ok (.lstore_n i, 1)) (hl : lv_has ls c.maxLocals lv) (h : aOp c.maxLocals (.lstore_n i) pc lv st = some fr) (k : aK p l e R s m args below meth c Q S H locs fr) : W p l e R s m args below meth c H locs S.2.2.1 S.2.2.2 Q (F0 m pc ls st) := by
  have h : aStL c.maxLocals lv i 1 pc st = some fr := h
  unfold aStL at h
  split at h
  · split at h
    · rename_i hi
      obtain rfl := Option.some.inj h
      exact lv_lstore_n hx hb hd rfl hl hi rfl (fun ls1 hl1 => k ls1 hl1)
    · cases h
  · cases h
theorem ao_lload {i : Nat} (hx : p.tables.exec = Jvm.exec) (hb : c.code = cc) (hd : decode cc pc = .ok (.lload i, 2)) (hl : lv_has ls c.maxLocals lv) (h : aOp c.maxLocals (.lload i) pc lv st = some fr) (k : aK p l e R s m args below meth c Q S H locs fr) : W p l e R s m args below meth c H locs S.2.2.1 S.2.2.2 Q (F0 m pc ls st) := by
  have h : aLdL lv i 2 pc st = some fr := h
  unfold aLdL at h
  split at h
  · rename_i x hx2
    obtain rfl := Option.some.inj h
    exact lv_lload hx hb hd (hl.2.2 _ (aGet_mem hx2)) (k ls hl)
  · cases h
theorem ao_lstore {i : Nat} (hx : p.tables.exec = Jvm.exec) (hb : c.code = cc) (hd : decode cc pc = .ok (.lstore i, 2)) (hl : lv_has ls c.maxLocals lv) (h : aOp c.maxLocals (.lstore i) pc lv st = some fr) (k : aK p l e R s m args below meth c Q S H locs fr) : W p l e R s m args below meth c H locs S.2.2.1 S.2.2.2 Q (F0 m pc ls st) := by
  have h : aStL c.maxLocals lv i 2 pc st = some fr := h
  unfold aStL at h
  split at h
  · split at h
    · rename_i hi
      obtain rfl := Option.some.inj h
      exact lv_lstore hx hb hd hl hi rfl (fun ls1 hl1 => k ls1 hl1)
    · cases h
  · cases h
theorem ao_aload_n {i : Fin 4} (hx : p.tables.exec = Jvm.exec) (hb : c.code = cc) (hd : decode cc pc = .ok (.aload_n i, 1)) (hl : lv_has ls c.maxLocals lv) (h : aOp c.maxLocals (.aload_n i) pc lv st = some fr) (k : aK p l e R s m args below meth c Q S H locs fr) : W p l e R s m args below meth c H locs S.2.2.1 S.2.2.2 Q (F0 m pc ls st) := by
  have h : aLdA lv i 1 pc st = some fr := h
  unfold aLdA at h
  split at h
  · rename_i x hx2
    obtain rfl := Option.some.inj h
    exact lv_aload_n hx hb hd rfl (hl.2.2 _ (aGet_mem hx2)) (k ls hl)
  · cases h
theorem ao_astore_n {i : Fin 4} (hx : p.tables.exec = Jvm.exec) (hb : c.code = cc) (hd : decode cc pc = .ok (.astore_n i, 1)) (hl : lv_has ls c.maxLocals lv) (h : aOp c.maxLocals (.astore_n i) pc lv st = some fr) (k : aK p l e R s m args below meth c Q S H locs fr) : W p l e R s m args below meth c H locs S.2.2.1 S.2.2.2 Q (F0 m pc ls st) := by
  have h : aStA c.maxLocals lv i 1 pc st = some fr := h
  unfold aStA at h
  split at h
  · split at h
    · rename_i hi
      obtain rfl := Option.some.inj h
      exact lv_astore_n hx hb hd rfl hl hi rfl (fun ls1 hl1 => k ls1 hl1)
    · cases h
  · cases h
theorem ao_aload {i : Nat} (hx : p.tables.exec = Jvm.exec) (hb : c.code = cc) (hd : decode cc pc = .ok (.aload i, 2)) (hl : lv_has ls c.maxLocals lv) (h : aOp c.maxLocals (.aload i) pc lv st = some fr) (k : aK p l e R s m args below meth c Q S H locs fr) : W p l e R s m args below meth c H locs S.2.2.1 S.2.2.2 Q (F0 m pc ls st) := by
  have h : aLdA lv i 2 pc st = some fr := h
  unfold aLdA at h
  split at h
  · rename_i x hx2
    obtain rfl := Option.some.inj h
    exact lv_aload hx hb hd (hl.2.2 _ (aGet_mem hx2)) (k ls hl)
  · cases h
theorem ao_astore {i : Nat} (hx : p.tables.exec = Jvm.exec) (hb : c.code = cc) (hd : decode cc pc = .ok (.astore i, 2)) (hl : lv_has ls c.maxLocals lv) (h : aOp c.maxLocals (.astore i) pc lv st = some fr) (k : aK p l e R s m args below meth c Q S H locs fr) : W p l e R s m args below meth c H locs S.2.2.1 S.2.2.2 Q (F0 m pc ls st) := by
  have h : aStA c.maxLocals lv i 2 pc st = some fr := h
  unfold aStA at h
  split at h
  · split at h
    · rename_i hi
      obtain rfl := Option.some.inj h
      exact lv_astore hx hb hd hl hi rfl (fun ls1 hl1 => k ls1 hl1)
    · cases h
  · cases h
theorem ao_iinc {i : Nat} {d : Int} (hx : p.tables.exec = Jvm.exec) (hb : c.code = cc) (hd : decode cc pc = .ok (.iinc i d, 3)) (hl : lv_has ls c.maxLocals lv) (h : aOp c.maxLocals (.iinc i d) pc lv st = some fr) (k : aK p l e R s m args below meth c Q S H locs fr) : W p l e R s m args below meth c H locs S.2.2.1 S.2.2.2 Q (F0 m pc ls st) := by
  have h : aInc c.maxLocals lv i d pc st = some fr := h
  unfold aInc at h
  split at h
  · rename_i x hx2
    split at h
    · rename_i hi
      obtain rfl := Option.some.inj h
      obtain ⟨j, hj⟩ := List.getElem?_of_mem (aGet_mem hx2)
      exact lv_iinc hx hb hd hl hj rfl hi rfl (fun ls1 hl1 => k ls1 hl1)
    · cases h
  · cases h
theorem ao_iadd  (hx : p.tables.exec = Jvm.exec) (hb : c.code = cc) (hd : decode cc pc = .ok (.iadd, 1)) (hl : lv_has ls c.maxLocals lv) (h : aOp c.maxLocals (.iadd) pc lv st = some fr) (k : aK p l e R s m args below meth c Q S H locs fr) : W p l e R s m args below meth c H locs S.2.2.1 S.2.2.2 Q (F0 m pc ls st) := by
  obtain ⟨x, y, r, rfl, h⟩ := aS2_eq h
  obtain rfl := Option.some.inj h
  exact lv_iadd hx hb hd (k ls hl)
theorem ao_isub  (hx : p.tables.exec = Jvm.exec) (hb : c.code = cc) (hd : decode cc pc = .ok (.isub, 1)) (hl : lv_has ls c.maxLocals lv) (h : aOp c.maxLocals (.isub) pc lv st = some fr) (k : aK p l e R s m args below meth c Q S H locs fr) : W p l e R s m args below meth c H locs S.2.2.1 S.2.2.2 Q (F0 m pc ls st) := by
  obtain ⟨x, y, r, rfl, h⟩ := aS2_eq h
  obtain rfl := Option.some.inj h
  exact lv_isub hx hb hd (k ls hl)
theorem ao_imul  (hx : p.tables.exec = Jvm.exec) (hb : c.code = cc) (hd : decode cc pc = .ok (.imul, 1)) (hl : lv_has ls c.maxLocals lv) (h : aOp c.maxLocals (.imul) pc lv st = some fr) (k : aK p l e R s m args below meth c Q S H locs fr) : W p l e R s m args below meth c H locs S.2.2.1 S.2.2.2 Q (F0 m pc ls st) := by
  obtain ⟨x, y, r, rfl, h⟩ := aS2_eq h
  obtain rfl := Option.some.inj h
  exact lv_imul hx hb hd (k ls hl)
theorem ao_iand  (hx : p.tables.exec = Jvm.exec) (hb : c.code = cc) (hd : decode cc pc = .ok (.iand, 1)) (hl : lv_has ls c.maxLocals lv) (h : aOp c.maxLocals (.iand) pc lv st = some fr) (k : aK p l e R s m args below meth c Q S H locs fr) : W p l e R s m args below meth c H locs S.2.2.1 S.2.2.2 Q (F0 m pc ls st) := by
  obtain ⟨x, y, r, rfl, h⟩ := aS2_eq h
  obtain rfl := Option.some.inj h
  exact lv_iand hx hb hd (k ls hl)
theorem ao_ior  (hx : p.tables.exec = Jvm.exec) (hb : c.code = cc) (hd : decode cc pc = .ok (.ior, 1)) (hl : lv_has ls c.maxLocals lv) (h : aOp c.maxLocals (.ior) pc lv st = some fr) (k : aK p l e R s m args below meth c Q S H locs fr) : W p l e R s m args below meth c H locs S.2.2.1 S.2.2.2 Q (F0 m pc ls st) := by
  obtain ⟨x, y, r, rfl, h⟩ := aS2_eq h
  obtain rfl := Option.some.inj h
  exact lv_ior hx hb hd (k ls hl)
theorem ao_ixor  (hx : p.tables.exec = Jvm.exec) (hb : c.code = cc) (hd : decode cc pc = .ok (.ixor, 1)) (hl : lv_has ls c.maxLocals lv) (h : aOp c.maxLocals (.ixor) pc lv st = some fr) (k : aK p l e R s m args below meth c Q S H locs fr) : W p l e R s m args below meth c H locs S.2.2.1 S.2.2.2 Q (F0 m pc ls st) := by
  obtain ⟨x, y, r, rfl, h⟩ := aS2_eq h
  obtain rfl := Option.some.inj h
  exact lv_ixor hx hb hd (k ls hl)
theorem ao_ishl  (hx : p.tables.exec = Jvm.exec) (hb : c.code = cc) (hd : decode cc pc = .ok (.ishl, 1)) (hl : lv_has ls c.maxLocals lv) (h : aOp c.maxLocals (.ishl) pc lv st = some fr) (k : aK p l e R s m args below meth c Q S H locs fr) : W p l e R s m args below meth c H locs S.2.2.1 S.2.2.2 Q (F0 m pc ls st) := by
  obtain ⟨x, y, r, rfl, h⟩ := aS2_eq h
  obtain rfl := Option.some.inj h
  exact lv_ishl hx hb hd (k ls hl)
theorem ao_ishr  (hx : p.tables.exec = Jvm.exec) (hb : c.code = cc) (hd : decode cc pc = .ok (.ishr, 1)) (hl : lv_has ls c.maxLocals lv) (h : aOp c.maxLocals (.ishr) pc lv st = some fr) (k : aK p l e R s m args below meth c Q S H locs fr) : W p l e R s m args below meth c H locs S.2.2.1 S.2.2.2 Q (F0 m pc ls st) := by
  obtain ⟨x, y, r, rfl, h⟩ := aS2_eq h
  obtain rfl := Option.some.inj h
  exact lv_ishr hx hb hd (k ls hl)
theorem ao_iushr  (hx : p.tables.exec = Jvm.exec) (hb : c.code = cc) (hd : decode cc pc = .ok (.iushr, 1)) (hl : lv_has ls c.maxLocals lv) (h : aOp c.maxLocals (.iushr) pc lv st = some fr) (k : aK p l e R s m args below meth c Q S H locs fr) : W p l e R s m args below meth c H locs S.2.2.1 S.2.2.2 Q (F0 m pc ls st) := by
  obtain ⟨x, y, r, rfl, h⟩ := aS2_eq h
  obtain rfl := Option.some.inj h
  exact lv_iushr hx hb hd rfl (k ls hl)
theorem ao_idiv  (hx : p.tables.exec = Jvm.exec) (hb : c.code = cc) (hd : decode cc pc = .ok (.idiv, 1)) (hl : lv_has ls c.maxLocals lv) (h : aOp c.maxLocals (.idiv) pc lv st = some fr) (k : aK p l e R s m args below meth c Q S H locs fr) : W p l e R s m args below meth c H locs S.2.2.1 S.2.2.2 Q (F0 m pc ls st) := by
  obtain ⟨x, y, r, rfl, h⟩ := aS2_eq h
  have h : (if y = 0 then none else aS0 1 pc lv r (.int (x / y))) = some fr := h
  split at h
  · cases h
  · rename_i hne
    obtain rfl := Option.some.inj h
    exact lv_idiv hx hb hd hne (k ls hl)
theorem ao_irem  (hx : p.tables.exec = Jvm.exec) (hb : c.code = cc) (hd : decode cc pc = .ok (.irem, 1)) (hl : lv_has ls c.maxLocals lv) (h : aOp c.maxLocals (.irem) pc lv st = some fr) (k : aK p l e R s m args below meth c Q S H locs fr) : W p l e R s m args below meth c H locs S.2.2.1 S.2.2.2 Q (F0 m pc ls st) := by
  obtain ⟨x, y, r, rfl, h⟩ := aS2_eq h
  have h : (if y = 0 then none else aS0 1 pc lv r (.int (x - x / y * y))) = some fr := h
  split at h
  · cases h
  · rename_i hne
    obtain rfl := Option.some.inj h
    exact lv_irem hx hb hd hne (k ls hl)
theorem ao_ineg  (hx : p.tables.exec = Jvm.exec) (hb : c.code = cc) (hd : decode cc pc = .ok (.ineg, 1)) (hl : lv_has ls c.maxLocals lv) (h : aOp c.maxLocals (.ineg) pc lv st = some fr) (k : aK p l e R s m args below meth c Q S H locs fr) : W p l e R s m args below meth c H locs S.2.2.1 S.2.2.2 Q (F0 m pc ls st) := by
  obtain ⟨x, r, rfl, h⟩ := aS1_eq h
  obtain rfl := Option.some.inj h
  exact lv_ineg hx hb hd (k ls hl)
theorem ao_ladd  (hx : p.tables.exec = Jvm.exec) (hb : c.code = cc) (hd : decode cc pc = .ok (.ladd, 1)) (hl : lv_has ls c.maxLocals lv) (h : aOp c.maxLocals (.ladd) pc lv st = some fr) (k : aK p l e R s m args below meth c Q S H locs fr) : W p l e R s m args below meth c H locs S.2.2.1 S.2.2.2 Q (F0 m pc ls st) := by
  obtain ⟨x, y, r, rfl, h⟩ := aS2L_eq h
  obtain rfl := Option.some.inj h
  exact lv_ladd hx hb hd (k ls hl)
theorem ao_lsub  (hx : p.tables.exec = Jvm.exec) (hb : c.code = cc) (hd : decode cc pc = .ok (.lsub, 1)) (hl : lv_has ls c.maxLocals lv) (h : aOp c.maxLocals (.lsub) pc lv st = some fr) (k : aK p l e R s m args below meth c Q S H locs fr) : W p l e R s m args below meth c H locs S.2.2.1 S.2.2.2 Q (F0 m pc ls st) := by
  obtain ⟨x, y, r, rfl, h⟩ := aS2L_eq h
  obtain rfl := Option.some.inj h
  exact lv_lsub hx hb hd (k ls hl)
theorem ao_lmul  (hx : p.tables.exec = Jvm.exec) (hb : c.code = cc) (hd : decode cc pc = .ok (.lmul, 1)) (hl : lv_has ls c.maxLocals lv) (h : aOp c.maxLocals (.lmul) pc lv st = some fr) (k : aK p l e R s m args below meth c Q S H locs fr) : W p l e R s m args below meth c H locs S.2.2.1 S.2.2.2 Q (F0 m pc ls st) := by
  obtain ⟨x, y, r, rfl, h⟩ := aS2L_eq h
  obtain rfl := Option.some.inj h
  exact lv_lmul hx hb hd (k ls hl)
theorem ao_land  (hx : p.tables.exec = Jvm.exec) (hb : c.code = cc) (hd : decode cc pc = .ok (.land, 1)) (hl : lv_has ls c.maxLocals lv) (h : aOp c.maxLocals (.land) pc lv st = some fr) (k : aK p l e R s m args below meth c Q S H locs fr) : W p l e R s m args below meth c H locs S.2.2.1 S.2.2.2 Q (F0 m pc ls st) := by
  obtain ⟨x, y, r, rfl, h⟩ := aS2L_eq h
  obtain rfl := Option.some.inj h
  exact lv_land hx hb hd (k ls hl)
theorem ao_lor  (hx : p.tables.exec = Jvm.exec) (hb : c.code = cc) (hd : decode cc pc = .ok (.lor, 1)) (hl : lv_has ls c.maxLocals lv) (h : aOp c.maxLocals (.lor) pc lv st = some fr) (k : aK p l e R s m args below meth c Q S H locs fr) : W p l e R s m args below meth c H locs S.2.2.1 S.2.2.2 Q (F0 m pc ls st) := by
  obtain ⟨x, y, r, rfl, h⟩ := aS2L_eq h
  obtain rfl := Option.some.inj h
  exact lv_lor hx hb hd (k ls hl)
theorem ao_lrem  (hx : p.tables.exec = Jvm.exec) (hb : c.code = cc) (hd : decode cc pc = .ok (.lrem, 1)) (hl : lv_has ls c.maxLocals lv) (h : aOp c.maxLocals (.lrem) pc lv st = some fr) (k : aK p l e R s m args below meth c Q S H locs fr) : W p l e R s m args below meth c H locs S.2.2.1 S.2.2.2 Q (F0 m pc ls st) := by
  obtain ⟨x, y, r, rfl, h⟩ := aS2L_eq h
  have h : (if y = 0 then none else aS0 1 pc lv r (.long (x - x / y * y))) = some fr := h
  split at h
  · cases h
  · rename_i hne
    obtain rfl := Option.some.inj h
    exact lv_lrem hx hb hd hne (k ls hl)
theorem ao_lshl  (hx : p.tables.exec = Jvm.exec) (hb : c.code = cc) (hd : decode cc pc = .ok (.lshl, 1)) (hl : lv_has ls c.maxLocals lv) (h : aOp c.maxLocals (.lshl) pc lv st = some fr) (k : aK p l e R s m args below meth c Q S H locs fr) : W p l e R s m args below meth c H locs S.2.2.1 S.2.2.2 Q (F0 m pc ls st) := by
  obtain ⟨x, y, r, rfl, h⟩ := aSLI_eq h
  obtain rfl := Option.some.inj h
  exact lv_lshl hx hb hd rfl (k ls hl)
theorem ao_lshr  (hx : p.tables.exec = Jvm.exec) (hb : c.code = cc) (hd : decode cc pc = .ok (.lshr, 1)) (hl : lv_has ls c.maxLocals lv) (h : aOp c.maxLocals (.lshr) pc lv st = some fr) (k : aK p l e R s m args below meth c Q S H locs fr) : W p l e R s m args below meth c H locs S.2.2.1 S.2.2.2 Q (F0 m pc ls st) := by
  obtain ⟨x, y, r, rfl, h⟩ := aSLI_eq h
  obtain rfl := Option.some.inj h
  exact lv_lshr hx hb hd rfl (k ls hl)
theorem ao_i2l  (hx : p.tables.exec = Jvm.exec) (hb : c.code = cc) (hd : decode cc pc = .ok (.i2l, 1)) (hl : lv_has ls c.maxLocals lv) (h : aOp c.maxLocals (.i2l) pc lv st = some fr) (k : aK p l e R s m args below meth c Q S H locs fr) : W p l e R s m args below meth c H locs S.2.2.1 S.2.2.2 Q (F0 m pc ls st) := by
  obtain ⟨x, r, rfl, h⟩ := aS1_eq h
  obtain rfl := Option.some.inj h
  exact lv_i2l hx hb hd rfl (k ls hl)
theorem ao_l2i  (hx : p.tables.exec = Jvm.exec) (hb : c.code = cc) (hd : decode cc pc = .ok (.l2i, 1)) (hl : lv_has ls c.maxLocals lv) (h : aOp c.maxLocals (.l2i) pc lv st = some fr) (k : aK p l e R s m args below meth c Q S H locs fr) : W p l e R s m args below meth c H locs S.2.2.1 S.2.2.2 Q (F0 m pc ls st) := by
  obtain ⟨x, r, rfl, h⟩ := aS1L_eq h
  obtain rfl := Option.some.inj h
  exact lv_l2i hx hb hd rfl (k ls hl)
theorem ao_lcmp  (hx : p.tables.exec = Jvm.exec) (hb : c.code = cc) (hd : decode cc pc = .ok (.lcmp, 1)) (hl : lv_has ls c.maxLocals lv) (h : aOp c.maxLocals (.lcmp) pc lv st = some fr) (k : aK p l e R s m args below meth c Q S H locs fr) : W p l e R s m args below meth c H locs S.2.2.1 S.2.2.2 Q (F0 m pc ls st) := by
  obtain ⟨x, y, r, rfl, h⟩ := aS2L_eq h
  obtain rfl := Option.some.inj h
  exact W.lcmp hx hb hd (k ls hl)
theorem ao_dup  (hx : p.tables.exec = Jvm.exec) (hb : c.code = cc) (hd : decode cc pc = .ok (.dup, 1)) (hl : lv_has ls c.maxLocals lv) (h : aOp c.maxLocals (.dup) pc lv st = some fr) (k : aK p l e R s m args below meth c Q S H locs fr) : W p l e R s m args below meth c H locs S.2.2.1 S.2.2.2 Q (F0 m pc ls st) := by
  have h : aDup pc lv st = some fr := h
  unfold aDup at h
  split at h
  · split at h
    · rename_i hc
      obtain rfl := Option.some.inj h
      exact lv_dup hx hb hd hc (k ls hl)
    · cases h
  · cases h
theorem ao_pop  (hx : p.tables.exec = Jvm.exec) (hb : c.code = cc) (hd : decode cc pc = .ok (.pop, 1)) (hl : lv_has ls c.maxLocals lv) (h : aOp c.maxLocals (.pop) pc lv st = some fr) (k : aK p l e R s m args below meth c Q S H locs fr) : W p l e R s m args below meth c H locs S.2.2.1 S.2.2.2 Q (F0 m pc ls st) := by
  have h : aPop pc lv st = some fr := h
  unfold aPop at h
  split at h
  · split at h
    · rename_i hc
      obtain rfl := Option.some.inj h
      exact lv_pop hx hb hd hc (k ls hl)
    · cases h
  · cases h
theorem ao_dup2  (hx : p.tables.exec = Jvm.exec) (hb : c.code = cc) (hd : decode cc pc = .ok (.dup2, 1)) (hl : lv_has ls c.maxLocals lv) (h : aOp c.maxLocals (.dup2) pc lv st = some fr) (k : aK p l e R s m args below meth c Q S H locs fr) : W p l e R s m args below meth c H locs S.2.2.1 S.2.2.2 Q (F0 m pc ls st) := by
  have h : aDup2 pc lv st = some fr := h
  unfold aDup2 at h
  split at h
  · split at h
    · rename_i hc
      obtain rfl := Option.some.inj h
      exact lv_dup2_11 hx hb hd hc.1 hc.2 (k ls hl)
    · cases h
  · cases h
theorem ao_if_eq {off : Int} (hx : p.tables.exec = Jvm.exec) (hb : c.code = cc) (hd : decode cc pc = .ok (.ifCond .eq off, 3)) (hl : lv_has ls c.maxLocals lv) (h : aOp c.maxLocals (.ifCond .eq off) pc lv st = some fr) (k : aK p l e R s m args below meth c Q S H locs fr) : W p l e R s m args below meth c H locs S.2.2.1 S.2.2.2 Q (F0 m pc ls st) := by
  obtain ⟨x, r, rfl, h⟩ := aS1_eq h
  obtain ⟨t, ht, h⟩ := aIf_eq h
  refine lv_if_eq hx hb hd ht (fun hz => ?_) (fun hz => ?_)
  · rw [if_pos (decide_eq_true (hz))] at h
    subst h
    exact k ls hl
  · rw [if_neg (fun q => hz (of_decide_eq_true q))] at h
    subst h
    exact k ls hl
theorem ao_icmp_eq {off : Int} (hx : p.tables.exec = Jvm.exec) (hb : c.code = cc) (hd : decode cc pc = .ok (.if_icmp .eq off, 3)) (hl : lv_has ls c.maxLocals lv) (h : aOp c.maxLocals (.if_icmp .eq off) pc lv st = some fr) (k : aK p l e R s m args below meth c Q S H locs fr) : W p l e R s m args below meth c H locs S.2.2.1 S.2.2.2 Q (F0 m pc ls st) := by
  obtain ⟨x, y, r, rfl, h⟩ := aS2_eq h
  obtain ⟨t, ht, h⟩ := aIf_eq h
  refine lv_icmp_eq hx hb hd ht (fun hz => ?_) (fun hz => ?_)
  · rw [if_pos (decide_eq_true (hz))] at h
    subst h
    exact k ls hl
  · rw [if_neg (fun q => hz (of_decide_eq_true q))] at h
    subst h
    exact k ls hl
theorem ao_if_ne {off : Int} (hx : p.tables.exec = Jvm.exec) (hb : c.code = cc) (hd : decode cc pc = .ok (.ifCond .ne off, 3)) (hl : lv_has ls c.maxLocals lv) (h : aOp c.maxLocals (.ifCond .ne off) pc lv st = some fr) (k : aK p l e R s m args below meth c Q S H locs fr) : W p l e R s m args below meth c H locs S.2.2.1 S.2.2.2 Q (F0 m pc ls st) := by
  obtain ⟨x, r, rfl, h⟩ := aS1_eq h
  obtain ⟨t, ht, h⟩ := aIf_eq h
  refine lv_if_ne hx hb hd ht (fun hz => ?_) (fun hz => ?_)
  · rw [if_pos (decide_eq_true (hz))] at h
    subst h
    exact k ls hl
  · rw [if_neg (fun q => (of_decide_eq_true q) hz)] at h
    subst h
    exact k ls hl
theorem ao_icmp_ne {off : Int} (hx : p.tables.exec = Jvm.exec) (hb : c.code = cc) (hd : decode cc pc = .ok (.if_icmp .ne off, 3)) (hl : lv_has ls c.maxLocals lv) (h : aOp c.maxLocals (.if_icmp .ne off) pc lv st = some fr) (k : aK p l e R s m args below meth c Q S H locs fr) : W p l e R s m args below meth c H locs S.2.2.1 S.2.2.2 Q (F0 m pc ls st) := by
  obtain ⟨x, y, r, rfl, h⟩ := aS2_eq h
  obtain ⟨t, ht, h⟩ := aIf_eq h
  refine lv_icmp_ne hx hb hd ht (fun hz => ?_) (fun hz => ?_)
  · rw [if_pos (decide_eq_true (hz))] at h
    subst h
    exact k ls hl
  · rw [if_neg (fun q => (of_decide_eq_true q) hz)] at h
    subst h
    exact k ls hl
theorem ao_if_lt {off : Int} (hx : p.tables.exec = Jvm.exec) (hb : c.code = cc) (hd : decode cc pc = .ok (.ifCond .lt off, 3)) (hl : lv_has ls c.maxLocals lv) (h : aOp c.maxLocals (.ifCond .lt off) pc lv st = some fr) (k : aK p l e R s m args below meth c Q S H locs fr) : W p l e R s m args below meth c H locs S.2.2.1 S.2.2.2 Q (F0 m pc ls st) := by
  obtain ⟨x, r, rfl, h⟩ := aS1_eq h
  obtain ⟨t, ht, h⟩ := aIf_eq h
  refine lv_if_lt hx hb hd ht (fun hz => ?_) (fun hz => ?_)
  · rw [if_pos (decide_eq_true (hz))] at h
    subst h
    exact k ls hl
  · rw [if_neg (fun q => hz (of_decide_eq_true q))] at h
    subst h
    exact k ls hl
theorem ao_icmp_lt {off : Int} (hx : p.tables.exec = Jvm.exec) (hb : c.code = cc) (hd : decode cc pc = .ok (.if_icmp .lt off, 3)) (hl : lv_has ls c.maxLocals lv) (h : aOp c.maxLocals (.if_icmp .lt off) pc lv st = some fr) (k : aK p l e R s m args below meth c Q S H locs fr) : W p l e R s m args below meth c H locs S.2.2.1 S.2.2.2 Q (F0 m pc ls st) := by
  obtain ⟨x, y, r, rfl, h⟩ := aS2_eq h
  obtain ⟨t, ht, h⟩ := aIf_eq h
  refine lv_icmp_lt hx hb hd ht (fun hz => ?_) (fun hz => ?_)
  · rw [if_pos (decide_eq_true (hz))] at h
    subst h
    exact k ls hl
  · rw [if_neg (fun q => hz (of_decide_eq_true q))] at h
    subst h
    exact k ls hl
theorem ao_if_ge {off : Int} (hx : p.tables.exec = Jvm.exec) (hb : c.code = cc) (hd : decode cc pc = .ok (.ifCond .ge off, 3)) (hl : lv_has ls c.maxLocals lv) (h : aOp c.maxLocals (.ifCond .ge off) pc lv st = some fr) (k : aK p l e R s m args below meth c Q S H locs fr) : W p l e R s m args below meth c H locs S.2.2.1 S.2.2.2 Q (F0 m pc ls st) := by
  obtain ⟨x, r, rfl, h⟩ := aS1_eq h
  obtain ⟨t, ht, h⟩ := aIf_eq h
  refine lv_if_ge hx hb hd ht (fun hz => ?_) (fun hz => ?_)
  · rw [if_pos (decide_eq_true (hz))] at h
    subst h
    exact k ls hl
  · rw [if_neg (fun q => hz (of_decide_eq_true q))] at h
    subst h
    exact k ls hl
theorem ao_icmp_ge {off : Int} (hx : p.tables.exec = Jvm.exec) (hb : c.code = cc) (hd : decode cc pc = .ok (.if_icmp .ge off, 3)) (hl : lv_has ls c.maxLocals lv) (h : aOp c.maxLocals (.if_icmp .ge off) pc lv st = some fr) (k : aK p l e R s m args below meth c Q S H locs fr) : W p l e R s m args below meth c H locs S.2.2.1 S.2.2.2 Q (F0 m pc ls st) := by
  obtain ⟨x, y, r, rfl, h⟩ := aS2_eq h
  obtain ⟨t, ht, h⟩ := aIf_eq h
  refine lv_icmp_ge hx hb hd ht (fun hz => ?_) (fun hz => ?_)
  · rw [if_pos (decide_eq_true (hz))] at h
    subst h
    exact k ls hl
  · rw [if_neg (fun q => hz (of_decide_eq_true q))] at h
    subst h
    exact k ls hl
theorem ao_if_gt {off : Int} (hx : p.tables.exec = Jvm.exec) (hb : c.code = cc) (hd : decode cc pc = .ok (.ifCond .gt off, 3)) (hl : lv_has ls c.maxLocals lv) (h : aOp c.maxLocals (.ifCond .gt off) pc lv st = some fr) (k : aK p l e R s m args below meth c Q S H locs fr) : W p l e R s m args below meth c H locs S.2.2.1 S.2.2.2 Q (F0 m pc ls st) := by
  obtain ⟨x, r, rfl, h⟩ := aS1_eq h
  obtain ⟨t, ht, h⟩ := aIf_eq h
  refine lv_if_gt hx hb hd ht (fun hz => ?_) (fun hz => ?_)
  · rw [if_pos (decide_eq_true (hz))] at h
    subst h
    exact k ls hl
  · rw [if_neg (fun q => hz (of_decide_eq_true q))] at h
    subst h
    exact k ls hl
theorem ao_icmp_gt {off : Int} (hx : p.tables.exec = Jvm.exec) (hb : c.code = cc) (hd : decode cc pc = .ok (.if_icmp .gt off, 3)) (hl : lv_has ls c.maxLocals lv) (h : aOp c.maxLocals (.if_icmp .gt off) pc lv st = some fr) (k : aK p l e R s m args below meth c Q S H locs fr) : W p l e R s m args below meth c H locs S.2.2.1 S.2.2.2 Q (F0 m pc ls st) := by
  obtain ⟨x, y, r, rfl, h⟩ := aS2_eq h
  obtain ⟨t, ht, h⟩ := aIf_eq h
  refine lv_icmp_gt hx hb hd ht (fun hz => ?_) (fun hz => ?_)
  · rw [if_pos (decide_eq_true (hz))] at h
    subst h
    exact k ls hl
  · rw [if_neg (fun q => hz (of_decide_eq_true q))] at h
    subst h
    exact k ls hl
theorem ao_if_le {off : Int} (hx : p.tables.exec = Jvm.exec) (hb : c.code = cc) (hd : decode cc pc = .ok (.ifCond .le off, 3)) (hl : lv_has ls c.maxLocals lv) (h : aOp c.maxLocals (.ifCond .le off) pc lv st = some fr) (k : aK p l e R s m args below meth c Q S H locs fr) : W p l e R s m args below meth c H locs S.2.2.1 S.2.2.2 Q (F0 m pc ls st) := by
  obtain ⟨x, r, rfl, h⟩ := aS1_eq h
  obtain ⟨t, ht, h⟩ := aIf_eq h
  refine lv_if_le hx hb hd ht (fun hz => ?_) (fun hz => ?_)
  · rw [if_pos (decide_eq_true (hz))] at h
    subst h
    exact k ls hl
  · rw [if_neg (fun q => hz (of_decide_eq_true q))] at h
    subst h
    exact k ls hl
theorem ao_icmp_le {off : Int} (hx : p.tables.exec = Jvm.exec) (hb : c.code = cc) (hd : decode cc pc = .ok (.if_icmp .le off, 3)) (hl : lv_has ls c.maxLocals lv) (h : aOp c.maxLocals (.if_icmp .le off) pc lv st = some fr) (k : aK p l e R s m args below meth c Q S H locs fr) : W p l e R s m args below meth c H locs S.2.2.1 S.2.2.2 Q (F0 m pc ls st) := by
  obtain ⟨x, y, r, rfl, h⟩ := aS2_eq h
  obtain ⟨t, ht, h⟩ := aIf_eq h
  refine lv_icmp_le hx hb hd ht (fun hz => ?_) (fun hz => ?_)
  · rw [if_pos (decide_eq_true (hz))] at h
    subst h
    exact k ls hl
  · rw [if_neg (fun q => hz (of_decide_eq_true q))] at h
    subst h
    exact k ls hl
theorem ao_acmp_eq {off : Int} (hx : p.tables.exec = Jvm.exec) (hb : c.code = cc) (hd : decode cc pc = .ok (.if_acmp .eq off, 3)) (hl : lv_has ls c.maxLocals lv) (h : aOp c.maxLocals (.if_acmp .eq off) pc lv st = some fr) (k : aK p l e R s m args below meth c Q S H locs fr) : W p l e R s m args below meth c H locs S.2.2.1 S.2.2.2 Q (F0 m pc ls st) := by
  obtain ⟨x, y, r, rfl, h⟩ := aSA_eq h
  obtain ⟨t, ht, h⟩ := aIf_eq h
  refine lv_acmp_eq (rx := some x) (ry := some y) hx hb hd ht (fun hz => ?_) (fun hz => ?_)
  · rw [if_pos (decide_eq_true (Option.some.inj hz))] at h
    subst h
    exact k ls hl
  · rw [if_neg (fun q => hz (congrArg some (of_decide_eq_true q)))] at h
    subst h
    exact k ls hl
theorem ao_acmp_ne {off : Int} (hx : p.tables.exec = Jvm.exec) (hb : c.code = cc) (hd : decode cc pc = .ok (.if_acmp .ne off, 3)) (hl : lv_has ls c.maxLocals lv) (h : aOp c.maxLocals (.if_acmp .ne off) pc lv st = some fr) (k : aK p l e R s m args below meth c Q S H locs fr) : W p l e R s m args below meth c H locs S.2.2.1 S.2.2.2 Q (F0 m pc ls st) := by
  obtain ⟨x, y, r, rfl, h⟩ := aSA_eq h
  obtain ⟨t, ht, h⟩ := aIf_eq h
  refine lv_acmp_ne (rx := some x) (ry := some y) hx hb hd ht (fun hz => ?_) (fun hz => ?_)
  · rw [if_pos (decide_eq_true (show ¬ x = y from fun q => hz (congrArg some q)))] at h
    subst h
    exact k ls hl
  · rw [if_neg (fun q => (of_decide_eq_true q) (Option.some.inj hz))] at h
    subst h
    exact k ls hl
theorem ao_goto {off : Int} (hx : p.tables.exec = Jvm.exec) (hb : c.code = cc) (hd : decode cc pc = .ok (.goto off, 3)) (hl : lv_has ls c.maxLocals lv) (h : aOp c.maxLocals (.goto off) pc lv st = some fr) (k : aK p l e R s m args below meth c Q S H locs fr) : W p l e R s m args below meth c H locs S.2.2.1 S.2.2.2 Q (F0 m pc ls st) := by
  obtain ⟨t, ht, rfl⟩ := aJump_eq h
  exact lv_goto hx hb hd ht (k ls hl)
theorem ao_tsw {dflt lo hi : Int} {offs : Array Int} (hx : p.tables.exec = Jvm.exec) (hb : c.code = cc) (hd : decode cc pc = .ok (.tableswitch dflt lo hi offs, len)) (hl : lv_has ls c.maxLocals lv) (h : aOp c.maxLocals (.tableswitch dflt lo hi offs) pc lv st = some fr) (k : aK p l e R s m args below meth c Q S H locs fr) : W p l e R s m args below meth c H locs S.2.2.1 S.2.2.2 Q (F0 m pc ls st) := by
  obtain ⟨x, r, rfl, h⟩ := aS1_eq h
  have h : aTab dflt lo hi offs pc lv x r = some fr := h
  unfold aTab at h
  split at h
  · rename_i h1
    obtain ⟨t, ht, rfl⟩ := aJump_eq h
    exact lv_tableOut hx hb hd (Or.inl h1) ht (k ls hl)
  · rename_i h1
    split at h
    · rename_i h2
      obtain ⟨t, ht, rfl⟩ := aJump_eq h
      exact lv_tableOut hx hb hd (Or.inr h2) ht (k ls hl)
    · rename_i h2
      split at h
      · rename_i off ho
        obtain ⟨t, ht, rfl⟩ := aJump_eq h
        exact lv_tableIn hx hb hd h1 h2 ho ht (k ls hl)
      · cases h
theorem ao_all {ins : Instr} (hx : p.tables.exec = Jvm.exec) (hb : c.code = cc) (hd : decode cc pc = .ok (ins, len)) (hn : aLen ins = 0 ∨ len = aLen ins) (hl : lv_has ls c.maxLocals lv) (h : aOp c.maxLocals ins pc lv st = some fr) (k : aK p l e R s m args below meth c Q S H locs fr) : W p l e R s m args below meth c H locs S.2.2.1 S.2.2.2 Q (F0 m pc ls st) := by
  cases ins with
  | aload => 
    rcases hn with hn | rfl
    · exact absurd hn (by simp [aLen])
    · exact ao_aload hx hb hd hl h k
  | aload_n => 
    rcases hn with hn | rfl
    · exact absurd hn (by simp [aLen])
    · exact ao_aload_n hx hb hd hl h k
  | astore => 
    rcases hn with hn | rfl
    · exact absurd hn (by simp [aLen])
    · exact ao_astore hx hb hd hl h k
  | astore_n => 
    rcases hn with hn | rfl
    · exact absurd hn (by simp [aLen])
    · exact ao_astore_n hx hb hd hl h k
  | bipush => 
    rcases hn with hn | rfl
    · exact absurd hn (by simp [aLen])
    · exact ao_bipush hx hb hd hl h k
  | dup => 
    rcases hn with hn | rfl
    · exact absurd hn (by simp [aLen])
    · exact ao_dup hx hb hd hl h k
  | dup2 => 
    rcases hn with hn | rfl
    · exact absurd hn (by simp [aLen])
    · exact ao_dup2 hx hb hd hl h k
  | goto => 
    rcases hn with hn | rfl
    · exact absurd hn (by simp [aLen])
    · exact ao_goto hx hb hd hl h k
  | i2l => 
    rcases hn with hn | rfl
    · exact absurd hn (by simp [aLen])
    · exact ao_i2l hx hb hd hl h k
  | iadd => 
    rcases hn with hn | rfl
    · exact absurd hn (by simp [aLen])
    · exact ao_iadd hx hb hd hl h k
  | iand => 
    rcases hn with hn | rfl
    · exact absurd hn (by simp [aLen])
    · exact ao_iand hx hb hd hl h k
  | iconst => 
    rcases hn with hn | rfl
    · exact absurd hn (by simp [aLen])
    · exact ao_iconst hx hb hd hl h k
  | idiv => 
    rcases hn with hn | rfl
    · exact absurd hn (by simp [aLen])
    · exact ao_idiv hx hb hd hl h k
  | if_acmp cond off =>
    rcases hn with hn | rfl
    · exact absurd hn (by simp [aLen])
    · cases cond with
      | eq => exact ao_acmp_eq hx hb hd hl h k
      | ne => exact ao_acmp_ne hx hb hd hl h k
  | if_icmp cond off =>
    rcases hn with hn | rfl
    · exact absurd hn (by simp [aLen])
    · cases cond with
      | eq => exact ao_icmp_eq hx hb hd hl h k
      | ne => exact ao_icmp_ne hx hb hd hl h k
      | lt => exact ao_icmp_lt hx hb hd hl h k
      | ge => exact ao_icmp_ge hx hb hd hl h k
      | gt => exact ao_icmp_gt hx hb hd hl h k
      | le => exact ao_icmp_le hx hb hd hl h k
  | ifCond cond off =>
    rcases hn with hn | rfl
    · exact absurd hn (by simp [aLen])
    · cases cond with
      | eq => exact ao_if_eq hx hb hd hl h k
      | ne => exact ao_if_ne hx hb hd hl h k
      | lt => exact ao_if_lt hx hb hd hl h k
      | ge => exact ao_if_ge hx hb hd hl h k
      | gt => exact ao_if_gt hx hb hd hl h k
      | le => exact ao_if_le hx hb hd hl h k
  | iinc => 
    rcases hn with hn | rfl
    · exact absurd hn (by simp [aLen])
    · exact ao_iinc hx hb hd hl h k
  | iload => 
    rcases hn with hn | rfl
    · exact absurd hn (by simp [aLen])
    · exact ao_iload hx hb hd hl h k
  | iload_n => 
    rcases hn with hn | rfl
    · exact absurd hn (by simp [aLen])
    · exact ao_iload_n hx hb hd hl h k
  | imul => 
    rcases hn with hn | rfl
    · exact absurd hn (by simp [aLen])
    · exact ao_imul hx hb hd hl h k
  | ineg => 
    rcases hn with hn | rfl
    · exact absurd hn (by simp [aLen])
    · exact ao_ineg hx hb hd hl h k
  | ior => 
    rcases hn with hn | rfl
    · exact absurd hn (by simp [aLen])
    · exact ao_ior hx hb hd hl h k
  | irem => 
    rcases hn with hn | rfl
    · exact absurd hn (by simp [aLen])
    · exact ao_irem hx hb hd hl h k
  | ishl => 
    rcases hn with hn | rfl
    · exact absurd hn (by simp [aLen])
    · exact ao_ishl hx hb hd hl h k
  | ishr => 
    rcases hn with hn | rfl
    · exact absurd hn (by simp [aLen])
    · exact ao_ishr hx hb hd hl h k
  | istore => 
    rcases hn with hn | rfl
    · exact absurd hn (by simp [aLen])
    · exact ao_istore hx hb hd hl h k
  | istore_n => 
    rcases hn with hn | rfl
    · exact absurd hn (by simp [aLen])
    · exact ao_istore_n hx hb hd hl h k
  | isub => 
    rcases hn with hn | rfl
    · exact absurd hn (by simp [aLen])
    · exact ao_isub hx hb hd hl h k
  | iushr => 
    rcases hn with hn | rfl
    · exact absurd hn (by simp [aLen])
    · exact ao_iushr hx hb hd hl h k
  | ixor => 
    rcases hn with hn | rfl
    · exact absurd hn (by simp [aLen])
    · exact ao_ixor hx hb hd hl h k
  | l2i => 
    rcases hn with hn | rfl
    · exact absurd hn (by simp [aLen])
    · exact ao_l2i hx hb hd hl h k
  | ladd => 
    rcases hn with hn | rfl
    · exact absurd hn (by simp [aLen])
    · exact ao_ladd hx hb hd hl h k
  | land => 
    rcases hn with hn | rfl
    · exact absurd hn (by simp [aLen])
    · exact ao_land hx hb hd hl h k
  | lcmp => 
    rcases hn with hn | rfl
    · exact absurd hn (by simp [aLen])
    · exact ao_lcmp hx hb hd hl h k
  | lconst => 
    rcases hn with hn | rfl
    · exact absurd hn (by simp [aLen])
    · exact ao_lconst hx hb hd hl h k
  | lload => 
    rcases hn with hn | rfl
    · exact absurd hn (by simp [aLen])
    · exact ao_lload hx hb hd hl h k
  | lload_n => 
    rcases hn with hn | rfl
    · exact absurd hn (by simp [aLen])
    · exact ao_lload_n hx hb hd hl h k
  | lmul => 
    rcases hn with hn | rfl
    · exact absurd hn (by simp [aLen])
    · exact ao_lmul hx hb hd hl h k
  | lor => 
    rcases hn with hn | rfl
    · exact absurd hn (by simp [aLen])
    · exact ao_lor hx hb hd hl h k
  | lrem => 
    rcases hn with hn | rfl
    · exact absurd hn (by simp [aLen])
    · exact ao_lrem hx hb hd hl h k
  | lshl => 
    rcases hn with hn | rfl
    · exact absurd hn (by simp [aLen])
    · exact ao_lshl hx hb hd hl h k
  | lshr => 
    rcases hn with hn | rfl
    · exact absurd hn (by simp [aLen])
    · exact ao_lshr hx hb hd hl h k
  | lstore => 
    rcases hn with hn | rfl
    · exact absurd hn (by simp [aLen])
    · exact ao_lstore hx hb hd hl h k
  | lstore_n => 
    rcases hn with hn | rfl
    · exact absurd hn (by simp [aLen])
    · exact ao_lstore_n hx hb hd hl h k
  | lsub => 
    rcases hn with hn | rfl
    · exact absurd hn (by simp [aLen])
    · exact ao_lsub hx hb hd hl h k
  | pop => 
    rcases hn with hn | rfl
    · exact absurd hn (by simp [aLen])
    · exact ao_pop hx hb hd hl h k
  | sipush => 
    rcases hn with hn | rfl
    · exact absurd hn (by simp [aLen])
    · exact ao_sipush hx hb hd hl h k
  | tableswitch => exact ao_tsw hx hb hd hl h k
  | _ => exact absurd h (by simp [aOp])
end AOPS
