/-! a helper of the law: one call of the class, its exceptions caught -/
/-- the th-th exception is caught, and th comes back -/
def hCa (yh : AMeth) (hh : List (Nat × Nat × Nat × Nat)) (es : List Nat) (pcI : Nat) (lv : ALv) (th : Nat) : Prop := ∃ (pre : List ExceptionTableEntry) (x : ExceptionTableEntry) (suf : List ExceptionTableEntry) (pcR : Nat) (lvR : Nat → ALv), tableOf hh = pre ++ x :: suf ∧ (∀ z ∈ pre, z.catchType ≠ 0 ∧ ∃ i, i < 4 ∧ ¬ es.getD (th - 1) 0 = i ∧ Cond.classLink RL z.catchType (aEC i) ∈ aTB) ∧ covers x pcI = true ∧ x.catchType ≠ 0 ∧ Cond.classLink RL x.catchType (aEC (es.getD (th - 1) 0)) ∈ aTB ∧ es.getD (th - 1) 0 < 4 ∧ (∀ q, aOpsN yh 2 (x.handlerPc, (lv, [.ref q])) = some (pcR, (lvR q, [.int (Int32.ofNat th)]))) ∧ aFind (aPs yh) pcR = some (.ireturn, 1)
section HELP
variable {l : Launch} {kad : Nat → Nat} {d g o kp pcI pcE n idx th : Nat} {yh z : AMeth} {hh : List (Nat × Nat × Nat × Nat)} {argv As : List Value} {lv lvE : ALv} {es : List Nat} {Z : AZ} {I I' : AI} {t t' : Option Nat × (Nat × Nat)} {z0 z1 : Option Nat} {w : Int64} {v : Int32} {mc ms : Nat}
theorem NG_E {k : Nat} (h : k < 4) : Cond.castable (aEC k) (aEC k) ∈ aNG := by
  match k, h with
  | 0, _ => simp [aNG, aEC]
  | 1, _ => simp [aNG, aEC]
  | 2, _ => simp [aNG, aEC]
  | 3, _ => simp [aNG, aEC]
theorem aw_ret {p : Program} {e : Env} {R : Room} {s : State} {m : MethodId} {args : Array Value} {below : List Frame} {meth : Method} {c : Code} {D : AG} {S0 S : ASt} {own : String} {pc : Nat} {x : Int32} (hT : okT yh) (X0 : aCx p s m args c D (aA S0.1 s.heap.size) own yh.2.1) (hlocks : meth.locks = false) (hrt : meth.sig.returnType = some .int) (hq : aFind (aPs yh) pc = some (.ireturn, 1)) :
    aW p l e R s m args below meth c D (aA S0.1 s.heap.size) (vx_MQ below (aQc D S0 S s.heap.size (.inl (some (.int x)))) (aXC D S0 S s.heap.size (.inl (some (.int x)))) args s S.2.2.1 S.2.2.2 (aA S0.1 s.heap.size)) (pc, (lv, [.int x])) S := by
  intro H locs ls hR hl
  obtain ⟨hx, hb, hown, hts, hKn, hKF, hA⟩ := X0
  exact vx_ret (W.zret hx hb hrt rfl (fun t ht hW => ⟨⟨_, rfl, rfl⟩, ⟨by rw [ht]; exact hR.1, by rw [ht]; exact hR.2.2.2, hR.2.1⟩, hR.2.2.1.F ht⟩) hR.2.2.1.2.2 (hT.at hq).1 hlocks)
theorem help_0 (hT : okT yh) (hpl : plainName yh.1.cls = true) (hcls : yh.1.cls = RL) (hrt : aRt yh = some .int) (hnl : (lg_sl argv).length ≤ aNl yh) (hgz : aMGood z) (hoc : aOc z = 10) (hlk : Cond.methodLink RL idx z.1 ∈ aTB) (hin : Cond.instanceMethod z.1 ∈ aTB) (hse : Cond.selects z.1.cls z.1 z.1 ∈ aTB) (hpar : (parseMethodDescriptor z.1.desc).map (fun d => d.parameters.length) = some n) (hAs : As.length = n)
    (hg : Z.1 g = some (10, 13)) (ho : Z.1 o = none) (h1 : aOpsN yh kp (0, (lv_args 0 argv, [])) = some (pcI, (lv, As.reverse ++ [.ref g, .int 0, .ref o]))) (h2 : aFind (aPs yh) pcI = some (.invokevirtual idx, 3)) (h3 : ∀ v : Int32, aOpsN yh 1 (pcI + 3, (lv, [.int v, .int 0, .ref o])) = some (pcI + 4, (lv, [.long v.toInt64, .int 0, .ref o]))) (h4 : aFind (aPs yh) (pcI + 4) = some (.lastore, 1))
    (h5 : aOpsN yh 2 (pcI + 5, (lv, [])) = some (pcE, (lvE, [.int 0]))) (h6 : aFind (aPs yh) pcE = some (.ireturn, 1)) (hca : ∀ th, 1 ≤ th → th ≤ es.length → hCa yh hh es pcI lv th) (hth : th ≤ es.length)
    (hM : aMet l kad d z.1 z.2.1 (aNl z) (aRt z) (.ref g :: As) (aMem Z I, (z0, (0, 0))) (if th = 0 then .inl (some (.int v)) else .inr (aEC (es.getD (th - 1) 0))) (aMem Z I', (z1, (mc, ms)))) :
    hMet l kad (d + 1) yh.1 yh.2.1 (aNl yh) (aRt yh) hh argv (wo (aMem Z I) o w, (z0, (0, 0))) (.inl (some (.int (Int32.ofNat th)))) (wo (aMem Z I') o (if th = 0 then v.toInt64 else w), (z1, (mc, ms))) := by
  intro D sz hkad
  subst hkad
  refine vx_ofWH (hh := hh) (cc := yh.2.1) hpl rfl fun p e s m args below meth c s₁ B hml hP => ?_
  obtain ⟨⟨rfl, hsz, ⟨hH, hz⟩, hKn, hKF⟩, hNC⟩ := hP
  subst hsz
  have hts := atoms_spec (ws := Cond.codeWith yh.1 yh.2.1 (aNl yh) (aRt yh) hh :: aTB) B.pre
  have htab := vx_table (x := yh.1) B (hts _ List.mem_cons_self)
  have hown : s.vm.findClass RL = some m.cls := by rw [← hcls]; exact findClass_of_methodNamed B.named
  generalize hS0 : ((wo (aMem Z I) o w, (z0, (0, 0))) : ASt) = S0 at *
  generalize hS1 : ((wo (aMem Z I') o (if th = 0 then v.toInt64 else w), (z1, (mc, ms))) : ASt) = S1 at *
  have X0 : aCx p s m argv.toArray c D (aA S0.1 s.heap.size) RL yh.2.1 := ⟨B.exec, B.bytes, hown, fun w hw => hts w (List.mem_cons_of_mem _ hw), hKn, hKF, fun q hq => Or.inr hq⟩
  have hret : meth.sig.returnType = some .int := B.returns.trans hrt
  have hA := X0.2.2.2.2.2.2
  obtain ⟨-, q2, q3, q4, q5, q6, -⟩ := id hgz
  have hcz : RX12 = z.1.cls := by
    rw [show z.2.2.2.2.1 = 10 from hoc] at q6
    exact Option.some.inj q6
  have hgo : ¬ g = o := fun hh => by rw [hh, ho] at hg; cases hg
  have hmo : aMem Z I o = none := by simp only [aMem, ho]
  have hMf := hM.fr (w := w) hmo
  have hfin : aW p l e (headSpec (Cond.codeWith yh.1 yh.2.1 (aNl yh) (aRt yh) hh :: aTB) (aRm (d + 1) (S1.2.2.1 - S0.2.2.1) (S1.2.2.2 - S0.2.2.2))).room s m argv.toArray below meth c D (aA S0.1 s.heap.size) (vx_MQ below (aQc D S0 S1 s.heap.size (.inl (some (.int (Int32.ofNat th))))) (aXC D S0 S1 s.heap.size (.inl (some (.int (Int32.ofNat th))))) argv.toArray s S1.2.2.1 S1.2.2.2 (aA S0.1 s.heap.size)) (0, (lv_args 0 argv, [])) S0 := by
    refine aw_ops hT X0 hml kp _ h1 ?_
    subst hS0
    refine aw_call (S1 := (wo (aMem Z I') o w, (z1, (mc, ms)))) (r := if th = 0 then .inl (some (.int v)) else .inr (aEC (es.getD (th - 1) 0))) (rest := [.int 0, .ref o]) hA ⟨Nat.zero_le _, Nat.zero_le _⟩ (fun H locs ls hR hl => x_runV (d := d) (f := aEnt Z I g (10, 13)) X0 hR hl.1 hMf ⟨q2, q3, q4, q5, hpar⟩ hlk hin hse ((wo_ne hgo).trans (aMem_eq hg)) (show vwCl[10]? = some (RX12, TX12, 13) from rfl) hcz (by show 10 < 100; decide) hAs (Nat.le_of_ble_eq_true rfl) (hT.at h2).1 ⟨Nat.le_refl _, Nat.le_refl _⟩ ?_) (fun v' hv => ?_) (fun E q ce H1 locs1 ls hE hR hl hcell hv hcl => ?_)
    · subst hS1
      show 0 + (mc - 0) ≤ mc - 0 ∧ 0 + (ms - 0) ≤ ms - 0
      omega
    · by_cases h0 : th = 0
      · rw [if_pos h0] at hv
        cases hv
        subst h0
        show aW p l e _ s m argv.toArray below meth c D _ _ (pcI + 3, (lv, [.int v, .int 0, .ref o])) _
        refine aw_ops hT X0 hml 1 _ (h3 v) (aw_last hT X0 h4 (aw_ops hT X0 hml 2 _ h5 ?_))
        subst hS1
        exact aw_ret hT X0 B.notSynchronized hret h6
      · rw [if_neg h0] at hv
        cases hv
    · by_cases h0 : th = 0
      · rw [if_pos h0] at hE
        cases hE
      · rw [if_neg h0] at hE
        cases hE
        obtain ⟨pre, x, suf, pcR, lvR, c1, c2, c3, c4, c5, c6, c7, c8⟩ := hca th (by omega) hth
        refine vx_catch (own := RL) (name := aEC (es.getD (th - 1) 0)) hown pre x suf (htab.trans c1) (fun z hz => Or.inr ?_) c3 c4 (X0.2.2.2.1 _ c5) (va_Nw.use rfl (hKF.2.1.2.1 _ (NG_E c6))) hcell hv hcl ?_
        · obtain ⟨k1, i, k2, k3, k4⟩ := c2 z hz
          exact ⟨k1, _, X0.2.2.2.1 _ k4, hNC _ i c6 k2 k3⟩
        · have hW : aW p l e (headSpec (Cond.codeWith yh.1 yh.2.1 (aNl yh) (aRt yh) hh :: aTB) (aRm (d + 1) (S1.2.2.1 - 0) (S1.2.2.2 - 0))).room s m argv.toArray below meth c D (aA (wo (aMem Z I) o w) s.heap.size) (vx_MQ below (aQc D (wo (aMem Z I) o w, (z0, (0, 0))) S1 s.heap.size (.inl (some (.int (Int32.ofNat th))))) (aXC D (wo (aMem Z I) o w, (z0, (0, 0))) S1 s.heap.size (.inl (some (.int (Int32.ofNat th))))) argv.toArray s S1.2.2.1 S1.2.2.2 (aA (wo (aMem Z I) o w) s.heap.size)) (x.handlerPc, (lv, [.ref q])) S1 := aw_ops hT X0 hml 2 _ (c7 q) (aw_ret (S0 := (wo (aMem Z I) o w, (z0, (0, 0)))) hT X0 B.notSynchronized hret c8)
          subst hS1
          rw [if_neg h0] at hW ⊢
          exact hW H1 locs1 ls hR hl
  have hl := lv_entry argv (n := aNl yh) hnl
  have hW := hfin s.heap [] ((lg_sl argv ++ List.replicate (aNl yh - (lg_sl argv).length) Slot.unset).toArray) ⟨hH, fun a f hf => Or.inl ⟨f, hf⟩, va_S.rf, hz⟩ (by rw [hml]; exact hl)
  rw [lg_entry_eq]
  subst hS0
  subst hS1
  exact hW
end HELP
