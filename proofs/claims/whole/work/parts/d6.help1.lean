section HELP1
variable {l : Launch} {kad : Nat → Nat} {d g o kp pcI pcE n nz idx th : Nat} {yh z : AMeth} {hh : List (Nat × Nat × Nat × Nat)} {argv As : List Value} {lv lvE : ALv} {es : List Nat} {Z : AZ} {I I' : AI} {z0 z1 : Option Nat} {w : Int64} {v : Int32} {c1 n1' : Nat} {M M' : AMem} {y : MethodName} {cb : ByteArray} {nl : Nat} {rt : Option FieldType} {r : ARes} {mc ms : Nat}
/-- heap and counts behind a call that threw, or not -/
def tH (th : Nat) (z0 : Option Nat) (c n : Nat) : Option Nat × (Nat × Nat) := ((if th = 0 then z0 else none), (c + (if th = 0 then 0 else 1), n + (if th = 0 then 0 else 6)))
theorem hMet.shift (h : hMet l kad d y cb nl rt hh argv (M, (z0, (0, 0))) r (M', (z1, (mc, ms)))) : hMet l kad d y cb nl rt hh argv (M, (z0, (c1, n1'))) r (M', (z1, (c1 + mc, n1' + ms))) := by
  intro D sz hk
  have h := h D sz hk
  have e1 : c1 + mc - c1 = mc := by omega
  have e2 : n1' + ms - n1' = ms := by omega
  show vx_Met l y _ (aRm d (c1 + mc - c1) (n1' + ms - n1')) _ _ _ (c1 + mc - c1) (n1' + ms - n1') _
  rw [e1, e2]
  exact h
theorem aMet.shift (h : aMet l kad d y cb nl rt argv (M, (z0, (0, 0))) r (M', (z1, (mc, ms)))) : aMet l kad d y cb nl rt argv (M, (z0, (c1, n1'))) r (M', (z1, (c1 + mc, n1' + ms))) := by
  intro D sz hk
  have h := h D sz hk
  have e1 : c1 + mc - c1 = mc := by omega
  have e2 : n1' + ms - n1' = ms := by omega
  show vx_Met l y _ (aRm d (c1 + mc - c1) (n1' + ms - n1')) _ _ _ (c1 + mc - c1) (n1' + ms - n1') _
  rw [e1, e2]
  exact h
theorem help_1 (hl0 : l.stackTraces = false) (hT : okT yh) (hpl : plainName yh.1.cls = true) (hcls : yh.1.cls = RL) (hrt : aRt yh = some .int) (hnl : (lg_sl argv).length ≤ aNl yh) (hz : aMS[nz]? = some z) (hsl : (lg_sl (.ref g :: As)).length ≤ aNl z) (hoc : aOc z = 10) (hlk : ∀ x ∈ [Cond.methodLink RL idx z.1, Cond.instanceMethod z.1, Cond.selects z.1.cls z.1 z.1], x ∈ aTB) (hpar : (parseMethodDescriptor z.1.desc).map (fun d => d.parameters.length) = some n) (hAs : As.length = n)
    (hg : Z.1 g = some (10, 13)) (ho : Z.1 o = none) (h1 : aOpsN yh kp (0, (lv_args 0 argv, [])) = some (pcI, (lv, As.reverse ++ [.ref g, .int 0, .ref o]))) (h2 : aFind (aPs yh) pcI = some (.invokevirtual idx, 3)) (h3 : ∀ v : Int32, aOpsN yh 1 (pcI + 3, (lv, [.int v, .int 0, .ref o])) = some (pcI + 4, (lv, [.long v.toInt64, .int 0, .ref o]))) (h4 : aFind (aPs yh) (pcI + 4) = some (.lastore, 1))
    (h5 : aOpsN yh 2 (pcI + 5, (lv, [])) = some (pcE, (lvE, [.int 0]))) (h6 : aFind (aPs yh) pcE = some (.ireturn, 1)) (hca : ∀ th, 1 ≤ th → th ≤ es.length → hCa yh hh es pcI lv th) (hth : th ≤ es.length)
    (hgo : aGo kad d nz (0, (lv_args 0 (.ref g :: As), [])) (aMem Z I, (z0, (0, 0))) (qX tvI Z (z0, (0, 0)) (rx es th v, I'))) :
    hMet l kad (d + 1) yh.1 yh.2.1 (aNl yh) (aRt yh) hh argv (wo (aMem Z I) o w, (z0, (c1, n1'))) (.inl (some (.int (Int32.ofNat th)))) (wo (aMem Z I') o (if th = 0 then v.toInt64 else w), tH th z0 c1 n1') := by
  obtain ⟨r, S1, q1, -, q3⟩ := met_go hl0 hz hsl hgo
  refine hMet.shift (help_0 (es := es) hT hpl hcls hrt hnl (aMSg z (List.mem_of_getElem? hz)) hoc (hlk _ (by simp)) (hlk _ (by simp)) (hlk _ (by simp)) hpar hAs hg ho h1 h2 h3 h4 h5 h6 hca hth ?_)
  by_cases h0 : th = 0
  · subst h0
    obtain ⟨rfl, rfl⟩ : r = .inl (tvI v) ∧ S1 = (aMem Z I', (z0, (0, 0))) := q1
    exact q3
  · have hq : r = .inr (aEC (es.getD (th - 1) 0)) ∧ S1 = (aMem Z I', (none, (0 + 1, 0 + 6))) := by
      unfold rx at q1
      rw [if_neg h0] at q1
      exact q1
    obtain ⟨rfl, rfl⟩ := hq
    rw [if_neg h0, if_neg h0, if_neg h0, if_neg h0]
    exact q3
end HELP1
