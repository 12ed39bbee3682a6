-- PART: members of the JDK that are taken as one step.
theorem jd_fm0 : decode prog_16_method_50_code 0 = .ok (.iload_n 0, 1) := by decide +kernel
theorem jd_fm1 : decode prog_16_method_50_code 1 = .ok (.iload_n 1, 1) := by decide +kernel
theorem jd_fm2 : decode prog_16_method_50_code 2 = .ok (.irem, 1) := by decide +kernel
theorem jd_fm3 : decode prog_16_method_50_code 3 = .ok (.istore_n 2, 1) := by decide +kernel
theorem jd_fm4 : decode prog_16_method_50_code 4 = .ok (.iload_n 0, 1) := by decide +kernel
theorem jd_fm5 : decode prog_16_method_50_code 5 = .ok (.iload_n 1, 1) := by decide +kernel
theorem jd_fm6 : decode prog_16_method_50_code 6 = .ok (.ixor, 1) := by decide +kernel
theorem jd_fm7 : decode prog_16_method_50_code 7 = .ok (.ifCond .ge 11, 3) := by decide +kernel
theorem jd_fm10 : decode prog_16_method_50_code 10 = .ok (.iload_n 2, 1) := by decide +kernel
theorem jd_fm11 : decode prog_16_method_50_code 11 = .ok (.ifCond .eq 7, 3) := by decide +kernel
theorem jd_fm14 : decode prog_16_method_50_code 14 = .ok (.iload_n 2, 1) := by decide +kernel
theorem jd_fm15 : decode prog_16_method_50_code 15 = .ok (.iload_n 1, 1) := by decide +kernel
theorem jd_fm16 : decode prog_16_method_50_code 16 = .ok (.iadd, 1) := by decide +kernel
theorem jd_fm17 : decode prog_16_method_50_code 17 = .ok (.ireturn, 1) := by decide +kernel
theorem jd_fm18 : decode prog_16_method_50_code 18 = .ok (.iload_n 2, 1) := by decide +kernel
theorem jd_fm19 : decode prog_16_method_50_code 19 = .ok (.ireturn, 1) := by decide +kernel
theorem jd_co0 : decode prog_17_method_152_code 0 = .ok (.getstatic 38, 3) := by decide +kernel
theorem jd_co3 : decode prog_17_method_152_code 3 = .ok (.ifCond .eq 10, 3) := by decide +kernel
theorem jd_co6 : decode prog_17_method_152_code 6 = .ok (.aload_n 0, 1) := by decide +kernel
theorem jd_co7 : decode prog_17_method_152_code 7 = .ok (.getfield 15, 3) := by decide +kernel
theorem jd_co10 : decode prog_17_method_152_code 10 = .ok (.goto 4, 3) := by decide +kernel
theorem jd_co13 : decode prog_17_method_152_code 13 = .ok (.iconst 1, 1) := by decide +kernel
theorem jd_co14 : decode prog_17_method_152_code 14 = .ok (.ireturn, 1) := by decide +kernel
theorem jd_le0 : decode prog_17_method_54_code 0 = .ok (.aload_n 0, 1) := by decide +kernel
theorem jd_le1 : decode prog_17_method_54_code 1 = .ok (.getfield 9, 3) := by decide +kernel
theorem jd_le4 : decode prog_17_method_54_code 4 = .ok (.arraylength, 1) := by decide +kernel
theorem jd_le5 : decode prog_17_method_54_code 5 = .ok (.aload_n 0, 1) := by decide +kernel
theorem jd_le6 : decode prog_17_method_54_code 6 = .ok (.invokevirtual 335, 3) := by decide +kernel
theorem jd_le9 : decode prog_17_method_54_code 9 = .ok (.ishr, 1) := by decide +kernel
theorem jd_le10 : decode prog_17_method_54_code 10 = .ok (.ireturn, 1) := by decide +kernel
theorem jd_la0 : decode prog_17_method_154_code 0 = .ok (.getstatic 38, 3) := by decide +kernel
theorem jd_la3 : decode prog_17_method_154_code 3 = .ok (.ifCond .eq 14, 3) := by decide +kernel
theorem jd_la6 : decode prog_17_method_154_code 6 = .ok (.aload_n 0, 1) := by decide +kernel
theorem jd_la7 : decode prog_17_method_154_code 7 = .ok (.getfield 15, 3) := by decide +kernel
theorem jd_la10 : decode prog_17_method_154_code 10 = .ok (.ifCond .ne 7, 3) := by decide +kernel
theorem jd_la13 : decode prog_17_method_154_code 13 = .ok (.iconst 1, 1) := by decide +kernel
theorem jd_la14 : decode prog_17_method_154_code 14 = .ok (.goto 4, 3) := by decide +kernel
theorem jd_la17 : decode prog_17_method_154_code 17 = .ok (.iconst 0, 1) := by decide +kernel
theorem jd_la18 : decode prog_17_method_154_code 18 = .ok (.ireturn, 1) := by decide +kernel
theorem jd_pi0 : decode prog_22_method_11_code 0 = .ok (.iload_n 0, 1) := by decide +kernel
theorem jd_pi1 : decode prog_22_method_11_code 1 = .ok (.ifCond .lt 8, 3) := by decide +kernel
theorem jd_pi4 : decode prog_22_method_11_code 4 = .ok (.iload_n 0, 1) := by decide +kernel
theorem jd_pi5 : decode prog_22_method_11_code 5 = .ok (.iload_n 1, 1) := by decide +kernel
theorem jd_pi6 : decode prog_22_method_11_code 6 = .ok (.if_icmp .lt 10, 3) := by decide +kernel
theorem jd_pi9 : decode prog_22_method_11_code 9 = .ok (.aload_n 2, 1) := by decide +kernel
theorem jd_pi10 : decode prog_22_method_11_code 10 = .ok (.iload_n 0, 1) := by decide +kernel
theorem jd_pi11 : decode prog_22_method_11_code 11 = .ok (.iload_n 1, 1) := by decide +kernel
theorem jd_pi12 : decode prog_22_method_11_code 12 = .ok (.invokestatic 95, 3) := by decide +kernel
theorem jd_pi15 : decode prog_22_method_11_code 15 = .ok (.athrow, 1) := by decide +kernel
theorem jd_pi16 : decode prog_22_method_11_code 16 = .ok (.iload_n 0, 1) := by decide +kernel
theorem jd_pi17 : decode prog_22_method_11_code 17 = .ok (.ireturn, 1) := by decide +kernel
theorem jd_ci0 : decode prog_17_method_155_code 0 = .ok (.iload_n 0, 1) := by decide +kernel
theorem jd_ci1 : decode prog_17_method_155_code 1 = .ok (.iload_n 1, 1) := by decide +kernel
theorem jd_ci2 : decode prog_17_method_155_code 2 = .ok (.getstatic 1053, 3) := by decide +kernel
theorem jd_ci5 : decode prog_17_method_155_code 5 = .ok (.invokestatic 1059, 3) := by decide +kernel
theorem jd_ci8 : decode prog_17_method_155_code 8 = .ok (.pop, 1) := by decide +kernel
theorem jd_ci9 : decode prog_17_method_155_code 9 = .ok (.return_, 1) := by decide +kernel
theorem jd_lc0 : decode prog_18_method_2_code 0 = .ok (.iload_n 1, 1) := by decide +kernel
theorem jd_lc1 : decode prog_18_method_2_code 1 = .ok (.aload_n 0, 1) := by decide +kernel
theorem jd_lc2 : decode prog_18_method_2_code 2 = .ok (.arraylength, 1) := by decide +kernel
theorem jd_lc3 : decode prog_18_method_2_code 3 = .ok (.invokestatic 9, 3) := by decide +kernel
theorem jd_lc6 : decode prog_18_method_2_code 6 = .ok (.aload_n 0, 1) := by decide +kernel
theorem jd_lc7 : decode prog_18_method_2_code 7 = .ok (.iload_n 1, 1) := by decide +kernel
theorem jd_lc8 : decode prog_18_method_2_code 8 = .ok (.baload, 1) := by decide +kernel
theorem jd_lc9 : decode prog_18_method_2_code 9 = .ok (.sipush 255, 3) := by decide +kernel
theorem jd_lc12 : decode prog_18_method_2_code 12 = .ok (.iand, 1) := by decide +kernel
theorem jd_lc13 : decode prog_18_method_2_code 13 = .ok (.i2c, 1) := by decide +kernel
theorem jd_lc14 : decode prog_18_method_2_code 14 = .ok (.ireturn, 1) := by decide +kernel
theorem jd_ca0 : decode prog_17_method_56_code 0 = .ok (.aload_n 0, 1) := by decide +kernel
theorem jd_ca1 : decode prog_17_method_56_code 1 = .ok (.invokevirtual 492, 3) := by decide +kernel
theorem jd_ca4 : decode prog_17_method_56_code 4 = .ok (.ifCond .eq 12, 3) := by decide +kernel
theorem jd_ca7 : decode prog_17_method_56_code 7 = .ok (.aload_n 0, 1) := by decide +kernel
theorem jd_ca8 : decode prog_17_method_56_code 8 = .ok (.getfield 9, 3) := by decide +kernel
theorem jd_ca11 : decode prog_17_method_56_code 11 = .ok (.iload_n 1, 1) := by decide +kernel
theorem jd_ca12 : decode prog_17_method_56_code 12 = .ok (.invokestatic 495, 3) := by decide +kernel
theorem jd_ca15 : decode prog_17_method_56_code 15 = .ok (.ireturn, 1) := by decide +kernel
theorem jd_ca16 : decode prog_17_method_56_code 16 = .ok (.aload_n 0, 1) := by decide +kernel
theorem jd_ca17 : decode prog_17_method_56_code 17 = .ok (.getfield 9, 3) := by decide +kernel
theorem jd_ca20 : decode prog_17_method_56_code 20 = .ok (.iload_n 1, 1) := by decide +kernel
theorem jd_ca21 : decode prog_17_method_56_code 21 = .ok (.invokestatic 498, 3) := by decide +kernel
theorem jd_ca24 : decode prog_17_method_56_code 24 = .ok (.ireturn, 1) := by decide +kernel
def wsY (y : MethodName) (cc : ByteArray) (n : Nat) (r : Option FieldType) : List Cond := .code y cc n r :: TB
theorem wsY_good {y : MethodName} {cc : ByteArray} {n : Nat} {r : Option FieldType} (h : Cond.code y cc n r ∈ TB) : GoodIn TB (wsY y cc n r) := by
  intro q hq
  rcases List.mem_cons.mp hq with rfl | hq
  · exact ⟨h, Or.inl rfl⟩
  · exact TB_good q hq
def Pj (w : Wd) (wV : Nat → Nat) (as : List Value) : Array Value → State → Prop := fun a U => a = as.toArray ∧ Xt w wV U
def Qj (v : Option Value) : Array Value → State → Outcome → State → Prop := fun _ st o t => o = .returned v ∧ t.heap = st.heap
theorem Pj_blind {w : Wd} {wV : Nat → Nat} {as : List Value} : FrameBlind (Pj w wV as) := by
  intro a U g mk ⟨h1, h2⟩
  exact ⟨h1, Xt.warm (s := U) (U := U.calling g mk a) (State.WarmedH.refl U) (fun _ _ _ => rfl) h2⟩
def Jf (w : Wd) (wV : Nat → Nat) (p : Program) (m : MethodId) (c : Code) (cc : ByteArray) (n : Nat) (cls : String) (s : State) (args : Array Value) : Prop := p.tables.exec = Jvm.exec ∧ c.code = cc ∧ c.maxLocals = n ∧ s.vm.findClass cls = some m.cls ∧ (∀ q ∈ TB, q.before args s = true) ∧ Xt w wV s
theorem met_j (l : Launch) {w : Wd} {wV : Nat → Nat} {y : MethodName} {cc : ByteArray} {n : Nat} {r : Option FieldType} {rm : Room} {as : List Value} {v : Option Value} (hy : plainFor y = true) (hlen : (lg_sl as).length ≤ n)
    (body : ∀ (p : Program) (e : Env) (s : State) (m : MethodId) (below : List Frame) (meth : Method) (c : Code) (ls : Array Slot), Jf w wV p m c cc n y.cls s as.toArray → meth.sig.returnType = r → meth.locks = false → lv_has ls n (lv_args 0 as) → W p l e rm s m as.toArray below meth c s.heap [] 0 0 (MQ below (Qj v) as.toArray s 0 0 (fun _ => False)) (F0 m 0 ls [])) : Met l y (wsY y cc n r) rm (Pj w wV as) (Qj v) 0 0 (fun _ => False) := by
  refine va_MetF (cc := cc) (maxL := n) (ret := r) hy rfl ?_
  intro p e s m args below meth c s1 B hml hv
  obtain ⟨rfl, hXt⟩ := hv
  have hts0 := atoms_spec (ws := wsY y cc n r) B.pre
  rw [lg_entry_eq]
  exact body p e s m below meth c _ ⟨B.exec, B.bytes, hml, findClass_of_methodNamed B.named, fun q hq => hts0 q (List.mem_cons_of_mem _ hq), hXt⟩ B.returns B.notSynchronized (lv_entry as hlen)
theorem j_end {s t : State} {v : Option Value} {A : Array Value} (h : t.heap = s.heap) : Qj v A s (.returned v) t := ⟨rfl, h⟩
section JdkCall
variable {p : Program} {l : Launch} {e : Env} {R : Room} {s : State} {m : MethodId} {args : Array Value} {below : List Frame} {meth : Method} {c : Code} {H : Heap} {locs : List Loc} {cells slots : Nat} {Q : State → Prop}
variable {cc : ByteArray} {pc : Nat} {ls : Array Slot} {rest : List Value} {w : Wd} {wV : Nat → Nat}
theorem j_after {v : Option Value} {st0 : List Value} {aa : Array Value} (hr : va_Run p l e R s m args below meth c H locs cells slots 0 0 (F0 m pc ls st0) rest (Qj v aa) (fun _ => False)) (kk : W p l e R s m args below meth c H locs cells slots Q (F0 m (pc + 3) ls (v.toList ++ rest))) : W p l e R s m args below meth c H locs cells slots Q (F0 m pc ls st0) := by
  intro T hT X
  obtain ⟨v', st0', t, T', L, h0, X', hL, e1, e2, ⟨hv, hh⟩, st⟩ := hr T hT X
  cases hv
  have hLn : L = [] := List.eq_nil_iff_forall_not_mem.mpr fun q hq => hL q hq
  subst hLn
  rw [List.append_nil] at X'
  obtain ⟨t2, a1, b1⟩ := kk T' (by rw [e1, hh, h0]) X'
  exact ⟨t2, st t2 a1, b1⟩
/-- a static member -/
theorem j_stat {n : Nat} {cls : String} (hx : p.tables.exec = Jvm.exec) (hb : c.code = cc) (hml : c.maxLocals = ls.size) (hown : s.vm.findClass cls = some m.cls) (hts : ∀ q ∈ TB, q.before args s = true) (hXt : Xt w wV s) (hH : ∀ q : Nat, q < s.heap.size → ¬ wAd w q → H[q]? = s.heap[q]?)
    {y : MethodName} {yc : ByteArray} {yn : Nat} {r : Option FieldType} {rm : Room} {as : List Value} {v : Option Value} {index : Nat} (hM : Met l y (wsY y yc yn r) rm (Pj w wV as) (Qj v) 0 0 (fun _ => False)) (hrm : rm.cells = 0 ∧ rm.slots = 0) (hcode : Cond.code y yc yn r ∈ TB) (hini : Cond.initialized y.cls ∈ TB) (hlink : Cond.methodLink cls index y ∈ TB) (hst : Cond.static y ∈ TB) (hd : y.cls ≠ "java/lang/invoke/MethodHandle" ∧ y.cls ≠ "java/lang/invoke/VarHandle" ∧ (parseMethodDescriptor y.desc).map (fun d => d.parameters.length) = some as.length) (hR : rm.frames + 1 ≤ R.frames ∧ 8 + (yn + 11) + rm.locals ≤ R.locals) (hsc : (rest.map fun v => v.category).sum ≤ 8) (hdg : decode cc pc = .ok (.invokestatic index, 3)) (hf : cells ≤ R.cells ∧ slots ≤ R.slots)
    (kk : W p l e R s m args below meth c H locs cells slots Q (F0 m (pc + 3) ls (v.toList ++ rest))) : W p l e R s m args below meth c H locs cells slots Q (F0 m pc ls (as.reverse ++ rest)) := by
  have cw : CallB R s args cls index y yc yn r (wsY y yc yn r) rm 0 0 as.length ∧ (Cond.static y).before args s = true := ⟨callB_of as.length hts (wsY_good hcode) rfl hrm.1 hrm.2 (hts _ hini) (hts _ hlink) hd hR, hts _ hst⟩
  have hrun := va_runS (g := F0 m pc ls (as.reverse ++ rest)) (As := as) (rest := rest) (H := H) (locs := locs) (cells := cells) (slots := slots) (below := below) (meth := meth) (e := e) (R := R) (⟨hx, hb, hml, hown, hts⟩ : CallFix p m c cc ls.size s args TB cls) hM cw
    ⟨Pj_blind, fun U hU hW => ⟨rfl, Xt.warm hW (fun q q1 q2 => by rw [hU]; exact hH q q1 q2) hXt⟩⟩ rfl rfl rfl rfl (lv_room hsc) hdg ⟨hf.1, hf.2⟩
  exact j_after hrun kk
/-- an instance member of a text -/
theorem j_virt {cls : String} (hx : p.tables.exec = Jvm.exec) (hb : c.code = cc) (hml : c.maxLocals = ls.size) (hown : s.vm.findClass cls = some m.cls) (hts : ∀ q ∈ TB, q.before args s = true) (hXt : Xt w wV s) (hS : va_S (wAd w) s.heap H locs)
    {y : MethodName} {yc : ByteArray} {yn : Nat} {r : Option FieldType} {rm : Room} {as : List Value} {v : Option Value} {index i : Nat} (hi : i < kx_byt.length) (hM : Met l y (wsY y yc yn r) rm (Pj w wV (.ref (wS w i) :: as)) (Qj v) 0 0 (fun _ => False)) (hrm : rm.cells = 0 ∧ rm.slots = 0) (hcode : Cond.code y yc yn r ∈ TB) (hini : Cond.initialized y.cls ∈ TB) (hlink : Cond.methodLink cls index y ∈ TB) (hst : Cond.instanceMethod y ∈ TB) (hse : Cond.selects "java/lang/String" y y ∈ TB) (hd : y.cls ≠ "java/lang/invoke/MethodHandle" ∧ y.cls ≠ "java/lang/invoke/VarHandle" ∧ (parseMethodDescriptor y.desc).map (fun d => d.parameters.length) = some as.length) (hR : rm.frames + 1 ≤ R.frames ∧ 8 + (yn + 11) + rm.locals ≤ R.locals) (hsc : (rest.map fun v => v.category).sum ≤ 8) (hdg : decode cc pc = .ok (.invokevirtual index, 3)) (hf : cells ≤ R.cells ∧ slots ≤ R.slots)
    (kk : W p l e R s m args below meth c H locs cells slots Q (F0 m (pc + 3) ls (v.toList ++ rest))) : W p l e R s m args below meth c H locs cells slots Q (F0 m pc ls (as.reverse ++ .ref (wS w i) :: rest)) := by
  have cw : CallW R s args cls "java/lang/String" index y yc yn r (wsY y yc yn r) rm 0 0 as.length := ⟨callB_of as.length hts (wsY_good hcode) rfl hrm.1 hrm.2 (hts _ hini) (hts _ hlink) hd hR, hts _ hst, hts _ hse⟩
  have hrun := va_runV (g := F0 m pc ls (as.reverse ++ .ref (wS w i) :: rest)) (b := wS w i) (As := as) (rest := rest) (H := H) (locs := locs) (cells := cells) (slots := slots) (below := below) (meth := meth) (e := e) (R := R) (⟨hx, hb, hml, hown, hts⟩ : CallFix p m c cc ls.size s args TB cls) hM cw
    ⟨Pj_blind, vk_recv hXt.2.2.2.2.2.2.1 hi hS, fun U hU hW => ⟨rfl, Xt.warm hW (fun q q1 q2 => by rw [hU]; exact hS.2.1 q q1 q2) hXt⟩⟩ rfl rfl rfl rfl (lv_room hsc) hdg ⟨hf.1, hf.2⟩
  exact j_after hrun kk
end JdkCall
