-- PART: from the law's entry into the pure machine.
def R_law : String := "HallClockLaw"
def lw_P (b : Addr) (xs : List Int32) (args : Array Value) (s : State) : Prop := args = #[.ref b] ∧ s.IntsAt b xs ∧ xs.length ≤ 3072 ∧ (Jvm.Cond.and given_1 narrow_1).before args s = true
def lw_Q (_ : Array Value) (s : State) (o : Outcome) (t : State) : Prop := o = .returned (some (.int 1)) ∧ Framed s o t [] 600000 7302250
def lw_Z (below : List Frame) (a : Array Value) (s : State) : State → Prop := fun t => ∃ o, t.status = .running ∧ Ended t below o ∧ lw_Q a s o t
/-- the law's own end, with 1 on the stack, nothing written that was there before, its room as the claim has it -/
theorem lw_ret {p : Program} {l : Launch} {e : Env} {s : State} {m : MethodId} {below : List Frame} {meth : Method} {c : Code} {b : Nat} (hx : p.tables.exec = Jvm.exec) (hb : c.code = code) (hr : meth.sig.returnType = ret) (hlocks : meth.locks = false) {pc : Nat} {H : Heap} {ls : Array Slot} (hdg : decode code pc = .ok (.ireturn, 1)) : W p l e room_1 s m #[Value.ref b] below meth c H [] 600000 7302250 (lw_Z below #[Value.ref b] s) (F0 m pc ls [.int 1]) := by
  intro T hT X
  obtain ⟨fs, hret, hrun, hended, hW, hframe⟩ := X.leave (v := some (.int 1)) (hlocks := hlocks) (fun h => by rw [hr] at h; cases h)
  have hmeth' : T.vm.method? m = some meth := X.method'
  refine ⟨T.setFrames fs, ?_, .returned (some (.int 1)), hrun, hended, rfl, ⟨_, rfl⟩, hW, hframe⟩
  jvm_step X.here [X.here.top, hx, hb, hdg, hmeth', hr, ret, narrow_b1]
  (try refine ⟨rfl, ?_⟩); (try refine ⟨rfl, ?_⟩)
  first | (intro acts; rw [hret _ acts rfl rfl rfl]) | rw [hret _ _ rfl rfl rfl]
  exact Steps.refl _
/-- what holds at the law's entry: the machine, the code, the tables' words (any of lw_tbl by 'hts w (by decide +kernel)'), the script of L ints xs at the cell b, what the Statement gives of the start (any of its parts by flat_of_before) -/
def lw_At (p : Program) (s : State) (m : MethodId) (meth : Method) (c : Code) (b L : Nat) (xs : Nat → Int32) : Prop :=
  p.tables.exec = Jvm.exec ∧ c.code = code ∧ meth.sig.returnType = ret ∧ c.maxLocals = 4 ∧ s.vm.findClass R_law = some m.cls ∧ (∀ w ∈ lw_tbl, w.before #[Value.ref b] s = true) ∧ va_X b L xs s s.heap ∧ b < s.heap.size ∧ meth.locks = false ∧ (Jvm.Cond.and given_1 narrow_1).before #[Value.ref b] s = true

section RunQ
variable {p : Program} {l : Launch} {e : Env} {R : Room} {s : State} {m : MethodId} {args : Array Value} {below : List Frame} {meth : Method} {c : Code} {Q : State → Prop} {cc : ByteArray}
variable {w : Wd} {wV : Nat → Nat} {G : PG} {n0 z0 own nL : Nat} {ini : Bool} {ret : Option FieldType} {xs : Nat → Int32}
theorem run_gdQ (S : Sf w wV G xs n0 p m c cc nL own s args) (hini : ini = true → meth.name = "<init>") {fr lo : Nat} (hfr : fr + 1 ≤ R.frames) (hlo : 50 + lo ≤ R.locals) (hf8 : 8 ≤ fr) (hl5 : 400 ≤ lo) {call : Nat → List Value → PH → PR} (hC : CallsOk l w wV G xs fr lo call) (hCm : ∀ m as h r h1, call m as h = some (r, h1) → Rm h h1) {k : KC} (hkd : kd_ok cc k = true) (hkl : lnOk k = true) {res : Option Value} {h' : PH} (hRc : hN h' - n0 ≤ R.cells) (hRz : hZ h' - z0 ≤ R.slots)
    (hret : ∀ (i : Instr) (len pc : Nat) (lv st : List Value) (h : PH) (kk : PK), stepI G call own ini ret i len pc lv st h kk = some (res, h') → isRet i = true → decode cc pc = .ok (i, len) → (Nat.beq (lenOf i) 0 || Nat.beq (lenOf i) len) = true → Gd p l e R s m args below meth c Q w G xs n0 z0 nL pc lv st h) : ∀ (n pc : Nat) (lv st : List Value) (h : PH), runN G call own ini ret k n pc lv st h = some (res, h') → Gd p l e R s m args below meth c Q w G xs n0 z0 nL pc lv st h
  | 0, _, _, _, _, hs => by cases hs
  | n + 1, pc, lv, st, h, hs => by
    have hs2 : stepK G call own ini ret k pc lv st h (runN G call own ini ret k n) = some (res, h') := hs
    unfold stepK at hs2
    split at hs2
    · rename_i i len hf
      cases hir : isRet i with
      | true => exact hret i len pc lv st h _ hs2 hir (kd_dec hkd hf) (ln_dec hkl hf)
      | false => exact step_gd S hini hfr hlo hf8 hl5 hC hs2 hir (kd_dec hkd hf) (ln_dec hkl hf) (fun pc' lv' st' h1 q => run_gdQ S hini hfr hlo hf8 hl5 hC hCm hkd hkl hRc hRz hret n pc' lv' st' h1 q) (fun pc' lv' st' h1 q => ⟨(runN_Rm hCm n _ _ _ _ q).1, (runN_Rm hCm n _ _ _ _ q).2.1⟩) hRc hRz
    · cases hs2
theorem runK_Rm {call : Nat → List Value → PH → PR} (hC : ∀ m as h r h1, call m as h = some (r, h1) → Rm h h1) {kc : KC} {stops : List Nat} {k : PK} (hk : ∀ pc l st h r h1, k pc l st h = some (r, h1) → Rm h h1) {r : Option Value} {h1 : PH} : ∀ (n pc : Nat) (l st : List Value) (h : PH), runK G call own ini ret kc stops k n pc l st h = some (r, h1) → Rm h h1
  | 0, _, _, _, _, hs => hk _ _ _ _ _ _ hs
  | n + 1, pc, l, st, h, hs => by
    rcases stepK_one G call own ini ret kc pc l st h _ _ hs with q | ⟨pc', l', st', h', q1, q2⟩
    · exact stepK_Rm hC (q kd9)
    · refine (stepK_Rm hC (r := none) (h1 := h') (q2 kd9)).tr ?_
      dsimp only at q1
      cases hq : stops.contains pc'
      · rw [hq] at q1
        exact runK_Rm hC hk n _ _ _ _ q1
      · rw [hq] at q1
        exact hk _ _ _ _ _ _ q1
theorem runK_gd (S : Sf w wV G xs n0 p m c cc nL own s args) (hini : ini = true → meth.name = "<init>") {fr lo : Nat} (hfr : fr + 1 ≤ R.frames) (hlo : 50 + lo ≤ R.locals) (hf8 : 8 ≤ fr) (hl5 : 400 ≤ lo) {call : Nat → List Value → PH → PR} (hC : CallsOk l w wV G xs fr lo call) (hCm : ∀ m as h r h1, call m as h = some (r, h1) → Rm h h1) {k : KC} (hkd : kd_ok cc k = true) (hkl : lnOk k = true) {res : Option Value} {h' : PH} (hRc : hN h' - n0 ≤ R.cells) (hRz : hZ h' - z0 ≤ R.slots) {stops : List Nat} {kf : PK} (hkm : ∀ pc l st h r h1, kf pc l st h = some (r, h1) → Rm h h1)
    (hret : ∀ (i : Instr) (len pc : Nat) (lv st : List Value) (h : PH) (kk : PK), stepI G call own ini ret i len pc lv st h kk = some (res, h') → isRet i = true → Gd p l e R s m args below meth c Q w G xs n0 z0 nL pc lv st h)
    (hkf : ∀ pc lv st h, kf pc lv st h = some (res, h') → Gd p l e R s m args below meth c Q w G xs n0 z0 nL pc lv st h) : ∀ (n pc : Nat) (lv st : List Value) (h : PH), runK G call own ini ret k stops kf n pc lv st h = some (res, h') → Gd p l e R s m args below meth c Q w G xs n0 z0 nL pc lv st h
  | 0, _, _, _, _, hs => hkf _ _ _ _ hs
  | n + 1, pc, lv, st, h, hs => by
    have hs2 : stepK G call own ini ret k pc lv st h (fun pc l st h => bif stops.contains pc then kf pc l st h else runK G call own ini ret k stops kf n pc l st h) = some (res, h') := hs
    unfold stepK at hs2
    split at hs2
    · rename_i i len hf
      cases hir : isRet i with
      | true => exact hret i len pc lv st h _ hs2 hir
      | false =>
        refine step_gd S hini hfr hlo hf8 hl5 hC hs2 hir (kd_dec hkd hf) (ln_dec hkl hf) (fun pc' lv' st' h1 q => ?_) (fun pc' lv' st' h1 q => ?_) hRc hRz
        · cases hq : stops.contains pc'
          · rw [hq] at q
            exact runK_gd S hini hfr hlo hf8 hl5 hC hCm hkd hkl hRc hRz hkm hret hkf n pc' lv' st' h1 q
          · rw [hq] at q
            exact hkf _ _ _ _ q
        · have : Rm h1 h' := by
            cases hq : stops.contains pc'
            · rw [hq] at q
              exact runK_Rm hCm hkm n _ _ _ _ q
            · rw [hq] at q
              exact hkm _ _ _ _ _ _ q
          exact ⟨this.1, this.2.1⟩
    · cases hs2
end RunQ
theorem kd_app {b : ByteArray} {k1 k2 : KC} (h1 : kd_ok b k1 = true) (h2 : kd_ok b k2 = true) : kd_ok b (k1 ++ k2) = true := by
  unfold kd_ok at *
  rw [List.all_append, h1, h2]
  rfl
theorem kd_law : kd_ok code kc_law = true := kd_app kdl_0 (kd_app kdl_1 (kd_app kdl_2 (kd_app kdl_3 (kd_app kdl_4 (kd_app kdl_5 (kd_app kdl_6 (kd_app kdl_7 (kd_app kdl_8 (kd_app kdl_9 (kd_app kdl_10 (kd_app kdl_11 (kd_app kdl_12 (kd_app kdl_13 kdl_14)))))))))))))
