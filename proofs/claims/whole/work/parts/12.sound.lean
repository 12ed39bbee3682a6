-- PART: every method meets what the pure machine says of it.
section Frame12
variable {p : Program} {l : Launch} {e : Env} {R : Room} {s : State} {m : MethodId} {args : Array Value} {below : List Frame} {meth : Method} {c : Code} {cc : ByteArray}
variable {w : Wd} {wV : Nat → Nat} {G : PG} {n0 z0 own nL : Nat} {ini : Bool} {ret : Option FieldType} {xs : Nat → Int32}
theorem kd_dec {b : ByteArray} {k : KC} (h : kd_ok b k = true) {pc len : Nat} {i : Instr} (hf : kx_find k pc = some (i, len)) : decode b pc = .ok (i, len) := by
  have h1 := List.all_eq_true.mp h _ (kx_find_mem hf)
  simp only at h1
  split at h1
  · rename_i r hr
    rw [hr, of_decide_eq_true h1]
  · cases h1
theorem ln_dec {k : KC} (h : lnOk k = true) {pc len : Nat} {i : Instr} (hf : kx_find k pc = some (i, len)) : (Nat.beq (lenOf i) 0 || Nat.beq (lenOf i) len) = true := List.all_eq_true.mp h _ (kx_find_mem hf)
theorem ret_gd (S : Sf w wV G xs n0 p m c cc nL own s args) (hr : meth.sig.returnType = ret) (hlocks : meth.locks = false) {call : Nat → List Value → PH → PR} {i : Instr} {len pc : Nat} {lv st : List Value} {h : PH} {k : PK} {res : Option Value} {h' : PH} (hs : stepI G call own ini ret i len pc lv st h k = some (res, h')) (hir : isRet i = true) (hd : decode cc pc = .ok (i, len)) (hln : (Nat.beq (lenOf i) 0 || Nat.beq (lenOf i) len) = true) : Gd p l e R s m args below meth c (MQ below (Qcm w G res h') args s (hN h' - n0) (hZ h' - z0) (wAd w)) w G xs n0 z0 nL pc lv st h := by
  have hx := S.1
  have hb := S.2.1
  cases i
  all_goals try (cases hir; done)
  all_goals (obtain rfl := len_of hln (by simp [lenOf]))
  case ireturn =>
    simp only [stepI] at hs
    split at hs
    · rename_i x
      split at hs
      · cases hs
        intro H locs ls hIv hL
        exact W.iret hx hb hr (fun t ht hW => ⟨rfl, by rw [ht]; exact hIv.1, hIv.2.1.F ht⟩) hIv.2.1.2.2 hd hlocks
      · obtain ⟨a1, a2⟩ := asr_some hs
        cases a2
        have e : nrZ x = x := of_decide_eq_true a1
        intro H locs ls hIv hL
        exact W.zret (ty := .boolean) hx hb hr (by show Value.int (nrZ x) = _; rw [e]) (fun t ht hW => ⟨rfl, by rw [ht]; exact hIv.1, hIv.2.1.F ht⟩) hIv.2.1.2.2 hd hlocks
      · cases hs
    · cases hs
  case lreturn =>
    simp only [stepI] at hs
    split at hs
    · rename_i x
      split at hs
      · cases hs
        intro H locs ls hIv hL
        exact W.lret hx hb hr (fun t ht hW => ⟨rfl, by rw [ht]; exact hIv.1, hIv.2.1.F ht⟩) hIv.2.1.2.2 hd hlocks
      · cases hs
    · cases hs
  case areturn =>
    simp only [stepI] at hs
    split at hs
    · rename_i x
      split at hs
      · cases hs
        intro H locs ls hIv hL
        exact W.aret (v := tv w (.ref x)) hx hb hr (Or.inr ⟨_, rfl⟩) (va_rf_or _) (fun t ht hW => ⟨rfl, by rw [ht]; exact hIv.1, hIv.2.1.F ht⟩) hIv.2.1.2.2 hd hlocks
      · cases hs
    · cases hs
  case return_ =>
    simp only [stepI] at hs
    split at hs
    · split at hs
      · cases hs
        intro H locs ls hIv hL
        exact W.vret hx hb hr (fun t ht hW => ⟨rfl, by rw [ht]; exact hIv.1, hIv.2.1.F ht⟩) hIv.2.1.2.2 hd hlocks
      · cases hs
    · cases hs
theorem run_gd (S : Sf w wV G xs n0 p m c cc nL own s args) (hini : ini = true → meth.name = "<init>") (hr : meth.sig.returnType = ret) (hlocks : meth.locks = false) {fr lo : Nat} (hfr : fr + 1 ≤ R.frames) (hlo : 50 + lo ≤ R.locals) (hf8 : 8 ≤ fr) (hl5 : 400 ≤ lo) {call : Nat → List Value → PH → PR} (hC : CallsOk l w wV G xs fr lo call) (hCm : ∀ m as h r h1, call m as h = some (r, h1) → Rm h h1) {k : KC} (hkd : kd_ok cc k = true) (hkl : lnOk k = true) {res : Option Value} {h' : PH} (hRc : hN h' - n0 ≤ R.cells) (hRz : hZ h' - z0 ≤ R.slots) : ∀ (n pc : Nat) (lv st : List Value) (h : PH), runN G call own ini ret k n pc lv st h = some (res, h') → Gd p l e R s m args below meth c (MQ below (Qcm w G res h') args s (hN h' - n0) (hZ h' - z0) (wAd w)) w G xs n0 z0 nL pc lv st h
  | 0, _, _, _, _, hs => by cases hs
  | n + 1, pc, lv, st, h, hs => by
    have hs2 : stepK G call own ini ret k pc lv st h (runN G call own ini ret k n) = some (res, h') := hs
    unfold stepK at hs2
    split at hs2
    · rename_i i len hf
      cases hir : isRet i with
      | true => exact ret_gd S hr hlocks hs2 hir (kd_dec hkd hf) (ln_dec hkl hf)
      | false => exact step_gd S hini hfr hlo hf8 hl5 hC hs2 hir (kd_dec hkd hf) (ln_dec hkl hf) (fun pc' lv' st' h1 q => run_gd S hini hr hlocks hfr hlo hf8 hl5 hC hCm hkd hkl hRc hRz n pc' lv' st' h1 q) (fun pc' lv' st' h1 q => ⟨(runN_Rm hCm n _ _ _ _ q).1, (runN_Rm hCm n _ _ _ _ q).2.1⟩) hRc hRz
    · cases hs2
end Frame12
theorem spread_args {w : Wd} : ∀ (as : List Value) (i0 i : Nat) (v : Value), (spread as)[i]? = some v → isD v = false → (i0 + i, tv w v) ∈ lv_args i0 (as.map (tv w))
  | [], i0, i, v, h, _ => by simp [spread] at h
  | a :: t, i0, i, v, h, hd => by
    have key : ∀ (q : Nat), a.category = q → (q = 1 → spread (a :: t) = a :: spread t) → (q = 2 → spread (a :: t) = a :: dm :: spread t) → (i0 + i, tv w v) ∈ lv_args i0 ((a :: t).map (tv w)) := by
      intro q hq h1 h2
      show _ ∈ (i0, tv w a) :: lv_args (if (tv w a).category = 2 then i0 + 2 else i0 + 1) (t.map (tv w))
      rw [tv_cat]
      rcases lv_cat a with hc | hc
      · rw [h1 (hq.symm.trans hc)] at h
        rw [if_neg (by omega)]
        cases i with
        | zero =>
          simp only [List.getElem?_cons_zero, Option.some.injEq] at h
          subst h
          exact List.mem_cons_self
        | succ i =>
          simp only [List.getElem?_cons_succ] at h
          have := spread_args (w := w) t (i0 + 1) i v h hd
          rw [show i0 + (i + 1) = i0 + 1 + i by omega]
          exact List.mem_cons_of_mem _ this
      · rw [h2 (hq.symm.trans hc)] at h
        rw [if_pos hc]
        match i, h with
        | 0, h =>
          simp only [List.getElem?_cons_zero, Option.some.injEq] at h
          subst h
          exact List.mem_cons_self
        | 1, h =>
          simp only [List.getElem?_cons_succ, List.getElem?_cons_zero, Option.some.injEq] at h
          subst h
          cases hd
        | i + 2, h =>
          simp only [List.getElem?_cons_succ] at h
          have := spread_args (w := w) t (i0 + 2) i v h hd
          rw [show i0 + (i + 2) = i0 + 2 + i by omega]
          exact List.mem_cons_of_mem _ this
    cases a <;> first | exact key 1 rfl (fun _ => rfl) (fun q => by cases q) | exact key 2 rfl (fun q => by cases q) (fun _ => rfl)
theorem spread_len {w : Wd} : ∀ as : List Value, (lg_sl (as.map (tv w))).length = (spread as).length
  | [] => rfl
  | a :: t => by
    have e : lg_sl ((a :: t).map (tv w)) = (if (tv w a).category = 2 then [Slot.val (tv w a), .second] else [.val (tv w a)]) ++ lg_sl (t.map (tv w)) := rfl
    rw [e, tv_cat, List.length_append, spread_len t]
    cases a <;> (simp [Value.category, spread]; try omega)
theorem LV_entry {w : Wd} {as : List Value} {n : Nat} (hl : (spread as).length ≤ n) : LV w n (pad as n) ((lg_sl (as.map (tv w)) ++ List.replicate (n - (lg_sl (as.map (tv w))).length) Slot.unset).toArray) := by
  have h0 := lv_entry (as.map (tv w)) (n := n) (by rw [spread_len]; exact hl)
  refine ⟨h0.1, by simp [pad], h0.2.1, fun i v hi hd => ?_⟩
  unfold pad at hi
  rw [List.getElem?_take] at hi
  by_cases hin : i < n
  · rw [if_pos hin] at hi
    by_cases hs : i < (spread as).length
    · rw [List.getElem?_append_left hs] at hi
      have := spread_args (w := w) as 0 i v hi hd
      rw [Nat.zero_add] at this
      exact h0.2.2 _ this
    · rw [List.getElem?_append_right (by omega)] at hi
      have : v = dm := by
        have := List.mem_of_getElem? hi
        exact (List.mem_replicate.mp this).2
      subst this
      cases hd
  · rw [if_neg hin] at hi
    cases hi
theorem kx_M_m {mid own : Nat} {ini : Bool} {ret : Option FieldType} {maxL : Nat} {k : KC} (h : kx_M mid = some (own, ini, ret, maxL, k)) : kx_m mid = (own, ini, ret, maxL, k) := by
  unfold kx_m
  rw [h]
  rfl
/-- every call, at every depth -/
theorem exec_ok (l : Launch) {w : Wd} {wV : Nat → Nat} {G : PG} {xs : Nat → Int32} (hbo : wb w < wo w) (hL3 : G.2.2 ≤ 3072) : ∀ d : Nat, CallsOk l w wV G xs (d + 8) (64 * d + 400) (exec G d)
  | 0 => fun _ _ _ _ _ hs => by cases hs
  | d + 1 => by
    intro mid as h r h' hs
    have hRm := exec_Rm (d + 1) mid as h r h' hs
    refine ⟨hRm, fun hmid h2 hG hxs => ?_⟩
    · unfold exec at hs
      split at hs
      · rename_i own ini ret maxL k hm
        obtain ⟨hle, hs⟩ := asr_some hs
        obtain ⟨n, hn⟩ := lim_some hs
        have ekm := kx_M_m hm
        obtain ⟨m1, m2, m3, m4, m5, m6, m7, m8⟩ := kxM hmid
        have hkn := kna_258 mid hmid
        rw [Bool.and_eq_true] at hkn
        rw [ekm] at m3 m6 m7 m8 hkn
        have hws : wsM mid = .code (kx_y mid) (kx_b mid) maxL ret :: TB := by unfold wsM; rw [ekm]
        refine Met.ofW (cc := kx_b mid) (maxL := maxL) (ret := ret) m4 hws ?_
        intro p e s m args below meth c s₁ B hml hv
        obtain ⟨rfl, hP, hK, hX, hbs, hXt, hsz⟩ := hv
        have hts0 := atoms_spec (ws := wsM mid) B.pre
        have hts : ∀ q ∈ TB, q.before (as.map (tv w)).toArray s = true := fun q hq => hts0 q (List.mem_cons_of_mem _ hq)
        have hown : s.vm.findClass (kx_R own) = some m.cls := by rw [← m3]; exact findClass_of_methodNamed B.named
        have hname : meth.name = (kx_y mid).name := (name_of_methodNamed B.named B.method).1
        have S : Sf w wV G xs (hN h) p m c (kx_b mid) maxL own s (as.map (tv w)).toArray := ⟨B.exec, B.bytes, hml, hown, hts, hK, hX, hbs, hbo, hXt, hsz, by have := own_lt hmid; rw [ekm] at this; exact this, hL3, h2⟩
        rw [lg_entry_eq]
        have hgd := run_gd (R := (headSpec (wsM mid) { frames := d + 1 + 8, cells := hN h' - hN h, slots := hZ h' - hZ h, locals := 64 * (d + 1) + 400 }).room) (z0 := hZ h) (below := below) (e := e) S (fun q => by rw [hname]; exact m6 q) B.returns B.notSynchronized (fr := d + 8) (lo := 64 * d + 400) (by show d + 8 + 1 ≤ d + 1 + 8; omega) (by show 50 + (64 * d + 400) ≤ 64 * (d + 1) + 400; omega) (by omega) (by omega) (exec_ok l hbo hL3 d) (fun m as h r h1 => exec_Rm d m as h r h1) hkn.1 hkn.2 (Nat.le_refl _) (Nat.le_refl _) n 0 (pad as maxL) [] h hn
        have := hgd s.heap [] _ ⟨hP, va_S.rf, h2, hG, Nat.le_refl _, Nat.le_refl _, hxs⟩ (LV_entry (Nat.le_of_ble_eq_true hle))
        rw [Nat.sub_self, Nat.sub_self] at this
        exact this
      · cases hs
