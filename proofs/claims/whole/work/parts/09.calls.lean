theorem retC_some {rt : Nat} {o : PR} {f : List Value → PH → PR} {res : Option Value × PH} (hs : retC rt o f = some res) : ∃ (r0 : Option Value) (h1 : PH), o = some (r0, h1) ∧ f r0.toList h1 = some res := by
  rcases rt with _ | _ | _ | n
  · rcases o with _ | ⟨_ | v, h⟩
    · cases hs
    · exact ⟨none, h, rfl, hs⟩
    · cases hs
  · rcases o with _ | ⟨_ | v, h⟩
    · cases hs
    · cases hs
    · cases v <;> first | exact ⟨_, h, rfl, hs⟩ | cases hs
  · rcases o with _ | ⟨_ | v, h⟩
    · cases hs
    · cases hs
    · cases v <;> first | exact ⟨_, h, rfl, hs⟩ | cases hs
  · rcases o with _ | ⟨_ | v, h⟩
    · cases hs
    · cases hs
    · cases v <;> first | exact ⟨_, h, rfl, hs⟩ | cases hs
theorem nest_form {q : Cond} (h : q ∈ kx_nest) : ∃ a i x g, q = .methodLinkNest a i x g := by
  simp only [kx_nest, List.mem_cons, List.not_mem_nil, or_false] at h
  rcases h with rfl | rfl | rfl | rfl | rfl | rfl <;> exact ⟨_, _, _, _, rfl⟩
theorem Xt.warm {w : Wd} {wV : Nat → Nat} {s U : State} (hW : s.WarmedH U.vm) (hq : ∀ q : Nat, q < s.heap.size → ¬ wAd w q → U.heap[q]? = s.heap[q]?) (h : Xt w wV s) : Xt w wV U := by
  obtain ⟨h1, h2, h3, h4, h5, h6, h7, h8, h9⟩ := h
  have ha : s.vm.Alike U.vm := hW.alike
  refine ⟨fun q hq => ?_, va_AO.moved ha h2, va_AO.moved ha h3, AOA.moved ha h4, AOA.moved ha h5, fun q hq => vk_R.warm hW (h6 q hq), ?_, ?_, ?_⟩
  · obtain ⟨a, i, x, g, rfl⟩ := nest_form hq
    exact va_Nw.warmM hW (h1 _ hq)
  · exact vk_S.moved ha (h7.kept hq)
  · exact va_Z.moved ha (h8.kept hq)
  · exact va_Zq.moved ha (h9.kept hq)
def wsM (mid : Nat) : List Cond := .code (kx_y mid) (kx_b mid) (kx_m mid).2.2.2.1 (kx_m mid).2.2.1 :: TB
def Pcm (w : Wd) (wV : Nat → Nat) (G : PG) (xs : Nat → Int32) (as : List Value) (h : PH) : Array Value → State → Prop := fun a U => a = (as.map (tv w)).toArray ∧ va_P (wD w) kx_cl (ws w G h) U.heap ∧ va_K (wD w) kx_cl (tys w) U ∧ (G.2.1 = true → va_X (wb w) G.2.2 xs U U.heap) ∧ wb w < U.heap.size ∧ Xt w wV U ∧ U.heap.size = wo w + (hN h - 2)
def Qcm (w : Wd) (G : PG) (r : Option Value) (h' : PH) : Array Value → State → Outcome → State → Prop := fun _ st o t => o = .returned (r.map (tv w)) ∧ va_P (wD w) kx_cl (ws w G h') t.heap ∧ va_F (wAd w) st t
theorem Pcm_blind {w : Wd} {wV : Nat → Nat} {G : PG} {xs : Nat → Int32} {as : List Value} {h : PH} : FrameBlind (Pcm w wV G xs as h) := by
  intro a U g mk ⟨h1, h2, h3, h4, h5, h6, h7⟩
  exact ⟨h1, h2, va_K.moved (u := U) (U := U.calling g mk a) (Vm.Alike.refl U.vm) h3, fun q => va_X.moved (u := U) (U := U.calling g mk a) (Vm.Alike.refl U.vm) (h4 q), h5, Xt.warm (s := U) (U := U.calling g mk a) (State.WarmedH.refl U) (fun _ _ _ => rfl) h6, h7⟩
theorem chM_of {mid : Nat} (h : mid < 258) : chM mid = true := by
  by_cases h0 : mid < 24
  · exact List.all_eq_true.mp chM_0 mid (List.mem_range'_1.mpr ⟨by omega, by omega⟩)
  by_cases h1 : mid < 48
  · exact List.all_eq_true.mp chM_1 mid (List.mem_range'_1.mpr ⟨by omega, by omega⟩)
  by_cases h2 : mid < 72
  · exact List.all_eq_true.mp chM_2 mid (List.mem_range'_1.mpr ⟨by omega, by omega⟩)
  by_cases h3 : mid < 96
  · exact List.all_eq_true.mp chM_3 mid (List.mem_range'_1.mpr ⟨by omega, by omega⟩)
  by_cases h4 : mid < 120
  · exact List.all_eq_true.mp chM_4 mid (List.mem_range'_1.mpr ⟨by omega, by omega⟩)
  by_cases h5 : mid < 144
  · exact List.all_eq_true.mp chM_5 mid (List.mem_range'_1.mpr ⟨by omega, by omega⟩)
  by_cases h6 : mid < 168
  · exact List.all_eq_true.mp chM_6 mid (List.mem_range'_1.mpr ⟨by omega, by omega⟩)
  by_cases h7 : mid < 192
  · exact List.all_eq_true.mp chM_7 mid (List.mem_range'_1.mpr ⟨by omega, by omega⟩)
  by_cases h8 : mid < 216
  · exact List.all_eq_true.mp chM_8 mid (List.mem_range'_1.mpr ⟨by omega, by omega⟩)
  by_cases h9 : mid < 240
  · exact List.all_eq_true.mp chM_9 mid (List.mem_range'_1.mpr ⟨by omega, by omega⟩)
  by_cases h10 : mid < 258
  · exact List.all_eq_true.mp chM_10 mid (List.mem_range'_1.mpr ⟨by omega, by omega⟩)
  omega
theorem own_all : (List.range 258).all (fun m => Nat.blt (kx_m m).1 17) = true := by decide +kernel
theorem own_lt {mid : Nat} (h : mid < 258) : (kx_m mid).1 < 17 := Nat.le_of_ble_eq_true (List.all_eq_true.mp own_all mid (List.mem_range.mpr h))
theorem kxM {mid : Nat} (h : mid < 258) : Cond.code (kx_y mid) (kx_b mid) (kx_m mid).2.2.2.1 (kx_m mid).2.2.1 ∈ TB ∧ Cond.initialized (kx_y mid).cls ∈ TB ∧ (kx_y mid).cls = kx_R (kx_m mid).1 ∧ plainName (kx_y mid).cls = true ∧ ((kx_y mid).cls ≠ "java/lang/invoke/MethodHandle" ∧ (kx_y mid).cls ≠ "java/lang/invoke/VarHandle") ∧ ((kx_m mid).2.1 = true → (kx_y mid).name = "<init>") ∧ (kx_m mid).2.2.2.1 < 30 ∧ ((kx_m mid).2.2.1 = none ∨ (kx_m mid).2.2.1 = some .int ∨ (kx_m mid).2.2.1 = some .boolean ∨ (kx_m mid).2.2.1 = some .long ∨ (kx_m mid).2.2.1 = some (.array .int)) := by
  have h1 := chM_of h
  unfold chM at h1
  generalize hm : kx_m mid = q at h1
  generalize hX : kx_X mid = z at h1
  obtain ⟨own, ini, ret, maxL, c⟩ := q
  obtain ⟨y, t1, t2, t3, t4, t5⟩ := z
  have ey : kx_y mid = y := by unfold kx_y; rw [hX]
  rw [ey]
  simp only [Bool.and_eq_true, decide_eq_true_eq, plainN, Bool.or_eq_true, Bool.not_eq_true'] at h1
  obtain ⟨k1, k2, k3, ⟨k4, k5, k6⟩, k7, k8, k9⟩ := h1
  have hb : lw_tbl[t1]? = some (.code y (kx_b mid) maxL ret) := by
    unfold kx_b
    rw [hX]
    show lw_tbl[t1]? = _
    cases ho : lw_tbl[t1]? with
    | none => rw [ho] at k1; cases k1
    | some q =>
      rw [ho] at k1
      cases q <;> first | (cases k1; done) | skip
      rename_i y' b' n' r'
      simp only [isCode, decide_eq_true_eq] at k1
      obtain ⟨e1, e2, e3⟩ := k1
      rw [e1, e2, e3]
  refine ⟨TB_in hb rfl, isW_in k2, k3, k4, ⟨k5, k6⟩, fun q => ?_, Nat.le_of_ble_eq_true k8, k9⟩
  rcases k7 with k | k
  · rw [show ini = true from q] at k; cases k
  · exact k
theorem wsM_good {mid : Nat} (h : mid < 258) : GoodIn TB (wsM mid) := by
  intro q hq
  rcases List.mem_cons.mp hq with rfl | hq
  · exact ⟨(kxM h).1, Or.inl rfl⟩
  · exact TB_good q hq
section Calls9
variable {p : Program} {l : Launch} {e : Env} {R : Room} {s : State} {m : MethodId} {args : Array Value} {below : List Frame} {meth : Method} {c : Code} {Q : State → Prop} {cc : ByteArray}
variable {w : Wd} {wV : Nat → Nat} {G : PG} {n0 z0 own nL : Nat} {ini : Bool} {ret : Option FieldType} {xs : Nat → Int32} {pc : Nat} {lv st : List Value} {h : PH}
/-- the heap's size, where the cells are told -/
theorem Iv_size (S : Sf w wV G xs n0 p m c cc nL own s args) {H : Heap} {locs : List Loc} (hIv : Iv w G xs n0 z0 s h H locs) {g : JFrame} (kk : H.size = wo w + (hN h - 2) → W p l e R s m args below meth c H locs (hN h - n0) (hZ h - z0) Q g) : W p l e R s m args below meth c H locs (hN h - n0) (hZ h - z0) Q g := by
  intro T hT X
  obtain ⟨hx, hb, hml, hown, hts, hK, hX, hbs, hbo, hXt, hsz, ho, hL3, hn2⟩ := id S
  obtain ⟨hP, hS, h2, hG, hn, hz, hxs⟩ := id hIv
  refine kk ?_ T hT X
  have h1 := X.heapSize
  rw [hT, hsz] at h1
  have h3 : wo w + (hN h - 2) ≤ H.size := by
    by_cases h4 : hN h = 2
    · have := hS.1
      rw [hsz] at this
      omega
    · have he := ws_get w G (h := h) (x := hN h - 1) (by omega) (by omega)
      have := (hP _ _ he).lt
      simp only [ra, if_neg (show ¬ hN h - 1 = 1 by omega)] at this
      omega
  omega
theorem g_after {mid : Nat} {as : List Value} {r0 : Option Value} {h1 : PH} {H : Heap} {locs : List Loc} {ls : Array Slot} {st0 rest : List Value} {aa : Array Value} (hIv : Iv w G xs n0 z0 s h H locs) (hN1 : hN h ≤ hN h1) (hZ1 : hZ h ≤ hZ h1) (hxs1 : hI h1 1 = hI h 1)
    (hr : va_Run p l e R s m args below meth c H locs (hN h - n0) (hZ h - z0) (hN h1 - hN h) (hZ h1 - hZ h) (F0 m pc ls st0) rest (Qcm w G r0 h1 aa) (wAd w))
    (kk : ∀ (H' : Heap) (locs' : List Loc), Iv w G xs n0 z0 s h1 H' locs' → W p l e R s m args below meth c H' locs' (hN h1 - n0) (hZ h1 - z0) Q (F0 m (pc + 3) ls ((r0.map (tv w)).toList ++ rest))) : W p l e R s m args below meth c H locs (hN h - n0) (hZ h - z0) Q (F0 m pc ls st0) := by
  intro T hT X
  obtain ⟨v, st₀, t, T', L, h0, X', hL, e1, e2, ⟨hv, hP1, hF⟩, st⟩ := hr T hT X
  cases hv
  obtain ⟨hP, hS, h2, hG, hn, hz, hxs⟩ := hIv
  rw [show hN h - n0 + (hN h1 - hN h) = hN h1 - n0 by omega, show hZ h - z0 + (hZ h1 - hZ h) = hZ h1 - z0 by omega] at X'
  obtain ⟨t2, a1, b1⟩ := kk t.heap (locs ++ L) ⟨hP1, ⟨Nat.le_trans hS.1 (by rw [← h0]; exact hF.1), fun q q1 q2 => by
      rw [hF.2 q (by rw [h0]; exact Nat.lt_of_lt_of_le q1 hS.1) q2, h0]
      exact hS.2.1 q q1 q2, fun q hq => by
      rcases List.mem_append.mp hq with z | z
      · exact hS.2.2 q z
      · exact hL q z⟩, by omega, by omega, by omega, by omega, by rw [hxs1]; exact hxs⟩ T' e1 X'
  exact ⟨t2, st t2 a1, b1⟩
/-- what is asked of the calls -/
def CallsOk (l : Launch) (w : Wd) (wV : Nat → Nat) (G : PG) (xs : Nat → Int32) (fr lo : Nat) (call : Nat → List Value → PH → PR) : Prop :=
  ∀ mid as h r h', call mid as h = some (r, h') → (hN h ≤ hN h' ∧ hZ h ≤ hZ h' ∧ (2 ≤ hN h → hI h' 1 = hI h 1)) ∧ (mid < 258 → 2 ≤ hN h → G.1 ≤ hN h → hI h 1 = xs → Met l (kx_y mid) (wsM mid) { frames := fr, cells := hN h' - hN h, slots := hZ h' - hZ h, locals := lo } (Pcm w wV G xs as h) (Qcm w G r h') (hN h' - hN h) (hZ h' - hZ h) (wAd w))
theorem Pcm_at (S : Sf w wV G xs n0 p m c cc nL own s args) {H : Heap} {locs : List Loc} (hIv : Iv w G xs n0 z0 s h H locs) (hHs : H.size = wo w + (hN h - 2)) {as : List Value} {aa : Array Value} (haa : aa = (as.map (tv w)).toArray) (U : State) (hU : U.heap = H) (hW : s.WarmedH U.vm) : Pcm w wV G xs as h aa U := by
  obtain ⟨hx, hb, hml, hown, hts, hK, hX, hbs, hbo, hXt, hsz, ho, hL3, hn2⟩ := id S
  obtain ⟨hP, hS, h2, hG, hn, hz, hxs⟩ := id hIv
  have hnb : ¬ wAd w (wb w) := fun q => by have : wo w ≤ wb w := q; omega
  refine ⟨haa, by rw [hU]; exact hP, va_K.moved hW.alike hK, ?_, by rw [hU]; exact Nat.lt_of_lt_of_le hbs hS.1, Xt.warm hW (fun q q1 q2 => by rw [hU]; exact hS.2.1 q q1 q2) hXt, by rw [hU]; exact hHs⟩
  exact fun q => va_X.moved hW.alike (va_X.kept (hX q) (by rw [hU]; exact hS.2.1 _ hbs hnb))
end Calls9
section Calls10
variable {p : Program} {l : Launch} {e : Env} {R : Room} {s : State} {m : MethodId} {args : Array Value} {below : List Frame} {meth : Method} {c : Code} {Q : State → Prop} {cc : ByteArray}
variable {w : Wd} {wV : Nat → Nat} {G : PG} {n0 z0 own nL : Nat} {ini : Bool} {ret : Option FieldType} {xs : Nat → Int32} {pc : Nat} {lv st : List Value} {h : PH}
theorem kxE {own j mid kd n rt co t : Nat} (ho : own < 17) (h : kx_find (kx_E own) j = some (mid, kd, n, rt, co, t)) : chE own (j, mid, kd, n, rt, co, t) = true := by
  have hm := kx_find_mem h
  have hall : (kx_E own).all (chE own) = true := by
    rcases (show own = 0 ∨ own = 1 ∨ own = 2 ∨ own = 3 ∨ own = 4 ∨ own = 5 ∨ own = 6 ∨ own = 7 ∨ own = 8 ∨ own = 9 ∨ own = 10 ∨ own = 11 ∨ own = 12 ∨ own = 13 ∨ own = 14 ∨ own = 15 ∨ own = 16 by omega) with rfl | rfl | rfl | rfl | rfl | rfl | rfl | rfl | rfl | rfl | rfl | rfl | rfl | rfl | rfl | rfl | rfl
    · exact chE_0
    · exact chE_1
    · exact chE_2
    · exact chE_3
    · exact chE_4
    · exact chE_5
    · exact chE_6
    · exact chE_7
    · exact chE_8
    · exact chE_9
    · exact chE_10
    · exact chE_11
    · exact chE_12
    · exact chE_13
    · exact chE_14
    · exact chE_15
    · exact chE_16
  exact List.all_eq_true.mp hall _ hm
theorem g_virt (S : Sf w wV G xs n0 p m c cc nL own s args) {fr lo : Nat} (hfr : fr + 1 ≤ R.frames) (hlo : 50 + lo ≤ R.locals) {call : Nat → List Value → PH → PR} (hC : CallsOk l w wV G xs fr lo call) {j mid n rt co t : Nat} (hf : kx_find (kx_E own) j = some (mid, 0, n, rt, co, t)) {a : Nat} {r : List Value} (hdr : st.drop n = .ref a :: r) (hnl : n ≤ st.length) (hsc : scat r ≤ 8) (ha : okA G h a (20 + co) = true) {r0 : Option Value} {h1 : PH} (hcall : call mid (.ref a :: (st.take n).reverse) h = some (r0, h1)) (hd : decode cc pc = .ok (.invokevirtual j, 3)) (hRc : hN h1 - n0 ≤ R.cells) (hRz : hZ h1 - z0 ≤ R.slots) (kk : Gd p l e R s m args below meth c Q w G xs n0 z0 nL (pc + 3) lv (r0.toList ++ r) h1) : Gd p l e R s m args below meth c Q w G xs n0 z0 nL pc lv st h := by
  intro H locs ls hIv hL
  obtain ⟨hx, hb, hml, hown, hts, hK, hX, hbs, hbo, hXt, hsz, ho, hL3, hn2⟩ := id S
  obtain ⟨hP, hS, h2, hG, hn, hz, hxs⟩ := id hIv
  have hch := kxE ho hf
  simp only [chE, show Nat.beq 0 4 = false from rfl, show Nat.blt 0 10 = true from rfl, cond_true, cond_false, Bool.and_eq_true, decide_eq_true_eq] at hch
  obtain ⟨q1, q2, q3, q4, q5, q6, q7, q8⟩ := hch
  have hmid : mid < 258 := Nat.le_of_ble_eq_true q1
  have hco : (kx_m mid).1 = co := Nat.eq_of_beq_eq_true q3
  have hco12 : co < 12 := Nat.le_of_ble_eq_true q8
  obtain ⟨m1, m2, m3, m4, m5, m6, m7, m8⟩ := kxM hmid
  obtain ⟨⟨c1, c2, c3⟩, hMet⟩ := hC mid _ h r0 h1 hcall
  have hM := hMet hmid h2 hG hxs
  obtain ⟨hKa, hlt⟩ := okA_spec hG ha
  have ha2 : 2 ≤ a := ge2 hKa (by omega)
  have he := ws_get w G ha2 hlt
  rw [enc_o hKa] at he
  have est : st = st.take n ++ .ref a :: r := by rw [← hdr]; exact (List.take_append_drop n st).symm
  have hcls : (kx_y mid).cls = kx_R co := by rw [m3, hco]
  refine Iv_size S hIv fun hHs => ?_
  have cw : CallW R s args (kx_R own) (kx_R co) j (kx_y mid) (kx_b mid) (kx_m mid).2.2.2.1 (kx_m mid).2.2.1 (wsM mid) { frames := fr, cells := hN h1 - hN h, slots := hZ h1 - hZ h, locals := lo } (hN h1 - hN h) (hZ h1 - hZ h) n :=
    ⟨callB_of n hts (wsM_good hmid) rfl rfl rfl (hts _ m2) (hts _ (isW_in q5)) ⟨m5.1, m5.2, q2⟩ ⟨hfr, by show 8 + ((kx_m mid).2.2.2.1 + 11) + lo ≤ R.locals; omega⟩, hts _ (isW_in q6), by rw [← hcls]; exact hts _ (isW_in q7)⟩
  have hrun := va_runV (g := F0 m pc ls (st.map (tv w))) (b := ra w a) (As := ((st.take n).reverse).map (tv w)) (rest := r.map (tv w)) (H := H) (locs := locs) (cells := hN h - n0) (slots := hZ h - z0) (below := below) (meth := meth) (e := e) (R := R) (⟨hx, hb, hml, hown, hts⟩ : CallFix p m c cc nL s args TB (kx_R own)) hM cw
    ⟨Pcm_blind, va_recv hK hP (kx_cl_get hco12) he, fun U hU hW => Pcm_at S hIv hHs (by simp [tv_ref ha2]) U hU hW⟩ rfl (by simp [Nat.min_eq_left hnl]) hL.1 (by
      show st.map (tv w) = _
      rw [← List.map_reverse, List.reverse_reverse, ← tv_ref ha2]
      conv => lhs; rw [est]
      simp) (lv_room (by rw [scat_tv]; exact hsc)) hd ⟨by omega, by omega⟩
  refine g_after (mid := mid) (as := []) hIv c1 c2 (c3 h2) hrun ?_
  intro H' locs' hIv'
  have := kk H' locs' ls hIv' hL
  rw [List.map_append] at this
  cases r0 <;> exact this
theorem g_stat (S : Sf w wV G xs n0 p m c cc nL own s args) {fr lo : Nat} (hfr : fr + 1 ≤ R.frames) (hlo : 50 + lo ≤ R.locals) {call : Nat → List Value → PH → PR} (hC : CallsOk l w wV G xs fr lo call) {j mid n rt co t : Nat} (hf : kx_find (kx_E own) j = some (mid, 2, n, rt, co, t)) (hnl : n ≤ st.length) (hsc : scat (st.drop n) ≤ 8) {r0 : Option Value} {h1 : PH} (hcall : call mid (st.take n).reverse h = some (r0, h1)) (hd : decode cc pc = .ok (.invokestatic j, 3)) (hRc : hN h1 - n0 ≤ R.cells) (hRz : hZ h1 - z0 ≤ R.slots) (kk : Gd p l e R s m args below meth c Q w G xs n0 z0 nL (pc + 3) lv (r0.toList ++ st.drop n) h1) : Gd p l e R s m args below meth c Q w G xs n0 z0 nL pc lv st h := by
  intro H locs ls hIv hL
  obtain ⟨hx, hb, hml, hown, hts, hK, hX, hbs, hbo, hXt, hsz, ho, hL3, hn2⟩ := id S
  obtain ⟨hP, hS, h2, hG, hn, hz, hxs⟩ := id hIv
  have hch := kxE ho hf
  simp only [chE, show Nat.beq 2 4 = false from rfl, show Nat.blt 2 10 = true from rfl, cond_true, cond_false, Bool.and_eq_true, decide_eq_true_eq] at hch
  obtain ⟨q1, q2, q3, q4, q5, q6⟩ := hch
  have hmid : mid < 258 := Nat.le_of_ble_eq_true q1
  obtain ⟨m1, m2, m3, m4, m5, m6, m7, m8⟩ := kxM hmid
  obtain ⟨⟨c1, c2, c3⟩, hMet⟩ := hC mid _ h r0 h1 hcall
  have hM := hMet hmid h2 hG hxs
  have est : st = st.take n ++ st.drop n := (List.take_append_drop n st).symm
  refine Iv_size S hIv fun hHs => ?_
  have cw : CallB R s args (kx_R own) j (kx_y mid) (kx_b mid) (kx_m mid).2.2.2.1 (kx_m mid).2.2.1 (wsM mid) { frames := fr, cells := hN h1 - hN h, slots := hZ h1 - hZ h, locals := lo } (hN h1 - hN h) (hZ h1 - hZ h) n ∧ (Cond.static (kx_y mid)).before args s = true :=
    ⟨callB_of n hts (wsM_good hmid) rfl rfl rfl (hts _ m2) (hts _ (isW_in q5)) ⟨m5.1, m5.2, q2⟩ ⟨hfr, by show 8 + ((kx_m mid).2.2.2.1 + 11) + lo ≤ R.locals; omega⟩, hts _ (isW_in q6)⟩
  have hrun := va_runS (g := F0 m pc ls (st.map (tv w))) (As := ((st.take n).reverse).map (tv w)) (rest := (st.drop n).map (tv w)) (H := H) (locs := locs) (cells := hN h - n0) (slots := hZ h - z0) (below := below) (meth := meth) (e := e) (R := R) (⟨hx, hb, hml, hown, hts⟩ : CallFix p m c cc nL s args TB (kx_R own)) hM cw
    ⟨Pcm_blind, fun U hU hW => Pcm_at S hIv hHs rfl U hU hW⟩ rfl (by simp [Nat.min_eq_left hnl]) hL.1 (by
      show st.map (tv w) = _
      rw [← List.map_reverse, List.reverse_reverse]
      conv => lhs; rw [est]
      simp) (lv_room (by rw [scat_tv]; exact hsc)) hd ⟨by omega, by omega⟩
  refine g_after (mid := mid) (as := []) hIv c1 c2 (c3 h2) hrun ?_
  intro H' locs' hIv'
  have := kk H' locs' ls hIv' hL
  rw [List.map_append] at this
  cases r0 <;> exact this
end Calls10
section Calls11
variable {p : Program} {l : Launch} {e : Env} {R : Room} {s : State} {m : MethodId} {args : Array Value} {below : List Frame} {meth : Method} {c : Code} {Q : State → Prop} {cc : ByteArray}
variable {w : Wd} {wV : Nat → Nat} {G : PG} {n0 z0 own nL : Nat} {ini : Bool} {ret : Option FieldType} {xs : Nat → Int32} {pc : Nat} {lv st : List Value} {h : PH}
theorem g_init (S : Sf w wV G xs n0 p m c cc nL own s args) {fr lo : Nat} (hfr : fr + 1 ≤ R.frames) (hlo : 50 + lo ≤ R.locals) {call : Nat → List Value → PH → PR} (hC : CallsOk l w wV G xs fr lo call) {j mid kd n rt co t : Nat} (hf : kx_find (kx_E own) j = some (mid, kd, n, rt, co, t)) (hkd : kd = 1 ∨ kd = 3) {a : Nat} {r : List Value} (hdr : st.drop n = .ref a :: r) (hnl : n ≤ st.length) (hsc : scat r ≤ 8) (ha : a ≠ 0) {r0 : Option Value} {h1 : PH} (hcall : call mid (.ref a :: (st.take n).reverse) h = some (r0, h1)) (hd : decode cc pc = .ok (.invokespecial j, 3)) (hRc : hN h1 - n0 ≤ R.cells) (hRz : hZ h1 - z0 ≤ R.slots) (kk : Gd p l e R s m args below meth c Q w G xs n0 z0 nL (pc + 3) lv (r0.toList ++ r) h1) : Gd p l e R s m args below meth c Q w G xs n0 z0 nL pc lv st h := by
  intro H locs ls hIv hL
  obtain ⟨hx, hb, hml, hown, hts, hK, hX, hbs, hbo, hXt, hsz, ho, hL3, hn2⟩ := id S
  obtain ⟨hP, hS, h2, hG, hn, hz, hxs⟩ := id hIv
  have hch := kxE ho hf
  have est : st = st.take n ++ .ref a :: r := by rw [← hdr]; exact (List.take_append_drop n st).symm
  have hstk : st.map (tv w) = (((st.take n).reverse).map (tv w)).reverse ++ .ref (ra w a) :: r.map (tv w) := by
    rw [← List.map_reverse, List.reverse_reverse, ← tv_ref1 ha]
    conv => lhs; rw [est]
    simp
  refine Iv_size S hIv fun hHs => ?_
  rcases hkd with rfl | rfl
  · simp only [chE, show Nat.beq 1 4 = false from rfl, show Nat.blt 1 10 = true from rfl, cond_true, cond_false, Bool.and_eq_true, decide_eq_true_eq] at hch
    obtain ⟨q1, q2, q3, q4, q5, q6, q7, q8⟩ := hch
    have hmid : mid < 258 := Nat.le_of_ble_eq_true q1
    obtain ⟨m1, m2, m3, m4, m5, m6, m7, m8⟩ := kxM hmid
    obtain ⟨⟨c1, c2, c3⟩, hMet⟩ := hC mid _ h r0 h1 hcall
    have hM := hMet hmid h2 hG hxs
    have hw : wsM mid = .code (kx_y mid) (kx_b mid) (kx_m mid).2.2.2.1 none :: TB := by unfold wsM; rw [q8]
    have cw : CallB R s args (kx_R own) j (kx_y mid) (kx_b mid) (kx_m mid).2.2.2.1 none (wsM mid) { frames := fr, cells := hN h1 - hN h, slots := hZ h1 - hZ h, locals := lo } (hN h1 - hN h) (hZ h1 - hZ h) n ∧ (kx_y mid).name = "<init>" ∧ (Cond.instanceMethod (kx_y mid)).before args s = true :=
      ⟨callB_of n hts (wsM_good hmid) hw rfl rfl (hts _ m2) (hts _ (isW_in q5)) ⟨m5.1, m5.2, q2⟩ ⟨hfr, by show 8 + ((kx_m mid).2.2.2.1 + 11) + lo ≤ R.locals; omega⟩, q7, hts _ (isW_in q6)⟩
    have hrun := va_runI (g := F0 m pc ls (st.map (tv w))) (b := ra w a) (As := ((st.take n).reverse).map (tv w)) (rest := r.map (tv w)) (H := H) (locs := locs) (cells := hN h - n0) (slots := hZ h - z0) (below := below) (meth := meth) (e := e) (R := R) (⟨hx, hb, hml, hown, hts⟩ : CallFix p m c cc nL s args TB (kx_R own)) hM cw
      ⟨Pcm_blind, fun U hU hW => Pcm_at S hIv hHs (by simp [tv_ref1 ha]) U hU hW⟩ rfl (by simp [Nat.min_eq_left hnl]) hL.1 hstk (lv_room (by rw [scat_tv]; exact hsc)) hd ⟨by omega, by omega⟩
    refine g_after (mid := mid) (as := []) hIv c1 c2 (c3 h2) hrun ?_
    intro H' locs' hIv'
    have := kk H' locs' ls hIv' hL
    rw [List.map_append] at this
    cases r0 <;> exact this
  · simp only [chE, show Nat.beq 3 4 = false from rfl, show Nat.blt 3 10 = true from rfl, cond_true, cond_false, Bool.and_eq_true, decide_eq_true_eq] at hch
    obtain ⟨q1, q2, q3, q4, q5, q6, q7, q8⟩ := hch
    have hmid : mid < 258 := Nat.le_of_ble_eq_true q1
    obtain ⟨m1, m2, m3, m4, m5, m6, m7, m8⟩ := kxM hmid
    obtain ⟨⟨c1, c2, c3⟩, hMet⟩ := hC mid _ h r0 h1 hcall
    have hM := hMet hmid h2 hG hxs
    have hw : wsM mid = .code (kx_y mid) (kx_b mid) (kx_m mid).2.2.2.1 none :: TB := by unfold wsM; rw [q8]
    have cw : va_CN R s args (kx_R own) j (kx_y mid) "HallClock" (kx_b mid) (kx_m mid).2.2.2.1 none (wsM mid) { frames := fr, cells := hN h1 - hN h, slots := hZ h1 - hZ h, locals := lo } (hN h1 - hN h) (hZ h1 - hZ h) n ∧ (kx_y mid).name = "<init>" ∧ (Cond.instanceMethod (kx_y mid)).before args s = true :=
      ⟨va_cnB n hts (wsM_good hmid) hw rfl rfl (hXt.1 _ q5) (hts _ m2) ⟨m5.1, m5.2, q2⟩ ⟨hfr, by show 8 + ((kx_m mid).2.2.2.1 + 11) + lo ≤ R.locals; omega⟩, q7, hts _ (isW_in q6)⟩
    have hrun := va_runIN (g := F0 m pc ls (st.map (tv w))) (b := ra w a) (As := ((st.take n).reverse).map (tv w)) (rest := r.map (tv w)) (H := H) (locs := locs) (cells := hN h - n0) (slots := hZ h - z0) (below := below) (meth := meth) (e := e) (R := R) (⟨hx, hb, hml, hown, hts⟩ : CallFix p m c cc nL s args TB (kx_R own)) hM cw
      ⟨Pcm_blind, fun U hU hW => Pcm_at S hIv hHs (by simp [tv_ref1 ha]) U hU hW⟩ rfl (by simp [Nat.min_eq_left hnl]) hL.1 hstk (lv_room (by rw [scat_tv]; exact hsc)) hd ⟨by omega, by omega⟩
    refine g_after (mid := mid) (as := []) hIv c1 c2 (c3 h2) hrun ?_
    intro H' locs' hIv'
    have := kk H' locs' ls hIv' hL
    rw [List.map_append] at this
    cases r0 <;> exact this
def kx_oi : Nat × Nat := (145, 146)
theorem oi_ok : (isW kx_oi.1 (.instanceMethod objectInit) && isW kx_oi.2 (.code objectInit ⟨#[0xb1]⟩ 1 none)) = true := by decide +kernel
theorem g_obj (S : Sf w wV G xs n0 p m c cc nL own s args) {fr lo : Nat} (hfr : fr + 1 ≤ R.frames) (hlo : 50 + lo ≤ R.locals) {j mid n rt co t : Nat} (hf : kx_find (kx_E own) j = some (mid, 4, n, rt, co, t)) {a : Nat} (hsc : scat st ≤ 8) (ha : a ≠ 0) (hd : decode cc pc = .ok (.invokespecial j, 3)) (kk : Gd p l e R s m args below meth c Q w G xs n0 z0 nL (pc + 3) lv st h) : Gd p l e R s m args below meth c Q w G xs n0 z0 nL pc lv (.ref a :: st) h := by
  intro H locs ls hIv hL
  obtain ⟨hx, hb, hml, hown, hts, hK, hX, hbs, hbo, hXt, hsz, ho, hL3, hn2⟩ := id S
  have hch := kxE ho hf
  simp only [chE, show Nat.beq 4 4 = true from rfl, cond_true] at hch
  have hoi := oi_ok
  rw [Bool.and_eq_true] at hoi
  show W p l e R s m args below meth c H locs (hN h - n0) (hZ h - z0) Q (F0 m pc ls (tv w (.ref a) :: st.map (tv w)))
  rw [tv_ref1 ha]
  exact W.objInit hx hb hown (hts _ (isW_in hch)) (hts _ (isW_in hoi.1)) (hts _ (isW_in hoi.2)) rfl (hL.1.trans hml.symm) rfl hd (by omega) (by have := lv_room (m := m) (pc := pc) (ls := ls) (rest := .ref (ra w a) :: st.map (tv w)) (st := st.map (tv w)) (by rw [scat_tv]; exact hsc); omega) (kk H locs ls hIv hL)
end Calls11
