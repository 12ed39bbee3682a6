-- PART: one step of the pure machine is so many of the real one.
theorem kx_L_le (a : Nat) : kx_L a ≤ 16384 := by
  have h0 : (List.range 289).all (fun a => Nat.ble (kx_L a) 16384) = true := by decide +kernel
  by_cases ha : a < 289
  · exact Nat.le_of_ble_eq_true (List.all_eq_true.mp h0 a (List.mem_range.mpr ha))
  · unfold kx_L
    rw [show Nat.blt a 289 = false from by
      cases hb : Nat.blt a 289
      · rfl
      · exact absurd (Nat.le_of_ble_eq_true hb) ha]
    exact Nat.zero_le _
theorem ge2 {a k : Nat} (h : kx_K a = k) (hk : 2 ≤ k) : 2 ≤ a := by
  match a, h with
  | 0, h => exact absurd (h.symm.trans (show kx_K 0 = 0 by decide +kernel)) (by omega)
  | 1, h => exact absurd (h.symm.trans (show kx_K 1 = 1 by decide +kernel)) (by omega)
  | a + 2, _ => omega
theorem alive_lt {G : PG} {h : PH} {a : Nat} (hG : G.1 ≤ hN h) (ha : alive G h a = true) : a < hN h := by
  simp only [alive, Bool.or_eq_true] at ha
  rcases ha with q | q
  · exact Nat.lt_of_lt_of_le (Nat.le_of_ble_eq_true q) hG
  · exact Nat.le_of_ble_eq_true q
theorem okA_spec {G : PG} {h : PH} {a k : Nat} (hG : G.1 ≤ hN h) (ha : okA G h a k = true) : kx_K a = k ∧ a < hN h := by
  simp only [okA, Bool.and_eq_true] at ha
  exact ⟨Nat.eq_of_beq_eq_true ha.1, alive_lt hG ha.2⟩
theorem okW_spec {G : PG} {h : PH} {a k : Nat} (hG : G.1 ≤ hN h) (ha : okW G h a k = true) : kx_K a = k ∧ a < hN h ∧ 2 ≤ a := by
  simp only [okW, Bool.and_eq_true] at ha
  exact ⟨Nat.eq_of_beq_eq_true ha.1, alive_lt hG ha.2.2, Nat.le_of_ble_eq_true ha.2.1⟩
theorem ix_in {i : Int32} {n : Nat} (h : inB i n = true) (hn : n ≤ 2147483648) : vp_in i n ∧ i.toNatClampNeg = ix i := by
  have h1 : ix i < n := Nat.le_of_ble_eq_true h
  have h2 : i.toInt = (ix i : Int) := by
    have e : i.toInt = i.toBitVec.toInt := rfl
    rw [e, BitVec.toInt_eq_toNat_cond]
    have e2 : i.toBitVec.toNat = ix i := rfl
    rw [e2, if_pos (by omega)]
  refine ⟨vp_in_iff.mpr ⟨by omega, by omega⟩, ?_⟩
  show i.toInt.toNat = ix i
  rw [h2]
  rfl
theorem tv_ref {w : Wd} {a : Nat} (h : 2 ≤ a) : tv w (.ref a) = .ref (ra w a) := by
  show va_rf (ro w a) = _
  rw [ro, if_neg (by omega)]
  rfl
theorem tv_ref1 {w : Wd} {a : Nat} (h : a ≠ 0) : tv w (.ref a) = .ref (ra w a) := by
  show va_rf (ro w a) = _
  rw [ro, if_neg h]
  rfl
theorem enc_o {w : Wd} {G : PG} {h : PH} {a ci : Nat} (hk : kx_K a = 20 + ci) : enc w G h a = .inr (ci, encF w G h a ci) := by
  unfold enc
  rw [if_pos (by omega), show kx_K a - 20 = ci by omega]
theorem enc_a {w : Wd} {G : PG} {h : PH} {a k : Nat} (hk : kx_K a = k) (h2 : k < 20) : enc w G h a = .inl (wA w k, encA w G h a k) := by
  unfold enc
  rw [if_neg (by omega), hk]
theorem encF_get {w : Wd} {G : PG} {h : PH} {a ci k : Nat} (hk : k < kx_N ci) : (encF w G h a ci)[k]? = some (tv w (fval G h a k (kx_tc ci k))) := by
  simp only [encF, List.getElem?_map, List.getElem?_range hk, Option.map_some]
theorem encF_len {w : Wd} {G : PG} {h : PH} {a ci : Nat} : (encF w G h a ci).length = kx_N ci := by simp [encF]
theorem kx_cl_get {ci : Nat} (h : ci < 12) : kx_cl[ci]? = some (kx_R ci, kx_T ci, kx_N ci) := by
  simp only [kx_cl, List.getElem?_map, List.getElem?_range h, Option.map_some]
theorem tys_get {w : Wd} {k : Nat} (h : k < 9) : (tys w)[k]? = some (wA w k, kx_at k) := by
  simp only [tys, List.getElem?_map, List.getElem?_range h, Option.map_some]
-- the fields' words
theorem kxF {ci k : Nat} (hc : ci < 12) (hk : k < kx_N ci) : u_lay (kx_R ci) (kx_T ci) k ∈ TB ∧ parseFieldDescriptor (kx_f ci k).2.1 = some (kx_ty ci k) ∧ tcOk (kx_ty ci k) (kx_tc ci k) = true := by
  have h1 := List.all_eq_true.mp (List.all_eq_true.mp chF_all ci (List.mem_range.mpr hc)) k (List.mem_range.mpr hk)
  simp only [chF, Bool.and_eq_true, decide_eq_true_eq] at h1
  exact ⟨isW_in h1.1, h1.2.1, h1.2.2⟩
theorem kxF_in {ci : Nat} (hc : ci < 12) : ∀ q ∈ u_ws (kx_R ci) (kx_T ci) (kx_N ci), q ∈ TB := by
  intro q hq
  obtain ⟨k, hk, rfl⟩ := List.mem_map.mp hq
  exact (kxF hc (List.mem_range.mp hk)).1
theorem kxF_ty {ci : Nat} (hc : ci < 12) : ∀ k, k < kx_N ci → parseFieldDescriptor ((kx_T ci) k).2.2.1 = some (kx_ty ci k) := fun _ hk => (kxF hc hk).2.1
theorem kxF_nm {ci : Nat} (hc : ci < 12) : ∀ a, a < kx_N ci → ∀ b, b < kx_N ci → a ≠ b → ((kx_T ci) a).2.1 ≠ ((kx_T ci) b).2.1 := by
  intro a ha b hb hab
  have h1 := List.all_eq_true.mp (List.all_eq_true.mp (List.all_eq_true.mp chN_all ci (List.mem_range.mpr hc)) a (List.mem_range.mpr ha)) b (List.mem_range.mpr hb)
  simp only [Bool.or_eq_true, decide_eq_true_eq] at h1
  rcases h1 with q | q
  · exact absurd (Nat.eq_of_beq_eq_true q) hab
  · exact q
theorem kxD {own j ci k tc : Nat} {fin : Bool} {t : Nat} (ho : own < 17) (h : kx_find (kx_D own) j = some (ci, k, tc, fin, t)) : Cond.fieldLink (kx_R own) j (kx_R ci) (kx_f ci k).1 (kx_f ci k).2.1 ∈ TB ∧ ci < 12 ∧ k < kx_N ci ∧ tc = kx_tc ci k ∧ fin = (kx_f ci k).2.2.1 := by
  have h1 := List.all_eq_true.mp (List.all_eq_true.mp chD_all own (List.mem_range.mpr ho)) _ (kx_find_mem h)
  simp only [chD, Bool.and_eq_true, decide_eq_true_eq] at h1
  exact ⟨isW_in h1.1, Nat.le_of_ble_eq_true h1.2.1, Nat.le_of_ble_eq_true h1.2.2.1, Nat.eq_of_beq_eq_true h1.2.2.2.1, h1.2.2.2.2⟩
-- the world at a method's entry
def AOA (t : FieldType) (U : State) : Prop := ∃ (comp cA : ClassId) (kA : Class), U.vm.findClass (FieldType.array t).toString = some comp ∧ U.vm.classes[cA]? = some kA ∧ kA.kind = .array comp (.array t) ∧ U.vm.findClass ("[" ++ (FieldType.array t).toString) = some cA
theorem AOA.moved {t : FieldType} {u U : State} (hvm : u.vm.Alike U.vm) (h : AOA t u) : AOA t U := by
  obtain ⟨comp, cA, kA, h1, h2, h3, h4⟩ := h
  obtain ⟨k', hk', he⟩ := hvm.2.2 _ _ h2
  exact ⟨comp, cA, k', by rw [hvm.findClass]; exact h1, hk', by rw [he]; exact h3, by rw [hvm.findClass]; exact h4⟩
theorem AOA.of {t : FieldType} {A : Array Value} {U : State} (h : (Cond.arrayOver (.array t)).before A U = true) : AOA t U := by
  simp only [Cond.before, Cond.holds, Cond.value, beq_iff_eq] at h
  cases hc : U.vm.findClass (FieldType.array t).toString with
  | none => rw [hc] at h; simp at h
  | some comp =>
    rw [hc] at h
    simp only [Option.bind_some, Option.bind_eq_some_iff, Option.map_eq_some_iff] at h
    obtain ⟨cA, hi, kA, hk, hb⟩ := h
    have hp := (Array.findIdx?_eq_some_iff_getElem.mp hi).2.1
    rw [(Array.getElem?_eq_some_iff.mp hk).2] at hp
    cases hkind : kA.kind with
    | array component ty =>
      rw [hkind] at hb hp
      simp at hb hp
      exact ⟨comp, cA, kA, hc, hk, by rw [hkind, hp, hb.1], hb.2⟩
    | _ => rw [hkind] at hb; simp at hb
def kx_si : List Nat := (kx_S 9).map (fun q => q.1)
def Xt (w : Wd) (wV : Nat → Nat) (U : State) : Prop := (∀ q ∈ kx_nest, va_Nw q U) ∧ va_AO "HallClock$Dial" U ∧ va_AO "HallClock$Strip" U ∧ AOA .int U ∧ AOA .byte U ∧ (∀ q ∈ kx_S 9, vk_R (kx_R 9) q.1 (kx_txt.getD q.2.1 "") (wS w q.2.1) U) ∧ vk_S kx_byt.length (kx_byt.map List.length) kx_byt (wS w) wV (wAd w) U U.heap ∧ va_Z "java/lang/String" "COMPACT_STRINGS" "Z" (.int 1) (wAd w) U U.heap ∧ va_Zq "jdk/internal/util/Preconditions" "SIOOBE_FORMATTER" "Ljava/util/function/BiFunction;" (wAd w) U U.heap
def Sf (w : Wd) (wV : Nat → Nat) (G : PG) (xs : Nat → Int32) (n0 : Nat) (p : Program) (m : MethodId) (c : Code) (cc : ByteArray) (nL own : Nat) (s : State) (args : Array Value) : Prop :=
  p.tables.exec = Jvm.exec ∧ c.code = cc ∧ c.maxLocals = nL ∧ s.vm.findClass (kx_R own) = some m.cls ∧ (∀ q ∈ TB, q.before args s = true) ∧ va_K (wD w) kx_cl (tys w) s ∧ (G.2.1 = true → va_X (wb w) G.2.2 xs s s.heap) ∧ wb w < s.heap.size ∧ wb w < wo w ∧ Xt w wV s ∧ s.heap.size = wo w + (n0 - 2) ∧ own < 17 ∧ G.2.2 ≤ 3072 ∧ 2 ≤ n0
def Iv (w : Wd) (G : PG) (xs : Nat → Int32) (n0 z0 : Nat) (s : State) (h : PH) (H : Heap) (locs : List Loc) : Prop :=
  va_P (wD w) kx_cl (ws w G h) H ∧ va_S (wAd w) s.heap H locs ∧ 2 ≤ hN h ∧ G.1 ≤ hN h ∧ n0 ≤ hN h ∧ z0 ≤ hZ h ∧ hI h 1 = xs
def Gd (p : Program) (l : Launch) (e : Env) (R : Room) (s : State) (m : MethodId) (args : Array Value) (below : List Frame) (meth : Method) (c : Code) (Q : State → Prop) (w : Wd) (G : PG) (xs : Nat → Int32) (n0 z0 nL : Nat) (pc : Nat) (lv st : List Value) (h : PH) : Prop :=
  ∀ (H : Heap) (locs : List Loc) (ls : Array Slot), Iv w G xs n0 z0 s h H locs → LV w nL lv ls → W p l e R s m args below meth c H locs (hN h - n0) (hZ h - z0) Q (F0 m pc ls (st.map (tv w)))
theorem enc_congr {w : Wd} {G : PG} {h h' : PH} {y : Nat} (hi : hI h' y = hI h y) (hj : hJ h' y = hJ h y) (hr : hR h' y = hR h y) : enc w G h' y = enc w G h y := by
  have e1 : ∀ k tc, fval G h' y k tc = fval G h y k tc := by
    intro k tc
    unfold fval rdR
    rw [hi, hr]
  have e2 : ∀ k, encA w G h' y k = encA w G h y k := by
    intro k
    unfold encA rdA
    rw [hi, hj, hr]
  unfold enc encF
  simp only [e1, e2]
theorem wI_ne {h : PH} {a k : Nat} {x : Int32} {y : Nat} (hy : y ≠ a) : hI (wI h a k x) y = hI h y := by
  funext j
  show (if y = a ∧ j = k then x else hI h y j) = hI h y j
  rw [if_neg (fun q => hy q.1)]
theorem wR_ne {h : PH} {a k : Nat} {x : Nat} {y : Nat} (hy : y ≠ a) : hR (wR h a k x) y = hR h y := by
  funext j
  show (if y = a ∧ j = k then x else hR h y j) = hR h y j
  rw [if_neg (fun q => hy q.1)]
theorem wJ_ne {h : PH} {a k : Nat} {x : Int64} {y : Nat} (hy : y ≠ a) : hJ (wJ h a k x) y = hJ h y := by
  funext j
  show (if y = a ∧ j = k then x else hJ h y j) = hJ h y j
  rw [if_neg (fun q => hy q.1)]
theorem wI_at {h : PH} {a k : Nat} {x : Int32} : hI (wI h a k x) a = upd (hI h a) k x := by
  funext j
  show (if a = a ∧ j = k then x else hI h a j) = if j = k then x else hI h a j
  by_cases e : j = k <;> simp [e]
theorem wJ_at {h : PH} {a k : Nat} {x : Int64} : hJ (wJ h a k x) a = vp_updL (hJ h a) k x := by
  funext j
  show (if a = a ∧ j = k then x else hJ h a j) = vp_updL (hJ h a) k x j
  by_cases e : j = k <;> simp [e, vp_updL]
theorem tc_int {ci k : Nat} (hc : ci < 12) (hk : k < kx_N ci) (h : kx_tc ci k ≠ 3) : (kx_ty ci k = .int ∧ kx_tc ci k = 0) ∨ (kx_ty ci k = .boolean ∧ kx_tc ci k = 1) := by
  have h1 := (kxF hc hk).2.2
  cases ht : kx_ty ci k with
  | int => rw [ht] at h1; exact Or.inl ⟨rfl, Nat.eq_of_beq_eq_true h1⟩
  | boolean => rw [ht] at h1; exact Or.inr ⟨rfl, Nat.eq_of_beq_eq_true h1⟩
  | object _ => rw [ht] at h1; exact absurd (Nat.eq_of_beq_eq_true h1) h
  | array _ => rw [ht] at h1; exact absurd (Nat.eq_of_beq_eq_true h1) h
  | _ => rw [ht] at h1; cases h1
theorem tc_ref {ci k : Nat} (hc : ci < 12) (hk : k < kx_N ci) (h0 : kx_tc ci k ≠ 0) (h1 : kx_tc ci k ≠ 1) : kx_tc ci k = 3 ∧ ((∃ n, kx_ty ci k = .object n) ∨ ∃ t, kx_ty ci k = .array t) := by
  have hh := (kxF hc hk).2.2
  cases ht : kx_ty ci k with
  | int => rw [ht] at hh; exact absurd (Nat.eq_of_beq_eq_true hh) h0
  | boolean => rw [ht] at hh; exact absurd (Nat.eq_of_beq_eq_true hh) h1
  | object n => rw [ht] at hh; exact ⟨Nat.eq_of_beq_eq_true hh, Or.inl ⟨n, rfl⟩⟩
  | array t => rw [ht] at hh; exact ⟨Nat.eq_of_beq_eq_true hh, Or.inr ⟨t, rfl⟩⟩
  | _ => rw [ht] at hh; cases hh
theorem fval_int {G : PG} {h : PH} {a k tc : Nat} (h3 : tc ≠ 3) : fval G h a k tc = .int (hI h a k) := by
  unfold fval
  split
  · exact absurd rfl h3
  · rfl
theorem encF_wI {w : Wd} {G : PG} {h : PH} {a ci k : Nat} {x : Int32} (h3 : kx_tc ci k ≠ 3) : encF w G (wI h a k x) a ci = (encF w G h a ci).set k (.int x) := by
  apply List.ext_getElem?
  intro i
  rw [List.getElem?_set, encF_len]
  by_cases hi : i < kx_N ci
  · rw [encF_get hi]
    by_cases e : k = i
    · subst e
      rw [if_pos rfl, if_pos hi, fval_int h3, wI_at]
      simp [upd, tv]
    · rw [if_neg e, encF_get hi]
      congr 2
      unfold fval
      split
      · rfl
      · rw [wI_at]
        simp [upd, Ne.symm e]
  · rw [List.getElem?_eq_none (by rw [encF_len]; omega)]
    by_cases e : k = i
    · rw [if_pos e, if_neg (by omega)]
    · rw [if_neg e, List.getElem?_eq_none (by rw [encF_len]; omega)]
theorem rdR_wR {G : PG} {h : PH} {a k r : Nat} (hc : (!G.2.1 || Nat.beq ((kx_Q a).getD k 0) 0) = true) : rdR G (wR h a k r) a k = r := by
  have e : hR (wR h a k r) a k = r := by
    show (if a = a ∧ k = k then r else hR h a k) = r
    simp
  unfold rdR
  rw [e]
  simp only [Bool.or_eq_true, Bool.not_eq_true'] at hc
  rcases hc with q | q
  · rw [q]
  · rw [Nat.eq_of_beq_eq_true q]
    cases G.2.1 <;> rfl
theorem encF_wR {w : Wd} {G : PG} {h : PH} {a ci k r : Nat} (h3 : kx_tc ci k = 3) (hc : (!G.2.1 || Nat.beq ((kx_Q a).getD k 0) 0) = true) : encF w G (wR h a k r) a ci = (encF w G h a ci).set k (tv w (.ref r)) := by
  apply List.ext_getElem?
  intro i
  rw [List.getElem?_set, encF_len]
  by_cases hi : i < kx_N ci
  · rw [encF_get hi]
    by_cases e : k = i
    · subst e
      rw [if_pos rfl, if_pos hi, h3]
      show some (tv w (.ref (rdR G (wR h a k r) a k))) = _
      rw [rdR_wR hc]
    · rw [if_neg e, encF_get hi]
      congr 2
      unfold fval
      split
      · congr 1
        unfold rdR
        have e2 : hR (wR h a k r) a i = hR h a i := by
          show (if a = a ∧ i = k then r else hR h a i) = hR h a i
          rw [if_neg (fun q => e q.2.symm)]
        rw [e2]
      · rfl
  · rw [List.getElem?_eq_none (by rw [encF_len]; omega)]
    by_cases e : k = i
    · rw [if_pos e, if_neg (by omega)]
    · rw [if_neg e, List.getElem?_eq_none (by rw [encF_len]; omega)]
/-- what a write leaves -/
theorem Iv_w {w : Wd} {G : PG} {xs : Nat → Int32} {n0 z0 : Nat} {s : State} {h h' : PH} {H H1 : Heap} {locs locs1 : List Loc} {a : Nat} {q : Nat} (hIv : Iv w G xs n0 z0 s h H locs) (ha : 2 ≤ a) (hq : q = ra w a) (hn : hN h' = hN h) (hz : hZ h' = hZ h) (hi : ∀ y, y ≠ a → hI h' y = hI h y) (hj : ∀ y, y ≠ a → hJ h' y = hJ h y) (hr : ∀ y, y ≠ a → hR h' y = hR h y) (hP : va_P (wD w) kx_cl ((ws w G h).set (a - 2) (q, enc w G h' a)) H1) (hS : va_S (wAd w) s.heap H1 locs1) : Iv w G xs n0 z0 s h' H1 locs1 := by
  obtain ⟨-, -, h2, hG, hn0, hz0, hxs⟩ := hIv
  rw [ws_set w G hn ha (fun y hy => enc_congr (hi y hy) (hj y hy) (hr y hy)) hq] at hP
  exact ⟨hP, hS, by rw [hn]; exact h2, by rw [hn]; exact hG, by rw [hn]; exact hn0, by rw [hz]; exact hz0, by rw [hi 1 (by omega)]; exact hxs⟩
theorem and1_cases (x : Int32) : x &&& 1 = 0 ∨ x &&& 1 = 1 := by
  have h1 : (x &&& 1).toBitVec.toNat = x.toBitVec.toNat % 2 := by
    rw [Int32.toBitVec_and, BitVec.toNat_and]
    exact Nat.and_one_is_mod _
  have h2 : x.toBitVec.toNat % 2 = 0 ∨ x.toBitVec.toNat % 2 = 1 := by omega
  rcases h2 with q | q
  · refine Or.inl (Int32.toBitVec_inj.mp (BitVec.eq_of_toNat_eq ?_))
    rw [h1, q]
    rfl
  · refine Or.inr (Int32.toBitVec_inj.mp (BitVec.eq_of_toNat_eq ?_))
    rw [h1, q]
    rfl
theorem nrZ_eq (x : Int32) : nrZ x = x &&& 1 := rfl
theorem nrZ_fits (x : Int32) : fits .boolean (.int (nrZ x)) = true := by
  rw [nrZ_eq]
  rcases and1_cases x with q | q <;> rw [q] <;> rfl
def isRet (i : Instr) : Bool := match i with
  | .ireturn => true
  | .lreturn => true
  | .areturn => true
  | .return_ => true
  | _ => false
section Sound
variable {p : Program} {l : Launch} {e : Env} {R : Room} {s : State} {m : MethodId} {args : Array Value} {below : List Frame} {meth : Method} {c : Code} {Q : State → Prop} {cc : ByteArray}
variable {w : Wd} {wV : Nat → Nat} {G : PG} {n0 z0 own nL : Nat} {ini : Bool} {ret : Option FieldType} {xs : Nat → Int32} {pc : Nat} {lv st : List Value} {h : PH}
theorem g_getfield (S : Sf w wV G xs n0 p m c cc nL own s args) {j ci k tc : Nat} {fin : Bool} {t : Nat} (hf : kx_find (kx_D own) j = some (ci, k, tc, fin, t)) {a : Nat} (ha : okA G h a (20 + ci) = true) (hd : decode cc pc = .ok (.getfield j, 3)) (kk : Gd p l e R s m args below meth c Q w G xs n0 z0 nL (pc + 3) lv (fval G h a k tc :: st) h) : Gd p l e R s m args below meth c Q w G xs n0 z0 nL pc lv (.ref a :: st) h := by
  intro H locs ls hIv hL
  obtain ⟨hx, hb, hml, hown, hts, hK, hX, hbs, hbo, hXt, hsz, ho, hL3, hn2⟩ := id S
  obtain ⟨hP, hS, h2, hG, hn, hz, hxs⟩ := id hIv
  obtain ⟨w1, hci, hk, htc, hfin⟩ := kxD ho hf
  obtain ⟨hKa, hlt⟩ := okA_spec hG ha
  have ha2 : 2 ≤ a := ge2 hKa (by omega)
  have he := ws_get w G ha2 hlt
  rw [enc_o hKa] at he
  show W p l e R s m args below meth c H locs (hN h - n0) (hZ h - z0) Q (F0 m pc ls (tv w (.ref a) :: st.map (tv w)))
  rw [tv_ref ha2]
  refine va_get (C := kx_R ci) (T := kx_T ci) (N := kx_N ci) (own := kx_R own) (ref := kx_R ci) hx hb hts (kxF_in hci) hown hK hP (a - 2) he (kx_cl_get hci) k hk (hts _ w1) (fun x q => q) (v := tv w (fval G h a k tc)) (by rw [htc]; exact encF_get hk) hd ?_
  exact kk H locs ls hIv hL
theorem g_putI (S : Sf w wV G xs n0 p m c cc nL own s args) (hini : ini = true → meth.name = "<init>") {j ci k tc : Nat} {fin : Bool} {t : Nat} (hf : kx_find (kx_D own) j = some (ci, k, tc, fin, t)) (h3 : tc ≠ 3) {a : Nat} {x : Int32} (ha : okW G h a (20 + ci) = true) (hfi : (!fin || (ini && Nat.beq own ci)) = true) (hnr : tc = 1 → nrZ x = x) (hd : decode cc pc = .ok (.putfield j, 3)) (kk : Gd p l e R s m args below meth c Q w G xs n0 z0 nL (pc + 3) lv st (wI h a k x)) : Gd p l e R s m args below meth c Q w G xs n0 z0 nL pc lv (.int x :: .ref a :: st) h := by
  intro H locs ls hIv hL
  obtain ⟨hx, hb, hml, hown, hts, hK, hX, hbs, hbo, hXt, hsz, ho, hL3, hn2⟩ := id S
  obtain ⟨hP, hS, h2, hG, hn, hz, hxs⟩ := id hIv
  obtain ⟨w1, hci, hk, htc, hfin⟩ := kxD ho hf
  obtain ⟨hKa, hlt, ha2⟩ := okW_spec hG ha
  have he := ws_get w G ha2 hlt
  rw [enc_o hKa] at he
  have h3' : kx_tc ci k ≠ 3 := by rw [← htc]; exact h3
  have hty : narrow (kx_ty ci k) (.int x) = .int x ∧ fits (kx_ty ci k) (.int x) = true := by
    rcases tc_int hci hk h3' with ⟨q1, q2⟩ | ⟨q1, q2⟩
    · rw [q1]; exact ⟨rfl, rfl⟩
    · have e := hnr (htc.trans q2)
      rw [q1]
      have e2 : narrow .boolean (.int x) = .int (nrZ x) := rfl
      rw [e2, e]
      refine ⟨rfl, ?_⟩
      rw [← e]
      exact nrZ_fits x
  show W p l e R s m args below meth c H locs (hN h - n0) (hZ h - z0) Q (F0 m pc ls (.int x :: tv w (.ref a) :: st.map (tv w)))
  rw [tv_ref ha2]
  have hfin' : ∀ q, (kx_T ci k).2.2.2 = q → fin = q := fun q hq => by rw [hfin]; exact hq
  cases hfb : fin with
  | false =>
    refine va_put (C := kx_R ci) (T := kx_T ci) (N := kx_N ci) (own := kx_R own) (ref := kx_R ci) hx hb hts (kxF_in hci) (kx_ty ci) (kxF_ty hci) (kxF_nm hci) hown hK hP (ws_D w G h) hS (a - 2) he (kx_cl_get hci) k hk (hts _ w1) (fun x q => q) (by rw [← hfb, hfin]; rfl) (kxF_ty hci k hk) hty.1 hty.2 (by rw [encF_len]; exact hk) hd ?_
    intro H1 locs1 hP1 hD1 hS1
    rw [← encF_wI h3', ← enc_o hKa] at hP1
    exact kk H1 locs1 ls (Iv_w hIv ha2 rfl rfl rfl (fun y hy => wI_ne hy) (fun _ _ => rfl) (fun _ _ => rfl) hP1 hS1) hL
  | true =>
    rw [hfb] at hfi
    simp only [Bool.not_true, Bool.false_or, Bool.and_eq_true] at hfi
    have hoc : own = ci := Nat.eq_of_beq_eq_true hfi.2
    refine va_putF (C := kx_R ci) (T := kx_T ci) (N := kx_N ci) (own := kx_R own) (ref := kx_R ci) hx hb hts (kxF_in hci) (kx_ty ci) (kxF_ty hci) (kxF_nm hci) hown hK hP (ws_D w G h) hS (a - 2) he (kx_cl_get hci) k hk (hts _ w1) (fun x q => q) (by rw [← hfb, hfin]; rfl) (hini hfi.1) (by rw [hoc]; rfl) (kxF_ty hci k hk) hty.1 hty.2 (by rw [encF_len]; exact hk) hd ?_
    intro H1 locs1 hP1 hD1 hS1
    rw [← encF_wI h3', ← enc_o hKa] at hP1
    exact kk H1 locs1 ls (Iv_w hIv ha2 rfl rfl rfl (fun y hy => wI_ne hy) (fun _ _ => rfl) (fun _ _ => rfl) hP1 hS1) hL
theorem g_putR (S : Sf w wV G xs n0 p m c cc nL own s args) (hini : ini = true → meth.name = "<init>") {j ci k tc : Nat} {fin : Bool} {t : Nat} (hf : kx_find (kx_D own) j = some (ci, k, tc, fin, t)) (h0 : tc ≠ 0) (h1 : tc ≠ 1) {a x : Nat} (ha : okW G h a (20 + ci) = true) (hfi : (!fin || (ini && Nat.beq own ci)) = true) (hcq : (!G.2.1 || Nat.beq ((kx_Q a).getD k 0) 0) = true) (hd : decode cc pc = .ok (.putfield j, 3)) (kk : Gd p l e R s m args below meth c Q w G xs n0 z0 nL (pc + 3) lv st (wR h a k x)) : Gd p l e R s m args below meth c Q w G xs n0 z0 nL pc lv (.ref x :: .ref a :: st) h := by
  intro H locs ls hIv hL
  obtain ⟨hx, hb, hml, hown, hts, hK, hX, hbs, hbo, hXt, hsz, ho, hL3, hn2⟩ := id S
  obtain ⟨hP, hS, h2, hG, hn, hz, hxs⟩ := id hIv
  obtain ⟨w1, hci, hk, htc, hfin⟩ := kxD ho hf
  obtain ⟨hKa, hlt, ha2⟩ := okW_spec hG ha
  have he := ws_get w G ha2 hlt
  rw [enc_o hKa] at he
  obtain ⟨h3', hrt⟩ := tc_ref hci hk (by rw [← htc]; exact h0) (by rw [← htc]; exact h1)
  have hty : narrow (kx_ty ci k) (tv w (.ref x)) = tv w (.ref x) ∧ fits (kx_ty ci k) (tv w (.ref x)) = true := by
    show narrow _ (va_rf (ro w x)) = va_rf (ro w x) ∧ fits _ (va_rf (ro w x)) = true
    rcases hrt with ⟨n, q⟩ | ⟨t, q⟩ <;> rw [q] <;> cases ro w x <;> exact ⟨rfl, rfl⟩
  show W p l e R s m args below meth c H locs (hN h - n0) (hZ h - z0) Q (F0 m pc ls (tv w (.ref x) :: tv w (.ref a) :: st.map (tv w)))
  rw [tv_ref ha2]
  cases hfb : fin with
  | false =>
    refine va_put (C := kx_R ci) (T := kx_T ci) (N := kx_N ci) (own := kx_R own) (ref := kx_R ci) hx hb hts (kxF_in hci) (kx_ty ci) (kxF_ty hci) (kxF_nm hci) hown hK hP (ws_D w G h) hS (a - 2) he (kx_cl_get hci) k hk (hts _ w1) (fun x q => q) (by rw [← hfb, hfin]; rfl) (kxF_ty hci k hk) hty.1 hty.2 (by rw [encF_len]; exact hk) hd ?_
    intro H1 locs1 hP1 hD1 hS1
    rw [← encF_wR h3' hcq, ← enc_o hKa] at hP1
    exact kk H1 locs1 ls (Iv_w hIv ha2 rfl rfl rfl (fun _ _ => rfl) (fun _ _ => rfl) (fun y hy => wR_ne hy) hP1 hS1) hL
  | true =>
    rw [hfb] at hfi
    simp only [Bool.not_true, Bool.false_or, Bool.and_eq_true] at hfi
    have hoc : own = ci := Nat.eq_of_beq_eq_true hfi.2
    refine va_putF (C := kx_R ci) (T := kx_T ci) (N := kx_N ci) (own := kx_R own) (ref := kx_R ci) hx hb hts (kxF_in hci) (kx_ty ci) (kxF_ty hci) (kxF_nm hci) hown hK hP (ws_D w G h) hS (a - 2) he (kx_cl_get hci) k hk (hts _ w1) (fun x q => q) (by rw [← hfb, hfin]; rfl) (hini hfi.1) (by rw [hoc]; rfl) (kxF_ty hci k hk) hty.1 hty.2 (by rw [encF_len]; exact hk) hd ?_
    intro H1 locs1 hP1 hD1 hS1
    rw [← encF_wR h3' hcq, ← enc_o hKa] at hP1
    exact kk H1 locs1 ls (Iv_w hIv ha2 rfl rfl rfl (fun _ _ => rfl) (fun _ _ => rfl) (fun y hy => wR_ne hy) hP1 hS1) hL
theorem lenA_ne {G : PG} {a : Nat} (h : 2 ≤ a) : lenA G a = kx_L a := by
  unfold lenA
  rw [show Nat.beq a 1 = false from by
    cases hb : Nat.beq a 1
    · rfl
    · exact absurd (Nat.eq_of_beq_eq_true hb) (by omega)]
  rfl
theorem g_iaload (S : Sf w wV G xs n0 p m c cc nL own s args) {a : Nat} {i : Int32} (hg : (G.2.1 || Nat.blt 1 a) = true) (ha : okA G h a 1 = true) (hi : inB i (lenA G a) = true) (hd : decode cc pc = .ok (.iaload, 1)) (kk : Gd p l e R s m args below meth c Q w G xs n0 z0 nL (pc + 1) lv (.int (hI h a (ix i)) :: st) h) : Gd p l e R s m args below meth c Q w G xs n0 z0 nL pc lv (.int i :: .ref a :: st) h := by
  intro H locs ls hIv hL
  obtain ⟨hx, hb, hml, hown, hts, hK, hX, hbs, hbo, hXt, hsz, ho, hL3, hn2⟩ := id S
  obtain ⟨hP, hS, h2, hG, hn, hz, hxs⟩ := id hIv
  obtain ⟨hKa, hlt⟩ := okA_spec hG ha
  by_cases h1 : a = 1
  · subst h1
    have hl : lenA G 1 = G.2.2 := rfl
    rw [hl] at hi
    obtain ⟨hin, hix⟩ := ix_in hi (by omega)
    show W p l e R s m args below meth c H locs (hN h - n0) (hZ h - z0) Q (F0 m pc ls (.int i :: tv w (.ref 1) :: st.map (tv w)))
    rw [tv_ref1 (by omega), show ra w 1 = wb w from rfl]
    refine va_sld hx hb (hX (by simpa [Nat.blt] using hg)) hbs (fun q => by have : wo w ≤ wb w := q; omega) hS hin hd ?_
    rw [hix, ← hxs]
    exact kk H locs ls hIv hL
  · have ha2 : 2 ≤ a := by
      rcases Nat.lt_or_ge a 2 with q | q
      · have : a = 0 := by omega
        subst this
        exact absurd (hKa.symm.trans (show kx_K 0 = 0 by decide +kernel)) (by omega)
      · exact q
    have he := ws_get w G ha2 hlt
    rw [enc_a hKa (by omega)] at he
    rw [lenA_ne ha2] at hi
    obtain ⟨hin, hix⟩ := ix_in hi (by have := kx_L_le a; omega)
    show W p l e R s m args below meth c H locs (hN h - n0) (hZ h - z0) Q (F0 m pc ls (.int i :: tv w (.ref a) :: st.map (tv w)))
    rw [tv_ref ha2]
    refine va_iald hx hb hK hP (a - 2) 1 (f := fun j => hI h a j) he (tys_get (by omega)) hin hd ?_
    rw [hix]
    exact kk H locs ls hIv hL
theorem g_baload (S : Sf w wV G xs n0 p m c cc nL own s args) {a : Nat} {i : Int32} (ha : (okA G h a 2 || okA G h a 3) = true) (hi : inB i (lenA G a) = true) (hd : decode cc pc = .ok (.baload, 1)) (kk : Gd p l e R s m args below meth c Q w G xs n0 z0 nL (pc + 1) lv (.int (hI h a (ix i)) :: st) h) : Gd p l e R s m args below meth c Q w G xs n0 z0 nL pc lv (.int i :: .ref a :: st) h := by
  intro H locs ls hIv hL
  obtain ⟨hx, hb, hml, hown, hts, hK, hX, hbs, hbo, hXt, hsz, ho, hL3, hn2⟩ := id S
  obtain ⟨hP, hS, h2, hG, hn, hz, hxs⟩ := id hIv
  simp only [Bool.or_eq_true] at ha
  rcases ha with ha | ha
  · obtain ⟨hKa, hlt⟩ := okA_spec hG ha
    have ha2 : 2 ≤ a := ge2 hKa (by omega)
    have he := ws_get w G ha2 hlt
    rw [enc_a hKa (by omega)] at he
    rw [lenA_ne ha2] at hi
    obtain ⟨hin, hix⟩ := ix_in hi (by have := kx_L_le a; omega)
    show W p l e R s m args below meth c H locs (hN h - n0) (hZ h - z0) Q (F0 m pc ls (.int i :: tv w (.ref a) :: st.map (tv w)))
    rw [tv_ref ha2]
    refine va_zald hx hb hK hP (a - 2) 2 (f := fun j => hI h a j) he (tys_get (by omega)) hin hd ?_
    rw [hix]
    exact kk H locs ls hIv hL
  · obtain ⟨hKa, hlt⟩ := okA_spec hG ha
    have ha2 : 2 ≤ a := ge2 hKa (by omega)
    have he := ws_get w G ha2 hlt
    rw [enc_a hKa (by omega)] at he
    rw [lenA_ne ha2] at hi
    obtain ⟨hin, hix⟩ := ix_in hi (by have := kx_L_le a; omega)
    show W p l e R s m args below meth c H locs (hN h - n0) (hZ h - z0) Q (F0 m pc ls (.int i :: tv w (.ref a) :: st.map (tv w)))
    rw [tv_ref ha2]
    refine va_bald hx hb hK hP (a - 2) 3 (f := fun j => hI h a j) he (tys_get (by omega)) hin hd ?_
    rw [hix]
    exact kk H locs ls hIv hL
theorem g_laload (S : Sf w wV G xs n0 p m c cc nL own s args) {a : Nat} {i : Int32} (ha : okA G h a 4 = true) (hi : inB i (lenA G a) = true) (hd : decode cc pc = .ok (.laload, 1)) (kk : Gd p l e R s m args below meth c Q w G xs n0 z0 nL (pc + 1) lv (.long (hJ h a (ix i)) :: st) h) : Gd p l e R s m args below meth c Q w G xs n0 z0 nL pc lv (.int i :: .ref a :: st) h := by
  intro H locs ls hIv hL
  obtain ⟨hx, hb, hml, hown, hts, hK, hX, hbs, hbo, hXt, hsz, ho, hL3, hn2⟩ := id S
  obtain ⟨hP, hS, h2, hG, hn, hz, hxs⟩ := id hIv
  obtain ⟨hKa, hlt⟩ := okA_spec hG ha
  have ha2 : 2 ≤ a := ge2 hKa (by omega)
  have he := ws_get w G ha2 hlt
  rw [enc_a hKa (by omega)] at he
  rw [lenA_ne ha2] at hi
  obtain ⟨hin, hix⟩ := ix_in hi (by have := kx_L_le a; omega)
  show W p l e R s m args below meth c H locs (hN h - n0) (hZ h - z0) Q (F0 m pc ls (.int i :: tv w (.ref a) :: st.map (tv w)))
  rw [tv_ref ha2]
  refine va_lald hx hb hK hP (a - 2) 4 (f := fun j => hJ h a j) he (tys_get (by omega)) hin hd ?_
  rw [hix]
  exact kk H locs ls hIv hL
theorem g_iastore (S : Sf w wV G xs n0 p m c cc nL own s args) {a : Nat} {i x : Int32} (ha : okW G h a 1 = true) (hi : inB i (lenA G a) = true) (hd : decode cc pc = .ok (.iastore, 1)) (kk : Gd p l e R s m args below meth c Q w G xs n0 z0 nL (pc + 1) lv st (wI h a (ix i) x)) : Gd p l e R s m args below meth c Q w G xs n0 z0 nL pc lv (.int x :: .int i :: .ref a :: st) h := by
  intro H locs ls hIv hL
  obtain ⟨hx, hb, hml, hown, hts, hK, hX, hbs, hbo, hXt, hsz, ho, hL3, hn2⟩ := id S
  obtain ⟨hP, hS, h2, hG, hn, hz, hxs⟩ := id hIv
  obtain ⟨hKa, hlt, ha2⟩ := okW_spec hG ha
  have he := ws_get w G ha2 hlt
  rw [enc_a hKa (by omega)] at he
  rw [lenA_ne ha2] at hi
  obtain ⟨hin, hix⟩ := ix_in hi (by have := kx_L_le a; omega)
  show W p l e R s m args below meth c H locs (hN h - n0) (hZ h - z0) Q (F0 m pc ls (.int x :: .int i :: tv w (.ref a) :: st.map (tv w)))
  rw [tv_ref ha2]
  refine va_iast hx hb hK hP (ws_D w G h) hS (a - 2) 1 (f := fun j => hI h a j) he (tys_get (by omega)) hin hd ?_
  intro H1 locs1 hP1 hD1 hS1
  rw [hix] at hP1
  refine kk H1 locs1 ls (Iv_w hIv ha2 rfl rfl rfl (fun y hy => wI_ne hy) (fun _ _ => rfl) (fun _ _ => rfl) ?_ hS1) hL
  rw [enc_a hKa (by omega), show encA w G (wI h a (ix i) x) a 1 = (kx_L a, .inl (upd (fun j => hI h a j) (ix i) x)) from by unfold encA; rw [wI_at]; rfl]
  exact hP1
theorem g_bastoreZ (S : Sf w wV G xs n0 p m c cc nL own s args) {a : Nat} {i x : Int32} (ha : okW G h a 2 = true) (hi : inB i (lenA G a) = true) (hd : decode cc pc = .ok (.bastore, 1)) (kk : Gd p l e R s m args below meth c Q w G xs n0 z0 nL (pc + 1) lv st (wI h a (ix i) (nrZ x))) : Gd p l e R s m args below meth c Q w G xs n0 z0 nL pc lv (.int x :: .int i :: .ref a :: st) h := by
  intro H locs ls hIv hL
  obtain ⟨hx, hb, hml, hown, hts, hK, hX, hbs, hbo, hXt, hsz, ho, hL3, hn2⟩ := id S
  obtain ⟨hP, hS, h2, hG, hn, hz, hxs⟩ := id hIv
  obtain ⟨hKa, hlt, ha2⟩ := okW_spec hG ha
  have he := ws_get w G ha2 hlt
  rw [enc_a hKa (by omega)] at he
  rw [lenA_ne ha2] at hi
  obtain ⟨hin, hix⟩ := ix_in hi (by have := kx_L_le a; omega)
  show W p l e R s m args below meth c H locs (hN h - n0) (hZ h - z0) Q (F0 m pc ls (.int x :: .int i :: tv w (.ref a) :: st.map (tv w)))
  rw [tv_ref ha2]
  refine va_zast hx hb hK hP (ws_D w G h) hS (a - 2) 2 (f := fun j => hI h a j) he (tys_get (by omega)) hin hd ?_
  intro H1 locs1 hP1 hD1 hS1
  rw [hix] at hP1
  refine kk H1 locs1 ls (Iv_w hIv ha2 rfl rfl rfl (fun y hy => wI_ne hy) (fun _ _ => rfl) (fun _ _ => rfl) ?_ hS1) hL
  rw [enc_a hKa (by omega), show encA w G (wI h a (ix i) (nrZ x)) a 2 = (kx_L a, .inl (upd (fun j => hI h a j) (ix i) (nrZ x))) from by unfold encA; rw [wI_at]; rfl]
  exact hP1
theorem g_bastoreB (S : Sf w wV G xs n0 p m c cc nL own s args) {a : Nat} {i x : Int32} (ha : okW G h a 3 = true) (hi : inB i (lenA G a) = true) (hd : decode cc pc = .ok (.bastore, 1)) (kk : Gd p l e R s m args below meth c Q w G xs n0 z0 nL (pc + 1) lv st (wI h a (ix i) (nrB x))) : Gd p l e R s m args below meth c Q w G xs n0 z0 nL pc lv (.int x :: .int i :: .ref a :: st) h := by
  intro H locs ls hIv hL
  obtain ⟨hx, hb, hml, hown, hts, hK, hX, hbs, hbo, hXt, hsz, ho, hL3, hn2⟩ := id S
  obtain ⟨hP, hS, h2, hG, hn, hz, hxs⟩ := id hIv
  obtain ⟨hKa, hlt, ha2⟩ := okW_spec hG ha
  have he := ws_get w G ha2 hlt
  rw [enc_a hKa (by omega)] at he
  rw [lenA_ne ha2] at hi
  obtain ⟨hin, hix⟩ := ix_in hi (by have := kx_L_le a; omega)
  show W p l e R s m args below meth c H locs (hN h - n0) (hZ h - z0) Q (F0 m pc ls (.int x :: .int i :: tv w (.ref a) :: st.map (tv w)))
  rw [tv_ref ha2]
  refine va_bast hx hb hK hP (ws_D w G h) hS (a - 2) 3 (f := fun j => hI h a j) he (tys_get (by omega)) hin hd ?_
  intro H1 locs1 hP1 hD1 hS1
  rw [hix] at hP1
  refine kk H1 locs1 ls (Iv_w hIv ha2 rfl rfl rfl (fun y hy => wI_ne hy) (fun _ _ => rfl) (fun _ _ => rfl) ?_ hS1) hL
  rw [enc_a hKa (by omega), show encA w G (wI h a (ix i) (nrB x)) a 3 = (kx_L a, .inl (upd (fun j => hI h a j) (ix i) (nrB x))) from by unfold encA; rw [wI_at]; rfl]
  exact hP1
theorem g_lastore (S : Sf w wV G xs n0 p m c cc nL own s args) {a : Nat} {i : Int32} {x : Int64} (ha : okW G h a 4 = true) (hi : inB i (lenA G a) = true) (hd : decode cc pc = .ok (.lastore, 1)) (kk : Gd p l e R s m args below meth c Q w G xs n0 z0 nL (pc + 1) lv st (wJ h a (ix i) x)) : Gd p l e R s m args below meth c Q w G xs n0 z0 nL pc lv (.long x :: .int i :: .ref a :: st) h := by
  intro H locs ls hIv hL
  obtain ⟨hx, hb, hml, hown, hts, hK, hX, hbs, hbo, hXt, hsz, ho, hL3, hn2⟩ := id S
  obtain ⟨hP, hS, h2, hG, hn, hz, hxs⟩ := id hIv
  obtain ⟨hKa, hlt, ha2⟩ := okW_spec hG ha
  have he := ws_get w G ha2 hlt
  rw [enc_a hKa (by omega)] at he
  rw [lenA_ne ha2] at hi
  obtain ⟨hin, hix⟩ := ix_in hi (by have := kx_L_le a; omega)
  show W p l e R s m args below meth c H locs (hN h - n0) (hZ h - z0) Q (F0 m pc ls (.long x :: .int i :: tv w (.ref a) :: st.map (tv w)))
  rw [tv_ref ha2]
  refine va_last hx hb hK hP (ws_D w G h) hS (a - 2) 4 (f := fun j => hJ h a j) he (tys_get (by omega)) hin hd ?_
  intro H1 locs1 hP1 hD1 hS1
  rw [hix] at hP1
  refine kk H1 locs1 ls (Iv_w hIv ha2 rfl rfl rfl (fun _ _ => rfl) (fun y hy => wJ_ne hy) (fun _ _ => rfl) ?_ hS1) hL
  rw [enc_a hKa (by omega), show encA w G (wJ h a (ix i) x) a 4 = (kx_L a, .inr (.inl (vp_updL (fun j => hJ h a j) (ix i) x))) from by unfold encA; rw [wJ_at]; rfl]
  exact hP1
theorem g_aaload (S : Sf w wV G xs n0 p m c cc nL own s args) {a : Nat} {i : Int32} (ha : (Nat.ble 5 (kx_K a) && (Nat.ble (kx_K a) 8 && alive G h a)) = true) (hi : inB i (lenA G a) = true) (hd : decode cc pc = .ok (.aaload, 1)) (kk : Gd p l e R s m args below meth c Q w G xs n0 z0 nL (pc + 1) lv (.ref (rdA G h a (ix i)) :: st) h) : Gd p l e R s m args below meth c Q w G xs n0 z0 nL pc lv (.int i :: .ref a :: st) h := by
  intro H locs ls hIv hL
  obtain ⟨hx, hb, hml, hown, hts, hK, hX, hbs, hbo, hXt, hsz, ho, hL3, hn2⟩ := id S
  obtain ⟨hP, hS, h2, hG, hn, hz, hxs⟩ := id hIv
  simp only [Bool.and_eq_true] at ha
  have hk5 := Nat.le_of_ble_eq_true ha.1
  have hk8 := Nat.le_of_ble_eq_true ha.2.1
  have hlt := alive_lt hG ha.2.2
  have ha2 : 2 ≤ a := ge2 rfl (by omega)
  have he := ws_get w G ha2 hlt
  rw [lenA_ne ha2] at hi
  obtain ⟨hin, hix⟩ := ix_in hi (by have := kx_L_le a; omega)
  have hlt2 : i.toNatClampNeg < kx_L a := Nat.not_le.mp fun q => hin (Or.inr q)
  show W p l e R s m args below meth c H locs (hN h - n0) (hZ h - z0) Q (F0 m pc ls (.int i :: tv w (.ref a) :: st.map (tv w)))
  rw [tv_ref ha2]
  have hty : (kx_at (kx_K a)).isReference = true := by
    rcases (show kx_K a = 5 ∨ kx_K a = 6 ∨ kx_K a = 7 ∨ kx_K a = 8 by omega) with q | q | q | q <;> rw [q] <;> rfl
  have hcell : H[ra w a]? = some (arrV (wA w (kx_K a)) (kx_L a) (fun j => va_rf (ro w (rdA G h a j)))) := by
    have h0 := hP (a - 2) _ he
    rw [enc_a rfl (by omega)] at h0
    have e : encA w G h a (kx_K a) = (kx_L a, .inr (.inr (.inr (.inr (fun j => ro w (rdA G h a j)))))) := by
      rcases (show kx_K a = 5 ∨ kx_K a = 6 ∨ kx_K a = 7 ∨ kx_K a = 8 by omega) with q | q | q | q <;> rw [q] <;> rfl
    rw [e] at h0
    exact h0
  refine W.aald (v := va_rf (ro w (rdA G h a (ix i)))) (ty := kx_at (kx_K a)) hx hb hcell ((hK.2 (kx_K a) _ (tys_get (by omega))).1 _ _) hty (fun q => by cases q) (by rw [arrV_size]; exact hin) (by rw [arrV_read _ _ hlt2, hix]) rfl rfl hd ?_
  exact kk H locs ls hIv hL
theorem rdA_wR {G : PG} {h : PH} {a k r : Nat} (hc : (!G.2.1 || Nat.beq (kx_A a).2 0) = true) (j : Nat) : rdA G (wR h a k r) a j = if j = k then r else rdA G h a j := by
  have e : hR (wR h a k r) a j = if j = k then r else hR h a j := by
    show (if a = a ∧ j = k then r else hR h a j) = _
    simp
  simp only [Bool.or_eq_true, Bool.not_eq_true'] at hc
  unfold rdA
  rw [e]
  rcases hc with q | q
  · rw [q]
  · rw [Nat.eq_of_beq_eq_true q]
    cases G.2.1 <;> rfl
theorem g_aastore (S : Sf w wV G xs n0 p m c cc nL own s args) {a x : Nat} {i : Int32} (ha : (((okW G h a 5 && okA G h x 24) || (okW G h a 6 && okA G h x 30)) && (!G.2.1 || Nat.beq (kx_A a).2 0)) = true) (hi : inB i (lenA G a) = true) (hd : decode cc pc = .ok (.aastore, 1)) (kk : Gd p l e R s m args below meth c Q w G xs n0 z0 nL (pc + 1) lv st (wR h a (ix i) x)) : Gd p l e R s m args below meth c Q w G xs n0 z0 nL pc lv (.ref x :: .int i :: .ref a :: st) h := by
  intro H locs ls hIv hL
  obtain ⟨hx, hb, hml, hown, hts, hK, hX, hbs, hbo, hXt, hsz, ho, hL3, hn2⟩ := id S
  obtain ⟨hP, hS, h2, hG, hn, hz, hxs⟩ := id hIv
  rw [Bool.and_eq_true] at ha
  obtain ⟨ha, hc⟩ := ha
  have fin : ∀ kA : Nat, kx_K a = kA → 2 ≤ a → a < hN h → (kA = 5 ∨ kA = 6) → ∀ (H1 : Heap) (locs1 : List Loc), va_P (wD w) kx_cl ((ws w G h).set (a - 2) (ra w a, .inl (wA w kA, kx_L a, .inr (.inr (.inr (.inr (va_up (fun j => ro w (rdA G h a j)) (ix i) (some (ra w x))))))))) H1 → va_S (wAd w) s.heap H1 locs1 → x ≠ 0 → W p l e R s m args below meth c H1 locs1 (hN h - n0) (hZ h - z0) Q (F0 m (pc + 1) ls (st.map (tv w))) := by
    intro kA hkA ha2 hlt hk H1 locs1 hP1 hS1 hx0
    refine kk H1 locs1 ls (Iv_w hIv ha2 rfl rfl rfl (fun _ _ => rfl) (fun _ _ => rfl) (fun y hy => wR_ne hy) ?_ hS1) hL
    rw [enc_a hkA (by omega)]
    have e : encA w G (wR h a (ix i) x) a kA = (kx_L a, .inr (.inr (.inr (.inr (fun j => ro w (rdA G (wR h a (ix i) x) a j)))))) := by
      rcases hk with q | q <;> rw [q] <;> rfl
    rw [e]
    have e2 : (fun j => ro w (rdA G (wR h a (ix i) x) a j)) = va_up (fun j => ro w (rdA G h a j)) (ix i) (some (ra w x)) := by
      funext j
      rw [rdA_wR hc]
      unfold va_up
      by_cases q : j = ix i
      · rw [if_pos q, if_pos q, ro, if_neg hx0]
      · rw [if_neg q, if_neg q]
    rw [e2]
    exact hP1
  simp only [Bool.or_eq_true, Bool.and_eq_true] at ha
  rcases ha with ⟨ha, hb5⟩ | ⟨ha, hb5⟩
  · obtain ⟨hKa, hlt, ha2⟩ := okW_spec hG ha
    obtain ⟨hKx, hltx⟩ := okA_spec hG hb5
    have hx2 : 2 ≤ x := ge2 hKx (by omega)
    have he := ws_get w G ha2 hlt
    have hex := ws_get w G hx2 hltx
    rw [enc_a hKa (by omega)] at he
    rw [enc_o (ci := 4) hKx] at hex
    rw [lenA_ne ha2] at hi
    obtain ⟨hin, hix⟩ := ix_in hi (by have := kx_L_le a; omega)
    show W p l e R s m args below meth c H locs (hN h - n0) (hZ h - z0) Q (F0 m pc ls (tv w (.ref x) :: .int i :: tv w (.ref a) :: st.map (tv w)))
    rw [tv_ref ha2, tv_ref hx2]
    refine va_astq hx hb hK hP (ws_D w G h) hS (a - 2) 5 (x - 2) 4 (f := fun j => ro w (rdA G h a j)) (r := (kx_R 4, kx_T 4, kx_N 4)) he (tys_get (by omega)) hex (kx_cl_get (by omega)) hin hd ?_
    intro H1 locs1 hP1 hD1 hS1
    rw [hix] at hP1
    exact fin 5 hKa ha2 hlt (Or.inl rfl) H1 locs1 hP1 hS1 (by omega)
  · obtain ⟨hKa, hlt, ha2⟩ := okW_spec hG ha
    obtain ⟨hKx, hltx⟩ := okA_spec hG hb5
    have hx2 : 2 ≤ x := ge2 hKx (by omega)
    have he := ws_get w G ha2 hlt
    have hex := ws_get w G hx2 hltx
    rw [enc_a hKa (by omega)] at he
    rw [enc_o (ci := 10) hKx] at hex
    rw [lenA_ne ha2] at hi
    obtain ⟨hin, hix⟩ := ix_in hi (by have := kx_L_le a; omega)
    show W p l e R s m args below meth c H locs (hN h - n0) (hZ h - z0) Q (F0 m pc ls (tv w (.ref x) :: .int i :: tv w (.ref a) :: st.map (tv w)))
    rw [tv_ref ha2, tv_ref hx2]
    refine va_astq hx hb hK hP (ws_D w G h) hS (a - 2) 6 (x - 2) 10 (f := fun j => ro w (rdA G h a j)) (r := (kx_R 10, kx_T 10, kx_N 10)) he (tys_get (by omega)) hex (kx_cl_get (by omega)) hin hd ?_
    intro H1 locs1 hP1 hD1 hS1
    rw [hix] at hP1
    exact fin 6 hKa ha2 hlt (Or.inr rfl) H1 locs1 hP1 hS1 (by omega)
theorem g_alen (S : Sf w wV G xs n0 p m c cc nL own s args) {a : Nat} (hg : (G.2.1 || Nat.blt 1 a) = true) (ha : (Nat.ble 1 (kx_K a) && (Nat.ble (kx_K a) 8 && alive G h a)) = true) (hd : decode cc pc = .ok (.arraylength, 1)) (kk : Gd p l e R s m args below meth c Q w G xs n0 z0 nL (pc + 1) lv (.int (Int32.ofNat (lenA G a)) :: st) h) : Gd p l e R s m args below meth c Q w G xs n0 z0 nL pc lv (.ref a :: st) h := by
  intro H locs ls hIv hL
  obtain ⟨hx, hb, hml, hown, hts, hK, hX, hbs, hbo, hXt, hsz, ho, hL3, hn2⟩ := id S
  obtain ⟨hP, hS, h2, hG, hn, hz, hxs⟩ := id hIv
  simp only [Bool.and_eq_true] at ha
  have hk1 := Nat.le_of_ble_eq_true ha.1
  have hk8 := Nat.le_of_ble_eq_true ha.2.1
  have hlt := alive_lt hG ha.2.2
  by_cases h1 : a = 1
  · subst h1
    show W p l e R s m args below meth c H locs (hN h - n0) (hZ h - z0) Q (F0 m pc ls (tv w (.ref 1) :: st.map (tv w)))
    rw [tv_ref1 (by omega), show ra w 1 = wb w from rfl]
    refine va_slen hx hb (hX (by simpa [Nat.blt] using hg)) hbs (fun q => by have : wo w ≤ wb w := q; omega) hS hd ?_
    exact kk H locs ls hIv hL
  · have ha2 : 2 ≤ a := by
      rcases Nat.lt_or_ge a 2 with q | q
      · have : a = 0 := by omega
        subst this
        exact absurd (show kx_K 0 = 0 by decide +kernel) (by omega)
      · exact q
    have he := ws_get w G ha2 hlt
    rw [enc_a rfl (by omega)] at he
    show W p l e R s m args below meth c H locs (hN h - n0) (hZ h - z0) Q (F0 m pc ls (tv w (.ref a) :: st.map (tv w)))
    rw [tv_ref ha2]
    refine va_alen hx hb hK hP (a - 2) (kx_K a) he (tys_get (by omega)) (v := Int32.ofNat (lenA G a)) (by rw [lenA_ne ha2]; rfl) hd ?_
    exact kk H locs ls hIv hL
end Sound
