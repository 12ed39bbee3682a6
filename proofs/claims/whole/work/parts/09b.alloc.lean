-- PART: makings: objects, rows, rows of rows.
theorem ws_push (w : Wd) (G : PG) {h h' : PH} (h2 : 2 ≤ hN h) (hn : hN h' = hN h + 1) (hold : ∀ y, y < hN h → enc w G h' y = enc w G h y) : ws w G h' = ws w G h ++ [(wo w + (hN h - 2), enc w G h' (hN h))] := by
  unfold ws
  rw [hn, show hN h + 1 - 2 = (hN h - 2) + 1 by omega, List.range_succ, List.map_append]
  congr 1
  · refine List.map_congr_left fun i hi => ?_
    have := List.mem_range.mp hi
    rw [hold (i + 2) (by omega)]
  · simp only [List.map_cons, List.map_nil]
    rw [show hN h - 2 + 2 = hN h by omega]
theorem alc_old {h : PH} {n z y : Nat} (hy : y < hN h) : hI (alc h n z) y = hI h y ∧ hJ (alc h n z) y = hJ h y ∧ hR (alc h n z) y = hR h y := by
  have hy' : ¬ (h.1 ≤ y ∧ y < h.1 + n) := fun q => absurd q.1 (Nat.not_le.mpr hy)
  refine ⟨?_, ?_, ?_⟩
  · funext j
    show (if h.1 ≤ y ∧ y < h.1 + n then (0 : Int32) else _) = _
    rw [if_neg hy']
    rfl
  · funext j
    show (if h.1 ≤ y ∧ y < h.1 + n then (0 : Int64) else _) = _
    rw [if_neg hy']
    rfl
  · funext j
    show (if h.1 ≤ y ∧ y < h.1 + n then 0 else _) = _
    rw [if_neg hy']
    rfl
theorem alc_new {h : PH} {z j : Nat} : hI (alc h 1 z) (hN h) j = 0 ∧ hJ (alc h 1 z) (hN h) j = 0 ∧ hR (alc h 1 z) (hN h) j = 0 := by
  have hy' : h.1 ≤ h.1 ∧ h.1 < h.1 + 1 := ⟨Nat.le_refl _, Nat.lt_succ_self _⟩
  refine ⟨?_, ?_, ?_⟩
  · show (if h.1 ≤ h.1 ∧ h.1 < h.1 + 1 then (0 : Int32) else _) = _
    rw [if_pos hy']
  · show (if h.1 ≤ h.1 ∧ h.1 < h.1 + 1 then (0 : Int64) else _) = _
    rw [if_pos hy']
  · show (if h.1 ≤ h.1 ∧ h.1 < h.1 + 1 then 0 else _) = _
    rw [if_pos hy']
theorem fs_def {w : Wd} {G : PG} {h : PH} {ci j z : Nat} (hp : G.2.1 = false) (hc : ci < 12) (hj : j < kx_N ci) : defaultValue (kx_ty ci j) = vp_V (encF w G (alc h 1 z) (hN h) ci) j := by
  have e : vp_V (encF w G (alc h 1 z) (hN h) ci) j = tv w (fval G (alc h 1 z) (hN h) j (kx_tc ci j)) := by
    unfold vp_V
    rw [List.getD_eq_getElem?_getD, encF_get hj]
    rfl
  rw [e]
  by_cases h3 : kx_tc ci j = 3
  · obtain ⟨-, q⟩ := tc_ref hc hj (by omega) (by omega)
    rw [h3]
    show _ = va_rf (ro w (rdR G (alc h 1 z) (hN h) j))
    have e2 : rdR G (alc h 1 z) (hN h) j = 0 := by
      unfold rdR
      rw [hp]
      exact alc_new.2.2
    rw [e2]
    rcases q with ⟨n, q⟩ | ⟨t, q⟩ <;> rw [q] <;> rfl
  · rw [fval_int h3]
    show _ = Value.int (hI (alc h 1 z) (hN h) j)
    rw [alc_new.1]
    rcases tc_int hc hj h3 with ⟨q, -⟩ | ⟨q, -⟩ <;> rw [q] <;> rfl
theorem kxC {own j ci t : Nat} (ho : own < 17) (hf : kx_find (kx_C own) j = some (ci, t)) : chC own (j, ci, t) = true := List.all_eq_true.mp (List.all_eq_true.mp chC_all own (List.mem_range.mpr ho)) _ (kx_find_mem hf)
theorem kxO {ci : Nat} (hc : ci < 12) : Cond.instantiable (kx_R ci) (kx_N ci) ∈ TB ∧ Cond.initialized (kx_R ci) ∈ TB := by
  have h := List.all_eq_true.mp chO_all ci (List.mem_range.mpr hc)
  rw [Bool.and_eq_true] at h
  exact ⟨isW_in h.1, isW_in h.2⟩
theorem ix_nn {n : Int32} {B : Nat} (h : ix n < B) (hB : B ≤ 2147483648) : ¬ n < 0 ∧ n.toNatClampNeg = ix n := by
  have h2 : n.toInt = (ix n : Int) := by
    have e : n.toInt = n.toBitVec.toInt := rfl
    rw [e, BitVec.toInt_eq_toNat_cond]
    have e2 : n.toBitVec.toNat = ix n := rfl
    rw [e2, if_pos (by omega)]
  refine ⟨fun q => ?_, ?_⟩
  · have := Int32.lt_iff_toInt_lt.mp q
    rw [h2] at this
    have e0 : (0 : Int32).toInt = 0 := rfl
    omega
  · show n.toInt.toNat = ix n
    rw [h2]
    rfl
def kx_ac : List (Nat × FieldType) := [(173, .int), (174, .boolean), (385, .byte), (1402, .long)]
theorem kx_ac_ok : kx_ac.all (fun q => isW q.1 (.arrayClass q.2)) = true := by decide +kernel
theorem ac_in {q : Nat × FieldType} (h : q ∈ kx_ac) : Cond.arrayClass q.2 ∈ TB := isW_in (List.all_eq_true.mp kx_ac_ok q h)
section Alloc
variable {p : Program} {l : Launch} {e : Env} {R : Room} {s : State} {m : MethodId} {args : Array Value} {below : List Frame} {meth : Method} {c : Code} {Q : State → Prop} {cc : ByteArray}
variable {w : Wd} {wV : Nat → Nat} {G : PG} {n0 z0 own nL : Nat} {ini : Bool} {ret : Option FieldType} {xs : Nat → Int32} {pc : Nat} {lv st : List Value} {h : PH}
theorem Iv_new (S : Sf w wV G xs n0 p m c cc nL own s args) {H H1 : Heap} {locs : List Loc} {z : Nat} (hIv : Iv w G xs n0 z0 s h H locs) (hHs : H.size = wo w + (hN h - 2)) (z1 : H1.size = H.size + 1) (o1 : ∀ q : Nat, q < H.size → H1[q]? = H[q]?) (ha : va_at (wD w) kx_cl (H.size, enc w G (alc h 1 z) (hN h)) H1) : Iv w G xs n0 z0 s (alc h 1 z) H1 locs := by
  obtain ⟨hP, hS, h2, hG, hn, hz, hxs⟩ := hIv
  have hk : ∀ (k : Nat) (x : Nat × va_E), (ws w G h)[k]? = some x → H1[x.1]? = H[x.1]? := fun k x hx => o1 x.1 ((hP k x hx).lt)
  refine ⟨?_, ⟨Nat.le_trans hS.1 (by omega), fun x h1 h2 => (o1 x (Nat.lt_of_lt_of_le h1 hS.1)).trans (hS.2.1 x h1 h2), hS.2.2⟩, Nat.le_trans h2 (Nat.le_add_right _ _), Nat.le_trans hG (Nat.le_add_right _ _), Nat.le_trans hn (Nat.le_add_right _ _), Nat.le_trans hz (Nat.le_add_right _ _), ?_⟩
  · rw [ws_push w G (h' := alc h 1 z) h2 rfl (fun y hy => enc_congr (alc_old hy).1 (alc_old hy).2.1 (alc_old hy).2.2)]
    refine (hP.kept hk).app (fun k x hx => ?_)
    have hz : k < 1 := (List.getElem?_eq_some_iff.mp hx).1
    rw [show k = 0 by omega] at hx
    cases hx
    rw [← hHs]
    exact ha
  · rw [(alc_old (show 1 < hN h by omega)).1]
    exact hxs
theorem g_new (S : Sf w wV G xs n0 p m c cc nL own s args) (hp : G.2.1 = false) {j ci t : Nat} (hf : kx_find (kx_C own) j = some (ci, t)) (hci : ci < 12) (hk : kx_K (hN h) = 20 + ci) (hRc : hN h + 1 - n0 ≤ R.cells) (hRz : hZ h + kx_N ci - z0 ≤ R.slots) (hd : decode cc pc = .ok (.new j, 3)) (kk : Gd p l e R s m args below meth c Q w G xs n0 z0 nL (pc + 3) lv (.ref (hN h) :: st) (alc h 1 (kx_N ci))) : Gd p l e R s m args below meth c Q w G xs n0 z0 nL pc lv st h := by
  intro H locs ls hIv hL
  obtain ⟨hx, hb, hml, hown, hts, hK, hX, hbs, hbo, hXt, hsz, ho, hL3, hn2⟩ := id S
  obtain ⟨hP, hS, h2, hG, hn, hz, hxs⟩ := id hIv
  have hch := kxC ho hf
  simp only [chC, show Nat.blt ci 12 = true from Nat.ble_eq_true_of_le hci, cond_true] at hch
  refine Iv_size S hIv fun hHs => ?_
  have hKn := hK.1 ci _ (kx_cl_get hci)
  refine W.newcK (C := kx_R ci) (n := kx_N ci) hx hb hown (hts _ (isW_in hch)) (hts _ (kxO hci).1) (hts _ (kxO hci).2) rfl hd (by omega) (by omega) hKn.2.1 rfl fun H1 kC hkC e1 z1 o1 => ?_
  have hat : va_at (wD w) kx_cl (H.size, enc w G (alc h 1 (kx_N ci)) (hN h)) H1 := by
    rw [enc_o hk]
    exact ⟨_, kx_cl_get hci, (u_born (kx_ty ci) hts (kxF_in hci) hKn hkC e1 (kxF_ty hci)).to (fun j hj => fs_def hp hci hj)⟩
  have := kk H1 locs ls (Iv_new S hIv hHs z1 o1 hat) hL
  rw [show hN h - n0 + 1 = hN (alc h 1 (kx_N ci)) - n0 from by show _ = hN h + 1 - n0; omega, show hZ h - z0 + kx_N ci = hZ (alc h 1 (kx_N ci)) - z0 from by show _ = hZ h + kx_N ci - z0; omega]
  rw [List.map_cons, tv_ref h2, show ra w (hN h) = H.size by rw [ra, if_neg (by omega), hHs]] at this
  exact this
theorem encA_new {z k : Nat} (hp : G.2.1 = false) (hk1 : 1 ≤ k) (hk : k < 9) (cA : ClassId) : vp_cell cA (encA w G (alc h 1 z) (hN h) k) = arrV cA (kx_L (hN h)) (fun _ => defaultValue (kx_at k)) := by
  have e1 : (fun j => hI (alc h 1 z) (hN h) j) = fun _ => 0 := funext fun j => alc_new.1
  have e2 : (fun j => hJ (alc h 1 z) (hN h) j) = fun _ => 0 := funext fun j => alc_new.2.1
  have e3 : (fun j => ro w (rdA G (alc h 1 z) (hN h) j)) = fun _ => none := funext fun j => by
    unfold rdA
    rw [hp]
    show ro w (hR (alc h 1 z) (hN h) j) = none
    rw [alc_new.2.2]
    rfl
  unfold encA
  match k, hk1, hk with
  | 0, hk1, _ => exact absurd hk1 (by decide)
  | 1, _, _ => simp only [e1]; rfl
  | 2, _, _ => simp only [e1]; rfl
  | 3, _, _ => simp only [e1]; rfl
  | 4, _, _ => simp only [e2]; rfl
  | 5, _, _ => simp only [e3]; rfl
  | 6, _, _ => simp only [e3]; rfl
  | 7, _, _ => simp only [e3]; rfl
  | 8, _, _ => simp only [e3]; rfl
theorem cA_of {k : Nat} (S : Sf w wV G xs n0 p m c cc nL own s args) (h1 : 1 ≤ k) (hk : k < 9) {cA : ClassId} (hf : s.vm.findClass ("[" ++ (kx_at k).toString) = some cA) : cA = wA w k := by
  obtain ⟨hx, hb, hml, hown, hts, hK, hX, hbs, hbo, hXt, hsz, ho, hL3, hn2⟩ := id S
  have hRA := (hK.2 k _ (tys_get hk)).2
  have : s.vm.findClass ("[" ++ (kx_at k).toString) = some (wA w k) := by
    match k, h1, hk with
    | 0, h1, _ => exact absurd h1 (by decide)
    | 1, _, _ => exact hRA
    | 2, _, _ => exact hRA
    | 3, _, _ => exact hRA
    | 4, _, _ => exact hRA
    | 5, _, _ => obtain ⟨-, -, -, -, -, q⟩ := hRA; exact q
    | 6, _, _ => obtain ⟨-, -, -, -, -, q⟩ := hRA; exact q
    | 7, _, _ => exact hRA
    | 8, _, _ => exact hRA
  rw [hf] at this
  exact Option.some.inj this
theorem g_newarr (S : Sf w wV G xs n0 p m c cc nL own s args) (hp : G.2.1 = false) {t : ArrayType} {n : Int32} (h0 : 0 < aOk t) (hk : kx_K (hN h) = aOk t) (hl : kx_L (hN h) = ix n) (hb1 : ix n < 1000000) (hRc : hN h + 1 - n0 ≤ R.cells) (hRz : hZ h + ix n - z0 ≤ R.slots) (hd : decode cc pc = .ok (.newarray t, 2)) (kk : Gd p l e R s m args below meth c Q w G xs n0 z0 nL (pc + 2) lv (.ref (hN h) :: st) (alc h 1 (ix n))) : Gd p l e R s m args below meth c Q w G xs n0 z0 nL pc lv (.int n :: st) h := by
  intro H locs ls hIv hL
  obtain ⟨hx, hb, hml, hown, hts, hK, hX, hbs, hbo, hXt, hsz, ho, hL3, hn2⟩ := id S
  obtain ⟨hP, hS, h2, hG, hn, hz, hxs⟩ := id hIv
  obtain ⟨hn0, hnc⟩ := ix_nn hb1 (by omega)
  have ht : newarray.typeOf t = kx_at (aOk t) ∧ aOk t < 5 ∧ Cond.arrayClass (newarray.typeOf t) ∈ TB ∧ componentBytes (newarray.typeOf t) ≤ 8 := by
    cases t <;> first | (exact absurd h0 (by decide)) | exact ⟨rfl, by decide, ac_in (q := (173, .int)) (by simp [kx_ac]), by decide⟩ | exact ⟨rfl, by decide, ac_in (q := (174, .boolean)) (by simp [kx_ac]), by decide⟩ | exact ⟨rfl, by decide, ac_in (q := (385, .byte)) (by simp [kx_ac]), by decide⟩ | exact ⟨rfl, by decide, ac_in (q := (1402, .long)) (by simp [kx_ac]), by decide⟩
  obtain ⟨t1, t2, t3, t4⟩ := ht
  refine Iv_size S hIv fun hHs => ?_
  have hmul : ix n * componentBytes (newarray.typeOf t) ≤ ix n * 8 := Nat.mul_le_mul_left _ t4
  refine va_newaK (N := ix n) hx hb (hts _ t3) rfl hd rfl hn0 hnc (by omega) (by omega) (by omega) rfl fun H1 cA e1 z1 o1 hAr hNm => ?_
  rw [t1] at hNm e1
  have hcA := cA_of S h0 (by omega) hNm
  have hat : va_at (wD w) kx_cl (H.size, enc w G (alc h 1 (ix n)) (hN h)) H1 := by
    rw [enc_a hk (by omega)]
    show H1[H.size]? = some (vp_cell (wA w (aOk t)) _)
    rw [encA_new hp h0 (by omega), hl, ← hcA]
    exact e1
  have := kk H1 locs ls (Iv_new S hIv hHs z1 o1 hat) hL
  rw [show hN h - n0 + 1 = hN (alc h 1 (ix n)) - n0 from by show _ = hN h + 1 - n0; omega, show hZ h - z0 + ix n = hZ (alc h 1 (ix n)) - z0 from by show _ = hZ h + ix n - z0; omega]
  rw [List.map_cons, tv_ref h2, show ra w (hN h) = H.size by rw [ra, if_neg (by omega), hHs]] at this
  exact this
theorem g_anew (S : Sf w wV G xs n0 p m c cc nL own s args) (hp : G.2.1 = false) {j ci t k : Nat} {n : Int32} (hf : kx_find (kx_C own) j = some (ci, t)) (hck : (ci = 4 ∧ k = 5) ∨ (ci = 10 ∧ k = 6)) (hk : kx_K (hN h) = k) (hl : kx_L (hN h) = ix n) (hb1 : ix n < 1000000) (hRc : hN h + 1 - n0 ≤ R.cells) (hRz : hZ h + ix n - z0 ≤ R.slots) (hd : decode cc pc = .ok (.anewarray j, 3)) (kk : Gd p l e R s m args below meth c Q w G xs n0 z0 nL (pc + 3) lv (.ref (hN h) :: st) (alc h 1 (ix n))) : Gd p l e R s m args below meth c Q w G xs n0 z0 nL pc lv (.int n :: st) h := by
  intro H locs ls hIv hL
  obtain ⟨hx, hb, hml, hown, hts, hK, hX, hbs, hbo, hXt, hsz, ho, hL3, hn2⟩ := id S
  obtain ⟨hP, hS, h2, hG, hn, hz, hxs⟩ := id hIv
  obtain ⟨hn0, hnc⟩ := ix_nn hb1 (by omega)
  have hch := kxC ho hf
  have ht : Cond.classLink (kx_R own) j (kx_R ci) ∈ TB ∧ va_AO (kx_R ci) s ∧ kx_at k = .object (kx_R ci) ∧ 1 ≤ k ∧ k < 9 := by
    rcases hck with ⟨rfl, rfl⟩ | ⟨rfl, rfl⟩
    · exact ⟨isW_in hch, hXt.2.1, rfl, by omega, by omega⟩
    · exact ⟨isW_in hch, hXt.2.2.1, rfl, by omega, by omega⟩
  obtain ⟨t1, t2, t3, t4, t5⟩ := ht
  refine Iv_size S hIv fun hHs => ?_
  refine W.anew hx hb hown (hts _ t1) (va_AO.use t2) rfl hd rfl hn0 (by omega) (by omega) (by omega) fun cA kA comp f1 f2 f3 f4 => ?_
  rw [hnc]
  generalize hH1 : H.push ({ cls := cA, slots := Array.replicate (ix n) .null, vm := .none } : Cell) = H1
  have z1 : H1.size = H.size + 1 := by rw [← hH1, Array.size_push]
  have e1 : H1[H.size]? = some (arrV cA (ix n) (fun _ => .null)) := by rw [← hH1, Array.getElem?_push_size, ← arrV_new]
  have o1 : ∀ q : Nat, q < H.size → H1[q]? = H[q]? := fun q hq => by rw [← hH1, Array.getElem?_push, if_neg (Nat.ne_of_lt hq)]
  have hcA := cA_of (k := k) S t4 t5 (by rw [t3]; exact f1)
  have hat : va_at (wD w) kx_cl (H.size, enc w G (alc h 1 (ix n)) (hN h)) H1 := by
    rw [enc_a hk (by omega)]
    show H1[H.size]? = some (vp_cell (wA w k) _)
    rw [encA_new hp t4 t5, hl, ← hcA, t3]
    exact e1
  have := kk H1 locs ls (Iv_new S hIv hHs z1 o1 hat) hL
  rw [show hN h - n0 + 1 = hN (alc h 1 (ix n)) - n0 from by show _ = hN h + 1 - n0; omega, show hZ h - z0 + ix n = hZ (alc h 1 (ix n)) - z0 from by show _ = hZ h + ix n - z0; omega]
  rw [List.map_cons, tv_ref h2, show ra w (hN h) = H.size by rw [ra, if_neg (by omega), hHs]] at this
  exact this
end Alloc
