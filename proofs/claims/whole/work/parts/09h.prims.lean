-- PART: the members as steps of the pure machine.
section Prims
variable {p : Program} {l : Launch} {e : Env} {R : Room} {s : State} {m : MethodId} {args : Array Value} {below : List Frame} {meth : Method} {c : Code} {Q : State → Prop} {cc : ByteArray}
variable {w : Wd} {wV : Nat → Nat} {G : PG} {n0 z0 own nL : Nat} {ini : Bool} {ret : Option FieldType} {xs : Nat → Int32} {pc : Nat} {lv st : List Value} {h : PH}
theorem g_len (S : Sf w wV G xs n0 p m c cc nL own s args) (hfr : 8 ≤ R.frames) (hlo : 400 ≤ R.locals) {j mid n rt co t i : Nat} (hf : kx_find (kx_E own) j = some (mid, 10, n, rt, co, t)) (hi : i < kx_byt.length) (hsc : scat st ≤ 8) (hRc : hN h - n0 ≤ R.cells) (hRz : hZ h - z0 ≤ R.slots) (hd : decode cc pc = .ok (.invokevirtual j, 3)) (kk : Gd p l e R s m args below meth c Q w G xs n0 z0 nL (pc + 3) lv (.int (Int32.ofNat (slen i)) :: st) h) : Gd p l e R s m args below meth c Q w G xs n0 z0 nL pc lv (.retAddr i :: st) h := by
  intro H locs ls hIv hL
  obtain ⟨hx, hb, hml, hown, hts, hK, hX, hbs, hbo, hXt, hsz, ho, hL3, hn2⟩ := id S
  have hch := kxE ho hf
  simp only [chE, show Nat.beq 10 4 = false from rfl, show Nat.blt 10 10 = false from rfl, show Nat.beq 10 12 = false from rfl, show Nat.beq 10 10 = true from rfl, cond_true, cond_false] at hch
  exact j_virt (as := []) (rest := st.map (tv w)) (yn := 1) (rm := rmJ 1 30) hx hb (hml.trans hL.1.symm) hown hts hXt hIv.2.1 hi (met_len hi) ⟨rfl, rfl⟩ (tw_in 29 rfl) (tw_in 18 rfl) (isW_in hch) (tw_in 27 rfl) (tw_in 28 rfl) (by decide) ⟨by show 1 + 1 ≤ _; omega, by show 8 + (1 + 11) + 30 ≤ _; omega⟩ (by rw [scat_tv]; exact hsc) hd ⟨hRc, hRz⟩ (kk H locs ls hIv hL)
theorem g_chr (S : Sf w wV G xs n0 p m c cc nL own s args) (hfr : 8 ≤ R.frames) (hlo : 400 ≤ R.locals) {j mid n rt co t i : Nat} {k : Int32} (hf : kx_find (kx_E own) j = some (mid, 11, n, rt, co, t)) (hi : i < kx_byt.length) (hk : inB k (slen i) = true) (hsc : scat st ≤ 8) (hRc : hN h - n0 ≤ R.cells) (hRz : hZ h - z0 ≤ R.slots) (hd : decode cc pc = .ok (.invokevirtual j, 3)) (kk : Gd p l e R s m args below meth c Q w G xs n0 z0 nL (pc + 3) lv (.int (schr i (ix k)) :: st) h) : Gd p l e R s m args below meth c Q w G xs n0 z0 nL pc lv (.int k :: .retAddr i :: st) h := by
  intro H locs ls hIv hL
  obtain ⟨hx, hb, hml, hown, hts, hK, hX, hbs, hbo, hXt, hsz, ho, hL3, hn2⟩ := id S
  have hch := kxE ho hf
  simp only [chE, show Nat.beq 11 4 = false from rfl, show Nat.blt 11 10 = false from rfl, show Nat.beq 11 12 = false from rfl, show Nat.beq 11 10 = false from rfl, show Nat.beq 11 11 = true from rfl, cond_true, cond_false] at hch
  exact j_virt (as := [.int k]) (rest := st.map (tv w)) (yn := 2) (rm := rmJ 3 90) hx hb (hml.trans hL.1.symm) hown hts hXt hIv.2.1 hi (met_chr hi hk) ⟨rfl, rfl⟩ (tw_in 32 rfl) (tw_in 18 rfl) (isW_in hch) (tw_in 30 rfl) (tw_in 31 rfl) ⟨by decide, by decide, show _ = some 1 by decide +kernel⟩ ⟨by show 3 + 1 ≤ _; omega, by show 8 + (2 + 11) + 90 ≤ _; omega⟩ (by rw [scat_tv]; exact hsc) hd ⟨hRc, hRz⟩ (kk H locs ls hIv hL)
theorem g_fmod (S : Sf w wV G xs n0 p m c cc nL own s args) (hfr : 8 ≤ R.frames) (hlo : 400 ≤ R.locals) {j mid n rt co t : Nat} {x y : Int32} (hf : kx_find (kx_E own) j = some (mid, 24, n, rt, co, t)) (hy : ¬ y = 0) (hsc : scat st ≤ 8) (hRc : hN h - n0 ≤ R.cells) (hRz : hZ h - z0 ≤ R.slots) (hd : decode cc pc = .ok (.invokestatic j, 3)) (kk : Gd p l e R s m args below meth c Q w G xs n0 z0 nL (pc + 3) lv (.int (fmod x y) :: st) h) : Gd p l e R s m args below meth c Q w G xs n0 z0 nL pc lv (.int y :: .int x :: st) h := by
  intro H locs ls hIv hL
  obtain ⟨hx, hb, hml, hown, hts, hK, hX, hbs, hbo, hXt, hsz, ho, hL3, hn2⟩ := id S
  have hch := kxE ho hf
  simp only [chE, show Nat.beq 24 4 = false from rfl, show Nat.blt 24 10 = false from rfl, show Nat.beq 24 12 = false from rfl, show Nat.beq 24 10 = false from rfl, show Nat.beq 24 11 = false from rfl, show Nat.beq 24 20 = false from rfl, show Nat.beq 24 21 = false from rfl, show Nat.beq 24 22 = false from rfl, show Nat.beq 24 23 = false from rfl, show Nat.beq 24 24 = true from rfl, cond_true, cond_false, Bool.true_and] at hch
  exact j_stat (n := 0) (as := [.int x, .int y]) (rest := st.map (tv w)) (yn := 3) (rm := rmJ 0 0) hx hb (hml.trans hL.1.symm) hown hts hXt hIv.2.1.2.1 (met_fmod hy) ⟨rfl, rfl⟩ (tw_in 0 rfl) (tw_in 2 rfl) (isW_in hch) (tw_in 1 rfl) ⟨by decide, by decide, show _ = some 2 by decide +kernel⟩ ⟨by show 0 + 1 ≤ _; omega, by show 8 + (3 + 11) + 0 ≤ _; omega⟩ (by rw [scat_tv]; exact hsc) hd ⟨hRc, hRz⟩ (kk H locs ls hIv hL)
theorem g_max (S : Sf w wV G xs n0 p m c cc nL own s args) (hfr : 8 ≤ R.frames) (hlo : 400 ≤ R.locals) {j mid n rt co t : Nat} {x y : Int32} (hf : kx_find (kx_E own) j = some (mid, 20, n, rt, co, t)) (hsc : scat st ≤ 8) (hRc : hN h - n0 ≤ R.cells) (hRz : hZ h - z0 ≤ R.slots) (hd : decode cc pc = .ok (.invokestatic j, 3)) (kk : Gd p l e R s m args below meth c Q w G xs n0 z0 nL (pc + 3) lv (.int (if x < y then y else x) :: st) h) : Gd p l e R s m args below meth c Q w G xs n0 z0 nL pc lv (.int y :: .int x :: st) h := by
  intro H locs ls hIv hL
  obtain ⟨hx, hb, hml, hown, hts, hK, hX, hbs, hbo, hXt, hsz, ho, hL3, hn2⟩ := id S
  have hch := kxE ho hf
  simp only [chE, show Nat.beq 20 4 = false from rfl, show Nat.blt 20 10 = false from rfl, show Nat.beq 20 12 = false from rfl, show Nat.beq 20 10 = false from rfl, show Nat.beq 20 11 = false from rfl, show Nat.beq 20 20 = true from rfl, cond_true, cond_false] at hch
  exact va_mmax hx hb (hml.trans hL.1.symm) hown (hts _ (isW_in hch)) (hts _ (tw_in 36 rfl)) (hts _ (tw_in 2 rfl)) (hts _ (tw_in 37 rfl)) (by omega) (by rw [scat_tv]; omega) hRc hRz hd (kk H locs ls hIv hL)
theorem g_min (S : Sf w wV G xs n0 p m c cc nL own s args) (hfr : 8 ≤ R.frames) (hlo : 400 ≤ R.locals) {j mid n rt co t : Nat} {x y : Int32} (hf : kx_find (kx_E own) j = some (mid, 21, n, rt, co, t)) (hsc : scat st ≤ 8) (hRc : hN h - n0 ≤ R.cells) (hRz : hZ h - z0 ≤ R.slots) (hd : decode cc pc = .ok (.invokestatic j, 3)) (kk : Gd p l e R s m args below meth c Q w G xs n0 z0 nL (pc + 3) lv (.int (if y < x then y else x) :: st) h) : Gd p l e R s m args below meth c Q w G xs n0 z0 nL pc lv (.int y :: .int x :: st) h := by
  intro H locs ls hIv hL
  obtain ⟨hx, hb, hml, hown, hts, hK, hX, hbs, hbo, hXt, hsz, ho, hL3, hn2⟩ := id S
  have hch := kxE ho hf
  simp only [chE, show Nat.beq 21 4 = false from rfl, show Nat.blt 21 10 = false from rfl, show Nat.beq 21 12 = false from rfl, show Nat.beq 21 10 = false from rfl, show Nat.beq 21 11 = false from rfl, show Nat.beq 21 20 = false from rfl, show Nat.beq 21 21 = true from rfl, cond_true, cond_false] at hch
  exact va_mmin hx hb (hml.trans hL.1.symm) hown (hts _ (isW_in hch)) (hts _ (tw_in 38 rfl)) (hts _ (tw_in 2 rfl)) (hts _ (tw_in 39 rfl)) (by omega) (by rw [scat_tv]; omega) hRc hRz hd (kk H locs ls hIv hL)
theorem g_maxJ (S : Sf w wV G xs n0 p m c cc nL own s args) (hfr : 8 ≤ R.frames) (hlo : 400 ≤ R.locals) {j mid n rt co t : Nat} {x y : Int64} (hf : kx_find (kx_E own) j = some (mid, 22, n, rt, co, t)) (hsc : scat st ≤ 8) (hRc : hN h - n0 ≤ R.cells) (hRz : hZ h - z0 ≤ R.slots) (hd : decode cc pc = .ok (.invokestatic j, 3)) (kk : Gd p l e R s m args below meth c Q w G xs n0 z0 nL (pc + 3) lv (.long (if y < x then x else y) :: st) h) : Gd p l e R s m args below meth c Q w G xs n0 z0 nL pc lv (.long y :: .long x :: st) h := by
  intro H locs ls hIv hL
  obtain ⟨hx, hb, hml, hown, hts, hK, hX, hbs, hbo, hXt, hsz, ho, hL3, hn2⟩ := id S
  have hch := kxE ho hf
  simp only [chE, show Nat.beq 22 4 = false from rfl, show Nat.blt 22 10 = false from rfl, show Nat.beq 22 12 = false from rfl, show Nat.beq 22 10 = false from rfl, show Nat.beq 22 11 = false from rfl, show Nat.beq 22 20 = false from rfl, show Nat.beq 22 21 = false from rfl, show Nat.beq 22 22 = true from rfl, cond_true, cond_false] at hch
  exact va_mmax_long hx hb (hml.trans hL.1.symm) hown (hts _ (isW_in hch)) (hts _ (tw_in 40 rfl)) (hts _ (tw_in 2 rfl)) (hts _ (tw_in 41 rfl)) (by omega) (by rw [scat_tv]; omega) hRc hRz hd (kk H locs ls hIv hL)
theorem g_minJ (S : Sf w wV G xs n0 p m c cc nL own s args) (hfr : 8 ≤ R.frames) (hlo : 400 ≤ R.locals) {j mid n rt co t : Nat} {x y : Int64} (hf : kx_find (kx_E own) j = some (mid, 23, n, rt, co, t)) (hsc : scat st ≤ 8) (hRc : hN h - n0 ≤ R.cells) (hRz : hZ h - z0 ≤ R.slots) (hd : decode cc pc = .ok (.invokestatic j, 3)) (kk : Gd p l e R s m args below meth c Q w G xs n0 z0 nL (pc + 3) lv (.long (if y < x then y else x) :: st) h) : Gd p l e R s m args below meth c Q w G xs n0 z0 nL pc lv (.long y :: .long x :: st) h := by
  intro H locs ls hIv hL
  obtain ⟨hx, hb, hml, hown, hts, hK, hX, hbs, hbo, hXt, hsz, ho, hL3, hn2⟩ := id S
  have hch := kxE ho hf
  simp only [chE, show Nat.beq 23 4 = false from rfl, show Nat.blt 23 10 = false from rfl, show Nat.beq 23 12 = false from rfl, show Nat.beq 23 10 = false from rfl, show Nat.beq 23 11 = false from rfl, show Nat.beq 23 20 = false from rfl, show Nat.beq 23 21 = false from rfl, show Nat.beq 23 22 = false from rfl, show Nat.beq 23 23 = true from rfl, cond_true, cond_false] at hch
  exact va_mmin_long hx hb (hml.trans hL.1.symm) hown (hts _ (isW_in hch)) (hts _ (tw_in 42 rfl)) (hts _ (tw_in 2 rfl)) (hts _ (tw_in 43 rfl)) (by omega) (by rw [scat_tv]; omega) hRc hRz hd (kk H locs ls hIv hL)
theorem kx_S_all : (List.range 17).all (fun o => Nat.beq o 9 || (kx_S o).isEmpty) = true := by decide +kernel
theorem g_ldcS (S : Sf w wV G xs n0 p m c cc nL own s args) {j : Nat} {q : Nat × Nat} (hf : kx_find (kx_S own) j = some q) (hd : decode cc pc = .ok (.ldc j, 2)) (kk : Gd p l e R s m args below meth c Q w G xs n0 z0 nL (pc + 2) lv (.retAddr q.1 :: st) h) : Gd p l e R s m args below meth c Q w G xs n0 z0 nL pc lv st h := by
  intro H locs ls hIv hL
  obtain ⟨hx, hb, hml, hown, hts, hK, hX, hbs, hbo, hXt, hsz, ho, hL3, hn2⟩ := id S
  have h9 : own = 9 := by
    have := List.all_eq_true.mp kx_S_all own (List.mem_range.mpr ho)
    rw [Bool.or_eq_true] at this
    rcases this with q | q
    · exact Nat.eq_of_beq_eq_true q
    · rw [List.isEmpty_iff.mp q] at hf
      cases hf
  subst h9
  exact va_ldcS hx hb hown (hXt.2.2.2.2.2.1 _ (kx_find_mem hf)) hd (kk H locs ls hIv hL)
theorem g_cpy (S : Sf w wV G xs n0 p m c cc nL own s args) (hfr : 8 ≤ R.frames) (hlo : 400 ≤ R.locals) {j mid n rt co t a b : Nat} {sp dp q : Int32} (hf : kx_find (kx_E own) j = some (mid, 12, n, rt, co, t)) (hok : cpyOk G h a sp b dp q = true) (hsc : scat st ≤ 8) (hd : decode cc pc = .ok (.invokestatic j, 3)) (kk : Gd p l e R s m args below meth c Q w G xs n0 z0 nL (pc + 3) lv st (cpy h a (ix sp) b (ix dp) (ix q))) : Gd p l e R s m args below meth c Q w G xs n0 z0 nL pc lv (.int q :: .int dp :: .ref b :: .int sp :: .ref a :: st) h := by
  intro H locs ls hIv hL
  obtain ⟨hx, hb, hml, hown, hts, hK, hX, hbs, hbo, hXt, hsz, ho, hL3, hn2⟩ := id S
  obtain ⟨hP, hS, h2, hG, hn, hz, hxs⟩ := id hIv
  have hch := kxE ho hf
  simp only [chE, show Nat.beq 12 4 = false from rfl, show Nat.blt 12 10 = false from rfl, show Nat.beq 12 12 = true from rfl, cond_true, cond_false] at hch
  simp only [cpyOk, Bool.and_eq_true, Bool.not_eq_true'] at hok
  obtain ⟨a1, a2, a3, a4, a5⟩ := hok
  obtain ⟨hKa, hlta, ha2⟩ := okW_spec hG a1
  obtain ⟨hKb, hltb, hb2⟩ := okW_spec hG a2
  rw [lenA_ne ha2] at a4
  rw [lenA_ne hb2] at a5
  have b4 := Nat.le_of_ble_eq_true a4
  have b5 := Nat.le_of_ble_eq_true a5
  have la := kx_L_le a
  have lb := kx_L_le b
  obtain ⟨s0, s1⟩ := ix_nn (n := sp) (B := 2147483648) (by omega) (by omega)
  obtain ⟨d0, d1⟩ := ix_nn (n := dp) (B := 2147483648) (by omega) (by omega)
  obtain ⟨q0, q1⟩ := ix_nn (n := q) (B := 2147483648) (by omega) (by omega)
  have hea := ws_get w G ha2 hlta
  have heb := ws_get w G hb2 hltb
  rw [enc_a hKa (by omega)] at hea
  rw [enc_a hKb (by omega)] at heb
  show W p l e R s m args below meth c H locs (hN h - n0) (hZ h - z0) Q (F0 m pc ls (.int q :: .int dp :: tv w (.ref b) :: .int sp :: tv w (.ref a) :: st.map (tv w)))
  rw [tv_ref ha2, tv_ref hb2]
  have hnw : nativeFrameWords "java/lang/System" "arraycopy" 5 + 11 ≤ 300 := by decide +kernel
  refine va_copyi hx hb (hml.trans hL.1.symm) hown (hts _ (isW_in hch)) (hts _ (tw_in 34 rfl)) (hts _ (tw_in 33 rfl)) (hts _ (tw_in 35 rfl)) hK hP (ws_D w G h) hS (a - 2) (b - 2) 1 1 (ty := .int) hea heb (tys_get (by omega)) (tys_get (by omega)) rfl s0 d0 q0 (by rw [s1, q1]; exact b4) (by rw [d1, q1]; exact b5) (fun i _ => rfl) (by omega) (by rw [scat_tv]; omega) hd ?_
  intro H1 locs1 hP1 hD1 hS1
  refine kk H1 locs1 ls (Iv_w (h' := cpy h a (ix sp) b (ix dp) (ix q)) (a := b) hIv hb2 rfl rfl rfl (fun y hy => ?_) (fun _ _ => rfl) (fun _ _ => rfl) ?_ hS1) hL
  · funext i
    show (if y = b ∧ ix dp ≤ i ∧ i < ix dp + ix q then _ else hI h y i) = hI h y i
    rw [if_neg (fun z => hy z.1)]
  · rw [enc_a hKb (by omega)]
    rw [s1, d1, q1] at hP1
    have ee : encA w G (cpy h a (ix sp) b (ix dp) (ix q)) b 1 = (kx_L b, .inl (va_cpy (fun j => hI h a j) (fun j => hI h b j) (ix sp) (ix dp) (ix q))) := by
      have e1 : (fun j => hI (cpy h a (ix sp) b (ix dp) (ix q)) b j) = va_cpy (fun j => hI h a j) (fun j => hI h b j) (ix sp) (ix dp) (ix q) := by
        funext i
        show (if b = b ∧ ix dp ≤ i ∧ i < ix dp + ix q then hI h a (ix sp + (i - ix dp)) else hI h b i) = (if ix dp ≤ i ∧ i < ix dp + ix q then hI h a (ix sp + (i - ix dp)) else hI h b i)
        simp
      unfold encA
      rw [e1]
      rfl
    rw [ee]
    exact hP1
end Prims
