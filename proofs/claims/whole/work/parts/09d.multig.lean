theorem arrV_congr {cA : ClassId} {N : Nat} {f g : Nat → Value} (h : ∀ j, j < N → f j = g j) : arrV cA N f = arrV cA N g := by
  unfold arrV
  congr 1
  apply Array.ext
  · simp
  · intro j h1 h2
    have hj : j < N := by simpa using h1
    simp only [Array.getElem_ofFn]
    exact h j hj
theorem alcM_old {h : PH} {N K y : Nat} (hy : y < hN h) : hI (alcM h N K) y = hI h y ∧ hJ (alcM h N K) y = hJ h y ∧ hR (alcM h N K) y = hR h y := by
  have hy' : ¬ (h.1 ≤ y ∧ y < h.1 + (1 + N)) := fun q => absurd q.1 (Nat.not_le.mpr hy)
  refine ⟨?_, ?_, ?_⟩
  · funext j
    show (if h.1 ≤ y ∧ y < h.1 + (1 + N) then (0 : Int32) else _) = _
    rw [if_neg hy']
    rfl
  · funext j
    show (if h.1 ≤ y ∧ y < h.1 + (1 + N) then (0 : Int64) else _) = _
    rw [if_neg hy']
    rfl
  · funext j
    show (if y = h.1 then _ else if h.1 ≤ y ∧ y < h.1 + (1 + N) then 0 else _) = _
    rw [if_neg (show ¬ y = h.1 from Nat.ne_of_lt hy), if_neg hy']
    rfl
theorem alcM_in {h : PH} {N K j i : Nat} (hj : j < N) : hI (alcM h N K) (hN h + 1 + j) i = 0 := by
  show (if h.1 ≤ h.1 + 1 + j ∧ h.1 + 1 + j < h.1 + (1 + N) then (0 : Int32) else _) = _
  rw [if_pos ⟨by omega, by omega⟩]
theorem alcM_out {h : PH} {N K j : Nat} (hj : j < N) : hR (alcM h N K) (hN h) j = hN h + 1 + j := by
  show (if h.1 = h.1 then (if j < N then h.1 + 1 + j else 0) else _) = _
  rw [if_pos rfl, if_pos hj]
  rfl
section MulG
variable {p : Program} {l : Launch} {e : Env} {R : Room} {s : State} {m : MethodId} {args : Array Value} {below : List Frame} {meth : Method} {c : Code} {Q : State → Prop} {cc : ByteArray}
variable {w : Wd} {wV : Nat → Nat} {G : PG} {n0 z0 own nL : Nat} {ini : Bool} {ret : Option FieldType} {xs : Nat → Int32} {pc : Nat} {lv st : List Value} {h : PH}
theorem g_multi (S : Sf w wV G xs n0 p m c cc nL own s args) (hp : G.2.1 = false) {j ci t kO kI : Nat} {n q : Int32} (hf : kx_find (kx_C own) j = some (ci, t)) (hck : (ci = 107 ∧ kO = 7 ∧ kI = 1) ∨ (ci = 108 ∧ kO = 8 ∧ kI = 3)) (hk : kx_K (hN h) = kO) (hl : kx_L (hN h) = ix n) (hn1 : ix n < 1000) (hq1 : ix q < 100000) (hin : ∀ j, j < ix n → kx_K (hN h + 1 + j) = kI ∧ kx_L (hN h + 1 + j) = ix q) (hRc : hN h + (1 + ix n) - n0 ≤ R.cells) (hRz : hZ h + (ix n + ix n * ix q) - z0 ≤ R.slots) (hd : decode cc pc = .ok (.multianewarray j 2, 4)) (kk : Gd p l e R s m args below meth c Q w G xs n0 z0 nL (pc + 4) lv (.ref (hN h) :: st) (alcM h (ix n) (ix q))) : Gd p l e R s m args below meth c Q w G xs n0 z0 nL pc lv (.int q :: .int n :: st) h := by
  intro H locs ls hIv hL
  obtain ⟨hx, hb, hml, hown, hts, hK, hX, hbs, hbo, hXt, hsz, ho, hL3, hn2⟩ := id S
  obtain ⟨hP, hS, h2, hG, hn, hz, hxs⟩ := id hIv
  obtain ⟨hn0, hnc⟩ := ix_nn hn1 (by omega)
  obtain ⟨hq0, hqc⟩ := ix_nn hq1 (by omega)
  have hch := kxC ho hf
  have ht : ∃ ty : FieldType, Cond.classLink (kx_R own) j ("[" ++ (FieldType.array ty).toString) ∈ TB ∧ AOA ty s ∧ kx_at kI = ty ∧ kx_at kO = .array ty ∧ Cond.arrayClass ty ∈ TB ∧ componentBytes ty ≤ 8 ∧ fits ty (defaultValue ty) = true ∧ (FieldType.array ty).toString = "[" ++ ty.toString ∧ defaultValue ty = .int 0 := by
    rcases hck with ⟨rfl, rfl, rfl⟩ | ⟨rfl, rfl, rfl⟩
    · refine ⟨.int, ?_, hXt.2.2.2.1, rfl, rfl, ac_in (q := (173, .int)) (by simp [kx_ac]), by decide, rfl, rfl, rfl⟩
      simp only [chC, show Nat.blt 107 12 = false from rfl, cond_false, Bool.and_eq_true, if_true] at hch
      exact isW_in hch.1
    · refine ⟨.byte, ?_, hXt.2.2.2.2.1, rfl, rfl, ac_in (q := (385, .byte)) (by simp [kx_ac]), by decide, rfl, rfl, rfl⟩
      simp only [chC, show Nat.blt 108 12 = false from rfl, cond_false, Bool.and_eq_true, show ¬ (108 = 107) by decide, if_false] at hch
      exact isW_in hch.1
  obtain ⟨ty, t1, t2, t3, t4, t5, t6, t7, t8, t9⟩ := ht
  have hI13 : kI = 1 ∨ kI = 3 := by omega
  have hO78 : kO = 7 ∨ kO = 8 := by omega
  refine Iv_size S hIv fun hHs => ?_
  have hm1 : ix q * componentBytes ty ≤ ix q * 8 := Nat.mul_le_mul_left _ t6
  show W p l e R s m args below meth c H locs (hN h - n0) (hZ h - z0) Q (F0 m pc ls (.int q :: .int n :: st.map (tv w)))
  refine W_multi (ty := ty) hx hb hown (hts _ t1) t2 (hts _ t5) rfl hd rfl hn0 hq0 (by omega) (by rw [hqc]; omega) (by omega) t7 (by rw [hnc]; omega) (by rw [hnc, hqc]; omega) ?_
  intro cA comp H1 f1 f2 z1 e1 o1 i1
  rw [hnc, hqc] at *
  have hcA := cA_of (k := kO) S (by omega) (by omega) (by rw [t4]; exact f1)
  have hco := cA_of (k := kI) S (by omega) (by omega) (by rw [t3, ← t8]; exact f2)
  have hP1 : va_P (wD w) kx_cl (ws w G (alcM h (ix n) (ix q))) H1 := by
    intro k x hx0
    simp only [ws, List.getElem?_map, Option.map_eq_some_iff] at hx0
    obtain ⟨i, hi, rfl⟩ := hx0
    obtain ⟨hi1, rfl⟩ := List.getElem?_eq_some_iff.mp hi
    simp only [List.length_range] at hi1
    simp only [List.getElem_range]
    have hi2 : k < hN h + (1 + ix n) - 2 := hi1
    by_cases c1 : k + 2 < hN h
    · have he := ws_get w G (h := h) (x := k + 2) (by omega) c1
      rw [show k + 2 - 2 = k by omega, ra, if_neg (by omega), show k + 2 - 2 = k by omega] at he
      have h0 := (hP k _ he).kept (H1 := H1) (o1 _ ((hP k _ he).lt))
      rw [enc_congr (alcM_old c1).1 (alcM_old c1).2.1 (alcM_old c1).2.2]
      exact h0
    · by_cases c2 : k + 2 = hN h
      · rw [c2, enc_a hk (by omega)]
        show H1[wo w + k]? = some (vp_cell (wA w kO) _)
        rw [show wo w + k = H.size by omega, e1, hcA]
        have ee : encA w G (alcM h (ix n) (ix q)) (hN h) kO = (ix n, .inr (.inr (.inr (.inr (fun j => ro w (rdA G (alcM h (ix n) (ix q)) (hN h) j)))))) := by
          unfold encA
          rw [hl]
          rcases hO78 with r | r <;> rw [r] <;> rfl
        rw [ee]
        show _ = some (arrV (wA w kO) (ix n) (fun j => va_rf (ro w (rdA G (alcM h (ix n) (ix q)) (hN h) j))))
        congr 1
        refine arrV_congr fun j hj => ?_
        have er : rdA G (alcM h (ix n) (ix q)) (hN h) j = hN h + 1 + j := by
          unfold rdA
          rw [hp]
          exact alcM_out hj
        rw [er, ro, if_neg (by omega), ra, if_neg (by omega)]
        exact congrArg Value.ref (show H.size + 1 + j = wo w + (hN h + 1 + j - 2) by omega)
      · obtain ⟨jj, hjj⟩ : ∃ jj, k + 2 = hN h + 1 + jj := ⟨k + 2 - hN h - 1, by omega⟩
        have hjn : jj < ix n := by omega
        obtain ⟨hk1, hl1⟩ := hin jj hjn
        rw [hjj, enc_a hk1 (by omega)]
        show H1[wo w + k]? = some (vp_cell (wA w kI) _)
        rw [show wo w + k = H.size + 1 + jj by omega, i1 jj hjn, hco, t9]
        have ee : encA w G (alcM h (ix n) (ix q)) (hN h + 1 + jj) kI = (ix q, .inl (fun j => hI (alcM h (ix n) (ix q)) (hN h + 1 + jj) j)) := by
          unfold encA
          rw [hl1]
          rcases hI13 with r | r <;> rw [r] <;> rfl
        rw [ee]
        show _ = some (arrV (wA w kI) (ix q) (fun j => .int (hI (alcM h (ix n) (ix q)) (hN h + 1 + jj) j)))
        congr 1
        exact arrV_congr fun j hj => by rw [alcM_in hjn]
  have hIv1 : Iv w G xs n0 z0 s (alcM h (ix n) (ix q)) H1 (locs ++ (List.range (ix n)).map fun j => ⟨H.size, j⟩) := by
    refine ⟨hP1, ⟨Nat.le_trans hS.1 (by omega), fun x h1 h2 => (o1 x (Nat.lt_of_lt_of_le h1 hS.1)).trans (hS.2.1 x h1 h2), fun x hx0 => ?_⟩, Nat.le_trans h2 (Nat.le_add_right _ _), Nat.le_trans hG (Nat.le_add_right _ _), Nat.le_trans hn (Nat.le_add_right _ _), Nat.le_trans hz (Nat.le_add_right _ _), ?_⟩
    · rcases List.mem_append.mp hx0 with r | r
      · exact hS.2.2 x r
      · obtain ⟨j, -, rfl⟩ := List.mem_map.mp r
        show wo w ≤ H.size
        omega
    · rw [(alcM_old (show 1 < hN h by omega)).1]
      exact hxs
  have := kk H1 _ ls hIv1 hL
  rw [show hN h - n0 + 1 + ix n = hN (alcM h (ix n) (ix q)) - n0 from by show _ = hN h + (1 + ix n) - n0; omega, show hZ h - z0 + ix n + ix n * ix q = hZ (alcM h (ix n) (ix q)) - z0 from by show _ = hZ h + (ix n + ix n * ix q) - z0; omega]
  rw [List.map_cons, tv_ref h2, show ra w (hN h) = H.size by rw [ra, if_neg (by omega), hHs]] at this
  exact this
end MulG
