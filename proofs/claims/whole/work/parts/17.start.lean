-- PART: whole_start out of the pure law.
def setX (h : PH) (xs : Nat → Int32) : PH := (h.1, h.2.1, fun x j => if x = 1 then xs j else h.2.2.1 x j, h.2.2.2.1, h.2.2.2.2)
theorem setX_ne {h : PH} {xs : Nat → Int32} {y : Nat} (hy : 2 ≤ y) : hI (setX h xs) y = hI h y := by
  funext j
  show (if y = 1 then xs j else hI h y j) = hI h y j
  rw [if_neg (by omega)]
theorem setX_1 {h : PH} {xs : Nat → Int32} : hI (setX h xs) 1 = xs := by
  funext j
  show (if 1 = 1 then xs j else hI h 1 j) = xs j
  rw [if_pos rfl]
/-- what holds behind the constructors -/
def Init (h : PH) : Prop := hN h = 289 ∧ hZ h ≤ 100000 ∧ ∃ g : PH, tInt g = true ∧ ∀ a, 2 ≤ a → hI h a = hI g a
def LawOk : Prop := ∀ (L : Nat) (h : PH), L ≤ 3072 → Init h → ∃ h', runL (g2 L) 100 12 false (some .boolean) kc_law 18 [.ref 1, .ref 2, .ref 253, .int 0] [] h = some (some (.int 1), h')
theorem tRef_Q {h : PH} (ht : tRef h = true) {a k : Nat} (ha : a < 289) : (kx_Q a).getD k 0 = 0 ∨ (kx_Q a).getD k 0 = hR h a k := by
  have h1 := List.all_eq_true.mp ht a (List.mem_range.mpr ha)
  rw [Bool.and_eq_true] at h1
  by_cases hk : k < (kx_Q a).length
  · have h2 := List.all_eq_true.mp h1.1 k (List.mem_range.mpr hk)
    rw [Bool.or_eq_true] at h2
    exact h2.imp Nat.eq_of_beq_eq_true Nat.eq_of_beq_eq_true
  · refine Or.inl ?_
    rw [List.getD_eq_getElem?_getD, List.getElem?_eq_none (by omega)]
    rfl
theorem tRef_A {h : PH} (ht : tRef h = true) {a i L : Nat} (ha : a < 289) (hi : i < kx_L a) : rdA (g2 L) h a i = hR h a i := by
  have h1 := List.all_eq_true.mp ht a (List.mem_range.mpr ha)
  rw [Bool.and_eq_true, Bool.or_eq_true] at h1
  rcases h1.2 with q | q
  · show (match (kx_A a).2 with
    | 0 => hR h a i
    | 1 => (kx_A a).1 + i
    | _ => (kx_A a).1 + (kx_A a).2 * i) = _
    rw [Nat.eq_of_beq_eq_true q]
    rfl
  · exact Nat.eq_of_beq_eq_true (List.all_eq_true.mp q i (List.mem_range.mpr hi))
theorem trans_P {w : Wd} {L : Nat} {h : PH} {xs : Nat → Int32} {H : Heap} (hn : hN h = 289) (ht : tRef h = true) (hP : va_P (wD w) kx_cl (ws w G1 h) H) : va_P (wD w) kx_cl (ws w (g2 L) (setX h xs)) H := by
  intro k x hx
  simp only [ws, List.getElem?_map, Option.map_eq_some_iff] at hx
  obtain ⟨i, hi, rfl⟩ := hx
  obtain ⟨hi1, rfl⟩ := List.getElem?_eq_some_iff.mp hi
  simp only [List.length_range] at hi1
  simp only [List.getElem_range]
  have hi2 : k < hN h - 2 := hi1
  have he := ws_get w G1 (h := h) (x := k + 2) (by omega) (by omega)
  rw [show k + 2 - 2 = k by omega, ra, if_neg (by omega), show k + 2 - 2 = k by omega] at he
  have h0 := hP k _ he
  have hy : k + 2 < 289 := by omega
  have hy2 : 2 ≤ k + 2 := by omega
  generalize k + 2 = y at h0 hy hy2 ⊢
  by_cases h20 : 20 ≤ kx_K y
  · obtain ⟨ci, hci⟩ : ∃ ci, kx_K y = 20 + ci := ⟨kx_K y - 20, by omega⟩
    rw [enc_o hci] at h0 ⊢
    have ee : encF w (g2 L) (setX h xs) y ci = encF w G1 h y ci := by
      unfold encF
      refine List.map_congr_left fun j _ => ?_
      congr 1
      unfold fval
      split
      · congr 1
        show (match (kx_Q y).getD j 0 with
          | 0 => hR h y j
          | r + 1 => r + 1) = hR h y j
        rcases tRef_Q ht hy (k := j) with q | q
        · rw [q]
        · rw [q]
          cases hR h y j <;> rfl
      · rw [setX_ne hy2]
    rw [ee]
    exact h0
  · rw [enc_a rfl (by omega)] at h0 ⊢
    have ee : vp_cell (wA w (kx_K y)) (encA w (g2 L) (setX h xs) y (kx_K y)) = vp_cell (wA w (kx_K y)) (encA w G1 h y (kx_K y)) := by
      generalize kx_K y = kk
      have e1 : hI (setX h xs) y = hI h y := setX_ne hy2
      have e3 : arrV (wA w kk) (kx_L y) (fun j => va_rf (ro w (rdA (g2 L) (setX h xs) y j))) = arrV (wA w kk) (kx_L y) (fun j => va_rf (ro w (rdA G1 h y j))) := arrV_congr fun j hj => by
        have : rdA (g2 L) (setX h xs) y j = rdA G1 h y j := tRef_A (L := L) ht hy hj
        rw [this]
      unfold encA
      match kk, e3 with
      | 0, e3 => exact e3
      | 1, _ => rw [e1]; rfl
      | 2, _ => rw [e1]; rfl
      | 3, _ => rw [e1]; rfl
      | 4, _ => rfl
      | kk + 5, e3 => exact e3
    show H[wo w + k]? = some (vp_cell _ _)
    rw [ee]
    exact h0
theorem lawA_is : ∃ h1 : PH, lawA = some (none, h1) ∧ hN h1 = 289 ∧ hZ h1 ≤ 100000 ∧ tRef h1 = true ∧ tInt h1 = true := by
  have h := lawA_ok
  unfold tAll at h
  split at h
  · rename_i h1 he
    simp only [Bool.and_eq_true] at h
    exact ⟨h1, he, Nat.eq_of_beq_eq_true h.1, Nat.le_of_ble_eq_true h.2.1, h.2.2.1, h.2.2.2⟩
  · cases h
theorem kfin_some {pc : Nat} {lv st : List Value} {h h1 : PH} {r : Option Value} (hs : kfin pc lv st h = some (r, h1)) : pc = 18 ∧ lv = [.ref 1, .ref 2, .ref 253, .int 0] ∧ st = [] ∧ h = h1 ∧ r = none := by
  unfold kfin at hs
  split at hs
  · rename_i a b c x
    cases hb : (Nat.beq pc 18 && (Nat.beq a 1 && (Nat.beq b 2 && (Nat.beq c 253 && decide (x = 0)))))
    · rw [hb] at hs
      cases hs
    · rw [hb] at hs
      cases hs
      simp only [Bool.and_eq_true, decide_eq_true_eq] at hb
      obtain ⟨b1, b2, b3, b4, b5⟩ := hb
      rw [Nat.eq_of_beq_eq_true b2, Nat.eq_of_beq_eq_true b3, Nat.eq_of_beq_eq_true b4, b5]
      exact ⟨Nat.eq_of_beq_eq_true b1, rfl, rfl, rfl, rfl⟩
  · cases hs
theorem whole_of (hlaw : LawOk) {p : Program} {e : Env} {s : State} {m : MethodId} {below : List Frame} {meth : Method} {c : Code} (l : Launch) {b L : Nat} {xs : Nat → Int32} (hL : L ≤ 3072) (C0 : lw_At p s m meth c b L xs) : W p l e room_1 s m #[Value.ref b] below meth c s.heap [] 0 0 (lw_Z below #[Value.ref b] s) (entryFrame m ([Value.ref b] : List Value).toArray 4) := by
  obtain ⟨hx, hb, hr, hml, hown, hts, hX, hbl, hlocks, hgv⟩ := id C0
  obtain ⟨w, wV, hwb, hwo, hK, hXt⟩ := world_ex C0
  have htB : ∀ q ∈ TB, q.before #[Value.ref b] s = true := fun q hq => hts q (TB_tbl hq)
  obtain ⟨h1, hA, hn1, hz1, htr, hti⟩ := lawA_is
  have hbo : wb w < wo w := by rw [hwb, hwo]; exact hbl
  have S1 : Sf w wV G1 (fun _ => 0) 2 p m c code 4 12 s #[Value.ref b] := ⟨hx, hb, hml, hown, htB, hK, (fun q => by cases q), by rw [hwb]; exact hbl, hbo, hXt, by rw [hwo]; rfl, by omega, by show 0 ≤ 3072; omega, by omega⟩
  have S2 : Sf w wV (g2 L) xs 2 p m c code 4 12 s #[Value.ref b] := ⟨hx, hb, hml, hown, htB, hK, (fun _ => by rw [hwb]; exact hX), by rw [hwb]; exact hbl, hbo, hXt, by rw [hwo]; rfl, by omega, hL, by omega⟩
  -- the second phase
  obtain ⟨h2, hrun⟩ := hlaw L (setX h1 xs) hL ⟨hn1, hz1, h1, hti, fun a ha => setX_ne ha⟩
  obtain ⟨n2, hrun⟩ := runL_some.mp hrun
  obtain ⟨e1, e2⟩ := runN_Rz (G := g2 L) rfl (fun m as h r h1 => exec_Rz rfl 100 m as h r h1) n2 _ _ _ _ hrun
  have e1 : hN h2 = 289 := e1.trans hn1
  have e2 : hZ h2 = hZ h1 := e2
  have g2 : Gd p l e room_1 s m #[Value.ref b] below meth c (lw_Z below #[Value.ref b] s) w (g2 L) xs 2 0 4 18 [.ref 1, .ref 2, .ref 253, .int 0] [] (setX h1 xs) := by
    refine run_gdQ (R := room_1) (fr := 108) (lo := 6800) S2 (fun q => by cases q) (by decide) (by decide) (by omega) (by omega) (exec_ok l hbo hL 100) (fun m as h r h1 => exec_Rm 100 m as h r h1) kd_law knl (by rw [e1]; decide) (by rw [e2]; show _ ≤ 7302250; omega) ?_ n2 _ _ _ _ hrun
    intro i len pc lv st h kk hs hir hd hln
    cases i
    all_goals try (cases hir; done)
    case ireturn =>
      have := len_of hln (Nat.succ_ne_zero _)
      subst this
      simp only [stepI] at hs
      split at hs
      · rename_i x
        obtain ⟨-, a2⟩ := asr_some hs
        cases a2
        intro H locs ls hIv hLV
        refine va_forget (fun q hq => ?_) (W.widen (k := 600000) (n := 7302250) (by rw [e1]; decide) (by rw [e2]; show _ ≤ 7302250; omega) (lw_ret hx hb hr hlocks hd))
        have : wo w ≤ q.base := hIv.2.1.2.2 q hq
        rw [hwo] at this
        exact this
      · cases hs
    case lreturn =>
      simp only [stepI] at hs
      split at hs
      · cases hs
      · cases hs
    case areturn =>
      simp only [stepI] at hs
      split at hs
      · cases hs
      · cases hs
    case return_ =>
      simp only [stepI] at hs
      split at hs
      · cases hs
      · cases hs
  -- the first phase
  have hA2 : runK G1 (exec G1 8) 12 false (some .boolean) kc_law [18] kfin 50 0 [.ref 1, dm, dm, dm] [] h00 = some (none, h1) := runK_call (fun m as h r => execF_exec 8 m as h r) 50 _ _ _ _ hA
  have g1 : Gd p l e room_1 s m #[Value.ref b] below meth c (lw_Z below #[Value.ref b] s) w G1 (fun _ => 0) 2 0 4 0 [.ref 1, dm, dm, dm] [] h00 := by
    refine runK_gd (R := room_1) (fr := 16) (lo := 912) S1 (fun q => by cases q) (by decide) (by decide) (by omega) (by omega) (exec_ok l hbo (by show 0 ≤ 3072; omega) 8) (fun m as h r h1 => exec_Rm 8 m as h r h1) kd_law knl (by rw [hn1]; decide) (by show hZ h1 - 0 ≤ 7302250; omega) (fun pc l st h r h1 q => by obtain ⟨-, -, -, z, -⟩ := kfin_some q; rw [z]; exact Rm.rf) ?_ ?_ 50 _ _ _ _ hA2
    · intro i len pc lv st h kk hs hir
      cases i
      all_goals try (cases hir; done)
      case ireturn =>
        simp only [stepI] at hs
        split at hs
        · obtain ⟨-, a2⟩ := asr_some hs
          cases a2
        · cases hs
      case lreturn =>
        simp only [stepI] at hs
        split at hs
        · cases hs
        · cases hs
      case areturn =>
        simp only [stepI] at hs
        split at hs
        · cases hs
        · cases hs
      case return_ =>
        simp only [stepI] at hs
        split at hs
        · cases hs
        · cases hs
    · intro pc lv st h hs
      obtain ⟨rfl, rfl, rfl, rfl, -⟩ := kfin_some hs
      intro H locs ls hIv hLV
      exact g2 H locs ls ⟨trans_P hn1 htr hIv.1, hIv.2.1, hIv.2.2.1, by show 289 ≤ hN h; omega, hIv.2.2.2.2.1, hIv.2.2.2.2.2.1, setX_1⟩ hLV
  have heq : [Value.ref 1].map (tv w) = ([Value.ref b] : List Value) := by
    show [tv w (.ref 1)] = _
    rw [tv_ref1 (by omega), show ra w 1 = wb w from rfl, hwb]
  have hg := g1 s.heap [] _ ⟨fun k q h => by simp [ws, h00, hN] at h, va_S.rf, by decide, by decide, by decide, by decide, rfl⟩ (LV_entry (as := [.ref 1]) (n := 4) (by decide))
  rw [heq] at hg
  rw [lg_entry_eq]
  exact hg
