-- PART: behind the constructors; the law out of the calls.
def Init2 (h : PH) : Prop := hN h = 289 ∧ hZ h ≤ 100000 ∧ ∃ g : PH, lawA = some (none, g) ∧ ∀ a, 2 ≤ a → hI h a = hI g a
def LawOk2 : Prop := ∀ (L : Nat) (h : PH), L ≤ 3072 → Init2 h → ∃ h', runL (g2 L) 100 12 false (some .boolean) kc_law 18 [.ref 1, .ref 2, .ref 253, .int 0] [] h = some (some (.int 1), h')
def A0 : Nat → Nat := fun k => if (20 ≤ k ∧ k < 28) ∨ (300 ≤ k ∧ k < 308) then 1 else 0
theorem A0_sv (k : Nat) : sv k (A0 k) = if k = 6 then (-1 : Int32) else 0 := by
  unfold sv A0
  by_cases a : k = 6
  · rw [if_pos (Or.inl a), if_neg (by omega), if_pos a]
    decide
  · by_cases b : (20 ≤ k ∧ k < 28) ∨ (300 ≤ k ∧ k < 308)
    · rw [if_pos (Or.inr b), if_pos b, if_neg a]
      decide
    · rw [if_neg (by omega), if_neg b, if_neg a]
      decide
theorem A0_0 {k : Nat} (h : ¬ ((20 ≤ k ∧ k < 28) ∨ (300 ≤ k ∧ k < 308))) : A0 k = 0 := if_neg h
theorem inv0 {AN : PH → (Nat → Nat) → Prop} {L : Nat} {h : PH} (hE : EXS L AN) (hi : Init2 h) : INV AN 0 h := by
  obtain ⟨-, -, g, g1, g2'⟩ := hi
  obtain ⟨h1, hA, -, -, -, ti⟩ := lawA_is
  rw [g1] at hA
  have e0 : g = h1 := (Prod.mk.inj (Option.some.inj hA)).2
  subst e0
  unfold tInt at ti
  simp only [Bool.and_eq_true] at ti
  obtain ⟨i1, i2, i3, i4⟩ := ti
  have c0 : ∀ q ∈ i0, hI g q.1 q.2.1 = q.2.2 := fun q hq => of_decide_eq_true (List.all_eq_true.mp i1 q hq)
  have dm0 : ∀ k, dom k = true → hI g (loc k).1 (loc k).2 = (if k = 6 then -1 else 0) ∧ hI g (46 + (loc k).1) (loc k).2 = (if k = 6 then -1 else 0) := fun k hk => by
    have k4 := dom_lt hk
    by_cases q : k < 220
    · have y := t3_in g1 t3_a (Nat.zero_le _) (by omega) hk
      rw [Nat.zero_add] at y
      exact ⟨y, t3_in g1 t3_c (Nat.zero_le _) (by omega) hk⟩
    · have y := t3_in g1 t3_b (show 220 ≤ k by omega) (by omega) hk
      rw [Nat.zero_add] at y
      exact ⟨y, t3_in g1 t3_d (show 220 ≤ k by omega) (by omega) hk⟩
  have ra : ∀ i, i < 31 → hI h (97 + i) 0 = m2 := fun i hi => by
    rw [g2' _ (by omega)]
    exact of_decide_eq_true (List.all_eq_true.mp i2 i (List.mem_range.mpr hi))
  have rp : ∀ i, i < 16 → hI h (165 + i) 0 = m2 := fun i hi => by
    rw [g2' _ (by omega)]
    exact of_decide_eq_true (List.all_eq_true.mp i3 i (List.mem_range.mpr hi))
  have rm : ∀ k, k < 440 → hI g 254 k = (if k = 6 then -1 else 0) ∧ hI g 255 k = (if k = 6 then -1 else 0) := fun k hk => by
    have := List.all_eq_true.mp i4 k (List.mem_range.mpr hk)
    rw [Bool.and_eq_true] at this
    exact ⟨of_decide_eq_true this.1, of_decide_eq_true this.2⟩
  have v0 : V 0 A0 := by
    have e : ∀ k, ¬ ((20 ≤ k ∧ k < 28) ∨ (300 ≤ k ∧ k < 308)) → A0 k = 0 := fun k hk => A0_0 hk
    refine ⟨by rw [e 0 (by omega)]; omega, by rw [e 2 (by omega)]; omega, by rw [e 5 (by omega)]; omega, by rw [e 6 (by omega)]; omega, ⟨by rw [e 1 (by omega)]; omega, by rw [e 3 (by omega)]; omega, by rw [e 4 (by omega)]; omega, fun b hb => by rw [e 3 (by omega)] at hb; omega, fun b hb => by rw [e _ (by omega)]; omega, fun i hi => by rw [e 4 (by omega)] at hi; omega⟩, by rw [e 7 (by omega)]; omega, by rw [e 8 (by omega)]; omega, by rw [e 9 (by omega)]; omega, by rw [e 10 (by omega)]; omega, by rw [e 11 (by omega)]; omega, fun b hb => by rw [e 11 (by omega)] at hb; omega, fun i hi => by rw [e 10 (by omega)] at hi; omega, fun i hi => by rw [e 7 (by omega)] at hi; omega, fun i hi => by rw [e 7 (by omega)] at hi; omega, fun d hd hd2 c hc => e _ (by omega), fun d hd hd2 c hc => e _ (by omega)⟩
  have wx : WX A0 := fun b hb => by rw [A0_0 (by omega)]; omega
  refine ⟨A0, A0, ⟨fun k hk => ?_, fun k hk => ?_, fun k hk => ?_, fun k hk => ?_, v0, v0, Nat.le_refl _⟩, ⟨⟨0, by omega, ?_, ?_, fun i hi => absurd hi (Nat.not_lt_zero _)⟩, Or.inl ⟨?_, ?_, ?_⟩⟩, wx, wx, fun i hi => Or.inl (rp i hi), hE.2.1 h A0 ra, fun s hs => ?_⟩
  · obtain ⟨_, l1, l2⟩ := loc_in hk
    rw [A0_sv, Nat.zero_add, g2' _ (by omega)]
    exact (dm0 k hk).1
  · obtain ⟨_, l1, l2⟩ := loc_in hk
    rw [A0_sv, g2' _ (by omega)]
    exact (dm0 k hk).2
  · rw [A0_sv, g2' _ (by omega)]
    exact (rm k hk).1
  · rw [A0_sv, g2' _ (by omega)]
    exact (rm k hk).2
  · rw [g2' _ (by omega)]
    exact c0 (205, 0, 0) (by decide)
  · rw [g2' _ (by omega)]
    exact c0 (253, 3, 0) (by decide)
  · rw [g2' _ (by omega)]
    exact c0 (207, 0, 0) (by decide)
  · rw [g2' _ (by omega)]
    exact c0 (253, 4, -1) (by decide)
  · rw [g2' _ (by omega)]
    exact c0 (253, 5, -1) (by decide)
  · rw [A0_0 (by omega)] at hs
    omega
theorem lawOk2 {AN : PH → (Nat → Nat) → Prop} (hE : ∀ L, EXS L AN) : LawOk2 := by
  intro L h hL hi
  obtain ⟨h', e⟩ := law_loop (hE L) hL 520 0 h (by omega) (by omega) (inv0 (hE L) hi)
  exact ⟨h', e⟩
theorem whole_of2 (hlaw : LawOk2) {p : Program} {e : Env} {s : State} {m : MethodId} {below : List Frame} {meth : Method} {c : Code} (l : Launch) {b L : Nat} {xs : Nat → Int32} (hL : L ≤ 3072) (C0 : lw_At p s m meth c b L xs) : W p l e room_1 s m #[Value.ref b] below meth c s.heap [] 0 0 (lw_Z below #[Value.ref b] s) (entryFrame m ([Value.ref b] : List Value).toArray 4) := by
  obtain ⟨hx, hb, hr, hml, hown, hts, hX, hbl, hlocks, hgv⟩ := id C0
  obtain ⟨w, wV, hwb, hwo, hK, hXt⟩ := world_ex C0
  have htB : ∀ q ∈ TB, q.before #[Value.ref b] s = true := fun q hq => hts q (TB_tbl hq)
  obtain ⟨h1, hA, hn1, hz1, htr, hti⟩ := lawA_is
  have hbo : wb w < wo w := by rw [hwb, hwo]; exact hbl
  have S1 : Sf w wV G1 (fun _ => 0) 2 p m c code 4 12 s #[Value.ref b] := ⟨hx, hb, hml, hown, htB, hK, (fun q => by cases q), by rw [hwb]; exact hbl, hbo, hXt, by rw [hwo]; rfl, by omega, by show 0 ≤ 3072; omega, by omega⟩
  have S2 : Sf w wV (g2 L) xs 2 p m c code 4 12 s #[Value.ref b] := ⟨hx, hb, hml, hown, htB, hK, (fun _ => by rw [hwb]; exact hX), by rw [hwb]; exact hbl, hbo, hXt, by rw [hwo]; rfl, by omega, hL, by omega⟩
  -- the second phase
  obtain ⟨h2, hrun⟩ := hlaw L (setX h1 xs) hL ⟨hn1, hz1, h1, hA, fun a ha => setX_ne ha⟩
  obtain ⟨n2, hrun⟩ := runL_some.mp hrun
  obtain ⟨e1, e2⟩ := runN_Rz (G := g2 L) rfl (fun m as h r h1 => exec_Rz rfl 100 m as h r h1) n2 _ _ _ _ hrun
  have e1 : hN h2 = 289 := e1.trans hn1
  have e2 : hZ h2 = hZ h1 := e2
  have g2 : Gd p l e room_1 s m #[Value.ref b] below meth c (lw_Z below #[Value.ref b] s) w (g2 L) xs 2 0 4 18 [.ref 1, .ref 2, .ref 253, .int 0] [] (setX h1 xs) := by
    refine run_gdQ (R := room_1) (fr := 108) (lo := 6800) S2 (fun q => by cases q) (by decide) (by decide) (by omega) (by omega) (exec_ok l hbo hL 100) (fun m as h r h1 => exec_Rm 100 m as h r h1) kd_law knl (by rw [e1]; decide) (by rw [e2]; show _ ≤ 7302250; omega) ?_ n2 _ _ _ _ hrun
    intro i len pc lv st h kk hs hir hd hln
    cases i
    all_goals try (cases hir; done)
    case ireturn =>
      have := len_of hln (Nat.succ_ne_zero _)
      subst this
      simp only [stepI] at hs
      split at hs
      · rename_i x
        obtain ⟨-, a2⟩ := asr_some hs
        cases a2
        intro H locs ls hIv hLV
        refine va_forget (fun q hq => ?_) (W.widen (k := 600000) (n := 7302250) (by rw [e1]; decide) (by rw [e2]; show _ ≤ 7302250; omega) (lw_ret hx hb hr hlocks hd))
        have : wo w ≤ q.base := hIv.2.1.2.2 q hq
        rw [hwo] at this
        exact this
      · cases hs
    case lreturn =>
      simp only [stepI] at hs
      split at hs
      · cases hs
      · cases hs
    case areturn =>
      simp only [stepI] at hs
      split at hs
      · cases hs
      · cases hs
    case return_ =>
      simp only [stepI] at hs
      split at hs
      · cases hs
      · cases hs
  -- the first phase
  have hA2 : runK G1 (exec G1 8) 12 false (some .boolean) kc_law [18] kfin 50 0 [.ref 1, dm, dm, dm] [] h00 = some (none, h1) := runK_call (fun m as h r => execF_exec 8 m as h r) 50 _ _ _ _ hA
  have g1 : Gd p l e room_1 s m #[Value.ref b] below meth c (lw_Z below #[Value.ref b] s) w G1 (fun _ => 0) 2 0 4 0 [.ref 1, dm, dm, dm] [] h00 := by
    refine runK_gd (R := room_1) (fr := 16) (lo := 912) S1 (fun q => by cases q) (by decide) (by decide) (by omega) (by omega) (exec_ok l hbo (by show 0 ≤ 3072; omega) 8) (fun m as h r h1 => exec_Rm 8 m as h r h1) kd_law knl (by rw [hn1]; decide) (by show hZ h1 - 0 ≤ 7302250; omega) (fun pc l st h r h1 q => by obtain ⟨-, -, -, z, -⟩ := kfin_some q; rw [z]; exact Rm.rf) ?_ ?_ 50 _ _ _ _ hA2
    · intro i len pc lv st h kk hs hir
      cases i
      all_goals try (cases hir; done)
      case ireturn =>
        simp only [stepI] at hs
        split at hs
        · obtain ⟨-, a2⟩ := asr_some hs
          cases a2
        · cases hs
      case lreturn =>
        simp only [stepI] at hs
        split at hs
        · cases hs
        · cases hs
      case areturn =>
        simp only [stepI] at hs
        split at hs
        · cases hs
        · cases hs
      case return_ =>
        simp only [stepI] at hs
        split at hs
        · cases hs
        · cases hs
    · intro pc lv st h hs
      obtain ⟨rfl, rfl, rfl, rfl, -⟩ := kfin_some hs
      intro H locs ls hIv hLV
      exact g2 H locs ls ⟨trans_P hn1 htr hIv.1, hIv.2.1, hIv.2.2.1, by show 289 ≤ hN h; omega, hIv.2.2.2.2.1, hIv.2.2.2.2.2.1, setX_1⟩ hLV
  have heq : [Value.ref 1].map (tv w) = ([Value.ref b] : List Value) := by
    show [tv w (.ref 1)] = _
    rw [tv_ref1 (by omega), show ra w 1 = wb w from rfl, hwb]
  have hg := g1 s.heap [] _ ⟨fun k q h => by simp [ws, h00, hN] at h, va_S.rf, by decide, by decide, by decide, by decide, rfl⟩ (LV_entry (as := [.ref 1]) (n := 4) (by decide))
  rw [heq] at hg
  rw [lg_entry_eq]
  exact hg
