-- PART: pulses to all dials, on both sides.
section CSend
variable {L : Nat} {X : Nat → Nat} {q : Nat}
theorem m29_loop {d n : Nat} (hV : VW X q) (hq : q ≤ 100000000) (hn1 : 1 ≤ n) (hn : n ≤ 20000) : ∀ (k m : Nat) (h : PH), m + k = X 4 → RC h 0 (PAm X 0 (X 1) n m) → ∃ h', runL (g2 L) (d + 3) 1 false none kc_29 2 [.ref 3, .int (nI n), .int (nI m)] [] h = some (none, h') ∧ RC h' 0 (ud (PAm X 0 (X 1) n (X 4)) 1 ((X 1 + n) % 2)) ∧ FD h h' := by
  have v1 := hV.1
  have v4 := hV.2.2.1
  intro k
  induction k with
  | zero =>
    intro m h hm hR
    have e : m = X 4 := by omega
    subst e
    have f3 := hR.nd
    have f1 := hR.sg
    rw [PAm_out (by omega), Nat.zero_add] at f3 f1
    refine ⟨_, by rw [e29_2, f3, if_pos (by rw [nI_leN (by omega) (by omega)]; exact Nat.le_refl _)], ?_, FD.w (Or.inl rfl)⟩
    refine RC.set hR (k := 1) rfl rfl rfl ?_
    rw [f1, nI_and, nI_xor, xor2 v1]
    rfl
  | succ k ih =>
    intro m h hm hR
    have hm4 : m < X 4 := by omega
    have hk := kk16 (i := m) (by omega)
    have f3 := hR.nd
    have f1 := hR.sg
    rw [PAm_out (by omega), Nat.zero_add] at f3 f1
    have hcm := c_comes (L := L) (d + 1) hR hV hm4 (st' := 0) (by omega)
    rw [nI_p0] at hcm
    rw [e29_2, f3, if_neg (by rw [nI_leN (by omega) (by omega)]; omega), inB_nI (by omega), asr_d (by omega), ix_nI (by omega), okA_of hk.1 (by omega), asr_true, hcm, cI_s, asr_d (by omega), okA_of hk.1 (by omega), asr_true, f1, nI_plus]
    by_cases hc : cm X 0 (X (40 + 8 * m) + 1) = true
    · obtain ⟨h1, e1, hR1, hF1⟩ := c_take (L := L) d hR hV hq hm4 v1 hn1 hn hc
      obtain ⟨h2, e2, hR2, hF2⟩ := ih (m + 1) h1 (by omega) hR1
      refine ⟨h2, ?_, hR2, hF1.tr hF2⟩
      rw [if_neg (by rw [bI_0]; exact not_not_intro hc), e1, cI_s]
      exact e2
    · obtain ⟨h2, e2, hR2, hF2⟩ := ih (m + 1) h (by omega) (c_pass hR hc)
      refine ⟨h2, ?_, hR2, hF2⟩
      rw [if_pos (bI_0.mpr hc)]
      exact e2
theorem m29 (d : Nat) {n : Nat} {h : PH} (hR : RC h 0 X) (hV : VW X q) (hq : q ≤ 100000000) (hn1 : 1 ≤ n) (hn : n ≤ 20000) : ∃ h', exec (g2 L) (d + 4) 29 [.ref 3, .int (nI n)] h = some (none, h') ∧ RC h' 0 (ud (PAm X 0 (X 1) n (X 4)) 1 ((X 1 + n) % 2)) ∧ FD h h' := by
  rw [x29]
  exact m29_loop hV hq hn1 hn (X 4) 0 h (by omega) (by rw [PAm_0]; exact hR)
def sm (X : Nat → Nat) (st s : Nat) : Nat → Nat
  | 0 => 0
  | m + 1 => sm X st s m + an X st s 1 m
theorem an_le (X : Nat → Nat) (st s i : Nat) : an X st s 1 i ≤ 1 := by
  unfold an
  split
  · exact tk_le _ _ _ _
  · omega
theorem sm_le (X : Nat → Nat) (st s : Nat) : ∀ m, sm X st s m ≤ m
  | 0 => Nat.le_refl _
  | m + 1 => by
    have := sm_le X st s m
    have := an_le X st s m
    show sm X st s m + an X st s 1 m ≤ m + 1
    omega
theorem m37_loop {d st s : Nat} (hV : VW X q) (hq : q ≤ 100000000) (hs : s ≤ 1) (hst : st ≤ 8) : ∀ (k m : Nat) (h : PH), m + k = X 4 → RC h 0 (PAm X st s 1 m) → ∃ h', runL (g2 L) (d + 3) 1 false (some .int) kc_37 5 [.ref 3, .int (nI st - nI 1), .int (nI s), .int (nI (sm X st s m)), .int (nI m)] [] h = some (some (.int (nI (sm X st s (X 4)))), h') ∧ RC h' 0 (PAm X st s 1 (X 4)) ∧ FD h h' := by
  have v1 := hV.1
  have v4 := hV.2.2.1
  intro k
  induction k with
  | zero =>
    intro m h hm hR
    have e : m = X 4 := by omega
    subst e
    have f3 := hR.nd
    rw [PAm_out (by omega), Nat.zero_add] at f3
    exact ⟨h, by rw [e37_5, f3, if_pos (by rw [nI_leN (by omega) (by omega)]; exact Nat.le_refl _)], hR, FD.rf⟩
  | succ k ih =>
    intro m h hm hR
    have hm4 : m < X 4 := by omega
    have hk := kk16 (i := m) (by omega)
    have f3 := hR.nd
    rw [PAm_out (by omega), Nat.zero_add] at f3
    have hcm := c_comes (L := L) (d + 1) hR hV hm4 (st' := st) hst
    rw [e37_5, f3, if_neg (by rw [nI_leN (by omega) (by omega)]; omega), inB_nI (by omega), asr_d (by omega), ix_nI (by omega), okA_of hk.1 (by omega), asr_true, hcm, cI_s, asr_d (by omega), okA_of hk.1 (by omega), asr_true, nI_plus]
    by_cases hc : cm X st (X (40 + 8 * m) + 1) = true
    · obtain ⟨h1, e1, hR1, hF1⟩ := c_take (L := L) d hR hV hq hm4 hs (Nat.le_refl 1) (by omega) hc
      obtain ⟨h2, e2, hR2, hF2⟩ := ih (m + 1) h1 (by omega) hR1
      refine ⟨h2, ?_, hR2, hF1.tr hF2⟩
      rw [if_neg (by rw [bI_0]; exact not_not_intro hc), e1, cI_s, nI_plus]
      exact e2
    · obtain ⟨h2, e2, hR2, hF2⟩ := ih (m + 1) h (by omega) (c_pass hR hc)
      refine ⟨h2, ?_, hR2, hF2⟩
      have e0 : sm X st s (m + 1) = sm X st s m := by
        show sm X st s m + an X st s 1 m = _
        unfold an act
        rw [if_neg (by simp [hc])]
        rfl
      rw [if_pos (bI_0.mpr hc)]
      rw [e0] at e2
      exact e2
theorem m37 (d : Nat) {st s : Nat} {h : PH} (hR : RC h 0 X) (hV : VW X q) (hq : q ≤ 100000000) (hs : s ≤ 1) (hst : st ≤ 8) : ∃ h', exec (g2 L) (d + 4) 37 [.ref 3, .int (nI st - nI 1), .int (nI s)] h = some (some (.int (nI (sm X st s (X 4)))), h') ∧ RC h' 0 (PAm X st s 1 (X 4)) ∧ FD h h' := by
  rw [x37]
  exact m37_loop hV hq hs hst (X 4) 0 h (by omega) (by rw [PAm_0]; exact hR)
end CSend
/-- what the reference writes when dials take pulses -/
def Fm (h h' : PH) : Prop := (∀ a, a ≠ 253 → a ≠ 254 → hI h' a = hI h a) ∧ (∀ k, (k < 11 ∨ 16 < k) → hI h' 253 k = hI h 253 k) ∧ hJ h' = hJ h ∧ hR h' = hR h
theorem Fm.rf {h : PH} : Fm h h := ⟨fun _ _ _ => rfl, fun _ _ => rfl, rfl, rfl⟩
theorem Fm.tr {a b c : PH} (h1 : Fm a b) (h2 : Fm b c) : Fm a c := ⟨fun x p q => (h2.1 x p q).trans (h1.1 x p q), fun k z => (h2.2.1 k z).trans (h1.2.1 k z), h2.2.2.1.trans h1.2.2.1, h2.2.2.2.trans h1.2.2.2⟩
theorem Fm.w4 {h : PH} {k : Nat} {v : Int32} : Fm h (wI h 254 k v) := ⟨fun x p q => wI_ne q, fun k _ => by rw [wI_ne (by omega)], rfl, rfl⟩
theorem Fm.w3 {h : PH} {k : Nat} {v : Int32} (hk : 11 ≤ k ∧ k ≤ 16) : Fm h (wI h 253 k v) := ⟨fun x p q => wI_ne p, fun j hj => by rw [hI_wI, if_neg (by omega)], rfl, rfl⟩
def tkH (h : PH) (k : Nat) (v : Int32) : PH := wI (wI (wI (wI (wI (wI h 253 11 v) 253 12 (hI h 254 (k + 5))) 253 13 (hI h 254 (k + 6))) 253 14 (hI h 254 (k + 2))) 253 15 (hI h 254 (k + 3))) 253 16 (hI h 254 (k + 4))
section MSend
variable {L : Nat} {X : Nat → Nat} {q : Nat} {h : PH}
theorem m168 (d : Nat) {k t : Nat} (hk : k + 6 < 440) (f : hI h 254 (k + 1) = nI t) (ht : t ≤ 1) : exec (g2 L) (d + 1) 168 [.ref 253, .int (nI k)] h = some (none, tkH h k (nI t)) := by
  have core : ∀ v : Int32, nrZ v = v → runL (g2 L) d 11 false none kc_168 18 [.ref 253, .int (nI k)] [.int v, .ref 253] h = some (none, tkH h k v) := by
    intro v hv
    rw [e168_18, asr_d hv]
    simp only [nI_plus]
    rw [inB_nI (by omega), asr_d (by omega), inB_nI (by omega), asr_d (by omega), inB_nI (by omega), asr_d (by omega), inB_nI (by omega), asr_d (by omega), inB_nI (by omega), asr_d (by omega), ix_nI (by omega), ix_nI (by omega), ix_nI (by omega), ix_nI (by omega), ix_nI (by omega)]
    rfl
  rw [x168, nI_plus, inB_nI (by omega), asr_d (by omega), ix_nI (by omega), f]
  by_cases z : t = 1
  · rw [if_neg (by rw [z]; exact fun q => q rfl), z]
    exact core _ rfl
  · have : t = 0 := by omega
    subst this
    rw [if_pos (by decide)]
    exact core _ rfl
theorem tkH_TH {k t hd l c sk bo : Nat} (f2 : hI h 254 (k + 2) = nI hd) (f3 : hI h 254 (k + 3) = nI l) (f4 : hI h 254 (k + 4) = nI c) (f5 : hI h 254 (k + 5) = nI sk) (f6 : hI h 254 (k + 6) = nI bo) : TH (tkH h k (nI t)) t hd l c sk bo := by
  unfold tkH TH
  rw [f2, f3, f4, f5, f6]
  refine ⟨?_, ?_, ?_, ?_, ?_, ?_⟩ <;> simp [hI_wI]
theorem tkH_F {k : Nat} {v : Int32} : Fm h (tkH h k v) ∧ hI (tkH h k v) 254 = hI h 254 := by
  refine ⟨((((Fm.w3 (by omega)).tr (Fm.w3 (by omega))).tr (Fm.w3 (by omega))).tr (Fm.w3 (by omega))).tr (Fm.w3 (by omega)) |>.tr (Fm.w3 (by omega)), ?_⟩
  unfold tkH
  rw [wI_ne (by omega), wI_ne (by omega), wI_ne (by omega), wI_ne (by omega), wI_ne (by omega), wI_ne (by omega)]
theorem m171 (d : Nat) {k : Nat} (hk : k + 4 < 440) : exec (g2 L) (d + 1) 171 [.ref 253, .int (nI k)] h = some (none, wI (wI (wI h 254 (k + 2) (hI h 253 14)) 254 (k + 3) (hI h 253 15)) 254 (k + 4) (hI h 253 16)) := by
  rw [x171]
  simp only [nI_plus]
  rw [inB_nI (by omega), asr_d (by omega), inB_nI (by omega), asr_d (by omega), inB_nI (by omega), asr_d (by omega), ix_nI (by omega), ix_nI (by omega), ix_nI (by omega)]
theorem DN_1 {st s i : Nat} (ha : act X st i = true) (hd : X (40 + 8 * i + 2) < 720) (hs : s ≤ 1) : DN X st s 1 i = pl1 (X (40 + 8 * i + 1)) (X (40 + 8 * i + 5)) (X (40 + 8 * i + 6)) s (X (40 + 8 * i + 2)) (X (40 + 8 * i + 3)) (X (40 + 8 * i + 4)) := by
  unfold DN pl1 tk
  rw [if_pos ⟨ha, by omega⟩]
  have es : (s + (1 - 1)) % 2 = s := by omega
  by_cases z : X (40 + 8 * i + 1) = 1 ∧ X (40 + 8 * i + 3) = s
  · rw [if_pos z, if_pos z, es, z.2]
    show ((X (40 + 8 * i + 2) + 0) % 720, s, X (40 + 8 * i + 4) + 0) = _
    rw [Nat.add_zero, Nat.mod_eq_of_lt hd]
    rfl
  · rw [if_neg z, if_neg z, es]
    show ((X (40 + 8 * i + 2) + (0 + gn _ _ (X (40 + 8 * i + 4) + 0 + 1))) % 720, s, X (40 + 8 * i + 4) + 1) = _
    rw [Nat.zero_add, Nat.add_zero]
theorem p_at {st s m : Nat} (hR : RM h 254 (PAm X st s 1 m)) (hm : m < 16) {c : Nat} (hc : c < 8) : hI h 254 (40 + 8 * m + c) = nI (X (40 + 8 * m + c)) := by
  rw [hR.at (by omega) (by omega), PAm_out (by omega)]
theorem p_take (d : Nat) {st s m : Nat} (hR : RM h 254 (PAm X st s 1 m)) (hV : VW X q) (hq : q ≤ 100000000) (hm : m < X 4) (hs : s ≤ 1) (ha : act X st m = true) : ∃ h7 h8 h10, exec (g2 L) (d + 2) 168 [.ref 253, .int (nI 40 + nI 8 * nI m)] h = some (none, h7) ∧ hI h7 254 = hI h 254 ∧ exec (g2 L) (d + 2) 169 [.ref 253, .int (nI s)] h7 = some (some (.int (nI (an X st s 1 m))), h8) ∧ exec (g2 L) (d + 2) 171 [.ref 253, .int (nI 40 + nI 8 * nI m)] h8 = some (none, h10) ∧ RM h10 254 (PAm X st s 1 (m + 1)) ∧ Fm h h10 := by
  obtain ⟨v1, v3, v4, vb, vk, vl⟩ := hV
  obtain ⟨l0, l1, l2, l3, l4, l5, l6, l7⟩ := vl m hm
  have hm16 : m < 16 := by omega
  have hT := tkH_TH (h := h) (k := 40 + 8 * m) (t := X (40 + 8 * m + 1)) (p_at hR hm16 (c := 2) (by omega)) (p_at hR hm16 (c := 3) (by omega)) (p_at hR hm16 (c := 4) (by omega)) (p_at hR hm16 (c := 5) (by omega)) (p_at hR hm16 (c := 6) (by omega))
  obtain ⟨hF7, h47⟩ := tkH_F (h := h) (k := 40 + 8 * m) (v := nI (X (40 + 8 * m + 1)))
  refine ⟨_, hp1 (tkH h (40 + 8 * m) (nI (X (40 + 8 * m + 1)))) (X (40 + 8 * m + 1)) (X (40 + 8 * m + 5)) (X (40 + 8 * m + 6)) s (X (40 + 8 * m + 2)) (X (40 + 8 * m + 3)) (X (40 + 8 * m + 4)), _, by rw [nI_times, nI_plus, m168 (d + 1) (by omega) (p_at hR hm16 (c := 1) (by omega)) l1], h47, ?_, by rw [nI_times, nI_plus, m171 (d + 1) (by omega)], ?_, ?_⟩
  · rw [m169 d hT l1 l2 l3 (by omega) l5 l6 hs]
    congr 4
    unfold an tk
    rw [if_pos ha]
    by_cases z : X (40 + 8 * m + 1) = 1 ∧ X (40 + 8 * m + 3) = s
    · rw [if_pos z, bI_f (not_not_intro z)]
    · rw [if_neg z, bI_t z]
  · have hT8 := hp1_TH (s := s) hT
    obtain ⟨t1, t2, t3, t4, t5, t6⟩ := hT8
    have hR8 : RM (hp1 (tkH h (40 + 8 * m) (nI (X (40 + 8 * m + 1)))) (X (40 + 8 * m + 1)) (X (40 + 8 * m + 5)) (X (40 + 8 * m + 6)) s (X (40 + 8 * m + 2)) (X (40 + 8 * m + 3)) (X (40 + 8 * m + 4))) 254 (PAm X st s 1 m) := hR.congr (by rw [hp1_ne (by omega), h47])
    rw [t4, t5, t6, PAm_s, DN_1 ha l2 hs]
    have e34 : ∀ (Y : Nat → Nat) (a b c : Nat), ud (ud (ud Y (40 + 8 * m + 2) a) (40 + 8 * m + 4) c) (40 + 8 * m + 3) b = ud (ud (ud Y (40 + 8 * m + 2) a) (40 + 8 * m + 3) b) (40 + 8 * m + 4) c := by
      intro Y a b c
      funext j
      unfold ud
      by_cases z3 : j = 40 + 8 * m + 3
      · rw [if_pos z3, if_neg (by omega), if_pos z3]
      · rw [if_neg z3, if_neg z3]
    rw [e34]
    exact RM.set (RM.set (RM.set hR8 (by rw [sv_p (by omega)])) (by rw [sv_p (by omega)])) (by rw [sv_p (by omega)])
  · refine hF7.tr (Fm.tr ?_ ((Fm.w4.tr Fm.w4).tr Fm.w4))
    exact ⟨fun a p q => hp1_ne p, fun k hk => hp1_253 hk, hp1_JR.1, hp1_JR.2⟩
theorem p_pass {st s m : Nat} (hR : RM h 254 (PAm X st s 1 m)) (ha : ¬ act X st m = true) : RM h 254 (PAm X st s 1 (m + 1)) := by
  rw [PAm_no (if_neg (fun z => ha z.1))]
  exact hR
theorem p_comes (d : Nat) {st s m : Nat} (hR : RM h 254 (PAm X st s 1 m)) (hV : VW X q) (hm : m < X 4) (hst : st ≤ 8) : exec (g2 L) (d + 1) 167 [.ref 253, .int (nI (X (40 + 8 * m))), .int (nI st - nI 1)] h = some (some (.int (bI (cm X st (X (40 + 8 * m) + 1) = true))), h) := by
  obtain ⟨v1, v3, v4, vb, vk, vl⟩ := hV
  have hl := vl m hm
  have e3 : PAm X st s 1 m 3 = X 3 := PAm_out (by omega)
  rw [m167 (A := PAm X st s 1 m) d hR (by rw [e3]; exact v3) (fun b hb => by rw [PAm_out (by omega)]; rw [e3] at hb; exact vb b hb) (fun b hb => by rw [PAm_out (by omega)]; exact vk b hb) hst (by rw [e3]; exact hl.1), PAm_cm (by omega)]
end MSend
