-- PART: cut, branch, minutes, quick, storm.
theorem V.wires {n : Nat} {A A' : Nat → Nat} (h : V n A) (e : ∀ j, j ≠ 3 → ¬ (20 ≤ j ∧ j < 36) → A' j = A j) (h3 : A 3 ≤ A' 3 ∧ A' 3 ≤ 8) (hb : VB A' 20 (A' 3)) (hk : ∀ b, b < 8 → A' (28 + b) ≤ 1) : V n A' := by
  obtain ⟨a0, a2, a5, a6, ⟨v1, v3, v4, vb9, vk, vl9⟩, a7, a8, a9, a10, a11, vb, vl, vr, vs, z1, z2⟩ := h
  have e4 := e 4 (by omega) (by omega)
  have e5 := e 5 (by omega) (by omega)
  have e7 := e 7 (by omega) (by omega)
  have e8 := e 8 (by omega) (by omega)
  have e10 := e 10 (by omega) (by omega)
  have e11 := e 11 (by omega) (by omega)
  have e0 := e 0 (by omega) (by omega)
  refine ⟨by rw [e0]; exact a0, by rw [e 2 (by omega) (by omega)]; exact a2, by rw [e5]; exact a5, by rw [e5, e 6 (by omega) (by omega)]; exact a6, ⟨by rw [e 1 (by omega) (by omega)]; exact v1, h3.2, by rw [e4]; exact v4, hb, hk, ?_⟩, by rw [e7]; exact a7, by rw [e8]; exact a8, by rw [e 9 (by omega) (by omega)]; exact a9, by rw [e10, e4]; exact a10, by rw [e11]; exact a11, fun b hb => ?_, ?_, fun i hi => ?_, fun i hi => ?_, fun d hd hd2 c hc => ?_, fun d hd hd2 c hc => ?_⟩
  · rw [e4]
    intro i hi
    obtain ⟨l0, l1, l2, l3, l4, l5, l6, l7⟩ := vl9 i hi
    have k : ∀ j, 40 ≤ j → A' j = A j := fun j hj => e j (by omega) (by omega)
    rw [k (40 + 8 * i) (by omega), k (40 + 8 * i + 1) (by omega), k (40 + 8 * i + 2) (by omega), k (40 + 8 * i + 3) (by omega), k (40 + 8 * i + 4) (by omega), k (40 + 8 * i + 5) (by omega), k (40 + 8 * i + 6) (by omega), k (40 + 8 * i + 7) (by omega)]
    exact ⟨by omega, l1, l2, l3, l4, l5, l6, l7⟩
  · rw [e11] at hb
    rw [e _ (by omega) (by omega)]
    exact vb b hb
  · rw [e10, e11]
    exact vl.congr (fun j h1 h2 => e j (by omega) (by omega))
  · rw [e7] at hi
    rw [e10, e8, e0, e _ (by omega) (by omega), e _ (by omega) (by omega), e _ (by omega) (by omega), e _ (by omega) (by omega)]
    exact vr i hi
  · rw [e7] at hi
    rw [e _ (by omega) (by omega), e _ (by omega) (by omega)]
    exact vs i hi
  · rw [e4] at hd
    rw [e _ (by omega) (by omega)]
    exact z1 d hd hd2 c hc
  · rw [e10] at hd
    rw [e _ (by omega) (by omega)]
    exact z2 d hd hd2 c hc
section Ops3
variable {L n : Nat} {h : PH} {A B : Nat → Nat}
theorem op_cut (hC : Core n h A B) (x : Int32) {u : Nat} (hu : u ≤ 1) : Sim L 25 160 [.ref 2, .int x, .int (nI u)] [.ref 253, .int x, .int (nI u)] n h A B := by
  obtain ⟨c1, c2, c3, c4, c5, c6, c7⟩ := id hC
  obtain ⟨v1, v3, v4, vb, vk, vl⟩ := id c5.2.2.2.2.1
  have f3 := c1.nb
  rw [Nat.zero_add] at f3
  have g3 := c3.at (k := 3) (by omega) (by omega)
  by_cases hx : nI 0 ≤ x ∧ x < nI (A 3)
  · obtain ⟨b, hb, rfl⟩ := in_of (by omega) hx
    have fk := c1.br (b := b) (by omega)
    rw [Nat.zero_add] at fk
    have gk := c3.at (k := 28 + b) (by omega) (by omega)
    have hk1 := vk b (by omega)
    by_cases z : A (28 + b) = u
    · refine Sim.same hC (r := nI 0) ?_ ?_
      · rw [x25, m14, f3, cI_s, if_neg (by rw [bI_0]; exact not_not_intro hx), inB_nI (by omega), asr_d (by omega), ix_nI (by omega), fk, if_neg (by rw [z]; exact fun q => q rfl)]
      · rw [x160, m152 97 g3 (by omega), cI_s, if_neg (by rw [bI_0]; exact not_not_intro hx), nI_plus, m161 98 (by omega) gk hk1 hu, cI_s, bI_f (fun q => q z), if_pos rfl, if_pos z]
    · obtain ⟨p, q⟩ := (loc_b (b := b) (by omega)).2.1
      refine ⟨nI 1, wI (fgt 165 181 h) 6 b (nI u), wI (wI (fgt 165 181 h) 6 b (nI u)) 254 (28 + b) (nI u), ud A (28 + b) u, ?_, ?_, hC.step (h1 := wI (fgt 165 181 h) 6 b (nI u)) ?_ (fun a ha => ?_) ?_ (fun a ha => ?_) ?_ (ud_ne _ (by omega)), ?_, Or.inl (Pr_of (h := h) (fun a q1 q2 => ?_)), ⟨fun j hj => ud_ne _ (by omega), by rw [ud_ne _ (by omega)]; exact Nat.le_refl _⟩, ud_ne _ (by omega)⟩
      · rw [x25, m14, f3, cI_s, if_neg (by rw [bI_0]; exact not_not_intro hx), inB_nI (by omega), asr_d (by omega), ix_nI (by omega), fk, if_pos (by rw [Ne, nI_eqI (by omega) (by omega)]; exact z), m8, cV_s, asr_d (by omega), nrZ_le hu]
      · have g3' : hI (wI (fgt 165 181 h) 6 b (nI u)) 254 3 = nI (A 3) := by rw [wI_ne (by omega), fgt_ne (by omega)]; exact g3
        have gk' : hI (wI (fgt 165 181 h) 6 b (nI u)) 254 (28 + b) = nI (A (28 + b)) := by rw [wI_ne (by omega), fgt_ne (by omega)]; exact gk
        rw [x160, m152 97 g3' (by omega), cI_s, if_neg (by rw [bI_0]; exact not_not_intro hx), nI_plus, m161 98 (by omega) gk' hk1 hu, cI_s, bI_t z, if_neg (by decide), if_neg z]
      · exact RC.set (c1.congr (fun a p q => fgt_ne (by omega))) q (by rw [p]; rfl) (by rw [p]) (by rw [sv_p (by omega)])
      · rw [wI_ne (by omega), fgt_ne (by omega)]
      · exact RM.set (c3.congr (by rw [wI_ne (by omega), fgt_ne (by omega)])) (by rw [sv_p (by omega)])
      · rw [wI_ne (by omega)]
      · refine (c5.mono (Nat.le_succ n)).wires (fun j h3 hj => ud_ne _ (by omega)) ?_ ?_ ?_
        · rw [ud_ne _ (by omega)]
          exact ⟨Nat.le_refl _, v3⟩
        · rw [ud_ne _ (by omega)]
          intro b' hb'
          rw [ud_ne _ (by omega)]
          exact vb b' hb'
        · intro b' hb'
          unfold ud
          split
          · exact hu
          · exact vk b' hb'
      · exact (Kp.fg.tr (Kp.w (by omega))).tr (Kp.w (by omega))
      · rw [wI_ne (by omega), wI_ne (by omega)]
  · refine Sim.same hC (r := nI 0) ?_ ?_
    · rw [x25, m14, f3, cI_s, if_pos (bI_0.mpr hx)]
    · rw [x160, m152 97 g3 (by omega), cI_s, if_pos (bI_0.mpr hx)]
theorem op_branch (hC : Core n h A B) (x : Int32) : Sim L 13 151 [.ref 2, .int x] [.ref 253, .int x] n h A B := by
  obtain ⟨c1, c2, c3, c4, c5, c6, c7⟩ := id hC
  obtain ⟨v1, v3, v4, vb, vk, vl⟩ := id c5.2.2.2.2.1
  have f3 := c1.nb
  rw [Nat.zero_add] at f3
  have g3 := c3.at (k := 3) (by omega) (by omega)
  have bad : exec (g2 L) 100 13 [.ref 2, .int x] h = some (some (.int m1), h) → exec (g2 L) 100 151 [.ref 253, .int x] h = some (some (.int m1), h) → Sim L 13 151 [.ref 2, .int x] [.ref 253, .int x] n h A B := fun e1 e2 => Sim.same hC e1 e2
  have c24 : ∀ w, w ≠ 0 → w ≤ 1 → runL (g2 L) 99 0 false (some .int) kc_13 24 [.ref 2, .int x, dm] [.int (nI w)] h = if A 3 < 8 then some (some (.int (nI (A 3))), wI (wI (wI h 5 (A 3) x) 6 (A 3) (nI 0)) 4 0 (nI (A 3 + 1))) else some (some (.int m1), h) := by
    intro w hw hw1
    rw [e13_24, if_neg (by rw [nI_eqI (by omega) (by omega)]; exact hw), f3]
    by_cases h8 : A 3 < 8
    · rw [if_pos (by rw [nI_ltN (by omega) (by omega)]; exact h8), if_pos h8, x15, f3, if_pos (by rw [nI_ltN (by omega) (by omega)]; exact h8), inB_nI (by omega), asr_d (by omega), asr_d (by omega), ix_nI (by omega), nI_back, nI_plus, cI_s]
    · rw [if_neg (by rw [nI_ltN (by omega) (by omega)]; exact h8), if_neg h8]
  have m13 : ∀ h0 : PH, hI h0 254 3 = nI (A 3) → runL (g2 L) 99 11 false (some .int) kc_151 13 [.ref 253, .int x] [] h0 = if A 3 < 8 then some (some (.int (nI (A 3))), wI (wI (wI h0 254 (20 + A 3) x) 254 (28 + A 3) (nI 0)) 254 3 (nI (A 3 + 1))) else some (some (.int m1), h0) := by
    intro h0 g
    rw [e151_13, g]
    by_cases h8 : A 3 < 8
    · have r1 : hI (wI h0 254 (ix (nI 20 + nI (A 3))) x) 254 3 = nI (A 3) := by rw [nI_plus, ix_nI (by omega), hI_wI, if_neg (by omega)]; exact g
      rw [if_pos (by rw [Ne, nI_eqI (by omega) (by omega)]; omega), if_pos h8, r1]
      have r2 : hI (wI (wI h0 254 (ix (nI 20 + nI (A 3))) x) 254 (ix (nI 28 + nI (A 3))) (nI 0)) 254 3 = nI (A 3) := by rw [hI_wI, nI_plus, ix_nI (by omega), nI_plus, ix_nI (by omega), if_neg (by omega), hI_wI, if_neg (by omega)]; exact g
      rw [r2, nI_back, nI_plus, nI_plus, nI_plus, inB_nI (by omega), asr_d (by omega), inB_nI (by omega), asr_d (by omega), ix_nI (by omega), ix_nI (by omega)]
    · rw [if_neg (by rw [Ne, nI_eqI (by omega) (by omega)]; omega), if_neg h8]
  have good : ∀ v, v ≤ A 3 → x = nI v - nI 1 → A 3 < 8 → exec (g2 L) 100 13 [.ref 2, .int x] h = some (some (.int (nI (A 3))), wI (wI (wI h 5 (A 3) x) 6 (A 3) (nI 0)) 4 0 (nI (A 3 + 1))) → exec (g2 L) 100 151 [.ref 253, .int x] (wI (wI (wI h 5 (A 3) x) 6 (A 3) (nI 0)) 4 0 (nI (A 3 + 1))) = some (some (.int (nI (A 3))), wI (wI (wI (wI (wI (wI h 5 (A 3) x) 6 (A 3) (nI 0)) 4 0 (nI (A 3 + 1))) 254 (20 + A 3) x) 254 (28 + A 3) (nI 0)) 254 3 (nI (A 3 + 1))) → Sim L 13 151 [.ref 2, .int x] [.ref 253, .int x] n h A B := by
    intro v hv hx h8 e1 e2
    obtain ⟨⟨pf, qf⟩, ⟨pk, qk⟩, -, -⟩ := loc_b (b := A 3) h8
    have e3 : ∀ j, j ≠ 3 → j ≠ 20 + A 3 → j ≠ 28 + A 3 → ud (ud (ud A (20 + A 3) v) (28 + A 3) 0) 3 (A 3 + 1) j = A j := fun j h1 h2 h3 => by rw [ud_ne _ h1, ud_ne _ h3, ud_ne _ h2]
    refine ⟨_, _, _, ud (ud (ud A (20 + A 3) v) (28 + A 3) 0) 3 (A 3 + 1), e1, e2, hC.step (h1 := wI (wI (wI h 5 (A 3) x) 6 (A 3) (nI 0)) 4 0 (nI (A 3 + 1))) ?_ (fun a ha => ?_) ?_ (fun a ha => ?_) ?_ (e3 5 (by omega) (by omega) (by omega)), ?_, Or.inr ⟨fun a q1 q2 => ?_, ?_⟩, ⟨fun j hj => e3 j (by omega) (by omega) (by omega), by rw [e3 7 (by omega) (by omega) (by omega)]; exact Nat.le_refl _⟩, e3 5 (by omega) (by omega) (by omega)⟩
    · exact RC.set (RC.set (RC.set c1 qf (by rw [pf]; rfl) (by rw [pf]) (by rw [sv_m (by omega)]; exact hx)) qk (by rw [pk]; rfl) (by rw [pk]) (by rw [sv_p (by omega)])) (k := 3) rfl rfl rfl rfl
    · rw [wI_ne (by omega), wI_ne (by omega), wI_ne (by omega)]
    · exact RM.set (RM.set (RM.set (c3.congr (by rw [wI_ne (by omega), wI_ne (by omega), wI_ne (by omega)])) (by rw [sv_m (by omega)]; exact hx)) (by rw [sv_p (by omega)])) rfl
    · rw [wI_ne (by omega), wI_ne (by omega), wI_ne (by omega)]
    · refine (c5.mono (Nat.le_succ n)).wires (fun j h3 hj => e3 j h3 (by omega) (by omega)) ?_ ?_ ?_
      · rw [ud_at]
        omega
      · rw [ud_at]
        intro b hb
        by_cases z : b = A 3
        · subst z
          rw [ud_ne _ (by omega), ud_ne _ (by omega), ud_at]
          exact hv
        · rw [e3 _ (by omega) (by omega) (by omega)]
          exact vb b (by omega)
      · intro b hb
        by_cases z : b = A 3
        · subst z
          rw [ud_ne _ (by omega), ud_at]
          omega
        · rw [e3 _ (by omega) (by omega) (by omega)]
          exact vk b hb
    · exact (((((Kp.w (by omega)).tr (Kp.w (by omega))).tr (Kp.w (by omega))).tr (Kp.w (by omega))).tr (Kp.w (by omega))).tr (Kp.w (by omega))
    · rw [wI_ne (by omega), wI_ne (by omega), wI_ne (by omega), wI_ne (by omega), wI_ne (by omega), wI_ne (by omega)]
    · exact ⟨e3 0 (by omega) (by omega) (by omega), e3 1 (by omega) (by omega) (by omega), e3 4 (by omega) (by omega) (by omega), by rw [ud_at]; omega, fun b hb => ⟨e3 _ (by omega) (by omega) (by omega), e3 _ (by omega) (by omega) (by omega)⟩, fun i hi c hc => e3 _ (by omega) (by omega) (by omega)⟩
  have g3' : hI (wI (wI (wI h 5 (A 3) x) 6 (A 3) (nI 0)) 4 0 (nI (A 3 + 1))) 254 3 = nI (A 3) := by rw [wI_ne (by omega), wI_ne (by omega), wI_ne (by omega)]; exact g3
  by_cases hm : x = m1
  · by_cases h8 : A 3 < 8
    · refine good 0 (by omega) (by rw [hm, nI_p0]) h8 ?_ ?_
      · rw [x13, if_pos hm, c24 1 (by omega) (by omega), if_pos h8]
      · rw [x151, if_pos hm, m13 _ g3', if_pos h8]
    · refine bad ?_ ?_
      · rw [x13, if_pos hm, c24 1 (by omega) (by omega), if_neg h8]
      · rw [x151, if_pos hm, m13 _ g3, if_neg h8]
  · by_cases hx : nI 0 ≤ x ∧ x < nI (A 3)
    · by_cases h8 : A 3 < 8
      · obtain ⟨i, hi, hxi⟩ := in_of (by omega) hx
        refine good (i + 1) (by omega) (by rw [hxi, nI_m1_plus]) h8 ?_ ?_
        · rw [x13, if_neg hm, m14, f3, cI_s, if_neg (by rw [bI_0]; exact not_not_intro hx), c24 1 (by omega) (by omega), if_pos h8]
        · rw [x151, if_neg hm, m152 97 g3' (by omega), cI_s, if_neg (by rw [bI_0]; exact not_not_intro hx), m13 _ g3', if_pos h8]
      · refine bad ?_ ?_
        · rw [x13, if_neg hm, m14, f3, cI_s, if_neg (by rw [bI_0]; exact not_not_intro hx), c24 1 (by omega) (by omega), if_neg h8]
        · rw [x151, if_neg hm, m152 97 g3 (by omega), cI_s, if_neg (by rw [bI_0]; exact not_not_intro hx), m13 _ g3, if_neg h8]
    · refine bad ?_ ?_
      · rw [x13, if_neg hm, m14, f3, cI_s, if_pos (bI_0.mpr hx), e13_24, if_pos rfl]
      · rw [x151, if_neg hm, m152 97 g3 (by omega), cI_s, if_pos (bI_0.mpr hx)]
end Ops3
