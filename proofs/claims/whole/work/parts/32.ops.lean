-- PART: more simple calls.
section Ops2
variable {L n : Nat} {h : PH} {A B : Nat → Nat}
theorem op_worn (hC : Core n h A B) (x y z : Int32) : Sim L 21 156 [.ref 2, .int x, .int y, .int z] [.ref 253, .int x, .int y, .int z] n h A B := by
  obtain ⟨c1, c2, c3, c4, c5, c6, c7⟩ := id hC
  have v4 := c5.2.2.2.2.1.2.2.1
  have f4 := c1.nd
  rw [Nat.zero_add] at f4
  have g4 := c3.at (k := 4) (by omega) (by omega)
  by_cases hx : nI 0 ≤ x ∧ x < nI (A 4)
  · by_cases hy : nI 0 ≤ y ∧ y ≤ nI 999
    · by_cases hz : nI 0 ≤ z ∧ z ≤ nI 999
      · obtain ⟨i, hi, rfl⟩ := in_of (by omega) hx
        obtain ⟨v, hv, rfl⟩ := in_le (by omega) hy
        obtain ⟨w, hw, rfl⟩ := in_le (by omega) hz
        have hk := kk16 (i := i) (by omega)
        obtain ⟨p5, q5⟩ := loc_d (d := i) (c := 5) (by omega) (by omega)
        obtain ⟨p6, q6⟩ := loc_d (d := i) (c := 6) (by omega) (by omega)
        have e1 : exec (g2 L) 100 21 [.ref 2, .int (nI i), .int (nI v), .int (nI w)] h = some (some (.int (nI 1)), wI (wI (fgt 165 181 h) (33 + i) 6 (nI v)) (33 + i) 7 (nI w)) := by
          rw [x21, m22, f4, cI_s, if_neg (by rw [bI_0]; exact not_not_intro hx), m18, cI_s, if_neg (by rw [bI_0]; exact not_not_intro hy), m18, cI_s, if_pos (bI_nz.mpr hz), m8, cV_s, inB_nI (by omega), asr_d (by omega), ix_nI (by omega), okW_of hk.1 (by omega) (by omega), asr_tt, asr_d (by omega), asr_tt]
        have g4' : hI (wI (wI (fgt 165 181 h) (33 + i) 6 (nI v)) (33 + i) 7 (nI w)) 254 4 = nI (A 4) := by rw [wI_ne (by omega), wI_ne (by omega), fgt_ne (by omega)]; exact g4
        have e2 : exec (g2 L) 100 156 [.ref 253, .int (nI i), .int (nI v), .int (nI w)] (wI (wI (fgt 165 181 h) (33 + i) 6 (nI v)) (33 + i) 7 (nI w)) = some (some (.int (nI 1)), wI (wI (wI (wI (fgt 165 181 h) (33 + i) 6 (nI v)) (33 + i) 7 (nI w)) 254 (40 + 8 * i + 5) (nI v)) 254 (40 + 8 * i + 6) (nI w)) := by
          rw [x156, m157 97 g4' (by omega), cI_s, if_neg (by rw [bI_0]; exact not_not_intro hx), m153, cI_s, if_neg (by rw [bI_0]; exact not_not_intro hy), m153, cI_s, if_pos (bI_nz.mpr hz), m155 98 (by omega) (by omega), cV_s, m155 98 (by omega) (by omega), cV_s]
        refine ⟨nI 1, _, _, ud (ud A (40 + 8 * i + 5) v) (40 + 8 * i + 6) w, e1, e2, hC.step (h1 := wI (wI (fgt 165 181 h) (33 + i) 6 (nI v)) (33 + i) 7 (nI w)) ?_ (fun a ha => ?_) ?_ (fun a ha => ?_) ?_ ?_, ?_, Or.inl (Pr_of (h := h) (fun a q1 q2 => ?_)), ⟨fun j hj => ?_, ?_⟩, ?_⟩
        · exact RC.set (RC.set (c1.congr (fun a p q => fgt_ne (by omega))) q5 (by rw [p5, Nat.zero_add]) (by rw [p5]; rfl) (by rw [sv_p (by omega)])) q6 (by rw [p6, Nat.zero_add]) (by rw [p6]; rfl) (by rw [sv_p (by omega)])
        · rw [wI_ne (by omega), wI_ne (by omega), fgt_ne (by omega)]
        · exact RM.set (RM.set (c3.congr (by rw [wI_ne (by omega), wI_ne (by omega), fgt_ne (by omega)])) (by rw [sv_p (by omega)])) (by rw [sv_p (by omega)])
        · rw [wI_ne (by omega), wI_ne (by omega)]
        · refine c5.dials (Nat.le_succ n) (fun j h0 h1 hj => by rw [ud_ne _ (by omega), ud_ne _ (by omega)]) ?_ ?_ ?_
          · rw [ud_ne _ (by omega), ud_ne _ (by omega)]
            exact ⟨Nat.le_refl _, c5.1⟩
          · rw [ud_ne _ (by omega), ud_ne _ (by omega)]
            exact c5.2.2.2.2.1.1
          · exact ((c5.2.2.2.2.1.2.2.2.2.2.mono (by omega)).set (c := 5) (by omega) (by omega)).set (c := 6) (by omega) (by omega)
        · rw [ud_ne _ (by omega), ud_ne _ (by omega)]
        · exact (((Kp.fg.tr (Kp.w (by omega))).tr (Kp.w (by omega))).tr (Kp.w (by omega))).tr (Kp.w (by omega))
        · rw [wI_ne (by omega), wI_ne (by omega), wI_ne (by omega), wI_ne (by omega)]
        · rw [ud_ne _ (by omega), ud_ne _ (by omega)]
        · rw [ud_ne _ (by omega), ud_ne _ (by omega)]
          exact Nat.le_refl _
        · rw [ud_ne _ (by omega), ud_ne _ (by omega)]
      · refine Sim.same hC (r := nI 0) ?_ ?_
        · rw [x21, m22, f4, cI_s, if_neg (by rw [bI_0]; exact not_not_intro hx), m18, cI_s, if_neg (by rw [bI_0]; exact not_not_intro hy), m18, cI_s, if_neg (by rw [bI_nz]; exact hz)]
        · rw [x156, m157 97 g4 (by omega), cI_s, if_neg (by rw [bI_0]; exact not_not_intro hx), m153, cI_s, if_neg (by rw [bI_0]; exact not_not_intro hy), m153, cI_s, if_neg (by rw [bI_nz]; exact hz)]
    · refine Sim.same hC (r := nI 0) ?_ ?_
      · rw [x21, m22, f4, cI_s, if_neg (by rw [bI_0]; exact not_not_intro hx), m18, cI_s, if_pos (bI_0.mpr hy)]
      · rw [x156, m157 97 g4 (by omega), cI_s, if_neg (by rw [bI_0]; exact not_not_intro hx), m153, cI_s, if_pos (bI_0.mpr hy)]
  · refine Sim.same hC (r := nI 0) ?_ ?_
    · rw [x21, m22, f4, cI_s, if_pos (bI_0.mpr hx)]
    · rw [x156, m157 97 g4 (by omega), cI_s, if_pos (bI_0.mpr hx)]
theorem m161 (d : Nat) {k w u : Nat} (hk : k < 440) (f : hI h 254 k = nI w) (hw : w ≤ 1) (hu : u ≤ 1) : exec (g2 L) (d + 1) 161 [.ref 253, .int (nI k), .int (nI u)] h = some (some (.int (bI (w ≠ u))), if w = u then h else wI h 254 k (nI u)) := by
  have core : runL (g2 L) d 11 false (some .boolean) kc_161 15 [.ref 253, .int (nI k), .int (nI u)] [.int (nI w)] h = some (some (.int (bI (w ≠ u))), if w = u then h else wI h 254 k (nI u)) := by
    rw [e161_15, inB_nI (by omega), asr_d (by omega), asr_d (by omega), ix_nI (by omega)]
    by_cases z : w = u
    · rw [if_neg (by rw [z]; exact fun q => q rfl), if_pos z, bI_f (fun q => q z)]
    · rw [if_pos (by rw [Ne, nI_eqI (by omega) (by omega)]; exact z), if_neg z, bI_t z]
      by_cases z2 : u = 0
      · rw [if_pos (by rw [z2]), z2]
      · have : u = 1 := by omega
        rw [if_neg (by rw [nI_eqI (by omega) (by omega)]; exact z2), this]
  rw [x161, inB_nI (by omega), asr_d (by omega), ix_nI (by omega), f]
  by_cases z : w = 1
  · rw [if_neg (by rw [z]; exact fun q => q rfl)]
    rw [z] at core ⊢
    exact core
  · have : w = 0 := by omega
    subst this
    rw [if_pos (by decide)]
    exact core
theorem nrZ_le {u : Nat} (hu : u ≤ 1) : nrZ (nI u) = nI u := by
  have : u = 0 ∨ u = 1 := by omega
  rcases this with rfl | rfl <;> rfl
theorem op_hold (hC : Core n h A B) (x : Int32) {u : Nat} (hu : u ≤ 1) : Sim L 26 162 [.ref 2, .int x, .int (nI u)] [.ref 253, .int x, .int (nI u)] n h A B := by
  obtain ⟨c1, c2, c3, c4, c5, c6, c7⟩ := id hC
  have v4 := c5.2.2.2.2.1.2.2.1
  have f4 := c1.nd
  rw [Nat.zero_add] at f4
  have g4 := c3.at (k := 4) (by omega) (by omega)
  by_cases hx : nI 0 ≤ x ∧ x < nI (A 4)
  · obtain ⟨i, hi, rfl⟩ := in_of (by omega) hx
    have hk := kk16 (i := i) (by omega)
    have hl := c5.2.2.2.2.1.2.2.2.2.2 i hi
    have f7 : hI h (33 + i) 4 = nI (A (40 + 8 * i + 7)) := by
      have := c1.dl (d := i) (c := 7) (by omega) (by omega)
      rw [Nat.zero_add] at this
      exact this
    have g7 := c3.at (k := 40 + 8 * i + 7) (by omega) (by omega)
    by_cases z : A (40 + 8 * i + 7) = u
    · refine Sim.same hC (r := nI 0) ?_ ?_
      · rw [x26, m22, f4, cI_s, if_neg (by rw [bI_0]; exact not_not_intro hx), inB_nI (by omega), asr_d (by omega), ix_nI (by omega), okA_of hk.1 (by omega), asr_true, f7, if_neg (by rw [z]; exact fun q => q rfl)]
      · rw [x162, m157 97 g4 (by omega), cI_s, if_neg (by rw [bI_0]; exact not_not_intro hx), nI_times, nI_plus, nI_plus, m161 98 (by omega) g7 hl.2.2.2.2.2.2.2 hu, cI_s, bI_f (fun q => q z), if_pos rfl, if_pos z]
    · obtain ⟨p1, p2, p3⟩ := post1 (c := 7) (v := u) hC hi (by omega) (by omega) (F := h) (Or.inr rfl)
      refine ⟨nI 1, wI h (33 + i) (prm 7) (nI u), _, _, ?_, ?_, p1, p2, Or.inr ⟨fun a q1 q2 => by rw [wI_ne (by omega), wI_ne (by omega)], ?_⟩, p3, ud_ne _ (by omega)⟩
      · rw [x26, m22, f4, cI_s, if_neg (by rw [bI_0]; exact not_not_intro hx), inB_nI (by omega), asr_d (by omega), ix_nI (by omega), okA_of hk.1 (by omega), asr_true, f7, if_pos (by rw [Ne, nI_eqI (by omega) (by omega)]; exact z), asr_d (by omega), okW_of hk.1 (by omega) (by omega), asr_tt, asr_d (nrZ_le hu)]
        rfl
      · have g4' : hI (wI h (33 + i) (prm 7) (nI u)) 254 4 = nI (A 4) := by rw [wI_ne (by omega)]; exact g4
        have g7' : hI (wI h (33 + i) (prm 7) (nI u)) 254 (40 + 8 * i + 7) = nI (A (40 + 8 * i + 7)) := by rw [wI_ne (by omega)]; exact g7
        rw [x162, m157 97 g4' (by omega), cI_s, if_neg (by rw [bI_0]; exact not_not_intro hx), nI_times, nI_plus, nI_plus, m161 98 (by omega) g7' hl.2.2.2.2.2.2.2 hu, cI_s, bI_t z, if_neg (by decide), if_neg z]
      · exact ⟨ud_ne _ (by omega), ud_ne _ (by omega), ud_ne _ (by omega), by rw [ud_ne _ (by omega)]; exact Nat.le_refl _, fun b hb => ⟨ud_ne _ (by have := c5.2.2.2.2.1.2.1; omega), ud_ne _ (by have := c5.2.2.2.2.1.2.1; omega)⟩, fun j hj c hc => ud_ne _ (by omega)⟩
  · refine Sim.same hC (r := nI 0) ?_ ?_
    · rw [x26, m22, f4, cI_s, if_pos (bI_0.mpr hx)]
    · rw [x162, m157 97 g4 (by omega), cI_s, if_pos (bI_0.mpr hx)]
theorem op_stop (hC : Core n h A B) {u : Nat} (hu : u ≤ 1) : Sim L 27 163 [.ref 2, .int (nI u)] [.ref 253, .int (nI u)] n h A B := by
  obtain ⟨c1, c2, c3, c4, c5, c6, c7⟩ := id hC
  have f2 := c1.sp
  rw [Nat.zero_add] at f2
  have g2' := c3.at (k := 2) (by omega) (by omega)
  have a2 := c5.2.1
  by_cases z : A 2 = u
  · refine Sim.same hC (r := nI 0) ?_ ?_
    · rw [x27, f2, if_neg (by rw [z]; exact fun q => q rfl)]
    · rw [x163, m161 98 (by omega) g2' a2 hu, cI_s, bI_Z, asr_true, bI_f (fun q => q z), if_pos z]
  · refine ⟨nI 1, wI h 3 2 (nI u), wI (wI h 3 2 (nI u)) 254 2 (nI u), ud A 2 u, ?_, ?_, hC.step (h1 := wI h 3 2 (nI u)) ?_ (fun a ha => ?_) ?_ (fun a ha => ?_) ?_ (ud_ne _ (by omega)), ?_, Or.inr ⟨fun a q1 q2 => ?_, ?_⟩, ⟨fun j hj => ud_ne _ (by omega), by rw [ud_ne _ (by omega)]; exact Nat.le_refl _⟩, ud_ne _ (by omega)⟩
    · rw [x27, f2, if_pos (by rw [Ne, nI_eqI (by omega) (by omega)]; exact z), asr_d (nrZ_le hu)]
    · have g2'' : hI (wI h 3 2 (nI u)) 254 2 = nI (A 2) := by rw [wI_ne (by omega)]; exact g2'
      rw [x163, m161 98 (by omega) g2'' a2 hu, cI_s, bI_Z, asr_true, bI_t z, if_neg z]
    · exact RC.set c1 (k := 2) rfl rfl rfl rfl
    · rw [wI_ne (by omega)]
    · exact RM.set (c3.congr (by rw [wI_ne (by omega)])) rfl
    · rw [wI_ne (by omega)]
    · refine (c5.mono (Nat.le_succ n)).of (fun j h0 h1 h2 h6 => ud_ne _ h2) ?_ ?_ ?_ ?_
      · rw [ud_ne _ (by omega)]
        exact ⟨Nat.le_refl _, c5.1⟩
      · rw [ud_ne _ (by omega)]
        exact c5.2.2.2.2.1.1
      · rw [ud_at]
        exact hu
      · rw [ud_ne _ (by omega), ud_ne _ (by omega)]
        exact c5.2.2.2.1
    · exact (Kp.w (by omega)).tr (Kp.w (by omega))
    · rw [wI_ne (by omega), wI_ne (by omega)]
    · exact ⟨ud_ne _ (by omega), ud_ne _ (by omega), ud_ne _ (by omega), by rw [ud_ne _ (by omega)]; exact Nat.le_refl _, fun b hb => ⟨ud_ne _ (by omega), ud_ne _ (by omega)⟩, fun j hj c hc => ud_ne _ (by omega)⟩
theorem op_by (hC : Core n h A B) (x : Int32) : Sim L 124 240 [.ref 2, .int x] [.ref 253, .int x] n h A B := by
  obtain ⟨c1, c2, c3, c4, c5, c6, c7⟩ := id hC
  have a5 := c5.2.2.1
  have f5 := c1.ns
  rw [Nat.zero_add] at f5
  have g5 := c3.at (k := 5) (by omega) (by omega)
  have good : ∀ v, v ≤ A 5 → x = nI v - nI 1 → exec (g2 L) 100 124 [.ref 2, .int x] h = some (some (.int (nI 1)), wI h 3 5 x) → exec (g2 L) 100 240 [.ref 253, .int x] (wI h 3 5 x) = some (some (.int (nI 1)), wI (wI h 3 5 x) 254 6 x) → Sim L 124 240 [.ref 2, .int x] [.ref 253, .int x] n h A B := by
    intro v hv hx e1 e2
    refine ⟨nI 1, _, _, ud A 6 v, e1, e2, hC.step (h1 := wI h 3 5 x) ?_ (fun a ha => ?_) ?_ (fun a ha => ?_) ?_ (ud_ne _ (by omega)), ?_, Or.inr ⟨fun a q1 q2 => ?_, ?_⟩, ⟨fun j hj => ud_ne _ (by omega), by rw [ud_ne _ (by omega)]; exact Nat.le_refl _⟩, ud_ne _ (by omega)⟩
    · exact RC.set c1 (k := 6) rfl rfl rfl hx
    · rw [wI_ne (by omega)]
    · exact RM.set (c3.congr (by rw [wI_ne (by omega)])) hx
    · rw [wI_ne (by omega)]
    · refine (c5.mono (Nat.le_succ n)).of (fun j h0 h1 h2 h6 => ud_ne _ h6) ?_ ?_ ?_ ?_
      · rw [ud_ne _ (by omega)]
        exact ⟨Nat.le_refl _, c5.1⟩
      · rw [ud_ne _ (by omega)]
        exact c5.2.2.2.2.1.1
      · rw [ud_ne _ (by omega)]
        exact c5.2.1
      · rw [ud_at, ud_ne _ (by omega)]
        exact hv
    · exact (Kp.w (by omega)).tr (Kp.w (by omega))
    · rw [wI_ne (by omega), wI_ne (by omega)]
    · exact ⟨ud_ne _ (by omega), ud_ne _ (by omega), ud_ne _ (by omega), by rw [ud_ne _ (by omega)]; exact Nat.le_refl _, fun b hb => ⟨ud_ne _ (by omega), ud_ne _ (by omega)⟩, fun j hj c hc => ud_ne _ (by omega)⟩
  by_cases hm : x = m1
  · subst hm
    refine good 0 (by omega) nI_p0.symm ?_ ?_
    · have hq : m1 ≤ m1 ∧ m1 ≤ nI (A 5) - nI 1 := ⟨by decide, by rw [le_predI (by omega), m1_lt_nI (by omega)]; trivial⟩
      rw [x124, f5, m18, cI_s, if_pos (bI_nz.mpr hq)]
    · rw [x240, if_pos rfl]
  · by_cases hx : nI 0 ≤ x ∧ x < nI (A 5)
    · obtain ⟨i, hi, rfl⟩ := in_of (by omega) hx
      refine good (i + 1) (by omega) (nI_m1_plus i).symm ?_ ?_
      · have hq : m1 ≤ nI i ∧ nI i ≤ nI (A 5) - nI 1 := ⟨by rw [m1_le_nI (by omega)]; trivial, by rw [le_predI (by omega)]; exact hx.2⟩
        rw [x124, f5, m18, cI_s, if_pos (bI_nz.mpr hq)]
      · rw [x240, if_neg hm, wI_ne (by omega), g5, m153, cI_s, if_pos (bI_nz.mpr ⟨hx.1, by rw [le_predI (by omega)]; exact hx.2⟩)]
    · refine Sim.same hC (r := nI 0) ?_ ?_
      · rw [x124, f5, m18, cI_s, if_neg]
        rw [bI_nz, le_predI (by omega)]
        intro q
        apply hx
        refine ⟨?_, q.2⟩
        rcases cases32 x with z | ⟨i, hi, rfl⟩
        · exfalso
          apply hm
          apply Int32.toInt_inj.mp
          have h1 := Int32.lt_iff_toInt_lt.mp z
          have h2 := Int32.le_iff_toInt_le.mp q.1
          rw [nI_toInt (by omega)] at h1
          rw [toInt_m1] at h2 ⊢
          omega
        · rw [nI_leN (by omega) (by omega)]
          omega
      · rw [x240, if_neg hm, g5, m153, cI_s, if_neg]
        rw [bI_nz, le_predI (by omega)]
        exact hx
end Ops2
