-- PART: about, read.
section Ops7
variable {L n : Nat} {h : PH} {A B : Nat → Nat}
theorem op_about (hC : Core n h A B) (hT : TF h) (x : Int32) : Sim L 147 257 [.ref 2, .int x] [.ref 253, .int x] n h A B := by
  obtain ⟨c1, c2, c3, c4, c5, c6, c7⟩ := id hC
  obtain ⟨v1, v3, v4, vb, vk, vl⟩ := id c5.2.2.2.2.1
  have f0 := c1.mn
  have f1 := c1.sg
  have f2 := c1.sp
  have f3 := c1.nb
  have f4 := c1.nd
  have f5 := c1.ns
  have f6 := c1.ch
  have f7 := c1.rd
  have f8 := c1.wn
  rw [Nat.zero_add] at f0 f1 f2 f3 f4 f5 f6 f7 f8
  have gg : ∀ c, c < 9 → c ≠ 6 → hI h 254 c = nI (A c) := fun c hc h6 => c3.at (by omega) (by omega)
  have g6 := c3.am (k := 6) (by omega) (by omega)
  obtain ⟨⟨t, t1, t2, t3, t4⟩, -⟩ := hT
  have a2 := c5.2.1
  by_cases y0 : x = nI 0
  · exact Sim.same hC (r := nI (A 0)) (by rw [x147, if_pos y0, f0]) (by rw [x257, if_pos y0, gg 0 (by omega) (by omega)])
  by_cases y1 : x = nI 1
  · exact Sim.same hC (r := nI (A 1)) (by rw [x147, if_neg y0, if_pos y1, f1]) (by rw [x257, if_neg y0, if_pos y1, gg 1 (by omega) (by omega)])
  by_cases y2 : x = nI 2
  · refine Sim.same hC (r := nI (A 2)) ?_ (by rw [x257, if_neg y0, if_neg y1, if_pos y2, gg 2 (by omega) (by omega)])
    rw [x147, if_neg y0, if_neg y1, if_pos y2, f2]
    by_cases z : A 2 = 0
    · rw [z, if_pos rfl]
    · rw [if_neg (by rw [nI_eqI (by omega) (by omega)]; exact z), show A 2 = 1 by omega]
  by_cases y3 : x = nI 3
  · exact Sim.same hC (r := nI (A 3)) (by rw [x147, if_neg y0, if_neg y1, if_neg y2, if_pos y3, f3]) (by rw [x257, if_neg y0, if_neg y1, if_neg y2, if_pos y3, gg 3 (by omega) (by omega)])
  by_cases y4 : x = nI 4
  · exact Sim.same hC (r := nI (A 4)) (by rw [x147, if_neg y0, if_neg y1, if_neg y2, if_neg y3, if_pos y4, f4]) (by rw [x257, if_neg y0, if_neg y1, if_neg y2, if_neg y3, if_pos y4, gg 4 (by omega) (by omega)])
  by_cases y5 : x = nI 5
  · exact Sim.same hC (r := nI (A 5)) (by rw [x147, if_neg y0, if_neg y1, if_neg y2, if_neg y3, if_neg y4, if_pos y5, f5]) (by rw [x257, if_neg y0, if_neg y1, if_neg y2, if_neg y3, if_neg y4, if_pos y5, gg 5 (by omega) (by omega)])
  by_cases y6 : x = nI 6
  · exact Sim.same hC (r := nI (A 6) - nI 1) (by rw [x147, if_neg y0, if_neg y1, if_neg y2, if_neg y3, if_neg y4, if_neg y5, if_pos y6, f6]) (by rw [x257, if_neg y0, if_neg y1, if_neg y2, if_neg y3, if_neg y4, if_neg y5, if_pos y6, g6])
  by_cases y7 : x = nI 7
  · exact Sim.same hC (r := nI (A 7)) (by rw [x147, if_neg y0, if_neg y1, if_neg y2, if_neg y3, if_neg y4, if_neg y5, if_neg y6, if_pos y7, f7]) (by rw [x257, if_neg y0, if_neg y1, if_neg y2, if_neg y3, if_neg y4, if_neg y5, if_neg y6, if_pos y7, gg 7 (by omega) (by omega)])
  by_cases y8 : x = nI 8
  · exact Sim.same hC (r := nI (A 8)) (by rw [x147, if_neg y0, if_neg y1, if_neg y2, if_neg y3, if_neg y4, if_neg y5, if_neg y6, if_neg y7, if_pos y8, f8]) (by rw [x257, if_neg y0, if_neg y1, if_neg y2, if_neg y3, if_neg y4, if_neg y5, if_neg y6, if_neg y7, if_pos y8, gg 8 (by omega) (by omega)])
  by_cases y9 : x = nI 9
  · exact Sim.same hC (r := nI t) (by rw [x147, if_neg y0, if_neg y1, if_neg y2, if_neg y3, if_neg y4, if_neg y5, if_neg y6, if_neg y7, if_neg y8, if_pos y9, t2]) (by rw [x257, if_neg y0, if_neg y1, if_neg y2, if_neg y3, if_neg y4, if_neg y5, if_neg y6, if_neg y7, if_neg y8, if_pos y9, t3])
  by_cases hx : nI 20 ≤ x ∧ x ≤ nI (19 + A 3)
  · obtain ⟨k, hk, rfl⟩ := in_le (n := 19 + A 3) (by omega) ⟨Int32.le_trans (by decide) hx.1, hx.2⟩
    have hk2 : 20 ≤ k := by
      have := hx.1
      rwa [nI_leN (by omega) (by omega)] at this
    obtain ⟨b, rfl⟩ : ∃ b, k = 20 + b := ⟨k - 20, by omega⟩
    have eb : nI (20 + b) - nI 20 = nI b := by rw [nI_minus (by omega), Nat.add_sub_cancel_left]
    have fb := c1.br (b := b) (by omega)
    rw [Nat.zero_add] at fb
    have gb := c3.at (k := 28 + b) (by omega) (by omega)
    have kb := vk b (by omega)
    refine Sim.same hC (r := nI (A (28 + b))) ?_ ?_
    · rw [x147, if_neg y0, if_neg y1, if_neg y2, if_neg y3, if_neg y4, if_neg y5, if_neg y6, if_neg y7, if_neg y8, if_neg y9, x148, m18, cI_s, if_neg (by rw [bI_0]; exact not_not_intro ⟨hx.1, (nI_leN (by omega) (by omega)).mpr (by omega)⟩), eb, m14, f3, cI_s, if_pos (bI_nz.mpr ⟨(nI_leN (by omega) (by omega)).mpr (by omega), (nI_ltN (by omega) (by omega)).mpr (by omega)⟩), inB_nI (by omega), asr_d (by omega), ix_nI (by omega), fb]
      by_cases z : A (28 + b) = 0
      · rw [z, if_pos rfl, cI_s]
      · rw [if_neg (by rw [nI_eqI (by omega) (by omega)]; exact z), show A (28 + b) = 1 by omega, cI_s]
    · rw [x257, if_neg y0, if_neg y1, if_neg y2, if_neg y3, if_neg y4, if_neg y5, if_neg y6, if_neg y7, if_neg y8, if_neg y9, gg 3 (by omega) (by omega), nI_plus, m153, cI_s, if_neg (by rw [bI_0]; exact not_not_intro hx), nI_plus, nI_minus (by omega), inB_nI (by omega), asr_d (by omega), ix_nI (by omega), show 28 + (20 + b) - 20 = 28 + b by omega, gb]
  · refine Sim.same hC (r := m1) ?_ ?_
    · rw [x147, if_neg y0, if_neg y1, if_neg y2, if_neg y3, if_neg y4, if_neg y5, if_neg y6, if_neg y7, if_neg y8, if_neg y9, x148, m18, cI_s]
      by_cases hw : nI 20 ≤ x ∧ x ≤ nI 27
      · obtain ⟨k, hk, rfl⟩ := in_le (n := 27) (by omega) ⟨Int32.le_trans (by decide) hw.1, hw.2⟩
        have hk2 : 20 ≤ k := by
          have := hw.1
          rwa [nI_leN (by omega) (by omega)] at this
        rw [nI_leN (by omega) (by omega), nI_leN (by omega) (by omega)] at hx
        rw [if_neg (by rw [bI_0]; exact not_not_intro hw), nI_minus hk2, m14, f3, cI_s, if_neg (by rw [bI_nz, nI_leN (by omega) (by omega), nI_ltN (by omega) (by omega)]; omega), cI_s]
      · rw [if_pos (bI_0.mpr hw), cI_s]
    · rw [x257, if_neg y0, if_neg y1, if_neg y2, if_neg y3, if_neg y4, if_neg y5, if_neg y6, if_neg y7, if_neg y8, if_neg y9, gg 3 (by omega) (by omega), nI_plus, m153, cI_s, if_pos (bI_0.mpr hx)]
/-- one more read -/
def nR (A : Nat → Nat) (i p w : Nat) : Nat → Nat := ud (ud (ud (ud (ud A (320 + 4 * A 7) i) (320 + 4 * A 7 + 1) p) (320 + 4 * A 7 + 2) w) (320 + 4 * A 7 + 3) (A 0 / 1440)) 7 (A 7 + 1)
theorem nR_ne {i p w j : Nat} (h4 : j ≠ 7) (h : ¬ (320 + 4 * A 7 ≤ j ∧ j < 320 + 4 * A 7 + 4)) : nR A i p w j = A j := by
  unfold nR
  rw [ud_ne _ h4, ud_ne _ (by omega), ud_ne _ (by omega), ud_ne _ (by omega), ud_ne _ (by omega)]
theorem nR_V (h : V n A) {i p w : Nat} (h7 : A 7 < 30) (hi : i < A 10) (hp : p ≤ A 8) (hw : w < 720) : V n (nR A i p w) := by
  obtain ⟨a0, a2, a5, a6, ⟨v1, v3, v4, vb9, vk, vl9⟩, a7, a8, a9, a10, a11, vb, vl, vr, vs, z1, z2⟩ := h
  have e : ∀ j, j ≠ 7 → ¬ (320 + 4 * A 7 ≤ j ∧ j < 320 + 4 * A 7 + 4) → nR A i p w j = A j := fun j => nR_ne
  have d7 : nR A i p w 7 = A 7 + 1 := ud_at _ _ _
  have e0 := e 0 (by omega) (by omega)
  have e1 := e 1 (by omega) (by omega)
  have e2 := e 2 (by omega) (by omega)
  have e3 := e 3 (by omega) (by omega)
  have e4 := e 4 (by omega) (by omega)
  have e5 := e 5 (by omega) (by omega)
  have e6 := e 6 (by omega) (by omega)
  have e8 := e 8 (by omega) (by omega)
  have e9 := e 9 (by omega) (by omega)
  have e10 := e 10 (by omega) (by omega)
  have e11 := e 11 (by omega) (by omega)
  have k0 : nR A i p w (320 + 4 * A 7) = i := by unfold nR; rw [ud_ne _ (by omega), ud_ne _ (by omega), ud_ne _ (by omega), ud_ne _ (by omega), ud_at]
  have k1 : nR A i p w (320 + 4 * A 7 + 1) = p := by unfold nR; rw [ud_ne _ (by omega), ud_ne _ (by omega), ud_ne _ (by omega), ud_at]
  have k2 : nR A i p w (320 + 4 * A 7 + 2) = w := by unfold nR; rw [ud_ne _ (by omega), ud_ne _ (by omega), ud_at]
  have k3 : nR A i p w (320 + 4 * A 7 + 3) = A 0 / 1440 := by unfold nR; rw [ud_ne _ (by omega), ud_at]
  refine ⟨by rw [e0]; exact a0, by rw [e2]; exact a2, by rw [e5]; exact a5, by rw [e5, e6]; exact a6, ⟨by rw [e1]; exact v1, by rw [e3]; exact v3, by rw [e4]; exact v4, ?_, ?_, ?_⟩, by rw [d7]; omega, by rw [e8]; exact a8, by rw [e9]; exact a9, by rw [e10, e4]; omega, by rw [e11]; exact a11, fun b hb => ?_, ?_, fun k hk => ?_, fun k hk => ?_, fun d hd hd2 c hc => ?_, fun d hd hd2 c hc => ?_⟩
  · intro b' hb'
    rw [e3] at hb'
    rw [e _ (by omega) (by omega)]
    exact vb9 b' hb'
  · intro b' hb'
    rw [e _ (by omega) (by omega)]
    exact vk b' hb'
  · rw [e4, e3]
    exact vl9.congr (fun j h1 h2 => e j (by omega) (by omega))
  · rw [e11] at hb
    rw [e _ (by omega) (by omega)]
    exact vb b hb
  · rw [e10, e11]
    exact vl.congr (fun j h1 h2 => e j (by omega) (by omega))
  · rw [d7] at hk
    by_cases z : k = A 7
    · subst z
      rw [k0, k1, k2, k3, e10, e8, e0]
      exact ⟨hi, hp, hw, Nat.le_refl _⟩
    · rw [e10, e8, e0, e (320 + 4 * k) (by omega) (by omega), e (320 + 4 * k + 1) (by omega) (by omega), e (320 + 4 * k + 2) (by omega) (by omega), e (320 + 4 * k + 3) (by omega) (by omega)]
      exact vr k (by omega)
  · rw [d7] at hk
    by_cases z : k + 1 = A 7
    · rw [z, k3, e (320 + 4 * k + 3) (by omega) (by omega)]
      exact (vr k (by omega)).2.2.2
    · rw [e (320 + 4 * k + 3) (by omega) (by omega), e (320 + 4 * (k + 1) + 3) (by omega) (by omega)]
      exact vs k (by omega)
  · rw [e4] at hd
    rw [e _ (by omega) (by omega)]
    exact z1 d (by omega) hd2 c hc
  · rw [e10] at hd
    rw [e _ (by omega) (by omega)]
    exact z2 d hd hd2 c hc
theorem op_read (hC : Core n h A B) (x y z : Int32) : Sim L 45 178 [.ref 2, .int x, .int y, .int z] [.ref 253, .int x, .int y, .int z] n h A B := by
  obtain ⟨c1, c2, c3, c4, c5, c6, c7⟩ := id hC
  obtain ⟨a0, a2, a5, a6, ⟨v1, v3, v4, vb9, vk, vl9⟩, a7, a8, a9, a10, a11, vb, vl, vr, vs, z1, z2⟩ := id c5
  have f0 := c1.mn
  have f7 := c1.rd
  have f8 := c1.wn
  have f10 := c1.wd
  rw [Nat.zero_add] at f0 f7 f8 f10
  have g0 := c3.at (k := 0) (by omega) (by omega)
  have g7 := c3.at (k := 7) (by omega) (by omega)
  have g8 := c3.at (k := 8) (by omega) (by omega)
  have g10 := c3.at (k := 10) (by omega) (by omega)
  have no : runL (g2 L) 99 0 false (some .int) kc_45 57 [.ref 2, .int x, .int y, .int z, .ref 8, dm] [.int (nI 0)] h = some (some (.int m1), h) := by rw [e45_57, if_pos rfl]
  by_cases h8 : A 8 = 0
  · refine Sim.same hC (r := m1) ?_ ?_
    · rw [x45, f8, if_pos (by rw [h8]; decide), no]
    · rw [x178, g8, if_pos (by rw [h8])]
  have h8' : ¬ nI (A 8) ≤ nI 0 := by rw [nI_leN (by omega) (by omega)]; omega
  have h8'' : ¬ nI (A 8) = nI 0 := by rw [nI_eqI (by omega) (by omega)]; omega
  by_cases hx : nI 0 ≤ x ∧ x < nI (A 10)
  · have hx' : nI 0 ≤ x ∧ x ≤ nI (A 10) - nI 1 := ⟨hx.1, (le_predI (by omega)).mpr hx.2⟩
    by_cases hy : nI 0 ≤ y ∧ y ≤ nI (A 8)
    · by_cases hz : nI 0 ≤ z ∧ z ≤ nI 719
      · by_cases h30 : A 7 < 30
        · obtain ⟨i, hi, rfl⟩ := in_of (by omega) hx
          obtain ⟨p, hp, rfl⟩ := in_le (by omega) hy
          obtain ⟨w, hw, rfl⟩ := in_le (by omega) hz
          have F : ∀ c, c < 4 → ∀ {g : PH} {X : Nat → Nat} (v : Nat), RC g 0 X → RC (wI g (13 + c) (A 7) (nI v)) 0 (ud X (320 + 4 * A 7 + c) v) := by
            intro c hc g X v hX
            obtain ⟨q1, q2⟩ := loc_r (i := A 7) (c := c) h30 hc
            exact RC.set hX q2 (by rw [q1, Nat.zero_add]) (by rw [q1]) (by rw [sv_p (by omega)])
          have r0 := F 0 (by omega) i c1
          have r1 := F 1 (by omega) p r0
          have r2 := F 2 (by omega) w r1
          have r3 := F 3 (by omega) (A 0 / 1440) r2
          have r4 : RC (wI (wI (wI (wI (wI h 13 (A 7) (nI i)) 14 (A 7) (nI p)) 15 (A 7) (nI w)) 16 (A 7) (nI (A 0 / 1440))) 8 3 (nI (A 7 + 1))) 0 (nR A i p w) := RC.set r3 (k := 7) rfl rfl rfl rfl
          generalize hh1 : (wI (wI (wI (wI (wI h 13 (A 7) (nI i)) 14 (A 7) (nI p)) 15 (A 7) (nI w)) 16 (A 7) (nI (A 0 / 1440))) 8 3 (nI (A 7 + 1))) = h1 at r4
          have fh1 : ∀ a, ¬ (13 ≤ a ∧ a ≤ 16) → a ≠ 8 → hI h1 a = hI h a := by
            intro a p1 p2
            rw [← hh1, wI_ne p2, wI_ne (by omega), wI_ne (by omega), wI_ne (by omega), wI_ne (by omega)]
          have kh1 : Kp h h1 := by
            rw [← hh1]
            exact ((((Kp.w (by omega)).tr (Kp.w (by omega))).tr (Kp.w (by omega))).tr (Kp.w (by omega))).tr (Kp.w (by omega))
          have G : ∀ c, c < 4 → ∀ {g : PH} {X : Nat → Nat} (v : Nat), RM g 254 X → RM (wI g 254 (320 + 4 * A 7 + c) (nI v)) 254 (ud X (320 + 4 * A 7 + c) v) := by
            intro c hc g X v hX
            exact RM.set hX (by rw [sv_p (by omega)])
          have s0 := G 0 (by omega) i (c3.congr (fh1 254 (by omega) (by omega)))
          have s1 := G 1 (by omega) p s0
          have s2 := G 2 (by omega) w s1
          have s3 := G 3 (by omega) (A 0 / 1440) s2
          have s4 : RM (wI (wI (wI (wI (wI h1 254 (320 + 4 * A 7) (nI i)) 254 (320 + 4 * A 7 + 1) (nI p)) 254 (320 + 4 * A 7 + 2) (nI w)) 254 (320 + 4 * A 7 + 3) (nI (A 0 / 1440))) 254 7 (nI (A 7 + 1))) 254 (nR A i p w) := RM.set s3 (k := 7) rfl
          refine ⟨nI (A 7 + 1), h1, wI (wI (wI (wI (wI h1 254 (320 + 4 * A 7) (nI i)) 254 (320 + 4 * A 7 + 1) (nI p)) 254 (320 + 4 * A 7 + 2) (nI w)) 254 (320 + 4 * A 7 + 3) (nI (A 0 / 1440))) 254 7 (nI (A 7 + 1)), nR A i p w, ?_, ?_, hC.step r4 (fun a ha => ?_) s4 (fun a ha => ?_) (nR_V (c5.mono (Nat.le_succ n)) h30 hi hp (by omega)) (nR_ne (by omega) (by omega)), ?_, Or.inr ⟨fun a q1 q2 => ?_, ?_⟩, ⟨fun j hj => nR_ne (by omega) (by omega), ?_⟩, nR_ne (by omega) (by omega)⟩
          · have e46 : exec (g2 L) 99 46 [.ref 8, .int (nI i), .int (nI p), .int (nI w), .int (nI (A 0 / 1440))] h = some (none, h1) := by
              have t1 : hI (wI h 13 (A 7) (nI i)) 8 3 = nI (A 7) := by rw [wI_ne (by omega)]; exact f7
              have t2 : hI (wI (wI h 13 (A 7) (nI i)) 14 (A 7) (nI p)) 8 3 = nI (A 7) := by rw [wI_ne (by omega)]; exact t1
              have t3 : hI (wI (wI (wI h 13 (A 7) (nI i)) 14 (A 7) (nI p)) 15 (A 7) (nI w)) 8 3 = nI (A 7) := by rw [wI_ne (by omega)]; exact t2
              have t4 : hI (wI (wI (wI (wI h 13 (A 7) (nI i)) 14 (A 7) (nI p)) 15 (A 7) (nI w)) 16 (A 7) (nI (A 0 / 1440))) 8 3 = nI (A 7) := by rw [wI_ne (by omega)]; exact t3
              rw [x46, f7, if_neg (by rw [nI_leN (by omega) (by omega)]; omega), inB_nI (by omega), asr_d h30, ix_nI (by omega), e46_19, t1, inB_nI (by omega), asr_d h30, ix_nI (by omega), e46_29, t2, inB_nI (by omega), asr_d h30, ix_nI (by omega), e46_39, t3, inB_nI (by omega), asr_d h30, ix_nI (by omega), e46_50, t4, nI_plus, e46_60, hh1]
            have ans : hI h1 8 3 = nI (A 7 + 1) := by rw [← hh1, hI_wI, if_pos ⟨rfl, rfl⟩]
            rw [x45, f8, if_neg h8', f10, m18, cI_s, if_neg (by rw [bI_0]; exact not_not_intro hx'), f8, m18, cI_s, if_neg (by rw [bI_0]; exact not_not_intro hy), m17, cI_s, if_neg (by rw [bI_0]; exact not_not_intro hz), e45_57, if_neg (by decide), f7, if_pos (by rw [nI_ltN (by omega) (by omega)]; exact h30), f0, nI_quot (by omega) (by omega), e46, cV_s, ans]
          · have u7 : hI h1 254 7 = nI (A 7) := by rw [fh1 _ (by omega) (by omega)]; exact g7
            have u8 : hI h1 254 8 = nI (A 8) := by rw [fh1 _ (by omega) (by omega)]; exact g8
            have u10 : hI h1 254 10 = nI (A 10) := by rw [fh1 _ (by omega) (by omega)]; exact g10
            have w0 : hI (wI (wI (wI h1 254 (320 + 4 * A 7) (nI i)) 254 (320 + 4 * A 7 + 1) (nI p)) 254 (320 + 4 * A 7 + 2) (nI w)) 254 0 = nI (A 0) := by rw [hI_wI, if_neg (by omega), hI_wI, if_neg (by omega), hI_wI, if_neg (by omega), fh1 _ (by omega) (by omega)]; exact g0
            have w7 : hI (wI (wI (wI (wI h1 254 (320 + 4 * A 7) (nI i)) 254 (320 + 4 * A 7 + 1) (nI p)) 254 (320 + 4 * A 7 + 2) (nI w)) 254 (320 + 4 * A 7 + 3) (nI (A 0 / 1440))) 254 7 = nI (A 7) := by rw [hI_wI, if_neg (by omega), hI_wI, if_neg (by omega), hI_wI, if_neg (by omega), hI_wI, if_neg (by omega)]; exact u7
            rw [x178, u8, if_neg h8'', u10, m153, cI_s, if_neg (by rw [bI_0]; exact not_not_intro hx'), u8, m153, cI_s, if_neg (by rw [bI_0]; exact not_not_intro hy), m153, cI_s, if_neg (by rw [bI_0]; exact not_not_intro hz), u7, if_pos (by rw [Ne, nI_eqI (by omega) (by omega)]; omega), nI_times, nI_plus, nI_plus, nI_plus, nI_plus, inB_nI (by omega), asr_d (by omega), inB_nI (by omega), asr_d (by omega), inB_nI (by omega), asr_d (by omega), ix_nI (by omega), ix_nI (by omega), ix_nI (by omega), x179, w0, nI_quot (by omega) (by omega), cI_s, inB_nI (by omega), asr_d (by omega), ix_nI (by omega), w7, nI_plus]
          · rw [fh1 a (by omega) (by omega)]
          · rw [wI_ne (by omega), wI_ne (by omega), wI_ne (by omega), wI_ne (by omega), wI_ne (by omega)]
          · exact ((((kh1.tr (Kp.w (by omega))).tr (Kp.w (by omega))).tr (Kp.w (by omega))).tr (Kp.w (by omega))).tr (Kp.w (by omega))
          · rw [wI_ne (by omega), wI_ne (by omega), wI_ne (by omega), wI_ne (by omega), wI_ne (by omega), fh1 a (by omega) (by omega)]
          · exact ⟨nR_ne (by omega) (by omega), nR_ne (by omega) (by omega), nR_ne (by omega) (by omega), by rw [nR_ne (by omega) (by omega)]; exact Nat.le_refl _, fun b hb => ⟨nR_ne (by omega) (by omega), nR_ne (by omega) (by omega)⟩, fun j hj c hc => nR_ne (by omega) (by omega)⟩
          · show A 7 ≤ ud _ 7 (A 7 + 1) 7
            rw [ud_at]
            omega
        · refine Sim.same hC (r := m1) ?_ ?_
          · rw [x45, f8, if_neg h8', f10, m18, cI_s, if_neg (by rw [bI_0]; exact not_not_intro hx'), f8, m18, cI_s, if_neg (by rw [bI_0]; exact not_not_intro hy), m17, cI_s, if_neg (by rw [bI_0]; exact not_not_intro hz), e45_57, if_neg (by decide), f7, if_neg (by rw [nI_ltN (by omega) (by omega)]; exact h30)]
          · rw [x178, g8, if_neg h8'', g10, m153, cI_s, if_neg (by rw [bI_0]; exact not_not_intro hx'), g8, m153, cI_s, if_neg (by rw [bI_0]; exact not_not_intro hy), m153, cI_s, if_neg (by rw [bI_0]; exact not_not_intro hz), g7, if_neg (by rw [Ne, nI_eqI (by omega) (by omega)]; omega)]
      · refine Sim.same hC (r := m1) ?_ ?_
        · rw [x45, f8, if_neg h8', f10, m18, cI_s, if_neg (by rw [bI_0]; exact not_not_intro hx'), f8, m18, cI_s, if_neg (by rw [bI_0]; exact not_not_intro hy), m17, cI_s, if_pos (bI_0.mpr hz), no]
        · rw [x178, g8, if_neg h8'', g10, m153, cI_s, if_neg (by rw [bI_0]; exact not_not_intro hx'), g8, m153, cI_s, if_neg (by rw [bI_0]; exact not_not_intro hy), m153, cI_s, if_pos (bI_0.mpr hz)]
    · refine Sim.same hC (r := m1) ?_ ?_
      · rw [x45, f8, if_neg h8', f10, m18, cI_s, if_neg (by rw [bI_0]; exact not_not_intro hx'), f8, m18, cI_s, if_pos (bI_0.mpr hy), no]
      · rw [x178, g8, if_neg h8'', g10, m153, cI_s, if_neg (by rw [bI_0]; exact not_not_intro hx'), g8, m153, cI_s, if_pos (bI_0.mpr hy)]
  · have hx' : ¬ (nI 0 ≤ x ∧ x ≤ nI (A 10) - nI 1) := fun q => hx ⟨q.1, (le_predI (by omega)).mp q.2⟩
    refine Sim.same hC (r := m1) ?_ ?_
    · rw [x45, f8, if_neg h8', f10, m18, cI_s, if_pos (bI_0.mpr hx'), no]
    · rw [x178, g8, if_neg h8'', g10, m153, cI_s, if_pos (bI_0.mpr hx')]
end Ops7
