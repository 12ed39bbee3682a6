-- PART: dial.
theorem ud_same {A : Nat → Nat} {k n : Nat} (h : A k = n) : ud A k n = A := by
  funext j
  unfold ud
  split
  · rename_i q
    rw [q, h]
  · rfl
theorem RC.same {h : PH} {o : Nat} {A : Nat → Nat} (hR : RC h o A) {k n a f : Nat} {v : Int32} (hd : dom k = true) (ha : a = o + (loc k).1) (hf : f = (loc k).2) (hv : v = sv k n) (hn : A k = n) : RC (wI h a f v) o A := by
  have := RC.set hR hd ha hf hv
  rwa [ud_same hn] at this
theorem RM.same {h : PH} {c : Nat} {A : Nat → Nat} (hR : RM h c A) {k n : Nat} {v : Int32} (hv : v = sv k n) (hn : A k = n) : RM (wI h c k v) c A := by
  have := RM.set hR hv
  rwa [ud_same hn] at this
def nD (A : Nat → Nat) (b u v w : Nat) : Nat → Nat := ud (ud (ud (ud (ud A (40 + 8 * A 4) b) (40 + 8 * A 4 + 1) u) (40 + 8 * A 4 + 2) v) (40 + 8 * A 4 + 3) w) 4 (A 4 + 1)
theorem nD_ne {A : Nat → Nat} {b u v w j : Nat} (h4 : j ≠ 4) (h : ¬ (40 + 8 * A 4 ≤ j ∧ j < 40 + 8 * A 4 + 4)) : nD A b u v w j = A j := by
  unfold nD
  rw [ud_ne _ h4, ud_ne _ (by omega), ud_ne _ (by omega), ud_ne _ (by omega), ud_ne _ (by omega)]
theorem nD_V {n : Nat} {A : Nat → Nat} (h : V n A) {b u v w : Nat} (h4 : A 4 < 16) (hb : b < A 3) (hu : u ≤ 1) (hv : v < 720) (hw : w ≤ 1) : V n (nD A b u v w) := by
  obtain ⟨a0, a2, a5, a6, ⟨v1, v3, v4, vb9, vk, vl9⟩, a7, a8, a9, a10, a11, vb, vl, vr, vs, z1, z2⟩ := h
  have e : ∀ j, j ≠ 4 → ¬ (40 + 8 * A 4 ≤ j ∧ j < 40 + 8 * A 4 + 4) → nD A b u v w j = A j := fun j => nD_ne
  have d4 : nD A b u v w 4 = A 4 + 1 := ud_at _ _ _
  have e0 := e 0 (by omega) (by omega)
  have e1 := e 1 (by omega) (by omega)
  have e2 := e 2 (by omega) (by omega)
  have e3 := e 3 (by omega) (by omega)
  have e5 := e 5 (by omega) (by omega)
  have e6 := e 6 (by omega) (by omega)
  have e7 := e 7 (by omega) (by omega)
  have e8 := e 8 (by omega) (by omega)
  have e9 := e 9 (by omega) (by omega)
  have e10 := e 10 (by omega) (by omega)
  have e11 := e 11 (by omega) (by omega)
  refine ⟨by rw [e0]; exact a0, by rw [e2]; exact a2, by rw [e5]; exact a5, by rw [e5, e6]; exact a6, ⟨by rw [e1]; exact v1, by rw [e3]; exact v3, by rw [d4]; exact h4, ?_, ?_, ?_⟩, by rw [e7]; exact a7, by rw [e8]; exact a8, by rw [e9]; exact a9, by rw [e10, d4]; omega, by rw [e11]; exact a11, fun b hb => ?_, ?_, fun i hi => ?_, fun i hi => ?_, fun d hd hd2 c hc => ?_, fun d hd hd2 c hc => ?_⟩
  · intro b' hb'
    rw [e3] at hb'
    rw [e _ (by omega) (by omega)]
    exact vb9 b' hb'
  · intro b' hb'
    rw [e _ (by omega) (by omega)]
    exact vk b' hb'
  · rw [d4, e3]
    intro i hi
    by_cases z : i = A 4
    · subst z
      have k0 : nD A b u v w (40 + 8 * A 4) = b := by unfold nD; rw [ud_ne _ (by omega), ud_ne _ (by omega), ud_ne _ (by omega), ud_ne _ (by omega), ud_at]
      have k1 : nD A b u v w (40 + 8 * A 4 + 1) = u := by unfold nD; rw [ud_ne _ (by omega), ud_ne _ (by omega), ud_ne _ (by omega), ud_at]
      have k2 : nD A b u v w (40 + 8 * A 4 + 2) = v := by unfold nD; rw [ud_ne _ (by omega), ud_ne _ (by omega), ud_at]
      have k3 : nD A b u v w (40 + 8 * A 4 + 3) = w := by unfold nD; rw [ud_ne _ (by omega), ud_at]
      have zz : ∀ c, c < 8 → A (40 + 8 * A 4 + c) = 0 := z1 (A 4) (Nat.le_refl _) h4
      rw [k0, k1, k2, k3, e (40 + 8 * A 4 + 4) (by omega) (by omega), e (40 + 8 * A 4 + 5) (by omega) (by omega), e (40 + 8 * A 4 + 6) (by omega) (by omega), e (40 + 8 * A 4 + 7) (by omega) (by omega), zz 4 (by omega), zz 5 (by omega), zz 6 (by omega), zz 7 (by omega)]
      exact ⟨hb, hu, hv, hw, by omega, by omega, by omega, by omega⟩
    · rw [e (40 + 8 * i) (by omega) (by omega), e (40 + 8 * i + 1) (by omega) (by omega), e (40 + 8 * i + 2) (by omega) (by omega), e (40 + 8 * i + 3) (by omega) (by omega), e (40 + 8 * i + 4) (by omega) (by omega), e (40 + 8 * i + 5) (by omega) (by omega), e (40 + 8 * i + 6) (by omega) (by omega), e (40 + 8 * i + 7) (by omega) (by omega)]
      exact vl9 i (by omega)
  · rw [e11] at hb
    rw [e _ (by omega) (by omega)]
    exact vb b hb
  · rw [e10, e11]
    exact vl.congr (fun j h1 h2 => e j (by omega) (by omega))
  · rw [e7] at hi
    rw [e10, e8, e0, e _ (by omega) (by omega), e _ (by omega) (by omega), e _ (by omega) (by omega), e _ (by omega) (by omega)]
    exact vr i hi
  · rw [e7] at hi
    rw [e _ (by omega) (by omega), e _ (by omega) (by omega)]
    exact vs i hi
  · rw [d4] at hd
    rw [e _ (by omega) (by omega)]
    exact z1 d (by omega) hd2 c hc
  · rw [e10] at hd
    rw [e _ (by omega) (by omega)]
    exact z2 d hd hd2 c hc
section Dial
variable {L : Nat} {h : PH} {A : Nat → Nat}
theorem m20 (d : Nat) (hR : RC h 0 A) {m b u v w : Nat} (hm : m < 16) (hu : u ≤ 1) (z : ∀ c, c < 8 → A (40 + 8 * m + c) = 0) : ∃ h', exec (g2 L) (d + 1) 20 [.ref (33 + m), .int (nI b), .int (nI u), .int (nI v), .int (nI w)] h = some (none, h') ∧ RC h' 0 (ud (ud (ud (ud A (40 + 8 * m) b) (40 + 8 * m + 1) u) (40 + 8 * m + 2) v) (40 + 8 * m + 3) w) ∧ FD h h' := by
  have hk := (kk16 hm).1
  have ok : ∀ g : PH, okW (g2 L) g (33 + m) 24 = true := fun g => okW_of hk (by omega) (by omega)
  have f : ∀ c, c < 8 → (loc (40 + 8 * m + c)).1 = 33 + m ∧ (loc (40 + 8 * m + c)).2 = prm c ∧ dom (40 + 8 * m + c) = true := by
    intro c hc
    obtain ⟨p, q⟩ := loc_d (d := m) (c := c) hm hc
    rw [p]
    exact ⟨rfl, rfl, q⟩
  have F : ∀ c, c < 8 → ∀ {g : PH} {X : Nat → Nat} (v : Nat), RC g 0 X → RC (wI g (33 + m) (prm c) (nI v)) 0 (ud X (40 + 8 * m + c) v) := by
    intro c hc g X v hX
    obtain ⟨p1, p2, p3⟩ := f c hc
    exact RC.set hX p3 (by rw [p1, Nat.zero_add]) p2.symm (by rw [sv_p (by omega)])
  have G : ∀ c, c < 8 → ∀ {g : PH} {X : Nat → Nat}, RC g 0 X → X (40 + 8 * m + c) = 0 → RC (wI g (33 + m) (prm c) (nI 0)) 0 X := by
    intro c hc g X hX h0
    have := F c hc 0 hX
    rwa [ud_same h0] at this
  have r0 := F 0 (by omega) b hR
  have r1 := F 1 (by omega) u r0
  have r2 := F 2 (by omega) v r1
  have r3 := F 3 (by omega) w r2
  have zz : ∀ c, 4 ≤ c → c < 8 → ud (ud (ud (ud A (40 + 8 * m + 0) b) (40 + 8 * m + 1) u) (40 + 8 * m + 2) v) (40 + 8 * m + 3) w (40 + 8 * m + c) = 0 := by
    intro c h1 h2
    rw [ud_ne _ (by omega), ud_ne _ (by omega), ud_ne _ (by omega), ud_ne _ (by omega)]
    exact z c h2
  have r4 := G 7 (by omega) r3 (zz 7 (by omega) (by omega))
  have r5 := G 4 (by omega) r4 (zz 4 (by omega) (by omega))
  have r6 := G 5 (by omega) r5 (zz 5 (by omega) (by omega))
  have r7 := G 6 (by omega) r6 (zz 6 (by omega) (by omega))
  refine ⟨wI (wI (wI (wI (wI (wI (wI (wI h (33 + m) 0 (nI b)) (33 + m) 1 (nI u)) (33 + m) 2 (nI v)) (33 + m) 3 (nI w)) (33 + m) 4 (nI 0)) (33 + m) 5 (nI 0)) (33 + m) 6 (nI 0)) (33 + m) 7 (nI 0), ?_, r7, ?_⟩
  · rw [x20, ok, asr_tt, e20_5, ok, asr_tt, nrZ_le hu, asr_d rfl, e20_10, ok, asr_tt, e20_15, ok, asr_tt, e20_21, ok, asr_tt, e20_26, ok, asr_tt, e20_31, ok, asr_tt, e20_36, ok, asr_tt, e20_41]
  · have s : 33 + m = 3 ∨ (33 ≤ 33 + m ∧ 33 + m ≤ 48) := by omega
    exact (((((((FD.w s).tr (FD.w s)).tr (FD.w s)).tr (FD.w s)).tr (FD.w s)).tr (FD.w s)).tr (FD.w s)).tr (FD.w s)
theorem m154_loop {d : Nat} {m b u v w : Nat} (hm : m < 16) (hm4 : A 4 = m) (hu : u ≤ 1) (z : ∀ c, c < 8 → A (40 + 8 * m + c) = 0) : ∀ (k i : Nat) (h : PH), i + k = 8 → RM h 254 A → ∃ h', runL (g2 L) (d + 1) 11 false (some .int) kc_154 53 [.ref 253, .int (nI b), .int (nI u), .int (nI v), .int (nI w), .int (nI m), .int (nI i)] [] h = some (some (.int (nI m)), h') ∧ RM h' 254 (nD A b u v w) ∧ Fm h h' := by
  intro k
  induction k with
  | zero =>
    intro i h hi hR
    have hi8 : i = 8 := by omega
    subst hi8
    have F : ∀ c, c < 8 → ∀ {g : PH} {X : Nat → Nat} (v : Nat), RM g 254 X → RM (wI g 254 (40 + 8 * m + c) (nI v)) 254 (ud X (40 + 8 * m + c) v) := by
      intro c hc g X v hX
      exact RM.set hX (by rw [sv_p (by omega)])
    have r0 := F 0 (by omega) b hR
    have r1 := F 1 (by omega) u r0
    have r2 := F 2 (by omega) v r1
    have r3 := F 3 (by omega) w r2
    have g4 : hI (wI (wI (wI (wI h 254 (40 + 8 * m + 0) (nI b)) 254 (40 + 8 * m + 1) (nI u)) 254 (40 + 8 * m + 2) (nI v)) 254 (40 + 8 * m + 3) (nI w)) 254 4 = nI m := by
      have := r3.at (k := 4) (by omega) (by omega)
      rw [ud_ne _ (by omega), ud_ne _ (by omega), ud_ne _ (by omega), ud_ne _ (by omega), hm4] at this
      exact this
    have fin : ∀ x6 : Int32, runL (g2 L) (d + 1) 11 false (some .int) kc_154 96 [.ref 253, .int (nI b), .int (nI u), .int (nI v), .int (nI w), .int (nI m), .int x6] [.int (nI u), .int (nI 1), .int (nI m), .ref 253] (wI h 254 (40 + 8 * m + 0) (nI b)) = some (some (.int (nI m)), wI (wI (wI (wI (wI h 254 (40 + 8 * m + 0) (nI b)) 254 (40 + 8 * m + 1) (nI u)) 254 (40 + 8 * m + 2) (nI v)) 254 (40 + 8 * m + 3) (nI w)) 254 4 (nI (m + 1))) := by
      intro x6
      rw [e154_96, m155 d hm (by omega), cV_s, m155 d hm (by omega), cV_s, m155 d hm (by omega), cV_s, g4, nI_plus]
    refine ⟨wI (wI (wI (wI (wI h 254 (40 + 8 * m + 0) (nI b)) 254 (40 + 8 * m + 1) (nI u)) 254 (40 + 8 * m + 2) (nI v)) 254 (40 + 8 * m + 3) (nI w)) 254 4 (nI (m + 1)), ?_, ?_, ?_⟩
    · rw [e154_53, if_pos (by rw [nI_leN (by omega) (by omega)]; omega), m155 d hm (by omega), cV_s]
      by_cases hz : u = 0
      · have f := fin (nI 8)
        subst hz
        rw [if_pos rfl]
        exact f
      · have hu1 : u = 1 := by omega
        have f := fin (nI 8)
        subst hu1
        rw [if_neg (by decide)]
        exact f
    · have r4 := RM.set r3 (k := 4) (n := m + 1) (v := nI (m + 1)) rfl
      unfold nD
      rw [hm4]
      exact r4
    · exact (((Fm.w4.tr Fm.w4).tr Fm.w4).tr Fm.w4).tr Fm.w4
  | succ k ih =>
    intro i h hi hR
    obtain ⟨h', e1, e2, e3⟩ := ih (i + 1) (wI h 254 (40 + 8 * m + i) (nI 0)) (by omega) (RM.same hR (n := 0) (by rw [sv_p (by omega)]) (z i (by omega)))
    refine ⟨h', ?_, e2, Fm.w4.tr e3⟩
    rw [e154_53, if_neg (by rw [nI_leN (by omega) (by omega)]; omega), m155 d hm (by omega), cV_s, nI_plus]
    exact e1
end Dial
section Ops4
variable {L n : Nat} {h : PH} {A B : Nat → Nat}
theorem op_dial (hC : Core n h A B) (x : Int32) {u : Nat} (hu : u ≤ 1) (y z : Int32) : Sim L 16 154 [.ref 2, .int x, .int (nI u), .int y, .int z] [.ref 253, .int x, .int (nI u), .int y, .int z] n h A B := by
  obtain ⟨c1, c2, c3, c4, c5, c6, c7⟩ := id hC
  obtain ⟨v1, v3, v4, vb, vk, vl⟩ := id c5.2.2.2.2.1
  have f3 := c1.nb
  have f4 := c1.nd
  rw [Nat.zero_add] at f3 f4
  have g3 := c3.at (k := 3) (by omega) (by omega)
  have g4 := c3.at (k := 4) (by omega) (by omega)
  by_cases hx : nI 0 ≤ x ∧ x < nI (A 3)
  · by_cases hy : nI 0 ≤ y ∧ y ≤ nI 719
    · by_cases hz : nI 0 ≤ z ∧ z ≤ nI 1
      · by_cases h16 : A 4 < 16
        · obtain ⟨b, hb, rfl⟩ := in_of (by omega) hx
          obtain ⟨v, hv, rfl⟩ := in_le (by omega) hy
          obtain ⟨w, hw, rfl⟩ := in_le (by omega) hz
          have zz : ∀ c, c < 8 → A (40 + 8 * A 4 + c) = 0 := c5.2.2.2.2.2.2.2.2.2.2.2.2.2.2.1 (A 4) (Nat.le_refl _) h16
          have f4' : hI (fgt 165 181 h) 3 3 = nI (A 4) := by rw [fgt_ne (by omega)]; exact f4
          obtain ⟨h8, a1, a2, a3⟩ := m20 (L := L) 98 (c1.congr (h' := fgt 165 181 h) (fun a p q => fgt_ne (by omega))) (b := b) (v := v) (w := w) h16 hu zz
          have r8 : RC (wI h8 3 3 (nI (A 4 + 1))) 0 (nD A b u v w) := RC.set a2 (k := 4) rfl rfl rfl rfl
          have s3 : FD (fgt 165 181 h) (wI h8 3 3 (nI (A 4 + 1))) := a3.tr (FD.w (Or.inl rfl))
          obtain ⟨h9, b1, b2, b3⟩ := m154_loop (L := L) (d := 98) (b := b) (v := v) (w := w) h16 rfl hu zz 8 0 (wI h8 3 3 (nI (A 4 + 1))) rfl (c3.congr (by rw [s3.1 _ (by omega) (by omega), fgt_ne (by omega)]))
          refine ⟨nI (A 4), wI h8 3 3 (nI (A 4 + 1)), h9, nD A b u v w, ?_, ?_, hC.step r8 (fun a ha => ?_) b2 (fun a ha => ?_) (nD_V (c5.mono (Nat.le_succ n)) h16 hb hu (by omega) hw) (nD_ne (by omega) (by omega)), ?_, Or.inl (Pr_of (h := h) (fun a q1 q2 => ?_)), ⟨fun j hj => nD_ne (by omega) (by omega), by rw [nD_ne (by omega) (by omega)]; exact Nat.le_refl _⟩, nD_ne (by omega) (by omega)⟩
          · rw [x16, m14, f3, cI_s, if_neg (by rw [bI_0]; exact not_not_intro hx), m17, cI_s, if_neg (by rw [bI_0]; exact not_not_intro hy), m19, cI_s, if_neg (by rw [bI_0]; exact not_not_intro hz), f4, if_pos (by rw [nI_ltN (by omega) (by omega)]; exact h16), m8, cV_s, f4', inB_nI (by omega), asr_d (by omega), ix_nI (by omega), okA_of (kk16 h16).1 (by omega), asr_true, a1, cV_s, nI_plus]
          · have g3' : hI (wI h8 3 3 (nI (A 4 + 1))) 254 3 = nI (A 3) := by rw [s3.1 _ (by omega) (by omega), fgt_ne (by omega)]; exact g3
            have g4' : hI (wI h8 3 3 (nI (A 4 + 1))) 254 4 = nI (A 4) := by rw [s3.1 _ (by omega) (by omega), fgt_ne (by omega)]; exact g4
            rw [x154, m152 97 g3' (by omega), cI_s, if_neg (by rw [bI_0]; exact not_not_intro hx), m153, cI_s, if_neg (by rw [bI_0]; exact not_not_intro hy), m153, cI_s, if_neg (by rw [bI_0]; exact not_not_intro hz), g4', if_pos (by rw [Ne, nI_eqI (by omega) (by omega)]; omega)]
            exact b1
          · rw [s3.1 _ (by omega) (by omega), fgt_ne (by omega)]
          · rw [b3.1 _ (by omega) (by omega)]
          · exact (Kp.fg.tr (Kp.fd s3)).tr (Kp.fm b3)
          · rw [b3.1 _ (by omega) (by omega), s3.1 _ (by omega) (by omega)]
        · refine Sim.same hC (r := m1) ?_ ?_
          · rw [x16, m14, f3, cI_s, if_neg (by rw [bI_0]; exact not_not_intro hx), m17, cI_s, if_neg (by rw [bI_0]; exact not_not_intro hy), m19, cI_s, if_neg (by rw [bI_0]; exact not_not_intro hz), f4, if_neg (by rw [nI_ltN (by omega) (by omega)]; exact h16)]
          · rw [x154, m152 97 g3 (by omega), cI_s, if_neg (by rw [bI_0]; exact not_not_intro hx), m153, cI_s, if_neg (by rw [bI_0]; exact not_not_intro hy), m153, cI_s, if_neg (by rw [bI_0]; exact not_not_intro hz), g4, if_neg (by rw [Ne, nI_eqI (by omega) (by omega)]; omega)]
      · refine Sim.same hC (r := m1) ?_ ?_
        · rw [x16, m14, f3, cI_s, if_neg (by rw [bI_0]; exact not_not_intro hx), m17, cI_s, if_neg (by rw [bI_0]; exact not_not_intro hy), m19, cI_s, if_pos (bI_0.mpr hz)]
        · rw [x154, m152 97 g3 (by omega), cI_s, if_neg (by rw [bI_0]; exact not_not_intro hx), m153, cI_s, if_neg (by rw [bI_0]; exact not_not_intro hy), m153, cI_s, if_pos (bI_0.mpr hz)]
    · refine Sim.same hC (r := m1) ?_ ?_
      · rw [x16, m14, f3, cI_s, if_neg (by rw [bI_0]; exact not_not_intro hx), m17, cI_s, if_pos (bI_0.mpr hy)]
      · rw [x154, m152 97 g3 (by omega), cI_s, if_neg (by rw [bI_0]; exact not_not_intro hx), m153, cI_s, if_pos (bI_0.mpr hy)]
  · refine Sim.same hC (r := m1) ?_ ?_
    · rw [x16, m14, f3, cI_s, if_pos (bI_0.mpr hx)]
    · rw [x154, m152 97 g3 (by omega), cI_s, if_pos (bI_0.mpr hx)]
end Ops4
