-- PART: minutes, quick, storm, at, wrong.
section Ops5
variable {L n : Nat} {h : PH} {A B : Nat → Nat}
theorem fin2 (hC : Core n h A B) {h1 h2 : PH} {A' : Nat → Nat} (r1 : RC h1 0 A') (F1 : FD (fgt 165 181 h) h1) (r2 : RM h2 254 A') (F2 : Fm h1 h2) (hV : V (n + 1) A') (e : ∀ j, j ≠ 0 → j ≠ 1 → ¬ (40 ≤ j ∧ j < 168) → A' j = A j) : Core (n + 1) h2 A' B ∧ Kp h h2 ∧ (Pr h2 ∨ (Pk h h2 ∧ PKe A A')) ∧ WK A A' ∧ A' 5 = A 5 := by
  refine ⟨hC.step r1 (fun a ha => ?_) r2 (fun a ha => ?_) hV (e 5 (by omega) (by omega) (by omega)), (Kp.fg.tr (Kp.fd F1)).tr (Kp.fm F2), Or.inl (Pr_of (h := h) (fun a q1 q2 => ?_)), ⟨fun j hj => e j (by omega) (by omega) (by omega), by rw [e 7 (by omega) (by omega) (by omega)]; exact Nat.le_refl _⟩, e 5 (by omega) (by omega) (by omega)⟩
  · rw [F1.1 _ (by omega) (by omega), fgt_ne (by omega)]
  · rw [F2.1 _ (by omega) (by omega)]
  · rw [F2.1 _ (by omega) (by omega), F1.1 _ (by omega) (by omega)]
theorem op_minutes (hC : Core n h A B) (hn : n ≤ 5000) (x : Int32) : Sim L 28 164 [.ref 2, .int x] [.ref 253, .int x] n h A B := by
  obtain ⟨c1, c2, c3, c4, c5, c6, c7⟩ := id hC
  obtain ⟨v1, v3, v4, vb, vk, vl⟩ := id c5.2.2.2.2.1
  have a0 := c5.1
  have a2 := c5.2.1
  have f0 := c1.mn
  have f2 := c1.sp
  rw [Nat.zero_add] at f0 f2
  have g0 := c3.at (k := 0) (by omega) (by omega)
  have g2' := c3.at (k := 2) (by omega) (by omega)
  by_cases hx : nI 1 ≤ x ∧ x ≤ nI 10000
  · obtain ⟨v, hv, rfl⟩ : ∃ v, v ≤ 10000 ∧ x = nI v := in_le (by omega) ⟨Int32.le_trans (by decide) hx.1, hx.2⟩
    have hv1 : 1 ≤ v := by
      have := hx.1
      rwa [nI_leN (by omega) (by omega)] at this
    by_cases hm : A 0 + v < 576000
    · have r1 : RC (wI (fgt 165 181 h) 3 0 (nI (A 0 + v))) 0 (ud A 0 (A 0 + v)) := RC.set (c1.congr (fun a p q => fgt_ne (by omega))) (k := 0) rfl rfl rfl rfl
      have e0 : RM h 254 (ud (if A 2 = 0 then PB A 0 else A) 0 (A 0 + 0)) := by
        rw [PB_0 v1, ite_self, ud_same (by omega)]
        exact c3
      have hPV : VW (PB A v) (10000 * (n + 1)) := (PB_VW (n := v) c5.2.2.2.2.1).mono (by omega)
      have e : ∀ j, j ≠ 0 → j ≠ 1 → ¬ (40 ≤ j ∧ j < 40 + 8 * A 4) → ud (if A 2 = 0 then PB A v else A) 0 (A 0 + v) j = A j := by
        intro j h0 h1 hj
        rw [ud_ne _ h0]
        split
        · rw [PB_out h1 (by omega)]
        · rfl
      have hV' : V (n + 1) (ud (if A 2 = 0 then PB A v else A) 0 (A 0 + v)) := by
        refine c5.dials (Nat.le_succ n) e ?_ ?_ ?_
        · rw [ud_at]
          exact ⟨by omega, hm⟩
        · rw [ud_ne _ (by omega)]
          split
          · exact hPV.1
          · exact v1
        · refine VL.congr (A := if A 2 = 0 then PB A v else A) ?_ (fun j p q => ud_ne _ (by omega))
          split
          · have := hPV.2.2.2.2.2
            rwa [PB_out (by omega) (by omega), PB_out (by omega) (by omega)] at this
          · exact vl.mono (by omega)
      have hc : ∃ h1, exec (g2 L) 100 28 [.ref 2, .int (nI v)] h = some (some (.int (nI (A 0 + v))), h1) ∧ RC h1 0 (ud (if A 2 = 0 then PB A v else A) 0 (A 0 + v)) ∧ FD (fgt 165 181 h) h1 := by
        have f0' : hI (fgt 165 181 h) 3 0 = nI (A 0) := by rw [fgt_ne (by omega)]; exact f0
        have f2' : hI (fgt 165 181 h) 3 2 = nI (A 2) := by rw [fgt_ne (by omega)]; exact f2
        have st : exec (g2 L) 100 28 [.ref 2, .int (nI v)] h = if A 2 ≠ 0 then some (some (.int (nI (A 0 + v))), wI (fgt 165 181 h) 3 0 (nI (A 0 + v))) else cV (exec (g2 L) 99 29 [.ref 3, .int (nI v)] (wI (fgt 165 181 h) 3 0 (nI (A 0 + v)))) fun h4 => some (some (.int (hI h4 3 0)), h4) := by
          rw [x28, m18, cI_s, if_neg (by rw [bI_0]; exact not_not_intro hx), f0, nI_plus, if_pos (by rw [nI_ltN (by omega) (by omega)]; exact hm), m8, cV_s, f0', f2', nI_plus]
          by_cases z : A 2 = 0
          · rw [if_neg (by rw [z]; exact fun q => q rfl), if_neg (fun q => q z)]
          · rw [if_pos (by rw [Ne, nI_eqI (by omega) (by omega)]; exact z), if_pos z]
        by_cases z : A 2 = 0
        · rw [if_neg (fun q => q z)] at st
          have hVX : VW (ud A 0 (A 0 + v)) (10000 * n) := c5.2.2.2.2.1.congr (fun j hj => ud_ne _ (by omega))
          obtain ⟨h4, b1, b2, b3⟩ := m29 (L := L) 95 r1 hVX (by omega) hv1 (by omega)
          have b2' : RC h4 0 (ud (PB A v) 0 (A 0 + v)) := by
            rw [← PB_ud0 v3 (fun i hi => (vl i hi).1)]
            exact b2
          refine ⟨h4, ?_, ?_, (FD.w (Or.inl rfl)).tr b3⟩
          · rw [st, b1, cV_s]
            have := b2'.mn
            rw [Nat.zero_add, ud_at] at this
            rw [this]
          · rw [if_pos z]
            exact b2'
        · rw [if_pos z] at st
          refine ⟨_, st, ?_, FD.w (Or.inl rfl)⟩
          rw [if_neg z]
          exact r1
      obtain ⟨h1, k1, k2, k3⟩ := hc
      have e0' : RM h1 254 (ud (if A 2 = 0 then PB A 0 else A) 0 (A 0 + 0)) := e0.congr (by rw [k3.1 _ (by omega) (by omega), fgt_ne (by omega)])
      obtain ⟨h2, w1, w2, w3⟩ := m164_loop (L := L) (d := 96) c5.2.2.2.2.1 (n := v) (by omega) (by omega) (by omega) a2 v 0 h1 (by omega) e0'
      obtain ⟨p1, p2, p3, p4, p5⟩ := fin2 hC k2 k3 w2 w3 hV' (fun j h0 h1 hj => e j h0 h1 (by omega))
      refine ⟨nI (A 0 + v), h1, h2, _, k1, ?_, p1, p2, p3, p4, p5⟩
      have g0' : hI h1 254 0 = nI (A 0) := by rw [k3.1 _ (by omega) (by omega), fgt_ne (by omega)]; exact g0
      rw [x164, m153, cI_s, if_neg (by rw [bI_0]; exact not_not_intro hx), g0', nI_plus, if_pos (by rw [nI_leN (by omega) (by omega)]; omega)]
      exact w1
    · refine Sim.same hC (r := m1) ?_ ?_
      · rw [x28, m18, cI_s, if_neg (by rw [bI_0]; exact not_not_intro hx), f0, nI_plus, if_neg (by rw [nI_ltN (by omega) (by omega)]; exact hm)]
      · rw [x164, m153, cI_s, if_neg (by rw [bI_0]; exact not_not_intro hx), g0, nI_plus, if_neg (by rw [nI_leN (by omega) (by omega)]; omega)]
  · refine Sim.same hC (r := m1) ?_ ?_
    · rw [x28, m18, cI_s, if_pos (bI_0.mpr hx)]
    · rw [x164, m153, cI_s, if_pos (bI_0.mpr hx)]
theorem op_quick (hC : Core n h A B) (hn : n ≤ 5000) (x : Int32) : Sim L 35 172 [.ref 2, .int x] [.ref 253, .int x] n h A B := by
  obtain ⟨c1, c2, c3, c4, c5, c6, c7⟩ := id hC
  obtain ⟨v1, v3, v4, vb, vk, vl⟩ := id c5.2.2.2.2.1
  by_cases hx : nI 1 ≤ x ∧ x ≤ nI 1440
  · obtain ⟨v, hv, rfl⟩ : ∃ v, v ≤ 1440 ∧ x = nI v := in_le (by omega) ⟨Int32.le_trans (by decide) hx.1, hx.2⟩
    have hv1 : 1 ≤ v := by
      have := hx.1
      rwa [nI_leN (by omega) (by omega)] at this
    have hPV : VW (PB A v) (10000 * (n + 1)) := (PB_VW (n := v) c5.2.2.2.2.1).mono (by omega)
    have e : ∀ j, j ≠ 0 → j ≠ 1 → ¬ (40 ≤ j ∧ j < 40 + 8 * A 4) → PB A v j = A j := fun j h0 h1 hj => PB_out h1 (by omega)
    have hV' : V (n + 1) (PB A v) := by
      refine c5.dials (Nat.le_succ n) e ?_ hPV.1 ?_
      · rw [PB_out (by omega) (by omega)]
        exact ⟨Nat.le_refl _, c5.1⟩
      · have := hPV.2.2.2.2.2
        rwa [PB_out (by omega) (by omega), PB_out (by omega) (by omega)] at this
    obtain ⟨h1, b1, b2, b3⟩ := m29 (L := L) 95 (c1.congr (h' := fgt 165 181 h) (fun a p q => fgt_ne (by omega))) c5.2.2.2.2.1 (by omega) hv1 (by omega)
    have e0 : RM h1 254 (PB A 0) := by
      rw [PB_0 v1]
      exact c3.congr (by rw [b3.1 _ (by omega) (by omega), fgt_ne (by omega)])
    obtain ⟨h2, w1, w2, w3⟩ := m172_loop (L := L) (d := 96) c5.2.2.2.2.1 (n := v) (by omega) (by omega) v 0 h1 (by omega) e0
    obtain ⟨p1, p2, p3, p4, p5⟩ := fin2 hC (show RC h1 0 (PB A v) from b2) b3 w2 w3 hV' (fun j h0 h1 hj => e j h0 h1 (by omega))
    refine ⟨nI ((A 1 + v) % 2), h1, h2, _, ?_, ?_, p1, p2, p3, p4, p5⟩
    · have f1 := (show RC h1 0 (PB A v) from b2).sg
      rw [Nat.zero_add, PB_1] at f1
      rw [x35, m18, cI_s, if_pos (bI_nz.mpr hx), m8, cV_s, b1, cV_s, f1]
    · rw [x172, m153, cI_s, if_pos (bI_nz.mpr hx)]
      exact w1
  · refine Sim.same hC (r := m1) ?_ ?_
    · rw [x35, m18, cI_s, if_neg (by rw [bI_nz]; exact hx)]
    · rw [x172, m153, cI_s, if_neg (by rw [bI_nz]; exact hx)]
theorem PAm_V {A : Nat → Nat} (h : V n A) {st s : Nat} : V (n + 1) (PAm A st s 1 (A 4)) := by
  obtain ⟨v1, v3, v4, vb, vk, vl⟩ := id h.2.2.2.2.1
  refine h.dials (Nat.le_succ n) (fun j h0 h1 hj => PAm_out (by omega)) ?_ ?_ ?_
  · rw [PAm_out (by omega)]
    exact ⟨Nat.le_refl _, h.1⟩
  · rw [PAm_out (by omega)]
    exact v1
  · intro i hi
    obtain ⟨l0, l1, l2, l3, l4, l5, l6, l7⟩ := vl i hi
    obtain ⟨b2, b3, b4⟩ := PAm_in (X := A) (st := st) (s := s) (n := 1) hi
    obtain ⟨d2, d3, d4⟩ := DN_in (st := st) (s := s) (n := 1) ⟨l2, l3, l4⟩
    rw [b2, b3, b4, PAm_out (by omega), PAm_out (by omega), PAm_out (by omega), PAm_out (by omega), PAm_out (by omega)]
    exact ⟨l0, l1, d2, d3, by omega, l5, l6, l7⟩
theorem op_storm (hC : Core n h A B) (hn : n ≤ 5000) (x y : Int32) : Sim L 36 173 [.ref 2, .int x, .int y] [.ref 253, .int x, .int y] n h A B := by
  obtain ⟨c1, c2, c3, c4, c5, c6, c7⟩ := id hC
  obtain ⟨v1, v3, v4, vb, vk, vl⟩ := id c5.2.2.2.2.1
  have f3 := c1.nb
  rw [Nat.zero_add] at f3
  have g3 := c3.at (k := 3) (by omega) (by omega)
  by_cases hx : nI 0 ≤ x ∧ x < nI (A 3)
  · by_cases hy : nI 0 ≤ y ∧ y ≤ nI 1
    · obtain ⟨b, hb, hxb⟩ := in_of (by omega) hx
      obtain ⟨s, hs, rfl⟩ := in_le (by omega) hy
      have hx' : x = nI (b + 1) - nI 1 := by rw [hxb, nI_m1_plus]
      obtain ⟨h1, b1, b2, b3⟩ := m37 (L := L) 95 (c1.congr (h' := fgt 165 181 h) (fun a p q => fgt_ne (by omega))) c5.2.2.2.2.1 (by omega) hs (show b + 1 ≤ 8 by omega)
      have e0 : RM h1 254 (PAm A (b + 1) s 1 0) := by
        rw [PAm_0]
        exact c3.congr (by rw [b3.1 _ (by omega) (by omega), fgt_ne (by omega)])
      obtain ⟨h2, w1, w2, w3⟩ := m173_loop (L := L) (d := 97) c5.2.2.2.2.1 (by omega) hs (show b + 1 ≤ 8 by omega) (A 4) 0 h1 (by omega) e0
      obtain ⟨p1, p2, p3, p4, p5⟩ := fin2 hC b2 b3 w2 w3 (PAm_V c5) (fun j h0 h1 hj => PAm_out (by omega))
      refine ⟨nI (sm A (b + 1) s (A 4)), h1, h2, _, ?_, ?_, p1, p2, p3, p4, p5⟩
      · rw [x36, m14, f3, cI_s, if_neg (by rw [bI_0]; exact not_not_intro hx), m19, cI_s, if_pos (bI_nz.mpr hy), m8, cV_s, hx', b1, cI_s]
      · have g3' : hI h1 254 3 = nI (A 3) := by rw [b3.1 _ (by omega) (by omega), fgt_ne (by omega)]; exact g3
        rw [x173, m152 97 g3' (by omega), cI_s, if_neg (by rw [bI_0]; exact not_not_intro hx), m153, cI_s, if_pos (bI_nz.mpr hy), hx']
        exact w1
    · refine Sim.same hC (r := m1) ?_ ?_
      · rw [x36, m14, f3, cI_s, if_neg (by rw [bI_0]; exact not_not_intro hx), m19, cI_s, if_neg (by rw [bI_nz]; exact hy)]
      · rw [x173, m152 97 g3 (by omega), cI_s, if_neg (by rw [bI_0]; exact not_not_intro hx), m153, cI_s, if_neg (by rw [bI_nz]; exact hy)]
  · refine Sim.same hC (r := m1) ?_ ?_
    · rw [x36, m14, f3, cI_s, if_pos (bI_0.mpr hx)]
    · rw [x173, m152 97 g3 (by omega), cI_s, if_pos (bI_0.mpr hx)]
end Ops5
/-- how far a dial is behind -/
def bh (m hd : Nat) : Nat := (m + 720 - hd) % 720
theorem nI_wrap (a : Nat) : nI (4294967296 + a) = nI a := by
  apply Int32.toBitVec_inj.mp
  show BitVec.ofNat 32 (4294967296 + a) = BitVec.ofNat 32 a
  apply BitVec.eq_of_toNat_eq
  rw [BitVec.toNat_ofNat, BitVec.toNat_ofNat]
  omega
theorem nI_neg {a b : Nat} (h : b ≤ 4294967296 + a) : nI a - nI b = nI (4294967296 + a - b) := by
  rw [← nI_wrap a, nI_minus h]
theorem bh_all : ∀ c, c < 720 → c ≠ 0 → fmod (nI (4294967296 - c)) (nI 720) = nI (720 - c) ∧ nI (4294967296 - c) % nI 720 = nI (4294967296 - c) ∧ ¬ nI 0 ≤ nI (4294967296 - c) ∧ nI (4294967296 - c) + nI 720 = nI (720 - c) := by decide +kernel
theorem fmod_bh {m hd : Nat} (hm : m < 576000) (hh : hd < 720) : fmod (nI m - nI hd) (nI 720) = nI (bh m hd) := by
  by_cases q : hd ≤ m
  · rw [nI_minus q]
    unfold fmod
    have e : m - hd ^^^ 720 < 2 ^ 20 := Nat.xor_lt_two_pow (by omega) (by omega)
    rw [show (0 : Int32) = nI 0 from rfl, nI_xor, if_pos ((nI_leN (by omega) (by omega)).mpr (Nat.zero_le _)), nI_rest (by omega) (by omega)]
    unfold bh
    congr 1
    omega
  · have e := (bh_all (hd - m) (by omega) (by omega)).1
    rw [nI_neg (by omega), show 4294967296 + m - hd = 4294967296 - (hd - m) by omega, e]
    unfold bh
    congr 1
    omega
theorem mod_bh {m hd : Nat} (hm : m < 576000) (hh : hd < 720) {h : PH} : (if nI 0 ≤ (nI m - nI hd) % nI 720 then some (some (Value.int ((nI m - nI hd) % nI 720)), h) else some (some (.int ((nI m - nI hd) % nI 720 + nI 720)), h)) = (some (some (.int (nI (bh m hd))), h) : PR) := by
  by_cases q : hd ≤ m
  · rw [nI_minus q, nI_rest (by omega) (by omega), if_pos ((nI_leN (by omega) (by omega)).mpr (Nat.zero_le _))]
    have : (m - hd) % 720 = bh m hd := by unfold bh; omega
    rw [this]
  · obtain ⟨e1, e2, e3, e4⟩ := bh_all (hd - m) (by omega) (by omega)
    rw [nI_neg (by omega), show 4294967296 + m - hd = 4294967296 - (hd - m) by omega, e2, if_neg e3, e4]
    have : 720 - (hd - m) = bh m hd := by unfold bh; omega
    rw [this]
section Ops6
variable {L n : Nat} {h : PH} {A B : Nat → Nat}
theorem m39 (d : Nat) (hR : RC h 0 A) (h0 : A 0 < 576000) {i : Nat} (hi : i < 16) (hh : A (40 + 8 * i + 2) < 720) : exec (g2 L) (d + 1) 39 [.ref 3, .ref (33 + i)] h = some (some (.int (nI (bh (A 0) (A (40 + 8 * i + 2))))), h) := by
  have f0 := hR.mn
  have f2 := hR.dl (d := i) (c := 2) hi (by omega)
  rw [Nat.zero_add] at f0 f2
  rw [x39, okA_of (kk16 hi).1 (by omega), asr_true, f0]
  rw [show hI h (33 + i) 2 = nI (A (40 + 8 * i + 2)) from f2, fmod_bh h0 hh]
theorem m175 (d : Nat) (hR : RM h 254 A) (h0 : A 0 < 576000) {i : Nat} (hi : i < 16) (hh : A (40 + 8 * i + 2) < 720) : exec (g2 L) (d + 2) 175 [.ref 253, .int (nI i)] h = some (some (.int (nI (bh (A 0) (A (40 + 8 * i + 2))))), h) := by
  have g0 := hR.at (k := 0) (by omega) (by omega)
  have g2' := hR.at (k := 40 + 8 * i + 2) (by omega) (by omega)
  rw [x175, m166 d hi (by omega), cI_s, g0, g2', mod_bh h0 hh]
theorem op_at (hC : Core n h A B) (x y : Int32) : Sim L 38 174 [.ref 2, .int x, .int y] [.ref 253, .int x, .int y] n h A B := by
  obtain ⟨c1, c2, c3, c4, c5, c6, c7⟩ := id hC
  obtain ⟨v1, v3, v4, vb, vk, vl⟩ := id c5.2.2.2.2.1
  have f4 := c1.nd
  rw [Nat.zero_add] at f4
  have g4 := c3.at (k := 4) (by omega) (by omega)
  by_cases hx : nI 0 ≤ x ∧ x < nI (A 4)
  · obtain ⟨i, hi, rfl⟩ := in_of (by omega) hx
    have hi16 : i < 16 := by omega
    obtain ⟨l0, l1, l2, l3, l4, l5, l6, l7⟩ := vl i hi
    obtain ⟨t0, t1, t2, t3, t4, t5, t6, t7⟩ := c1.dH (i := i) hi16
    rw [Nat.zero_add] at t0 t2 t3 t4 t7
    have gg : ∀ c, c < 8 → hI h 254 (40 + 8 * i + c) = nI (A (40 + 8 * i + c)) := fun c hc => c3.at (by omega) (by omega)
    have g0 : hI h 254 (40 + 8 * i + 0) = nI (A (40 + 8 * i)) := gg 0 (by omega)
    have ok : okA (g2 L) h (33 + i) 24 = true := okA_of (kk16 hi16).1 (by omega)
    by_cases y0 : y = nI 0
    · refine Sim.same hC (r := nI (A (40 + 8 * i + 2))) ?_ ?_
      · rw [x38, m22, f4, cI_s, if_pos (bI_nz.mpr hx), inB_nI (by omega), asr_d (by omega), ix_nI (by omega), ok, asr_true, if_pos y0, t2]
      · rw [x174, m157 97 g4 (by omega), cI_s, if_pos (bI_nz.mpr hx), if_pos y0, m166 98 hi16 (by omega), cI_s, gg 2 (by omega)]
    by_cases y1 : y = nI 1
    · refine Sim.same hC (r := nI (A (40 + 8 * i + 3))) ?_ ?_
      · rw [x38, m22, f4, cI_s, if_pos (bI_nz.mpr hx), inB_nI (by omega), asr_d (by omega), ix_nI (by omega), ok, asr_true, if_neg y0, if_pos y1, asr_true, t3]
      · rw [x174, m157 97 g4 (by omega), cI_s, if_pos (bI_nz.mpr hx), if_neg y0, if_pos y1, m166 98 hi16 (by omega), cI_s, gg 3 (by omega)]
    by_cases y2 : y = nI 2
    · refine Sim.same hC (r := nI (A (40 + 8 * i + 4))) ?_ ?_
      · rw [x38, m22, f4, cI_s, if_pos (bI_nz.mpr hx), inB_nI (by omega), asr_d (by omega), ix_nI (by omega), ok, asr_true, if_neg y0, if_neg y1, if_pos y2, asr_true, t4]
      · rw [x174, m157 97 g4 (by omega), cI_s, if_pos (bI_nz.mpr hx), if_neg y0, if_neg y1, if_pos y2, m166 98 hi16 (by omega), cI_s, gg 4 (by omega)]
    by_cases y3 : y = nI 3
    · refine Sim.same hC (r := nI (bh (A 0) (A (40 + 8 * i + 2)))) ?_ ?_
      · rw [x38, m22, f4, cI_s, if_pos (bI_nz.mpr hx), inB_nI (by omega), asr_d (by omega), ix_nI (by omega), if_neg y0, if_neg y1, if_neg y2, if_pos y3, m39 98 c1 c5.1 hi16 l2, cI_s]
      · rw [x174, m157 97 g4 (by omega), cI_s, if_pos (bI_nz.mpr hx), if_neg y0, if_neg y1, if_neg y2, if_pos y3, m175 97 c3 c5.1 hi16 l2, cI_s]
    by_cases y4 : y = nI 4
    · refine Sim.same hC (r := nI (A (40 + 8 * i))) ?_ ?_
      · rw [x38, m22, f4, cI_s, if_pos (bI_nz.mpr hx), inB_nI (by omega), asr_d (by omega), ix_nI (by omega), if_neg y0, if_neg y1, if_neg y2, if_neg y3, if_pos y4, ok, asr_true, t0]
      · rw [x174, m157 97 g4 (by omega), cI_s, if_pos (bI_nz.mpr hx), if_neg y0, if_neg y1, if_neg y2, if_neg y3, if_pos y4, m166 98 hi16 (by omega), cI_s, g0]
    by_cases y5 : y = nI 5
    · refine Sim.same hC (r := nI (A (40 + 8 * i + 7))) ?_ ?_
      · rw [x38, m22, f4, cI_s, if_pos (bI_nz.mpr hx), inB_nI (by omega), asr_d (by omega), ix_nI (by omega), if_neg y0, if_neg y1, if_neg y2, if_neg y3, if_neg y4, if_pos y5, ok, asr_true, t7]
        by_cases z : A (40 + 8 * i + 7) = 0
        · rw [z, if_pos rfl]
        · rw [if_neg (by rw [nI_eqI (by omega) (by omega)]; exact z), show A (40 + 8 * i + 7) = 1 by omega]
      · rw [x174, m157 97 g4 (by omega), cI_s, if_pos (bI_nz.mpr hx), if_neg y0, if_neg y1, if_neg y2, if_neg y3, if_neg y4, if_pos y5, m166 98 hi16 (by omega), cI_s, gg 7 (by omega)]
    by_cases y6 : y = nI 6
    · have e1 := m30 (L := L) 97 c1 v3 vb vk (st := 0) (by omega) l0
      have e2 := m167 (L := L) 98 c3 v3 vb vk (st := 0) (by omega) l0
      rw [nI_p0] at e1 e2
      refine Sim.same hC (r := bI (cm A 0 (A (40 + 8 * i) + 1) = true)) ?_ ?_
      · rw [x38, m22, f4, cI_s, if_pos (bI_nz.mpr hx), inB_nI (by omega), asr_d (by omega), ix_nI (by omega), if_neg y0, if_neg y1, if_neg y2, if_neg y3, if_neg y4, if_neg y5, if_pos y6, ok, asr_true, t0, e1, cI_s]
        by_cases z : cm A 0 (A (40 + 8 * i) + 1) = true
        · rw [bI_t z, if_neg (by decide)]
        · rw [bI_f z, if_pos rfl]
      · rw [x174, m157 97 g4 (by omega), cI_s, if_pos (bI_nz.mpr hx), if_neg y0, if_neg y1, if_neg y2, if_neg y3, if_neg y4, if_neg y5, if_pos y6, m166 98 hi16 (by omega), cI_s, g0, e2, cI_s]
        by_cases z : cm A 0 (A (40 + 8 * i) + 1) = true
        · rw [bI_t z, if_neg (by decide)]
        · rw [bI_f z, if_pos rfl]
    refine Sim.same hC (r := m1) ?_ ?_
    · rw [x38, m22, f4, cI_s, if_pos (bI_nz.mpr hx), inB_nI (by omega), asr_d (by omega), if_neg y0, if_neg y1, if_neg y2, if_neg y3, if_neg y4, if_neg y5, if_neg y6]
    · rw [x174, m157 97 g4 (by omega), cI_s, if_pos (bI_nz.mpr hx), if_neg y0, if_neg y1, if_neg y2, if_neg y3, if_neg y4, if_neg y5, if_neg y6]
  · refine Sim.same hC (r := m1) ?_ ?_
    · rw [x38, m22, f4, cI_s, if_neg (by rw [bI_nz]; exact hx)]
    · rw [x174, m157 97 g4 (by omega), cI_s, if_neg (by rw [bI_nz]; exact hx)]
def wr (A : Nat → Nat) : Nat → Nat
  | 0 => 0
  | i + 1 => wr A i + (if bh (A 0) (A (40 + 8 * i + 2)) = 0 then 0 else 1)
theorem wr_le (A : Nat → Nat) : ∀ i, wr A i ≤ i
  | 0 => Nat.le_refl _
  | i + 1 => by
    have := wr_le A i
    rw [wr]
    split <;> omega
theorem bh_lt (m hd : Nat) : bh m hd < 720 := Nat.mod_lt _ (by omega)
theorem op_wrong (hC : Core n h A B) : Sim L 40 176 [.ref 2] [.ref 253] n h A B := by
  obtain ⟨c1, c2, c3, c4, c5, c6, c7⟩ := id hC
  obtain ⟨v1, v3, v4, vb, vk, vl⟩ := id c5.2.2.2.2.1
  have f4 := c1.nd
  rw [Nat.zero_add] at f4
  have g4 := c3.at (k := 4) (by omega) (by omega)
  have l1 : ∀ k i, i + k = A 4 → runL (g2 L) 99 0 false (some .int) kc_40 4 [.ref 2, .int (nI (wr A i)), .int (nI i)] [] h = some (some (.int (nI (wr A (A 4)))), h) := by
    intro k
    induction k with
    | zero =>
      intro i hi
      rw [e40_4, f4, if_pos (by rw [nI_leN (by omega) (by omega)]; omega), show i = A 4 by omega]
    | succ k ih =>
      intro i hi
      have hb := bh_lt (A 0) (A (40 + 8 * i + 2))
      have e := ih (i + 1) (by omega)
      rw [e40_4, f4, if_neg (by rw [nI_leN (by omega) (by omega)]; omega), inB_nI (by omega), asr_d (by omega), ix_nI (by omega), m39 98 c1 c5.1 (by omega) (vl i (by omega)).2.2.1, cI_s, nI_plus, nI_plus]
      rw [wr] at e
      by_cases z : bh (A 0) (A (40 + 8 * i + 2)) = 0
      · rw [if_pos (by rw [z])]
        rw [if_pos z, Nat.add_zero] at e
        exact e
      · rw [if_neg (by rw [nI_eqI (by omega) (by omega)]; exact z)]
        rw [if_neg z] at e
        exact e
  have l2 : ∀ k i, i + k = A 4 → runL (g2 L) 99 11 false (some .int) kc_176 4 [.ref 253, .int (nI (wr A i)), .int (nI i)] [] h = some (some (.int (nI (wr A (A 4)))), h) := by
    intro k
    induction k with
    | zero =>
      intro i hi
      rw [e176_4, g4, if_pos (by rw [nI_leN (by omega) (by omega)]; omega), show i = A 4 by omega]
    | succ k ih =>
      intro i hi
      have hb := bh_lt (A 0) (A (40 + 8 * i + 2))
      have e := ih (i + 1) (by omega)
      rw [e176_4, g4, if_neg (by rw [nI_leN (by omega) (by omega)]; omega), m175 97 c3 c5.1 (by omega) (vl i (by omega)).2.2.1, cI_s, nI_plus, nI_plus, nI_plus]
      rw [wr] at e
      by_cases z : bh (A 0) (A (40 + 8 * i + 2)) = 0
      · rw [if_pos (by rw [z])]
        rw [if_pos z] at e
        exact e
      · rw [if_neg (by rw [nI_eqI (by omega) (by omega)]; exact z)]
        rw [if_neg z] at e
        exact e
  refine Sim.same hC (r := nI (wr A (A 4))) ?_ ?_
  · rw [x40]
    exact l1 (A 4) 0 (by omega)
  · rw [x176]
    exact l2 (A 4) 0 (by omega)
end Ops6
