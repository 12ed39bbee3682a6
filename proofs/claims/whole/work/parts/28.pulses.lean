-- PART: n pulses one after another are n pulses at once.
/-- behind n pulses from the hall -/
def PB (A : Nat → Nat) (n : Nat) : Nat → Nat := ud (PAm A 0 (A 1) n (A 4)) 1 ((A 1 + n) % 2)
theorem PB_1 (A : Nat → Nat) (n : Nat) : PB A n 1 = (A 1 + n) % 2 := ud_at _ _ _
theorem PB_out {A : Nat → Nat} {n j : Nat} (h1 : j ≠ 1) (h : j < 40 ∨ 40 + 8 * A 4 ≤ j ∨ ((j - 40) % 8 ≠ 2 ∧ (j - 40) % 8 ≠ 3 ∧ (j - 40) % 8 ≠ 4)) : PB A n j = A j := by
  unfold PB
  rw [ud_ne _ h1, PAm_out h]
theorem PB_in {A : Nat → Nat} {n i : Nat} (h : i < A 4) : PB A n (40 + 8 * i + 2) = (DN A 0 (A 1) n i).1 ∧ PB A n (40 + 8 * i + 3) = (DN A 0 (A 1) n i).2.1 ∧ PB A n (40 + 8 * i + 4) = (DN A 0 (A 1) n i).2.2 := by
  unfold PB
  rw [ud_ne _ (by omega), ud_ne _ (by omega), ud_ne _ (by omega)]
  exact PAm_in h
theorem PB_cm {A : Nat → Nat} {n st c : Nat} (hc : c ≤ 8) : cm (PB A n) st c = cm A st c := cm_congr (fun b hb => ⟨PB_out (by omega) (by omega), PB_out (by omega) (by omega)⟩) c c (Nat.le_refl _) hc
theorem PB_act {A : Nat → Nat} {n q i : Nat} (hV : VW A q) (hi : i < A 4) : act (PB A n) 0 i = act A 0 i := by
  have hl := hV.2.2.2.2.2 i hi
  have h3 := hV.2.1
  unfold act
  rw [PB_out (by omega) (by omega), PB_out (by omega) (by omega), PB_cm (by omega)]
theorem DN_step {A : Nat → Nat} {n q i : Nat} (hV : VW A q) (hi : i < A 4) : DN (PB A n) 0 (PB A n 1) 1 i = DN A 0 (A 1) (n + 1) i := by
  obtain ⟨v1, v3, v4, vb, vk, vl⟩ := id hV
  obtain ⟨l0, l1, l2, l3, l4, l5, l6, l7⟩ := vl i hi
  obtain ⟨e2, e3, e4⟩ := PB_in (A := A) (n := n) hi
  have ea := PB_act (n := n) hV hi
  by_cases ha : act A 0 i = true
  · have hD : DN (PB A n) 0 (PB A n 1) 1 i = ((PB A n (40 + 8 * i + 2) + far (PB A n (40 + 8 * i + 5)) (PB A n (40 + 8 * i + 6)) (PB A n (40 + 8 * i + 4)) (tk (PB A n (40 + 8 * i + 1)) (PB A n (40 + 8 * i + 3)) (PB A n 1) 1)) % 720, (PB A n 1 + (1 - 1)) % 2, PB A n (40 + 8 * i + 4) + tk (PB A n (40 + 8 * i + 1)) (PB A n (40 + 8 * i + 3)) (PB A n 1) 1) := if_pos ⟨by rw [ea]; exact ha, by omega⟩
    have hD2 : DN A 0 (A 1) (n + 1) i = ((A (40 + 8 * i + 2) + far (A (40 + 8 * i + 5)) (A (40 + 8 * i + 6)) (A (40 + 8 * i + 4)) (tk (A (40 + 8 * i + 1)) (A (40 + 8 * i + 3)) (A 1) (n + 1))) % 720, (A 1 + (n + 1 - 1)) % 2, A (40 + 8 * i + 4) + tk (A (40 + 8 * i + 1)) (A (40 + 8 * i + 3)) (A 1) (n + 1)) := if_pos ⟨ha, by omega⟩
    rw [hD, hD2, e2, e3, e4, PB_1, PB_out (j := 40 + 8 * i + 5) (by omega) (by omega), PB_out (j := 40 + 8 * i + 6) (by omega) (by omega), PB_out (j := 40 + 8 * i + 1) (by omega) (by omega)]
    by_cases hn : n = 0
    · subst hn
      have hD0 : DN A 0 (A 1) 0 i = (A (40 + 8 * i + 2), A (40 + 8 * i + 3), A (40 + 8 * i + 4)) := if_neg (fun z => z.2 rfl)
      rw [hD0, show (A 1 + 0) % 2 = A 1 by omega]
      refine Prod.ext rfl (Prod.ext ?_ rfl)
      show (A 1 + (1 - 1)) % 2 = A 1
      omega
    · have hDn : DN A 0 (A 1) n i = ((A (40 + 8 * i + 2) + far (A (40 + 8 * i + 5)) (A (40 + 8 * i + 6)) (A (40 + 8 * i + 4)) (tk (A (40 + 8 * i + 1)) (A (40 + 8 * i + 3)) (A 1) n)) % 720, (A 1 + (n - 1)) % 2, A (40 + 8 * i + 4) + tk (A (40 + 8 * i + 1)) (A (40 + 8 * i + 3)) (A 1) n) := if_pos ⟨ha, hn⟩
      rw [hDn]
      have ht : tk (A (40 + 8 * i + 1)) ((A 1 + (n - 1)) % 2) ((A 1 + n) % 2) 1 = 1 := by
        unfold tk
        rw [if_neg (by omega)]
      have ht2 : tk (A (40 + 8 * i + 1)) (A (40 + 8 * i + 3)) (A 1) (n + 1) = tk (A (40 + 8 * i + 1)) (A (40 + 8 * i + 3)) (A 1) n + 1 := by
        unfold tk
        split <;> omega
      simp only [ht, ht2]
      have hf : ∀ a, far (A (40 + 8 * i + 5)) (A (40 + 8 * i + 6)) (A (40 + 8 * i + 4)) (a + 1) = far (A (40 + 8 * i + 5)) (A (40 + 8 * i + 6)) (A (40 + 8 * i + 4)) a + far (A (40 + 8 * i + 5)) (A (40 + 8 * i + 6)) (A (40 + 8 * i + 4) + a) 1 := by
        intro a
        show _ + gn _ _ _ = _ + (0 + gn _ _ (_ + 0 + 1))
        rw [Nat.zero_add, Nat.add_zero]
      rw [hf]
      refine Prod.ext ?_ (Prod.ext ?_ ?_)
      · show (_ % 720 + _) % 720 = _
        omega
      · show ((A 1 + n) % 2 + (1 - 1)) % 2 = (A 1 + (n + 1 - 1)) % 2
        omega
      · show _ + _ + 1 = _ + (_ + 1)
        omega
  · have hD : DN (PB A n) 0 (PB A n 1) 1 i = (PB A n (40 + 8 * i + 2), PB A n (40 + 8 * i + 3), PB A n (40 + 8 * i + 4)) := if_neg (fun z => by rw [ea] at z; exact ha z.1)
    have hD2 : DN A 0 (A 1) (n + 1) i = (A (40 + 8 * i + 2), A (40 + 8 * i + 3), A (40 + 8 * i + 4)) := if_neg (fun z => ha z.1)
    have hD3 : DN A 0 (A 1) n i = (A (40 + 8 * i + 2), A (40 + 8 * i + 3), A (40 + 8 * i + 4)) := if_neg (fun z => ha z.1)
    rw [hD, hD2, e2, e3, e4, hD3]
theorem dial_ix {A : Nat → Nat} {j : Nat} (h1 : 40 ≤ j) (h2 : j < 40 + 8 * A 4) : (j - 40) / 8 < A 4 ∧ j = 40 + 8 * ((j - 40) / 8) + (j - 40) % 8 := by omega
theorem PB_ext {A : Nat → Nat} {n : Nat} {Y : Nat → Nat} (h1 : Y 1 = (A 1 + n) % 2) (hin : ∀ i, i < A 4 → Y (40 + 8 * i + 2) = (DN A 0 (A 1) n i).1 ∧ Y (40 + 8 * i + 3) = (DN A 0 (A 1) n i).2.1 ∧ Y (40 + 8 * i + 4) = (DN A 0 (A 1) n i).2.2) (hout : ∀ j, j ≠ 1 → (j < 40 ∨ 40 + 8 * A 4 ≤ j ∨ ((j - 40) % 8 ≠ 2 ∧ (j - 40) % 8 ≠ 3 ∧ (j - 40) % 8 ≠ 4)) → Y j = A j) : Y = PB A n := by
  funext j
  by_cases e1 : j = 1
  · rw [e1, h1, PB_1]
  · by_cases ho : j < 40 ∨ 40 + 8 * A 4 ≤ j ∨ ((j - 40) % 8 ≠ 2 ∧ (j - 40) % 8 ≠ 3 ∧ (j - 40) % 8 ≠ 4)
    · rw [hout j e1 ho, PB_out e1 ho]
    · obtain ⟨hi, hj⟩ := dial_ix (A := A) (j := j) (by omega) (by omega)
      obtain ⟨a2, a3, a4⟩ := hin _ hi
      obtain ⟨b2, b3, b4⟩ := PB_in (A := A) (n := n) hi
      have hc : (j - 40) % 8 = 2 ∨ (j - 40) % 8 = 3 ∨ (j - 40) % 8 = 4 := by omega
      rcases hc with q | q | q
      · rw [q] at hj
        rw [hj, a2, b2]
      · rw [q] at hj
        rw [hj, a3, b3]
      · rw [q] at hj
        rw [hj, a4, b4]
theorem PB_step {A : Nat → Nat} {n q : Nat} (hV : VW A q) : PB (PB A n) 1 = PB A (n + 1) := by
  have e4 : PB A n 4 = A 4 := PB_out (by omega) (by omega)
  refine PB_ext ?_ (fun i hi => ?_) (fun j hj ho => ?_)
  · rw [PB_1, PB_1]
    omega
  · rw [← DN_step hV hi]
    exact PB_in (by rw [e4]; exact hi)
  · rw [PB_out hj (by rw [e4]; exact ho), PB_out hj ho]
theorem PB_0 {A : Nat → Nat} (h1 : A 1 ≤ 1) : PB A 0 = A := by
  symm
  refine PB_ext (by omega) (fun i _ => ?_) (fun _ _ _ => rfl)
  have hD0 : DN A 0 (A 1) 0 i = (A (40 + 8 * i + 2), A (40 + 8 * i + 3), A (40 + 8 * i + 4)) := if_neg (fun z => z.2 rfl)
  rw [hD0]
  exact ⟨rfl, rfl, rfl⟩
theorem DN_in {A : Nat → Nat} {st s n q i : Nat} (hl : A (40 + 8 * i + 2) < 720 ∧ A (40 + 8 * i + 3) ≤ 1 ∧ A (40 + 8 * i + 4) ≤ q) : (DN A st s n i).1 < 720 ∧ (DN A st s n i).2.1 ≤ 1 ∧ (DN A st s n i).2.2 ≤ q + n := by
  unfold DN
  split
  · have := tk_le (A (40 + 8 * i + 1)) (A (40 + 8 * i + 3)) s n
    refine ⟨?_, ?_, ?_⟩
    · show _ % 720 < 720
      omega
    · show _ % 2 ≤ 1
      omega
    · show A (40 + 8 * i + 4) + _ ≤ q + n
      omega
  · refine ⟨hl.1, hl.2.1, ?_⟩
    show A (40 + 8 * i + 4) ≤ q + n
    omega
theorem PB_VW {A : Nat → Nat} {n q : Nat} (hV : VW A q) : VW (PB A n) (q + n) := by
  obtain ⟨v1, v3, v4, vb, vk, vl⟩ := id hV
  have e3 : PB A n 3 = A 3 := PB_out (by omega) (by omega)
  have e4 : PB A n 4 = A 4 := PB_out (by omega) (by omega)
  refine ⟨by rw [PB_1]; omega, by rw [e3]; exact v3, by rw [e4]; exact v4, fun b hb => ?_, fun b hb => ?_, fun i hi => ?_⟩
  · rw [PB_out (by omega) (by omega)]
    rw [e3] at hb
    exact vb b hb
  · rw [PB_out (by omega) (by omega)]
    exact vk b hb
  · rw [e4] at hi
    obtain ⟨l0, l1, l2, l3, l4, l5, l6, l7⟩ := vl i hi
    obtain ⟨b2, b3, b4⟩ := PB_in (A := A) (n := n) hi
    obtain ⟨d2, d3, d4⟩ := DN_in (st := 0) (s := A 1) (n := n) ⟨l2, l3, l4⟩
    rw [b2, b3, b4, e3, PB_out (by omega) (by omega), PB_out (by omega) (by omega), PB_out (by omega) (by omega), PB_out (by omega) (by omega), PB_out (by omega) (by omega)]
    exact ⟨l0, l1, d2, d3, d4, l5, l6, l7⟩
theorem PB_ud0 {A : Nat → Nat} {n v : Nat} (h3 : A 3 ≤ 8) (hl : ∀ i, i < A 4 → A (40 + 8 * i) < A 3) : PB (ud A 0 v) n = ud (PB A n) 0 v := by
  symm
  have e4 : ud A 0 v 4 = A 4 := ud_ne _ (by omega)
  have hDN : ∀ i, i < A 4 → DN (ud A 0 v) 0 (A 1) n i = DN A 0 (A 1) n i := by
    intro i hi
    have := hl i hi
    have ea : act (ud A 0 v) 0 i = act A 0 i := by
      unfold act
      rw [ud_ne _ (by omega), ud_ne _ (by omega), cm_congr (fun b hb => ⟨ud_ne _ (by omega), ud_ne _ (by omega)⟩) _ _ (Nat.le_refl _) (by omega)]
    unfold DN
    rw [ea, ud_ne _ (by omega), ud_ne _ (by omega), ud_ne _ (by omega), ud_ne _ (by omega), ud_ne _ (by omega), ud_ne _ (by omega)]
  refine PB_ext ?_ (fun i hi => ?_) (fun j hj ho => ?_)
  · rw [ud_ne _ (by omega), PB_1, ud_ne _ (by omega)]
  · rw [e4] at hi
    rw [show ud A 0 v 1 = A 1 from ud_ne _ (by omega), hDN i hi]
    obtain ⟨b2, b3, b4⟩ := PB_in (n := n) hi
    exact ⟨by rw [ud_ne _ (by omega)]; exact b2, by rw [ud_ne _ (by omega)]; exact b3, by rw [ud_ne _ (by omega)]; exact b4⟩
  · rw [e4] at ho
    by_cases z : j = 0
    · subst z
      rw [ud_at, ud_at]
    · rw [ud_ne _ z, ud_ne _ z, PB_out hj ho]
section MPulse
variable {L : Nat} {X : Nat → Nat} {q : Nat}
theorem m165_loop {d : Nat} (hV : VW X q) (hq : q ≤ 100000000) : ∀ (k m : Nat) (v2 : Value) (h : PH), m + k = X 4 → RM h 254 (PAm X 0 (X 1) 1 m) → ∃ h', runL (g2 L) (d + 2) 11 false none kc_165 2 [.ref 253, .int (nI m), v2] [] h = some (none, h') ∧ RM h' 254 (PB X 1) ∧ Fm h h' := by
  have v1 := hV.1
  have v4 := hV.2.2.1
  intro k
  induction k with
  | zero =>
    intro m v2 h hm hR
    have e : m = X 4 := by omega
    subst e
    have f3 := hR.at (k := 4) (by omega) (by omega)
    have f1 := hR.at (k := 1) (by omega) (by omega)
    rw [PAm_out (by omega)] at f3 f1
    refine ⟨_, by rw [e165_2, f3, if_pos (by rw [nI_leN (by omega) (by omega)]; exact Nat.le_refl _)], ?_, Fm.w4⟩
    refine RM.set hR ?_
    rw [f1, nI_minus v1, sv_p (by omega)]
    congr 1
    omega
  | succ k ih =>
    intro m v2 h hm hR
    have hm4 : m < X 4 := by omega
    have hl := hV.2.2.2.2.2 m hm4
    have f3 := hR.at (k := 4) (by omega) (by omega)
    have f1 := hR.at (k := 1) (by omega) (by omega)
    rw [PAm_out (by omega)] at f3 f1
    have f7 := p_at hR (show m < 16 by omega) (c := 7) (by omega)
    have f0 : hI h 254 (40 + 8 * m + 0) = nI (X (40 + 8 * m)) := p_at hR (show m < 16 by omega) (c := 0) (by omega)
    rw [e165_2, f3, if_neg (by rw [nI_leN (by omega) (by omega)]; omega), m166 (d + 1) (by omega) (by omega), cI_s, f7, nI_plus]
    by_cases hh : X (40 + 8 * m + 7) = 0
    · have hcm := p_comes (L := L) (d + 1) hR hV hm4 (st := 0) (by omega)
      rw [nI_p0] at hcm
      rw [if_neg (by rw [hh]; exact fun z => z rfl), m166 (d + 1) (by omega) (by omega), cI_s, f0, hcm, cI_s]
      by_cases hc : cm X 0 (X (40 + 8 * m) + 1) = true
      · have ha : act X 0 m = true := by unfold act; rw [hh, hc]; rfl
        obtain ⟨h7, h8, h10, e7, e47, e8, e10, hR10, hF10⟩ := p_take (L := L) d hR hV hq hm4 v1 ha
        obtain ⟨h2, e2, hR2, hF2⟩ := ih (m + 1) (.int (nI (an X 0 (X 1) 1 m))) h10 (by omega) hR10
        refine ⟨h2, ?_, hR2, hF10.tr hF2⟩
        rw [if_neg (by rw [bI_0]; exact not_not_intro hc), e7, cV_s, e47, f1, e8, cI_s, e10, cV_s]
        exact e2
      · obtain ⟨h2, e2, hR2, hF2⟩ := ih (m + 1) v2 h (by omega) (p_pass hR (by unfold act; simp [hc]))
        refine ⟨h2, ?_, hR2, hF2⟩
        rw [if_pos (bI_0.mpr hc)]
        exact e2
    · obtain ⟨h2, e2, hR2, hF2⟩ := ih (m + 1) v2 h (by omega) (p_pass hR (by unfold act; simp [hh]))
      refine ⟨h2, ?_, hR2, hF2⟩
      rw [if_pos (by rw [Ne, nI_eqI (by omega) (by omega)]; exact hh)]
      exact e2
theorem m165 (d : Nat) {h : PH} (hR : RM h 254 X) (hV : VW X q) (hq : q ≤ 100000000) : ∃ h', exec (g2 L) (d + 3) 165 [.ref 253] h = some (none, h') ∧ RM h' 254 (PB X 1) ∧ Fm h h' := by
  rw [x165]
  exact m165_loop hV hq (X 4) 0 dm h (by omega) (by rw [PAm_0]; exact hR)
theorem m172_loop {d n : Nat} (hV : VW X q) (hq : q + n ≤ 100000000) (hn : n ≤ 20000) : ∀ (r k : Nat) (h : PH), k + r = n → RM h 254 (PB X k) → ∃ h', runL (g2 L) (d + 3) 11 false (some .int) kc_172 15 [.ref 253, .int (nI n), .int (nI k)] [] h = some (some (.int (nI ((X 1 + n) % 2))), h') ∧ RM h' 254 (PB X n) ∧ Fm h h' := by
  intro r
  induction r with
  | zero =>
    intro k h hk hR
    have e : k = n := by omega
    subst e
    have f1 := hR.at (k := 1) (by omega) (by omega)
    rw [PB_1] at f1
    exact ⟨h, by rw [e172_15, if_pos (by rw [nI_leN (by omega) (by omega)]; exact Nat.le_refl _), f1], hR, Fm.rf⟩
  | succ r ih =>
    intro k h hk hR
    obtain ⟨h1, e1, hR1, hF1⟩ := m165 (L := L) d hR (PB_VW hV) (by omega)
    rw [PB_step hV] at hR1
    obtain ⟨h2, e2, hR2, hF2⟩ := ih (k + 1) h1 (by omega) hR1
    refine ⟨h2, ?_, hR2, hF1.tr hF2⟩
    rw [e172_15, if_neg (by rw [nI_leN (by omega) (by omega)]; omega), e1, cV_s, nI_plus]
    exact e2
theorem m164_loop {d n : Nat} (hV : VW X q) (hq : q + n ≤ 100000000) (hn : n ≤ 20000) (h0 : X 0 + n < 2147483648) (h2 : X 2 ≤ 1) : ∀ (r k : Nat) (h : PH), k + r = n → RM h 254 (ud (if X 2 = 0 then PB X k else X) 0 (X 0 + k)) → ∃ h', runL (g2 L) (d + 3) 11 false (some .int) kc_164 28 [.ref 253, .int (nI n), .int (nI k)] [] h = some (some (.int (nI (X 0 + n))), h') ∧ RM h' 254 (ud (if X 2 = 0 then PB X n else X) 0 (X 0 + n)) ∧ Fm h h' := by
  have e2 : ∀ k, ud (if X 2 = 0 then PB X k else X) 0 (X 0 + k) 2 = X 2 := by
    intro k
    rw [ud_ne _ (by omega)]
    split
    · rw [PB_out (by omega) (by omega)]
    · rfl
  intro r
  induction r with
  | zero =>
    intro k h hk hR
    have e : k = n := by omega
    subst e
    have f0 := hR.at (k := 0) (by omega) (by omega)
    rw [ud_at] at f0
    exact ⟨h, by rw [e164_28, if_pos (by rw [nI_leN (by omega) (by omega)]; exact Nat.le_refl _), f0], hR, Fm.rf⟩
  | succ r ih =>
    intro k h hk hR
    have f0 := hR.at (k := 0) (by omega) (by omega)
    have f2 := hR.at (k := 2) (by omega) (by omega)
    rw [ud_at] at f0
    rw [e2 k] at f2
    have hw : RM (wI h 254 0 (nI (X 0 + k) + nI 1)) 254 (ud (if X 2 = 0 then PB X k else X) 0 (X 0 + (k + 1))) := by
      have := RM.set (k := 0) (n := X 0 + (k + 1)) (v := nI (X 0 + k) + nI 1) hR (by rw [nI_plus, sv_p (by omega)]; rfl)
      have eu : ud (ud (if X 2 = 0 then PB X k else X) 0 (X 0 + k)) 0 (X 0 + (k + 1)) = ud (if X 2 = 0 then PB X k else X) 0 (X 0 + (k + 1)) := by
        funext j
        by_cases z : j = 0
        · rw [z, ud_at, ud_at]
        · rw [ud_ne _ z, ud_ne _ z, ud_ne _ z]
      rw [eu] at this
      exact this
    rw [e164_28, if_neg (by rw [nI_leN (by omega) (by omega)]; omega), f2, f0, nI_plus]
    by_cases hs : X 2 = 0
    · rw [if_neg (by rw [hs]; exact fun z => z rfl)]
      rw [if_pos hs] at hw
      have hVk := PB_VW (n := k) hV
      have hV' : VW (ud (PB X k) 0 (X 0 + (k + 1))) (q + k) := by
        obtain ⟨v1, v3, v4, vb, vk, vl⟩ := hVk
        have w3 : ud (PB X k) 0 (X 0 + (k + 1)) 3 = PB X k 3 := ud_ne _ (by omega)
        have w4 : ud (PB X k) 0 (X 0 + (k + 1)) 4 = PB X k 4 := ud_ne _ (by omega)
        refine ⟨by rw [ud_ne _ (by omega)]; exact v1, by rw [w3]; exact v3, by rw [w4]; exact v4, fun b hb => ?_, fun b hb => ?_, fun i hi => ?_⟩
        · rw [ud_ne _ (by omega)]
          rw [w3] at hb
          exact vb b hb
        · rw [ud_ne _ (by omega)]
          exact vk b hb
        · rw [w4] at hi
          rw [w3, ud_ne _ (by omega), ud_ne _ (by omega), ud_ne _ (by omega), ud_ne _ (by omega), ud_ne _ (by omega), ud_ne _ (by omega), ud_ne _ (by omega), ud_ne _ (by omega)]
          exact vl i hi
      obtain ⟨h1, e1, hR1, hF1⟩ := m165 (L := L) d hw hV' (by omega)
      rw [PB_ud0 hVk.2.1 (fun i hi => (hVk.2.2.2.2.2 i hi).1), PB_step hV] at hR1
      obtain ⟨h3, e3, hR3, hF3⟩ := ih (k + 1) h1 (by omega) (by rw [if_pos hs]; exact hR1)
      refine ⟨h3, ?_, hR3, (Fm.w4.tr hF1).tr hF3⟩
      rw [e1, cV_s]
      exact e3
    · rw [if_pos (by rw [Ne, nI_eqI (by omega) (by omega)]; exact hs)]
      obtain ⟨h3, e3, hR3, hF3⟩ := ih (k + 1) (wI h 254 0 (nI (X 0 + k) + nI 1)) (by omega) (by rw [if_neg hs] at hw ⊢; exact hw)
      exact ⟨h3, e3, hR3, Fm.w4.tr hF3⟩
theorem m173_loop {d st s : Nat} (hV : VW X q) (hq : q ≤ 100000000) (hs : s ≤ 1) (hst : st ≤ 8) : ∀ (k m : Nat) (h : PH), m + k = X 4 → RM h 254 (PAm X st s 1 m) → ∃ h', runL (g2 L) (d + 2) 11 false (some .int) kc_173 24 [.ref 253, .int (nI st - nI 1), .int (nI s), .int (nI (sm X st s m)), .int (nI m)] [] h = some (some (.int (nI (sm X st s (X 4)))), h') ∧ RM h' 254 (PAm X st s 1 (X 4)) ∧ Fm h h' := by
  have v1 := hV.1
  have v4 := hV.2.2.1
  intro k
  induction k with
  | zero =>
    intro m h hm hR
    have e : m = X 4 := by omega
    subst e
    have f3 := hR.at (k := 4) (by omega) (by omega)
    rw [PAm_out (by omega)] at f3
    exact ⟨h, by rw [e173_24, f3, if_pos (by rw [nI_leN (by omega) (by omega)]; exact Nat.le_refl _)], hR, Fm.rf⟩
  | succ k ih =>
    intro m h hm hR
    have hm4 : m < X 4 := by omega
    have hl := hV.2.2.2.2.2 m hm4
    have f3 := hR.at (k := 4) (by omega) (by omega)
    rw [PAm_out (by omega)] at f3
    have f7 := p_at hR (show m < 16 by omega) (c := 7) (by omega)
    have f0 : hI h 254 (40 + 8 * m + 0) = nI (X (40 + 8 * m)) := p_at hR (show m < 16 by omega) (c := 0) (by omega)
    have pass : ¬ act X st m = true → ∃ h', runL (g2 L) (d + 2) 11 false (some .int) kc_173 24 [.ref 253, .int (nI st - nI 1), .int (nI s), .int (nI (sm X st s m)), .int (nI (m + 1))] [] h = some (some (.int (nI (sm X st s (X 4)))), h') ∧ RM h' 254 (PAm X st s 1 (X 4)) ∧ Fm h h' := by
      intro ha
      obtain ⟨h2, e2, hR2, hF2⟩ := ih (m + 1) h (by omega) (p_pass hR ha)
      have e0 : sm X st s (m + 1) = sm X st s m := by
        show sm X st s m + an X st s 1 m = _
        unfold an
        rw [if_neg ha]
        rfl
      rw [e0] at e2
      exact ⟨h2, e2, hR2, hF2⟩
    rw [e173_24, f3, if_neg (by rw [nI_leN (by omega) (by omega)]; omega), m166 (d + 1) (by omega) (by omega), cI_s, f7, nI_plus]
    by_cases hh : X (40 + 8 * m + 7) = 0
    · have hcm := p_comes (L := L) (d + 1) hR hV hm4 (st := st) hst
      rw [if_neg (by rw [hh]; exact fun z => z rfl), m166 (d + 1) (by omega) (by omega), cI_s, f0, hcm, cI_s]
      by_cases hc : cm X st (X (40 + 8 * m) + 1) = true
      · have ha : act X st m = true := by unfold act; rw [hh, hc]; rfl
        obtain ⟨h7, h8, h10, e7, e47, e8, e10, hR10, hF10⟩ := p_take (L := L) d hR hV hq hm4 hs ha
        obtain ⟨h2, e2, hR2, hF2⟩ := ih (m + 1) h10 (by omega) hR10
        refine ⟨h2, ?_, hR2, hF10.tr hF2⟩
        have han := an_le X st s m
        rw [if_neg (by rw [bI_0]; exact not_not_intro hc), e7, cV_s, e8, cI_s, e10, cV_s, cV_s, nI_plus, nI_plus]
        by_cases z : an X st s 1 m = 0
        · rw [if_pos (by rw [z])]
          have e0 : sm X st s (m + 1) = sm X st s m + 0 := by
            show sm X st s m + an X st s 1 m = _
            rw [z]
          rw [e0] at e2
          exact e2
        · rw [if_neg (by rw [nI_eqI (by omega) (by omega)]; exact z)]
          have e0 : sm X st s (m + 1) = sm X st s m + 1 := by
            show sm X st s m + an X st s 1 m = _
            omega
          rw [e0] at e2
          exact e2
      · rw [if_pos (bI_0.mpr hc)]
        exact pass (by unfold act; simp [hc])
    · rw [if_pos (by rw [Ne, nI_eqI (by omega) (by omega)]; exact hh)]
      exact pass (by unfold act; simp [hh])
end MPulse
