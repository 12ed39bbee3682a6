-- PART: explaining, what was read, paths, spans (class).
def xF (A : Nat → Nat) (D : Nat) : Nat → Nat := far (A (170 + 8 * D + 5)) (A (170 + 8 * D + 6)) (A (170 + 8 * D + 4))
/-- the reading k is one of the dial D behind the pulse p -/
def xRd (A : Nat → Nat) (D p k : Nat) : Prop := A (320 + 4 * k) = D ∧ A (320 + 4 * k + 1) = p
def xok (A : Nat → Nat) (r D p a j : Nat) : Bool := decide (∀ k, k < r → A (320 + 4 * k) = D → A (320 + 4 * k + 1) = p → A (320 + 4 * k + 2) = (A (170 + 8 * D + 2) + xF A D a + j) % 720)
def xNd (h : PH) (A : Nat → Nat) (r D : Nat) : Prop := ∀ p, p ≤ 10 → (hI h 158 p = m1 ∧ ∀ k, k < r → ¬ xRd A D p k) ∨ ∃ n, n ≤ 720 ∧ hI h 158 p = nI n ∧ ∀ v, v < 720 → (v = n ↔ ∀ k, k < r → xRd A D p k → A (320 + 4 * k + 2) = (A (170 + 8 * D + 2) + v) % 720)
def xLn (h : PH) (A : Nat → Nat) (r D : Nat) : Prop := (hI h 95 11 = m1 ∧ ∀ k, k < r → A (320 + 4 * k) ≠ D) ∨ ∃ ln, hI h 95 11 = nI ln ∧ ln ≤ A 8 ∧ (∃ k, k < r ∧ A (320 + 4 * k) = D) ∧ ∀ k, k < r → A (320 + 4 * k) = D → A (320 + 4 * k + 1) ≤ ln
section Xe
variable {L : Nat} {A : Nat → Nat}
theorem m56_15 {d r D : Nat} (hD : D < 16) (hr : r ≤ 30) (h8 : A 8 ≤ 10) (hd : A (170 + 8 * D + 2) < 720) (hv : ∀ i, i < r → A (320 + 4 * i) < 16 ∧ A (320 + 4 * i + 1) ≤ A 8 ∧ A (320 + 4 * i + 2) < 720) : ∀ (n i : Nat) (h : PH) (v4 v5 : Value), i + n = r → RC h 0 A → xNd h A i D → xLn h A i D → ∃ h', runL (g2 L) d 5 false none kc_56 15 [.ref 95, .int (nI D), .int (nI r), .int (nI i), v4, v5] [] h = some (none, h') ∧ xNd h' A r D ∧ xLn h' A r D ∧ (∀ x, x ≠ 158 → x ≠ 95 → hI h' x = hI h x) ∧ (∀ k, k ≠ 11 → hI h' 95 k = hI h 95 k) ∧ hR h' = hR h := by
  intro n
  induction n with
  | zero =>
    intro i h v4 v5 hi hC hN hL
    have e : i = r := by omega
    subst e
    refine ⟨h, ?_, hN, hL, fun _ _ _ => rfl, fun _ _ => rfl, rfl⟩
    rw [e56_15, if_pos (by rw [nI_leN (by omega) (by omega)]; omega)]
  | succ n ih =>
    intro i h v4 v5 hi hC hN hL
    obtain ⟨v0, v1, v2⟩ := hv i (by omega)
    have r0 := hC.re (i := i) (c := 0) (by omega) (by omega)
    have r1 := hC.re (i := i) (c := 1) (by omega) (by omega)
    have r2 := hC.re (i := i) (c := 2) (by omega) (by omega)
    have w2 := hC.wl (d := D) (c := 2) hD (by omega)
    have p2 : prm 2 = 2 := rfl
    rw [p2] at w2
    rw [Nat.zero_add] at r0 r1 r2 w2
    simp only [Nat.add_zero] at r0
    have s0 := e56_15 L d (nI D) (nI r) (nI i) v4 v5 h
    rw [if_neg (by rw [nI_leN (by omega) (by omega)]; omega), if_neg (by rw [nI_leN (by omega) (by omega)]; omega), inB_nI (by omega), asr_d (by omega), ix_nI (by omega), r0] at s0
    by_cases q : A (320 + 4 * i) = D
    · rw [if_pos (by rw [q]), asr_d (by omega), asr_d (by omega), inB_nI (by omega), asr_d (by omega), ix_nI (by omega), okA_of (kk16 hD).2.1 (by omega), asr_true, r1, inB_nI (by omega), asr_d (by omega), ix_nI (by omega), r2, w2, fmod_bh (by omega) hd] at s0
      have gd : bh (A (320 + 4 * i + 2)) (A (170 + 8 * D + 2)) < 720 ∧ ∀ v, v < 720 → (v = bh (A (320 + 4 * i + 2)) (A (170 + 8 * D + 2)) ↔ A (320 + 4 * i + 2) = (A (170 + 8 * D + 2) + v) % 720) := by
        unfold bh
        refine ⟨by omega, fun v hv => by omega⟩
      generalize hg : bh (A (320 + 4 * i + 2)) (A (170 + 8 * D + 2)) = g at s0 gd
      generalize hP : A (320 + 4 * i + 1) = P at s0 v1
      -- the last need
      have hl' : ∃ x, (if hI h 95 11 < nI P then nI P else hI h 95 11) = nI x ∧ x ≤ A 8 ∧ P ≤ x ∧ ∀ k, k < i → A (320 + 4 * k) = D → A (320 + 4 * k + 1) ≤ x := by
        rcases hL with ⟨l1, l2⟩ | ⟨ln, l1, l2, l3, l4⟩
        · rw [l1, if_pos (by rw [m1_lt_nI (by omega)]; trivial)]
          exact ⟨P, rfl, v1, Nat.le_refl _, fun k hk hk2 => absurd hk2 (l2 k hk)⟩
        · rw [l1]
          by_cases z : ln < P
          · rw [if_pos (by rw [nI_ltN (by omega) (by omega)]; exact z)]
            exact ⟨P, rfl, v1, Nat.le_refl _, fun k hk hk2 => by have := l4 k hk hk2; omega⟩
          · rw [if_neg (by rw [nI_ltN (by omega) (by omega)]; exact z)]
            exact ⟨ln, rfl, l2, by omega, l4⟩
      obtain ⟨x, x1, x2, x3, x4⟩ := hl'
      have next : ∀ (nv : Nat), nv ≤ 720 → (∀ v, v < 720 → (v = nv ↔ ∀ k, k < i + 1 → xRd A D P k → A (320 + 4 * k + 2) = (A (170 + 8 * D + 2) + v) % 720)) → xNd (wI (wI h 158 P (nI nv)) 95 11 (nI x)) A (i + 1) D ∧ xLn (wI (wI h 158 P (nI nv)) 95 11 (nI x)) A (i + 1) D := by
        intro nv hnv hne
        constructor
        · intro p hp
          rw [wI_ne (by omega), hI_wI]
          by_cases e : p = P
          · rw [if_pos ⟨rfl, e⟩]
            exact Or.inr ⟨nv, hnv, rfl, by rw [e]; exact hne⟩
          · rw [if_neg (fun z => e z.2)]
            rcases hN p hp with ⟨n1, n2⟩ | ⟨m, n1, n2, n3⟩
            · refine Or.inl ⟨n1, fun k hk hx => ?_⟩
              by_cases y : k = i
              · rw [y] at hx
                have := hx.2
                omega
              · exact n2 k (by omega) hx
            · refine Or.inr ⟨m, n1, n2, fun v hv => (n3 v hv).trans ⟨fun z k hk hx => ?_, fun z k hk hx => z k (by omega) hx⟩⟩
              by_cases y : k = i
              · rw [y] at hx
                have := hx.2
                omega
              · exact z k (by omega) hx
        · right
          refine ⟨x, by rw [hI_wI, if_pos ⟨rfl, rfl⟩], x2, ⟨i, by omega, q⟩, fun k hk hk2 => ?_⟩
          by_cases y : k = i
          · rw [y, hP]
            exact x3
          · exact x4 k (by omega) hk2
      have fin : ∀ (nv : Nat) (w4 w5 : Value), nv ≤ 720 → (∀ v, v < 720 → (v = nv ↔ ∀ k, k < i + 1 → xRd A D P k → A (320 + 4 * k + 2) = (A (170 + 8 * D + 2) + v) % 720)) → ∃ h', runL (g2 L) d 5 false none kc_56 15 [.ref 95, .int (nI D), .int (nI r), .int (nI (i + 1)), w4, w5] [] (wI (wI h 158 P (nI nv)) 95 11 (nI x)) = some (none, h') ∧ xNd h' A r D ∧ xLn h' A r D ∧ (∀ x, x ≠ 158 → x ≠ 95 → hI h' x = hI h x) ∧ (∀ k, k ≠ 11 → hI h' 95 k = hI h 95 k) ∧ hR h' = hR h := by
        intro nv w4 w5 n1 n2
        obtain ⟨N1, N2⟩ := next nv n1 n2
        obtain ⟨h', e1, e2, e3, e4, e5, e6⟩ := ih (i + 1) (wI (wI h 158 P (nI nv)) 95 11 (nI x)) w4 w5 (by omega) (hC.congr (fun a p q => by rw [wI_ne (by omega), wI_ne (by omega)])) N1 N2
        exact ⟨h', e1, e2, e3, fun y p q => by rw [e4 y p q, wI_ne q, wI_ne p], fun k hk => by rw [e5 k hk, hI_wI, if_neg (fun z => hk z.2), wI_ne (by omega)], e6⟩
      have split1 : ∀ v, (∀ k, k < i + 1 → xRd A D P k → A (320 + 4 * k + 2) = (A (170 + 8 * D + 2) + v) % 720) ↔ ((∀ k, k < i → xRd A D P k → A (320 + 4 * k + 2) = (A (170 + 8 * D + 2) + v) % 720) ∧ A (320 + 4 * i + 2) = (A (170 + 8 * D + 2) + v) % 720) := by
        intro v
        constructor
        · exact fun z => ⟨fun k hk => z k (by omega), z i (by omega) ⟨q, hP⟩⟩
        · rintro ⟨z1, z2⟩ k hk hx
          by_cases y : k = i
          · rw [y]
            exact z2
          · exact z1 k (by omega) hx
      rcases hN P (by omega) with ⟨n1, n2⟩ | ⟨m, n1, n2, n3⟩
      · rw [n1, if_pos rfl, asr_d (by omega), x1, nI_plus] at s0
        obtain ⟨h', e1, e2⟩ := fin g _ _ (by omega) (fun v hv => (gd.2 v hv).trans ((split1 v).trans ⟨fun z => z.2, fun z => ⟨fun k hk hx => absurd hx (n2 k hk), z⟩⟩).symm)
        exact ⟨h', s0.trans e1, e2⟩
      · rw [n2, if_neg (fun z => (nI_ne_m1 (by omega)).mp z), asr_d (by omega)] at s0
        by_cases y : m = g
        · rw [if_neg (by rw [y]; exact fun z => z rfl), asr_d (by omega), x1, nI_plus] at s0
          obtain ⟨h', e1, e2⟩ := fin g _ _ (by omega) (fun v hv => by
            rw [split1 v, ← n3 v hv, ← gd.2 v hv, y, and_self])
          exact ⟨h', s0.trans e1, e2⟩
        · rw [if_pos (by rw [Ne, nI_eqI (by omega) (by omega)]; exact y), asr_d (by omega), x1, nI_plus] at s0
          obtain ⟨h', e1, e2⟩ := fin 720 _ _ (by omega) (fun v hv => by
            rw [split1 v, ← n3 v hv, ← gd.2 v hv]
            omega)
          exact ⟨h', s0.trans e1, e2⟩
    · rw [if_neg (by rw [nI_eqI (by omega) (by omega)]; exact q), nI_plus] at s0
      obtain ⟨h', e1, e2⟩ := ih (i + 1) h v4 v5 (by omega) hC (fun p hp => by
        rcases hN p hp with ⟨n1, n2⟩ | ⟨m, n1, n2, n3⟩
        · refine Or.inl ⟨n1, fun k hk hx => ?_⟩
          by_cases y : k = i
          · rw [y] at hx
            exact q hx.1
          · exact n2 k (by omega) hx
        · refine Or.inr ⟨m, n1, n2, fun v hv => (n3 v hv).trans ⟨fun z k hk hx => ?_, fun z k hk hx => z k (by omega) hx⟩⟩
          by_cases y : k = i
          · rw [y] at hx
            exact absurd hx.1 q
          · exact z k (by omega) hx) (by
        rcases hL with ⟨l1, l2⟩ | ⟨ln, l1, l2, ⟨k0, l3, l3'⟩, l4⟩
        · refine Or.inl ⟨l1, fun k hk => ?_⟩
          by_cases y : k = i
          · rw [y]
            exact q
          · exact l2 k (by omega)
        · refine Or.inr ⟨ln, l1, l2, ⟨k0, by omega, l3'⟩, fun k hk hk2 => ?_⟩
          by_cases y : k = i
          · rw [y] at hk2
            exact absurd hk2 q
          · exact l4 k (by omega) hk2)
      exact ⟨h', s0.trans e1, e2⟩
theorem m56 (d : Nat) {r D : Nat} {h : PH} (hD : D < 16) (hr : r ≤ 30) (h8 : A 8 ≤ 10) (hd : A (170 + 8 * D + 2) < 720) (hv : ∀ i, i < r → A (320 + 4 * i) < 16 ∧ A (320 + 4 * i + 1) ≤ A 8 ∧ A (320 + 4 * i + 2) < 720) (hC : RC h 0 A) : ∃ h', exec (g2 L) (d + 2) 56 [.ref 95, .int (nI D), .int (nI r)] h = some (none, h') ∧ xNd h' A r D ∧ xLn h' A r D ∧ (∀ x, x ≠ 158 → x ≠ 95 → hI h' x = hI h x) ∧ (∀ k, k ≠ 11 → hI h' 95 k = hI h 95 k) ∧ hR h' = hR h := by
  obtain ⟨h0, a1, a2, a3, a4⟩ := m55 (L := L) d (a := 158) (n := 11) (h := h) (by decide) (by omega) (by omega) (by decide) (by omega) m1
  obtain ⟨h', e1, e2, e3, e4, e5, e6⟩ := m56_15 (L := L) (d := d + 1) hD hr h8 hd hv r 0 (wI h0 95 11 m1) dm dm (by omega) (hC.congr (fun a p q => by rw [wI_ne (by omega), a3 a (by omega)])) (fun p hp => Or.inl ⟨by rw [wI_ne (by omega), a2 p (by omega)], fun k hk => absurd hk (Nat.not_lt_zero _)⟩) (Or.inl ⟨by rw [hI_wI, if_pos ⟨rfl, rfl⟩], fun k hk => absurd hk (Nat.not_lt_zero _)⟩)
  refine ⟨h', ?_, e2, e3, fun x p q => by rw [e4 x p q, wI_ne q, a3 x p], fun k hk => by rw [e5 k hk, hI_wI, if_neg (fun z => hk z.2), a3 95 (by omega)], e6.trans a4⟩
  rw [x56, a1, cV_s]
  exact e1
theorem m57_2 {d D : Nat} (hD : D < 16) (h5 : A (170 + 8 * D + 5) ≤ 999) (h6 : A (170 + 8 * D + 6) ≤ 999) (h4 : A (170 + 8 * D + 4) ≤ 100000000) : ∀ (n k : Nat) (h : PH), k + n = 11 → RC h 0 A → (∀ j, j < k → hI h 159 j = nI (xF A D j)) → ∃ h', runL (g2 L) (d + 2) 5 false none kc_57 2 [.ref 95, .ref (17 + D), .int (nI k)] [] h = some (none, h') ∧ (∀ j, j ≤ 10 → hI h' 159 j = nI (xF A D j)) ∧ (∀ x, x ≠ 159 → hI h' x = hI h x) ∧ hR h' = hR h := by
  intro n
  induction n with
  | zero =>
    intro k h hk hC hj
    refine ⟨h, ?_, fun j q => hj j (by omega), fun _ _ => rfl, rfl⟩
    rw [e57_2, if_pos (by rw [nI_ltN (by omega) (by omega)]; omega)]
  | succ n ih =>
    intro k h hk hC hj
    have dh := hC.wH (i := D) hD
    rw [Nat.zero_add] at dh
    obtain ⟨h', e1, e2, e3, e4⟩ := ih (k + 1) (wI h 159 k (nI (xF A D k))) (by omega) (hC.congr (fun a p q => wI_ne (by omega))) (fun j q => by
      rw [hI_wI]
      by_cases e : j = k
      · rw [if_pos ⟨rfl, e⟩, e]
      · rw [if_neg (fun z => e z.2)]
        exact hj j (by omega))
    refine ⟨h', ?_, e2, fun x hx => by rw [e3 x hx, wI_ne hx], e4⟩
    rw [e57_2, if_neg (by rw [nI_ltN (by omega) (by omega)]; omega), okA_of (kk16 hD).2.1 (by omega), asr_true, m32 (L := L) d dh (kk16 hD).2.1 (by omega) h5 h6 h4 (by omega), cI_s, inB_nI (by omega), asr_d (by omega), ix_nI (by omega), nI_plus]
    exact e1
theorem m57 (d : Nat) {D : Nat} {h : PH} (hD : D < 16) (h5 : A (170 + 8 * D + 5) ≤ 999) (h6 : A (170 + 8 * D + 6) ≤ 999) (h4 : A (170 + 8 * D + 4) ≤ 100000000) (hC : RC h 0 A) : ∃ h', exec (g2 L) (d + 3) 57 [.ref 95, .ref (17 + D)] h = some (none, h') ∧ (∀ j, j ≤ 10 → hI h' 159 j = nI (xF A D j)) ∧ (∀ x, x ≠ 159 → hI h' x = hI h x) ∧ hR h' = hR h := by
  obtain ⟨h', e1, e2⟩ := m57_2 (L := L) (d := d) hD h5 h6 h4 11 0 h (by omega) hC (fun j hj => absurd hj (Nat.not_lt_zero _))
  exact ⟨h', by rw [x57]; exact e1, e2⟩
theorem xF_le (A : Nat → Nat) (D k : Nat) : xF A D k ≤ 2 * k := far_le _ _ _ k
theorem xok_of {h : PH} {r D : Nat} (hN : xNd h A r D) : ∀ p a j, p ≤ 10 → a ≤ 10 → j ≤ 10 → (xok A r D p a j = true ↔ (hI h 158 p = m1 ∨ nI (xF A D a + j) = hI h 158 p)) := by
  intro p a j hp ha hj
  have fl := xF_le A D a
  unfold xok
  rw [decide_eq_true_iff]
  rcases hN p hp with ⟨n1, n2⟩ | ⟨n, n1, n2, n3⟩
  · exact ⟨fun _ => Or.inl n1, fun _ k hk k1 k2 => absurd ⟨k1, k2⟩ (n2 k hk)⟩
  · rw [n2, nI_eqI (by omega) (by omega), n3 _ (by omega), Nat.add_assoc]
    constructor
    · exact fun z => Or.inr (fun k hk hx => z k hk hx.1 hx.2)
    · rintro (z | z)
      · exact ((nI_ne_m1 (by omega)).mp z).elim
      · exact fun k hk k1 k2 => z k hk ⟨k1, k2⟩
theorem xok_past {r D ln : Nat} (hl : ∀ k, k < r → A (320 + 4 * k) = D → A (320 + 4 * k + 1) ≤ ln) : ∀ i, ln ≤ i → ∀ a j, xok A r D (i + 1) a j = true := by
  intro i hi a j
  unfold xok
  rw [decide_eq_true_iff]
  intro k hk k1 k2
  have := hl k hk k1
  omega
end Xe
