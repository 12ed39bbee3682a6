-- PART: explaining, the class's answer for the readings known.
def xSE (h : PH) (A : Nat → Nat) (r v : Nat) : Prop := ∀ b, b < A 11 → (∃ so, so < 1024 ∧ hI h (97 + r) (4 + b) = nI so ∧ ∀ k, k < 10 → (so / 2 ^ k % 2 = 1 ↔ ∃ p q, xSet A p q ∧ xcost A r p q = v ∧ xbk A p q b k)) ∧ (∃ ev, ev < 1024 ∧ hI h (97 + r) (12 + b) = nI ev ∧ ∀ k, k < 10 → (ev / 2 ^ k % 2 = 1 ↔ ∀ p q, xSet A p q → xcost A r p q = v → xbk A p q b k))
/-- the row of r readings is right -/
def RowX (h : PH) (A : Nat → Nat) (r : Nat) : Prop := ∃ v, xBst A r v ∧ ((v = 1000 ∧ hI h (97 + r) 0 = m1 ∧ hI h (97 + r) 1 = m1 ∧ hI h (97 + r) 2 = m1 ∧ hI h (97 + r) 3 = m1) ∨ (v < 1000 ∧ hI h (97 + r) 0 = nI v ∧ xSE h A r v ∧ ∃ cn, xCN A r v cn (A 10) ∧ xR3 h r (xsd cn (A 8) (A 10))))
theorem xMk.congr {h h' : PH} {A : Nat → Nat} {r v : Nat} {V : Nat → Nat → Prop} (hm : xMk h A r v V) (hn : A 11 ≤ 8) (e1 : ∀ j, 4 ≤ j → hI h' (97 + r) j = hI h (97 + r) j) (e2 : ∀ x, 138 ≤ x → x < 146 → hI h' x = hI h x) : xMk h' A r v V := by
  intro b hb
  rw [e1 (4 + b) (by omega), e1 (12 + b) (by omega), e2 (138 + b) (by omega) (by omega)]
  exact hm b hb
theorem xMk.se {h : PH} {A : Nat → Nat} {r v : Nat} (hm : xMk h A r v (xSet A)) : xSE h A r v := fun b hb => ⟨(hm b hb).1, (hm b hb).2.1⟩
theorem pcn_0 : pcn 0 = 0 := by decide
section Xn
variable {L : Nat} {A : Nat → Nat}
theorem m72_30 {d r D W : Nat} {R : Nat → Int32} {s0 : Nat × Nat} (hr : r ≤ 30) (hD : D < 16) (hW : W ≤ 10) (hR1 : ∀ p, p ≤ W → ∃ w, w < 2097152 ∧ R p = nI w) : ∀ (n p : Nat) (h : PH) (v4 : Value), p + n = W + 1 → hI h 160 = R → hI h 8 0 = nI W → hR h 95 15 = 97 + r → xR3 h r (xsp (fun p => pcn (ix (R p))) D p s0) → (xsp (fun p => pcn (ix (R p))) D p s0).1 ≤ 24 → ∃ h' w3 w4, runL (g2 L) (d + 1) 5 false none kc_72 30 [.ref 95, .int (nI (xsp (fun p => pcn (ix (R p))) D p s0).1), .int (nI D), .int (nI p), v4] [] h = runL (g2 L) (d + 1) 5 false none kc_72 4 [.ref 95, .int (nI (xsp (fun p => pcn (ix (R p))) D (W + 1) s0).1), .int (nI (D + 1)), w3, w4] [] h' ∧ xR3 h' r (xsp (fun p => pcn (ix (R p))) D (W + 1) s0) ∧ (xsp (fun p => pcn (ix (R p))) D (W + 1) s0).1 ≤ 24 ∧ (∀ x, x ≠ 97 + r → hI h' x = hI h x) ∧ (∀ j, j = 0 ∨ 4 ≤ j → hI h' (97 + r) j = hI h (97 + r) j) ∧ hR h' = hR h := by
  have k31 := kk31 (i := r) (by omega)
  intro n
  induction n with
  | zero =>
    intro p h v4 hp h160 h8 hR0 h3 hle
    have e : p = W + 1 := by omega
    subst e
    refine ⟨h, .int (nI (W + 1)), v4, ?_, h3, hle, fun _ _ => rfl, fun _ _ => rfl, rfl⟩
    rw [e72_30, h8, if_pos (by rw [nI_ltN (by omega) (by omega)]; omega), nI_plus]
  | succ n ih =>
    intro p h v4 hp h160 h8 hR0 h3 hle
    obtain ⟨w, w1, w2⟩ := hR1 p (by omega)
    have ew : ix (R p) = w := by rw [w2, ix_nI (by omega)]
    have es : xsp (fun p => pcn (ix (R p))) D (p + 1) s0 = if (xsp (fun p => pcn (ix (R p))) D p s0).1 < pcn w then (pcn w, 11 * D + p + 1) else xsp (fun p => pcn (ix (R p))) D p s0 := by
      show (if _ < pcn (ix (R p)) then (pcn (ix (R p)), _) else _) = _
      rw [ew]
    obtain ⟨c1, c2⟩ := m64g (L := L) d (w := w) (by omega) h
    generalize hs : xsp (fun p => pcn (ix (R p))) D p s0 = s at *
    have s1 := e72_30 L (d + 1) (nI s.1) (nI D) (nI p) v4 h
    rw [h8, if_neg (by rw [nI_ltN (by omega) (by omega)]; omega), inB_nI (by omega), asr_d (by omega), ix_nI (by omega), h160, w2, c1, cI_s] at s1
    by_cases q : s.1 < pcn w
    · rw [if_neg (by rw [nI_leN (by omega) (by omega)]; omega), hR0] at s1
      simp (disch := omega) only [inB_nI, asr_d, okW_of k31.1, asr_true, lenA_of, k31.2, nI_plus] at s1
      rw [if_pos q] at es
      obtain ⟨h', w3, w4, e1, e2, e3, e4, e5, e6⟩ := ih (p + 1) (wI (wI (wI h (97 + r) 1 (nI D)) (97 + r) 2 (nI p)) (97 + r) 3 (nI (pcn w))) (.int (nI (pcn w))) (by omega) (by rw [wI_ne (by omega), wI_ne (by omega), wI_ne (by omega)]; exact h160) (by rw [wI_ne (by omega), wI_ne (by omega), wI_ne (by omega)]; exact h8) hR0 (by
        rw [es]
        refine Or.inr ⟨by show 11 * D + p + 1 ≠ 0; omega, ?_, ?_, ?_⟩
        · rw [hI_wI, if_neg (by omega), hI_wI, if_neg (by omega), hI_wI, if_pos ⟨rfl, rfl⟩]
          show nI D = nI ((11 * D + p + 1 - 1) / 11)
          congr 1
          omega
        · rw [hI_wI, if_neg (by omega), hI_wI, if_pos ⟨rfl, rfl⟩]
          show nI p = nI ((11 * D + p + 1 - 1) % 11)
          congr 1
          omega
        · rw [hI_wI, if_pos ⟨rfl, rfl⟩]) (by rw [es]; exact c2)
      refine ⟨h', w3, w4, ?_, e2, e3, fun x hx => by rw [e4 x hx, wI_ne hx, wI_ne hx, wI_ne hx], fun j hj => by rw [e5 j hj, hI_wI, if_neg (by omega), hI_wI, if_neg (by omega), hI_wI, if_neg (by omega)], e6⟩
      rw [es] at e1
      exact s1.trans e1
    · rw [if_pos (by rw [nI_leN (by omega) (by omega)]; omega), nI_plus] at s1
      rw [if_neg q] at es
      obtain ⟨h', w3, w4, e1, e2⟩ := ih (p + 1) h (.int (nI (pcn w))) (by omega) h160 h8 hR0 (by rw [es]; exact h3) (by rw [es]; exact hle)
      refine ⟨h', w3, w4, ?_, e2⟩
      rw [es] at e1
      exact s1.trans e1
theorem m72_4 {d r v : Nat} (hV : XV A) (hr : r ≤ 30) : ∀ (n D : Nat) (cn : Nat → Nat → Nat) (h : PH) (v3 v4 : Value), D + n = A 10 → RC h 0 A → hR h 95 15 = 97 + r → xMk h A r v (xSet A) → xCN A r v cn D → xR3 h r (xsd cn (A 8) D) → (xsd cn (A 8) D).1 ≤ 24 → ∃ h' cn', runL (g2 L) (d + 5) 5 false none kc_72 4 [.ref 95, .int (nI (xsd cn (A 8) D).1), .int (nI D), v3, v4] [] h = some (none, h') ∧ xMk h' A r v (xSet A) ∧ xCN A r v cn' (A 10) ∧ xR3 h' r (xsd cn' (A 8) (A 10)) ∧ (∀ x, x ≠ 97 + r → x ≠ 159 → x ≠ 160 → hI h' x = hI h x) ∧ hI h' (97 + r) 0 = hI h (97 + r) 0 ∧ hR h' = hR h := by
  obtain ⟨v7, v8, v9, v10, v11, vB, vL, vR, vS⟩ := id hV
  intro n
  induction n with
  | zero =>
    intro D cn h v3 v4 hD hC hR0 hM hN h3 hle
    have e : D = A 10 := by omega
    subst e
    have wd := hC.wd
    rw [Nat.zero_add] at wd
    refine ⟨h, cn, ?_, hM, hN, h3, fun _ _ _ _ => rfl, rfl, rfl⟩
    rw [e72_4, wd, if_pos (by rw [nI_leN (by omega) (by omega)]; omega)]
  | succ n ih =>
    intro D cn h v3 v4 hD hC hR0 hM hN h3 hle
    have wd := hC.wd
    rw [Nat.zero_add] at wd
    obtain ⟨h1, a1, a2, a3, a4, a5⟩ := m73 (L := L) (d + 1) hV (show D < A 10 by omega) hC hM
    have C1 : RC h1 0 A := hC.congr (fun a p q => a4 a (by omega) (by omega))
    have wn := C1.wn
    rw [Nat.zero_add] at wn
    obtain ⟨h2, w3, w4, b1', b2', b3', b4', b5', b6'⟩ := m72_30 (L := L) (d := d + 4) (R := hI h1 160) (s0 := xsd cn (A 8) D) hr (show D < 16 by omega) v8 (fun p hp => by
      by_cases q : p = 0
      · rw [q]
        exact ⟨0, by omega, a3⟩
      · obtain ⟨w, w1, w2, _⟩ := a2 p (by omega) hp
        exact ⟨w, w1, w2⟩) (A 8 + 1) 0 h1 v4 (by omega) rfl wn (by rw [a5]; exact hR0) (by
      show xR3 h1 r (xsd cn (A 8) D)
      unfold xR3
      rw [a4 (97 + r) (by omega) (by omega)]
      exact h3) hle
    have old : xsd (fun i => if i = D then (fun p => pcn (ix (hI h1 160 p))) else cn i) (A 8) D = xsd cn (A 8) D := xsd_congr D (fun i hi p hp => by rw [if_neg (by omega)])
    have new : xsd (fun i => if i = D then (fun p => pcn (ix (hI h1 160 p))) else cn i) (A 8) (D + 1) = xsp (fun p => pcn (ix (hI h1 160 p))) D (A 8 + 1) (xsd cn (A 8) D) := by
      show xsp (if D = D then _ else _) D (A 8 + 1) (xsd _ (A 8) D) = _
      rw [old, if_pos rfl]
    rw [← new] at b1' b2' b3'
    obtain ⟨h', cn', e1, e2, e3, e4, e5, e6, e7⟩ := ih (D + 1) (fun i => if i = D then (fun p => pcn (ix (hI h1 160 p))) else cn i) h2 w3 w4 (by omega) (C1.congr (fun a p q => b4' a (by omega))) (by rw [b6', a5]; exact hR0) (hM.congr v11 (fun j hj => by rw [b5' j (by omega), a4 _ (by omega) (by omega)]) (fun x p q => by rw [b4' x (by omega), a4 x (by omega) (by omega)])) (fun i hi => by
      by_cases q : i = D
      · subst q
        refine ⟨?_, fun p p1 p2 => ?_⟩
        · show (if i = i then (fun p => pcn (ix (hI h1 160 p))) else cn i) 0 = 0
          rw [if_pos rfl]
          show pcn (ix (hI h1 160 0)) = 0
          rw [a3, ix_nI (by omega), pcn_0]
        · show CNT A r v i p ((if i = i then (fun p => pcn (ix (hI h1 160 p))) else cn i) p)
          rw [if_pos rfl]
          obtain ⟨w, w1, w2, w3⟩ := a2 p p1 p2
          exact ⟨w, by show pcn (ix (hI h1 160 p)) = pcn w; rw [w2, ix_nI (by omega)], w3⟩
      · show (if i = D then _ else cn i) 0 = 0 ∧ ∀ p, 1 ≤ p → p ≤ A 8 → CNT A r v i p ((if i = D then _ else cn i) p)
        rw [if_neg q]
        exact hN i (by omega)) b2' b3'
    refine ⟨h', cn', ?_, e2, e3, e4, fun x x1 x2 x3 => by rw [e5 x x1 x2 x3, b4' x x1, a4 x x2 x3], by rw [e6, b5' 0 (by omega), a4 _ (by omega) (by omega)], e7.trans (b6'.trans a5)⟩
    rw [e72_4, wd, if_neg (by rw [nI_leN (by omega) (by omega)]; omega), inB_nI (by omega), asr_d (by omega), ix_nI (by omega), a1, cV_s]
    exact b1'.trans e1
theorem m72 (d : Nat) {r v : Nat} {h : PH} (hV : XV A) (hr : r ≤ 30) (hC : RC h 0 A) (hR0 : hR h 95 15 = 97 + r) (hM : xMk h A r v (xSet A)) (h1 : hI h (97 + r) 1 = m1) (h2 : hI h (97 + r) 2 = m1) (h3 : hI h (97 + r) 3 = m1) : ∃ h' cn', exec (g2 L) (d + 6) 72 [.ref 95] h = some (none, h') ∧ xMk h' A r v (xSet A) ∧ xCN A r v cn' (A 10) ∧ xR3 h' r (xsd cn' (A 8) (A 10)) ∧ (∀ x, x ≠ 97 + r → x ≠ 159 → x ≠ 160 → hI h' x = hI h x) ∧ hI h' (97 + r) 0 = hI h (97 + r) 0 ∧ hR h' = hR h := by
  obtain ⟨h', cn', e1, e2⟩ := m72_4 (L := L) (d := d) hV hr (A 10) 0 (fun _ _ => 0) h dm dm (by omega) hC hR0 hM (fun i hi => absurd hi (Nat.not_lt_zero _)) (Or.inl ⟨rfl, h1, h2, h3⟩) (show 1 ≤ 24 by decide)
  exact ⟨h', cn', by rw [x72]; exact e1, e2⟩
theorem all_1 : ∀ k, k < 10 → 1023 / 2 ^ k % 2 = 1 := by decide
/-- what explaining leaves -/
def XF5 (r : Nat) (h h' : PH) : Prop := (∀ x, x ≠ 95 → x ≠ 97 + r → ¬ (129 ≤ x ∧ x ≤ 162) → hI h' x = hI h x) ∧ hR h' = hR h
theorem XF5.tr {r : Nat} {a b c : PH} (h1 : XF5 r a b) (h2 : XF5 r b c) : XF5 r a c := ⟨fun x p q z => (h2.1 x p q z).trans (h1.1 x p q z), h2.2.trans h1.2⟩
theorem m51_95 {d r v : Nat} (hV : XV A) (hr : r ≤ 30) (hv : v < 1000) : ∀ (n b : Nat) (h : PH), b + n = 8 → XB h A r → hR h 95 15 = 97 + r → hI h 95 13 = nI v → (∀ j, 4 ≤ j → j < 12 → hI h (97 + r) j = nI 0) → hI h (97 + r) 0 = nI v → (∀ j, 1 ≤ j → j < 4 → hI h (97 + r) j = m1) → (∀ c, c < b → hI h (97 + r) (12 + c) = nI 1023 ∧ ∀ M, M < 1024 → hI h (138 + c) M = nI 0) → ∃ h', runL (g2 L) (d + 7) 5 false none kc_51 95 [.ref 95, .int (nI r), .int (nI b)] [] h = some (none, h') ∧ hI h' (97 + r) 0 = nI v ∧ xSE h' A r v ∧ (∃ cn, xCN A r v cn (A 10) ∧ xR3 h' r (xsd cn (A 8) (A 10))) ∧ XF5 r h h' := by
  obtain ⟨v7, v8, v9, v10, v11, vB, vL, vR, vS⟩ := id hV
  have k31 := kk31 (i := r) (by omega)
  intro n
  induction n with
  | zero =>
    intro b h hb hX hR0 h13 h4 h0 h123 hc
    have e : b = 8 := by omega
    subst e
    have XB1 : XB (wI h 95 14 (nI 1)) A r := hX.congr (fun x p _ _ => wI_ne p) (fun k hk => by rw [hI_wI, if_neg (by omega)]) ⟨v, by omega, by rw [hI_wI, if_neg (by omega)]; exact h13⟩ hV
    obtain ⟨h1, a1, a2, a3, a4, a5, a6⟩ := pass2 (L := L) (d + 2) hV (h := wI h 95 14 (nI 1)) hr (show v ≤ 1000 by omega) XB1 (by rw [hI_wI, if_neg (by omega)]; exact h13) (by rw [hI_wI, if_pos ⟨rfl, rfl⟩]) hR0 (fun b hb => by
      rw [wI_ne (by omega), wI_ne (by omega)]
      refine ⟨⟨0, by omega, h4 _ (by omega) (by omega), fun k hk => by rw [Nat.zero_div]; exact ⟨fun z => absurd z (by decide), fun ⟨_, _, z, _⟩ => z.elim⟩⟩, ⟨1023, by omega, (hc b (by omega)).1, fun k hk => ⟨fun _ _ _ z => z.elim, fun _ => all_1 k hk⟩⟩, fun M hM => ?_⟩
      rw [(hc b (by omega)).2 M hM]
      exact ⟨fun z => absurd rfl z, fun ⟨_, _, z, _⟩ => z.elim⟩)
    obtain ⟨h2, cn, c1, c2, c3, c4, c5, c6, c7⟩ := m72 (L := L) (d + 1) (h := h1) (v := v) hV hr a2.1 (by rw [a3]; exact hR0) a4 (by rw [a5 1 (by omega), wI_ne (by omega)]; exact h123 1 (by omega) (by omega)) (by rw [a5 2 (by omega), wI_ne (by omega)]; exact h123 2 (by omega) (by omega)) (by rw [a5 3 (by omega), wI_ne (by omega)]; exact h123 3 (by omega) (by omega))
    refine ⟨h2, ?_, by rw [c6, a5 0 (by omega), wI_ne (by omega)]; exact h0, c2.se, ⟨cn, c3, c4⟩, fun x x1 x2 x3 => by rw [c5 x x2 (by omega) (by omega), a6 x x2 (by omega), wI_ne x1], c7.trans a3⟩
    rw [e51_95, if_pos (by decide), a1, cV_s, c1, cV_s]
  | succ n ih =>
    intro b h hb hX hR0 h13 h4 h0 h123 hc
    obtain ⟨h1, a1, a2, a3, a4⟩ := m71 (L := L) (d + 6) (b := b) (h := wI h (97 + r) (12 + b) (nI 1023)) (by omega)
    have ne1 : ∀ x, x ≠ 97 + r → x ≠ 138 + b → hI h1 x = hI h x := fun x p q => by rw [a3 x q, wI_ne p]
    have row : ∀ j, hI h1 (97 + r) j = if j = 12 + b then nI 1023 else hI h (97 + r) j := by
      intro j
      rw [a3 _ (by omega), hI_wI]
      by_cases z : j = 12 + b
      · rw [if_pos ⟨rfl, z⟩, if_pos z]
      · rw [if_neg (fun w => z w.2), if_neg z]
    obtain ⟨h', e1, e2, e3, e4, e5⟩ := ih (b + 1) h1 (by omega) (hX.congr (fun x p q z => ne1 x (by omega) (by omega)) (fun k hk => by rw [ne1 95 (by omega) (by omega)]) ⟨v, by omega, by rw [ne1 95 (by omega) (by omega)]; exact h13⟩ hV) (by rw [a4]; exact hR0) (by rw [ne1 95 (by omega) (by omega)]; exact h13) (fun j p q => by rw [row j, if_neg (by omega)]; exact h4 j p q) (by rw [row 0, if_neg (by omega)]; exact h0) (fun j p q => by rw [row j, if_neg (by omega)]; exact h123 j p q) (fun c hc2 => by
      by_cases z : c = b
      · subst z
        exact ⟨by rw [row, if_pos rfl], a2⟩
      · rw [row, if_neg (by omega), ne1 (138 + c) (by omega) (by omega)]
        exact hc c (by omega))
    refine ⟨h', ?_, e2, e3, e4, XF5.tr ⟨fun x x1 x2 x3 => ne1 x x2 (by omega), a4⟩ e5⟩
    rw [e51_95, if_neg (by rw [nI_leN (by omega) (by omega)]; omega), hR0]
    simp (disch := omega) only [nI_plus, inB_nI, asr_d, okW_of k31.1, asr_true, lenA_of, k31.2, ix_nI]
    rw [a1, cV_s]
    exact e1
theorem m51 (d : Nat) {r : Nat} {h : PH} (hV : XV A) (hr : r ≤ A 7) (hC : RC h 0 A) (hR0 : hR h 95 15 = 97 + r) : ∃ h', exec (g2 L) (d + 23) 51 [.ref 95, .int (nI r)] h = some (none, h') ∧ RowX h' A r ∧ XF5 r h h' := by
  obtain ⟨v7, v8, v9, v10, v11, vB, vL, vR, vS⟩ := id hV
  have hr30 : r ≤ 30 := by omega
  have k31 := kk31 (i := r) (by omega)
  obtain ⟨h1, a1, a2, a3, a4⟩ := m52 (L := L) (d + 21) (h := h) vB v11 hC
  have C1 : RC h1 0 A := hC.congr (fun a p q => a3 a (by omega))
  have wn := C1.wn
  rw [Nat.zero_add] at wn
  obtain ⟨h2, c1, c2, c3, c4, c5⟩ := m53 (L := L) (d + 21) (h := h1) v8 wn
  have C2 : RC h2 0 A := C1.congr (fun a p q => c3 a (by omega) (by omega))
  obtain ⟨h3, e1, e2, e3, e4⟩ := m54 (L := L) (d + 1) (h := h2) hV hr C2
  have C3 : RC h3 0 A := C2.xfr e4
  have X3 : XB (wI (wI h3 95 13 (nI 1000)) 95 14 (nI 0)) A r := by
    have ne : ∀ x, x ≠ 95 → hI (wI (wI h3 95 13 (nI 1000)) 95 14 (nI 0)) x = hI h3 x := fun x hx => by rw [wI_ne hx, wI_ne hx]
    refine ⟨C3.congr (fun a p q => ne a (by omega)), ⟨?_, fun i hi => ?_⟩, fun b hb M hM hN => ?_, fun b hb => ?_, ?_, 1000, by omega, ?_⟩
    · rw [hI_wI, if_neg (by omega), hI_wI, if_neg (by omega), e4.2.1 10 (by omega) (by omega)]
      exact c2.1
    · rw [ne 162 (by omega), e4.1 162 (by omega) (by omega) (by omega)]
      exact c2.2 i hi
    · rw [ne _ (by omega)]
      exact e2 b hb M hM hN
    · rw [ne 161 (by omega), e4.1 161 (by omega) (by omega) (by omega), c3 161 (by omega) (by omega)]
      exact a2 b hb
    · rw [hI_wI, if_neg (by omega), hI_wI, if_neg (by omega)]
      exact e3
    · rw [hI_wI, if_neg (by omega), hI_wI, if_pos ⟨rfl, rfl⟩]
  obtain ⟨h4, v, f1, f2, f3, f4, f5, f6, f7⟩ := pass1 (L := L) (d + 17) hV X3 (by rw [hI_wI, if_neg (by omega), hI_wI, if_pos ⟨rfl, rfl⟩]) (by rw [hI_wI, if_pos ⟨rfl, rfl⟩])
  have hR4 : hR h4 = hR h := by
    rw [f7]
    show hR h3 = hR h
    rw [e4.2.2, c5, a4]
  have Ff : XF5 r h h4 := ⟨fun x x1 x2 x3 => by rw [f5 x x1, wI_ne x1, wI_ne x1, e4.1 x x1 (by omega) (by omega), c3 x x1 (by omega), a3 x (by omega)], hR4⟩
  obtain ⟨h5, g1, g2', g3, g4⟩ := m55 (L := L) (d + 21) (a := 97 + r) (n := 20) (h := h4) k31.1 (by omega) (by omega) k31.2 (by omega) (nI 0)
  have R5 : hR h5 95 15 = 97 + r := by rw [g4, hR4]; exact hR0
  have R4 : hR h4 95 15 = 97 + r := by rw [hR4]; exact hR0
  have h513 : hI h5 95 13 = nI v := by rw [g3 95 (by omega)]; exact f3
  have vle := f2.1
  have s0 := x51 L (d + 22) (nI r) h
  rw [a1, cV_s, c1, cV_s, e1, cV_s, f1, cV_s, R4, g1, cV_s, R5] at s0
  simp (disch := omega) only [inB_nI, asr_d, okW_of k31.1, asr_true, lenA_of, k31.2, wI_ne] at s0
  rw [h513] at s0
  have rowz : ∀ (z : Int32) (j : Nat), hI (wI (wI (wI (wI h5 (97 + r) 1 m1) (97 + r) 2 m1) (97 + r) 3 m1) (97 + r) 0 z) (97 + r) j = if j = 0 then z else if j < 4 then m1 else hI h5 (97 + r) j := by
    intro z j
    rw [hI_wI, hI_wI, hI_wI, hI_wI]
    by_cases y0 : j = 0
    · rw [if_pos ⟨rfl, y0⟩, if_pos y0]
    · rw [if_neg (fun w => y0 w.2), if_neg y0]
      by_cases y3 : j = 3
      · rw [if_pos ⟨rfl, y3⟩, if_pos (by omega)]
      · rw [if_neg (fun w => y3 w.2)]
        by_cases y2 : j = 2
        · rw [if_pos ⟨rfl, y2⟩, if_pos (by omega)]
        · rw [if_neg (fun w => y2 w.2)]
          by_cases y1 : j = 1
          · rw [if_pos ⟨rfl, y1⟩, if_pos (by omega)]
          · rw [if_neg (fun w => y1 w.2), if_neg (by omega)]
  have nez : ∀ (z : Int32) x, x ≠ 97 + r → hI (wI (wI (wI (wI h5 (97 + r) 1 m1) (97 + r) 2 m1) (97 + r) 3 m1) (97 + r) 0 z) x = hI h4 x := fun z x hx => by rw [wI_ne hx, wI_ne hx, wI_ne hx, wI_ne hx, g3 x hx]
  have F6 : ∀ z, XF5 r h (wI (wI (wI (wI h5 (97 + r) 1 m1) (97 + r) 2 m1) (97 + r) 3 m1) (97 + r) 0 z) := fun z => Ff.tr ⟨fun x x1 x2 x3 => nez z x x2, g4⟩
  by_cases q : v < 1000
  · rw [if_pos (by rw [nI_ltN (by omega) (by omega)]; exact q), if_pos (by rw [nI_ltN (by omega) (by omega)]; exact q)] at s0
    obtain ⟨h', i1, i2, i3, i4, i5⟩ := m51_95 (L := L) (d := d + 15) (r := r) (v := v) hV hr30 q 8 0 (wI (wI (wI (wI h5 (97 + r) 1 m1) (97 + r) 2 m1) (97 + r) 3 m1) (97 + r) 0 (nI v)) (by omega) (f4.congr (fun x p1 p2 p3 => nez _ x (by omega)) (fun k hk => by rw [nez _ 95 (by omega)]) ⟨v, vle, by rw [nez _ 95 (by omega)]; exact f3⟩ hV) R5 (by rw [nez _ 95 (by omega)]; exact f3) (fun j p1 p2 => by rw [rowz, if_neg (by omega), if_neg (by omega)]; exact g2' j (by omega)) (by rw [rowz, if_pos rfl]) (fun j p1 p2 => by rw [rowz, if_neg (by omega), if_pos p2]) (fun c hc => absurd hc (Nat.not_lt_zero _))
    exact ⟨h', s0.trans i1, ⟨v, f2, Or.inr ⟨q, i2, i3, i4⟩⟩, (F6 _).tr i5⟩
  · rw [if_neg (by rw [nI_ltN (by omega) (by omega)]; exact q), if_neg (by rw [nI_ltN (by omega) (by omega)]; exact q)] at s0
    exact ⟨_, s0, ⟨v, f2, Or.inl ⟨by omega, by rw [rowz, if_pos rfl], by rw [rowz, if_neg (by omega), if_pos (by omega)], by rw [rowz, if_neg (by omega), if_pos (by omega)], by rw [rowz, if_neg (by omega), if_pos (by omega)]⟩⟩, F6 _⟩
end Xn
