-- PART: explaining, the reference's explains, and what a dial shows.
/-- what the reference holds behind explaining all -/
def YX (h : PH) (A : Nat → Nat) (r v : Nat) : Prop := RM h 254 A ∧ (∃ sets, sets ≤ 200000 ∧ hI h 253 26 = nI sets ∧ ∀ b, b < A 11 → ∀ k, k < A 8 → ∃ n, n ≤ sets ∧ hI h 269 (11 * b + k + 1) = nI n ∧ (n = 0 ↔ ∀ p q, xSet A p q → xcost A r p q = v → ¬ xbk A p q b k) ∧ (n = sets ↔ ∀ p q, xSet A p q → xcost A r p q = v → xbk A p q b k)) ∧ (∀ D, D < A 10 → ∀ mk, mk < 2 ^ A 8 → (hI h 270 (1024 * D + mk) ≠ nI 0 ↔ ∃ p q, xSet A p q ∧ xcost A r p q = v ∧ xNm A p (A (170 + 8 * D)) ||| xNm A q (A (170 + 8 * D)) = 2 ^ A 8 - 1 - mk))
section Yu
variable {L : Nat} {A : Nat → Nat}
theorem yCov.all {V : Nat → Nat → Prop} (hc : yCov A V) {P : Nat → Nat → Prop} (hP : ∀ p q, P p q → P q p) : (∀ p q, V p q → P p q) ↔ (∀ p q, xSet A p q → P p q) := by
  constructor
  · intro z p q hs
    rcases hc.2 p q hs with y | y
    · exact z p q y
    · exact hP q p (z q p y)
  · exact fun z p q y => z p q (hc.1 p q y)
theorem yCov.ex {V : Nat → Nat → Prop} (hc : yCov A V) {P : Nat → Nat → Prop} (hP : ∀ p q, P p q → P q p) : (∃ p q, V p q ∧ P p q) ↔ (∃ p q, xSet A p q ∧ P p q) := by
  constructor
  · rintro ⟨p, q, z1, z2⟩
    exact ⟨p, q, hc.1 p q z1, z2⟩
  · rintro ⟨p, q, z1, z2⟩
    rcases hc.2 p q z1 with y | y
    · exact ⟨p, q, y, z2⟩
    · exact ⟨q, p, y, hP p q z2⟩
theorem m182_61 {d : Nat} (x1 x2 : Int32) : ∀ (n k : Nat) (h : PH), k + n = 88 → (∀ j, j < k → hI h 269 j = nI 0) → ∃ h', runL (g2 L) d 11 false (some .boolean) kc_182 61 [.ref 253, .int x1, .int x2, .int (nI k)] [] h = runL (g2 L) d 11 false (some .boolean) kc_182 82 [.ref 253, .int x1, .int x2, .int (nI 0)] [] h' ∧ (∀ j, j < 88 → hI h' 269 j = nI 0) ∧ ∀ x, x ≠ 269 → hI h' x = hI h x := by
  intro n
  induction n with
  | zero =>
    intro k h hk hj
    have e : k = 88 := by omega
    subst e
    refine ⟨h, ?_, hj, fun _ _ => rfl⟩
    rw [e182_61, if_pos (by rw [nI_leN (by omega) (by omega)]; omega)]
  | succ n ih =>
    intro k h hk hj
    have s0 := e182_61 L d x1 x2 (nI k) h
    rw [if_neg (by rw [nI_leN (by omega) (by omega)]; omega), inB_nI (by omega), asr_d (by omega), ix_nI (by omega), nI_plus] at s0
    obtain ⟨h', e1, e2, e3⟩ := ih (k + 1) (wI h 269 k (nI 0)) (by omega) (fun j hj2 => by
      rw [hI_wI]
      by_cases q : j = k
      · rw [if_pos ⟨rfl, q⟩]
      · rw [if_neg (fun z => q z.2)]
        exact hj j (by omega))
    exact ⟨h', s0.trans e1, e2, fun x hx => by rw [e3 x hx, wI_ne hx]⟩
theorem m182_82 {d : Nat} (x1 x2 : Int32) : ∀ (n k : Nat) (h : PH), k + n = 16384 → (∀ j, j < k → hI h 270 j = nI 0) → ∃ h', runL (g2 L) d 11 false (some .boolean) kc_182 82 [.ref 253, .int x1, .int x2, .int (nI k)] [] h = (cV (exec (g2 L) d 199 [.ref 253, .int m1, .int m1] h') fun h1 => cV (exec (g2 L) d 197 [.ref 253, .int (nI 0)] h1) fun h2 => some (some (.int (nI 1)), h2)) ∧ (∀ j, j < 16384 → hI h' 270 j = nI 0) ∧ ∀ x, x ≠ 270 → hI h' x = hI h x := by
  intro n
  induction n with
  | zero =>
    intro k h hk hj
    have e : k = 16384 := by omega
    subst e
    refine ⟨h, ?_, hj, fun _ _ => rfl⟩
    rw [e182_82, if_pos (by rw [nI_leN (by omega) (by omega)]; omega)]
  | succ n ih =>
    intro k h hk hj
    have s0 := e182_82 L d x1 x2 (nI k) h
    rw [if_neg (by rw [nI_leN (by omega) (by omega)]; omega), inB_nI (by omega), asr_d (by omega), ix_nI (by omega), nI_plus] at s0
    obtain ⟨h', e1, e2, e3⟩ := ih (k + 1) (wI h 270 k (nI 0)) (by omega) (fun j hj2 => by
      rw [hI_wI]
      by_cases q : j = k
      · rw [if_pos ⟨rfl, q⟩]
      · rw [if_neg (fun z => q z.2)]
        exact hj j (by omega))
    exact ⟨h', s0.trans e1, e2, fun x hx => by rw [e3 x hx, wI_ne hx]⟩
theorem m182_0 (d : Nat) {K r : Nat} {h : PH} (hV : XV A) (hY : yK A K r) (hK : K < 400) (hM : RM h 254 A) : ∃ h5 v, xBst A r v ∧ hI h5 253 25 = nI v ∧ YB h5 A r ∧ YF h h5 ∧ ∀ x2 : Int32, exec (g2 L) (d + 6) 182 [.ref 253, .int (nI K), .int x2] h = if nI v = nI 1000 then if nI 1000 ≤ nI v then some (some (.int (nI 0)), h5) else some (some (.int (nI 1)), h5) else if x2 ≠ nI 0 then runL (g2 L) (d + 5) 11 false (some .boolean) kc_182 61 [.ref 253, .int (nI K), .int x2, .int (nI 0)] [] (wI h5 253 26 (nI 0)) else if nI 1000 ≤ nI v then some (some (.int (nI 0)), h5) else some (some (.int (nI 1)), h5) := by
  obtain ⟨v7', v8, v9, v10, v11, vB, vL, vR, vS⟩ := id hV
  obtain ⟨h1, a1, a2, a3, a4⟩ := m183 (L := L) (d + 4) (h := h) v8 (hM.at (k := 8) (by omega) (by omega))
  have M1 : RM h1 254 A := hM.congr (a3 254 (by omega) (by omega) (by omega))
  obtain ⟨h2, b1, b2, b3, b4, b5⟩ := m184 (L := L) (d + 1) hV hY hK M1
  have B2 : YB h2 A r := by
    refine ⟨M1.yf b3, ?_, b2⟩
    unfold ySp at a2 ⊢
    rw [b5 21 (by omega), b4 266 (by omega) (by omega), b4 267 (by omega) (by omega)]
    exact a2
  obtain ⟨h3, c1, c2, c3, c4⟩ := m192 (L := L) (d + 2) (p := 0) (q := 0) hV B2 (Or.inl rfl) (Or.inl rfl) (by omega) (by omega)
  rw [cO_0] at c1
  have yl := yc_le A r 0 0
  have J : J1 (wI h3 253 25 (nI (yc A r 0 0))) A r 0 (fun p q => p = 0 ∧ q = 0) (wI h3 253 25 (nI (yc A r 0 0))) := by
    refine ⟨c3.congr (fun x hx => wI_ne (by omega)) (by rw [hI_wI, if_neg (by omega)]), ⟨yc A r 0 0, by rw [hI_wI, if_pos ⟨rfl, rfl⟩], yl, ?_, ?_⟩, fun _ _ _ => rfl, fun _ _ => rfl⟩
    · rintro c ⟨p, q, ⟨rfl, rfl⟩, rfl⟩
      unfold yc
      split <;> omega
    · by_cases z : yc A r 0 0 < 1000
      · exact Or.inr ⟨0, 0, ⟨rfl, rfl⟩, (yc_eq z).mp rfl⟩
      · exact Or.inl (by omega)
  obtain ⟨m', V', h5, d1, ⟨e1, ⟨v, e2, e3⟩, e4, e5⟩, d3, d4⟩ := m197 (L := L) (d + 3) (x1 := nI 1) (r := r) (J := J1 (wI h3 253 25 (nI (yc A r 0 0))) A r) hV (fun m V h hh => hh.1) (J1_step (d + 1) hV) (show 0 ≤ 10 by omega) J
  have cov := yCov_of hV (fun p q => Iff.rfl) d3 d4
  refine ⟨h5, v, e3.congr (fun c _ => (cov.ex (P := fun p q => xcost A r p q = c) (fun p q z => by rw [xcost_comm]; exact z)).symm), e2, e1, ⟨fun x p1 p2 => by rw [e4 x p1 (by omega), wI_ne p1, c4 x (by omega), b4 x p1 (by omega), a3 x p1 (by omega) (by omega)], fun k hk => by rw [e5 k (by omega), hI_wI, if_neg (by omega), c4 253 (by omega), b5 k (Or.inl hk), a4 k (by omega)]⟩, fun x2 => ?_⟩
  rw [x182, a1, cV_s, b1, cV_s, c1, cI_s, d1, cV_s, e2]
theorem m182_n (d : Nat) {K r : Nat} {h : PH} (hV : XV A) (hY : yK A K r) (hK : K < 400) (hM : RM h 254 A) : ∃ h' v, xBst A r v ∧ exec (g2 L) (d + 6) 182 [.ref 253, .int (nI K), .int (nI 0)] h = some (some (.int (bI (v < 1000))), h') ∧ hI h' 253 25 = nI v ∧ YF h h' := by
  obtain ⟨h5, v, a1, a2, a3, a4, a5⟩ := m182_0 (L := L) d hV hY hK hM
  have vl := a1.1
  refine ⟨h5, v, a1, ?_, a2, a4⟩
  rw [a5]
  by_cases q : v < 1000
  · rw [if_neg (by rw [nI_eqI (by omega) (by omega)]; omega), if_neg (fun z => z rfl), if_neg (by rw [nI_leN (by omega) (by omega)]; omega), bI_t q]
  · rw [if_pos (by rw [nI_eqI (by omega) (by omega)]; omega), if_pos (by rw [nI_leN (by omega) (by omega)]; omega), bI_f q]
theorem m182_a (d : Nat) {K r : Nat} {h : PH} (hV : XV A) (hY : yK A K r) (hK : K < 400) (hM : RM h 254 A) : ∃ h' v, xBst A r v ∧ exec (g2 L) (d + 6) 182 [.ref 253, .int (nI K), .int (nI 1)] h = some (some (.int (bI (v < 1000))), h') ∧ (v < 1000 → YX h' A r v) ∧ YF h h' := by
  obtain ⟨v7', v8, v9, v10, v11, vB, vL, vR, vS⟩ := id hV
  have p10 : 2 ^ A 8 ≤ 2 ^ 10 := Nat.pow_le_pow_right (by omega) v8
  obtain ⟨h5, v, a1, a2, a3, a4, a5⟩ := m182_0 (L := L) d hV hY hK hM
  have vl := a1.1
  by_cases q : v < 1000
  · have hlo : ∀ p q, xSet A p q → v ≤ xcost A r p q := fun p q hs => a1.2.1 _ ⟨p, q, hs, rfl⟩
    obtain ⟨h6, b1, b2, b3⟩ := m182_61 (L := L) (d := d + 5) (nI K) (nI 1) 88 0 (wI h5 253 26 (nI 0)) (by omega) (fun j hj => absurd hj (Nat.not_lt_zero _))
    obtain ⟨h7, c1, c2, c3⟩ := m182_82 (L := L) (d := d + 5) (nI K) (nI 1) 16384 0 h6 (by omega) (fun j hj => absurd hj (Nat.not_lt_zero _))
    have f7 : ∀ x, x ≠ 253 → x ≠ 269 → x ≠ 270 → hI h7 x = hI h5 x := fun x p1 p2 p3 => by rw [c3 x p3, b3 x p2, wI_ne p1]
    have g7 : ∀ k, k ≠ 26 → hI h7 253 k = hI h5 253 k := fun k hk => by rw [c3 253 (by omega), b3 253 (by omega), hI_wI, if_neg (fun z => hk z.2)]
    have J0 : J2 h7 A r v 0 (fun _ _ => False) h7 := by
      refine ⟨by omega, a3.congr (fun x hx => f7 x (by omega) (by omega) (by omega)) (g7 21 (by omega)), by rw [g7 25 (by omega)]; exact a2, ⟨0, Nat.le_refl _, by rw [c3 253 (by omega), b3 253 (by omega), hI_wI, if_pos ⟨rfl, rfl⟩], fun b hb k hk => ⟨0, Nat.le_refl _, by rw [c3 269 (by omega)]; exact b2 _ (by omega), ⟨fun _ _ _ z => z.elim, fun _ => rfl⟩, ⟨fun _ _ _ z => z.elim, fun _ => rfl⟩⟩⟩, fun D hD mk hmk => ?_, fun _ _ _ => rfl, fun _ _ => rfl⟩
      rw [c2 _ (by omega)]
      exact ⟨fun z => absurd rfl z, fun ⟨_, _, z, _⟩ => z.elim⟩
    obtain ⟨h8, d1, d2⟩ := J2.meet (L := L) (d + 1) hV q hlo J0 (show xSet A 0 0 from ⟨Or.inl rfl, Or.inl rfl, Or.inl rfl⟩) (by omega)
    rw [cO_0] at d1
    obtain ⟨m', V', h9, e1, ⟨em, j1, j2, ⟨sets, j3, j4, j5⟩, j6, j7, j8⟩, e3, e4⟩ := m197 (L := L) (d + 3) (x1 := nI 0) (r := r) (J := J2 h7 A r v) hV (fun m V h hh => hh.2.1) (J2_step d hV q hlo) (show 0 + 1 ≤ 10 by omega) d2
    have cov := yCov_of hV (V := VA (fun _ _ => False) 0 0) (fun p q => ⟨fun z => z.elim False.elim id, Or.inr⟩) e3 e4
    rw [d1, cV_s, e1, cV_s] at c1
    refine ⟨h9, v, a1, ?_, fun _ => ⟨j1.1, ⟨sets, by omega, j4, fun b hb k hk => ?_⟩, fun D hD mk hmk => ?_⟩, ?_⟩
    · rw [a5, if_neg (by rw [nI_eqI (by omega) (by omega)]; omega), if_pos (by decide), b1, c1, bI_t q]
    · obtain ⟨n, n1, n2, n3, n4⟩ := j5 b hb k hk
      refine ⟨n, n1, n2, n3.trans (cov.all (P := fun p q => xcost A r p q = v → ¬ xbk A p q b k) (fun p q z hc hx => z (by rw [xcost_comm]; exact hc) (xbk_comm.mp hx))), n4.trans (cov.all (P := fun p q => xcost A r p q = v → xbk A p q b k) (fun p q z hc => xbk_comm.mp (z (by rw [xcost_comm]; exact hc))))⟩
    · rw [j6 D hD mk hmk]
      exact cov.ex (P := fun p q => xcost A r p q = v ∧ xNm A p (A (170 + 8 * D)) ||| xNm A q (A (170 + 8 * D)) = 2 ^ A 8 - 1 - mk) (fun p q z => ⟨by rw [xcost_comm]; exact z.1, by rw [Nat.or_comm]; exact z.2⟩)
    · refine a4.tr ⟨fun x p1 p2 => by rw [j7 x p1 (by omega), f7 x p1 (by omega) (by omega)], fun k hk => by rw [j8 k (by omega), g7 k (by omega)]⟩
  · refine ⟨h5, v, a1, ?_, fun z => absurd z q, a4⟩
    rw [a5, if_pos (by rw [nI_eqI (by omega) (by omega)]; omega), if_pos (by rw [nI_leN (by omega) (by omega)]; omega), bI_f q]
/-- what the reference has taken, behind p pulses -/
def yTk (h : PH) (A : Nat → Nat) (D M p : Nat) : Prop := ∃ hd l, TH h (A (170 + 8 * D + 1)) hd l (A (170 + 8 * D + 4) + xac (A (170 + 8 * D + 1)) (A (170 + 8 * D + 3)) (A 9) M p) (A (170 + 8 * D + 5)) (A (170 + 8 * D + 6)) ∧ hd < 720 ∧ l ≤ 1 ∧ (A (170 + 8 * D + 1) = 1 → l = (A (170 + 8 * D + 3) + xac (A (170 + 8 * D + 1)) (A (170 + 8 * D + 3)) (A 9) M p) % 2)
theorem TH.congr {h h' : PH} {t hd l c sk bo : Nat} (hT : TH h t hd l c sk bo) (e : hI h' 253 = hI h 253) : TH h' t hd l c sk bo := by
  unfold TH at hT ⊢
  rw [e]
  exact hT
theorem m202_24 {d D mk : Nat} (hV : XV A) (hD : D < A 10) (hm : mk < 2 ^ A 8) : ∀ (n p : Nat) (h : PH), p + n = A 8 → RM h 254 A → yTk h A D (2 ^ A 8 - 1 - mk) p → ∃ h', runL (g2 L) (d + 2) 11 false none kc_202 24 [.ref 253, .int (nI D), .int (nI mk), .int (nI (xsh A D (2 ^ A 8 - 1 - mk) p)), .int (nI (p + 1))] [] h = some (none, h') ∧ (∀ p' y, p' ≤ A 8 → y < 32 → hI h' 271 (32 * p' + y) = if p < p' ∧ y = xsh A D (2 ^ A 8 - 1 - mk) p' then nI 1 else hI h 271 (32 * p' + y)) ∧ (∀ x, x ≠ 253 → x ≠ 271 → hI h' x = hI h x) ∧ ∀ k, (k < 11 ∨ 16 < k) → hI h' 253 k = hI h 253 k := by
  obtain ⟨v7', v8, v9, v10, v11, vB, vL, vR, vS⟩ := id hV
  obtain ⟨l0, l1, l2, l3, l4, l5, l6, l7⟩ := vL D hD
  have p10 : 2 ^ A 8 ≤ 2 ^ 10 := Nat.pow_le_pow_right (by omega) v8
  intro n
  induction n with
  | zero =>
    intro p h hp hM hT
    have w8 := hM.at (k := 8) (by omega) (by omega)
    refine ⟨h, ?_, fun p' y hp' _ => ?_, fun _ _ _ => rfl, fun _ _ => rfl⟩
    · rw [e202_24, w8, if_pos (by rw [nI_ltN (by omega) (by omega)]; omega)]
    · rw [if_neg (by omega)]
  | succ n ih =>
    intro p h hp hM hT
    have w8 := hM.at (k := 8) (by omega) (by omega)
    have w9 := hM.at (k := 9) (by omega) (by omega)
    have cb := cb_all (A 8) (by omega) mk hm p (by omega)
    have xl := xsh_le A D (2 ^ A 8 - 1 - mk) (show p ≤ 10 by omega)
    have xl1 := xsh_le A D (2 ^ A 8 - 1 - mk) (show p + 1 ≤ 10 by omega)
    obtain ⟨hd, l, t1, t2, t3, t4⟩ := id hT
    have al := xac_le (A (170 + 8 * D + 1)) (A (170 + 8 * D + 3)) (A 9) (2 ^ A 8 - 1 - mk) p
    have s0 := e202_24 L (d + 2) (nI D) (nI mk) (nI (xsh A D (2 ^ A 8 - 1 - mk) p)) (nI (p + 1)) h
    rw [w8, w9, if_neg (by rw [nI_ltN (by omega) (by omega)]; omega), nI_m1_plus, nI_shr (by omega) (by omega), nI_and, Nat.and_one_is_mod, Nat.shiftRight_eq_div_pow, nI_times, nI_plus, nI_plus, nI_plus, show A 9 + (p + 1) = A 9 + p + 1 from rfl, nI_m1_plus, nI_rest (by omega) (by omega)] at s0
    -- going on with what is shown behind the pulse p + 1
    have stp : ∀ h1, (∀ x, x ≠ 253 → hI h1 x = hI h x) → (∀ k, (k < 11 ∨ 16 < k) → hI h1 253 k = hI h 253 k) → yTk h1 A D (2 ^ A 8 - 1 - mk) (p + 1) → ∃ h', runL (g2 L) (d + 2) 11 false none kc_202 24 [.ref 253, .int (nI D), .int (nI mk), .int (nI (xsh A D (2 ^ A 8 - 1 - mk) (p + 1))), .int (nI (p + 1 + 1))] [] (wI h1 271 (32 * (p + 1) + xsh A D (2 ^ A 8 - 1 - mk) (p + 1)) (nI 1)) = some (none, h') ∧ (∀ p' y, p' ≤ A 8 → y < 32 → hI h' 271 (32 * p' + y) = if p < p' ∧ y = xsh A D (2 ^ A 8 - 1 - mk) p' then nI 1 else hI h 271 (32 * p' + y)) ∧ (∀ x, x ≠ 253 → x ≠ 271 → hI h' x = hI h x) ∧ ∀ k, (k < 11 ∨ 16 < k) → hI h' 253 k = hI h 253 k := by
      intro h1 e1 e2 e3
      obtain ⟨hd', l', u1, u2⟩ := e3
      obtain ⟨h', i1, i2, i3, i4⟩ := ih (p + 1) (wI h1 271 (32 * (p + 1) + xsh A D (2 ^ A 8 - 1 - mk) (p + 1)) (nI 1)) (by omega) (hM.congr (by rw [wI_ne (by omega), e1 254 (by omega)])) ⟨hd', l', u1.congr (wI_ne (by omega)), u2⟩
      refine ⟨h', i1, fun p' y hp' hy => ?_, fun x p1 p2 => by rw [i3 x p1 p2, wI_ne p2, e1 x p1], fun k hk => by rw [i4 k hk, wI_ne (by omega), e2 k hk]⟩
      rw [i2 p' y hp' hy, hI_wI, e1 271 (by omega)]
      by_cases e : p' = p + 1
      · subst e
        rw [if_neg (by omega)]
        by_cases z : y = xsh A D (2 ^ A 8 - 1 - mk) (p + 1)
        · rw [if_pos ⟨rfl, by omega⟩, if_pos ⟨by omega, z⟩]
        · rw [if_neg (by omega), if_neg (fun w => z w.2)]
      · rw [if_neg (c := 271 = 271 ∧ _) (by omega)]
        by_cases z : p + 1 < p' ∧ y = xsh A D (2 ^ A 8 - 1 - mk) p'
        · rw [if_pos z, if_pos ⟨by omega, z.2⟩]
        · rw [if_neg z, if_neg (fun w => z ⟨by omega, w.2⟩)]
    -- nothing is done
    have same : xac (A (170 + 8 * D + 1)) (A (170 + 8 * D + 3)) (A 9) (2 ^ A 8 - 1 - mk) (p + 1) = xac (A (170 + 8 * D + 1)) (A (170 + 8 * D + 3)) (A 9) (2 ^ A 8 - 1 - mk) p → xsh A D (2 ^ A 8 - 1 - mk) (p + 1) = xsh A D (2 ^ A 8 - 1 - mk) p ∧ yTk h A D (2 ^ A 8 - 1 - mk) (p + 1) := by
      intro e
      unfold xsh yTk
      rw [e]
      exact ⟨rfl, hd, l, t1, t2, t3, t4⟩
    have unf : xac (A (170 + 8 * D + 1)) (A (170 + 8 * D + 3)) (A 9) (2 ^ A 8 - 1 - mk) (p + 1) = if (2 ^ A 8 - 1 - mk) / 2 ^ p % 2 = 1 then xac (A (170 + 8 * D + 1)) (A (170 + 8 * D + 3)) (A 9) (2 ^ A 8 - 1 - mk) p else if xI (A (170 + 8 * D + 1)) (A (170 + 8 * D + 3)) (A 9) (xac (A (170 + 8 * D + 1)) (A (170 + 8 * D + 3)) (A 9) (2 ^ A 8 - 1 - mk) p) (p + 1) = true then xac (A (170 + 8 * D + 1)) (A (170 + 8 * D + 3)) (A 9) (2 ^ A 8 - 1 - mk) p else xac (A (170 + 8 * D + 1)) (A (170 + 8 * D + 3)) (A 9) (2 ^ A 8 - 1 - mk) p + 1 := rfl
    by_cases q : mk / 2 ^ p % 2 = 1
    · rw [if_neg (fun z => (cb.mp z) q)] at unf
      rw [if_neg (by rw [q]; exact fun z => z rfl), m169 (L := L) d t1 l1 t2 t3 (by omega) l5 l6 (show (A 9 + p) % 2 ≤ 1 by omega), cI_s] at s0
      by_cases z : A (170 + 8 * D + 1) = 1 ∧ l = (A 9 + p) % 2
      · have id1 : xI (A (170 + 8 * D + 1)) (A (170 + 8 * D + 3)) (A 9) (xac (A (170 + 8 * D + 1)) (A (170 + 8 * D + 3)) (A 9) (2 ^ A 8 - 1 - mk) p) (p + 1) = true := by
          unfold xI
          rw [decide_eq_true_iff]
          have := t4 z.1
          exact ⟨z.1, by omega⟩
        rw [if_pos id1] at unf
        obtain ⟨u1, u2⟩ := same unf
        have e0 : hp1 h (A (170 + 8 * D + 1)) (A (170 + 8 * D + 5)) (A (170 + 8 * D + 6)) ((A 9 + p) % 2) hd l (A (170 + 8 * D + 4) + xac (A (170 + 8 * D + 1)) (A (170 + 8 * D + 3)) (A 9) (2 ^ A 8 - 1 - mk) p) = h := if_pos z
        rw [if_pos (by rw [bI_0]; exact not_not_intro z), e0, inB_nI (by omega), asr_d (by omega), ix_nI (by omega)] at s0
        obtain ⟨h', i1, i2⟩ := stp h (fun _ _ => rfl) (fun _ _ => rfl) u2
        rw [u1] at i1
        exact ⟨h', s0.trans i1, i2⟩
      · have id0 : ¬ xI (A (170 + 8 * D + 1)) (A (170 + 8 * D + 3)) (A 9) (xac (A (170 + 8 * D + 1)) (A (170 + 8 * D + 3)) (A 9) (2 ^ A 8 - 1 - mk) p) (p + 1) = true := by
          unfold xI
          rw [decide_eq_true_iff]
          intro w
          have := t4 w.1
          exact z ⟨w.1, by omega⟩
        rw [if_neg id0] at unf
        have T1 := hp1_TH (s := (A 9 + p) % 2) t1
        have epl : pl1 (A (170 + 8 * D + 1)) (A (170 + 8 * D + 5)) (A (170 + 8 * D + 6)) ((A 9 + p) % 2) hd l (A (170 + 8 * D + 4) + xac (A (170 + 8 * D + 1)) (A (170 + 8 * D + 3)) (A 9) (2 ^ A 8 - 1 - mk) p) = ((hd + gn (A (170 + 8 * D + 5)) (A (170 + 8 * D + 6)) (A (170 + 8 * D + 4) + xac (A (170 + 8 * D + 1)) (A (170 + 8 * D + 3)) (A 9) (2 ^ A 8 - 1 - mk) p + 1)) % 720, (A 9 + p) % 2, A (170 + 8 * D + 4) + xac (A (170 + 8 * D + 1)) (A (170 + 8 * D + 3)) (A 9) (2 ^ A 8 - 1 - mk) p + 1) := if_neg z
        rw [epl] at T1
        generalize hH : hp1 h (A (170 + 8 * D + 1)) (A (170 + 8 * D + 5)) (A (170 + 8 * D + 6)) ((A 9 + p) % 2) hd l (A (170 + 8 * D + 4) + xac (A (170 + 8 * D + 1)) (A (170 + 8 * D + 3)) (A 9) (2 ^ A 8 - 1 - mk) p) = h1 at s0 T1
        have F1 : ∀ x, x ≠ 253 → hI h1 x = hI h x := fun x hx => by rw [← hH]; exact hp1_ne hx
        have F2 : ∀ k, (k < 11 ∨ 16 < k) → hI h1 253 k = hI h 253 k := fun k hk => by rw [← hH]; exact hp1_253 hk
        have ex : xsh A D (2 ^ A 8 - 1 - mk) p + gn (A (170 + 8 * D + 5)) (A (170 + 8 * D + 6)) (A (170 + 8 * D + 4) + xac (A (170 + 8 * D + 1)) (A (170 + 8 * D + 3)) (A 9) (2 ^ A 8 - 1 - mk) p + 1) = xsh A D (2 ^ A 8 - 1 - mk) (p + 1) := by
          unfold xsh
          rw [unf]
          rfl
        have K1 : yTk h1 A D (2 ^ A 8 - 1 - mk) (p + 1) := by
          refine ⟨(hd + gn (A (170 + 8 * D + 5)) (A (170 + 8 * D + 6)) (A (170 + 8 * D + 4) + xac (A (170 + 8 * D + 1)) (A (170 + 8 * D + 3)) (A 9) (2 ^ A 8 - 1 - mk) p + 1)) % 720, (A 9 + p) % 2, ?_, Nat.mod_lt _ (by omega), by omega, ?_⟩
          · rw [unf]
            exact T1
          · intro w
            have y1 := t4 w
            have y2 : l ≠ (A 9 + p) % 2 := fun y => z ⟨w, y⟩
            rw [unf]
            omega
        have h16 : hI h1 253 16 = nI (A (170 + 8 * D + 4) + xac (A (170 + 8 * D + 1)) (A (170 + 8 * D + 3)) (A 9) (2 ^ A 8 - 1 - mk) p + 1) := T1.2.2.2.2.2
        rw [if_neg (by rw [bI_0]; exact fun w => w z), h16, m170 (L := L) (d + 1) T1.2.1 T1.2.2.1 l5 l6 (by omega), cI_s, nI_plus, ex, nI_plus, inB_nI (by omega), asr_d (by omega), ix_nI (by omega)] at s0
        obtain ⟨h', i1, i2⟩ := stp h1 F1 F2 K1
        exact ⟨h', s0.trans i1, i2⟩
    · rw [if_pos (cb.mpr q)] at unf
      obtain ⟨u1, u2⟩ := same unf
      rw [if_pos (by rw [Ne, nI_eqI (by omega) (by omega)]; exact q), inB_nI (by omega), asr_d (by omega), ix_nI (by omega)] at s0
      obtain ⟨h', i1, i2⟩ := stp h (fun _ _ => rfl) (fun _ _ => rfl) u2
      rw [u1] at i1
      exact ⟨h', s0.trans i1, i2⟩
theorem m202 (d : Nat) {D mk : Nat} {h : PH} (hV : XV A) (hD : D < A 10) (hm : mk < 2 ^ A 8) (hM : RM h 254 A) : ∃ h', exec (g2 L) (d + 3) 202 [.ref 253, .int (nI D), .int (nI mk)] h = some (none, h') ∧ (∀ p' y, p' ≤ A 8 → y < 32 → hI h' 271 (32 * p' + y) = if y = xsh A D (2 ^ A 8 - 1 - mk) p' then nI 1 else hI h 271 (32 * p' + y)) ∧ (∀ x, x ≠ 253 → x ≠ 271 → hI h' x = hI h x) ∧ ∀ k, (k < 11 ∨ 16 < k) → hI h' 253 k = hI h 253 k := by
  obtain ⟨v7', v8, v9, v10, v11, vB, vL, vR, vS⟩ := id hV
  obtain ⟨l0, l1, l2, l3, l4, l5, l6, l7⟩ := vL D hD
  obtain ⟨t1, t2⟩ := hM.th (L := L) (D := D) (by omega) l1 (d + 1)
  have x0 : xsh A D (2 ^ A 8 - 1 - mk) 0 = 0 := rfl
  obtain ⟨h', i1, i2, i3, i4⟩ := m202_24 (L := L) (d := d) (D := D) (mk := mk) hV hD hm (A 8) 0 (wI (tkH h (170 + 8 * D) (nI (A (170 + 8 * D + 1)))) 271 0 (nI 1)) (by omega) (hM.congr (by rw [wI_ne (by omega), tkH_ne (by omega)])) ⟨_, _, t2.congr (wI_ne (by omega)), l2, l3, fun _ => by show _ = (A (170 + 8 * D + 3) + 0) % 2; omega⟩
  rw [x0] at i1
  refine ⟨h', ?_, fun p' y hp' hy => ?_, fun x p1 p2 => by rw [i3 x p1 p2, wI_ne p2, tkH_ne p1], fun k hk => by rw [i4 k hk, wI_ne (by omega), tkH_at hk]⟩
  · rw [x202, t1, cV_s]
    exact i1
  · rw [i2 p' y hp' hy, hI_wI, tkH_ne (by omega)]
    by_cases e : p' = 0
    · subst e
      rw [if_neg (by omega), x0]
      by_cases z : y = 0
      · rw [if_pos ⟨rfl, by omega⟩, if_pos z]
      · rw [if_neg (by omega), if_neg z]
    · rw [if_neg (c := 271 = 271 ∧ _) (by omega)]
      by_cases z : y = xsh A D (2 ^ A 8 - 1 - mk) p'
      · rw [if_pos ⟨by omega, z⟩, if_pos z]
      · rw [if_neg (fun w => z w.2), if_neg z]
end Yu
