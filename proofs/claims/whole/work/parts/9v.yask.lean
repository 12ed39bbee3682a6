-- PART: explaining, the reference's question.
theorem bits_ex (P : Nat → Prop) : ∀ n, ∃ w, w < 2 ^ n ∧ ∀ y, y < n → (w / 2 ^ y % 2 = 1 ↔ P y)
  | 0 => ⟨0, by decide, fun y hy => absurd hy (Nat.not_lt_zero _)⟩
  | n + 1 => by
    obtain ⟨w, w1, w2⟩ := bits_ex P n
    have e2 : 2 ^ (n + 1) = 2 ^ n * 2 := Nat.pow_succ 2 n
    have pos : 0 < 2 ^ n := Nat.pow_pos (by decide)
    by_cases q : P n
    · refine ⟨2 ^ n + w, by omega, fun y hy => ?_⟩
      by_cases e : y = n
      · subst e
        rw [Nat.add_div_left _ pos, Nat.div_eq_of_lt w1]
        exact ⟨fun _ => q, fun _ => rfl⟩
      · rw [add_bits w1 (show y < n by omega)]
        exact w2 y (by omega)
    · refine ⟨w, by omega, fun y hy => ?_⟩
      by_cases e : y = n
      · subst e
        rw [Nat.div_eq_of_lt w1]
        exact ⟨fun z => absurd z (by decide), fun z => absurd z q⟩
      · exact w2 y (by omega)
def yn (h : PH) (i k : Nat) : Nat := xsum (fun y => if hI h 271 (32 * i + y) = nI 0 then 0 else 1) k
theorem yn_le (h : PH) (i k : Nat) : yn h i k ≤ k := by
  have := xsum_top (f := fun y => if hI h 271 (32 * i + y) = nI 0 then 0 else 1) (m := 1) k (fun y _ => by
    show (if hI h 271 (32 * i + y) = nI 0 then 0 else 1) ≤ 1
    split <;> omega)
  unfold yn
  omega
def yZ (h : PH) (A : Nat → Nat) (D n : Nat) : Prop := ∀ p y, p ≤ A 8 → y < 32 → (hI h 271 (32 * p + y) ≠ nI 0 ↔ ∃ mk, mk < n ∧ hI h 270 (1024 * D + mk) ≠ nI 0 ∧ xsh A D (2 ^ A 8 - 1 - mk) p = y)
def yse (h : PH) (A : Nat → Nat) (r v : Nat) : Prop := ∀ D, D < A 10 → ∀ mk, mk < 2 ^ A 8 → (hI h 270 (1024 * D + mk) ≠ nI 0 ↔ ∃ p q, xSet A p q ∧ xcost A r p q = v ∧ xNm A p (A (170 + 8 * D)) ||| xNm A q (A (170 + 8 * D)) = 2 ^ A 8 - 1 - mk)
theorem xsp_in {c : Nat → Nat} {D : Nat} {s : Nat × Nat} (hs : 1 ≤ s.1 ∧ s.1 ≤ 32) : ∀ k, (∀ i, i < k → c i ≤ 32) → 1 ≤ (xsp c D k s).1 ∧ (xsp c D k s).1 ≤ 32
  | 0, _ => hs
  | k + 1, hc => by
    have i1 := xsp_in (c := c) (D := D) hs k (fun i hi => hc i (by omega))
    have i2 := hc k (by omega)
    unfold xsp
    split
    · rename_i q
      show 1 ≤ c k ∧ c k ≤ 32
      omega
    · exact i1
section Yv
variable {L : Nat} {A : Nat → Nat}
theorem yZ_x {h : PH} {r v D : Nat} (hV : XV A) (hD : D < A 10) (hs : yse h A r v) (hz : yZ h A D (2 ^ A 8)) {p y : Nat} (hp : p ≤ A 8) (hy : y < 32) : hI h 271 (32 * p + y) ≠ nI 0 ↔ xQ A r v D p y := by
  rw [hz p y hp hy]
  constructor
  · rintro ⟨mk, m1', m2', m3⟩
    obtain ⟨p', q', z1, z2, z3⟩ := (hs D hD mk m1').mp m2'
    exact ⟨p', q', z1, z2, by rw [z3]; exact m3⟩
  · rintro ⟨p', q', z1, z2, z3⟩
    have u3 : xNm A p' (A (170 + 8 * D)) ||| xNm A q' (A (170 + 8 * D)) < 2 ^ A 8 := Nat.or_lt_two_pow (xNm_lt hV z1.1 _) (xNm_lt hV z1.2.1 _)
    have e : 2 ^ A 8 - 1 - (2 ^ A 8 - 1 - (xNm A p' (A (170 + 8 * D)) ||| xNm A q' (A (170 + 8 * D)))) = xNm A p' (A (170 + 8 * D)) ||| xNm A q' (A (170 + 8 * D)) := by omega
    refine ⟨2 ^ A 8 - 1 - (xNm A p' (A (170 + 8 * D)) ||| xNm A q' (A (170 + 8 * D))), by omega, (hs D hD _ (by omega)).mpr ⟨p', q', z1, z2, e.symm⟩, ?_⟩
    rw [e]
    exact z3
theorem yn_cnt {h : PH} {r v D : Nat} (hV : XV A) (hD : D < A 10) (hs : yse h A r v) (hz : yZ h A D (2 ^ A 8)) {p : Nat} (hp : p ≤ A 8) : CNT A r v D p (yn h p 32) := by
  obtain ⟨w, _, w2⟩ := bits_ex (fun y => hI h 271 (32 * p + y) ≠ nI 0) 32
  refine ⟨w, ?_, fun y hy => (w2 y hy).trans (yZ_x hV hD hs hz hp hy)⟩
  refine xsum_congr 32 (fun y hy => ?_)
  show (if hI h 271 (32 * p + y) = nI 0 then 0 else 1) = w / 2 ^ y % 2
  have := w2 y hy
  by_cases q : hI h 271 (32 * p + y) = nI 0
  · rw [if_pos q]
    have : ¬ w / 2 ^ y % 2 = 1 := fun z => (this.mp z) q
    omega
  · rw [if_neg q]
    exact (this.mpr q).symm
theorem yn_0 {h : PH} {D : Nat} (hz : yZ h A D (2 ^ A 8)) : yn h 0 32 ≤ 1 := by
  have e := xsum_split (fun y => if hI h 271 (32 * 0 + y) = nI 0 then 0 else 1) 1 31
  have t := xsum_top (f := fun i => if hI h 271 (32 * 0 + (1 + i)) = nI 0 then 0 else 1) (m := 0) 31 (fun i hi => by
    show (if hI h 271 (32 * 0 + (1 + i)) = nI 0 then 0 else 1) ≤ 0
    by_cases q : hI h 271 (32 * 0 + (1 + i)) = nI 0
    · rw [if_pos q]
      omega
    · exfalso
      obtain ⟨mk, _, _, z⟩ := (hz 0 (1 + i) (Nat.zero_le _) (by omega)).mp q
      have x0 : xsh A D (2 ^ A 8 - 1 - mk) 0 = 0 := rfl
      omega)
  have f : xsum (fun y => if hI h 271 (32 * 0 + y) = nI 0 then 0 else 1) 1 ≤ 1 := by
    show 0 + (if hI h 271 (32 * 0 + 0) = nI 0 then 0 else 1) ≤ 1
    split <;> omega
  have e' : yn h 0 32 = xsum (fun y => if hI h 271 (32 * 0 + y) = nI 0 then 0 else 1) (1 + 31) := rfl
  omega
theorem m201_51 {d : Nat} (x1 x2 x3 x4 x5 : Int32) (v7 v8 : Value) : ∀ (n k : Nat) (h : PH), k + n = 352 → (∀ j, j < k → hI h 271 j = nI 0) → ∃ h', runL (g2 L) d 11 false (some .int) kc_201 51 [.ref 253, .int x1, .int x2, .int x3, .int x4, .int x5, .int (nI k), v7, v8] [] h = runL (g2 L) d 11 false (some .int) kc_201 76 [.ref 253, .int x1, .int x2, .int x3, .int x4, .int x5, .int (nI 0), v7, v8] [] h' ∧ (∀ j, j < 352 → hI h' 271 j = nI 0) ∧ ∀ x, x ≠ 271 → hI h' x = hI h x := by
  intro n
  induction n with
  | zero =>
    intro k h hk hj
    have e : k = 352 := by omega
    subst e
    refine ⟨h, ?_, hj, fun _ _ => rfl⟩
    rw [e201_51, if_pos (by rw [nI_leN (by omega) (by omega)]; omega)]
  | succ n ih =>
    intro k h hk hj
    have s0 := e201_51 L d x1 x2 x3 x4 x5 (nI k) v7 v8 h
    rw [if_neg (by rw [nI_leN (by omega) (by omega)]; omega), inB_nI (by omega), asr_d (by omega), ix_nI (by omega), nI_plus] at s0
    obtain ⟨h', e1, e2, e3⟩ := ih (k + 1) (wI h 271 k (nI 0)) (by omega) (fun j hj2 => by
      rw [hI_wI]
      by_cases q : j = k
      · rw [if_pos ⟨rfl, q⟩]
      · rw [if_neg (fun z => q z.2)]
        exact hj j (by omega))
    exact ⟨h', s0.trans e1, e2, fun x hx => by rw [e3 x hx, wI_ne hx]⟩
theorem m201_76 {d D : Nat} (hV : XV A) (hD : D < A 10) (x1 x2 x3 x4 : Int32) (v7 v8 : Value) : ∀ (n mk : Nat) (h : PH), mk + n = 2 ^ A 8 → RM h 254 A → yZ h A D mk → ∃ h', runL (g2 L) (d + 3) 11 false (some .int) kc_201 76 [.ref 253, .int x1, .int x2, .int x3, .int x4, .int (nI D), .int (nI mk), v7, v8] [] h = runL (g2 L) (d + 3) 11 false (some .int) kc_201 124 [.ref 253, .int x1, .int x2, .int x3, .int x4, .int (nI D), .int (nI 0), v7, v8] [] h' ∧ yZ h' A D (2 ^ A 8) ∧ (∀ x, x ≠ 253 → x ≠ 271 → hI h' x = hI h x) ∧ ∀ k, (k < 11 ∨ 16 < k) → hI h' 253 k = hI h 253 k := by
  obtain ⟨v7', v8', v9, v10, v11, vB, vL, vR, vS⟩ := id hV
  have p10 : 2 ^ A 8 ≤ 2 ^ 10 := Nat.pow_le_pow_right (by omega) v8'
  intro n
  induction n with
  | zero =>
    intro mk h hm hM hz
    have e : mk = 2 ^ A 8 := by omega
    subst e
    have w8 := hM.at (k := 8) (by omega) (by omega)
    refine ⟨h, ?_, hz, fun _ _ _ => rfl, fun _ _ => rfl⟩
    rw [e201_76, w8, nI_shl 1 (by omega), Nat.one_shiftLeft, if_pos (by rw [nI_leN (by omega) (by omega)]; omega)]
  | succ n ih =>
    intro mk h hm hM hz
    have w8 := hM.at (k := 8) (by omega) (by omega)
    have s0 := e201_76 L (d + 3) x1 x2 x3 x4 (nI D) (nI mk) v7 v8 h
    rw [w8, nI_shl 1 (by omega), Nat.one_shiftLeft, if_neg (by rw [nI_leN (by omega) (by omega)]; omega), nI_times, nI_plus, nI_plus, inB_nI (by omega), asr_d (by omega), ix_nI (by omega)] at s0
    by_cases q : hI h 270 (1024 * D + mk) = nI 0
    · rw [if_pos q] at s0
      obtain ⟨h', i1, i2⟩ := ih (mk + 1) h (by omega) hM (fun p y hp hy => (hz p y hp hy).trans ⟨fun ⟨m, a, b⟩ => ⟨m, by omega, b⟩, fun ⟨m, a, b, c⟩ => by
        by_cases e : m = mk
        · subst e
          exact absurd q b
        · exact ⟨m, by omega, b, c⟩⟩)
      exact ⟨h', s0.trans i1, i2⟩
    · obtain ⟨h1, a1, a2, a3, a4⟩ := m202 (L := L) d (mk := mk) hV hD (by omega) hM
      rw [if_neg q, a1, cV_s] at s0
      obtain ⟨h', i1, i2, i3, i4⟩ := ih (mk + 1) h1 (by omega) (hM.congr (a3 254 (by omega) (by omega))) (fun p y hp hy => by
        rw [a2 p y hp hy, a3 270 (by omega) (by omega)]
        by_cases e : y = xsh A D (2 ^ A 8 - 1 - mk) p
        · rw [if_pos e]
          exact ⟨fun _ => ⟨mk, by omega, q, e.symm⟩, fun _ => by decide⟩
        · rw [if_neg e, hz p y hp hy]
          constructor
          · rintro ⟨m, b1, b2, b3⟩
            exact ⟨m, by omega, b2, b3⟩
          · rintro ⟨m, b1, b2, b3⟩
            by_cases f : m = mk
            · subst f
              exact absurd b3.symm e
            · exact ⟨m, by omega, b2, b3⟩)
      exact ⟨h', s0.trans i1, i2, fun x p1 p2 => by rw [i3 x p1 p2, a3 x p1 p2], fun k hk => by rw [i4 k hk, a4 k hk]⟩
theorem m201_142 {d i : Nat} {h : PH} (hi : i ≤ 10) (x1 x2 x3 x4 x5 : Int32) : ∀ (n k : Nat), k + n = 32 → runL (g2 L) d 11 false (some .int) kc_201 142 [.ref 253, .int x1, .int x2, .int x3, .int x4, .int x5, .int (nI i), .int (nI (yn h i k)), .int (nI k)] [] h = if nI (yn h i 32) ≤ x4 then runL (g2 L) d 11 false (some .int) kc_201 124 [.ref 253, .int x1, .int x2, .int x3, .int x4, .int x5, .int (nI (i + 1)), .int (nI (yn h i 32)), .int (nI 32)] [] h else runL (g2 L) d 11 false (some .int) kc_201 124 [.ref 253, .int x1, .int x2, .int (nI 11 * x5 + nI i), .int (nI (yn h i 32)), .int x5, .int (nI (i + 1)), .int (nI (yn h i 32)), .int (nI 32)] [] h := by
  intro n
  induction n with
  | zero =>
    intro k hk
    have e : k = 32 := by omega
    subst e
    rw [e201_142, if_pos (by rw [nI_leN (by omega) (by omega)]; omega), nI_plus]
  | succ n ih =>
    intro k hk
    have un : yn h i (k + 1) = yn h i k + (if hI h 271 (32 * i + k) = nI 0 then 0 else 1) := rfl
    rw [e201_142, if_neg (by rw [nI_leN (by omega) (by omega)]; omega), nI_times, nI_plus, nI_plus, nI_plus, nI_plus, inB_nI (by omega), asr_d (by omega), ix_nI (by omega)]
    have := ih (k + 1) (by omega)
    rw [un] at this
    by_cases q : hI h 271 (32 * i + k) = nI 0
    · rw [if_pos q] at this ⊢
      exact this
    · rw [if_neg q] at this ⊢
      exact this
theorem m201_124 {d D : Nat} {h : PH} {s : Nat × Nat} (hV : XV A) (hD : D < A 10) (hM : RM h 254 A) (hs : 1 ≤ s.1 ∧ s.1 ≤ 32) (h0 : yn h 0 32 ≤ 1) (x1 x2 : Int32) : ∀ (n p : Nat) (v7 v8 : Value), p + n = A 8 + 1 → ∃ w6 w7 w8, runL (g2 L) d 11 false (some .int) kc_201 124 [.ref 253, .int x1, .int x2, .int (cO (xsp (fun p => if p = 0 then 0 else yn h p 32) D p s).2), .int (nI (xsp (fun p => if p = 0 then 0 else yn h p 32) D p s).1), .int (nI D), .int (nI p), v7, v8] [] h = runL (g2 L) d 11 false (some .int) kc_201 36 [.ref 253, .int x1, .int x2, .int (cO (xsp (fun p => if p = 0 then 0 else yn h p 32) D (A 8 + 1) s).2), .int (nI (xsp (fun p => if p = 0 then 0 else yn h p 32) D (A 8 + 1) s).1), .int (nI (D + 1)), w6, w7, w8] [] h := by
  obtain ⟨v7', v8', v9, v10, v11, vB, vL, vR, vS⟩ := id hV
  have w8 := hM.at (k := 8) (by omega) (by omega)
  have cl : ∀ p, (if p = 0 then 0 else yn h p 32) ≤ 32 := by
    intro p
    have := yn_le h p 32
    split <;> omega
  intro n
  induction n with
  | zero =>
    intro p v7 v8 hp
    have e : p = A 8 + 1 := by omega
    subst e
    refine ⟨.int (nI (A 8 + 1)), v7, v8, ?_⟩
    rw [e201_124, w8, if_pos (by rw [nI_ltN (by omega) (by omega)]; omega), nI_plus]
  | succ n ih =>
    intro p v7 v8 hp
    obtain ⟨b1, b2⟩ := xsp_in (c := fun p => if p = 0 then 0 else yn h p 32) (D := D) hs p (fun i _ => cl i)
    have yl := yn_le h p 32
    have s0 := e201_124 L d x1 x2 (cO (xsp (fun p => if p = 0 then 0 else yn h p 32) D p s).2) (nI (xsp (fun p => if p = 0 then 0 else yn h p 32) D p s).1) (nI D) (nI p) v7 v8 h
    have s1 := m201_142 (L := L) (d := d) (i := p) (h := h) (by omega) x1 x2 (cO (xsp (fun p => if p = 0 then 0 else yn h p 32) D p s).2) (nI (xsp (fun p => if p = 0 then 0 else yn h p 32) D p s).1) (nI D) 32 0 (by omega)
    have y0 : yn h p 0 = 0 := rfl
    rw [y0] at s1
    rw [w8, if_neg (by rw [nI_ltN (by omega) (by omega)]; omega), s1] at s0
    have us : xsp (fun p => if p = 0 then 0 else yn h p 32) D (p + 1) s = if (xsp (fun p => if p = 0 then 0 else yn h p 32) D p s).1 < (if p = 0 then 0 else yn h p 32) then ((if p = 0 then 0 else yn h p 32), 11 * D + p + 1) else xsp (fun p => if p = 0 then 0 else yn h p 32) D p s := rfl
    by_cases q : yn h p 32 ≤ (xsp (fun p => if p = 0 then 0 else yn h p 32) D p s).1
    · rw [if_pos (by rw [nI_leN (by omega) (by omega)]; exact q)] at s0
      rw [if_neg (by split <;> omega)] at us
      obtain ⟨w6, w7, w8', i1⟩ := ih (p + 1) (.int (nI (yn h p 32))) (.int (nI 32)) (by omega)
      rw [us] at i1
      exact ⟨w6, w7, w8', s0.trans i1⟩
    · have p0 : p ≠ 0 := by
        intro e
        subst e
        omega
      rw [if_neg (by rw [nI_leN (by omega) (by omega)]; exact q), nI_times, nI_plus] at s0
      rw [if_neg p0, if_pos (by omega)] at us
      obtain ⟨w6, w7, w8', i1⟩ := ih (p + 1) (.int (nI (yn h p 32))) (.int (nI 32)) (by omega)
      rw [us, cO_s] at i1
      exact ⟨w6, w7, w8', s0.trans i1⟩
theorem m201_36 {d r v : Nat} (hV : XV A) (x1 x2 : Int32) : ∀ (n D : Nat) (cn : Nat → Nat → Nat) (h : PH) (v6 v7 v8 : Value), D + n = A 10 → RM h 254 A → yse h A r v → xCN A r v cn D → (1 ≤ (xsd cn (A 8) D).1 ∧ (xsd cn (A 8) D).1 ≤ 32) → ∃ h' cn' w6 w7 w8, runL (g2 L) (d + 3) 11 false (some .int) kc_201 36 [.ref 253, .int x1, .int x2, .int (cO (xsd cn (A 8) D).2), .int (nI (xsd cn (A 8) D).1), .int (nI D), v6, v7, v8] [] h = runL (g2 L) (d + 3) 11 false (some .int) kc_201 36 [.ref 253, .int x1, .int x2, .int (cO (xsd cn' (A 8) (A 10)).2), .int (nI (xsd cn' (A 8) (A 10)).1), .int (nI (A 10)), w6, w7, w8] [] h' ∧ xCN A r v cn' (A 10) ∧ RM h' 254 A ∧ YF h h' := by
  obtain ⟨v7', v8', v9, v10, v11, vB, vL, vR, vS⟩ := id hV
  intro n
  induction n with
  | zero =>
    intro D cn h v6 v7 v8 hD hM hs hN hl
    have e : D = A 10 := by omega
    subst e
    exact ⟨h, cn, v6, v7, v8, rfl, hN, hM, YF.rf⟩
  | succ n ih =>
    intro D cn h v6 v7 v8 hD hM hs hN hl
    have w10 := hM.at (k := 10) (by omega) (by omega)
    have s0 := e201_36 L (d + 3) x1 x2 (cO (xsd cn (A 8) D).2) (nI (xsd cn (A 8) D).1) (nI D) v6 v7 v8 h
    rw [w10, if_neg (by rw [nI_leN (by omega) (by omega)]; omega)] at s0
    obtain ⟨h1, a1, a2, a3⟩ := m201_51 (L := L) (d := d + 3) x1 x2 (cO (xsd cn (A 8) D).2) (nI (xsd cn (A 8) D).1) (nI D) v7 v8 352 0 h (by omega) (fun j hj => absurd hj (Nat.not_lt_zero _))
    have M1 : RM h1 254 A := hM.congr (a3 254 (by omega))
    obtain ⟨h2, b1, b2, b3, b4⟩ := m201_76 (L := L) (d := d) (D := D) hV (by omega) x1 x2 (cO (xsd cn (A 8) D).2) (nI (xsd cn (A 8) D).1) v7 v8 (2 ^ A 8) 0 h1 (by omega) M1 (fun p y hp hy => ⟨fun z => absurd (a2 _ (by omega)) z, fun ⟨_, z, _⟩ => absurd z (Nat.not_lt_zero _)⟩)
    have M2 : RM h2 254 A := M1.congr (b3 254 (by omega) (by omega))
    have S2 : yse h2 A r v := fun D' hD' mk hmk => by
      rw [b3 270 (by omega) (by omega), a3 270 (by omega)]
      exact hs D' hD' mk hmk
    have z0 := yn_0 b2
    obtain ⟨w6, w7, w8, c1⟩ := m201_124 (L := L) (d := d + 3) (D := D) (h := h2) (s := xsd cn (A 8) D) hV (by omega) M2 hl z0 x1 x2 (A 8 + 1) 0 v7 v8 (by omega)
    have old : xsd (fun i => if i = D then (fun p => if p = 0 then 0 else yn h2 p 32) else cn i) (A 8) D = xsd cn (A 8) D := xsd_congr D (fun i hi p hp => by rw [if_neg (by omega)])
    have new : xsd (fun i => if i = D then (fun p => if p = 0 then 0 else yn h2 p 32) else cn i) (A 8) (D + 1) = xsp (fun p => if p = 0 then 0 else yn h2 p 32) D (A 8 + 1) (xsd cn (A 8) D) := by
      show xsp (if D = D then _ else _) D (A 8 + 1) (xsd _ (A 8) D) = _
      rw [old, if_pos rfl]
    have hl2 := xsp_in (c := fun p => if p = 0 then 0 else yn h2 p 32) (D := D) hl (A 8 + 1) (fun i _ => by
      have := yn_le h2 i 32
      show (if i = 0 then 0 else yn h2 i 32) ≤ 32
      split <;> omega)
    rw [← new] at c1 hl2
    obtain ⟨h', cn', w6', w7', w8', i1, i2, i3, i4⟩ := ih (D + 1) (fun i => if i = D then (fun p => if p = 0 then 0 else yn h2 p 32) else cn i) h2 w6 w7 w8 (by omega) M2 S2 (fun i hi => by
      by_cases q : i = D
      · subst q
        refine ⟨?_, fun p p1 p2 => ?_⟩
        · show (if i = i then (fun p => if p = 0 then 0 else yn h2 p 32) else cn i) 0 = 0
          rw [if_pos rfl]
          rfl
        · show CNT A r v i p ((if i = i then (fun p => if p = 0 then 0 else yn h2 p 32) else cn i) p)
          rw [if_pos rfl]
          show CNT A r v i p (if p = 0 then 0 else yn h2 p 32)
          rw [if_neg (by omega)]
          exact yn_cnt hV (by omega) S2 b2 p2
      · show (if i = D then _ else cn i) 0 = 0 ∧ ∀ p, 1 ≤ p → p ≤ A 8 → CNT A r v i p ((if i = D then _ else cn i) p)
        rw [if_neg q]
        exact hN i (by omega)) hl2
    exact ⟨h', cn', w6', w7', w8', s0.trans (a1.trans (b1.trans (c1.trans i1))), i2, i3, YF.tr ⟨fun x p1 p2 => by rw [b3 x p1 (by omega), a3 x (by omega)], fun k hk => by rw [b4 k (Or.inl hk), a3 253 (by omega)]⟩ i4⟩
end Yv
