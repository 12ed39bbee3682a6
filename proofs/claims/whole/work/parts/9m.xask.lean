-- PART: explaining, the question that parts most (class).
def xac (t l s M : Nat) : Nat → Nat
  | 0 => 0
  | p + 1 => if M / 2 ^ p % 2 = 1 then xac t l s M p else if xI t l s (xac t l s M p) (p + 1) = true then xac t l s M p else xac t l s M p + 1
theorem xac_le (t l s M : Nat) : ∀ p, xac t l s M p ≤ p
  | 0 => Nat.le_refl _
  | p + 1 => by
    have := xac_le t l s M p
    unfold xac
    split
    · omega
    · split <;> omega
/-- how far the hands have gone behind the pulse p, if the pulses of M do not come -/
def xsh (A : Nat → Nat) (D M p : Nat) : Nat := xF A D (xac (A (170 + 8 * D + 1)) (A (170 + 8 * D + 3)) (A 9) M p)
theorem xsh_le (A : Nat → Nat) (D M : Nat) {p : Nat} (hp : p ≤ 10) : xsh A D M p ≤ 20 := by
  have h1 := xac_le (A (170 + 8 * D + 1)) (A (170 + 8 * D + 3)) (A 9) M p
  have h2 := xF_le A D (xac (A (170 + 8 * D + 1)) (A (170 + 8 * D + 3)) (A 9) M p)
  unfold xsh
  omega
def xQ (A : Nat → Nat) (r v D p y : Nat) : Prop := ∃ p' q', xSet A p' q' ∧ xcost A r p' q' = v ∧ xsh A D (xNm A p' (A (170 + 8 * D)) ||| xNm A q' (A (170 + 8 * D))) p = y
def CNT (A : Nat → Nat) (r v D p n : Nat) : Prop := ∃ w, n = pcn w ∧ ∀ y, y < 32 → (w / 2 ^ y % 2 = 1 ↔ xQ A r v D p y)
theorem CNT.one {A : Nat → Nat} {r v D p n m : Nat} (h1 : CNT A r v D p n) (h2 : CNT A r v D p m) : n = m := by
  obtain ⟨w, rfl, a⟩ := h1
  obtain ⟨w', rfl, b⟩ := h2
  refine xsum_congr _ (fun y hy => ?_)
  have := (a y hy).trans (b y hy).symm
  show w / 2 ^ y % 2 = w' / 2 ^ y % 2
  omega
def xsp (c : Nat → Nat) (D : Nat) : Nat → Nat × Nat → Nat × Nat
  | 0, s => s
  | k + 1, s => if (xsp c D k s).1 < c k then (c k, 11 * D + k + 1) else xsp c D k s
def xsd (cn : Nat → Nat → Nat) (W : Nat) : Nat → Nat × Nat
  | 0 => (1, 0)
  | D + 1 => xsp (cn D) D (W + 1) (xsd cn W D)
theorem xsp_congr {c c' : Nat → Nat} {D : Nat} {s : Nat × Nat} : ∀ k, (∀ i, i < k → c i = c' i) → xsp c D k s = xsp c' D k s
  | 0, _ => rfl
  | k + 1, h => by
    unfold xsp
    rw [xsp_congr k (fun i hi => h i (by omega)), h k (by omega)]
theorem xsd_congr {cn cn' : Nat → Nat → Nat} {W : Nat} : ∀ D, (∀ i, i < D → ∀ p, p ≤ W → cn i p = cn' i p) → xsd cn W D = xsd cn' W D
  | 0, _ => rfl
  | D + 1, h => by
    unfold xsd
    rw [xsd_congr D (fun i hi => h i (by omega)), xsp_congr (W + 1) (fun p hp => h D (by omega) p (by omega))]
/-- the counts of D dials -/
def xCN (A : Nat → Nat) (r v : Nat) (cn : Nat → Nat → Nat) (D : Nat) : Prop := ∀ i, i < D → cn i 0 = 0 ∧ ∀ p, 1 ≤ p → p ≤ A 8 → CNT A r v i p (cn i p)
theorem xCN.one {A : Nat → Nat} {r v D : Nat} {cn cn' : Nat → Nat → Nat} (h1 : xCN A r v cn D) (h2 : xCN A r v cn' D) : xsd cn (A 8) D = xsd cn' (A 8) D := by
  refine xsd_congr D (fun i hi p hp => ?_)
  by_cases q : p = 0
  · rw [q, (h1 i hi).1, (h2 i hi).1]
  · exact ((h1 i hi).2 p (by omega) hp).one ((h2 i hi).2 p (by omega) hp)
def xR3 (h : PH) (r : Nat) (s : Nat × Nat) : Prop := (s.2 = 0 ∧ hI h (97 + r) 1 = m1 ∧ hI h (97 + r) 2 = m1 ∧ hI h (97 + r) 3 = m1) ∨ (s.2 ≠ 0 ∧ hI h (97 + r) 1 = nI ((s.2 - 1) / 11) ∧ hI h (97 + r) 2 = nI ((s.2 - 1) % 11) ∧ hI h (97 + r) 3 = nI s.1)
theorem pow_bit21 : ∀ a, a < 21 → ∀ y, y < 32 → ((2 ^ a) / 2 ^ y % 2 = 1 ↔ a = y) := by decide +kernel
section Xm
variable {L : Nat} {A : Nat → Nat}
theorem m71_5 {d b : Nat} (hb : b < 8) : ∀ (n i : Nat) (h : PH), i + n = 1024 → ∃ h', runL (g2 L) d 16 false none kc_71 5 [.ref (138 + b), .int (nI 0), .int (nI i), .int (nI 1024)] [] h = some (none, h') ∧ (∀ M, M < 1024 → hI h' (138 + b) M = if i ≤ M then nI 0 else hI h (138 + b) M) ∧ (∀ x, x ≠ 138 + b → hI h' x = hI h x) ∧ hR h' = hR h := by
  have k8 := kk8 hb
  intro n
  induction n with
  | zero =>
    intro i h hi
    refine ⟨h, ?_, fun M hM => by rw [if_neg (by omega)], fun _ _ => rfl, rfl⟩
    rw [e71_5, if_pos (by rw [nI_leN (by omega) (by omega)]; omega)]
  | succ n ih =>
    intro i h hi
    obtain ⟨h', e1, e2, e3, e4⟩ := ih (i + 1) (wI h (138 + b) i (nI 0)) (by omega)
    refine ⟨h', ?_, fun M hM => ?_, fun x hx => by rw [e3 x hx, wI_ne hx], e4⟩
    · have nb0 : nrB (nI 0) = nI 0 := by decide
      rw [e71_5, if_neg (by rw [nI_leN (by omega) (by omega)]; omega), okW_no (k' := 2) k8.2.2.1 (by omega), okW_of k8.2.2.1 (by omega) (by omega), lenA_of (by omega), k8.2.2.2, inB_nI (by omega), ix_nI (by omega), nb0, nI_plus]
      exact (asr_d (P := i < 1024) (by omega) _).trans e1
    · rw [e2 M hM, hI_wI]
      by_cases y : i + 1 ≤ M
      · rw [if_pos y, if_pos (by omega)]
      · rw [if_neg y]
        by_cases z : M = i
        · rw [if_pos ⟨rfl, z⟩, if_pos (by omega)]
        · rw [if_neg (fun w => z w.2), if_neg (by omega)]
theorem alv {h : PH} {a : Nat} (ha : a < 289) : alive (g2 L) h a = true := by
  unfold alive
  rw [show Nat.blt a (g2 L).1 = true from Nat.ble_eq_true_of_le ha]
  rfl
theorem m71 (d : Nat) {b : Nat} {h : PH} (hb : b < 8) : ∃ h', exec (g2 L) (d + 1) 71 [.ref (138 + b), .int (nI 0)] h = some (none, h') ∧ (∀ M, M < 1024 → hI h' (138 + b) M = nI 0) ∧ (∀ x, x ≠ 138 + b → hI h' x = hI h x) ∧ hR h' = hR h := by
  have k8 := kk8 hb
  obtain ⟨h', e1, e2, e3⟩ := m71_5 (L := L) (d := d) hb 1024 0 h (by omega)
  refine ⟨h', ?_, fun M hM => by rw [e2 M hM, if_pos (Nat.zero_le _)], e3⟩
  rw [x71, k8.2.2.1, alv (by omega), lenA_of (by omega), k8.2.2.2]
  exact e1
theorem m73_63 {d D M t l s : Nat} {a2 : Nat} {x3 : Int32} (hD : D < 16) (ht : t ≤ 1) (hl : l ≤ 1) (hs : s ≤ 1) {W : Nat} (hW : W ≤ 10) (hM : M < 1024) {bs : Nat → Nat} (hbs : ∀ j, j ≤ 10 → bs j ≤ 20) : ∀ (n p : Nat) (h : PH) (v7 : Value), p + n = W → (∀ j, j ≤ 10 → hI h 159 j = nI (bs j)) → hI h (17 + D) 1 = nI t → hI h (17 + D) 3 = nI l → hI h 8 1 = nI s → hI h 8 0 = nI W → ∃ h' w5 w6 w7, runL (g2 L) (d + 2) 5 false none kc_73 63 [.ref 95, .ref (17 + D), .ref a2, .int x3, .int (nI M), .int (nI (xac t l s M p)), .int (nI (p + 1)), v7] [] h = runL (g2 L) (d + 2) 5 false none kc_73 41 [.ref 95, .ref (17 + D), .ref a2, .int x3, .int (nI (M + 1)), w5, w6, w7] [] h' ∧ (∀ p', hI h' 160 p' = if p < p' ∧ p' ≤ W then hI h 160 p' ||| nI (2 ^ bs (xac t l s M p')) else hI h 160 p') ∧ (∀ x, x ≠ 160 → hI h' x = hI h x) ∧ hR h' = hR h := by
  intro n
  induction n with
  | zero =>
    intro p h v7 hp h159 f1 f3 f8 f80
    refine ⟨h, .int (nI (xac t l s M p)), .int (nI (p + 1)), v7, ?_, fun p' => by rw [if_neg (by omega)], fun _ _ => rfl, rfl⟩
    rw [e73_63, f80, if_pos (by rw [nI_ltN (by omega) (by omega)]; omega), nI_plus]
  | succ n ih =>
    intro p h v7 hp h159 f1 f3 f8 f80
    have al := xac_le t l s M (p + 1)
    have bl := hbs (xac t l s M (p + 1)) (by omega)
    have s0 := e73_63 L (d + 2) (17 + D) a2 x3 (nI M) (nI (xac t l s M p)) (nI (p + 1)) v7 h
    rw [f80, if_neg (by rw [nI_ltN (by omega) (by omega)]; omega), nI_m1_plus, bit_of (by omega) (by omega)] at s0
    have mid : ∃ w7, runL (g2 L) (d + 2) 5 false none kc_73 63 [.ref 95, .ref (17 + D), .ref a2, .int x3, .int (nI M), .int (nI (xac t l s M p)), .int (nI (p + 1)), v7] [] h = runL (g2 L) (d + 2) 5 false none kc_73 114 [.ref 95, .ref (17 + D), .ref a2, .int x3, .int (nI M), .int (nI (xac t l s M (p + 1))), .int (nI (p + 1)), .int w7] [] h := by
      have e : xac t l s M (p + 1) = if M / 2 ^ p % 2 = 1 then xac t l s M p else if xI t l s (xac t l s M p) (p + 1) = true then xac t l s M p else xac t l s M p + 1 := rfl
      by_cases z : M / 2 ^ p % 2 = 1
      · rw [if_pos (by rw [z]; decide)] at s0
        refine ⟨nI 0, s0.trans ?_⟩
        rw [e, if_pos z]
      · have z0 : M / 2 ^ p % 2 = 0 := by omega
        rw [if_neg (by rw [z0]; exact fun y => y rfl), m62 (L := L) d hD f1 ht f3 hl f8 hs, cI_s] at s0
        by_cases y : xI t l s (xac t l s M p) (p + 1) = true
        · rw [if_pos (bI_nz.mpr y)] at s0
          refine ⟨nI 1, s0.trans ?_⟩
          rw [e, if_neg z, if_pos y]
        · rw [if_neg (fun w => y (bI_nz.mp w)), nI_plus] at s0
          refine ⟨nI 1, s0.trans ?_⟩
          rw [e, if_neg z, if_neg y]
    obtain ⟨w7, s1⟩ := mid
    have s2 := e73_114 L (d + 2) (17 + D) a2 x3 (nI M) (nI (xac t l s M (p + 1))) (nI (p + 1)) w7 h
    rw [inB_nI (by omega), asr_d (by omega), inB_nI (by omega), asr_d (by omega), asr_d (by omega), ix_nI (by omega), ix_nI (by omega), h159 _ (by omega), nI_shl 1 (by omega), Nat.one_shiftLeft, nI_plus] at s2
    obtain ⟨h', w5, w6, w7', e1, e2, e3, e4⟩ := ih (p + 1) (wI h 160 (p + 1) (hI h 160 (p + 1) ||| nI (2 ^ bs (xac t l s M (p + 1))))) (.int w7) (by omega) (fun j hj => by rw [wI_ne (by omega)]; exact h159 j hj) (by rw [wI_ne (by omega)]; exact f1) (by rw [wI_ne (by omega)]; exact f3) (by rw [wI_ne (by omega)]; exact f8) (by rw [wI_ne (by omega)]; exact f80)
    refine ⟨h', w5, w6, w7', s1.trans (s2.trans e1), fun p' => ?_, fun x hx => by rw [e3 x hx, wI_ne hx], e4⟩
    rw [e2 p', hI_wI]
    by_cases q : p' = p + 1
    · rw [if_neg (by omega), if_pos ⟨rfl, q⟩, if_pos (by omega), q]
    · rw [if_neg (c := 160 = 160 ∧ p' = p + 1) (fun z => q z.2)]
      by_cases z : p < p' ∧ p' ≤ W
      · rw [if_pos z, if_pos (by omega)]
      · rw [if_neg z, if_neg (by omega)]
/-- what is shown behind each pulse -/
def xSw (h : PH) (W : Nat) (Z : Nat → Nat → Prop) : Prop := ∀ p, 1 ≤ p → p ≤ W → ∃ w, w < 2097152 ∧ hI h 160 p = nI w ∧ ∀ y, y < 32 → (w / 2 ^ y % 2 = 1 ↔ Z p y)
theorem m73_41 {d D t l s b : Nat} (hD : D < 16) (hb : b < 8) (ht : t ≤ 1) (hl : l ≤ 1) (hs : s ≤ 1) {W : Nat} (hW : W ≤ 10) {bs : Nat → Nat} (hbs : ∀ j, j ≤ 10 → bs j ≤ 20) {S : Nat → Int32} : ∀ (n M : Nat) (h : PH) (v5 v6 v7 : Value), M + n = 2 ^ W → (∀ j, j ≤ 10 → hI h 159 j = nI (bs j)) → hI h (17 + D) 1 = nI t → hI h (17 + D) 3 = nI l → hI h 8 1 = nI s → hI h 8 0 = nI W → hI h (138 + b) = S → hI h 160 0 = nI 0 → xSw h W (fun p y => ∃ M', M' < M ∧ S M' ≠ nI 0 ∧ bs (xac t l s M' p) = y) → ∃ h', runL (g2 L) (d + 2) 5 false none kc_73 41 [.ref 95, .ref (17 + D), .ref (138 + b), .int (nI (2 ^ W)), .int (nI M), v5, v6, v7] [] h = some (none, h') ∧ xSw h' W (fun p y => ∃ M', M' < 2 ^ W ∧ S M' ≠ nI 0 ∧ bs (xac t l s M' p) = y) ∧ hI h' 160 0 = nI 0 ∧ (∀ x, x ≠ 160 → hI h' x = hI h x) ∧ hR h' = hR h := by
  have k8 := kk8 hb
  have lW : 2 ^ W ≤ 1024 := show 2 ^ W ≤ 2 ^ 10 from Nat.pow_le_pow_right (show 0 < 2 by decide) hW
  intro n
  induction n with
  | zero =>
    intro M h v5 v6 v7 hM h159 f1 f3 f8 f80 hS h0 hw
    have e : M = 2 ^ W := by omega
    subst e
    refine ⟨h, ?_, hw, h0, fun _ _ => rfl, rfl⟩
    rw [e73_41, if_pos (by rw [nI_leN (by omega) (by omega)]; omega)]
  | succ n ih =>
    intro M h v5 v6 v7 hM h159 f1 f3 f8 f80 hS h0 hw
    have s0 := e73_41 L (d + 2) (17 + D) (138 + b) (nI (2 ^ W)) (nI M) v5 v6 v7 h
    rw [if_neg (by rw [nI_leN (by omega) (by omega)]; omega), okA_of (k := 3) k8.2.2.1 (by omega), Bool.or_true, asr_true, lenA_of (by omega), k8.2.2.2, inB_nI (by omega), asr_d (by omega), ix_nI (by omega), hS] at s0
    by_cases q : S M ≠ nI 0
    · rw [if_pos q] at s0
      obtain ⟨h1, w5, w6, w7, a1, a2, a3, a4⟩ := m73_63 (L := L) (d := d) (a2 := 138 + b) (x3 := nI (2 ^ W)) (M := M) hD ht hl hs hW (by omega) hbs W 0 h v7 (by omega) h159 f1 f3 f8 f80
      obtain ⟨h', e1, e2, e3, e4, e5⟩ := ih (M + 1) h1 w5 w6 w7 (by omega) (fun j hj => by rw [a3 _ (by omega)]; exact h159 j hj) (by rw [a3 _ (by omega)]; exact f1) (by rw [a3 _ (by omega)]; exact f3) (by rw [a3 _ (by omega)]; exact f8) (by rw [a3 _ (by omega)]; exact f80) (by rw [a3 _ (by omega)]; exact hS) (by rw [a2 0, if_neg (by omega)]; exact h0) (fun p p1 p2 => by
        obtain ⟨w, w1, w2, w3⟩ := hw p p1 p2
        have al := xac_le t l s M p
        have bl := hbs (xac t l s M p) (by omega)
        have pl : 2 ^ bs (xac t l s M p) < 2 ^ 21 := Nat.pow_lt_pow_right (by decide) (by omega)
        refine ⟨w ||| 2 ^ bs (xac t l s M p), Nat.or_lt_two_pow (n := 21) w1 pl, by rw [a2 p, if_pos (by omega), w2, nI_or], fun y hy => ?_⟩
        rw [or_bit, w3 y hy, pow_bit21 _ (by omega) y hy]
        constructor
        · rintro (⟨M', z1, z2, z3⟩ | z)
          · exact ⟨M', by omega, z2, z3⟩
          · exact ⟨M, by omega, q, z⟩
        · rintro ⟨M', z1, z2, z3⟩
          by_cases e : M' = M
          · rw [e] at z3
            exact Or.inr z3
          · exact Or.inl ⟨M', by omega, z2, z3⟩)
      have s0' : runL (g2 L) (d + 2) 5 false none kc_73 41 [.ref 95, .ref (17 + D), .ref (138 + b), .int (nI (2 ^ W)), .int (nI M), v5, v6, v7] [] h = _ := s0.trans a1
      exact ⟨h', s0'.trans e1, e2, e3, fun x hx => by rw [e4 x hx, a3 x hx], e5.trans a4⟩
    · rw [if_neg q, nI_plus] at s0
      obtain ⟨h', e1, e2⟩ := ih (M + 1) h v5 v6 v7 (by omega) h159 f1 f3 f8 f80 hS h0 (fun p p1 p2 => by
        obtain ⟨w, w1, w2, w3⟩ := hw p p1 p2
        refine ⟨w, w1, w2, fun y hy => (w3 y hy).trans ⟨?_, ?_⟩⟩
        · rintro ⟨M', z1, z2, z3⟩
          exact ⟨M', by omega, z2, z3⟩
        · rintro ⟨M', z1, z2, z3⟩
          by_cases e : M' = M
          · rw [e] at z2
            exact absurd z2 q
          · exact ⟨M', by omega, z2, z3⟩)
      exact ⟨h', s0.trans e1, e2⟩
theorem m73 (d : Nat) {r v D : Nat} {h : PH} (hV : XV A) (hD : D < A 10) (hC : RC h 0 A) (hM : xMk h A r v (xSet A)) : ∃ h', exec (g2 L) (d + 4) 73 [.ref 95, .ref (17 + D)] h = some (none, h') ∧ xSw h' (A 8) (xQ A r v D) ∧ hI h' 160 0 = nI 0 ∧ (∀ x, x ≠ 159 → x ≠ 160 → hI h' x = hI h x) ∧ hR h' = hR h := by
  obtain ⟨v7, v8, v9, v10, v11, vB, vL, vR, vS⟩ := id hV
  obtain ⟨l0, l1, l2, l3, l4, l5, l6, l7⟩ := vL D hD
  have lW : 2 ^ A 8 ≤ 1024 := show 2 ^ A 8 ≤ 2 ^ 10 from Nat.pow_le_pow_right (show 0 < 2 by decide) v8
  have k8 := kk8 (i := A (170 + 8 * D)) (by omega)
  obtain ⟨h1, a1, a2, a3, a4⟩ := m55 (L := L) (d + 2) (a := 160) (n := 11) (h := h) (by decide) (by omega) (by omega) (by decide) (by omega) (nI 0)
  have C1 : RC h1 0 A := hC.congr (fun a p q => a3 a (by omega))
  obtain ⟨h2, c1, c2, c3, c4⟩ := m57 (L := L) d (h := h1) (D := D) (by omega) l5 l6 l4 C1
  have C2 : RC h2 0 A := C1.congr (fun a p q => c3 a (by omega))
  have w0 := C2.wl (d := D) (c := 0) (by omega) (by omega)
  have w1 := C2.wl (d := D) (c := 1) (by omega) (by omega)
  have w3 := C2.wl (d := D) (c := 3) (by omega) (by omega)
  have wn := C2.wn
  have ws := C2.ws
  rw [Nat.zero_add] at w0 w1 w3 wn ws
  have w0' : hI h2 (17 + D) 0 = nI (A (170 + 8 * D)) := w0
  obtain ⟨h3, e1, e2, e3, e4, e5⟩ := m73_41 (L := L) (d := d + 1) (D := D) (b := A (170 + 8 * D)) (S := hI h2 (138 + A (170 + 8 * D))) (bs := xF A D) (by omega) (by omega) l1 l3 v9 v8 (fun j hj => by have := xF_le A D j; omega) (2 ^ A 8) 0 h2 dm dm dm (by omega) c2 w1 w3 ws wn rfl (by rw [c3 160 (by omega)]; exact a2 0 (by omega)) (fun p p1 p2 => ⟨0, by omega, by rw [c3 160 (by omega)]; exact a2 p (by omega), fun y hy => by
    rw [Nat.zero_div]
    exact ⟨fun z => absurd z (by decide), fun ⟨M', z, _⟩ => absurd z (Nat.not_lt_zero _)⟩⟩)
  refine ⟨h3, ?_, fun p p1 p2 => ?_, e3, fun x x1 x2 => by rw [e4 x x2, c3 x x1, a3 x x2], e5.trans (c4.trans a4)⟩
  · rw [x73, a1, cV_s, c1, cV_s, okA_of (kk16 (i := D) (by omega)).2.1 (by omega), asr_true, w0', inB_nI (by omega), asr_d (by omega), ix_nI (by omega), k8.2.2.1, alv (by omega), lenA_of (by omega), k8.2.2.2, wn, nI_shl 1 (by omega), Nat.one_shiftLeft, if_neg (by rw [nI_ltN (by omega) (by omega)]; omega)]
    exact e1
  · obtain ⟨w, y1, y2, y3⟩ := e2 p p1 p2
    refine ⟨w, y1, y2, fun y hy => (y3 y hy).trans ⟨?_, ?_⟩⟩
    · rintro ⟨M, z1, z2, z3⟩
      rw [c3 _ (by omega), a3 _ (by omega)] at z2
      obtain ⟨p', q', u1, u2, u3⟩ := ((hM _ l0).2.2 M (by omega)).mp z2
      exact ⟨p', q', u1, u2, by rw [u3]; exact z3⟩
    · rintro ⟨p', q', u1, u2, u3⟩
      have nl : ∀ p, xval A p → xNm A p (A (170 + 8 * D)) < 2 ^ A 8 := by
        intro p hp
        unfold xNm
        by_cases z : p = 0
        · rw [if_pos z]
          exact Nat.pow_pos (by decide)
        · rw [if_neg z]
          split
          · exact (xk_lt v8 (hp.resolve_left z).2).1
          · exact Nat.pow_pos (by decide)
      have ml := or_lt2 (nl p' u1.1) (nl q' u1.2.1)
      refine ⟨_, ml, ?_, u3⟩
      rw [c3 _ (by omega), a3 _ (by omega)]
      exact ((hM _ l0).2.2 _ (by omega)).mpr ⟨p', q', u1, u2, rfl⟩
end Xm
