-- PART: explaining, what all dials take (class).
def xnr (A : Nat → Nat) (r D : Nat) : Bool := decide (∀ k, k < r → A (320 + 4 * k) ≠ D)
def xDD (A : Nat → Nat) (r D M : Nat) : Nat := if xnr A r D = true then 0 else xD (xI (A (170 + 8 * D + 1)) (A (170 + 8 * D + 3)) (A 9)) (xok A r D) (A 8) M
def xC (A : Nat → Nat) (r b M : Nat) : Nat := xsum (fun D => if xa A b (A (170 + 8 * D)) = true then xDD A r D M else 0) (A 10)
/-- the ranges of what is watched -/
def XV (A : Nat → Nat) : Prop := A 7 ≤ 30 ∧ A 8 ≤ 10 ∧ A 9 ≤ 1 ∧ A 10 ≤ 16 ∧ A 11 ≤ 8 ∧ (∀ b, b < A 11 → A (300 + b) ≤ b) ∧ VL A 170 (A 10) (A 11) 100000000 ∧ (∀ i, i < A 7 → A (320 + 4 * i) < A 10 ∧ A (320 + 4 * i + 1) ≤ A 8 ∧ A (320 + 4 * i + 2) < 720 ∧ A (320 + 4 * i + 3) ≤ 400) ∧ (∀ i, i + 1 < A 7 → A (320 + 4 * i + 3) ≤ A (320 + 4 * (i + 1) + 3))
def XFr (h h' : PH) : Prop := (∀ x, x ≠ 95 → ¬ (129 ≤ x ∧ x ≤ 136) → ¬ (147 ≤ x ∧ x ≤ 159) → hI h' x = hI h x) ∧ (∀ k, k ≠ 11 → k ≠ 12 → hI h' 95 k = hI h 95 k) ∧ hR h' = hR h
theorem XFr.rf {h : PH} : XFr h h := ⟨fun _ _ _ _ => rfl, fun _ _ _ => rfl, rfl⟩
theorem XFr.tr {a b c : PH} (h1 : XFr a b) (h2 : XFr b c) : XFr a c := ⟨fun x p q r => (h2.1 x p q r).trans (h1.1 x p q r), fun k p q => (h2.2.1 k p q).trans (h1.2.1 k p q), h2.2.2.trans h1.2.2⟩
theorem RC.xfr {h h' : PH} {A : Nat → Nat} (hC : RC h 0 A) (hF : XFr h h') : RC h' 0 A := hC.congr (fun a p q => hF.1 a (by omega) (by omega) (by omega))
theorem nI_y1 (y : Nat) : nI y + m1 = nI y - nI 1 := by
  cases y with
  | zero => decide
  | succ y => rw [nI_plus_m1, nI_m1_plus]
theorem rN_0 : rN 0 ≤ 2 := by decide
def xCs (h : PH) (n W : Nat) (g : Nat → Nat → Nat) : Prop := ∀ b, b < n → ∀ M, M < 2 ^ W → rN M ≤ 2 → hI h (129 + b) M = nI (g b M)
def gB (A : Nat → Nat) (r d b M : Nat) : Nat := xsum (fun D => if A (170 + 8 * D) = b then xDD A r D M else 0) d
def gk (A : Nat → Nat) (r k b M : Nat) : Nat := xsum (fun D => if (if b + k < A 11 then decide (xu A (A 11) k (A (170 + 8 * D)) = b + 1) else xa A b (A (170 + 8 * D))) = true then xDD A r D M else 0) (A 10)
def g0 (A : Nat → Nat) (r k : Nat) : Nat := xsum (fun D => if xu A (A 11) k (A (170 + 8 * D)) = 0 then xDD A r D 0 else 0) (A 10)
theorem xu_s (A : Nat → Nat) (n k x : Nat) : xu A n (k + 1) x = if xu A n k x = n - k then A (300 + (n - k - 1)) else xu A n k x := rfl
def xf0 (a j : Nat) : Nat := if a = 0 ∧ j = 0 then 0 else 1000
section Xg
variable {L : Nat} {A : Nat → Nat}
theorem one_dial {d r D : Nat} {h : PH} (hV : XV A) (hr : r ≤ A 7) (hD : D < A 10) (hC : RC h 0 A) : ∃ h' v, (cV (exec (g2 L) (d + 20) 56 [.ref 95, .int (nI D), .int (nI r)] h) fun h1 => cV (exec (g2 L) (d + 20) 57 [.ref 95, .ref (17 + ix (nI D))] h1) fun h2 => if (hI h2 95 11) < (nI 0) then runL (g2 L) (d + 20) 5 false none kc_54 26 [.ref 95, .int (nI r), .int (nI D + (nI 1)), .ref (17 + ix (nI D))] [] h2 else cV (exec (g2 L) (d + 20) 55 [.ref 147, .int (nI 1000)] h2) fun h3 => cI (exec (g2 L) (d + 20) 58 [.ref 95, .int (nI 0)] (wI h3 147 (0) (nI 0))) fun r5 h4 => cV (exec (g2 L) (d + 20) 59 [.ref 95, .ref (17 + ix (nI D)), .int (nI 0), .int (nI 0), .int r5] h4) fun h6 => runL (g2 L) (d + 20) 5 false none kc_54 26 [.ref 95, .int (nI r), .int (nI D + (nI 1)), .ref (17 + ix (nI D))] [] h6) = runL (g2 L) (d + 20) 5 false none kc_54 26 [.ref 95, .int (nI r), .int (nI (D + 1)), v] [] h' ∧ (∀ b, b < 8 → ∀ M, M < 2 ^ A 8 → rN M ≤ 2 → hI h' (129 + b) M = if A (170 + 8 * D) = b then hI h (129 + b) M + nI (xDD A r D M) else hI h (129 + b) M) ∧ XFr h h' := by
  obtain ⟨v7, v8, v9, v10, v11, vB, vL, vR, vS⟩ := hV
  obtain ⟨l0, l1, l2, l3, l4, l5, l6, l7⟩ := vL D hD
  have hD16 : D < 16 := by omega
  obtain ⟨h1, a1, a2, a3, a4, a5, a6⟩ := m56 (L := L) (d + 18) (h := h) (r := r) (D := D) hD16 (by omega) v8 l2 (fun i hi => by have := vR i (by omega); omega) hC
  have C1 : RC h1 0 A := hC.congr (fun a p q => a4 a (by omega) (by omega))
  obtain ⟨h2, b1', b2', b3', b4'⟩ := m57 (L := L) (d + 17) (h := h1) hD16 l5 l6 l4 C1
  have F2 : XFr h h2 := ⟨fun x p q z => by rw [b3' x (by omega), a4 x (by omega) p], fun k p q => by rw [b3' 95 (by omega), a5 k p], b4'.trans a6⟩
  have C2 : RC h2 0 A := hC.xfr F2
  have row2 : ∀ b, b < 8 → hI h2 (129 + b) = hI h (129 + b) := fun b hb => by rw [b3' _ (by omega), a4 _ (by omega) (by omega)]
  rw [a1, cV_s, ix_nI (by omega), b1', cV_s, b3' 95 (by omega), nI_plus]
  rcases a3 with ⟨n1, n2⟩ | ⟨ln, n1, n2, ⟨k0, n3, n3'⟩, n4⟩
  · refine ⟨h2, _, by rw [n1, if_pos (by decide)], fun b hb M hM hN => ?_, F2⟩
    have z : xDD A r D M = 0 := by
      unfold xDD xnr
      rw [if_pos (decide_eq_true n2)]
    rw [z, i32_add0, row2 b hb]
    split <;> rfl
  · have hx : ∀ M, xDD A r D M = xD (xI (A (170 + 8 * D + 1)) (A (170 + 8 * D + 3)) (A 9)) (xok A r D) (A 8) M := by
      intro M
      unfold xDD xnr
      rw [if_neg]
      intro z
      exact of_decide_eq_true z k0 n3 n3'
    obtain ⟨h3, c1, c2, c3, c4⟩ := m55 (L := L) (d + 19) (a := 147) (n := 121) (h := h2) (by decide) (by omega) (by omega) (by decide) (by omega) (nI 1000)
    have F3 : XFr h2 (wI h3 147 0 (nI 0)) := ⟨fun x p q z => by rw [wI_ne (by omega), c3 x (by omega)], fun k p q => by rw [wI_ne (by omega), c3 95 (by omega)], c4⟩
    have C3 : RC (wI h3 147 0 (nI 0)) 0 A := C2.xfr F3
    have X3 : XN (wI h3 147 0 (nI 0)) D (A 8) (A (170 + 8 * D + 1)) (A (170 + 8 * D + 3)) (A 9) (A (170 + 8 * D)) ln (xF A D) (xok A r D) := by
      have w0 := C3.wl (d := D) (c := 0) hD16 (by omega)
      have w1 := C3.wl (d := D) (c := 1) hD16 (by omega)
      have w3 := C3.wl (d := D) (c := 3) hD16 (by omega)
      have wn := C3.wn
      have ws := C3.ws
      rw [Nat.zero_add] at w0 w1 w3 wn ws
      refine ⟨w0, w1, w3, wn, ws, ?_, fun k hk => ?_, ?_⟩
      · rw [wI_ne (by omega), c3 95 (by omega), b3' 95 (by omega)]
        exact n1
      · rw [wI_ne (by omega), c3 159 (by omega)]
        exact b2' k hk
      · have e : hI (wI h3 147 0 (nI 0)) 158 = hI h1 158 := by rw [wI_ne (by omega), c3 158 (by omega), b3' 158 (by omega)]
        rw [e]
        exact xok_of a2
    have R3 : XR (wI h3 147 0 (nI 0)) 0 xf0 := by
      intro a j ha hj
      rw [Nat.add_zero, hI_wI]
      unfold xf0
      by_cases q : a = 0 ∧ j = 0
      · rw [if_pos (c := a = 0 ∧ j = 0) q, if_pos ⟨rfl, by omega⟩]
      · rw [if_neg (c := a = 0 ∧ j = 0) q, if_neg (by omega)]
        exact c2 _ (by omega)
    obtain ⟨h4, r5, d1, d2, d3, d4, d5⟩ := m58 (L := L) (d + 19) (p := 0) (h := wI h3 147 0 (nI 0)) (f := xf0) (ok := xok A r D 0) (bs := xF A D) (by omega) (fun a j => by show (if a = 0 ∧ j = 0 then 0 else 1000) ≤ 1000; split <;> omega) (fun a j q => by
      by_cases z : a = 0 ∧ j = 0
      · omega
      · unfold xf0 at q
        rw [if_neg z] at q
        omega) (fun a j ha hj => X3.2.2.2.2.2.2.2 0 a j (by omega) ha hj) X3.2.2.2.2.2.2.1 R3
    have tz : fo xf0 (xok A r D 0) = xT (xI (A (170 + 8 * D + 1)) (A (170 + 8 * D + 3)) (A 9)) (xok A r D) 0 0 := by
      funext a j
      unfold fo xT xf0
      by_cases q : xok A r D 0 a j = true
      · rw [if_pos q]
        by_cases z : a = 0 ∧ j = 0
        · rw [if_pos z, if_pos ⟨q, z⟩]
        · rw [if_neg z, if_neg (fun w => z w.2)]
      · rw [if_neg q, if_neg (fun w => q w.1)]
    rw [tz] at d2 d3
    have X4 : XN h4 D (A 8) (A (170 + 8 * D + 1)) (A (170 + 8 * D + 3)) (A 9) (A (170 + 8 * D)) ln (xF A D) (xok A r D) := X3.congr (fun x hx => d4 x (by omega))
    obtain ⟨h6, e1, e2, e3, e4⟩ := m59 (L := L) (d := d + 6) hD16 (show A (170 + 8 * D) < 8 by omega) v8 n2 l1 l3 v9 (xok_past n4) 10 0 0 r5 h4 (by omega) (by omega) (by decide) X4 d2 d3
    refine ⟨h6, _, by rw [n1, if_neg (by rw [nI_ltN (by omega) (by omega)]; omega), c1, cV_s, d1, cI_s, e1, cV_s], fun b hb M hM hN => ?_, ⟨fun x p q z => ?_, fun k p q => ?_, ?_⟩⟩
    · have row4 : hI h4 (129 + b) = hI h (129 + b) := by rw [d4 _ (by omega), wI_ne (by omega), c3 _ (by omega), row2 b hb]
      by_cases y : A (170 + 8 * D) = b
      · rw [if_pos y, ← row4, hx, ← y]
        exact (e2 M hM).2 (by rw [Nat.pow_zero, Nat.mod_one]) hN
      · rw [if_neg y, e3 _ (by omega) (by omega), row4]
    · rw [e3 x (by omega) (by omega), d4 x (by omega), wI_ne (by omega), c3 x (by omega)]
      exact F2.1 x p q z
    · rw [e3 95 (by omega) (by omega), d4 95 (by omega), wI_ne (by omega), c3 95 (by omega)]
      exact F2.2.1 k p q
    · rw [e4, d5]
      exact c4.trans F2.2.2
theorem m54_26 {d r : Nat} (hV : XV A) (hr : r ≤ A 7) : ∀ (n D : Nat) (h : PH) (v : Value), D + n = A 10 → RC h 0 A → xCs h 8 (A 8) (gB A r D) → ∃ h' v', runL (g2 L) (d + 20) 5 false none kc_54 26 [.ref 95, .int (nI r), .int (nI D), v] [] h = runL (g2 L) (d + 20) 5 false none kc_54 122 [.ref 95, .int (nI r), .int (nI (A 11) - nI 1), v'] [] (wI h' 95 12 (nI 0)) ∧ xCs h' 8 (A 8) (gB A r (A 10)) ∧ XFr h h' := by
  have v10 := hV.2.2.2.1
  intro n
  induction n with
  | zero =>
    intro D h v hD hC hG
    have e : D = A 10 := by omega
    subst e
    have wd := hC.wd
    have wb := hC.wb
    rw [Nat.zero_add] at wd wb
    refine ⟨h, v, ?_, hG, XFr.rf⟩
    rw [e54_26, wd, if_pos (by rw [nI_leN (by omega) (by omega)]; omega), wb]
  | succ n ih =>
    intro D h v hD hC hG
    have wd := hC.wd
    rw [Nat.zero_add] at wd
    obtain ⟨h1, v1, e1, e2, e3⟩ := one_dial (L := L) (d := d) hV hr (D := D) (by omega) hC
    obtain ⟨h', v', i1, i2, i3⟩ := ih (D + 1) h1 v1 (by omega) (hC.xfr e3) (fun b hb M hM hN => by
      rw [e2 b hb M hM hN, hG b hb M hM hN]
      show _ = nI (gB A r D b M + if A (170 + 8 * D) = b then xDD A r D M else 0)
      by_cases q : A (170 + 8 * D) = b
      · rw [if_pos q, if_pos q, nI_plus]
      · rw [if_neg q, if_neg q, Nat.add_zero])
    refine ⟨h', v', ?_, i2, e3.tr i3⟩
    rw [e54_26, wd, if_neg (by rw [nI_leN (by omega) (by omega)]; omega), inB_nI (by omega), asr_d (by omega)]
    exact e1.trans i1
theorem gk_at {r k b M : Nat} (hV : XV A) (hk : k < A 11) (hb : b + 1 + k = A 11) : gk A r k b M = gk A r (k + 1) b M := by
  obtain ⟨v7, v8, v9, v10, v11, vB, vL, vR, vS⟩ := hV
  refine xsum_congr _ (fun D hD => ?_)
  have x8 := (vL D hD).1
  have e := xu_at vB v11 x8 (show k ≤ A 11 by omega) (show b + 1 = A 11 - k by omega)
  rw [if_pos (show b + k < A 11 by omega), if_neg (show ¬ b + (k + 1) < A 11 by omega)]
  by_cases q : xa A b (A (170 + 8 * D)) = true
  · rw [if_pos (decide_eq_true (e.mpr q)), if_pos q]
  · rw [if_neg (fun z => q (e.mp (of_decide_eq_true z))), if_neg q]
theorem gk_ne {r k b M : Nat} (hV : XV A) (hk : k < A 11) (hb : b + 1 + k ≠ A 11) (hp : b + 1 ≠ A (300 + (A 11 - k - 1))) : gk A r (k + 1) b M = gk A r k b M := by
  refine xsum_congr _ (fun D hD => ?_)
  by_cases q : b + k < A 11
  · rw [if_pos q, if_pos (show b + (k + 1) < A 11 by omega)]
    congr 1
    have e : (xu A (A 11) (k + 1) (A (170 + 8 * D)) = b + 1) ↔ (xu A (A 11) k (A (170 + 8 * D)) = b + 1) := by
      rw [xu_s]
      by_cases z : xu A (A 11) k (A (170 + 8 * D)) = A 11 - k
      · rw [if_pos z]
        omega
      · rw [if_neg z]
    rw [decide_eq_decide.mpr e]
  · rw [if_neg q, if_neg (show ¬ b + (k + 1) < A 11 by omega)]
theorem gk_add {r k b M : Nat} (hV : XV A) (hk : k < A 11) (hb : b + 1 + k < A 11) (hp : b + 1 = A (300 + (A 11 - k - 1))) : gk A r (k + 1) b M = gk A r k b M + gk A r k (A 11 - k - 1) M := by
  unfold gk
  rw [xsum_add]
  refine xsum_congr _ (fun D hD => ?_)
  rw [if_pos (show b + (k + 1) < A 11 by omega), if_pos (show b + k < A 11 by omega), if_pos (show A 11 - k - 1 + k < A 11 by omega)]
  rw [show A 11 - k - 1 + 1 = A 11 - k by omega]
  have e : xu A (A 11) (k + 1) (A (170 + 8 * D)) = if xu A (A 11) k (A (170 + 8 * D)) = A 11 - k then b + 1 else xu A (A 11) k (A (170 + 8 * D)) := by
    show (if _ then _ else _) = _
    rw [← hp]
  rw [e]
  by_cases z : xu A (A 11) k (A (170 + 8 * D)) = A 11 - k
  · rw [if_pos z, if_pos (decide_eq_true rfl), if_neg (fun w => by have := of_decide_eq_true w; omega), if_pos (decide_eq_true z), Nat.zero_add]
  · rw [if_neg z, if_neg (c := decide (xu A (A 11) k (A (170 + 8 * D)) = A 11 - k) = true) (fun w => z (of_decide_eq_true w))]
    exact (Nat.add_zero _).symm
theorem g0_add {r k : Nat} (hk : k < A 11) (hp : A (300 + (A 11 - k - 1)) = 0) : g0 A r (k + 1) = g0 A r k + gk A r k (A 11 - k - 1) 0 := by
  unfold g0 gk
  rw [xsum_add]
  refine xsum_congr _ (fun D hD => ?_)
  rw [if_pos (show A 11 - k - 1 + k < A 11 by omega), show A 11 - k - 1 + 1 = A 11 - k by omega]
  have e : xu A (A 11) (k + 1) (A (170 + 8 * D)) = if xu A (A 11) k (A (170 + 8 * D)) = A 11 - k then 0 else xu A (A 11) k (A (170 + 8 * D)) := by
    show (if _ then _ else _) = _
    rw [hp]
  rw [e]
  by_cases z : xu A (A 11) k (A (170 + 8 * D)) = A 11 - k
  · rw [if_pos z, if_pos rfl, if_neg (c := xu A (A 11) k (A (170 + 8 * D)) = 0) (by omega), if_pos (decide_eq_true z), Nat.zero_add]
  · rw [if_neg z, if_neg (c := decide (xu A (A 11) k (A (170 + 8 * D)) = A 11 - k) = true) (fun w => z (of_decide_eq_true w)), Nat.add_zero]
theorem g0_ne {r k : Nat} (hk : k < A 11) (hp : A (300 + (A 11 - k - 1)) ≠ 0) : g0 A r (k + 1) = g0 A r k := by
  refine xsum_congr _ (fun D hD => ?_)
  have e : (xu A (A 11) (k + 1) (A (170 + 8 * D)) = 0) ↔ (xu A (A 11) k (A (170 + 8 * D)) = 0) := by
    show ((if xu A (A 11) k (A (170 + 8 * D)) = A 11 - k then A (300 + (A 11 - k - 1)) else xu A (A 11) k (A (170 + 8 * D))) = 0) ↔ _
    by_cases z : xu A (A 11) k (A (170 + 8 * D)) = A 11 - k
    · rw [if_pos z]
      omega
    · rw [if_neg z]
  by_cases q : xu A (A 11) k (A (170 + 8 * D)) = 0
  · rw [if_pos q, if_pos (e.mpr q)]
  · rw [if_neg q, if_neg (fun z => q (e.mp z))]
theorem m54_122 {d r : Nat} (hV : XV A) : ∀ (n k : Nat) (h : PH) (v : Value), k + n = A 11 → RC h 0 A → xCs h (A 11) (A 8) (gk A r k) → hI h 95 12 = nI (g0 A r k) → ∃ h', runL (g2 L) (d + 1) 5 false none kc_54 122 [.ref 95, .int (nI r), .int (nI (A 11 - k) - nI 1), v] [] h = some (none, h') ∧ xCs h' (A 11) (A 8) (gk A r (A 11)) ∧ hI h' 95 12 = nI (g0 A r (A 11)) ∧ XFr h h' := by
  obtain ⟨v7, v8, v9, v10, v11, vB, vL, vR, vS⟩ := id hV
  have lW : 2 ^ A 8 ≤ 1024 := show 2 ^ A 8 ≤ 2 ^ 10 from Nat.pow_le_pow_right (show 0 < 2 by decide) v8
  intro n
  induction n with
  | zero =>
    intro k h v hk hC hG h0
    have e : k = A 11 := by omega
    subst e
    refine ⟨h, ?_, hG, h0, XFr.rf⟩
    rw [e54_122, Nat.sub_self, nI_p0, if_pos (by decide)]
  | succ n ih =>
    intro k h v hk hC hG h0
    obtain ⟨y, hy⟩ : ∃ y, y + 1 = A 11 - k := ⟨A 11 - k - 1, by omega⟩
    have ey : A 11 - k - 1 = y := by omega
    have wf := hC.wf (b := y) (by omega)
    rw [Nat.zero_add] at wf
    have hB := vB y (by omega)
    have s0 := e54_122 L (d + 1) (nI r) (nI (A 11 - k) - nI 1) v h
    have nx : nI (A 11 - k) - nI 1 + m1 = nI (A 11 - (k + 1)) - nI 1 := by
      rw [← hy, nI_m1_plus, nI_y1, show A 11 - (k + 1) = y by omega]
    rw [nx, ← hy, nI_m1_plus, if_neg (by rw [nI_ltN (by omega) (by omega)]; omega), inB_nI (by omega), asr_d (by omega), ix_nI (by omega), wf] at s0
    rw [← hy, nI_m1_plus]
    have k8 := kk8 (i := y) (by omega)
    by_cases q : A (300 + y) = 0
    · rw [q, nI_p0, if_neg (fun z => z rfl), asr_d (by omega), okA_of k8.1 (by omega), asr_true, lenA_of (by omega), k8.2.1, inB_nI (by omega), asr_d (by omega), h0, hG y (by omega) 0 (Nat.pow_pos (by decide)) rN_0, nI_plus] at s0
      obtain ⟨h', e1, e2, e3, e4⟩ := ih (k + 1) (wI h 95 12 (nI (g0 A r k + gk A r k y 0))) (.int m1) (by omega) (hC.congr (fun a p q => wI_ne (by omega))) (fun b hb M hM hN => by
        rw [wI_ne (by omega), hG b hb M hM hN]
        by_cases z : b + 1 + k = A 11
        · rw [gk_at hV (by omega) z]
        · rw [gk_ne hV (by omega) z (by rw [ey, q]; omega)]) (by
        rw [hI_wI, if_pos ⟨rfl, rfl⟩, g0_add (by omega) (by rw [ey]; exact q), ey])
      exact ⟨h', s0.trans e1, e2, e3, XFr.tr ⟨fun x p q z => wI_ne p, fun j p q => by rw [hI_wI, if_neg (fun w => q w.2)], rfl⟩ e4⟩
    · have e0 : nI (A (300 + y)) - nI 1 = nI (A (300 + y) - 1) := nI_minus (by omega)
      obtain ⟨p, hp⟩ : ∃ p, p + 1 = A (300 + y) := ⟨A (300 + y) - 1, by omega⟩
      have e9 : A (300 + y) - 1 = p := by omega
      rw [e0, e9, if_pos (by rw [Ne, nI_ne_m1 (by omega)]; exact id), if_neg (by rw [nI_ltN (by omega) (by omega)]; omega), if_neg (by rw [nI_leN (by omega) (by omega)]; omega), inB_nI (by omega), asr_d (by omega), asr_d (by omega), ix_nI (by omega)] at s0
      obtain ⟨h1, a1, a2, a3, a4⟩ := m65 (L := L) d (p := p) (b := y) (h := h) (by omega) (by omega) (by omega)
      rw [a1, cV_s] at s0
      have F1 : XFr h h1 := ⟨fun x p' q' z => a3 x (by omega), fun k' p' q' => by rw [a3 95 (by omega)], a4⟩
      obtain ⟨h', e1, e2, e3, e4⟩ := ih (k + 1) h1 (.int (nI p)) (by omega) (hC.xfr F1) (fun b hb M hM hN => by
        by_cases w : b = p
        · rw [w, a2 M (by omega), hG p (by omega) M hM hN, hG y (by omega) M hM hN, nI_plus, gk_add hV (by omega) (by omega) (by rw [ey]; exact hp), ey]
        · rw [a3 _ (by omega), hG b hb M hM hN]
          by_cases z : b + 1 + k = A 11
          · rw [gk_at hV (by omega) z]
          · rw [gk_ne hV (by omega) z (by rw [ey]; omega)]) (by
        rw [a3 95 (by omega), h0, g0_ne (by omega) (by rw [ey]; exact q)])
      exact ⟨h', s0.trans e1, e2, e3, F1.tr e4⟩
theorem m54_2 {d : Nat} (x : Int32) : ∀ (n b : Nat) (h : PH), b + n = 8 → (∀ c, c < b → ∀ M, M < 1024 → hI h (129 + c) M = nI 0) → ∃ h', runL (g2 L) (d + 1) 5 false none kc_54 2 [.ref 95, .int x, .int (nI b), dm] [] h = runL (g2 L) (d + 1) 5 false none kc_54 26 [.ref 95, .int x, .int (nI 0), dm] [] h' ∧ (∀ c, c < 8 → ∀ M, M < 1024 → hI h' (129 + c) M = nI 0) ∧ XFr h h' := by
  intro n
  induction n with
  | zero =>
    intro b h hb hz
    have e : b = 8 := by omega
    subst e
    refine ⟨h, ?_, hz, XFr.rf⟩
    rw [e54_2, if_pos (by decide)]
  | succ n ih =>
    intro b h hb hz
    have k8 := kk8 (i := b) (by omega)
    obtain ⟨h1, a1, a2, a3, a4⟩ := m55 (L := L) d (a := 129 + b) (n := 1024) (h := h) k8.1 (by omega) (by omega) k8.2.1 (by omega) (nI 0)
    obtain ⟨h', e1, e2, e3⟩ := ih (b + 1) h1 (by omega) (fun c hc M hM => by
      by_cases q : c = b
      · rw [q]
        exact a2 M hM
      · rw [a3 _ (by omega)]
        exact hz c (by omega) M hM)
    refine ⟨h', ?_, e2, XFr.tr ⟨fun x p q z => a3 x (by omega), fun k p q => by rw [a3 95 (by omega)], a4⟩ e3⟩
    rw [e54_2, if_neg (by rw [nI_leN (by omega) (by omega)]; omega), inB_nI (by omega), asr_d (by omega), ix_nI (by omega), a1, cV_s, nI_plus]
    exact e1
theorem m54 (d : Nat) {r : Nat} {h : PH} (hV : XV A) (hr : r ≤ A 7) (hC : RC h 0 A) : ∃ h', exec (g2 L) (d + 21) 54 [.ref 95, .int (nI r)] h = some (none, h') ∧ xCs h' (A 11) (A 8) (xC A r) ∧ hI h' 95 12 = nI (xsum (fun D => xDD A r D 0) (A 10)) ∧ XFr h h' := by
  obtain ⟨v7, v8, v9, v10, v11, vB, vL, vR, vS⟩ := id hV
  have lW : 2 ^ A 8 ≤ 1024 := show 2 ^ A 8 ≤ 2 ^ 10 from Nat.pow_le_pow_right (show 0 < 2 by decide) v8
  obtain ⟨h1, a1, a2, a3⟩ := m54_2 (L := L) (d := d + 19) (nI r) 8 0 h (by omega) (fun c hc => absurd hc (Nat.not_lt_zero _))
  obtain ⟨h2, v2, b1', b2', b3'⟩ := m54_26 (L := L) (d := d) hV hr (A 10) 0 h1 dm (by omega) (hC.xfr a3) (fun b hb M hM hN => a2 b hb M (by omega))
  have F2 := a3.tr b3'
  have F3 : XFr h (wI h2 95 12 (nI 0)) := F2.tr ⟨fun x p q z => wI_ne p, fun j p q => by rw [hI_wI, if_neg (fun w => q w.2)], rfl⟩
  obtain ⟨h3, c1, c2, c3, c4⟩ := m54_122 (L := L) (d := d + 19) (r := r) hV (A 11) 0 (wI h2 95 12 (nI 0)) v2 (by omega) (hC.xfr F3) (fun b hb M hM hN => by
    rw [wI_ne (by omega), b2' b (by omega) M hM hN]
    congr 1
    refine xsum_congr _ (fun D hD => ?_)
    rw [if_pos (show b + 0 < A 11 by omega)]
    by_cases q : A (170 + 8 * D) = b
    · rw [if_pos q, if_pos (decide_eq_true (by show A (170 + 8 * D) + 1 = b + 1; omega))]
    · rw [if_neg q, if_neg (fun z => by have := of_decide_eq_true z; have e : A (170 + 8 * D) + 1 = b + 1 := this; omega)]) (by
    rw [hI_wI, if_pos ⟨rfl, rfl⟩]
    congr 1
    have : ∀ n, xsum (fun D => if xu A (A 11) 0 (A (170 + 8 * D)) = 0 then xDD A r D 0 else 0) n = 0 := by
      intro n
      induction n with
      | zero => rfl
      | succ n ih =>
        show xsum _ n + (if A (170 + 8 * n) + 1 = 0 then _ else 0) = 0
        rw [ih, if_neg (by omega)]
    exact (this (A 10)).symm)
  refine ⟨h3, ?_, fun b hb M hM hN => ?_, ?_, F3.tr c4⟩
  · rw [x54]
    exact a1.trans (b1'.trans c1)
  · rw [c2 b hb M hM hN]
    congr 1
    refine xsum_congr _ (fun D hD => ?_)
    rw [if_neg (show ¬ b + A 11 < A 11 by omega)]
  · rw [c3]
    congr 1
    refine xsum_congr _ (fun D hD => ?_)
    have := xu_le vB (vL D hD).1 (A 11) (Nat.le_refl _)
    rw [if_pos (by omega)]
end Xg
