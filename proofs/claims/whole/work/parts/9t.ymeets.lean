-- PART: explaining, the reference's sets of the fewest mishaps.
theorem xk_bit : ∀ e, e < 11 → ∀ f, f < e → ∀ k, k < 10 → ((2 ^ e - 2 ^ f) / 2 ^ k % 2 = 1 ↔ (f ≤ k ∧ k < e)) := by decide +kernel
def yo (A : Nat → Nat) (p b k : Nat) : Nat := xOw A p b / 2 ^ k % 2
theorem yo_0 (A : Nat → Nat) (b k : Nat) : yo A 0 b k = 0 := by
  unfold yo xOw
  rw [if_neg (fun z => z.1 rfl), Nat.zero_div]
theorem yo_n {A : Nat → Nat} {p : Nat} (hp : p ≠ 0) (b k : Nat) : yo A p b k = if (p - 1) / 55 = b then xk (A 8) ((p - 1) % 55) / 2 ^ k % 2 else 0 := by
  unfold yo xOw
  by_cases q : (p - 1) / 55 = b
  · rw [if_pos ⟨hp, q⟩, if_pos q]
  · rw [if_neg (fun z => q z.2), if_neg q, Nat.zero_div]
theorem yo_le (A : Nat → Nat) (p b k : Nat) : yo A p b k ≤ 1 := by
  unfold yo
  omega
theorem yo_sp {A : Nat → Nat} (hV : XV A) {p b k : Nat} (hp : xval A p) (hk : k < 10) (h : yo A p b k = 1) : p ≠ 0 ∧ (p - 1) / 55 = b ∧ xs1 (A 8) ((p - 1) % 55) ≤ k ∧ k < xs2 (A 8) ((p - 1) % 55) := by
  have v8 := hV.2.1
  have o55 := xs_a (A 8) (by omega)
  by_cases p0 : p = 0
  · rw [p0, yo_0] at h
    omega
  · obtain ⟨z1, z2⟩ := hp.resolve_left p0
    rw [yo_n p0] at h
    by_cases q : (p - 1) / 55 = b
    · rw [if_pos q] at h
      obtain ⟨w1, w2, _⟩ := xs_in (A 8) (by omega) ((p - 1) % 55) (by omega) z2
      have := (xk_bit (xs2 (A 8) ((p - 1) % 55)) (by omega) (xs1 (A 8) ((p - 1) % 55)) w1 k hk).mp h
      exact ⟨p0, q, this.1, this.2⟩
    · rw [if_neg q] at h
      omega
theorem yo_or {A : Nat → Nat} (hV : XV A) {p q b k : Nat} (hs : xSet A p q) (hk : k < 10) : (xOw A p b ||| xOw A q b) / 2 ^ k % 2 = yo A p b k + yo A q b k := by
  have o := or_bit (xOw A p b) (xOw A q b) k
  have l1 := yo_le A p b k
  have l2 := yo_le A q b k
  have nb : ¬ (yo A p b k = 1 ∧ yo A q b k = 1) := by
    rintro ⟨y1, y2⟩
    obtain ⟨a0, a1, a2, a3⟩ := yo_sp hV hs.1 hk y1
    obtain ⟨c0, c1, c2, c3⟩ := yo_sp hV hs.2.1 hk y2
    rcases hs.2.2 with z | ⟨_, z⟩
    · exact c0 z
    · rcases z with z | z | z
      · exact z (a1.trans c1.symm)
      · omega
      · omega
  unfold yo at l1 l2 nb ⊢
  omega
section Yt
variable {L : Nat} {A : Nat → Nat}
theorem h199_26 {d p k : Nat} {x2 : Int32} {h : PH} (hV : XV A) (hM : RM h 254 A) (hS : ySp h (A 8)) (hp : xval A p) (hk : k < A 8) : ∃ h1, runL (g2 L) (d + 1) 11 false none kc_199 26 [.ref 253, .int (cO p), .int x2, .int (nI (k + 1))] [] h = runL (g2 L) (d + 1) 11 false none kc_199 75 [.ref 253, .int (cO p), .int x2, .int (nI (k + 1))] [] h1 ∧ (∀ b k', b < 8 → k' < 10 → hI h1 269 (11 * b + k' + 1) = hI h 269 (11 * b + k' + 1) + nI (if k' = k then yo A p b k else 0)) ∧ ∀ x, x ≠ 269 → hI h1 x = hI h x := by
  obtain ⟨v7', v8, v9, v10, v11, vB, vL, vR, vS⟩ := id hV
  have pl := xval_le hV hp
  have w8 := hM.at (k := 8) (by omega) (by omega)
  have s0 := e199_26 L (d + 1) (cO p) x2 (nI (k + 1)) h
  rw [w8, if_neg (by rw [nI_ltN (by omega) (by omega)]; omega)] at s0
  by_cases p0 : p = 0
  · subst p0
    rw [if_pos cO_0] at s0
    refine ⟨h, s0, fun b k' _ _ => ?_, fun _ _ => rfl⟩
    rw [yo_0]
    split <;> exact (i32_add0 _).symm
  · obtain ⟨z1, z2⟩ := hp.resolve_left p0
    have xl := (xk_lt v8 z2).1
    have p10 : 2 ^ A 8 ≤ 2 ^ 10 := Nat.pow_le_pow_right (by omega) v8
    rw [if_neg (cO_m (by omega) p0), cO_n p0, m195 (L := L) d v8 hS (by omega) z2, cI_s, nI_m1_plus, nI_shr (by omega) (by omega), nI_and, Nat.and_one_is_mod, Nat.shiftRight_eq_div_pow, nI_quot (by omega) (by omega), nI_times, nI_plus, inB_nI (by omega), asr_d (by omega), asr_d (by omega), ix_nI (by omega)] at s0
    rw [cO_n p0]
    by_cases q : xk (A 8) ((p - 1) % 55) / 2 ^ k % 2 = 1
    · rw [if_neg (by rw [q]; exact fun z => z rfl)] at s0
      refine ⟨_, s0, fun b k' hb hk' => ?_, fun x hx => wI_ne hx⟩
      rw [hI_wI, yo_n p0]
      by_cases e : k' = k
      · rw [if_pos e]
        by_cases f : (p - 1) / 55 = b
        · rw [if_pos ⟨rfl, by omega⟩, if_pos f, q, show 11 * b + k' + 1 = 11 * ((p - 1) / 55) + (k + 1) by omega]
        · rw [if_neg (by omega), if_neg f, i32_add0]
      · rw [if_neg (by omega), if_neg e, i32_add0]
    · rw [if_pos (by rw [Ne, nI_eqI (by omega) (by omega)]; exact q)] at s0
      refine ⟨h, s0, fun b k' _ _ => ?_, fun _ _ => rfl⟩
      rw [yo_n p0]
      have q0 : xk (A 8) ((p - 1) % 55) / 2 ^ k % 2 = 0 := by omega
      rw [q0]
      split
      · split <;> exact (i32_add0 _).symm
      · exact (i32_add0 _).symm
theorem h199_75 {d p k : Nat} {x1 : Int32} {h : PH} (hV : XV A) (hS : ySp h (A 8)) (hp : xval A p) (hk : k < A 8) : ∃ h1, runL (g2 L) (d + 1) 11 false none kc_199 75 [.ref 253, .int x1, .int (cO p), .int (nI (k + 1))] [] h = runL (g2 L) (d + 1) 11 false none kc_199 26 [.ref 253, .int x1, .int (cO p), .int (nI (k + 1 + 1))] [] h1 ∧ (∀ b k', b < 8 → k' < 10 → hI h1 269 (11 * b + k' + 1) = hI h 269 (11 * b + k' + 1) + nI (if k' = k then yo A p b k else 0)) ∧ ∀ x, x ≠ 269 → hI h1 x = hI h x := by
  obtain ⟨v7', v8, v9, v10, v11, vB, vL, vR, vS⟩ := id hV
  have pl := xval_le hV hp
  have s0 := e199_75 L (d + 1) x1 (cO p) (nI (k + 1)) h
  rw [nI_plus] at s0
  by_cases p0 : p = 0
  · subst p0
    rw [if_pos cO_0] at s0
    refine ⟨h, s0, fun b k' _ _ => ?_, fun _ _ => rfl⟩
    rw [yo_0]
    split <;> exact (i32_add0 _).symm
  · obtain ⟨z1, z2⟩ := hp.resolve_left p0
    have xl := (xk_lt v8 z2).1
    have p10 : 2 ^ A 8 ≤ 2 ^ 10 := Nat.pow_le_pow_right (by omega) v8
    rw [if_neg (cO_m (by omega) p0), cO_n p0, m195 (L := L) d v8 hS (by omega) z2, cI_s, nI_m1_plus, nI_shr (by omega) (by omega), nI_and, Nat.and_one_is_mod, Nat.shiftRight_eq_div_pow, nI_quot (by omega) (by omega), nI_times, nI_plus, inB_nI (by omega), asr_d (by omega), asr_d (by omega), ix_nI (by omega)] at s0
    rw [cO_n p0]
    by_cases q : xk (A 8) ((p - 1) % 55) / 2 ^ k % 2 = 1
    · rw [if_neg (by rw [q]; exact fun z => z rfl)] at s0
      refine ⟨_, s0, fun b k' hb hk' => ?_, fun x hx => wI_ne hx⟩
      rw [hI_wI, yo_n p0]
      by_cases e : k' = k
      · rw [if_pos e]
        by_cases f : (p - 1) / 55 = b
        · rw [if_pos ⟨rfl, by omega⟩, if_pos f, q, show 11 * b + k' + 1 = 11 * ((p - 1) / 55) + (k + 1) by omega]
        · rw [if_neg (by omega), if_neg f, i32_add0]
      · rw [if_neg (by omega), if_neg e, i32_add0]
    · rw [if_pos (by rw [Ne, nI_eqI (by omega) (by omega)]; exact q)] at s0
      refine ⟨h, s0, fun b k' _ _ => ?_, fun _ _ => rfl⟩
      rw [yo_n p0]
      have q0 : xk (A 8) ((p - 1) % 55) / 2 ^ k % 2 = 0 := by omega
      rw [q0]
      split
      · split <;> exact (i32_add0 _).symm
      · exact (i32_add0 _).symm
theorem m199_26 {d p q : Nat} (hV : XV A) (hp : xval A p) (hq : xval A q) : ∀ (n k : Nat) (h : PH), k + n = A 8 → RM h 254 A → ySp h (A 8) → ∃ h', runL (g2 L) (d + 1) 11 false none kc_199 26 [.ref 253, .int (cO p), .int (cO q), .int (nI (k + 1))] [] h = runL (g2 L) (d + 1) 11 false none kc_199 121 [.ref 253, .int (cO p), .int (cO q), .int (nI 0)] [] h' ∧ (∀ b k', b < 8 → k' < A 8 → hI h' 269 (11 * b + k' + 1) = hI h 269 (11 * b + k' + 1) + nI (if k ≤ k' then yo A p b k' + yo A q b k' else 0)) ∧ ∀ x, x ≠ 269 → hI h' x = hI h x := by
  obtain ⟨v7', v8, v9, v10, v11, vB, vL, vR, vS⟩ := id hV
  intro n
  induction n with
  | zero =>
    intro k h hk hM hS
    have w8 := hM.at (k := 8) (by omega) (by omega)
    refine ⟨h, ?_, fun b k' _ hk' => ?_, fun _ _ => rfl⟩
    · rw [e199_26, w8, if_pos (by rw [nI_ltN (by omega) (by omega)]; omega)]
    · rw [if_neg (by omega), i32_add0]
  | succ n ih =>
    intro k h hk hM hS
    obtain ⟨h1, a1, a2, a3⟩ := h199_26 (L := L) (d := d) (k := k) (x2 := cO q) hV hM hS hp (by omega)
    have S1 : ySp h1 (A 8) := by
      unfold ySp at hS ⊢
      rw [a3 253 (by omega), a3 266 (by omega), a3 267 (by omega)]
      exact hS
    obtain ⟨h2, b1, b2, b3⟩ := h199_75 (L := L) (d := d) (k := k) (x1 := cO p) hV S1 hq (by omega)
    have S2 : ySp h2 (A 8) := by
      unfold ySp at S1 ⊢
      rw [b3 253 (by omega), b3 266 (by omega), b3 267 (by omega)]
      exact S1
    obtain ⟨h', i1, i2, i3⟩ := ih (k + 1) h2 (by omega) (hM.congr (by rw [b3 254 (by omega), a3 254 (by omega)])) S2
    refine ⟨h', a1.trans (b1.trans i1), fun b k' hb hk' => ?_, fun x hx => by rw [i3 x hx, b3 x hx, a3 x hx]⟩
    rw [i2 b k' hb hk', b2 b k' hb (by omega), a2 b k' hb (by omega), Int32.add_assoc, Int32.add_assoc, nI_plus, nI_plus]
    congr 2
    by_cases e : k' = k
    · subst e
      rw [if_pos rfl, if_pos rfl, if_neg (by omega), if_pos (Nat.le_refl _)]
      omega
    · rw [if_neg e, if_neg e]
      by_cases z : k + 1 ≤ k'
      · rw [if_pos z, if_pos (by omega)]
        omega
      · rw [if_neg z, if_neg (by omega)]
theorem m199_121 {d p q : Nat} (hV : XV A) (hp : xval A p) (hq : xval A q) (x1 x2 : Int32) : ∀ (n D : Nat) (h : PH), D + n = A 10 → RM h 254 A → yCm h A p q (A 11) → ∃ h', runL (g2 L) (d + 1) 11 false none kc_199 121 [.ref 253, .int x1, .int x2, .int (nI D)] [] h = some (none, h') ∧ (∀ D' mk, D' < A 10 → mk < 1024 → hI h' 270 (1024 * D' + mk) = if D ≤ D' ∧ mk = 2 ^ A 8 - 1 - (xNm A p (A (170 + 8 * D')) ||| xNm A q (A (170 + 8 * D'))) then nI 1 else hI h 270 (1024 * D' + mk)) ∧ ∀ x, x ≠ 270 → hI h' x = hI h x := by
  obtain ⟨v7', v8, v9, v10, v11, vB, vL, vR, vS⟩ := id hV
  have p10 : 2 ^ A 8 ≤ 2 ^ 10 := Nat.pow_le_pow_right (by omega) v8
  intro n
  induction n with
  | zero =>
    intro D h hD hM hc
    have w10 := hM.at (k := 10) (by omega) (by omega)
    refine ⟨h, ?_, fun D' mk hD' _ => ?_, fun _ _ => rfl⟩
    · rw [e199_121, w10, if_pos (by rw [nI_leN (by omega) (by omega)]; omega)]
    · rw [if_neg (by omega)]
  | succ n ih =>
    intro D h hD hM hc
    obtain ⟨l0, _⟩ := vL D (by omega)
    have w10 := hM.at (k := 10) (by omega) (by omega)
    have pos : 1 ≤ 2 ^ A 8 := Nat.pow_pos (by decide)
    have s0 := e199_121 L (d + 1) x1 x2 (nI D) h
    rw [w10, if_neg (by rw [nI_leN (by omega) (by omega)]; omega), m196 (L := L) d hV hM (by omega), cI_s, hc _ l0, nI_times, nI_plus, nI_plus, inB_nI (by omega), asr_d (by omega), ix_nI (by omega)] at s0
    obtain ⟨h', i1, i2, i3⟩ := ih (D + 1) (wI h 270 (1024 * D + (2 ^ A 8 - 1 - (xNm A p (A (170 + 8 * D)) ||| xNm A q (A (170 + 8 * D))))) (nI 1)) (by omega) (hM.congr (wI_ne (by omega))) (fun b hb => by rw [wI_ne (by omega)]; exact hc b hb)
    refine ⟨h', s0.trans i1, fun D' mk hD' hmk => ?_, fun x hx => by rw [i3 x hx, wI_ne hx]⟩
    rw [i2 D' mk hD' hmk, hI_wI]
    by_cases e : D' = D
    · subst e
      rw [if_neg (by omega)]
      by_cases z : mk = 2 ^ A 8 - 1 - (xNm A p (A (170 + 8 * D')) ||| xNm A q (A (170 + 8 * D')))
      · rw [if_pos ⟨rfl, by omega⟩, if_pos ⟨Nat.le_refl _, z⟩]
      · rw [if_neg (by omega), if_neg (fun w => z w.2)]
    · rw [if_neg (c := 270 = 270 ∧ _) (by omega)]
      by_cases z : D + 1 ≤ D' ∧ mk = 2 ^ A 8 - 1 - (xNm A p (A (170 + 8 * D')) ||| xNm A q (A (170 + 8 * D')))
      · rw [if_pos z, if_pos ⟨by omega, z.2⟩]
      · rw [if_neg z, if_neg (fun w => z ⟨by omega, w.2⟩)]
/-- the second going through -/
def J2 (h0 : PH) (A : Nat → Nat) (r v : Nat) (m : Nat) (V : Nat → Nat → Prop) (h : PH) : Prop := m ≤ 200000 ∧ YB h A r ∧ hI h 253 25 = nI v ∧ (∃ sets, sets ≤ m ∧ hI h 253 26 = nI sets ∧ ∀ b, b < A 11 → ∀ k, k < A 8 → ∃ n, n ≤ sets ∧ hI h 269 (11 * b + k + 1) = nI n ∧ (n = 0 ↔ ∀ p q, V p q → xcost A r p q = v → ¬ xbk A p q b k) ∧ (n = sets ↔ ∀ p q, V p q → xcost A r p q = v → xbk A p q b k)) ∧ (∀ D, D < A 10 → ∀ mk, mk < 2 ^ A 8 → (hI h 270 (1024 * D + mk) ≠ nI 0 ↔ ∃ p q, V p q ∧ xcost A r p q = v ∧ xNm A p (A (170 + 8 * D)) ||| xNm A q (A (170 + 8 * D)) = 2 ^ A 8 - 1 - mk)) ∧ (∀ x, x ≠ 253 → ¬ (268 ≤ x ∧ x ≤ 270) → hI h x = hI h0 x) ∧ ∀ k, k ≠ 26 → hI h 253 k = hI h0 253 k
theorem J2.meet {h0 h : PH} {r v m p q : Nat} {V : Nat → Nat → Prop} (d : Nat) (hV : XV A) (hv : v < 1000) (hlo : ∀ p q, xSet A p q → v ≤ xcost A r p q) (hJ : J2 h0 A r v m V h) (hs : xSet A p q) (hm : m < 200000) : ∃ h', exec (g2 L) (d + 4) 199 [.ref 253, .int (cO p), .int (cO q)] h = some (none, h') ∧ J2 h0 A r v (m + 1) (VA V p q) h' := by
  obtain ⟨v7', v8, v9, v10, v11, vB, vL, vR, vS⟩ := id hV
  have p10 : 2 ^ A 8 ≤ 2 ^ 10 := Nat.pow_le_pow_right (by omega) v8
  obtain ⟨jm, j1, j2, ⟨sets, j3, j4, j5⟩, j6, j7, j8⟩ := hJ
  have pl := xval_le hV hs.1
  have ql := xval_le hV hs.2.1
  obtain ⟨h1, a1, a2, a3, a4⟩ := m192 (L := L) d hV j1 hs.1 hs.2.1 (by omega) (by omega)
  have lo := hlo p q hs
  have yl := yc_le A r p q
  have s0 := x199 L (d + 3) (cO p) (cO q) h
  rw [a1, cI_s, a4 253 (by omega), j2, j4, nI_plus] at s0
  by_cases z : xcost A r p q = v
  · have ey : yc A r p q = v := by
      unfold yc
      rw [if_pos (by omega)]
      exact z
    rw [if_pos (by rw [nI_leN (by omega) (by omega)]; omega)] at s0
    have M1 : RM (wI h1 253 26 (nI (sets + 1))) 254 A := a3.1.congr (wI_ne (by omega))
    have S1 : ySp (wI h1 253 26 (nI (sets + 1))) (A 8) := by
      have := a3.2.1
      unfold ySp at this ⊢
      rw [hI_wI, if_neg (by omega), wI_ne (by omega), wI_ne (by omega)]
      exact this
    obtain ⟨h2, b1, b2, b3⟩ := m199_26 (L := L) (d := d + 2) (p := p) (q := q) hV hs.1 hs.2.1 (A 8) 0 (wI h1 253 26 (nI (sets + 1))) (by omega) M1 S1
    obtain ⟨h3, c1, c2, c3⟩ := m199_121 (L := L) (d := d + 2) (p := p) (q := q) hV hs.1 hs.2.1 (cO p) (cO q) (A 10) 0 h2 (by omega) (M1.congr (b3 254 (by omega))) (fun b hb => by
      rw [b3 268 (by omega), wI_ne (by omega)]
      exact a2 b hb)
    have f3 : ∀ x, x ≠ 253 → ¬ (268 ≤ x ∧ x ≤ 270) → hI h3 x = hI h x := fun x p1 p2 => by rw [c3 x (by omega), b3 x (by omega), wI_ne p1, a4 x (by omega)]
    have g3 : ∀ k, k ≠ 26 → hI h3 253 k = hI h 253 k := fun k hk => by rw [c3 253 (by omega), b3 253 (by omega), hI_wI, if_neg (fun w => hk w.2), a4 253 (by omega)]
    refine ⟨h3, s0.trans (b1.trans c1), by omega, j1.congr (fun x hx => f3 x (by omega) (by omega)) (g3 21 (by omega)), by rw [g3 25 (by omega)]; exact j2, ⟨sets + 1, by omega, by rw [c3 253 (by omega), b3 253 (by omega), hI_wI, if_pos ⟨rfl, rfl⟩], fun b hb k hk => ?_⟩, fun D hD mk hmk => ?_, fun x p1 p2 => by rw [f3 x p1 p2, j7 x p1 p2], fun k hk => by rw [g3 k hk, j8 k hk]⟩
    · obtain ⟨n, n1, n2, n3, n4⟩ := j5 b hb k hk
      have eb := yo_or hV (b := b) hs (show k < 10 by omega)
      have l1 := yo_le A p b k
      have l2 := yo_le A q b k
      have xb : xbk A p q b k ↔ yo A p b k + yo A q b k = 1 := by
        unfold xbk
        rw [eb]
      have le1 : yo A p b k + yo A q b k ≤ 1 := by
        have : (xOw A p b ||| xOw A q b) / 2 ^ k % 2 ≤ 1 := by omega
        omega
      refine ⟨n + (yo A p b k + yo A q b k), by omega, ?_, ?_, ?_⟩
      · rw [c3 269 (by omega), b2 b k (by omega) hk, if_pos (Nat.zero_le _), wI_ne (by omega), a4 269 (by omega), n2, nI_plus]
      · constructor
        · intro w p' q' hpq hc hx
          rcases hpq with y | ⟨y1, y2⟩
          · exact n3.mp (by omega) p' q' y hc hx
          · rw [y1, y2] at hx
            have := xb.mp hx
            omega
        · intro w
          have w1 := n3.mpr (fun p' q' y hc => w p' q' (Or.inl y) hc)
          have w2 : ¬ (yo A p b k + yo A q b k = 1) := fun y => w p q (Or.inr ⟨rfl, rfl⟩) z (xb.mpr y)
          omega
      · constructor
        · intro w p' q' hpq hc
          rcases hpq with y | ⟨y1, y2⟩
          · exact n4.mp (by omega) p' q' y hc
          · rw [y1, y2]
            exact xb.mpr (by omega)
        · intro w
          have w1 := n4.mpr (fun p' q' y hc => w p' q' (Or.inl y) hc)
          have w2 := xb.mp (w p q (Or.inr ⟨rfl, rfl⟩) z)
          omega
    · have u3 : xNm A p (A (170 + 8 * D)) ||| xNm A q (A (170 + 8 * D)) < 2 ^ A 8 := Nat.or_lt_two_pow (xNm_lt hV hs.1 _) (xNm_lt hV hs.2.1 _)
      have old := j6 D hD mk hmk
      rw [c2 D mk hD (by omega), b3 270 (by omega), wI_ne (by omega), a4 270 (by omega)]
      by_cases y : mk = 2 ^ A 8 - 1 - (xNm A p (A (170 + 8 * D)) ||| xNm A q (A (170 + 8 * D)))
      · rw [if_pos ⟨Nat.zero_le _, y⟩]
        exact ⟨fun _ => ⟨p, q, Or.inr ⟨rfl, rfl⟩, z, by omega⟩, fun _ => by decide⟩
      · rw [if_neg (fun w => y w.2), old]
        constructor
        · rintro ⟨p', q', w1, w2, w3⟩
          exact ⟨p', q', Or.inl w1, w2, w3⟩
        · rintro ⟨p', q', w1 | ⟨w1, w1'⟩, w2, w3⟩
          · exact ⟨p', q', w1, w2, w3⟩
          · rw [w1, w1'] at w3
            omega
  · have ny : v < yc A r p q := by
      unfold yc
      split <;> omega
    rw [if_neg (by rw [nI_leN (by omega) (by omega)]; omega)] at s0
    have k1 : ∀ {P : Nat → Nat → Prop}, (∀ p' q', VA V p q p' q' → xcost A r p' q' = v → P p' q') ↔ (∀ p' q', V p' q' → xcost A r p' q' = v → P p' q') := by
      intro P
      constructor
      · exact fun w p' q' y => w p' q' (Or.inl y)
      · intro w p' q' y hc
        rcases y with y | ⟨y1, y2⟩
        · exact w p' q' y hc
        · rw [y1, y2] at hc
          exact absurd hc z
    refine ⟨h1, s0, by omega, a3, by rw [a4 253 (by omega)]; exact j2, ⟨sets, by omega, by rw [a4 253 (by omega)]; exact j4, fun b hb k hk => ?_⟩, fun D hD mk hmk => ?_, fun x p1 p2 => by rw [a4 x (by omega), j7 x p1 p2], fun k hk => by rw [a4 253 (by omega), j8 k hk]⟩
    · obtain ⟨n, n1, n2, n3, n4⟩ := j5 b hb k hk
      exact ⟨n, n1, by rw [a4 269 (by omega)]; exact n2, n3.trans k1.symm, n4.trans k1.symm⟩
    · rw [a4 270 (by omega), j6 D hD mk hmk]
      constructor
      · rintro ⟨p', q', w1, w2, w3⟩
        exact ⟨p', q', Or.inl w1, w2, w3⟩
      · rintro ⟨p', q', w1 | ⟨w1, w1'⟩, w2, w3⟩
        · exact ⟨p', q', w1, w2, w3⟩
        · rw [w1, w1'] at w2
          exact absurd w2 z
theorem J2_step (d : Nat) {h0 : PH} {r v : Nat} (hV : XV A) (hv : v < 1000) (hlo : ∀ p q, xSet A p q → v ≤ xcost A r p q) : YSt L (d + 4) A (nI 0) (J2 h0 A r v) := by
  intro m V h p q x2 v5 v6 hJ hs hm
  obtain ⟨h1, a1, a2⟩ := J2.meet (L := L) d hV hv hlo hJ hs hm
  have s0 := e197_76 L (d + 4) (nI 0) x2 (cO p) (cO q) v5 v6 (nI 1) h
  rw [if_neg (by decide), if_pos rfl, if_neg (by decide), a1, cV_s, cO_plus] at s0
  exact ⟨_, _, _, s0, a2⟩
end Yt
