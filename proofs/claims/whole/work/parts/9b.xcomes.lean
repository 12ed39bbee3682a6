-- PART: explaining, a pulse that comes to a dial (class).
def xI (t l s k p : Nat) : Bool := decide (t = 1 ∧ (l + k) % 2 = (s + p + 1) % 2)
def xg (i : Bool) (v k y : Nat) (g : Nat → Nat → Nat) (a j : Nat) : Nat := if i = true then (if a = k ∧ j = y then (if v < g a j then v else g a j) else g a j) else if a = k ∧ j = y then (if v + 1 < g a j then v + 1 else g a j) else if a = k + 1 ∧ j = y then (if v < g a j then v else g a j) else if a = k + 1 ∧ j = y + 1 then (if v + 1 < g a j then v + 1 else g a j) else g a j
theorem xg_min {S : Nat → Prop} {g : Nat → Nat → Nat} {a j : Nat} (h : xMin S (g a j)) (i : Bool) (v k y : Nat) : xMin (fun c => S c ∨ xE i v k y a j c) (xg i v k y g a j) := by
  unfold xg xE
  by_cases q : i = true
  · simp only [if_pos q]
    by_cases z : a = k ∧ j = y
    · rw [if_pos z]
      exact (h.also v).congr (fun c _ => by simp only [z, true_and])
    · rw [if_neg z]
      exact h.congr (fun c _ => ⟨fun w => w.elim id (fun w => absurd ⟨w.1, w.2.1⟩ z), Or.inl⟩)
  · simp only [if_neg q]
    by_cases z : a = k ∧ j = y
    · rw [if_pos z]
      exact (h.also (v + 1)).congr (fun c _ => ⟨fun w => w.elim Or.inl (fun w => Or.inr (by omega)), fun w => w.elim Or.inl (fun w => Or.inr (by omega))⟩)
    · rw [if_neg z]
      by_cases z2 : a = k + 1 ∧ j = y
      · rw [if_pos z2]
        exact (h.also v).congr (fun c _ => ⟨fun w => w.elim Or.inl (fun w => Or.inr (by omega)), fun w => w.elim Or.inl (fun w => Or.inr (by omega))⟩)
      · rw [if_neg z2]
        by_cases z3 : a = k + 1 ∧ j = y + 1
        · rw [if_pos z3]
          exact (h.also (v + 1)).congr (fun c _ => ⟨fun w => w.elim Or.inl (fun w => Or.inr (by omega)), fun w => w.elim Or.inl (fun w => Or.inr (by omega))⟩)
        · rw [if_neg z3]
          exact h.congr (fun c _ => ⟨fun w => w.elim id (fun w => by omega), Or.inl⟩)
theorem xg_t (v k y : Nat) (g : Nat → Nat → Nat) (a j : Nat) : xg true v k y g a j = if a = k ∧ j = y then (if v < g a j then v else g a j) else g a j := if_pos rfl
theorem xg_f (v k y : Nat) (g : Nat → Nat → Nat) (a j : Nat) : xg false v k y g a j = if a = k ∧ j = y then (if v + 1 < g a j then v + 1 else g a j) else if a = k + 1 ∧ j = y then (if v < g a j then v else g a j) else if a = k + 1 ∧ j = y + 1 then (if v + 1 < g a j then v + 1 else g a j) else g a j := if_neg Bool.false_ne_true
section Xb
variable {L : Nat} {h : PH}
theorem m63 (d : Nat) {s p : Nat} (hs : hI h 8 1 = nI s) (h1 : s ≤ 1) : exec (g2 L) (d + 1) 63 [.ref 8, .int (nI (p + 1))] h = some (some (.int (nI ((s + p) % 2))), h) := by
  rw [x63, hs, nI_m1_plus, nI_and, nI_xor, xor2 h1]
theorem m62 (d : Nat) {D t l s k p : Nat} (hD : D < 16) (f1 : hI h (17 + D) 1 = nI t) (ht : t ≤ 1) (f3 : hI h (17 + D) 3 = nI l) (hl : l ≤ 1) (hs : hI h 8 1 = nI s) (h1 : s ≤ 1) : exec (g2 L) (d + 2) 62 [.ref 95, .ref (17 + D), .int (nI k), .int (nI (p + 1))] h = some (some (.int (bI (xI t l s k (p + 1) = true))), h) := by
  rw [x62, okA_of (kk16 hD).2.1 (by omega), asr_true, f1]
  by_cases z : t = 1
  · rw [if_neg (by rw [nI_eqI (by omega) (by omega)]; omega), asr_true, m63 (L := L) d hs h1, cI_s, f3, nI_and, nI_xor, xor2 hl]
    by_cases y : (l + k) % 2 = (s + p) % 2
    · rw [if_neg (by rw [y]; exact fun q => q rfl), bI_t]
      unfold xI
      rw [decide_eq_true_iff]
      omega
    · rw [if_pos (by rw [Ne, nI_eqI (by omega) (by omega)]; exact y), bI_f]
      unfold xI
      rw [decide_eq_true_iff]
      omega
  · rw [if_pos (by rw [nI_eqI (by omega) (by omega)]; omega), bI_f]
    unfold xI
    rw [decide_eq_true_iff]
    omega
/-- a row of the table -/
def XR (h : PH) (p : Nat) (f : Nat → Nat → Nat) : Prop := ∀ a j, a ≤ 10 → j ≤ 10 → hI h (147 + p) (a * 11 + j) = nI (f a j)
def XQ (f : Nat → Nat → Nat) (id : Nat → Bool) (k y a j c : Nat) : Prop := ∃ a0 j0, ((a0 < k ∨ (a0 = k ∧ j0 < y)) ∧ j0 ≤ a0) ∧ f a0 j0 < 1000 ∧ xE (id a0) (f a0 j0) a0 j0 a j c
theorem XQ_step {f : Nat → Nat → Nat} {id : Nat → Bool} {k y a j c : Nat} (hy : y ≤ k) (hf : f k y < 1000) : XQ f id k (y + 1) a j c ↔ (XQ f id k y a j c ∨ xE (id k) (f k y) k y a j c) := by
  constructor
  · rintro ⟨a0, j0, h1, h2, h3⟩
    by_cases e : a0 = k ∧ j0 = y
    · obtain ⟨rfl, rfl⟩ := e
      exact Or.inr h3
    · exact Or.inl ⟨a0, j0, by omega, h2, h3⟩
  · rintro (⟨a0, j0, h1, h2, h3⟩ | h3)
    · exact ⟨a0, j0, by omega, h2, h3⟩
    · exact ⟨k, y, by omega, hf, h3⟩
theorem XQ_skip {f : Nat → Nat → Nat} {id : Nat → Bool} {k y a j c : Nat} (hf : ¬ f k y < 1000) : XQ f id k (y + 1) a j c ↔ XQ f id k y a j c := by
  constructor
  · rintro ⟨a0, j0, h1, h2, h3⟩
    by_cases e : a0 = k ∧ j0 = y
    · obtain ⟨rfl, rfl⟩ := e
      exact absurd h2 hf
    · exact ⟨a0, j0, by omega, h2, h3⟩
  · rintro ⟨a0, j0, h1, h2, h3⟩
    exact ⟨a0, j0, by omega, h2, h3⟩
theorem XQ_row {f : Nat → Nat → Nat} {id : Nat → Bool} {k a j c : Nat} : XQ f id (k + 1) 0 a j c ↔ XQ f id k (k + 1) a j c := by
  constructor
  · rintro ⟨a0, j0, h1, h2, h3⟩
    exact ⟨a0, j0, by omega, h2, h3⟩
  · rintro ⟨a0, j0, h1, h2, h3⟩
    exact ⟨a0, j0, by omega, h2, h3⟩
def XG (h : PH) (p : Nat) (f : Nat → Nat → Nat) (id : Nat → Bool) (k y : Nat) : Prop := ∃ g, XR h p g ∧ (∀ a j, g a j ≤ 1000) ∧ ∀ a j, xMin (XQ f id k y a j) (g a j)
theorem mnI {u v : Nat} (hu : u ≤ 2000) (hv : v ≤ 2000) : (if nI u < nI v then nI u else nI v) = nI (if u < v then u else v) := by
  by_cases w : u < v
  · rw [if_pos w, if_pos (by rw [nI_ltN (by omega) (by omega)]; exact w)]
  · rw [if_neg w, if_neg (by rw [nI_ltN (by omega) (by omega)]; exact w)]
theorem m61_47 {d D p k : Nat} {f : Nat → Nat → Nat} {id : Nat → Bool} (hp : p ≤ 9) (hk : k ≤ p) (hle : ∀ a j, f a j ≤ 1000) : ∀ (n y : Nat) (h : PH) (v8 v9 v10 : Value), y + n = k + 1 → XR h p f → XG h (p + 1) f id k y → ∃ h' w7 w8 w9 w10, runL (g2 L) d 5 false none kc_61 47 [.ref 95, .ref (17 + D), .int (nI (p + 1)), .ref (147 + p), .ref (147 + (p + 1)), .int (nI k), .int (bI (id k = true)), .int (nI y), v8, v9, v10] [] h = runL (g2 L) d 5 false none kc_61 28 [.ref 95, .ref (17 + D), .int (nI (p + 1)), .ref (147 + p), .ref (147 + (p + 1)), .int (nI (k + 1)), .int (bI (id k = true)), w7, w8, w9, w10] [] h' ∧ XG h' (p + 1) f id (k + 1) 0 ∧ (∀ x, x ≠ 147 + (p + 1) → hI h' x = hI h x) ∧ hR h' = hR h := by
  have k1 := kk11 (i := p) (by omega)
  have k2 := kk11 (i := p + 1) (by omega)
  intro n
  induction n with
  | zero =>
    intro y h v8 v9 v10 hy hF hG
    refine ⟨h, .int (nI y), v8, v9, v10, ?_, ?_, fun _ _ => rfl, rfl⟩
    · rw [e61_47, if_pos (by rw [nI_ltN (by omega) (by omega)]; omega), nI_plus]
    · obtain ⟨g, g1, g2', g3⟩ := hG
      have e : y = k + 1 := by omega
      subst e
      exact ⟨g, g1, g2', fun a j => (g3 a j).congr (fun c _ => XQ_row)⟩
  | succ n ih =>
    intro y h v8 v9 v10 hy hF hG
    obtain ⟨g, g1, g2', g3⟩ := hG
    have r0 := hF k y (by omega) (by omega)
    have s0 := e61_47 L d (17 + D) (nI (p + 1)) (147 + p) (147 + (p + 1)) (nI k) (bI (id k = true)) (nI y) v8 v9 v10 h
    simp (disch := omega) only [nI_times, nI_plus, inB_nI, ix_nI, asr_d, okA_of k1.1, okA_of k2.1, okW_of k2.1, asr_true, lenA_of, k1.2, k2.2] at s0
    rw [if_neg (by rw [nI_ltN (by omega) (by omega)]; omega), r0] at s0
    by_cases q : f k y < 1000
    · rw [if_pos (by rw [nI_ltN (by omega) (by omega)]; exact q)] at s0
      by_cases z : id k = true
      · rw [if_neg (by rw [bI_0]; exact not_not_intro z), g1 k y (by omega) (by omega), mnI (by omega) (by have := g2' k y; omega)] at s0
        have G : XG (wI h (147 + (p + 1)) (k * 11 + y) (nI (if f k y < g k y then f k y else g k y))) (p + 1) f id k (y + 1) := by
          refine ⟨xg true (f k y) k y g, fun a j ha hj => ?_, fun a j => ?_, fun a j => ?_⟩
          · rw [hI_wI, xg_t]
            by_cases u : a = k ∧ j = y
            · rw [if_pos u, u.1, u.2, if_pos ⟨rfl, rfl⟩]
            · rw [if_neg u, if_neg (by omega)]
              exact g1 a j ha hj
          · have := xg_min (g3 a j) true (f k y) k y
            exact this.1
          · have := xg_min (g3 a j) true (f k y) k y
            refine this.congr (fun c _ => ?_)
            rw [XQ_step (by omega) q, z]
        obtain ⟨h', w7, w8, w9, w10, e1, e2, e3, e4⟩ := ih (y + 1) (wI h (147 + (p + 1)) (k * 11 + y) (nI (if f k y < g k y then f k y else g k y))) (.int (nI (k * 11 + y))) (.int (nI (f k y))) v10 (by omega) (fun a j ha hj => by rw [wI_ne (by omega)]; exact hF a j ha hj) G
        exact ⟨h', w7, w8, w9, w10, s0.trans e1, e2, fun x hx => by rw [e3 x hx, wI_ne hx], e4⟩
      · rw [if_pos (by rw [bI_0]; exact z), nI_plus] at s0
        have q1 : ∀ x, hI (wI h (147 + (p + 1)) (k * 11 + y) x) (147 + (p + 1)) (k * 11 + y + 11) = nI (g (k + 1) y) := fun x => by
          rw [hI_wI, if_neg (by omega), show k * 11 + y + 11 = (k + 1) * 11 + y by omega]
          exact g1 _ _ (by omega) (by omega)
        have q2 : ∀ x x', hI (wI (wI h (147 + (p + 1)) (k * 11 + y) x) (147 + (p + 1)) (k * 11 + y + 11) x') (147 + (p + 1)) (k * 11 + y + 11 + 1) = nI (g (k + 1) (y + 1)) := fun x x' => by
          rw [hI_wI, if_neg (by omega), hI_wI, if_neg (by omega), show k * 11 + y + 11 + 1 = (k + 1) * 11 + (y + 1) by omega]
          exact g1 _ _ (by omega) (by omega)
        have b1 := g2' k y
        have b2 := g2' (k + 1) y
        have b3 := g2' (k + 1) (y + 1)
        rw [g1 k y (by omega) (by omega), q1, q2, mnI (by omega) (by omega), mnI (by omega) (by omega), mnI (by omega) (by omega)] at s0
        have G : XG (wI (wI (wI h (147 + (p + 1)) (k * 11 + y) (nI (if f k y + 1 < g k y then f k y + 1 else g k y))) (147 + (p + 1)) (k * 11 + y + 11) (nI (if f k y < g (k + 1) y then f k y else g (k + 1) y))) (147 + (p + 1)) (k * 11 + y + 11 + 1) (nI (if f k y + 1 < g (k + 1) (y + 1) then f k y + 1 else g (k + 1) (y + 1)))) (p + 1) f id k (y + 1) := by
          refine ⟨xg false (f k y) k y g, fun a j ha hj => ?_, fun a j => ?_, fun a j => ?_⟩
          · rw [xg_f, hI_wI, hI_wI, hI_wI]
            by_cases u : a = k ∧ j = y
            · rw [if_pos u, u.1, u.2, if_neg (by omega), if_neg (by omega), if_pos ⟨rfl, rfl⟩]
            · rw [if_neg u]
              by_cases u2 : a = k + 1 ∧ j = y
              · rw [if_pos u2, u2.1, u2.2, if_neg (by omega), if_pos ⟨rfl, by omega⟩]
              · rw [if_neg u2]
                by_cases u3 : a = k + 1 ∧ j = y + 1
                · rw [if_pos u3, u3.1, u3.2, if_pos ⟨rfl, by omega⟩]
                · rw [if_neg u3, if_neg (by omega), if_neg (by omega), if_neg (by omega)]
                  exact g1 a j ha hj
          · have := xg_min (g3 a j) false (f k y) k y
            exact this.1
          · have := xg_min (g3 a j) false (f k y) k y
            refine this.congr (fun c _ => ?_)
            rw [XQ_step (by omega) q, Bool.eq_false_iff.mpr z]
        obtain ⟨h', w7, w8, w9, w10, e1, e2, e3, e4⟩ := ih (y + 1) (wI (wI (wI h (147 + (p + 1)) (k * 11 + y) (nI (if f k y + 1 < g k y then f k y + 1 else g k y))) (147 + (p + 1)) (k * 11 + y + 11) (nI (if f k y < g (k + 1) y then f k y else g (k + 1) y))) (147 + (p + 1)) (k * 11 + y + 11 + 1) (nI (if f k y + 1 < g (k + 1) (y + 1) then f k y + 1 else g (k + 1) (y + 1)))) (.int (nI (k * 11 + y))) (.int (nI (f k y))) (.int (nI (k * 11 + y + 11))) (by omega) (fun a j ha hj => by rw [wI_ne (by omega), wI_ne (by omega), wI_ne (by omega)]; exact hF a j ha hj) G
        exact ⟨h', w7, w8, w9, w10, s0.trans e1, e2, fun x hx => by rw [e3 x hx, wI_ne hx, wI_ne hx, wI_ne hx], e4⟩
    · rw [if_neg (by have := hle k y; rw [nI_ltN (by omega) (by omega)]; exact q)] at s0
      obtain ⟨h', w7, w8, w9, w10, e1, e2, e3, e4⟩ := ih (y + 1) h _ _ _ (by omega) hF ⟨g, g1, g2', fun a j => (g3 a j).congr (fun c _ => XQ_skip q)⟩
      exact ⟨h', w7, w8, w9, w10, s0.trans e1, e2, e3, e4⟩
theorem m61_28 {d D p t l s : Nat} {f : Nat → Nat → Nat} (hp : p ≤ 9) (hD : D < 16) (hle : ∀ a j, f a j ≤ 1000) (ht : t ≤ 1) (hl : l ≤ 1) (h1 : s ≤ 1) : ∀ (n k : Nat) (h : PH) (v6 v7 v8 v9 v10 : Value), k + n = p + 1 → hI h (17 + D) 1 = nI t → hI h (17 + D) 3 = nI l → hI h 8 1 = nI s → XR h p f → XG h (p + 1) f (fun a => xI t l s a (p + 1)) k 0 → ∃ h', runL (g2 L) (d + 2) 5 false none kc_61 28 [.ref 95, .ref (17 + D), .int (nI (p + 1)), .ref (147 + p), .ref (147 + (p + 1)), .int (nI k), v6, v7, v8, v9, v10] [] h = some (none, h') ∧ XG h' (p + 1) f (fun a => xI t l s a (p + 1)) (p + 1) 0 ∧ (∀ x, x ≠ 147 + (p + 1) → hI h' x = hI h x) ∧ hR h' = hR h := by
  intro n
  induction n with
  | zero =>
    intro k h v6 v7 v8 v9 v10 hk f1 f3 f8 hF hG
    have e : k = p + 1 := by omega
    subst e
    refine ⟨h, ?_, hG, fun _ _ => rfl, rfl⟩
    rw [e61_28, if_pos (by rw [nI_leN (by omega) (by omega)]; omega)]
  | succ n ih =>
    intro k h v6 v7 v8 v9 v10 hk f1 f3 f8 hF hG
    have s0 := e61_28 L (d + 2) (17 + D) (nI (p + 1)) (147 + p) (147 + (p + 1)) (nI k) v6 v7 v8 v9 v10 h
    rw [if_neg (by rw [nI_leN (by omega) (by omega)]; omega), m62 (L := L) d hD f1 ht f3 hl f8 h1, cI_s] at s0
    obtain ⟨h', w7, w8, w9, w10, e1, e2, e3, e4⟩ := m61_47 (L := L) (d := d + 2) (D := D) (k := k) (id := fun a => xI t l s a (p + 1)) hp (by omega) hle (k + 1) 0 h v8 v9 v10 (by omega) hF hG
    obtain ⟨h2, i1, i2, i3, i4⟩ := ih (k + 1) h' (.int (bI (xI t l s k (p + 1) = true))) w7 w8 w9 w10 (by omega) (by rw [e3 _ (by omega)]; exact f1) (by rw [e3 _ (by omega)]; exact f3) (by rw [e3 _ (by omega)]; exact f8) (fun a j ha hj => by rw [e3 _ (by omega)]; exact hF a j ha hj) e2
    exact ⟨h2, s0.trans (e1.trans i1), i2, fun x hx => by rw [i3 x hx, e3 x hx], i4.trans e4⟩
theorem m61 (d : Nat) {D p t l s : Nat} {f : Nat → Nat → Nat} (hp : p ≤ 9) (hD : D < 16) (hle : ∀ a j, f a j ≤ 1000) (hz : ∀ a j, f a j < 1000 → j ≤ a ∧ a ≤ p) (ht : t ≤ 1) (hl : l ≤ 1) (h1 : s ≤ 1) (f1 : hI h (17 + D) 1 = nI t) (f3 : hI h (17 + D) 3 = nI l) (f8 : hI h 8 1 = nI s) (hF : XR h p f) : ∃ h', exec (g2 L) (d + 3) 61 [.ref 95, .ref (17 + D), .int (nI (p + 1))] h = some (none, h') ∧ XR h' (p + 1) (xU f (fun a => xI t l s a (p + 1))) ∧ (∀ x, x ≠ 147 + (p + 1) → hI h' x = hI h x) ∧ hR h' = hR h := by
  have k2 := kk11 (i := p + 1) (by omega)
  obtain ⟨h0, a1, a2, a3, a4⟩ := m55 (L := L) (d + 1) (h := h) k2.1 (by omega) (by omega) k2.2 (by omega) (nI 1000)
  have G0 : XG h0 (p + 1) f (fun a => xI t l s a (p + 1)) 0 0 := by
    refine ⟨fun _ _ => 1000, fun a j ha hj => a2 _ (by omega), fun _ _ => Nat.le_refl _, fun a j => xMin.none.congr (fun c _ => ⟨?_, False.elim⟩)⟩
    rintro ⟨a0, j0, q1, q2, q3⟩
    omega
  obtain ⟨h', e1, ⟨g, g1, g2', g3⟩, e3, e4⟩ := m61_28 (L := L) (d := d) hp hD hle ht hl h1 (p + 1) 0 h0 dm dm dm dm dm (by omega) (by rw [a3 _ (by omega)]; exact f1) (by rw [a3 _ (by omega)]; exact f3) (by rw [a3 _ (by omega)]; exact f8) (fun a j ha hj => by rw [a3 _ (by omega)]; exact hF a j ha hj) G0
  refine ⟨h', ?_, fun a j ha hj => ?_, fun x hx => by rw [e3 x hx, a3 x hx], e4.trans a4⟩
  · rw [x61, nI_m1_plus, inB_nI (by omega), asr_d (by omega), inB_nI (by omega), asr_d (by omega), ix_nI (by omega), ix_nI (by omega), a1, cV_s]
    exact e1
  · rw [g1 a j ha hj]
    congr 1
    refine (g3 a j).one ((xU_min hle _ a j).congr (fun c _ => ⟨?_, ?_⟩))
    · rintro ⟨a0, j0, q1, q2, q3⟩
      exact ⟨a0, j0, q2, q3⟩
    · rintro ⟨a0, j0, q2, q3⟩
      have := hz a0 j0 q2
      exact ⟨a0, j0, by omega, q2, q3⟩
end Xb
