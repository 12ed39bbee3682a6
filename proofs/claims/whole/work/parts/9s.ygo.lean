-- PART: explaining, the reference's going through all sets of breaks.
theorem xval_le {A : Nat → Nat} (hV : XV A) {p : Nat} (hp : xval A p) : p ≤ 440 := by
  have v11 := hV.2.2.2.2.1
  rcases hp with z | ⟨z1, z2⟩
  · omega
  · omega
theorem cO_le {p q : Nat} (hp : p < 1000) (hq : q < 1000) : (cO p ≤ cO q) ↔ p ≤ q := by
  by_cases p0 : p = 0
  · rw [p0, cO_0]
    by_cases q0 : q = 0
    · rw [q0, cO_0]
      exact ⟨fun _ => Nat.le_refl _, fun _ => by decide⟩
    · rw [cO_n q0, m1_le_nI (by omega)]
      exact ⟨fun _ => Nat.zero_le _, fun _ => trivial⟩
  · rw [cO_n p0]
    by_cases q0 : q = 0
    · rw [q0, cO_0, nI_le_m1 (by omega)]
      exact ⟨False.elim, fun z => absurd (Nat.le_zero.mp z) p0⟩
    · rw [cO_n q0, nI_leN (by omega) (by omega)]
      omega
/-- one set more, in the loop whose mark is x1 -/
def YSt (L e : Nat) (A : Nat → Nat) (x1 : Int32) (J : Nat → (Nat → Nat → Prop) → PH → Prop) : Prop := ∀ m V h p q (x2 : Int32) (v5 v6 : Value), J m V h → xSet A p q → m < 200000 → ∃ h' w5 w6, runL (g2 L) e 11 false none kc_197 76 [.ref 253, .int x1, .int x2, .int (cO p), .int (cO q), v5, v6] [.int (nI 1)] h = runL (g2 L) e 11 false none kc_197 37 [.ref 253, .int x1, .int x2, .int (cO p), .int (cO (q + 1)), w5, w6] [] h' ∧ J (m + 1) (VA V p q) h'
section Ys
variable {L : Nat} {A : Nat → Nat} {r : Nat} {J : Nat → (Nat → Nat → Prop) → PH → Prop}
theorem m197_37 {d p : Nat} {x1 x2 : Int32} (hV : XV A) (hp : xval A p) (hJ1 : ∀ m V h, J m V h → YB h A r) (hJ2 : YSt L (d + 1) A x1 J) : ∀ (n q m : Nat) (V : Nat → Nat → Prop) (h : PH) (v5 v6 : Value), q + n = p → m + n < 200000 → J m V h → ∃ m' V' h' w4 w5 w6, runL (g2 L) (d + 1) 11 false none kc_197 37 [.ref 253, .int x1, .int x2, .int (cO p), .int (cO q), v5, v6] [] h = runL (g2 L) (d + 1) 11 false none kc_197 13 [.ref 253, .int x1, .int x2, .int (cO (p + 1)), w4, w5, w6] [] h' ∧ J m' V' h' ∧ m' ≤ m + n ∧ VLe A V V' ∧ ∀ q', q ≤ q' → q' < p → xSet A p q' → V' p q' := by
  have pl := xval_le hV hp
  have v8 := hV.2.1
  have o55 := xs_a (A 8) (by omega)
  intro n
  induction n with
  | zero =>
    intro q m V h v5 v6 hq hm hJ
    have e : q = p := by omega
    subst e
    refine ⟨m, V, h, .int (cO q), v5, v6, ?_, hJ, by omega, VLe.rf, fun q' a b => by omega⟩
    rw [e197_37, if_pos (by rw [cO_le (by omega) (by omega)]; omega), cO_plus]
  | succ n ih =>
    intro q m V h v5 v6 hq hm hJ
    have hB := hJ1 m V h hJ
    have s0 := e197_37 L (d + 1) x1 x2 (cO p) (cO q) v5 v6 h
    rw [if_neg (by rw [cO_le (by omega) (by omega)]; omega)] at s0
    have p0 : p ≠ 0 := by omega
    have hp' : (p - 1) / 55 < A 11 ∧ (p - 1) % 55 < xo (A 8) (A 8) := hp.resolve_left p0
    -- it is a set
    have yes : xSet A p q → ∃ m' V' h' w4 w5 w6, runL (g2 L) (d + 1) 11 false none kc_197 76 [.ref 253, .int x1, .int x2, .int (cO p), .int (cO q), v5, v6] [.int (nI 1)] h = runL (g2 L) (d + 1) 11 false none kc_197 13 [.ref 253, .int x1, .int x2, .int (cO (p + 1)), w4, w5, w6] [] h' ∧ J m' V' h' ∧ m' ≤ m + (n + 1) ∧ VLe A V V' ∧ ∀ q', q ≤ q' → q' < p → xSet A p q' → V' p q' := by
      intro hs
      obtain ⟨h1, w5, w6, g1, g2'⟩ := hJ2 m V h p q x2 v5 v6 hJ hs (by omega)
      obtain ⟨m', V', h', w4, w5', w6', i1, i2, i3, i4, i5⟩ := ih (q + 1) (m + 1) (VA V p q) h1 w5 w6 (by omega) (by omega) g2'
      refine ⟨m', V', h', w4, w5', w6', g1.trans i1, i2, by omega, (VLe.also hs).tr i4, fun q' a b c => ?_⟩
      by_cases e : q' = q
      · subst e
        exact i4.1 _ _ (Or.inr ⟨rfl, rfl⟩)
      · exact i5 q' (by omega) b c
    -- it is none
    have no : ¬ xSet A p q → ∃ m' V' h' w4 w5 w6, runL (g2 L) (d + 1) 11 false none kc_197 76 [.ref 253, .int x1, .int x2, .int (cO p), .int (cO q), v5, v6] [.int (nI 0)] h = runL (g2 L) (d + 1) 11 false none kc_197 13 [.ref 253, .int x1, .int x2, .int (cO (p + 1)), w4, w5, w6] [] h' ∧ J m' V' h' ∧ m' ≤ m + (n + 1) ∧ VLe A V V' ∧ ∀ q', q ≤ q' → q' < p → xSet A p q' → V' p q' := by
      intro hs
      obtain ⟨m', V', h', w4, w5', w6', i1, i2, i3, i4, i5⟩ := ih (q + 1) m V h (.int (nI 0)) v6 (by omega) (by omega) hJ
      refine ⟨m', V', h', w4, w5', w6', ?_, i2, by omega, i4, fun q' a b c => ?_⟩
      · rw [e197_76, if_pos rfl, if_pos rfl, cO_plus]
        exact i1
      · by_cases e : q' = q
        · subst e
          exact absurd c hs
        · exact i5 q' (by omega) b c
    by_cases q0 : q = 0
    · rw [if_pos (show cO q = m1 by rw [q0]; exact cO_0)] at s0
      obtain ⟨m', V', h', w4, w5, w6, e1, e2⟩ := yes ⟨hp, Or.inl q0, Or.inl q0⟩
      exact ⟨m', V', h', w4, w5, w6, s0.trans e1, e2⟩
    · rw [if_neg (cO_m (by omega) q0), hB.2.1.1] at s0
      have rq : cO q % nI 55 = nI ((q - 1) % 55) := by rw [cO_n q0, nI_rest (by omega) (by omega)]
      rw [rq] at s0
      by_cases z : (q - 1) % 55 < xo (A 8) (A 8)
      · rw [if_neg (by rw [nI_leN (by omega) (by omega)]; omega)] at s0
        obtain ⟨x, f1, f2⟩ := m198 (L := L) d hV hB.2.1 hp'.2 z p0 q0 (by omega) (by omega)
        rw [f1, cI_s] at s0
        have hq' : xval A q := Or.inr ⟨by omega, z⟩
        rcases f2 with ⟨f2, f3⟩ | ⟨f2, f3⟩
        · rw [f2, if_neg (by decide)] at s0
          obtain ⟨m', V', h', w4, w5, w6, e1, e2⟩ := yes ⟨hp, hq', Or.inr ⟨p0, f3⟩⟩
          exact ⟨m', V', h', w4, w5, w6, s0.trans e1, e2⟩
        · rw [f2, if_pos rfl] at s0
          obtain ⟨m', V', h', w4, w5, w6, e1, e2⟩ := no (fun w => w.2.2.elim (fun y => q0 y) (fun y => f3 y.2))
          exact ⟨m', V', h', w4, w5, w6, s0.trans e1, e2⟩
      · rw [if_pos (by rw [nI_leN (by omega) (by omega)]; omega)] at s0
        obtain ⟨m', V', h', w4, w5, w6, e1, e2⟩ := no (fun w => w.2.1.elim (fun y => q0 y) (fun y => z y.2))
        exact ⟨m', V', h', w4, w5, w6, s0.trans e1, e2⟩
theorem m197_13 {d : Nat} {x1 : Int32} (hV : XV A) (hJ1 : ∀ m V h, J m V h → YB h A r) (hJ2 : YSt L (d + 1) A x1 J) : ∀ (n p m : Nat) (V : Nat → Nat → Prop) (h : PH) (v4 v5 v6 : Value), p + n = 55 * A 11 + 1 → m + 442 * n < 200000 → J m V h → ∃ m' V' h', runL (g2 L) (d + 1) 11 false none kc_197 13 [.ref 253, .int x1, .int (nI (55 * A 11)), .int (cO p), v4, v5, v6] [] h = some (none, h') ∧ J m' V' h' ∧ VLe A V V' ∧ ∀ p' q', p ≤ p' → q' < p' → xSet A p' q' → V' p' q' := by
  have v8 := hV.2.1
  have v11 := hV.2.2.2.2.1
  have o55 := xs_a (A 8) (by omega)
  intro n
  induction n with
  | zero =>
    intro p m V h v4 v5 v6 hp hm hJ
    refine ⟨m, V, h, ?_, hJ, VLe.rf, fun p' q' a b c => ?_⟩
    · rw [e197_13, if_pos (by rw [cO_n (by omega), nI_leN (by omega) (by omega)]; omega)]
    · exfalso
      rcases c.1 with z | ⟨z1, z2⟩ <;> omega
  | succ n ih =>
    intro p m V h v4 v5 v6 hp hm hJ
    have hB := hJ1 m V h hJ
    have s0 := e197_13 L (d + 1) x1 (nI (55 * A 11)) (cO p) v4 v5 v6 h
    have nle : ¬ nI (55 * A 11) ≤ cO p := by
      rw [show nI (55 * A 11) = cO (55 * A 11 + 1) by rw [cO_s], cO_le (by omega) (by omega)]
      omega
    rw [if_neg nle, hB.2.1.1] at s0
    have yes : xval A p → ∃ m' V' h', runL (g2 L) (d + 1) 11 false none kc_197 37 [.ref 253, .int x1, .int (nI (55 * A 11)), .int (cO p), .int m1, v5, v6] [] h = some (none, h') ∧ J m' V' h' ∧ VLe A V V' ∧ ∀ p' q', p ≤ p' → q' < p' → xSet A p' q' → V' p' q' := by
      intro hv
      obtain ⟨m1', V1, h1, w4, w5, w6, a1, a2, a3, a4, a5⟩ := m197_37 (L := L) (d := d) (p := p) (x1 := x1) (x2 := nI (55 * A 11)) hV hv hJ1 hJ2 p 0 m V h v5 v6 (by omega) (by omega) hJ
      rw [cO_0] at a1
      obtain ⟨m', V', h', i1, i2, i3, i4⟩ := ih (p + 1) m1' V1 h1 w4 w5 w6 (by omega) (by omega) a2
      refine ⟨m', V', h', a1.trans i1, i2, a4.tr i3, fun p' q' b1 b2 b3 => ?_⟩
      by_cases e : p' = p
      · subst e
        exact i3.1 _ _ (a5 q' (Nat.zero_le _) b2 b3)
      · exact i4 p' q' (by omega) b2 b3
    by_cases p0 : p = 0
    · rw [if_pos (show cO p = m1 by rw [p0]; exact cO_0)] at s0
      obtain ⟨m', V', h', e1, e2⟩ := yes (Or.inl p0)
      exact ⟨m', V', h', s0.trans e1, e2⟩
    · rw [if_neg (cO_m (by omega) p0), show cO p % nI 55 = nI ((p - 1) % 55) by rw [cO_n p0, nI_rest (by omega) (by omega)]] at s0
      by_cases z : (p - 1) % 55 < xo (A 8) (A 8)
      · rw [if_neg (by rw [nI_leN (by omega) (by omega)]; omega)] at s0
        obtain ⟨m', V', h', e1, e2⟩ := yes (Or.inr ⟨by omega, z⟩)
        exact ⟨m', V', h', s0.trans e1, e2⟩
      · rw [if_pos (by rw [nI_leN (by omega) (by omega)]; omega), cO_plus] at s0
        obtain ⟨m', V', h', i1, i2, i3, i4⟩ := ih (p + 1) m V h v4 v5 v6 (by omega) (by omega) hJ
        refine ⟨m', V', h', s0.trans i1, i2, i3, fun p' q' b1 b2 b3 => ?_⟩
        by_cases e : p' = p
        · subst e
          exact absurd b3.1 (fun w => w.elim p0 (fun y => z y.2))
        · exact i4 p' q' (by omega) b2 b3
theorem m197 (d : Nat) {x1 : Int32} {m : Nat} {V : Nat → Nat → Prop} {h : PH} (hV : XV A) (hJ1 : ∀ m V h, J m V h → YB h A r) (hJ2 : YSt L (d + 1) A x1 J) (hm : m ≤ 10) (hJ : J m V h) : ∃ m' V' h', exec (g2 L) (d + 2) 197 [.ref 253, .int x1] h = some (none, h') ∧ J m' V' h' ∧ VLe A V V' ∧ ∀ p' q', q' < p' → xSet A p' q' → V' p' q' := by
  have v11 := hV.2.2.2.2.1
  have w11 := (hJ1 m V h hJ).1.at (k := 11) (by omega) (by omega)
  obtain ⟨m', V', h', i1, i2, i3, i4⟩ := m197_13 (L := L) (d := d) (x1 := x1) hV hJ1 hJ2 (55 * A 11 + 1) 0 m V h dm dm dm (by omega) (by omega) hJ
  refine ⟨m', V', h', ?_, i2, i3, fun p' q' a b => i4 p' q' (Nat.zero_le _) a b⟩
  rw [x197, w11, nI_times]
  rw [cO_0] at i1
  exact i1
/-- all was gone through -/
def yCov (A : Nat → Nat) (V : Nat → Nat → Prop) : Prop := (∀ p q, V p q → xSet A p q) ∧ ∀ p q, xSet A p q → V p q ∨ V q p
theorem yCov_of {V V' : Nat → Nat → Prop} (hV : XV A) (h0 : ∀ p q, V p q ↔ (p = 0 ∧ q = 0)) (h1 : VLe A V V') (h2 : ∀ p' q', q' < p' → xSet A p' q' → V' p' q') : yCov A V' := by
  have v8 := hV.2.1
  have o55 := xs_a (A 8) (by omega)
  refine ⟨fun p q hpq => ?_, fun p q hs => ?_⟩
  · rcases h1.2 p q hpq with z | z
    · obtain ⟨rfl, rfl⟩ := (h0 p q).mp z
      exact ⟨Or.inl rfl, Or.inl rfl, Or.inl rfl⟩
    · exact z
  · by_cases a : q < p
    · exact Or.inl (h2 p q a hs)
    · by_cases q0 : q = 0
      · have p0 : p = 0 := by omega
        exact Or.inl (h1.1 _ _ ((h0 p q).mpr ⟨p0, q0⟩))
      · rcases hs.2.2 with z | ⟨z1, z2⟩
        · exact absurd z q0
        · have ne : p ≠ q := by
            intro e
            subst e
            obtain ⟨y1, y2⟩ := hs.1.resolve_left q0
            obtain ⟨w1, _⟩ := xs_in (A 8) (by omega) ((p - 1) % 55) (by omega) y2
            rcases z2 with z2 | z2 | z2
            · exact z2 rfl
            · omega
            · omega
          exact Or.inr (h2 q p (by omega) (hs.sw q0))
/-- the first going through -/
def J1 (h0 : PH) (A : Nat → Nat) (r : Nat) (_m : Nat) (V : Nat → Nat → Prop) (h : PH) : Prop := YB h A r ∧ (∃ v, hI h 253 25 = nI v ∧ xMin (fun c => ∃ p q, V p q ∧ xcost A r p q = c) v) ∧ (∀ x, x ≠ 253 → x ≠ 268 → hI h x = hI h0 x) ∧ ∀ k, k ≠ 25 → hI h 253 k = hI h0 253 k
theorem yc_le (A : Nat → Nat) (r p q : Nat) : yc A r p q ≤ 1000 := by
  unfold yc
  split <;> omega
theorem yc_eq {A : Nat → Nat} {r p q c : Nat} (hc : c < 1000) : (c = yc A r p q) ↔ xcost A r p q = c := by
  unfold yc
  split <;> omega
theorem yc_min {V : Nat → Nat → Prop} {p q v : Nat} (hv : xMin (fun c => ∃ p q, V p q ∧ xcost A r p q = c) v) : xMin (fun c => ∃ p' q', VA V p q p' q' ∧ xcost A r p' q' = c) (if yc A r p q < v then yc A r p q else v) := by
  refine (hv.also (yc A r p q)).congr (fun c hc => ⟨?_, ?_⟩)
  · rintro ⟨p', q', z | ⟨z1, z2⟩, z3⟩
    · exact Or.inl ⟨p', q', z, z3⟩
    · rw [z1, z2] at z3
      exact Or.inr ((yc_eq hc).mpr z3)
  · rintro (⟨p', q', z1, z2⟩ | z)
    · exact ⟨p', q', Or.inl z1, z2⟩
    · exact ⟨p, q, Or.inr ⟨rfl, rfl⟩, (yc_eq hc).mp z⟩
theorem J1_step (d : Nat) {h0 : PH} (hV : XV A) : YSt L (d + 3) A (nI 1) (J1 h0 A r) := by
  intro m V h p q x2 v5 v6 hJ hs _
  obtain ⟨j1, ⟨v, j2, j3⟩, j4, j5⟩ := hJ
  have pl := xval_le hV hs.1
  have ql := xval_le hV hs.2.1
  obtain ⟨h1, a1, a2, a3, a4⟩ := m192 (L := L) d hV j1 hs.1 hs.2.1 (by omega) (by omega)
  have v25 : hI h1 253 25 = nI v := by rw [a4 253 (by omega)]; exact j2
  have s0 := e197_76 L (d + 3) (nI 1) x2 (cO p) (cO q) v5 v6 (nI 1) h
  rw [if_neg (by decide), if_neg (by decide), a1, cI_s, v25, cO_plus] at s0
  have b := yc_le A r p q
  have bv := j3.1
  have fin : ∀ u, u = (if yc A r p q < v then yc A r p q else v) → J1 h0 A r (m + 1) (VA V p q) (wI h1 253 25 (nI u)) := by
    intro u hu
    refine ⟨a3.congr (fun x hx => wI_ne (by omega)) (by rw [hI_wI, if_neg (by omega)]), ⟨u, by rw [hI_wI, if_pos ⟨rfl, rfl⟩], by rw [hu]; exact yc_min j3⟩, fun x p1 p2 => by rw [wI_ne p1, a4 x p2, j4 x p1 p2], fun k hk => by rw [hI_wI, if_neg (fun z => hk z.2), a4 253 (by omega), j5 k hk]⟩
  by_cases z : yc A r p q < v
  · rw [if_neg (by rw [nI_leN (by omega) (by omega)]; omega)] at s0
    exact ⟨_, _, _, s0, fin _ (if_pos z).symm⟩
  · rw [if_pos (by rw [nI_leN (by omega) (by omega)]; omega)] at s0
    exact ⟨_, _, _, s0, fin _ (if_neg z).symm⟩
end Ys
