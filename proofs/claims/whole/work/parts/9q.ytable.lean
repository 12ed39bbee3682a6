-- PART: explaining, the reference's table of a dial: the fewest mishaps, all costs.
theorem cb_all : ∀ W, W < 11 → ∀ M, M < 2 ^ W → ∀ p, p < W → ((2 ^ W - 1 - M) / 2 ^ p % 2 = 1 ↔ ¬ M / 2 ^ p % 2 = 1) := by decide +kernel
def yI (h : PH) (A : Nat → Nat) (r D M i : Nat) : Prop := ∃ f, YR h f ∧ (∀ k, f k ≤ 1000) ∧ yP (xT (xI (A (170 + 8 * D + 1)) (A (170 + 8 * D + 3)) (A 9)) (xok A r D) M i) f i (A (170 + 8 * D + 1)) (A (170 + 8 * D + 3))
theorem YR.congr {h h' : PH} {f : Nat → Nat} (hR0 : YR h f) (e : hI h' 263 = hI h 263) : YR h' f := fun k hk => by
  rw [e]
  exact hR0 k hk
section Yq
variable {L : Nat} {A : Nat → Nat}
theorem m187_3 {d : Nat} (x1 x2 x3 : Int32) : ∀ (n k : Nat) (h : PH), k + n = 242 → (∀ j, j < k → hI h 263 j = nI 1000) → ∃ h', runL (g2 L) d 11 false (some .int) kc_187 3 [.ref 253, .int x1, .int x2, .int x3, .int (nI k), dm, dm] [] h = runL (g2 L) d 11 false (some .int) kc_187 3 [.ref 253, .int x1, .int x2, .int x3, .int (nI 242), dm, dm] [] h' ∧ (∀ j, j < 242 → hI h' 263 j = nI 1000) ∧ ∀ x, x ≠ 263 → hI h' x = hI h x := by
  intro n
  induction n with
  | zero =>
    intro k h hk hj
    have e : k = 242 := by omega
    subst e
    exact ⟨h, rfl, hj, fun _ _ => rfl⟩
  | succ n ih =>
    intro k h hk hj
    have s0 := e187_3 L d x1 x2 x3 (nI k) h
    rw [if_neg (by rw [nI_leN (by omega) (by omega)]; omega), inB_nI (by omega), asr_d (by omega), ix_nI (by omega), nI_plus] at s0
    obtain ⟨h', e1, e2, e3⟩ := ih (k + 1) (wI h 263 k (nI 1000)) (by omega) (fun j hj2 => by
      rw [hI_wI]
      by_cases q : j = k
      · rw [if_pos ⟨rfl, q⟩]
      · rw [if_neg (fun z => q z.2)]
        exact hj j (by omega))
    exact ⟨h', s0.trans e1, e2, fun x hx => by rw [e3 x hx, wI_ne hx]⟩
theorem m187_93 {d : Nat} (x1 x2 x3 x4 x5 : Int32) : ∀ (n k : Nat) (h : PH), k + n = 242 → (∀ j, j < k → hI h 264 j = nI 1000) → ∃ h', runL (g2 L) d 11 false (some .int) kc_187 93 [.ref 253, .int x1, .int x2, .int x3, .int x4, .int x5, .int (nI k)] [] h = runL (g2 L) d 11 false (some .int) kc_187 120 [.ref 253, .int x1, .int x2, .int x3, .int x4, .int x5, .int (nI 0)] [] h' ∧ (∀ j, j < 242 → hI h' 264 j = nI 1000) ∧ ∀ x, x ≠ 264 → hI h' x = hI h x := by
  intro n
  induction n with
  | zero =>
    intro k h hk hj
    have e : k = 242 := by omega
    subst e
    refine ⟨h, ?_, hj, fun _ _ => rfl⟩
    rw [e187_93, if_pos (by rw [nI_leN (by omega) (by omega)]; omega)]
  | succ n ih =>
    intro k h hk hj
    have s0 := e187_93 L d x1 x2 x3 x4 x5 (nI k) h
    rw [if_neg (by rw [nI_leN (by omega) (by omega)]; omega), inB_nI (by omega), asr_d (by omega), ix_nI (by omega), nI_plus] at s0
    obtain ⟨h', e1, e2, e3⟩ := ih (k + 1) (wI h 264 k (nI 1000)) (by omega) (fun j hj2 => by
      rw [hI_wI]
      by_cases q : j = k
      · rw [if_pos ⟨rfl, q⟩]
      · rw [if_neg (fun z => q z.2)]
        exact hj j (by omega))
    exact ⟨h', s0.trans e1, e2, fun x hx => by rw [e3 x hx, wI_ne hx]⟩
theorem m187_158 {d : Nat} (x1 x2 x3 x4 x5 : Int32) : ∀ (n k : Nat) (h : PH), k + n = 242 → (∀ j, j < k → hI h 263 j = hI h 264 j) → ∃ h' w, runL (g2 L) d 11 false (some .int) kc_187 158 [.ref 253, .int x1, .int x2, .int x3, .int x4, .int x5, .int (nI k)] [] h = (cV (exec (g2 L) d 188 [.ref 253, .int x1, .int x4, .int x3] h') fun h1 => runL (g2 L) d 11 false (some .int) kc_187 50 [.ref 253, .int x1, .int x2, .int x3, .int (x4 + (nI 1)), .int x5, w] [] h1) ∧ (∀ j, j < 242 → hI h' 263 j = hI h 264 j) ∧ ∀ x, x ≠ 263 → hI h' x = hI h x := by
  intro n
  induction n with
  | zero =>
    intro k h hk hj
    have e : k = 242 := by omega
    subst e
    refine ⟨h, .int (nI 242), ?_, hj, fun _ _ => rfl⟩
    rw [e187_158, if_pos (by rw [nI_leN (by omega) (by omega)]; omega)]
  | succ n ih =>
    intro k h hk hj
    have s0 := e187_158 L d x1 x2 x3 x4 x5 (nI k) h
    rw [if_neg (by rw [nI_leN (by omega) (by omega)]; omega), inB_nI (by omega), asr_d (by omega), asr_d (by omega), ix_nI (by omega), nI_plus] at s0
    obtain ⟨h', w, e1, e2, e3⟩ := ih (k + 1) (wI h 263 k (hI h 264 k)) (by omega) (fun j hj2 => by
      rw [wI_ne (show (264 : Nat) ≠ 263 by omega), hI_wI]
      by_cases q : j = k
      · rw [if_pos ⟨rfl, q⟩, q]
      · rw [if_neg (fun z => q z.2)]
        exact hj j (by omega))
    exact ⟨h', w, s0.trans e1, fun j hj2 => by rw [e2 j hj2, wI_ne (by omega)], fun x hx => by rw [e3 x hx, wI_ne hx]⟩
theorem m187_120 {d t sg : Nat} {f : Nat → Nat} (x1 x2 x3 x4 : Int32) (ht : t ≤ 1) (hs : sg ≤ 1) (hf : ∀ k, f k ≤ 1000) : ∀ (n k : Nat) (h : PH), k + n = 220 → hI h 253 11 = nI t → YR h f → YG h (yS f t sg k) → ∃ h', runL (g2 L) (d + 2) 11 false (some .int) kc_187 120 [.ref 253, .int x1, .int x2, .int x3, .int x4, .int (nI sg), .int (nI k)] [] h = runL (g2 L) (d + 2) 11 false (some .int) kc_187 158 [.ref 253, .int x1, .int x2, .int x3, .int x4, .int (nI sg), .int (nI 0)] [] h' ∧ YG h' (yS f t sg 220) ∧ ∀ x, x ≠ 264 → hI h' x = hI h x := by
  intro n
  induction n with
  | zero =>
    intro k h hk h11 hR0 hG
    have e : k = 220 := by omega
    subst e
    refine ⟨h, ?_, hG, fun _ _ => rfl⟩
    rw [e187_120, if_pos (by rw [nI_leN (by omega) (by omega)]; omega)]
  | succ n ih =>
    intro k h hk h11 hR0 hG
    have b := hf k
    have s0 := e187_120 L (d + 2) x1 x2 x3 x4 (nI sg) (nI k) h
    rw [if_neg (by rw [nI_leN (by omega) (by omega)]; omega), inB_nI (by omega), asr_d (by omega), ix_nI (by omega), nI_plus, hR0 k (by omega)] at s0
    by_cases q : f k < 1000
    · obtain ⟨h1, a1, a2, a3⟩ := m190 (L := L) d ht hs (show k < 220 by omega) h11 (hR0 k (by omega)) q hG
      rw [if_neg (by rw [nI_leN (by omega) (by omega)]; omega), a1, cV_s] at s0
      obtain ⟨h', e1, e2, e3⟩ := ih (k + 1) h1 (by omega) (by rw [a3 253 (by omega)]; exact h11) (hR0.congr (a3 263 (by omega))) (a2.congr (fun k2 c => yS_step q))
      exact ⟨h', s0.trans e1, e2, fun x hx => by rw [e3 x hx, a3 x hx]⟩
    · rw [if_pos (by rw [nI_leN (by omega) (by omega)]; omega)] at s0
      obtain ⟨h', e1, e2, e3⟩ := ih (k + 1) h (by omega) h11 hR0 (hG.congr (fun k2 c => yS_skip q))
      exact ⟨h', s0.trans e1, e2, e3⟩
theorem m187_50 {d D K r mk : Nat} (hV : XV A) (hY : yK A K r) (hD : D < A 10) (hK : K < 400) (hm : mk < 2 ^ A 8) : ∀ (n i : Nat) (h : PH) (v5 v6 : Value), i + n = A 8 → YC h A D → yI h A r D (2 ^ A 8 - 1 - mk) i → ∃ h' w6, runL (g2 L) (d + 2) 11 false (some .int) kc_187 50 [.ref 253, .int (nI D), .int (nI mk), .int (nI K), .int (nI (i + 1)), v5, v6] [] h = runL (g2 L) (d + 2) 11 false (some .int) kc_187 208 [.ref 253, .int (nI D), .int (nI mk), .int (nI K), .int (nI 1000), .int (nI 0), w6] [] h' ∧ yI h' A r D (2 ^ A 8 - 1 - mk) (A 8) ∧ ∀ x, x ≠ 263 → x ≠ 264 → hI h' x = hI h x := by
  obtain ⟨v7', v8, v9, v10, v11, vB, vL, vR, vS⟩ := id hV
  obtain ⟨l0, l1, l2, l3, l4, l5, l6, l7⟩ := vL D hD
  have p10 : 2 ^ A 8 ≤ 2 ^ 10 := Nat.pow_le_pow_right (by omega) v8
  intro n
  induction n with
  | zero =>
    intro i h v5 v6 hi hC hI0
    have e : i = A 8 := by omega
    subst e
    have w8 := hC.1.at (k := 8) (by omega) (by omega)
    refine ⟨h, v6, ?_, hI0, fun _ _ _ => rfl⟩
    rw [e187_50, w8, if_pos (by rw [nI_ltN (by omega) (by omega)]; omega)]
  | succ n ih =>
    intro i h v5 v6 hi hC hI0
    have w8 := hC.1.at (k := 8) (by omega) (by omega)
    have w9 := hC.1.at (k := 9) (by omega) (by omega)
    obtain ⟨f, f1, f2, f3⟩ := hI0
    have s0 := e187_50 L (d + 2) (nI D) (nI mk) (nI K) (nI (i + 1)) v5 v6 h
    rw [w8, w9, if_neg (by rw [nI_ltN (by omega) (by omega)]; omega), nI_m1_plus, nI_shr (by omega) (by omega), nI_and, Nat.and_one_is_mod, Nat.shiftRight_eq_div_pow, nI_plus, nI_plus, show A 9 + (i + 1) = A 9 + i + 1 from rfl, nI_m1_plus, nI_rest (by omega) (by omega)] at s0
    have cb := cb_all (A 8) (by omega) mk hm i (by omega)
    by_cases q : mk / 2 ^ i % 2 = 1
    · rw [if_neg (by rw [q]; exact fun z => z rfl)] at s0
      obtain ⟨h1, a1, a2, a3⟩ := m187_93 (L := L) (d := d + 2) (nI D) (nI mk) (nI K) (nI (i + 1)) (nI ((A 9 + i) % 2)) 242 0 h (by omega) (fun j hj => absurd hj (Nat.not_lt_zero _))
      obtain ⟨h2, b1, ⟨g, g1, g2', g3⟩, b3⟩ := m187_120 (L := L) (d := d) (t := A (170 + 8 * D + 1)) (sg := (A 9 + i) % 2) (f := f) (nI D) (nI mk) (nI K) (nI (i + 1)) l1 (by omega) f2 220 0 h1 (by omega) (by rw [a3 253 (by omega)]; exact hC.2.2.1) (f1.congr (a3 263 (by omega))) ⟨fun _ => 1000, a2, fun _ => Nat.le_refl _, fun k => xMin.none.congr (fun c _ => ⟨fun ⟨k', z, _⟩ => absurd z (Nat.not_lt_zero _), False.elim⟩)⟩
      obtain ⟨h3, w, c1, c2, c3⟩ := m187_158 (L := L) (d := d + 2) (nI D) (nI mk) (nI K) (nI (i + 1)) (nI ((A 9 + i) % 2)) 242 0 h2 (by omega) (fun j hj => absurd hj (Nat.not_lt_zero _))
      have fr3 : ∀ x, x ≠ 263 → x ≠ 264 → hI h3 x = hI h x := fun x p1 p2 => by rw [c3 x p1, b3 x p2, a3 x p2]
      have C3 : YC h3 A D := hC.congr (fun x _ p1 p2 => fr3 x p1 p2)
      obtain ⟨h4, k1, k2, k3⟩ := m188 (L := L) d (p := i + 1) (f := g) hV hY hD (by omega) hK g2' C3 (fun k hk => by rw [c2 k hk]; exact g1 k hk)
      rw [k1, cV_s, nI_plus] at c1
      have fr4 : ∀ x, x ≠ 263 → x ≠ 264 → hI h4 x = hI h x := fun x p1 p2 => by rw [k3 x p1, fr3 x p1 p2]
      have P4 := (f3.step (s := A 9) (g := g) (xT_le _ i) (xT_z _ i) (by omega) g3).ok (xok A r D (i + 1))
      rw [← xT_0 (by omega)] at P4
      obtain ⟨h', w6, i1, i2, i3⟩ := ih (i + 1) h4 (.int (nI ((A 9 + i) % 2))) w (by omega) (hC.congr (fun x _ p1 p2 => fr4 x p1 p2)) ⟨_, k2, ys_le g2', P4⟩
      exact ⟨h', w6, s0.trans (a1.trans (b1.trans (c1.trans i1))), i2, fun x p1 p2 => by rw [i3 x p1 p2, fr4 x p1 p2]⟩
    · rw [if_pos (by rw [Ne, nI_eqI (by omega) (by omega)]; exact q)] at s0
      obtain ⟨h4, k1, k2, k3⟩ := m188 (L := L) d (p := i + 1) (f := f) hV hY hD (by omega) hK f2 hC f1
      rw [k1, cV_s] at s0
      have P4 := f3.mono.ok (xok A r D (i + 1))
      rw [← xT_1 (cb.mpr q)] at P4
      obtain ⟨h', w6, i1, i2, i3⟩ := ih (i + 1) h4 (.int (nI ((A 9 + i) % 2))) v6 (by omega) (hC.congr (fun x _ p1 p2 => k3 x p1)) ⟨_, k2, ys_le f2, P4⟩
      exact ⟨h', w6, s0.trans i1, i2, fun x p1 p2 => by rw [i3 x p1 p2, k3 x p1]⟩
theorem m187_208 {d : Nat} {f : Nat → Nat} {h : PH} (x1 x2 x3 : Int32) (hf : ∀ k, f k ≤ 1000) (hR0 : YR h f) : ∀ (n k v : Nat) (v6 : Value), k + n = 242 → xMin (fun c => ∃ k', k' < k ∧ f k' < 1000 ∧ c = f k' + k' % 11) v → ∃ v', runL (g2 L) d 11 false (some .int) kc_187 208 [.ref 253, .int x1, .int x2, .int x3, .int (nI v), .int (nI k), v6] [] h = some (some (.int (nI v')), h) ∧ xMin (fun c => ∃ k', k' < 242 ∧ f k' < 1000 ∧ c = f k' + k' % 11) v' := by
  intro n
  induction n with
  | zero =>
    intro k v v6 hk hv
    have e : k = 242 := by omega
    subst e
    refine ⟨v, ?_, hv⟩
    rw [e187_208, if_pos (by rw [nI_leN (by omega) (by omega)]; omega)]
  | succ n ih =>
    intro k v v6 hk hv
    have b := hf k
    have bv := hv.1
    have s0 := e187_208 L d x1 x2 x3 (nI v) (nI k) v6 h
    rw [if_neg (by rw [nI_leN (by omega) (by omega)]; omega), inB_nI (by omega), asr_d (by omega), asr_d (by omega), ix_nI (by omega), nI_plus, hR0 k (by omega), nI_rest (by omega) (by omega), nI_plus] at s0
    by_cases q : f k < 1000
    · rw [if_neg (by rw [nI_leN (by omega) (by omega)]; omega)] at s0
      have al : xMin (fun c => ∃ k', k' < k + 1 ∧ f k' < 1000 ∧ c = f k' + k' % 11) (if f k + k % 11 < v then f k + k % 11 else v) := by
        refine (hv.also (f k + k % 11)).congr (fun c _ => ⟨?_, ?_⟩)
        · rintro ⟨k', z1, z2, z3⟩
          by_cases e : k' = k
          · subst e
            exact Or.inr z3
          · exact Or.inl ⟨k', by omega, z2, z3⟩
        · rintro (⟨k', z1, z2, z3⟩ | z)
          · exact ⟨k', by omega, z2, z3⟩
          · exact ⟨k, by omega, q, z⟩
      by_cases y : f k + k % 11 < v
      · rw [if_pos y] at al
        rw [if_neg (by rw [nI_leN (by omega) (by omega)]; omega)] at s0
        obtain ⟨v', e1, e2⟩ := ih (k + 1) _ (.int (nI (f k + k % 11))) (by omega) al
        exact ⟨v', s0.trans e1, e2⟩
      · rw [if_neg y] at al
        rw [if_pos (by rw [nI_leN (by omega) (by omega)]; omega)] at s0
        obtain ⟨v', e1, e2⟩ := ih (k + 1) _ (.int (nI (f k + k % 11))) (by omega) al
        exact ⟨v', s0.trans e1, e2⟩
    · rw [if_pos (by rw [nI_leN (by omega) (by omega)]; omega)] at s0
      have hv' : xMin (fun c => ∃ k', k' < k + 1 ∧ f k' < 1000 ∧ c = f k' + k' % 11) v := by
        refine hv.congr (fun c _ => ⟨?_, ?_⟩)
        · rintro ⟨k', z1, z2, z3⟩
          by_cases e : k' = k
          · subst e
            exact absurd z2 q
          · exact ⟨k', by omega, z2, z3⟩
        · rintro ⟨k', z1, z2, z3⟩
          exact ⟨k', by omega, z2, z3⟩
      obtain ⟨v', e1, e2⟩ := ih (k + 1) v (.int (nI (f k + k % 11))) (by omega) hv'
      exact ⟨v', s0.trans e1, e2⟩
theorem xT_first {idl : Nat → Nat → Bool} {ok : Nat → Nat → Nat → Bool} (M : Nat) : xT idl ok M 0 = fo (fun a j => if a = 0 ∧ j = 0 then 0 else 1000) (ok 0) := by
  funext a j
  show _ = if ok 0 a j = true then (if a = 0 ∧ j = 0 then 0 else 1000) else 1000
  unfold xT
  by_cases q : ok 0 a j = true
  · rw [if_pos q]
    by_cases z : a = 0 ∧ j = 0
    · rw [if_pos ⟨q, z⟩, if_pos z]
    · rw [if_neg (fun w => z w.2), if_neg z]
  · rw [if_neg q, if_neg (fun w => q w.1)]
theorem m187 (d : Nat) {D K r mk : Nat} {h : PH} (hV : XV A) (hY : yK A K r) (hD : D < A 10) (hK : K < 400) (hm : mk < 2 ^ A 8) (hC : YC h A D) : ∃ h', exec (g2 L) (d + 3) 187 [.ref 253, .int (nI D), .int (nI mk), .int (nI K)] h = some (some (.int (nI (xD (xI (A (170 + 8 * D + 1)) (A (170 + 8 * D + 3)) (A 9)) (xok A r D) (A 8) (2 ^ A 8 - 1 - mk)))), h') ∧ ∀ x, x ≠ 263 → x ≠ 264 → hI h' x = hI h x := by
  obtain ⟨v7', v8, v9, v10, v11, vB, vL, vR, vS⟩ := id hV
  obtain ⟨l0, l1, l2, l3, l4, l5, l6, l7⟩ := vL D hD
  obtain ⟨h1, a1, a2, a3⟩ := m187_3 (L := L) (d := d + 2) (nI D) (nI mk) (nI K) 242 0 h (by omega) (fun j hj => absurd hj (Nat.not_lt_zero _))
  have s0 := e187_3 L (d + 2) (nI D) (nI mk) (nI K) (nI 242) h1
  rw [if_pos (by rw [nI_leN (by omega) (by omega)]; omega), a3 253 (by omega), hC.2.2.2, nI_times, inB_nI (by omega), asr_d (by omega), ix_nI (by omega)] at s0
  obtain ⟨h2, b1, b2, b3⟩ := m188 (L := L) d (p := 0) (f := fun k => if k = 11 * A (170 + 8 * D + 3) then 0 else 1000) (h := wI h1 263 (11 * A (170 + 8 * D + 3)) (nI 0)) hV hY hD (by omega) hK (fun k => by
    show (if k = 11 * A (170 + 8 * D + 3) then 0 else 1000) ≤ 1000
    split <;> omega) (hC.congr (fun x _ p1 p2 => by rw [wI_ne p1, a3 x p1])) (fun k hk => by
    show _ = nI (if k = 11 * A (170 + 8 * D + 3) then 0 else 1000)
    rw [hI_wI]
    by_cases q : k = 11 * A (170 + 8 * D + 3)
    · rw [if_pos ⟨rfl, q⟩, if_pos q]
    · rw [if_neg (fun z => q z.2), if_neg q]
      exact a2 k hk)
  rw [b1, cV_s] at s0
  have fr2 : ∀ x, x ≠ 263 → x ≠ 264 → hI h2 x = hI h x := fun x p1 p2 => by rw [b3 x p1, wI_ne p1, a3 x p1]
  have P0 := (yP.first (t := A (170 + 8 * D + 1)) l3).ok (xok A r D 0)
  rw [← xT_first (idl := xI (A (170 + 8 * D + 1)) (A (170 + 8 * D + 3)) (A 9)) (ok := xok A r D) (2 ^ A 8 - 1 - mk)] at P0
  obtain ⟨h3, w6, c1, ⟨f, f1, f2, f3⟩, c3⟩ := m187_50 (L := L) (d := d) hV hY hD hK hm (A 8) 0 h2 dm dm (by omega) (hC.congr (fun x _ p1 p2 => fr2 x p1 p2)) ⟨_, b2, ys_le (fun k => by
    show (if k = 11 * A (170 + 8 * D + 3) then 0 else 1000) ≤ 1000
    split <;> omega), P0⟩
  obtain ⟨v, e1, e2⟩ := m187_208 (L := L) (d := d + 2) (nI D) (nI mk) (nI K) f2 f1 242 0 1000 w6 (by omega) (xMin.none.congr (fun c _ => ⟨fun ⟨k', z, _⟩ => absurd z (Nat.not_lt_zero _), False.elim⟩))
  have ev := yP.last v8 f3 e2
  subst ev
  refine ⟨h3, ?_, fun x p1 p2 => by rw [c3 x p1 p2, fr2 x p1 p2]⟩
  rw [x187]
  exact a1.trans (s0.trans (c1.trans e1))
def yN (A : Nat → Nat) (D K i : Nat) : Bool := decide (∀ k, k < i → A (320 + 4 * k) = D → ¬ A (320 + 4 * k + 3) ≤ K)
theorem m185_5 {d D K : Nat} {h : PH} (hV : XV A) (hM : RM h 254 A) (hD : D < 16) (hK : K < 400) : ∀ (n i : Nat) (x3 : Int32), i + n = A 7 → x3 = bI (¬ yN A D K i = true) → runL (g2 L) d 11 false (some .boolean) kc_185 5 [.ref 253, .int (nI D), .int (nI K), .int x3, .int (nI i)] [] h = some (some (.int (bI (¬ yN A D K (A 7) = true))), h) := by
  obtain ⟨v7', v8, v9, v10, v11, vB, vL, vR, vS⟩ := id hV
  have w7 := hM.at (k := 7) (by omega) (by omega)
  intro n
  induction n with
  | zero =>
    intro i x3 hi hx
    have e : i = A 7 := by omega
    subst e
    rw [e185_5, w7, if_pos (by rw [nI_leN (by omega) (by omega)]; omega), hx, bI_Z]
    rfl
  | succ n ih =>
    intro i x3 hi hx
    obtain ⟨u0, u1, u2, u3⟩ := vR i (by omega)
    have r0 := hM.at (k := 320 + 4 * i) (by omega) (by omega)
    have r3 := hM.at (k := 320 + 4 * i + 3) (by omega) (by omega)
    have sp : (yN A D K (i + 1) = true) ↔ (yN A D K i = true ∧ (A (320 + 4 * i) = D → ¬ A (320 + 4 * i + 3) ≤ K)) := by
      unfold yN
      rw [decide_eq_true_iff, decide_eq_true_iff]
      constructor
      · intro z
        exact ⟨fun k hk => z k (by omega), z i (by omega)⟩
      · rintro ⟨z1, z2⟩ k hk
        by_cases e : k = i
        · subst e
          exact z2
        · exact z1 k (by omega)
    have go : ∀ x3', x3' = bI (¬ yN A D K (i + 1) = true) → runL (g2 L) d 11 false (some .boolean) kc_185 5 [.ref 253, .int (nI D), .int (nI K), .int x3', .int (nI (i + 1))] [] h = some (some (.int (bI (¬ yN A D K (A 7) = true))), h) := fun x3' hx' => ih (i + 1) x3' (by omega) hx'
    have s0 := e185_5 L d (nI D) (nI K) x3 (nI i) h
    simp (disch := omega) only [nI_times, nI_plus, inB_nI, ix_nI, asr_d] at s0
    rw [w7, if_neg (by rw [nI_leN (by omega) (by omega)]; omega), r0, r3] at s0
    rw [s0]
    by_cases y : yN A D K i = true
    · rw [hx, bI_f (not_not_intro y), if_neg (fun z => z rfl)]
      by_cases q0 : A (320 + 4 * i) = D
      · rw [if_neg (by rw [q0]; exact fun z => z rfl)]
        by_cases q3 : A (320 + 4 * i + 3) ≤ K
        · rw [if_neg (by rw [nI_ltN (by omega) (by omega)]; omega)]
          exact go _ (bI_t (show ¬ yN A D K (i + 1) = true from fun z => (sp.mp z).2 q0 q3)).symm
        · rw [if_pos (by rw [nI_ltN (by omega) (by omega)]; omega)]
          exact go _ (bI_f (not_not_intro (sp.mpr ⟨y, fun _ => q3⟩))).symm
      · rw [if_pos (by rw [Ne, nI_eqI (by omega) (by omega)]; exact q0)]
        exact go _ (bI_f (not_not_intro (sp.mpr ⟨y, fun z => absurd z q0⟩))).symm
    · rw [hx, bI_t y, if_pos (by decide)]
      exact go _ (bI_t (show ¬ yN A D K (i + 1) = true from fun z => y (sp.mp z).1)).symm
theorem yN_x {D K r : Nat} (hY : yK A K r) : (yN A D K (A 7) = true) ↔ xnr A r D = true := by
  unfold yN xnr
  rw [decide_eq_true_iff, decide_eq_true_iff]
  constructor
  · intro z k hk q
    have h7 : k < A 7 := Nat.lt_of_lt_of_le hk hY.1
    exact z k h7 q ((hY.2 k h7).mp hk)
  · intro z k hk q q3
    exact z k ((hY.2 k hk).mpr q3) q
theorem m185 (d : Nat) {D K r : Nat} {h : PH} (hV : XV A) (hY : yK A K r) (hM : RM h 254 A) (hD : D < 16) (hK : K < 400) : exec (g2 L) (d + 1) 185 [.ref 253, .int (nI D), .int (nI K)] h = some (some (.int (bI (¬ xnr A r D = true))), h) := by
  rw [x185, m185_5 (L := L) hV hM hD hK (A 7) 0 (nI 0) (by omega) (bI_f (not_not_intro (by unfold yN; rw [decide_eq_true_iff]; exact fun k hk => absurd hk (Nat.not_lt_zero _)))).symm, bI_c (not_congr (yN_x hY))]
theorem tkH_ne {h : PH} {k x : Nat} {v : Int32} (hx : x ≠ 253) : hI (tkH h k v) x = hI h x := by
  unfold tkH
  rw [wI_ne hx, wI_ne hx, wI_ne hx, wI_ne hx, wI_ne hx, wI_ne hx]
theorem tkH_at {h : PH} {k j : Nat} {v : Int32} (hj : j < 11 ∨ 16 < j) : hI (tkH h k v) 253 j = hI h 253 j := by
  unfold tkH
  rw [hI_wI, if_neg (by omega), hI_wI, if_neg (by omega), hI_wI, if_neg (by omega), hI_wI, if_neg (by omega), hI_wI, if_neg (by omega), hI_wI, if_neg (by omega)]
theorem RM.th {h : PH} {D : Nat} (hM : RM h 254 A) (hD : D < 16) (ht : A (170 + 8 * D + 1) ≤ 1) (d : Nat) : exec (g2 L) (d + 1) 168 [.ref 253, .int (nI 170 + nI 8 * nI D)] h = some (none, tkH h (170 + 8 * D) (nI (A (170 + 8 * D + 1)))) ∧ TH (tkH h (170 + 8 * D) (nI (A (170 + 8 * D + 1)))) (A (170 + 8 * D + 1)) (A (170 + 8 * D + 2)) (A (170 + 8 * D + 3)) (A (170 + 8 * D + 4)) (A (170 + 8 * D + 5)) (A (170 + 8 * D + 6)) := by
  refine ⟨?_, tkH_TH (hM.at (by omega) (by omega)) (hM.at (by omega) (by omega)) (hM.at (by omega) (by omega)) (hM.at (by omega) (by omega)) (hM.at (by omega) (by omega))⟩
  rw [nI_times, nI_plus]
  exact m168 (L := L) d (by omega) (hM.at (by omega) (by omega)) ht
theorem m186_24 {d D : Nat} (x1 : Int32) (l4 : A (170 + 8 * D + 4) ≤ 100000000) (l2 : A (170 + 8 * D + 2) < 720) (l5 : A (170 + 8 * D + 5) ≤ 999) (l6 : A (170 + 8 * D + 6) ≤ 999) : ∀ (n k : Nat) (h : PH), k + n = 10 → TH h (A (170 + 8 * D + 1)) (A (170 + 8 * D + 2)) (A (170 + 8 * D + 3)) (A (170 + 8 * D + 4)) (A (170 + 8 * D + 5)) (A (170 + 8 * D + 6)) → (∀ a, a ≤ k → hI h 265 a = nI (A (170 + 8 * D + 2) + xF A D a)) → ∃ h', runL (g2 L) (d + 1) 11 false none kc_186 24 [.ref 253, .int x1, .int (nI (k + 1))] [] h = some (none, h') ∧ (∀ a, a ≤ 10 → hI h' 265 a = nI (A (170 + 8 * D + 2) + xF A D a)) ∧ ∀ x, x ≠ 265 → hI h' x = hI h x := by
  intro n
  induction n with
  | zero =>
    intro k h hk hT ha
    have e : k = 10 := by omega
    subst e
    refine ⟨h, ?_, ha, fun _ _ => rfl⟩
    rw [e186_24, if_pos (by rw [nI_leN (by omega) (by omega)]; omega)]
  | succ n ih =>
    intro k h hk hT ha
    have s0 := e186_24 L (d + 1) x1 (nI (k + 1)) h
    rw [if_neg (by rw [nI_leN (by omega) (by omega)]; omega), nI_m1_plus, inB_nI (by omega), asr_d (by omega), hT.2.2.2.2.2, nI_plus, m170 (L := L) d hT.2.1 hT.2.2.1 l5 l6 (by omega), cI_s, inB_nI (by omega), asr_d (by omega), ix_nI (by omega), ix_nI (by omega), ha k (Nat.le_refl _), nI_plus, nI_plus] at s0
    have ef : A (170 + 8 * D + 2) + xF A D k + gn (A (170 + 8 * D + 5)) (A (170 + 8 * D + 6)) (A (170 + 8 * D + 4) + (k + 1)) = A (170 + 8 * D + 2) + xF A D (k + 1) := Nat.add_assoc _ _ _
    rw [ef] at s0
    obtain ⟨h', e1, e2, e3⟩ := ih (k + 1) (wI h 265 (k + 1) (nI (A (170 + 8 * D + 2) + xF A D (k + 1)))) (by omega) (by
      unfold TH at hT ⊢
      rw [wI_ne (by omega)]
      exact hT) (fun a ha2 => by
      rw [hI_wI]
      by_cases q : a = k + 1
      · rw [if_pos ⟨rfl, q⟩, q]
      · rw [if_neg (fun z => q z.2)]
        exact ha a (by omega))
    exact ⟨h', s0.trans e1, e2, fun x hx => by rw [e3 x hx, wI_ne hx]⟩
theorem m186 (d : Nat) {D : Nat} {h : PH} (hV : XV A) (hD : D < A 10) (hM : RM h 254 A) : ∃ h', exec (g2 L) (d + 2) 186 [.ref 253, .int (nI D)] h = some (none, h') ∧ YC h' A D ∧ (∀ x, x ≠ 253 → x ≠ 265 → hI h' x = hI h x) ∧ ∀ k, (k < 11 ∨ 16 < k) → hI h' 253 k = hI h 253 k := by
  obtain ⟨v7', v8, v9, v10, v11, vB, vL, vR, vS⟩ := id hV
  obtain ⟨l0, l1, l2, l3, l4, l5, l6, l7⟩ := vL D hD
  obtain ⟨t1, t2⟩ := hM.th (L := L) (D := D) (by omega) l1 d
  obtain ⟨h', e1, e2, e3⟩ := m186_24 (L := L) (A := A) (d := d) (D := D) (nI D) l4 l2 l5 l6 10 0 (wI (tkH h (170 + 8 * D) (nI (A (170 + 8 * D + 1)))) 265 0 (nI (A (170 + 8 * D + 2)))) (by omega) (by
    unfold TH at t2 ⊢
    rw [wI_ne (by omega)]
    exact t2) (fun a ha => by
    have z : a = 0 := by omega
    subst z
    rw [hI_wI, if_pos ⟨rfl, rfl⟩]
    rfl)
  refine ⟨h', ?_, ⟨hM.congr ?_, e2, ?_, ?_⟩, fun x p1 p2 => by rw [e3 x p2, wI_ne p2, tkH_ne p1], fun k hk => by rw [e3 253 (by omega), wI_ne (by omega), tkH_at hk]⟩
  · rw [x186, t1, cV_s, t2.2.2.2.1]
    exact e1
  · rw [e3 254 (by omega), wI_ne (by omega), tkH_ne (by omega)]
  · rw [e3 253 (by omega), wI_ne (by omega)]
    exact t2.1
  · rw [e3 253 (by omega), wI_ne (by omega)]
    exact t2.2.2.2.2.1
/-- the costs of n dials -/
def YCo (h : PH) (A : Nat → Nat) (r n : Nat) : Prop := ∀ D, D < n → ∀ mk, mk < 2 ^ A 8 → hI h 262 (1024 * D + mk) = nI (xDD A r D (2 ^ A 8 - 1 - mk))
theorem m184_32 {d D K r : Nat} (hV : XV A) (hY : yK A K r) (hD : D < A 10) (hK : K < 400) (x3 : Int32) : ∀ (n mk : Nat) (h : PH), mk + n = 2 ^ A 8 → RM h 254 A → ((xnr A r D = true ∧ x3 = nI 0) ∨ (¬ xnr A r D = true ∧ x3 = nI 1 ∧ YC h A D)) → (∀ m, m < mk → hI h 262 (1024 * D + m) = nI (xDD A r D (2 ^ A 8 - 1 - m))) → ∃ h' w4, runL (g2 L) (d + 3) 11 false none kc_184 32 [.ref 253, .int (nI K), .int (nI D), .int x3, .int (nI mk)] [] h = runL (g2 L) (d + 3) 11 false none kc_184 2 [.ref 253, .int (nI K), .int (nI (D + 1)), .int x3, w4] [] h' ∧ (∀ m, m < 2 ^ A 8 → hI h' 262 (1024 * D + m) = nI (xDD A r D (2 ^ A 8 - 1 - m))) ∧ (∀ j, j < 1024 * D → hI h' 262 j = hI h 262 j) ∧ ∀ x, x ≠ 262 → x ≠ 263 → x ≠ 264 → hI h' x = hI h x := by
  obtain ⟨v7', v8, v9, v10, v11, vB, vL, vR, vS⟩ := id hV
  have p10 : 2 ^ A 8 ≤ 2 ^ 10 := Nat.pow_le_pow_right (by omega) v8
  intro n
  induction n with
  | zero =>
    intro mk h hm hM hx hc
    have e : mk = 2 ^ A 8 := by omega
    subst e
    have w8 := hM.at (k := 8) (by omega) (by omega)
    refine ⟨h, .int (nI (2 ^ A 8)), ?_, hc, fun _ _ => rfl, fun _ _ _ _ => rfl⟩
    rw [e184_32, w8, nI_shl 1 (by omega), Nat.one_shiftLeft, if_pos (by rw [nI_leN (by omega) (by omega)]; omega), nI_plus]
  | succ n ih =>
    intro mk h hm hM hx hc
    have w8 := hM.at (k := 8) (by omega) (by omega)
    have s0 := e184_32 L (d + 3) (nI K) (nI D) x3 (nI mk) h
    rw [w8, nI_shl 1 (by omega), Nat.one_shiftLeft, if_neg (by rw [nI_leN (by omega) (by omega)]; omega), nI_times, nI_plus, nI_plus, inB_nI (by omega), asr_d (by omega), ix_nI (by omega)] at s0
    have stp : ∀ h1, (∀ x, x ≠ 263 → x ≠ 264 → hI h1 x = hI h x) → ∃ h' w4, runL (g2 L) (d + 3) 11 false none kc_184 32 [.ref 253, .int (nI K), .int (nI D), .int x3, .int (nI (mk + 1))] [] (wI h1 262 (1024 * D + mk) (nI (xDD A r D (2 ^ A 8 - 1 - mk)))) = runL (g2 L) (d + 3) 11 false none kc_184 2 [.ref 253, .int (nI K), .int (nI (D + 1)), .int x3, w4] [] h' ∧ (∀ m, m < 2 ^ A 8 → hI h' 262 (1024 * D + m) = nI (xDD A r D (2 ^ A 8 - 1 - m))) ∧ (∀ j, j < 1024 * D → hI h' 262 j = hI h 262 j) ∧ ∀ x, x ≠ 262 → x ≠ 263 → x ≠ 264 → hI h' x = hI h x := by
      intro h1 e1
      obtain ⟨h', w4, i1, i2, i3, i4⟩ := ih (mk + 1) (wI h1 262 (1024 * D + mk) (nI (xDD A r D (2 ^ A 8 - 1 - mk)))) (by omega) (hM.congr (by rw [wI_ne (by omega), e1 254 (by omega) (by omega)])) (hx.imp id (fun z => ⟨z.1, z.2.1, z.2.2.congr (fun x p1 p2 p3 => by rw [wI_ne p1, e1 x p2 p3])⟩)) (fun m hm2 => by
        rw [hI_wI]
        by_cases q : m = mk
        · rw [if_pos ⟨rfl, by omega⟩, q]
        · rw [if_neg (by omega), e1 262 (by omega) (by omega)]
          exact hc m (by omega))
      exact ⟨h', w4, i1, i2, fun j hj => by rw [i3 j hj, hI_wI, if_neg (by omega), e1 262 (by omega) (by omega)], fun x p1 p2 p3 => by rw [i4 x p1 p2 p3, wI_ne p1, e1 x p2 p3]⟩
    rcases id hx with ⟨z1, z2⟩ | ⟨z1, z2, z3⟩
    · obtain ⟨h', w4, i1, i2⟩ := stp h (fun _ _ _ => rfl)
      have e0 : xDD A r D (2 ^ A 8 - 1 - mk) = 0 := by
        unfold xDD
        rw [if_pos z1]
      rw [e0] at i1
      rw [if_pos z2] at s0
      exact ⟨h', w4, s0.trans i1, i2⟩
    · obtain ⟨h1, a1, a2⟩ := m187 (L := L) d (mk := mk) hV hY hD hK (by omega) z3
      obtain ⟨h', w4, i1, i2⟩ := stp h1 a2
      have e0 : xDD A r D (2 ^ A 8 - 1 - mk) = xD (xI (A (170 + 8 * D + 1)) (A (170 + 8 * D + 3)) (A 9)) (xok A r D) (A 8) (2 ^ A 8 - 1 - mk) := by
        unfold xDD
        rw [if_neg z1]
      rw [e0] at i1
      rw [if_neg (by rw [z2]; decide), a1, cI_s, asr_d (by omega)] at s0
      exact ⟨h', w4, s0.trans i1, i2⟩
/-- what the reference's explaining writes -/
def YF (h h' : PH) : Prop := (∀ x, x ≠ 253 → ¬ (262 ≤ x ∧ x ≤ 271) → hI h' x = hI h x) ∧ ∀ k, k < 11 → hI h' 253 k = hI h 253 k
theorem YF.rf {h : PH} : YF h h := ⟨fun _ _ _ => rfl, fun _ _ => rfl⟩
theorem YF.tr {a b c : PH} (h1 : YF a b) (h2 : YF b c) : YF a c := ⟨fun x p q => (h2.1 x p q).trans (h1.1 x p q), fun k p => (h2.2 k p).trans (h1.2 k p)⟩
theorem RM.yf {h h' : PH} (hM : RM h 254 A) (hF : YF h h') : RM h' 254 A := hM.congr (hF.1 254 (by omega) (by omega))
theorem YCo.keep {h h' : PH} {r n : Nat} (hc : YCo h A r n) (hn : n ≤ 16) (h8 : A 8 ≤ 10) (e : ∀ j, j < 1024 * n → hI h' 262 j = hI h 262 j) : YCo h' A r n := by
  have p10 : 2 ^ A 8 ≤ 2 ^ 10 := Nat.pow_le_pow_right (by omega) h8
  intro D hD mk hm
  rw [e _ (by omega)]
  exact hc D hD mk hm
theorem m184_2 {d K r : Nat} (hV : XV A) (hY : yK A K r) (hK : K < 400) : ∀ (n D : Nat) (h : PH) (v3 v4 : Value), D + n = A 10 → RM h 254 A → YCo h A r D → ∃ h', runL (g2 L) (d + 3) 11 false none kc_184 2 [.ref 253, .int (nI K), .int (nI D), v3, v4] [] h = some (none, h') ∧ YCo h' A r (A 10) ∧ YF h h' ∧ (∀ x, x ≠ 253 → ¬ (262 ≤ x ∧ x ≤ 265) → hI h' x = hI h x) ∧ ∀ k, (k < 11 ∨ 16 < k) → hI h' 253 k = hI h 253 k := by
  obtain ⟨v7', v8, v9, v10, v11, vB, vL, vR, vS⟩ := id hV
  have p10 : 2 ^ A 8 ≤ 2 ^ 10 := Nat.pow_le_pow_right (by omega) v8
  intro n
  induction n with
  | zero =>
    intro D h v3 v4 hD hM hc
    have e : D = A 10 := by omega
    subst e
    have w10 := hM.at (k := 10) (by omega) (by omega)
    refine ⟨h, ?_, hc, YF.rf, fun _ _ _ => rfl, fun _ _ => rfl⟩
    rw [e184_2, w10, if_pos (by rw [nI_leN (by omega) (by omega)]; omega)]
  | succ n ih =>
    intro D h v3 v4 hD hM hc
    have w10 := hM.at (k := 10) (by omega) (by omega)
    have s0 := e184_2 L (d + 3) (nI K) (nI D) v3 v4 h
    rw [w10, if_neg (by rw [nI_leN (by omega) (by omega)]; omega), m185 (L := L) (d + 2) hV hY hM (by omega) hK, cI_s] at s0
    have stp : ∀ (x3 : Int32) (h1 : PH), ((xnr A r D = true ∧ x3 = nI 0) ∨ (¬ xnr A r D = true ∧ x3 = nI 1 ∧ YC h1 A D)) → (∀ x, x ≠ 253 → x ≠ 265 → hI h1 x = hI h x) → (∀ k, (k < 11 ∨ 16 < k) → hI h1 253 k = hI h 253 k) → ∃ h', runL (g2 L) (d + 3) 11 false none kc_184 32 [.ref 253, .int (nI K), .int (nI D), .int x3, .int (nI 0)] [] h1 = some (none, h') ∧ YCo h' A r (A 10) ∧ YF h h' ∧ (∀ x, x ≠ 253 → ¬ (262 ≤ x ∧ x ≤ 265) → hI h' x = hI h x) ∧ ∀ k, (k < 11 ∨ 16 < k) → hI h' 253 k = hI h 253 k := by
      intro x3 h1 hx e1 e2
      obtain ⟨h2, w4, b1, b2, b3, b4⟩ := m184_32 (L := L) (d := d) hV hY (show D < A 10 by omega) hK x3 (2 ^ A 8) 0 h1 (by omega) (hM.congr (e1 254 (by omega) (by omega))) hx (fun m hm => absurd hm (Nat.not_lt_zero _))
      have fr : ∀ x, x ≠ 253 → ¬ (262 ≤ x ∧ x ≤ 265) → hI h2 x = hI h x := fun x p1 p2 => by rw [b4 x (by omega) (by omega) (by omega), e1 x p1 (by omega)]
      have fk : ∀ k, (k < 11 ∨ 16 < k) → hI h2 253 k = hI h 253 k := fun k hk => by rw [b4 253 (by omega) (by omega) (by omega), e2 k hk]
      obtain ⟨h', i1, i2, i3, i4, i5⟩ := ih (D + 1) h2 (.int x3) w4 (by omega) (hM.congr (fr 254 (by omega) (by omega))) (fun D' hD' mk hm => by
        by_cases q : D' = D
        · subst q
          exact b2 mk hm
        · rw [b3 _ (by omega), e1 262 (by omega) (by omega)]
          exact hc D' (by omega) mk hm)
      exact ⟨h', b1.trans i1, i2, YF.tr ⟨fun x p1 p2 => fr x p1 (by omega), fun k hk => fk k (Or.inl hk)⟩ i3, fun x p1 p2 => by rw [i4 x p1 p2, fr x p1 p2], fun k hk => by rw [i5 k hk, fk k hk]⟩
    by_cases q : xnr A r D = true
    · rw [bI_f (not_not_intro q), if_pos rfl] at s0
      obtain ⟨h', i1, i2⟩ := stp (nI 0) h (Or.inl ⟨q, rfl⟩) (fun _ _ _ => rfl) (fun _ _ => rfl)
      exact ⟨h', s0.trans i1, i2⟩
    · obtain ⟨h1, a1, a2, a3, a4⟩ := m186 (L := L) (d + 1) hV (show D < A 10 by omega) hM
      rw [bI_t q, if_neg (by decide), a1, cV_s] at s0
      obtain ⟨h', i1, i2⟩ := stp (nI 1) h1 (Or.inr ⟨q, rfl, a2⟩) a3 a4
      exact ⟨h', s0.trans i1, i2⟩
theorem m184 (d : Nat) {K r : Nat} {h : PH} (hV : XV A) (hY : yK A K r) (hK : K < 400) (hM : RM h 254 A) : ∃ h', exec (g2 L) (d + 4) 184 [.ref 253, .int (nI K)] h = some (none, h') ∧ YCo h' A r (A 10) ∧ YF h h' ∧ (∀ x, x ≠ 253 → ¬ (262 ≤ x ∧ x ≤ 265) → hI h' x = hI h x) ∧ ∀ k, (k < 11 ∨ 16 < k) → hI h' 253 k = hI h 253 k := by
  rw [x184]
  exact m184_2 (L := L) hV hY hK (A 10) 0 h dm dm (by omega) hM (fun D hD => absurd hD (Nat.not_lt_zero _))
end Yq
