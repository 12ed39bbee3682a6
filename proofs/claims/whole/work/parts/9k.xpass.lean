-- PART: explaining, the two goings through (class).
/-- v is the fewest mishaps (1000: none) -/
def xBst (A : Nat → Nat) (r v : Nat) : Prop := xMin (fun c => ∃ p q, xSet A p q ∧ xcost A r p q = c) v
def xbk (A : Nat → Nat) (p q b k : Nat) : Prop := (xOw A p b ||| xOw A q b) / 2 ^ k % 2 = 1
theorem xbk_comm {A : Nat → Nat} {p q b k : Nat} : xbk A p q b k ↔ xbk A q p b k := by
  unfold xbk
  rw [Nat.or_comm]
theorem and_bit (x y c : Nat) : ((x &&& y) / 2 ^ c % 2 = 1) ↔ (x / 2 ^ c % 2 = 1 ∧ y / 2 ^ c % 2 = 1) := by
  have e := Nat.testBit_and x y c
  rw [Nat.testBit_eq_decide_div_mod_eq, Nat.testBit_eq_decide_div_mod_eq, Nat.testBit_eq_decide_div_mod_eq] at e
  have e2 := congrArg (fun z => z = true) e
  simpa using e2
theorem XB.congr {h h' : PH} {A : Nat → Nat} {r : Nat} (hX : XB h A r) (e : ∀ x, x ≠ 95 → ¬ (97 ≤ x ∧ x ≤ 127) → ¬ (138 ≤ x ∧ x < 146) → hI h' x = hI h x) (e2 : ∀ k, k = 10 ∨ k = 12 → hI h' 95 k = hI h 95 k) (e3 : ∃ v, v ≤ 1000 ∧ hI h' 95 13 = nI v) (hV : XV A) : XB h' A r := by
  obtain ⟨x1, x2, x3, x4, x5, x6⟩ := hX
  have v11 := hV.2.2.2.2.1
  refine ⟨x1.congr (fun a p q => e a (by omega) (by omega) (by omega)), ⟨by rw [e2 10 (by omega)]; exact x2.1, fun i hi => by rw [e 162 (by omega) (by omega) (by omega)]; exact x2.2 i hi⟩, fun b hb M hM hN => by rw [e _ (by omega) (by omega) (by omega)]; exact x3 b hb M hM hN, fun b hb => by rw [e 161 (by omega) (by omega) (by omega)]; exact x4 b hb, by rw [e2 12 (by omega)]; exact x5, e3⟩
section Xk
variable {L : Nat} {A : Nat → Nat}
/-- what was gone through -/
def xCov (A : Nat → Nat) (r v : Nat) (V : Nat → Nat → Prop) : Prop := (∀ p q, V p q → xSet A p q) ∧ ∀ p q, xSet A p q → V p q ∨ V q p ∨ (v < 2 ∧ 2 ≤ xcost A r p q)
theorem xCov_of {r v : Nat} {V0 V : Nat → Nat → Prop} (h0 : ∀ p q, ¬ V0 p q) (h1 : VLe A V0 V) (h2 : V 0 0) (h3 : ∀ b', b' < A 11 → ∀ i', i' < xo (A 8) (A 8) → V (55 * b' + i' + 1) 0) (h4 : xPairs A V 0 ∨ v < 2) : xCov A r v V := by
  refine ⟨fun p q hv => (h1.2 p q hv).resolve_left (h0 p q), fun p q hs => ?_⟩
  have cd : ∀ p, p ≠ 0 → 55 * ((p - 1) / 55) + (p - 1) % 55 + 1 = p := by omega
  obtain ⟨s1, s2, s3⟩ := id hs
  by_cases hq : q = 0
  · subst hq
    by_cases hp : p = 0
    · subst hp
      exact Or.inl h2
    · have vp := s1.resolve_left hp
      have := h3 _ vp.1 _ vp.2
      rw [cd p hp] at this
      exact Or.inl this
  · obtain ⟨hp, ap⟩ := s3.resolve_left hq
    have vp := s1.resolve_left hp
    have vq := s2.resolve_left hq
    rcases h4 with z | z
    · have a1 := z ((p - 1) / 55) (Nat.zero_le _) vp.1 ((p - 1) % 55) vp.2 ((q - 1) / 55)
      have a2 := z ((q - 1) / 55) (Nat.zero_le _) vq.1 ((q - 1) % 55) vq.2 ((p - 1) / 55)
      by_cases t : (p - 1) / 55 < (q - 1) / 55
      · have := a1 (by omega) vq.1 ((q - 1) % 55) vq.2 (by rw [cd p hp, cd q hq]; exact hs) (Or.inl t)
        rw [cd p hp, cd q hq] at this
        exact Or.inl this
      · by_cases t2 : (q - 1) / 55 < (p - 1) / 55
        · have := a2 (by omega) vp.1 ((p - 1) % 55) vp.2 (by rw [cd p hp, cd q hq]; exact hs.sw hq) (Or.inl t2)
          rw [cd p hp, cd q hq] at this
          exact Or.inr (Or.inl this)
        · rcases ap with u | u | u
          · omega
          · have := a1 (by omega) vq.1 ((q - 1) % 55) vq.2 (by rw [cd p hp, cd q hq]; exact hs) (Or.inr u)
            rw [cd p hp, cd q hq] at this
            exact Or.inl this
          · have := a2 (by omega) vp.1 ((p - 1) % 55) vp.2 (by rw [cd p hp, cd q hq]; exact hs.sw hq) (Or.inr u)
            rw [cd p hp, cd q hq] at this
            exact Or.inr (Or.inl this)
    · refine Or.inr (Or.inr ⟨z, ?_⟩)
      unfold xcost
      rw [if_neg hp, if_neg hq]
      omega
theorem xBst_of {r v : Nat} {V : Nat → Nat → Prop} (hc : xCov A r v V) (hm : xMin (fun c => ∃ p q, V p q ∧ xcost A r p q = c) v) : xBst A r v := by
  refine ⟨hm.1, ?_, ?_⟩
  · rintro c ⟨p, q, hs, rfl⟩
    rcases hc.2 p q hs with z | z | z
    · exact hm.2.1 _ ⟨p, q, z, rfl⟩
    · exact hm.2.1 _ ⟨q, p, z, xcost_comm A r q p⟩
    · omega
  · rcases hm.2.2 with z | ⟨p, q, z1, z2⟩
    · exact Or.inl z
    · exact Or.inr ⟨p, q, hc.1 p q z1, z2⟩
def I1 (h0 : PH) (A : Nat → Nat) (r : Nat) (V : Nat → Nat → Prop) (h : PH) : Prop := XB h A r ∧ hI h 95 14 = nI 0 ∧ (∃ v, hI h 95 13 = nI v ∧ xMin (fun c => ∃ p q, V p q ∧ xcost A r p q = c) v) ∧ (∀ x, x ≠ 95 → hI h x = hI h0 x) ∧ (∀ k, k ≠ 13 → hI h 95 k = hI h0 95 k) ∧ hR h = hR h0
theorem I1_step (hV : XV A) {h0 : PH} {r : Nat} (e : Nat) (V : Nat → Nat → Prop) (h : PH) (p q : Nat) (hI0 : I1 h0 A r V h) (hs : xSet A p q) : ∃ h', exec (g2 L) (e + 3) 67 [.ref 95, .int (nI (xcost A r p q)), .int (cB p), .int (cM (A 8) p), .int (cB q), .int (cM (A 8) q)] h = some (none, h') ∧ I1 h0 A r (VA V p q) h' := by
  obtain ⟨i1, i2, ⟨v, i3, i4⟩, i5, i6, i7⟩ := hI0
  have cl := xcost_le hV r p q
  have vl := i4.1
  have mn : (if nI (xcost A r p q) < nI v then nI (xcost A r p q) else nI v) = nI (if xcost A r p q < v then xcost A r p q else v) := by
    by_cases w : xcost A r p q < v
    · rw [if_pos w, if_pos (by rw [nI_ltN (by omega) (by omega)]; exact w)]
    · rw [if_neg w, if_neg (by rw [nI_ltN (by omega) (by omega)]; exact w)]
  have m2 := (i4.also (xcost A r p q)).congr (S' := fun c => ∃ p' q', VA V p q p' q' ∧ xcost A r p' q' = c) (fun c _ => by
    constructor
    · rintro ⟨p', q', z | ⟨rfl, rfl⟩, z2⟩
      · exact Or.inl ⟨p', q', z, z2⟩
      · exact Or.inr z2.symm
    · rintro (⟨p', q', z, z2⟩ | z)
      · exact ⟨p', q', Or.inl z, z2⟩
      · exact ⟨p, q, Or.inr ⟨rfl, rfl⟩, z.symm⟩)
  refine ⟨wI h 95 13 (nI (if xcost A r p q < v then xcost A r p q else v)), ?_, ?_, ?_, ⟨_, by rw [hI_wI, if_pos ⟨rfl, rfl⟩], m2⟩, fun x hx => by rw [wI_ne hx]; exact i5 x hx, fun k hk => by rw [hI_wI, if_neg (fun z => hk z.2)]; exact i6 k hk, i7⟩
  · rw [x67, i2, if_neg (fun z => z rfl), i3, mn]
  · exact i1.congr (fun x p _ _ => wI_ne p) (fun k hk => by rw [hI_wI, if_neg (by omega)]) ⟨_, m2.1, by rw [hI_wI, if_pos ⟨rfl, rfl⟩]⟩ hV
  · rw [hI_wI, if_neg (by omega)]
    exact i2
theorem pass1 (d : Nat) (hV : XV A) {r : Nat} {h : PH} (hX : XB h A r) (h13 : hI h 95 13 = nI 1000) (h14 : hI h 95 14 = nI 0) : ∃ h' v, exec (g2 L) (d + 5) 66 [.ref 95] h = some (none, h') ∧ xBst A r v ∧ hI h' 95 13 = nI v ∧ XB h' A r ∧ (∀ x, x ≠ 95 → hI h' x = hI h x) ∧ (∀ k, k ≠ 13 → hI h' 95 k = hI h 95 k) ∧ hR h' = hR h := by
  obtain ⟨V', h', e1, ⟨i1, i2, ⟨v, i3, i4⟩, i5, i6, i7⟩, e3, e4, e5, e6⟩ := m66 (L := L) (A := A) (r := r) (I := I1 h A r) hV (fun V h hh => hh.1) (fun e V h p q a b => I1_step hV e V h p q a b) d (V := fun _ _ => False) (h := h) ⟨hX, h14, ⟨1000, h13, xMin.none.congr (fun c _ => ⟨fun ⟨_, _, z, _⟩ => z, False.elim⟩)⟩, fun _ _ => rfl, fun _ _ => rfl, rfl⟩
  have cov : xCov A r v V' := xCov_of (fun _ _ z => z) e3 e4 e5 (e6.elim Or.inl (fun ⟨w, w1, w2⟩ => Or.inr (by
    rw [i3, nI_eqI (by have := i4.1; omega) (by omega)] at w2
    omega)))
  exact ⟨h', v, e1, xBst_of cov i4, i3, i1, i5, i6, i7⟩
/-- what is marked -/
def xMk (h : PH) (A : Nat → Nat) (r v : Nat) (V : Nat → Nat → Prop) : Prop := ∀ b, b < A 11 → (∃ so, so < 1024 ∧ hI h (97 + r) (4 + b) = nI so ∧ ∀ k, k < 10 → (so / 2 ^ k % 2 = 1 ↔ ∃ p q, V p q ∧ xcost A r p q = v ∧ xbk A p q b k)) ∧ (∃ ev, ev < 1024 ∧ hI h (97 + r) (12 + b) = nI ev ∧ ∀ k, k < 10 → (ev / 2 ^ k % 2 = 1 ↔ ∀ p q, V p q → xcost A r p q = v → xbk A p q b k)) ∧ (∀ M, M < 1024 → (hI h (138 + b) M ≠ nI 0 ↔ ∃ p q, V p q ∧ xcost A r p q = v ∧ xNm A p b ||| xNm A q b = M))
def I2 (h0 : PH) (A : Nat → Nat) (r v : Nat) (V : Nat → Nat → Prop) (h : PH) : Prop := XB h A r ∧ hI h 95 14 = nI 1 ∧ hI h 95 13 = nI v ∧ hR h 95 15 = 97 + r ∧ xMk h A r v V ∧ (∀ j, j < 4 → hI h (97 + r) j = hI h0 (97 + r) j) ∧ (∀ x, x ≠ 97 + r → ¬ (138 ≤ x ∧ x < 146) → hI h x = hI h0 x) ∧ hR h = hR h0
theorem xOw_lt (hV : XV A) {p : Nat} (hp : xval A p) (b : Nat) : xOw A p b < 2 ^ A 8 := by
  unfold xOw
  by_cases q : p ≠ 0 ∧ (p - 1) / 55 = b
  · rw [if_pos q]
    exact (xk_lt hV.2.1 (hp.resolve_left q.1).2).1
  · rw [if_neg q]
    exact Nat.pow_pos (by decide)
theorem I2_step (hV : XV A) {h0 : PH} {r v : Nat} (hr : r ≤ 30) (hv : v ≤ 1000) (e : Nat) (V : Nat → Nat → Prop) (h : PH) (p q : Nat) (hI0 : I2 h0 A r v V h) (hs : xSet A p q) : ∃ h', exec (g2 L) (e + 3) 67 [.ref 95, .int (nI (xcost A r p q)), .int (cB p), .int (cM (A 8) p), .int (cB q), .int (cM (A 8) q)] h = some (none, h') ∧ I2 h0 A r v (VA V p q) h' := by
  obtain ⟨i1, i2, i3, i4, i5, i6, i7, i8⟩ := hI0
  have cl := xcost_le hV r p q
  have v8 := hV.2.1
  have v11 := hV.2.2.2.2.1
  have lW : 2 ^ A 8 ≤ 1024 := show 2 ^ A 8 ≤ 2 ^ 10 from Nat.pow_le_pow_right (show 0 < 2 by decide) v8
  have s0 := x67 L (e + 2) (nI (xcost A r p q)) (cB p) (cM (A 8) p) (cB q) (cM (A 8) q) h
  rw [i2, if_pos (by decide), i3] at s0
  by_cases t : xcost A r p q = v
  · rw [if_neg (by rw [t]; exact fun z => z rfl)] at s0
    have wb := i1.1.wb
    rw [Nat.zero_add] at wb
    obtain ⟨h', a1, a2, a3, a4, a5⟩ := m68 (L := L) (e + 1) (h := h) hV hr hs.1 hs.2.1 wb i1.2.2.2.1 i4
    rw [a1, cV_s] at s0
    refine ⟨h', s0, i1.congr (fun x x1 x2 x3 => a4 x (by omega) (by omega)) (fun k hk => by rw [a4 95 (by omega) (by omega)]) ⟨v, hv, by rw [a4 95 (by omega) (by omega)]; exact i3⟩ hV, by rw [a4 95 (by omega) (by omega)]; exact i2, by rw [a4 95 (by omega) (by omega)]; exact i3, by rw [a5]; exact i4, fun b hb => ?_, fun j hj => by rw [a3 j hj]; exact i6 j hj, fun x x1 x2 => by rw [a4 x x1 x2]; exact i7 x x1 x2, a5.trans i8⟩
    obtain ⟨⟨so, s1, s2, s3⟩, ⟨ev, t1, t2, t3⟩, u⟩ := i5 b hb
    obtain ⟨g1, g2', g3⟩ := a2 b hb
    have ol := or_lt2 (xOw_lt hV hs.1 b) (xOw_lt hV hs.2.1 b)
    refine ⟨⟨so ||| (xOw A p b ||| xOw A q b), Nat.or_lt_two_pow (n := 10) s1 (by omega), by rw [g1, s2, nI_or], fun k hk => ?_⟩, ⟨ev &&& (xOw A p b ||| xOw A q b), Nat.lt_of_le_of_lt Nat.and_le_left t1, by rw [g2', t2, nI_and], fun k hk => ?_⟩, fun M hM => ?_⟩
    · rw [or_bit, s3 k hk]
      constructor
      · rintro (⟨p', q', z1, z2, z3⟩ | z)
        · exact ⟨p', q', Or.inl z1, z2, z3⟩
        · exact ⟨p, q, Or.inr ⟨rfl, rfl⟩, t, z⟩
      · rintro ⟨p', q', z1 | ⟨rfl, rfl⟩, z2, z3⟩
        · exact Or.inl ⟨p', q', z1, z2, z3⟩
        · exact Or.inr z3
    · rw [and_bit, t3 k hk]
      constructor
      · rintro ⟨z1, z2⟩ p' q' (z3 | ⟨rfl, rfl⟩) z4
        · exact z1 p' q' z3 z4
        · exact z2
      · exact fun z => ⟨fun p' q' z1 z2 => z p' q' (Or.inl z1) z2, z p q (Or.inr ⟨rfl, rfl⟩) t⟩
    · rw [g3 M]
      by_cases y : M = xNm A p b ||| xNm A q b
      · rw [if_pos y]
        exact ⟨fun _ => ⟨p, q, Or.inr ⟨rfl, rfl⟩, t, y.symm⟩, fun _ => by decide⟩
      · rw [if_neg y, u M hM]
        constructor
        · rintro ⟨p', q', z1, z2, z3⟩
          exact ⟨p', q', Or.inl z1, z2, z3⟩
        · rintro ⟨p', q', z1 | ⟨rfl, rfl⟩, z2, z3⟩
          · exact ⟨p', q', z1, z2, z3⟩
          · exact absurd z3.symm y
  · rw [if_pos (by rw [Ne, nI_eqI (by omega) (by omega)]; exact t)] at s0
    refine ⟨h, s0, i1, i2, i3, i4, fun b hb => ?_, i6, i7, i8⟩
    obtain ⟨⟨so, s1, s2, s3⟩, ⟨ev, t1, t2, t3⟩, u⟩ := i5 b hb
    refine ⟨⟨so, s1, s2, fun k hk => (s3 k hk).trans ⟨?_, ?_⟩⟩, ⟨ev, t1, t2, fun k hk => (t3 k hk).trans ⟨?_, ?_⟩⟩, fun M hM => (u M hM).trans ⟨?_, ?_⟩⟩
    · rintro ⟨p', q', z1, z2, z3⟩
      exact ⟨p', q', Or.inl z1, z2, z3⟩
    · rintro ⟨p', q', z1 | ⟨rfl, rfl⟩, z2, z3⟩
      · exact ⟨p', q', z1, z2, z3⟩
      · exact absurd z2 t
    · rintro z p' q' (z3 | ⟨rfl, rfl⟩) z4
      · exact z p' q' z3 z4
      · exact absurd z4 t
    · exact fun z p' q' z1 z2 => z p' q' (Or.inl z1) z2
    · rintro ⟨p', q', z1, z2, z3⟩
      exact ⟨p', q', Or.inl z1, z2, z3⟩
    · rintro ⟨p', q', z1 | ⟨rfl, rfl⟩, z2, z3⟩
      · exact ⟨p', q', z1, z2, z3⟩
      · exact absurd z2 t
theorem xMk_all {h : PH} {r v : Nat} {V : Nat → Nat → Prop} (hc : xCov A r v V) (hm : xMk h A r v V) : xMk h A r v (xSet A) := by
  have key : ∀ p q, xSet A p q → xcost A r p q = v → V p q ∨ V q p := by
    intro p q h1 h2
    rcases hc.2 p q h1 with z | z | z
    · exact Or.inl z
    · exact Or.inr z
    · omega
  have cc := xcost_comm A r
  intro b hb
  obtain ⟨⟨so, s1, s2, s3⟩, ⟨ev, t1, t2, t3⟩, u⟩ := hm b hb
  refine ⟨⟨so, s1, s2, fun k hk => (s3 k hk).trans ⟨?_, ?_⟩⟩, ⟨ev, t1, t2, fun k hk => (t3 k hk).trans ⟨?_, ?_⟩⟩, fun M hM => (u M hM).trans ⟨?_, ?_⟩⟩
  · rintro ⟨p, q, z1, z2, z3⟩
    exact ⟨p, q, hc.1 p q z1, z2, z3⟩
  · rintro ⟨p, q, z1, z2, z3⟩
    rcases key p q z1 z2 with z | z
    · exact ⟨p, q, z, z2, z3⟩
    · exact ⟨q, p, z, by rw [cc q p]; exact z2, xbk_comm.mp z3⟩
  · intro z p q z1 z2
    rcases key p q z1 z2 with y | y
    · exact z p q y z2
    · exact xbk_comm.mp (z q p y (by rw [cc q p]; exact z2))
  · exact fun z p q z1 z2 => z p q (hc.1 p q z1) z2
  · rintro ⟨p, q, z1, z2, z3⟩
    exact ⟨p, q, hc.1 p q z1, z2, z3⟩
  · rintro ⟨p, q, z1, z2, z3⟩
    rcases key p q z1 z2 with z | z
    · exact ⟨p, q, z, z2, z3⟩
    · exact ⟨q, p, z, by rw [cc q p]; exact z2, by rw [Nat.or_comm]; exact z3⟩
theorem pass2 (d : Nat) (hV : XV A) {r v : Nat} {h : PH} (hr : r ≤ 30) (hv : v ≤ 1000) (hX : XB h A r) (h13 : hI h 95 13 = nI v) (h14 : hI h 95 14 = nI 1) (hR0 : hR h 95 15 = 97 + r) (hM : xMk h A r v (fun _ _ => False)) : ∃ h', exec (g2 L) (d + 5) 66 [.ref 95] h = some (none, h') ∧ XB h' A r ∧ hR h' = hR h ∧ xMk h' A r v (xSet A) ∧ (∀ j, j < 4 → hI h' (97 + r) j = hI h (97 + r) j) ∧ (∀ x, x ≠ 97 + r → ¬ (138 ≤ x ∧ x < 146) → hI h' x = hI h x) := by
  obtain ⟨V', h', e1, ⟨i1, i2, i3, i4, i5, i6, i7, i8⟩, e3, e4, e5, e6⟩ := m66 (L := L) (A := A) (r := r) (I := I2 h A r v) hV (fun V h hh => hh.1) (fun e V h p q a b => I2_step hV hr hv e V h p q a b) d (V := fun _ _ => False) (h := h) ⟨hX, h14, h13, hR0, hM, fun _ _ => rfl, fun _ _ _ => rfl, rfl⟩
  have cov : xCov A r v V' := xCov_of (fun _ _ z => z) e3 e4 e5 (e6.elim Or.inl (fun ⟨w, w1, w2⟩ => Or.inr (by
    rw [i3, nI_eqI (by omega) (by omega)] at w2
    omega)))
  exact ⟨h', e1, i1, i8, xMk_all cov i5, i6, i7⟩
end Xk
