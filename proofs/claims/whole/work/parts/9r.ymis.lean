-- PART: explaining, the reference's mishaps of a set of breaks.
def ySp (h : PH) (W : Nat) : Prop := hI h 253 21 = nI (xo W W) ∧ ∀ i, i < xo W W → hI h 266 i = nI (xs1 W i + 1) ∧ hI h 267 i = nI (xs2 W i)
def cO (p : Nat) : Int32 := if p = 0 then m1 else nI (p - 1)
theorem cO_s (p : Nat) : cO (p + 1) = nI p := if_neg (Nat.succ_ne_zero p)
theorem cO_0 : cO 0 = m1 := if_pos rfl
theorem cO_n {p : Nat} (h : p ≠ 0) : cO p = nI (p - 1) := if_neg h
theorem cO_plus (p : Nat) : cO p + nI 1 = cO (p + 1) := by
  rw [cO_s]
  by_cases h : p = 0
  · rw [h, cO_0, m1_plus1]
  · rw [cO_n h, nI_plus]
    congr 1
    omega
theorem cO_m {p : Nat} (hp : p < 2147483648) (h : p ≠ 0) : ¬ cO p = m1 := by
  rw [cO_n h, nI_ne_m1 (by omega)]
  exact id
theorem and_not : ∀ W, W < 11 → ∀ u, u < 2 ^ W → nI (2 ^ W - 1) &&& (nI u ^^^ m1) = nI (2 ^ W - 1 - u) := by decide +kernel
theorem xNm_lt {A : Nat → Nat} (hV : XV A) {p : Nat} (hp : xval A p) (x : Nat) : xNm A p x < 2 ^ A 8 := by
  have pos : 0 < 2 ^ A 8 := Nat.pow_pos (by decide)
  unfold xNm
  by_cases q : p = 0
  · rw [if_pos q]
    exact pos
  · rw [if_neg q]
    rcases hp with z | z
    · exact absurd z q
    · split
      · exact (xk_lt hV.2.1 z.2).1
      · exact pos
theorem xNm_0 (A : Nat → Nat) (x : Nat) : xNm A 0 x = 0 := if_pos rfl
theorem xNm_n {A : Nat → Nat} {p : Nat} (h : p ≠ 0) (x : Nat) : xNm A p x = if xa A ((p - 1) / 55) x = true then xk (A 8) ((p - 1) % 55) else 0 := if_neg h
/-- what the reference's going through stands on -/
def YB (h : PH) (A : Nat → Nat) (r : Nat) : Prop := RM h 254 A ∧ ySp h (A 8) ∧ YCo h A r (A 10)
theorem YB.congr {h h' : PH} {A : Nat → Nat} {r : Nat} (hB : YB h A r) (e : ∀ x, (x = 254 ∨ x = 262 ∨ x = 266 ∨ x = 267) → hI h' x = hI h x) (e2 : hI h' 253 21 = hI h 253 21) : YB h' A r := by
  obtain ⟨b1, ⟨b2, b3⟩, b4⟩ := hB
  refine ⟨b1.congr (e 254 (by omega)), ⟨by rw [e2]; exact b2, fun i hi => ?_⟩, fun D hD mk hm => ?_⟩
  · rw [e 266 (by omega), e 267 (by omega)]
    exact b3 i hi
  · rw [e 262 (by omega)]
    exact b4 D hD mk hm
/-- what comes to each branch -/
def yCm (h : PH) (A : Nat → Nat) (p q n : Nat) : Prop := ∀ b, b < n → hI h 268 b = nI (2 ^ A 8 - 1 - (xNm A p b ||| xNm A q b))
section Yr
variable {L : Nat} {A : Nat → Nat}
theorem m183_20 {d W f : Nat} (hW : W ≤ 10) (hf : f < W) : ∀ (n e : Nat) (h : PH), e + n = W + 1 → f < e → hI h 254 8 = nI W → hI h 253 21 = nI (xo W f + (e - f - 1)) → (∀ i, i < xo W f + (e - f - 1) → hI h 266 i = nI (xs1 W i + 1) ∧ hI h 267 i = nI (xs2 W i)) → ∃ h' w, runL (g2 L) d 11 false none kc_183 20 [.ref 253, .int (nI (f + 1)), .int (nI e)] [] h = runL (g2 L) d 11 false none kc_183 7 [.ref 253, .int (nI (f + 1 + 1)), w] [] h' ∧ hI h' 253 21 = nI (xo W (f + 1)) ∧ (∀ i, i < xo W (f + 1) → hI h' 266 i = nI (xs1 W i + 1) ∧ hI h' 267 i = nI (xs2 W i)) ∧ (∀ x, x ≠ 253 → x ≠ 266 → x ≠ 267 → hI h' x = hI h x) ∧ ∀ k, k ≠ 21 → hI h' 253 k = hI h 253 k := by
  have a1 := xs_a W (by omega)
  have a3 := xs_b W (by omega) f (by omega) hf
  intro n
  induction n with
  | zero =>
    intro e h he hfe h8 hc hi
    have z : xo W f + (e - f - 1) = xo W (f + 1) := by
      show _ = xo W f + (W - f)
      omega
    rw [z] at hc hi
    refine ⟨h, .int (nI e), ?_, hc, hi, fun _ _ _ _ => rfl, fun _ _ => rfl⟩
    rw [e183_20, h8, if_pos (by rw [nI_ltN (by omega) (by omega)]; omega), nI_plus]
  | succ n ih =>
    intro e h he hfe h8 hc hi
    obtain ⟨b1, b2⟩ := xs_c W (by omega) f (by omega) e (by omega) ⟨hfe, by omega⟩
    have s0 := e183_20 L d (nI (f + 1)) (nI e) h
    rw [h8, if_neg (by rw [nI_ltN (by omega) (by omega)]; omega), hc, inB_nI (by omega), asr_d (by omega), asr_d (by omega), ix_nI (by omega), nI_plus, nI_plus] at s0
    obtain ⟨h', w, e1, e2, e3, e4, e5⟩ := ih (e + 1) (wI (wI (wI h 266 (xo W f + (e - f - 1)) (nI (f + 1))) 267 (xo W f + (e - f - 1)) (nI e)) 253 21 (nI (xo W f + (e - f - 1) + 1))) (by omega) (by omega) (by rw [wI_ne (by omega), wI_ne (by omega), wI_ne (by omega)]; exact h8) (by rw [hI_wI, if_pos ⟨rfl, rfl⟩]; congr 1; omega) (fun i hi2 => by
      rw [wI_ne (show (266 : Nat) ≠ 253 by omega), wI_ne (show (266 : Nat) ≠ 267 by omega), hI_wI, wI_ne (show (267 : Nat) ≠ 253 by omega), hI_wI, wI_ne (show (267 : Nat) ≠ 266 by omega)]
      by_cases q : i = xo W f + (e - f - 1)
      · rw [if_pos ⟨rfl, q⟩, if_pos ⟨rfl, q⟩, q, b1, b2]
        exact ⟨rfl, rfl⟩
      · rw [if_neg (fun z => q z.2), if_neg (fun z => q z.2)]
        exact hi i (by omega))
    exact ⟨h', w, s0.trans e1, e2, e3, fun x p1 p2 p3 => by rw [e4 x p1 p2 p3, wI_ne p1, wI_ne p3, wI_ne p2], fun k hk => by rw [e5 k hk, hI_wI, if_neg (fun z => hk z.2), wI_ne (by omega), wI_ne (by omega)]⟩
theorem m183_7 {d W : Nat} (hW : W ≤ 10) : ∀ (n f : Nat) (h : PH) (v2 : Value), f + n = W → hI h 254 8 = nI W → hI h 253 21 = nI (xo W f) → (∀ i, i < xo W f → hI h 266 i = nI (xs1 W i + 1) ∧ hI h 267 i = nI (xs2 W i)) → ∃ h', runL (g2 L) d 11 false none kc_183 7 [.ref 253, .int (nI (f + 1)), v2] [] h = some (none, h') ∧ ySp h' W ∧ (∀ x, x ≠ 253 → x ≠ 266 → x ≠ 267 → hI h' x = hI h x) ∧ ∀ k, k ≠ 21 → hI h' 253 k = hI h 253 k := by
  intro n
  induction n with
  | zero =>
    intro f h v2 hf h8 hc hi
    have e : f = W := by omega
    subst e
    refine ⟨h, ?_, ⟨hc, hi⟩, fun _ _ _ _ => rfl, fun _ _ => rfl⟩
    rw [e183_7, h8, if_pos (by rw [nI_ltN (by omega) (by omega)]; omega)]
  | succ n ih =>
    intro f h v2 hf h8 hc hi
    have z : xo W f + (f + 1 - f - 1) = xo W f := by omega
    obtain ⟨h1, w, e1, e2, e3, e4, e5⟩ := m183_20 (L := L) (d := d) (f := f) hW (by omega) (W - f) (f + 1) h (by omega) (by omega) h8 (by rw [z]; exact hc) (by rw [z]; exact hi)
    obtain ⟨h', i1, i2, i3, i4⟩ := ih (f + 1) h1 w (by omega) (by rw [e4 _ (by omega) (by omega) (by omega)]; exact h8) e2 e3
    refine ⟨h', ?_, i2, fun x p1 p2 p3 => by rw [i3 x p1 p2 p3, e4 x p1 p2 p3], fun k hk => by rw [i4 k hk, e5 k hk]⟩
    rw [e183_7, h8, if_neg (by rw [nI_ltN (by omega) (by omega)]; omega)]
    exact e1.trans i1
theorem m183 (d : Nat) {W : Nat} {h : PH} (hW : W ≤ 10) (h8 : hI h 254 8 = nI W) : ∃ h', exec (g2 L) (d + 1) 183 [.ref 253] h = some (none, h') ∧ ySp h' W ∧ (∀ x, x ≠ 253 → x ≠ 266 → x ≠ 267 → hI h' x = hI h x) ∧ ∀ k, k ≠ 21 → hI h' 253 k = hI h 253 k := by
  obtain ⟨h', i1, i2, i3, i4⟩ := m183_7 (L := L) (d := d) hW W 0 (wI h 253 21 (nI 0)) dm (by omega) (by rw [wI_ne (by omega)]; exact h8) (by rw [hI_wI, if_pos ⟨rfl, rfl⟩]; rfl) (fun i hi => absurd hi (Nat.not_lt_zero _))
  exact ⟨h', by rw [x183]; exact i1, i2, fun x p1 p2 p3 => by rw [i3 x p1 p2 p3, wI_ne p1], fun k hk => by rw [i4 k hk, hI_wI, if_neg (fun z => hk z.2)]⟩
theorem m195 (d : Nat) {W c : Nat} {h : PH} (hW : W ≤ 10) (hS : ySp h W) (hc : c < 2147483648) (hi : c % 55 < xo W W) : exec (g2 L) (d + 1) 195 [.ref 253, .int (nI c)] h = some (some (.int (nI (xk W (c % 55)))), h) := by
  have a1 := xs_a W (by omega)
  obtain ⟨b1, b2, _⟩ := xs_in W (by omega) (c % 55) (by omega) hi
  obtain ⟨c1, c2⟩ := hS.2 (c % 55) hi
  have le2 : 2 ^ xs1 W (c % 55) ≤ 2 ^ xs2 W (c % 55) := Nat.pow_le_pow_right (by decide) (by omega)
  rw [x195, nI_rest (by omega) (by omega), inB_nI (by omega), asr_d (by omega), asr_d (by omega), ix_nI (by omega), c1, c2, nI_m1_plus, nI_shl 1 (by omega), nI_shl 1 (by omega), Nat.one_shiftLeft, Nat.one_shiftLeft, nI_minus le2]
  rfl
theorem m194_2 {d c : Nat} {h : PH} (hV : XV A) (hM : RM h 254 A) (hc : c < 8) (x2 : Int32) : ∀ (n y : Nat), y ≤ n → y ≤ A 11 → runL (g2 L) d 11 false (some .boolean) kc_194 2 [.ref 253, .int (nI c), .int x2, .int (nI y - nI 1)] [] h = some (some (.int (bI (xan A c 9 y = true))), h) := by
  obtain ⟨v7', v8, v9, v10, v11, vB, vL, vR, vS⟩ := id hV
  have zero : runL (g2 L) d 11 false (some .boolean) kc_194 2 [.ref 253, .int (nI c), .int x2, .int (nI 0 - nI 1)] [] h = some (some (.int (bI (xan A c 9 0 = true))), h) := by
    rw [nI_p0, e194_2, if_pos rfl, if_pos (by intro z; exact (nI_ne_m1 (a := c) (by omega)).mp z.symm), xan_nil, bI_f Bool.false_ne_true]
  intro n
  induction n with
  | zero =>
    intro y hy hA
    have e : y = 0 := by omega
    subst e
    exact zero
  | succ n ih =>
    intro y hy hA
    by_cases y0 : y = 0
    · subst y0
      exact zero
    · obtain ⟨z, rfl⟩ : ∃ z, y = z + 1 := ⟨y - 1, by omega⟩
      rw [nI_m1_plus, e194_2, if_neg (by rw [nI_ne_m1 (by omega)]; exact id), xan_go vB y0 hA v11]
      by_cases q : z = c
      · rw [if_pos (by rw [q]), if_neg (by rw [q]; exact fun w => w rfl), if_pos (by omega), bI_t rfl]
      · rw [if_neg (by rw [nI_eqI (by omega) (by omega)]; exact q), nI_plus, inB_nI (by omega), asr_d (by omega), ix_nI (by omega), hM.am (k := 300 + z) (by omega) (by omega), if_neg (by omega), show 299 + (z + 1) = 300 + z by omega]
        have := vB z (by omega)
        exact ih (A (300 + z)) (by omega) (by omega)
theorem m194 (d : Nat) {c b : Nat} {h : PH} (hV : XV A) (hM : RM h 254 A) (hc : c < 8) (hb : b < A 11) : exec (g2 L) (d + 1) 194 [.ref 253, .int (nI c), .int (nI b)] h = some (some (.int (bI (xa A c b = true))), h) := by
  have := m194_2 (L := L) (d := d) hV hM hc (nI b) (b + 1) (b + 1) (Nat.le_refl _) hb
  rw [nI_m1_plus] at this
  rw [x194]
  exact this
theorem m193_58 {d p q b u : Nat} {h : PH} (hV : XV A) (hM : RM h 254 A) (hS : ySp h (A 8)) (hq : xval A q) (hb : b < A 11) (hu : u < 2 ^ A 8) : ∃ w, runL (g2 L) (d + 1) 11 false none kc_193 58 [.ref 253, .int (cO p), .int (cO q), .int (nI (2 ^ A 8 - 1)), .int (nI b), .int (nI u)] [] h = runL (g2 L) (d + 1) 11 false none kc_193 15 [.ref 253, .int (cO p), .int (cO q), .int (nI (2 ^ A 8 - 1)), .int (nI (b + 1)), w] [] (wI h 268 b (nI (2 ^ A 8 - 1 - (u ||| xNm A q b)))) := by
  obtain ⟨v7', v8, v9, v10, v11, vB, vL, vR, vS⟩ := id hV
  have s0 := e193_58 L (d + 1) (cO p) (cO q) (nI (2 ^ A 8 - 1)) (nI b) (nI u) h
  rw [nI_plus, inB_nI (by omega), asr_d (by omega), ix_nI (by omega), and_not (A 8) (by omega) u hu] at s0
  by_cases q0 : q = 0
  · subst q0
    rw [xNm_0, Nat.or_zero]
    rw [if_pos cO_0] at s0
    exact ⟨_, s0⟩
  · have hq' : (q - 1) / 55 < A 11 ∧ (q - 1) % 55 < xo (A 8) (A 8) := hq.resolve_left q0
    have nlt := xNm_lt hV hq b
    rw [if_neg (cO_m (by omega) q0), cO_n q0, nI_quot (by omega) (by omega), m194 (L := L) d hV hM (by omega) hb, cI_s] at s0
    rw [xNm_n q0] at nlt ⊢
    by_cases y : xa A ((q - 1) / 55) b = true
    · rw [if_pos y] at nlt ⊢
      rw [if_neg (by rw [bI_0]; exact not_not_intro y), m195 (L := L) d v8 hS (by omega) hq'.2, cI_s, nI_or, and_not (A 8) (by omega) _ (Nat.or_lt_two_pow hu nlt), asr_d (by omega)] at s0
      rw [cO_n q0]
      exact ⟨_, s0⟩
    · rw [if_neg y, Nat.or_zero]
      rw [if_pos (by rw [bI_0]; exact y), asr_d (by omega)] at s0
      rw [cO_n q0]
      exact ⟨_, s0⟩
theorem m193_15 {d p q : Nat} (hV : XV A) (hp : xval A p) (hq : xval A q) : ∀ (n b : Nat) (h : PH) (v5 : Value), b + n = A 11 → RM h 254 A → ySp h (A 8) → yCm h A p q b → ∃ h', runL (g2 L) (d + 1) 11 false none kc_193 15 [.ref 253, .int (cO p), .int (cO q), .int (nI (2 ^ A 8 - 1)), .int (nI b), v5] [] h = some (none, h') ∧ yCm h' A p q (A 11) ∧ ∀ x, x ≠ 268 → hI h' x = hI h x := by
  obtain ⟨v7', v8, v9, v10, v11, vB, vL, vR, vS⟩ := id hV
  intro n
  induction n with
  | zero =>
    intro b h v5 hb hM hS hc
    have e : b = A 11 := by omega
    subst e
    have w11 := hM.at (k := 11) (by omega) (by omega)
    refine ⟨h, ?_, hc, fun _ _ => rfl⟩
    rw [e193_15, w11, if_pos (by rw [nI_leN (by omega) (by omega)]; omega)]
  | succ n ih =>
    intro b h v5 hb hM hS hc
    have w11 := hM.at (k := 11) (by omega) (by omega)
    have nlt := xNm_lt hV hp b
    obtain ⟨w, s1⟩ := m193_58 (L := L) (d := d) (p := p) (q := q) (b := b) (u := xNm A p b) hV hM hS hq (by omega) nlt
    obtain ⟨h', i1, i2, i3⟩ := ih (b + 1) (wI h 268 b (nI (2 ^ A 8 - 1 - (xNm A p b ||| xNm A q b)))) w (by omega) (hM.congr (wI_ne (by omega))) (by
      unfold ySp at hS ⊢
      rw [wI_ne (by omega), wI_ne (by omega), wI_ne (by omega)]
      exact hS) (fun b2 hb2 => by
      rw [hI_wI]
      by_cases e : b2 = b
      · rw [if_pos ⟨rfl, e⟩, e]
      · rw [if_neg (fun z => e z.2)]
        exact hc b2 (by omega))
    refine ⟨h', ?_, i2, fun x hx => by rw [i3 x hx, wI_ne hx]⟩
    refine Eq.trans ?_ (s1.trans i1)
    rw [e193_15, w11, if_neg (by rw [nI_leN (by omega) (by omega)]; omega)]
    by_cases p0 : p = 0
    · subst p0
      rw [if_pos cO_0, xNm_0]
    · have hp' : (p - 1) / 55 < A 11 ∧ (p - 1) % 55 < xo (A 8) (A 8) := hp.resolve_left p0
      rw [if_neg (cO_m (by omega) p0), cO_n p0, nI_quot (by omega) (by omega), m194 (L := L) d hV hM (by omega) (by omega), cI_s, xNm_n p0]
      by_cases y : xa A ((p - 1) / 55) b = true
      · rw [if_pos y, if_neg (by rw [bI_0]; exact not_not_intro y), m195 (L := L) d v8 hS (by omega) hp'.2, cI_s, nI_or, Nat.zero_or]
      · rw [if_neg y, if_pos (by rw [bI_0]; exact y)]
theorem m193 (d : Nat) {p q : Nat} {h : PH} (hV : XV A) (hp : xval A p) (hq : xval A q) (hM : RM h 254 A) (hS : ySp h (A 8)) : ∃ h', exec (g2 L) (d + 2) 193 [.ref 253, .int (cO p), .int (cO q)] h = some (none, h') ∧ yCm h' A p q (A 11) ∧ ∀ x, x ≠ 268 → hI h' x = hI h x := by
  have v8 := hV.2.1
  have w8 := hM.at (k := 8) (by omega) (by omega)
  have pos : 1 ≤ 2 ^ A 8 := Nat.pow_pos (by decide)
  rw [x193, w8, nI_shl 1 (by omega), Nat.one_shiftLeft, nI_minus pos]
  exact m193_15 (L := L) hV hp hq (A 11) 0 h dm (by omega) hM hS (fun b hb => absurd hb (Nat.not_lt_zero _))
theorem m196 (d : Nat) {D : Nat} {h : PH} (hV : XV A) (hM : RM h 254 A) (hD : D < A 10) : exec (g2 L) (d + 1) 196 [.ref 253, .int (nI D)] h = some (some (.int (hI h 268 (A (170 + 8 * D)))), h) := by
  obtain ⟨v7', v8, v9, v10, v11, vB, vL, vR, vS⟩ := id hV
  obtain ⟨l0, _⟩ := vL D hD
  rw [x196, nI_times, nI_plus, nI_plus, Nat.add_zero, inB_nI (by omega), asr_d (by omega), ix_nI (by omega), hM.at (k := 170 + 8 * D) (by omega) (by omega), inB_nI (by omega), asr_d (by omega), ix_nI (by omega)]
def yc (A : Nat → Nat) (r p q : Nat) : Nat := if xcost A r p q < 1000 then xcost A r p q else 1000
theorem m192_31 {d r p q : Nat} {h : PH} (hV : XV A) (hB : YB h A r) (hp : xval A p) (hq : xval A q) (hc : yCm h A p q (A 11)) (x1 x2 : Int32) (s : Nat) (hs : s = (if p = 0 then 0 else 1) + (if q = 0 then 0 else 1)) : ∀ (n D : Nat), D + n = A 10 → runL (g2 L) (d + 1) 11 false (some .int) kc_192 31 [.ref 253, .int x1, .int x2, .int (nI (s + xsum (fun D => xDD A r D (xNm A p (A (170 + 8 * D)) ||| xNm A q (A (170 + 8 * D)))) D)), .int (nI D)] [] h = some (some (.int (nI (yc A r p q))), h) := by
  obtain ⟨v7', v8, v9, v10, v11, vB, vL, vR, vS⟩ := id hV
  have p10 : 2 ^ A 8 ≤ 2 ^ 10 := Nat.pow_le_pow_right (by omega) v8
  have w10 := hB.1.at (k := 10) (by omega) (by omega)
  intro n
  induction n with
  | zero =>
    intro D hD
    have e : D = A 10 := by omega
    subst e
    have cl := xcost_le hV r p q
    have ec : s + xsum (fun D => xDD A r D (xNm A p (A (170 + 8 * D)) ||| xNm A q (A (170 + 8 * D)))) (A 10) = xcost A r p q := by
      rw [hs]
      rfl
    rw [e192_31, w10, if_pos (by rw [nI_leN (by omega) (by omega)]; omega), ec]
    unfold yc
    by_cases z : xcost A r p q < 1000
    · rw [if_neg (by rw [nI_leN (by omega) (by omega)]; omega), if_pos z]
    · rw [if_pos (by rw [nI_leN (by omega) (by omega)]; omega), if_neg z]
  | succ n ih =>
    intro D hD
    obtain ⟨l0, _⟩ := vL D (by omega)
    have u1 := xNm_lt hV hp (A (170 + 8 * D))
    have u2 := xNm_lt hV hq (A (170 + 8 * D))
    have u3 : xNm A p (A (170 + 8 * D)) ||| xNm A q (A (170 + 8 * D)) < 2 ^ A 8 := Nat.or_lt_two_pow u1 u2
    have k1 := hB.2.2 D (by omega) (2 ^ A 8 - 1 - (xNm A p (A (170 + 8 * D)) ||| xNm A q (A (170 + 8 * D)))) (by omega)
    rw [show 2 ^ A 8 - 1 - (2 ^ A 8 - 1 - (xNm A p (A (170 + 8 * D)) ||| xNm A q (A (170 + 8 * D)))) = xNm A p (A (170 + 8 * D)) ||| xNm A q (A (170 + 8 * D)) by omega] at k1
    rw [e192_31, w10, if_neg (by rw [nI_leN (by omega) (by omega)]; omega), m196 (L := L) d hV hB.1 (by omega), cI_s, hc _ l0, nI_times, nI_plus, inB_nI (by omega), asr_d (by omega), ix_nI (by omega), k1, nI_plus, nI_plus, Nat.add_assoc]
    exact ih (D + 1) (by omega)
theorem m192 (d : Nat) {r p q : Nat} {h : PH} (hV : XV A) (hB : YB h A r) (hp : xval A p) (hq : xval A q) (hpl : p < 1000) (hql : q < 1000) : ∃ h', exec (g2 L) (d + 3) 192 [.ref 253, .int (cO p), .int (cO q)] h = some (some (.int (nI (yc A r p q))), h') ∧ yCm h' A p q (A 11) ∧ YB h' A r ∧ ∀ x, x ≠ 268 → hI h' x = hI h x := by
  obtain ⟨h1, a1, a2, a3⟩ := m193 (L := L) d hV hp hq hB.1 hB.2.1
  have B1 : YB h1 A r := hB.congr (fun x hx => a3 x (by omega)) (by rw [a3 253 (by omega)])
  refine ⟨h1, ?_, a2, B1, a3⟩
  have fin := fun (s : Nat) hs => m192_31 (L := L) (d := d + 1) hV B1 hp hq a2 (cO p) (cO q) s hs (A 10) 0 (by omega)
  rw [x192, a1, cV_s]
  by_cases p0 : p = 0
  · rw [if_pos (show cO p = m1 by rw [p0]; exact cO_0)]
    by_cases q0 : q = 0
    · rw [if_pos (show cO q = m1 by rw [q0]; exact cO_0), nI_plus]
      exact fin 0 (by rw [if_pos p0, if_pos q0])
    · rw [if_neg (cO_m (by omega) q0), nI_plus]
      exact fin 1 (by rw [if_pos p0, if_neg q0])
  · rw [if_neg (cO_m (by omega) p0)]
    by_cases q0 : q = 0
    · rw [if_pos (show cO q = m1 by rw [q0]; exact cO_0), nI_plus]
      exact fin 1 (by rw [if_neg p0, if_pos q0])
    · rw [if_neg (cO_m (by omega) q0), nI_plus]
      exact fin 2 (by rw [if_neg p0, if_neg q0])
theorem m198 (d : Nat) {p q : Nat} {h : PH} (hV : XV A) (hS : ySp h (A 8)) (hp : (p - 1) % 55 < xo (A 8) (A 8)) (hq : (q - 1) % 55 < xo (A 8) (A 8)) (p0 : p ≠ 0) (q0 : q ≠ 0) (hpl : p < 1000) (hql : q < 1000) : ∃ x, exec (g2 L) (d + 1) 198 [.ref 253, .int (cO p), .int (cO q)] h = some (some (.int x), h) ∧ ((x = nI 1 ∧ xapart A p q) ∨ (x = nI 0 ∧ ¬ xapart A p q)) := by
  have v8 := hV.2.1
  have a1 := xs_a (A 8) (by omega)
  obtain ⟨b1, b2, _⟩ := xs_in (A 8) (by omega) ((p - 1) % 55) (by omega) hp
  obtain ⟨c1, c2, _⟩ := xs_in (A 8) (by omega) ((q - 1) % 55) (by omega) hq
  obtain ⟨i1, i2⟩ := hS.2 _ hp
  obtain ⟨j1, j2⟩ := hS.2 _ hq
  have s0 := x198 L d (cO p) (cO q) h
  rw [cO_n p0, cO_n q0] at s0
  simp (disch := omega) only [nI_quot, nI_rest, inB_nI, ix_nI, asr_d] at s0
  rw [i1, i2, j1, j2, nI_plus, nI_plus] at s0
  rw [cO_n p0, cO_n q0, s0]
  unfold xapart
  by_cases z1 : (p - 1) / 55 = (q - 1) / 55
  · rw [if_neg (by rw [z1]; exact fun w => w rfl)]
    by_cases z2 : xs2 (A 8) ((p - 1) % 55) < xs1 (A 8) ((q - 1) % 55)
    · rw [if_pos (by rw [nI_ltN (by omega) (by omega)]; omega)]
      exact ⟨_, rfl, Or.inl ⟨rfl, Or.inr (Or.inl z2)⟩⟩
    · rw [if_neg (by rw [nI_ltN (by omega) (by omega)]; omega)]
      by_cases z3 : xs2 (A 8) ((q - 1) % 55) < xs1 (A 8) ((p - 1) % 55)
      · rw [if_neg (by rw [nI_leN (by omega) (by omega)]; omega)]
        exact ⟨_, rfl, Or.inl ⟨rfl, Or.inr (Or.inr z3)⟩⟩
      · rw [if_pos (by rw [nI_leN (by omega) (by omega)]; omega)]
        refine ⟨_, rfl, Or.inr ⟨rfl, ?_⟩⟩
        rintro (w | w | w)
        · exact w z1
        · exact z2 w
        · exact z3 w
  · rw [if_pos (by rw [Ne, nI_eqI (by omega) (by omega)]; exact z1)]
    exact ⟨_, rfl, Or.inl ⟨rfl, Or.inl z1⟩⟩
end Yr
