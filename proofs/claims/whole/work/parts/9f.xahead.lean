-- PART: explaining, who is ahead of whom, sums; paths, spans, readings known (class).
def xan (A : Nat → Nat) (c : Nat) : Nat → Nat → Bool
  | 0, _ => false
  | n + 1, y => if y = 0 then false else if y = c + 1 then true else xan A c n (A (299 + y))
/-- c is b, or lies ahead of b -/
def xa (A : Nat → Nat) (c b : Nat) : Bool := xan A c 9 (b + 1)
def xsum (g : Nat → Nat) : Nat → Nat
  | 0 => 0
  | n + 1 => xsum g n + g n
theorem xsum_congr {f g : Nat → Nat} : ∀ n, (∀ i, i < n → f i = g i) → xsum f n = xsum g n
  | 0, _ => rfl
  | n + 1, h => by
    unfold xsum
    rw [xsum_congr n (fun i hi => h i (by omega)), h n (by omega)]
theorem xsum_add (f g : Nat → Nat) : ∀ n, xsum f n + xsum g n = xsum (fun i => f i + g i) n
  | 0 => rfl
  | n + 1 => by
    show xsum f n + f n + (xsum g n + g n) = xsum (fun i => f i + g i) n + (f n + g n)
    rw [← xsum_add f g n]
    omega
theorem xsum_le {f g : Nat → Nat} : ∀ n, (∀ i, i < n → f i ≤ g i) → xsum f n ≤ xsum g n
  | 0, _ => Nat.le_refl _
  | n + 1, h => by
    have := xsum_le n (fun i hi => h i (by omega))
    have := h n (by omega)
    show xsum f n + f n ≤ xsum g n + g n
    omega
theorem xsum_top {f : Nat → Nat} {m : Nat} : ∀ n, (∀ i, i < n → f i ≤ m) → xsum f n ≤ n * m
  | 0, _ => Nat.zero_le _
  | n + 1, h => by
    have := xsum_top n (fun i hi => h i (by omega))
    have := h n (by omega)
    show xsum f n + f n ≤ (n + 1) * m
    rw [Nat.succ_mul]
    omega
section XfM
variable {A : Nat → Nat} {nb c : Nat}
theorem xan_low (hB : ∀ b, b < nb → A (300 + b) ≤ b) : ∀ n y, y ≤ nb → y ≤ c → xan A c n y = false
  | 0, _, _, _ => rfl
  | n + 1, y, h1, h2 => by
    unfold xan
    by_cases q : y = 0
    · rw [if_pos q]
    · have := hB (y - 1) (by omega)
      rw [show 300 + (y - 1) = 299 + y by omega] at this
      rw [if_neg q, if_neg (by omega)]
      exact xan_low hB n _ (by omega) (by omega)
theorem xan_st (hB : ∀ b, b < nb → A (300 + b) ≤ b) : ∀ n m y, y ≤ n → y ≤ m → y ≤ nb → xan A c n y = xan A c m y
  | 0, m, y, h1, h2, h3 => by
    have e : y = 0 := by omega
    subst e
    cases m with
    | zero => rfl
    | succ m => rfl
  | n + 1, m, y, h1, h2, h3 => by
    cases m with
    | zero =>
      have e : y = 0 := by omega
      subst e
      rfl
    | succ m =>
      unfold xan
      by_cases q : y = 0
      · rw [if_pos q, if_pos q]
      · have := hB (y - 1) (by omega)
        rw [show 300 + (y - 1) = 299 + y by omega] at this
        rw [if_neg q, if_neg q, xan_st hB n m _ (by omega) (by omega) (by omega)]
theorem xan_go (hB : ∀ b, b < nb → A (300 + b) ≤ b) {y : Nat} (h0 : y ≠ 0) (hy : y ≤ nb) (hn : nb ≤ 8) : xan A c 9 y = if y = c + 1 then true else xan A c 9 (A (299 + y)) := by
  have := hB (y - 1) (by omega)
  rw [show 300 + (y - 1) = 299 + y by omega] at this
  show (if y = 0 then false else if y = c + 1 then true else xan A c 8 (A (299 + y))) = _
  rw [if_neg h0, xan_st hB 8 9 _ (by omega) (by omega) (by omega)]
theorem xan_nil : xan A c 9 0 = false := rfl
theorem xa_go (hB : ∀ b, b < nb → A (300 + b) ≤ b) {b : Nat} (hb : b < nb) (hn : nb ≤ 8) : xa A c b = if b = c then true else xan A c 9 (A (300 + b)) := by
  unfold xa
  rw [xan_go hB (by omega) (by omega) hn, show 299 + (b + 1) = 300 + b by omega]
  by_cases q : b = c
  · rw [if_pos (by omega), if_pos q]
  · rw [if_neg (by omega), if_neg q]
theorem xa_lt (hB : ∀ b, b < nb → A (300 + b) ≤ b) {b : Nat} (hb : b < nb) (h : b < c) : xa A c b = false := xan_low hB 9 (b + 1) (by omega) (by omega)
theorem xa_self (b : Nat) : xa A b b = true := by
  unfold xa
  show (if b + 1 = 0 then false else if b + 1 = b + 1 then true else _) = true
  rw [if_neg (by omega), if_pos rfl]
/-- b lies ahead of other, other ahead of x -/
theorem xan_tr (hB : ∀ b, b < nb → A (300 + b) ≤ b) (hn : nb ≤ 8) {o : Nat} (ho : o < nb) (hc : c ≤ o) : ∀ n y, y ≤ n → y ≤ nb → xan A o 9 y = true → xan A c 9 y = xa A c o := by
  intro n
  induction n with
  | zero =>
    intro y h1 h2 h3
    have e : y = 0 := by omega
    subst e
    exact absurd h3 (by rw [xan_nil]; exact Bool.false_ne_true)
  | succ n ih =>
    intro y h1 h2 h3
    by_cases q : y = 0
    · subst q
      exact absurd h3 (by rw [xan_nil]; exact Bool.false_ne_true)
    · rw [xan_go hB q h2 hn] at h3
      by_cases z : y = o + 1
      · rw [z]
        rfl
      · rw [if_neg z] at h3
        have := hB (y - 1) (by omega)
        rw [show 300 + (y - 1) = 299 + y by omega] at this
        have hy : ¬ y = c + 1 := by
          intro w
          have := xan_low (c := o) hB 9 (A (299 + y)) (by omega) (by omega)
          rw [this] at h3
          exact Bool.false_ne_true h3
        rw [xan_go hB q h2 hn, if_neg hy]
        exact ih _ (by omega) (by omega) h3
theorem xa_tr (hB : ∀ b, b < nb → A (300 + b) ≤ b) (hn : nb ≤ 8) {o x : Nat} (ho : o < nb) (hx : x < nb) (hc : c ≤ o) (h : xa A o x = true) : xa A c x = xa A c o := xan_tr hB hn ho hc (x + 1) (x + 1) (Nat.le_refl _) (by omega) h
end XfM
/-- where what hangs on x is counted when k branches are summed up -/
def xu (A : Nat → Nat) (n : Nat) : Nat → Nat → Nat
  | 0, x => x + 1
  | k + 1, x => if xu A n k x = n - k then A (300 + (n - k - 1)) else xu A n k x
theorem xu_le {A : Nat → Nat} {n : Nat} (hB : ∀ b, b < n → A (300 + b) ≤ b) {x : Nat} (hx : x < n) : ∀ k, k ≤ n → xu A n k x ≤ n - k
  | 0, _ => by
    show x + 1 ≤ _
    omega
  | k + 1, h => by
    have i := xu_le hB hx k (by omega)
    unfold xu
    by_cases q : xu A n k x = n - k
    · rw [if_pos q]
      have := hB (n - k - 1) (by omega)
      omega
    · rw [if_neg q]
      omega
theorem xu_an {A : Nat → Nat} {n : Nat} (hB : ∀ b, b < n → A (300 + b) ≤ b) (hn : n ≤ 8) {x c : Nat} (hx : x < n) : ∀ k, k ≤ n → c + 1 ≤ n - k → xan A c 9 (xu A n k x) = xa A c x
  | 0, _, _ => rfl
  | k + 1, h, hc => by
    have i := xu_an (c := c) hB hn hx k (by omega) (by omega)
    have l := xu_le hB hx k (by omega)
    unfold xu
    by_cases q : xu A n k x = n - k
    · rw [if_pos q, ← i, q, xan_go (nb := n) (y := n - k) hB (by omega) (by omega) hn, if_neg (by omega), show 299 + (n - k) = 300 + (n - k - 1) by omega]
    · rw [if_neg q]
      exact i
theorem xu_at {A : Nat → Nat} {n : Nat} (hB : ∀ b, b < n → A (300 + b) ≤ b) (hn : n ≤ 8) {x c k : Nat} (hx : x < n) (hk : k ≤ n) (hc : c + 1 = n - k) : (xu A n k x = c + 1) ↔ xa A c x = true := by
  have i := xu_an hB hn hx k hk (by omega : c + 1 ≤ n - k)
  have l := xu_le hB hx k hk
  rw [← i]
  by_cases q : xu A n k x = c + 1
  · rw [q, xan_go (nb := n) (y := c + 1) hB (by omega) (by omega) hn, if_pos rfl]
    exact ⟨fun _ => rfl, fun _ => rfl⟩
  · rw [xan_low hB 9 _ (by omega) (by omega)]
    exact ⟨fun z => absurd z q, fun z => absurd z Bool.false_ne_true⟩
/-- the spans in their order -/
def xo (W : Nat) : Nat → Nat
  | 0 => 0
  | f + 1 => xo W f + (W - f)
def xdc (W : Nat) : Nat → Nat → Nat → Nat × Nat
  | 0, f, i => (f, f + 1 + i)
  | n + 1, f, i => if i < W - f then (f, f + 1 + i) else xdc W n (f + 1) (i - (W - f))
def xs1 (W i : Nat) : Nat := (xdc W W 0 i).1
def xs2 (W i : Nat) : Nat := (xdc W W 0 i).2
def xk (W i : Nat) : Nat := 2 ^ xs2 W i - 2 ^ xs1 W i
theorem xs_a : ∀ W, W < 11 → xo W W ≤ 55 := by decide +kernel
theorem xs_b : ∀ W, W < 11 → ∀ f, f < 10 → f < W → xo W f + (W - f) ≤ xo W W := by decide +kernel
theorem xs_c : ∀ W, W < 11 → ∀ f, f < 10 → ∀ e, e < 11 → (f < e ∧ e ≤ W) → xs1 W (xo W f + (e - f - 1)) = f ∧ xs2 W (xo W f + (e - f - 1)) = e := by decide +kernel
theorem xs_in : ∀ W, W < 11 → ∀ i, i < 55 → i < xo W W → xs1 W i < xs2 W i ∧ xs2 W i ≤ W ∧ i = xo W (xs1 W i) + (xs2 W i - xs1 W i - 1) ∧ xk W i < 2 ^ W ∧ xk W i ≠ 0 ∧ rN (xk W i) ≤ 2 := by decide +kernel
def xSp (h : PH) (W : Nat) : Prop := hI h 95 10 = nI (xo W W) ∧ ∀ i, i < xo W W → hI h 162 i = nI (xk W i)
section Xf
variable {L : Nat} {A : Nat → Nat}
theorem m53_22 {d W f : Nat} (hW : W ≤ 10) (hf : f < W) : ∀ (n e : Nat) (h : PH), e + n = W + 1 → f < e → hI h 8 0 = nI W → hI h 95 10 = nI (xo W f + (e - f - 1)) → (∀ i, i < xo W f + (e - f - 1) → hI h 162 i = nI (xk W i)) → ∃ h' w, runL (g2 L) d 5 false none kc_53 22 [.ref 95, .int (nI f), .int (nI e)] [] h = runL (g2 L) d 5 false none kc_53 7 [.ref 95, .int (nI (f + 1)), w] [] h' ∧ hI h' 95 10 = nI (xo W (f + 1)) ∧ (∀ i, i < xo W (f + 1) → hI h' 162 i = nI (xk W i)) ∧ (∀ x, x ≠ 95 → x ≠ 162 → hI h' x = hI h x) ∧ (∀ k, k ≠ 10 → hI h' 95 k = hI h 95 k) ∧ hR h' = hR h := by
  have a1 := xs_a W (by omega)
  have a3 := xs_b W (by omega) f (by omega) hf
  intro n
  induction n with
  | zero =>
    intro e h he hfe h8 hc hi
    have z : xo W f + (e - f - 1) = xo W (f + 1) := by
      show _ = xo W f + (W - f)
      omega
    rw [z] at hc hi
    refine ⟨h, .int (nI e), ?_, hc, hi, fun _ _ _ => rfl, fun _ _ => rfl, rfl⟩
    rw [e53_22, h8, if_pos (by rw [nI_ltN (by omega) (by omega)]; omega), nI_plus]
  | succ n ih =>
    intro e h he hfe h8 hc hi
    obtain ⟨b1, b2⟩ := xs_c W (by omega) f (by omega) e (by omega) ⟨hfe, by omega⟩
    have kk : xk W (xo W f + (e - f - 1)) = 2 ^ e - 2 ^ f := by
      unfold xk
      rw [b1, b2]
    have le2 : 2 ^ f ≤ 2 ^ e := Nat.pow_le_pow_right (by decide) (by omega)
    have s0 := e53_22 L d (nI f) (nI e) h
    rw [h8, if_neg (by rw [nI_ltN (by omega) (by omega)]; omega), hc, if_neg (by rw [nI_leN (by omega) (by omega)]; omega), inB_nI (by omega), asr_d (by omega), ix_nI (by omega), nI_shl 1 (by omega), nI_shl 1 (by omega), Nat.one_shiftLeft, Nat.one_shiftLeft, nI_minus le2, ← kk, nI_plus, nI_plus] at s0
    obtain ⟨h', w, e1, e2, e3, e4, e5, e6⟩ := ih (e + 1) (wI (wI h 162 (xo W f + (e - f - 1)) (nI (xk W (xo W f + (e - f - 1))))) 95 10 (nI (xo W f + (e - f - 1) + 1))) (by omega) (by omega) (by rw [wI_ne (by omega), wI_ne (by omega)]; exact h8) (by rw [hI_wI, if_pos ⟨rfl, rfl⟩]; congr 1; omega) (fun i hi2 => by
      rw [wI_ne (by omega), hI_wI]
      by_cases q : i = xo W f + (e - f - 1)
      · rw [if_pos ⟨rfl, q⟩, q]
      · rw [if_neg (fun z => q z.2)]
        exact hi i (by omega))
    exact ⟨h', w, s0.trans e1, e2, e3, fun x p q => by rw [e4 x p q, wI_ne p, wI_ne q], fun k hk => by rw [e5 k hk, hI_wI, if_neg (fun z => hk z.2), wI_ne (by omega)], e6⟩
theorem m53_7 {d W : Nat} (hW : W ≤ 10) : ∀ (n f : Nat) (h : PH) (v2 : Value), f + n = W → hI h 8 0 = nI W → hI h 95 10 = nI (xo W f) → (∀ i, i < xo W f → hI h 162 i = nI (xk W i)) → ∃ h', runL (g2 L) d 5 false none kc_53 7 [.ref 95, .int (nI f), v2] [] h = some (none, h') ∧ xSp h' W ∧ (∀ x, x ≠ 95 → x ≠ 162 → hI h' x = hI h x) ∧ (∀ k, k ≠ 10 → hI h' 95 k = hI h 95 k) ∧ hR h' = hR h := by
  intro n
  induction n with
  | zero =>
    intro f h v2 hf h8 hc hi
    have e : f = W := by omega
    subst e
    refine ⟨h, ?_, ⟨hc, hi⟩, fun _ _ _ => rfl, fun _ _ => rfl, rfl⟩
    rw [e53_7, h8, if_pos (by rw [nI_leN (by omega) (by omega)]; omega)]
  | succ n ih =>
    intro f h v2 hf h8 hc hi
    have z : xo W f + (f + 1 - f - 1) = xo W f := by omega
    obtain ⟨h1, w, e1, e2, e3, e4, e5, e6⟩ := m53_22 (L := L) (d := d) (f := f) hW (by omega) (W - f) (f + 1) h (by omega) (by omega) h8 (by rw [z]; exact hc) (by rw [z]; exact hi)
    obtain ⟨h', i1, i2, i3, i4, i5⟩ := ih (f + 1) h1 w (by omega) (by rw [e4 _ (by omega) (by omega)]; exact h8) e2 e3
    refine ⟨h', ?_, i2, fun x p q => by rw [i3 x p q, e4 x p q], fun k hk => by rw [i4 k hk, e5 k hk], i5.trans e6⟩
    rw [e53_7, h8, if_neg (by rw [nI_leN (by omega) (by omega)]; omega), nI_plus]
    exact e1.trans i1
theorem m53 (d : Nat) {W : Nat} {h : PH} (hW : W ≤ 10) (h8 : hI h 8 0 = nI W) : ∃ h', exec (g2 L) (d + 1) 53 [.ref 95] h = some (none, h') ∧ xSp h' W ∧ (∀ x, x ≠ 95 → x ≠ 162 → hI h' x = hI h x) ∧ (∀ k, k ≠ 10 → hI h' 95 k = hI h 95 k) ∧ hR h' = hR h := by
  obtain ⟨h', i1, i2, i3, i4, i5⟩ := m53_7 (L := L) (d := d) hW W 0 (wI h 95 10 (nI 0)) dm (by omega) (by rw [wI_ne (by omega)]; exact h8) (by rw [hI_wI, if_pos ⟨rfl, rfl⟩]; rfl) (fun i hi => absurd hi (Nat.not_lt_zero _))
  exact ⟨h', by rw [x53]; exact i1, i2, fun x p q => by rw [i3 x p q, wI_ne p], fun k hk => by rw [i4 k hk, hI_wI, if_neg (fun z => hk z.2)], i5⟩
/-- paths -/
def xPt (h : PH) (A : Nat → Nat) (n : Nat) : Prop := ∀ b, b < n → ∃ w, w < 256 ∧ hI h 161 b = nI w ∧ ∀ c, c < 8 → (w / 2 ^ c % 2 = 1 ↔ xa A c b = true)
theorem or_bit (x y c : Nat) : ((x ||| y) / 2 ^ c % 2 = 1) ↔ (x / 2 ^ c % 2 = 1 ∨ y / 2 ^ c % 2 = 1) := by
  have e := Nat.testBit_or x y c
  rw [Nat.testBit_eq_decide_div_mod_eq, Nat.testBit_eq_decide_div_mod_eq, Nat.testBit_eq_decide_div_mod_eq] at e
  have e2 := congrArg (fun z => z = true) e
  simpa using e2
theorem pow_bit : ∀ b, b < 8 → ∀ c, c < 8 → ((2 ^ b) / 2 ^ c % 2 = 1 ↔ b = c) := by decide +kernel
theorem or_all : ∀ b, b < 8 → ∀ w, w < 256 → 2 ^ b ||| w < 256 := by decide +kernel
theorem m52_2 {d : Nat} (hB : ∀ b, b < A 11 → A (300 + b) ≤ b) (hn : A 11 ≤ 8) : ∀ (n b : Nat) (h : PH) (v2 : Value), b + n = A 11 → RC h 0 A → xPt h A b → ∃ h', runL (g2 L) d 5 false none kc_52 2 [.ref 95, .int (nI b), v2] [] h = some (none, h') ∧ xPt h' A (A 11) ∧ (∀ x, x ≠ 161 → hI h' x = hI h x) ∧ hR h' = hR h := by
  intro n
  induction n with
  | zero =>
    intro b h v2 hb hC hP
    have e : b = A 11 := by omega
    subst e
    refine ⟨h, ?_, hP, fun _ _ => rfl, rfl⟩
    have wb := hC.wb
    rw [Nat.zero_add] at wb
    rw [e52_2, wb, if_pos (by rw [nI_leN (by omega) (by omega)]; omega)]
  | succ n ih =>
    intro b h v2 hb hC hP
    have wb := hC.wb
    have wf := hC.wf (b := b) (by omega)
    rw [Nat.zero_add] at wb wf
    have hb1 := hB b (by omega)
    have s0 := e52_2 L d (nI b) v2 h
    rw [wb, if_neg (by rw [nI_leN (by omega) (by omega)]; omega), inB_nI (by omega), asr_d (by omega), ix_nI (by omega), wf, nI_shl 1 (by omega), Nat.one_shiftLeft] at s0
    have next : ∀ w w2, w < 256 → (∀ c, c < 8 → (w / 2 ^ c % 2 = 1 ↔ xan A c 9 (A (300 + b)) = true)) → ∃ h', runL (g2 L) d 5 false none kc_52 2 [.ref 95, .int (nI (b + 1)), w2] [] (wI h 161 b (nI (2 ^ b ||| w))) = some (none, h') ∧ xPt h' A (A 11) ∧ (∀ x, x ≠ 161 → hI h' x = hI h x) ∧ hR h' = hR h := by
      intro w w2 hw hwc
      obtain ⟨h', e1, e2, e3, e4⟩ := ih (b + 1) (wI h 161 b (nI (2 ^ b ||| w))) w2 (by omega) (hC.congr (fun a p q => wI_ne (by omega))) (fun b' hb' => by
        rw [hI_wI]
        by_cases q : b' = b
        · rw [if_pos ⟨rfl, q⟩]
          refine ⟨2 ^ b ||| w, or_all b (by omega) w hw, rfl, fun c hc => ?_⟩
          rw [or_bit, pow_bit b (by omega) c hc, hwc c hc, q, xa_go hB (by omega) hn]
          by_cases z : b = c
          · rw [if_pos z]
            exact ⟨fun _ => rfl, fun _ => Or.inl z⟩
          · rw [if_neg z]
            exact ⟨fun y => y.elim (fun y => absurd y z) (fun y => y), Or.inr⟩
        · rw [if_neg (fun z => q z.2)]
          exact hP b' (by omega))
      exact ⟨h', e1, e2, fun x hx => by rw [e3 x hx, wI_ne hx], e4⟩
    by_cases q : A (300 + b) = 0
    · rw [q, nI_p0, if_pos (by decide), asr_d (by omega), nI_or, nI_plus] at s0
      obtain ⟨h', e1, e2⟩ := next 0 _ (by omega) (fun c hc => by
        rw [Nat.zero_div, q, xan_nil]
        exact ⟨fun z => absurd z (by decide), fun z => absurd z Bool.false_ne_true⟩)
      exact ⟨h', s0.trans e1, e2⟩
    · obtain ⟨w, w1, w2, w3⟩ := hP (A (300 + b) - 1) (by omega)
      have e0 : nI (A (300 + b)) - nI 1 = nI (A (300 + b) - 1) := nI_minus (by omega)
      rw [e0, if_neg (by rw [nI_ltN (by omega) (by omega)]; omega), if_neg (by rw [nI_leN (by omega) (by omega)]; omega), inB_nI (by omega), asr_d (by omega), asr_d (by omega), ix_nI (by omega), w2, nI_or, nI_plus] at s0
      obtain ⟨h', e1, e2⟩ := next w _ w1 (fun c hc => by
        rw [w3 c hc]
        unfold xa
        rw [show A (300 + b) - 1 + 1 = A (300 + b) by omega])
      exact ⟨h', s0.trans e1, e2⟩
theorem m52 (d : Nat) {h : PH} (hB : ∀ b, b < A 11 → A (300 + b) ≤ b) (hn : A 11 ≤ 8) (hC : RC h 0 A) : ∃ h', exec (g2 L) (d + 1) 52 [.ref 95] h = some (none, h') ∧ xPt h' A (A 11) ∧ (∀ x, x ≠ 161 → hI h' x = hI h x) ∧ hR h' = hR h := by
  obtain ⟨h', e1, e2⟩ := m52_2 (L := L) (d := d) hB hn (A 11) 0 h dm (by omega) hC (fun b hb => absurd hb (Nat.not_lt_zero _))
  exact ⟨h', by rw [x52]; exact e1, e2⟩
/-- readings that are known -/
theorem m50_4 {d K : Nat} {h : PH} (hK : K < 400) (h7 : A 7 ≤ 30) (hd : ∀ i, i < A 7 → A (320 + 4 * i + 3) ≤ 400) (hs : ∀ i, i + 1 < A 7 → A (320 + 4 * i + 3) ≤ A (320 + 4 * (i + 1) + 3)) (hC : RC h 0 A) : ∀ (n i r : Nat), i + n = A 7 → r ≤ i → (∀ k, k < i → (k < r ↔ A (320 + 4 * k + 3) ≤ K)) → ∃ r', runL (g2 L) d 3 false (some .int) kc_50 4 [.ref 8, .int (nI K), .int (nI r), .int (nI i)] [] h = some (some (.int (nI r')), h) ∧ r' ≤ A 7 ∧ ∀ k, k < A 7 → (k < r' ↔ A (320 + 4 * k + 3) ≤ K) := by
  have wr := hC.rd
  rw [Nat.zero_add] at wr
  have mono : ∀ n k, k + n < A 7 → A (320 + 4 * k + 3) ≤ A (320 + 4 * (k + n) + 3) := by
    intro n
    induction n with
    | zero => exact fun k _ => Nat.le_refl _
    | succ n ih => exact fun k hk => Nat.le_trans (ih k (by omega)) (hs (k + n) hk)
  intro n
  induction n with
  | zero =>
    intro i r hi hr hk
    have e : i = A 7 := by omega
    subst e
    refine ⟨r, ?_, hr, hk⟩
    rw [e50_4, wr, if_pos (by rw [nI_leN (by omega) (by omega)]; omega)]
  | succ n ih =>
    intro i r hi hr hk
    have r3 := hC.re (i := i) (c := 3) (by omega) (by omega)
    rw [Nat.zero_add] at r3
    have b3 := hd i (by omega)
    have s0 := e50_4 L d (nI K) (nI r) (nI i) h
    rw [wr, if_neg (by rw [nI_leN (by omega) (by omega)]; omega), inB_nI (by omega), asr_d (by omega), ix_nI (by omega), r3, nI_plus, nI_plus] at s0
    by_cases q : K < A (320 + 4 * i + 3)
    · rw [if_pos (by rw [nI_ltN (by omega) (by omega)]; exact q)] at s0
      obtain ⟨r', e1, e2⟩ := ih (i + 1) r (by omega) (by omega) (fun k hk2 => by
        by_cases e : k = i
        · rw [e]
          omega
        · exact hk k (by omega))
      exact ⟨r', s0.trans e1, e2⟩
    · rw [if_neg (by rw [nI_ltN (by omega) (by omega)]; exact q)] at s0
      have all : ∀ k, k < i → A (320 + 4 * k + 3) ≤ K := by
        intro k hk2
        have := mono (i - k) k (by omega)
        rw [show k + (i - k) = i by omega] at this
        omega
      have ri : r = i := by
        by_cases e : r = i
        · exact e
        · have := (hk r (by omega)).mpr (all r (by omega))
          omega
      obtain ⟨r', e1, e2⟩ := ih (i + 1) (r + 1) (by omega) (by omega) (fun k hk2 => by
        by_cases e : k = i
        · rw [e]
          omega
        · have := all k (by omega)
          omega)
      exact ⟨r', s0.trans e1, e2⟩
theorem m50 (d : Nat) {K : Nat} {h : PH} (hK : K < 400) (h7 : A 7 ≤ 30) (hd : ∀ i, i < A 7 → A (320 + 4 * i + 3) ≤ 400) (hs : ∀ i, i + 1 < A 7 → A (320 + 4 * i + 3) ≤ A (320 + 4 * (i + 1) + 3)) (hC : RC h 0 A) : ∃ r, exec (g2 L) (d + 1) 50 [.ref 8, .int (nI K)] h = some (some (.int (nI r)), h) ∧ r ≤ A 7 ∧ ∀ k, k < A 7 → (k < r ↔ A (320 + 4 * k + 3) ≤ K) := by
  obtain ⟨r, e1, e2⟩ := m50_4 (L := L) (d := d) hK h7 hd hs hC (A 7) 0 0 (by omega) (by omega) (fun k hk => absurd hk (Nat.not_lt_zero _))
  exact ⟨r, by rw [x50]; exact e1, e2⟩
/-- one row to another -/
theorem m65_2 {d p b : Nat} (hp : p < 8) (hb : b < 8) (hpb : p ≠ b) : ∀ (n i : Nat) (h : PH), i + n = 1024 → ∃ h', runL (g2 L) d 5 false none kc_65 2 [.ref (129 + p), .ref (129 + b), .int (nI i)] [] h = some (none, h') ∧ (∀ M, M < 1024 → hI h' (129 + p) M = if i ≤ M then hI h (129 + p) M + hI h (129 + b) M else hI h (129 + p) M) ∧ (∀ x, x ≠ 129 + p → hI h' x = hI h x) ∧ hR h' = hR h := by
  have k1 := kk8 hp
  have k2 := kk8 hb
  have al : ∀ (h : PH) c, c < 8 → alive (g2 L) h (129 + c) = true := by
    intro h c hc
    unfold alive
    rw [show Nat.blt (129 + c) (g2 L).1 = true from Nat.ble_eq_true_of_le (show 129 + c + 1 ≤ 289 by omega)]
    rfl
  intro n
  induction n with
  | zero =>
    intro i h hi
    refine ⟨h, ?_, fun M hM => by rw [if_neg (by omega)], fun _ _ => rfl, rfl⟩
    rw [e65_2, k1.1, al h p hp, lenA_of (by omega), k1.2.1]
    show (if nI 1024 ≤ nI i then _ else _) = _
    rw [if_pos (by rw [nI_leN (by omega) (by omega)]; omega)]
  | succ n ih =>
    intro i h hi
    have s0 := e65_2 L d (129 + p) (129 + b) (nI i) h
    rw [k1.1, k2.1, al h p hp, al h b hb] at s0
    simp (disch := omega) only [inB_nI, ix_nI, asr_d, okA_of k1.1, okA_of k2.1, okW_of k1.1, asr_true, lenA_of, k1.2.1, k2.2.1] at s0
    obtain ⟨h', e1, e2, e3, e4⟩ := ih (i + 1) (wI h (129 + p) i (hI h (129 + p) i + hI h (129 + b) i)) (by omega)
    refine ⟨h', ?_, fun M hM => ?_, fun x hx => by rw [e3 x hx, wI_ne hx], e4⟩
    · refine s0.trans ?_
      rw [nI_plus]
      show (if nI 1024 ≤ nI i then _ else asr true (if nI 1024 ≤ nI i then _ else _)) = _
      rw [if_neg (by rw [nI_leN (by omega) (by omega)]; omega), asr_true, if_neg (by rw [nI_leN (by omega) (by omega)]; omega)]
      exact e1
    · rw [e2 M hM, hI_wI, wI_ne (by omega)]
      by_cases q : i = M
      · rw [if_neg (by omega), if_pos ⟨rfl, q.symm⟩, if_pos (by omega), q]
      · rw [if_neg (c := 129 + p = 129 + p ∧ M = i) (fun z => q z.2.symm)]
        by_cases y : i + 1 ≤ M
        · rw [if_pos y, if_pos (by omega)]
        · rw [if_neg y, if_neg (by omega)]
theorem m65 (d : Nat) {p b : Nat} {h : PH} (hp : p < 8) (hb : b < 8) (hpb : p ≠ b) : ∃ h', exec (g2 L) (d + 1) 65 [.ref (129 + p), .ref (129 + b)] h = some (none, h') ∧ (∀ M, M < 1024 → hI h' (129 + p) M = hI h (129 + p) M + hI h (129 + b) M) ∧ (∀ x, x ≠ 129 + p → hI h' x = hI h x) ∧ hR h' = hR h := by
  obtain ⟨h', e1, e2, e3⟩ := m65_2 (L := L) (d := d) hp hb hpb 1024 0 h (by omega)
  exact ⟨h', by rw [x65]; exact e1, fun M hM => by rw [e2 M hM, if_pos (Nat.zero_le _)], e3⟩
end Xf
