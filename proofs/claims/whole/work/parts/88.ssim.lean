-- PART: strips, both readers side by side: numbers, products, sums.
def Pf (h : PH) (s i : Nat) : List (Nat × Nat) := pf (kf h s) (lef h s) (rif h s) i
theorem Pf_old {h h' : PH} {T : Nat → Nat} {t N s j n i : Nat} (hC : CC h T t N s j n) (hF : FC s n h h') (hi : i < n) : Pf h' s i = Pf h s i := pf_cg hF.ag.1 (fun k hk => (hC.2.2.2.2.2.2.2.2.2.1 k hk).1) n i hi hi
theorem Pf_bin {h h' : PH} {T : Nat → Nat} {t N s j n k a b : Nat} (hC : CC h T t N s j n) (hF : FC s n h h') (hk : kf h' s n = k) (h1 : lef h' s n = a) (h2 : rif h' s n = b) (ha : a < n) (hb : b < n) (hr : (9 ≤ k ∧ k ≤ 10) ∨ (17 ≤ k ∧ k ≤ 27)) : Pf h' s n = Pf h s a ++ (Pf h s b ++ [(oc k, 0)]) := by
  rw [← Pf_old hC hF ha, ← Pf_old hC hF hb]
  unfold Pf
  rw [pf_j (by rw [hk]; exact hr) (by rw [h1, h2]; exact ⟨ha, hb⟩), h1, h2, hk]
theorem Pf_neg {h h' : PH} {T : Nat → Nat} {t N s j n a : Nat} (hC : CC h T t N s j n) (hF : FC s n h h') (hk : kf h' s n = 28) (h1 : lef h' s n = a) (h2 : rif h' s n = a) (ha : a < n) : Pf h' s n = Pf h s a ++ [(402, 0)] := by
  rw [← Pf_old hC hF ha]
  unfold Pf
  rw [pf_neg hk (by rw [h1, h2]; exact ⟨ha, ha⟩), h1]
theorem Pf_not {h h' : PH} {T : Nat → Nat} {t N s j n a : Nat} (hC : CC h T t N s j n) (hF : FC s n h h') (hk : kf h' s n = 11) (h1 : lef h' s n = a) (h2 : rif h' s n = a) (ha : a < n) : Pf h' s n = Pf h s a ++ [(405, 0)] := by
  rw [← Pf_old hC hF ha]
  unfold Pf
  rw [pf_not hk (by rw [h1, h2]; exact ⟨ha, ha⟩), h1]
/-- a piece has been read: node i, from token j with n nodes to token j' with n' -/
def OKp (hc hc' : PH) (T : Nat → Nat) (t N s j n i j' n' : Nat) : Prop := CC hc' T t N s j' n' ∧ i < n' ∧ FC s n hc hc' ∧ j < j' ∧ n ≤ n' ∧ n' + j ≤ n + j' ∧ (Pf hc' s i).length + j ≤ j'
/-- what stays of the machine over a comparison -/
def QA (nf nw : Nat) (h h' : PH) : Prop := (∀ a, a ≠ 253 → ¬ (279 ≤ a ∧ a ≤ 282) → a ≠ 285 → a ≠ 286 → hI h' a = hI h a) ∧ (∀ k, k < nf → hI h' 279 k = hI h 279 k) ∧ (∀ k, k < nw → hI h' 281 k = hI h 281 k ∧ hI h' 282 k = hI h 282 k) ∧ (∀ k, k < 39 ∨ k = 53 → hI h' 253 k = hI h 253 k) ∧ hR h' = hR h
theorem QF.qa {nf nw : Nat} {h h' : PH} (hq : QF nf nw h h') : QA nf nw h h' := ⟨fun a p q r s => hq.1 a p (by omega) (by omega) (by omega) r s, hq.2⟩
theorem QA.tr {nf nw : Nat} {a b c : PH} (h1 : QA nf nw a b) (h2 : QA nf nw b c) : QA nf nw a c := ⟨fun x p q r s => (h2.1 x p q r s).trans (h1.1 x p q r s), fun k hk => (h2.2.1 k hk).trans (h1.2.1 k hk), fun k hk => ⟨(h2.2.2.1 k hk).1.trans (h1.2.2.1 k hk).1, (h2.2.2.1 k hk).2.trans (h1.2.2.1 k hk).2⟩, fun k hk => (h2.2.2.2.1 k hk).trans (h1.2.2.2.1 k hk), h2.2.2.2.2.trans h1.2.2.2.2⟩
theorem QA.le {nf nw nf' nw' : Nat} {h h' : PH} (hq : QA nf nw h h') (h1 : nf' ≤ nf) (h2 : nw' ≤ nw) : QA nf' nw' h h' := ⟨hq.1, fun k hk => hq.2.1 k (by omega), fun k hk => hq.2.2.1 k (by omega), hq.2.2.2.1, hq.2.2.2.2⟩
/-- both have found the same fault -/
def FLT (hc hc' hm hm' : PH) (s : Nat) : Prop := (∃ f q, hI hc' 207 1 = nI f ∧ hI hc' 207 2 = nI q ∧ 1 ≤ f ∧ f ≤ 4 ∧ FM hm' f q) ∧ FC s 0 hc hc' ∧ (∃ n, n ≤ 300 ∧ hI hc' (213 + 10 * s) 0 = nI n) ∧ QA 0 0 hm hm'
theorem FLT.tr {hc g hc' hm k hm' : PH} {s n : Nat} (h : FLT g hc' k hm' s) (hF : FC s n hc g) {nf nw : Nat} (hq : QF nf nw hm k) : FLT hc hc' hm hm' s := ⟨h.1, (hF.le (Nat.zero_le _)).tr h.2.1, h.2.2.1, (hq.qa.le (Nat.zero_le _) (Nat.zero_le _)).tr h.2.2.2⟩
theorem FLT.tra {hc g hc' hm k hm' : PH} {s n : Nat} (h : FLT g hc' k hm' s) (hF : FC s n hc g) {nf nw : Nat} (hq : QA nf nw hm k) : FLT hc hc' hm hm' s := ⟨h.1, (hF.le (Nat.zero_le _)).tr h.2.1, h.2.2.1, (hq.le (Nat.zero_le _) (Nat.zero_le _)).tr h.2.2.2⟩
theorem FLT.of {hc hc' hm hm' : PH} {T : Nat → Nat} {t N s j n f nf nw : Nat} (hC : CC hc T t N s j n) (h1 : hI hc' 207 1 = nI f) (h2 : hI hc' 207 2 = nI (ps T t j)) (h3 : hI hc' (213 + 10 * s) 0 = nI n) (h4 : FC s n hc hc') (hf : 1 ≤ f ∧ f ≤ 4) (hm1 : FM hm' f (ps T t j)) (hm2 : QF nf nw hm hm') : FLT hc hc' hm hm' s := ⟨⟨f, ps T t j, h1, h2, hf.1, hf.2, hm1⟩, h4.le (Nat.zero_le _), ⟨n, hC.2.2.2.2.2.2.2.2.1, h3⟩, hm2.qa.le (Nat.zero_le _) (Nat.zero_le _)⟩
/-- the last wait is of a frame that is open -/
def WT (h : PH) (nf nw : Nat) : Prop := nw = 0 ∨ ∃ g q, hI h 282 (nw - 1) = nI g ∧ g ≤ nf ∧ hI h 281 (nw - 1) = nI q ∧ q < 500
theorem WT.cg {h h' : PH} {nf nf' nw m : Nat} (hp : WT h nf nw) (hm : nw ≤ m) (hf : nf ≤ nf') (e : ∀ k, k < m → hI h' 281 k = hI h 281 k ∧ hI h' 282 k = hI h 282 k) : WT h' nf' nw := by
  by_cases z : nw = 0
  · exact Or.inl z
  · rcases hp with hp | ⟨g, q, p1, p2, p3, p4⟩
    · exact absurd hp z
    · exact Or.inr ⟨g, q, by rw [(e (nw - 1) (by omega)).2]; exact p1, by omega, by rw [(e (nw - 1) (by omega)).1]; exact p3, p4⟩
theorem WT.bz {h : PH} {nf nw r : Nat} (hp : WT h nf nw) (hf : nf < 99) : BZ h (nf + 1) nw r := by
  rcases hp with hp | ⟨g, q, p1, p2, p3, p4⟩
  · exact Or.inl hp
  · exact Or.inr ⟨g, q, p1, by omega, p3, p4, Or.inl (by omega)⟩
/-- parseOne -/
def S1 (L : Nat) (T : Nat → Nat) (t N s o : Nat) : Prop := ∀ (D j n nf nw : Nat) (cd : List (Nat × Nat)) (hc hm : PH), 6 + 4 * (8 - o) ≤ D → CC hc T t N s j n → QS hm T t j o nf nw 1 cd → n ≤ j → cd.length ≤ j → nf < 30 + o → nw < 40 + 2 * o → WT hm nf nw → (∃ i j' n' st hc' hm', exec (g2 L) D 115 [.ref 207, .int (nI o)] hc = some (some (.int (nI i)), hc') ∧ OKp hc hc' T t N s j n i j' n' ∧ ML L hm = cV (exec (g2 L) 98 225 [.ref 253] hm') (ML L) ∧ QS hm' T t j' o nf nw st (cd ++ Pf hc' s i) ∧ QF nf nw hm hm') ∨ (∃ r hc' hm', exec (g2 L) D 115 [.ref 207, .int (nI o)] hc = some (some (.int r), hc') ∧ ML L hm = ML L hm' ∧ FLT hc hc' hm hm' s)
/-- parseProduct -/
def S2 (L : Nat) (T : Nat → Nat) (t N s o : Nat) : Prop := ∀ (D j n m nw f : Nat) (cd : List (Nat × Nat)) (hc hm : PH), 7 + 4 * (8 - o) ≤ D → CC hc T t N s j n → QS hm T t j o (m + 1) nw 1 cd → n ≤ j → cd.length ≤ j → m + 1 < 30 + o → nw < 39 + 2 * o → WT hm (m + 1) nw → hI hm 279 m = nI f → f ≠ 7 ∧ f < 10 → BZ hm (m + 1) nw 4 → (∃ i j' n' nw' cd' hc' hm', exec (g2 L) D 114 [.ref 207, .int (nI o)] hc = some (some (.int (nI i)), hc') ∧ OKp hc hc' T t N s j n i j' n' ∧ ML L hm = ML L hm' ∧ QS hm' T t j' o (m + 1) nw' 2 cd' ∧ PD hm' (m + 1) nw nw' cd' (cd ++ Pf hc' s i) 4 ∧ QF (m + 1) nw hm hm' ∧ ¬ (25 ≤ kd T t j' ∧ kd T t j' ≤ 27)) ∨ (∃ r hc' hm', exec (g2 L) D 114 [.ref 207, .int (nI o)] hc = some (some (.int r), hc') ∧ ML L hm = ML L hm' ∧ FLT hc hc' hm hm' s)
/-- parseSum -/
def S3 (L : Nat) (T : Nat → Nat) (t N s o : Nat) : Prop := ∀ (D j n m nw f : Nat) (cd : List (Nat × Nat)) (hc hm : PH), 8 + 4 * (8 - o) ≤ D → CC hc T t N s j n → QS hm T t j o (m + 1) nw 1 cd → n ≤ j → cd.length ≤ j → m + 1 < 30 + o → nw < 38 + 2 * o → WT hm (m + 1) nw → hI hm 279 m = nI f → f ≠ 7 ∧ f < 10 → BZ hm (m + 1) nw 3 → (∃ i j' n' nw1 nw' cd' c1 hc' hm', exec (g2 L) D 113 [.ref 207, .int (nI o)] hc = some (some (.int (nI i)), hc') ∧ OKp hc hc' T t N s j n i j' n' ∧ ML L hm = ML L hm' ∧ QS hm' T t j' o (m + 1) nw' 2 cd' ∧ PD hm' (m + 1) nw1 nw' cd' c1 4 ∧ PD hm' (m + 1) nw nw1 c1 (cd ++ Pf hc' s i) 3 ∧ QF (m + 1) nw hm hm' ∧ ¬ (23 ≤ kd T t j' ∧ kd T t j' ≤ 27)) ∨ (∃ r hc' hm', exec (g2 L) D 113 [.ref 207, .int (nI o)] hc = some (some (.int r), hc') ∧ ML L hm = ML L hm' ∧ FLT hc hc' hm hm' s)
section Ssim
variable {L : Nat} {T : Nat → Nat} {t N s o : Nat}
theorem m120 (d : Nat) {j n : Nat} {h : PH} (hC : CC h T t N s j n) (hk : kd T t j < 100) : exec (g2 L) (d + 1) 120 [.ref 207] h = some (some (.int (if 25 ≤ kd T t j ∧ kd T t j ≤ 27 then nI 1 else nI 0)), h) := by
  rw [x120, hC.2.2.2.1]
  by_cases a : kd T t j = 25
  · rw [if_pos (by rw [a]), if_pos (by omega)]
  rw [if_neg (by rw [nI_eqI (by omega) (by omega)]; exact a)]
  by_cases b : kd T t j = 26
  · rw [if_pos (by rw [b]), if_pos (by omega)]
  rw [if_neg (by rw [nI_eqI (by omega) (by omega)]; exact b)]
  by_cases c : kd T t j = 27
  · rw [if_neg (by rw [c]; exact fun q => q rfl), if_pos (by omega)]
  rw [if_pos (by rw [Ne, nI_eqI (by omega) (by omega)]; exact c), if_neg (by omega)]
theorem kd_le {h : PH} {j o nf nw st : Nat} {cd : List (Nat × Nat)} (hQ : QS h T t j o nf nw st cd) : kd T t j ≤ 27 := by
  rcases hQ.1.mt.cases with ⟨w, _⟩ | ⟨w, _⟩ | ⟨w, _⟩ | ⟨w, _⟩ | ⟨w, _⟩ <;> omega
theorem rk_oc4 {k : Nat} (hk : 25 ≤ k ∧ k ≤ 27) : rk (oc k) = 4 := by
  have : k = 25 ∨ k = 26 ∨ k = 27 := by omega
  rcases this with rfl | rfl | rfl <;> decide
theorem rk_oc3 {k : Nat} (hk : 23 ≤ k ∧ k ≤ 24) : rk (oc k) = 3 := by
  have : k = 23 ∨ k = 24 := by omega
  rcases this with rfl | rfl <;> decide
theorem c114f {D : Nat} {x1 x2 x3 : Int32} {v4 : Value} {h : PH} (hf : ¬ hI h 207 1 = nI 0) : runL (g2 L) D 8 false (some .int) kc_114 8 [.ref 207, .int x1, .int x2, .int x3, v4] [] h = some (some (.int x2), h) := by
  rw [e114_8]
  by_cases z : nI 300 ≤ x3
  · rw [if_pos z]
  · rw [if_neg z, if_pos hf]
theorem c113f {D : Nat} {x1 x2 x3 : Int32} {v4 : Value} {h : PH} (hf : ¬ hI h 207 1 = nI 0) : runL (g2 L) D 8 false (some .int) kc_113 8 [.ref 207, .int x1, .int x2, .int x3, v4] [] h = some (some (.int x2), h) := by
  rw [e113_8]
  by_cases z : nI 300 ≤ x3
  · rw [if_pos z]
  · rw [if_neg z, if_pos hf]
/-- the products that follow -/
theorem s2_loop (ht : t ≤ 300) (hT : ∀ k, T k < 256) (hs : s < 4) (ho : o ≤ 8) (h1 : S1 L T t N s o) {D m nw f jb nb0 : Nat} (hD : 6 + 4 * (8 - o) ≤ D) (hm30 : m + 1 < 30 + o) (hnw : nw < 39 + 2 * o) (hf7 : f ≠ 7 ∧ f < 10) {cd0 : List (Nat × Nat)} : ∀ (u j n i nw' it : Nat) (v4 : Value) (cd : List (Nat × Nat)) (hc hm : PH), 301 ≤ j + u → CC hc T t N s j n → i < n → n ≤ j → it < j → nb0 ≤ n → jb < j → n + jb ≤ nb0 + j → (cd0 ++ Pf hc s i).length ≤ j → cd0.length ≤ jb → (Pf hc s i).length + jb ≤ j → QS hm T t j o (m + 1) nw' 2 cd → PD hm (m + 1) nw nw' cd (cd0 ++ Pf hc s i) 4 → hI hm 279 m = nI f → BZ hm (m + 1) nw 4 → (∃ i' j' n' nw2 cd' hc' hm', runL (g2 L) D 8 false (some .int) kc_114 8 [.ref 207, .int (nI o), .int (nI i), .int (nI it), v4] [] hc = some (some (.int (nI i')), hc') ∧ (CC hc' T t N s j' n' ∧ i' < n' ∧ FC s n hc hc' ∧ jb < j' ∧ nb0 ≤ n' ∧ n ≤ n' ∧ n' + jb ≤ nb0 + j' ∧ (Pf hc' s i').length + jb ≤ j') ∧ ML L hm = ML L hm' ∧ QS hm' T t j' o (m + 1) nw2 2 cd' ∧ PD hm' (m + 1) nw nw2 cd' (cd0 ++ Pf hc' s i') 4 ∧ QF (m + 1) nw hm hm' ∧ ¬ (25 ≤ kd T t j' ∧ kd T t j' ≤ 27)) ∨ (∃ r hc' hm', runL (g2 L) D 8 false (some .int) kc_114 8 [.ref 207, .int (nI o), .int (nI i), .int (nI it), v4] [] hc = some (some (.int r), hc') ∧ ML L hm = ML L hm' ∧ FLT hc hc' hm hm' s) := by
  intro u
  induction u with
  | zero =>
    intro j n i nw' it v4 cd hc hm hj hC
    have := hC.1.1
    have := hC.2.1
    omega
  | succ u ih =>
    intro j n i nw' it v4 cd hc hm hj hC hi hn hit hnb hjb hnj hcl hc0 hpl hQ hP hfr hB
    have N3 := hC.1.1
    have jN := hC.2.1
    have k27 := kd_le hQ
    obtain ⟨E, rfl⟩ : ∃ E, D = E + 6 := ⟨D - 6, by omega⟩
    have s0 := e114_8 L (E + 6) (nI o) (nI i) (nI it) v4 hc
    rw [if_neg (by rw [nI_leN (by omega) (by omega)]; omega), hC.2.2.2.2.1, if_neg (fun q => q rfl), m120 (E + 5) hC (by omega), cI_s] at s0
    by_cases z : 25 ≤ kd T t j ∧ kd T t j ≤ 27
    · rw [if_pos z, if_neg (by decide)] at s0
      obtain ⟨g1, a1, a2, a3, a4⟩ := c108 (L := L) (E + 5) hs hC (by omega) (by omega)
      rw [a1, cV_s, hC.2.2.2.1] at s0
      have P1 : Pf g1 s i = Pf hc s i := Pf_old hC (a3.le (by omega)) hi
      obtain ⟨w1, b1', b2', b3', b4'⟩ := fl1 (L := L) hQ hP (r := 4) (Nat.le_refl _) hB (by omega) (by omega) (by omega) (by omega)
      obtain ⟨w2, d1, d2, d3, d4, d5, d6⟩ := g_op (L := L) (h1 := w1) ht hT hQ (by omega) (by omega) (by rw [rk_oc4 z]; exact b1') b2' (by omega)
      rcases h1 (E + 6) (j + 1) n (m + 1) (nw + 1) (cd0 ++ Pf hc s i) g1 w2 (by omega) a2 d2 (by omega) (by omega) (by omega) (by omega) (Or.inr ⟨m + 1, oc (kd T t j), d4, Nat.le_refl _, d3, oc_lt _⟩) with ⟨i2, j2, n2, st2, g2', w3, e1, ⟨o1, o2, o3, o4, o5, o6, o7⟩, e2, e3, e4⟩ | ⟨r, g2', w3, e1, e2, e3⟩
      · rw [e1, cI_s] at s0
        have j2N := o1.2.1
        have P2 : Pf g2' s i = Pf hc s i := (Pf_old a2 o3 hi).trans P1
        obtain ⟨g3, c1, c2, c3, c4, c5, c6⟩ := c111 (L := L) (E + 4) (k := kd T t j) (a := i) (b := i2) hs o1 (by omega) (by unfold nl; omega) (by omega) o2 (fun q => by omega)
        rw [c1, cI_s, nI_plus] at s0
        have Pn : Pf g3 s n2 = Pf hc s i ++ (Pf g2' s i2 ++ [(oc (kd T t j), 0)]) := by
          rw [Pf_bin o1 c3 c4 c5 c6 (by omega) o2 (by omega), P2]
        have Ln : (Pf g3 s n2).length = (Pf hc s i).length + (Pf g2' s i2).length + 1 := by
          rw [Pn, List.length_append, List.length_append, List.length_singleton]
          omega
        have top3 : hI w3 279 m = nI f := by
          rw [e4.2.1 m (by omega), d6, b4']
          exact hfr
        have oe := one_end (L := L) (d := 96) e3 (by omega) top3 hf7
        rw [oe, cV_s] at e2
        have q4 : QS (wI w3 253 52 (nI 2)) T t j2 o (m + 1) (nw + 1) 2 ((cd0 ++ Pf hc s i) ++ Pf g2' s i2) := e3.st
        have kp : ∀ k, k < nw + 1 → hI (wI w3 253 52 (nI 2)) 281 k = hI w2 281 k ∧ hI (wI w3 253 52 (nI 2)) 282 k = hI w2 282 k := fun k hk => by
          rw [wI_ne (by omega), wI_ne (by omega)]
          exact e4.2.2.1 k hk
        have kb : ∀ k, k < nw → hI (wI w3 253 52 (nI 2)) 281 k = hI hm 281 k ∧ hI (wI w3 253 52 (nI 2)) 282 k = hI hm 282 k := fun k hk => by
          obtain ⟨y1, y2⟩ := kp k (by omega)
          obtain ⟨y3, y4⟩ := d5.2.2.1 k (by omega)
          obtain ⟨y5, y6⟩ := b3'.2.2.1 k (by omega)
          exact ⟨y1.trans (y3.trans y5), y2.trans (y4.trans y6)⟩
        have FC1 : FC s n hc g3 := ((a3.le (by omega)).tr o3).tr (c3.le o5)
        have QF1 : QF (m + 1) nw hm (wI w3 253 52 (nI 2)) := (b3'.tr (d5.tr (e4.le (Nat.le_refl _) (by omega)))).tr (QF.w (by omega))
        rcases ih j2 (n2 + 1) n2 (nw + 1) (it + 1) (.int (nI (kd T t j))) ((cd0 ++ Pf hc s i) ++ Pf g2' s i2) g3 (wI w3 253 52 (nI 2)) (by omega) c2 (by omega) (by omega) (by omega) (by omega) (by omega) (by omega) (by rw [List.length_append] at hcl ⊢; omega) hc0 (by omega) q4 (Or.inr ⟨rfl, oc (kd T t j), rk_oc4 z, oc_lt _, by rw [(kp nw (by omega)).1]; exact d3, by rw [(kp nw (by omega)).2]; exact d4, by rw [Pn, List.append_assoc, List.append_assoc]⟩) (by rw [wI_ne (by omega)]; exact top3) (hB.cg (Nat.le_refl _) kb) with ⟨i', j', n', nw2, cd', hc', hm', r1, ⟨r2, r3, r4, r5, r6, r7, r8, r9⟩, r10, r11, r12, r13, r14⟩ | ⟨r, hc', hm', r1, r2, r3⟩
        · exact Or.inl ⟨i', j', n', nw2, cd', hc', hm', s0.trans r1, ⟨r2, r3, FC1.tr (r4.le (by omega)), r5, r6, by omega, r8, r9⟩, (d1.trans e2).trans r10, r11, r12, QF1.tr r13, r14⟩
        · exact Or.inr ⟨r, hc', hm', s0.trans r1, (d1.trans e2).trans r2, r3.tr FC1 QF1⟩
      · obtain ⟨f', q', f1, f2, f3, f4, f5⟩ := e3.1
        have fz : ¬ hI g2' 207 1 = nI 0 := by rw [f1, nI_eqI (by omega) (by omega)]; omega
        rw [e1, cI_s, x111, if_neg fz, cI_s, c114f fz] at s0
        exact Or.inr ⟨m1, g2', w3, s0, d1.trans e2, e3.tr (a3.le (Nat.zero_le _)) (b3'.tr d5)⟩
    · rw [if_neg z, if_pos rfl] at s0
      exact Or.inl ⟨i, j, n, nw', cd, hc, hm, s0, ⟨hC, hi, FC.rf, hjb, hnb, Nat.le_refl _, hnj, hpl⟩, rfl, hQ, hP, QF.rf, z⟩
theorem s2_of (ht : t ≤ 300) (hT : ∀ k, T k < 256) (hs : s < 4) (ho : o ≤ 8) (h1 : S1 L T t N s o) : S2 L T t N s o := by
  intro D j n m nw f cd hc hm hD hC hQ hn hcl hm30 hnw hWT hfr hf7 hB
  obtain ⟨E, rfl⟩ : ∃ E, D = E + 1 := ⟨D - 1, by omega⟩
  have s0 := x114 L E (nI o) hc
  have jN := hC.2.1
  have N3 := hC.1.1
  rcases h1 E j n (m + 1) nw cd hc hm (by omega) hC hQ hn hcl (by omega) (by omega) hWT with ⟨i, j', n', st, hc', hm', e1, ⟨o1, o2, o3, o4, o5, o6, o7⟩, e2, e3, e4⟩ | ⟨r, hc', hm', e1, e2, e3⟩
  · rw [e1, cI_s] at s0
    have top3 : hI hm' 279 m = nI f := by
      rw [e4.2.1 m (by omega)]
      exact hfr
    rw [one_end (L := L) (d := 96) e3 (by omega) top3 hf7, cV_s] at e2
    have kb : ∀ k, k < nw → hI (wI hm' 253 52 (nI 2)) 281 k = hI hm 281 k ∧ hI (wI hm' 253 52 (nI 2)) 282 k = hI hm 282 k := fun k hk => by
      rw [wI_ne (by omega), wI_ne (by omega)]
      exact e4.2.2.1 k hk
    have QF1 : QF (m + 1) nw hm (wI hm' 253 52 (nI 2)) := e4.tr (QF.w (by omega))
    rcases s2_loop ht hT hs ho h1 (D := E) (m := m) (nw := nw) (f := f) (jb := j) (nb0 := n) (cd0 := cd) (by omega) hm30 hnw hf7 301 j' n' i nw 0 dm (cd ++ Pf hc' s i) hc' (wI hm' 253 52 (nI 2)) (by omega) o1 o2 (by omega) (by omega) o5 o4 o6 (by rw [List.length_append]; omega) hcl o7 e3.st (Or.inl ⟨rfl, rfl⟩) (by rw [wI_ne (by omega)]; exact top3) (hB.cg (Nat.le_refl _) kb) with ⟨i', j2, n2, nw2, cd', gc, gm, r1, ⟨r2, r3, r4, r5, r6, r7, r8, r9⟩, r10, r11, r12, r13, r14⟩ | ⟨r, gc, gm, r1, r2, r3⟩
    · exact Or.inl ⟨i', j2, n2, nw2, cd', gc, gm, s0.trans r1, ⟨r2, r3, o3.tr (r4.le o5), r5, r6, r8, r9⟩, e2.trans r10, r11, r12, QF1.tr r13, r14⟩
    · exact Or.inr ⟨r, gc, gm, s0.trans r1, e2.trans r2, r3.tr o3 QF1⟩
  · obtain ⟨f', q', f1, f2, f3, f4, f5⟩ := e3.1
    have fz : ¬ hI hc' 207 1 = nI 0 := by rw [f1, nI_eqI (by omega) (by omega)]; omega
    rw [e1, cI_s, c114f fz] at s0
    exact Or.inr ⟨r, hc', hm', s0, e2, e3⟩
/-- the sums that follow -/
theorem s3_loop (ht : t ≤ 300) (hT : ∀ k, T k < 256) (hs : s < 4) (ho : o ≤ 8) (h2 : S2 L T t N s o) {D m nw f jb nb0 : Nat} (hD : 7 + 4 * (8 - o) ≤ D) (hm30 : m + 1 < 30 + o) (hnw : nw < 38 + 2 * o) (hf7 : f ≠ 7 ∧ f < 10) {cd0 : List (Nat × Nat)} : ∀ (u j n i nw1 nw' it : Nat) (v4 : Value) (cd c1 : List (Nat × Nat)) (hc hm : PH), 301 ≤ j + u → CC hc T t N s j n → i < n → n ≤ j → it < j → nb0 ≤ n → jb < j → n + jb ≤ nb0 + j → (cd0 ++ Pf hc s i).length ≤ j → cd0.length ≤ jb → (Pf hc s i).length + jb ≤ j → QS hm T t j o (m + 1) nw' 2 cd → PD hm (m + 1) nw1 nw' cd c1 4 → PD hm (m + 1) nw nw1 c1 (cd0 ++ Pf hc s i) 3 → hI hm 279 m = nI f → BZ hm (m + 1) nw 3 → ¬ (25 ≤ kd T t j ∧ kd T t j ≤ 27) → (∃ i' j' n' nwa nw2 cd' c1' hc' hm', runL (g2 L) D 8 false (some .int) kc_113 8 [.ref 207, .int (nI o), .int (nI i), .int (nI it), v4] [] hc = some (some (.int (nI i')), hc') ∧ (CC hc' T t N s j' n' ∧ i' < n' ∧ FC s n hc hc' ∧ jb < j' ∧ nb0 ≤ n' ∧ n ≤ n' ∧ n' + jb ≤ nb0 + j' ∧ (Pf hc' s i').length + jb ≤ j') ∧ ML L hm = ML L hm' ∧ QS hm' T t j' o (m + 1) nw2 2 cd' ∧ PD hm' (m + 1) nwa nw2 cd' c1' 4 ∧ PD hm' (m + 1) nw nwa c1' (cd0 ++ Pf hc' s i') 3 ∧ QF (m + 1) nw hm hm' ∧ ¬ (23 ≤ kd T t j' ∧ kd T t j' ≤ 27)) ∨ (∃ r hc' hm', runL (g2 L) D 8 false (some .int) kc_113 8 [.ref 207, .int (nI o), .int (nI i), .int (nI it), v4] [] hc = some (some (.int r), hc') ∧ ML L hm = ML L hm' ∧ FLT hc hc' hm hm' s) := by
  intro u
  induction u with
  | zero =>
    intro j n i nw1 nw' it v4 cd c1 hc hm hj hC
    have := hC.1.1
    have := hC.2.1
    omega
  | succ u ih =>
    intro j n i nw1 nw' it v4 cd c1 hc hm hj hC hi hn hit hnb hjb hnj hcl hc0 hpl hQ hP1 hP hfr hB hno
    have N3 := hC.1.1
    have jN := hC.2.1
    have k27 := kd_le hQ
    obtain ⟨E, rfl⟩ : ∃ E, D = E + 6 := ⟨D - 6, by omega⟩
    have s0 := e113_8 L (E + 6) (nI o) (nI i) (nI it) v4 hc
    rw [if_neg (by rw [nI_leN (by omega) (by omega)]; omega), hC.2.2.2.2.1, if_neg (fun q => q rfl), hC.2.2.2.1] at s0
    by_cases z : 23 ≤ kd T t j ∧ kd T t j ≤ 24
    · have s1 : runL (g2 L) (E + 6) 8 false (some .int) kc_113 8 [.ref 207, .int (nI o), .int (nI i), .int (nI it), v4] [] hc = runL (g2 L) (E + 6) 8 false (some .int) kc_113 40 [.ref 207, .int (nI o), .int (nI i), .int (nI it), v4] [] hc := by
        rw [s0]
        by_cases y : kd T t j = 23
        · rw [if_pos (by rw [y])]
        · rw [if_neg (by rw [nI_eqI (by omega) (by omega)]; exact y), if_neg (by rw [Ne, nI_eqI (by omega) (by omega)]; omega)]
      obtain ⟨g1, a1, a2, a3, a4⟩ := c108 (L := L) (E + 5) hs hC (by omega) (by omega)
      rw [e113_40, a1, cV_s, hC.2.2.2.1] at s1
      have P1 : Pf g1 s i = Pf hc s i := Pf_old hC (a3.le (by omega)) hi
      obtain ⟨w1, b1', b2', b3', b4'⟩ := fl2 (L := L) hQ hP1 hP (r := 3) (by omega) (Nat.le_refl _) hB (by omega) (by omega) (by omega) (by omega)
      obtain ⟨w2, d1, d2, d3, d4, d5, d6⟩ := g_op (L := L) (h1 := w1) ht hT hQ (by omega) (by omega) (by rw [rk_oc3 z]; exact b1') b2' (by omega)
      have top2 : hI w2 279 m = nI f := by
        rw [d6, b4']
        exact hfr
      rcases h2 (E + 6) (j + 1) n m (nw + 1) f (cd0 ++ Pf hc s i) g1 w2 (by omega) a2 d2 (by omega) (by omega) (by omega) (by omega) (Or.inr ⟨m + 1, oc (kd T t j), d4, Nat.le_refl _, d3, oc_lt _⟩) top2 hf7 (Or.inr ⟨m + 1, oc (kd T t j), d4, by omega, d3, oc_lt _, Or.inr (by rw [rk_oc3 z]; omega)⟩) with ⟨i2, j2, n2, nw2, cd2, g2', w3, e1, ⟨o1, o2, o3, o4, o5, o6, o7⟩, e2, e3, e4, e5, e6⟩ | ⟨r, g2', w3, e1, e2, e3⟩
      · rw [e1, cI_s] at s1
        have j2N := o1.2.1
        have P2 : Pf g2' s i = Pf hc s i := (Pf_old a2 o3 hi).trans P1
        obtain ⟨g3, c1', c2, c3, c4, c5, c6⟩ := c111 (L := L) (E + 4) (k := kd T t j) (a := i) (b := i2) hs o1 (by omega) (by unfold nl; omega) (by omega) o2 (fun q => by omega)
        rw [c1', cI_s, nI_plus] at s1
        have Pn : Pf g3 s n2 = Pf hc s i ++ (Pf g2' s i2 ++ [(oc (kd T t j), 0)]) := by
          rw [Pf_bin o1 c3 c4 c5 c6 (by omega) o2 (by omega), P2]
        have Ln : (Pf g3 s n2).length = (Pf hc s i).length + (Pf g2' s i2).length + 1 := by
          rw [Pn, List.length_append, List.length_append, List.length_singleton]
          omega
        have kb : ∀ k, k < nw → hI w3 281 k = hI hm 281 k ∧ hI w3 282 k = hI hm 282 k := fun k hk => by
          obtain ⟨y1, y2⟩ := e5.2.2.1 k (by omega)
          obtain ⟨y3, y4⟩ := d5.2.2.1 k (by omega)
          obtain ⟨y5, y6⟩ := b3'.2.2.1 k (by omega)
          exact ⟨y1.trans (y3.trans y5), y2.trans (y4.trans y6)⟩
        have FC1 : FC s n hc g3 := ((a3.le (by omega)).tr o3).tr (c3.le o5)
        have QF1 : QF (m + 1) nw hm w3 := b3'.tr (d5.tr (e5.le (Nat.le_refl _) (by omega)))
        rcases ih j2 (n2 + 1) n2 (nw + 1) nw2 (it + 1) (.int (nI (kd T t j))) cd2 ((cd0 ++ Pf hc s i) ++ Pf g2' s i2) g3 w3 (by omega) c2 (by omega) (by omega) (by omega) (by omega) (by omega) (by omega) (by rw [List.length_append] at hcl ⊢; omega) hc0 (by omega) e3 e4 (Or.inr ⟨rfl, oc (kd T t j), rk_oc3 z, oc_lt _, by rw [(e5.2.2.1 nw (by omega)).1]; exact d3, by rw [(e5.2.2.1 nw (by omega)).2]; exact d4, by rw [Pn, List.append_assoc, List.append_assoc]⟩) (by rw [e5.2.1 m (by omega)]; exact top2) (hB.cg (Nat.le_refl _) kb) e6 with ⟨i', j', n', nwa, nw3, cd', c1'', hc', hm', r1, ⟨r2, r3, r4, r5, r6, r7, r8, r9⟩, r10, r11, r12, r13, r14, r15⟩ | ⟨r, hc', hm', r1, r2, r3⟩
        · exact Or.inl ⟨i', j', n', nwa, nw3, cd', c1'', hc', hm', s1.trans r1, ⟨r2, r3, FC1.tr (r4.le (by omega)), r5, r6, by omega, r8, r9⟩, (d1.trans e2).trans r10, r11, r12, r13, QF1.tr r14, r15⟩
        · exact Or.inr ⟨r, hc', hm', s1.trans r1, (d1.trans e2).trans r2, r3.tr FC1 QF1⟩
      · obtain ⟨f', q', f1, f2, f3, f4, f5⟩ := e3.1
        have fz : ¬ hI g2' 207 1 = nI 0 := by rw [f1, nI_eqI (by omega) (by omega)]; omega
        rw [e1, cI_s, x111, if_neg fz, cI_s, c113f fz] at s1
        exact Or.inr ⟨m1, g2', w3, s1, d1.trans e2, e3.tr (a3.le (Nat.zero_le _)) (b3'.tr d5)⟩
    · rw [if_neg (by rw [nI_eqI (by omega) (by omega)]; omega), if_pos (by rw [Ne, nI_eqI (by omega) (by omega)]; omega)] at s0
      exact Or.inl ⟨i, j, n, nw1, nw', cd, c1, hc, hm, s0, ⟨hC, hi, FC.rf, hjb, hnb, Nat.le_refl _, hnj, hpl⟩, rfl, hQ, hP1, hP, QF.rf, by omega⟩
theorem s3_of (ht : t ≤ 300) (hT : ∀ k, T k < 256) (hs : s < 4) (ho : o ≤ 8) (h2 : S2 L T t N s o) : S3 L T t N s o := by
  intro D j n m nw f cd hc hm hD hC hQ hn hcl hm30 hnw hWT hfr hf7 hB
  obtain ⟨E, rfl⟩ : ∃ E, D = E + 1 := ⟨D - 1, by omega⟩
  have s0 := x113 L E (nI o) hc
  rcases h2 E j n m nw f cd hc hm (by omega) hC hQ hn hcl hm30 (by omega) hWT hfr hf7 (hB.mono (by omega)) with ⟨i, j', n', nw', cd', hc', hm', e1, ⟨o1, o2, o3, o4, o5, o6, o7⟩, e2, e3, e4, e5, e6⟩ | ⟨r, hc', hm', e1, e2, e3⟩
  · rw [e1, cI_s] at s0
    rcases s3_loop ht hT hs ho h2 (D := E) (m := m) (nw := nw) (f := f) (jb := j) (nb0 := n) (cd0 := cd) (by omega) hm30 hnw hf7 301 j' n' i nw nw' 0 dm cd' (cd ++ Pf hc' s i) hc' hm' (by omega) o1 o2 (by omega) (by omega) o5 o4 o6 (by rw [List.length_append]; omega) hcl o7 e3 e4 (Or.inl ⟨rfl, rfl⟩) (by rw [e5.2.1 m (by omega)]; exact hfr) (hB.cg (Nat.le_refl _) e5.2.2.1) e6 with ⟨i', j2, n2, nwa, nw2, cd2, c1, gc, gm, r1, ⟨r2, r3, r4, r5, r6, r7, r8, r9⟩, r10, r11, r12, r13, r14, r15⟩ | ⟨r, gc, gm, r1, r2, r3⟩
    · exact Or.inl ⟨i', j2, n2, nwa, nw2, cd2, c1, gc, gm, s0.trans r1, ⟨r2, r3, o3.tr (r4.le o5), r5, r6, r8, r9⟩, e2.trans r10, r11, r12, r13, e5.tr r14, r15⟩
    · exact Or.inr ⟨r, gc, gm, s0.trans r1, e2.trans r2, r3.tr o3 e5⟩
  · obtain ⟨f', q', f1, f2, f3, f4, f5⟩ := e3.1
    have fz : ¬ hI hc' 207 1 = nI 0 := by rw [f1, nI_eqI (by omega) (by omega)]; omega
    rw [e1, cI_s, c113f fz] at s0
    exact Or.inr ⟨r, hc', hm', s0, e2, e3⟩
end Ssim
