-- PART: strips, both readers side by side: the head of a row.
/-- what stays beside the readers -/
def RFc (s : Nat) (h h' : PH) : Prop := (∀ a, a ≠ 207 → ¬ (213 + 10 * s ≤ a ∧ a ≤ 213 + 10 * s + 9) → hI h' a = hI h a) ∧ hI h' (213 + 10 * s) 11 = hI h (213 + 10 * s) 11 ∧ hI h' 207 0 = hI h 207 0 ∧ hR h' = hR h
def RFm (h h' : PH) : Prop := (∀ a, a ≠ 253 → ¬ (279 ≤ a ∧ a ≤ 286) → hI h' a = hI h a) ∧ (∀ k, k < 39 → hI h' 253 k = hI h 253 k) ∧ hR h' = hR h
theorem RFc.rf {s : Nat} {h : PH} : RFc s h h := ⟨fun _ _ _ => rfl, rfl, rfl, rfl⟩
theorem RFm.rf {h : PH} : RFm h h := ⟨fun _ _ _ => rfl, fun _ _ => rfl, rfl⟩
theorem RFc.tr {s : Nat} {a b c : PH} (h1 : RFc s a b) (h2 : RFc s b c) : RFc s a c := ⟨fun x p q => (h2.1 x p q).trans (h1.1 x p q), h2.2.1.trans h1.2.1, h2.2.2.1.trans h1.2.2.1, h2.2.2.2.trans h1.2.2.2⟩
theorem RFm.tr {a b c : PH} (h1 : RFm a b) (h2 : RFm b c) : RFm a c := ⟨fun x p q => (h2.1 x p q).trans (h1.1 x p q), fun k z => (h2.2.1 k z).trans (h1.2.1 k z), h2.2.2.trans h1.2.2⟩
theorem FC.rfc {s n : Nat} {h h' : PH} (hf : FC s n h h') : RFc s h h' := ⟨fun a p q => hf.1 a p (by omega), hf.2.2.1 11 (by omega) (by omega), hf.2.2.2.1, hf.2.2.2.2⟩
theorem QA.rfm {nf nw : Nat} {h h' : PH} (hq : QA nf nw h h') : RFm h h' := ⟨fun a p q => hq.1 a p (by omega) (by omega) (by omega), fun k hk => hq.2.2.2.1 k (Or.inl hk), hq.2.2.2.2⟩
theorem Fx.rfm {h h' : PH} (hq : Fx h h') : RFm h h' := ⟨fun a p _ => hq.1 a p, fun k hk => hq.2.1 k (by omega), hq.2.2⟩
/-- both have found the same fault, in a row -/
def FLR (hc hc' hm hm' : PH) (s : Nat) : Prop := (∃ f q, hI hc' 207 1 = nI f ∧ hI hc' 207 2 = nI q ∧ 1 ≤ f ∧ f ≤ 4 ∧ FM hm' f q) ∧ RFc s hc hc' ∧ (∃ n, n ≤ 300 ∧ hI hc' (213 + 10 * s) 0 = nI n) ∧ RFm hm hm'
theorem FLT.flr {hc hc' hm hm' : PH} {s : Nat} (h : FLT hc hc' hm hm' s) : FLR hc hc' hm hm' s := ⟨h.1, h.2.1.rfc, h.2.2.1, h.2.2.2.rfm⟩
theorem FLR.tr {hc g hc' hm k hm' : PH} {s : Nat} (h : FLR g hc' k hm' s) (hF : RFc s hc g) (hq : RFm hm k) : FLR hc hc' hm hm' s := ⟨h.1, hF.tr h.2.1, h.2.2.1, hq.tr h.2.2.2⟩
section Srow
variable {L : Nat} {T : Nat → Nat} {t N s : Nat} {j m : Nat} {cd : List (Nat × Nat)} {h : PH}
/-- the rest of the class's row -/
noncomputable def R16 (L D : Nat) (x : Int32) (h1 : PH) : PR := cI (exec (g2 L) D 109 [.ref 207] h1) fun r3 h2 => if (hI h2 207 1) = (nI 0) then if (hI h2 207 5) = (nI 8) then asr (okA (g2 L) h2 (hR h2 207 6) 30) (cV (exec (g2 L) D 121 [.ref (hR h2 207 6), .int x, .int r3] h2) fun h4 => cV (exec (g2 L) D 108 [.ref 207] h4) fun h5 => some (none, h5)) else cI (exec (g2 L) D 105 [.ref 207, .int (nI 1)] h2) fun r7 h6 => some (none, h6) else some (none, h2)
theorem ml_4 (hQ : QS h T t j 0 0 0 4 cd) (hk : kd T t j ≠ 0) : ML L h = cV (exec (g2 L) 99 236 [.ref 253] h) (ML L) := by
  rw [ml_96 hQ (by omega) (fun _ => hk), e214_96, hQ.2.2.2.2.2.2.2.1, if_neg (by decide), if_neg (by decide), if_neg (by decide), if_neg (by decide)]
  rfl
theorem l_bad (hQ : QS h T t j 0 0 0 4 cd) (hk : kd T t j ≠ 0 ∧ kd T t j ≠ 3 ∧ kd T t j ≠ 4) : ∃ h', ML L h = ML L h' ∧ FM h' 1 (ps T t j) ∧ QF 0 0 h h' := by
  obtain ⟨h', a1, a2, a3⟩ := q221 (L := L) 97 1 hQ
  refine ⟨h', ?_, a2, a3⟩
  rw [ml_4 hQ hk.1, x236]
  rcases hQ.1.mt.cases with ⟨w, _⟩ | ⟨_, w⟩ | ⟨_, w, _⟩ | ⟨w, w1, w2⟩ | ⟨_, w, _⟩
  · exact absurd w hk.1
  · rcases w with w | ⟨w, _⟩
    · rw [w, if_pos (by decide), a1, cV_s, cV_s]
    · rw [w, if_pos (by decide), a1, cV_s, cV_s]
  · rw [w, if_pos (by decide), a1, cV_s, cV_s]
  · rw [w1, if_neg (fun q => q rfl), w2, if_neg, a1, cV_s, cV_s]
    rw [nI_leN (by split <;> omega) (by omega)]
    split <;> omega
  · rw [w, if_pos (by decide), a1, cV_s, cV_s]
theorem l_told (hQ : QS h T t j 0 0 0 4 cd) (hk : kd T t j = 3 ∨ kd T t j = 4) : hI h 253 41 = nI 1 ∧ hI h 253 42 = nI (kd T t j - 3) := by
  rcases hQ.1.mt.cases with ⟨w, _⟩ | ⟨w, _⟩ | ⟨w, _⟩ | ⟨w, w1, w2⟩ | ⟨w, _⟩
  · omega
  · omega
  · omega
  · rw [if_pos (by omega)] at w2
    exact ⟨w1, w2⟩
  · omega
theorem l_many (hQ : QS h T t j 0 0 0 4 cd) (hk : kd T t j = 3 ∨ kd T t j = 4) (h53 : hI h 253 53 = nI 12) : ∃ h', ML L h = ML L h' ∧ FM h' 4 (ps T t j) ∧ QF 0 0 h h' := by
  obtain ⟨h', a1, a2, a3⟩ := q221 (L := L) 97 4 hQ
  refine ⟨h', ?_, a2, a3⟩
  obtain ⟨b1', b2'⟩ := l_told hQ hk
  rw [ml_4 hQ (by omega), x236, b1', if_neg (fun q => q rfl), b2', if_pos (by rw [nI_leN (by omega) (by omega)]; omega), h53, if_neg (fun q => q rfl), a1, cV_s, cV_s]
/-- the row begins -/
theorem l_100 (x1 x2 : Int32) (hm : m < 12) (hQ : QS h T t j 0 0 0 4 cd) (h53 : hI h 253 53 = nI m) : ∃ h', runL (g2 L) 98 11 false none kc_236 100 [.ref 253, .int x1, .int x2] [] h = some (none, h') ∧ QS h' T t j 0 1 0 0 cd ∧ hI h' 279 0 = nI 2 ∧ hI h' 283 m = x2 ∧ hI h' 284 m = nI cd.length ∧ (∀ k, k ≠ m → hI h' 283 k = hI h 283 k ∧ hI h' 284 k = hI h 284 k) ∧ hI h' 253 53 = nI m ∧ RFm h h' := by
  have q1 : QS (wI (wI h 283 m x2) 284 m (nI cd.length)) T t j 0 0 0 4 cd := (hQ.w (by omega)).w (by omega)
  obtain ⟨g, a1, a2, a3, a4⟩ := q222 (L := L) 97 2 (by omega) q1
  refine ⟨wI g 253 52 (nI 0), ?_, a2.st, by rw [wI_ne (by omega)]; exact a4, ?_, ?_, fun k hk => ?_, ?_, fun a p q => ?_, fun k hk => ?_, ?_⟩
  · rw [e236_100, hQ.2.2.1, if_pos (by decide), h53, inB_nI (by omega), asr_d (by omega), asr_d (by omega), ix_nI (by omega), hQ.2.2.2.2.2.2.2.2.1, a1, cV_s]
  · rw [wI_ne (by omega), a3.1 283 (by omega) (by omega) (by omega) (by omega) (by omega) (by omega), wI_ne (by omega), hI_wI, if_pos ⟨rfl, rfl⟩]
  · rw [wI_ne (by omega), a3.1 284 (by omega) (by omega) (by omega) (by omega) (by omega) (by omega), hI_wI, if_pos ⟨rfl, rfl⟩]
  · rw [wI_ne (by omega), wI_ne (by omega), a3.1 283 (by omega) (by omega) (by omega) (by omega) (by omega) (by omega), a3.1 284 (by omega) (by omega) (by omega) (by omega) (by omega) (by omega), wI_ne (by omega), hI_wI, if_neg (fun q => hk q.2), hI_wI, if_neg (fun q => hk q.2), wI_ne (by omega)]
    exact ⟨rfl, rfl⟩
  · rw [hI_wI, if_neg (by omega), a3.2.2.2.1 53 (Or.inr rfl), wI_ne (by omega), wI_ne (by omega)]
    exact h53
  · rw [wI_ne p, a3.1 a p (by omega) (by omega) (by omega) (by omega) (by omega), wI_ne (by omega), wI_ne (by omega)]
  · rw [hI_wI, if_neg (by omega), a3.2.2.2.1 k (Or.inl hk), wI_ne (by omega), wI_ne (by omega)]
  · exact a3.2.2.2.2
/-- the head of a row, up to its expression -/
theorem row_head {hc hm : PH} {D n : Nat} (ht : t ≤ 300) (hT : ∀ k, T k < 256) (hs : s < 4) (hm12 : m < 12) (hC : CC hc T t N s j n) (hQ : QS hm T t j 0 0 0 4 cd) (hk : kd T t j = 3 ∨ kd T t j = 4) (h53 : hI hm 253 53 = nI m) : (∃ b j' hc' hm', b ≤ 4 ∧ j < j' ∧ exec (g2 L) (D + 4) 106 [.ref 207] hc = R16 L (D + 3) (nI b - nI 1) hc' ∧ CC hc' T t N s j' n ∧ FC s 300 hc hc' ∧ ML L hm = ML L hm' ∧ QS hm' T t j' 0 1 0 0 cd ∧ hI hm' 279 0 = nI 2 ∧ hI hm' 283 m = nI b - nI 1 ∧ hI hm' 284 m = nI cd.length ∧ (∀ k, k ≠ m → hI hm' 283 k = hI hm 283 k ∧ hI hm' 284 k = hI hm 284 k) ∧ hI hm' 253 53 = nI m ∧ RFm hm hm') ∨ (∃ hc' hm', exec (g2 L) (D + 4) 106 [.ref 207] hc = some (none, hc') ∧ ML L hm = ML L hm' ∧ FLR hc hc' hm hm' s) := by
  obtain ⟨t1, t2⟩ := l_told hQ hk
  have k27 := kd_le hQ
  have s0 := x106 L (D + 3) hc
  rw [hC.2.2.2.1] at s0
  have m0 := ml_4 (L := L) hQ (by omega)
  have c0 := x236 L 98 hm
  rw [t1, if_neg (fun q => q rfl), t2, if_pos (by rw [nI_leN (by omega) (by omega)]; omega), h53, if_pos (by rw [Ne, nI_eqI (by omega) (by omega)]; omega)] at c0
  obtain ⟨g1, a1, a2, a3, a4⟩ := c108 (L := L) (D + 2) hs hC (by omega) (by omega)
  obtain ⟨w1, b1', b2', b3'⟩ := q215 (L := L) 95 ht hT (kd_lt (by omega)) hQ
  have w53 : hI w1 253 53 = nI m := by
    rw [b3'.2.1 53 (by omega)]
    exact h53
  rcases hk with hk | hk
  · -- ring
    rw [hk, if_neg (fun q => q rfl), x107] at s0
    have a1' : exec (g2 L) (D + 2) 108 [.ref 207] hc = some (none, g1) := by
      have := c108 (L := L) (D + 1) hs hC (by omega) (by omega)
      obtain ⟨g1', y1, y2, y3, y4⟩ := this
      rw [x108] at a1 y1
      rw [a1] at y1
      rw [x108]
      exact a1
    rw [a1', cV_s, a2.2.2.2.1] at s0
    rw [if_neg (by rw [hk]; exact fun q => q rfl), b1', cV_s, x237, b2'.2.2.1, if_neg (by decide)] at c0
    have k27' := kd_le b2'
    by_cases k2 : kd T t (j + 1) = 2
    · have jN := a2.ne (by omega)
      have N3 := a2.1.1
      have nbl := nb_le (T := T) (t := t) (j + 1)
      rw [k2, if_pos rfl, a2.2.2.1, inB_nI (by omega), asr_d (by omega), ix_nI (by omega), (a2.1.2.2 (j + 1) (by omega)).2.2 jN] at s0
      have tk : hI w1 253 41 = nI 2 ∧ ∃ w, hI w1 253 42 = nI w ∧ w < 1100000 ∧ ((w = nb T t (j + 1) ∧ nb T t (j + 1) ≤ 9999) ∨ (nb T t (j + 1) = 10000 ∧ 10000 ≤ w)) := by
        rcases b2'.1.mt.cases with ⟨w, _⟩ | ⟨w, _⟩ | ⟨_, w, y⟩ | ⟨w, _⟩ | ⟨w, _⟩
        · omega
        · omega
        · exact ⟨w, y⟩
        · omega
        · omega
      obtain ⟨u1, w, u2, u3, u4⟩ := tk
      rw [u1, if_pos rfl, u2, m153, cI_s] at c0
      by_cases v : nb T t (j + 1) < 4
      · have wv : w = nb T t (j + 1) := by omega
        subst wv
        rw [if_pos (by rw [nI_ltN (by omega) (by omega)]; exact v)] at s0
        obtain ⟨g2', e1, e2, e3, e4⟩ := c108 (L := L) (D + 1) hs a2 (by omega) (by omega)
        rw [e1, cV_s, e2.2.2.2.1] at s0
        rw [if_pos (bI_nz.mpr ⟨by rw [nI_leN (by omega) (by omega)]; omega, by rw [nI_leN (by omega) (by omega)]; omega⟩)] at c0
        obtain ⟨w2, f1, f2, f3⟩ := q215 (L := L) 94 ht hT (kd_lt (by omega)) b2'
        rw [f1, cV_s, u2, cI_s, e236_68, f2.2.2.1, if_neg (fun q => q rfl), if_neg (by decide), q219 97 f2 (by omega), cI_s] at c0
        have k27'' := kd_le f2
        by_cases k5 : kd T t (j + 1 + 1) = 5
        · rw [k5, if_neg (fun q => q rfl), cI_s, e106_16, e2.2.2.2.2.1, if_pos rfl] at s0
          obtain ⟨g3, x1, x2, x3, x4⟩ := c108 (L := L) (D + 2) hs e2 (by omega) (by omega)
          rw [x1, cV_s] at s0
          obtain ⟨w3, y1, y2, y3⟩ := q215 (L := L) 95 ht hT (kd_lt (by omega)) f2
          rw [if_pos (show kd T t (j + 1 + 1) = (if 2 ≤ 2 then 2 + 3 else 2 + 6) from k5), if_neg (by decide), y1, cV_s] at c0
          obtain ⟨w4, z1, z2, z3, z4, z5, z6, z7, z8⟩ := l_100 (L := L) (nI 1) (nI (nb T t (j + 1))) hm12 y2 (by rw [y3.2.1 53 (by omega), f3.2.1 53 (by omega)]; exact w53)
          rw [z1] at c0
          rw [c0, cV_s] at m0
          refine Or.inl ⟨nb T t (j + 1) + 1, j + 1 + 1 + 1, g3, w4, by omega, by omega, ?_, x2, a3.tr (e3.tr x3), m0, z2, z3, by rw [nI_m1_plus]; exact z4, z5, fun k hk' => ?_, z7, ?_⟩
          · rw [s0, nI_m1_plus]
            rfl
          · obtain ⟨q1, q2⟩ := z6 k hk'
            rw [q1, q2, y3.1 283 (by omega), y3.1 284 (by omega), f3.1 283 (by omega), f3.1 284 (by omega), b3'.1 283 (by omega), b3'.1 284 (by omega)]
            exact ⟨rfl, rfl⟩
          · exact b3'.rfm.tr (f3.rfm.tr (y3.rfm.tr z8))
        · obtain ⟨g3, x1, x2, x3, x4, x5⟩ := c105 (L := L) (D + 1) (f := 1) hs e2
          obtain ⟨w3, y1, y2, y3⟩ := q221 (L := L) 97 1 f2
          have fz : ¬ hI g3 207 1 = nI 0 := by rw [x2]; decide
          rw [if_pos (by rw [Ne, nI_eqI (by omega) (by omega)]; exact k5), x1, cI_s, cI_s, e106_16, if_neg fz] at s0
          rw [if_neg (show ¬ kd T t (j + 1 + 1) = (if 2 ≤ 2 then 2 + 3 else 2 + 6) from fun q => k5 q), if_pos rfl, y1, cV_s, e236_100, y2.1, if_neg (by decide)] at c0
          rw [c0, cV_s] at m0
          exact Or.inr ⟨g3, w3, s0, m0, (FLT.of e2 x2 x3 x4 x5 (by omega) y2 y3).flr.tr (a3.tr e3).rfc (b3'.rfm.tr f3.rfm)⟩
      · obtain ⟨g3, x1, x2, x3, x4, x5⟩ := c105 (L := L) (D + 1) (f := 2) hs a2
        obtain ⟨w3, y1, y2, y3⟩ := q221 (L := L) 96 2 b2'
        have fz : ¬ hI g3 207 1 = nI 0 := by rw [x2]; decide
        rw [if_neg (by rw [nI_ltN (by omega) (by omega)]; exact v), x1, cI_s, cI_s, e106_16, if_neg fz] at s0
        rw [if_neg (by rw [bI_nz, nI_leN (by omega) (by omega), nI_leN (by omega) (by omega)]; omega), y1, cV_s, cI_s, e236_68, y2.1, if_pos (by decide), e236_100, y2.1, if_neg (by decide)] at c0
        rw [c0, cV_s] at m0
        exact Or.inr ⟨g3, w3, s0, m0, (FLT.of a2 x2 x3 x4 x5 (by omega) y2 y3).flr.tr a3.rfc b3'.rfm⟩
    · obtain ⟨g3, x1, x2, x3, x4, x5⟩ := c105 (L := L) (D + 1) (f := 1) hs a2
      obtain ⟨w3, y1, y2, y3⟩ := q221 (L := L) 96 1 b2'
      have fz : ¬ hI g3 207 1 = nI 0 := by rw [x2]; decide
      have ns : ¬ hI w1 253 41 = nI 2 := by
        intro q
        rcases b2'.1.mt.cases with ⟨_, w⟩ | ⟨_, w⟩ | ⟨w, _⟩ | ⟨_, w, _⟩ | ⟨_, w, _⟩
        · rw [q] at w
          exact absurd w (by decide)
        · rw [q] at w
          rcases w with w | w
          · exact absurd w (by decide)
          · exact absurd w.1 (by decide)
        · exact k2 w
        · rw [q] at w
          exact absurd w (by decide)
        · rw [q] at w
          exact absurd w (by decide)
      rw [if_neg (by rw [nI_eqI (by omega) (by omega)]; exact k2), x1, cI_s, cI_s, e106_16, if_neg fz] at s0
      rw [if_neg ns, y1, cV_s, cI_s, e236_68, y2.1, if_pos (by decide), e236_100, y2.1, if_neg (by decide)] at c0
      rw [c0, cV_s] at m0
      exact Or.inr ⟨g3, w3, s0, m0, (FLT.of a2 x2 x3 x4 x5 (by omega) y2 y3).flr.tr a3.rfc b3'.rfm⟩
  · -- rest
    rw [hk, if_pos (by decide), e106_16, hC.2.2.2.2.1, if_pos rfl, a1, cV_s] at s0
    rw [if_pos (by rw [hk]; decide), b1', cV_s, e236_68, b2'.2.2.1, if_neg (fun q => q rfl), if_pos rfl] at c0
    obtain ⟨w4, z1, z2, z3, z4, z5, z6, z7, z8⟩ := l_100 (L := L) (nI 0) m1 hm12 b2' w53
    rw [z1] at c0
    rw [c0, cV_s] at m0
    refine Or.inl ⟨0, j + 1, g1, w4, by omega, by omega, ?_, a2, a3, m0, z2, z3, by rw [nI_p0]; exact z4, z5, fun k hk' => ?_, z7, b3'.rfm.tr z8⟩
    · rw [s0, nI_p0]
      rfl
    · obtain ⟨q1, q2⟩ := z6 k hk'
      rw [q1, q2, b3'.1 283 (by omega), b3'.1 284 (by omega)]
      exact ⟨rfl, rfl⟩
end Srow
