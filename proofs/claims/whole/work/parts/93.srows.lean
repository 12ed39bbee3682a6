-- PART: strips, both readers side by side: the rows.
def AtL (cd : List (Nat × Nat)) (a : Nat) (c : List (Nat × Nat)) : Prop := ∃ p q, cd = p ++ (c ++ q) ∧ p.length = a
theorem AtL.app {cd c x : List (Nat × Nat)} {a : Nat} (h : AtL cd a c) : AtL (cd ++ x) a c := by
  obtain ⟨p, q, h1, h2⟩ := h
  exact ⟨p, q ++ x, by rw [h1, List.append_assoc, List.append_assoc], h2⟩
/-- the rows so far, alike on both sides -/
def RW (hc hm : PH) (s m n : Nat) (cd : List (Nat × Nat)) : Prop := hI hc (213 + 10 * s) 1 = nI m ∧ hI hm 253 53 = nI m ∧ m ≤ 12 ∧ ∀ k, k < m → ∃ b i a, b ≤ 4 ∧ hI hc (213 + 10 * s + 8) k = nI b - nI 1 ∧ hI hm 283 k = nI b - nI 1 ∧ i < n ∧ bk (kf hc s i) ∧ hI hc (213 + 10 * s + 9) k = nI i ∧ hI hm 284 k = nI a ∧ (Pf hc s i).length ≤ 300 ∧ AtL cd a (Pf hc s i ++ [(408, 0)])
section Srows
variable {L : Nat} {T : Nat → Nat} {t N s : Nat}
theorem row_step {D j n m : Nat} {cd : List (Nat × Nat)} {hc hm : PH} (ht : t ≤ 300) (hT : ∀ k, T k < 256) (hs : s < 4) (hD : 71 ≤ D + 3) (hm12 : m < 12) (hC : CC hc T t N s j n) (hQ : QS hm T t j 0 0 0 4 cd) (hR : RW hc hm s m n cd) (hn : n ≤ j) (hcl : cd.length ≤ j) (hk : kd T t j = 3 ∨ kd T t j = 4) : (∃ j' n' cd' hc' hm', exec (g2 L) (D + 4) 106 [.ref 207] hc = some (none, hc') ∧ CC hc' T t N s j' n' ∧ ML L hm = ML L hm' ∧ QS hm' T t j' 0 0 0 4 cd' ∧ RW hc' hm' s (m + 1) n' cd' ∧ n' ≤ j' ∧ cd'.length ≤ j' ∧ j < j' ∧ RFc s hc hc' ∧ RFm hm hm') ∨ (∃ hc' hm', exec (g2 L) (D + 4) 106 [.ref 207] hc = some (none, hc') ∧ ML L hm = ML L hm' ∧ FLR hc hc' hm hm' s) := by
  obtain ⟨R1, R2, R3, R4⟩ := hR
  have nl300 := hC.2.2.2.2.2.2.2.2.1
  rcases row_head (L := L) (D := D) ht hT hs hm12 hC hQ hk R2 with ⟨b, j1, g1, w1, b4, jj, a1, a2, a3, a4, a5, a6, a7, a8, a9, a10, a11⟩ | ⟨hc', hm', e1, e2, e3⟩
  · unfold R16 at a1
    rcases s5 (L := L) ht hT hs (D := D + 3) hD a2 a5 (by omega) (by omega) a6 with ⟨i, j2, n2, nwa, nw2, cd', c1', g2', w2, e1, ⟨o1, o2, o3, o4, o5, o6, o7⟩, eb, e2, e3, e4, e5, e6, e7, e8⟩ | ⟨r, g2', w2, e1, e2, e3⟩
    · rw [e1, cI_s, o1.2.2.2.2.1, if_pos rfl, o1.2.2.2.1] at a1
      have k27 := kd_le e3
      have j2N := o1.2.1
      have N3 := o1.1.1
      have top2 : hI w2 279 0 = nI 2 := by
        rw [e6.2.1 0 (by omega)]
        exact a6
      have F2 : FC s n hc g2' := (a3.le (by omega)).tr o3
      by_cases k8 : kd T t j2 = 8
      · have g21 : hI g2' (213 + 10 * s) 1 = nI m := by
          rw [F2.2.2.1 1 (by omega) (by omega)]
          exact R1
        have g20 := o1.2.2.2.2.2.2.2.1
        have n2l := o1.2.2.2.2.2.2.2.2.1
        rw [if_pos (by rw [k8]), o1.2.2.2.2.2.2.1, okA_of (kk30 hs) (by omega), asr_true, x121 _ _ _ hs, g21, if_neg (by rw [nI_leN (by omega) (by omega)]; omega), if_neg (by rw [nI_ltN (by omega) (by omega)]; omega), g20, if_neg (by rw [nI_leN (by omega) (by omega)]; omega), inB_nI (by omega), asr_d (by omega), asr_d (by omega), ix_nI (by omega), nI_plus, cV_s] at a1
        have fo : ∀ x, x ≠ 213 + 10 * s → x ≠ 213 + 10 * s + 8 → x ≠ 213 + 10 * s + 9 → hI (wI (wI (wI g2' (213 + 10 * s + 8) m (nI b - nI 1)) (213 + 10 * s + 9) m (nI i)) (213 + 10 * s) 1 (nI (m + 1))) x = hI g2' x := fun x q1 q2 q3 => by rw [wI_ne q1, wI_ne q3, wI_ne q2]
        have C3 : CC (wI (wI (wI g2' (213 + 10 * s + 8) m (nI b - nI 1)) (213 + 10 * s + 9) m (nI i)) (213 + 10 * s) 1 (nI (m + 1))) T t N s j2 n2 := by
          obtain ⟨c1, c2, c3, c4, c5, c6, c7, c8⟩ := id o1
          refine ⟨c1.cg (fun x p q => fo x (by omega) (by omega) (by omega)), c2, by rw [fo 207 (by omega) (by omega) (by omega)]; exact c3, by rw [fo 207 (by omega) (by omega) (by omega)]; exact c4, by rw [fo 207 (by omega) (by omega) (by omega)]; exact c5, by rw [fo 207 (by omega) (by omega) (by omega)]; exact c6, c7, ?_⟩
          have e1' : kf (wI (wI (wI g2' (213 + 10 * s + 8) m (nI b - nI 1)) (213 + 10 * s + 9) m (nI i)) (213 + 10 * s) 1 (nI (m + 1))) s = kf g2' s := by unfold kf; rw [fo _ (by omega) (by omega) (by omega)]
          have e2' : lef (wI (wI (wI g2' (213 + 10 * s + 8) m (nI b - nI 1)) (213 + 10 * s + 9) m (nI i)) (213 + 10 * s) 1 (nI (m + 1))) s = lef g2' s := by unfold lef; rw [fo _ (by omega) (by omega) (by omega)]
          have e3' : rif (wI (wI (wI g2' (213 + 10 * s + 8) m (nI b - nI 1)) (213 + 10 * s + 9) m (nI i)) (213 + 10 * s) 1 (nI (m + 1))) s = rif g2' s := by unfold rif; rw [fo _ (by omega) (by omega) (by omega)]
          have e4' : vf (wI (wI (wI g2' (213 + 10 * s + 8) m (nI b - nI 1)) (213 + 10 * s + 9) m (nI i)) (213 + 10 * s) 1 (nI (m + 1))) s = vf g2' s := by unfold vf; rw [fo _ (by omega) (by omega) (by omega)]
          unfold CN
          rw [e1', e2', e3', e4', hI_wI, if_neg (by omega), wI_ne (by omega), wI_ne (by omega), hI_wI, if_neg (by omega), wI_ne (by omega), wI_ne (by omega)]
          exact c8
        obtain ⟨g3, x1, x2, x3, x4⟩ := c108 (L := L) (D + 2) hs C3 (by omega) (by omega)
        rw [x1, cV_s] at a1
        obtain ⟨w3, y1, y2, y3, y4⟩ := fl2 (L := L) e3 e4 e5 (r := 1) (by omega) (Nat.le_refl _) (Or.inl rfl) (by omega) (by omega) (by rw [List.length_append]; omega) (by omega)
        have w53 : hI w3 253 53 = nI m := by
          rw [y3.2.2.2.1 53 (Or.inr rfl), e6.2.2.2.1 53 (Or.inr rfl)]
          exact a10
        obtain ⟨w4, z1, z2, z3, z4, z5, z6⟩ := s_end (L := L) ht hT e3 k8 (by omega) top2 y1 y2 (by rw [List.length_append]; omega) w53
        have ml : ∀ a, 283 ≤ a → a ≤ 284 → hI w4 a = hI w1 a := fun a p q => by
          rw [z4 a (by omega) (by omega) (by omega), y3.1 a (by omega) (by omega) (by omega) (by omega) (by omega) (by omega), e6.1 a (by omega) (by omega) (by omega) (by omega)]
        have g3e : ∀ x, x ≠ 207 → x ≠ 213 + 10 * s → x ≠ 213 + 10 * s + 8 → x ≠ 213 + 10 * s + 9 → hI g3 x = hI g2' x := fun x q0 q1 q2 q3 => by rw [x4 x q0, fo x q1 q2 q3]
        have kf3 : kf g3 s = kf g2' s := by unfold kf; rw [g3e _ (by omega) (by omega) (by omega) (by omega)]
        have le3 : lef g3 s = lef g2' s := by unfold lef; rw [g3e _ (by omega) (by omega) (by omega) (by omega)]
        have ri3 : rif g3 s = rif g2' s := by unfold rif; rw [g3e _ (by omega) (by omega) (by omega) (by omega)]
        have Pf3 : ∀ i, Pf g3 s i = Pf g2' s i := fun i => by unfold Pf; rw [kf3, le3, ri3]
        have o8 : ∀ k, hI g3 (213 + 10 * s + 8) k = if k = m then nI b - nI 1 else hI hc (213 + 10 * s + 8) k := fun k => by
          rw [x4 _ (by omega), wI_ne (by omega), wI_ne (by omega), hI_wI]
          by_cases z : k = m
          · rw [if_pos ⟨rfl, z⟩, if_pos z]
          · rw [if_neg (fun q => z q.2), if_neg z, F2.1 _ (by omega) (by omega)]
        have o9 : ∀ k, hI g3 (213 + 10 * s + 9) k = if k = m then nI i else hI hc (213 + 10 * s + 9) k := fun k => by
          rw [x4 _ (by omega), wI_ne (by omega), hI_wI]
          by_cases z : k = m
          · rw [if_pos ⟨rfl, z⟩, if_pos z]
          · rw [if_neg (fun q => z q.2), if_neg z, wI_ne (by omega), F2.1 _ (by omega) (by omega)]
        refine Or.inl ⟨j2 + 1, n2, (cd ++ Pf g2' s i) ++ [(408, 0)], g3, w4, a1, x2, (a4.trans e2).trans z1, z2, ⟨?_, z3, by omega, fun k hk' => ?_⟩, by omega, by rw [List.length_append, List.length_append, List.length_singleton]; omega, by omega, ?_, ?_⟩
        · rw [x4 _ (by omega), hI_wI, if_pos ⟨rfl, rfl⟩]
        · rw [o8 k, o9 k, ml 283 (by omega) (by omega), ml 284 (by omega) (by omega), kf3]
          by_cases z : k = m
          · subst z
            rw [if_pos rfl, if_pos rfl]
            exact ⟨b, i, cd.length, b4, rfl, a7, o2, eb, rfl, a8, by rw [Pf3]; omega, cd, [], by rw [Pf3, List.append_nil, List.append_assoc], rfl⟩
          · rw [if_neg z, if_neg z]
            obtain ⟨b', i', a', t1, t2, t3, t4, t5, t6, t7, t8, t9⟩ := R4 k (by omega)
            obtain ⟨u1, u2⟩ := a9 k z
            have pe : Pf g2' s i' = Pf hc s i' := Pf_old hC F2 t4
            refine ⟨b', i', a', t1, t2, by rw [u1]; exact t3, by omega, by rw [(F2.ag.1 i' t4).1]; exact t5, t6, by rw [u2]; exact t7, by rw [Pf3, pe]; exact t8, ?_⟩
            rw [Pf3, pe]
            exact t9.app.app
        · refine F2.rfc.tr ⟨fun x p q => ?_, ?_, ?_, ?_⟩
          · exact g3e x p (by omega) (by omega) (by omega)
          · rw [x4 _ (by omega), hI_wI, if_neg (by omega), wI_ne (by omega), wI_ne (by omega)]
          · rw [x3.2.2.2.1, fo 207 (by omega) (by omega) (by omega)]
          · exact x3.2.2.2.2
        · refine a11.tr (e6.rfm.tr ((y3.qa.rfm).tr ⟨fun x p q => z4 x p (by omega) (by omega), z5, z6⟩))
      · obtain ⟨g3, x1, x2, x3, x4, x5⟩ := c105 (L := L) (D + 2) (f := 1) hs o1
        obtain ⟨w3, y1, y2, y3⟩ := s_bad (L := L) e3 ⟨e7, e8, k8⟩ (by omega) top2
        rw [if_neg (by rw [nI_eqI (by omega) (by omega)]; exact k8), x1, cI_s] at a1
        exact Or.inr ⟨g3, w3, a1, (a4.trans e2).trans y1, (FLT.of o1 x2 x3 x4 x5 (by omega) y2 y3).flr.tr F2.rfc (a11.tr e6.rfm)⟩
    · obtain ⟨f', q', f1, f2, f3, f4, f5⟩ := e3.1
      have fz : ¬ hI g2' 207 1 = nI 0 := by rw [f1, nI_eqI (by omega) (by omega)]; omega
      rw [e1, cI_s, if_neg fz] at a1
      exact Or.inr ⟨g2', w2, a1, a4.trans e2, e3.flr.tr a3.rfc a11⟩
  · exact Or.inr ⟨hc', hm', e1, e2, e3⟩
/-- the class's end -/
noncomputable def FIN (L D s : Nat) (h : PH) : PR := cV (exec (g2 L) D 122 [.ref (213 + 10 * s)] h) fun h1 => if (hI h1 207 1) ≠ (nI 0) then some (some (.int (nI 0)), h1) else some (some (.int (nI 1)), h1)
theorem fin_f {D a1 : Nat} {x : Int32} {h : PH} (hs : s < 4) (hR : hR h 207 6 = 213 + 10 * s) (hf : ¬ hI h 207 1 = nI 0) : runL (g2 L) D 8 false (some .boolean) kc_94 54 [.ref 207, .ref a1, .int x] [] h = FIN L D s h := by
  rw [e94_54, hR, okA_of (kk30 hs) (by omega), asr_true]
  by_cases z : nI 12 < x
  · rw [if_pos z]
    rfl
  · rw [if_neg z, if_pos hf]
    rfl
theorem rows_loop {D : Nat} (ht : t ≤ 300) (hT : ∀ k, T k < 256) (hs : s < 4) (hD : 72 ≤ D) : ∀ (u j n m : Nat) (cd : List (Nat × Nat)) (hc hm : PH), 301 ≤ j + u → CC hc T t N s j n → QS hm T t j 0 0 0 4 cd → RW hc hm s m n cd → n ≤ j → cd.length ≤ j → (∃ j' n' m' cd' hc' hm', runL (g2 L) D 8 false (some .boolean) kc_94 54 [.ref 207, .ref (213 + 10 * s), .int (nI m)] [] hc = FIN L D s hc' ∧ CC hc' T t N s j' n' ∧ ML L hm = runL (g2 L) 99 11 false (some .int) kc_214 167 [.ref 253] [] hm' ∧ QS hm' T t j' 0 0 0 4 cd' ∧ RW hc' hm' s m' n' cd' ∧ cd'.length ≤ 300 ∧ RFc s hc hc' ∧ RFm hm hm') ∨ (∃ hc' hm', runL (g2 L) D 8 false (some .boolean) kc_94 54 [.ref 207, .ref (213 + 10 * s), .int (nI m)] [] hc = FIN L D s hc' ∧ ML L hm = runL (g2 L) 99 11 false (some .int) kc_214 167 [.ref 253] [] hm' ∧ FLR hc hc' hm hm' s) := by
  have mlf : ∀ (hm : PH) (f q : Nat), FM hm f q → 1 ≤ f → f ≤ 4 → ML L hm = runL (g2 L) 99 11 false (some .int) kc_214 167 [.ref 253] [] hm := by
    intro hm f q hF f1 f4
    unfold ML
    rw [e214_74, hF.1, if_pos (by rw [Ne, nI_eqI (by omega) (by omega)]; omega)]
  intro u
  induction u with
  | zero =>
    intro j n m cd hc hm hj hC
    have := hC.1.1
    have := hC.2.1
    omega
  | succ u ih =>
    intro j n m cd hc hm hj hC hQ hR hn hcl
    have N3 := hC.1.1
    have jN := hC.2.1
    have k27 := kd_le hQ
    obtain ⟨E, rfl⟩ : ∃ E, D = E + 4 := ⟨D - 4, by omega⟩
    have m12 := hR.2.2.1
    have hr := hC.2.2.2.2.2.2.1
    have s0 := e94_54 L (E + 4) (213 + 10 * s) (nI m) hc
    rw [if_neg (by rw [nI_ltN (by omega) (by omega)]; omega), hC.2.2.2.2.1, if_neg (fun q => q rfl), hC.2.2.2.1, hr, okA_of (kk30 hs) (by omega), asr_true] at s0
    -- a fault at this token, as the class tells it
    have bad : ∀ f, 1 ≤ f → f ≤ 4 → runL (g2 L) (E + 4) 8 false (some .boolean) kc_94 54 [.ref 207, .ref (213 + 10 * s), .int (nI m)] [] hc = (cI (exec (g2 L) (E + 4) 105 [.ref 207, .int (nI f)] hc) fun r6 h5 => runL (g2 L) (E + 4) 8 false (some .boolean) kc_94 54 [.ref 207, .ref (213 + 10 * s), .int (nI m + nI 1)] [] h5) → (∃ hm', ML L hm = ML L hm' ∧ FM hm' f (ps T t j) ∧ QF 0 0 hm hm') → (∃ hc' hm', runL (g2 L) (E + 4) 8 false (some .boolean) kc_94 54 [.ref 207, .ref (213 + 10 * s), .int (nI m)] [] hc = FIN L (E + 4) s hc' ∧ ML L hm = runL (g2 L) 99 11 false (some .int) kc_214 167 [.ref 253] [] hm' ∧ FLR hc hc' hm hm' s) := by
      intro f f1 f4 hc1 hm1
      obtain ⟨hm', y1, y2, y3⟩ := hm1
      obtain ⟨g3, x1, x2, x3, x4, x5⟩ := c105 (L := L) (E + 3) (f := f) hs hC
      have fz : ¬ hI g3 207 1 = nI 0 := by rw [x2, nI_eqI (by omega) (by omega)]; omega
      refine ⟨g3, hm', ?_, y1.trans (mlf hm' f _ y2 f1 f4), (FLT.of hC x2 x3 x4 x5 ⟨f1, f4⟩ y2 y3).flr⟩
      rw [hc1, x1, cI_s, fin_f hs (by rw [x5.2.2.2.2]; exact hr) fz]
    by_cases k0 : kd T t j = 0
    · rw [if_pos (by rw [k0])] at s0
      refine Or.inl ⟨j, n, m, cd, hc, hm, s0, hC, ?_, hQ, hR, by omega, RFc.rf, RFm.rf⟩
      unfold ML
      have s41 : hI hm 253 41 = nI 0 := by
        rcases hQ.1.mt.cases with ⟨_, w⟩ | ⟨w, _⟩ | ⟨w, _⟩ | ⟨w, _⟩ | ⟨w, _⟩
        · exact w
        · omega
        · omega
        · omega
        · omega
      rw [e214_74, hQ.2.2.1, if_neg (fun q => q rfl), hQ.2.2.2.2.2.2.2.1, if_neg (fun q => q rfl), s41, if_pos rfl]
    · rw [if_neg (by rw [nI_eqI (by omega) (by omega)]; exact k0)] at s0
      by_cases k34 : kd T t j = 3 ∨ kd T t j = 4
      · by_cases mm : m = 12
        · refine Or.inr (bad 4 (by omega) (by omega) ?_ (l_many hQ k34 (by rw [hR.2.1, mm])))
          rw [s0]
          rcases k34 with k | k
          · rw [k, if_pos rfl, if_neg (by rw [mm]; exact fun q => q rfl)]
          · rw [k, if_neg (by decide), if_pos rfl, if_neg (by rw [mm]; exact fun q => q rfl)]
        · have s1 : runL (g2 L) (E + 4) 8 false (some .boolean) kc_94 54 [.ref 207, .ref (213 + 10 * s), .int (nI m)] [] hc = cV (exec (g2 L) (E + 4) 106 [.ref 207] hc) fun h4 => runL (g2 L) (E + 4) 8 false (some .boolean) kc_94 54 [.ref 207, .ref (213 + 10 * s), .int (nI (m + 1))] [] h4 := by
            rw [s0, nI_plus]
            rcases k34 with k | k
            · rw [k, if_pos rfl, if_pos (by rw [Ne, nI_eqI (by omega) (by omega)]; exact mm)]
            · rw [k, if_neg (by decide), if_pos rfl, if_pos (by rw [Ne, nI_eqI (by omega) (by omega)]; exact mm)]
          rcases row_step (L := L) (D := E) ht hT hs (by omega) (by omega) hC hQ hR hn hcl k34 with ⟨j', n', cd', g1, w1, a1, a2, a3, a4, a5, a6, a7, a8, a9, a10⟩ | ⟨g1, w1, a1, a2, a3⟩
          · rw [a1, cV_s] at s1
            rcases ih j' n' (m + 1) cd' g1 w1 (by omega) a2 a4 a5 a6 a7 with ⟨j2, n2, m2, cd2, g2', w2, b1', b2', b3', b4', b5', b6', b7', b8'⟩ | ⟨g2', w2, b1', b2', b3'⟩
            · exact Or.inl ⟨j2, n2, m2, cd2, g2', w2, s1.trans b1', b2', a3.trans b3', b4', b5', b6', a9.tr b7', a10.tr b8'⟩
            · exact Or.inr ⟨g2', w2, s1.trans b1', a3.trans b2', b3'.tr a9 a10⟩
          · obtain ⟨f, q, f1, f2, f3, f4, f5⟩ := a3.1
            have fz : ¬ hI g1 207 1 = nI 0 := by rw [f1, nI_eqI (by omega) (by omega)]; omega
            rw [a1, cV_s, fin_f hs (by rw [a3.2.1.2.2.2]; exact hr) fz] at s1
            exact Or.inr ⟨g1, w1, s1, a2.trans (mlf w1 f q f5 f3 f4), a3⟩
      · refine Or.inr (bad 1 (by omega) (by omega) ?_ (l_bad hQ ⟨k0, by omega, by omega⟩))
        rw [s0, if_neg (by rw [nI_eqI (by omega) (by omega)]; omega), if_neg (by rw [nI_eqI (by omega) (by omega)]; omega)]
end Srows
