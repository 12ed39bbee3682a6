-- PART: strips, both readers side by side: and, or; a row's end.
section Sasks
variable {L : Nat} {T : Nat → Nat} {t : Nat} {j o nw : Nat} {cd : List (Nat × Nat)} {h : PH}
/-- and, or -/
theorem s_op {h1 : PH} {nf nw1 : Nat} {cd1 : List (Nat × Nat)} (ht : t ≤ 300) (hT : ∀ k, T k < 256) (hQ : QS h T t j o nf nw 3 cd) (hk : kd T t j = 9 ∨ kd T t j = 10) (hw : FL L h h1 (rk (if kd T t j = 9 then 407 else 406))) (hQ1 : QS h1 T t j o nf nw1 3 cd1) (hn : nw1 < 80) : ∃ h', ML L h = ML L h' ∧ QS h' T t (j + 1) o nf (nw1 + 1) 0 cd1 ∧ hI h' 281 nw1 = nI (if kd T t j = 9 then 407 else 406) ∧ hI h' 282 nw1 = nI nf ∧ QF nf nw1 h1 h' ∧ hI h' 279 = hI h1 279 := by
  have e3 : ∀ w : PH, exec (g2 L) 98 219 [.ref 253, .int (nI 3)] h = some (some (.int (if kd T t j = (if 3 ≤ 2 then 3 + 3 else 3 + 6) then nI 1 else nI 0)), h) := fun _ => q219 97 hQ (by omega)
  have e4 : exec (g2 L) 98 219 [.ref 253, .int (nI 4)] h = some (some (.int (if kd T t j = (if 4 ≤ 2 then 4 + 3 else 4 + 6) then nI 1 else nI 0)), h) := q219 97 hQ (by omega)
  have s0 := x234 L 98 h
  have s1 := e234_16 L 98 h
  rcases hk with hk | hk
  · rw [if_pos hk] at hw ⊢
    obtain ⟨g, a1, a2, a3, a4, a5, a6⟩ := q229 (L := L) 94 (q := 407) ht hT (by omega) hw hQ1 hn (by omega)
    refine ⟨wI g 253 52 (nI 0), ?_, a2.st, by rw [wI_ne (by omega)]; exact a3, by rw [wI_ne (by omega)]; exact a4, a5.tr (QF.w (by omega)), by rw [wI_ne (by omega)]; exact a6⟩
    rw [e3 h, cI_s, if_pos (show kd T t j = (if 3 ≤ 2 then 3 + 3 else 3 + 6) from hk), if_neg (by decide), a1, cV_s] at s1
    rw [e3 h, cI_s, if_pos (show kd T t j = (if 3 ≤ 2 then 3 + 3 else 3 + 6) from hk), if_pos (by decide), s1] at s0
    rw [ml_3 hQ, s0, cV_s]
  · rw [if_neg (by omega)] at hw ⊢
    obtain ⟨g, a1, a2, a3, a4, a5, a6⟩ := q229 (L := L) 94 (q := 406) ht hT (by omega) hw hQ1 hn (by omega)
    refine ⟨wI g 253 52 (nI 0), ?_, a2.st, by rw [wI_ne (by omega)]; exact a3, by rw [wI_ne (by omega)]; exact a4, a5.tr (QF.w (by omega)), by rw [wI_ne (by omega)]; exact a6⟩
    rw [e3 h, cI_s, if_neg (show ¬ kd T t j = (if 3 ≤ 2 then 3 + 3 else 3 + 6) from fun q => by have q' : kd T t j = 9 := q; omega), if_pos rfl, a1, cV_s] at s1
    rw [e3 h, cI_s, if_neg (show ¬ kd T t j = (if 3 ≤ 2 then 3 + 3 else 3 + 6) from fun q => by have q' : kd T t j = 9 := q; omega), if_neg (fun q => q rfl), e4, cI_s, if_pos (show kd T t j = (if 4 ≤ 2 then 4 + 3 else 4 + 6) from hk), if_neg (by decide), s1] at s0
    rw [ml_3 hQ, s0, cV_s]
/-- neither -/
theorem s_no {m : Nat} (hQ : QS h T t j o (m + 1) nw 3 cd) (hk : kd T t j ≠ 9 ∧ kd T t j ≠ 10) (hm : m < 40) (hf : hI h 279 m = nI 2) : exec (g2 L) 99 234 [.ref 253] h = if kd T t j = 8 then cV (exec (g2 L) 98 235 [.ref 253] h) (fun h => some (none, h)) else cV (exec (g2 L) 98 221 [.ref 253, .int (nI 1)] h) (fun h => some (none, h)) := by
  rw [x234, q219 97 hQ (by omega), cI_s, if_neg (show ¬ kd T t j = (if 3 ≤ 2 then 3 + 3 else 3 + 6) from fun q => hk.1 q), if_neg (fun q => q rfl), q219 97 hQ (by omega), cI_s, if_neg (show ¬ kd T t j = (if 4 ≤ 2 then 4 + 3 else 4 + 6) from fun q => hk.2 q), if_pos rfl, q226 97 (by omega) hQ, cI_s, hf, if_neg (fun q => q rfl), show nI 59 = nI (sc 8) from rfl, q227 97 hQ (by omega), cI_s]
  by_cases z : kd T t j = 8
  · rw [if_pos z, if_neg (by decide), if_pos z]
  · rw [if_neg z, if_pos rfl, if_neg z]
theorem s_bad {m : Nat} (hQ : QS h T t j o (m + 1) nw 3 cd) (hk : kd T t j ≠ 9 ∧ kd T t j ≠ 10 ∧ kd T t j ≠ 8) (hm : m < 40) (hf : hI h 279 m = nI 2) : ∃ h', ML L h = ML L h' ∧ FM h' 1 (ps T t j) ∧ QF (m + 1) nw h h' := by
  obtain ⟨h', a1, a2, a3⟩ := q221 (L := L) 97 1 hQ
  refine ⟨h', ?_, a2, a3⟩
  rw [ml_3 hQ, s_no hQ ⟨hk.1, hk.2.1⟩ hm hf, if_neg hk.2.2, a1, cV_s, cV_s]
/-- a row is over -/
theorem s_end {h1 : PH} {m nw1 nc : Nat} {cd1 : List (Nat × Nat)} (ht : t ≤ 300) (hT : ∀ k, T k < 256) (hQ : QS h T t j o (m + 1) nw 3 cd) (hk : kd T t j = 8) (hm : m < 40) (hf : hI h 279 m = nI 2) (hw : FL L h h1 1) (hQ1 : QS h1 T t j o (m + 1) nw1 3 cd1) (hc : cd1.length < 400) (h53 : hI h1 253 53 = nI nc) : ∃ h', ML L h = ML L h' ∧ QS h' T t (j + 1) o 0 nw1 4 (cd1 ++ [(408, 0)]) ∧ hI h' 253 53 = nI (nc + 1) ∧ (∀ a, a ≠ 253 → a ≠ 285 → a ≠ 286 → hI h' a = hI h1 a) ∧ (∀ k, k < 39 → hI h' 253 k = hI h1 253 k) ∧ hR h' = hR h1 := by
  obtain ⟨g, a1, a2, a3, a4, a5⟩ := q224 (L := L) 96 408 0 hc (hQ1.nf (nf' := 0))
  have g53 : hI g 253 53 = nI nc := by
    rw [a4 53 (by omega), hI_wI, if_neg (by omega)]
    exact h53
  have q1 : QS (wI g 253 53 (nI (nc + 1))) T t j o 0 nw1 3 (cd1 ++ [(408, 0)]) := by
    obtain ⟨q1, q2, q3, q4, q5, q6, q7, q8, q9⟩ := a2
    have e : ∀ k, k ≠ 53 → hI (wI g 253 53 (nI (nc + 1))) 253 k = hI g 253 k := fun k hk => by rw [hI_wI, if_neg (fun q => hk q.2)]
    exact ⟨q1.cg (fun k a b => e k (by omega)), fun k hk => by rw [wI_ne (by omega)]; exact q2 k hk, by rw [e _ (by omega)]; exact q3, by rw [e _ (by omega)]; exact q4, by rw [e _ (by omega)]; exact q5, by rw [e _ (by omega)]; exact q6, by rw [e _ (by omega)]; exact q7, by rw [e _ (by omega)]; exact q8, q9.cg (e _ (by omega)) (wI_ne (by omega)) (wI_ne (by omega))⟩
  obtain ⟨h', b1', b2', b3'⟩ := q215 (L := L) 94 ht hT (kd_lt (by omega)) q1
  refine ⟨wI h' 253 52 (nI 4), ?_, b2'.st, ?_, fun a p q r => ?_, fun k hk => ?_, b3'.2.2.trans a5⟩
  · rw [ml_3 hQ, s_no hQ (by omega) hm hf, if_pos hk, x235, hw 95, cV_s, a1, cV_s, g53, nI_plus, b1', cV_s, cV_s, cV_s]
  · rw [hI_wI, if_neg (by omega), b3'.2.1 53 (by omega), hI_wI, if_pos ⟨rfl, rfl⟩]
  · rw [wI_ne p, b3'.1 a p, wI_ne p, a3 a p q r, wI_ne p]
  · rw [hI_wI, if_neg (by omega), b3'.2.1 k (by omega), hI_wI, if_neg (by omega), a4 k (by omega), hI_wI, if_neg (by omega)]
end Sasks
section Seither
variable {L : Nat} {T : Nat → Nat} {t N s : Nat}
theorem c109f {D : Nat} {x1 x2 x3 : Int32} {h : PH} (hf : ¬ hI h 207 1 = nI 0) : ∃ r, runL (g2 L) (D + 1) 8 false (some .int) kc_109 10 [.ref 207, .int x1, .int x2, .int x3] [] h = some (some (.int r), h) := by
  have e : (if x1 ≠ m1 then cI (exec (g2 L) (D + 1) 111 [.ref 207, .int (nI 9), .int x1, .int x2] h) fun r2 h1 => some (some (.int r2), h1) else some (some (.int x2), h)) = (some (some (.int (if x1 ≠ m1 then m1 else x2)), h) : PR) := by
    by_cases z : x1 ≠ m1
    · rw [if_pos z, if_pos z, x111, if_neg hf, cI_s]
    · rw [if_neg z, if_neg z]
  refine ⟨if x1 ≠ m1 then m1 else x2, ?_⟩
  rw [e109_10]
  by_cases z : nI 300 ≤ x3
  · rw [if_pos z]
    exact e
  · rw [if_neg z, if_pos hf]
    exact e
/-- the state of parseEither: what stands before or, what stands behind it -/
def EI (hc hm : PH) (s n b nw1 : Nat) (x1 : Int32) (cd0 c1 : List (Nat × Nat)) : Prop := (x1 = m1 ∧ nw1 = 0 ∧ c1 = cd0 ++ Pf hc s b) ∨ (∃ e, e < n ∧ x1 = nI e ∧ bk (kf hc s e) ∧ nw1 = 1 ∧ hI hm 281 0 = nI 407 ∧ hI hm 282 0 = nI 1 ∧ c1 = (cd0 ++ Pf hc s e) ++ Pf hc s b)
theorem s5_loop (ht : t ≤ 300) (hT : ∀ k, T k < 256) (hs : s < 4) {D jb nb0 : Nat} (hD : 70 ≤ D) {cd0 : List (Nat × Nat)} : ∀ (u j n b nw1 nw' it : Nat) (x1 : Int32) (cd c1 : List (Nat × Nat)) (hc hm : PH), 301 ≤ j + u → CC hc T t N s j n → b < n → bk (kf hc s b) → n + (if x1 = m1 then 0 else 1) ≤ j → it < j → nb0 ≤ n → jb < j → n + (if x1 = m1 then 0 else 1) + jb ≤ nb0 + j → c1.length + (if x1 = m1 then 0 else 1) ≤ j → c1.length + (if x1 = m1 then 0 else 1) + jb ≤ cd0.length + j → QS hm T t j 0 1 nw' 3 cd → PD hm 1 nw1 nw' cd c1 2 → EI hc hm s n b nw1 x1 cd0 c1 → hI hm 279 0 = nI 2 → (∃ i j' n' nwa nw2 cd' c1' hc' hm', runL (g2 L) D 8 false (some .int) kc_109 10 [.ref 207, .int x1, .int (nI b), .int (nI it)] [] hc = some (some (.int (nI i)), hc') ∧ (CC hc' T t N s j' n' ∧ i < n' ∧ FC s n hc hc' ∧ jb < j' ∧ nb0 ≤ n' ∧ n ≤ n' ∧ n' + jb ≤ nb0 + j' ∧ (Pf hc' s i).length + jb ≤ j') ∧ bk (kf hc' s i) ∧ ML L hm = ML L hm' ∧ QS hm' T t j' 0 1 nw2 3 cd' ∧ PD hm' 1 nwa nw2 cd' c1' 2 ∧ PD hm' 1 0 nwa c1' (cd0 ++ Pf hc' s i) 1 ∧ QA 1 0 hm hm' ∧ kd T t j' ≠ 9 ∧ kd T t j' ≠ 10) ∨ (∃ r hc' hm', runL (g2 L) D 8 false (some .int) kc_109 10 [.ref 207, .int x1, .int (nI b), .int (nI it)] [] hc = some (some (.int r), hc') ∧ ML L hm = ML L hm' ∧ FLT hc hc' hm hm' s) := by
  have h4 : S4 L T t N s 0 := s4_all ht hT hs 8 0 rfl
  intro u
  induction u with
  | zero =>
    intro j n b nw1 nw' it x1 cd c1 hc hm hj hC
    have := hC.1.1
    have := hC.2.1
    omega
  | succ u ih =>
    intro j n b nw1 nw' it x1 cd c1 hc hm hj hC hb hbk hn hit hnb hjb hnj hcl hcj hQ hP hE hfr
    have N3 := hC.1.1
    have jN := hC.2.1
    have k27 := kd_le hQ
    obtain ⟨E, rfl⟩ : ∃ E, D = E + 6 := ⟨D - 6, by omega⟩
    have s0 := e109_10 L (E + 6) x1 (nI b) (nI it) hc
    rw [if_neg (by rw [nI_leN (by omega) (by omega)]; omega), hC.2.2.2.2.1, if_neg (fun q => q rfl), hC.2.2.2.1] at s0
    have nw1' : nw1 ≤ 1 := by
      rcases hE with ⟨_, q, _⟩ | ⟨e, _, _, _, q, _⟩ <;> omega
    by_cases ka : kd T t j = 10
    · have s1 := s0
      rw [ka, if_pos rfl, e109_42, hC.2.2.2.1, ka, if_neg (fun q => q rfl)] at s1
      obtain ⟨g1, a1, a2, a3, a4⟩ := c108 (L := L) (E + 5) hs hC (by omega) (by omega)
      rw [a1, cV_s] at s1
      have bz : BZ hm 1 nw1 2 := by
        rcases hE with ⟨_, q, _⟩ | ⟨e, _, _, _, q, q1, q2, _⟩
        · exact Or.inl q
        · subst q
          exact Or.inr ⟨1, 407, q2, by omega, q1, by omega, Or.inr (by decide)⟩
      obtain ⟨w1, b1', b2', b3', b4'⟩ := fl1 (L := L) hQ hP (r := 2) (Nat.le_refl _) bz (by omega) (by omega) (by omega) (by omega)
      obtain ⟨w2, d1, d2, d3, d4, d5, d6⟩ := s_op (L := L) (h1 := w1) ht hT hQ (Or.inr ka) (by rw [if_neg (by omega)]; exact b1') b2' (by omega)
      rw [if_neg (by omega)] at d3
      rcases h4 (E + 6) (j + 1) n (nw1 + 1) c1 g1 w2 (by omega) a2 d2 (by split at hn <;> omega) (by omega) (by omega) (Or.inr ⟨1, 406, d4, by omega, d3, by omega⟩) with ⟨i2, j2, n2, g2', w3, e1, ⟨o1, o2, o3, o4, o5, o6, o7⟩, eb, e2, e3, e4⟩ | ⟨r, g2', w3, e1, e2, e3⟩
      · have j2N := o1.2.1
        rw [e1, cI_s] at s1
        have pb : Pf g2' s b = Pf hc s b := (Pf_old a2 o3 hb).trans (Pf_old hC (a3.le (by omega)) hb)
        have kb2 : kf g2' s b = kf hc s b := by rw [(o3.ag.1 b hb).1, (a3.ag.1 b (by omega)).1]
        obtain ⟨g3, c1', c2, c3, c4, c5, c6⟩ := c111 (L := L) (E + 4) (k := 10) (a := b) (b := i2) hs o1 (by split at hn <;> omega) (by unfold nl; omega) (by omega) o2 (fun _ => ⟨by rw [kb2]; exact hbk, eb⟩)
        rw [c1', cI_s, nI_plus] at s1
        have Pn : Pf g3 s n2 = Pf hc s b ++ (Pf g2' s i2 ++ [(406, 0)]) := by
          rw [Pf_bin o1 c3 c4 c5 c6 (by omega) o2 (by omega), pb]
          rfl
        have top3 : hI w3 279 0 = nI 2 := by
          rw [e4.2.1 0 (by omega), d6, b4']
          exact hfr
        rw [ask_end (L := L) (d := 96) e3 (by omega) top3 (by omega), cV_s] at e2
        have q4 : QS (wI w3 253 52 (nI 3)) T t j2 0 1 (nw1 + 1) 3 (c1 ++ Pf g2' s i2) := e3.st
        have kp : ∀ k, k < nw1 + 1 → hI (wI w3 253 52 (nI 3)) 281 k = hI w2 281 k ∧ hI (wI w3 253 52 (nI 3)) 282 k = hI w2 282 k := fun k hk => by
          rw [wI_ne (by omega), wI_ne (by omega)]
          exact e4.2.2.1 k hk
        have kb : ∀ k, k < nw1 → hI (wI w3 253 52 (nI 3)) 281 k = hI hm 281 k ∧ hI (wI w3 253 52 (nI 3)) 282 k = hI hm 282 k := fun k hk => by
          obtain ⟨y1, y2⟩ := kp k (by omega)
          obtain ⟨y3, y4⟩ := d5.2.2.1 k (by omega)
          obtain ⟨y5, y6⟩ := b3'.2.2.1 k (by omega)
          exact ⟨y1.trans (y3.trans y5), y2.trans (y4.trans y6)⟩
        have FC1 : FC s n hc g3 := ((a3.le (by omega)).tr o3).tr (c3.le o5)
        have QA1 : QA 1 0 hm (wI w3 253 52 (nI 3)) := ((b3'.le (Nat.le_refl _) (Nat.zero_le _)).tr (d5.le (Nat.le_refl _) (Nat.zero_le _))).qa.tr ((e4.le (by omega) (Nat.zero_le _)).tr (QF.w (nf := 1) (nw := 0) (by omega)).qa)
        have E' : EI g3 (wI w3 253 52 (nI 3)) s (n2 + 1) n2 nw1 x1 cd0 ((c1 ++ Pf g2' s i2) ++ [(406, 0)]) := by
          rcases hE with ⟨q1, q2, q3⟩ | ⟨e, q1, q2, q3, q4, q5, q6, q7⟩
          · refine Or.inl ⟨q1, q2, ?_⟩
            rw [q3, Pn, List.append_assoc, List.append_assoc]
          · have pe : Pf g3 s e = Pf hc s e := Pf_old hC FC1 q1
            refine Or.inr ⟨e, by omega, q2, by rw [(FC1.ag.1 e q1).1]; exact q3, q4, by rw [(kb 0 (by omega)).1]; exact q5, by rw [(kb 0 (by omega)).2]; exact q6, ?_⟩
            rw [q7, Pn, pe, List.append_assoc, List.append_assoc, List.append_assoc]
        rcases ih j2 (n2 + 1) n2 nw1 (nw1 + 1) (it + 1) x1 (c1 ++ Pf g2' s i2) ((c1 ++ Pf g2' s i2) ++ [(406, 0)]) g3 (wI w3 253 52 (nI 3)) (by omega) c2 (by omega) (by rw [c4]; unfold bk; omega) (by split at hn <;> split <;> omega) (by omega) (by omega) (by omega) (by split at hnj <;> split <;> omega) (by rw [List.length_append, List.length_append, List.length_singleton]; split at hcl <;> split <;> omega) (by rw [List.length_append, List.length_append, List.length_singleton]; split at hcj <;> split <;> omega) q4 (Or.inr ⟨rfl, 406, by decide, by omega, by rw [(kp nw1 (by omega)).1]; exact d3, by rw [(kp nw1 (by omega)).2]; exact d4, rfl⟩) E' (by rw [wI_ne (by omega)]; exact top3) with ⟨i, j', n', nwa, nw2, cd', c1'', hc', hm', r1, ⟨r2, r3, r4, r5, r6, r7, r8, r9⟩, rb, r10, r11, r12, r13, r14, r15⟩ | ⟨r, hc', hm', r1, r2, r3⟩
        · exact Or.inl ⟨i, j', n', nwa, nw2, cd', c1'', hc', hm', s1.trans r1, ⟨r2, r3, FC1.tr (r4.le (by omega)), r5, r6, by omega, r8, r9⟩, rb, (d1.trans e2).trans r10, r11, r12, r13, QA1.tr r14, r15⟩
        · exact Or.inr ⟨r, hc', hm', s1.trans r1, (d1.trans e2).trans r2, r3.tra FC1 QA1⟩
      · obtain ⟨f', q', f1, f2, f3, f4, f5⟩ := e3.1
        have fz : ¬ hI g2' 207 1 = nI 0 := by rw [f1, nI_eqI (by omega) (by omega)]; omega
        obtain ⟨r', c9⟩ := c109f (L := L) (D := E + 5) (x1 := x1) (x2 := m1) (x3 := nI it + nI 1) fz
        rw [e1, cI_s, x111, if_neg fz, cI_s, c9] at s1
        exact Or.inr ⟨r', g2', w3, s1, d1.trans e2, e3.tr (a3.le (Nat.zero_le _)) (b3'.tr d5)⟩
    · rw [if_neg (by rw [nI_eqI (by omega) (by omega)]; exact ka)] at s0
      by_cases ko : kd T t j = 9
      · -- or
        have hk9 : ∀ g : PH, hI g 207 5 = nI 9 → hI g 207 5 ≠ nI 10 := fun g q => by rw [q]; decide
        rw [ko, if_neg (fun q => q rfl), e109_42, hC.2.2.2.1, ko, if_pos (by decide)] at s0
        -- what stands before or is joined
        have joined : ∃ e g0 n0, e < n0 ∧ CC g0 T t N s j n0 ∧ FC s n hc g0 ∧ n ≤ n0 ∧ n0 ≤ n + (if x1 = m1 then 0 else 1) ∧ bk (kf g0 s e) ∧ PD hm 1 0 nw1 c1 (cd0 ++ Pf g0 s e) 1 ∧ runL (g2 L) (E + 6) 8 false (some .int) kc_109 10 [.ref 207, .int x1, .int (nI b), .int (nI it)] [] hc = cV (exec (g2 L) (E + 6) 108 [.ref 207] g0) fun h3 => cI (exec (g2 L) (E + 6) 110 [.ref 207, .int (nI 0)] h3) fun r5 h4 => runL (g2 L) (E + 6) 8 false (some .int) kc_109 10 [.ref 207, .int (nI e), .int r5, .int (nI (it + 1))] [] h4 := by
          rcases hE with ⟨q1, q2, q3⟩ | ⟨e, q1, q2, q3, q4, q5, q6, q7⟩
          · refine ⟨b, hc, n, hb, hC, FC.rf, Nat.le_refl _, by omega, hbk, Or.inl ⟨q2, q3⟩, ?_⟩
            rw [s0, if_neg (not_not_intro q1), nI_plus]
          · have xn : x1 ≠ m1 := by rw [q2, Ne, nI_ne_m1 (by omega)]; exact id
            rw [if_neg xn] at hn
            obtain ⟨g0, c1', c2, c3, c4, c5, c6⟩ := c111 (L := L) (E + 4) (k := 9) (a := e) (b := b) hs hC (by omega) (by unfold nl; omega) q1 hb (fun _ => ⟨q3, hbk⟩)
            have Pn : Pf g0 s n = Pf hc s e ++ (Pf hc s b ++ [(407, 0)]) := by
              rw [Pf_bin hC c3 c4 c5 c6 q1 hb (by omega)]
              rfl
            refine ⟨n, g0, n + 1, by omega, c2, c3, by omega, by rw [if_neg xn]; omega, by rw [c4]; unfold bk; omega, Or.inr ⟨q4, 407, by decide, by omega, q5, q6, ?_⟩, ?_⟩
            · rw [q7, Pn, List.append_assoc, List.append_assoc]
            · rw [s0, if_pos xn, q2, c1', cI_s, nI_plus]
        obtain ⟨e, g0, n0, v1, v2, v3, v4, v5, v6, v7, v8⟩ := joined
        have lp : (cd0 ++ Pf g0 s e).length ≤ c1.length + (if x1 = m1 then 0 else 1) := by
          rcases hE with ⟨q1, q2, q3⟩ | ⟨e', q1, q2, q3, q4, q5, q6, q7⟩
          · rcases v7 with ⟨_, w⟩ | ⟨w, _⟩
            · rw [← w]
              omega
            · omega
          · have xn : x1 ≠ m1 := by rw [q2, Ne, nI_ne_m1 (by omega)]; exact id
            rcases v7 with ⟨w, _⟩ | ⟨_, q, _, _, _, _, w⟩
            · omega
            · rw [← w, List.length_append, if_neg xn]
              exact Nat.le_refl _
        obtain ⟨g1, a1, a2, a3, a4⟩ := c108 (L := L) (E + 5) hs v2 (by omega) (by omega)
        rw [a1, cV_s] at v8
        obtain ⟨w1, b1', b2', b3', b4'⟩ := fl2 (L := L) hQ hP v7 (r := 1) (by omega) (Nat.le_refl _) (Or.inl rfl) (by omega) (by omega) (by omega) (by omega)
        obtain ⟨w2, d1, d2, d3, d4, d5, d6⟩ := s_op (L := L) (h1 := w1) ht hT hQ (Or.inl ko) (by rw [if_pos ko]; exact b1') b2' (by omega)
        rw [if_pos ko] at d3
        rcases h4 (E + 6) (j + 1) n0 (0 + 1) (cd0 ++ Pf g0 s e) g1 w2 (by omega) a2 d2 (by split at hn <;> split at v5 <;> omega) (by split at hcl <;> split at lp <;> omega) (by omega) (Or.inr ⟨1, 407, d4, by omega, d3, by omega⟩) with ⟨i2, j2, n2, g2', w3, e1, ⟨o1, o2, o3, o4, o5, o6, o7⟩, eb, e2, e3, e4⟩ | ⟨r, g2', w3, e1, e2, e3⟩
        · have j2N := o1.2.1
          rw [e1, cI_s] at v8
          have FC2 : FC s n0 g0 g2' := (a3.le (by have := v2.2.2.2.2.2.2.2.2.1; omega)).tr o3
          have pe : Pf g2' s e = Pf g0 s e := Pf_old v2 FC2 v1
          have top3 : hI w3 279 0 = nI 2 := by
            rw [e4.2.1 0 (by omega), d6, b4']
            exact hfr
          rw [ask_end (L := L) (d := 96) e3 (by omega) top3 (by omega), cV_s] at e2
          have q4 : QS (wI w3 253 52 (nI 3)) T t j2 0 1 (0 + 1) 3 ((cd0 ++ Pf g0 s e) ++ Pf g2' s i2) := e3.st
          have kp : hI (wI w3 253 52 (nI 3)) 281 0 = nI 407 ∧ hI (wI w3 253 52 (nI 3)) 282 0 = nI 1 := by
            rw [wI_ne (by omega), wI_ne (by omega), (e4.2.2.1 0 (by omega)).1, (e4.2.2.1 0 (by omega)).2]
            exact ⟨d3, d4⟩
          have QA1 : QA 1 0 hm (wI w3 253 52 (nI 3)) := (b3'.tr d5).qa.tr ((e4.le (by omega) (Nat.zero_le _)).tr (QF.w (nf := 1) (nw := 0) (by omega)).qa)
          have xe : nI e ≠ m1 := by
            have := v2.2.2.2.2.2.2.2.2.1
            rw [Ne, nI_ne_m1 (by omega)]
            exact id
          rcases ih j2 n2 i2 1 1 (it + 1) (nI e) ((cd0 ++ Pf g0 s e) ++ Pf g2' s i2) ((cd0 ++ Pf g0 s e) ++ Pf g2' s i2) g2' (wI w3 253 52 (nI 3)) (by omega) o1 o2 eb (by rw [if_neg xe]; split at hn <;> split at v5 <;> omega) (by omega) (by omega) (by omega) (by rw [if_neg xe]; split at hnj <;> split at v5 <;> omega) (by rw [if_neg xe, List.length_append]; split at hcl <;> split at lp <;> omega) (by rw [if_neg xe, List.length_append]; split at hcj <;> split at lp <;> omega) q4 (Or.inl ⟨rfl, rfl⟩) (Or.inr ⟨e, by omega, rfl, by rw [(FC2.ag.1 e v1).1]; exact v6, rfl, kp.1, kp.2, by rw [pe]⟩) (by rw [wI_ne (by omega)]; exact top3) with ⟨i, j', n', nwa, nw2, cd', c1'', hc', hm', r1, ⟨r2, r3, r4, r5, r6, r7, r8, r9⟩, rb, r10, r11, r12, r13, r14, r15⟩ | ⟨r, hc', hm', r1, r2, r3⟩
          · exact Or.inl ⟨i, j', n', nwa, nw2, cd', c1'', hc', hm', v8.trans r1, ⟨r2, r3, (v3.tr (FC2.le v4)).tr (r4.le (by omega)), r5, r6, by omega, r8, r9⟩, rb, (d1.trans e2).trans r10, r11, r12, r13, QA1.tr r14, r15⟩
          · exact Or.inr ⟨r, hc', hm', v8.trans r1, (d1.trans e2).trans r2, r3.tra (v3.tr (FC2.le v4)) QA1⟩
        · obtain ⟨f', q', f1, f2, f3, f4, f5⟩ := e3.1
          have fz : ¬ hI g2' 207 1 = nI 0 := by rw [f1, nI_eqI (by omega) (by omega)]; omega
          obtain ⟨r', c9⟩ := c109f (L := L) (D := E + 5) (x1 := nI e) (x2 := r) (x3 := nI (it + 1)) fz
          rw [e1, cI_s, c9] at v8
          exact Or.inr ⟨r', g2', w3, v8, d1.trans e2, e3.tr ((v3.le (Nat.zero_le _)).tr (a3.le (Nat.zero_le _))) (b3'.tr d5)⟩
      · -- the end
        rw [if_pos (by rw [Ne, nI_eqI (by omega) (by omega)]; exact ko)] at s0
        rcases hE with ⟨q1, q2, q3⟩ | ⟨e, q1, q2, q3, q4, q5, q6, q7⟩
        · rw [if_neg (not_not_intro q1)] at s0
          rw [if_pos q1] at hnj hcj hn hcl
          refine Or.inl ⟨b, j, n, nw1, nw', cd, c1, hc, hm, s0, ⟨hC, hb, FC.rf, hjb, hnb, Nat.le_refl _, by omega, ?_⟩, hbk, rfl, hQ, hP, Or.inl ⟨q2, q3⟩, QF.rf.qa, ko, ka⟩
          rw [q3, List.length_append] at hcj
          omega
        · have xn : x1 ≠ m1 := by rw [q2, Ne, nI_ne_m1 (by omega)]; exact id
          rw [if_neg xn] at hnj hcj hn hcl
          obtain ⟨g0, c1', c2, c3, c4, c5, c6⟩ := c111 (L := L) (E + 4) (k := 9) (a := e) (b := b) hs hC (by omega) (by unfold nl; omega) q1 hb (fun _ => ⟨q3, hbk⟩)
          rw [if_pos xn, q2, c1', cI_s] at s0
          have Pn : Pf g0 s n = Pf hc s e ++ (Pf hc s b ++ [(407, 0)]) := by
            rw [Pf_bin hC c3 c4 c5 c6 q1 hb (by omega)]
            rfl
          rw [← q2] at s0
          refine Or.inl ⟨n, j, n + 1, nw1, nw', cd, c1, g0, hm, s0, ⟨c2, by omega, c3, hjb, by omega, by omega, by omega, ?_⟩, by rw [c4]; unfold bk; omega, rfl, hQ, hP, Or.inr ⟨q4, 407, by decide, by omega, q5, q6, ?_⟩, QF.rf.qa, ko, ka⟩
          · rw [q7, List.length_append, List.length_append] at hcj
            rw [Pn, List.length_append, List.length_append, List.length_singleton]
            omega
          · rw [q7, Pn, List.append_assoc, List.append_assoc]
/-- parseEither -/
theorem s5 (ht : t ≤ 300) (hT : ∀ k, T k < 256) (hs : s < 4) {D j n : Nat} {cd : List (Nat × Nat)} {hc hm : PH} (hD : 71 ≤ D) (hC : CC hc T t N s j n) (hQ : QS hm T t j 0 1 0 0 cd) (hn : n ≤ j) (hcl : cd.length ≤ j) (hfr : hI hm 279 0 = nI 2) : (∃ i j' n' nwa nw2 cd' c1' hc' hm', exec (g2 L) D 109 [.ref 207] hc = some (some (.int (nI i)), hc') ∧ OKp hc hc' T t N s j n i j' n' ∧ bk (kf hc' s i) ∧ ML L hm = ML L hm' ∧ QS hm' T t j' 0 1 nw2 3 cd' ∧ PD hm' 1 nwa nw2 cd' c1' 2 ∧ PD hm' 1 0 nwa c1' (cd ++ Pf hc' s i) 1 ∧ QA 1 0 hm hm' ∧ kd T t j' ≠ 9 ∧ kd T t j' ≠ 10) ∨ (∃ r hc' hm', exec (g2 L) D 109 [.ref 207] hc = some (some (.int r), hc') ∧ ML L hm = ML L hm' ∧ FLT hc hc' hm hm' s) := by
  have h4 : S4 L T t N s 0 := s4_all ht hT hs 8 0 rfl
  obtain ⟨E, rfl⟩ : ∃ E, D = E + 1 := ⟨D - 1, by omega⟩
  have s0 := x109 L E hc
  rcases h4 E j n 0 cd hc hm (by omega) hC hQ hn hcl (by omega) (Or.inl rfl) with ⟨i2, j2, n2, g2', w3, e1, ⟨o1, o2, o3, o4, o5, o6, o7⟩, eb, e2, e3, e4⟩ | ⟨r, g2', w3, e1, e2, e3⟩
  · rw [e1, cI_s] at s0
    have top3 : hI w3 279 0 = nI 2 := by
      rw [e4.2.1 0 (by omega)]
      exact hfr
    rw [ask_end (L := L) (d := 96) e3 (by omega) top3 (by omega), cV_s] at e2
    have QA1 : QA 1 0 hm (wI w3 253 52 (nI 3)) := e4.tr (QF.w (nf := 1) (nw := 0) (by omega)).qa
    rcases s5_loop (L := L) ht hT hs (D := E) (jb := j) (nb0 := n) (by omega) (cd0 := cd) 301 j2 n2 i2 0 0 0 m1 (cd ++ Pf g2' s i2) (cd ++ Pf g2' s i2) g2' (wI w3 253 52 (nI 3)) (by omega) o1 o2 eb (by rw [if_pos rfl]; omega) (by omega) o5 o4 (by rw [if_pos rfl]; omega) (by rw [if_pos rfl, List.length_append]; omega) (by rw [if_pos rfl, List.length_append]; omega) e3.st (Or.inl ⟨rfl, rfl⟩) (Or.inl ⟨rfl, rfl, rfl⟩) (by rw [wI_ne (by omega)]; exact top3) with ⟨i, j', n', nwa, nw2, cd', c1'', hc', hm', r1, ⟨r2, r3, r4, r5, r6, r7, r8, r9⟩, rb, r10, r11, r12, r13, r14, r15⟩ | ⟨r, hc', hm', r1, r2, r3⟩
    · exact Or.inl ⟨i, j', n', nwa, nw2, cd', c1'', hc', hm', s0.trans r1, ⟨r2, r3, o3.tr (r4.le o5), r5, r6, r8, r9⟩, rb, e2.trans r10, r11, r12, r13, QA1.tr r14, r15⟩
    · exact Or.inr ⟨r, hc', hm', s0.trans r1, e2.trans r2, r3.tra o3 QA1⟩
  · obtain ⟨f', q', f1, f2, f3, f4, f5⟩ := e3.1
    have fz : ¬ hI g2' 207 1 = nI 0 := by rw [f1, nI_eqI (by omega) (by omega)]; omega
    obtain ⟨E', rfl⟩ : ∃ E', E = E' + 1 := ⟨E - 1, by omega⟩
    obtain ⟨r', c9⟩ := c109f (L := L) (D := E') (x1 := m1) (x2 := r) (x3 := nI 0) fz
    rw [e1, cI_s, c9] at s0
    exact Or.inr ⟨r', g2', w3, s0, e2, e3⟩
end Seither
