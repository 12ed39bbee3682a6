-- PART: rounds, the plan's row, the call.
def RowOk (h : PH) (A : Nat → Nat) (H : Nat) : Prop := (∃ s x y z, isPlan A H s x y z ∧ hI h (165 + H) 0 = nI s ∧ ∀ i, i < 3 → hI h (165 + H) (1 + i) = nI (lf x y z i)) ∨ (noPlan A H ∧ hI h (165 + H) 0 = m1)
/-- the plans that are kept are right -/
def PI (h : PH) (A : Nat → Nat) : Prop := ∀ i, i < 16 → hI h (165 + i) 0 = m2 ∨ RowOk h A i
def Fp (H : Nat) (h h' : PH) : Prop := ∀ a, a ≠ 163 → ¬ (182 ≤ a ∧ a ≤ 204) → a ≠ 165 + H → hI h' a = hI h a
theorem Fp.tr {H : Nat} {a b c : PH} (h1 : Fp H a b) (h2 : Fp H b c) : Fp H a c := fun x p q r => (h2 x p q r).trans (h1 x p q r)
theorem Fp.fs {H : Nat} {a b : PH} (h1 : Fs a b) : Fp H a b := fun x p q _ => h1.1 x p (by omega) (by omega) (by omega) (by omega) (by omega)
theorem In3.le {r x y z : Nat} (h : In3 r x y z) : ∀ i, lf x y z i ≤ 30 := by
  obtain ⟨h1, h2, h3, h4, h5, h6⟩ := h
  have := er_le r 0
  have := er_le r 1
  have := er_le r 2
  intro i
  unfold lf
  split
  · omega
  · split <;> omega
theorem rn_le {A : Nat → Nat} {q : Nat} (hV : VW A q) : rn A ≤ 16 := Nat.le_trans (rl_len (A 4)) hV.2.2.1
section Rplan
variable {L : Nat} {A : Nat → Nat}
theorem m78_27 {d H q : Nat} (hV : VW A q) (hH : H ≤ 15) : ∀ (n r : Nat) (h : PH), r + n = 4 → RC h 0 A → GS h A → hI h (165 + H) 0 = m1 → (∀ r', r' < r → ∀ x y z, In3 r' x y z → ¬ OkR A (lf x y z) r' H) → ∃ h', runL (g2 L) (d + 4) 6 false (some (.array .int)) kc_78 27 [.ref 163, .int (nI H), .ref (165 + H), .int (nI r)] [] h = some (some (.ref (165 + H)), h') ∧ RowOk h' A H ∧ Fp H h h' := by
  have h16 := rn_le hV
  have hk := kk16 (i := H) (by omega)
  have ck : ∀ g, cpyOk (g2 L) g 199 (nI 0) (165 + H) (nI 1) (nI 3) = true := by
    intro g
    unfold cpyOk
    rw [okW_of (k := 1) (show kx_K 199 = 1 by decide) (by omega) (by omega), okW_of hk.2.2.2.2.1 (by omega) (by omega), lenA_of (by omega), lenA_of (by omega), hk.2.2.2.2.2.1, show kx_L 199 = 3 by decide, ix_nI (by omega), ix_nI (by omega), ix_nI (by omega)]
    have : Nat.beq 199 (165 + H) = false := by
      cases e : Nat.beq 199 (165 + H)
      · rfl
      · exact absurd (Nat.eq_of_beq_eq_true e) (by omega)
    rw [this]
    rfl
  intro n
  induction n with
  | zero =>
    intro r h hr hC hG hm hno
    refine ⟨h, ?_, Or.inr ⟨fun s hs x y z hi => hno s (by omega) x y z hi, hm⟩, fun _ _ _ _ => rfl⟩
    rw [e78_27, if_pos (by rw [nI_ltN (by omega) (by omega)]; omega)]
  | succ n ih =>
    intro r h hr hC hG hm hno
    have again : (∀ x y z, In3 r x y z → ¬ OkR A (lf x y z) r H) → ∀ r', r' < r + 1 → ∀ x y z, In3 r' x y z → ¬ OkR A (lf x y z) r' H := by
      intro hn r' hr' x y z hi
      by_cases e : r' = r
      · subst e
        exact hn x y z hi
      · exact hno r' (by omega) x y z hi
    have s0 := e78_27 L (d + 4) (nI H) (165 + H) (nI r) h
    rw [if_neg (by rw [nI_ltN (by omega) (by omega)]; omega), okA_of hk.2.2.2.2.1 (by omega), asr_true, lenA_of (by omega), hk.2.2.2.2.2.1, inB_nI (by omega), asr_d (by omega), hm, if_neg (fun q => q rfl), nI_plus] at s0
    rcases m80 (L := L) (d + 3) (r := r) (h := h) (by omega) h16 hG with ⟨r1, r2⟩ | ⟨⟨k, k1, k2⟩, r2⟩
    · rw [r2, cI_s, if_neg (by decide)] at s0
      rcases m81 (L := L) d (H := H) (r := r) (h := h) hV (by omega) hH h16 hC hG with ⟨x, y, z, g, t1, t2, t3, t4, t5, t6⟩ | ⟨g, t1, t2, t3⟩
      · rw [t4, cI_s, if_neg (by decide), okW_of hk.2.2.2.2.1 (by omega) (by omega), asr_true, ck, asr_true, asr_d (by omega)] at s0
        have e0 : hI (cpy (wI g (165 + H) 0 (nI r)) 199 0 (165 + H) 1 3) (165 + H) 0 = nI r := by
          rw [hI_cpy, if_neg (by omega), hI_wI, if_pos ⟨rfl, rfl⟩]
        have fin : runL (g2 L) (d + 4) 6 false (some (.array .int)) kc_78 27 [.ref 163, .int (nI H), .ref (165 + H), .int (nI (r + 1))] [] (cpy (wI g (165 + H) 0 (nI r)) 199 0 (165 + H) 1 3) = some (some (.ref (165 + H)), cpy (wI g (165 + H) 0 (nI r)) 199 0 (165 + H) 1 3) := by
          by_cases e : r = 3
          · rw [e78_27, if_pos (by rw [nI_ltN (by omega) (by omega)]; omega)]
          · rw [e78_27, if_neg (by rw [nI_ltN (by omega) (by omega)]; omega), okA_of hk.2.2.2.2.1 (by omega), asr_true, lenA_of (by omega), hk.2.2.2.2.2.1, inB_nI (by omega), asr_d (by omega), e0, if_pos (by rw [Ne, nI_ne_m1 (by omega)]; exact id)]
        refine ⟨cpy (wI g (165 + H) 0 (nI r)) 199 0 (165 + H) 1 3, s0.trans fin, Or.inl ⟨r, x, y, z, ⟨by omega, t1, t2, t3, hno⟩, e0, fun i hi => ?_⟩, fun a p1 p2 p3 => ?_⟩
        · rw [hI_cpy, if_pos (by omega), wI_ne (by omega), show 0 + (1 + i - 1) = i by omega]
          exact t5 i hi
        · rw [cpy_ne p3, wI_ne p3]
          exact Fp.fs (H := H) t6 a p1 p2 p3
      · rw [t2, cI_s, if_pos rfl] at s0
        obtain ⟨h', q1, q2, q3⟩ := ih (r + 1) g (by omega) (hC.fs t3) (hG.fs t3 h16) (by rw [t3.1 _ (by omega) (by omega) (by omega) (by omega) (by omega) (by omega)]; exact hm) (again t1)
        exact ⟨h', s0.trans q1, q2, (Fp.fs t3).tr q3⟩
    · rw [r2, cI_s, if_pos rfl] at s0
      obtain ⟨h', q1, q2, q3⟩ := ih (r + 1) h (by omega) hC hG hm (again (fun x y z hi => reach_no hV (by omega) hi.le k1 k2))
      exact ⟨h', s0.trans q1, q2, q3⟩
theorem m78 (d : Nat) {H q : Nat} {h : PH} (hV : VW A q) (hq : q ≤ 100000000) (h0 : A 0 < 576000) (hH : H ≤ 15) (hC : RC h 0 A) (hP : hI h (165 + H) 0 = m2 ∨ RowOk h A H) : ∃ h', exec (g2 L) (d + 5) 78 [.ref 163, .int (nI H)] h = some (some (.ref (165 + H)), h') ∧ RowOk h' A H ∧ Fp H h h' := by
  have hk := kk16 (i := H) (by omega)
  have s0 := x78 L (d + 4) (nI H) h
  rw [inB_nI (by omega), asr_d (by omega), ix_nI (by omega), okA_of hk.2.2.2.2.1 (by omega), asr_true, lenA_of (by omega), hk.2.2.2.2.2.1, inB_nI (by omega), asr_d (by omega)] at s0
  by_cases e : hI h (165 + H) 0 = m2
  · obtain ⟨g, a1, a2, a3, a4⟩ := m79 (L := L) (d + 1) hV hq h0 hC
    rw [if_pos e, a1, cV_s, okW_of hk.2.2.2.2.1 (by omega) (by omega), asr_true, asr_d (by omega)] at s0
    have G : GS (wI g (165 + H) 0 m1) A := by
      refine ⟨by rw [wI_ne (by omega)]; exact a3.1, fun k hk => ⟨(a3.2 k hk).1, fun j hj => ?_⟩⟩
      rw [wI_ne (by omega)]
      exact (a3.2 k hk).2 j hj
    obtain ⟨h', q1, q2, q3⟩ := m78_27 (L := L) (d := d) hV hH 4 0 (wI g (165 + H) 0 m1) (by omega) (a2.congr (fun a p q => wI_ne (by omega))) G (by rw [hI_wI, if_pos ⟨rfl, rfl⟩]) (fun r' hr' => absurd hr' (Nat.not_lt_zero _))
    refine ⟨h', s0.trans q1, q2, fun a p1 p2 p3 => ?_⟩
    rw [q3 a p1 p2 p3, wI_ne p3]
    exact a4 a p1 (by omega)
  · rw [if_neg e] at s0
    exact ⟨h, s0, hP.resolve_left e, fun _ _ _ _ => rfl⟩
theorem op_rounds {n : Nat} {h : PH} {B : Nat → Nat} (hC : Core n h A B) (hn : n ≤ 5000) (hP : PI h A) (x y : Int32) : ∃ r h1 h2, exec (g2 L) 100 77 [.ref 2, .int x, .int y] h = some (some (.int r), h1) ∧ exec (g2 L) 100 203 [.ref 253, .int x, .int y] h1 = some (some (.int r), h2) ∧ Core (n + 1) h2 A B ∧ Kp h h2 ∧ PI h2 A := by
  obtain ⟨c1, c2, c3, c4, c5, c6, c7⟩ := id hC
  have vw := c5.2.2.2.2.1
  by_cases hx : nI 0 ≤ x ∧ x ≤ nI 15
  · by_cases hy : m1 ≤ y ∧ y ≤ nI 2
    · obtain ⟨H, hH, rfl⟩ := in_le (by omega) hx
      have hw : y = m1 ∨ ∃ i, i ≤ 2 ∧ y = nI i := by
        rcases cases32 y with q | ⟨i, hi, rfl⟩
        · left
          have y1 := hy.1
          rw [Int32.lt_iff_toInt_lt] at q
          rw [Int32.le_iff_toInt_le, toInt_m1] at y1
          have e0 : (nI 0).toInt = 0 := by decide
          rw [e0] at q
          apply Int32.toInt_inj.mp
          rw [toInt_m1]
          omega
        · exact Or.inr ⟨i, (nI_leN hi (by omega)).mp hy.2, rfl⟩
      obtain ⟨g, g1, g2', g3⟩ := m78 (L := L) 94 (H := H) vw (by omega) c5.1 hH c1 (hP H (by omega))
      have hk := kk16 (i := H) (by omega)
      have gM : RM g 254 A := c3.congr (g3 254 (by omega) (by omega) (by omega))
      obtain ⟨h2, f1, f2⟩ := m203 (L := L) 95 hH vw (by omega) c5.1 gM hw
      have s0 := x77 L 99 (nI H) y h
      rw [m18, cI_s, if_neg (by rw [bI_0]; exact not_not_intro hx), m18, cI_s, if_pos (bI_nz.mpr hy), g1, cA_s, okA_of hk.2.2.2.2.1 (by omega), asr_true, lenA_of (by omega), hk.2.2.2.2.2.1, inB_nI (by omega), asr_d (by omega)] at s0
      have rows : ∀ a, 165 ≤ a → a < 181 → hI h2 a = hI g a := fun a p1 p2 => f1.1 a (by omega) (by omega)
      have P2 : PI h2 A := by
        intro i hi
        by_cases e : i = H
        · subst e
          right
          rcases g2' with ⟨s, x, y, z, u1, u2, u3⟩ | ⟨u1, u2⟩
          · exact Or.inl ⟨s, x, y, z, u1, by rw [rows _ (by omega) (by omega)]; exact u2, fun j hj => by rw [rows _ (by omega) (by omega)]; exact u3 j hj⟩
          · exact Or.inr ⟨u1, by rw [rows _ (by omega) (by omega)]; exact u2⟩
        · have e1 : hI h2 (165 + i) = hI h (165 + i) := (rows _ (by omega) (by omega)).trans (g3 _ (by omega) (by omega) (by omega))
          rcases hP i hi with q | ⟨s, x, y, z, u1, u2, u3⟩ | ⟨u1, u2⟩
          · exact Or.inl (by rw [e1]; exact q)
          · exact Or.inr (Or.inl ⟨s, x, y, z, u1, by rw [e1]; exact u2, fun j hj => by rw [e1]; exact u3 j hj⟩)
          · exact Or.inr (Or.inr ⟨u1, by rw [e1]; exact u2⟩)
      have K : Kp h h2 := by
        refine ⟨fun a ha => ?_, fun k hk => ?_⟩
        · rw [f1.1 a (by omega) (by omega)]
          exact g3 a (by omega) (by omega) (by omega)
        · rw [f1.2 k hk, g3 253 (by omega) (by omega) (by omega)]
      have Cr : Core (n + 1) h2 A B := hC.step (h1 := g) (c1.congr (fun a p q => g3 a (by omega) (by omega) (by omega))) (fun a ha => g3 a (by omega) (by omega) (by omega)) (gM.congr (f1.1 254 (by omega) (by omega))) (fun a ha => f1.1 a (by omega) (by omega)) (c5.mono (Nat.le_succ _)) rfl
      have one : exec (g2 L) 100 77 [.ref 2, .int (nI H), .int y] h = some (some (.int (if y = m1 then hI g (165 + H) 0 else if hI g (165 + H) 0 ≤ y then m1 else hI g (165 + H) (ix (nI 1 + y)))), g) := by
        rcases hw with rfl | ⟨i, hi, rfl⟩
        · rw [s0, if_neg (fun q => q rfl), if_pos rfl, asr_true, asr_d (by omega)]
        · have hne : ¬ nI i = m1 := fun q => (nI_ne_m1 (by omega)).mp q
          rw [s0, if_pos hne, if_neg hne, nI_plus, inB_nI (by omega), asr_d (by omega)]
          split <;> rfl
      rcases g2' with ⟨s, x, y', z, u1, u2, u3⟩ | ⟨u1, u2⟩
      · rcases f2 with ⟨s', x', y'', z', w1, w2⟩ | ⟨w1, w2⟩
        · obtain ⟨rfl, rfl, rfl, rfl⟩ := w1.one u1
          refine ⟨_, g, h2, one, ?_, Cr, K, P2⟩
          rw [w2]
          unfold pa
          rw [u2]
          by_cases e : y = m1
          · rw [if_pos e, if_pos e]
          · rw [if_neg e, if_neg e]
            rcases hw with rfl | ⟨i, hi, rfl⟩
            · exact absurd rfl e
            · by_cases le : nI s' ≤ nI i
              · rw [if_pos le, if_pos le]
              · rw [if_neg le, if_neg le, nI_plus, ix_nI (by omega), ix_nI (by omega), u3 i (by omega)]
        · exact absurd w1 (fun q => u1.no q)
      · rcases f2 with ⟨s', x', y'', z', w1, w2⟩ | ⟨w1, w2⟩
        · exact absurd u1 (fun q => w1.no q)
        · refine ⟨_, g, h2, one, ?_, Cr, K, P2⟩
          rw [w2, u2]
          by_cases e : y = m1
          · rw [if_pos e]
          · rw [if_neg e]
            rcases hw with rfl | ⟨i, hi, rfl⟩
            · exact absurd rfl e
            · rw [if_pos ((m1_le_nI (by omega)).mpr trivial)]
    · refine ⟨m1, h, h, ?_, ?_, hC.mono (Nat.le_succ _), Kp.rf, hP⟩
      · rw [x77, m18, cI_s, if_neg (by rw [bI_0]; exact not_not_intro hx), m18, cI_s, if_neg (by rw [bI_nz]; exact hy)]
      · rw [x203, m153, cI_s, if_neg (by rw [bI_0]; exact not_not_intro hx), m153, cI_s, if_neg (by rw [bI_nz]; exact hy)]
  · refine ⟨m1, h, h, ?_, ?_, hC.mono (Nat.le_succ _), Kp.rf, hP⟩
    · rw [x77, m18, cI_s, if_pos (bI_0.mpr hx)]
    · rw [x203, m153, cI_s, if_pos (bI_0.mpr hx)]
end Rplan
