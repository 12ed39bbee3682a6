-- PART: rounds, chooseOne, the loops.
def Pz (x0 y0 p0 : Nat) : Nat → Nat → Nat → Prop := fun x y p => x < x0 ∨ (x = x0 ∧ (y < y0 ∨ (y = y0 ∧ p < p0)))
section Rch
variable {L : Nat}
theorem m89_36 {d a0 a1 w H x0 y0 : Nat} {F : Nat → Nat → Nat} (ka : kx_K a1 = 1 ∧ kx_L a1 = 256 ∧ 2 ≤ a1 ∧ a1 < 289) (hne : a0 ≠ a1) (hw : w < 256) (hH : H ≤ 15) (hF : ∀ x y, F x y ≤ 99) (hx : x0 ≤ H) (hy : y0 ≤ H) : ∀ (n p c : Nat) (T : Nat → Nat → Nat) (v9 v10 v11 v12 v13 : Value) (h : PH), p + n = 8 → (∀ x y, T x y ≤ 99) → Tb h a1 T → Kn H F (fun p => w / 2 ^ p % 2 = 1) (Pz x0 y0 p) T c → ∃ h' T' c' u7 u8 u9 u10 u11 u12 u13, runL (g2 L) d 6 false (some .boolean) kc_89 36 [.ref a0, .ref a1, .int (nI w), .int (nI H), .int (nI c), .int (nI x0), .int (nI y0), .int (nI (F x0 y0)), .int (nI p), v9, v10, v11, v12, v13] [] h = runL (g2 L) d 6 false (some .boolean) kc_89 15 [.ref a0, .ref a1, .int (nI w), .int (nI H), .int (nI c'), .int (nI x0), .int (nI (y0 + 1)), u7, u8, u9, u10, u11, u12, u13] [] h' ∧ (∀ x y, T' x y ≤ 99) ∧ Tb h' a1 T' ∧ Kn H F (fun p => w / 2 ^ p % 2 = 1) (Pz x0 (y0 + 1) 0) T' c' ∧ (∀ a, a ≠ a1 → hI h' a = hI h a) ∧ hR h' = hR h := by
  intro n
  induction n with
  | zero =>
    intro p c T v9 v10 v11 v12 v13 h hp hT9 hT hK
    refine ⟨h, T, c, _, _, _, _, _, _, _, by rw [e89_36, if_pos (by rw [nI_leN (by omega) (by omega)]; omega), nI_plus], hT9, hT, hK.iff (fun x y p' hv => ?_), fun _ _ => rfl, rfl⟩
    have := hv.2.2.1
    unfold Pz
    omega
  | succ n ih =>
    intro p c T v9 v10 v11 v12 v13 h hp hT9 hT hK
    have f0 := b0_le p
    have f1 := b1_le p
    have f2 := b2_le p
    have hf := hF x0 y0
    by_cases z : F x0 y0 ≤ H
    · have s0 : nI x0 + (nI p &&& nI 1) = nI (x0 + b0 p) := by
        rw [nI_and, Nat.and_one_is_mod, nI_plus]
        rfl
      have s1 : nI y0 + (nI p >>> (nI 1 &&& nI 31) &&& nI 1) = nI (y0 + b1 p) := by
        rw [bit_of (by omega) (by omega), nI_plus]
        rfl
      have s2 : nI (F x0 y0) + (nI p >>> (nI 2 &&& nI 31) &&& nI 1) = nI (F x0 y0 + b2 p) := by
        rw [bit_of (by omega) (by omega), nI_plus]
        rfl
      have hb : w / 2 ^ p % 2 < 2 := Nat.mod_lt _ (by omega)
      have st : runL (g2 L) d 6 false (some .boolean) kc_89 36 [.ref a0, .ref a1, .int (nI w), .int (nI H), .int (nI c), .int (nI x0), .int (nI y0), .int (nI (F x0 y0)), .int (nI p), v9, v10, v11, v12, v13] [] h = runL (g2 L) d 6 false (some .boolean) kc_89 94 [.ref a0, .ref a1, .int (nI w), .int (nI H), .int (nI c), .int (nI x0), .int (nI y0), .int (nI (F x0 y0)), .int (nI p), .int (nI (x0 + b0 p)), .int (nI (y0 + b1 p)), .int (nI (F x0 y0 + b2 p)), v12, v13] [.int (nI (w / 2 ^ p % 2))] h := by
        rw [e89_36, if_neg (by rw [nI_leN (by omega) (by omega)]; omega), if_neg (show ¬ nI H < nI (F x0 y0) by rw [nI_ltN (by omega) (by omega)]; omega), bit_of (by omega) (by omega), s0, s1, s2]
        by_cases y : w / 2 ^ p % 2 = 1
        · rw [y, if_neg (by decide)]
        · rw [show w / 2 ^ p % 2 = 0 by omega, if_pos rfl]
      have skip : ¬ vld H F (fun p => w / 2 ^ p % 2 = 1) x0 y0 p → Kn H F (fun p => w / 2 ^ p % 2 = 1) (Pz x0 y0 (p + 1)) T c := fun nv => hK.iff (fun x y p' hv => by
        have : ¬ (x = x0 ∧ y = y0 ∧ p' = p) := fun ⟨q1, q2, q3⟩ => by
          subst q1 q2 q3
          exact nv hv
        unfold Pz
        omega)
      have pass : ¬ vld H F (fun p => w / 2 ^ p % 2 = 1) x0 y0 p → runL (g2 L) d 6 false (some .boolean) kc_89 94 [.ref a0, .ref a1, .int (nI w), .int (nI H), .int (nI c), .int (nI x0), .int (nI y0), .int (nI (F x0 y0)), .int (nI p), .int (nI (x0 + b0 p)), .int (nI (y0 + b1 p)), .int (nI (F x0 y0 + b2 p)), v12, v13] [.int (nI (w / 2 ^ p % 2))] h = runL (g2 L) d 6 false (some .boolean) kc_89 36 [.ref a0, .ref a1, .int (nI w), .int (nI H), .int (nI c), .int (nI x0), .int (nI y0), .int (nI (F x0 y0)), .int (nI (p + 1)), .int (nI (x0 + b0 p)), .int (nI (y0 + b1 p)), .int (nI (F x0 y0 + b2 p)), .int (nI (w / 2 ^ p % 2)), v13] [] h := by
        intro nv
        rw [e89_94, nI_plus]
        by_cases y : w / 2 ^ p % 2 = 1
        · rw [if_neg (show ¬ nI (w / 2 ^ p % 2) = nI 0 by rw [y]; decide)]
          by_cases g0 : x0 + b0 p ≤ H
          · rw [if_neg (show ¬ nI H < nI (x0 + b0 p) by rw [nI_ltN (by omega) (by omega)]; omega)]
            by_cases g1 : y0 + b1 p ≤ H
            · rw [if_neg (show ¬ nI H < nI (y0 + b1 p) by rw [nI_ltN (by omega) (by omega)]; omega), if_pos]
              rw [nI_ltN (by omega) (by omega)]
              rcases Nat.lt_or_ge H (F x0 y0 + b2 p) with q | q
              · exact q
              · exact absurd ⟨hx, hy, by omega, z, y, g0, g1, q⟩ nv
            · rw [if_pos (show nI H < nI (y0 + b1 p) by rw [nI_ltN (by omega) (by omega)]; omega)]
          · rw [if_pos (show nI H < nI (x0 + b0 p) by rw [nI_ltN (by omega) (by omega)]; omega)]
        · rw [if_pos (show nI (w / 2 ^ p % 2) = nI 0 by rw [show w / 2 ^ p % 2 = 0 by omega])]
      by_cases nv : vld H F (fun p => w / 2 ^ p % 2 = 1) x0 y0 p
      · obtain ⟨g1, g2', g3, g4, g5, g6, g7, g8⟩ := id nv
        have g5' : w / 2 ^ p % 2 = 1 := g5
        have ht := hT9 (x0 + b0 p) (y0 + b1 p)
        have rd1 : hI h a1 ((x0 + b0 p) * 16 + (y0 + b1 p)) = nI (T (x0 + b0 p) (y0 + b1 p)) := hT _ _ (by omega) (by omega)
        have mn : (if nI (F x0 y0 + b2 p) < nI (T (x0 + b0 p) (y0 + b1 p)) then nI (F x0 y0 + b2 p) else nI (T (x0 + b0 p) (y0 + b1 p))) = nI (if F x0 y0 + b2 p < T (x0 + b0 p) (y0 + b1 p) then F x0 y0 + b2 p else T (x0 + b0 p) (y0 + b1 p)) := by
          by_cases y : F x0 y0 + b2 p < T (x0 + b0 p) (y0 + b1 p)
          · rw [if_pos y, if_pos (by rw [nI_ltN (by omega) (by omega)]; exact y)]
          · rw [if_neg y, if_neg (by rw [nI_ltN (by omega) (by omega)]; exact y)]
        have hT' : Tb (wI h a1 ((x0 + b0 p) * 16 + (y0 + b1 p)) (nI (if F x0 y0 + b2 p < T (x0 + b0 p) (y0 + b1 p) then F x0 y0 + b2 p else T (x0 + b0 p) (y0 + b1 p)))) a1 (fun x y => if x = x0 + b0 p ∧ y = y0 + b1 p then (if F x0 y0 + b2 p < T x y then F x0 y0 + b2 p else T x y) else T x y) := by
          intro x y hx' hy'
          show _ = nI (if x = x0 + b0 p ∧ y = y0 + b1 p then (if F x0 y0 + b2 p < T x y then F x0 y0 + b2 p else T x y) else T x y)
          rw [hI_wI]
          by_cases e : x = x0 + b0 p ∧ y = y0 + b1 p
          · rw [if_pos ⟨rfl, by rw [e.1, e.2]⟩, if_pos e, e.1, e.2]
          · rw [if_neg (fun q => e (by omega)), if_neg e]
            exact hT x y hx' hy'
        have hT9' : ∀ x y, (fun x y => if x = x0 + b0 p ∧ y = y0 + b1 p then (if F x0 y0 + b2 p < T x y then F x0 y0 + b2 p else T x y) else T x y) x y ≤ 99 := by
          intro x y
          have := hT9 x y
          show (if x = x0 + b0 p ∧ y = y0 + b1 p then (if F x0 y0 + b2 p < T x y then F x0 y0 + b2 p else T x y) else T x y) ≤ 99
          split
          · split <;> omega
          · exact this
        obtain ⟨h', T', c', u7, u8, u9, u10, u11, u12, u13, r1, r2, r3, r4, r5, r6⟩ := ih (p + 1) 1 _ (.int (nI (x0 + b0 p))) (.int (nI (y0 + b1 p))) (.int (nI (F x0 y0 + b2 p))) (.int (nI (w / 2 ^ p % 2))) (.int (nI ((x0 + b0 p) * 16 + (y0 + b1 p)))) _ (by omega) hT9' hT' (hK.add hH nv (fun x y p' hv => by unfold Pz; omega))
        refine ⟨h', T', c', u7, u8, u9, u10, u11, u12, u13, st.trans (Eq.trans ?_ r1), r2, r3, r4, fun a ha => by rw [r5 a ha, wI_ne ha], r6⟩
        rw [e89_94, if_neg (show ¬ nI (w / 2 ^ p % 2) = nI 0 by rw [g5']; decide), if_neg (show ¬ nI H < nI (x0 + b0 p) by rw [nI_ltN (by omega) (by omega)]; omega), if_neg (show ¬ nI H < nI (y0 + b1 p) by rw [nI_ltN (by omega) (by omega)]; omega), if_neg (show ¬ nI H < nI (F x0 y0 + b2 p) by rw [nI_ltN (by omega) (by omega)]; omega), okA_of ka.1 ka.2.2.2, asr_true, okW_of ka.1 ka.2.2.1 ka.2.2.2, nI_times, nI_plus, nI_plus, lenA_of ka.2.2.1, ka.2.1, inB_nI (by omega), asr_d (by omega), asr_true, asr_d (by omega), ix_nI (by omega), rd1, mn]
      · obtain ⟨h', T', c', u7, u8, u9, u10, u11, u12, u13, r1, r2⟩ := ih (p + 1) c T _ _ _ _ _ h (by omega) hT9 hT (skip nv)
        exact ⟨h', T', c', u7, u8, u9, u10, u11, u12, u13, (st.trans (pass nv)).trans r1, r2⟩
    · refine ⟨h, T, c, _, _, _, _, _, _, _, by rw [e89_36, if_neg (by rw [nI_leN (by omega) (by omega)]; omega), if_pos (show nI H < nI (F x0 y0) by rw [nI_ltN (by omega) (by omega)]; omega), nI_plus], hT9, hT, hK.iff (fun x y p' hv => ?_), fun _ _ => rfl, rfl⟩
      have q1 := hv.2.2.2.1
      have : ¬ (x = x0 ∧ y = y0) := fun ⟨e1, e2⟩ => by
        subst e1 e2
        exact z q1
      unfold Pz
      omega
end Rch
