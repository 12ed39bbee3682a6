-- PART: explaining, the class goes through all sets.
theorem xSet_1 {A : Nat → Nat} (hV : XV A) {b i : Nat} (hb : b < A 11) (hi : i < xo (A 8) (A 8)) : xSet A (55 * b + i + 1) 0 := by
  have y3 := (xk_lt hV.2.1 hi).2.2
  refine ⟨Or.inr ?_, Or.inl rfl, Or.inl rfl⟩
  rw [(code_in y3).1, (code_in y3).2]
  exact ⟨hb, hi⟩
def xPairs (A : Nat → Nat) (V : Nat → Nat → Prop) (b : Nat) : Prop := ∀ b', b ≤ b' → b' < A 11 → ∀ i', i' < xo (A 8) (A 8) → ∀ o', b' ≤ o' → o' < A 11 → ∀ j', j' < xo (A 8) (A 8) → xSet A (55 * b' + i' + 1) (55 * o' + j' + 1) → (b' < o' ∨ xs2 (A 8) i' < xs1 (A 8) j') → V (55 * b' + i' + 1) (55 * o' + j' + 1)
section Xi
variable {L : Nat} {A : Nat → Nat} {r : Nat} {I : (Nat → Nat → Prop) → PH → Prop}
theorem m70 (hV : XV A) (hI1 : XGa A r I) (hI2 : XGc L A r I) (d : Nat) {b i o : Nat} {V : Nat → Nat → Prop} {h : PH} (hb : b ≤ o) (ho : o < A 11) (hi : i < xo (A 8) (A 8)) (hI : I V h) : ∃ V' h', exec (g2 L) (d + 4) 70 [.ref 95, .int (nI b), .int (nI (xk (A 8) i)), .int (nI o)] h = some (none, h') ∧ I V' h' ∧ VLe A V V' ∧ ∀ j', j' < xo (A 8) (A 8) → xSet A (55 * b + i + 1) (55 * o + j' + 1) → (b < o ∨ xs2 (A 8) i < xs1 (A 8) j') → V' (55 * b + i + 1) (55 * o + j' + 1) := by
  have v8 := hV.2.1
  have v11' := hV.2.2.2.2.1
  have lW : 2 ^ A 8 ≤ 1024 := show 2 ^ A 8 ≤ 2 ^ 10 from Nat.pow_le_pow_right (show 0 < 2 by decide) v8
  have k8 := kk8 (i := o) (by omega)
  obtain ⟨y1, y2, y3⟩ := xk_lt v8 hi
  have hX := hI1 V h hI
  obtain ⟨x1, x2, x3, x4, x5, x6⟩ := id hX
  obtain ⟨w, w1, w2, w3⟩ := x4 o ho
  have hp := w3 b (by omega)
  have c1 : 1 ≤ xcost A r (55 * b + i + 1) 0 := by
    unfold xcost
    rw [if_neg (by omega)]
    omega
  have s0 := x70 L (d + 3) (nI b) (nI (xk (A 8) i)) (nI o) h
  rw [m69 (L := L) (d + 2) hV hX (by omega) hi, cI_s, inB_nI (by omega), asr_d (by omega), asr_d (by omega), ix_nI (by omega), w2, bit_of (by omega) (by omega), nI_plus, show xcost A r (55 * b + i + 1) 0 - 1 + 2 = xcost A r (55 * b + i + 1) 0 + 1 by omega] at s0
  have go : ∀ (rc : Nat) (x6 : Int32), rc = (if xa A b o = true then xk (A 8) i else 0) → ∃ V' h', runL (g2 L) (d + 3) 5 false none kc_70 48 [.ref 95, .int (nI b), .int (nI (xk (A 8) i)), .int (nI o), .int (nI (xcost A r (55 * b + i + 1) 0 + 1)), .ref (129 + o), .int x6, dm, dm, dm, dm, dm] [.int (nI rc)] h = some (none, h') ∧ I V' h' ∧ VLe A V V' ∧ ∀ j', j' < xo (A 8) (A 8) → xSet A (55 * b + i + 1) (55 * o + j' + 1) → (b < o ∨ xs2 (A 8) i < xs1 (A 8) j') → V' (55 * b + i + 1) (55 * o + j' + 1) := by
    intro rc x6 hrc
    have rl : rc < 2 ^ A 8 ∧ rN rc ≤ 2 := by
      rw [hrc]
      split
      · exact ⟨y1, y2⟩
      · exact ⟨Nat.pow_pos (by decide), rN_0⟩
    obtain ⟨V', h', e1, e2, e3, e4⟩ := m70_71 (L := L) (d := d) hV hI1 (fun V h p q a b => hI2 d V h p q a b) hb ho hi x6 rfl hrc rfl (xo (A 8) (A 8)) 0 V h dm (by omega) hI
    refine ⟨V', h', ?_, e2, e3, fun j' p => e4 j' (Nat.zero_le _) p⟩
    rw [e70_48, okA_of k8.1 (by omega), asr_true, inB_nI (by omega), lenA_of (by omega), k8.2.1, asr_d (by omega), ix_nI (by omega), x3 o ho _ rl.1 rl.2, nI_shl _ (by omega), nI_shr (by omega) (by omega), nI_or, nI_or]
    exact e1
  by_cases q : xa A b o = true
  · rw [if_neg (by rw [hp.mpr q]; decide)] at s0
    obtain ⟨V', h', e1, e2⟩ := go (xk (A 8) i) (nI 1) (by rw [if_pos q])
    exact ⟨V', h', s0.trans e1, e2⟩
  · rw [if_pos (by
      have : w / 2 ^ b % 2 = 0 := by
        have : ¬ w / 2 ^ b % 2 = 1 := fun z => q (hp.mp z)
        omega
      rw [this])] at s0
    obtain ⟨V', h', e1, e2⟩ := go 0 (nI 0) (by rw [if_neg q])
    exact ⟨V', h', s0.trans e1, e2⟩
theorem m66_32 (hV : XV A) (hI1 : XGa A r I) (hI2 : XGc L A r I) {d b : Nat} (hb : b < A 11) : ∀ (n i : Nat) (V : Nat → Nat → Prop) (h : PH), i + n = xo (A 8) (A 8) → I V h → ∃ V' h' w, runL (g2 L) (d + 4) 5 false none kc_66 32 [.ref 95, .int (nI (A 11)), .int (nI b), .int (nI i), dm] [] h = runL (g2 L) (d + 4) 5 false none kc_66 25 [.ref 95, .int (nI (A 11)), .int (nI (b + 1)), w, dm] [] h' ∧ I V' h' ∧ VLe A V V' ∧ ∀ i', i ≤ i' → i' < xo (A 8) (A 8) → V' (55 * b + i' + 1) 0 := by
  have v8 := hV.2.1
  have hlim := xs_a (A 8) (by omega)
  intro n
  induction n with
  | zero =>
    intro i V h hi hI
    obtain ⟨x1, x2, x3, x4, x5, x6⟩ := hI1 V h hI
    refine ⟨V, h, .int (nI i), ?_, hI, VLe.rf, fun i' p1 p2 => by omega⟩
    rw [e66_32, x2.1, if_pos (by rw [nI_leN (by omega) (by omega)]; omega), nI_plus]
  | succ n ih =>
    intro i V h hi hI
    have hX := hI1 V h hI
    obtain ⟨x1, x2, x3, x4, x5, x6⟩ := id hX
    have hi' : i < xo (A 8) (A 8) := by omega
    have y3 := (xk_lt v8 hi').2.2
    obtain ⟨h1, g1, g2'⟩ := hI2 (d + 1) V h _ _ hI (xSet_1 hV hb hi')
    rw [cB_c y3, cM_c y3] at g1
    have c1 : 1 ≤ xcost A r (55 * b + i + 1) 0 := by
      unfold xcost
      rw [if_neg (by omega)]
      omega
    have s0 := e66_32 L (d + 4) (nI (A 11)) (nI b) (nI i) h
    rw [x2.1, if_neg (by rw [nI_leN (by omega) (by omega)]; omega), inB_nI (by omega), asr_d (by omega), ix_nI (by omega), x2.2 i hi', m69 (L := L) (d + 3) hV hX hb hi', cI_s, asr_d (by omega), x2.2 i hi', nI_plus, nI_plus, show xcost A r (55 * b + i + 1) 0 - 1 + 1 = xcost A r (55 * b + i + 1) 0 by omega] at s0
    have g1' : exec (g2 L) (d + 4) 67 [.ref 95, .int (nI (xcost A r (55 * b + i + 1) 0)), .int (nI b), .int (nI (xk (A 8) i)), .int m1, .int (nI 0)] h = some (none, h1) := g1
    rw [g1', cV_s] at s0
    obtain ⟨V', h', w, e1, e2, e3, e4⟩ := ih (i + 1) _ h1 (by omega) g2'
    refine ⟨V', h', w, s0.trans e1, e2, (VLe.also (xSet_1 hV hb hi')).tr e3, fun i' p1 p2 => ?_⟩
    by_cases q : i' = i
    · rw [q]
      exact e3.1 _ _ (Or.inr ⟨rfl, rfl⟩)
    · exact e4 i' (by omega) p2
theorem m66_107 (hV : XV A) (hI1 : XGa A r I) (hI2 : XGc L A r I) {d b i : Nat} (hi : i < xo (A 8) (A 8)) : ∀ (n o : Nat) (V : Nat → Nat → Prop) (h : PH), o + n = A 11 → b ≤ o → I V h → ∃ V' h' w, runL (g2 L) (d + 4) 5 false none kc_66 107 [.ref 95, .int (nI (A 11)), .int (nI b), .int (nI i), .int (nI o)] [] h = runL (g2 L) (d + 4) 5 false none kc_66 96 [.ref 95, .int (nI (A 11)), .int (nI b), .int (nI (i + 1)), w] [] h' ∧ I V' h' ∧ VLe A V V' ∧ ∀ o', o ≤ o' → o' < A 11 → ∀ j', j' < xo (A 8) (A 8) → xSet A (55 * b + i + 1) (55 * o' + j' + 1) → (b < o' ∨ xs2 (A 8) i < xs1 (A 8) j') → V' (55 * b + i + 1) (55 * o' + j' + 1) := by
  have v8 := hV.2.1
  have v11 := hV.2.2.2.2.1
  have hlim := xs_a (A 8) (by omega)
  intro n
  induction n with
  | zero =>
    intro o V h ho hb hI
    refine ⟨V, h, .int (nI o), ?_, hI, VLe.rf, fun o' p1 p2 => by omega⟩
    rw [e66_107, if_pos (by rw [nI_leN (by omega) (by omega)]; omega), nI_plus]
  | succ n ih =>
    intro o V h ho hb hI
    obtain ⟨x1, x2, x3, x4, x5, x6⟩ := hI1 V h hI
    obtain ⟨V1, h1, g1, g2', g3, g4⟩ := m70 (L := L) hV hI1 hI2 d hb (show o < A 11 by omega) hi hI
    have s0 := e66_107 L (d + 4) (nI (A 11)) (nI b) (nI i) (nI o) h
    rw [if_neg (by rw [nI_leN (by omega) (by omega)]; omega), inB_nI (by omega), asr_d (by omega), ix_nI (by omega), x2.2 i hi, g1, cV_s, nI_plus] at s0
    obtain ⟨V', h', w, e1, e2, e3, e4⟩ := ih (o + 1) V1 h1 (by omega) (by omega) g2'
    refine ⟨V', h', w, s0.trans e1, e2, g3.tr e3, fun o' p1 p2 j' p3 p4 p5 => ?_⟩
    by_cases q : o' = o
    · rw [q] at p4 p5 ⊢
      exact e3.1 _ _ (g4 j' p3 p4 p5)
    · exact e4 o' (by omega) p2 j' p3 p4 p5
theorem m66_96 (hV : XV A) (hI1 : XGa A r I) (hI2 : XGc L A r I) {d b : Nat} (hb : b < A 11) : ∀ (n i : Nat) (V : Nat → Nat → Prop) (h : PH) (v4 : Value), i + n = xo (A 8) (A 8) → I V h → ∃ V' h' w3 w4, runL (g2 L) (d + 4) 5 false none kc_66 96 [.ref 95, .int (nI (A 11)), .int (nI b), .int (nI i), v4] [] h = runL (g2 L) (d + 4) 5 false none kc_66 89 [.ref 95, .int (nI (A 11)), .int (nI (b + 1)), w3, w4] [] h' ∧ I V' h' ∧ VLe A V V' ∧ ∀ i', i ≤ i' → i' < xo (A 8) (A 8) → ∀ o', b ≤ o' → o' < A 11 → ∀ j', j' < xo (A 8) (A 8) → xSet A (55 * b + i' + 1) (55 * o' + j' + 1) → (b < o' ∨ xs2 (A 8) i' < xs1 (A 8) j') → V' (55 * b + i' + 1) (55 * o' + j' + 1) := by
  have v8 := hV.2.1
  have v11 := hV.2.2.2.2.1
  have hlim := xs_a (A 8) (by omega)
  intro n
  induction n with
  | zero =>
    intro i V h v4 hi hI
    obtain ⟨x1, x2, x3, x4, x5, x6⟩ := hI1 V h hI
    refine ⟨V, h, .int (nI i), v4, ?_, hI, VLe.rf, fun i' p1 p2 => by omega⟩
    rw [e66_96, x2.1, if_pos (by rw [nI_leN (by omega) (by omega)]; omega), nI_plus]
  | succ n ih =>
    intro i V h v4 hi hI
    obtain ⟨x1, x2, x3, x4, x5, x6⟩ := hI1 V h hI
    obtain ⟨V1, h1, w, g1, g2', g3, g4⟩ := m66_107 (L := L) (d := d) (b := b) (i := i) hV hI1 hI2 (by omega) (A 11 - b) b V h (by omega) (Nat.le_refl _) hI
    obtain ⟨V', h', w3, w4, e1, e2, e3, e4⟩ := ih (i + 1) V1 h1 w (by omega) g2'
    refine ⟨V', h', w3, w4, ?_, e2, g3.tr e3, fun i' p1 p2 o' p3 p4 j' p5 p6 p7 => ?_⟩
    · rw [e66_96, x2.1, if_neg (by rw [nI_leN (by omega) (by omega)]; omega)]
      exact g1.trans e1
    · by_cases q : i' = i
      · rw [q] at p6 p7 ⊢
        exact e3.1 _ _ (g4 o' p3 p4 j' p5 p6 p7)
      · exact e4 i' (by omega) p2 o' p3 p4 j' p5 p6 p7
theorem m66_89 (hV : XV A) (hI1 : XGa A r I) (hI2 : XGc L A r I) {d : Nat} : ∀ (n b : Nat) (V : Nat → Nat → Prop) (h : PH) (v3 v4 : Value), b + n = A 11 → I V h → ∃ V' h', runL (g2 L) (d + 4) 5 false none kc_66 89 [.ref 95, .int (nI (A 11)), .int (nI b), v3, v4] [] h = some (none, h') ∧ I V' h' ∧ VLe A V V' ∧ xPairs A V' b := by
  have v11 := hV.2.2.2.2.1
  intro n
  induction n with
  | zero =>
    intro b V h v3 v4 hb hI
    refine ⟨V, h, ?_, hI, VLe.rf, fun b' p1 p2 => by omega⟩
    rw [e66_89, if_pos (by rw [nI_leN (by omega) (by omega)]; omega)]
  | succ n ih =>
    intro b V h v3 v4 hb hI
    obtain ⟨V1, h1, w3, w4, g1, g2', g3, g4⟩ := m66_96 (L := L) (d := d) (b := b) hV hI1 hI2 (by omega) (xo (A 8) (A 8)) 0 V h v4 (by omega) hI
    obtain ⟨V', h', e1, e2, e3, e4⟩ := ih (b + 1) V1 h1 w3 w4 (by omega) g2'
    refine ⟨V', h', ?_, e2, g3.tr e3, fun b' p1 p2 i' p3 => ?_⟩
    · rw [e66_89, if_neg (by rw [nI_leN (by omega) (by omega)]; omega)]
      exact g1.trans e1
    · by_cases q : b' = b
      · rw [q]
        exact fun o' p4 p5 j' p6 p7 p8 => e3.1 _ _ (g4 i' (Nat.zero_le _) p3 o' p4 p5 j' p6 p7 p8)
      · exact e4 b' (by omega) p2 i' p3
theorem m66_25 (hV : XV A) (hI1 : XGa A r I) (hI2 : XGc L A r I) {d : Nat} : ∀ (n b : Nat) (V : Nat → Nat → Prop) (h : PH) (v3 : Value), b + n = A 11 → I V h → ∃ V' h', runL (g2 L) (d + 4) 5 false none kc_66 25 [.ref 95, .int (nI (A 11)), .int (nI b), v3, dm] [] h = some (none, h') ∧ I V' h' ∧ VLe A V V' ∧ (∀ b', b ≤ b' → b' < A 11 → ∀ i', i' < xo (A 8) (A 8) → V' (55 * b' + i' + 1) 0) ∧ (xPairs A V' 0 ∨ ∃ v, v < 2 ∧ hI h' 95 13 = nI v) := by
  have v11 := hV.2.2.2.2.1
  intro n
  induction n with
  | zero =>
    intro b V h v3 hb hI
    obtain ⟨x1, x2, x3, x4, x5, ⟨v, x6, x7⟩⟩ := hI1 V h hI
    have s0 := e66_25 L (d + 4) (nI (A 11)) (nI b) v3 h
    rw [if_pos (by rw [nI_leN (by omega) (by omega)]; omega), x7] at s0
    by_cases q : 2 ≤ v
    · rw [if_pos (by rw [nI_leN (by omega) (by omega)]; exact q)] at s0
      obtain ⟨V', h', e1, e2, e3, e4⟩ := m66_89 (L := L) (d := d) hV hI1 hI2 (A 11) 0 V h v3 dm (by omega) hI
      exact ⟨V', h', s0.trans e1, e2, e3, fun b' p1 p2 => by omega, Or.inl e4⟩
    · rw [if_neg (by rw [nI_leN (by omega) (by omega)]; exact q)] at s0
      exact ⟨V, h, s0, hI, VLe.rf, fun b' p1 p2 => by omega, Or.inr ⟨v, by omega, x7⟩⟩
  | succ n ih =>
    intro b V h v3 hb hI
    obtain ⟨V1, h1, w, g1, g2', g3, g4⟩ := m66_32 (L := L) (d := d) (b := b) hV hI1 hI2 (by omega) (xo (A 8) (A 8)) 0 V h (by omega) hI
    obtain ⟨V', h', e1, e2, e3, e4, e5⟩ := ih (b + 1) V1 h1 w (by omega) g2'
    refine ⟨V', h', ?_, e2, g3.tr e3, fun b' p1 p2 i' p3 => ?_, e5⟩
    · rw [e66_25, if_neg (by rw [nI_leN (by omega) (by omega)]; omega)]
      exact g1.trans e1
    · by_cases q : b' = b
      · rw [q]
        exact e3.1 _ _ (g4 i' (Nat.zero_le _) p3)
      · exact e4 b' (by omega) p2 i' p3
theorem m66 (hV : XV A) (hI1 : XGa A r I) (hI2 : XGc L A r I) (d : Nat) {V : Nat → Nat → Prop} {h : PH} (hH : I V h) : ∃ V' h', exec (g2 L) (d + 5) 66 [.ref 95] h = some (none, h') ∧ I V' h' ∧ VLe A V V' ∧ V' 0 0 ∧ (∀ b', b' < A 11 → ∀ i', i' < xo (A 8) (A 8) → V' (55 * b' + i' + 1) 0) ∧ (xPairs A V' 0 ∨ ∃ v, v < 2 ∧ hI h' 95 13 = nI v) := by
  obtain ⟨x1, x2, x3, x4, x5, x6⟩ := hI1 V h hH
  have S : xSet A 0 0 := ⟨Or.inl rfl, Or.inl rfl, Or.inl rfl⟩
  obtain ⟨h1, g1, g2'⟩ := hI2 (d + 1) V h 0 0 hH S
  obtain ⟨V', h', e1, e2, e3, e4, e5⟩ := m66_25 (L := L) (d := d) hV hI1 hI2 (A 11) 0 _ h1 dm (by omega) g2'
  refine ⟨V', h', ?_, e2, (VLe.also S).tr e3, e3.1 _ _ (Or.inr ⟨rfl, rfl⟩), fun b' p => e4 b' (Nat.zero_le _) p, e5⟩
  have wb := (hI1 _ h1 g2').1.wb
  rw [Nat.zero_add] at wb
  have g1' : exec (g2 L) (d + 4) 67 [.ref 95, .int (hI h 95 12), .int m1, .int (nI 0), .int m1, .int (nI 0)] h = some (none, h1) := by
    rw [x5, ← cost_0]
    exact g1
  rw [x66, g1', cV_s, wb]
  exact e1
end Xi
