-- PART: strips, nodes and tokens.
section Scls2
variable {L : Nat} {T : Nat → Nat} {t N s : Nat}
theorem m117 (d : Nat) {k : Nat} (hk : k < 100) (h : PH) : exec (g2 L) (d + 1) 117 [.int (nI k)] h = some (some (.int (nI (lvk k))), h) := by
  rw [x117]
  unfold lvk
  by_cases a : k = 12
  · rw [if_pos (by rw [a]), if_pos (Or.inl a)]
  rw [if_neg (by rw [nI_eqI (by omega) (by omega)]; exact a)]
  by_cases b : k = 13
  · rw [if_pos (by rw [b]), if_neg (by omega), if_pos b]
  rw [if_neg (by rw [nI_eqI (by omega) (by omega)]; exact b)]
  by_cases c : k = 14
  · rw [if_pos (by rw [c]), if_pos (Or.inr c)]
  rw [if_neg (by rw [nI_eqI (by omega) (by omega)]; exact c), if_neg (show ¬ (k = 12 ∨ k = 14) by omega), if_neg b]
  by_cases e : k = 15
  · rw [if_pos (by rw [e]), if_pos (Or.inl e)]
  rw [if_neg (by rw [nI_eqI (by omega) (by omega)]; exact e)]
  by_cases f : k = 16
  · rw [if_pos (by rw [f]), if_pos (Or.inr f)]
  rw [if_neg (by rw [nI_eqI (by omega) (by omega)]; exact f), if_neg (by omega)]
theorem m118 (d : Nat) {k : Nat} (hk : k < 100) (h : PH) : exec (g2 L) (d + 1) 118 [.int (nI k)] h = some (some (.int (nI (pdk k))), h) := by
  rw [x118]
  unfold pdk
  by_cases a : k = 12
  · rw [if_pos (by rw [a]), if_pos a]
  rw [if_neg (by rw [nI_eqI (by omega) (by omega)]; exact a), if_neg a]
  by_cases b : k = 13
  · rw [if_pos (by rw [b]), if_pos (Or.inl b)]
  rw [if_neg (by rw [nI_eqI (by omega) (by omega)]; exact b)]
  by_cases c : k = 14
  · rw [if_pos (by rw [c]), if_pos (Or.inr c)]
  rw [if_neg (by rw [nI_eqI (by omega) (by omega)]; exact c), if_neg (show ¬ (k = 13 ∨ k = 14) by omega)]
  by_cases e : k = 15
  · rw [if_pos (by rw [e]), if_pos e]
  rw [if_neg (by rw [nI_eqI (by omega) (by omega)]; exact e), if_neg e]
  by_cases f : k = 16
  · rw [if_pos (by rw [f]), if_pos f]
  rw [if_neg (by rw [nI_eqI (by omega) (by omega)]; exact f), if_neg f]
theorem pdk_lt (k : Nat) : pdk k ≤ 576000 := by
  unfold pdk
  repeat' split
  all_goals omega
theorem Pd.lim {K : Nat → Nat} {n p : Nat} (h : Pd K n p) : p ≤ 576000 := by
  rcases h with h | ⟨h, _⟩ <;> omega
/-- addLeaf -/
theorem c116 (d : Nat) {j n k v : Nat} {h : PH} (hs : s < 4) (hC : CC h T t N s j n) (hn : n < 300) (hk : (k = 2 ∧ v ≤ 9999) ∨ (12 ≤ k ∧ k ≤ 16 ∧ v ≤ 10000)) : ∃ h', exec (g2 L) (d + 2) 116 [.ref (213 + 10 * s), .int (nI k), .int (nI v)] h = some (some (.int (nI n)), h') ∧ CC h' T t N s j (n + 1) ∧ FC s n h h' ∧ kf h' s n = k ∧ lef h' s n = v := by
  obtain ⟨p, p1, p2⟩ := hC.2.2.2.2.2.2.2.2.2.2
  have p3 := p2.lim
  have p4 := pdk_lt k
  have g0 := hC.2.2.2.2.2.2.2.1
  have em : nI (ix m1) = m1 := nI_ix m1
  have pe : (if nI p < nI (pdk k) then nI (pdk k) else nI p) = nI (if p < pdk k then pdk k else p) := by
    by_cases q : p < pdk k
    · rw [if_pos (by rw [nI_ltN (by omega) (by omega)]; exact q), if_pos q]
    · rw [if_neg (by rw [nI_ltN (by omega) (by omega)]; exact q), if_neg q]
  have hl3 : lvk k ≤ 3 := by
    unfold lvk
    repeat' split
    all_goals omega
  obtain ⟨v1, v2, v3, v4⟩ := node_add (W := wI (wI (wI (wI (wI (wI h (213 + 10 * s + 1) n (nI k)) (213 + 10 * s + 2) n (nI v)) (213 + 10 * s + 3) n (nI (ix m1))) (213 + 10 * s + 4) n (nI (lvk k))) (213 + 10 * s) 12 (nI (if p < pdk k then pdk k else p))) (213 + 10 * s) 0 (nI (n + 1))) hs hC hn (k := k) (a := v) (b := ix m1) (v := lvk k) (p := if p < pdk k then pdk k else p) ⟨by omega, by omega, m1.toBitVec.isLt, hl3⟩ (Or.inl rfl)
  refine ⟨_, ?_, v4 ?_ ?_ ?_, v2, v1.1, v1.2.1⟩
  · rw [x116 _ _ _ hs, g0, if_pos (by rw [nI_ltN (by omega) (by omega)]; omega), inB_nI (by omega), asr_d (by omega), ix_nI (by omega), e116_22 _ _ _ hs, wI_ne (by omega), g0, inB_nI (by omega), asr_d (by omega), ix_nI (by omega), e116_32 _ _ _ hs, wI_ne (by omega), wI_ne (by omega), g0, inB_nI (by omega), asr_d (by omega), ix_nI (by omega), e116_42 _ _ _ hs, m117 d (by omega), cI_s, wI_ne (by omega), wI_ne (by omega), wI_ne (by omega), g0, inB_nI (by omega), asr_d (by omega), ix_nI (by omega), e116_55 _ _ _ hs, m118 d (by omega), cI_s, wI_ne (by omega), wI_ne (by omega), wI_ne (by omega), wI_ne (by omega), p1, pe, e116_70 _ _ _ hs, hI_wI, if_neg (show ¬ (213 + 10 * s = 213 + 10 * s ∧ 0 = 12) by omega), wI_ne (by omega), wI_ne (by omega), wI_ne (by omega), wI_ne (by omega), g0, nI_plus, e116_80 _ _ _ hs, hI_wI, if_pos ⟨rfl, rfl⟩, nI_m1_plus, em]
  · unfold Nd
    rw [v1.1, v1.2.1]
    rcases hk with hk | hk
    · exact Or.inl hk
    · exact Or.inr (Or.inl ⟨hk.1, hk.2.1⟩)
  · unfold LVl lvk at *
    rw [v1.1, v1.2.2.2]
    refine ⟨fun q => ?_, fun q => ?_, fun q => ?_, fun q => ?_⟩
    · rw [if_pos q]
      exact Nat.le_refl _
    · rw [if_neg (by omega), if_pos q]
      exact Nat.le_refl _
    · rw [if_neg (by omega), if_neg (by omega), if_pos q]
      exact Nat.le_refl _
    · unfold nl at q
      omega
  · have := p2.add (K' := kf (wI (wI (wI (wI (wI (wI h (213 + 10 * s + 1) n (nI k)) (213 + 10 * s + 2) n (nI v)) (213 + 10 * s + 3) n (nI (ix m1))) (213 + 10 * s + 4) n (nI (lvk k))) (213 + 10 * s) 12 (nI (if p < pdk k then pdk k else p))) (213 + 10 * s) 0 (nI (n + 1))) s) (fun i hi => (v2.ag.1 i hi).1)
    rw [v1.1] at this
    exact this
/-- join -/
theorem c111 (d : Nat) {j n k a b : Nat} {h : PH} (hs : s < 4) (hC : CC h T t N s j n) (hn : n < 300) (hk : nl k) (ha : a < n) (hb : b < n) (hbk : k ≤ 11 → bk (kf h s a) ∧ bk (kf h s b)) : ∃ h', exec (g2 L) (d + 2) 111 [.ref 207, .int (nI k), .int (nI a), .int (nI b)] h = some (some (.int (nI n)), h') ∧ CC h' T t N s j (n + 1) ∧ FC s n h h' ∧ kf h' s n = k ∧ lef h' s n = a ∧ rif h' s n = b := by
  obtain ⟨p, p1, p2⟩ := hC.2.2.2.2.2.2.2.2.2.2
  have g0 := hC.2.2.2.2.2.2.2.1
  have k29 : k < 29 := by
    unfold nl at hk
    omega
  have va := (hC.2.2.2.2.2.2.2.2.2.1 a ha).2.2
  have vb := (hC.2.2.2.2.2.2.2.2.2.1 b hb).2.2
  have ea : hI h (213 + 10 * s + 4) a = nI (vf h s a) := (nI_ix _).symm
  have eb : hI h (213 + 10 * s + 4) b = nI (vf h s b) := (nI_ix _).symm
  have pe : (if nI (vf h s a) < nI (vf h s b) then nI (vf h s b) else nI (vf h s a)) = nI (if vf h s a < vf h s b then vf h s b else vf h s a) := by
    by_cases q : vf h s a < vf h s b
    · rw [if_pos (by rw [nI_ltN (by omega) (by omega)]; exact q), if_pos q]
    · rw [if_neg (by rw [nI_ltN (by omega) (by omega)]; exact q), if_neg q]
  obtain ⟨v1, v2, v3, v4⟩ := node_add (W := wI (wI (wI (wI (wI h (213 + 10 * s + 1) n (nI k)) (213 + 10 * s + 2) n (nI a)) (213 + 10 * s + 3) n (nI b)) (213 + 10 * s + 4) n (nI (if vf h s a < vf h s b then vf h s b else vf h s a))) (213 + 10 * s) 0 (nI (n + 1))) hs hC hn (k := k) (a := a) (b := b) (v := if vf h s a < vf h s b then vf h s b else vf h s a) (p := p) ⟨by omega, by omega, by omega, by split <;> omega⟩ (Or.inr ⟨p1, rfl⟩)
  refine ⟨_, ?_, v4 ?_ ?_ ?_, v2, v1.1, v1.2.1, v1.2.2.1⟩
  · rw [x111, hC.2.2.2.2.1, if_pos rfl, hC.2.2.2.2.2.2.1, okA_of (kk30 hs) (by omega), asr_true, x112 _ _ _ hs, g0, if_neg (by rw [nI_leN (by omega) (by omega)]; omega), if_neg (by rw [nI_ltN (by omega) (by omega)]; omega), if_neg (by rw [nI_leN (by omega) (by omega)]; omega), if_neg (by rw [nI_ltN (by omega) (by omega)]; omega), if_pos (by rw [nI_ltN (by omega) (by omega)]; omega), inB_nI (by omega), asr_d (by omega), ix_nI (by omega), e112_46 _ _ _ hs, wI_ne (by omega), g0, inB_nI (by omega), asr_d (by omega), ix_nI (by omega), e112_56 _ _ _ hs, wI_ne (by omega), wI_ne (by omega), g0, inB_nI (by omega), asr_d (by omega), ix_nI (by omega), e112_66 _ _ _ hs, wI_ne (by omega), wI_ne (by omega), wI_ne (by omega), g0, inB_nI (by omega), asr_d (by omega), inB_nI (by omega), asr_d (by omega), inB_nI (by omega), asr_d (by omega), ix_nI (by omega), ix_nI (by omega), ix_nI (by omega), wI_ne (by omega), wI_ne (by omega), wI_ne (by omega), ea, eb, pe, e112_90 _ _ _ hs, wI_ne (by omega), wI_ne (by omega), wI_ne (by omega), wI_ne (by omega), g0, nI_plus, e112_100 _ _ _ hs, hI_wI, if_pos ⟨rfl, rfl⟩, nI_m1_plus, cI_s]
  · unfold Nd
    rw [v1.1, v1.2.1, v1.2.2.1, (v2.ag.1 a ha).1, (v2.ag.1 b hb).1]
    exact Or.inr (Or.inr ⟨hk, ha, hb, hbk⟩)
  · unfold LVl
    rw [v1.1, v1.2.1, v1.2.2.1, v1.2.2.2, v2.ag.2 a ha, v2.ag.2 b hb]
    unfold nl at hk
    refine ⟨fun q => by omega, fun q => by omega, fun q => by omega, fun _ => ⟨by split <;> omega, by split <;> omega⟩⟩
  · exact p2.add1 (fun i hi => (v2.ag.1 i hi).1) (by rw [v1.1]; exact hk)
end Scls2
/-- the code of a sign -/
def sc (k : Nat) : Nat := if k = 6 then 40 else if k = 7 then 41 else if k = 8 then 59 else oc k
theorem sc_inj1 : ∀ k, k < 28 → ∀ i, i < 28 → (((6 ≤ k ∧ k ≤ 8) ∨ 17 ≤ k) ∧ ((6 ≤ i ∧ i ≤ 8) ∨ 17 ≤ i) ∧ sc k = sc i) → k = i := by decide +kernel
theorem sc_inj (k : Nat) (hk : k < 28) (i : Nat) (hi : i < 28) (h1 : (6 ≤ k ∧ k ≤ 8) ∨ 17 ≤ k) (h2 : (6 ≤ i ∧ i ≤ 8) ∨ 17 ≤ i) (h3 : sc k = sc i) : k = i := sc_inj1 k hk i hi ⟨h1, h2, h3⟩
theorem sc_44 : ∀ k, k < 28 → ((6 ≤ k ∧ k ≤ 8) ∨ 17 ≤ k) → sc k ≠ 44 ∧ sc k < 500 := by decide +kernel
section Stok
variable {k v : Nat} {s x : Int32}
theorem MT.cases (h : MT k v s x) : (k = 0 ∧ s = nI 0) ∨ (k = 1 ∧ (s = nI 4 ∨ (s = nI 3 ∧ x = nI 44))) ∨ (k = 2 ∧ s = nI 2 ∧ ∃ w, x = nI w ∧ w < 1100000 ∧ ((w = v ∧ v ≤ 9999) ∨ (v = 10000 ∧ 10000 ≤ w))) ∨ (((3 ≤ k ∧ k ≤ 5) ∨ (9 ≤ k ∧ k ≤ 16)) ∧ s = nI 1 ∧ x = nI (if k ≤ 5 then k - 3 else k - 6)) ∨ (((6 ≤ k ∧ k ≤ 8) ∨ (17 ≤ k ∧ k ≤ 27)) ∧ s = nI 3 ∧ x = nI (sc k)) := by
  rcases h with h | h | h | ⟨⟨h1, h2, h3⟩ | ⟨h1, h2, h3⟩, h4⟩ | ⟨h1, ⟨rfl, h2⟩ | ⟨rfl, h2⟩ | ⟨rfl, h2⟩ | ⟨h2, h3, h4⟩⟩
  · exact Or.inl h
  · exact Or.inr (Or.inl h)
  · exact Or.inr (Or.inr (Or.inl h))
  · exact Or.inr (Or.inr (Or.inr (Or.inl ⟨Or.inl ⟨h1, h2⟩, h4, by rw [if_pos h2]; exact h3⟩)))
  · exact Or.inr (Or.inr (Or.inr (Or.inl ⟨Or.inr ⟨h1, h2⟩, h4, by rw [if_neg (by omega)]; exact h3⟩)))
  · exact Or.inr (Or.inr (Or.inr (Or.inr ⟨by omega, h1, h2⟩)))
  · exact Or.inr (Or.inr (Or.inr (Or.inr ⟨by omega, h1, h2⟩)))
  · exact Or.inr (Or.inr (Or.inr (Or.inr ⟨by omega, h1, h2⟩)))
  · refine Or.inr (Or.inr (Or.inr (Or.inr ⟨by omega, h1, ?_⟩)))
    unfold sc
    rw [if_neg (by omega), if_neg (by omega), if_neg (by omega)]
    exact h4
theorem MT.word (h : MT k v s x) {w : Nat} (hw : w ≤ 10) : (s = nI 1 ∧ x = nI w) ↔ k = if w ≤ 2 then w + 3 else w + 6 := by
  have e : ∀ a b : Nat, a < 100 → b < 100 → (nI a = nI b ↔ a = b) := fun a b ha hb => nI_eqI (by omega) (by omega)
  rcases h.cases with ⟨h1, h2⟩ | ⟨h1, h2⟩ | ⟨h1, h2, _⟩ | ⟨h1, h2, h3⟩ | ⟨h1, h2, h3⟩
  · rw [h2, e 0 1 (by omega) (by omega)]
    split <;> omega
  · have : s ≠ nI 1 := by
      rcases h2 with h2 | h2
      · rw [h2]; decide
      · rw [h2.1]; decide
    constructor
    · exact fun q => absurd q.1 this
    · intro q
      exfalso
      split at q <;> omega
  · rw [h2, e 2 1 (by omega) (by omega)]
    split <;> omega
  · rw [h2, h3, e _ w (by split <;> omega) (by omega)]
    constructor
    · rintro ⟨_, q⟩
      split <;> split at q <;> omega
    · intro q
      refine ⟨rfl, ?_⟩
      split <;> split at q <;> omega
  · rw [h2, e 3 1 (by omega) (by omega)]
    split <;> omega
theorem MT.sign (h : MT k v s x) {i : Nat} (hi : (6 ≤ i ∧ i ≤ 8) ∨ (17 ≤ i ∧ i ≤ 27)) : (s = nI 3 ∧ x = nI (sc i)) ↔ k = i := by
  have si := sc_44 i (by omega) (by omega)
  rcases h.cases with ⟨h1, h2⟩ | ⟨h1, h2⟩ | ⟨h1, h2, _⟩ | ⟨h1, h2, h3⟩ | ⟨h1, h2, h3⟩
  · constructor
    · rintro ⟨q, _⟩
      rw [h2] at q
      exact absurd q (by decide)
    · intro q
      omega
  · constructor
    · rintro ⟨q, q2⟩
      rcases h2 with h2 | ⟨_, h2⟩
      · rw [h2] at q
        exact absurd q (by decide)
      · rw [h2, nI_eqI (by omega) (by omega)] at q2
        omega
    · intro q
      omega
  · constructor
    · rintro ⟨q, _⟩
      rw [h2] at q
      exact absurd q (by decide)
    · intro q
      omega
  · constructor
    · rintro ⟨q, _⟩
      rw [h2] at q
      exact absurd q (by decide)
    · intro q
      omega
  · have sk := sc_44 k (by omega) (by omega)
    constructor
    · rintro ⟨_, q⟩
      rw [h3, nI_eqI (by omega) (by omega)] at q
      exact sc_inj k (by omega) i (by omega) (by omega) (by omega) q
    · intro q
      rw [h2, h3, q]
      exact ⟨rfl, rfl⟩
end Stok
