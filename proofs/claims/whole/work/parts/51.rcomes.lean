-- PART: rounds, whether a dial comes right, the class.
/-- what the class has gathered -/
def GS (h : PH) (A : Nat → Nat) : Prop := hI h 163 8 = nI (rn A) ∧ ∀ k, k < rn A → hR h 198 k = 33 + rd A k ∧ ∀ j, j ≤ 90 → hI h (182 + k) j = nI (if far (A (40 + 8 * rd A k + 5)) (A (40 + 8 * rd A k + 6)) (A (40 + 8 * rd A k + 4)) j = bh (A 0) (A (40 + 8 * rd A k + 2)) then 1 else 0)
theorem rA_le {A l : Nat → Nat} {d p : Nat} : ∀ r, rA A l d p r ≤ bg l r
  | 0 => Nat.le_refl _
  | r + 1 => by
    have := rA_le (A := A) (l := l) (d := d) (p := p) r
    rw [rA, bg]
    split
    · omega
    · have := tk_le (A (40 + 8 * d + 1)) (rS A l d p r).2.1 ((A 1 + bg l r) % 2) (l r)
      omega
theorem right_iff {A l : Nat → Nat} {d p r : Nat} (h2 : A (40 + 8 * d + 2) < 720) (hb : bg l r ≤ 90) : (far (A (40 + 8 * d + 5)) (A (40 + 8 * d + 6)) (A (40 + 8 * d + 4)) (rA A l d p r) = bh (A 0) (A (40 + 8 * d + 2))) ↔ (rS A l d p r).1 = A 0 % 720 := by
  rw [(rS_rA h2 r).1]
  have f := far_le (A (40 + 8 * d + 5)) (A (40 + 8 * d + 6)) (A (40 + 8 * d + 4)) (rA A l d p r)
  have g := rA_le (A := A) (l := l) (d := d) (p := p) r
  unfold bh
  omega
section Rcomes
variable {L : Nat} {A l : Nat → Nat}
theorem m85_loop {d k p r q : Nat} {h : PH} (hV : VW A q) (hk : k < rn A) (hp : p < 8) (hr : r ≤ 3) (hG : GS h A) (h9 : ∀ i, i < 3 → hI h 199 i = nI (l i)) (hl : ∀ i, 1 ≤ l i ∧ l i ≤ 30) (hb : bg l r ≤ 90) : ∀ (n i : Nat), i + n = r → runL (g2 L) d 6 false (some .boolean) kc_85 37 [.ref 163, .int (nI k), .int (nI r), .int (nI p), .int (nI (A (40 + 8 * rd A k + 1))), .int (nI (rS A l (rd A k) p i).2.1), .int (nI ((A 1 + bg l i) % 2)), .int (nI (rA A l (rd A k) p i)), .int (nI i)] [] h = some (some (.int (bI ((rS A l (rd A k) p r).1 = A 0 % 720))), h) := by
  obtain ⟨v1, v3, v4, vb, vk, vl⟩ := id hV
  have h16 : rn A ≤ A 4 := rl_len _
  obtain ⟨l0, l1, l2, l3, l4, l5, l6, l7⟩ := vl (rd A k) (rd_lt hk)
  intro n
  induction n with
  | zero =>
    intro i hi
    have hir : i = r := by omega
    subst hir
    have ha := rA_le (A := A) (l := l) (d := rd A k) (p := p) i
    have e := (hG.2 k hk).2 (rA A l (rd A k) p i) (by omega)
    rw [e85_37, if_pos (by rw [nI_leN (by omega) (by omega)]; omega), inB_nI (by omega), asr_d (by omega), ix_nI (by omega), okA_of (kk16 (show k < 16 by omega)).2.2.2.2.2.2.1 (by omega), asr_true, lenA_of (by omega), (kk16 (show k < 16 by omega)).2.2.2.2.2.2.2, inB_nI (by omega), asr_d (by omega), ix_nI (by omega), e]
    by_cases z : far (A (40 + 8 * rd A k + 5)) (A (40 + 8 * rd A k + 6)) (A (40 + 8 * rd A k + 4)) (rA A l (rd A k) p i) = bh (A 0) (A (40 + 8 * rd A k + 2))
    · rw [if_pos z, if_neg (by decide), bI_t ((right_iff l2 hb).mp z)]
    · rw [if_neg z, if_pos rfl, bI_f (fun y => z ((right_iff l2 hb).mpr y))]
  | succ n ih =>
    intro i hi
    have e := ih (i + 1) (by omega)
    obtain ⟨m1', m2'⟩ := hl i
    have hlast := (rS_in (l := l) (p := p) (d := rd A k) l2 l3 l4 i).2.1
    have hbi : bg l (i + 1) = bg l i + l i := rfl
    have sg : nI ((A 1 + bg l i) % 2) ^^^ (nI (l i) &&& nI 1) = nI ((A 1 + bg l (i + 1)) % 2) := by
      rw [nI_and, nI_xor, xor2 (by omega), hbi]
      congr 1
      omega
    have ls : nI ((A 1 + bg l i) % 2) ^^^ (nI (l i) - nI 1 &&& nI 1) = nI (((A 1 + bg l i) % 2 + (l i - 1)) % 2) := by
      rw [nI_minus m1', nI_and, nI_xor, xor2 (by omega)]
    rw [e85_37, if_neg (by rw [nI_leN (by omega) (by omega)]; omega), bit_of (by omega) (by omega), inB_nI (by omega), asr_d (by omega), asr_d (by omega), asr_d (by omega), ix_nI (by omega), h9 i (by omega), sg, nI_plus]
    have hb2 : p / 2 ^ i % 2 < 2 := Nat.mod_lt _ (by omega)
    by_cases z : p / 2 ^ i % 2 = 1
    · rw [rS, rA, if_pos z, if_pos (Or.inl z)] at e
      rw [z, if_pos (by decide)]
      exact e
    · rw [rS, rA, if_neg z, if_neg (by omega)] at e
      unfold go at e
      rw [if_neg (by omega)] at e
      rw [show p / 2 ^ i % 2 = 0 by omega, if_neg (fun q => q rfl)]
      have e85 : ∀ x : Nat, runL (g2 L) d 6 false (some .boolean) kc_85 85 [.ref 163, .int (nI k), .int (nI r), .int (nI p), .int (nI (A (40 + 8 * rd A k + 1))), .int (nI (rS A l (rd A k) p i).2.1), .int (nI ((A 1 + bg l i) % 2)), .int (nI (rA A l (rd A k) p i)), .int (nI i)] [.int (nI x), .int (nI (rA A l (rd A k) p i))] h = runL (g2 L) d 6 false (some .boolean) kc_85 37 [.ref 163, .int (nI k), .int (nI r), .int (nI p), .int (nI (A (40 + 8 * rd A k + 1))), .int (nI (((A 1 + bg l i) % 2 + (l i - 1)) % 2)), .int (nI ((A 1 + bg l (i + 1)) % 2)), .int (nI (rA A l (rd A k) p i + x)), .int (nI (i + 1))] [] h := by
        intro x
        rw [e85_85, inB_nI (by omega), asr_d (by omega), asr_d (by omega), ix_nI (by omega), h9 i (by omega), sg, ls, nI_plus, nI_plus]
      by_cases t0 : A (40 + 8 * rd A k + 1) = 0
      · have ht : tk (A (40 + 8 * rd A k + 1)) (rS A l (rd A k) p i).2.1 ((A 1 + bg l i) % 2) (l i) = l i := by
          unfold tk
          rw [if_neg (by omega)]
        rw [ht] at e
        rw [if_pos (by rw [t0]), e85]
        exact e
      · rw [if_neg (by rw [nI_eqI (by omega) (by omega)]; exact t0)]
        by_cases t1 : (rS A l (rd A k) p i).2.1 = (A 1 + bg l i) % 2
        · have ht : tk (A (40 + 8 * rd A k + 1)) (rS A l (rd A k) p i).2.1 ((A 1 + bg l i) % 2) (l i) = l i - 1 := by
            unfold tk
            rw [if_pos ⟨by omega, t1⟩]
          rw [ht] at e
          rw [if_neg (by rw [t1]; exact fun q => q rfl), nI_minus m1', e85]
          exact e
        · have ht : tk (A (40 + 8 * rd A k + 1)) (rS A l (rd A k) p i).2.1 ((A 1 + bg l i) % 2) (l i) = l i := by
            unfold tk
            rw [if_neg (fun q => t1 q.2)]
          rw [ht] at e
          rw [if_pos (by rw [Ne, nI_eqI (by omega) (by omega)]; exact t1), e85]
          exact e
theorem m85 (d : Nat) {k p r q : Nat} {h : PH} (hV : VW A q) (hC : RC h 0 A) (hk : k < rn A) (hp : p < 8) (hr : r ≤ 3) (hG : GS h A) (h9 : ∀ i, i < 3 → hI h 199 i = nI (l i)) (hl : ∀ i, 1 ≤ l i ∧ l i ≤ 30) : exec (g2 L) (d + 1) 85 [.ref 163, .int (nI k), .int (nI r), .int (nI p)] h = some (some (.int (bI ((rS A l (rd A k) p r).1 = A 0 % 720))), h) := by
  obtain ⟨v1, v3, v4, vb, vk, vl⟩ := id hV
  have h16 : rn A ≤ A 4 := rl_len _
  have hd := rd_lt hk
  have hb : bg l r ≤ 90 := by
    have b1 := (hl 0).2
    have b2 := (hl 1).2
    have b3 := (hl 2).2
    have c : r = 0 ∨ r = 1 ∨ r = 2 ∨ r = 3 := by omega
    rcases c with rfl | rfl | rfl | rfl
    · exact Nat.zero_le _
    · show 0 + l 0 ≤ 90
      omega
    · show 0 + l 0 + l 1 ≤ 90
      omega
    · show 0 + l 0 + l 1 + l 2 ≤ 90
      omega
  obtain ⟨t0, t1, t2, t3, t4, t5, t6, t7⟩ := hC.dH (i := rd A k) (by omega)
  have f1 := hC.sg
  rw [Nat.zero_add] at t1 t3 f1
  have e := m85_loop (L := L) (d := d) (l := l) hV hk hp hr hG h9 hl hb r 0 (by omega)
  rw [x85, inB_nI (by omega), asr_d (by omega), asr_d (by omega), ix_nI (by omega), (hG.2 k hk).1, okA_of (kk16 (show rd A k < 16 by omega)).1 (by omega), asr_true, asr_true, t1, t3, f1]
  have s0 : (A 1 + bg l 0) % 2 = A 1 := by
    show (A 1 + 0) % 2 = A 1
    omega
  rw [s0] at e
  exact e
end Rcomes
