-- PART: explaining, all breaks of a dial's wire (class).
def fk (f : Nat → Nat → Nat) (ok : Nat → Nat → Bool) (k y a j : Nat) : Nat := if (a < k ∨ (a = k ∧ j < y)) ∧ ¬ ok a j = true then 1000 else f a j
def fo (f : Nat → Nat → Nat) (ok : Nat → Nat → Bool) (a j : Nat) : Nat := if ok a j = true then f a j else 1000
def fq (f : Nat → Nat → Nat) (ok : Nat → Nat → Bool) (k y c : Nat) : Prop := ∃ a j, ((a < k ∨ (a = k ∧ j < y)) ∧ j ≤ a) ∧ fo f ok a j = c
section Xc
variable {L : Nat}
theorem m58_23 {d p k : Nat} {f : Nat → Nat → Nat} {ok : Nat → Nat → Bool} {bs : Nat → Nat} {x : Int32} (hp : p ≤ 10) (hk : k ≤ p) (hle : ∀ a j, f a j ≤ 1000) (hz : ∀ a j, f a j < 1000 → j ≤ a ∧ a ≤ p) (hok : ∀ a j, a ≤ 10 → j ≤ 10 → (ok a j = true ↔ (x = m1 ∨ nI (bs a + j) = x))) : ∀ (n y v : Nat) (h : PH) (v6 : Value), y + n = k + 1 → XR h p (fk f ok k y) → xMin (fq f ok k y) v → hI h 158 p = x → (∀ k, k ≤ 10 → hI h 159 k = nI (bs k)) → ∃ h' v' w5 w6, runL (g2 L) d 5 false (some .int) kc_58 23 [.ref 95, .int (nI p), .ref (147 + p), .int (nI v), .int (nI k), .int (nI y), v6] [] h = runL (g2 L) d 5 false (some .int) kc_58 14 [.ref 95, .int (nI p), .ref (147 + p), .int (nI v'), .int (nI (k + 1)), w5, w6] [] h' ∧ XR h' p (fk f ok (k + 1) 0) ∧ xMin (fq f ok (k + 1) 0) v' ∧ (∀ x, x ≠ 147 + p → hI h' x = hI h x) ∧ hR h' = hR h := by
  have k1 := kk11 (i := p) (by omega)
  intro n
  induction n with
  | zero =>
    intro y v h v6 hy hF hm h8 h9
    have e : y = k + 1 := by omega
    subst e
    refine ⟨h, v, .int (nI (k + 1)), v6, ?_, fun a j ha hj => ?_, hm.congr (fun c _ => ⟨?_, ?_⟩), fun _ _ => rfl, rfl⟩
    · rw [e58_23, if_pos (by rw [nI_ltN (by omega) (by omega)]; omega), nI_plus]
    · rw [hF a j ha hj]
      congr 1
      unfold fk
      by_cases q : (a < k ∨ (a = k ∧ j < k + 1)) ∧ ¬ ok a j = true
      · rw [if_pos q, if_pos ⟨by omega, q.2⟩]
      · rw [if_neg q]
        by_cases q2 : (a < k + 1 ∨ (a = k + 1 ∧ j < 0)) ∧ ¬ ok a j = true
        · rw [if_pos q2]
          have := hz a j
          have := hle a j
          have q3 := q2.2
          have : ¬ (a < k ∨ (a = k ∧ j < k + 1)) := fun z => q ⟨z, q3⟩
          omega
        · rw [if_neg q2]
    · rintro ⟨a, j, q1, q2⟩
      exact ⟨a, j, by omega, q2⟩
    · rintro ⟨a, j, q1, q2⟩
      exact ⟨a, j, by omega, q2⟩
  | succ n ih =>
    intro y v h v6 hy hF hm h8 h9
    have vle := hm.1
    have r0 := hF k y (by omega) (by omega)
    have r1 : fk f ok k y k y = f k y := by
      unfold fk
      exact if_neg (by omega)
    have fle := hle k y
    rw [r1] at r0
    have s0 := e58_23 L d (nI p) (147 + p) (nI v) (nI k) (nI y) v6 h
    simp (disch := omega) only [nI_times, nI_plus, inB_nI, ix_nI, asr_d, okA_of k1.1, okW_of k1.1, asr_true, lenA_of, k1.2] at s0
    rw [if_neg (by rw [nI_ltN (by omega) (by omega)]; omega), h8, h9 k (by omega), nI_plus, r0] at s0
    have nx : ∀ w, fo f ok k y = w → xMin (fq f ok k (y + 1)) (if w < v then w else v) := by
      intro w hw
      refine (hm.also w).congr (fun c _ => ⟨?_, ?_⟩)
      · rintro ⟨a, j, q1, q2⟩
        by_cases e : a = k ∧ j = y
        · rw [e.1, e.2] at q2
          exact Or.inr (by omega)
        · exact Or.inl ⟨a, j, by omega, q2⟩
      · rintro (⟨a, j, q1, q2⟩ | q2)
        · exact ⟨a, j, by omega, q2⟩
        · exact ⟨k, y, by omega, by omega⟩
    have same : ok k y = true → ∀ a j, fk f ok k (y + 1) a j = fk f ok k y a j := by
      intro hk a j
      unfold fk
      by_cases q : (a < k ∨ (a = k ∧ j < y)) ∧ ¬ ok a j = true
      · rw [if_pos q, if_pos ⟨by omega, q.2⟩]
      · rw [if_neg q, if_neg]
        rintro ⟨q1, q2⟩
        by_cases e : a = k ∧ j = y
        · rw [e.1, e.2] at q2
          exact q2 hk
        · exact q ⟨by omega, q2⟩
    by_cases q : x = m1
    · have ok1 := (hok k y (by omega) (by omega)).mpr (Or.inl q)
      rw [if_pos q, mnI (by omega) (by omega)] at s0
      obtain ⟨h', v', w5, w6, e1, e2, e3, e4, e5⟩ := ih (y + 1) _ h _ (by omega) (fun a j ha hj => by rw [same ok1]; exact hF a j ha hj) (nx (f k y) (if_pos ok1)) h8 h9
      exact ⟨h', v', w5, w6, s0.trans e1, e2, e3, e4, e5⟩
    · rw [if_neg q] at s0
      by_cases z : nI (bs k + y) = x
      · have ok1 := (hok k y (by omega) (by omega)).mpr (Or.inr z)
        rw [if_pos z, mnI (by omega) (by omega)] at s0
        obtain ⟨h', v', w5, w6, e1, e2, e3, e4, e5⟩ := ih (y + 1) _ h _ (by omega) (fun a j ha hj => by rw [same ok1]; exact hF a j ha hj) (nx (f k y) (if_pos ok1)) h8 h9
        exact ⟨h', v', w5, w6, s0.trans e1, e2, e3, e4, e5⟩
      · have ok0 : ¬ ok k y = true := fun w => ((hok k y (by omega) (by omega)).mp w).elim q z
        have wv : hI (wI h (147 + p) (k * 11 + y) (nI 1000)) (147 + p) (k * 11 + y) = nI 1000 := by rw [hI_wI, if_pos ⟨rfl, rfl⟩]
        rw [if_neg z, wv, mnI (by omega) (by omega)] at s0
        obtain ⟨h', v', w5, w6, e1, e2, e3, e4, e5⟩ := ih (y + 1) _ (wI h (147 + p) (k * 11 + y) (nI 1000)) (.int (nI (k * 11 + y))) (by omega) (fun a j ha hj => by
          rw [hI_wI]
          by_cases e : a = k ∧ j = y
          · rw [e.1, e.2, if_pos ⟨rfl, rfl⟩]
            unfold fk
            rw [if_pos ⟨by omega, ok0⟩]
          · rw [if_neg (by omega), hF a j ha hj]
            congr 1
            unfold fk
            by_cases q : (a < k ∨ (a = k ∧ j < y)) ∧ ¬ ok a j = true
            · rw [if_pos q, if_pos ⟨by omega, q.2⟩]
            · rw [if_neg q, if_neg]
              rintro ⟨q1, q2⟩
              exact q ⟨by omega, q2⟩) (nx 1000 (if_neg ok0)) (by rw [wI_ne (by omega)]; exact h8) (fun k hk => by rw [wI_ne (by omega)]; exact h9 k hk)
        exact ⟨h', v', w5, w6, s0.trans e1, e2, e3, fun x hx => by rw [e4 x hx, wI_ne hx], e5⟩
theorem m58_14 {d p : Nat} {f : Nat → Nat → Nat} {ok : Nat → Nat → Bool} {bs : Nat → Nat} {x : Int32} (hp : p ≤ 10) (hle : ∀ a j, f a j ≤ 1000) (hz : ∀ a j, f a j < 1000 → j ≤ a ∧ a ≤ p) (hok : ∀ a j, a ≤ 10 → j ≤ 10 → (ok a j = true ↔ (x = m1 ∨ nI (bs a + j) = x))) : ∀ (n k v : Nat) (h : PH) (v5 v6 : Value), k + n = p + 1 → XR h p (fk f ok k 0) → xMin (fq f ok k 0) v → hI h 158 p = x → (∀ k, k ≤ 10 → hI h 159 k = nI (bs k)) → ∃ h' v', runL (g2 L) d 5 false (some .int) kc_58 14 [.ref 95, .int (nI p), .ref (147 + p), .int (nI v), .int (nI k), v5, v6] [] h = some (some (.int (nI v')), h') ∧ XR h' p (fk f ok (p + 1) 0) ∧ xMin (fq f ok (p + 1) 0) v' ∧ (∀ x, x ≠ 147 + p → hI h' x = hI h x) ∧ hR h' = hR h := by
  intro n
  induction n with
  | zero =>
    intro k v h v5 v6 hk hF hm h8 h9
    have e : k = p + 1 := by omega
    subst e
    refine ⟨h, v, ?_, hF, hm, fun _ _ => rfl, rfl⟩
    rw [e58_14, if_pos (by rw [nI_ltN (by omega) (by omega)]; omega)]
  | succ n ih =>
    intro k v h v5 v6 hk hF hm h8 h9
    have s0 := e58_14 L d (nI p) (147 + p) (nI v) (nI k) v5 v6 h
    rw [if_neg (by rw [nI_ltN (by omega) (by omega)]; omega)] at s0
    obtain ⟨h', v', w5, w6, e1, e2, e3, e4, e5⟩ := m58_23 (L := L) (d := d) hp (by omega) hle hz hok (k + 1) 0 v h v6 (by omega) hF hm h8 h9
    obtain ⟨h2, v2, i1, i2, i3, i4, i5⟩ := ih (k + 1) v' h' w5 w6 (by omega) e2 e3 (by rw [e4 _ (by omega)]; exact h8) (fun k hk => by rw [e4 _ (by omega)]; exact h9 k hk)
    exact ⟨h2, v2, s0.trans (e1.trans i1), i2, i3, fun x hx => by rw [i4 x hx, e4 x hx], i5.trans e5⟩
theorem m58 (d : Nat) {p : Nat} {f : Nat → Nat → Nat} {ok : Nat → Nat → Bool} {bs : Nat → Nat} {h : PH} (hp : p ≤ 10) (hle : ∀ a j, f a j ≤ 1000) (hz : ∀ a j, f a j < 1000 → j ≤ a ∧ a ≤ p) (hok : ∀ a j, a ≤ 10 → j ≤ 10 → (ok a j = true ↔ (hI h 158 p = m1 ∨ nI (bs a + j) = hI h 158 p))) (h9 : ∀ k, k ≤ 10 → hI h 159 k = nI (bs k)) (hF : XR h p f) : ∃ h' v', exec (g2 L) (d + 1) 58 [.ref 95, .int (nI p)] h = some (some (.int (nI v')), h') ∧ XR h' p (fo f ok) ∧ xMin (xS (fo f ok)) v' ∧ (∀ x, x ≠ 147 + p → hI h' x = hI h x) ∧ hR h' = hR h := by
  obtain ⟨h', v', e1, e2, e3, e4, e5⟩ := m58_14 (L := L) (d := d) hp hle hz hok (p + 1) 0 1000 h dm dm (by omega) (fun a j ha hj => by
    rw [hF a j ha hj]
    congr 1
    unfold fk
    rw [if_neg (by omega)]) (xMin.none.congr (fun c _ => ⟨by rintro ⟨a, j, q1, q2⟩; omega, False.elim⟩)) rfl h9
  refine ⟨h', v', ?_, fun a j ha hj => ?_, e3.congr (fun c hc => ⟨?_, ?_⟩), e4, e5⟩
  · rw [x58, inB_nI (by omega), asr_d (by omega), ix_nI (by omega)]
    exact e1
  · rw [e2 a j ha hj]
    congr 1
    unfold fk fo
    have := hz a j
    have := hle a j
    by_cases q : ok a j = true
    · rw [if_pos q, if_neg (fun z => z.2 q)]
    · rw [if_neg q]
      by_cases z : (a < p + 1 ∨ (a = p + 1 ∧ j < 0))
      · rw [if_pos ⟨z, q⟩]
      · rw [if_neg (fun w => z w.1)]
        omega
  · rintro ⟨a, j, q⟩
    refine ⟨a, j, ?_, q⟩
    have : fo f ok a j = f a j := by
      unfold fo at q ⊢
      by_cases z : ok a j = true
      · rw [if_pos z]
      · rw [if_neg z] at q
        omega
    have := hz a j (by omega)
    omega
  · rintro ⟨a, j, q1, q2⟩
    exact ⟨a, j, q2⟩
theorem or_pow {m p : Nat} (i : Nat) (hm : m < 2 ^ p) : m ||| (i <<< p) = i * 2 ^ p + m := by
  rw [Nat.shiftLeft_eq, Nat.or_comm, Nat.mul_comm, Nat.two_pow_add_eq_or_of_lt hm]
theorem m60_26 {d b p W mk v : Nat} (hb : b < 8) (hW : W ≤ 10) (hp : p ≤ W) (hm : mk < 2 ^ p) (hv : v ≤ 1000) : ∀ (n i : Nat) (h : PH) (v7 : Value), i + n = 2 ^ (W - p) → ∃ h', runL (g2 L) d 5 false none kc_60 26 [.ref 95, .ref (129 + b), .int (nI p), .int (nI mk), .int (nI v), .int (nI (2 ^ (W - p))), .int (nI i), v7] [] h = some (none, h') ∧ (∀ M, M < 1024 → hI h' (129 + b) M = if M < 2 ^ W ∧ M % 2 ^ p = mk ∧ i ≤ M / 2 ^ p then hI h (129 + b) M + nI v else hI h (129 + b) M) ∧ (∀ x, x ≠ 129 + b → hI h' x = hI h x) ∧ hR h' = hR h := by
  have k8 := kk8 hb
  have e2 : 2 ^ W = 2 ^ (W - p) * 2 ^ p := by rw [← Nat.pow_add, Nat.sub_add_cancel hp]
  have lW : 2 ^ W ≤ 1024 := show 2 ^ W ≤ 2 ^ 10 from Nat.pow_le_pow_right (show 0 < 2 by decide) hW
  have lp : 0 < 2 ^ p := Nat.pow_pos (by omega)
  have lq : 2 ^ (W - p) ≤ 1024 := show 2 ^ (W - p) ≤ 2 ^ 10 from Nat.pow_le_pow_right (show 0 < 2 by decide) (by omega)
  intro n
  induction n with
  | zero =>
    intro i h v7 hi
    refine ⟨h, ?_, fun M hM => ?_, fun _ _ => rfl, rfl⟩
    · rw [e60_26, if_pos (by rw [nI_leN (by omega) (by omega)]; omega)]
    · rw [if_neg]
      rintro ⟨q1, q2, q3⟩
      rw [e2] at q1
      have := (Nat.div_lt_iff_lt_mul lp).mpr q1
      omega
  | succ n ih =>
    intro i h v7 hi
    have hx : i * 2 ^ p + mk < 2 ^ W := by
      rw [e2]
      have : (i + 1) * 2 ^ p ≤ 2 ^ (W - p) * 2 ^ p := Nat.mul_le_mul_right _ (by omega)
      rw [Nat.succ_mul] at this
      omega
    have al : alive (g2 L) h (129 + b) = true := by
      unfold alive
      rw [show Nat.blt (129 + b) (g2 L).1 = true from Nat.ble_eq_true_of_le (show 129 + b + 1 ≤ 289 by omega)]
      rfl
    have s0 := e60_26 L d (129 + b) (nI p) (nI mk) (nI v) (nI (2 ^ (W - p))) (nI i) v7 h
    rw [if_neg (by rw [nI_leN (by omega) (by omega)]; omega), nI_shl i (by omega), nI_or, or_pow i hm, k8.1, al] at s0
    simp (disch := omega) only [inB_nI, ix_nI, asr_d, okA_of k8.1, okW_of k8.1, asr_true, lenA_of, k8.2.1] at s0
    rw [if_neg (by rw [nI_leN (by omega) (by omega)]; omega), nI_plus] at s0
    obtain ⟨h', e1, e3, e4, e5⟩ := ih (i + 1) (wI h (129 + b) (i * 2 ^ p + mk) (hI h (129 + b) (i * 2 ^ p + mk) + nI v)) (.int (nI (i * 2 ^ p + mk))) (by omega)
    refine ⟨h', s0.trans e1, fun M hM => ?_, fun x hx => by rw [e4 x hx, wI_ne hx], e5⟩
    rw [e3 M hM, hI_wI]
    have dm' := Nat.div_add_mod M (2 ^ p)
    by_cases y : M = i * 2 ^ p + mk
    · have y1 : M % 2 ^ p = mk := by
        rw [y, Nat.mul_comm, Nat.mul_add_mod, Nat.mod_eq_of_lt hm]
      have y2 : M / 2 ^ p = i := by
        rw [y, Nat.mul_comm, Nat.mul_add_div lp, Nat.div_eq_of_lt hm, Nat.add_zero]
      rw [if_neg (by omega), if_pos ⟨rfl, y⟩, if_pos ⟨by omega, y1, by omega⟩, y]
    · have ne : ¬ (M % 2 ^ p = mk ∧ M / 2 ^ p = i) := by
        rintro ⟨z1, z2⟩
        rw [z1, z2, Nat.mul_comm] at dm'
        exact y dm'.symm
      rw [if_neg (c := (129 + b = 129 + b ∧ _)) (fun z => y z.2)]
      by_cases z : M < 2 ^ W ∧ M % 2 ^ p = mk ∧ i + 1 ≤ M / 2 ^ p
      · rw [if_pos z, if_pos ⟨z.1, z.2.1, by omega⟩]
      · rw [if_neg z, if_neg]
        rintro ⟨w1, w2, w3⟩
        exact z ⟨w1, w2, by have : M / 2 ^ p ≠ i := fun q => ne ⟨w2, q⟩; omega⟩
theorem i32_add0 (x : Int32) : x + nI 0 = x := Int32.add_zero x
theorem m60 (d : Nat) {b p W mk v : Nat} {h : PH} (hb : b < 8) (hW : W ≤ 10) (hp : p ≤ W) (hm : mk < 2 ^ p) (hv : v ≤ 1000) (h8 : hI h 8 0 = nI W) : ∃ h', exec (g2 L) (d + 1) 60 [.ref 95, .ref (129 + b), .int (nI p), .int (nI mk), .int (nI v)] h = some (none, h') ∧ (∀ M, M < 1024 → hI h' (129 + b) M = if M < 2 ^ W ∧ M % 2 ^ p = mk then hI h (129 + b) M + nI v else hI h (129 + b) M) ∧ (∀ x, x ≠ 129 + b → hI h' x = hI h x) ∧ hR h' = hR h := by
  by_cases q : v = 0
  · refine ⟨h, ?_, fun M hM => ?_, fun _ _ => rfl, rfl⟩
    · rw [x60, q, if_neg (fun z => z rfl)]
    · rw [q, i32_add0]
      split <;> rfl
  · obtain ⟨h', e1, e2, e3, e4⟩ := m60_26 (L := L) (d := d) hb hW hp hm hv (2 ^ (W - p)) 0 h dm (by omega)
    refine ⟨h', ?_, fun M hM => ?_, e3, e4⟩
    · have ew : (if nI 0 < hI h 8 0 - nI p then hI h 8 0 - nI p else nI 0) = nI (W - p) := by
        rw [h8, nI_minus hp]
        by_cases z : 0 < W - p
        · rw [if_pos (by rw [nI_ltN (by omega) (by omega)]; exact z)]
        · rw [if_neg (by rw [nI_ltN (by omega) (by omega)]; exact z), show W - p = 0 by omega]
      rw [x60, if_pos (by rw [Ne, nI_eqI (by omega) (by omega)]; exact q), ew, nI_shl 1 (by omega), Nat.one_shiftLeft]
      exact e1
    · rw [e2 M hM]
      by_cases z : M < 2 ^ W ∧ M % 2 ^ p = mk
      · rw [if_pos z, if_pos ⟨z.1, z.2, Nat.zero_le _⟩]
      · rw [if_neg z, if_neg (fun w => z ⟨w.1, w.2.1⟩)]
end Xc
