-- PART: explaining, sets of breaks, and how the class goes through them.
def xNm (A : Nat → Nat) (p x : Nat) : Nat := if p = 0 then 0 else if xa A ((p - 1) / 55) x = true then xk (A 8) ((p - 1) % 55) else 0
def xcost (A : Nat → Nat) (r p q : Nat) : Nat := (if p = 0 then 0 else 1) + (if q = 0 then 0 else 1) + xsum (fun D => xDD A r D (xNm A p (A (170 + 8 * D)) ||| xNm A q (A (170 + 8 * D)))) (A 10)
def xval (A : Nat → Nat) (p : Nat) : Prop := p = 0 ∨ ((p - 1) / 55 < A 11 ∧ (p - 1) % 55 < xo (A 8) (A 8))
def xapart (A : Nat → Nat) (p q : Nat) : Prop := (p - 1) / 55 ≠ (q - 1) / 55 ∨ xs2 (A 8) ((p - 1) % 55) < xs1 (A 8) ((q - 1) % 55) ∨ xs2 (A 8) ((q - 1) % 55) < xs1 (A 8) ((p - 1) % 55)
def xSet (A : Nat → Nat) (p q : Nat) : Prop := xval A p ∧ xval A q ∧ (q = 0 ∨ (p ≠ 0 ∧ xapart A p q))
theorem xcost_comm (A : Nat → Nat) (r p q : Nat) : xcost A r p q = xcost A r q p := by
  unfold xcost
  rw [Nat.add_comm (if p = 0 then 0 else 1)]
  congr 1
  exact xsum_congr _ (fun D _ => by rw [Nat.or_comm])
theorem xapart.symm {A : Nat → Nat} {p q : Nat} (h : xapart A p q) : xapart A q p := by
  rcases h with h | h | h
  · exact Or.inl (fun e => h e.symm)
  · exact Or.inr (Or.inr h)
  · exact Or.inr (Or.inl h)
theorem xSet.sw {A : Nat → Nat} {p q : Nat} (h : xSet A p q) (hq : q ≠ 0) : xSet A q p := by
  obtain ⟨h1, h2, h3⟩ := h
  rcases h3 with z | z
  · exact absurd z hq
  · exact ⟨h2, h1, Or.inr ⟨hq, z.2.symm⟩⟩
theorem xDD_le (A : Nat → Nat) (r D M : Nat) : xDD A r D M ≤ 1000 := by
  unfold xDD
  split
  · omega
  · exact xl_le _ _
theorem xcost_le {A : Nat → Nat} (hV : XV A) (r p q : Nat) : xcost A r p q ≤ 16002 := by
  have h1 := xsum_top (f := fun D => xDD A r D (xNm A p (A (170 + 8 * D)) ||| xNm A q (A (170 + 8 * D)))) (m := 1000) (A 10) (fun i _ => xDD_le A r i _)
  have h2 := hV.2.2.2.1
  have h3 : A 10 * 1000 ≤ 16 * 1000 := Nat.mul_le_mul_right _ h2
  unfold xcost
  split <;> split <;> omega
theorem xC_le {A : Nat → Nat} (hV : XV A) (r b M : Nat) : xC A r b M ≤ 16000 := by
  have h1 := xsum_top (f := fun D => if xa A b (A (170 + 8 * D)) = true then xDD A r D M else 0) (m := 1000) (A 10) (fun i _ => by
    show (if _ then _ else _) ≤ _
    split
    · exact xDD_le A r i _
    · omega)
  have h2 := hV.2.2.2.1
  have h3 : A 10 * 1000 ≤ 16 * 1000 := Nat.mul_le_mul_right _ h2
  unfold xC
  omega
theorem cost_0 (A : Nat → Nat) (r : Nat) : xcost A r 0 0 = xsum (fun D => xDD A r D 0) (A 10) := by
  unfold xcost
  rw [if_pos rfl]
  show 0 + 0 + _ = _
  rw [Nat.zero_add]
  exact xsum_congr _ (fun D _ => by rw [show xNm A 0 (A (170 + 8 * D)) = 0 from rfl, Nat.or_zero])
theorem code_in {b i : Nat} (hi : i < 55) : (55 * b + i + 1 - 1) / 55 = b ∧ (55 * b + i + 1 - 1) % 55 = i := by omega
theorem xNm_c {A : Nat → Nat} {b i : Nat} (hi : i < 55) (x : Nat) : xNm A (55 * b + i + 1) x = if xa A b x = true then xk (A 8) i else 0 := by
  unfold xNm
  rw [if_neg (Nat.succ_ne_zero _), (code_in hi).1, (code_in hi).2]
theorem cost_1 {A : Nat → Nat} {r b i : Nat} (hi : i < 55) : xsum (fun D => xDD A r D 0) (A 10) + xC A r b (xk (A 8) i) + 1 = xC A r b 0 + xcost A r (55 * b + i + 1) 0 := by
  unfold xcost xC
  rw [if_neg (by omega), if_pos rfl, xsum_add]
  have : xsum (fun D => xDD A r D 0 + if xa A b (A (170 + 8 * D)) = true then xDD A r D (xk (A 8) i) else 0) (A 10) = xsum (fun D => (if xa A b (A (170 + 8 * D)) = true then xDD A r D 0 else 0) + xDD A r D (xNm A (55 * b + i + 1) (A (170 + 8 * D)) ||| xNm A 0 (A (170 + 8 * D)))) (A 10) := by
    refine xsum_congr _ (fun D _ => ?_)
    have e : xNm A 0 (A (170 + 8 * D)) = 0 := rfl
    rw [e, Nat.or_zero, xNm_c hi]
    by_cases q : xa A b (A (170 + 8 * D)) = true
    · rw [if_pos q, if_pos q, if_pos q]
    · rw [if_neg q, if_neg q, if_neg q]
      omega
  rw [this, ← xsum_add]
  omega
theorem cost_2 {A : Nat → Nat} {r b i o j : Nat} (hV : XV A) (hi : i < 55) (hj : j < 55) (hb : b ≤ o) (ho : o < A 11) : xcost A r (55 * b + i + 1) 0 + 1 + xC A r o ((if xa A b o = true then xk (A 8) i else 0) ||| xk (A 8) j) = xC A r o (if xa A b o = true then xk (A 8) i else 0) + xcost A r (55 * b + i + 1) (55 * o + j + 1) := by
  obtain ⟨v7, v8, v9, v10, v11, vB, vL, vR, vS⟩ := hV
  have n1 : ¬ (55 * b + i + 1 = 0) := Nat.succ_ne_zero _
  have n2 : ¬ (55 * o + j + 1 = 0) := Nat.succ_ne_zero _
  unfold xcost xC
  simp only [if_neg n1, if_neg n2, ↓reduceIte]
  have : xsum (fun D => xDD A r D (xNm A (55 * b + i + 1) (A (170 + 8 * D)) ||| xNm A 0 (A (170 + 8 * D))) + if xa A o (A (170 + 8 * D)) = true then xDD A r D ((if xa A b o = true then xk (A 8) i else 0) ||| xk (A 8) j) else 0) (A 10) = xsum (fun D => (if xa A o (A (170 + 8 * D)) = true then xDD A r D (if xa A b o = true then xk (A 8) i else 0) else 0) + xDD A r D (xNm A (55 * b + i + 1) (A (170 + 8 * D)) ||| xNm A (55 * o + j + 1) (A (170 + 8 * D)))) (A 10) := by
    refine xsum_congr _ (fun D hD => ?_)
    have e : xNm A 0 (A (170 + 8 * D)) = 0 := rfl
    rw [e, Nat.or_zero, xNm_c hi, xNm_c hj]
    by_cases q : xa A o (A (170 + 8 * D)) = true
    · have tr := xa_tr vB v11 ho (vL D hD).1 hb q
      rw [if_pos q, if_pos q, if_pos q, tr]
    · rw [if_neg q, if_neg q, if_neg q, Nat.or_zero]
      omega
  rw [← xsum_add, ← xsum_add] at this
  omega
theorem or_runs : ∀ f, f < 11 → ∀ e, e < 11 → ∀ f', f' < 11 → ∀ e', e' < 11 → rN ((2 ^ e - 2 ^ f) ||| (2 ^ e' - 2 ^ f')) ≤ 2 := by decide +kernel
def apM (f e f' e' : Nat) : Bool := decide ((2 ^ e - 2 ^ f) ≤ (2 ^ e' - 2 ^ f')) && decide ((2 ^ e' - 2 ^ f') &&& ((2 ^ e - 2 ^ f) ||| (2 ^ e - 2 ^ f) <<< 1 ||| (2 ^ e - 2 ^ f) >>> 1) = 0)
def apB (f e f' e' : Nat) : Bool := !(decide (f < e) && decide (f' < e')) || (apM f e f' e' == decide (e < f'))
theorem apart_B : ∀ f, f < 10 → ∀ e, e < 11 → ∀ f', f' < 10 → ∀ e', e' < 11 → apB f e f' e' = true := by decide +kernel
theorem apart_all (f : Nat) (hf : f < 10) (e : Nat) (he : e < 11) (f' : Nat) (hf' : f' < 10) (e' : Nat) (he' : e' < 11) (hl : f < e ∧ f' < e') : ((2 ^ e - 2 ^ f) ≤ (2 ^ e' - 2 ^ f') ∧ (2 ^ e' - 2 ^ f') &&& ((2 ^ e - 2 ^ f) ||| (2 ^ e - 2 ^ f) <<< 1 ||| (2 ^ e - 2 ^ f) >>> 1) = 0) ↔ e < f' := by
  have h := apart_B f hf e he f' hf' e' he'
  unfold apB at h
  rw [decide_eq_true hl.1, decide_eq_true hl.2] at h
  have h2 : (apM f e f' e' == decide (e < f')) = true := h
  have h3 : apM f e f' e' = decide (e < f') := eq_of_beq h2
  constructor
  · intro q
    have : apM f e f' e' = true := by
      unfold apM
      rw [decide_eq_true q.1, decide_eq_true q.2]
      rfl
    rw [h3] at this
    exact of_decide_eq_true this
  · intro q
    rw [decide_eq_true q] at h3
    unfold apM at h3
    rw [Bool.and_eq_true] at h3
    exact ⟨of_decide_eq_true h3.1, of_decide_eq_true h3.2⟩
theorem xk_lt {W i : Nat} (hW : W ≤ 10) (hi : i < xo W W) : xk W i < 2 ^ W ∧ rN (xk W i) ≤ 2 ∧ i < 55 := by
  have := xs_a W (by omega)
  have t := xs_in W (by omega) i (by omega) hi
  exact ⟨t.2.2.2.1, t.2.2.2.2.2, by omega⟩
theorem or_lt2 {x y W : Nat} (hx : x < 2 ^ W) (hy : y < 2 ^ W) : x ||| y < 2 ^ W := Nat.or_lt_two_pow hx hy
def cB (p : Nat) : Int32 := if p = 0 then m1 else nI ((p - 1) / 55)
def cM (W p : Nat) : Int32 := if p = 0 then nI 0 else nI (xk W ((p - 1) % 55))
theorem cB_c {b i : Nat} (hi : i < 55) : cB (55 * b + i + 1) = nI b := by
  unfold cB
  rw [if_neg (by omega), (code_in hi).1]
theorem cM_c {W b i : Nat} (hi : i < 55) : cM W (55 * b + i + 1) = nI (xk W i) := by
  unfold cM
  rw [if_neg (by omega), (code_in hi).2]
/-- what the going through stands on -/
def XB (h : PH) (A : Nat → Nat) (r : Nat) : Prop := RC h 0 A ∧ xSp h (A 8) ∧ xCs h (A 11) (A 8) (xC A r) ∧ xPt h A (A 11) ∧ hI h 95 12 = nI (xsum (fun D => xDD A r D 0) (A 10)) ∧ ∃ v, v ≤ 1000 ∧ hI h 95 13 = nI v
def VLe (A : Nat → Nat) (V V' : Nat → Nat → Prop) : Prop := (∀ p q, V p q → V' p q) ∧ ∀ p q, V' p q → V p q ∨ xSet A p q
theorem VLe.rf {A : Nat → Nat} {V : Nat → Nat → Prop} : VLe A V V := ⟨fun _ _ h => h, fun _ _ h => Or.inl h⟩
theorem VLe.tr {A : Nat → Nat} {V V' V'' : Nat → Nat → Prop} (h1 : VLe A V V') (h2 : VLe A V' V'') : VLe A V V'' := ⟨fun p q h => h2.1 p q (h1.1 p q h), fun p q h => (h2.2 p q h).elim (fun z => h1.2 p q z) Or.inr⟩
section Xh
variable {L : Nat} {A : Nat → Nat}
theorem m69 (d : Nat) {r b i : Nat} {h : PH} (hV : XV A) (hX : XB h A r) (hb : b < A 11) (hi : i < xo (A 8) (A 8)) : exec (g2 L) (d + 1) 69 [.ref 95, .int (nI b), .int (nI (xk (A 8) i))] h = some (some (.int (nI (xcost A r (55 * b + i + 1) 0 - 1))), h) := by
  obtain ⟨x1, x2, x3, x4, x5, x6⟩ := hX
  have v8 := hV.2.1
  have v11 := hV.2.2.2.2.1
  have k8 := kk8 (i := b) (by omega)
  obtain ⟨y1, y2, y3⟩ := xk_lt v8 hi
  have lW : 2 ^ A 8 ≤ 1024 := show 2 ^ A 8 ≤ 2 ^ 10 from Nat.pow_le_pow_right (show 0 < 2 by decide) v8
  have c := cost_1 (A := A) (r := r) (b := b) y3
  have cl := xC_le hV r b 0
  have cu := xsum_le (f := fun D => if xa A b (A (170 + 8 * D)) = true then xDD A r D 0 else 0) (g := fun D => xDD A r D 0) (A 10) (fun D _ => by
    show (if _ then _ else _) ≤ _
    split <;> omega)
  have cu' : xC A r b 0 ≤ xsum (fun D => xDD A r D 0) (A 10) := cu
  rw [x69]
  simp (disch := omega) only [inB_nI, ix_nI, asr_d, okA_of k8.1, asr_true, lenA_of, k8.2.1]
  rw [x5, x3 b hb 0 (Nat.pow_pos (by decide)) rN_0, x3 b hb _ y1 y2, nI_minus cu', nI_plus]
  congr 5
  omega
/-- one more set is seen -/
def VA (V : Nat → Nat → Prop) (p q : Nat) : Nat → Nat → Prop := fun p' q' => V p' q' ∨ (p' = p ∧ q' = q)
theorem VLe.also {V : Nat → Nat → Prop} {p q : Nat} (h : xSet A p q) : VLe A V (VA V p q) := ⟨fun _ _ z => Or.inl z, fun p' q' z => z.elim Or.inl (fun z => Or.inr (by rw [z.1, z.2]; exact h))⟩
def XGa (A : Nat → Nat) (r : Nat) (I : (Nat → Nat → Prop) → PH → Prop) : Prop := ∀ V h, I V h → XB h A r
def XGb (L : Nat) (A : Nat → Nat) (r : Nat) (I : (Nat → Nat → Prop) → PH → Prop) (e : Nat) : Prop := ∀ V h p q, I V h → xSet A p q → ∃ h', exec (g2 L) (e + 3) 67 [.ref 95, .int (nI (xcost A r p q)), .int (cB p), .int (cM (A 8) p), .int (cB q), .int (cM (A 8) q)] h = some (none, h') ∧ I (VA V p q) h'
def XGc (L : Nat) (A : Nat → Nat) (r : Nat) (I : (Nat → Nat → Prop) → PH → Prop) : Prop := ∀ e V h p q, I V h → xSet A p q → ∃ h', exec (g2 L) (e + 3) 67 [.ref 95, .int (nI (xcost A r p q)), .int (cB p), .int (cM (A 8) p), .int (cB q), .int (cM (A 8) q)] h = some (none, h') ∧ I (VA V p q) h'
section Go
variable {d r : Nat} {I : (Nat → Nat → Prop) → PH → Prop}
theorem m70_71 (hV : XV A) (hI1 : XGa A r I) (hI2 : XGb L A r I d) {b i o : Nat} (hb : b ≤ o) (ho : o < A 11) (hi : i < xo (A 8) (A 8)) (x6 : Int32) {near : Int32} (hn : near = nI (xk (A 8) i ||| (xk (A 8) i) <<< 1 ||| (xk (A 8) i) >>> 1)) {rc one : Nat} (hrc : rc = if xa A b o = true then xk (A 8) i else 0) (hone : one = xcost A r (55 * b + i + 1) 0 + 1) : ∀ (n j : Nat) (V : Nat → Nat → Prop) (h : PH) (v11 : Value), j + n = xo (A 8) (A 8) → I V h → ∃ V' h', runL (g2 L) (d + 3) 5 false none kc_70 71 [.ref 95, .int (nI b), .int (nI (xk (A 8) i)), .int (nI o), .int (nI one), .ref (129 + o), .int x6, .int (nI rc), .int (nI (xC A r o rc)), .int near, .int (nI j), v11] [] h = some (none, h') ∧ I V' h' ∧ VLe A V V' ∧ ∀ j', j ≤ j' → j' < xo (A 8) (A 8) → xSet A (55 * b + i + 1) (55 * o + j' + 1) → (b < o ∨ xs2 (A 8) i < xs1 (A 8) j') → V' (55 * b + i + 1) (55 * o + j' + 1) := by
  have v8 := hV.2.1
  have v11' := hV.2.2.2.2.1
  have lW : 2 ^ A 8 ≤ 1024 := show 2 ^ A 8 ≤ 2 ^ 10 from Nat.pow_le_pow_right (show 0 < 2 by decide) v8
  have k8 := kk8 (i := o) (by omega)
  obtain ⟨y1, y2, y3⟩ := xk_lt v8 hi
  have ti := xs_in (A 8) (by omega) i (by omega) hi
  have hlim := xs_a (A 8) (by omega)
  intro n
  induction n with
  | zero =>
    intro j V h v11 hj hI
    obtain ⟨x1, x2, x3, x4, x5, x6'⟩ := hI1 V h hI
    refine ⟨V, h, ?_, hI, VLe.rf, fun j' p1 p2 => by omega⟩
    rw [e70_71, x2.1, if_pos (by rw [nI_leN (by omega) (by omega)]; omega)]
  | succ n ih =>
    intro j V h v11 hj hI
    obtain ⟨x1, x2, x3, x4, x5, x6'⟩ := hI1 V h hI
    obtain ⟨z1, z2, z3⟩ := xk_lt v8 (show j < xo (A 8) (A 8) by omega)
    have tj := xs_in (A 8) (by omega) j (by omega) (by omega)
    have s0 := e70_71 L (d + 3) (nI b) (nI (xk (A 8) i)) (nI o) (nI one) (129 + o) x6 (nI rc) (nI (xC A r o rc)) near (nI j) v11 h
    rw [x2.1, if_neg (by rw [nI_leN (by omega) (by omega)]; omega), inB_nI (by omega), asr_d (by omega), ix_nI (by omega), x2.2 j (by omega)] at s0
    have ap := apart_all (xs1 (A 8) i) (by omega) (xs2 (A 8) i) (by omega) (xs1 (A 8) j) (by omega) (xs2 (A 8) j) (by omega) ⟨ti.1, tj.1⟩
    have rl : rc < 2 ^ A 8 := by
      rw [hrc]
      split
      · exact y1
      · exact Nat.pow_pos (by decide)
    have ol := or_lt2 rl z1
    have orn : rN (rc ||| xk (A 8) j) ≤ 2 := by
      rw [hrc]
      split
      · exact or_runs _ (by omega) _ (by omega) _ (by omega) _ (by omega)
      · rw [Nat.zero_or]
        exact z2
    have c2 := cost_2 (A := A) (r := r) hV (b := b) (i := i) (o := o) (j := j) y3 z3 hb ho
    rw [← hrc, ← hone] at c2
    have good : (b < o ∨ xs2 (A 8) i < xs1 (A 8) j) → ∃ h', runL (g2 L) (d + 3) 5 false none kc_70 111 [.ref 95, .int (nI b), .int (nI (xk (A 8) i)), .int (nI o), .int (nI one), .ref (129 + o), .int x6, .int (nI rc), .int (nI (xC A r o rc)), .int near, .int (nI j), .int (nI (xk (A 8) j))] [] h = runL (g2 L) (d + 3) 5 false none kc_70 71 [.ref 95, .int (nI b), .int (nI (xk (A 8) i)), .int (nI o), .int (nI one), .ref (129 + o), .int x6, .int (nI rc), .int (nI (xC A r o rc)), .int near, .int (nI (j + 1)), .int (nI (xk (A 8) j))] [] h' ∧ I (VA V (55 * b + i + 1) (55 * o + j + 1)) h' ∧ xSet A (55 * b + i + 1) (55 * o + j + 1) := by
      intro hg
      have S : xSet A (55 * b + i + 1) (55 * o + j + 1) := by
        refine ⟨Or.inr ?_, Or.inr ?_, Or.inr ⟨by omega, ?_⟩⟩
        · rw [(code_in y3).1, (code_in y3).2]
          exact ⟨by omega, hi⟩
        · rw [(code_in z3).1, (code_in z3).2]
          exact ⟨ho, by omega⟩
        · unfold xapart
          rw [(code_in y3).1, (code_in y3).2, (code_in z3).1, (code_in z3).2]
          rcases hg with w | w
          · exact Or.inl (by omega)
          · exact Or.inr (Or.inl w)
      have le1 : xC A r o rc ≤ one := by
        have h1 := xsum_le (f := fun D => if xa A o (A (170 + 8 * D)) = true then xDD A r D rc else 0) (g := fun D => xDD A r D (xNm A (55 * b + i + 1) (A (170 + 8 * D)) ||| xNm A 0 (A (170 + 8 * D)))) (A 10) (fun D hD => by
          show (if _ then _ else _) ≤ _
          by_cases q : xa A o (A (170 + 8 * D)) = true
          · have tr := xa_tr hV.2.2.2.2.2.1 v11' ho (hV.2.2.2.2.2.2.1 D hD).1 hb q
            have e : xNm A 0 (A (170 + 8 * D)) = 0 := rfl
            rw [if_pos q, e, Nat.or_zero]
            rw [xNm_c y3, tr, hrc]
            exact Nat.le_refl _
          · rw [if_neg q]
            exact Nat.zero_le _)
        have h2 : xC A r o rc ≤ xsum (fun D => xDD A r D (xNm A (55 * b + i + 1) (A (170 + 8 * D)) ||| xNm A 0 (A (170 + 8 * D)))) (A 10) := h1
        rw [hone]
        unfold xcost
        omega
      obtain ⟨h', g1, g2'⟩ := hI2 V h (55 * b + i + 1) (55 * o + j + 1) hI S
      rw [cB_c y3, cM_c y3, cB_c z3, cM_c z3] at g1
      refine ⟨h', ?_, g2', S⟩
      rw [e70_111, okA_of k8.1 (by omega), asr_true, nI_or, inB_nI (by omega), lenA_of (by omega), k8.2.1, asr_d (by omega), ix_nI (by omega), x3 o ho _ ol orn, nI_minus le1, nI_plus, nI_plus, show one - xC A r o rc + xC A r o (rc ||| xk (A 8) j) = xcost A r (55 * b + i + 1) (55 * o + j + 1) by omega, g1, cV_s]
    have take : ∀ w, (b < o ∨ xs2 (A 8) i < xs1 (A 8) j) → w = runL (g2 L) (d + 3) 5 false none kc_70 111 [.ref 95, .int (nI b), .int (nI (xk (A 8) i)), .int (nI o), .int (nI one), .ref (129 + o), .int x6, .int (nI rc), .int (nI (xC A r o rc)), .int near, .int (nI j), .int (nI (xk (A 8) j))] [] h → ∃ V' h', w = some (none, h') ∧ I V' h' ∧ VLe A V V' ∧ ∀ j', j ≤ j' → j' < xo (A 8) (A 8) → xSet A (55 * b + i + 1) (55 * o + j' + 1) → (b < o ∨ xs2 (A 8) i < xs1 (A 8) j') → V' (55 * b + i + 1) (55 * o + j' + 1) := by
      intro w hg hw
      obtain ⟨h1, g1, g2', S⟩ := good hg
      obtain ⟨V', h', e1, e2, e3, e4⟩ := ih (j + 1) _ h1 (.int (nI (xk (A 8) j))) (by omega) g2'
      refine ⟨V', h', hw.trans (g1.trans e1), e2, (VLe.also S).tr e3, fun j' p1 p2 p3 p4 => ?_⟩
      by_cases q : j' = j
      · rw [q]
        exact e3.1 _ _ (Or.inr ⟨rfl, rfl⟩)
      · exact e4 j' (by omega) p2 p3 p4
    have skip : ∀ w, ¬ (b < o ∨ xs2 (A 8) i < xs1 (A 8) j) → w = runL (g2 L) (d + 3) 5 false none kc_70 71 [.ref 95, .int (nI b), .int (nI (xk (A 8) i)), .int (nI o), .int (nI one), .ref (129 + o), .int x6, .int (nI rc), .int (nI (xC A r o rc)), .int near, .int (nI (j + 1)), .int (nI (xk (A 8) j))] [] h → ∃ V' h', w = some (none, h') ∧ I V' h' ∧ VLe A V V' ∧ ∀ j', j ≤ j' → j' < xo (A 8) (A 8) → xSet A (55 * b + i + 1) (55 * o + j' + 1) → (b < o ∨ xs2 (A 8) i < xs1 (A 8) j') → V' (55 * b + i + 1) (55 * o + j' + 1) := by
      intro w hg hw
      obtain ⟨V', h', e1, e2, e3, e4⟩ := ih (j + 1) V h (.int (nI (xk (A 8) j))) (by omega) hI
      refine ⟨V', h', hw.trans e1, e2, e3, fun j' p1 p2 p3 p4 => ?_⟩
      by_cases q : j' = j
      · rw [q] at p4
        exact absurd p4 hg
      · exact e4 j' (by omega) p2 p3 p4
    rw [s0]
    by_cases q : b = o
    · rw [if_neg (fun z => z (by rw [q]))]
      have xi : xk (A 8) i = 2 ^ xs2 (A 8) i - 2 ^ xs1 (A 8) i := rfl
      have xj : xk (A 8) j = 2 ^ xs2 (A 8) j - 2 ^ xs1 (A 8) j := rfl
      rw [← xi, ← xj] at ap
      by_cases y : xk (A 8) j < xk (A 8) i
      · rw [if_pos (by rw [nI_ltN (by omega) (by omega)]; exact y), nI_plus]
        exact skip _ (fun w => w.elim (fun w => by omega) (fun w => by have := ap.mpr w; omega)) rfl
      · rw [if_neg (by rw [nI_ltN (by omega) (by omega)]; exact y), hn, nI_and]
        have ub : xk (A 8) j &&& (xk (A 8) i ||| (xk (A 8) i) <<< 1 ||| (xk (A 8) i) >>> 1) ≤ xk (A 8) j := Nat.and_le_left
        by_cases t : xk (A 8) j &&& (xk (A 8) i ||| (xk (A 8) i) <<< 1 ||| (xk (A 8) i) >>> 1) = 0
        · rw [if_pos (by rw [t])]
          have hg : xs2 (A 8) i < xs1 (A 8) j := ap.mp ⟨by omega, t⟩
          refine take _ (Or.inr hg) ?_
          rw [hn]
        · rw [if_neg (by rw [nI_eqI (by omega) (by omega)]; exact t), nI_plus]
          refine skip _ (fun w => w.elim (fun w => by omega) (fun w => t (ap.mpr w).2)) ?_
          rw [hn]
    · rw [if_pos (by rw [Ne, nI_eqI (by omega) (by omega)]; exact q)]
      exact take _ (Or.inl (by omega)) rfl
end Go
end Xh
