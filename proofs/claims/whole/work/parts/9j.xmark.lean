-- PART: explaining, a set is considered, a set is marked (class).
def xOw (A : Nat → Nat) (p b : Nat) : Nat := if p ≠ 0 ∧ (p - 1) / 55 = b then xk (A 8) ((p - 1) % 55) else 0
def bt (p : Nat) : Int32 := if p = 0 then nI 0 else nI (2 ^ ((p - 1) / 55))
theorem okW_no {L : Nat} {h : PH} {a k k' : Nat} (hk : kx_K a = k) (hn : k ≠ k') : okW (g2 L) h a k' = false := by
  unfold okW
  rw [hk]
  cases e : Nat.beq k k' with
  | true => exact absurd (Nat.eq_of_beq_eq_true e) hn
  | false => simp
theorem pb_all : ∀ w, w < 256 → ∀ c, c < 8 → ((nI w &&& nI (2 ^ c) = nI 0) ↔ ¬ (w / 2 ^ c % 2 = 1)) := by decide +kernel
section Xj
variable {L : Nat} {A : Nat → Nat}
theorem cM_lt (hV : XV A) {p : Nat} (hp : xval A p) : ∃ m, cM (A 8) p = nI m ∧ m < 2 ^ A 8 ∧ (∀ b, xOw A p b = if cB p = nI b ∧ b < 8 then m else xOw A p b) ∧ (∀ x, xNm A p x = if p ≠ 0 ∧ xa A ((p - 1) / 55) x = true then m else 0) := by
  by_cases q : p = 0
  · refine ⟨0, by unfold cM; rw [if_pos q], Nat.pow_pos (by decide), fun b => ?_, fun x => ?_⟩
    · have : xOw A p b = 0 := by unfold xOw; rw [if_neg (fun z => z.1 q)]
      rw [this]
      split <;> rfl
    · unfold xNm
      rw [if_pos q, if_neg (fun z => z.1 q)]
  · have hv := hp.resolve_left q
    have t := xk_lt hV.2.1 hv.2
    refine ⟨xk (A 8) ((p - 1) % 55), by unfold cM; rw [if_neg q], t.1, fun b => ?_, fun x => ?_⟩
    · by_cases z : cB p = nI b ∧ b < 8
      · have v11 := hV.2.2.2.2.1
        have z1 := z.1
        unfold cB at z1
        rw [if_neg q, nI_eqI (by omega) (by omega)] at z1
        rw [if_pos z]
        unfold xOw
        rw [if_pos ⟨q, z1⟩]
      · rw [if_neg z]
    · unfold xNm
      rw [if_neg q]
      by_cases z : xa A ((p - 1) / 55) x = true
      · rw [if_pos z, if_pos ⟨q, z⟩]
      · rw [if_neg z, if_neg (fun w => z w.2)]
/-- the part of a branch of its own -/
theorem own_1 (hV : XV A) {p k m : Nat} (hp : xval A p) (hk : k < 8) (hm : cM (A 8) p = nI m) (hl : m < 2 ^ A 8) : (nI k ≠ cB p ∧ xOw A p k = 0) ∨ (nI k = cB p ∧ xOw A p k = m) := by
  have v11 := hV.2.2.2.2.1
  have v8 := hV.2.1
  have lW : 2 ^ A 8 ≤ 1024 := show 2 ^ A 8 ≤ 2 ^ 10 from Nat.pow_le_pow_right (show 0 < 2 by decide) v8
  by_cases q : p = 0
  · left
    unfold cB xOw
    rw [if_pos q, if_neg (fun z => z.1 q)]
    exact ⟨fun z => (nI_ne_m1 (by omega)).mp z, rfl⟩
  · have hv := hp.resolve_left q
    have t := xk_lt v8 hv.2
    unfold cM at hm
    rw [if_neg q, nI_eqI (by omega) (by omega)] at hm
    unfold cB xOw
    rw [if_neg q, nI_eqI (by omega) (by omega)]
    by_cases z : (p - 1) / 55 = k
    · right
      rw [if_pos ⟨q, z⟩]
      exact ⟨z.symm, hm⟩
    · left
      rw [if_neg (fun w => z w.2)]
      exact ⟨fun w => z ((nI_eqI (by omega) (by omega)).mp w).symm, rfl⟩
theorem by_1 (hV : XV A) {p k m w : Nat} (hp : xval A p) (hm : cM (A 8) p = nI m) (hl : m < 2 ^ A 8) (hw : w < 256) (hb : ∀ c, c < 8 → (w / 2 ^ c % 2 = 1 ↔ xa A c k = true)) : ((nI w &&& bt p) = nI 0 ∧ xNm A p k = 0) ∨ (¬ (nI w &&& bt p) = nI 0 ∧ xNm A p k = m) := by
  have v11 := hV.2.2.2.2.1
  have v8 := hV.2.1
  have lW : 2 ^ A 8 ≤ 1024 := show 2 ^ A 8 ≤ 2 ^ 10 from Nat.pow_le_pow_right (show 0 < 2 by decide) v8
  unfold bt xNm
  by_cases q : p = 0
  · left
    rw [if_pos q, if_pos q, nI_and, Nat.and_zero]
    exact ⟨rfl, rfl⟩
  · have hv := hp.resolve_left q
    have t := xk_lt v8 hv.2
    unfold cM at hm
    rw [if_neg q, nI_eqI (by omega) (by omega)] at hm
    rw [if_neg q, if_neg q, pb_all w hw _ (by omega), hb _ (by omega)]
    by_cases z : xa A ((p - 1) / 55) k = true
    · right
      rw [if_pos z]
      exact ⟨fun y => y z, hm⟩
    · left
      rw [if_neg z]
      exact ⟨z, rfl⟩
theorem m68_31 {d r p q : Nat} (hV : XV A) (hr : r ≤ 30) (hp : xval A p) (hq : xval A q) : ∀ (n k : Nat) (h : PH) (v8 v9 v10 : Value), k + n = A 11 → hI h 9 0 = nI (A 11) → xPt h A (A 11) → hR h 95 15 = 97 + r → ∃ h', runL (g2 L) d 5 false none kc_68 31 [.ref 95, .int (cB p), .int (cM (A 8) p), .int (cB q), .int (cM (A 8) q), .int (bt p), .int (bt q), .int (nI k), v8, v9, v10] [] h = some (none, h') ∧ (∀ b, b < A 11 → hI h' (97 + r) (4 + b) = (if k ≤ b then hI h (97 + r) (4 + b) ||| nI (xOw A p b ||| xOw A q b) else hI h (97 + r) (4 + b)) ∧ hI h' (97 + r) (12 + b) = (if k ≤ b then hI h (97 + r) (12 + b) &&& nI (xOw A p b ||| xOw A q b) else hI h (97 + r) (12 + b)) ∧ ∀ M, hI h' (138 + b) M = if k ≤ b ∧ M = xNm A p b ||| xNm A q b then nI 1 else hI h (138 + b) M) ∧ (∀ j, j < 4 → hI h' (97 + r) j = hI h (97 + r) j) ∧ (∀ x, x ≠ 97 + r → ¬ (138 ≤ x ∧ x < 146) → hI h' x = hI h x) ∧ hR h' = hR h := by
  have v11 := hV.2.2.2.2.1
  have v8 := hV.2.1
  have lW : 2 ^ A 8 ≤ 1024 := show 2 ^ A 8 ≤ 2 ^ 10 from Nat.pow_le_pow_right (show 0 < 2 by decide) v8
  obtain ⟨mp, mp1, mp2, _x1, _x2⟩ := cM_lt hV hp
  obtain ⟨mq, mq1, mq2, _x3, _x4⟩ := cM_lt hV hq
  have k31 := kk31 (i := r) (by omega)
  intro n
  induction n with
  | zero =>
    intro k h v8' v9 v10 hk h9 hP hR0
    refine ⟨h, ?_, fun b hb => ⟨by rw [if_neg (by omega)], by rw [if_neg (by omega)], fun M => by rw [if_neg (by omega)]⟩, fun _ _ => rfl, fun _ _ _ => rfl, rfl⟩
    rw [e68_31, h9, if_pos (by rw [nI_leN (by omega) (by omega)]; omega)]
  | succ n ih =>
    intro k h v8' v9 v10 hk h9 hP hR0
    have k8 := kk8 (i := k) (by omega)
    obtain ⟨w, w1, w2, w3⟩ := hP k (by omega)
    have own : ∃ xs0 xs1, xs1 ||| xs0 = xOw A p k ||| xOw A q k ∧ runL (g2 L) d 5 false none kc_68 31 [.ref 95, .int (cB p), .int (cM (A 8) p), .int (cB q), .int (cM (A 8) q), .int (bt p), .int (bt q), .int (nI k), v8', v9, v10] [] h = runL (g2 L) d 5 false none kc_68 69 [.ref 95, .int (cB p), .int (cM (A 8) p), .int (cB q), .int (cM (A 8) q), .int (bt p), .int (bt q), .int (nI k), v8', v9, v10] [.int (nI xs0), .int (nI xs1)] h := by
      have s0 := e68_31 L d (cB p) (cM (A 8) p) (cB q) (cM (A 8) q) (bt p) (bt q) (nI k) v8' v9 v10 h
      rw [h9, if_neg (by rw [nI_leN (by omega) (by omega)]; omega)] at s0
      rcases own_1 hV hp (show k < 8 by omega) mp1 mp2 with ⟨a1, a2⟩ | ⟨a1, a2⟩
      · rw [if_pos a1] at s0
        rcases own_1 hV hq (show k < 8 by omega) mq1 mq2 with ⟨c1, c2⟩ | ⟨c1, c2⟩
        · rw [if_pos c1] at s0
          exact ⟨0, 0, by rw [a2, c2], s0⟩
        · rw [if_neg (fun z => z c1)] at s0
          refine ⟨mq, 0, by rw [a2, c2], s0.trans ?_⟩
          rw [mq1]
      · rw [if_neg (fun z => z a1)] at s0
        rcases own_1 hV hq (show k < 8 by omega) mq1 mq2 with ⟨c1, c2⟩ | ⟨c1, c2⟩
        · rw [if_pos c1] at s0
          refine ⟨0, mp, by rw [a2, c2], s0.trans ?_⟩
          rw [mp1]
        · rw [if_neg (fun z => z c1)] at s0
          refine ⟨mq, mp, by rw [a2, c2], s0.trans ?_⟩
          rw [mp1, mq1]
    obtain ⟨xs0, xs1, ow, s1⟩ := own
    have s2 := e68_69 L d (cB p) (cM (A 8) p) (cB q) (cM (A 8) q) (bt p) (bt q) (nI k) v8' v9 v10 (nI xs0) (nI xs1) h
    rw [hR0] at s2
    simp (disch := omega) only [nI_plus, inB_nI, ix_nI, asr_d, okA_of k31.1, okW_of k31.1, asr_true, lenA_of, k31.2] at s2
    rw [nI_or, ow] at s2
    generalize hO : xOw A p k ||| xOw A q k = O at s2
    have e4 : hI (wI h (97 + r) (4 + k) (hI h (97 + r) (4 + k) ||| nI O)) (97 + r) (12 + k) = hI h (97 + r) (12 + k) := by rw [hI_wI, if_neg (by omega)]
    rw [e4] at s2
    generalize hH : wI (wI h (97 + r) (4 + k) (hI h (97 + r) (4 + k) ||| nI O)) (97 + r) (12 + k) (hI h (97 + r) (12 + k) &&& nI O) = H at s2
    have H161 : hI H 161 k = nI w := by rw [← hH, wI_ne (by omega), wI_ne (by omega)]; exact w2
    rw [H161] at s2
    have one : ∃ a, a = xNm A p k ∧ a < 2 ^ A 8 ∧ runL (g2 L) d 5 false none kc_68 31 [.ref 95, .int (cB p), .int (cM (A 8) p), .int (cB q), .int (cM (A 8) q), .int (bt p), .int (bt q), .int (nI k), v8', v9, v10] [] h = runL (g2 L) d 5 false none kc_68 119 [.ref 95, .int (cB p), .int (cM (A 8) p), .int (cB q), .int (cM (A 8) q), .int (bt p), .int (bt q), .int (nI k), .int (nI O), v9, v10] [.int (nI a)] H := by
      rcases by_1 hV hp mp1 mp2 w1 w3 with ⟨a1, a2⟩ | ⟨a1, a2⟩
      · rw [if_pos a1] at s2
        exact ⟨0, a2.symm, Nat.pow_pos (by decide), s1.trans s2⟩
      · rw [if_neg a1] at s2
        refine ⟨mp, a2.symm, mp2, (s1.trans s2).trans ?_⟩
        rw [mp1]
    obtain ⟨a, a1, a2, s3⟩ := one
    have s4 := e68_119 L d (cB p) (cM (A 8) p) (cB q) (cM (A 8) q) (bt p) (bt q) (nI k) (nI O) v9 v10 (nI a) H
    rw [inB_nI (by omega), asr_d (by omega), ix_nI (by omega), H161, okW_no (k' := 2) k8.2.2.1 (by omega)] at s4
    have two : ∃ c w9 w10, c = xNm A q k ∧ c < 2 ^ A 8 ∧ runL (g2 L) d 5 false none kc_68 31 [.ref 95, .int (cB p), .int (cM (A 8) p), .int (cB q), .int (cM (A 8) q), .int (bt p), .int (bt q), .int (nI k), v8', v9, v10] [] h = runL (g2 L) d 5 false none kc_68 31 [.ref 95, .int (cB p), .int (cM (A 8) p), .int (cB q), .int (cM (A 8) q), .int (bt p), .int (bt q), .int (nI (k + 1)), .int (nI O), w9, w10] [] (wI H (138 + k) (a ||| c) (nI 1)) := by
      have nb1 : nrB (nI 1) = nI 1 := by decide
      rcases by_1 hV hq mq1 mq2 w1 w3 with ⟨c1, c2⟩ | ⟨c1, c2⟩
      · rw [if_pos c1, asr_d (by omega), nI_or] at s4
        have : a ||| 0 < 2 ^ A 8 := or_lt2 a2 (Nat.pow_pos (by decide))
        refine ⟨0, .int (nI a), .int (nI 0), c2.symm, Nat.pow_pos (by decide), s3.trans (s4.trans ?_)⟩
        rw [okW_of k8.2.2.1 (by omega) (by omega), lenA_of (by omega), k8.2.2.2, inB_nI (by omega), ix_nI (by omega), nb1, nI_plus]
        exact asr_d (P := a ||| 0 < 1024) (by omega) _
      · rw [if_neg c1, asr_d (by omega), mq1, nI_or] at s4
        have : a ||| mq < 2 ^ A 8 := or_lt2 a2 mq2
        refine ⟨mq, .int (nI a), .int (nI mq), c2.symm, mq2, s3.trans ?_⟩
        rw [mq1]
        refine s4.trans ?_
        rw [okW_of k8.2.2.1 (by omega) (by omega), lenA_of (by omega), k8.2.2.2, inB_nI (by omega), ix_nI (by omega), nb1, nI_plus]
        exact asr_d (P := a ||| mq < 1024) (by omega) _
    obtain ⟨c, w9, w10, c1, c2, s5⟩ := two
    have HR : hR H = hR h := by rw [← hH]; rfl
    have Hne : ∀ x, x ≠ 97 + r → hI H x = hI h x := fun x hx => by rw [← hH, wI_ne hx, wI_ne hx]
    obtain ⟨h', e1, e2, e3, e4', e5⟩ := ih (k + 1) (wI H (138 + k) (a ||| c) (nI 1)) (.int (nI O)) w9 w10 (by omega) (by rw [wI_ne (by omega), Hne _ (by omega)]; exact h9) (fun b hb => by rw [wI_ne (by omega), Hne _ (by omega)]; exact hP b hb) (by rw [hR_wI, HR]; exact hR0)
    have Ha : ∀ j, hI (wI H (138 + k) (a ||| c) (nI 1)) (97 + r) j = if j = 12 + k then hI h (97 + r) (12 + k) &&& nI O else if j = 4 + k then hI h (97 + r) (4 + k) ||| nI O else hI h (97 + r) j := by
      intro j
      rw [wI_ne (by omega), ← hH, hI_wI, hI_wI]
      by_cases y : j = 12 + k
      · rw [if_pos ⟨rfl, y⟩, if_pos y]
      · rw [if_neg (fun z => y z.2), if_neg y]
        by_cases y2 : j = 4 + k
        · rw [if_pos ⟨rfl, y2⟩, if_pos y2]
        · rw [if_neg (fun z => y2 z.2), if_neg y2]
    refine ⟨h', s5.trans e1, fun b hb => ?_, fun j hj => ?_, fun x x1 x2 => ?_, e5.trans HR⟩
    · obtain ⟨g1, g2', g3⟩ := e2 b hb
      rw [Ha, if_neg (c := 4 + b = 12 + k) (by omega)] at g1
      rw [Ha, if_neg (c := 12 + b = 4 + k) (by omega)] at g2'
      by_cases y : b = k
      · subst y
        rw [if_neg (c := b + 1 ≤ b) (by omega), if_pos rfl] at g1
        rw [if_neg (c := b + 1 ≤ b) (by omega), if_pos rfl] at g2'
        refine ⟨by rw [g1, if_pos (Nat.le_refl _), ← hO], by rw [g2', if_pos (Nat.le_refl _), ← hO], fun M => ?_⟩
        rw [g3 M, if_neg (by omega), hI_wI, a1, c1, Hne _ (by omega)]
        by_cases z : M = xNm A p b ||| xNm A q b
        · rw [if_pos ⟨rfl, z⟩, if_pos ⟨Nat.le_refl _, z⟩]
        · rw [if_neg (fun w => z w.2), if_neg (fun w => z w.2)]
      · rw [if_neg (show ¬ 4 + b = 4 + k by omega)] at g1
        rw [if_neg (show ¬ 12 + b = 12 + k by omega)] at g2'
        refine ⟨?_, ?_, fun M => ?_⟩
        · rw [g1]
          by_cases z : k ≤ b
          · rw [if_pos z, if_pos (by omega)]
          · rw [if_neg z, if_neg (by omega)]
        · rw [g2']
          by_cases z : k ≤ b
          · rw [if_pos z, if_pos (by omega)]
          · rw [if_neg z, if_neg (by omega)]
        · rw [g3 M, wI_ne (by omega), Hne _ (by omega)]
          by_cases z : k ≤ b ∧ M = xNm A p b ||| xNm A q b
          · rw [if_pos z, if_pos ⟨by omega, z.2⟩]
          · rw [if_neg z, if_neg (fun w => z ⟨by omega, w.2⟩)]
    · rw [e3 j hj, Ha, if_neg (by omega), if_neg (by omega)]
    · rw [e4' x x1 x2, wI_ne (by omega), Hne x x1]
theorem m68 (d : Nat) {r p q : Nat} {h : PH} (hV : XV A) (hr : r ≤ 30) (hp : xval A p) (hq : xval A q) (h9 : hI h 9 0 = nI (A 11)) (hP : xPt h A (A 11)) (hR0 : hR h 95 15 = 97 + r) : ∃ h', exec (g2 L) (d + 1) 68 [.ref 95, .int (cB p), .int (cM (A 8) p), .int (cB q), .int (cM (A 8) q)] h = some (none, h') ∧ (∀ b, b < A 11 → hI h' (97 + r) (4 + b) = hI h (97 + r) (4 + b) ||| nI (xOw A p b ||| xOw A q b) ∧ hI h' (97 + r) (12 + b) = hI h (97 + r) (12 + b) &&& nI (xOw A p b ||| xOw A q b) ∧ ∀ M, hI h' (138 + b) M = if M = xNm A p b ||| xNm A q b then nI 1 else hI h (138 + b) M) ∧ (∀ j, j < 4 → hI h' (97 + r) j = hI h (97 + r) j) ∧ (∀ x, x ≠ 97 + r → ¬ (138 ≤ x ∧ x < 146) → hI h' x = hI h x) ∧ hR h' = hR h := by
  have v11 := hV.2.2.2.2.1
  obtain ⟨h', e1, e2, e3, e4, e5⟩ := m68_31 (L := L) (d := d) hV hr hp hq (A 11) 0 h dm dm dm (by omega) h9 hP hR0
  have sB : ∀ p, xval A p → (p = 0 ∧ cB p = m1 ∧ bt p = nI 0) ∨ (cB p ≠ m1 ∧ nI 1 <<< (cB p &&& nI 31) = bt p) := by
    intro p hp
    unfold cB bt
    by_cases z : p = 0
    · left
      rw [if_pos z, if_pos z]
      exact ⟨z, rfl, rfl⟩
    · right
      have hv := hp.resolve_left z
      rw [if_neg z, if_neg z, nI_shl 1 (by omega), Nat.one_shiftLeft]
      exact ⟨fun y => (nI_ne_m1 (by omega)).mp y, rfl⟩
  refine ⟨h', ?_, fun b hb => ?_, e3, e4, e5⟩
  · refine (x68 L d (cB p) (cM (A 8) p) (cB q) (cM (A 8) q) h).trans ?_
    have go : runL (g2 L) d 5 false none kc_68 12 [.ref 95, .int (cB p), .int (cM (A 8) p), .int (cB q), .int (cM (A 8) q), dm, dm, dm, dm, dm, dm] [.int (bt p)] h = some (none, h') := by
      rw [e68_12]
      rcases sB q hq with ⟨z1, z2, z3⟩ | ⟨z1, z2⟩
      · rw [if_neg (fun y => y z2)]
        rw [z3] at e1
        exact e1
      · rw [if_pos z1, z2]
        exact e1
    rcases sB p hp with ⟨z1, z2, z3⟩ | ⟨z1, z2⟩
    · rw [if_neg (fun y => y z2)]
      rw [z3] at go
      exact go
    · rw [if_pos z1, z2]
      exact go
  · obtain ⟨g1, g2', g3⟩ := e2 b hb
    rw [if_pos (Nat.zero_le _)] at g1 g2'
    refine ⟨g1, g2', fun M => ?_⟩
    rw [g3 M]
    by_cases z : M = xNm A p b ||| xNm A q b
    · rw [if_pos z, if_pos ⟨Nat.zero_le _, z⟩]
    · rw [if_neg z, if_neg (fun w => z w.2)]
end Xj
