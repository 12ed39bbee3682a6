-- PART: strips, the reference's machine: waits, comparisons, rows.
/-- a wait that is still to be worked off -/
def PD (h : PH) (nf nw nw' : Nat) (cd c : List (Nat × Nat)) (r : Nat) : Prop := (nw' = nw ∧ cd = c) ∨ (nw' = nw + 1 ∧ ∃ q, rk q = r ∧ q < 500 ∧ hI h 281 nw = nI q ∧ hI h 282 nw = nI nf ∧ cd ++ [(q, 0)] = c)
/-- below them nothing is worked off -/
def BZ (h : PH) (nf nw r : Nat) : Prop := nw = 0 ∨ ∃ g q, hI h 282 (nw - 1) = nI g ∧ g < 100 ∧ hI h 281 (nw - 1) = nI q ∧ q < 500 ∧ (g ≠ nf ∨ rk q < r)
def FL (L : Nat) (h h1 : PH) (r : Nat) : Prop := ∀ d, exec (g2 L) (d + 2) 231 [.ref 253, .int (nI r)] h = some (none, h1)
theorem PD.cg {h h' : PH} {nf nw nw' : Nat} {cd c : List (Nat × Nat)} {r m : Nat} (hp : PD h nf nw nw' cd c r) (hm : nw' ≤ m) (e : ∀ k, k < m → hI h' 281 k = hI h 281 k ∧ hI h' 282 k = hI h 282 k) : PD h' nf nw nw' cd c r := by
  rcases hp with hp | ⟨p1, q, p2, p3, p4, p5, p6⟩
  · exact Or.inl hp
  · exact Or.inr ⟨p1, q, p2, p3, by rw [(e nw (by omega)).1]; exact p4, by rw [(e nw (by omega)).2]; exact p5, p6⟩
theorem BZ.cg {h h' : PH} {nf nw r m : Nat} (hp : BZ h nf nw r) (hm : nw ≤ m) (e : ∀ k, k < m → hI h' 281 k = hI h 281 k ∧ hI h' 282 k = hI h 282 k) : BZ h' nf nw r := by
  by_cases z : nw = 0
  · exact Or.inl z
  · rcases hp with hp | ⟨g, q, p1, p2, p3, p4, p5⟩
    · exact absurd hp z
    · exact Or.inr ⟨g, q, by rw [(e (nw - 1) (by omega)).2]; exact p1, p2, by rw [(e (nw - 1) (by omega)).1]; exact p3, p4, p5⟩
theorem BZ.mono {h : PH} {nf nw r r' : Nat} (hp : BZ h nf nw r) (hr : r ≤ r') : BZ h nf nw r' := by
  rcases hp with hp | ⟨g, q, p1, p2, p3, p4, p5⟩
  · exact Or.inl hp
  · exact Or.inr ⟨g, q, p1, p2, p3, p4, by omega⟩
section Sstep2
variable {L : Nat} {T : Nat → Nat} {t : Nat} {j o nf nw : Nat} {cd : List (Nat × Nat)} {h : PH}
theorem fl0 {r st : Nat} (hQ : QS h T t j o nf nw st cd) (hn : nw < 80) (hf : nf < 100) (hr : r < 10) (hb : BZ h nf nw r) : FL L h h r := fun d => by
  have := q231_0 (L := L) (d := d) hQ hn hf hr hb
  exact ((x231 L (d + 1) (nI r) h).trans (e231_0 L (d + 1) (nI r) h).symm).trans this
/-- one level -/
theorem fl1 {r r0 st nw' : Nat} {c : List (Nat × Nat)} (hQ : QS h T t j o nf nw' st cd) (hp : PD h nf nw nw' cd c r0) (hr : r ≤ r0) (hb : BZ h nf nw r) (hn : nw < 79) (hf : nf < 100) (hc : c.length ≤ 400) (hr10 : r < 10) : ∃ h1, FL L h h1 r ∧ QS h1 T t j o nf nw st c ∧ QF nf nw h h1 ∧ hI h1 279 = hI h 279 := by
  rcases hp with ⟨p1, p2⟩ | ⟨p1, q, p2, p3, p4, p5, p6⟩
  · subst p1 p2
    exact ⟨h, fl0 hQ (by omega) hf hr10 hb, hQ, QF.rf, rfl⟩
  · subst p1
    have lc : cd.length < 400 := by
      rw [← p6, List.length_append, List.length_singleton] at hc
      omega
    obtain ⟨h1, a1, a2, a3, a4⟩ := q231_1 (L := L) (r := r) hQ (by omega) hf (by omega) p3 lc p4 p5
    rw [p6] at a2
    have fl := fl0 (L := L) a2 (by omega) hf hr10 (hb.cg (Nat.le_refl _) a3.2.2.1)
    refine ⟨h1, fun d => ?_, a2, a3, a4⟩
    have x1 := (x231 L (d + 1) (nI r) h).trans (e231_0 L (d + 1) (nI r) h).symm
    have x2 := (x231 L (d + 1) (nI r) h1).trans (e231_0 L (d + 1) (nI r) h1).symm
    rw [x1, a1 d, ← x2]
    exact fl d
/-- two levels -/
theorem fl2 {r r0 r1 st nw1 nw' : Nat} {c1 c : List (Nat × Nat)} (hQ : QS h T t j o nf nw' st cd) (hp : PD h nf nw1 nw' cd c1 r1) (hp0 : PD h nf nw nw1 c1 c r0) (hr1 : r ≤ r1) (hr : r ≤ r0) (hb : BZ h nf nw r) (hn : nw < 78) (hf : nf < 100) (hc : c.length ≤ 400) (hr10 : r < 10) : ∃ h1, FL L h h1 r ∧ QS h1 T t j o nf nw st c ∧ QF nf nw h h1 ∧ hI h1 279 = hI h 279 := by
  have l1 : c1.length ≤ 400 ∧ nw ≤ nw1 ∧ nw1 ≤ nw + 1 := by
    rcases hp0 with ⟨p1, p2⟩ | ⟨p1, q, _, _, _, _, p2⟩
    · rw [p2]
      exact ⟨hc, by omega, by omega⟩
    · rw [← p2, List.length_append] at hc
      exact ⟨by omega, by omega, by omega⟩
  rcases hp with ⟨p1, p2⟩ | ⟨p1, q, p2, p3, p4, p5, p6⟩
  · subst p1 p2
    exact fl1 hQ hp0 hr hb (by omega) hf hc hr10
  · subst p1
    have lc : cd.length < 400 := by
      have l2 := l1.1
      rw [← p6, List.length_append, List.length_singleton] at l2
      omega
    obtain ⟨h1, a1, a2, a3, a4⟩ := q231_1 (L := L) (r := r) hQ (by omega) hf (by omega) p3 lc p4 p5
    rw [p6] at a2
    obtain ⟨h2, b1', b2', b3', b4'⟩ := fl1 (L := L) a2 (hp0.cg (Nat.le_refl _) a3.2.2.1) hr (hb.cg l1.2.1 a3.2.2.1) (by omega) hf hc hr10
    refine ⟨h2, fun d => ?_, b2', (a3.le (Nat.le_refl _) l1.2.1).tr b3', b4'.trans a4⟩
    have x1 := (x231 L (d + 1) (nI r) h).trans (e231_0 L (d + 1) (nI r) h).symm
    have x2 := (x231 L (d + 1) (nI r) h1).trans (e231_0 L (d + 1) (nI r) h1).symm
    rw [x1, a1 d, ← x2]
    exact b1' d
/-- waitsFor -/
theorem q229 (d : Nat) {h1 : PH} {st q nw1 : Nat} {cd1 : List (Nat × Nat)} (ht : t ≤ 300) (hT : ∀ k, T k < 256) (hq : q < 500) (hw : FL L h h1 (rk q)) (hQ1 : QS h1 T t j o nf nw1 st cd1) (hn : nw1 < 80) (hk : kd T t j ≠ 0) : ∃ h', exec (g2 L) (d + 4) 229 [.ref 253, .int (nI q)] h = some (none, h') ∧ QS h' T t (j + 1) o nf (nw1 + 1) st cd1 ∧ hI h' 281 nw1 = nI q ∧ hI h' 282 nw1 = nI nf ∧ QF nf nw1 h1 h' ∧ hI h' 279 = hI h1 279 := by
  have q1 : QS (wI (wI (wI h1 281 nw1 (nI q)) 282 nw1 (nI nf)) 253 49 (nI (nw1 + 1))) T t j o nf (nw1 + 1) st cd1 := ((hQ1.w (by omega)).w (by omega)).nw
  obtain ⟨h', a1, a2, a3⟩ := q215 (L := L) d ht hT (kd_lt hk) q1
  refine ⟨h', ?_, a2, ?_, ?_, ?_, ?_⟩
  · rw [x229, m230 (d + 2) hq, cI_s, hw (d + 1), cV_s, hQ1.2.2.2.2.2.2.1, inB_nI (by omega), asr_d (by omega), asr_d (by omega), ix_nI (by omega), hQ1.2.2.2.2.2.1, nI_plus, a1, cV_s]
  · rw [a3.1 281 (by omega), wI_ne (by omega), wI_ne (by omega), hI_wI, if_pos ⟨rfl, rfl⟩]
  · rw [a3.1 282 (by omega), wI_ne (by omega), hI_wI, if_pos ⟨rfl, rfl⟩]
  · refine QF.tr (b := wI (wI (wI h1 281 nw1 (nI q)) 282 nw1 (nI nf)) 253 49 (nI (nw1 + 1))) ⟨fun a p1 p2 p3 p4 _ _ => by rw [wI_ne p1, wI_ne p4, wI_ne p3], fun k _ => by rw [wI_ne (by omega), wI_ne (by omega), wI_ne (by omega)], fun k hk => ?_, fun k hk => by rw [hI_wI, if_neg (by omega), wI_ne (by omega), wI_ne (by omega)], rfl⟩ (QF.fx a3)
    constructor
    · rw [wI_ne (by omega), wI_ne (by omega), hI_wI, if_neg (by omega)]
    · rw [wI_ne (by omega), hI_wI, if_neg (by omega), wI_ne (by omega)]
  · rw [a3.1 279 (by omega), wI_ne (by omega), wI_ne (by omega), wI_ne (by omega)]
theorem sc_oc {k : Nat} (hk : 17 ≤ k) : sc k = oc k := by
  unfold sc
  rw [if_neg (by omega), if_neg (by omega), if_neg (by omega)]
theorem oc_lt (k : Nat) : oc k < 500 := by
  have := oc_ne k
  omega
variable {m : Nat}
/-- what goesOn looks at first -/
theorem g_228 (hQ : QS h T t j o (m + 1) nw 2 cd) (hm : m < 40) : (23 ≤ kd T t j ∧ kd T t j ≤ 27 → exec (g2 L) 99 228 [.ref 253] h = cV (exec (g2 L) 98 229 [.ref 253, .int (nI (oc (kd T t j)))] h) (fun h3 => some (none, wI h3 253 52 (nI 1)))) ∧ (¬ (23 ≤ kd T t j ∧ kd T t j ≤ 27) → exec (g2 L) 99 228 [.ref 253] h = runL (g2 L) 98 11 false none kc_228 74 [.ref 253, .int (hI h 279 m), dm] [] h) := by
  have s0 := x228 L 98 h
  rw [q226 97 (by omega) hQ, cI_s] at s0
  constructor
  · intro hk
    obtain ⟨b1', b2'⟩ := (hQ.1.mt.sign (i := kd T t j) (by omega)).mpr rfl
    rw [sc_oc (by omega)] at b2'
    have hk' : kd T t j = 23 ∨ kd T t j = 24 ∨ kd T t j = 25 ∨ kd T t j = 26 ∨ kd T t j = 27 := by omega
    rw [s0, b1', if_neg (fun q => q rfl), b2']
    rcases hk' with e | e | e | e | e <;> rw [e]
    · rw [if_pos (by decide)]
    · rw [if_neg (by decide), if_pos (by decide)]
    · rw [if_neg (by decide), if_neg (by decide), if_pos (by decide)]
    · rw [if_neg (by decide), if_neg (by decide), if_neg (by decide), if_pos (by decide)]
    · rw [if_neg (by decide), if_neg (by decide), if_neg (by decide), if_neg (by decide), if_neg (by decide)]
  · intro hk
    rw [s0]
    by_cases z : hI h 253 41 = nI 3
    · have no : ∀ i, 23 ≤ i → i ≤ 27 → hI h 253 42 ≠ nI (oc i) := by
        intro i i1 i2 q
        have := (hQ.1.mt.sign (i := i) (by omega)).mp ⟨z, by rw [sc_oc (by omega)]; exact q⟩
        omega
      rw [if_neg (not_not_intro z), if_neg (show ¬ hI h 253 42 = nI 43 from no 23 (by omega) (by omega)), if_neg (show ¬ hI h 253 42 = nI 45 from no 24 (by omega) (by omega)), if_neg (show ¬ hI h 253 42 = nI 42 from no 25 (by omega) (by omega)), if_neg (show ¬ hI h 253 42 = nI 47 from no 26 (by omega) (by omega)), if_pos (show hI h 253 42 ≠ nI 37 from no 27 (by omega) (by omega))]
    · rw [if_pos z]
/-- an operator -/
theorem g_op {h1 : PH} {nw1 : Nat} {cd1 : List (Nat × Nat)} (ht : t ≤ 300) (hT : ∀ k, T k < 256) (hQ : QS h T t j o (m + 1) nw 2 cd) (hm : m < 40) (hk : 23 ≤ kd T t j ∧ kd T t j ≤ 27) (hw : FL L h h1 (rk (oc (kd T t j)))) (hQ1 : QS h1 T t j o (m + 1) nw1 2 cd1) (hn : nw1 < 80) : ∃ h', ML L h = ML L h' ∧ QS h' T t (j + 1) o (m + 1) (nw1 + 1) 1 cd1 ∧ hI h' 281 nw1 = nI (oc (kd T t j)) ∧ hI h' 282 nw1 = nI (m + 1) ∧ QF (m + 1) nw1 h1 h' ∧ hI h' 279 = hI h1 279 := by
  obtain ⟨g, a1, a2, a3, a4, a5, a6⟩ := q229 (L := L) 94 ht hT (oc_lt _) hw hQ1 hn (by omega)
  refine ⟨wI g 253 52 (nI 1), ?_, a2.st, by rw [wI_ne (by omega)]; exact a3, by rw [wI_ne (by omega)]; exact a4, a5.tr (QF.w (by omega)), by rw [wI_ne (by omega)]; exact a6⟩
  rw [ml_2 hQ, (g_228 hQ hm).1 hk, a1, cV_s, cV_s]
/-- a parenthesis closes -/
theorem g_close {h1 : PH} {nw1 : Nat} {cd1 : List (Nat × Nat)} (ht : t ≤ 300) (hT : ∀ k, T k < 256) (hQ : QS h T t j (o + 1) (m + 1) nw 2 cd) (hm : m < 40) (hf : hI h 279 m = nI 6) (hk : kd T t j = 7) (hw : FL L h h1 3) (hQ1 : QS h1 T t j (o + 1) (m + 1) nw1 2 cd1) : ∃ h', ML L h = cV (exec (g2 L) 98 225 [.ref 253] h') (ML L) ∧ QS h' T t (j + 1) o m nw1 2 cd1 ∧ QF m nw1 h1 h' ∧ hI h' 279 = hI h1 279 := by
  have q1 : QS (wI (wI h1 253 46 (nI m)) 253 45 (nI o)) T t j o m nw1 2 cd1 := (hQ1.nf (nf' := m)).op
  obtain ⟨h', a1, a2, a3⟩ := q215 (L := L) 95 ht hT (kd_lt (by omega)) q1
  refine ⟨h', ?_, a2, ((QF.w (by omega)).tr (QF.w (by omega))).tr (QF.fx a3), by rw [a3.1 279 (by omega), wI_ne (by omega), wI_ne (by omega)]⟩
  rw [ml_2 hQ, (g_228 hQ hm).2 (by omega), hf, e228_74, if_neg (fun q => q rfl), show nI 41 = nI (sc 7) from rfl, q227 97 hQ (by omega), cI_s, if_pos hk, if_neg (by decide), hw 96, cV_s, hQ1.2.2.2.2.2.1, hQ1.2.2.2.2.1, nI_m1_plus, nI_m1_plus, a1, cV_s, cVV]
theorem q232 (d : Nat) (hQ : QS h T t j o nf nw 2 cd) (h3 : hI h 253 41 = nI 3) : exec (g2 L) (d + 1) 232 [.int (hI h 253 42)] h = some (some (.int (if 17 ≤ kd T t j ∧ kd T t j ≤ 22 then nI 1 else nI 0)), h) := by
  have yes : ∀ i, 17 ≤ i → i ≤ 22 → hI h 253 42 = nI (oc i) → kd T t j = i := fun i i1 i2 q => (hQ.1.mt.sign (i := i) (by omega)).mp ⟨h3, by rw [sc_oc (by omega)]; exact q⟩
  rw [x232]
  by_cases a : hI h 253 42 = nI 60
  · rw [if_pos a, if_pos (by have := yes 17 (by omega) (by omega) a; omega)]
  rw [if_neg a]
  by_cases b : hI h 253 42 = nI 62
  · rw [if_pos b, if_pos (by have := yes 19 (by omega) (by omega) b; omega)]
  rw [if_neg b]
  by_cases c : hI h 253 42 = nI 61
  · rw [if_pos c, if_pos (by have := yes 21 (by omega) (by omega) c; omega)]
  rw [if_neg c]
  by_cases e : hI h 253 42 = nI 35
  · rw [if_pos e, if_pos (by have := yes 22 (by omega) (by omega) e; omega)]
  rw [if_neg e]
  by_cases f : hI h 253 42 = nI 300
  · rw [if_pos f, if_pos (by have := yes 18 (by omega) (by omega) f; omega)]
  rw [if_neg f]
  by_cases g : hI h 253 42 = nI 301
  · rw [if_neg (not_not_intro g), if_pos (by have := yes 20 (by omega) (by omega) g; omega)]
  rw [if_pos g, if_neg]
  intro z
  have := ((hQ.1.mt.sign (i := kd T t j) (by omega)).mpr rfl).2
  rw [sc_oc (by omega)] at this
  have z' : kd T t j = 17 ∨ kd T t j = 18 ∨ kd T t j = 19 ∨ kd T t j = 20 ∨ kd T t j = 21 ∨ kd T t j = 22 := by omega
  rcases z' with q | q | q | q | q | q <;> rw [q] at this
  · exact a this
  · exact f this
  · exact b this
  · exact g this
  · exact c this
  · exact e this
/-- a comparison -/
theorem g_ask {h1 : PH} {nw1 : Nat} {cd1 : List (Nat × Nat)} (ht : t ≤ 300) (hT : ∀ k, T k < 256) (hQ : QS h T t j o (m + 1) nw 2 cd) (hm : m < 40) (hf : hI h 279 m = nI 4) (hk : 17 ≤ kd T t j ∧ kd T t j ≤ 22) (hw : FL L h h1 3) (hQ1 : QS h1 T t j o (m + 1) nw1 2 cd1) : ∃ h', ML L h = ML L h' ∧ QS h' T t (j + 1) o (m + 1) nw1 1 cd1 ∧ QF m nw1 h1 (wI h' 280 (m + 1) (hI h1 280 (m + 1))) ∧ hI h' 279 m = nI 5 ∧ hI h' 280 (m + 1) = nI (oc (kd T t j)) ∧ (∀ k, k < nw1 → hI h' 281 k = hI h1 281 k ∧ hI h' 282 k = hI h1 282 k) := by
  have s3 := (hQ.1.mt.sign (i := kd T t j) (by omega)).mpr rfl
  have s4 := (hQ1.1.mt.sign (i := kd T t j) (by omega)).mpr rfl
  have q1 : QS (wI (wI h1 280 (m + 1) (nI (oc (kd T t j)))) 279 m (nI 5)) T t j o (m + 1) nw1 2 cd1 := (hQ1.w (by omega)).w (by omega)
  obtain ⟨g, a1, a2, a3⟩ := q215 (L := L) 95 ht hT (kd_lt (by omega)) q1
  have e9 : hI g 279 = hI (wI (wI h1 280 (m + 1) (nI (oc (kd T t j)))) 279 m (nI 5)) 279 := a3.1 279 (by omega)
  have e0 : hI g 280 = hI (wI (wI h1 280 (m + 1) (nI (oc (kd T t j)))) 279 m (nI 5)) 280 := a3.1 280 (by omega)
  refine ⟨wI g 253 52 (nI 1), ?_, a2.st, ⟨fun a p1 p2 p3 p4 p5 p6 => ?_, fun k hk => ?_, fun k hk => ?_, fun k hk => ?_, a3.2.2⟩, ?_, ?_, fun k hk => ?_⟩
  · rw [ml_2 hQ, (g_228 hQ hm).2 (by omega), hf, e228_74, if_pos (by decide), e228_125, if_neg (fun q => q rfl), s3.1, if_neg (fun q => q rfl), q232 97 hQ s3.1, cI_s, if_pos hk, if_neg (by decide), hw 96, cV_s, hQ1.2.2.2.2.2.1, nI_m1_plus, inB_nI (by omega), asr_d (by omega), inB_nI (by omega), asr_d (by omega), ix_nI (by omega), ix_nI (by omega), s4.2, sc_oc (by omega), a1, cV_s, cV_s]
  · by_cases z : a = 280
    · subst z
      funext k
      rw [hI_wI]
      by_cases y : k = m + 1
      · rw [if_pos ⟨rfl, y⟩, y]
      · rw [if_neg (fun q => y q.2), wI_ne (by omega), e0, wI_ne (by omega), hI_wI, if_neg (fun q => y q.2)]
    · rw [wI_ne z, wI_ne p1, a3.1 a p1, wI_ne p2, wI_ne z]
  · rw [wI_ne (by omega), wI_ne (by omega), e9, hI_wI, if_neg (by omega), wI_ne (by omega)]
  · rw [wI_ne (by omega), wI_ne (by omega), wI_ne (by omega), wI_ne (by omega), a3.1 281 (by omega), a3.1 282 (by omega), wI_ne (by omega), wI_ne (by omega), wI_ne (by omega), wI_ne (by omega)]
    exact ⟨rfl, rfl⟩
  · rw [wI_ne (by omega), hI_wI, if_neg (by omega), a3.2.1 k (by omega), wI_ne (by omega), wI_ne (by omega)]
  · rw [wI_ne (by omega), e9, hI_wI, if_pos ⟨rfl, rfl⟩]
  · rw [wI_ne (by omega), e0, wI_ne (by omega), hI_wI, if_pos ⟨rfl, rfl⟩]
  · rw [wI_ne (by omega), wI_ne (by omega), a3.1 281 (by omega), a3.1 282 (by omega), wI_ne (by omega), wI_ne (by omega), wI_ne (by omega), wI_ne (by omega)]
    exact ⟨rfl, rfl⟩
/-- the right side is over -/
theorem g_end {h1 : PH} {nw1 c : Nat} {cd1 : List (Nat × Nat)} (hQ : QS h T t j o (m + 1) nw 2 cd) (hm : m < 40) (hf : hI h 279 m = nI 5) (hk : ¬ (23 ≤ kd T t j ∧ kd T t j ≤ 27)) (hw : FL L h h1 3) (hQ1 : QS h1 T t j o (m + 1) nw1 2 cd1) (h8 : hI h1 280 (m + 1) = nI c) (hc : cd1.length < 400) : ∃ h', ML L h = cV (exec (g2 L) 98 233 [.ref 253] h') (ML L) ∧ QS h' T t j o m nw1 2 (cd1 ++ [(c, 0)]) ∧ QF m nw1 h1 h' ∧ hI h' 279 = hI h1 279 := by
  obtain ⟨h', a1, a2, a3, a4, a5⟩ := q224 (L := L) 97 c 0 hc (hQ1.nf (nf' := m))
  refine ⟨h', ?_, a2, (QF.w (by omega)).tr (QF.em a3 a4 a5), by rw [a3 279 (by omega) (by omega) (by omega), wI_ne (by omega)]⟩
  rw [ml_2 hQ, (g_228 hQ hm).2 hk, hf, e228_74, if_pos (by decide), e228_125, if_pos (by decide), e228_190, if_neg (fun q => q rfl), hw 96, cV_s, hQ1.2.2.2.2.2.1, inB_nI (by omega), asr_d (by omega), ix_nI (by omega), h8, nI_m1_plus, a1, cV_s, cVV]
/-- out of place behind a number -/
theorem g_bad {f : Nat} (hQ : QS h T t j o (m + 1) nw 2 cd) (hm : m < 40) (hf : hI h 279 m = nI f) (hf5 : (f = 6 ∧ kd T t j ≠ 7) ∨ (f = 4 ∧ ¬ (17 ≤ kd T t j ∧ kd T t j ≤ 22))) (hk : ¬ (23 ≤ kd T t j ∧ kd T t j ≤ 27)) : ∃ h', ML L h = ML L h' ∧ FM h' 1 (ps T t j) ∧ QF (m + 1) nw h h' := by
  obtain ⟨h', a1, a2, a3⟩ := q221 (L := L) 97 1 hQ
  refine ⟨h', ?_, a2, a3⟩
  rw [ml_2 hQ, (g_228 hQ hm).2 hk, hf, e228_74]
  rcases hf5 with ⟨rfl, q⟩ | ⟨rfl, q⟩
  · rw [if_neg (fun q => q rfl), show nI 41 = nI (sc 7) from rfl, q227 97 hQ (by omega), cI_s, if_neg q, if_pos rfl, e228_125, if_pos (by decide), e228_190, if_pos (by decide), a1, cV_s, cV_s]
  · rw [if_pos (by decide), e228_125, if_neg (fun q => q rfl)]
    by_cases z : hI h 253 41 = nI 3
    · rw [if_neg (not_not_intro z), q232 97 hQ z, cI_s, if_neg q, if_pos rfl, e228_190, if_pos (by decide), a1, cV_s, cV_s]
    · rw [if_pos z, e228_190, if_pos (by decide), a1, cV_s, cV_s]
/-- not -/
theorem a_not (ht : t ≤ 300) (hT : ∀ k, T k < 256) (hQ : QS h T t j o nf nw 0 cd) (hk : kd T t j = 11) (hf : nf < 40) (ho : o ≤ 8) : (o < 8 ∧ ∃ h', ML L h = ML L h' ∧ QS h' T t (j + 1) (o + 1) (nf + 1) nw 0 cd ∧ hI h' 279 nf = nI 3 ∧ QF nf nw h h') ∨ (o = 8 ∧ ∃ h', ML L h = ML L h' ∧ FM h' 3 (ps T t j) ∧ QF nf nw h h') := by
  have s0 := x218 L 98 h
  rw [q219 97 hQ (by omega), cI_s, if_pos (show kd T t j = (if 5 ≤ 2 then 5 + 3 else 5 + 6) by rw [hk]; rfl), if_neg (by decide)] at s0
  rcases q220 (L := L) 94 (f := 3) ht hT hQ (by omega) hf ho with ⟨z, r, h', a1, a2, a3, a4⟩ | ⟨z, r, h', a1, a2, a3⟩
  · rw [a1, cI_s] at s0
    exact Or.inl ⟨z, h', by rw [ml_0 hQ, s0, cV_s], a2, a3, a4⟩
  · rw [a1, cI_s] at s0
    exact Or.inr ⟨z, h', by rw [ml_0 hQ, s0, cV_s], a2, a3⟩
theorem a_left (hQ : QS h T t j o nf nw 0 cd) (hk : kd T t j ≠ 11) (hf : nf < 40) : ∃ h', ML L h = ML L h' ∧ QS h' T t j o (nf + 1) nw 1 cd ∧ hI h' 279 nf = nI 4 ∧ QF nf nw h h' := by
  obtain ⟨g, a1, a2, a3, a4⟩ := q222 (L := L) 97 4 hf hQ
  refine ⟨wI g 253 52 (nI 1), ?_, a2.st, by rw [wI_ne (by omega)]; exact a4, a3.tr (QF.w (by omega))⟩
  rw [ml_0 hQ, x218, q219 97 hQ (by omega), cI_s, if_neg (show ¬ kd T t j = (if 5 ≤ 2 then 5 + 3 else 5 + 6) from fun q => hk q), if_pos rfl, a1, cV_s, cV_s]
end Sstep2
