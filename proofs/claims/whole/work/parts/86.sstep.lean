-- PART: strips, the reference's machine: a turn of its loop.
noncomputable def ML (L : Nat) (h : PH) : PR := runL (g2 L) 99 11 false (some .int) kc_214 74 [.ref 253] [] h
/-- both sides' fault -/
def FM (h : PH) (f q : Nat) : Prop := hI h 253 43 = nI f ∧ hI h 253 44 = nI q
theorem cVV {x : PR} {f : PH → PR} : cV (cV x (fun h => some (none, h))) f = cV x f := by
  unfold cV
  match x with
  | none => rfl
  | some (none, h) => rfl
  | some (some v, h) => rfl
section Sstep
variable {L : Nat} {T : Nat → Nat} {t : Nat} {j o nf nw : Nat} {cd : List (Nat × Nat)} {h : PH}
theorem ml_96 {st : Nat} (hQ : QS h T t j o nf nw st cd) (hs : st < 10) (h4 : st = 4 → kd T t j ≠ 0) : ML L h = runL (g2 L) 99 11 false (some .int) kc_214 96 [.ref 253] [] h := by
  obtain ⟨q1, q2, q3, q4, q5, q6, q7, q8, q9⟩ := hQ
  unfold ML
  rw [e214_74, q3, if_neg (fun q => q rfl), q8]
  by_cases z : st = 4
  · have k0 := h4 z
    rw [if_neg (by rw [z]; exact fun q => q rfl), if_neg]
    intro q
    have mt := q1.mt
    rcases mt.cases with ⟨w, _⟩ | ⟨_, w⟩ | ⟨_, w, _⟩ | ⟨_, w, _⟩ | ⟨_, w, _⟩
    · exact k0 w
    · rw [q] at w
      rcases w with w | w
      · exact absurd w (by decide)
      · exact absurd w.1 (by decide)
    · rw [q] at w
      exact absurd w (by decide)
    · rw [q] at w
      exact absurd w (by decide)
    · rw [q] at w
      exact absurd w (by decide)
  · rw [if_pos (by rw [Ne, nI_eqI (by omega) (by omega)]; exact z)]
theorem ml_0 (hQ : QS h T t j o nf nw 0 cd) : ML L h = cV (exec (g2 L) 99 218 [.ref 253] h) (ML L) := by
  rw [ml_96 hQ (by omega) (by omega), e214_96, hQ.2.2.2.2.2.2.2.1, if_pos rfl]
  rfl
theorem ml_1 (hQ : QS h T t j o nf nw 1 cd) : ML L h = cV (exec (g2 L) 99 223 [.ref 253] h) (ML L) := by
  rw [ml_96 hQ (by omega) (by omega), e214_96, hQ.2.2.2.2.2.2.2.1, if_neg (by decide), if_pos rfl]
  rfl
theorem ml_2 (hQ : QS h T t j o nf nw 2 cd) : ML L h = cV (exec (g2 L) 99 228 [.ref 253] h) (ML L) := by
  rw [ml_96 hQ (by omega) (by omega), e214_96, hQ.2.2.2.2.2.2.2.1, if_neg (by decide), if_neg (by decide), if_pos rfl]
  rfl
theorem ml_3 (hQ : QS h T t j o nf nw 3 cd) : ML L h = cV (exec (g2 L) 99 234 [.ref 253] h) (ML L) := by
  rw [ml_96 hQ (by omega) (by omega), e214_96, hQ.2.2.2.2.2.2.2.1, if_neg (by decide), if_neg (by decide), if_neg (by decide), if_pos rfl]
  rfl
theorem q219 (d : Nat) {st w : Nat} (hQ : QS h T t j o nf nw st cd) (hw : w ≤ 10) : exec (g2 L) (d + 1) 219 [.ref 253, .int (nI w)] h = some (some (.int (if kd T t j = (if w ≤ 2 then w + 3 else w + 6) then nI 1 else nI 0)), h) := by
  have mw := hQ.1.mt.word hw
  rw [x219]
  by_cases a : kd T t j = (if w ≤ 2 then w + 3 else w + 6)
  · obtain ⟨b1, b2⟩ := mw.mpr a
    rw [b1, if_neg (fun q => q rfl), b2, if_neg (fun q => q rfl), if_pos a]
  · rw [if_neg a]
    by_cases b : hI h 253 41 = nI 1
    · rw [if_neg (not_not_intro b)]
      by_cases c : hI h 253 42 = nI w
      · exact absurd (mw.mp ⟨b, c⟩) a
      · rw [if_pos c]
    · rw [if_pos b]
theorem q227 (d : Nat) {st i : Nat} (hQ : QS h T t j o nf nw st cd) (hi : (6 ≤ i ∧ i ≤ 8) ∨ (17 ≤ i ∧ i ≤ 27)) : exec (g2 L) (d + 1) 227 [.ref 253, .int (nI (sc i))] h = some (some (.int (if kd T t j = i then nI 1 else nI 0)), h) := by
  have mw := hQ.1.mt.sign hi
  rw [x227]
  by_cases a : kd T t j = i
  · obtain ⟨b1, b2⟩ := mw.mpr a
    rw [b1, if_neg (fun q => q rfl), b2, if_neg (fun q => q rfl), if_pos a]
  · rw [if_neg a]
    by_cases b : hI h 253 41 = nI 3
    · rw [if_neg (not_not_intro b)]
      by_cases c : hI h 253 42 = nI (sc i)
      · exact absurd (mw.mp ⟨b, c⟩) a
      · rw [if_pos c]
    · rw [if_pos b]
theorem q221 (d : Nat) {st : Nat} (f : Nat) (hQ : QS h T t j o nf nw st cd) : ∃ h', exec (g2 L) (d + 1) 221 [.ref 253, .int (nI f)] h = some (none, h') ∧ FM h' f (ps T t j) ∧ QF nf nw h h' := by
  refine ⟨wI (wI h 253 43 (nI f)) 253 44 (nI (ps T t j)), ?_, ⟨?_, ?_⟩, (QF.w (by omega)).tr (QF.w (by omega))⟩
  · rw [x221, hQ.2.2.1, if_neg (fun q => q rfl), hQ.1.2.1]
  · rw [hI_wI, if_neg (by omega), hI_wI, if_pos ⟨rfl, rfl⟩]
  · rw [hI_wI, if_pos ⟨rfl, rfl⟩]
/-- an opening sign -/
theorem q220 (d : Nat) {st f : Nat} (ht : t ≤ 300) (hT : ∀ k, T k < 256) (hQ : QS h T t j o nf nw st cd) (hk : kd T t j ≠ 0) (hf : nf < 40) (ho : o ≤ 8) : (o < 8 ∧ ∃ r h', exec (g2 L) (d + 4) 220 [.ref 253, .int (nI f)] h = some (some (.int r), h') ∧ QS h' T t (j + 1) (o + 1) (nf + 1) nw st cd ∧ hI h' 279 nf = nI f ∧ QF nf nw h h') ∨ (o = 8 ∧ ∃ r h', exec (g2 L) (d + 4) 220 [.ref 253, .int (nI f)] h = some (some (.int r), h') ∧ FM h' 3 (ps T t j) ∧ QF nf nw h h') := by
  by_cases z : o = 8
  · obtain ⟨h', a1, a2, a3⟩ := q221 (L := L) (d + 2) 3 hQ
    refine Or.inr ⟨z, nI 0, h', ?_, a2, a3⟩
    rw [x220, hQ.2.2.2.2.1, if_neg (by rw [z]; exact fun q => q rfl), a1, cV_s]
  · obtain ⟨g, a1, a2, a3, a4⟩ := q222 (L := L) (d + 2) f hf (hQ.op (o' := o + 1))
    obtain ⟨h', b1', b2', b3'⟩ := q215 (L := L) d ht hT (kd_lt hk) a2
    refine Or.inl ⟨by omega, nI 1, h', ?_, b2', by rw [b3'.1 279 (by omega)]; exact a4, (QF.w (by omega)).tr (a3.tr (QF.fx b3'))⟩
    rw [x220, hQ.2.2.2.2.1, if_pos (by rw [Ne, nI_eqI (by omega) (by omega)]; exact z), nI_plus, a1, cV_s, b1', cV_s]
theorem b_num (ht : t ≤ 300) (hT : ∀ k, T k < 256) (hQ : QS h T t j o nf nw 1 cd) (hk : kd T t j = 2) (hv : nb T t j ≤ 9999) (hc : cd.length < 400) : ∃ h', ML L h = cV (exec (g2 L) 98 225 [.ref 253] h') (ML L) ∧ QS h' T t (j + 1) o nf nw 1 (cd ++ [(400, nb T t j)]) ∧ QF nf nw h h' ∧ hI h' 279 = hI h 279 := by
  have s41 : hI h 253 41 = nI 2 ∧ hI h 253 42 = nI (nb T t j) := by
    rcases hQ.1.mt.cases with ⟨w, _⟩ | ⟨w, _⟩ | ⟨_, w, y, w1, w2, w3⟩ | ⟨w, _⟩ | ⟨w, _⟩
    · omega
    · omega
    · rcases w3 with ⟨w3, _⟩ | ⟨w3, _⟩
      · exact ⟨w, by rw [w1, w3]⟩
      · omega
    · omega
    · omega
  obtain ⟨g, a1, a2, a3, a4, a5⟩ := q224 (L := L) 97 400 (nb T t j) hc hQ
  obtain ⟨h', b1', b2', b3'⟩ := q215 (L := L) 95 ht hT (kd_lt (by omega)) a2
  refine ⟨h', ?_, b2', (QF.em a3 a4 a5).tr (QF.fx b3'), by rw [b3'.1 279 (by omega), a3 279 (by omega) (by omega) (by omega)]⟩
  rw [ml_1 hQ, x223, s41.1, if_neg (fun q => q rfl), s41.2, if_pos (by rw [nI_leN (by omega) (by omega)]; exact hv), a1, cV_s, b1', cV_s, cVV]
theorem b_big (hQ : QS h T t j o nf nw 1 cd) (hk : kd T t j = 2) (hv : ¬ nb T t j ≤ 9999) : ∃ h', ML L h = ML L h' ∧ FM h' 2 (ps T t j) ∧ QF nf nw h h' := by
  obtain ⟨h', a1, a2, a3⟩ := q221 (L := L) 97 2 hQ
  refine ⟨h', ?_, a2, a3⟩
  have s41 : hI h 253 41 = nI 2 ∧ ∃ w, hI h 253 42 = nI w ∧ w < 1100000 ∧ 10000 ≤ w := by
    rcases hQ.1.mt.cases with ⟨w, _⟩ | ⟨w, _⟩ | ⟨_, w, y, w1, w2, w3⟩ | ⟨w, _⟩ | ⟨w, _⟩
    · omega
    · omega
    · rcases w3 with ⟨w3, _⟩ | ⟨w3, w4⟩
      · omega
      · exact ⟨w, y, w1, w2, w4⟩
    · omega
    · omega
  obtain ⟨c1, w, c2, c3, c4⟩ := s41
  rw [ml_1 hQ, x223, c1, if_neg (fun q => q rfl), c2, if_neg (by rw [nI_leN (by omega) (by omega)]; omega), a1, cV_s, cV_s]
theorem b_name (ht : t ≤ 300) (hT : ∀ k, T k < 256) (hQ : QS h T t j o nf nw 1 cd) (hk : 12 ≤ kd T t j ∧ kd T t j ≤ 16) (hc : cd.length < 400) : ∃ h', ML L h = cV (exec (g2 L) 98 225 [.ref 253] h') (ML L) ∧ QS h' T t (j + 1) o nf nw 1 (cd ++ [(401, kd T t j - 12)]) ∧ QF nf nw h h' ∧ hI h' 279 = hI h 279 := by
  have s41 : hI h 253 41 = nI 1 ∧ hI h 253 42 = nI (kd T t j - 6) := by
    rcases hQ.1.mt.cases with ⟨w, _⟩ | ⟨w, _⟩ | ⟨w, _⟩ | ⟨w, w1, w2⟩ | ⟨w, _⟩
    · omega
    · omega
    · omega
    · rw [if_neg (by omega)] at w2
      exact ⟨w1, w2⟩
    · omega
  obtain ⟨g, a1, a2, a3, a4, a5⟩ := q224 (L := L) 97 401 (kd T t j - 12) hc hQ
  obtain ⟨h', b1', b2', b3'⟩ := q215 (L := L) 95 ht hT (kd_lt (by omega)) a2
  refine ⟨h', ?_, b2', (QF.em a3 a4 a5).tr (QF.fx b3'), by rw [b3'.1 279 (by omega), a3 279 (by omega) (by omega) (by omega)]⟩
  rw [ml_1 hQ, x223, s41.1, if_pos (by decide), if_neg (fun q => q rfl), s41.2, if_neg (by rw [nI_leN (by omega) (by omega)]; omega), nI_minus (by omega), nI_minus (by omega), show kd T t j - 6 - 5 - 1 = kd T t j - 12 by omega, a1, cV_s, b1', cV_s, cVV]
theorem b_88 (hQ : QS h T t j o nf nw 1 cd) (hk : kd T t j ≠ 2 ∧ ¬ (12 ≤ kd T t j ∧ kd T t j ≤ 16)) : exec (g2 L) 99 223 [.ref 253] h = runL (g2 L) 98 11 false none kc_223 88 [.ref 253, dm] [] h := by
  rw [x223]
  rcases hQ.1.mt.cases with ⟨_, w⟩ | ⟨_, w⟩ | ⟨w, _⟩ | ⟨w, w1, w2⟩ | ⟨_, w, _⟩
  · rw [w, if_pos (by decide), if_pos (by decide)]
  · rcases w with w | ⟨w, _⟩
    · rw [w, if_pos (by decide), if_pos (by decide)]
    · rw [w, if_pos (by decide), if_pos (by decide)]
  · omega
  · rw [w1, if_pos (by decide), if_neg (fun q => q rfl), w2, if_pos]
    rw [nI_leN (by split <;> omega) (by omega)]
    split <;> omega
  · rw [w, if_pos (by decide), if_pos (by decide)]
/-- a sign that opens, in a number -/
theorem b_open (ht : t ≤ 300) (hT : ∀ k, T k < 256) (hQ : QS h T t j o nf nw 1 cd) (hk : kd T t j = 6 ∨ kd T t j = 24) (hf : nf < 40) (ho : o ≤ 8) : (o < 8 ∧ ∃ h', ML L h = ML L h' ∧ QS h' T t (j + 1) (o + 1) (nf + 1) nw 1 cd ∧ hI h' 279 nf = nI (if kd T t j = 6 then 6 else 7) ∧ QF nf nw h h') ∨ (o = 8 ∧ ∃ h', ML L h = ML L h' ∧ FM h' 3 (ps T t j) ∧ QF nf nw h h') := by
  have s0 := e223_88 L 98 h
  have c40 : nI 40 = nI (sc 6) := rfl
  have c45 : nI 45 = nI (sc 24) := rfl
  rw [c40, c45, q227 97 hQ (by omega), cI_s] at s0
  have m1' := ml_1 (L := L) hQ
  rw [b_88 hQ (by omega)] at m1'
  rcases hk with hk | hk
  · rw [if_pos hk, if_neg (by decide)] at s0
    rcases q220 (L := L) 94 (f := 6) ht hT hQ (by omega) hf ho with ⟨z, r, h', a1, a2, a3, a4⟩ | ⟨z, r, h', a1, a2, a3⟩
    · rw [a1, cI_s] at s0
      exact Or.inl ⟨z, h', by rw [m1', s0, cV_s], a2, by rw [if_pos hk]; exact a3, a4⟩
    · rw [a1, cI_s] at s0
      exact Or.inr ⟨z, h', by rw [m1', s0, cV_s], a2, a3⟩
  · rw [if_neg (show ¬ kd T t j = 6 by omega), if_pos rfl, q227 97 hQ (by omega), cI_s, if_pos hk, if_neg (by decide)] at s0
    rcases q220 (L := L) 94 (f := 7) ht hT hQ (by omega) hf ho with ⟨z, r, h', a1, a2, a3, a4⟩ | ⟨z, r, h', a1, a2, a3⟩
    · rw [a1, cI_s] at s0
      exact Or.inl ⟨z, h', by rw [m1', s0, cV_s], a2, by rw [if_neg (by omega)]; exact a3, a4⟩
    · rw [a1, cI_s] at s0
      exact Or.inr ⟨z, h', by rw [m1', s0, cV_s], a2, a3⟩
theorem b_bad (hQ : QS h T t j o nf nw 1 cd) (hk : kd T t j ≠ 2 ∧ ¬ (12 ≤ kd T t j ∧ kd T t j ≤ 16) ∧ kd T t j ≠ 6 ∧ kd T t j ≠ 24) : ∃ h', ML L h = ML L h' ∧ FM h' 1 (ps T t j) ∧ QF nf nw h h' := by
  obtain ⟨h', a1, a2, a3⟩ := q221 (L := L) 97 1 hQ
  refine ⟨h', ?_, a2, a3⟩
  have c40 : nI 40 = nI (sc 6) := rfl
  have c45 : nI 45 = nI (sc 24) := rfl
  rw [ml_1 hQ, b_88 hQ ⟨hk.1, hk.2.1⟩, e223_88, c40, c45, q227 97 hQ (by omega), cI_s, if_neg hk.2.2.1, if_pos rfl, q227 97 hQ (by omega), cI_s, if_neg hk.2.2.2, if_pos rfl, a1, cV_s, cV_s]
/-- the one is over: no sign before it -/
theorem one_end {d m st : Nat} (hQ : QS h T t j o (m + 1) nw st cd) (hm : m < 40) {f : Nat} (hf : hI h 279 m = nI f) (hf7 : f ≠ 7 ∧ f < 10) : exec (g2 L) (d + 2) 225 [.ref 253] h = some (none, wI h 253 52 (nI 2)) := by
  rw [x225, q226 d (by omega) hQ, cI_s, hf, if_pos (by rw [Ne, nI_eqI (by omega) (by omega)]; exact hf7.1)]
theorem one_neg {d m st : Nat} (hQ : QS h T t j (o + 1) (m + 1) nw st cd) (hm : m < 40) (hf : hI h 279 m = nI 7) (hc : cd.length < 400) : ∃ h', exec (g2 L) (d + 2) 225 [.ref 253] h = exec (g2 L) (d + 2) 225 [.ref 253] h' ∧ QS h' T t j o m nw st (cd ++ [(402, 0)]) ∧ QF m nw h h' ∧ hI h' 279 = hI h 279 := by
  have q1 : QS (wI (wI h 253 46 (nI m)) 253 45 (nI o)) T t j o m nw st cd := (hQ.nf (nf' := m)).op
  obtain ⟨h', a1, a2, a3, a4, a5⟩ := q224 (L := L) d 402 0 hc q1
  refine ⟨h', ?_, a2, ((QF.w (by omega)).tr (QF.w (by omega))).tr (QF.em a3 a4 a5), by rw [a3 279 (by omega) (by omega) (by omega), wI_ne (by omega), wI_ne (by omega)]⟩
  rw [x225, q226 d (by omega) hQ, cI_s, hf, if_neg (fun q => q rfl), hQ.2.2.2.2.2.1, hQ.2.2.2.2.1, nI_m1_plus, nI_m1_plus, a1, cV_s]
  exact ((x225 L (d + 1) h').trans (e225_0 L (d + 1) h').symm).symm
theorem ask_end {d m st : Nat} (hQ : QS h T t j o (m + 1) nw st cd) (hm : m < 40) {f : Nat} (hf : hI h 279 m = nI f) (hf7 : f ≠ 3 ∧ f < 10) : exec (g2 L) (d + 2) 233 [.ref 253] h = some (none, wI h 253 52 (nI 3)) := by
  rw [x233, q226 d (by omega) hQ, cI_s, hf, if_pos (by rw [Ne, nI_eqI (by omega) (by omega)]; exact hf7.1)]
theorem ask_not {d m st : Nat} (hQ : QS h T t j (o + 1) (m + 1) nw st cd) (hm : m < 40) (hf : hI h 279 m = nI 3) (hc : cd.length < 400) : ∃ h', exec (g2 L) (d + 2) 233 [.ref 253] h = exec (g2 L) (d + 2) 233 [.ref 253] h' ∧ QS h' T t j o m nw st (cd ++ [(405, 0)]) ∧ QF m nw h h' ∧ hI h' 279 = hI h 279 := by
  have q1 : QS (wI (wI h 253 46 (nI m)) 253 45 (nI o)) T t j o m nw st cd := (hQ.nf (nf' := m)).op
  obtain ⟨h', a1, a2, a3, a4, a5⟩ := q224 (L := L) d 405 0 hc q1
  refine ⟨h', ?_, a2, ((QF.w (by omega)).tr (QF.w (by omega))).tr (QF.em a3 a4 a5), by rw [a3 279 (by omega) (by omega) (by omega), wI_ne (by omega), wI_ne (by omega)]⟩
  rw [x233, q226 d (by omega) hQ, cI_s, hf, if_neg (fun q => q rfl), hQ.2.2.2.2.2.1, hQ.2.2.2.2.1, nI_m1_plus, nI_m1_plus, a1, cV_s]
  exact ((x233 L (d + 1) h').trans (e233_0 L (d + 1) h').symm).symm
end Sstep
