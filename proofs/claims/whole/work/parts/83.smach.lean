-- PART: strips, the reference's machine: its small steps.
def kd (T : Nat → Nat) (t j : Nat) : Nat := if ps T t j < t then tkK T t (ps T t j) else 0
def nb (T : Nat → Nat) (t j : Nat) : Nat := tkV T t (ps T t j)
def CD (h : PH) (cd : List (Nat × Nat)) : Prop := hI h 253 56 = nI cd.length ∧ ∀ u, u < cd.length → hI h 285 u = nI (cd.getD u (0, 0)).1 ∧ hI h 286 u = nI (cd.getD u (0, 0)).2
/-- the machine at token j: open signs o, frames nf, waits nw, state st, orders cd -/
def QS (h : PH) (T : Nat → Nat) (t j o nf nw st : Nat) (cd : List (Nat × Nat)) : Prop := LX h T t (ps T t j) ∧ (∀ k, k < t → hI h 256 k = sb (T k)) ∧ hI h 253 43 = nI 0 ∧ hI h 253 44 = m1 ∧ hI h 253 45 = nI o ∧ hI h 253 46 = nI nf ∧ hI h 253 49 = nI nw ∧ hI h 253 52 = nI st ∧ CD h cd
/-- what stays of the machine -/
def QF (nf nw : Nat) (h h' : PH) : Prop := (∀ a, a ≠ 253 → a ≠ 279 → a ≠ 281 → a ≠ 282 → a ≠ 285 → a ≠ 286 → hI h' a = hI h a) ∧ (∀ k, k < nf → hI h' 279 k = hI h 279 k) ∧ (∀ k, k < nw → hI h' 281 k = hI h 281 k ∧ hI h' 282 k = hI h 282 k) ∧ (∀ k, k < 39 ∨ k = 53 → hI h' 253 k = hI h 253 k) ∧ hR h' = hR h
theorem QF.rf {nf nw : Nat} {h : PH} : QF nf nw h h := ⟨fun _ _ _ _ _ _ _ => rfl, fun _ _ => rfl, fun _ _ => ⟨rfl, rfl⟩, fun _ _ => rfl, rfl⟩
theorem QF.tr {nf nw : Nat} {a b c : PH} (h1 : QF nf nw a b) (h2 : QF nf nw b c) : QF nf nw a c := ⟨fun x p q r s u v => (h2.1 x p q r s u v).trans (h1.1 x p q r s u v), fun k hk => (h2.2.1 k hk).trans (h1.2.1 k hk), fun k hk => ⟨(h2.2.2.1 k hk).1.trans (h1.2.2.1 k hk).1, (h2.2.2.1 k hk).2.trans (h1.2.2.1 k hk).2⟩, fun k hk => (h2.2.2.2.1 k hk).trans (h1.2.2.2.1 k hk), h2.2.2.2.2.trans h1.2.2.2.2⟩
theorem QF.le {nf nw nf' nw' : Nat} {h h' : PH} (hq : QF nf nw h h') (h1 : nf' ≤ nf) (h2 : nw' ≤ nw) : QF nf' nw' h h' := ⟨hq.1, fun k hk => hq.2.1 k (by omega), fun k hk => hq.2.2.1 k (by omega), hq.2.2.2.1, hq.2.2.2.2⟩
theorem QF.fx {nf nw : Nat} {h h' : PH} (hx : Fx h h') : QF nf nw h h' := ⟨fun a p _ _ _ _ _ => hx.1 a p, fun k _ => by rw [hx.1 279 (by omega)], fun k _ => by rw [hx.1 281 (by omega), hx.1 282 (by omega)]; exact ⟨rfl, rfl⟩, fun k hk => hx.2.1 k (by omega), hx.2.2⟩
theorem QF.w {nf nw k : Nat} {h : PH} {v : Int32} (hk : 39 ≤ k ∧ k ≠ 53) : QF nf nw h (wI h 253 k v) := ⟨fun a p _ _ _ _ _ => wI_ne p, fun j _ => by rw [wI_ne (by omega)], fun j _ => by rw [wI_ne (by omega), wI_ne (by omega)]; exact ⟨rfl, rfl⟩, fun j hj => by rw [hI_wI, if_neg (by omega)], rfl⟩
theorem CD.cg {h h' : PH} {cd : List (Nat × Nat)} (hc : CD h cd) (e0 : hI h' 253 56 = hI h 253 56) (e1 : hI h' 285 = hI h 285) (e2 : hI h' 286 = hI h 286) : CD h' cd := ⟨e0.trans hc.1, fun u hu => by rw [e1, e2]; exact hc.2 u hu⟩
section Smach
variable {L : Nat} {T : Nat → Nat} {t : Nat}
theorem LX.mt {h : PH} {j : Nat} (hx : LX h T t (ps T t j)) : MT (kd T t j) (nb T t j) (hI h 253 41) (hI h 253 42) := by
  unfold kd nb
  rcases hx.2.2 with ⟨e, q⟩ | ⟨e, _, q⟩
  · rw [if_neg (by omega)]
    exact Or.inl ⟨rfl, q⟩
  · rw [if_pos e]
    exact q
theorem kd_lt {j : Nat} (h : kd T t j ≠ 0) : ps T t j < t := by
  unfold kd at h
  by_cases q : ps T t j < t
  · exact q
  · rw [if_neg q] at h
    exact absurd rfl h
theorem LX.cg {h h' : PH} {q : Nat} (hx : LX h T t q) (e : ∀ k, 38 ≤ k → k ≤ 42 → hI h' 253 k = hI h 253 k) : LX h' T t q := by
  unfold LX
  rw [e 38 (by omega) (by omega), e 39 (by omega) (by omega), e 40 (by omega) (by omega), e 41 (by omega) (by omega), e 42 (by omega) (by omega)]
  exact hx
/-- next, at a token that is not the end -/
theorem q215 (d : Nat) {j o nf nw st : Nat} {cd : List (Nat × Nat)} {h : PH} (ht : t ≤ 300) (hT : ∀ k, T k < 256) (hj : ps T t j < t) (hQ : QS h T t j o nf nw st cd) : ∃ h', exec (g2 L) (d + 3) 215 [.ref 253] h = some (none, h') ∧ QS h' T t (j + 1) o nf nw st cd ∧ Fx h h' := by
  obtain ⟨q1, q2, q3, q4, q5, q6, q7, q8, q9⟩ := hQ
  obtain ⟨l1, l2, l3⟩ := q1
  have l4 : hI h 253 39 = nI (tkE T t (ps T t j)) := by
    rcases l3 with ⟨e, _⟩ | ⟨_, e, _⟩
    · omega
    · exact e
  obtain ⟨e1, e2⟩ := tkE_in (T := T) hj
  obtain ⟨h', r1, r2, r3⟩ := m215 (L := L) d ht hT e2 ⟨q2, l1, l4⟩
  have e : ∀ k, 43 ≤ k → hI h' 253 k = hI h 253 k := fun k hk => r3.2.1 k (by omega)
  exact ⟨h', r1, ⟨r2, fun k hk => by rw [r3.1 256 (by omega)]; exact q2 k hk, by rw [e 43 (by omega)]; exact q3, by rw [e 44 (by omega)]; exact q4, by rw [e 45 (by omega)]; exact q5, by rw [e 46 (by omega)]; exact q6, by rw [e 49 (by omega)]; exact q7, by rw [e 52 (by omega)]; exact q8, q9.cg (e 56 (by omega)) (r3.1 285 (by omega)) (r3.1 286 (by omega))⟩, r3⟩
/-- writing one of the machine's numbers -/
theorem QS.st {h : PH} {j o nf nw st st' : Nat} {cd : List (Nat × Nat)} (hQ : QS h T t j o nf nw st cd) : QS (wI h 253 52 (nI st')) T t j o nf nw st' cd := by
  obtain ⟨q1, q2, q3, q4, q5, q6, q7, q8, q9⟩ := hQ
  have e : ∀ k, k ≠ 52 → hI (wI h 253 52 (nI st')) 253 k = hI h 253 k := fun k hk => by rw [hI_wI, if_neg (fun q => hk q.2)]
  exact ⟨q1.cg (fun k a b => e k (by omega)), fun k hk => by rw [wI_ne (by omega)]; exact q2 k hk, by rw [e _ (by omega)]; exact q3, by rw [e _ (by omega)]; exact q4, by rw [e _ (by omega)]; exact q5, by rw [e _ (by omega)]; exact q6, by rw [e _ (by omega)]; exact q7, by rw [hI_wI, if_pos ⟨rfl, rfl⟩], q9.cg (e _ (by omega)) (wI_ne (by omega)) (wI_ne (by omega))⟩
theorem QS.op {h : PH} {j o o' nf nw st : Nat} {cd : List (Nat × Nat)} (hQ : QS h T t j o nf nw st cd) : QS (wI h 253 45 (nI o')) T t j o' nf nw st cd := by
  obtain ⟨q1, q2, q3, q4, q5, q6, q7, q8, q9⟩ := hQ
  have e : ∀ k, k ≠ 45 → hI (wI h 253 45 (nI o')) 253 k = hI h 253 k := fun k hk => by rw [hI_wI, if_neg (fun q => hk q.2)]
  exact ⟨q1.cg (fun k a b => e k (by omega)), fun k hk => by rw [wI_ne (by omega)]; exact q2 k hk, by rw [e _ (by omega)]; exact q3, by rw [e _ (by omega)]; exact q4, by rw [hI_wI, if_pos ⟨rfl, rfl⟩], by rw [e _ (by omega)]; exact q6, by rw [e _ (by omega)]; exact q7, by rw [e _ (by omega)]; exact q8, q9.cg (e _ (by omega)) (wI_ne (by omega)) (wI_ne (by omega))⟩
theorem QS.nf {h : PH} {j o nf nf' nw st : Nat} {cd : List (Nat × Nat)} (hQ : QS h T t j o nf nw st cd) : QS (wI h 253 46 (nI nf')) T t j o nf' nw st cd := by
  obtain ⟨q1, q2, q3, q4, q5, q6, q7, q8, q9⟩ := hQ
  have e : ∀ k, k ≠ 46 → hI (wI h 253 46 (nI nf')) 253 k = hI h 253 k := fun k hk => by rw [hI_wI, if_neg (fun q => hk q.2)]
  exact ⟨q1.cg (fun k a b => e k (by omega)), fun k hk => by rw [wI_ne (by omega)]; exact q2 k hk, by rw [e _ (by omega)]; exact q3, by rw [e _ (by omega)]; exact q4, by rw [e _ (by omega)]; exact q5, by rw [hI_wI, if_pos ⟨rfl, rfl⟩], by rw [e _ (by omega)]; exact q7, by rw [e _ (by omega)]; exact q8, q9.cg (e _ (by omega)) (wI_ne (by omega)) (wI_ne (by omega))⟩
theorem QS.nw {h : PH} {j o nf nw nw' st : Nat} {cd : List (Nat × Nat)} (hQ : QS h T t j o nf nw st cd) : QS (wI h 253 49 (nI nw')) T t j o nf nw' st cd := by
  obtain ⟨q1, q2, q3, q4, q5, q6, q7, q8, q9⟩ := hQ
  have e : ∀ k, k ≠ 49 → hI (wI h 253 49 (nI nw')) 253 k = hI h 253 k := fun k hk => by rw [hI_wI, if_neg (fun q => hk q.2)]
  exact ⟨q1.cg (fun k a b => e k (by omega)), fun k hk => by rw [wI_ne (by omega)]; exact q2 k hk, by rw [e _ (by omega)]; exact q3, by rw [e _ (by omega)]; exact q4, by rw [e _ (by omega)]; exact q5, by rw [e _ (by omega)]; exact q6, by rw [hI_wI, if_pos ⟨rfl, rfl⟩], by rw [e _ (by omega)]; exact q8, q9.cg (e _ (by omega)) (wI_ne (by omega)) (wI_ne (by omega))⟩
/-- writing elsewhere -/
theorem QS.w {h : PH} {a k : Nat} {v : Int32} {j o nf nw st : Nat} {cd : List (Nat × Nat)} (hQ : QS h T t j o nf nw st cd) (ha : 279 ≤ a ∧ a ≤ 284) : QS (wI h a k v) T t j o nf nw st cd := by
  obtain ⟨q1, q2, q3, q4, q5, q6, q7, q8, q9⟩ := hQ
  have e : hI (wI h a k v) 253 = hI h 253 := wI_ne (by omega)
  exact ⟨q1.cg (fun k a b => by rw [e]), fun k hk => by rw [wI_ne (by omega)]; exact q2 k hk, by rw [e]; exact q3, by rw [e]; exact q4, by rw [e]; exact q5, by rw [e]; exact q6, by rw [e]; exact q7, by rw [e]; exact q8, q9.cg (by rw [e]) (wI_ne (by omega)) (wI_ne (by omega))⟩
theorem q222 (d : Nat) {j o nf nw st : Nat} {cd : List (Nat × Nat)} {h : PH} (f : Nat) (hf : nf < 40) (hQ : QS h T t j o nf nw st cd) : ∃ h', exec (g2 L) (d + 1) 222 [.ref 253, .int (nI f)] h = some (none, h') ∧ QS h' T t j o (nf + 1) nw st cd ∧ QF nf nw h h' ∧ hI h' 279 nf = nI f := by
  refine ⟨wI (wI h 279 nf (nI f)) 253 46 (nI (nf + 1)), ?_, (hQ.w (by omega)).nf, ?_, ?_⟩
  · rw [x222, hQ.2.2.2.2.2.1, inB_nI (by omega), asr_d (by omega), ix_nI (by omega), nI_plus]
  · refine QF.tr ⟨fun a p q _ _ _ _ => wI_ne q, fun k hk => by rw [hI_wI, if_neg (by omega)], fun k _ => by rw [wI_ne (by omega), wI_ne (by omega)]; exact ⟨rfl, rfl⟩, fun k _ => by rw [wI_ne (by omega)], rfl⟩ (QF.w (by omega))
  · rw [wI_ne (by omega), hI_wI, if_pos ⟨rfl, rfl⟩]
theorem q224a {j o nf nw st : Nat} {cd : List (Nat × Nat)} {h : PH} (q v : Nat) (hc : cd.length < 400) (hQ : QS h T t j o nf nw st cd) : ∃ h', (∀ d, exec (g2 L) (d + 1) 224 [.ref 253, .int (nI q), .int (nI v)] h = some (none, h')) ∧ QS h' T t j o nf nw st (cd ++ [(q, v)]) ∧ (∀ a, a ≠ 253 → a ≠ 285 → a ≠ 286 → hI h' a = hI h a) ∧ (∀ k, k ≠ 56 → hI h' 253 k = hI h 253 k) ∧ hR h' = hR h := by
  obtain ⟨q1, q2, q3, q4, q5, q6, q7, q8, q9⟩ := hQ
  have e : ∀ k, k ≠ 56 → hI (wI (wI (wI h 285 cd.length (nI q)) 286 cd.length (nI v)) 253 56 (nI (cd.length + 1))) 253 k = hI h 253 k := fun k hk => by rw [hI_wI, if_neg (fun q => hk q.2), wI_ne (by omega), wI_ne (by omega)]
  refine ⟨wI (wI (wI h 285 cd.length (nI q)) 286 cd.length (nI v)) 253 56 (nI (cd.length + 1)), ?_, ⟨q1.cg (fun k a b => e k (by omega)), fun k hk => by rw [wI_ne (by omega), wI_ne (by omega), wI_ne (by omega)]; exact q2 k hk, by rw [e _ (by omega)]; exact q3, by rw [e _ (by omega)]; exact q4, by rw [e _ (by omega)]; exact q5, by rw [e _ (by omega)]; exact q6, by rw [e _ (by omega)]; exact q7, by rw [e _ (by omega)]; exact q8, ?_, fun u hu => ?_⟩, fun a p r s => by rw [wI_ne p, wI_ne s, wI_ne r], e, rfl⟩
  · intro d
    rw [x224, q9.1, inB_nI (by omega), asr_d (by omega), asr_d (by omega), ix_nI (by omega), nI_plus]
  · rw [hI_wI, if_pos ⟨rfl, rfl⟩, List.length_append]
    rfl
  · rw [List.length_append, List.length_singleton] at hu
    have e5 : hI (wI (wI (wI h 285 cd.length (nI q)) 286 cd.length (nI v)) 253 56 (nI (cd.length + 1))) 285 u = if 285 = 285 ∧ u = cd.length then nI q else hI h 285 u := by rw [wI_ne (by omega), wI_ne (by omega), hI_wI]
    have e6 : hI (wI (wI (wI h 285 cd.length (nI q)) 286 cd.length (nI v)) 253 56 (nI (cd.length + 1))) 286 u = if 286 = 286 ∧ u = cd.length then nI v else hI h 286 u := by rw [wI_ne (by omega), hI_wI, wI_ne (by omega)]
    rw [e5, e6]
    by_cases z : u = cd.length
    · subst z
      rw [if_pos ⟨rfl, rfl⟩, if_pos ⟨rfl, rfl⟩, List.getD_eq_getElem?_getD, List.getElem?_append_right (Nat.le_refl _), Nat.sub_self]
      exact ⟨rfl, rfl⟩
    · rw [if_neg (fun w => z w.2), if_neg (fun w => z w.2), List.getD_eq_getElem?_getD, List.getElem?_append_left (by omega), ← List.getD_eq_getElem?_getD]
      exact q9.2 u (by omega)
theorem q224 (d : Nat) {j o nf nw st : Nat} {cd : List (Nat × Nat)} {h : PH} (q v : Nat) (hc : cd.length < 400) (hQ : QS h T t j o nf nw st cd) : ∃ h', exec (g2 L) (d + 1) 224 [.ref 253, .int (nI q), .int (nI v)] h = some (none, h') ∧ QS h' T t j o nf nw st (cd ++ [(q, v)]) ∧ (∀ a, a ≠ 253 → a ≠ 285 → a ≠ 286 → hI h' a = hI h a) ∧ (∀ k, k ≠ 56 → hI h' 253 k = hI h 253 k) ∧ hR h' = hR h := by
  obtain ⟨h', a1, a2⟩ := q224a (L := L) q v hc hQ
  exact ⟨h', a1 d, a2⟩
theorem QF.em {nf nw : Nat} {h h' : PH} (h1 : ∀ a, a ≠ 253 → a ≠ 285 → a ≠ 286 → hI h' a = hI h a) (h2 : ∀ k, k ≠ 56 → hI h' 253 k = hI h 253 k) (h3 : hR h' = hR h) : QF nf nw h h' := ⟨fun a p _ _ _ r s => h1 a p r s, fun k _ => by rw [h1 279 (by omega) (by omega) (by omega)], fun k _ => by rw [h1 281 (by omega) (by omega) (by omega), h1 282 (by omega) (by omega) (by omega)]; exact ⟨rfl, rfl⟩, fun k hk => h2 k (by omega), h3⟩
theorem q226 (d : Nat) {j o nf nw st : Nat} {cd : List (Nat × Nat)} {h : PH} (hf : nf + 1 ≤ 40) (hQ : QS h T t j o (nf + 1) nw st cd) : exec (g2 L) (d + 1) 226 [.ref 253] h = some (some (.int (hI h 279 nf)), h) := by
  rw [x226, hQ.2.2.2.2.2.1, nI_m1_plus, inB_nI (by omega), asr_d (by omega), ix_nI (by omega)]
def rk (q : Nat) : Nat := if q = 407 then 1 else if q = 406 then 2 else if q = 43 ∨ q = 45 then 3 else 4
theorem m230 (d : Nat) {q : Nat} (hq : q < 500) (h : PH) : exec (g2 L) (d + 1) 230 [.int (nI q)] h = some (some (.int (nI (rk q))), h) := by
  rw [x230]
  unfold rk
  by_cases a : q = 407
  · rw [if_neg (by rw [a]; exact fun w => w rfl), if_pos a]
  rw [if_pos (by rw [Ne, nI_eqI (by omega) (by omega)]; exact a), if_neg a]
  by_cases b : q = 406
  · rw [if_neg (by rw [b]; exact fun w => w rfl), if_pos b]
  rw [if_pos (by rw [Ne, nI_eqI (by omega) (by omega)]; exact b), if_neg b]
  by_cases c : q = 43
  · rw [if_pos (by rw [c]), if_pos (Or.inl c)]
  rw [if_neg (by rw [nI_eqI (by omega) (by omega)]; exact c)]
  by_cases e : q = 45
  · rw [if_neg (by rw [e]; exact fun w => w rfl), if_pos (Or.inr e)]
  rw [if_pos (by rw [Ne, nI_eqI (by omega) (by omega)]; exact e), if_neg (by omega)]
/-- nothing to work off -/
theorem q231_0 {d j o nf nw st r : Nat} {cd : List (Nat × Nat)} {h : PH} (hQ : QS h T t j o nf nw st cd) (hn : nw < 80) (hf : nf < 100) (hr : r < 10) (hw : nw = 0 ∨ ∃ g q, hI h 282 (nw - 1) = nI g ∧ g < 100 ∧ hI h 281 (nw - 1) = nI q ∧ q < 500 ∧ (g ≠ nf ∨ rk q < r)) : runL (g2 L) (d + 1) 11 false none kc_231 0 [.ref 253, .int (nI r)] [] h = some (none, h) := by
  rw [e231_0, hQ.2.2.2.2.2.2.1]
  rcases hw with e | ⟨g, q, e1, e2, e3, e4, e5⟩
  · rw [if_pos (by rw [e]; decide)]
  · by_cases z : nw = 0
    · rw [if_pos (by rw [z]; decide)]
    · have rr : rk q < 10 := by
        unfold rk
        repeat' split
        all_goals omega
      have w : nI nw - nI 1 = nI (nw - 1) := nI_minus (by omega)
      rw [if_neg (by rw [nI_leN (by omega) (by omega)]; omega), w, inB_nI (by omega), asr_d (by omega), asr_d (by omega), ix_nI (by omega), e1, hQ.2.2.2.2.2.1]
      by_cases y : g = nf
      · rw [if_neg (by rw [y]; exact fun w => w rfl), e3, m230 d e4, cI_s, if_pos (by rw [nI_ltN (by omega) (by omega)]; omega)]
      · rw [if_pos (by rw [Ne, nI_eqI (by omega) (by omega)]; exact y)]
/-- one wait is worked off -/
theorem q231_1 {j o nf nw st r q : Nat} {cd : List (Nat × Nat)} {h : PH} (hQ : QS h T t j o nf (nw + 1) st cd) (hn : nw < 80) (hf : nf < 100) (hr : r ≤ rk q) (hq : q < 500) (hc : cd.length < 400) (h1 : hI h 281 nw = nI q) (h2 : hI h 282 nw = nI nf) : ∃ h', (∀ d, runL (g2 L) (d + 1) 11 false none kc_231 0 [.ref 253, .int (nI r)] [] h = runL (g2 L) (d + 1) 11 false none kc_231 0 [.ref 253, .int (nI r)] [] h') ∧ QS h' T t j o nf nw st (cd ++ [(q, 0)]) ∧ QF nf nw h h' ∧ hI h' 279 = hI h 279 := by
  have rr : rk q < 10 := by
    unfold rk
    repeat' split
    all_goals omega
  obtain ⟨h', a1, a2, a3, a4, a5⟩ := q224a (L := L) q 0 hc (hQ.nw (nw' := nw))
  refine ⟨h', ?_, a2, (QF.w (by omega)).tr (QF.em a3 a4 a5), by rw [a3 279 (by omega) (by omega) (by omega), wI_ne (by omega)]⟩
  intro d
  rw [e231_0, hQ.2.2.2.2.2.2.1, if_neg (by rw [nI_leN (by omega) (by omega)]; omega), nI_m1_plus, inB_nI (by omega), asr_d (by omega), asr_d (by omega), ix_nI (by omega), h1, h2, hQ.2.2.2.2.2.1, if_neg (fun w => w rfl), m230 d hq, cI_s, if_neg (by rw [nI_ltN (by omega) (by omega)]; omega), hQ.2.2.2.2.2.2.1, nI_m1_plus, inB_nI (by omega), asr_d (by omega), ix_nI (by omega), h1, a1, cV_s]
end Smach
