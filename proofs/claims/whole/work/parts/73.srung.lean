-- PART: bells, whether a bell rings: the reference's side.
def Rg (K l r : Nat → Nat) (m : Nat) (rb rr : Nat → Nat) (bell t : Nat) : Prop := (∃ k, k < m ∧ rb k = bell + 1 ∧ wv K l r t (rr k) ≠ 0) ∧ ¬ ∃ k, k < m ∧ rb k = 0 ∧ wv K l r t (rr k) ≠ 0
/-- the nodes and rows of a strip -/
def SD (K l r : Nat → Nat) (n m : Nat) (rb rr : Nat → Nat) : Prop := (∀ i, i < n → Nd K l r i) ∧ n ≤ 300 ∧ m ≤ 12 ∧ ∀ k, k < m → rr k < n ∧ bk (K (rr k)) ∧ rb k ≤ 4
def MS (h : PH) (s : Nat) (K l r : Nat → Nat) (m : Nat) (rb rr : Nat → Nat) : Prop := hI h 257 s = nI m ∧ ∀ k, k < m → hI h 258 (12 * s + k) = nI (rb k) - nI 1 ∧ ∃ j, hI h 259 (12 * s + k) = nI (400 * s + j) ∧ j + (pf K l r (rr k)).length < 400 ∧ (pf K l r (rr k)).length ≤ 300 ∧ CM h (400 * s + j) (pf K l r (rr k) ++ [(408, 0)])
theorem MS.cg {h h' : PH} {s : Nat} {K l r : Nat → Nat} {m : Nat} {rb rr : Nat → Nat} (hM : MS h s K l r m rb rr) (e : ∀ a, 257 ≤ a → a ≤ 261 → hI h' a = hI h a) : MS h' s K l r m rb rr := by
  refine ⟨by rw [e 257 (by omega) (by omega)]; exact hM.1, fun k hk => ?_⟩
  obtain ⟨h1, j, h2, h3, h4, h5⟩ := hM.2 k hk
  exact ⟨by rw [e 258 (by omega) (by omega)]; exact h1, j, by rw [e 259 (by omega) (by omega)]; exact h2, h3, h4, h5.cg (e 260 (by omega) (by omega)) (e 261 (by omega) (by omega))⟩
section Srung
variable {L : Nat} {K l r : Nat → Nat} {n m : Nat} {rb rr : Nat → Nat}
theorem tells_k (d : Nat) {s k t : Nat} {h : PH} (hS : SD K l r n m rb rr) (hs : s < 4) (ht : t < 576000) (hk : k < m) (hM : MS h s K l r m rb rr) (hN : NM h t) : ∃ q h', exec (g2 L) (d + 3) 245 [.ref 253, .int (hI h 259 (12 * s + k))] h = some (some (.long q), h') ∧ ((lg_cmp q 0 ≤ nI 0) ↔ wv K l r t (rr k) = 0) ∧ hI h' = hI h ∧ hR h' = hR h := by
  obtain ⟨h1, j, h2, h3, h4, h5⟩ := hM.2 k hk
  obtain ⟨s1, s2, s3⟩ := hS.2.2.2 k hk
  obtain ⟨h', a1, a2, a3⟩ := m245 (L := L) d hS.1 ht s1 h5 (by omega) h4 hN
  refine ⟨_, h', by rw [h2]; exact a1, ?_, a2, a3⟩
  have hb := wv_bd (t := t) hS.1 ht (rr k + 1) (rr k) (by omega) s1
  have := wv_01 (t := t) (hS.1 _ s1) s2
  rw [nI0, lg_cmp_le, ← jv_0, jv_le hb bd0]
  omega
theorem m244_84 {d s t bell : Nat} (hS : SD K l r n m rb rr) (hs : s < 4) (ht : t < 576000) (hb : bell < 4) (x2 : Int32) : ∀ (u k f g : Nat) (v7 : Value) (h : PH), k + u = m → MS h s K l r m rb rr → NM h t → f ≤ 1 → g ≤ 1 → (f = 1 ↔ ∃ k', k' < k ∧ rb k' = bell + 1 ∧ wv K l r t (rr k') ≠ 0) → (g = 1 ↔ ∃ k', k' < k ∧ rb k' = 0 ∧ wv K l r t (rr k') ≠ 0) → ∃ v h', runL (g2 L) (d + 3) 11 false (some .boolean) kc_244 84 [.ref 253, .int (nI bell), .int x2, .int (nI s), .int (nI f), .int (nI g), .int (nI k), v7] [] h = some (some (.int (nI v)), h') ∧ v ≤ 1 ∧ (v = 1 ↔ Rg K l r m rb rr bell t) ∧ hI h' = hI h ∧ hR h' = hR h := by
  have m12 := hS.2.2.1
  intro u
  induction u with
  | zero =>
    intro k f g v7 h hk hM hN hf hg ef eg
    have e : k = m := by omega
    subst e
    rw [e244_84, inB_nI (by omega), asr_d (by omega), ix_nI (by omega), hM.1, if_pos (by rw [nI_leN (by omega) (by omega)]; omega)]
    by_cases z : f = 1
    · rw [if_neg (by rw [nI_eqI (by omega) (by omega)]; omega)]
      by_cases y : g = 1
      · rw [if_pos (by rw [Ne, nI_eqI (by omega) (by omega)]; omega)]
        exact ⟨0, h, rfl, by omega, ⟨fun q => by omega, fun q => absurd (eg.mp y) q.2⟩, rfl, rfl⟩
      · rw [if_neg (by rw [Ne, nI_eqI (by omega) (by omega)]; omega)]
        exact ⟨1, h, rfl, by omega, ⟨fun _ => ⟨ef.mp z, fun q => y (eg.mpr q)⟩, fun _ => rfl⟩, rfl, rfl⟩
    · rw [if_pos (by rw [nI_eqI (by omega) (by omega)]; omega)]
      exact ⟨0, h, rfl, by omega, ⟨fun q => by omega, fun q => absurd (ef.mpr q.1) z⟩, rfl, rfl⟩
  | succ u ih =>
    intro k f g v7 h hk hM hN hf hg ef eg
    have hkm : k < m := by omega
    obtain ⟨s1, s2, s3⟩ := hS.2.2.2 k hkm
    obtain ⟨o1, -⟩ := hM.2 k hkm
    obtain ⟨q, h1, t1, t2, t3, t4⟩ := tells_k (L := L) d hS hs ht hkm hM hN
    have pb : (nI (rb k) - nI 1 = nI bell) ↔ rb k = bell + 1 := by
      rw [eq_comm, pred_eq (by omega) (by omega), eq_comm]
    have p0 := m1_pred (st := rb k) (by omega)
    have i1 : nI 12 * nI s + nI k = nI (12 * s + k) := by rw [nI_times, nI_plus]
    -- what is known behind row k
    have add : ∀ (c x : Nat), (∀ y, y ≤ 1 → (y = 1 ↔ ∃ k', k' < k ∧ rb k' = c ∧ wv K l r t (rr k') ≠ 0) → x ≤ 1 → (rb k ≠ c ∧ x = y ∨ rb k = c ∧ (y = 1 ∧ x = 1 ∨ y = 0 ∧ (x = 1 ↔ wv K l r t (rr k) ≠ 0))) → (x = 1 ↔ ∃ k', k' < k + 1 ∧ rb k' = c ∧ wv K l r t (rr k') ≠ 0)) := by
      intro c x y hy ey hx hc
      have sp : (∃ k', k' < k + 1 ∧ rb k' = c ∧ wv K l r t (rr k') ≠ 0) ↔ ((∃ k', k' < k ∧ rb k' = c ∧ wv K l r t (rr k') ≠ 0) ∨ (rb k = c ∧ wv K l r t (rr k) ≠ 0)) := by
        constructor
        · rintro ⟨k', q1, q2, q3⟩
          by_cases e : k' = k
          · subst e
            exact Or.inr ⟨q2, q3⟩
          · exact Or.inl ⟨k', by omega, q2, q3⟩
        · rintro (⟨k', q1, q2, q3⟩ | ⟨q2, q3⟩)
          · exact ⟨k', by omega, q2, q3⟩
          · exact ⟨k, by omega, q2, q3⟩
      rw [sp, ← ey]
      rcases hc with ⟨c1, c2⟩ | ⟨c1, ⟨c2, c3⟩ | ⟨c2, c3⟩⟩
      · rw [c2]
        exact ⟨Or.inl, fun q => q.resolve_right (fun z => c1 z.1)⟩
      · exact ⟨fun _ => Or.inl c2, fun _ => c3⟩
      · rw [c3]
        exact ⟨fun q => Or.inr ⟨c1, q⟩, fun q => (q.resolve_left (by omega)).2⟩
    have s0 := e244_84 L (d + 3) (nI bell) x2 (nI s) (nI f) (nI g) (nI k) v7 h
    rw [inB_nI (by omega), asr_d (by omega), ix_nI (by omega), hM.1, if_neg (by rw [nI_leN (by omega) (by omega)]; omega), i1, inB_nI (by omega), asr_d (by omega), ix_nI (by omega), o1] at s0
    -- the row's second look
    have two : (rb k = bell + 1 → f = 1) → ∃ v h', runL (g2 L) (d + 3) 11 false (some .boolean) kc_244 151 [.ref 253, .int (nI bell), .int x2, .int (nI s), .int (nI f), .int (nI g), .int (nI k), .int (nI (rb k) - nI 1)] [] h = some (some (.int (nI v)), h') ∧ v ≤ 1 ∧ (v = 1 ↔ Rg K l r m rb rr bell t) ∧ hI h' = hI h ∧ hR h' = hR h := by
      intro hbf
      have ef' := add (bell + 1) f f hf ef hf (by
        by_cases z : rb k = bell + 1
        · exact Or.inr ⟨z, Or.inl ⟨hbf z, hbf z⟩⟩
        · exact Or.inl ⟨z, rfl⟩)
      have s1 := e244_151 L (d + 3) (nI bell) x2 (nI s) (nI f) (nI g) (nI k) (nI (rb k) - nI 1) h
      rw [nI_plus, i1, inB_nI (by omega), asr_d (by omega), ix_nI (by omega)] at s1
      by_cases z : rb k = 0
      · rw [if_neg (by rw [Ne, p0]; exact not_not_intro z)] at s1
        by_cases y : g = 1
        · rw [if_pos (by rw [Ne, nI_eqI (by omega) (by omega)]; omega)] at s1
          obtain ⟨v, h', r1, r2, r3, r4, r5⟩ := ih (k + 1) f g (.int (nI (rb k) - nI 1)) h (by omega) hM hN hf hg ef' (add 0 g g hg eg hg (Or.inr ⟨z, Or.inl ⟨y, y⟩⟩))
          exact ⟨v, h', s1.trans r1, r2, r3, r4, r5⟩
        · have hM1 : MS h1 s K l r m rb rr := hM.cg (fun a _ _ => by rw [t3])
          have hN1 : NM h1 t := fun c hc => by rw [t3]; exact hN c hc
          rw [if_neg (by rw [Ne, nI_eqI (by omega) (by omega)]; omega), t1, cJ_s] at s1
          by_cases w : wv K l r t (rr k) = 0
          · rw [if_pos (t2.mpr w)] at s1
            obtain ⟨v, h', r1, r2, r3, r4, r5⟩ := ih (k + 1) f 0 (.int (nI (rb k) - nI 1)) h1 (by omega) hM1 hN1 hf (by omega) ef' (add 0 0 g hg eg (by omega) (Or.inr ⟨z, Or.inr ⟨Nat.lt_one_iff.mp (Nat.lt_of_le_of_ne (by assumption) y), ⟨fun q => absurd q (by decide), fun q => absurd w q⟩⟩⟩))
            exact ⟨v, h', s1.trans r1, r2, r3, r4.trans t3, r5.trans t4⟩
          · rw [if_neg (fun q => w (t2.mp q))] at s1
            obtain ⟨v, h', r1, r2, r3, r4, r5⟩ := ih (k + 1) f 1 (.int (nI (rb k) - nI 1)) h1 (by omega) hM1 hN1 hf (by omega) ef' (add 0 1 g hg eg (by omega) (Or.inr ⟨z, Or.inr ⟨Nat.lt_one_iff.mp (Nat.lt_of_le_of_ne (by assumption) y), ⟨fun _ => w, fun _ => rfl⟩⟩⟩))
            exact ⟨v, h', s1.trans r1, r2, r3, r4.trans t3, r5.trans t4⟩
      · rw [if_pos (by rw [Ne, p0]; exact z)] at s1
        obtain ⟨v, h', r1, r2, r3, r4, r5⟩ := ih (k + 1) f g (.int (nI (rb k) - nI 1)) h (by omega) hM hN hf hg ef' (add 0 g g hg eg hg (Or.inl ⟨z, rfl⟩))
        exact ⟨v, h', s1.trans r1, r2, r3, r4, r5⟩
    by_cases z : rb k = bell + 1
    · rw [if_neg (by rw [Ne, pb]; exact not_not_intro z)] at s0
      by_cases y : f = 1
      · rw [if_pos (by rw [Ne, nI_eqI (by omega) (by omega)]; omega)] at s0
        obtain ⟨v, h', r1, r2⟩ := two (fun _ => y)
        exact ⟨v, h', s0.trans r1, r2⟩
      · have hM1 : MS h1 s K l r m rb rr := hM.cg (fun a _ _ => by rw [t3])
        have hN1 : NM h1 t := fun c hc => by rw [t3]; exact hN c hc
        have eg' := add 0 g g hg eg hg (Or.inl ⟨by omega, rfl⟩)
        rw [if_neg (by rw [Ne, nI_eqI (by omega) (by omega)]; omega), asr_d (by omega), t1, cJ_s, nI_plus] at s0
        by_cases w : wv K l r t (rr k) = 0
        · rw [if_pos (t2.mpr w)] at s0
          obtain ⟨v, h', r1, r2, r3, r4, r5⟩ := ih (k + 1) 0 g (.int (nI (rb k) - nI 1)) h1 (by omega) hM1 hN1 (by omega) hg (add (bell + 1) 0 f hf ef (by omega) (Or.inr ⟨z, Or.inr ⟨Nat.lt_one_iff.mp (Nat.lt_of_le_of_ne (by assumption) y), ⟨fun q => absurd q (by decide), fun q => absurd w q⟩⟩⟩)) eg'
          exact ⟨v, h', s0.trans r1, r2, r3, r4.trans t3, r5.trans t4⟩
        · rw [if_neg (fun q => w (t2.mp q))] at s0
          obtain ⟨v, h', r1, r2, r3, r4, r5⟩ := ih (k + 1) 1 g (.int (nI (rb k) - nI 1)) h1 (by omega) hM1 hN1 (by omega) hg (add (bell + 1) 1 f hf ef (by omega) (Or.inr ⟨z, Or.inr ⟨Nat.lt_one_iff.mp (Nat.lt_of_le_of_ne (by assumption) y), ⟨fun _ => w, fun _ => rfl⟩⟩⟩)) eg'
          exact ⟨v, h', s0.trans r1, r2, r3, r4.trans t3, r5.trans t4⟩
    · rw [if_pos (by rw [Ne, pb]; exact z)] at s0
      obtain ⟨v, h', r1, r2⟩ := two (fun q => absurd q z)
      exact ⟨v, h', s0.trans r1, r2⟩
theorem m244 (d : Nat) {s t bell : Nat} {h : PH} (hS : SD K l r n m rb rr) (hs : s < 4) (ht : t < 576000) (hb : bell < 4) (hM : MS h s K l r m rb rr) (h6 : hI h 254 6 = nI s) : ∃ v h', exec (g2 L) (d + 4) 244 [.ref 253, .int (nI bell), .int (nI t)] h = some (some (.int (nI v)), h') ∧ v ≤ 1 ∧ (v = 1 ↔ Rg K l r m rb rr bell t) ∧ (∀ a, a ≠ 287 → hI h' a = hI h a) ∧ hR h' = hR h := by
  have s0 := x244 L (d + 3) (nI bell) (nI t) h
  rw [h6, if_pos (by rw [Ne, nI_ne_m1 (by omega)]; exact id)] at s0
  have e : ∀ a, a ≠ 287 → hI (wI (wI (wI (wI (wI h 287 0 (nI t % nI 60)) 287 1 (nI t % nI 1440 / nI 60)) 287 2 (nI t % nI 1440)) 287 3 (nI t / nI 1440 % nI 7)) 287 4 (nI t / nI 1440)) a = hI h a := fun a ha => by rw [wI_ne ha, wI_ne ha, wI_ne ha, wI_ne ha, wI_ne ha]
  obtain ⟨v, h', r1, r2, r3, r4, r5⟩ := m244_84 (L := L) (d := d) hS hs ht hb (nI t) m 0 0 0 dm (wI (wI (wI (wI (wI h 287 0 (nI t % nI 60)) 287 1 (nI t % nI 1440 / nI 60)) 287 2 (nI t % nI 1440)) 287 3 (nI t / nI 1440 % nI 7)) 287 4 (nI t / nI 1440)) (by omega) (hM.cg (fun a p q => e a (by omega))) (by
    intro c hc
    have hc' : c = 0 ∨ c = 1 ∨ c = 2 ∨ c = 3 ∨ c = 4 := by omega
    rcases hc' with rfl | rfl | rfl | rfl | rfl
    · rw [hI_wI, if_neg (by omega), hI_wI, if_neg (by omega), hI_wI, if_neg (by omega), hI_wI, if_neg (by omega), hI_wI, if_pos ⟨rfl, rfl⟩, nI_rest (by omega) (by omega)]
      rfl
    · rw [hI_wI, if_neg (by omega), hI_wI, if_neg (by omega), hI_wI, if_neg (by omega), hI_wI, if_pos ⟨rfl, rfl⟩, nI_rest (by omega) (by omega), nI_quot (by omega) (by omega)]
      rfl
    · rw [hI_wI, if_neg (by omega), hI_wI, if_neg (by omega), hI_wI, if_pos ⟨rfl, rfl⟩, nI_rest (by omega) (by omega)]
      rfl
    · rw [hI_wI, if_neg (by omega), hI_wI, if_pos ⟨rfl, rfl⟩, nI_quot (by omega) (by omega), nI_rest (by omega) (by omega)]
      rfl
    · rw [hI_wI, if_pos ⟨rfl, rfl⟩, nI_quot (by omega) (by omega)]
      rfl) (by omega) (by omega) ⟨fun q => by omega, fun ⟨k', q, _⟩ => by omega⟩ ⟨fun q => by omega, fun ⟨k', q, _⟩ => by omega⟩
  exact ⟨v, h', s0.trans r1, r2, r3, fun a ha => by rw [r4]; exact e a ha, r5⟩
end Srung
