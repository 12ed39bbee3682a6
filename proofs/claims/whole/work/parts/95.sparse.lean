-- PART: strips, the whole reading on both sides.
section Skeep
variable {L : Nat} {s m c : Nat}
theorem m238_12 {d : Nat} (hs : s < 4) (hm : m ≤ 12) : ∀ (u k : Nat) (h : PH), k + u = m → hI h 253 53 = nI m → ∃ h', runL (g2 L) d 11 false none kc_238 12 [.ref 253, .int (nI s), .int (nI k)] [] h = runL (g2 L) d 11 false none kc_238 68 [.ref 253, .int (nI s), .int (nI 0)] [] h' ∧ (∀ x, hI h' 258 x = if 12 * s + k ≤ x ∧ x < 12 * s + m then hI h 283 (x - 12 * s) else hI h 258 x) ∧ (∀ x, hI h' 259 x = if 12 * s + k ≤ x ∧ x < 12 * s + m then nI (400 * s) + hI h 284 (x - 12 * s) else hI h 259 x) ∧ (∀ a, a ≠ 258 → a ≠ 259 → hI h' a = hI h a) ∧ hR h' = hR h := by
  intro u
  induction u with
  | zero =>
    intro k h hk h53
    refine ⟨h, ?_, fun x => by rw [if_neg (by omega)], fun x => by rw [if_neg (by omega)], fun _ _ _ => rfl, rfl⟩
    rw [e238_12, h53, if_pos (by rw [nI_leN (by omega) (by omega)]; omega)]
  | succ u ih =>
    intro k h hk h53
    have s0 := e238_12 L d (nI s) (nI k) h
    rw [h53, if_neg (by rw [nI_leN (by omega) (by omega)]; omega), inB_nI (by omega), asr_d (by omega), nI_times, nI_plus, inB_nI (by omega), asr_d (by omega), asr_d (by omega), asr_d (by omega), ix_nI (by omega), ix_nI (by omega), nI_times, nI_plus] at s0
    obtain ⟨h', r1, r2, r3, r4, r5⟩ := ih (k + 1) (wI (wI h 258 (12 * s + k) (hI h 283 k)) 259 (12 * s + k) (nI (400 * s) + hI h 284 k)) (by omega) (by rw [wI_ne (by omega), wI_ne (by omega)]; exact h53)
    refine ⟨h', s0.trans r1, fun x => ?_, fun x => ?_, fun a p q => by rw [r4 a p q, wI_ne q, wI_ne p], r5⟩
    · rw [r2 x, wI_ne (by omega), wI_ne (by omega), wI_ne (by omega), hI_wI]
      by_cases e : x = 12 * s + k
      · rw [if_neg (by omega), if_pos ⟨rfl, e⟩, if_pos (by omega), show x - 12 * s = k by omega]
      · by_cases y : 12 * s + k ≤ x ∧ x < 12 * s + m
        · rw [if_pos (by omega), if_pos y]
        · rw [if_neg (by omega), if_neg (fun w => e w.2), if_neg y]
    · rw [r3 x, wI_ne (by omega), wI_ne (by omega), hI_wI]
      by_cases e : x = 12 * s + k
      · rw [if_neg (by omega), if_pos ⟨rfl, e⟩, if_pos (by omega), show x - 12 * s = k by omega]
      · by_cases y : 12 * s + k ≤ x ∧ x < 12 * s + m
        · rw [if_pos (by omega), if_pos y]
        · rw [if_neg (by omega), if_neg (fun w => e w.2), wI_ne (by omega), if_neg y]
theorem m238_68 {d : Nat} (hs : s < 4) (hc : c ≤ 400) : ∀ (u k : Nat) (h : PH), k + u = c → hI h 253 56 = nI c → ∃ h', runL (g2 L) d 11 false none kc_238 68 [.ref 253, .int (nI s), .int (nI k)] [] h = some (none, h') ∧ (∀ x, hI h' 260 x = if 400 * s + k ≤ x ∧ x < 400 * s + c then hI h 285 (x - 400 * s) else hI h 260 x) ∧ (∀ x, hI h' 261 x = if 400 * s + k ≤ x ∧ x < 400 * s + c then hI h 286 (x - 400 * s) else hI h 261 x) ∧ (∀ a, a ≠ 260 → a ≠ 261 → hI h' a = hI h a) ∧ hR h' = hR h := by
  intro u
  induction u with
  | zero =>
    intro k h hk h56
    refine ⟨h, ?_, fun x => by rw [if_neg (by omega)], fun x => by rw [if_neg (by omega)], fun _ _ _ => rfl, rfl⟩
    rw [e238_68, h56, if_pos (by rw [nI_leN (by omega) (by omega)]; omega)]
  | succ u ih =>
    intro k h hk h56
    have s0 := e238_68 L d (nI s) (nI k) h
    rw [h56, if_neg (by rw [nI_leN (by omega) (by omega)]; omega), inB_nI (by omega), asr_d (by omega), nI_times, nI_plus, inB_nI (by omega), asr_d (by omega), asr_d (by omega), asr_d (by omega), ix_nI (by omega), ix_nI (by omega), nI_plus] at s0
    obtain ⟨h', r1, r2, r3, r4, r5⟩ := ih (k + 1) (wI (wI h 260 (400 * s + k) (hI h 285 k)) 261 (400 * s + k) (hI h 286 k)) (by omega) (by rw [wI_ne (by omega), wI_ne (by omega)]; exact h56)
    refine ⟨h', s0.trans r1, fun x => ?_, fun x => ?_, fun a p q => by rw [r4 a p q, wI_ne q, wI_ne p], r5⟩
    · rw [r2 x, wI_ne (by omega), wI_ne (by omega), wI_ne (by omega), hI_wI]
      by_cases e : x = 400 * s + k
      · rw [if_neg (by omega), if_pos ⟨rfl, e⟩, if_pos (by omega), show x - 400 * s = k by omega]
      · by_cases y : 400 * s + k ≤ x ∧ x < 400 * s + c
        · rw [if_pos (by omega), if_pos y]
        · rw [if_neg (by omega), if_neg (fun w => e w.2), if_neg y]
    · rw [r3 x, wI_ne (by omega), wI_ne (by omega), hI_wI]
      by_cases e : x = 400 * s + k
      · rw [if_neg (by omega), if_pos ⟨rfl, e⟩, if_pos (by omega), show x - 400 * s = k by omega]
      · by_cases y : 400 * s + k ≤ x ∧ x < 400 * s + c
        · rw [if_pos (by omega), if_pos y]
        · rw [if_neg (by omega), if_neg (fun w => e w.2), wI_ne (by omega), if_neg y]
/-- keepsText -/
theorem m238 (d : Nat) {h : PH} (hs : s < 4) (hm : m ≤ 12) (hc : c ≤ 400) (h53 : hI h 253 53 = nI m) (h56 : hI h 253 56 = nI c) : ∃ h', exec (g2 L) (d + 1) 238 [.ref 253, .int (nI s)] h = some (none, h') ∧ (∀ x, hI h' 257 x = if x = s then nI m else hI h 257 x) ∧ (∀ x, hI h' 258 x = if 12 * s ≤ x ∧ x < 12 * s + m then hI h 283 (x - 12 * s) else hI h 258 x) ∧ (∀ x, hI h' 259 x = if 12 * s ≤ x ∧ x < 12 * s + m then nI (400 * s) + hI h 284 (x - 12 * s) else hI h 259 x) ∧ (∀ x, hI h' 260 x = if 400 * s ≤ x ∧ x < 400 * s + c then hI h 285 (x - 400 * s) else hI h 260 x) ∧ (∀ x, hI h' 261 x = if 400 * s ≤ x ∧ x < 400 * s + c then hI h 286 (x - 400 * s) else hI h 261 x) ∧ (∀ a, ¬ (257 ≤ a ∧ a ≤ 261) → hI h' a = hI h a) ∧ hR h' = hR h := by
  obtain ⟨g1, a1, a2, a3, a4, a5⟩ := m238_12 (L := L) (d := d) hs hm m 0 (wI h 257 s (nI m)) (by omega) (by rw [wI_ne (by omega)]; exact h53)
  obtain ⟨g2', b1', b2', b3', b4', b5'⟩ := m238_68 (L := L) (d := d) hs hc c 0 g1 (by omega) (by rw [a4 253 (by omega) (by omega), wI_ne (by omega)]; exact h56)
  refine ⟨g2', ?_, fun x => ?_, fun x => ?_, fun x => ?_, fun x => ?_, fun x => ?_, fun a ha => ?_, b5'.trans a5⟩
  · rw [x238, inB_nI (by omega), asr_d (by omega), ix_nI (by omega), h53, a1, b1']
  · rw [b4' 257 (by omega) (by omega), a4 257 (by omega) (by omega), hI_wI]
    by_cases e : x = s
    · rw [if_pos ⟨rfl, e⟩, if_pos e]
    · rw [if_neg (fun w => e w.2), if_neg e]
  · rw [b4' 258 (by omega) (by omega), a2 x, Nat.add_zero, wI_ne (by omega), wI_ne (by omega)]
  · rw [b4' 259 (by omega) (by omega), a3 x, Nat.add_zero, wI_ne (by omega), wI_ne (by omega)]
  · rw [b2' x, Nat.add_zero, a4 285 (by omega) (by omega), a4 260 (by omega) (by omega), wI_ne (by omega), wI_ne (by omega)]
  · rw [b3' x, Nat.add_zero, a4 286 (by omega) (by omega), a4 261 (by omega) (by omega), wI_ne (by omega), wI_ne (by omega)]
  · rw [b4' a (by omega) (by omega), a4 a (by omega) (by omega), wI_ne (by omega)]
end Skeep
def rbf (h : PH) (s : Nat) : Nat → Nat := fun k => ix (hI h (213 + 10 * s + 8) k + nI 1)
def rrf (h : PH) (s : Nat) : Nat → Nat := fun k => ix (hI h (213 + 10 * s + 9) k)
/-- the class's strip, and the reference's rows of orders, alike -/
def GD (g w : PH) (s : Nat) : Prop := ∃ n m cd, SD (kf g s) (lef g s) (rif g s) n m (rbf g s) (rrf g s) ∧ CT g s (kf g s) (lef g s) (rif g s) n m (rbf g s) (rrf g s) ∧ CW g s (kf g s) (lef g s) (rif g s) n ∧ hI w 253 53 = nI m ∧ CD w cd ∧ cd.length ≤ 300 ∧ hI w 253 43 = nI 0 ∧ hI w 253 44 = m1 ∧ ∀ k, k < m → hI w 283 k = nI (rbf g s k) - nI 1 ∧ ∃ a, hI w 284 k = nI a ∧ (pf (kf g s) (lef g s) (rif g s) (rrf g s k)).length ≤ 300 ∧ AtL cd a (pf (kf g s) (lef g s) (rif g s) (rrf g s k) ++ [(408, 0)])
section Sparse
variable {L : Nat} {T : Nat → Nat} {t s : Nat}
theorem strip_par {h : PH} (ht : t ≤ 300) (hT : ∀ k, T k < 256) (hs : s < 4) (h6 : ∀ k, k < t → hI h 206 k = nI (T k)) (h5 : hI h 205 0 = nI t) {hm0 : PH} (hQ : QS hm0 T t 0 0 0 0 4 []) (h53 : hI hm0 253 53 = nI 0) : ∃ v g hm', exec (g2 L) 99 94 [.ref 207, .ref (213 + 10 * s)] h = some (some (.int (nI v)), g) ∧ ML L hm0 = runL (g2 L) 99 11 false (some .int) kc_214 167 [.ref 253] [] hm' ∧ RFm hm0 hm' ∧ (∀ a, ¬ (207 ≤ a ∧ a ≤ 211) → ¬ (213 + 10 * s ≤ a ∧ a ≤ 213 + 10 * s + 9) → hI g a = hI h a) ∧ hI g 207 0 = nI 1 ∧ ((v = 1 ∧ hI g 207 1 = nI 0 ∧ hI g 207 2 = m1 ∧ GD g hm' s) ∨ (v = 0 ∧ ∃ f q, hI g 207 1 = nI f ∧ hI g 207 2 = nI q ∧ 1 ≤ f ∧ f ≤ 4 ∧ FM hm' f q)) := by
  have kk := kk30 hs
  obtain ⟨N, g1, a1, a2, a3, a4, a5, a6, a7, a8⟩ := m95 (L := L) 94 (h := wI (wI (wI h 207 0 (nI 1)) 207 1 (nI 0)) 207 2 m1) ht hT (fun k hk => by rw [wI_ne (by omega), wI_ne (by omega), wI_ne (by omega)]; exact h6 k hk) (by rw [wI_ne (by omega), wI_ne (by omega), wI_ne (by omega)]; exact h5)
  have g209 : hI g1 209 0 = nI (kd T t 0) := by
    unfold kd
    by_cases z : N = 0
    · subst z
      rw [a5, if_neg (by rw [a3]; omega)]
    · rw [if_pos (a4 0 (by omega)).1]
      exact (a4 0 (by omega)).2.1
  -- the heap at the first token
  have fo : ∀ a, a ≠ 207 → a ≠ 213 + 10 * s → hI (wI (wI (wI (wI (wR (wI (wI g1 207 4 (nI 0)) 207 5 (nI (kd T t 0))) 207 6 (213 + 10 * s)) (213 + 10 * s) 0 (nI 0)) (213 + 10 * s) 1 (nI 0)) (213 + 10 * s) 11 m1) (213 + 10 * s) 12 (nI 1)) a = hI g1 a := fun a p q => by rw [wI_ne q, wI_ne q, wI_ne q, wI_ne q, hI_wR, wI_ne p, wI_ne p]
  have f7 : ∀ k, k ≠ 4 → k ≠ 5 → hI (wI (wI (wI (wI (wR (wI (wI g1 207 4 (nI 0)) 207 5 (nI (kd T t 0))) 207 6 (213 + 10 * s)) (213 + 10 * s) 0 (nI 0)) (213 + 10 * s) 1 (nI 0)) (213 + 10 * s) 11 m1) (213 + 10 * s) 12 (nI 1)) 207 k = hI g1 207 k := fun k p q => by rw [wI_ne (by omega), wI_ne (by omega), wI_ne (by omega), wI_ne (by omega), hI_wR, hI_wI, if_neg (by omega), hI_wI, if_neg (by omega)]
  have g7 : ∀ k, hI g1 207 k = if k = 2 then m1 else if k = 1 then nI 0 else if k = 0 then nI 1 else hI h 207 k := fun k => by
    rw [a7 207 (by omega), hI_wI, hI_wI, hI_wI]
    by_cases e2 : k = 2
    · rw [if_pos ⟨rfl, e2⟩, if_pos e2]
    rw [if_neg (fun w => e2 w.2), if_neg e2]
    by_cases e1 : k = 1
    · rw [if_pos ⟨rfl, e1⟩, if_pos e1]
    rw [if_neg (fun w => e1 w.2), if_neg e1]
    by_cases e0 : k = 0
    · rw [if_pos ⟨rfl, e0⟩, if_pos e0]
    rw [if_neg (fun w => e0 w.2), if_neg e0]
  have s0 := x94 L 98 (213 + 10 * s) h
  rw [a1, cV_s, okA_of kk (by omega), asr_true, g209, x104 _ _ _ hs, cV_s] at s0
  have C0 : CC (wI (wI (wI (wI (wR (wI (wI g1 207 4 (nI 0)) 207 5 (nI (kd T t 0))) 207 6 (213 + 10 * s)) (213 + 10 * s) 0 (nI 0)) (213 + 10 * s) 1 (nI 0)) (213 + 10 * s) 11 m1) (213 + 10 * s) 12 (nI 1)) T t N s 0 0 := by
    refine ⟨⟨a2, a3, fun i hi => ?_⟩, Nat.zero_le _, ?_, ?_, ?_, ?_, ?_, ?_, by omega, fun i hi => absurd hi (Nat.not_lt_zero _), 1, ?_, Or.inr ⟨Or.inl rfl, fun i hi => absurd hi (Nat.not_lt_zero _)⟩⟩
    · rw [fo 209 (by omega) (by omega), fo 210 (by omega) (by omega), fo 211 (by omega) (by omega)]
      unfold kd nb
      by_cases z : i = N
      · subst z
        rw [if_neg (by rw [a3]; omega), a3]
        exact ⟨a5, a6, fun q => by omega⟩
      · obtain ⟨k1, k2, k3, k4⟩ := a4 i (by omega)
        rw [if_pos k1]
        exact ⟨k2, k3, fun _ => k4⟩
    · rw [wI_ne (by omega), wI_ne (by omega), wI_ne (by omega), wI_ne (by omega), hI_wR, hI_wI, if_neg (by omega), hI_wI, if_pos ⟨rfl, rfl⟩]
    · rw [wI_ne (by omega), wI_ne (by omega), wI_ne (by omega), wI_ne (by omega), hI_wR, hI_wI, if_pos ⟨rfl, rfl⟩]
    · rw [f7 1 (by omega) (by omega), g7 1]
      rfl
    · rw [f7 2 (by omega) (by omega), g7 2]
      rfl
    · rw [hR_wI, hR_wI, hR_wI, hR_wI, hR_wR, if_pos ⟨rfl, rfl⟩]
    · rw [hI_wI, if_neg (by omega), hI_wI, if_neg (by omega), hI_wI, if_neg (by omega), hI_wI, if_pos ⟨rfl, rfl⟩]
    · rw [hI_wI, if_pos ⟨rfl, rfl⟩]
  have R0 : RW (wI (wI (wI (wI (wR (wI (wI g1 207 4 (nI 0)) 207 5 (nI (kd T t 0))) 207 6 (213 + 10 * s)) (213 + 10 * s) 0 (nI 0)) (213 + 10 * s) 1 (nI 0)) (213 + 10 * s) 11 m1) (213 + 10 * s) 12 (nI 1)) hm0 s 0 0 [] := ⟨by rw [hI_wI, if_neg (by omega), hI_wI, if_neg (by omega), hI_wI, if_pos ⟨rfl, rfl⟩], h53, by omega, fun k hk => absurd hk (Nat.not_lt_zero _)⟩
  have o11 : hI (wI (wI (wI (wI (wR (wI (wI g1 207 4 (nI 0)) 207 5 (nI (kd T t 0))) 207 6 (213 + 10 * s)) (213 + 10 * s) 0 (nI 0)) (213 + 10 * s) 1 (nI 0)) (213 + 10 * s) 11 m1) (213 + 10 * s) 12 (nI 1)) (213 + 10 * s) 11 = m1 := by rw [hI_wI, if_neg (by omega), hI_wI, if_pos ⟨rfl, rfl⟩]
  have o70 : hI (wI (wI (wI (wI (wR (wI (wI g1 207 4 (nI 0)) 207 5 (nI (kd T t 0))) 207 6 (213 + 10 * s)) (213 + 10 * s) 0 (nI 0)) (213 + 10 * s) 1 (nI 0)) (213 + 10 * s) 11 m1) (213 + 10 * s) 12 (nI 1)) 207 0 = nI 1 := by
    rw [f7 0 (by omega) (by omega), g7 0]
    rfl
  have fh : ∀ a, ¬ (207 ≤ a ∧ a ≤ 211) → a ≠ 213 + 10 * s → hI (wI (wI (wI (wI (wR (wI (wI g1 207 4 (nI 0)) 207 5 (nI (kd T t 0))) 207 6 (213 + 10 * s)) (213 + 10 * s) 0 (nI 0)) (213 + 10 * s) 1 (nI 0)) (213 + 10 * s) 11 m1) (213 + 10 * s) 12 (nI 1)) a = hI h a := fun a p q => by rw [fo a (by omega) q, a7 a (by omega), wI_ne (by omega), wI_ne (by omega), wI_ne (by omega)]
  revert s0 C0 R0 o11 o70 fh
  generalize (wI (wI (wI (wI (wR (wI (wI g1 207 4 (nI 0)) 207 5 (nI (kd T t 0))) 207 6 (213 + 10 * s)) (213 + 10 * s) 0 (nI 0)) (213 + 10 * s) 1 (nI 0)) (213 + 10 * s) 11 m1) (213 + 10 * s) 12 (nI 1)) = hc0
  intro s0 C0 R0 o11 o70 fh
  rcases rows_loop (L := L) (D := 98) ht hT hs (by omega) 301 0 0 0 [] hc0 hm0 (by omega) C0 hQ R0 (Nat.le_refl _) (Nat.le_refl _) with ⟨j', n', m', cd', hc', hm', r1, r2, r3, r4, r5, r6, r7, r8⟩ | ⟨hc', hm', r1, r2, r3⟩
  · obtain ⟨g, b1', b2', b3', b4'⟩ := m122 (L := L) 97 hs r2.2.2.2.2.2.2.2.2.1 r2.2.2.2.2.2.2.2.1
    obtain ⟨p1, p2, p3⟩ := b4' r2.2.2.2.2.2.2.2
    have N300 := r2.2.2.2.2.2.2.2.2.1
    unfold FIN at r1
    rw [b1', cV_s, b2' 207 (by omega) (by omega), r2.2.2.2.2.1, if_neg (fun q => q rfl)] at r1
    have kfe : kf g s = kf hc' s := by unfold kf; rw [b2' _ (by omega) (by omega)]
    have lee : lef g s = lef hc' s := by unfold lef; rw [b2' _ (by omega) (by omega)]
    have rie : rif g s = rif hc' s := by unfold rif; rw [b2' _ (by omega) (by omega)]
    have rows : ∀ k, k < m' → ∃ b i a, b ≤ 4 ∧ rbf g s k = b ∧ rrf g s k = i ∧ hI hc' (213 + 10 * s + 8) k = nI b - nI 1 ∧ hI hm' 283 k = nI b - nI 1 ∧ i < n' ∧ bk (kf hc' s i) ∧ hI hc' (213 + 10 * s + 9) k = nI i ∧ hI hm' 284 k = nI a ∧ (Pf hc' s i).length ≤ 300 ∧ AtL cd' a (Pf hc' s i ++ [(408, 0)]) := by
      intro k hk
      obtain ⟨b, i, a, t1, t2, t3, t4, t5, t6, t7, t8, t9⟩ := r5.2.2.2 k hk
      refine ⟨b, i, a, t1, ?_, ?_, t2, t3, t4, t5, t6, t7, t8, t9⟩
      · unfold rbf
        rw [b2' _ (by omega) (by omega), t2, Int32.sub_add_cancel, ix_nI (by omega)]
      · unfold rrf
        rw [b2' _ (by omega) (by omega), t6, ix_nI (by omega)]
    have sd : SD (kf hc' s) (lef hc' s) (rif hc' s) n' m' (rbf g s) (rrf g s) := ⟨fun i hi => (r2.2.2.2.2.2.2.2.2.2.1 i hi).1, N300, r5.2.2.1, fun k hk => by
      obtain ⟨b, i, a, t1, t2, t3, t4, t5, t6, t7, t8⟩ := rows k hk
      rw [t2, t3]
      exact ⟨t6, t7, t1⟩⟩
    refine ⟨1, g, hm', s0.trans r1, r3, r8, fun a p q => ?_, ?_, Or.inl ⟨rfl, ?_, ?_, n', m', cd', by rw [kfe, lee, rie]; exact sd, ?_, ?_, r5.2.1, r4.2.2.2.2.2.2.2.2, r6, r4.2.2.1, r4.2.2.2.1, fun k hk => ?_⟩⟩
    · rw [b2' a (by omega) (by omega), r7.1 a (by omega) q, fh a p (by omega)]
    · rw [b2' 207 (by omega) (by omega), r7.2.2.1]
      exact o70
    · rw [b2' 207 (by omega) (by omega)]
      exact r2.2.2.2.2.1
    · rw [b2' 207 (by omega) (by omega)]
      exact r2.2.2.2.2.2.1
    · rw [kfe, lee, rie]
      refine ⟨by rw [b2' _ (by omega) (by omega)]; exact r2.2.2.2.2.2.2.2.1, by rw [b2' _ (by omega) (by omega)]; exact r5.1, fun i hi => ?_, fun k hk => ?_, ⟨odh g s, vf hc' s, foh g s, fun j hj => ⟨(nI_ix _).symm, p1 j hj⟩, p2, fun q hq => ⟨(nI_ix _).symm, p3 q hq⟩, fun i hi => (r2.2.2.2.2.2.2.2.2.2.1 i hi).2.1⟩, ?_⟩
      · rw [b2' _ (by omega) (by omega), b2' _ (by omega) (by omega), b2' _ (by omega) (by omega)]
        exact ⟨(nI_ix _).symm, (nI_ix _).symm, fun _ => (nI_ix _).symm⟩
      · obtain ⟨b, i, a, t1, t2, t3, t4, t5, t6, t7, t8, t9⟩ := rows k hk
        rw [b2' _ (by omega) (by omega), b2' _ (by omega) (by omega), t2, t3]
        exact ⟨t4, t8⟩
      · rw [b2' _ (by omega) (by omega)]
        exact r2.2.2.2.2.2.2.2.2.2.2
    · refine Or.inl ?_
      rw [b2' _ (by omega) (by omega), r7.2.1]
      exact o11
    · obtain ⟨b, i, a, t1, t2, t3, t4, t5, t6, t7, t8, t9, t10, t11⟩ := rows k hk
      rw [kfe, lee, rie, t2, t3]
      exact ⟨t5, a, t9, t10, t11⟩
  · obtain ⟨f, q, f1, f2, f3, f4, f5⟩ := r3.1
    obtain ⟨n', n3, n0⟩ := r3.2.2.1
    obtain ⟨g, b1', b2', b3', b4'⟩ := m122 (L := L) 97 hs n3 n0
    have fz : hI hc' 207 1 ≠ nI 0 := by rw [f1, Ne, nI_eqI (by omega) (by omega)]; omega
    unfold FIN at r1
    rw [b1', cV_s, b2' 207 (by omega) (by omega), if_pos fz] at r1
    refine ⟨0, g, hm', s0.trans r1, r2, r3.2.2.2, fun a p q' => ?_, ?_, Or.inr ⟨rfl, f, q, ?_, ?_, f3, f4, f5⟩⟩
    · rw [b2' a (by omega) (by omega), r3.2.1.1 a (by omega) q', fh a p (by omega)]
    · rw [b2' 207 (by omega) (by omega), r3.2.1.2.2.1]
      exact o70
    · rw [b2' 207 (by omega) (by omega)]
      exact f1
    · rw [b2' 207 (by omega) (by omega)]
      exact f2
end Sparse
