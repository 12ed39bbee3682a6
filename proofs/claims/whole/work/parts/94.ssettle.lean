-- PART: strips, the class settles a strip.
def ct (P : Nat → Prop) [DecidablePred P] : Nat → Nat
  | 0 => 0
  | k + 1 => ct P k + if P k then 1 else 0
theorem ct_le (P : Nat → Prop) [DecidablePred P] : ∀ k, ct P k ≤ k
  | 0 => Nat.le_refl _
  | k + 1 => by
    have := ct_le P k
    rw [ct]
    split <;> omega
theorem ct_mono (P : Nat → Prop) [DecidablePred P] (k : Nat) : ∀ u, ct P k ≤ ct P (k + u)
  | 0 => Nat.le_refl _
  | u + 1 => by
    have := ct_mono P k u
    rw [← Nat.add_assoc, ct]
    omega
theorem ct_sum (lv : Nat → Nat) (q : Nat) : ∀ k, ct (fun x => lv x < q) k + ct (fun x => lv x = q) k = ct (fun x => lv x < q + 1) k
  | 0 => rfl
  | k + 1 => by
    have := ct_sum lv q k
    rw [ct, ct, ct]
    by_cases a : lv k < q
    · rw [if_pos a, if_neg (by omega), if_pos (by omega)]
      omega
    · by_cases b : lv k = q
      · rw [if_neg a, if_pos b, if_pos (by omega)]
        omega
      · rw [if_neg a, if_neg b, if_neg (by omega)]
        omega
theorem ct_all (P : Nat → Prop) [DecidablePred P] : ∀ k, (∀ x, x < k → P x) → ct P k = k
  | 0, _ => rfl
  | k + 1, h => by
    rw [ct, ct_all P k (fun x hx => h x (by omega)), if_pos (h k (by omega))]
def odh (h : PH) (s : Nat) : Nat → Nat := fun i => ix (hI h (213 + 10 * s + 5) i)
def foh (h : PH) (s : Nat) : Nat → Nat := fun i => ix (hI h (213 + 10 * s + 6) i)
/-- what is right of the order up to level q, node i -/
def OP (K l r lv od : Nat → Nat) (n F q i : Nat) : Prop := (∀ a, a < F → od a < n ∧ (lv (od a) < q ∨ (lv (od a) = q ∧ od a < i)) ∧ (nl (K (od a)) → (∃ b, b < a ∧ od b = l (od a)) ∧ ∃ b, b < a ∧ od b = r (od a))) ∧ ∀ x, x < n → (lv x < q ∨ (lv x = q ∧ x < i)) → ∃ a, a < F ∧ od a = x
section Ssettle
variable {L : Nat} {s n : Nat} {K l r lv : Nat → Nat} {G : Prop}
theorem m122_18 {d q : Nat} (hs : s < 4) (hn : n ≤ 300) (hq : q < 4) (hlv : ∀ i, i < n → lv i < 4294967296) (hG : G → ∀ i, i < n → Nd K l r i ∧ LVl K l r lv i) : ∀ (u i : Nat) (h : PH), i + u = n → hI h (213 + 10 * s) 0 = nI n → (∀ i, i < n → hI h (213 + 10 * s + 4) i = nI (lv i)) → (G → OP K l r lv (odh h s) n (ct (fun x => lv x < q) n + ct (fun x => lv x = q) i) q i) → ∃ h' v3, runL (g2 L) d 10 false none kc_122 18 [.ref (213 + 10 * s), .int (nI (ct (fun x => lv x < q) n + ct (fun x => lv x = q) i)), .int (nI q), .int (nI i)] [] h = runL (g2 L) d 10 false none kc_122 4 [.ref (213 + 10 * s), .int (nI (ct (fun x => lv x < q + 1) n)), .int (nI (q + 1)), v3] [] h' ∧ (G → OP K l r lv (odh h' s) n (ct (fun x => lv x < q + 1) n) (q + 1) 0) ∧ (∀ a, a < ct (fun x => lv x < q) n + ct (fun x => lv x = q) i → odh h' s a = odh h s a) ∧ (∀ a, a ≠ 213 + 10 * s + 5 → hI h' a = hI h a) ∧ hR h' = hR h := by
  intro u
  induction u with
  | zero =>
    intro i h hi h0 h4 hP
    have e : i = n := by omega
    subst e
    have cs := ct_sum lv q i
    refine ⟨h, .int (nI i), ?_, fun g => ?_, fun _ _ => rfl, fun _ _ => rfl, rfl⟩
    · rw [e122_18 _ _ _ hs, h0, if_pos (by rw [nI_leN (by omega) (by omega)]; omega), nI_plus, cs]
    · obtain ⟨p1, p2⟩ := hP g
      rw [cs] at p1 p2
      refine ⟨fun a ha => ?_, fun x hx hx2 => p2 x hx (by omega)⟩
      obtain ⟨y1, y2, y3⟩ := p1 a ha
      exact ⟨y1, by omega, y3⟩
  | succ u ih =>
    intro i h hi h0 h4 hP
    have li := hlv i (by omega)
    have cl := ct_le (fun x => lv x < q + 1) n
    have cs := ct_sum lv q n
    have cm := ct_mono (fun x => lv x = q) (i + 1) u
    rw [show i + 1 + u = n by omega] at cm
    have s0 := e122_18 L d s hs (nI (ct (fun x => lv x < q) n + ct (fun x => lv x = q) i)) (nI q) (nI i) h
    have cc : ct (fun x => lv x = q) (i + 1) = ct (fun x => lv x = q) i + if lv i = q then 1 else 0 := rfl
    rw [h0, if_neg (by rw [nI_leN (by omega) (by omega)]; omega), inB_nI (by omega), asr_d (by omega), ix_nI (by omega), h4 i (by omega), nI_plus] at s0
    by_cases z : lv i = q
    · rw [if_pos z] at cc
      have fl : ct (fun x => lv x < q) n + ct (fun x => lv x = q) i < n := by omega
      rw [if_neg (by rw [z]; exact fun w => w rfl), inB_nI (by omega), asr_d (by omega), ix_nI (by omega), nI_plus] at s0
      have od' : ∀ a, odh (wI h (213 + 10 * s + 5) (ct (fun x => lv x < q) n + ct (fun x => lv x = q) i) (nI i)) s a = if a = ct (fun x => lv x < q) n + ct (fun x => lv x = q) i then i else odh h s a := fun a => by
        unfold odh
        rw [hI_wI]
        by_cases e : a = ct (fun x => lv x < q) n + ct (fun x => lv x = q) i
        · rw [if_pos ⟨rfl, e⟩, if_pos e, ix_nI (by omega)]
        · rw [if_neg (fun w => e w.2), if_neg e]
      obtain ⟨h', v3, r1, r2, r3, r4, r5⟩ := ih (i + 1) (wI h (213 + 10 * s + 5) (ct (fun x => lv x < q) n + ct (fun x => lv x = q) i) (nI i)) (by omega) (by rw [wI_ne (by omega)]; exact h0) (fun k hk => by rw [wI_ne (by omega)]; exact h4 k hk) (fun g => by
        obtain ⟨p1, p2⟩ := hP g
        obtain ⟨nd, lvl⟩ := hG g i (by omega)
        have ch : ∀ x, x < i → lv x ≤ lv i → ∃ b, b < ct (fun x => lv x < q) n + ct (fun x => lv x = q) i ∧ odh h s b = x := fun x hx hx2 => p2 x (by omega) (by omega)
        refine ⟨fun a ha => ?_, fun x hx hx2 => ?_⟩
        · rw [od' a]
          by_cases e : a = ct (fun x => lv x < q) n + ct (fun x => lv x = q) i
          · rw [if_pos e]
            refine ⟨by omega, Or.inr ⟨z, by omega⟩, fun w => ?_⟩
            rcases nd with nd | nd | ⟨nd1, nd2, nd3, nd4⟩
            · unfold nl at w
              omega
            · unfold nl at w
              omega
            · obtain ⟨w1, w2⟩ := lvl.2.2.2 w
              obtain ⟨b, c1, c2⟩ := ch (l i) nd2 w1
              obtain ⟨b', c1', c2'⟩ := ch (r i) nd3 w2
              exact ⟨⟨b, by omega, by rw [od' b, if_neg (by omega)]; exact c2⟩, b', by omega, by rw [od' b', if_neg (by omega)]; exact c2'⟩
          · rw [if_neg e]
            obtain ⟨y1, y2, y3⟩ := p1 a (by omega)
            refine ⟨y1, by omega, fun w => ?_⟩
            obtain ⟨⟨b, c1, c2⟩, b', c1', c2'⟩ := y3 w
            exact ⟨⟨b, c1, by rw [od' b, if_neg (by omega)]; exact c2⟩, b', c1', by rw [od' b', if_neg (by omega)]; exact c2'⟩
        · by_cases e : x = i
          · exact ⟨ct (fun x => lv x < q) n + ct (fun x => lv x = q) i, by omega, by rw [od' _, if_pos rfl, e]⟩
          · obtain ⟨a, c1, c2⟩ := p2 x hx (by omega)
            exact ⟨a, by omega, by rw [od' a, if_neg (by omega)]; exact c2⟩)
      rw [cc, ← Nat.add_assoc] at r1 r3
      refine ⟨h', v3, s0.trans r1, r2, fun a ha => ?_, fun a ha => by rw [r4 a ha, wI_ne ha], r5⟩
      rw [r3 a (by omega), od' a, if_neg (by omega)]
    · rw [if_neg z] at cc
      rw [if_pos (by rw [Ne, nI_eqI (by omega) (by omega)]; exact z)] at s0
      obtain ⟨h', v3, r1, r2, r3, r4, r5⟩ := ih (i + 1) h (by omega) h0 h4 (fun g => by
        obtain ⟨p1, p2⟩ := hP g
        rw [cc, Nat.add_zero]
        refine ⟨fun a ha => ?_, fun x hx hx2 => p2 x hx ?_⟩
        · obtain ⟨y1, y2, y3⟩ := p1 a ha
          exact ⟨y1, by omega, y3⟩
        · by_cases e : x = i
          · subst e
            omega
          · omega)
      rw [cc, Nat.add_zero] at r1 r3
      exact ⟨h', v3, s0.trans r1, r2, r3, r4, r5⟩
theorem m122_4 {d : Nat} (hs : s < 4) (hn : n ≤ 300) (hlv : ∀ i, i < n → lv i < 4294967296) (hG : G → ∀ i, i < n → Nd K l r i ∧ LVl K l r lv i) : ∀ (u q : Nat) (v3 : Value) (h : PH), q + u = 4 → hI h (213 + 10 * s) 0 = nI n → (∀ i, i < n → hI h (213 + 10 * s + 4) i = nI (lv i)) → (G → OP K l r lv (odh h s) n (ct (fun x => lv x < q) n) q 0) → (∀ q', q' < q → foh h s q' = ct (fun x => lv x < q') n) → ∃ h', runL (g2 L) d 10 false none kc_122 4 [.ref (213 + 10 * s), .int (nI (ct (fun x => lv x < q) n)), .int (nI q), v3] [] h = some (none, h') ∧ (G → OP K l r lv (odh h' s) n (ct (fun x => lv x < 4) n) 4 0) ∧ (∀ q', q' < 4 → foh h' s q' = ct (fun x => lv x < q') n) ∧ (∀ q', q ≤ q' → q' < 4 → G → ∀ a, a < ct (fun x => lv x < q') n → lv (odh h' s a) < q') ∧ (∀ a, a < ct (fun x => lv x < q) n → odh h' s a = odh h s a) ∧ (∀ a, a ≠ 213 + 10 * s + 5 → a ≠ 213 + 10 * s + 6 → hI h' a = hI h a) ∧ hR h' = hR h := by
  intro u
  induction u with
  | zero =>
    intro q v3 h hq h0 h4 hP hF
    have e : q = 4 := by omega
    subst e
    refine ⟨h, ?_, hP, hF, fun q' a b => by omega, fun _ _ => rfl, fun _ _ _ => rfl, rfl⟩
    rw [e122_4 _ _ _ hs, if_pos (by decide)]
  | succ u ih =>
    intro q v3 h hq h0 h4 hP hF
    have cl := ct_le (fun x => lv x < q) n
    have s0 := e122_4 L d s hs (nI (ct (fun x => lv x < q) n)) (nI q) v3 h
    rw [if_neg (by rw [nI_leN (by omega) (by omega)]; omega), inB_nI (by omega), asr_d (by omega), ix_nI (by omega)] at s0
    have oe : odh (wI h (213 + 10 * s + 6) q (nI (ct (fun x => lv x < q) n))) s = odh h s := by
      unfold odh
      rw [wI_ne (by omega)]
    have c0 : ct (fun x => lv x < q) n + ct (fun x => lv x = q) 0 = ct (fun x => lv x < q) n := rfl
    obtain ⟨h1, v3', r1, r2, r3, r4, r5⟩ := m122_18 (L := L) (d := d) (q := q) (K := K) (l := l) (r := r) (G := G) hs hn (by omega) hlv hG n 0 (wI h (213 + 10 * s + 6) q (nI (ct (fun x => lv x < q) n))) (by omega) (by rw [wI_ne (by omega)]; exact h0) (fun i hi => by rw [wI_ne (by omega)]; exact h4 i hi) (fun g => by rw [oe, c0]; exact hP g)
    rw [c0] at r1 r3
    have f1 : ∀ q', q' < q + 1 → foh h1 s q' = ct (fun x => lv x < q') n := fun q' hq' => by
      unfold foh
      rw [r4 _ (by omega), hI_wI]
      by_cases e : q' = q
      · rw [if_pos ⟨rfl, e⟩, e, ix_nI (by omega)]
      · rw [if_neg (fun w => e w.2)]
        exact hF q' (by omega)
    obtain ⟨h', t1, t2, t3, t4, t5, t6, t7⟩ := ih (q + 1) v3' h1 (by omega) (by rw [r4 _ (by omega), wI_ne (by omega)]; exact h0) (fun i hi => by rw [r4 _ (by omega), wI_ne (by omega)]; exact h4 i hi) r2 f1
    have cs := ct_sum lv q n
    refine ⟨h', (s0.trans r1).trans t1, t2, t3, fun q' a b g => ?_, fun a ha => ?_, fun a p1 p2 => by rw [t6 a p1 p2, r4 a p1, wI_ne p2], t7.trans r5⟩
    · by_cases e : q' = q
      · subst e
        intro a ha
        rw [t5 a (by omega), r3 a ha, oe]
        have := ((hP g).1 a ha).2.1
        omega
      · exact t4 q' (by omega) b g
    · rw [t5 a (by omega), r3 a ha, oe]
/-- settle -/
theorem m122 (d : Nat) {h : PH} (hs : s < 4) (hn : n ≤ 300) (h0 : hI h (213 + 10 * s) 0 = nI n) : ∃ h', exec (g2 L) (d + 1) 122 [.ref (213 + 10 * s)] h = some (none, h') ∧ (∀ a, a ≠ 213 + 10 * s + 5 → a ≠ 213 + 10 * s + 6 → hI h' a = hI h a) ∧ hR h' = hR h ∧ (CN h s n → (∀ j, j < n → odh h' s j < n ∧ (nl (kf h s (odh h' s j)) → (∃ a, a < j ∧ odh h' s a = lef h s (odh h' s j)) ∧ ∃ b, b < j ∧ odh h' s b = rif h s (odh h' s j))) ∧ (∀ i, i < n → ∃ j, j < n ∧ odh h' s j = i) ∧ ∀ q, q < 4 → foh h' s q ≤ n ∧ ∀ j, j < foh h' s q → vf h s (odh h' s j) < q) := by
  have z0 : ct (fun x => vf h s x < 0) n = 0 := by
    have : ∀ k, ct (fun x => vf h s x < 0) k = 0 := by
      intro k
      induction k with
      | zero => rfl
      | succ k ih => rw [ct, ih, if_neg (Nat.not_lt_zero _)]
    exact this n
  obtain ⟨h', r1, r2, r3, r4, r5, r6, r7⟩ := m122_4 (L := L) (d := d) (s := s) (n := n) (K := kf h s) (l := lef h s) (r := rif h s) (lv := vf h s) (G := CN h s n) hs hn (fun i _ => (hI h (213 + 10 * s + 4) i).toBitVec.isLt) (fun g i hi => ⟨(g.2.2.1 i hi).1, (g.2.2.1 i hi).2.1⟩) 4 0 dm h rfl h0 (fun i _ => (nI_ix _).symm) (fun _ => ⟨fun a ha => by rw [z0] at ha; omega, fun x _ hx => by omega⟩) (fun q' hq' => by omega)
  refine ⟨h', ?_, r6, r7, fun g => ?_⟩
  · rw [x122 _ _ _ hs]
    rw [z0] at r1
    exact r1
  · obtain ⟨p1, p2⟩ := r2 g
    have all : ct (fun x => vf h s x < 4) n = n := ct_all _ n (fun x hx => by have := (g.2.2.1 x hx).2.2; omega)
    rw [all] at p1 p2
    refine ⟨fun j hj => ⟨(p1 j hj).1, (p1 j hj).2.2⟩, fun i hi => p2 i hi (Or.inl (by have := (g.2.2.1 i hi).2.2; omega)), fun q hq => ?_⟩
    rw [r3 q hq]
    exact ⟨ct_le _ _, r4 q (by omega) hq g⟩
end Ssettle
