-- PART: bells, the class's strip shows a minute.
def nl (k : Nat) : Prop := (9 ≤ k ∧ k ≤ 11) ∨ (17 ≤ k ∧ k ≤ 28)
/-- how quick a node is -/
def LVl (K l r lv : Nat → Nat) (i : Nat) : Prop := (K i = 12 ∨ K i = 14 → 3 ≤ lv i) ∧ (K i = 13 → 2 ≤ lv i) ∧ (K i = 15 ∨ K i = 16 → 1 ≤ lv i) ∧ (nl (K i) → lv (l i) ≤ lv i ∧ lv (r i) ≤ lv i)
def Pd (K : Nat → Nat) (n p : Nat) : Prop := p = 576000 ∨ ((p = 1 ∨ p = 60 ∨ p = 1440 ∨ p = 10080) ∧ ∀ i, i < n → (K i = 12 → 60 ≤ p) ∧ (K i = 13 ∨ K i = 14 → 1440 ≤ p) ∧ (K i = 15 → 10080 ≤ p) ∧ K i ≠ 16)
/-- what of a strip does not change while it shows minutes -/
def CT (h : PH) (s : Nat) (K l r : Nat → Nat) (n m : Nat) (rb rr : Nat → Nat) : Prop := hI h (213 + 10 * s) 0 = nI n ∧ hI h (213 + 10 * s) 1 = nI m ∧ (∀ i, i < n → hI h (213 + 10 * s + 1) i = nI (K i) ∧ hI h (213 + 10 * s + 2) i = nI (l i) ∧ (nl (K i) → hI h (213 + 10 * s + 3) i = nI (r i))) ∧ (∀ k, k < m → hI h (213 + 10 * s + 8) k = nI (rb k) - nI 1 ∧ hI h (213 + 10 * s + 9) k = nI (rr k)) ∧ (∃ od lv fo : Nat → Nat, (∀ j, j < n → hI h (213 + 10 * s + 5) j = nI (od j) ∧ od j < n ∧ (nl (K (od j)) → (∃ a, a < j ∧ od a = l (od j)) ∧ ∃ b, b < j ∧ od b = r (od j))) ∧ (∀ i, i < n → ∃ j, j < n ∧ od j = i) ∧ (∀ q, q < 4 → hI h (213 + 10 * s + 6) q = nI (fo q) ∧ fo q ≤ n ∧ ∀ j, j < fo q → lv (od j) < q) ∧ ∀ i, i < n → LVl K l r lv i) ∧ ∃ p, hI h (213 + 10 * s) 12 = nI p ∧ Pd K n p
def CW (h : PH) (s : Nat) (K l r : Nat → Nat) (n : Nat) : Prop := hI h (213 + 10 * s) 11 = m1 ∨ ∃ t, t < 576000 ∧ hI h (213 + 10 * s) 11 = nI t ∧ ∀ i, i < n → hI h (213 + 10 * s + 7) i = iv (wv K l r t i)
def Fw (s : Nat) (h h' : PH) : Prop := (∀ a, a ≠ 213 + 10 * s → a ≠ 213 + 10 * s + 7 → hI h' a = hI h a) ∧ (∀ k, k ≠ 11 → hI h' (213 + 10 * s) k = hI h (213 + 10 * s) k) ∧ hR h' = hR h
theorem Fw.rf {s : Nat} {h : PH} : Fw s h h := ⟨fun _ _ _ => rfl, fun _ _ => rfl, rfl⟩
theorem Fw.tr {s : Nat} {a b c : PH} (h1 : Fw s a b) (h2 : Fw s b c) : Fw s a c := ⟨fun x p q => (h2.1 x p q).trans (h1.1 x p q), fun k hk => (h2.2.1 k hk).trans (h1.2.1 k hk), h2.2.2.trans h1.2.2⟩
theorem CT.fw {h h' : PH} {s : Nat} {K l r : Nat → Nat} {n m : Nat} {rb rr : Nat → Nat} (hC : CT h s K l r n m rb rr) (hF : Fw s h h') : CT h' s K l r n m rb rr := by
  have e : ∀ c, 1 ≤ c → c ≠ 7 → hI h' (213 + 10 * s + c) = hI h (213 + 10 * s + c) := fun c h1 h2 => hF.1 _ (by omega) (by omega)
  unfold CT
  rw [hF.2.1 0 (by omega), hF.2.1 1 (by omega), hF.2.1 12 (by omega), e 1 (by omega) (by omega), e 2 (by omega) (by omega), e 3 (by omega) (by omega), e 5 (by omega) (by omega), e 6 (by omega) (by omega), e 8 (by omega) (by omega), e 9 (by omega) (by omega)]
  exact hC
section Sshow
variable {L : Nat} {K l r : Nat → Nat} {n m : Nat} {rb rr : Nat → Nat}
theorem wv_lv {lv : Nat → Nat} {q t t' : Nat} (hW : ∀ i, i < n → Nd K l r i) (hL : ∀ i, i < n → LVl K l r lv i) (hq : q ≤ 3) (h1 : 2 ≤ q → t / 1440 = t' / 1440) (h2 : 3 ≤ q → t / 60 = t' / 60) : ∀ u i, i < u → i < n → lv i < q → wv K l r t i = wv K l r t' i := by
  intro u
  induction u with
  | zero => intro i h; omega
  | succ u ih =>
    intro i hi hn hv
    obtain ⟨v1, v2, v3, v4⟩ := hL i hn
    rcases hW i hn with ⟨k1, k2⟩ | k1 | ⟨k1, k2, k3, _⟩
    · rw [wv_n k1, wv_n k1]
    · rw [wv_c k1, wv_c k1]
      have : K i = 12 ∨ K i = 13 ∨ K i = 14 ∨ K i = 15 ∨ K i = 16 := by omega
      have e : nmv t (K i) = nmv t' (K i) := by
        unfold nmv
        rcases this with e | e | e | e | e
        · omega
        · rw [e, if_neg (by omega), if_pos rfl, if_neg (by omega), if_pos rfl]
          have := h2 (by omega)
          have := h1 (by omega)
          omega
        · omega
        · rw [e, if_neg (by omega), if_neg (by omega), if_neg (by omega), if_pos rfl, if_neg (by omega), if_neg (by omega), if_neg (by omega), if_pos rfl, h1 (by omega)]
        · rw [e, if_neg (by omega), if_neg (by omega), if_neg (by omega), if_neg (by omega), if_neg (by omega), if_neg (by omega), if_neg (by omega), if_neg (by omega), h1 (by omega)]
      rw [e]
    · obtain ⟨w1, w2⟩ := v4 k1
      rw [wv_j k1 ⟨k2, k3⟩, wv_j k1 ⟨k2, k3⟩, ih (l i) (by omega) (by omega) (by omega), ih (r i) (by omega) (by omega) (by omega)]
theorem wv_pd {p t : Nat} (hW : ∀ i, i < n → Nd K l r i) (hp : p = 1 ∨ p = 60 ∨ p = 1440 ∨ p = 10080) (hP : ∀ i, i < n → (K i = 12 → 60 ≤ p) ∧ (K i = 13 ∨ K i = 14 → 1440 ≤ p) ∧ (K i = 15 → 10080 ≤ p) ∧ K i ≠ 16) : ∀ u i, i < u → i < n → wv K l r (t + p) i = wv K l r t i := by
  intro u
  induction u with
  | zero => intro i h; omega
  | succ u ih =>
    intro i hi hn
    obtain ⟨v1, v2, v3, v4⟩ := hP i hn
    rcases hW i hn with ⟨k1, k2⟩ | k1 | ⟨k1, k2, k3, _⟩
    · rw [wv_n k1, wv_n k1]
    · rw [wv_c k1, wv_c k1]
      have : K i = 12 ∨ K i = 13 ∨ K i = 14 ∨ K i = 15 := by omega
      have e : nmv (t + p) (K i) = nmv t (K i) := by
        unfold nmv
        rcases this with e | e | e | e
        · rw [e, if_pos rfl, if_pos rfl]
          have := v1 e
          rcases hp with rfl | rfl | rfl | rfl <;> omega
        · rw [e, if_neg (by omega), if_pos rfl, if_neg (by omega), if_pos rfl]
          have := v2 (Or.inl e)
          rcases hp with rfl | rfl | rfl | rfl <;> omega
        · rw [e, if_neg (by omega), if_neg (by omega), if_pos rfl, if_neg (by omega), if_neg (by omega), if_pos rfl]
          have := v2 (Or.inr e)
          rcases hp with rfl | rfl | rfl | rfl <;> omega
        · rw [e, if_neg (by omega), if_neg (by omega), if_neg (by omega), if_pos rfl, if_neg (by omega), if_neg (by omega), if_neg (by omega), if_pos rfl]
          have := v3 e
          rcases hp with rfl | rfl | rfl | rfl <;> omega
      rw [e]
    · rw [wv_j k1 ⟨k2, k3⟩, wv_j k1 ⟨k2, k3⟩, ih (l i) (by omega) (by omega), ih (r i) (by omega) (by omega)]
theorem m131 (d : Nat) {s t i : Nat} {h : PH} (hS : SD K l r n m rb rr) (hs : s < 4) (ht : t < 576000) (hi : i < n) (hC : CT h s K l r n m rb rr) (hc : nl (K i) → hI h (213 + 10 * s + 7) (l i) = iv (wv K l r t (l i)) ∧ hI h (213 + 10 * s + 7) (r i) = iv (wv K l r t (r i))) : exec (g2 L) (d + 3) 131 [.ref (213 + 10 * s), .int (nI i), .int (nI t)] h = some (some (.int (iv (wv K l r t i))), h) := by
  have n3 := hS.2.1
  obtain ⟨c1, c2, c3⟩ := hC.2.2.1 i hi
  have hK : K i ≤ 28 := by
    rcases hS.1 i hi with q | q | q <;> omega
  have nn : ∀ (j : Nat), j < 4294967296 → ((nI (K i) = nI j) ↔ K i = j) := fun j hj => nI_eqI (by omega) hj
  rw [x131 _ _ _ hs, inB_nI (by omega), asr_d (by omega), ix_nI (by omega), c1, c2, asr_d (by omega)]
  simp only [nn 2 (by omega), nn 3 (by omega), nn 4 (by omega), nn 5 (by omega), nn 6 (by omega), nn 7 (by omega), nn 8 (by omega), nn 9 (by omega), nn 10 (by omega), nn 11 (by omega), nn 12 (by omega), nn 13 (by omega), nn 14 (by omega), nn 15 (by omega), nn 16 (by omega)]
  rcases hS.1 i hi with ⟨k1, k2⟩ | k1 | ⟨k1, k2, k3, _⟩
  · rw [if_pos k1, wv_n k1, nI_iv]
  · rw [if_neg (by omega), if_neg (by omega), if_neg (by omega), if_neg (by omega), if_neg (by omega), if_neg (by omega), if_neg (by omega), if_neg (by omega), if_neg (by omega), if_neg (by omega), wv_c k1]
    have : K i = 12 ∨ K i = 13 ∨ K i = 14 ∨ K i = 15 ∨ K i = 16 := by omega
    rcases this with e | e | e | e | e
    · rw [if_pos e, nI_rest (by omega) (by omega), nI_iv, e]
      rfl
    · rw [if_neg (by omega), if_pos e, nI_rest (by omega) (by omega), nI_quot (by omega) (by omega), nI_iv, e]
      rfl
    · rw [if_neg (by omega), if_neg (by omega), if_pos e, nI_rest (by omega) (by omega), nI_iv, e]
      rfl
    · rw [if_neg (by omega), if_neg (by omega), if_neg (by omega), if_pos e, nI_quot (by omega) (by omega), nI_rest (by omega) (by omega), nI_iv, e]
      rfl
    · rw [if_neg (by omega), if_neg (by omega), if_neg (by omega), if_neg (by omega), if_pos e, nI_quot (by omega) (by omega), nI_iv, e]
      rfl
  · obtain ⟨w1, w2⟩ := hc k1
    have fin : runL (g2 L) (d + 2) 10 false (some .int) kc_131 122 [.ref (213 + 10 * s), .int (nI i), .int (nI t)] [] h = some (some (.int (iv (wv K l r t i))), h) := by
      have bl := wv_bd hS.1 ht i (l i) k2 (by omega)
      have br := wv_bd hS.1 ht i (r i) k3 (by omega)
      rw [e131_122 _ _ _ hs, inB_nI (by omega), asr_d (by omega), asr_d (by omega), asr_d (by omega), ix_nI (by omega), c1, c2, c3 k1, inB_nI (by omega), asr_d (by omega), inB_nI (by omega), asr_d (by omega), ix_nI (by omega), ix_nI (by omega), w1, w2, m132 d bl br (by omega), cI_s, wv_j k1 ⟨k2, k3⟩]
    rw [if_neg (by omega), if_neg (by omega), if_neg (by omega), if_neg (by omega), if_neg (by omega), if_neg (by omega), if_neg (by omega), fin]
    by_cases e9 : K i = 9
    · rw [if_pos e9]
    by_cases e10 : K i = 10
    · rw [if_neg e9, if_pos e10]
    by_cases e11 : K i = 11
    · rw [if_neg e9, if_neg e10, if_pos e11]
    rw [if_neg e9, if_neg e10, if_neg e11, if_neg (by omega), if_neg (by omega), if_neg (by omega), if_neg (by omega), if_neg (by omega)]
theorem m130_68 {d s t : Nat} {od : Nat → Nat} (hS : SD K l r n m rb rr) (hs : s < 4) (ht : t < 576000) (x2 : Int32) (ho : ∀ j, j < n → od j < n ∧ (nl (K (od j)) → (∃ a, a < j ∧ od a = l (od j)) ∧ ∃ b, b < j ∧ od b = r (od j))) : ∀ (u j : Nat) (h : PH), j + u = n → CT h s K l r n m rb rr → (∀ j, j < n → hI h (213 + 10 * s + 5) j = nI (od j)) → (∀ a, a < j → hI h (213 + 10 * s + 7) (od a) = iv (wv K l r t (od a))) → ∃ h', runL (g2 L) (d + 3) 10 false none kc_130 68 [.ref (213 + 10 * s), .int (nI t), .int x2, .int (nI j)] [] h = some (none, h') ∧ hI h' (213 + 10 * s) 11 = nI t ∧ (∀ a, a < n → hI h' (213 + 10 * s + 7) (od a) = iv (wv K l r t (od a))) ∧ Fw s h h' := by
  have n3 := hS.2.1
  intro u
  induction u with
  | zero =>
    intro j h hj hC h5 hw
    refine ⟨wI h (213 + 10 * s) 11 (nI t), ?_, ?_, fun a ha => ?_, fun a p q => wI_ne p, fun k hk => ?_, rfl⟩
    · rw [e130_68 _ _ _ hs, hC.1, if_pos (by rw [nI_leN (by omega) (by omega)]; omega)]
    · rw [hI_wI, if_pos ⟨rfl, rfl⟩]
    · rw [wI_ne (by omega)]
      exact hw a (by omega)
    · rw [hI_wI, if_neg (fun q => hk q.2)]
  | succ u ih =>
    intro j h hj hC h5 hw
    obtain ⟨o1, o2⟩ := ho j (by omega)
    have hm := m131 (L := L) d (h := h) hS hs ht o1 hC (fun q => by
      obtain ⟨⟨a, a1, a2⟩, b, b1', b2'⟩ := o2 q
      rw [← a2, ← b2']
      exact ⟨hw a (by omega), hw b (by omega)⟩)
    have F : Fw s h (wI h (213 + 10 * s + 7) (od j) (iv (wv K l r t (od j)))) := ⟨fun a p q => wI_ne q, fun k hk => by rw [wI_ne (by omega)], rfl⟩
    obtain ⟨h', r1, r2, r3, r4⟩ := ih (j + 1) (wI h (213 + 10 * s + 7) (od j) (iv (wv K l r t (od j)))) (by omega) (hC.fw F) (fun j hj => by rw [wI_ne (by omega)]; exact h5 j hj) (fun a ha => by
      rw [hI_wI]
      by_cases e : od a = od j
      · rw [if_pos ⟨rfl, e⟩, e]
      · rw [if_neg (fun q => e q.2)]
        by_cases e2 : a = j
        · exact absurd (by rw [e2]) e
        · exact hw a (by omega))
    refine ⟨h', ?_, r2, r3, F.tr r4⟩
    rw [e130_68 _ _ _ hs, hC.1, if_neg (by rw [nI_leN (by omega) (by omega)]; omega), inB_nI (by omega), asr_d (by omega), asr_d (by omega), ix_nI (by omega), h5 j (by omega), hm, cI_s, inB_nI (by omega), asr_d (by omega), ix_nI (by omega), nI_plus]
    exact r1
theorem m130 (d : Nat) {s t : Nat} {h : PH} (hS : SD K l r n m rb rr) (hs : s < 4) (ht : t < 576000) (hC : CT h s K l r n m rb rr) (hw : CW h s K l r n) : ∃ h', exec (g2 L) (d + 4) 130 [.ref (213 + 10 * s), .int (nI t)] h = some (none, h') ∧ hI h' (213 + 10 * s) 11 = nI t ∧ (∀ i, i < n → hI h' (213 + 10 * s + 7) i = iv (wv K l r t i)) ∧ Fw s h h' := by
  have n3 := hS.2.1
  obtain ⟨od, lv, fo, g1, g2', g3, g4⟩ := hC.2.2.2.2.1
  have go : ∀ q, q ≤ 3 → (∀ j, j < fo q → hI h (213 + 10 * s + 7) (od j) = iv (wv K l r t (od j))) → ∃ h', runL (g2 L) (d + 3) 10 false none kc_130 68 [.ref (213 + 10 * s), .int (nI t), .int (nI q), .int (hI h (213 + 10 * s + 6) q)] [] h = some (none, h') ∧ hI h' (213 + 10 * s) 11 = nI t ∧ (∀ i, i < n → hI h' (213 + 10 * s + 7) i = iv (wv K l r t i)) ∧ Fw s h h' := by
    intro q hq hv
    obtain ⟨f1, f2, f3⟩ := g3 q (by omega)
    obtain ⟨h', r1, r2, r3, r4⟩ := m130_68 (L := L) (d := d) (od := od) hS hs ht (nI q) (fun j hj => (g1 j hj).2) (n - fo q) (fo q) h (by omega) hC (fun j hj => (g1 j hj).1) hv
    refine ⟨h', by rw [f1]; exact r1, r2, fun i hi => ?_, r4⟩
    obtain ⟨j, j1, j2⟩ := g2' i hi
    rw [← j2]
    exact r3 j j1
  have s0 := x130 L (d + 3) s hs (nI t) h
  rcases hw with hw | ⟨t0, k0, k1, k2⟩
  · rw [hw, if_pos (by rw [Ne, nI_ne_m1 (by omega)]; exact id), if_neg (fun q => q rfl)] at s0
    obtain ⟨h', r1, r2⟩ := go 0 (by omega) (fun j hj => absurd ((g3 0 (by omega)).2.2 j hj) (Nat.not_lt_zero _))
    exact ⟨h', s0.trans r1, r2⟩
  · rw [k1] at s0
    by_cases e : t = t0
    · rw [if_neg (by rw [e]; exact fun q => q rfl)] at s0
      exact ⟨h, s0, by rw [k1, e], fun i hi => by rw [e]; exact k2 i hi, Fw.rf⟩
    · rw [if_pos (by rw [Ne, nI_eqI (by omega) (by omega)]; exact e), if_pos (by rw [Ne, nI_ne_m1 (by omega)]; exact id), nI_quot (by omega) (by omega), nI_quot (by omega) (by omega), nI_quot (by omega) (by omega), nI_quot (by omega) (by omega)] at s0
      have old : ∀ q, q ≤ 3 → (2 ≤ q → t / 1440 = t0 / 1440) → (3 ≤ q → t / 60 = t0 / 60) → ∀ j, j < fo q → hI h (213 + 10 * s + 7) (od j) = iv (wv K l r t (od j)) := by
        intro q hq u1 u2 j hj
        obtain ⟨f1, f2, f3⟩ := g3 q (by omega)
        have hod := (g1 j (by omega)).2.1
        rw [k2 _ hod, wv_lv hS.1 g4 hq u1 u2 n (od j) hod hod (f3 j hj)]
      by_cases a : t / 1440 = t0 / 1440
      · rw [if_pos (by rw [a])] at s0
        by_cases b : t / 60 = t0 / 60
        · rw [if_pos (by rw [b])] at s0
          obtain ⟨h', r1, r2⟩ := go 3 (by omega) (old 3 (by omega) (fun _ => a) (fun _ => b))
          exact ⟨h', s0.trans r1, r2⟩
        · rw [if_neg (by rw [nI_eqI (by omega) (by omega)]; exact b)] at s0
          obtain ⟨h', r1, r2⟩ := go 2 (by omega) (old 2 (by omega) (fun _ => a) (fun q => by omega))
          exact ⟨h', s0.trans r1, r2⟩
      · rw [if_neg (by rw [nI_eqI (by omega) (by omega)]; exact a)] at s0
        obtain ⟨h', r1, r2⟩ := go 1 (by omega) (old 1 (by omega) (fun q => by omega) (fun q => by omega))
        exact ⟨h', s0.trans r1, r2⟩
end Sshow
