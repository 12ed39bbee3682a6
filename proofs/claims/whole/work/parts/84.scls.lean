-- PART: strips, the class's reader: its small steps.
theorem nI_ix (x : Int32) : nI (ix x) = x := by
  apply Int32.toBitVec_inj.mp
  apply BitVec.eq_of_toNat_eq
  exact nI_toNat x.toBitVec.isLt
def kf (h : PH) (s : Nat) : Nat → Nat := fun i => ix (hI h (213 + 10 * s + 1) i)
def lef (h : PH) (s : Nat) : Nat → Nat := fun i => ix (hI h (213 + 10 * s + 2) i)
def rif (h : PH) (s : Nat) : Nat → Nat := fun i => ix (hI h (213 + 10 * s + 3) i)
def vf (h : PH) (s : Nat) : Nat → Nat := fun i => ix (hI h (213 + 10 * s + 4) i)
section Cg
variable {K K' l l' r r' lv lv' : Nat → Nat} {n i : Nat}
theorem Nd.cg (e : ∀ i, i < n → K' i = K i ∧ l' i = l i ∧ r' i = r i) (hi : i < n) (h : Nd K l r i) : Nd K' l' r' i := by
  obtain ⟨e1, e2, e3⟩ := e i hi
  unfold Nd
  rw [e1, e2, e3]
  rcases h with h | h | ⟨h1, h2, h3, h4⟩
  · exact Or.inl h
  · exact Or.inr (Or.inl h)
  · exact Or.inr (Or.inr ⟨h1, h2, h3, fun q => by rw [(e (l i) (by omega)).1, (e (r i) (by omega)).1]; exact h4 q⟩)
theorem LVl.cg (e : ∀ i, i < n → K' i = K i ∧ l' i = l i ∧ r' i = r i) (ev : ∀ i, i < n → lv' i = lv i) (hi : i < n) (hN : Nd K l r i) (h : LVl K l r lv i) : LVl K' l' r' lv' i := by
  obtain ⟨e1, e2, e3⟩ := e i hi
  obtain ⟨h1, h2, h3, h4⟩ := h
  unfold LVl
  rw [e1, e2, e3, ev i hi]
  refine ⟨h1, h2, h3, fun q => ?_⟩
  rcases hN with w | w | ⟨w1, w2, w3, w4⟩
  · unfold nl at q
    omega
  · unfold nl at q
    omega
  · rw [ev (l i) (by omega), ev (r i) (by omega)]
    exact h4 q
theorem pf_cg (e : ∀ i, i < n → K' i = K i ∧ l' i = l i ∧ r' i = r i) (hN : ∀ i, i < n → Nd K l r i) : ∀ m i, i < m → i < n → pf K' l' r' i = pf K l r i := by
  intro m
  induction m with
  | zero => intro i h; omega
  | succ m ih =>
    intro i him hin
    obtain ⟨e1, e2, e3⟩ := e i hin
    rcases hN i hin with ⟨h1, h2⟩ | h1 | ⟨h1, h2, h3, _⟩
    · rw [pf_n h1, pf_n (e1.trans h1), e2]
    · rw [pf_c h1, pf_c (by rw [e1]; exact h1), e1]
    · have c' : l' i < i ∧ r' i < i := by rw [e2, e3]; exact ⟨h2, h3⟩
      by_cases q1 : K i = 11
      · rw [pf_not q1 ⟨h2, h3⟩, pf_not (e1.trans q1) c', e2, ih (l i) (by omega) (by omega)]
      by_cases q2 : K i = 28
      · rw [pf_neg q2 ⟨h2, h3⟩, pf_neg (e1.trans q2) c', e2, ih (l i) (by omega) (by omega)]
      rw [pf_j (by omega) ⟨h2, h3⟩, pf_j (by rw [e1]; omega) c', e1, e2, e3, ih (l i) (by omega) (by omega), ih (r i) (by omega) (by omega)]
def pdk (k : Nat) : Nat := if k = 12 then 60 else if k = 13 ∨ k = 14 then 1440 else if k = 15 then 10080 else if k = 16 then 576000 else 1
def lvk (k : Nat) : Nat := if k = 12 ∨ k = 14 then 3 else if k = 13 then 2 else if k = 15 ∨ k = 16 then 1 else 0
theorem Pd.add {p : Nat} (h : Pd K n p) (e : ∀ i, i < n → K' i = K i) : Pd K' (n + 1) (if p < pdk (K' n) then pdk (K' n) else p) := by
  have pv : pdk (K' n) = 1 ∨ pdk (K' n) = 60 ∨ pdk (K' n) = 1440 ∨ pdk (K' n) = 10080 ∨ pdk (K' n) = 576000 := by
    unfold pdk
    repeat' split
    all_goals omega
  have pk : (K' n = 12 → pdk (K' n) = 60) ∧ (K' n = 13 ∨ K' n = 14 → pdk (K' n) = 1440) ∧ (K' n = 15 → pdk (K' n) = 10080) ∧ (K' n = 16 → pdk (K' n) = 576000) := by
    refine ⟨fun q => ?_, fun q => ?_, fun q => ?_, fun q => ?_⟩
    · unfold pdk; rw [if_pos q]
    · unfold pdk; rw [if_neg (by omega), if_pos q]
    · unfold pdk; rw [if_neg (by omega), if_neg (by omega), if_pos q]
    · unfold pdk; rw [if_neg (by omega), if_neg (by omega), if_neg (by omega), if_pos q]
  rcases h with h | ⟨h1, h2⟩
  · refine Or.inl ?_
    split <;> omega
  · by_cases z : pdk (K' n) = 576000
    · refine Or.inl ?_
      rw [z]
      split <;> omega
    · refine Or.inr ⟨?_, fun i hi => ?_⟩
      · split <;> omega
      · by_cases q : i = n
        · subst q
          refine ⟨fun w => ?_, fun w => ?_, fun w => ?_, fun w => z (pk.2.2.2 w)⟩
          · have := pk.1 w
            split <;> omega
          · have := pk.2.1 w
            split <;> omega
          · have := pk.2.2.1 w
            split <;> omega
        · rw [e i (by omega)]
          obtain ⟨a, b, c, d⟩ := h2 i (by omega)
          refine ⟨fun w => ?_, fun w => ?_, fun w => ?_, d⟩
          · have := a w
            split <;> omega
          · have := b w
            split <;> omega
          · have := c w
            split <;> omega
theorem Pd.add1 {p : Nat} (h : Pd K n p) (e : ∀ i, i < n → K' i = K i) (hk : nl (K' n)) : Pd K' (n + 1) p := by
  have := h.add e
  have e1 : pdk (K' n) = 1 := by
    unfold nl at hk
    unfold pdk
    rw [if_neg (by omega), if_neg (by omega), if_neg (by omega), if_neg (by omega)]
  have p1 : 1 ≤ p := by
    rcases h with h | ⟨h, _⟩ <;> omega
  rw [e1, if_neg (by omega)] at this
  exact this
end Cg
/-- the nodes of strip s -/
def CN (h : PH) (s n : Nat) : Prop := hI h (213 + 10 * s) 0 = nI n ∧ n ≤ 300 ∧ (∀ i, i < n → Nd (kf h s) (lef h s) (rif h s) i ∧ LVl (kf h s) (lef h s) (rif h s) (vf h s) i ∧ vf h s i ≤ 3) ∧ ∃ p, hI h (213 + 10 * s) 12 = nI p ∧ Pd (kf h s) n p
/-- the tokens -/
def TN (h : PH) (T : Nat → Nat) (t N : Nat) : Prop := N ≤ 300 ∧ ps T t N = t ∧ ∀ i, i ≤ N → hI h 209 i = nI (kd T t i) ∧ hI h 210 i = nI (ps T t i) ∧ (i < N → hI h 211 i = nI (nb T t i))
/-- the reader at token j with n nodes made -/
def CC (h : PH) (T : Nat → Nat) (t N s j n : Nat) : Prop := TN h T t N ∧ j ≤ N ∧ hI h 207 4 = nI j ∧ hI h 207 5 = nI (kd T t j) ∧ hI h 207 1 = nI 0 ∧ hI h 207 2 = m1 ∧ hR h 207 6 = 213 + 10 * s ∧ CN h s n
def FC (s n : Nat) (h h' : PH) : Prop := (∀ a, a ≠ 207 → ¬ (213 + 10 * s ≤ a ∧ a ≤ 213 + 10 * s + 4) → hI h' a = hI h a) ∧ (∀ c i, 1 ≤ c → c ≤ 4 → i < n → hI h' (213 + 10 * s + c) i = hI h (213 + 10 * s + c) i) ∧ (∀ k, k ≠ 0 → k ≠ 12 → hI h' (213 + 10 * s) k = hI h (213 + 10 * s) k) ∧ hI h' 207 0 = hI h 207 0 ∧ hR h' = hR h
theorem FC.rf {s n : Nat} {h : PH} : FC s n h h := ⟨fun _ _ _ => rfl, fun _ _ _ _ _ => rfl, fun _ _ _ => rfl, rfl, rfl⟩
theorem FC.tr {s n : Nat} {a b c : PH} (h1 : FC s n a b) (h2 : FC s n b c) : FC s n a c := ⟨fun x p q => (h2.1 x p q).trans (h1.1 x p q), fun x i p q r => (h2.2.1 x i p q r).trans (h1.2.1 x i p q r), fun k p q => (h2.2.2.1 k p q).trans (h1.2.2.1 k p q), h2.2.2.2.1.trans h1.2.2.2.1, h2.2.2.2.2.trans h1.2.2.2.2⟩
theorem FC.le {s n n' : Nat} {h h' : PH} (hf : FC s n h h') (hn : n' ≤ n) : FC s n' h h' := ⟨hf.1, fun c i p q r => hf.2.1 c i p q (by omega), hf.2.2⟩
theorem FC.ag {s n : Nat} {h h' : PH} (hf : FC s n h h') : (∀ i, i < n → kf h' s i = kf h s i ∧ lef h' s i = lef h s i ∧ rif h' s i = rif h s i) ∧ ∀ i, i < n → vf h' s i = vf h s i := ⟨fun i hi => ⟨congrArg ix (hf.2.1 1 i (by omega) (by omega) hi), congrArg ix (hf.2.1 2 i (by omega) (by omega) hi), congrArg ix (hf.2.1 3 i (by omega) (by omega) hi)⟩, fun i hi => congrArg ix (hf.2.1 4 i (by omega) (by omega) hi)⟩
theorem FC.w7 {s n k : Nat} {h : PH} {v : Int32} (hs : s < 4) (hk : k ≠ 0) : FC s n h (wI h 207 k v) := ⟨fun a p _ => wI_ne p, fun c i _ _ _ => by rw [wI_ne (by omega)], fun j _ _ => by rw [wI_ne (by omega)], by rw [hI_wI, if_neg (by omega)], rfl⟩
theorem TN.cg {h h' : PH} {T : Nat → Nat} {t N : Nat} (hT : TN h T t N) (e : ∀ a, 209 ≤ a → a ≤ 211 → hI h' a = hI h a) : TN h' T t N := ⟨hT.1, hT.2.1, fun i hi => by rw [e 209 (by omega) (by omega), e 210 (by omega) (by omega), e 211 (by omega) (by omega)]; exact hT.2.2 i hi⟩
theorem CN.cg {h h' : PH} {s n : Nat} (hC : CN h s n) (hs : s < 4) (e : ∀ a, 213 + 10 * s ≤ a → a ≤ 213 + 10 * s + 4 → hI h' a = hI h a) : CN h' s n := by
  have e1 : kf h' s = kf h s := by unfold kf; rw [e _ (by omega) (by omega)]
  have e2 : lef h' s = lef h s := by unfold lef; rw [e _ (by omega) (by omega)]
  have e3 : rif h' s = rif h s := by unfold rif; rw [e _ (by omega) (by omega)]
  have e4 : vf h' s = vf h s := by unfold vf; rw [e _ (by omega) (by omega)]
  unfold CN
  rw [e1, e2, e3, e4, e (213 + 10 * s) (by omega) (by omega)]
  exact hC
section Scls
variable {L : Nat} {T : Nat → Nat} {t N s : Nat}
theorem CC.at {h : PH} {j n : Nat} (hC : CC h T t N s j n) : hI h 209 j = nI (kd T t j) ∧ hI h 210 j = nI (ps T t j) := ⟨(hC.1.2.2 j hC.2.1).1, (hC.1.2.2 j hC.2.1).2.1⟩
theorem CC.ne {h : PH} {j n : Nat} (hC : CC h T t N s j n) (hk : kd T t j ≠ 0) : j < N := by
  have h1 := kd_lt hk
  have := hC.2.1
  by_cases e : j = N
  · rw [e, hC.1.2.1] at h1
    omega
  · omega
/-- spoil -/
theorem c105 (d : Nat) {j n f : Nat} {h : PH} (hs : s < 4) (hC : CC h T t N s j n) : ∃ h', exec (g2 L) (d + 1) 105 [.ref 207, .int (nI f)] h = some (some (.int m1), h') ∧ hI h' 207 1 = nI f ∧ hI h' 207 2 = nI (ps T t j) ∧ hI h' (213 + 10 * s) 0 = nI n ∧ FC s n h h' := by
  have hN := hC.1.1
  have hj := hC.2.1
  refine ⟨wI (wI h 207 1 (nI f)) 207 2 (nI (ps T t j)), ?_, ?_, ?_, ?_, (FC.w7 hs (by omega)).tr (FC.w7 hs (by omega))⟩
  · rw [x105, hC.2.2.2.2.1, if_neg (fun q => q rfl), hC.2.2.1, inB_nI (by omega), asr_d (by omega), ix_nI (by omega), hC.at.2]
  · rw [hI_wI, if_neg (by omega), hI_wI, if_pos ⟨rfl, rfl⟩]
  · rw [hI_wI, if_pos ⟨rfl, rfl⟩]
  · rw [wI_ne (by omega), wI_ne (by omega)]
    exact hC.2.2.2.2.2.2.2.1
/-- advance -/
theorem c108 (d : Nat) {j n : Nat} {h : PH} (hs : s < 4) (hC : CC h T t N s j n) (hk : kd T t j ≠ 0) (hk2 : kd T t j < 100) : ∃ h', exec (g2 L) (d + 1) 108 [.ref 207] h = some (none, h') ∧ CC h' T t N s (j + 1) n ∧ FC s 300 h h' ∧ (∀ a, a ≠ 207 → hI h' a = hI h a) := by
  have hN := hC.1.1
  have hj := hC.ne hk
  refine ⟨wI (wI h 207 4 (nI (j + 1))) 207 5 (nI (kd T t (j + 1))), ?_, ⟨hC.1.cg (fun a p q => by rw [wI_ne (by omega), wI_ne (by omega)]), by omega, ?_, ?_, ?_, ?_, hC.2.2.2.2.2.2.1, hC.2.2.2.2.2.2.2.cg hs (fun a p q => by rw [wI_ne (by omega), wI_ne (by omega)])⟩, (FC.w7 hs (by omega)).tr (FC.w7 hs (by omega)), fun a ha => by rw [wI_ne ha, wI_ne ha]⟩
  · rw [x108, hC.2.2.1, if_neg (by rw [nI_leN (by omega) (by omega)]; omega), hC.2.2.2.1, if_neg (by rw [nI_eqI (by omega) (by omega)]; exact hk), nI_plus, inB_nI (by omega), asr_d (by omega), ix_nI (by omega), (hC.1.2.2 (j + 1) (by omega)).1]
  · rw [hI_wI, if_neg (by omega), hI_wI, if_pos ⟨rfl, rfl⟩]
  · rw [hI_wI, if_pos ⟨rfl, rfl⟩]
  · rw [hI_wI, if_neg (by omega), hI_wI, if_neg (by omega)]
    exact hC.2.2.2.2.1
  · rw [hI_wI, if_neg (by omega), hI_wI, if_neg (by omega)]
    exact hC.2.2.2.2.2.1
theorem kk30 (hs : s < 4) : kx_K (213 + 10 * s) = 30 := by
  have : s = 0 ∨ s = 1 ∨ s = 2 ∨ s = 3 := by omega
  rcases this with rfl | rfl | rfl | rfl <;> decide
/-- a node more -/
theorem node_add {h W : PH} {j n k a b v p : Nat} (hs : s < 4) (hC : CC h T t N s j n) (hn : n < 300) (hb : k < 4294967296 ∧ a < 4294967296 ∧ b < 4294967296 ∧ v ≤ 3) (hW : W = wI (wI (wI (wI (wI (wI h (213 + 10 * s + 1) n (nI k)) (213 + 10 * s + 2) n (nI a)) (213 + 10 * s + 3) n (nI b)) (213 + 10 * s + 4) n (nI v)) (213 + 10 * s) 12 (nI p)) (213 + 10 * s) 0 (nI (n + 1)) ∨ (hI h (213 + 10 * s) 12 = nI p ∧ W = wI (wI (wI (wI (wI h (213 + 10 * s + 1) n (nI k)) (213 + 10 * s + 2) n (nI a)) (213 + 10 * s + 3) n (nI b)) (213 + 10 * s + 4) n (nI v)) (213 + 10 * s) 0 (nI (n + 1)))) : (kf W s n = k ∧ lef W s n = a ∧ rif W s n = b ∧ vf W s n = v) ∧ FC s n h W ∧ hI W (213 + 10 * s) 12 = nI p ∧ (Nd (kf W s) (lef W s) (rif W s) n → LVl (kf W s) (lef W s) (rif W s) (vf W s) n → Pd (kf W s) (n + 1) p → CC W T t N s j (n + 1)) := by
  have rd : ∀ c, 1 ≤ c → c ≤ 4 → ∀ i, hI W (213 + 10 * s + c) i = if i = n then (if c = 1 then nI k else if c = 2 then nI a else if c = 3 then nI b else nI v) else hI h (213 + 10 * s + c) i := by
    intro c c1 c4 i
    have hc : c = 1 ∨ c = 2 ∨ c = 3 ∨ c = 4 := by omega
    rcases hW with hW | ⟨_, hW⟩ <;> rw [hW] <;> rcases hc with rfl | rfl | rfl | rfl <;> simp only [hI_wI] <;> by_cases e : i = n <;> simp [e]
  have r0 : hI W (213 + 10 * s) 0 = nI (n + 1) := by
    rcases hW with hW | ⟨_, hW⟩ <;> rw [hW, hI_wI, if_pos ⟨rfl, rfl⟩]
  have r12 : hI W (213 + 10 * s) 12 = nI p := by
    rcases hW with hW | ⟨q, hW⟩
    · rw [hW, hI_wI, if_neg (by omega), hI_wI, if_pos ⟨rfl, rfl⟩]
    · rw [hW, hI_wI, if_neg (by omega), wI_ne (by omega), wI_ne (by omega), wI_ne (by omega), wI_ne (by omega)]
      exact q
  have fo : ∀ x, ¬ (213 + 10 * s ≤ x ∧ x ≤ 213 + 10 * s + 4) → hI W x = hI h x := by
    intro x hx
    rcases hW with hW | ⟨_, hW⟩
    · rw [hW, wI_ne (by omega), wI_ne (by omega), wI_ne (by omega), wI_ne (by omega), wI_ne (by omega), wI_ne (by omega)]
    · rw [hW, wI_ne (by omega), wI_ne (by omega), wI_ne (by omega), wI_ne (by omega), wI_ne (by omega)]
  have ro : ∀ x, x ≠ 0 → x ≠ 12 → hI W (213 + 10 * s) x = hI h (213 + 10 * s) x := by
    intro x x0 x2
    rcases hW with hW | ⟨_, hW⟩
    · rw [hW, hI_wI, if_neg (by omega), hI_wI, if_neg (by omega), wI_ne (by omega), wI_ne (by omega), wI_ne (by omega), wI_ne (by omega)]
    · rw [hW, hI_wI, if_neg (by omega), wI_ne (by omega), wI_ne (by omega), wI_ne (by omega), wI_ne (by omega)]
  have rR : hR W = hR h := by
    rcases hW with hW | ⟨_, hW⟩ <;> rw [hW] <;> rfl
  have F : FC s n h W := ⟨fun x _ hx => fo x hx, fun c i c1 c4 hi => by rw [rd c c1 c4 i, if_neg (by omega)], ro, by rw [fo 207 (by omega)], rR⟩
  have vals : kf W s n = k ∧ lef W s n = a ∧ rif W s n = b ∧ vf W s n = v := by
    unfold kf lef rif vf
    rw [rd 1 (by omega) (by omega), rd 2 (by omega) (by omega), rd 3 (by omega) (by omega), rd 4 (by omega) (by omega), if_pos rfl, if_pos rfl, if_pos rfl, if_pos rfl, if_pos rfl, if_neg (by omega), if_pos rfl, if_neg (by omega), if_neg (by omega), if_pos rfl, if_neg (by omega), if_neg (by omega), if_neg (by omega), ix_nI hb.1, ix_nI hb.2.1, ix_nI hb.2.2.1, ix_nI (by omega)]
    exact ⟨rfl, rfl, rfl, rfl⟩
  refine ⟨vals, F, r12, fun n1 n2 n3 => ?_⟩
  obtain ⟨ag1, ag2⟩ := F.ag
  obtain ⟨c1, c2, c3, c4, c5, c6, c7, c8⟩ := hC
  refine ⟨c1.cg (fun x p q => fo x (by omega)), c2, by rw [fo 207 (by omega)]; exact c3, by rw [fo 207 (by omega)]; exact c4, by rw [fo 207 (by omega)]; exact c5, by rw [fo 207 (by omega)]; exact c6, by rw [rR]; exact c7, r0, by omega, fun i hi => ?_, p, r12, n3⟩
  by_cases e : i = n
  · rw [e]
    exact ⟨n1, n2, by rw [vals.2.2.2]; exact hb.2.2.2⟩
  · obtain ⟨d1, d2, d3⟩ := c8.2.2.1 i (by omega)
    exact ⟨d1.cg ag1 (by omega), d2.cg ag1 ag2 (by omega) d1, by rw [ag2 i (by omega)]; exact d3⟩
end Scls
