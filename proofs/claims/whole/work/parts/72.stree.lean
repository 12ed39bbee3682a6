-- PART: bells, a strip as a tree and as a row of orders.
def bk (k : Nat) : Prop := (9 ≤ k ∧ k ≤ 11) ∨ (17 ≤ k ∧ k ≤ 22)
/-- node i is well made -/
def Nd (K l r : Nat → Nat) (i : Nat) : Prop := (K i = 2 ∧ l i ≤ 9999) ∨ (12 ≤ K i ∧ K i ≤ 16) ∨ (((9 ≤ K i ∧ K i ≤ 11) ∨ (17 ≤ K i ∧ K i ≤ 28)) ∧ l i < i ∧ r i < i ∧ (K i ≤ 11 → bk (K (l i)) ∧ bk (K (r i))))
def nmv (t c : Nat) : Nat := if c = 12 then t % 60 else if c = 13 then t % 1440 / 60 else if c = 14 then t % 1440 else if c = 15 then t / 1440 % 7 else t / 1440
noncomputable def wv (K l r : Nat → Nat) (t : Nat) (i : Nat) : Int := if K i = 2 then (l i : Int) else if 12 ≤ K i ∧ K i ≤ 16 then (nmv t (K i) : Int) else if h : l i < i ∧ r i < i then jn (K i) (wv K l r t (l i)) (wv K l r t (r i)) else 0
termination_by i
decreasing_by
  · exact h.1
  · exact h.2
def pf (K l r : Nat → Nat) (i : Nat) : List (Nat × Nat) := if K i = 2 then [(400, l i)] else if 12 ≤ K i ∧ K i ≤ 16 then [(401, K i - 12)] else if h : l i < i ∧ r i < i then (if K i = 11 then pf K l r (l i) ++ [(405, 0)] else if K i = 28 then pf K l r (l i) ++ [(402, 0)] else pf K l r (l i) ++ (pf K l r (r i) ++ [(oc (K i), 0)])) else []
termination_by i
decreasing_by
  · exact h.1
  · exact h.1
  · exact h.1
  · exact h.2
section Stree
variable {K l r : Nat → Nat} {t i : Nat}
theorem wv_n (h : K i = 2) : wv K l r t i = (l i : Int) := by
  rw [wv, if_pos h]
theorem wv_c (h : 12 ≤ K i ∧ K i ≤ 16) : wv K l r t i = (nmv t (K i) : Int) := by
  rw [wv, if_neg (by omega), if_pos h]
theorem wv_j (h : (9 ≤ K i ∧ K i ≤ 11) ∨ (17 ≤ K i ∧ K i ≤ 28)) (h2 : l i < i ∧ r i < i) : wv K l r t i = jn (K i) (wv K l r t (l i)) (wv K l r t (r i)) := by
  rw [wv, if_neg (by omega), if_neg (by omega), dif_pos h2]
theorem pf_n (h : K i = 2) : pf K l r i = [(400, l i)] := by
  rw [pf, if_pos h]
theorem pf_c (h : 12 ≤ K i ∧ K i ≤ 16) : pf K l r i = [(401, K i - 12)] := by
  rw [pf, if_neg (by omega), if_pos h]
theorem pf_not (h : K i = 11) (h2 : l i < i ∧ r i < i) : pf K l r i = pf K l r (l i) ++ [(405, 0)] := by
  rw [pf, if_neg (by omega), if_neg (by omega), dif_pos h2, if_pos h]
theorem pf_neg (h : K i = 28) (h2 : l i < i ∧ r i < i) : pf K l r i = pf K l r (l i) ++ [(402, 0)] := by
  rw [pf, if_neg (by omega), if_neg (by omega), dif_pos h2, if_neg (by omega), if_pos h]
theorem pf_j (h : (9 ≤ K i ∧ K i ≤ 10) ∨ (17 ≤ K i ∧ K i ≤ 27)) (h2 : l i < i ∧ r i < i) : pf K l r i = pf K l r (l i) ++ (pf K l r (r i) ++ [(oc (K i), 0)]) := by
  rw [pf, if_neg (by omega), if_neg (by omega), dif_pos h2, if_neg (by omega), if_neg (by omega)]
theorem nmv_le (ht : t < 576000) (c : Nat) : nmv t c ≤ 1439 := by
  unfold nmv
  split
  · omega
  split
  · omega
  split
  · omega
  split <;> omega
theorem wv_bd {n : Nat} (hW : ∀ i, i < n → Nd K l r i) (ht : t < 576000) : ∀ m i, i < m → i < n → Bd (wv K l r t i) := by
  intro m
  induction m with
  | zero => intro i h; omega
  | succ m ih =>
    intro i him hin
    rcases hW i hin with ⟨h1, h2⟩ | h1 | ⟨h1, h2, h3, _⟩
    · rw [wv_n h1]
      unfold Bd
      omega
    · rw [wv_c h1]
      have := nmv_le ht (K i)
      unfold Bd
      omega
    · rw [wv_j h1 ⟨h2, h3⟩]
      exact jn_bd (ih _ (by omega) (by omega))
theorem wv_01 (hN : Nd K l r i) (hb : bk (K i)) : wv K l r t i = 0 ∨ wv K l r t i = 1 := by
  unfold bk at hb
  rcases hN with ⟨h1, h2⟩ | h1 | ⟨h1, h2, h3, _⟩
  · omega
  · omega
  · rw [wv_j h1 ⟨h2, h3⟩]
    unfold jn
    rw [if_neg (by omega), if_neg (by omega), if_neg (by omega), if_neg (by omega), if_neg (by omega), if_neg (by omega)]
    exact z01_in _
theorem pf_pos {n : Nat} (hW : ∀ i, i < n → Nd K l r i) (hi : i < n) : 1 ≤ (pf K l r i).length := by
  rcases hW i hi with ⟨h1, h2⟩ | h1 | ⟨h1, h2, h3, _⟩
  · rw [pf_n h1]
    exact Nat.le_refl _
  · rw [pf_c h1]
    exact Nat.le_refl _
  · by_cases q1 : K i = 11
    · rw [pf_not q1 ⟨h2, h3⟩, List.length_append, List.length_singleton]
      omega
    by_cases q2 : K i = 28
    · rw [pf_neg q2 ⟨h2, h3⟩, List.length_append, List.length_singleton]
      omega
    rw [pf_j (by omega) ⟨h2, h3⟩, List.length_append, List.length_append, List.length_singleton]
    omega
end Stree
/-- the reference's orders from j on -/
def CM (h : PH) (j : Nat) (c : List (Nat × Nat)) : Prop := ∀ u, u < c.length → hI h 260 (j + u) = nI (c.getD u (0, 0)).1 ∧ hI h 261 (j + u) = nI (c.getD u (0, 0)).2
def NM (h : PH) (t : Nat) : Prop := ∀ c, c < 5 → hI h 287 c = nI (nmv t (12 + c))
theorem CM.fst {h : PH} {j : Nat} {a b : List (Nat × Nat)} (hc : CM h j (a ++ b)) : CM h j a := fun u hu => by
  have := hc u (by rw [List.length_append]; omega)
  rw [List.getD_eq_getElem?_getD, List.getElem?_append_left hu, ← List.getD_eq_getElem?_getD] at this
  exact this
theorem CM.snd {h : PH} {j : Nat} {a b : List (Nat × Nat)} (hc : CM h j (a ++ b)) : CM h (j + a.length) b := fun u hu => by
  have := hc (a.length + u) (by rw [List.length_append]; omega)
  rw [List.getD_eq_getElem?_getD, List.getElem?_append_right (by omega), show a.length + u - a.length = u by omega, ← List.getD_eq_getElem?_getD, ← Nat.add_assoc] at this
  exact this
theorem CM.one {h : PH} {j o v : Nat} (hc : CM h j [(o, v)]) : hI h 260 j = nI o ∧ hI h 261 j = nI v := by
  have := hc 0 (Nat.zero_lt_one)
  exact this
theorem CM.cg {h h' : PH} {j : Nat} {c : List (Nat × Nat)} (hc : CM h j c) (e0 : hI h' 260 = hI h 260) (e1 : hI h' 261 = hI h 261) : CM h' j c := fun u hu => by
  rw [e0, e1]
  exact hc u hu
theorem nI64 {n : Nat} (h : n < 2147483648) : (nI n).toInt64 = jv n := by
  apply jv_eq
  rw [Jvm.Kit.i64_of_i32, nI_iv, iv_toInt (by omega) (by omega)]
theorem oc_ne (k : Nat) : oc k = 43 ∨ oc k = 45 ∨ oc k = 42 ∨ oc k = 47 ∨ oc k = 37 ∨ oc k = 60 ∨ oc k = 300 ∨ oc k = 62 ∨ oc k = 301 ∨ oc k = 61 ∨ oc k = 35 ∨ oc k = 406 ∨ oc k = 407 := by
  unfold oc
  repeat' split
  all_goals omega
section Stells
variable {L : Nat} {K l r : Nat → Nat}
theorem m245_op {d j hh o : Nat} {x1 : Int32} {v4 : Value} {h : PH} (hj : j < 1600) (ho : o < 500) (h1 : hI h 260 j = nI o) (n1 : o ≠ 408) (n2 : o ≠ 400) (n3 : o ≠ 401) : runL (g2 L) d 11 false (some .long) kc_245 4 [.ref 253, .int x1, .int (nI hh), .int (nI j), v4] [] h = runL (g2 L) d 11 false (some .long) kc_245 82 [.ref 253, .int x1, .int (nI hh), .int (nI j), .int (nI o)] [] h := by
  rw [e245_4, inB_nI (by omega), asr_d (by omega), ix_nI (by omega), h1, if_neg (by rw [nI_eqI (by omega) (by omega)]; exact n1), asr_d (by omega), if_neg (by rw [nI_eqI (by omega) (by omega)]; exact n2), if_pos (by rw [Ne, nI_eqI (by omega) (by omega)]; exact n3)]
theorem m245_pf {d t n : Nat} (hW : ∀ i, i < n → Nd K l r i) (ht : t < 576000) (x1 : Int32) : ∀ (m i : Nat), i < m → i < n → ∀ (j hh : Nat) (v4 : Value) (h : PH), CM h j (pf K l r i) → j + (pf K l r i).length < 1600 → hh + ((pf K l r i).length + 1) / 2 ≤ 200 → NM h t → ∃ h' v', runL (g2 L) (d + 2) 11 false (some .long) kc_245 4 [.ref 253, .int x1, .int (nI hh), .int (nI j), v4] [] h = runL (g2 L) (d + 2) 11 false (some .long) kc_245 4 [.ref 253, .int x1, .int (nI (hh + 1)), .int (nI (j + (pf K l r i).length)), v'] [] h' ∧ hJ h' 288 hh = jv (wv K l r t i) ∧ (∀ u, u < hh → hJ h' 288 u = hJ h 288 u) ∧ hI h' = hI h ∧ hR h' = hR h := by
  intro m
  induction m with
  | zero => intro i h; omega
  | succ m ih =>
    intro i him hin j hh v4 h hc hj hs hN
    rcases hW i hin with ⟨h1, h2⟩ | h1 | ⟨h1, h2, h3, h4⟩
    · rw [pf_n h1] at hc hj hs ⊢
      rw [List.length_singleton] at hj hs ⊢
      obtain ⟨o1, o2⟩ := hc.one
      refine ⟨wJ h 288 hh (jv (l i)), .int (nI 400), ?_, ?_, fun u hu => ?_, rfl, rfl⟩
      · rw [e245_4, inB_nI (by omega), asr_d (by omega), ix_nI (by omega), o1, if_neg (by decide), asr_d (by omega), if_pos rfl, e245_40, if_neg (fun q => q rfl), inB_nI (by omega), asr_d (by omega), inB_nI (by omega), asr_d (by omega), ix_nI (by omega), ix_nI (by omega), o2, nI64 (by omega), nI_plus, nI_plus]
      · rw [hJ_wJ, if_pos ⟨rfl, rfl⟩, wv_n h1]
      · rw [hJ_wJ, if_neg (by omega)]
    · rw [pf_c h1] at hc hj hs ⊢
      rw [List.length_singleton] at hj hs ⊢
      obtain ⟨o1, o2⟩ := hc.one
      have hnm := nmv_le ht (K i)
      have hn5 := hN (K i - 12) (by omega)
      rw [show 12 + (K i - 12) = K i by omega] at hn5
      refine ⟨wJ h 288 hh (jv (nmv t (K i))), .int (nI 401), ?_, ?_, fun u hu => ?_, rfl, rfl⟩
      · rw [e245_4, inB_nI (by omega), asr_d (by omega), ix_nI (by omega), o1, if_neg (by decide), asr_d (by omega), if_neg (by decide), if_neg (fun q => q rfl), e245_40, if_pos (by decide), inB_nI (by omega), asr_d (by omega), ix_nI (by omega), o2, inB_nI (by omega), asr_d (by omega), inB_nI (by omega), asr_d (by omega), ix_nI (by omega), ix_nI (by omega), hn5, nI64 (by omega), nI_plus, nI_plus]
      · rw [hJ_wJ, if_pos ⟨rfl, rfl⟩, wv_c h1]
      · rw [hJ_wJ, if_neg (by omega)]
    · have bl := wv_bd hW ht m (l i) (by omega) (by omega)
      by_cases q1 : K i = 11
      · rw [pf_not q1 ⟨h2, h3⟩] at hc hj hs ⊢
        rw [List.length_append, List.length_singleton] at hj hs ⊢
        obtain ⟨g, v', a1, a2, a3, a4, a5⟩ := ih (l i) (by omega) (by omega) j hh v4 h hc.fst (by omega) (by omega) hN
        have o1 : hI g 260 (j + (pf K l r (l i)).length) = nI 405 := by
          rw [a4]
          exact hc.snd.one.1
        have e1 : (1 : Int64) - jv (wv K l r t (l i)) = jv (wv K l r t i) := by
          have hb := wv_01 (t := t) (hW (l i) (by omega)) (h4 (by omega)).1
          have ew : wv K l r t i = z01 (wv K l r t (l i) = 0) := by
            rw [wv_j h1 ⟨h2, h3⟩, q1]
            rfl
          rcases hb with hb | hb
          · rw [ew, z01_t hb, hb]
            rfl
          · rw [ew, z01_f (by omega), hb]
            rfl
        refine ⟨wJ g 288 hh (jv (wv K l r t i)), .int (nI 405), ?_, ?_, fun u hu => ?_, a4, a5⟩
        · rw [a1, m245_op (by omega) (by omega) o1 (by omega) (by omega) (by omega), e245_82, if_pos (by decide), e245_110, if_neg (fun q => q rfl), nI_m1_plus, inB_nI (by omega), asr_d (by omega), asr_d (by omega), ix_nI (by omega), a2, e1, nI_plus, ← Nat.add_assoc]
        · rw [hJ_wJ, if_pos ⟨rfl, rfl⟩]
        · rw [hJ_wJ, if_neg (by omega), a3 u hu]
      by_cases q2 : K i = 28
      · rw [pf_neg q2 ⟨h2, h3⟩] at hc hj hs ⊢
        rw [List.length_append, List.length_singleton] at hj hs ⊢
        obtain ⟨g, v', a1, a2, a3, a4, a5⟩ := ih (l i) (by omega) (by omega) j hh v4 h hc.fst (by omega) (by omega) hN
        have o1 : hI g 260 (j + (pf K l r (l i)).length) = nI 402 := by
          rw [a4]
          exact hc.snd.one.1
        have e1 : -(jv (wv K l r t (l i))) = jv (wv K l r t i) := by
          have ew : wv K l r t i = -(wv K l r t (l i)) := by
            rw [wv_j h1 ⟨h2, h3⟩, q2]
            rfl
          rw [ew]
          apply jv_eq
          rw [Jvm.Kit.i64_neg (by rw [jv_bd bl]; unfold Bd at bl; omega), jv_bd bl]
        refine ⟨wJ g 288 hh (jv (wv K l r t i)), .int (nI 402), ?_, ?_, fun u hu => ?_, a4, a5⟩
        · rw [a1, m245_op (by omega) (by omega) o1 (by omega) (by omega) (by omega), e245_82, if_neg (fun q => q rfl), nI_m1_plus, inB_nI (by omega), asr_d (by omega), asr_d (by omega), ix_nI (by omega), a2, e1, nI_plus, ← Nat.add_assoc]
        · rw [hJ_wJ, if_pos ⟨rfl, rfl⟩]
        · rw [hJ_wJ, if_neg (by omega), a3 u hu]
      have hk : (9 ≤ K i ∧ K i ≤ 10) ∨ (17 ≤ K i ∧ K i ≤ 27) := by omega
      rw [pf_j hk ⟨h2, h3⟩] at hc hj hs ⊢
      rw [List.length_append, List.length_append, List.length_singleton] at hj hs ⊢
      have pl := pf_pos hW (show l i < n by omega)
      have pr := pf_pos hW (show r i < n by omega)
      have br := wv_bd hW ht m (r i) (by omega) (by omega)
      obtain ⟨g, v', a1, a2, a3, a4, a5⟩ := ih (l i) (by omega) (by omega) j hh v4 h hc.fst (by omega) (by omega) hN
      obtain ⟨g', v'', b1', b2', b3', b4', b5'⟩ := ih (r i) (by omega) (by omega) (j + (pf K l r (l i)).length) (hh + 1) v' g (hc.snd.fst.cg (by rw [a4]) (by rw [a4])) (by omega) (by omega) (fun c hc => by rw [a4]; exact hN c hc)
      have oo := oc_ne (K i)
      have o1 : hI g' 260 (j + (pf K l r (l i)).length + (pf K l r (r i)).length) = nI (oc (K i)) := by
        rw [b4', a4]
        exact hc.snd.snd.one.1
      have e1 := m246 (L := L) d (h := g') bl br hk (fun q => ⟨wv_01 (hW (l i) (by omega)) (h4 (by omega)).1, wv_01 (hW (r i) (by omega)) (h4 (by omega)).2⟩)
      refine ⟨wJ g' 288 hh (jv (wv K l r t i)), .int (nI (oc (K i))), ?_, ?_, fun u hu => ?_, b4'.trans a4, b5'.trans a5⟩
      · rw [a1, b1', m245_op (by omega) (by omega) o1 (by omega) (by omega) (by omega), e245_82, if_pos (by rw [Ne, nI_eqI (by omega) (by omega)]; omega), e245_110, if_pos (by rw [Ne, nI_eqI (by omega) (by omega)]; omega), e245_139, nI_plus_m1, e245_142, nI_m1_plus, inB_nI (by omega), asr_d (by omega), inB_nI (by omega), asr_d (by omega), ix_nI (by omega), ix_nI (by omega), b3' hh (by omega), a2, b2', e1, cJ_s, asr_d (by omega), ← wv_j h1 ⟨h2, h3⟩, nI_plus]
        rw [show j + (pf K l r (l i)).length + (pf K l r (r i)).length + 1 = j + ((pf K l r (l i)).length + ((pf K l r (r i)).length + 1)) by omega]
      · rw [hJ_wJ, if_pos ⟨rfl, rfl⟩]
      · rw [hJ_wJ, if_neg (by omega), b3' u (by omega), a3 u hu]
theorem m245 (d : Nat) {t n i j : Nat} {h : PH} (hW : ∀ i, i < n → Nd K l r i) (ht : t < 576000) (hi : i < n) (hc : CM h j (pf K l r i ++ [(408, 0)])) (hj : j + (pf K l r i).length < 1600) (hl : (pf K l r i).length ≤ 300) (hN : NM h t) : ∃ h', exec (g2 L) (d + 3) 245 [.ref 253, .int (nI j)] h = some (some (.long (jv (wv K l r t i))), h') ∧ hI h' = hI h ∧ hR h' = hR h := by
  obtain ⟨h', v', a1, a2, a3, a4, a5⟩ := m245_pf (L := L) (d := d) hW ht (nI j) (i + 1) i (by omega) hi j 0 dm h hc.fst hj (by omega) hN
  refine ⟨h', ?_, a4, a5⟩
  have o1 : hI h' 260 (j + (pf K l r i).length) = nI 408 := by
    rw [a4]
    exact hc.snd.one.1
  rw [x245, a1, e245_4, inB_nI (by omega), asr_d (by omega), ix_nI (by omega), o1, if_pos rfl, a2]
end Stells
