-- PART: rounds, a round of the reference.
theorem rS_free {A l : Nat → Nat} {d p r : Nat} (hp : p < 2 ^ r) : rS A l d p (r + 1) = go (A (40 + 8 * d + 1)) (A (40 + 8 * d + 5)) (A (40 + 8 * d + 6)) ((A 1 + bg l r) % 2) (l r) (rS A l d p r) := by
  rw [rS, Nat.div_eq_of_lt hp, if_neg (by decide)]
theorem rS_held {A l : Nat → Nat} {d p r : Nat} (hr : r ≤ 2) (hp : p < 2 ^ r) : rS A l d (p + 2 ^ r) (r + 1) = rS A l d p r := by
  rw [rS, Nat.add_div_right p (Nat.two_pow_pos r), Nat.div_eq_of_lt hp, if_pos rfl]
  refine rS_low r (fun i hi => ?_)
  have c : (r = 1 ∧ i = 0) ∨ (r = 2 ∧ i = 0) ∨ (r = 2 ∧ i = 1) := by omega
  rcases c with ⟨rfl, rfl⟩ | ⟨rfl, rfl⟩ | ⟨rfl, rfl⟩
  · show (p + 2) / 1 % 2 = p / 1 % 2
    omega
  · show (p + 4) / 1 % 2 = p / 1 % 2
    omega
  · show (p + 4) / 2 % 2 = p / 2 % 2
    omega
def E9 (h : PH) (A l : Nat → Nat) (r k p : Nat) : Prop := hI h 273 (128 * r + 8 * k + p) = nI (rS A l (rd A k) p r).1 ∧ hI h 274 (128 * r + 8 * k + p) = nI (rS A l (rd A k) p r).2.1 ∧ hI h 275 (128 * r + 8 * k + p) = nI (rS A l (rd A k) p r).2.2
def D9 (h : PH) (A l : Nat → Nat) (r K P : Nat) : Prop := ∀ k p, k < rn A → p < 2 ^ r → (k < K ∨ (k = K ∧ p < P)) → E9 h A l (r + 1) k p ∧ E9 h A l (r + 1) k (p + 2 ^ r)
theorem ixr (r k p : Nat) : nI 128 * nI r + nI 8 * nI k + nI p = nI (128 * r + 8 * k + p) := by rw [nI_times, nI_times, nI_plus, nI_plus]
theorem ixr1 (r k p : Nat) : nI 128 * (nI r + nI 1) + nI 8 * nI k + nI p = nI (128 * (r + 1) + 8 * k + p) := by rw [nI_plus, nI_times, nI_times, nI_plus, nI_plus]
theorem shl1 {r : Nat} (hr : r < 32) : nI 1 <<< (nI r &&& nI 31) = nI (2 ^ r) := by rw [nI_shl 1 hr, Nat.one_shiftLeft]
theorem pow_le4 {r : Nat} (hr : r ≤ 2) : 2 ^ r ≤ 4 := by
  have c : r = 0 ∨ r = 1 ∨ r = 2 := by omega
  rcases c with rfl | rfl | rfl <;> decide
section Rtab
variable {L : Nat} {A l : Nat → Nat}
theorem m210 (d : Nat) {i : Nat} (hi : i < 512) (x y z : Int32) (h : PH) : exec (g2 L) (d + 1) 210 [.ref 253, .int (nI i), .int x, .int y, .int z] h = some (none, wI (wI (wI h 273 i x) 274 i y) 275 i z) := by
  rw [x210, inB_nI (by omega), asr_d hi, asr_d hi, asr_d hi, ix_nI (by omega)]
theorem w3_at {h : PH} {i j : Nat} {x y z : Int32} : hI (wI (wI (wI h 273 i x) 274 i y) 275 i z) 273 j = (if j = i then x else hI h 273 j) ∧ hI (wI (wI (wI h 273 i x) 274 i y) 275 i z) 274 j = (if j = i then y else hI h 274 j) ∧ hI (wI (wI (wI h 273 i x) 274 i y) 275 i z) 275 j = (if j = i then z else hI h 275 j) := by
  refine ⟨?_, ?_, ?_⟩
  · rw [wI_ne (by omega), wI_ne (by omega), hI_wI]
    by_cases q : j = i
    · rw [if_pos ⟨rfl, q⟩, if_pos q]
    · rw [if_neg (fun z => q z.2), if_neg q]
  · rw [wI_ne (by omega), hI_wI]
    by_cases q : j = i
    · rw [if_pos ⟨rfl, q⟩, if_pos q]
    · rw [if_neg (fun z => q z.2), if_neg q, wI_ne (by omega)]
  · rw [hI_wI]
    by_cases q : j = i
    · rw [if_pos ⟨rfl, q⟩, if_pos q]
    · rw [if_neg (fun z => q z.2), if_neg q, wI_ne (by omega), wI_ne (by omega)]
theorem m209_15 {d r k q : Nat} (hr : r ≤ 2) (hV : VW A q) (hq : q ≤ 100000000) (hk : k < rn A) (hn : l r ≤ 30) (hb : bg l r ≤ 60) : ∀ (m p : Nat) (v6 v7 v8 v9 : Value) (h : PH), p + m = 2 ^ r → RM h 254 A → RH h A → (∀ k, k < rn A → ∀ p, p < 2 ^ r → E9 h A l r k p) → D9 h A l r k p → ∃ h' u5 u6 u7 u8 u9, runL (g2 L) (d + 2) 11 false none kc_209 15 [.ref 253, .int (nI r), .int (nI (l r)), .int (nI (bg l r)), .int (nI k), .int (nI p), v6, v7, v8, v9] [] h = runL (g2 L) (d + 2) 11 false none kc_209 3 [.ref 253, .int (nI r), .int (nI (l r)), .int (nI (bg l r)), .int (nI (k + 1)), u5, u6, u7, u8, u9] [] h' ∧ RM h' 254 A ∧ RH h' A ∧ (∀ k, k < rn A → ∀ p, p < 2 ^ r → E9 h' A l r k p) ∧ D9 h' A l r (k + 1) 0 ∧ Fr h h' ∧ hI h' 276 = hI h 276 ∧ (∀ a, 273 ≤ a → a ≤ 275 → ∀ j, j < 128 * (r + 1) → hI h' a j = hI h a j) := by
  obtain ⟨v1, v3, v4, vb, vk, vl⟩ := id hV
  have h4 := pow_le4 hr
  have hd16 := rd_lt hk
  have hn16 : rn A ≤ A 4 := rl_len _
  obtain ⟨l0, l1, l2, l3, l4, l5, l6, l7⟩ := vl (rd A k) hd16
  intro m
  induction m with
  | zero =>
    intro p v6 v7 v8 v9 h hp hM hR hE hD
    refine ⟨h, .int (nI p), v6, v7, v8, v9, ?_, hM, hR, hE, fun k' p' h1 h2 h3 => ?_, Fr.rf, rfl, fun _ _ _ _ _ => rfl⟩
    · rw [e209_15, shl1 (by omega), if_pos (by rw [nI_leN (by omega) (by omega)]; omega), nI_plus]
    · refine hD k' p' h1 h2 ?_
      rcases h3 with h3 | h3
      · by_cases z : k' = k
        · exact Or.inr ⟨z, by omega⟩
        · exact Or.inl (by omega)
      · omega
  | succ m ih =>
    intro p v6 v7 v8 v9 h hp hM hR hE hD
    obtain ⟨R1, R2⟩ := hR
    have gg : ∀ c, c < 8 → hI h 254 (40 + 8 * rd A k + c) = nI (A (40 + 8 * rd A k + c)) := fun c hc => hM.at (by omega) (by omega)
    have e168 := m168 (L := L) (d + 1) (h := h) (k := 40 + 8 * rd A k) (by omega) (gg 1 (by omega)) l1
    have T1 := tkH_TH (h := h) (k := 40 + 8 * rd A k) (t := A (40 + 8 * rd A k + 1)) (gg 2 (by omega)) (gg 3 (by omega)) (gg 4 (by omega)) (gg 5 (by omega)) (gg 6 (by omega))
    obtain ⟨F1, F14⟩ := tkH_F (h := h) (k := 40 + 8 * rd A k) (v := nI (A (40 + 8 * rd A k + 1)))
    generalize hh1 : tkH h (40 + 8 * rd A k) (nI (A (40 + 8 * rd A k + 1))) = h1 at e168 T1 F1 F14
    obtain ⟨E1, E2, E3⟩ := hE k hk p (by omega)
    have s1 : hI h1 273 (128 * r + 8 * k + p) = nI (rS A l (rd A k) p r).1 := by rw [F1.1 _ (by omega) (by omega)]; exact E1
    have s2 : hI h1 274 (128 * r + 8 * k + p) = nI (rS A l (rd A k) p r).2.1 := by rw [F1.1 _ (by omega) (by omega)]; exact E2
    have s3 : hI h1 275 (128 * r + 8 * k + p) = nI (rS A l (rd A k) p r).2.2 := by rw [F1.1 _ (by omega) (by omega)]; exact E3
    obtain ⟨j1, j2, j3⟩ := rS_in (l := l) (p := p) (d := rd A k) l2 l3 l4 r
    have hfree := rS_free (A := A) (l := l) (d := rd A k) (p := p) (r := r) (by omega)
    have hheld := rS_held (A := A) (l := l) (d := rd A k) (p := p) (r := r) hr (by omega)
    generalize hst : rS A l (rd A k) p r = st at *
    obtain ⟨hd, la, c⟩ := st
    have T2 : TH (wI (wI (wI (wI (wI (wI h1 253 14 (nI hd)) 253 15 (nI la)) 253 16 (nI c)) 273 (128 * (r + 1) + 8 * k + p + 2 ^ r) (nI hd)) 274 (128 * (r + 1) + 8 * k + p + 2 ^ r) (nI la)) 275 (128 * (r + 1) + 8 * k + p + 2 ^ r) (nI c)) (A (40 + 8 * rd A k + 1)) hd la c (A (40 + 8 * rd A k + 5)) (A (40 + 8 * rd A k + 6)) := by
      obtain ⟨t1, t2, t3, -, -, -⟩ := T1
      unfold TH
      rw [wI_ne (show 253 ≠ 275 by omega), wI_ne (show 253 ≠ 274 by omega), wI_ne (show 253 ≠ 273 by omega)]
      refine ⟨?_, ?_, ?_, ?_, ?_, ?_⟩
      · rw [hI_wI, if_neg (by omega), hI_wI, if_neg (by omega), hI_wI, if_neg (by omega)]
        exact t1
      · rw [hI_wI, if_neg (by omega), hI_wI, if_neg (by omega), hI_wI, if_neg (by omega)]
        exact t2
      · rw [hI_wI, if_neg (by omega), hI_wI, if_neg (by omega), hI_wI, if_neg (by omega)]
        exact t3
      · rw [hI_wI, if_neg (by omega), hI_wI, if_neg (by omega), hI_wI, if_pos ⟨rfl, rfl⟩]
      · rw [hI_wI, if_neg (by omega), hI_wI, if_pos ⟨rfl, rfl⟩]
      · rw [hI_wI, if_pos ⟨rfl, rfl⟩]
    generalize hh2 : wI (wI (wI (wI h1 253 14 (nI hd)) 253 15 (nI la)) 253 16 (nI c)) 273 (128 * (r + 1) + 8 * k + p + 2 ^ r) (nI hd) = h2' at T2
    have n2 : ∀ a, a ≠ 253 → a ≠ 273 → hI h2' a = hI h1 a := fun a p1 p2 => by rw [← hh2, wI_ne p2, wI_ne p1, wI_ne p1, wI_ne p1]
    have h41 : hI (wI (wI h2' 274 (128 * (r + 1) + 8 * k + p + 2 ^ r) (nI la)) 275 (128 * (r + 1) + 8 * k + p + 2 ^ r) (nI c)) 254 1 = nI (A 1) := by
      rw [wI_ne (by omega), wI_ne (by omega), n2 _ (by omega) (by omega), F14]
      exact hM.at (by omega) (by omega)
    obtain ⟨h3, v', g1, g2', g3⟩ := m209_132 (L := L) (A := A) (d := d) (t := A (40 + 8 * rd A k + 1)) (sk := A (40 + 8 * rd A k + 5)) (bo := A (40 + 8 * rd A k + 6)) (n := l r) (b := bg l r) (hd := hd) (la := la) (c := c) l1 l5 l6 j1 j2 (Nat.le_trans j3 (by omega)) hn hb v1 (nI r) (nI k) (nI p) (nI (128 * r + 8 * k + p)) (nI (128 * (r + 1) + 8 * k + p)) (l r) 0 v9 _ (by omega) h41 T2
    generalize hgo : go (A (40 + 8 * rd A k + 1)) (A (40 + 8 * rd A k + 5)) (A (40 + 8 * rd A k + 6)) ((A 1 + bg l r) % 2) (l r) (hd, la, c) = gs at *
    generalize hto : 128 * (r + 1) + 8 * k + p = to at *
    have hto' : to + 2 ^ r < 512 := by omega
    have key : ∀ j, hI (wI (wI (wI h3 273 to (nI gs.1)) 274 to (nI gs.2.1)) 275 to (nI gs.2.2)) 273 j = (if j = to then nI gs.1 else if j = to + 2 ^ r then nI hd else hI h 273 j) ∧ hI (wI (wI (wI h3 273 to (nI gs.1)) 274 to (nI gs.2.1)) 275 to (nI gs.2.2)) 274 j = (if j = to then nI gs.2.1 else if j = to + 2 ^ r then nI la else hI h 274 j) ∧ hI (wI (wI (wI h3 273 to (nI gs.1)) 274 to (nI gs.2.1)) 275 to (nI gs.2.2)) 275 j = (if j = to then nI gs.2.2 else if j = to + 2 ^ r then nI c else hI h 275 j) := by
      intro j
      obtain ⟨q1, q2, q3⟩ := w3_at (h := h3) (i := to) (j := j) (x := nI gs.1) (y := nI gs.2.1) (z := nI gs.2.2)
      obtain ⟨p1, p2, p3⟩ := w3_at (h := wI (wI (wI h1 253 14 (nI hd)) 253 15 (nI la)) 253 16 (nI c)) (i := to + 2 ^ r) (j := j) (x := nI hd) (y := nI la) (z := nI c)
      rw [hh2] at p1 p2 p3
      rw [q1, q2, q3, g2' 273 (by omega), g2' 274 (by omega), g2' 275 (by omega), p1, p2, p3, wI_ne (by omega), wI_ne (by omega), wI_ne (by omega), F1.1 273 (by omega) (by omega), wI_ne (by omega), wI_ne (by omega), wI_ne (by omega), F1.1 274 (by omega) (by omega), wI_ne (by omega), wI_ne (by omega), wI_ne (by omega), F1.1 275 (by omega) (by omega)]
      exact ⟨rfl, rfl, rfl⟩
    have other : ∀ a, a ≠ 253 → ¬ (273 ≤ a ∧ a ≤ 275) → hI (wI (wI (wI h3 273 to (nI gs.1)) 274 to (nI gs.2.1)) 275 to (nI gs.2.2)) a = hI h a := by
      intro a p1 p2
      rw [wI_ne (by omega), wI_ne (by omega), wI_ne (by omega), g2' a p1, wI_ne (by omega), wI_ne (by omega), n2 a p1 (by omega)]
      by_cases z : a = 254
      · rw [z, F14]
      · exact F1.1 a p1 z
    have o3 : ∀ j, (j < 11 ∨ 16 < j) → hI (wI (wI (wI h3 273 to (nI gs.1)) 274 to (nI gs.2.1)) 275 to (nI gs.2.2)) 253 j = hI h 253 j := by
      intro j hj
      rw [wI_ne (by omega), wI_ne (by omega), wI_ne (by omega), g3 j hj, wI_ne (by omega), wI_ne (by omega), ← hh2, wI_ne (by omega), hI_wI, if_neg (by omega), hI_wI, if_neg (by omega), hI_wI, if_neg (by omega)]
      exact F1.2.1 j hj
    generalize hh4 : wI (wI (wI h3 273 to (nI gs.1)) 274 to (nI gs.2.1)) 275 to (nI gs.2.2) = h4' at key other o3
    have E' : ∀ k', k' < rn A → ∀ p', p' < 2 ^ r → E9 h4' A l r k' p' := by
      intro k' hk' p' hp'
      obtain ⟨y1, y2, y3⟩ := key (128 * r + 8 * k' + p')
      unfold E9
      rw [y1, y2, y3, if_neg (by omega), if_neg (by omega), if_neg (by omega), if_neg (by omega), if_neg (by omega), if_neg (by omega)]
      exact hE k' hk' p' hp'
    have D' : D9 h4' A l r k (p + 1) := by
      intro k' p' hk' hp' hc
      by_cases z : k' = k ∧ p' = p
      · obtain ⟨rfl, rfl⟩ := z
        constructor
        · obtain ⟨y1, y2, y3⟩ := key (128 * (r + 1) + 8 * k' + p')
          unfold E9
          rw [y1, y2, y3, if_pos hto, if_pos hto, if_pos hto, hfree]
          exact ⟨rfl, rfl, rfl⟩
        · obtain ⟨y1, y2, y3⟩ := key (128 * (r + 1) + 8 * k' + (p' + 2 ^ r))
          have := Nat.two_pow_pos r
          have n1 : ¬ 128 * (r + 1) + 8 * k' + (p' + 2 ^ r) = to := by omega
          have n2 : 128 * (r + 1) + 8 * k' + (p' + 2 ^ r) = to + 2 ^ r := by omega
          unfold E9
          rw [y1, y2, y3, if_neg n1, if_neg n1, if_neg n1, if_pos n2, if_pos n2, if_pos n2, hheld]
          exact ⟨rfl, rfl, rfl⟩
      · have hold := hD k' p' hk' hp' (by omega)
        have ne : ∀ x, (x = p' ∨ x = p' + 2 ^ r) → 128 * (r + 1) + 8 * k' + x ≠ to ∧ 128 * (r + 1) + 8 * k' + x ≠ to + 2 ^ r := by
          intro x hx
          omega
        constructor
        · obtain ⟨y1, y2, y3⟩ := key (128 * (r + 1) + 8 * k' + p')
          obtain ⟨n1, n2⟩ := ne p' (Or.inl rfl)
          unfold E9
          rw [y1, y2, y3, if_neg n1, if_neg n1, if_neg n1, if_neg n2, if_neg n2, if_neg n2]
          exact hold.1
        · obtain ⟨y1, y2, y3⟩ := key (128 * (r + 1) + 8 * k' + (p' + 2 ^ r))
          obtain ⟨n1, n2⟩ := ne (p' + 2 ^ r) (Or.inr rfl)
          unfold E9
          rw [y1, y2, y3, if_neg n1, if_neg n1, if_neg n1, if_neg n2, if_neg n2, if_neg n2]
          exact hold.2
    obtain ⟨h', u5, u6, u7, u8, u9, z1, z2, z3, z4, z5, z6, z7, z8⟩ := ih (p + 1) (.int (nI (128 * r + 8 * k + p))) (.int (nI to)) (.int (nI (l r))) v' h4' (by omega) (hM.congr (other 254 (by omega) (by omega))) ⟨by rw [o3 30 (by omega)]; exact R1, fun k' hk' => by rw [other 272 (by omega) (by omega)]; exact R2 k' hk'⟩ E' D'
    refine ⟨h', u5, u6, u7, u8, u9, ?_, z2, z3, z4, z5, Fr.tr ⟨fun a p1 p2 => other a p1 (by omega), fun j hj => o3 j (by omega)⟩ z6, by rw [z7, other 276 (by omega) (by omega)], fun a p1 p2 j hj => ?_⟩
    rotate_left
    · rw [z8 a p1 p2 j hj]
      obtain ⟨y1, y2, y3⟩ := key j
      have c : a = 273 ∨ a = 274 ∨ a = 275 := by omega
      rcases c with rfl | rfl | rfl
      · rw [y1, if_neg (by omega), if_neg (by omega)]
      · rw [y2, if_neg (by omega), if_neg (by omega)]
      · rw [y3, if_neg (by omega), if_neg (by omega)]
    rw [e209_15, shl1 (by omega), if_neg (by rw [nI_leN (by omega) (by omega)]; omega), ix_nI (show k < 4294967296 by omega), R2 k hk, inB_nI (by omega), asr_d (by omega), nI_times, nI_plus, e168, cV_s, ixr, ixr1, hto, inB_nI (by omega), asr_d (by omega), asr_d (by omega), asr_d (by omega), ix_nI (by omega), s1, s2, s3, nI_plus, m210 (d + 1) hto', cV_s, hh2, g1, m210 (d + 1) (by omega), cV_s, hh4, nI_plus]
    exact z1
end Rtab
