-- PART: rounds, the reference lays out and goes.
section Rlay
variable {L : Nat} {A l : Nat → Nat}
theorem m209_3 {d r q : Nat} (hr : r ≤ 2) (hV : VW A q) (hq : q ≤ 100000000) (hn : l r ≤ 30) (hb : bg l r ≤ 60) : ∀ (m k : Nat) (v5 v6 v7 v8 v9 : Value) (h : PH), k + m = rn A → RM h 254 A → RH h A → (∀ k, k < rn A → ∀ p, p < 2 ^ r → E9 h A l r k p) → D9 h A l r k 0 → ∃ h', runL (g2 L) (d + 2) 11 false none kc_209 3 [.ref 253, .int (nI r), .int (nI (l r)), .int (nI (bg l r)), .int (nI k), v5, v6, v7, v8, v9] [] h = some (none, h') ∧ RM h' 254 A ∧ RH h' A ∧ (∀ k, k < rn A → ∀ p, p < 2 ^ r → E9 h' A l r k p) ∧ D9 h' A l r (rn A) 0 ∧ Fr h h' ∧ hI h' 276 = hI h 276 ∧ (∀ a, 273 ≤ a → a ≤ 275 → ∀ j, j < 128 * (r + 1) → hI h' a j = hI h a j) := by
  have h16 : rn A ≤ A 4 := rl_len _
  have v4 := hV.2.2.1
  intro m
  induction m with
  | zero =>
    intro k v5 v6 v7 v8 v9 h hk hM hR hE hD
    have hk' : k = rn A := by omega
    subst hk'
    refine ⟨h, ?_, hM, hR, hE, hD, Fr.rf, rfl, fun _ _ _ _ _ => rfl⟩
    rw [e209_3, hR.1, if_pos (by rw [nI_leN (by omega) (by omega)]; omega)]
  | succ m ih =>
    intro k v5 v6 v7 v8 v9 h hk hM hR hE hD
    obtain ⟨h1, u5, u6, u7, u8, u9, a1, a2, a3, a4, a5, a6, a7, a8⟩ := m209_15 (L := L) (d := d) (k := k) hr hV hq (by omega) hn hb (2 ^ r) 0 v6 v7 v8 v9 h (by omega) hM hR hE hD
    obtain ⟨h', b1, b2, b3, b4, b5, b6, b7, b8⟩ := ih (k + 1) u5 u6 u7 u8 u9 h1 (by omega) a2 a3 a4 a5
    refine ⟨h', ?_, b2, b3, b4, b5, a6.tr b6, by rw [b7, a7], fun a p1 p2 j hj => by rw [b8 a p1 p2 j hj, a8 a p1 p2 j hj]⟩
    rw [e209_3, hR.1, if_neg (by rw [nI_leN (by omega) (by omega)]; omega), a1, b1]
theorem m209 (d : Nat) {r q : Nat} {h : PH} (hr : r ≤ 2) (hV : VW A q) (hq : q ≤ 100000000) (hn : l r ≤ 30) (hb : bg l r ≤ 60) (hM : RM h 254 A) (hR : RH h A) (hE : ∀ k, k < rn A → ∀ p, p < 2 ^ r → E9 h A l r k p) : ∃ h', exec (g2 L) (d + 3) 209 [.ref 253, .int (nI r), .int (nI (l r)), .int (nI (bg l r))] h = some (none, h') ∧ RM h' 254 A ∧ RH h' A ∧ (∀ k, k < rn A → ∀ p, p < 2 ^ r → E9 h' A l r k p) ∧ (∀ k, k < rn A → ∀ p, p < 2 ^ (r + 1) → E9 h' A l (r + 1) k p) ∧ Fr h h' ∧ hI h' 276 = hI h 276 ∧ (∀ a, 273 ≤ a → a ≤ 275 → ∀ j, j < 128 * (r + 1) → hI h' a j = hI h a j) := by
  obtain ⟨h', b1, b2, b3, b4, b5, b6, b7, b8⟩ := m209_3 (L := L) (d := d) hr hV hq hn hb (rn A) 0 dm dm dm dm dm h (by omega) hM hR hE (fun k p h1 h2 h3 => by omega)
  refine ⟨h', ?_, b2, b3, b4, fun k hk p hp => ?_, b6, b7, b8⟩
  · rw [x209]
    exact b1
  · rw [Nat.pow_succ] at hp
    by_cases z : p < 2 ^ r
    · exact (b5 k p hk z (Or.inl hk)).1
    · have := (b5 k (p - 2 ^ r) hk (by omega) (Or.inl hk)).2
      rwa [show p - 2 ^ r + 2 ^ r = p by omega] at this
def LR (h : PH) (A : Nat → Nat) (m : Nat) : Prop := hI h 253 30 = nI (rl A m).length ∧ ∀ k, k < (rl A m).length → hI h 272 k = nI ((rl A m).getD k 0) ∧ hI h 273 (8 * k) = nI (A (40 + 8 * (rl A m).getD k 0 + 2)) ∧ hI h 274 (8 * k) = nI (A (40 + 8 * (rl A m).getD k 0 + 3)) ∧ hI h 275 (8 * k) = nI (A (40 + 8 * (rl A m).getD k 0 + 4))
theorem getD_app {xs : List Nat} {m k : Nat} (hk : k < xs.length) : (xs ++ [m]).getD k 0 = xs.getD k 0 := by
  show (xs ++ [m])[k]?.getD 0 = xs[k]?.getD 0
  rw [List.getElem?_append_left hk]
theorem getD_last {xs : List Nat} {m : Nat} : (xs ++ [m]).getD xs.length 0 = m := by
  show (xs ++ [m])[xs.length]?.getD 0 = m
  rw [List.getElem?_append_right (Nat.le_refl _), Nat.sub_self]
  rfl
theorem m204_loop {d q : Nat} (hV : VW A q) : ∀ (n m : Nat) (h : PH), m + n = A 4 → RM h 254 A → LR h A m → ∃ h', runL (g2 L) (d + 1) 11 false none kc_204 7 [.ref 253, .int (nI m)] [] h = some (none, h') ∧ RM h' 254 A ∧ LR h' A (A 4) ∧ Fr h h' ∧ hI h' 276 = hI h 276 := by
  obtain ⟨v1, v3, v4, vb, vk, vl⟩ := id hV
  intro n
  induction n with
  | zero =>
    intro m h hm hM hL
    have hm' : m = A 4 := by omega
    subst hm'
    refine ⟨h, ?_, hM, hL, Fr.rf, rfl⟩
    rw [e204_7, hM.at (k := 4) (by omega) (by omega), if_pos (by rw [nI_leN (by omega) (by omega)]; omega)]
  | succ n ih =>
    intro m h hm hM hL
    have g4 := hM.at (k := 4) (by omega) (by omega)
    have gg : ∀ (h' : PH), hI h' 254 = hI h 254 → ∀ c, c < 8 → hI h' 254 (40 + 8 * m + c) = nI (A (40 + 8 * m + c)) := fun h' e c hc => by rw [e]; exact hM.at (by omega) (by omega)
    have g0 : hI h 254 (40 + 8 * m + 0) = nI (A (40 + 8 * m)) := gg h rfl 0 (by omega)
    have e2 := m167 (L := L) d hM v3 vb vk (st := 0) (by omega) (vl m (by omega)).1
    rw [nI_p0] at e2
    by_cases z : cm A 0 (A (40 + 8 * m) + 1) = true
    · obtain ⟨L1, L2⟩ := id hL
      have hlen := rl_len (A := A) m
      have er : rl A (m + 1) = rl A m ++ [m] := by rw [rl, if_pos z]
      generalize hxs : rl A m = xs at *
      have q3 : ∀ (h' : PH), hI h' 254 = hI h 254 → hI h' 254 (40 + 8 * m + 2) = nI (A (40 + 8 * m + 2)) ∧ hI h' 254 (40 + 8 * m + 3) = nI (A (40 + 8 * m + 3)) ∧ hI h' 254 (40 + 8 * m + 4) = nI (A (40 + 8 * m + 4)) := fun h' e => ⟨gg h' e 2 (by omega), gg h' e 3 (by omega), gg h' e 4 (by omega)⟩
      have w1 : hI (wI h 272 xs.length (nI m)) 254 = hI h 254 := wI_ne (by omega)
      have w2 : hI (wI (wI h 272 xs.length (nI m)) 273 (8 * xs.length) (nI (A (40 + 8 * m + 2)))) 254 = hI h 254 := (wI_ne (by omega)).trans w1
      have w3 : hI (wI (wI (wI h 272 xs.length (nI m)) 273 (8 * xs.length) (nI (A (40 + 8 * m + 2)))) 274 (8 * xs.length) (nI (A (40 + 8 * m + 3)))) 254 = hI h 254 := (wI_ne (by omega)).trans w2
      have t1 : hI (wI h 272 xs.length (nI m)) 253 30 = nI xs.length := by rw [wI_ne (by omega)]; exact L1
      have t2 : hI (wI (wI h 272 xs.length (nI m)) 273 (8 * xs.length) (nI (A (40 + 8 * m + 2)))) 253 30 = nI xs.length := by rw [wI_ne (by omega)]; exact t1
      have t3 : hI (wI (wI (wI h 272 xs.length (nI m)) 273 (8 * xs.length) (nI (A (40 + 8 * m + 2)))) 274 (8 * xs.length) (nI (A (40 + 8 * m + 3)))) 253 30 = nI xs.length := by rw [wI_ne (by omega)]; exact t2
      have hL' : LR (wI (wI (wI (wI (wI h 272 xs.length (nI m)) 273 (8 * xs.length) (nI (A (40 + 8 * m + 2)))) 274 (8 * xs.length) (nI (A (40 + 8 * m + 3)))) 275 (8 * xs.length) (nI (A (40 + 8 * m + 4)))) 253 30 (nI (xs.length + 1))) A (m + 1) := by
        unfold LR
        rw [er, List.length_append, List.length_singleton]
        refine ⟨by rw [hI_wI, if_pos ⟨rfl, rfl⟩], fun k hk => ?_⟩
        rw [wI_ne (by omega), wI_ne (by omega), wI_ne (by omega), wI_ne (by omega), hI_wI, wI_ne (by omega), wI_ne (by omega), wI_ne (by omega), hI_wI, wI_ne (by omega), wI_ne (by omega), wI_ne (by omega), hI_wI, wI_ne (by omega), wI_ne (by omega), wI_ne (by omega), hI_wI, wI_ne (by omega), wI_ne (by omega), wI_ne (by omega)]
        by_cases y : k = xs.length
        · subst y
          rw [getD_last, if_pos ⟨rfl, rfl⟩, if_pos ⟨rfl, rfl⟩, if_pos ⟨rfl, rfl⟩, if_pos ⟨rfl, rfl⟩]
          exact ⟨rfl, rfl, rfl, rfl⟩
        · rw [getD_app (by omega), if_neg (fun q => y q.2), if_neg (by omega), if_neg (by omega), if_neg (by omega)]
          exact L2 k (by omega)
      obtain ⟨h', a1, a2, a3, a4, a5⟩ := ih (m + 1) _ (by omega) (hM.congr (by rw [wI_ne (by omega), wI_ne (by omega)]; exact w3)) hL'
      refine ⟨h', ?_, a2, a3, (((((Fr.w (by omega)).tr (Fr.w (by omega))).tr (Fr.w (by omega))).tr (Fr.w (by omega))).tr (Fr.w3 (by omega))).tr a4, by rw [a5, wI_ne (by omega), wI_ne (by omega), wI_ne (by omega), wI_ne (by omega), wI_ne (by omega)]⟩
      rw [e204_7, g4, if_neg (by rw [nI_leN (by omega) (by omega)]; omega), m166 d (by omega) (by omega), cI_s, g0, e2, cI_s, bI_t z, if_neg (by decide), L1, inB_nI (by omega), asr_d (by omega), ix_nI (by omega), m166 d (by omega) (by omega), cI_s, (q3 _ w1).1, nI_times, inB_nI (by omega), asr_d (by omega), ix_nI (by omega), m166 d (by omega) (by omega), cI_s, (q3 _ w2).2.1, t1, nI_times, inB_nI (by omega), asr_d (by omega), ix_nI (by omega), m166 d (by omega) (by omega), cI_s, (q3 _ w3).2.2, t2, nI_times, inB_nI (by omega), asr_d (by omega), ix_nI (by omega), t3, nI_plus, nI_plus]
      exact a1
    · have er : rl A (m + 1) = rl A m := by rw [rl, if_neg z]
      obtain ⟨h', a1, a2, a3, a4, a5⟩ := ih (m + 1) h (by omega) hM (by unfold LR; rw [er]; exact hL)
      refine ⟨h', ?_, a2, a3, a4, a5⟩
      rw [e204_7, g4, if_neg (by rw [nI_leN (by omega) (by omega)]; omega), m166 d (by omega) (by omega), cI_s, g0, e2, cI_s, bI_f z, if_pos rfl, nI_plus]
      exact a1
theorem m204 (d : Nat) {q : Nat} {h : PH} (hV : VW A q) (hM : RM h 254 A) (l : Nat → Nat) : ∃ h', exec (g2 L) (d + 2) 204 [.ref 253] h = some (none, h') ∧ RM h' 254 A ∧ RH h' A ∧ (∀ k, k < rn A → ∀ p, p < 2 ^ 0 → E9 h' A l 0 k p) ∧ Fr h h' ∧ hI h' 276 = hI h 276 := by
  obtain ⟨h', a1, a2, a3, a4, a5⟩ := m204_loop (L := L) (d := d) hV (A 4) 0 (wI h 253 30 (nI 0)) (by omega) (hM.congr (wI_ne (by omega))) ⟨by rw [hI_wI, if_pos ⟨rfl, rfl⟩]; rfl, fun k hk => absurd hk (Nat.not_lt_zero _)⟩
  refine ⟨h', ?_, a2, ⟨a3.1, fun k hk => (a3.2 k hk).1⟩, fun k hk p hp => ?_, (Fr.w3 (by omega)).tr a4, by rw [a5, wI_ne (by omega)]⟩
  · rw [x204]
    exact a1
  · have hp0 : p = 0 := by
      have : p < 1 := hp
      omega
    subst hp0
    have := (a3.2 k hk).2
    unfold E9
    rw [show 128 * 0 + 8 * k + 0 = 8 * k by omega]
    exact this
end Rlay
