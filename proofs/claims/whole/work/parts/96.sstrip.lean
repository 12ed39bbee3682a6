-- PART: strips, the call.
section Sstrip
variable {L : Nat} {T : Nat → Nat} {t : Nat}
theorem mstart {g : PH} (ht : t ≤ 300) (hT : ∀ k, T k < 256) (h3 : hI g 253 3 = nI t) (hb : ∀ k, k < t → hI g 256 k = sb (T k)) (h5 : hI g 254 5 ≠ nI 4) : ∃ h', exec (g2 L) 100 214 [.ref 253] g = ML L h' ∧ QS h' T t 0 0 0 0 4 [] ∧ hI h' 253 53 = nI 0 ∧ (∀ a, a ≠ 253 → hI h' a = hI g a) ∧ (∀ k, k < 38 → k ≠ 3 → hI h' 253 k = hI g 253 k) ∧ hI h' 253 3 = nI 0 := by
  have s0 := x214 L 99 g
  rw [if_pos h5, h3] at s0
  have W : ∃ W : PH, W = wI (wI (wI (wI (wI (wI (wI (wI (wI (wI (wI g 253 38 (nI t)) 253 3 (nI 0)) 253 39 (nI 0)) 253 43 (nI 0)) 253 44 m1) 253 45 (nI 0)) 253 46 (nI 0)) 253 49 (nI 0)) 253 52 (nI 4)) 253 53 (nI 0)) 253 56 (nI 0) := ⟨_, rfl⟩
  obtain ⟨W, hW⟩ := W
  rw [← hW] at s0
  have wo : ∀ a, a ≠ 253 → hI W a = hI g a := fun a ha => by rw [hW, wI_ne ha, wI_ne ha, wI_ne ha, wI_ne ha, wI_ne ha, wI_ne ha, wI_ne ha, wI_ne ha, wI_ne ha, wI_ne ha, wI_ne ha]
  have wr : ∀ k, hI W 253 k = if k = 56 then nI 0 else if k = 53 then nI 0 else if k = 52 then nI 4 else if k = 49 then nI 0 else if k = 46 then nI 0 else if k = 45 then nI 0 else if k = 44 then m1 else if k = 43 then nI 0 else if k = 39 then nI 0 else if k = 3 then nI 0 else if k = 38 then nI t else hI g 253 k := fun k => by
    rw [hW]
    simp only [hI_wI, true_and]
  obtain ⟨h', a1, a2, a3⟩ := m215 (L := L) 96 (p := 0) (h := W) ht hT (Nat.zero_le _) ⟨fun k hk => by rw [wo 256 (by omega)]; exact hb k hk, by rw [wr 38]; rfl, by rw [wr 39]; rfl⟩
  rw [a1, cV_s] at s0
  have e : ∀ k, ¬ (39 ≤ k ∧ k ≤ 42) → hI h' 253 k = hI W 253 k := a3.2.1
  refine ⟨h', s0, ⟨a2, fun k hk => ?_, ?_, ?_, ?_, ?_, ?_, ?_, ?_, fun u hu => absurd hu (Nat.not_lt_zero _)⟩, ?_, fun a ha => by rw [a3.1 a ha, wo a ha], fun k hk h3' => ?_, ?_⟩
  · rw [a3.1 256 (by omega), wo 256 (by omega)]
    exact hb k hk
  · rw [e 43 (by omega), wr 43]
    rfl
  · rw [e 44 (by omega), wr 44]
    rfl
  · rw [e 45 (by omega), wr 45]
    rfl
  · rw [e 46 (by omega), wr 46]
    rfl
  · rw [e 49 (by omega), wr 49]
    rfl
  · rw [e 52 (by omega), wr 52]
    rfl
  · rw [e 56 (by omega), wr 56]
    rfl
  · rw [e 53 (by omega), wr 53]
    rfl
  · rw [e k (by omega), wr k, if_neg (by omega), if_neg (by omega), if_neg (by omega), if_neg (by omega), if_neg (by omega), if_neg (by omega), if_neg (by omega), if_neg (by omega), if_neg (by omega), if_neg h3', if_neg (by omega)]
  · rw [e 3 (by omega), wr 3]
    rfl
variable {n : Nat} {h : PH} {A B : Nat → Nat}
theorem op_strip (hC : Core n h A B) (hF : TF h) (hS : SA h A) : ∃ x h1 h2 A', exec (g2 L) 100 93 [.ref 2] h = some (some (.int x), h1) ∧ exec (g2 L) 100 214 [.ref 253] h1 = some (some (.int x), h2) ∧ Core (n + 1) h2 A' B ∧ TF h2 ∧ SA h2 A' ∧ (∀ j, j ≠ 5 → A' j = A j) ∧ (∀ a, (a = 1 ∨ (97 ≤ a ∧ a ≤ 127)) → hI h2 a = hI h a) ∧ Pk h h2 := by
  obtain ⟨c1, c2, c3, c4, c5, c6, c7⟩ := id hC
  obtain ⟨⟨t, t1, t2, t3, t4⟩, hf⟩ := id hF
  have a5 := c5.2.2.1
  have f4 := c1.ns
  rw [Nat.zero_add] at f4
  have g5 := c3.at (k := 5) (by omega) (by omega)
  by_cases z : A 5 = 4
  · refine ⟨m1, h, h, A, ?_, ?_, hC.mono (Nat.le_succ _), hF, hS, fun _ _ => rfl, fun _ _ => rfl, fun _ _ _ => rfl⟩
    · rw [x93, f4, if_neg (by rw [nI_ltN (by omega) (by omega)]; omega)]
    · rw [x214, g5, if_neg (by rw [z]; exact fun q => q rfl)]
  · have s4 : A 5 < 4 := by omega
    -- the tape
    have Tt : ∃ T : Nat → Nat, (∀ k, T k < 256) ∧ (∀ k, k < t → hI h 206 k = nI (T k)) ∧ ∀ k, k < t → hI h 256 k = sb (T k) := by
      refine ⟨fun k => if k < t then ix (hI h 206 k) else 0, fun k => ?_, fun k hk => ?_, fun k hk => ?_⟩
      · show (if k < t then ix (hI h 206 k) else 0) < 256
        by_cases q : k < t
        · obtain ⟨b, b1', b2', _⟩ := t4 k q
          rw [if_pos q, b2', ix_nI (by omega)]
          exact b1'
        · rw [if_neg q]
          omega
      · show _ = nI (if k < t then ix (hI h 206 k) else 0)
        rw [if_pos hk, nI_ix]
      · show _ = sb (if k < t then ix (hI h 206 k) else 0)
        obtain ⟨b, b1', b2', b3'⟩ := t4 k hk
        rw [if_pos hk, b2', ix_nI (by omega)]
        exact b3'
    obtain ⟨T, hT, T6, Tb⟩ := Tt
    have n5 : hI h 254 5 ≠ nI 4 := by rw [g5, Ne, nI_eqI (by omega) (by omega)]; omega
    -- the class, beside a reference of its own
    obtain ⟨w0, _m0, W1, W2, _m1⟩ := mstart (L := L) (g := h) t1 hT t3 Tb n5
    obtain ⟨v, g, _wm, p1, _ml, _rf, p2, p3, p4⟩ := strip_par (L := L) (s := A 5) t1 hT s4 T6 t2 W1 W2
    have s0 := x93 L 99 h
    rw [f4, if_pos (by rw [nI_ltN (by omega) (by omega)]; exact s4), inB_nI (by omega), asr_d (by omega), ix_nI (by omega), p1, cI_s, nI_plus] at s0
    have v01 : v = 1 ∨ v = 0 := by
      rcases p4 with ⟨q, _⟩ | ⟨q, _⟩
      · exact Or.inl q
      · exact Or.inr q
    -- the heap behind the class
    have h1e : ∃ h1, h1 = (if v = 1 then wI (wI g 205 0 (nI 0)) 3 4 (nI (A 5 + 1)) else wI g 205 0 (nI 0)) := ⟨_, rfl⟩
    obtain ⟨h1, h1e⟩ := h1e
    have s1 : exec (g2 L) 100 93 [.ref 2] h = some (some (.int (if v = 1 then nI (A 5) else m1)), h1) := by
      rw [s0, h1e]
      rcases v01 with q | q
      · rw [q, if_pos (by decide), if_pos rfl, if_pos rfl]
      · rw [q, if_neg (fun w => w rfl), if_neg (by omega), if_neg (by omega)]
    have fo : ∀ a, a ≠ 3 → ¬ (205 ≤ a ∧ a ≤ 211 ∧ a ≠ 206) → ¬ (213 + 10 * A 5 ≤ a ∧ a ≤ 213 + 10 * A 5 + 9) → hI h1 a = hI h a := fun a q1 q2 q3 => by
      rw [h1e]
      by_cases q : v = 1
      · rw [if_pos q, wI_ne q1, wI_ne (by omega), p2 a (by omega) q3]
      · rw [if_neg q, wI_ne (by omega), p2 a (by omega) q3]
    have fg : ∀ a, a ≠ 3 → a ≠ 205 → hI h1 a = hI g a := fun a q1 q2 => by
      rw [h1e]
      by_cases q : v = 1
      · rw [if_pos q, wI_ne q1, wI_ne q2]
      · rw [if_neg q, wI_ne q2]
    have f205 : hI h1 205 0 = nI 0 := by
      rw [h1e]
      by_cases q : v = 1
      · rw [if_pos q, wI_ne (by omega), hI_wI, if_pos ⟨rfl, rfl⟩]
      · rw [if_neg q, hI_wI, if_pos ⟨rfl, rfl⟩]
    have f3 : ∀ k, k ≠ 4 → hI h1 3 k = hI h 3 k := fun k hk => by
      rw [h1e]
      by_cases q : v = 1
      · rw [if_pos q, hI_wI, if_neg (fun w => hk w.2), wI_ne (by omega), p2 3 (by omega) (by omega)]
      · rw [if_neg q, wI_ne (by omega), p2 3 (by omega) (by omega)]
    -- the reference on it
    obtain ⟨w1, X1, X2, X3, X4, X5, X6⟩ := mstart (L := L) (g := h1) t1 hT (by rw [fo 253 (by omega) (by omega) (by omega)]; exact t3) (fun k hk => by rw [fo 256 (by omega) (by omega) (by omega)]; exact Tb k hk) (by rw [fo 254 (by omega) (by omega) (by omega)]; exact n5)
    obtain ⟨v', g', w2, q1, q2, q3, _x1, _x2, q4⟩ := strip_par (L := L) (s := A 5) t1 hT s4 T6 t2 X2 X3
    rw [p1] at q1
    have e1 := Option.some.inj q1
    have e2 : g = g' := (Prod.mk.inj e1).2
    have e3 : nI v = nI v' := Value.int.inj (Option.some.inj (Prod.mk.inj e1).1)
    subst e2
    have v01' : v' = 1 ∨ v' = 0 := by
      rcases q4 with ⟨q, _⟩ | ⟨q, _⟩
      · exact Or.inl q
      · exact Or.inr q
    have e4 : v = v' := (nI_eqI (by omega) (by omega)).mp e3
    subst e4
    have w254 : hI w2 254 = hI h 254 := by rw [q3.1 254 (by omega) (by omega), X4 254 (by omega), fo 254 (by omega) (by omega) (by omega)]
    have wk : ∀ a, ¬ (253 ≤ a ∧ a ≤ 286) → hI w2 a = hI h1 a := fun a ha => by rw [q3.1 a (by omega) (by omega), X4 a (by omega)]
    have w5x : ∀ a, 257 ≤ a → a ≤ 261 → hI w2 a = hI h a := fun a p q => by rw [q3.1 a (by omega) (by omega), X4 a (by omega), fo a (by omega) (by omega) (by omega)]
    have w253 : hI w2 253 3 = nI 0 := by rw [q3.2.1 3 (by omega)]; exact X6
    rcases q4 with ⟨rfl, y1, y2, n', m, cd, y3, y4, y5, y6, y7, y8, y9, y10, y11⟩ | ⟨rfl, f, q, y1, y2, y3, y4, y5⟩
    · -- a sound strip
      have m12 := y3.2.2.1
      obtain ⟨w3, k1, k2, k3, k4, k5, k6, k7, k8⟩ := m238 (L := L) (s := A 5) (m := m) (c := cd.length) 98 (h := wI (wI w2 253 4 (nI 0)) 253 5 m1) s4 m12 (by omega) (by rw [hI_wI, if_neg (by omega), hI_wI, if_neg (by omega)]; exact y6) (by rw [hI_wI, if_neg (by omega), hI_wI, if_neg (by omega)]; exact y7.1)
      have w3k : ∀ a, ¬ (257 ≤ a ∧ a ≤ 261) → a ≠ 253 → hI w3 a = hI w2 a := fun a p q => by rw [k7 a p, wI_ne q, wI_ne q]
      have w3s : ∀ k, k ≠ 4 → k ≠ 5 → hI w3 253 k = hI w2 253 k := fun k p q => by rw [k7 253 (by omega), hI_wI, if_neg (fun w => q w.2), hI_wI, if_neg (fun w => p w.2)]
      have m0 : exec (g2 L) 100 214 [.ref 253] h1 = some (some (.int (nI (A 5))), wI w3 254 5 (nI (A 5 + 1))) := by
        have w35 : hI w3 254 5 = nI (A 5) := by rw [w3k 254 (by omega) (by omega), w254]; exact g5
        rw [X1, q2, e214_167, y9, if_pos (by decide), y10, w254, g5, k1, cV_s, w35, nI_plus, nI_m1_plus]
      have hR1 : RC h1 0 (ud A 5 (A 5 + 1)) := by
        rw [h1e, if_pos rfl]
        exact RC.set (c1.congr (fun a p q => by rw [wI_ne (by omega), p2 a (by omega) (by omega)])) (k := 5) rfl rfl rfl rfl
      have hA' : ∀ j, j ≠ 5 → ud A 5 (A 5 + 1) j = A j := fun j hj => ud_ne A hj
      refine ⟨nI (A 5), h1, wI w3 254 5 (nI (A 5 + 1)), ud A 5 (A 5 + 1), by rw [s1, if_pos rfl], m0, ?_, ?_, fun s' hs' => ?_, hA', fun a ha => ?_, fun a p q => ?_⟩
      · refine ⟨hR1.congr (fun a p q => by rw [wI_ne (by omega), w3k a (by omega) (by omega), wk a (by omega)]), c2.congr (fun a p q => by rw [wI_ne (by omega), w3k a (by omega) (by omega), wk a (by omega), fo a (by omega) (by omega) (by omega)]), RM.set (c3.congr (by rw [w3k 254 (by omega) (by omega), w254])) (k := 5) rfl, c4.congr (by rw [wI_ne (by omega), w3k 255 (by omega) (by omega), q3.1 255 (by omega) (by omega), X4 255 (by omega), fo 255 (by omega) (by omega) (by omega)]), ?_, c6.mono (Nat.le_succ _), by rw [ud_at]; omega⟩
        obtain ⟨v0, v2, v5, v6, vw, v7, v8, v9, v10, v11, vb, vl, vr, vs, z1, z2⟩ := c5.mono (Nat.le_succ n)
        refine ⟨by rw [hA' 0 (by omega)]; exact v0, by rw [hA' 2 (by omega)]; exact v2, by rw [ud_at]; omega, by rw [ud_at, hA' 6 (by omega)]; omega, vw.congr (fun j hj => hA' j (by omega)), by rw [hA' 7 (by omega)]; exact v7, by rw [hA' 8 (by omega)]; exact v8, by rw [hA' 9 (by omega)]; exact v9, by rw [hA' 10 (by omega), hA' 4 (by omega)]; exact v10, by rw [hA' 11 (by omega)]; exact v11, fun b hb => ?_, ?_, fun i hi => ?_, fun i hi => ?_, fun d hd hd2 c hc => ?_, fun d hd hd2 c hc => ?_⟩
        · rw [hA' 11 (by omega)] at hb
          rw [hA' _ (by omega)]
          exact vb b hb
        · rw [hA' 10 (by omega), hA' 11 (by omega)]
          exact vl.congr (fun j q1 q2 => hA' j (by omega))
        · rw [hA' 7 (by omega)] at hi
          rw [hA' 10 (by omega), hA' 8 (by omega), hA' 0 (by omega), hA' _ (by omega), hA' _ (by omega), hA' _ (by omega), hA' _ (by omega)]
          exact vr i hi
        · rw [hA' 7 (by omega)] at hi
          rw [hA' _ (by omega), hA' _ (by omega)]
          exact vs i hi
        · rw [hA' 4 (by omega)] at hd
          rw [hA' _ (by omega)]
          exact z1 d hd hd2 c hc
        · rw [hA' 10 (by omega)] at hd
          rw [hA' _ (by omega)]
          exact z2 d hd hd2 c hc
      · refine ⟨⟨0, by omega, ?_, ?_, fun i hi => absurd hi (Nat.not_lt_zero _)⟩, Or.inr ⟨?_, ?_, ?_⟩⟩
        · rw [wI_ne (by omega), w3k 205 (by omega) (by omega), wk 205 (by omega)]
          exact f205
        · rw [wI_ne (by omega), w3s 3 (by omega) (by omega)]
          exact w253
        · rw [wI_ne (by omega), w3k 207 (by omega) (by omega), wk 207 (by omega), fg 207 (by omega) (by omega)]
          exact p3
        · rw [wI_ne (by omega), wI_ne (by omega), w3k 207 (by omega) (by omega), wk 207 (by omega), fg 207 (by omega) (by omega), y1, k7 253 (by omega), hI_wI, if_neg (by omega), hI_wI, if_pos ⟨rfl, rfl⟩]
        · rw [wI_ne (by omega), wI_ne (by omega), w3k 207 (by omega) (by omega), wk 207 (by omega), fg 207 (by omega) (by omega), y2, k7 253 (by omega), hI_wI, if_pos ⟨rfl, rfl⟩]
      · rw [ud_at] at hs'
        by_cases e : s' = A 5
        · subst e
          refine ⟨kf g (A 5), lef g (A 5), rif g (A 5), n', m, rbf g (A 5), rrf g (A 5), y3, ?_, ?_, ?_, fun k hk => ?_⟩
          · exact y4.cg (fun a p q => by rw [wI_ne (by omega), w3k a (by omega) (by omega), wk a (by omega), fg a (by omega) (by omega)])
          · exact y5.cg (fun a p q => by rw [wI_ne (by omega), w3k a (by omega) (by omega), wk a (by omega), fg a (by omega) (by omega)])
          · rw [wI_ne (by omega), k2 (A 5), if_pos rfl]
          · obtain ⟨z1, a, z2, z3, P, Q, z4, z5⟩ := y11 k hk
            have ll : cd.length = P.length + ((pf (kf g (A 5)) (lef g (A 5)) (rif g (A 5)) (rrf g (A 5) k)).length + 1 + Q.length) := by
              rw [z4, List.length_append, List.length_append, List.length_append, List.length_singleton]
            refine ⟨?_, a, ?_, by omega, z3, fun u hu => ?_⟩
            · rw [wI_ne (by omega), k3, if_pos (by omega), show 12 * A 5 + k - 12 * A 5 = k by omega, wI_ne (by omega), wI_ne (by omega)]
              exact z1
            · rw [wI_ne (by omega), k4, if_pos (by omega), show 12 * A 5 + k - 12 * A 5 = k by omega, wI_ne (by omega), wI_ne (by omega), z2, nI_plus]
            · rw [List.length_append, List.length_singleton] at hu
              rw [wI_ne (by omega), wI_ne (by omega), k5, k6, if_pos (by omega), if_pos (by omega), wI_ne (by omega), wI_ne (by omega), wI_ne (by omega), wI_ne (by omega), show 400 * A 5 + a + u - 400 * A 5 = a + u by omega]
              have ce := y7.2 (a + u) (by omega)
              have ge : cd.getD (a + u) (0, 0) = (pf (kf g (A 5)) (lef g (A 5)) (rif g (A 5)) (rrf g (A 5) k) ++ [(408, 0)]).getD u (0, 0) := by
                rw [z4, List.getD_eq_getElem?_getD, List.getElem?_append_right (by omega), show a + u - P.length = u by omega, List.getElem?_append_left (by rw [List.length_append, List.length_singleton]; omega), ← List.getD_eq_getElem?_getD]
              rw [ge] at ce
              exact ce
        · obtain ⟨K, l, r, n0, m0', rb, rr, i1, i2, i3, i4⟩ := hS s' (by omega)
          have sm : ∀ a, 213 + 10 * s' ≤ a → a ≤ 213 + 10 * s' + 9 → hI (wI w3 254 5 (nI (A 5 + 1))) a = hI h a := fun a p q => by rw [wI_ne (by omega), w3k a (by omega) (by omega), wk a (by omega), fo a (by omega) (by omega) (by omega)]
          have i12 := i1.2.2.1
          refine ⟨K, l, r, n0, m0', rb, rr, i1, i2.cg sm, i3.cg sm, ?_, fun k hk => ?_⟩
          · rw [wI_ne (by omega), k2 s', if_neg e, wI_ne (by omega), wI_ne (by omega), w5x 257 (by omega) (by omega)]
            exact i4.1
          · obtain ⟨z1, a, z2, z3, z4, z5⟩ := i4.2 k hk
            refine ⟨?_, a, ?_, z3, z4, fun u hu => ?_⟩
            · rw [wI_ne (by omega), k3, if_neg (by omega), wI_ne (by omega), wI_ne (by omega), w5x 258 (by omega) (by omega)]
              exact z1
            · rw [wI_ne (by omega), k4, if_neg (by omega), wI_ne (by omega), wI_ne (by omega), w5x 259 (by omega) (by omega)]
              exact z2
            · have hu' := hu
              rw [List.length_append, List.length_singleton] at hu'
              rw [wI_ne (by omega), wI_ne (by omega), k5, k6, if_neg (by omega), if_neg (by omega), wI_ne (by omega), wI_ne (by omega), wI_ne (by omega), wI_ne (by omega), w5x 260 (by omega) (by omega), w5x 261 (by omega) (by omega)]
              exact z5 u hu
      · rw [wI_ne (by omega), w3k a (by omega) (by omega), wk a (by omega), fo a (by omega) (by omega) (by omega)]
      · rw [wI_ne (by omega), w3k a (by omega) (by omega), wk a (by omega), fo a (by omega) (by omega) (by omega)]
    · -- a fault
      have m0 : exec (g2 L) 100 214 [.ref 253] h1 = some (some (.int m1), wI (wI w2 253 4 (nI f)) 253 5 (nI q)) := by
        rw [X1, q2, e214_167, y5.1, if_neg (by rw [nI_leN (by omega) (by omega)]; omega), y5.2]
      have wz : ∀ a, a ≠ 253 → hI (wI (wI w2 253 4 (nI f)) 253 5 (nI q)) a = hI w2 a := fun a ha => by rw [wI_ne ha, wI_ne ha]
      refine ⟨m1, h1, wI (wI w2 253 4 (nI f)) 253 5 (nI q), A, by rw [s1, if_neg (by omega)], m0, ?_, ?_, fun s' hs' => (hS s' hs').cg (fun a p' q' => ?_) (fun a p' q' => ?_), fun _ _ => rfl, fun a ha => ?_, fun a p' q' => ?_⟩
      · refine ⟨(c1.congr (h' := h1) (fun a p q => ?_)).congr (fun a p q => by rw [wz a (by omega), wk a (by omega)]), c2.congr (fun a p q => by rw [wz a (by omega), wk a (by omega), fo a (by omega) (by omega) (by omega)]), c3.congr (by rw [wz 254 (by omega), w254]), c4.congr (by rw [wz 255 (by omega), q3.1 255 (by omega) (by omega), X4 255 (by omega), fo 255 (by omega) (by omega) (by omega)]), c5.mono (Nat.le_succ _), c6.mono (Nat.le_succ _), c7⟩
        rw [h1e, if_neg (by omega), wI_ne (by omega), p2 a (by omega) (by omega)]
      · refine ⟨⟨0, by omega, ?_, ?_, fun i hi => absurd hi (Nat.not_lt_zero _)⟩, Or.inr ⟨?_, ?_, ?_⟩⟩
        · rw [wz 205 (by omega), wk 205 (by omega)]
          exact f205
        · rw [hI_wI, if_neg (by omega), hI_wI, if_neg (by omega)]
          exact w253
        · rw [wz 207 (by omega), wk 207 (by omega), fg 207 (by omega) (by omega)]
          exact p3
        · rw [hI_wI, if_neg (by omega), hI_wI, if_pos ⟨rfl, rfl⟩, wz 207 (by omega), wk 207 (by omega), fg 207 (by omega) (by omega), y1]
        · rw [hI_wI, if_pos ⟨rfl, rfl⟩, wz 207 (by omega), wk 207 (by omega), fg 207 (by omega) (by omega), y2]
      · rw [wz a (by omega), wk a (by omega), fo a (by omega) (by omega) (by omega)]
      · rw [wz a (by omega), w5x a p' q']
      · rw [wz a (by omega), wk a (by omega), fo a (by omega) (by omega) (by omega)]
      · rw [wz a (by omega), wk a (by omega), fo a (by omega) (by omega) (by omega)]
end Sstrip
