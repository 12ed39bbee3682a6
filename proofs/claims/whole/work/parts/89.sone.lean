-- PART: strips, both readers side by side: what stands in a number.
section Sone
variable {L : Nat} {T : Nat → Nat} {t N s o : Nat}
theorem nb_le (j : Nat) : nb T t j ≤ 10000 := by
  unfold nb tkV
  split
  · exact nvC_le _
  · exact Nat.zero_le _
/-- a leaf in the class -/
theorem c_leaf (D : Nat) {j n : Nat} {hc : PH} (hs : s < 4) (hC : CC hc T t N s j n) (hn : n ≤ j) (hk : (kd T t j = 2 ∧ nb T t j ≤ 9999) ∨ (12 ≤ kd T t j ∧ kd T t j ≤ 16)) (x1 x2 : Int32) : ∃ hc', runL (g2 L) (D + 2) 8 false (some .int) kc_115 64 [.ref 207, .int x1, .int x2, dm] [] hc = some (some (.int (nI n)), hc') ∧ OKp hc hc' T t N s j n n (j + 1) (n + 1) ∧ kf hc' s n = kd T t j ∧ lef hc' s n = nb T t j := by
  have jN := hC.ne (by omega)
  have N3 := hC.1.1
  have nbl := nb_le (T := T) (t := t) j
  obtain ⟨g1, a1, a2, a3, a4, a5⟩ := c116 (L := L) D (k := kd T t j) (v := nb T t j) hs hC (by omega) (by omega)
  obtain ⟨g2', b1', b2', b3', b4'⟩ := c108 (L := L) (D + 1) hs a2 (by omega) (by omega)
  have k1 : kf g2' s n = kd T t j := by
    rw [(b3'.ag.1 n (by omega)).1]
    exact a4
  have k2 : lef g2' s n = nb T t j := by
    rw [(b3'.ag.1 n (by omega)).2.1]
    exact a5
  have ln : (Pf g2' s n).length = 1 := by
    unfold Pf
    rcases hk with hk | hk
    · rw [pf_n (k1.trans hk.1)]
      rfl
    · rw [pf_c (by rw [k1]; exact hk)]
      rfl
  refine ⟨g2', ?_, ⟨b2', by omega, a3.tr (b3'.le (by omega)), by omega, by omega, by omega, by omega⟩, k1, k2⟩
  rw [e115_64, hC.2.2.1, inB_nI (by omega), asr_d (by omega), hC.2.2.2.2.2.2.1, okA_of (kk30 hs) (by omega), asr_true, ix_nI (by omega), hC.2.2.2.1, (hC.1.2.2 j (by omega)).2.2 jN, a1, cI_s, b1', cV_s]
theorem s1_step (ht : t ≤ 300) (hT : ∀ k, T k < 256) (hs : s < 4) (ho : o ≤ 8) (h1 : o < 8 → S1 L T t N s (o + 1)) (h3 : o < 8 → S3 L T t N s (o + 1)) : S1 L T t N s o := by
  intro D j n nf nw cd hc hm hD hC hQ hn hcl hnf hnw hWT
  obtain ⟨E, rfl⟩ : ∃ E, D = E + 6 := ⟨D - 6, by omega⟩
  have k27 := kd_le hQ
  have jN := hC.2.1
  have N3 := hC.1.1
  have s0 := x115 L (E + 5) (nI o) hc
  rw [hC.2.2.2.1] at s0
  by_cases k2 : kd T t j = 2
  · have jl := hC.ne (by omega)
    have nbl := nb_le (T := T) (t := t) j
    rw [k2, if_neg (fun q => q rfl), e115_13, if_neg (by decide), hC.2.2.1, inB_nI (by omega), asr_d (by omega), ix_nI (by omega), (hC.1.2.2 j (by omega)).2.2 jl] at s0
    by_cases v : nb T t j ≤ 9999
    · rw [if_pos (by rw [nI_leN (by omega) (by omega)]; exact v), e115_42, if_pos (by decide)] at s0
      obtain ⟨hc', a1, a2, a3, a4⟩ := c_leaf (L := L) (E + 3) hs hC hn (Or.inl ⟨k2, v⟩) (nI o) (nI 1)
      obtain ⟨hm', b1', b2', b3', b4'⟩ := b_num (L := L) ht hT hQ k2 v (by omega)
      have P : Pf hc' s n = [(400, nb T t j)] := by
        unfold Pf
        rw [pf_n (a3.trans k2), a4]
      rw [← P] at b2'
      exact Or.inl ⟨n, j + 1, n + 1, 1, hc', hm', s0.trans a1, a2, b1', b2', b3'⟩
    · rw [if_neg (by rw [nI_leN (by omega) (by omega)]; exact v)] at s0
      obtain ⟨hc', a1, a2, a3, a4, a5⟩ := c105 (L := L) (E + 4) (f := 2) hs hC
      obtain ⟨hm', b1', b2', b3'⟩ := b_big (L := L) hQ k2 v
      rw [a1, cI_s] at s0
      exact Or.inr ⟨m1, hc', hm', s0, b1', FLT.of hC a2 a3 a4 a5 (by omega) b2' b3'⟩
  · rw [if_pos (by rw [Ne, nI_eqI (by omega) (by omega)]; exact k2), e115_13, if_pos rfl, e115_42, if_neg (fun q => q rfl), hC.2.2.2.1] at s0
    by_cases kn : 12 ≤ kd T t j ∧ kd T t j ≤ 16
    · rw [if_neg (by rw [nI_ltN (by omega) (by omega)]; omega), if_neg (by rw [nI_ltN (by omega) (by omega)]; omega)] at s0
      obtain ⟨hc', a1, a2, a3, a4⟩ := c_leaf (L := L) (E + 3) hs hC hn (Or.inr kn) (nI o) (nI 0)
      obtain ⟨hm', b1', b2', b3', b4'⟩ := b_name (L := L) ht hT hQ kn (by omega)
      have P : Pf hc' s n = [(401, kd T t j - 12)] := by
        unfold Pf
        rw [pf_c (by rw [a3]; exact kn), a3]
      rw [← P] at b2'
      exact Or.inl ⟨n, j + 1, n + 1, 1, hc', hm', s0.trans a1, a2, b1', b2', b3'⟩
    · by_cases ko : kd T t j = 6 ∨ kd T t j = 24
      · have s1 : exec (g2 L) (E + 6) 115 [.ref 207, .int (nI o)] hc = runL (g2 L) (E + 5) 8 false (some .int) kc_115 118 [.ref 207, .int (nI o), .int (nI 0), dm] [] hc := by
          rw [s0]
          rcases ko with ko | ko
          · rw [ko, if_pos (by decide), if_pos rfl]
          · rw [ko, if_neg (by decide), if_pos (by decide), if_neg (by decide), if_pos rfl]
        rw [e115_118, hC.2.2.2.1] at s1
        rcases b_open (L := L) ht hT hQ ko (by omega) ho with ⟨z, w1, b1', b2', b3', b4'⟩ | ⟨z, w1, b1', b2', b3'⟩
        · rw [if_pos (by rw [nI_ltN (by omega) (by omega)]; exact z), nI_plus] at s1
          rcases ko with ko | ko
          · rw [if_neg (by rw [ko]; exact fun q => q rfl), x119] at s1
            rw [if_pos ko] at b3'
            obtain ⟨g1, a1, a2, a3, a4⟩ := c108 (L := L) (E + 3) hs hC (by omega) (by omega)
            rw [a1, cV_s] at s1
            have wt1 : WT w1 nf nw := hWT.cg (Nat.le_refl _) (Nat.le_refl _) b4'.2.2.1
            have bz : BZ w1 (nf + 1) nw 3 := wt1.bz (by omega)
            rcases h3 z (E + 4) (j + 1) n nf nw 6 cd g1 w1 (by omega) a2 b2' (by omega) (by omega) (by omega) (by omega) (wt1.cg (Nat.le_refl _) (by omega) (fun _ _ => ⟨rfl, rfl⟩)) b3' (by omega) bz with ⟨i, j', n', nw1, nw', cd', c1, g2', w2, e1, ⟨o1, o2, o3, o4, o5, o6, o7⟩, e2, e3, e4, e5, e6, e7⟩ | ⟨r, g2', w2, e1, e2, e3⟩
            · rw [e1, cI_s, o1.2.2.2.2.1, if_pos rfl, o1.2.2.2.1] at s1
              have l1 := (b4'.le (Nat.le_refl _) (Nat.le_refl _)).tr (e6.le (by omega) (Nat.le_refl _))
              have top2 : hI w2 279 nf = nI 6 := by
                rw [e6.2.1 nf (by omega)]
                exact b3'
              by_cases k7 : kd T t j' = 7
              · obtain ⟨g3, c1', c2, c3, c4⟩ := c108 (L := L) (E + 3) hs o1 (by omega) (by omega)
                have j'N := o1.ne (by omega)
                rw [if_pos (by rw [k7]), c1', cV_s, cI_s] at s1
                have Pi : Pf g3 s i = Pf g2' s i := Pf_old o1 (c3.le (by have := o1.2.2.2.2.2.2.2.2.1; omega)) o2
                obtain ⟨w3, d1, d2, d3, d4⟩ := fl2 (L := L) e3 e4 e5 (r := 3) (by omega) (Nat.le_refl _) (bz.cg (Nat.le_refl _) e6.2.2.1) (by omega) (by omega) (by rw [List.length_append]; omega) (by omega)
                obtain ⟨w4, f1, f2, f3, f4⟩ := g_close (L := L) ht hT e3 (by omega) top2 k7 d1 d2
                refine Or.inl ⟨i, j' + 1, n', 2, g3, w4, s1, ⟨c2, o2, ((a3.le (by omega)).tr o3).tr (c3.le (by have := o1.2.2.2.2.2.2.2.2.1; omega)), by omega, o5, by omega, by rw [Pi]; omega⟩, (b1'.trans e2).trans f1, by rw [Pi]; exact f2, l1.tr ((d3.le (by omega) (Nat.le_refl _)).tr f3)⟩
              · have k27' := kd_le e3
                obtain ⟨g3, c1', c2, c3, c4, c5⟩ := c105 (L := L) (E + 3) (f := 1) hs o1
                obtain ⟨w3, d1, d2, d3⟩ := g_bad (L := L) e3 (by omega) top2 (Or.inl ⟨rfl, k7⟩) e7
                rw [if_neg (by rw [nI_eqI (by omega) (by omega)]; exact k7), c1', cI_s, cI_s] at s1
                refine Or.inr ⟨m1, g3, w3, s1, (b1'.trans e2).trans d1, ?_⟩
                exact (FLT.of o1 c2 c3 c4 c5 (by omega) d2 d3).tr ((a3.le (by omega)).tr o3) l1
            · obtain ⟨f', q', f1, f2, f3, f4, f5⟩ := e3.1
              have fz : ¬ hI g2' 207 1 = nI 0 := by rw [f1, nI_eqI (by omega) (by omega)]; omega
              rw [e1, cI_s, if_neg fz, cI_s] at s1
              exact Or.inr ⟨m1, g2', w2, s1, b1'.trans e2, e3.tr (a3.le (Nat.zero_le _)) b4'⟩
          · rw [if_pos (by rw [ko]; decide)] at s1
            rw [if_neg (by omega)] at b3'
            obtain ⟨g1, a1, a2, a3, a4⟩ := c108 (L := L) (E + 4) hs hC (by omega) (by omega)
            rw [a1, cV_s] at s1
            rcases h1 z (E + 5) (j + 1) n (nf + 1) nw cd g1 w1 (by omega) a2 b2' (by omega) (by omega) (by omega) (by omega) (hWT.cg (Nat.le_refl _) (by omega) b4'.2.2.1) with ⟨i, j', n', st, g2', w2, e1, ⟨o1, o2, o3, o4, o5, o6, o7⟩, e2, e3, e4⟩ | ⟨r, g2', w2, e1, e2, e3⟩
            · have j'N := o1.2.1
              obtain ⟨g3, c1, c2, c3, c4, c5, c6⟩ := c111 (L := L) (E + 3) (k := 28) (a := i) (b := i) hs o1 (by omega) (by unfold nl; omega) o2 o2 (fun q => by omega)
              rw [e1, cI_s, c1, cI_s] at s1
              have Pn : Pf g3 s n' = Pf g2' s i ++ [(402, 0)] := Pf_neg o1 c3 c4 c5 c6 o2
              have top2 : hI w2 279 nf = nI 7 := by
                rw [e4.2.1 nf (by omega)]
                exact b3'
              obtain ⟨w3, d1, d2, d3, d4⟩ := one_neg (L := L) (d := 96) e3 (by omega) top2 (by rw [List.length_append]; omega)
              rw [d1] at e2
              rw [List.append_assoc, ← Pn] at d2
              refine Or.inl ⟨n', j', n' + 1, st, g3, w3, s1, ⟨c2, by omega, ((a3.le (by omega)).tr o3).tr (c3.le o5), by omega, by omega, by omega, ?_⟩, b1'.trans e2, d2, b4'.tr ((e4.le (by omega) (Nat.le_refl _)).tr d3)⟩
              rw [Pn, List.length_append, List.length_singleton]
              omega
            · obtain ⟨f', q', f1, f2, f3, f4, f5⟩ := e3.1
              have fz : ¬ hI g2' 207 1 = nI 0 := by rw [f1, nI_eqI (by omega) (by omega)]; omega
              rw [e1, cI_s, x111, if_neg fz, cI_s] at s1
              exact Or.inr ⟨m1, g2', w2, s1, b1'.trans e2, e3.tr (a3.le (Nat.zero_le _)) b4'⟩
        · obtain ⟨hc', a1, a2, a3, a4, a5⟩ := c105 (L := L) (E + 4) (f := 3) hs hC
          rw [if_neg (by rw [nI_ltN (by omega) (by omega)]; omega), a1, cI_s] at s1
          exact Or.inr ⟨m1, hc', w1, s1, b1', FLT.of hC a2 a3 a4 a5 (by omega) b2' b3'⟩
      · obtain ⟨hc', a1, a2, a3, a4, a5⟩ := c105 (L := L) (E + 4) (f := 1) hs hC
        obtain ⟨hm', b1', b2', b3'⟩ := b_bad (L := L) hQ ⟨k2, kn, by omega, by omega⟩
        have s1 : exec (g2 L) (E + 6) 115 [.ref 207, .int (nI o)] hc = some (some (.int m1), hc') := by
          rw [s0]
          by_cases l : kd T t j < 12
          · rw [if_pos (by rw [nI_ltN (by omega) (by omega)]; exact l), if_neg (by rw [nI_eqI (by omega) (by omega)]; omega), if_neg (by rw [nI_eqI (by omega) (by omega)]; omega), a1, cI_s]
          · rw [if_neg (by rw [nI_ltN (by omega) (by omega)]; exact l), if_pos (by rw [nI_ltN (by omega) (by omega)]; omega), if_neg (by rw [nI_eqI (by omega) (by omega)]; omega), if_neg (by rw [nI_eqI (by omega) (by omega)]; omega), a1, cI_s]
        exact Or.inr ⟨m1, hc', hm', s1, b1', FLT.of hC a2 a3 a4 a5 (by omega) b2' b3'⟩
theorem s_all (ht : t ≤ 300) (hT : ∀ k, T k < 256) (hs : s < 4) : ∀ (u o : Nat), o + u = 8 → S1 L T t N s o ∧ S3 L T t N s o := by
  intro u
  induction u with
  | zero =>
    intro o ho
    have h1 : S1 L T t N s o := s1_step ht hT hs (by omega) (fun q => by omega) (fun q => by omega)
    exact ⟨h1, s3_of ht hT hs (by omega) (s2_of ht hT hs (by omega) h1)⟩
  | succ u ih =>
    intro o ho
    obtain ⟨i1, i2⟩ := ih (o + 1) (by omega)
    have h1 : S1 L T t N s o := s1_step ht hT hs (by omega) (fun _ => i1) (fun _ => i2)
    exact ⟨h1, s3_of ht hT hs (by omega) (s2_of ht hT hs (by omega) h1)⟩
theorem s3_all (ht : t ≤ 300) (hT : ∀ k, T k < 256) (hs : s < 4) {o : Nat} (ho : o ≤ 8) : S3 L T t N s o := (s_all ht hT hs (8 - o) o (by omega)).2
end Sone
