-- PART: strips, both readers side by side: asking.
/-- parseAsk -/
def S4 (L : Nat) (T : Nat → Nat) (t N s o : Nat) : Prop := ∀ (D j n nw : Nat) (cd : List (Nat × Nat)) (hc hm : PH), 60 - o ≤ D → CC hc T t N s j n → QS hm T t j o (o + 1) nw 0 cd → n ≤ j → cd.length ≤ j → nw ≤ 2 → WT hm (o + 1) nw → (∃ i j' n' hc' hm', exec (g2 L) D 110 [.ref 207, .int (nI o)] hc = some (some (.int (nI i)), hc') ∧ OKp hc hc' T t N s j n i j' n' ∧ bk (kf hc' s i) ∧ ML L hm = cV (exec (g2 L) 98 233 [.ref 253] hm') (ML L) ∧ QS hm' T t j' o (o + 1) nw 2 (cd ++ Pf hc' s i) ∧ QA (o + 1) nw hm hm') ∨ (∃ r hc' hm', exec (g2 L) D 110 [.ref 207, .int (nI o)] hc = some (some (.int r), hc') ∧ ML L hm = ML L hm' ∧ FLT hc hc' hm hm' s)
section Sask
variable {L : Nat} {T : Nat → Nat} {t N s o : Nat}
theorem s4_step (ht : t ≤ 300) (hT : ∀ k, T k < 256) (hs : s < 4) (ho : o ≤ 8) (h4 : o < 8 → S4 L T t N s (o + 1)) : S4 L T t N s o := by
  have h3 : S3 L T t N s o := s3_all ht hT hs ho
  intro D j n nw cd hc hm hD hC hQ hn hcl hnw hWT
  obtain ⟨E, rfl⟩ : ∃ E, D = E + 6 := ⟨D - 6, by omega⟩
  have k27 := kd_le hQ
  have jN := hC.2.1
  have N3 := hC.1.1
  have s0 := x110 L (E + 5) (nI o) hc
  rw [hC.2.2.2.1] at s0
  by_cases kn : kd T t j = 11
  · rw [if_neg (by rw [kn]; exact fun q => q rfl)] at s0
    rcases a_not (L := L) ht hT hQ kn (by omega) ho with ⟨z, w1, b1', b2', b3', b4'⟩ | ⟨z, w1, b1', b2', b3'⟩
    · obtain ⟨g1, a1, a2, a3, a4⟩ := c108 (L := L) (E + 4) hs hC (by omega) (by omega)
      rw [if_pos (by rw [nI_ltN (by omega) (by omega)]; exact z), a1, cV_s, nI_plus] at s0
      rcases h4 z (E + 5) (j + 1) n nw cd g1 w1 (by omega) a2 b2' (by omega) (by omega) hnw (hWT.cg (Nat.le_refl _) (by omega) b4'.2.2.1) with ⟨i, j', n', g2', w2, e1, ⟨o1, o2, o3, o4, o5, o6, o7⟩, eb, e2, e3, e4⟩ | ⟨r, g2', w2, e1, e2, e3⟩
      · have j'N := o1.2.1
        obtain ⟨g3, c1, c2, c3, c4, c5, c6⟩ := c111 (L := L) (E + 3) (k := 11) (a := i) (b := i) hs o1 (by omega) (by unfold nl; omega) o2 o2 (fun _ => ⟨eb, eb⟩)
        rw [e1, cI_s, c1, cI_s] at s0
        have Pn : Pf g3 s n' = Pf g2' s i ++ [(405, 0)] := Pf_not o1 c3 c4 c5 c6 o2
        have top2 : hI w2 279 (o + 1) = nI 3 := by
          rw [e4.2.1 (o + 1) (by omega)]
          exact b3'
        obtain ⟨w3, d1, d2, d3, d4⟩ := ask_not (L := L) (d := 96) e3 (by omega) top2 (by rw [List.length_append]; omega)
        rw [d1] at e2
        rw [List.append_assoc, ← Pn] at d2
        refine Or.inl ⟨n', j', n' + 1, g3, w3, s0, ⟨c2, by omega, ((a3.le (by omega)).tr o3).tr (c3.le o5), by omega, by omega, by omega, ?_⟩, by rw [c4]; unfold bk; omega, b1'.trans e2, d2, b4'.qa.tr ((e4.le (by omega) (Nat.le_refl _)).tr d3.qa)⟩
        rw [Pn, List.length_append, List.length_singleton]
        omega
      · obtain ⟨f', q', f1, f2, f3, f4, f5⟩ := e3.1
        have fz : ¬ hI g2' 207 1 = nI 0 := by rw [f1, nI_eqI (by omega) (by omega)]; omega
        rw [e1, cI_s, x111, if_neg fz, cI_s] at s0
        exact Or.inr ⟨m1, g2', w2, s0, b1'.trans e2, e3.tr (a3.le (Nat.zero_le _)) b4'⟩
    · obtain ⟨hc', a1, a2, a3, a4, a5⟩ := c105 (L := L) (E + 4) (f := 3) hs hC
      rw [if_neg (by rw [nI_ltN (by omega) (by omega)]; omega), a1, cI_s] at s0
      exact Or.inr ⟨m1, hc', w1, s0, b1', FLT.of hC a2 a3 a4 a5 (by omega) b2' b3'⟩
  · rw [if_pos (by rw [Ne, nI_eqI (by omega) (by omega)]; exact kn)] at s0
    obtain ⟨w1, b1', b2', b3', b4'⟩ := a_left (L := L) hQ kn (by omega)
    have wt1 : WT w1 (o + 1) nw := hWT.cg (Nat.le_refl _) (Nat.le_refl _) b4'.2.2.1
    have bz : BZ w1 (o + 1 + 1) nw 3 := wt1.bz (by omega)
    rcases h3 (E + 5) j n (o + 1) nw 4 cd hc w1 (by omega) hC b2' hn hcl (by omega) (by omega) (wt1.cg (Nat.le_refl _) (by omega) (fun _ _ => ⟨rfl, rfl⟩)) b3' (by omega) bz with ⟨i, j1, n1, nw1, nw', cd', c1, g1, w2, e1, ⟨o1, o2, o3, o4, o5, o6, o7⟩, e2, e3, e4, e5, e6, e7⟩ | ⟨r, g1, w2, e1, e2, e3⟩
    · have k27' := kd_le e3
      have j1N := o1.2.1
      rw [e1, cI_s, o1.2.2.2.2.1, if_pos rfl, o1.2.2.2.1] at s0
      have l1 := b4'.tr (e6.le (by omega) (Nat.le_refl _))
      have top2 : hI w2 279 (o + 1) = nI 4 := by
        rw [e6.2.1 (o + 1) (by omega)]
        exact b3'
      have bz2 : BZ w2 (o + 1 + 1) nw 3 := bz.cg (Nat.le_refl _) e6.2.2.1
      by_cases ka : 17 ≤ kd T t j1 ∧ kd T t j1 ≤ 22
      · rw [if_neg (by rw [nI_ltN (by omega) (by omega)]; omega), if_pos (by rw [nI_leN (by omega) (by omega)]; omega)] at s0
        obtain ⟨g2', a1, a2, a3, a4⟩ := c108 (L := L) (E + 4) hs o1 (by omega) (by omega)
        rw [a1, cV_s] at s0
        obtain ⟨w3, d1, d2, d3, d4⟩ := fl2 (L := L) e3 e4 e5 (r := 3) (by omega) (Nat.le_refl _) bz2 (by omega) (by omega) (by rw [List.length_append]; omega) (by omega)
        obtain ⟨w4, f1, f2, f3, f4, f5, f6⟩ := g_ask (L := L) ht hT e3 (by omega) top2 ka d1 d2
        have kb : ∀ k, k < nw → hI w4 281 k = hI w1 281 k ∧ hI w4 282 k = hI w1 282 k := fun k hk => by
          obtain ⟨y1, y2⟩ := f6 k hk
          obtain ⟨y3, y4⟩ := d3.2.2.1 k hk
          obtain ⟨y5, y6⟩ := e6.2.2.1 k hk
          exact ⟨y1.trans (y3.trans y5), y2.trans (y4.trans y6)⟩
        have qa4 : QA (o + 1) nw w3 w4 := by
          refine ⟨fun a p q r s => ?_, fun k hk => ?_, f6, fun k hk => ?_, f3.2.2.2.2⟩
          · have := f3.1 a p (by omega) (by omega) (by omega) r s
            rw [wI_ne (by omega)] at this
            exact this
          · have := f3.2.1 k hk
            rw [wI_ne (by omega)] at this
            exact this
          · have := f3.2.2.2.1 k hk
            rw [wI_ne (by omega)] at this
            exact this
        rcases h3 (E + 5) (j1 + 1) n1 (o + 1) nw 5 (cd ++ Pf g1 s i) g2' w4 (by omega) a2 f2 (by omega) (by rw [List.length_append]; omega) (by omega) (by omega) (wt1.cg (Nat.le_refl _) (by omega) kb) f4 (by omega) (bz.cg (Nat.le_refl _) kb) with ⟨i2, j2, n2, nwa, nwb, cd2, c2, g3, w5, u1, ⟨p1, p2, p3, p4, p5, p6, p7⟩, u2, u3, u4, u5, u6, u7⟩ | ⟨r, g3, w5, u1, u2, u3⟩
        · have j2N := p1.2.1
          have i1 : Pf g3 s i = Pf g1 s i := (Pf_old a2 p3 o2).trans (Pf_old o1 (a3.le (by have := o1.2.2.2.2.2.2.2.2.1; omega)) o2)
          obtain ⟨g4, v1, v2, v3, v4, v5, v6⟩ := c111 (L := L) (E + 3) (k := kd T t j1) (a := i) (b := i2) hs p1 (by omega) (by unfold nl; omega) (by omega) p2 (fun q => by omega)
          rw [u1, cI_s, v1, cI_s] at s0
          have Pn : Pf g4 s n2 = Pf g1 s i ++ (Pf g3 s i2 ++ [(oc (kd T t j1), 0)]) := by
            rw [Pf_bin p1 v3 v4 v5 v6 (by omega) p2 (by omega), i1]
          obtain ⟨w6, x1, x2, x3, x4⟩ := fl2 (L := L) u3 u4 u5 (r := 3) (by omega) (Nat.le_refl _) ((bz.cg (Nat.le_refl _) kb).cg (Nat.le_refl _) u6.2.2.1) (by omega) (by omega) (by rw [List.length_append, List.length_append]; omega) (by omega)
          have c8 : hI w6 280 (o + 1 + 1) = nI (oc (kd T t j1)) := by
            rw [x3.1 280 (by omega) (by omega) (by omega) (by omega) (by omega) (by omega), u6.1 280 (by omega) (by omega) (by omega) (by omega) (by omega) (by omega)]
            exact f5
          obtain ⟨w7, y1, y2, y3, y4⟩ := g_end (L := L) u3 (by omega) (by rw [u6.2.1 (o + 1) (by omega)]; exact f4) u7 x1 x2 c8 (by rw [List.length_append, List.length_append]; omega)
          rw [List.append_assoc, List.append_assoc, ← Pn] at y2
          refine Or.inl ⟨n2, j2, n2 + 1, g4, w7, s0, ⟨v2, by omega, (o3.tr ((a3.le (by omega)).tr (p3.le o5))).tr (v3.le (by omega)), by omega, by omega, by omega, ?_⟩, by rw [v4]; unfold bk; omega, (b1'.trans (e2.trans (f1.trans (u2.trans y1)))), y2, ?_⟩
          · rw [Pn, List.length_append, List.length_append, List.length_singleton]
            omega
          · exact (l1.tr (d3.le (by omega) (Nat.le_refl _))).qa.tr (qa4.tr (((u6.le (by omega) (Nat.le_refl _)).tr ((x3.le (by omega) (Nat.le_refl _)).tr y3)).qa))
        · obtain ⟨f', q', z1, z2, z3, z4, z5⟩ := u3.1
          have fz : ¬ hI g3 207 1 = nI 0 := by rw [z1, nI_eqI (by omega) (by omega)]; omega
          rw [u1, cI_s, x111, if_neg fz, cI_s] at s0
          exact Or.inr ⟨m1, g3, w5, s0, b1'.trans (e2.trans (f1.trans u2)), u3.tra (o3.tr (a3.le (by omega))) ((l1.tr (d3.le (by omega) (Nat.le_refl _))).qa.tr qa4)⟩
      · obtain ⟨g3, c1', c2, c3, c4, c5⟩ := c105 (L := L) (E + 4) (f := 1) hs o1
        obtain ⟨w3, d1, d2, d3⟩ := g_bad (L := L) e3 (by omega) top2 (Or.inr ⟨rfl, ka⟩) e7
        have s1 : exec (g2 L) (E + 6) 110 [.ref 207, .int (nI o)] hc = some (some (.int m1), g3) := by
          rw [s0]
          by_cases l : kd T t j1 < 17
          · rw [if_pos (by rw [nI_ltN (by omega) (by omega)]; exact l), c1', cI_s]
          · rw [if_neg (by rw [nI_ltN (by omega) (by omega)]; exact l), if_neg (by rw [nI_leN (by omega) (by omega)]; omega), c1', cI_s]
        exact Or.inr ⟨m1, g3, w3, s1, b1'.trans (e2.trans d1), (FLT.of o1 c2 c3 c4 c5 (by omega) d2 d3).tr o3 l1⟩
    · obtain ⟨f', q', f1, f2, f3, f4, f5⟩ := e3.1
      have fz : ¬ hI g1 207 1 = nI 0 := by rw [f1, nI_eqI (by omega) (by omega)]; omega
      rw [e1, cI_s, if_neg fz] at s0
      exact Or.inr ⟨m1, g1, w2, s0, b1'.trans e2, e3.tr (FC.rf (n := 0)) b4'⟩
theorem s4_all (ht : t ≤ 300) (hT : ∀ k, T k < 256) (hs : s < 4) : ∀ (u o : Nat), o + u = 8 → S4 L T t N s o := by
  intro u
  induction u with
  | zero => exact fun o ho => s4_step ht hT hs (by omega) (fun q => by omega)
  | succ u ih => exact fun o ho => s4_step ht hT hs (by omega) (fun _ => ih (o + 1) (by omega))
end Sask
