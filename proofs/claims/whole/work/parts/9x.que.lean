-- PART: explaining: the question on both sides; all three calls.
section Qu
variable {L : Nat} {A B : Nat → Nat}
theorem ex_que (d : Nat) {n : Nat} {h : PH} (hC : Core n h A B) (hX : AX h A) (hn : n ≤ 5000) (x y : Int32) : ∃ r h1 h2, exec (g2 L) (d + 30) 76 [.ref 2, .int x, .int y] h = some (some (.int r), h1) ∧ exec (g2 L) (d + 30) 201 [.ref 253, .int x, .int y] h1 = some (some (.int r), h2) ∧ Core (n + 1) h2 A B ∧ AX h2 A ∧ Ks h h2 ∧ Pk h h2 := by
  have hV := hC.2.2.2.2.1.xv (by omega)
  obtain ⟨v7, v8, v9, v10, v11, vB, vL, vR, vS⟩ := id hV
  have s1 := x76 L (d + 29) x y h
  rw [m48 (L := L) (d + 27) hV hC.1, cI_s] at s1
  have hyp : ∀ h1 : PH, RM h1 254 A → exec (g2 L) (d + 30) 201 [.ref 253, .int x, .int y] h1 = if bI (A 8 ≠ 0 ∧ nI 0 ≤ x ∧ x ≤ nI 399) = nI 0 then some (some (.int m1), h1) else if bI (nI 0 ≤ y ∧ y ≤ nI 2) = nI 0 then some (some (.int m1), h1) else cI (exec (g2 L) (d + 29) 182 [.ref 253, .int x, .int (nI 1)] h1) fun r6 h5 => if r6 ≠ (nI 0) then runL (g2 L) (d + 29) 11 false (some .int) kc_201 36 [.ref 253, .int x, .int y, .int m1, .int (nI 1), .int (nI 0), dm, dm, dm] [] h5 else some (some (.int m1), h5) := by
    intro h1 M1
    rw [x201, m181 (L := L) (d + 27) hV M1, cI_s, m153, cI_s]
  by_cases q1 : A 8 ≠ 0 ∧ nI 0 ≤ x ∧ x ≤ nI 399
  · obtain ⟨K, hK, rfl⟩ := askK q1.2
    obtain ⟨r, h1, a1, a2, a3, a4, a5⟩ := m49 (L := L) (d + 4) hV hC.1 hX hK
    have hr : r ≤ 30 := by have := a1.1; omega
    have k31 := kk31 (i := r) (by omega)
    have M1 : RM h1 254 A := hC.2.2.1.congr (a5 254 (by omega) (by omega) (by omega))
    rw [if_pos (by rw [bI_nz]; exact q1), a2, cA_s] at s1
    simp (disch := omega) only [inB_nI, asr_d, okA_of k31.1, asr_true, lenA_of, k31.2] at s1
    have s2 := hyp h1 M1
    rw [if_neg (by rw [bI_0]; exact not_not_intro q1)] at s2
    by_cases q2 : nI 0 ≤ y ∧ y ≤ nI 2
    · obtain ⟨h2, v, b1, b2, b3, b4⟩ := m182_a (L := L) (d + 23) hV a1 hK M1
      rw [if_neg (by rw [bI_0]; exact not_not_intro q2), b2, cI_s] at s2
      obtain ⟨u, hu, rfl⟩ : ∃ u, u ≤ 2 ∧ y = nI u := by
        rcases cases32 y with w | ⟨m, m1', m2'⟩
        · exact absurd q2.1 (Int32.not_le.mpr w)
        · rw [m2', nI_leN (by omega) (by omega), nI_leN (by omega) (by omega)] at q2
          exact ⟨m, q2.2, m2'⟩
      obtain ⟨v', c1, c2⟩ := a3
      have ev : v' = v := c1.one b1
      subst ev
      have u3 : u = 0 ∨ u = 1 ∨ u = 2 := by omega
      rcases c2 with ⟨z1, z2, z3, z4, z5⟩ | ⟨z1, z2, z3, cn, z4, z5⟩
      · rw [if_neg (by rw [bI_nz]; omega)] at s2
        rw [z3, z4, z5] at s1
        refine ⟨m1, h1, h2, ?_, s2, ex_keep hC a4 a5 b4⟩
        rw [s1]
        split
        · rfl
        · split
          · rfl
          · split <;> rfl
      · obtain ⟨x1, x2, x3⟩ := b3 z1
        have s3 := m201_36 (L := L) (d := d + 26) (r := r) (v := v') hV (nI K) (nI u) (A 10) 0 (fun _ _ => 0) h2 dm dm dm (by omega) x1 x3 (fun i hi => absurd hi (Nat.not_lt_zero _)) (by show 1 ≤ 1 ∧ 1 ≤ 32; omega)
        obtain ⟨h3, cn', w6, w7, w8, e1, e2, e3, e4⟩ := s3
        have e1' : runL (g2 L) (d + 29) 11 false (some .int) kc_201 36 [.ref 253, .int (nI K), .int (nI u), .int m1, .int (nI 1), .int (nI 0), dm, dm, dm] [] h2 = runL (g2 L) (d + 29) 11 false (some .int) kc_201 36 [.ref 253, .int (nI K), .int (nI u), .int (cO (xsd cn' (A 8) (A 10)).2), .int (nI (xsd cn' (A 8) (A 10)).1), .int (nI (A 10)), w6, w7, w8] [] h3 := e1
        have ec : xsd cn' (A 8) (A 10) = xsd cn (A 8) (A 10) := e2.one z4
        have f1 := e201_36 L (d + 29) (nI K) (nI u) (cO (xsd cn' (A 8) (A 10)).2) (nI (xsd cn' (A 8) (A 10)).1) (nI (A 10)) w6 w7 w8 h3
        rw [e3.at (k := 10) (by omega) (by omega), if_pos (by rw [nI_leN (by omega) (by omega)]; omega)] at f1
        rw [if_pos (by rw [bI_nz]; exact z1), e1', f1, ec] at s2
        have kp := ex_keep hC a4 a5 (b4.tr e4)
        have bnd : (xsd cn (A 8) (A 10)).2 ≤ 11 * A 10 := by
          have key : ∀ (c : Nat → Nat) (D : Nat) (s : Nat × Nat), s.2 ≤ 11 * D → ∀ k, k ≤ A 8 + 1 → (xsp c D k s).2 ≤ 11 * (D + 1) := by
            intro c D s hs k
            induction k with
            | zero =>
              intro _
              show s.2 ≤ _
              omega
            | succ k ih =>
              intro hk
              have := ih (by omega)
              show (if (xsp c D k s).1 < c k then (c k, 11 * D + k + 1) else xsp c D k s).2 ≤ _
              split
              · show 11 * D + k + 1 ≤ _
                omega
              · exact this
          have all : ∀ D, (xsd cn (A 8) D).2 ≤ 11 * D := by
            intro D
            induction D with
            | zero => exact Nat.le_refl _
            | succ D ih => exact key (cn D) D _ ih (A 8 + 1) (Nat.le_refl _)
          exact all (A 10)
        rcases z5 with ⟨y1, y2, y3, y4⟩ | ⟨y1, y2, y3, y4⟩
        · rw [y1, cO_0, if_neg (fun w => w rfl)] at s2
          rw [y2, y3, y4] at s1
          refine ⟨m1, h1, h3, ?_, s2, kp⟩
          rw [s1]
          split
          · rfl
          · split
            · rfl
            · split <;> rfl
        · rw [cO_n y1, if_pos (by rw [Ne, nI_ne_m1 (by omega)]; exact id), nI_quot (by omega) (by omega), nI_rest (by omega) (by omega)] at s2
          rw [y2, y3, y4] at s1
          rcases u3 with rfl | rfl | rfl
          · rw [if_pos rfl] at s1
            rw [if_neg (fun w => w rfl)] at s2
            exact ⟨_, h1, h3, s1, s2, kp⟩
          · rw [if_neg (by decide), if_pos rfl] at s1
            rw [if_pos (by decide), if_neg (fun w => w rfl)] at s2
            exact ⟨_, h1, h3, s1, s2, kp⟩
          · rw [if_neg (by decide), if_neg (by decide), if_pos rfl] at s1
            rw [if_pos (by decide), if_pos (by decide)] at s2
            exact ⟨_, h1, h3, s1, s2, kp⟩
    · rw [if_pos (by rw [bI_0]; exact q2)] at s2
      rw [if_neg (fun w => q2 (by rw [w]; decide)), if_neg (fun w => q2 (by rw [w]; decide)), if_neg (fun w => q2 (by rw [w]; decide))] at s1
      exact ⟨m1, h1, h1, s1, s2, ex_keep hC a4 a5 YF.rf⟩
  · rw [if_neg (by rw [bI_nz]; exact q1)] at s1
    refine ⟨m1, h, h, s1, ?_, ex_keep hC hX (fun _ _ _ _ => rfl) YF.rf⟩
    rw [hyp h hC.2.2.1, if_pos (by rw [bI_0]; exact q1)]
end Qu
theorem exs (L : Nat) : EXS L AX := by
  refine ⟨fun h h' A A' a b c => AX.keep a b c, fun h A a r hr => Or.inl (a r hr), fun n h A B x hC _ hX hn => ?_, fun n h A B x y z hC _ hX hn => ?_, fun n h A B x y hC _ hX hn => ?_⟩
  · exact ex_few (L := L) 70 hC hX hn x
  · exact ex_bro (L := L) 70 hC hX hn x y z
  · exact ex_que (L := L) 70 hC hX hn x y
theorem whole_start {p : Program} {e : Env} {s : State} {m : MethodId} {below : List Frame} {meth : Method} {c : Code} (l : Launch) {b L : Nat} {xs : Nat → Int32} (hL : L ≤ 3072) (C0 : lw_At p s m meth c b L xs) : W p l e room_1 s m #[Value.ref b] below meth c s.heap [] 0 0 (lw_Z below #[Value.ref b] s) (entryFrame m ([Value.ref b] : List Value).toArray 4) := whole_of2 (lawOk2 exs) l hL C0
