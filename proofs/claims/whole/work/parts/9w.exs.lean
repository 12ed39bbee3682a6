-- PART: explaining: what is kept, and both sides together.
theorem xan_cg {A B : Nat → Nat} {c : Nat} (hB : ∀ b, b < A 11 → A (300 + b) ≤ b) (h11 : A 11 ≤ 8) (e : ∀ j, 300 ≤ j → j < 308 → B j = A j) : ∀ n y, y ≤ A 11 → xan B c n y = xan A c n y
  | 0, _, _ => rfl
  | n + 1, y, hy => by
    show (if y = 0 then false else if y = c + 1 then true else xan B c n (B (299 + y))) = (if y = 0 then false else if y = c + 1 then true else xan A c n (A (299 + y)))
    by_cases q : y = 0
    · rw [if_pos q, if_pos q]
    · have b := hB (y - 1) (by omega)
      rw [show 300 + (y - 1) = 299 + y by omega] at b
      rw [if_neg q, if_neg q, e (299 + y) (by omega) (by omega), xan_cg hB h11 e n (A (299 + y)) (by omega)]
/-- B is as A where the first r readings say -/
def XW (A B : Nat → Nat) (r : Nat) : Prop := ∀ j, ((8 ≤ j ∧ j ≤ 11) ∨ (170 ≤ j ∧ j < 316) ∨ (320 ≤ j ∧ j < 320 + 4 * r)) → B j = A j
section Xw
variable {A B : Nat → Nat} {r : Nat}
theorem XW.val (hW : XW A B r) (p : Nat) : xval B p = xval A p := by
  unfold xval
  rw [hW 8 (by omega), hW 11 (by omega)]
theorem XW.apart (hW : XW A B r) (p q : Nat) : xapart B p q = xapart A p q := by
  unfold xapart
  rw [hW 8 (by omega)]
theorem XW.set (hW : XW A B r) (p q : Nat) : xSet B p q = xSet A p q := by
  unfold xSet
  rw [hW.val, hW.val, hW.apart]
theorem XW.nm (hW : XW A B r) (hV : XV A) (p : Nat) {x : Nat} (hx : x < A 11) : xNm B p x = xNm A p x := by
  have e : ∀ c, xa B c x = xa A c x := fun c => xan_cg hV.2.2.2.2.2.1 hV.2.2.2.2.1 (fun j a b => hW j (by omega)) 9 (x + 1) hx
  unfold xNm
  rw [e, hW 8 (by omega)]
theorem XW.ow (hW : XW A B r) (p b : Nat) : xOw B p b = xOw A p b := by
  unfold xOw
  rw [hW 8 (by omega)]
theorem XW.bk (hW : XW A B r) (p q b k : Nat) : xbk B p q b k = xbk A p q b k := by
  unfold xbk
  rw [hW.ow, hW.ow]
theorem XW.f (hW : XW A B r) {D : Nat} (hD : D < 16) : xF B D = xF A D := by
  unfold xF
  rw [hW _ (by omega), hW _ (by omega), hW _ (by omega)]
theorem XW.ok (hW : XW A B r) {D : Nat} (hD : D < 16) : xok B r D = xok A r D := by
  funext p a j
  unfold xok
  rw [hW.f hD, hW (170 + 8 * D + 2) (by omega)]
  apply decide_eq_decide.mpr
  constructor
  · intro z k hk
    have := z k hk
    rw [hW (320 + 4 * k) (by omega), hW (320 + 4 * k + 1) (by omega), hW (320 + 4 * k + 2) (by omega)] at this
    exact this
  · intro z k hk
    have := z k hk
    rw [hW (320 + 4 * k) (by omega), hW (320 + 4 * k + 1) (by omega), hW (320 + 4 * k + 2) (by omega)]
    exact this
theorem XW.nr (hW : XW A B r) (D : Nat) : xnr B r D = xnr A r D := by
  unfold xnr
  apply decide_eq_decide.mpr
  constructor
  · intro z k hk
    have := z k hk
    rw [hW (320 + 4 * k) (by omega)] at this
    exact this
  · intro z k hk
    have := z k hk
    rw [hW (320 + 4 * k) (by omega)]
    exact this
theorem XW.dd (hW : XW A B r) {D : Nat} (hD : D < 16) (M : Nat) : xDD B r D M = xDD A r D M := by
  unfold xDD
  rw [hW.nr, hW.ok hD, hW (170 + 8 * D + 1) (by omega), hW (170 + 8 * D + 3) (by omega), hW 9 (by omega), hW 8 (by omega)]
theorem XW.cost (hW : XW A B r) (hV : XV A) (p q : Nat) : xcost B r p q = xcost A r p q := by
  unfold xcost
  rw [hW 10 (by omega)]
  congr 1
  refine xsum_congr _ (fun D hD => ?_)
  have v10 := hV.2.2.2.1
  have l0 := (hV.2.2.2.2.2.2.1 D hD).1
  show xDD B r D (xNm B p (B (170 + 8 * D)) ||| xNm B q (B (170 + 8 * D))) = _
  rw [hW (170 + 8 * D) (by omega), hW.nm hV p l0, hW.nm hV q l0, hW.dd (by omega)]
theorem XW.sh (hW : XW A B r) {D : Nat} (hD : D < 16) (M p : Nat) : xsh B D M p = xsh A D M p := by
  unfold xsh
  rw [hW.f hD, hW (170 + 8 * D + 1) (by omega), hW (170 + 8 * D + 3) (by omega), hW 9 (by omega)]
theorem XW.q (hW : XW A B r) (hV : XV A) {v D p y : Nat} (hD : D < A 10) : xQ B r v D p y ↔ xQ A r v D p y := by
  have v10 := hV.2.2.2.1
  have l0 := (hV.2.2.2.2.2.2.1 D hD).1
  unfold xQ
  simp only [hW.set, hW.cost hV, hW (170 + 8 * D) (by omega), hW.nm hV _ l0, hW.sh (show D < 16 by omega)]
theorem RowX.cg {h : PH} (hW : XW A B r) (hV : XV A) (hR0 : RowX h A r) : RowX h B r := by
  obtain ⟨v, h1, h2⟩ := hR0
  have b : xBst B r v := by
    unfold xBst at h1 ⊢
    simp only [hW.set, hW.cost hV]
    exact h1
  refine ⟨v, b, h2.imp id (fun z => ?_)⟩
  obtain ⟨z1, z2, z3, cn, z4, z5⟩ := z
  refine ⟨z1, z2, ?_, cn, ?_, ?_⟩
  · unfold xSE at z3 ⊢
    simp only [hW.set, hW.cost hV, hW.bk, hW 11 (by omega)]
    exact z3
  · rw [hW 10 (by omega)]
    intro i hi
    refine ⟨(z4 i hi).1, fun p p1 p2 => ?_⟩
    rw [hW 8 (by omega)] at p2
    obtain ⟨w, w1, w2⟩ := (z4 i hi).2 p p1 p2
    exact ⟨w, w1, fun y hy => (w2 y hy).trans (hW.q hV hi).symm⟩
  · rw [hW 8 (by omega), hW 10 (by omega)]
    exact z5
theorem RowX.hp {h h' : PH} (hR0 : RowX h A r) (e : hI h' (97 + r) = hI h (97 + r)) : RowX h' A r := by
  unfold RowX xSE xR3 at hR0 ⊢
  rw [e]
  exact hR0
theorem V.xv {n : Nat} (h : V n A) (hn : n ≤ 5001) : XV A := by
  obtain ⟨a0, a2, a5, a6, aW, a7, a8, a9, a10, a11, aB, aL, aR, aS, _, _⟩ := h
  have a4 := aW.2.2.1
  refine ⟨a7, a8, a9, by omega, a11, aB, aL.mono (by omega), fun i hi => ?_, aS⟩
  obtain ⟨r0, r1, r2, r3⟩ := aR i hi
  exact ⟨r0, r1, r2, by omega⟩
/-- the rows of answers are empty, or right -/
def AX (h : PH) (A : Nat → Nat) : Prop := ∀ r, r < 31 → hI h (97 + r) 0 = m2 ∨ ∃ A0, r ≤ A0 7 ∧ XV A0 ∧ RowX h A0 r ∧ WK A0 A
theorem WK.tr {A B C : Nat → Nat} (h1 : WK A B) (h2 : WK B C) : WK A C := by
  have e := h1.2
  refine ⟨fun j hj => ?_, Nat.le_trans h1.2 h2.2⟩
  rw [h2.1 j (by omega), h1.1 j hj]
theorem AX.keep {h h' : PH} {A' : Nat → Nat} (hX : AX h A) (e : ∀ a, 97 ≤ a → a ≤ 127 → hI h' a = hI h a) (hK : WK A A') : AX h' A' := by
  intro r hr
  rcases hX r hr with z | ⟨A0, z1, z2, z3, z4⟩
  · left
    rw [e _ (by omega) (by omega)]
    exact z
  · exact Or.inr ⟨A0, z1, z2, z3.hp (e _ (by omega) (by omega)), z4.tr hK⟩
/-- what the class's explaining writes -/
def XFc (h h' : PH) : Prop := ∀ x, x ≠ 95 → ¬ (97 ≤ x ∧ x ≤ 127) → ¬ (129 ≤ x ∧ x ≤ 162) → hI h' x = hI h x
end Xw
section Ex
variable {L : Nat} {A B : Nat → Nat}
theorem ex_keep {n : Nat} {h h1 h2 : PH} (hC : Core n h A B) (hX : AX h1 A) (f1 : XFc h h1) (f2 : YF h1 h2) : Core (n + 1) h2 A B ∧ AX h2 A ∧ Ks h h2 ∧ Pk h h2 := by
  obtain ⟨c1, c2, c3, c4, c5, c6, c7⟩ := hC
  have e : ∀ x, x ≠ 95 → ¬ (97 ≤ x ∧ x ≤ 127) → ¬ (129 ≤ x ∧ x ≤ 162) → x ≠ 253 → ¬ (262 ≤ x ∧ x ≤ 271) → hI h2 x = hI h x := fun x p1 p2 p3 p4 p5 => by rw [f2.1 x p4 p5, f1 x p1 p2 p3]
  refine ⟨⟨c1.congr (fun a p q => e a (by omega) (by omega) (by omega) (by omega) (by omega)), c2.congr (fun a p q => e a (by omega) (by omega) (by omega) (by omega) (by omega)), c3.congr (e 254 (by omega) (by omega) (by omega) (by omega) (by omega)), c4.congr (e 255 (by omega) (by omega) (by omega) (by omega) (by omega)), c5.mono (by omega), c6.mono (by omega), c7⟩, hX.keep (fun a p q => f2.1 a (by omega) (by omega)) WK.rf, ⟨fun a ha => e a (by omega) (by omega) (by omega) (by omega) (by omega), fun k hk => ?_⟩, fun a p q => e a (by omega) (by omega) (by omega) (by omega) (by omega)⟩
  rw [f2.2 k hk, f1 253 (by omega) (by omega) (by omega)]
theorem m48 (d : Nat) {h : PH} (hV : XV A) (hC : RC h 0 A) (x : Int32) : exec (g2 L) (d + 2) 48 [.ref 2, .int x] h = some (some (.int (bI (A 8 ≠ 0 ∧ nI 0 ≤ x ∧ x ≤ nI 399))), h) := by
  have v8 := hV.2.1
  have wn := hC.wn
  rw [Nat.zero_add] at wn
  rw [x48, wn, m18, cI_s]
  by_cases q : A 8 = 0
  · rw [if_pos (by rw [nI_leN (by omega) (by omega)]; omega), bI_f (fun z => z.1 q)]
  · rw [if_neg (by rw [nI_leN (by omega) (by omega)]; omega)]
    by_cases z : nI 0 ≤ x ∧ x ≤ nI 399
    · rw [if_neg (by rw [bI_0]; exact not_not_intro z), bI_t ⟨q, z⟩]
    · rw [if_pos (by rw [bI_0]; exact z), bI_f (fun w => z w.2)]
theorem m181 (d : Nat) {h : PH} (hV : XV A) (hM : RM h 254 A) (x : Int32) : exec (g2 L) (d + 2) 181 [.ref 253, .int x] h = some (some (.int (bI (A 8 ≠ 0 ∧ nI 0 ≤ x ∧ x ≤ nI 399))), h) := by
  have v8 := hV.2.1
  rw [x181, hM.at (k := 8) (by omega) (by omega), m153, cI_s]
  by_cases q : A 8 = 0
  · rw [if_pos (by rw [nI_leN (by omega) (by omega)]; omega), bI_f (fun z => z.1 q)]
  · rw [if_neg (by rw [nI_leN (by omega) (by omega)]; omega)]
    by_cases z : nI 0 ≤ x ∧ x ≤ nI 399
    · rw [if_neg (by rw [bI_0]; exact not_not_intro z), bI_t ⟨q, z⟩]
    · rw [if_pos (by rw [bI_0]; exact z), bI_f (fun w => z w.2)]
theorem askK {x : Int32} (h : nI 0 ≤ x ∧ x ≤ nI 399) : ∃ K, K < 400 ∧ x = nI K := by
  rcases cases32 x with z | ⟨n, n1, n2⟩
  · exact absurd h.1 (Int32.not_le.mpr z)
  · rw [n2, nI_leN (by omega) (by omega), nI_leN (by omega) (by omega)] at h
    exact ⟨n, by omega, n2⟩
theorem m49 (d : Nat) {K : Nat} {h : PH} (hV : XV A) (hC : RC h 0 A) (hX : AX h A) (hK : K < 400) : ∃ r h', yK A K r ∧ exec (g2 L) (d + 25) 49 [.ref 95, .int (nI K)] h = some (some (.ref (97 + r)), h') ∧ RowX h' A r ∧ AX h' A ∧ XFc h h' := by
  obtain ⟨v7, v8, v9, v10, v11, vB, vL, vR, vS⟩ := id hV
  obtain ⟨r, a1, a2, a3⟩ := m50 (L := L) (d + 23) hK v7 (fun i hi => (vR i hi).2.2.2) vS hC
  have hr : r ≤ 30 := by omega
  have k31 := kk31 (i := r) (by omega)
  have i30 : (if nI 30 < nI r then nI 30 else nI r) = nI r := if_neg (by rw [nI_ltN (by omega) (by omega)]; omega)
  have s0 := x49 L (d + 24) (nI K) h
  rw [a1, cI_s, i30] at s0
  simp (disch := omega) only [inB_nI, asr_d, okA_of k31.1, asr_true, lenA_of, k31.2, ix_nI] at s0
  by_cases q : hI h (97 + r) 0 = m2
  · rw [if_neg (not_not_intro q)] at s0
    obtain ⟨h', e1, e2, e3⟩ := m51 (L := L) (d + 1) (r := r) (h := wR h 95 15 (97 + r)) hV a2 (hC.congr (fun _ _ _ => rfl)) (by rw [hR_wR, if_pos ⟨rfl, rfl⟩])
    rw [e1, cV_s, e3.2, hR_wR, if_pos ⟨rfl, rfl⟩] at s0
    refine ⟨r, h', ⟨a2, a3⟩, s0, e2, fun r' hr' => ?_, fun x p1 p2 p3 => (e3.1 x p1 (by omega) p3).trans rfl⟩
    by_cases z : r' = r
    · subst z
      exact Or.inr ⟨A, a2, hV, e2, WK.rf⟩
    · have e : hI h' (97 + r') = hI h (97 + r') := (e3.1 (97 + r') (by omega) (by omega) (by omega)).trans rfl
      rcases hX r' hr' with y | ⟨A0, y1, y2, y3, y4⟩
      · left
        rw [e]
        exact y
      · exact Or.inr ⟨A0, y1, y2, y3.hp e, y4⟩
  · rw [if_pos q] at s0
    refine ⟨r, wR h 95 15 (97 + r), ⟨a2, a3⟩, s0, ?_, hX.keep (fun _ _ _ => rfl) WK.rf, fun _ _ _ _ => rfl⟩
    rcases hX r (by omega) with y | ⟨A0, y1, y2, y3, y4⟩
    · exact absurd y q
    · refine RowX.hp (h := h) (RowX.cg (fun j hj => y4.1 j (by omega)) y2 y3) rfl
theorem ex_few (d : Nat) {n : Nat} {h : PH} (hC : Core n h A B) (hX : AX h A) (hn : n ≤ 5000) (x : Int32) : ∃ r h1 h2, exec (g2 L) (d + 30) 47 [.ref 2, .int x] h = some (some (.int r), h1) ∧ exec (g2 L) (d + 30) 180 [.ref 253, .int x] h1 = some (some (.int r), h2) ∧ Core (n + 1) h2 A B ∧ AX h2 A ∧ Ks h h2 ∧ Pk h h2 := by
  have hV := hC.2.2.2.2.1.xv (by omega)
  by_cases q : A 8 ≠ 0 ∧ nI 0 ≤ x ∧ x ≤ nI 399
  · obtain ⟨K, hK, rfl⟩ := askK q.2
    obtain ⟨r, h1, a1, a2, a3, a4, a5⟩ := m49 (L := L) (d + 4) hV hC.1 hX hK
    have k31 := kk31 (i := r) (by have := a1.1; have := hV.1; omega)
    have M1 : RM h1 254 A := hC.2.2.1.congr (a5 254 (by omega) (by omega) (by omega))
    obtain ⟨h2, v, b1, b2, b3, b4⟩ := m182_n (L := L) (d + 23) hV a1 hK M1
    have s1 := x47 L (d + 29) (nI K) h
    rw [m48 (L := L) (d + 27) hV hC.1, cI_s, if_neg (by rw [bI_0]; exact not_not_intro q), a2, cA_s] at s1
    have hr : r ≤ 30 := by have := a1.1; have := hV.1; omega
    simp (disch := omega) only [inB_nI, asr_d, okA_of k31.1, asr_true, lenA_of, k31.2] at s1
    have s2 := x180 L (d + 29) (nI K) h1
    rw [m181 (L := L) (d + 27) hV M1, cI_s, if_neg (by rw [bI_0]; exact not_not_intro q), b2, cI_s, b3] at s2
    refine ⟨hI h1 (97 + r) 0, h1, h2, s1, ?_, ex_keep hC a4 a5 b4⟩
    obtain ⟨v', c1, c2⟩ := a3
    have ev : v' = v := c1.one b1
    subst ev
    rw [s2]
    rcases c2 with ⟨z1, z2, _⟩ | ⟨z1, z2, _⟩
    · rw [if_pos (by rw [bI_0]; omega), z2]
    · rw [if_neg (by rw [bI_0]; omega), z2]
  · refine ⟨m1, h, h, ?_, ?_, ex_keep hC hX (fun _ _ _ _ => rfl) YF.rf⟩
    · rw [x47, m48 (L := L) (d + 27) hV hC.1, cI_s, if_pos (by rw [bI_0]; exact q)]
    · rw [x180, m181 (L := L) (d + 27) hV hC.2.2.1, cI_s, if_pos (by rw [bI_0]; exact q)]
theorem pb10 : ∀ w, w < 1024 → ∀ k, k < 10 → ((nI w &&& nI (2 ^ k) = nI 0) ↔ ¬ w / 2 ^ k % 2 = 1) := by decide +kernel
theorem ex_bro (d : Nat) {n : Nat} {h : PH} (hC : Core n h A B) (hX : AX h A) (hn : n ≤ 5000) (x y z : Int32) : ∃ r h1 h2, exec (g2 L) (d + 30) 74 [.ref 2, .int x, .int y, .int z] h = some (some (.int r), h1) ∧ exec (g2 L) (d + 30) 200 [.ref 253, .int x, .int y, .int z] h1 = some (some (.int r), h2) ∧ Core (n + 1) h2 A B ∧ AX h2 A ∧ Ks h h2 ∧ Pk h h2 := by
  have hV := hC.2.2.2.2.1.xv (by omega)
  obtain ⟨v7, v8, v9, v10, v11, vB, vL, vR, vS⟩ := id hV
  have wn := hC.1.wn
  have wb := hC.1.wb
  rw [Nat.zero_add] at wn wb
  have u8 := hC.2.2.1.at (k := 8) (by omega) (by omega)
  have u11 := hC.2.2.1.at (k := 11) (by omega) (by omega)
  have s1 := x74 L (d + 29) x y z h
  rw [m48 (L := L) (d + 27) hV hC.1, cI_s, m14w, cI_s, wb, m18, cI_s, wn, e74_47] at s1
  have hyp : ∀ h1 : PH, RM h1 254 A → exec (g2 L) (d + 30) 200 [.ref 253, .int x, .int y, .int z] h1 = if bI (A 8 ≠ 0 ∧ nI 0 ≤ x ∧ x ≤ nI 399) = nI 0 then some (some (.int m1), h1) else if bI (nI 0 ≤ y ∧ y < nI (A 11)) = nI 0 then some (some (.int m1), h1) else if bI (nI 1 ≤ z ∧ z ≤ nI (A 8)) = nI 0 then some (some (.int m1), h1) else cI (exec (g2 L) (d + 29) 182 [.ref 253, .int x, .int (nI 1)] h1) fun r8 h7 => if r8 ≠ (nI 0) then asr (inB (((nI 11) * y) + z) 88) (if (hI h7 269 (ix (((nI 11) * y) + z))) ≠ (nI 0) then if (hI h7 269 (ix (((nI 11) * y) + z))) ≠ (hI h7 253 26) then some (some (.int (nI 1)), h7) else some (some (.int (nI 2)), h7) else some (some (.int (nI 0)), h7)) else some (some (.int m1), h7) := by
    intro h1 M1
    have w8 := M1.at (k := 8) (by omega) (by omega)
    have w11 := M1.at (k := 11) (by omega) (by omega)
    rw [x200, m181 (L := L) (d + 27) hV M1, cI_s, m153, cI_s, w11, m153, cI_s, w8, bI_c (P' := nI 0 ≤ y ∧ y < nI (A 11)) (and_congr_right (fun _ => le_predI (by omega)))]
  by_cases q1 : A 8 ≠ 0 ∧ nI 0 ≤ x ∧ x ≤ nI 399
  · by_cases q2 : nI 0 ≤ y ∧ y < nI (A 11)
    · by_cases q3 : nI 1 ≤ z ∧ z ≤ nI (A 8)
      · obtain ⟨K, hK, rfl⟩ := askK q1.2
        obtain ⟨b, hb, rfl⟩ : ∃ b, b < A 11 ∧ y = nI b := by
          rcases cases32 y with w | ⟨m, m1', m2'⟩
          · exact absurd q2.1 (Int32.not_le.mpr w)
          · rw [m2', nI_ltN (by omega) (by omega)] at q2
            exact ⟨m, q2.2, m2'⟩
        obtain ⟨k, hk, rfl⟩ : ∃ k, k < A 8 ∧ z = nI (k + 1) := by
          rcases cases32 z with w | ⟨m, m1', m2'⟩
          · exact absurd (Int32.le_trans (show nI 0 ≤ nI 1 by decide) q3.1) (Int32.not_le.mpr w)
          · rw [m2', nI_leN (by omega) (by omega), nI_leN (by omega) (by omega)] at q3
            exact ⟨m - 1, by omega, by rw [m2']; congr 1; omega⟩
        obtain ⟨r, h1, a1, a2, a3, a4, a5⟩ := m49 (L := L) (d + 4) hV hC.1 hX hK
        have hr : r ≤ 30 := by have := a1.1; omega
        have k31 := kk31 (i := r) (by omega)
        have M1 : RM h1 254 A := hC.2.2.1.congr (a5 254 (by omega) (by omega) (by omega))
        obtain ⟨h2, v, b1, b2, b3, b4⟩ := m182_a (L := L) (d + 23) hV a1 hK M1
        rw [if_neg (by rw [bI_0]; exact not_not_intro q1), if_neg (by rw [bI_0]; exact not_not_intro q2), if_neg (by rw [bI_0]; exact not_not_intro q3), a2, cA_s, x75] at s1
        simp (disch := omega) only [nI_plus, inB_nI, asr_d, okA_of k31.1, asr_true, lenA_of, k31.2, ix_nI, nI_m1_plus, nI_shl, Nat.one_shiftLeft] at s1
        have s2 := hyp h1 M1
        rw [if_neg (by rw [bI_0]; exact not_not_intro q1), if_neg (by rw [bI_0]; exact not_not_intro q2), if_neg (by rw [bI_0]; exact not_not_intro q3), b2, cI_s, nI_times, nI_plus, inB_nI (by omega), asr_d (by omega), ix_nI (by omega)] at s2
        obtain ⟨v', c1, c2⟩ := a3
        have ev : v' = v := c1.one b1
        subst ev
        rcases c2 with ⟨z1, z2, _⟩ | ⟨z1, z2, z3, _⟩
        · rw [z2, if_neg (fun w => w rfl), cI_s] at s1
          rw [if_neg (by rw [bI_nz]; omega)] at s2
          exact ⟨m1, h1, h2, s1, s2, ex_keep hC a4 a5 b4⟩
        · obtain ⟨⟨so, so1, so2, so3⟩, ⟨ev, ev1, ev2, ev3⟩⟩ := z3 b hb
          obtain ⟨x1, ⟨sets, x2, x3, x4⟩, x5⟩ := b3 z1
          obtain ⟨nn, n1, n2, n3, n4⟩ := x4 b hb k hk
          rw [z2, if_pos (by rw [Ne, nI_ne_m1 (by omega)]; exact id), ev2, so2] at s1
          rw [if_pos (by rw [bI_nz]; exact z1), show 11 * b + (k + 1) = 11 * b + k + 1 from rfl, n2, x3] at s2
          have e1 := ev3 k (by omega)
          have e2 := so3 k (by omega)
          obtain ⟨p0, q0, w1, w2⟩ : ∃ p q, xSet A p q ∧ xcost A r p q = v' := by
            rcases b1.2.2 with w | w
            · omega
            · exact w
          by_cases g1 : ev / 2 ^ k % 2 = 1
          · have al := e1.mp g1
            have t1 : nn = sets := n4.mpr al
            have t2 : nn ≠ 0 := fun w => n3.mp w p0 q0 w1 w2 (al p0 q0 w1 w2)
            rw [if_neg (by rw [pb10 ev ev1 k (by omega)]; exact not_not_intro g1), cI_s] at s1
            rw [if_pos (by rw [Ne, nI_eqI (by omega) (by omega)]; exact t2), if_neg (by rw [t1]; exact fun w => w rfl)] at s2
            exact ⟨nI 2, h1, h2, s1, s2, ex_keep hC a4 a5 b4⟩
          · have t1 : nn ≠ sets := fun w => g1 (e1.mpr (n4.mp w))
            rw [if_pos (by rw [pb10 ev ev1 k (by omega)]; exact g1)] at s1
            by_cases g2' : so / 2 ^ k % 2 = 1
            · have t2 : nn ≠ 0 := by
                intro w
                obtain ⟨p, q, y1, y2, y3⟩ := e2.mp g2'
                exact n3.mp w p q y1 y2 y3
              rw [if_neg (by rw [pb10 so so1 k (by omega)]; exact not_not_intro g2'), cI_s] at s1
              rw [if_pos (by rw [Ne, nI_eqI (by omega) (by omega)]; exact t2), if_pos (by rw [Ne, nI_eqI (by omega) (by omega)]; exact t1)] at s2
              exact ⟨nI 1, h1, h2, s1, s2, ex_keep hC a4 a5 b4⟩
            · have t2 : nn = 0 := n3.mpr (fun p q y1 y2 y3 => g2' (e2.mpr ⟨p, q, y1, y2, y3⟩))
              rw [if_pos (by rw [pb10 so so1 k (by omega)]; exact g2'), cI_s] at s1
              rw [if_neg (by rw [t2]; exact fun w => w rfl)] at s2
              exact ⟨nI 0, h1, h2, s1, s2, ex_keep hC a4 a5 b4⟩
      · rw [if_neg (by rw [bI_0]; exact not_not_intro q1), if_neg (by rw [bI_0]; exact not_not_intro q2), if_pos (by rw [bI_0]; exact q3)] at s1
        refine ⟨m1, h, h, s1, ?_, ex_keep hC hX (fun _ _ _ _ => rfl) YF.rf⟩
        rw [hyp h hC.2.2.1, if_neg (by rw [bI_0]; exact not_not_intro q1), if_neg (by rw [bI_0]; exact not_not_intro q2), if_pos (by rw [bI_0]; exact q3)]
    · rw [if_neg (by rw [bI_0]; exact not_not_intro q1), if_pos (by rw [bI_0]; exact q2)] at s1
      refine ⟨m1, h, h, s1, ?_, ex_keep hC hX (fun _ _ _ _ => rfl) YF.rf⟩
      rw [hyp h hC.2.2.1, if_neg (by rw [bI_0]; exact not_not_intro q1), if_pos (by rw [bI_0]; exact q2)]
  · rw [if_pos (by rw [bI_0]; exact q1)] at s1
    refine ⟨m1, h, h, s1, ?_, ex_keep hC hX (fun _ _ _ _ => rfl) YF.rf⟩
    rw [hyp h hC.2.2.1, if_pos (by rw [bI_0]; exact q1)]
end Ex
