-- PART: the simple calls, both sides.
def WK (A A' : Nat → Nat) : Prop := (∀ j, ((8 ≤ j ∧ j ≤ 11) ∨ (170 ≤ j ∧ j < 316) ∨ (320 ≤ j ∧ j < 320 + 4 * A 7)) → A' j = A j) ∧ A 7 ≤ A' 7
def PKe (A A' : Nat → Nat) : Prop := A' 0 = A 0 ∧ A' 1 = A 1 ∧ A' 4 = A 4 ∧ A 3 ≤ A' 3 ∧ (∀ b, b < A 3 → A' (20 + b) = A (20 + b) ∧ A' (28 + b) = A (28 + b)) ∧ ∀ i, i < A 4 → ∀ c, c < 7 → A' (40 + 8 * i + c) = A (40 + 8 * i + c)
theorem WK.rf {A : Nat → Nat} : WK A A := ⟨fun _ _ => rfl, Nat.le_refl _⟩
theorem PKe.rf {A : Nat → Nat} : PKe A A := ⟨rfl, rfl, rfl, Nat.le_refl _, fun _ _ => ⟨rfl, rfl⟩, fun _ _ _ _ => rfl⟩
def Sim (L mc mm : Nat) (ac am : List Value) (n : Nat) (h : PH) (A B : Nat → Nat) : Prop := ∃ r h1 h2 A', exec (g2 L) 100 mc ac h = some (some (.int r), h1) ∧ exec (g2 L) 100 mm am h1 = some (some (.int r), h2) ∧ Core (n + 1) h2 A' B ∧ Kp h h2 ∧ (Pr h2 ∨ (Pk h h2 ∧ PKe A A')) ∧ WK A A' ∧ A' 5 = A 5
theorem Core.mono {n n' : Nat} {h : PH} {A B : Nat → Nat} (hC : Core n h A B) (hn : n ≤ n') : Core n' h A B := ⟨hC.1, hC.2.1, hC.2.2.1, hC.2.2.2.1, hC.2.2.2.2.1.mono hn, hC.2.2.2.2.2.1.mono hn, hC.2.2.2.2.2.2⟩
theorem Sim.same {L mc mm : Nat} {ac am : List Value} {n : Nat} {h : PH} {A B : Nat → Nat} (hC : Core n h A B) {r : Int32} (e1 : exec (g2 L) 100 mc ac h = some (some (.int r), h)) (e2 : exec (g2 L) 100 mm am h = some (some (.int r), h)) : Sim L mc mm ac am n h A B := ⟨r, h, h, A, e1, e2, hC.mono (Nat.le_succ _), Kp.rf, Or.inr ⟨fun _ _ _ => rfl, PKe.rf⟩, WK.rf, rfl⟩
theorem Core.step {n : Nat} {h h1 h2 : PH} {A A' B : Nat → Nat} (hC : Core n h A B) (hR1 : RC h1 0 A') (f1 : ∀ a, ((49 ≤ a ∧ a ≤ 94) ∨ a = 255) → hI h1 a = hI h a) (hR2 : RM h2 254 A') (f2 : ∀ a, ((3 ≤ a ∧ a ≤ 94) ∨ a = 255) → hI h2 a = hI h1 a) (hV : V (n + 1) A') (h5 : A' 5 = A 5) : Core (n + 1) h2 A' B :=
  ⟨hR1.congr (fun a p q => f2 a (by omega)), hC.2.1.congr (fun a p q => (f2 a (by omega)).trans (f1 a (by omega))), hR2, hC.2.2.2.1.congr ((f2 255 (by omega)).trans (f1 255 (by omega))), hV, hC.2.2.2.2.2.1.mono (Nat.le_succ _), by rw [h5]; exact hC.2.2.2.2.2.2⟩
theorem in_of {x : Int32} {n : Nat} (hn : n < 2147483648) (hx : nI 0 ≤ x ∧ x < nI n) : ∃ i, i < n ∧ x = nI i := by
  rcases cases32 x with q | ⟨i, hi, rfl⟩
  · exact absurd q (Int32.not_lt.mpr hx.1)
  · exact ⟨i, (nI_ltN hi hn).mp hx.2, rfl⟩
theorem in_le {x : Int32} {n : Nat} (hn : n < 2147483648) (hx : nI 0 ≤ x ∧ x ≤ nI n) : ∃ i, i ≤ n ∧ x = nI i := by
  rcases cases32 x with q | ⟨i, hi, rfl⟩
  · exact absurd q (Int32.not_lt.mpr hx.1)
  · exact ⟨i, (nI_leN hi hn).mp hx.2, rfl⟩
section Ops
variable {L n : Nat} {h : PH} {A B : Nat → Nat}
/-- a number of a dial is set, plans are forgotten -/
theorem post1 (hC : Core n h A B) {i c v : Nat} (hi : i < A 4) (hc : c < 8) (hv : (c = 0 → v < A 3) ∧ (c = 1 → v ≤ 1) ∧ (c = 2 → v < 720) ∧ (c = 3 → v ≤ 1) ∧ (c = 4 → v ≤ 10000 * (n + 1)) ∧ (c = 5 → v ≤ 999) ∧ (c = 6 → v ≤ 999) ∧ (c = 7 → v ≤ 1)) {F : PH} (hF : F = fgt 165 181 h ∨ F = h) : Core (n + 1) (wI (wI F (33 + i) (prm c) (nI v)) 254 (40 + 8 * i + c) (nI v)) (ud A (40 + 8 * i + c) v) B ∧ Kp h (wI (wI F (33 + i) (prm c) (nI v)) 254 (40 + 8 * i + c) (nI v)) ∧ WK A (ud A (40 + 8 * i + c) v) := by
  obtain ⟨c1, c2, c3, c4, c5, c6, c7⟩ := id hC
  have v4 := c5.2.2.2.2.1.2.2.1
  obtain ⟨p, q⟩ := loc_d (d := i) (c := c) (by omega) hc
  have fF : ∀ a, ¬ (165 ≤ a ∧ a < 181) → hI F a = hI h a := by
    intro a ha
    rcases hF with rfl | rfl
    · exact fgt_ne ha
    · rfl
  refine ⟨hC.step (h1 := wI F (33 + i) (prm c) (nI v)) ?_ ?_ ?_ ?_ ?_ (ud_ne _ (by omega)), ?_, ⟨fun j hj => ud_ne _ (by omega), by rw [ud_ne _ (by omega)]; exact Nat.le_refl _⟩⟩
  · exact RC.set (c1.congr (fun a p q => fF a (by omega))) q (by rw [p, Nat.zero_add]) (by rw [p]) (by rw [sv_p (by omega)])
  · intro a ha
    rw [wI_ne (by omega), fF a (by omega)]
  · exact RM.set (c3.congr (by rw [wI_ne (by omega), fF _ (by omega)])) (by rw [sv_p (by omega)])
  · intro a ha
    rw [wI_ne (by omega)]
  · refine c5.dials (Nat.le_succ n) (fun j h0 h1 hj => ud_ne _ (by omega)) ?_ ?_ ?_
    · rw [ud_ne _ (by omega)]
      exact ⟨Nat.le_refl _, c5.1⟩
    · rw [ud_ne _ (by omega)]
      exact c5.2.2.2.2.1.1
    · exact (c5.2.2.2.2.1.2.2.2.2.2.mono (by omega)).set hc hv
  · refine Kp.tr ?_ ((Kp.w (by omega)).tr (Kp.w (by omega)))
    rcases hF with rfl | rfl
    · exact Kp.fg
    · exact Kp.rf
theorem Pr_of {h2 : PH} (hp : ∀ a, 165 ≤ a → a < 181 → hI h2 a = hI (fgt 165 181 h) a) : Pr h2 := by
  intro i hi
  rw [hp _ (by omega) (by omega), fgt_at (by omega)]
theorem op_set (hC : Core n h A B) (x y : Int32) : Sim L 24 159 [.ref 2, .int x, .int y] [.ref 253, .int x, .int y] n h A B := by
  obtain ⟨c1, c2, c3, c4, c5, c6, c7⟩ := id hC
  have v4 := c5.2.2.2.2.1.2.2.1
  have f4 := c1.nd
  rw [Nat.zero_add] at f4
  have g4 := c3.at (k := 4) (by omega) (by omega)
  by_cases hx : nI 0 ≤ x ∧ x < nI (A 4)
  · by_cases hy : nI 0 ≤ y ∧ y ≤ nI 719
    · obtain ⟨i, hi, rfl⟩ := in_of (by omega) hx
      obtain ⟨v, hv, rfl⟩ := in_le (by omega) hy
      have hk := kk16 (i := i) (by omega)
      obtain ⟨p1, p2, p3⟩ := post1 (c := 2) (v := v) hC hi (by omega) (by omega) (F := fgt 165 181 h) (Or.inl rfl)
      refine ⟨nI 1, wI (fgt 165 181 h) (33 + i) (prm 2) (nI v), _, _, ?_, ?_, p1, p2, Or.inl (Pr_of (fun a q1 q2 => by rw [wI_ne (by omega), wI_ne (by omega)])), p3, ud_ne _ (by omega)⟩
      · rw [x24, m22, f4, cI_s, if_neg (by rw [bI_0]; exact not_not_intro hx), m17, cI_s, if_pos (bI_nz.mpr hy), m8, cV_s, inB_nI (by omega), asr_d (by omega), ix_nI (by omega), okW_of hk.1 (by omega) (by omega), asr_tt]
        rfl
      · have g4' : hI (wI (fgt 165 181 h) (33 + i) (prm 2) (nI v)) 254 4 = nI (A 4) := by rw [wI_ne (by omega), fgt_ne (by omega)]; exact g4
        rw [x159, m157 97 g4' (by omega), cI_s, if_neg (by rw [bI_0]; exact not_not_intro hx), m153, cI_s, if_pos (bI_nz.mpr hy), m155 98 (by omega) (by omega), cV_s]
    · refine Sim.same hC (r := nI 0) ?_ ?_
      · rw [x24, m22, f4, cI_s, if_neg (by rw [bI_0]; exact not_not_intro hx), m17, cI_s, if_neg (by rw [bI_nz]; exact hy)]
      · rw [x159, m157 97 g4 (by omega), cI_s, if_neg (by rw [bI_0]; exact not_not_intro hx), m153, cI_s, if_neg (by rw [bI_nz]; exact hy)]
  · refine Sim.same hC (r := nI 0) ?_ ?_
    · rw [x24, m22, f4, cI_s, if_pos (bI_0.mpr hx)]
    · rw [x159, m157 97 g4 (by omega), cI_s, if_pos (bI_0.mpr hx)]
theorem op_hang (hC : Core n h A B) (x y : Int32) : Sim L 23 158 [.ref 2, .int x, .int y] [.ref 253, .int x, .int y] n h A B := by
  obtain ⟨c1, c2, c3, c4, c5, c6, c7⟩ := id hC
  have v4 := c5.2.2.2.2.1.2.2.1
  have v3 := c5.2.2.2.2.1.2.1
  have f4 := c1.nd
  have f3 := c1.nb
  rw [Nat.zero_add] at f4 f3
  have g4 := c3.at (k := 4) (by omega) (by omega)
  have g3 := c3.at (k := 3) (by omega) (by omega)
  by_cases hx : nI 0 ≤ x ∧ x < nI (A 4)
  · by_cases hy : nI 0 ≤ y ∧ y < nI (A 3)
    · obtain ⟨i, hi, rfl⟩ := in_of (by omega) hx
      obtain ⟨v, hv, rfl⟩ := in_of (by omega) hy
      have hk := kk16 (i := i) (by omega)
      obtain ⟨p1, p2, p3⟩ := post1 (c := 0) (v := v) hC hi (by omega) (by omega) (F := fgt 165 181 h) (Or.inl rfl)
      refine ⟨nI 1, wI (fgt 165 181 h) (33 + i) (prm 0) (nI v), _, _, ?_, ?_, p1, p2, Or.inl (Pr_of (fun a q1 q2 => by rw [wI_ne (by omega), wI_ne (by omega)])), p3, ud_ne _ (by omega)⟩
      · rw [x23, m22, f4, cI_s, if_neg (by rw [bI_0]; exact not_not_intro hx), m14, f3, cI_s, if_pos (bI_nz.mpr hy), m8, cV_s, inB_nI (by omega), asr_d (by omega), ix_nI (by omega), okW_of hk.1 (by omega) (by omega), asr_tt]
        rfl
      · have g4' : hI (wI (fgt 165 181 h) (33 + i) (prm 0) (nI v)) 254 4 = nI (A 4) := by rw [wI_ne (by omega), fgt_ne (by omega)]; exact g4
        have g3' : hI (wI (fgt 165 181 h) (33 + i) (prm 0) (nI v)) 254 3 = nI (A 3) := by rw [wI_ne (by omega), fgt_ne (by omega)]; exact g3
        rw [x158, m157 97 g4' (by omega), cI_s, if_neg (by rw [bI_0]; exact not_not_intro hx), m152 97 g3' (by omega), cI_s, if_pos (bI_nz.mpr hy), m155 98 (by omega) (by omega), cV_s]
    · refine Sim.same hC (r := nI 0) ?_ ?_
      · rw [x23, m22, f4, cI_s, if_neg (by rw [bI_0]; exact not_not_intro hx), m14, f3, cI_s, if_neg (by rw [bI_nz]; exact hy)]
      · rw [x158, m157 97 g4 (by omega), cI_s, if_neg (by rw [bI_0]; exact not_not_intro hx), m152 97 g3 (by omega), cI_s, if_neg (by rw [bI_nz]; exact hy)]
  · refine Sim.same hC (r := nI 0) ?_ ?_
    · rw [x23, m22, f4, cI_s, if_pos (bI_0.mpr hx)]
    · rw [x158, m157 97 g4 (by omega), cI_s, if_pos (bI_0.mpr hx)]
end Ops
