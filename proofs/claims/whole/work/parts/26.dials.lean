-- PART: all dials, on the mathematical side.
def VB (A : Nat → Nat) (f n : Nat) : Prop := ∀ b, b < n → A (f + b) ≤ b
def VL (A : Nat → Nat) (o nd nb q : Nat) : Prop := ∀ i, i < nd → A (o + 8 * i) < nb ∧ A (o + 8 * i + 1) ≤ 1 ∧ A (o + 8 * i + 2) < 720 ∧ A (o + 8 * i + 3) ≤ 1 ∧ A (o + 8 * i + 4) ≤ q ∧ A (o + 8 * i + 5) ≤ 999 ∧ A (o + 8 * i + 6) ≤ 999 ∧ A (o + 8 * i + 7) ≤ 1
/-- wires and dials in their ranges, no count above q -/
def VW (X : Nat → Nat) (q : Nat) : Prop := X 1 ≤ 1 ∧ X 3 ≤ 8 ∧ X 4 ≤ 16 ∧ VB X 20 (X 3) ∧ (∀ b, b < 8 → X (28 + b) ≤ 1) ∧ VL X 40 (X 4) (X 3) q
theorem RC.dH {h : PH} {o : Nat} {A : Nat → Nat} (hR : RC h o A) {i : Nat} (hi : i < 16) : DH h (o + (33 + i)) (A (40 + 8 * i)) (A (40 + 8 * i + 1)) (A (40 + 8 * i + 2)) (A (40 + 8 * i + 3)) (A (40 + 8 * i + 4)) (A (40 + 8 * i + 5)) (A (40 + 8 * i + 6)) (A (40 + 8 * i + 7)) :=
  ⟨hR.dl (c := 0) hi (by omega), hR.dl (c := 1) hi (by omega), hR.dl (c := 2) hi (by omega), hR.dl (c := 3) hi (by omega), hR.dl (c := 4) hi (by omega), hR.dl (c := 5) hi (by omega), hR.dl (c := 6) hi (by omega), hR.dl (c := 7) hi (by omega)⟩
theorem RC.wH {h : PH} {o : Nat} {A : Nat → Nat} (hR : RC h o A) {i : Nat} (hi : i < 16) : DH h (o + (17 + i)) (A (170 + 8 * i)) (A (170 + 8 * i + 1)) (A (170 + 8 * i + 2)) (A (170 + 8 * i + 3)) (A (170 + 8 * i + 4)) (A (170 + 8 * i + 5)) (A (170 + 8 * i + 6)) (A (170 + 8 * i + 7)) :=
  ⟨hR.wl (c := 0) hi (by omega), hR.wl (c := 1) hi (by omega), hR.wl (c := 2) hi (by omega), hR.wl (c := 3) hi (by omega), hR.wl (c := 4) hi (by omega), hR.wl (c := 5) hi (by omega), hR.wl (c := 6) hi (by omega), hR.wl (c := 7) hi (by omega)⟩
theorem cm_congr {A A' : Nat → Nat} {st : Nat} (h : ∀ b, b < 8 → A' (20 + b) = A (20 + b) ∧ A' (28 + b) = A (28 + b)) : ∀ (m c : Nat), c ≤ m → c ≤ 8 → cm A' st c = cm A st c := by
  intro m
  induction m with
  | zero =>
    intro c hm hc
    have e : c = 0 := by omega
    subst e
    rw [cm_0, cm_0]
  | succ m ih =>
    intro c hm hc
    cases c with
    | zero => rw [cm_0, cm_0]
    | succ c =>
      obtain ⟨h1, h2⟩ := h c (by omega)
      rw [cm_s, cm_s, h1, h2]
      by_cases hle : A (20 + c) ≤ c
      · rw [if_pos hle, if_pos hle, ih _ (by omega) (by omega)]
      · rw [if_neg hle, if_neg hle]
/-- whether dial i takes pulses that begin at st -/
def act (X : Nat → Nat) (st i : Nat) : Bool := decide (X (40 + 8 * i + 7) = 0) && cm X st (X (40 + 8 * i) + 1)
/-- dial i behind n pulses from st, the first one's sign is s: hands, last, count -/
def DN (X : Nat → Nat) (st s n i : Nat) : Nat × Nat × Nat :=
  if act X st i = true ∧ n ≠ 0 then ((X (40 + 8 * i + 2) + far (X (40 + 8 * i + 5)) (X (40 + 8 * i + 6)) (X (40 + 8 * i + 4)) (tk (X (40 + 8 * i + 1)) (X (40 + 8 * i + 3)) s n)) % 720, (s + (n - 1)) % 2, X (40 + 8 * i + 4) + tk (X (40 + 8 * i + 1)) (X (40 + 8 * i + 3)) s n)
  else (X (40 + 8 * i + 2), X (40 + 8 * i + 3), X (40 + 8 * i + 4))
/-- the dials below m behind n pulses -/
def PAm (X : Nat → Nat) (st s n m : Nat) : Nat → Nat := fun j =>
  if 40 ≤ j ∧ j < 40 + 8 * m then (if (j - 40) % 8 = 2 then (DN X st s n ((j - 40) / 8)).1 else if (j - 40) % 8 = 3 then (DN X st s n ((j - 40) / 8)).2.1 else if (j - 40) % 8 = 4 then (DN X st s n ((j - 40) / 8)).2.2 else X j) else X j
theorem PAm_out {X : Nat → Nat} {st s n m j : Nat} (h : j < 40 ∨ 40 + 8 * m ≤ j ∨ ((j - 40) % 8 ≠ 2 ∧ (j - 40) % 8 ≠ 3 ∧ (j - 40) % 8 ≠ 4)) : PAm X st s n m j = X j := by
  unfold PAm
  by_cases h1 : 40 ≤ j ∧ j < 40 + 8 * m
  · rw [if_pos h1, if_neg (by omega), if_neg (by omega), if_neg (by omega)]
  · rw [if_neg h1]
theorem PAm_in {X : Nat → Nat} {st s n m i : Nat} (h : i < m) : PAm X st s n m (40 + 8 * i + 2) = (DN X st s n i).1 ∧ PAm X st s n m (40 + 8 * i + 3) = (DN X st s n i).2.1 ∧ PAm X st s n m (40 + 8 * i + 4) = (DN X st s n i).2.2 := by
  unfold PAm
  refine ⟨?_, ?_, ?_⟩
  · rw [if_pos (by omega), if_pos (by omega), show (40 + 8 * i + 2 - 40) / 8 = i by omega]
  · rw [if_pos (by omega), if_neg (by omega), if_pos (by omega), show (40 + 8 * i + 3 - 40) / 8 = i by omega]
  · rw [if_pos (by omega), if_neg (by omega), if_neg (by omega), if_pos (by omega), show (40 + 8 * i + 4 - 40) / 8 = i by omega]
theorem PAm_0 (X : Nat → Nat) (st s n : Nat) : PAm X st s n 0 = X := by
  funext j
  exact PAm_out (by omega)
theorem PAm_s (X : Nat → Nat) (st s n m : Nat) : PAm X st s n (m + 1) = ud (ud (ud (PAm X st s n m) (40 + 8 * m + 2) (DN X st s n m).1) (40 + 8 * m + 4) (DN X st s n m).2.2) (40 + 8 * m + 3) (DN X st s n m).2.1 := by
  funext j
  have hin := PAm_in (X := X) (st := st) (s := s) (n := n) (m := m + 1) (i := m) (by omega)
  by_cases h3 : j = 40 + 8 * m + 3
  · subst h3
    rw [hin.2.1, ud_at]
  · rw [ud_ne _ h3]
    by_cases h4 : j = 40 + 8 * m + 4
    · subst h4
      rw [hin.2.2, ud_at]
    · rw [ud_ne _ h4]
      by_cases h2 : j = 40 + 8 * m + 2
      · subst h2
        rw [hin.1, ud_at]
      · rw [ud_ne _ h2]
        by_cases hlo : j < 40 + 8 * m
        · unfold PAm
          by_cases h40 : 40 ≤ j
          · rw [if_pos (show 40 ≤ j ∧ j < 40 + 8 * (m + 1) by omega), if_pos (show 40 ≤ j ∧ j < 40 + 8 * m by omega)]
          · rw [if_neg (show ¬ (40 ≤ j ∧ j < 40 + 8 * (m + 1)) by omega), if_neg (show ¬ (40 ≤ j ∧ j < 40 + 8 * m) by omega)]
        · rw [PAm_out (by omega), PAm_out (by omega)]
theorem PAm_no {X : Nat → Nat} {st s n m : Nat} (h : DN X st s n m = (X (40 + 8 * m + 2), X (40 + 8 * m + 3), X (40 + 8 * m + 4))) : PAm X st s n (m + 1) = PAm X st s n m := by
  rw [PAm_s, h]
  funext j
  by_cases h3 : j = 40 + 8 * m + 3
  · subst h3
    rw [ud_at, PAm_out (by omega)]
  · rw [ud_ne _ h3]
    by_cases h4 : j = 40 + 8 * m + 4
    · subst h4
      rw [ud_at, PAm_out (by omega)]
    · rw [ud_ne _ h4]
      by_cases h2 : j = 40 + 8 * m + 2
      · subst h2
        rw [ud_at, PAm_out (by omega)]
      · rw [ud_ne _ h2]
theorem PAm_cm {X : Nat → Nat} {st s n m st' c : Nat} (hc : c ≤ 8) : cm (PAm X st s n m) st' c = cm X st' c := cm_congr (fun b hb => ⟨PAm_out (by omega), PAm_out (by omega)⟩) c c (Nat.le_refl _) hc
/-- what the class writes when dials take pulses -/
def FD (h h' : PH) : Prop := (∀ a, a ≠ 3 → ¬ (33 ≤ a ∧ a ≤ 48) → hI h' a = hI h a) ∧ hJ h' = hJ h ∧ hR h' = hR h
theorem FD.rf {h : PH} : FD h h := ⟨fun _ _ _ => rfl, rfl, rfl⟩
theorem FD.tr {a b c : PH} (h1 : FD a b) (h2 : FD b c) : FD a c := ⟨fun x p q => (h2.1 x p q).trans (h1.1 x p q), h2.2.1.trans h1.2.1, h2.2.2.trans h1.2.2⟩
theorem FD.w {h : PH} {a k : Nat} {v : Int32} (ha : a = 3 ∨ (33 ≤ a ∧ a ≤ 48)) : FD h (wI h a k v) := ⟨fun x p q => wI_ne (fun z => by rw [z] at p q; exact ha.elim p q), rfl, rfl⟩
/-- how many pulses did something -/
def an (X : Nat → Nat) (st s n i : Nat) : Nat := if act X st i = true then tk (X (40 + 8 * i + 1)) (X (40 + 8 * i + 3)) s n else 0
section CStep
variable {L : Nat} {h : PH} {X : Nat → Nat} {st s n m q : Nat}
theorem c_br (hR : RC h 0 (PAm X st s n m)) (hm : m < 16) : hI h (33 + m) 0 = nI (X (40 + 8 * m)) := by
  have := hR.dl (d := m) (c := 0) hm (by omega)
  simp only [Nat.zero_add, Nat.add_zero] at this
  rw [PAm_out (by omega)] at this
  exact this
theorem c_comes (d : Nat) (hR : RC h 0 (PAm X st s n m)) (hV : VW X q) (hm : m < X 4) {st' : Nat} (hst : st' ≤ 8) : exec (g2 L) (d + 2) 30 [.ref 4, .int (nI st' - nI 1), .int (hI h (33 + m) 0)] h = some (some (.int (bI (cm X st' (X (40 + 8 * m) + 1) = true))), h) := by
  obtain ⟨v1, v3, v4, vb, vk, vl⟩ := hV
  have hl := vl m hm
  have e3 : PAm X st s n m 3 = X 3 := PAm_out (by omega)
  rw [c_br hR (by omega), m30 (A := PAm X st s n m) d hR (by rw [e3]; exact v3) (fun b hb => by rw [PAm_out (by omega)]; rw [e3] at hb; exact vb b hb) (fun b hb => by rw [PAm_out (by omega)]; exact vk b hb) hst (by rw [e3]; exact hl.1), PAm_cm (by omega)]
theorem c_take (d : Nat) (hR : RC h 0 (PAm X st s n m)) (hV : VW X q) (hq : q ≤ 100000000) (hm : m < X 4) (hs : s ≤ 1) (hn1 : 1 ≤ n) (hn : n ≤ 20000) (hc : cm X st (X (40 + 8 * m) + 1) = true) : ∃ h', exec (g2 L) (d + 3) 31 [.ref (33 + m), .int (nI s), .int (nI n)] h = some (some (.int (nI (an X st s n m))), h') ∧ RC h' 0 (PAm X st s n (m + 1)) ∧ FD h h' := by
  obtain ⟨v1, v3, v4, vb, vk, vl⟩ := hV
  obtain ⟨l0, l1, l2, l3, l4, l5, l6, l7⟩ := vl m hm
  have hk := kk16 (i := m) (by omega)
  have hD := hR.dH (i := m) (by omega)
  rw [Nat.zero_add, PAm_out (by omega), PAm_out (by omega), PAm_out (by omega), PAm_out (by omega), PAm_out (by omega), PAm_out (by omega), PAm_out (by omega), PAm_out (by omega)] at hD
  unfold an
  by_cases hh : X (40 + 8 * m + 7) = 0
  · have ha : act X st m = true := by unfold act; rw [hh, hc]; rfl
    rw [hh] at hD
    refine ⟨_, by rw [m31 d hD hk.1 (by omega) (by omega) l1 l2 l3 (by omega) l5 l6 hs hn1 hn, if_pos ha], ?_, ?_⟩
    · rw [PAm_s]
      have hDN : DN X st s n m = ((X (40 + 8 * m + 2) + far (X (40 + 8 * m + 5)) (X (40 + 8 * m + 6)) (X (40 + 8 * m + 4)) (tk (X (40 + 8 * m + 1)) (X (40 + 8 * m + 3)) s n)) % 720, (s + (n - 1)) % 2, X (40 + 8 * m + 4) + tk (X (40 + 8 * m + 1)) (X (40 + 8 * m + 3)) s n) := if_pos ⟨ha, by omega⟩
      rw [hDN]
      obtain ⟨p2, q2⟩ := loc_d (d := m) (c := 2) (by omega) (by omega)
      obtain ⟨p3, q3⟩ := loc_d (d := m) (c := 3) (by omega) (by omega)
      obtain ⟨p4, q4⟩ := loc_d (d := m) (c := 4) (by omega) (by omega)
      refine RC.set (RC.set (RC.set hR q2 ?_ ?_ ?_) q4 ?_ ?_ ?_) q3 ?_ ?_ ?_
      · rw [p2, Nat.zero_add]
      · rw [p2]; rfl
      · rw [sv_p (by omega)]
      · rw [p4, Nat.zero_add]
      · rw [p4]; rfl
      · rw [sv_p (by omega)]
      · rw [p3, Nat.zero_add]
      · rw [p3]; rfl
      · rw [sv_p (by omega)]
    · exact ((FD.w (Or.inr ⟨by omega, by omega⟩)).tr (FD.w (Or.inr ⟨by omega, by omega⟩))).tr (FD.w (Or.inr ⟨by omega, by omega⟩))
  · have ha : ¬ act X st m = true := by unfold act; simp [hh]
    refine ⟨h, by rw [m31_held (d + 2) hD hk.1 (by omega) hh l7, if_neg ha], ?_, FD.rf⟩
    rw [PAm_no (if_neg (fun z => ha z.1))]
    exact hR
theorem c_pass (hR : RC h 0 (PAm X st s n m)) (hc : ¬ cm X st (X (40 + 8 * m) + 1) = true) : RC h 0 (PAm X st s n (m + 1)) := by
  rw [PAm_no (if_neg (fun z => ?_))]
  · exact hR
  · have := z.1
    unfold act at this
    rw [Bool.and_eq_true] at this
    exact hc this.2
end CStep
