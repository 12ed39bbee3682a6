-- PART: copying (printed by gen/gencopy.py).
theorem RC.mk {h : PH} {o : Nat} {A : Nat → Nat} (h0 : ∀ k, k < 12 → hI h (o + (loc k).1) (loc k).2 = sv k (A k)) (h1 : ∀ b, b < 8 → hI h (o + 5) b = nI (A (20 + b)) - nI 1 ∧ hI h (o + 6) b = nI (A (28 + b))) (h2 : ∀ i, i < 16 → ∀ c, c < 8 → hI h (o + (33 + i)) (prm c) = nI (A (40 + 8 * i + c))) (h3 : ∀ i, i < 16 → ∀ c, c < 8 → hI h (o + (17 + i)) (prm c) = nI (A (170 + 8 * i + c))) (h4 : ∀ b, b < 8 → hI h (o + 10) b = nI (A (300 + b)) - nI 1 ∧ hI h (o + 11) b = nI (A (308 + b))) (h5 : ∀ i, i < 30 → ∀ c, c < 4 → hI h (o + (13 + c)) i = nI (A (320 + 4 * i + c))) : RC h o A := by
  intro k hk
  have e : ∀ n, Nat.blt k n = true → k < n := fun n z => Nat.le_of_ble_eq_true z
  have e' : ∀ n, Nat.ble n k = true → n ≤ k := fun n z => Nat.le_of_ble_eq_true z
  have hd := hk
  unfold dom at hd
  simp only [Bool.or_eq_true, Bool.and_eq_true] at hd
  rcases hd with z | z | z | z | z | z
  · exact h0 k (e _ z)
  · have z1 := e' _ z.1
    have z2 := e _ z.2
    by_cases q : k < 28
    · obtain ⟨b, rfl⟩ : ∃ b, k = 20 + b := ⟨k - 20, by omega⟩
      rw [(loc_b (b := b) (by omega)).1.1, sv_m (by omega)]
      exact (h1 b (by omega)).1
    · obtain ⟨b, rfl⟩ : ∃ b, k = 28 + b := ⟨k - 28, by omega⟩
      rw [(loc_b (b := b) (by omega)).2.1.1, sv_p (by omega)]
      exact (h1 b (by omega)).2
  · have z1 := e' _ z.1
    have z2 := e _ z.2
    obtain ⟨i, c, hi, hc, rfl⟩ : ∃ i c, i < 16 ∧ c < 8 ∧ k = 40 + 8 * i + c := ⟨(k - 40) / 8, (k - 40) % 8, by omega, by omega, by omega⟩
    rw [(loc_d hi hc).1, sv_p (by omega)]
    exact h2 i hi c hc
  · have z1 := e' _ z.1
    have z2 := e _ z.2
    obtain ⟨i, c, hi, hc, rfl⟩ : ∃ i c, i < 16 ∧ c < 8 ∧ k = 170 + 8 * i + c := ⟨(k - 170) / 8, (k - 170) % 8, by omega, by omega, by omega⟩
    rw [(loc_w hi hc).1, sv_p (by omega)]
    exact h3 i hi c hc
  · have z1 := e' _ z.1
    have z2 := e _ z.2
    by_cases q : k < 308
    · obtain ⟨b, rfl⟩ : ∃ b, k = 300 + b := ⟨k - 300, by omega⟩
      rw [(loc_b (b := b) (by omega)).2.2.1.1, sv_m (by omega)]
      exact (h4 b (by omega)).1
    · obtain ⟨b, rfl⟩ : ∃ b, k = 308 + b := ⟨k - 308, by omega⟩
      rw [(loc_b (b := b) (by omega)).2.2.2.1, sv_p (by omega)]
      exact (h4 b (by omega)).2
  · have z1 := e' _ z.1
    have z2 := e _ z.2
    obtain ⟨i, c, hi, hc, rfl⟩ : ∃ i c, i < 30 ∧ c < 4 ∧ k = 320 + 4 * i + c := ⟨(k - 320) / 4, (k - 320) % 4, by omega, by omega, by omega⟩
    rw [(loc_r hi hc).1, sv_p (by omega)]
    exact h5 i hi c hc
theorem prm_lt {c : Nat} (hc : c < 8) : prm c < 8 := by
  have key : ∀ c, c < 8 → prm c < 8 := by decide
  exact key c hc
theorem hI_cpy {h : PH} {a sp b dp n x j : Nat} : hI (cpy h a sp b dp n) x j = if x = b ∧ dp ≤ j ∧ j < dp + n then hI h a (sp + (j - dp)) else hI h x j := rfl
theorem cpy_ne {h : PH} {a sp b dp n x : Nat} (hx : x ≠ b) : hI (cpy h a sp b dp n) x = hI h x := by
  funext j
  rw [hI_cpy, if_neg (fun q => hx q.1)]
section Copy
variable {L : Nat}
theorem m44 (d : Nat) {a0 a1 : Nat} {h : PH} (k0 : kx_K a0 = 24) (k1 : kx_K a1 = 24) (hne : a1 ≠ a0) (h2 : 2 ≤ a0) (hl0 : a0 < 289) (hl1 : a1 < 289) (z1 : nrZ (hI h a1 1) = hI h a1 1) (z4 : nrZ (hI h a1 4) = hI h a1 4) : ∃ h', exec (g2 L) (d + 1) 44 [.ref a0, .ref a1] h = some (none, h') ∧ (∀ f, f < 8 → hI h' a0 f = hI h a1 f) ∧ (∀ a, a ≠ a0 → hI h' a = hI h a) := by
  have ok : ∀ g : PH, okW (g2 L) g a0 24 = true := fun g => okW_of k0 h2 hl0
  have oa : ∀ g : PH, okA (g2 L) g a1 24 = true := fun g => okA_of k1 hl1
  have n1 : ∀ (g : PH) (k : Nat) (v : Int32), hI (wI g a0 k v) a1 = hI g a1 := fun g k v => wI_ne hne
  refine ⟨wI (wI (wI (wI (wI (wI (wI (wI h a0 0 (hI h a1 0)) a0 1 (hI h a1 1)) a0 2 (hI h a1 2)) a0 3 (hI h a1 3)) a0 4 (hI h a1 4)) a0 5 (hI h a1 5)) a0 6 (hI h a1 6)) a0 7 (hI h a1 7), ?_, ?_, ?_⟩
  · rw [x44, oa, asr_true, ok, asr_tt, e44_8, oa, asr_true, ok, asr_tt, n1, asr_d z1, e44_16, oa, asr_true, ok, asr_tt, n1, n1, e44_24, oa, asr_true, ok, asr_tt, n1, n1, n1, e44_32, oa, asr_true, ok, asr_tt, n1, n1, n1, n1, asr_d z4, e44_40, oa, asr_true, ok, asr_tt, n1, n1, n1, n1, n1, e44_48, oa, asr_true, ok, asr_tt, n1, n1, n1, n1, n1, n1, e44_56, oa, asr_true, ok, asr_tt, n1, n1, n1, n1, n1, n1, n1, e44_64]
  · intro f hf
    rw [hI_wI, hI_wI, hI_wI, hI_wI, hI_wI, hI_wI, hI_wI, hI_wI]
    have c : f = 0 ∨ f = 1 ∨ f = 2 ∨ f = 3 ∨ f = 4 ∨ f = 5 ∨ f = 6 ∨ f = 7 := by omega
    rcases c with rfl | rfl | rfl | rfl | rfl | rfl | rfl | rfl <;> simp
  · intro a ha
    rw [wI_ne ha, wI_ne ha, wI_ne ha, wI_ne ha, wI_ne ha, wI_ne ha, wI_ne ha, wI_ne ha]
theorem m43a_loop {d : Nat} : ∀ (n i : Nat) (h : PH), i + n = 8 → (∀ b, b < 8 → nrZ (hI h 52 b) = hI h 52 b) → ∃ h', runL (g2 L) d 2 false none kc_43 10 [.ref 4, .ref 50, .int (nI i)] [] h = some (none, h') ∧ (∀ b, b < 8 → hI h' 5 b = (if i ≤ b then hI h 51 b else hI h 5 b) ∧ hI h' 6 b = (if i ≤ b then hI h 52 b else hI h 6 b)) ∧ (∀ a, a ≠ 5 → a ≠ 6 → hI h' a = hI h a) := by
  intro n
  induction n with
  | zero =>
    intro i h hi hz
    refine ⟨h, ?_, fun b hb => ?_, fun a _ _ => rfl⟩
    · rw [e43_10a, if_pos (by rw [nI_leN (by omega) (by omega)]; omega)]
    · rw [if_neg (by omega), if_neg (by omega)]
      exact ⟨rfl, rfl⟩
  | succ n ih =>
    intro i h hi hz
    obtain ⟨h', e1, e2, e3⟩ := ih (i + 1) (wI (wI h 5 i (hI h 51 i)) 6 i (hI h 52 i)) (by omega) (fun b hb => by rw [wI_ne (by omega), wI_ne (by omega)]; exact hz b hb)
    refine ⟨h', ?_, fun b hb => ?_, fun a p q => ?_⟩
    · rw [e43_10a, if_neg (by rw [nI_leN (by omega) (by omega)]; omega), inB_nI (by omega), asr_d (by omega), asr_d (by omega), asr_d (by omega), asr_d (by omega), ix_nI (by omega), nI_plus, hz i (by omega)]
      exact e1
    · obtain ⟨q1, q2⟩ := e2 b hb
      rw [q1, q2]
      by_cases z : i + 1 ≤ b
      · rw [if_pos z, if_pos z, if_pos (by omega), if_pos (by omega), wI_ne (by omega), wI_ne (by omega), wI_ne (by omega), wI_ne (by omega)]
        exact ⟨rfl, rfl⟩
      · rw [if_neg z, if_neg z, wI_ne (by omega), hI_wI, hI_wI]
        by_cases y : i = b
        · subst y
          simp
        · rw [if_neg (by omega), if_neg (by omega), if_neg (by omega), if_neg (by omega), wI_ne (by omega)]
          exact ⟨rfl, rfl⟩
    · rw [e3 a p q, wI_ne q, wI_ne p]
theorem m43a (d : Nat) {h : PH} (hz : ∀ b, b < 8 → nrZ (hI h 52 b) = hI h 52 b) : ∃ h', exec (g2 L) (d + 1) 43 [.ref 4, .ref 50] h = some (none, h') ∧ hI h' 4 0 = hI h 50 0 ∧ (∀ b, b < 8 → hI h' 5 b = hI h 51 b ∧ hI h' 6 b = hI h 52 b) ∧ (∀ a, a ≠ 4 → a ≠ 5 → a ≠ 6 → hI h' a = hI h a) := by
  obtain ⟨h', e1, e2, e3⟩ := m43a_loop (L := L) (d := d) 8 0 (wI h 4 0 (hI h 50 0)) rfl (fun b hb => by rw [wI_ne (by omega)]; exact hz b hb)
  refine ⟨h', ?_, ?_, fun b hb => ?_, fun a p q r => ?_⟩
  · rw [x43a]
    exact e1
  · rw [e3 4 (by omega) (by omega), hI_wI, if_pos ⟨rfl, rfl⟩]
  · obtain ⟨q1, q2⟩ := e2 b hb
    rw [q1, q2, if_pos (Nat.zero_le _), if_pos (Nat.zero_le _), wI_ne (by omega), wI_ne (by omega)]
    exact ⟨rfl, rfl⟩
  · rw [e3 a q r, wI_ne p]
theorem m43b_loop {d : Nat} : ∀ (n i : Nat) (h : PH), i + n = 8 → (∀ b, b < 8 → nrZ (hI h 6 b) = hI h 6 b) → ∃ h', runL (g2 L) d 2 false none kc_43 10 [.ref 50, .ref 4, .int (nI i)] [] h = some (none, h') ∧ (∀ b, b < 8 → hI h' 51 b = (if i ≤ b then hI h 5 b else hI h 51 b) ∧ hI h' 52 b = (if i ≤ b then hI h 6 b else hI h 52 b)) ∧ (∀ a, a ≠ 51 → a ≠ 52 → hI h' a = hI h a) := by
  intro n
  induction n with
  | zero =>
    intro i h hi hz
    refine ⟨h, ?_, fun b hb => ?_, fun a _ _ => rfl⟩
    · rw [e43_10b, if_pos (by rw [nI_leN (by omega) (by omega)]; omega)]
    · rw [if_neg (by omega), if_neg (by omega)]
      exact ⟨rfl, rfl⟩
  | succ n ih =>
    intro i h hi hz
    obtain ⟨h', e1, e2, e3⟩ := ih (i + 1) (wI (wI h 51 i (hI h 5 i)) 52 i (hI h 6 i)) (by omega) (fun b hb => by rw [wI_ne (by omega), wI_ne (by omega)]; exact hz b hb)
    refine ⟨h', ?_, fun b hb => ?_, fun a p q => ?_⟩
    · rw [e43_10b, if_neg (by rw [nI_leN (by omega) (by omega)]; omega), inB_nI (by omega), asr_d (by omega), asr_d (by omega), asr_d (by omega), asr_d (by omega), ix_nI (by omega), nI_plus, hz i (by omega)]
      exact e1
    · obtain ⟨q1, q2⟩ := e2 b hb
      rw [q1, q2]
      by_cases z : i + 1 ≤ b
      · rw [if_pos z, if_pos z, if_pos (by omega), if_pos (by omega), wI_ne (by omega), wI_ne (by omega), wI_ne (by omega), wI_ne (by omega)]
        exact ⟨rfl, rfl⟩
      · rw [if_neg z, if_neg z, wI_ne (by omega), hI_wI, hI_wI]
        by_cases y : i = b
        · subst y
          simp
        · rw [if_neg (by omega), if_neg (by omega), if_neg (by omega), if_neg (by omega), wI_ne (by omega)]
          exact ⟨rfl, rfl⟩
    · rw [e3 a p q, wI_ne q, wI_ne p]
theorem m43b (d : Nat) {h : PH} (hz : ∀ b, b < 8 → nrZ (hI h 6 b) = hI h 6 b) : ∃ h', exec (g2 L) (d + 1) 43 [.ref 50, .ref 4] h = some (none, h') ∧ hI h' 50 0 = hI h 4 0 ∧ (∀ b, b < 8 → hI h' 51 b = hI h 5 b ∧ hI h' 52 b = hI h 6 b) ∧ (∀ a, a ≠ 50 → a ≠ 51 → a ≠ 52 → hI h' a = hI h a) := by
  obtain ⟨h', e1, e2, e3⟩ := m43b_loop (L := L) (d := d) 8 0 (wI h 50 0 (hI h 4 0)) rfl (fun b hb => by rw [wI_ne (by omega)]; exact hz b hb)
  refine ⟨h', ?_, ?_, fun b hb => ?_, fun a p q r => ?_⟩
  · rw [x43b]
    exact e1
  · rw [e3 50 (by omega) (by omega), hI_wI, if_pos ⟨rfl, rfl⟩]
  · obtain ⟨q1, q2⟩ := e2 b hb
    rw [q1, q2, if_pos (Nat.zero_le _), if_pos (Nat.zero_le _), wI_ne (by omega), wI_ne (by omega)]
    exact ⟨rfl, rfl⟩
  · rw [e3 a q r, wI_ne p]
theorem m43c_loop {d : Nat} : ∀ (n i : Nat) (h : PH), i + n = 8 → (∀ b, b < 8 → nrZ (hI h 57 b) = hI h 57 b) → ∃ h', runL (g2 L) d 2 false none kc_43 10 [.ref 9, .ref 55, .int (nI i)] [] h = some (none, h') ∧ (∀ b, b < 8 → hI h' 10 b = (if i ≤ b then hI h 56 b else hI h 10 b) ∧ hI h' 11 b = (if i ≤ b then hI h 57 b else hI h 11 b)) ∧ (∀ a, a ≠ 10 → a ≠ 11 → hI h' a = hI h a) := by
  intro n
  induction n with
  | zero =>
    intro i h hi hz
    refine ⟨h, ?_, fun b hb => ?_, fun a _ _ => rfl⟩
    · rw [e43_10c, if_pos (by rw [nI_leN (by omega) (by omega)]; omega)]
    · rw [if_neg (by omega), if_neg (by omega)]
      exact ⟨rfl, rfl⟩
  | succ n ih =>
    intro i h hi hz
    obtain ⟨h', e1, e2, e3⟩ := ih (i + 1) (wI (wI h 10 i (hI h 56 i)) 11 i (hI h 57 i)) (by omega) (fun b hb => by rw [wI_ne (by omega), wI_ne (by omega)]; exact hz b hb)
    refine ⟨h', ?_, fun b hb => ?_, fun a p q => ?_⟩
    · rw [e43_10c, if_neg (by rw [nI_leN (by omega) (by omega)]; omega), inB_nI (by omega), asr_d (by omega), asr_d (by omega), asr_d (by omega), asr_d (by omega), ix_nI (by omega), nI_plus, hz i (by omega)]
      exact e1
    · obtain ⟨q1, q2⟩ := e2 b hb
      rw [q1, q2]
      by_cases z : i + 1 ≤ b
      · rw [if_pos z, if_pos z, if_pos (by omega), if_pos (by omega), wI_ne (by omega), wI_ne (by omega), wI_ne (by omega), wI_ne (by omega)]
        exact ⟨rfl, rfl⟩
      · rw [if_neg z, if_neg z, wI_ne (by omega), hI_wI, hI_wI]
        by_cases y : i = b
        · subst y
          simp
        · rw [if_neg (by omega), if_neg (by omega), if_neg (by omega), if_neg (by omega), wI_ne (by omega)]
          exact ⟨rfl, rfl⟩
    · rw [e3 a p q, wI_ne q, wI_ne p]
theorem m43c (d : Nat) {h : PH} (hz : ∀ b, b < 8 → nrZ (hI h 57 b) = hI h 57 b) : ∃ h', exec (g2 L) (d + 1) 43 [.ref 9, .ref 55] h = some (none, h') ∧ hI h' 9 0 = hI h 55 0 ∧ (∀ b, b < 8 → hI h' 10 b = hI h 56 b ∧ hI h' 11 b = hI h 57 b) ∧ (∀ a, a ≠ 9 → a ≠ 10 → a ≠ 11 → hI h' a = hI h a) := by
  obtain ⟨h', e1, e2, e3⟩ := m43c_loop (L := L) (d := d) 8 0 (wI h 9 0 (hI h 55 0)) rfl (fun b hb => by rw [wI_ne (by omega)]; exact hz b hb)
  refine ⟨h', ?_, ?_, fun b hb => ?_, fun a p q r => ?_⟩
  · rw [x43c]
    exact e1
  · rw [e3 9 (by omega) (by omega), hI_wI, if_pos ⟨rfl, rfl⟩]
  · obtain ⟨q1, q2⟩ := e2 b hb
    rw [q1, q2, if_pos (Nat.zero_le _), if_pos (Nat.zero_le _), wI_ne (by omega), wI_ne (by omega)]
    exact ⟨rfl, rfl⟩
  · rw [e3 a q r, wI_ne p]
theorem m43d_loop {d : Nat} : ∀ (n i : Nat) (h : PH), i + n = 8 → (∀ b, b < 8 → nrZ (hI h 11 b) = hI h 11 b) → ∃ h', runL (g2 L) d 2 false none kc_43 10 [.ref 55, .ref 9, .int (nI i)] [] h = some (none, h') ∧ (∀ b, b < 8 → hI h' 56 b = (if i ≤ b then hI h 10 b else hI h 56 b) ∧ hI h' 57 b = (if i ≤ b then hI h 11 b else hI h 57 b)) ∧ (∀ a, a ≠ 56 → a ≠ 57 → hI h' a = hI h a) := by
  intro n
  induction n with
  | zero =>
    intro i h hi hz
    refine ⟨h, ?_, fun b hb => ?_, fun a _ _ => rfl⟩
    · rw [e43_10d, if_pos (by rw [nI_leN (by omega) (by omega)]; omega)]
    · rw [if_neg (by omega), if_neg (by omega)]
      exact ⟨rfl, rfl⟩
  | succ n ih =>
    intro i h hi hz
    obtain ⟨h', e1, e2, e3⟩ := ih (i + 1) (wI (wI h 56 i (hI h 10 i)) 57 i (hI h 11 i)) (by omega) (fun b hb => by rw [wI_ne (by omega), wI_ne (by omega)]; exact hz b hb)
    refine ⟨h', ?_, fun b hb => ?_, fun a p q => ?_⟩
    · rw [e43_10d, if_neg (by rw [nI_leN (by omega) (by omega)]; omega), inB_nI (by omega), asr_d (by omega), asr_d (by omega), asr_d (by omega), asr_d (by omega), ix_nI (by omega), nI_plus, hz i (by omega)]
      exact e1
    · obtain ⟨q1, q2⟩ := e2 b hb
      rw [q1, q2]
      by_cases z : i + 1 ≤ b
      · rw [if_pos z, if_pos z, if_pos (by omega), if_pos (by omega), wI_ne (by omega), wI_ne (by omega), wI_ne (by omega), wI_ne (by omega)]
        exact ⟨rfl, rfl⟩
      · rw [if_neg z, if_neg z, wI_ne (by omega), hI_wI, hI_wI]
        by_cases y : i = b
        · subst y
          simp
        · rw [if_neg (by omega), if_neg (by omega), if_neg (by omega), if_neg (by omega), wI_ne (by omega)]
          exact ⟨rfl, rfl⟩
    · rw [e3 a p q, wI_ne q, wI_ne p]
theorem m43d (d : Nat) {h : PH} (hz : ∀ b, b < 8 → nrZ (hI h 11 b) = hI h 11 b) : ∃ h', exec (g2 L) (d + 1) 43 [.ref 55, .ref 9] h = some (none, h') ∧ hI h' 55 0 = hI h 9 0 ∧ (∀ b, b < 8 → hI h' 56 b = hI h 10 b ∧ hI h' 57 b = hI h 11 b) ∧ (∀ a, a ≠ 55 → a ≠ 56 → a ≠ 57 → hI h' a = hI h a) := by
  obtain ⟨h', e1, e2, e3⟩ := m43d_loop (L := L) (d := d) 8 0 (wI h 55 0 (hI h 9 0)) rfl (fun b hb => by rw [wI_ne (by omega)]; exact hz b hb)
  refine ⟨h', ?_, ?_, fun b hb => ?_, fun a p q r => ?_⟩
  · rw [x43d]
    exact e1
  · rw [e3 55 (by omega) (by omega), hI_wI, if_pos ⟨rfl, rfl⟩]
  · obtain ⟨q1, q2⟩ := e2 b hb
    rw [q1, q2, if_pos (Nat.zero_le _), if_pos (Nat.zero_le _), wI_ne (by omega), wI_ne (by omega)]
    exact ⟨rfl, rfl⟩
  · rw [e3 a q r, wI_ne p]
theorem m43e_loop {d : Nat} : ∀ (n i : Nat) (h : PH), i + n = 8 → (∀ b, b < 8 → nrZ (hI h 6 b) = hI h 6 b) → ∃ h', runL (g2 L) d 2 false none kc_43 10 [.ref 9, .ref 4, .int (nI i)] [] h = some (none, h') ∧ (∀ b, b < 8 → hI h' 10 b = (if i ≤ b then hI h 5 b else hI h 10 b) ∧ hI h' 11 b = (if i ≤ b then hI h 6 b else hI h 11 b)) ∧ (∀ a, a ≠ 10 → a ≠ 11 → hI h' a = hI h a) := by
  intro n
  induction n with
  | zero =>
    intro i h hi hz
    refine ⟨h, ?_, fun b hb => ?_, fun a _ _ => rfl⟩
    · rw [e43_10e, if_pos (by rw [nI_leN (by omega) (by omega)]; omega)]
    · rw [if_neg (by omega), if_neg (by omega)]
      exact ⟨rfl, rfl⟩
  | succ n ih =>
    intro i h hi hz
    obtain ⟨h', e1, e2, e3⟩ := ih (i + 1) (wI (wI h 10 i (hI h 5 i)) 11 i (hI h 6 i)) (by omega) (fun b hb => by rw [wI_ne (by omega), wI_ne (by omega)]; exact hz b hb)
    refine ⟨h', ?_, fun b hb => ?_, fun a p q => ?_⟩
    · rw [e43_10e, if_neg (by rw [nI_leN (by omega) (by omega)]; omega), inB_nI (by omega), asr_d (by omega), asr_d (by omega), asr_d (by omega), asr_d (by omega), ix_nI (by omega), nI_plus, hz i (by omega)]
      exact e1
    · obtain ⟨q1, q2⟩ := e2 b hb
      rw [q1, q2]
      by_cases z : i + 1 ≤ b
      · rw [if_pos z, if_pos z, if_pos (by omega), if_pos (by omega), wI_ne (by omega), wI_ne (by omega), wI_ne (by omega), wI_ne (by omega)]
        exact ⟨rfl, rfl⟩
      · rw [if_neg z, if_neg z, wI_ne (by omega), hI_wI, hI_wI]
        by_cases y : i = b
        · subst y
          simp
        · rw [if_neg (by omega), if_neg (by omega), if_neg (by omega), if_neg (by omega), wI_ne (by omega)]
          exact ⟨rfl, rfl⟩
    · rw [e3 a p q, wI_ne q, wI_ne p]
theorem m43e (d : Nat) {h : PH} (hz : ∀ b, b < 8 → nrZ (hI h 6 b) = hI h 6 b) : ∃ h', exec (g2 L) (d + 1) 43 [.ref 9, .ref 4] h = some (none, h') ∧ hI h' 9 0 = hI h 4 0 ∧ (∀ b, b < 8 → hI h' 10 b = hI h 5 b ∧ hI h' 11 b = hI h 6 b) ∧ (∀ a, a ≠ 9 → a ≠ 10 → a ≠ 11 → hI h' a = hI h a) := by
  obtain ⟨h', e1, e2, e3⟩ := m43e_loop (L := L) (d := d) 8 0 (wI h 9 0 (hI h 4 0)) rfl (fun b hb => by rw [wI_ne (by omega)]; exact hz b hb)
  refine ⟨h', ?_, ?_, fun b hb => ?_, fun a p q r => ?_⟩
  · rw [x43e]
    exact e1
  · rw [e3 9 (by omega) (by omega), hI_wI, if_pos ⟨rfl, rfl⟩]
  · obtain ⟨q1, q2⟩ := e2 b hb
    rw [q1, q2, if_pos (Nat.zero_le _), if_pos (Nat.zero_le _), wI_ne (by omega), wI_ne (by omega)]
    exact ⟨rfl, rfl⟩
  · rw [e3 a q r, wI_ne p]
theorem m145a_loop {d : Nat} : ∀ (n i : Nat) (h : PH), i + n = 16 → (∀ j, j < 16 → nrZ (hI h (63 + j) 1) = hI h (63 + j) 1 ∧ nrZ (hI h (63 + j) 4) = hI h (63 + j) 4) → ∃ h', runL (g2 L) (d + 1) 3 false none kc_145 45 [.ref 8, .ref 54, .int (nI i)] [] h = some (none, h') ∧ (∀ j, j < 16 → ∀ f, f < 8 → hI h' (17 + j) f = (if i ≤ j then hI h (63 + j) f else hI h (17 + j) f)) ∧ (∀ c, c < 4 → ∀ k, k < 30 → hI h' (13 + c) k = hI h (59 + c) k) ∧ (∀ a, ¬ (13 ≤ a ∧ a ≤ 32) → hI h' a = hI h a) := by
  intro n
  induction n with
  | zero =>
    intro i h hi hz
    refine ⟨_, by rw [e145_45a, if_pos (by rw [nI_leN (by omega) (by omega)]; omega)], fun j hj f hf => ?_, fun c hc k hk => ?_, fun a ha => ?_⟩
    · rw [if_neg (by omega), cpy_ne (by omega), cpy_ne (by omega), cpy_ne (by omega), cpy_ne (by omega)]
    · have cc : c = 0 ∨ c = 1 ∨ c = 2 ∨ c = 3 := by omega
      rcases cc with rfl | rfl | rfl | rfl
      · rw [cpy_ne (by omega), cpy_ne (by omega), cpy_ne (by omega), hI_cpy, if_pos ⟨rfl, by omega, by omega⟩, Nat.sub_zero, Nat.zero_add]
      · rw [cpy_ne (by omega), cpy_ne (by omega), hI_cpy, if_pos ⟨rfl, by omega, by omega⟩, Nat.sub_zero, Nat.zero_add, cpy_ne (by omega)]
      · rw [cpy_ne (by omega), hI_cpy, if_pos ⟨rfl, by omega, by omega⟩, Nat.sub_zero, Nat.zero_add, cpy_ne (by omega), cpy_ne (by omega)]
      · rw [hI_cpy, if_pos ⟨rfl, by omega, by omega⟩, Nat.sub_zero, Nat.zero_add, cpy_ne (by omega), cpy_ne (by omega), cpy_ne (by omega)]
    · rw [cpy_ne (by omega), cpy_ne (by omega), cpy_ne (by omega), cpy_ne (by omega)]
  | succ n ih =>
    intro i h hin hz
    have hi : i < 16 := by omega
    obtain ⟨h1, a1, a2, a3⟩ := m44 (L := L) d (h := h) (kk16 (i := i) hi).2.1 (kk16 (i := i) hi).2.2.1 (show 63 + i ≠ 17 + i by omega) (by omega) (by omega) (by omega) (hz i hi).1 (hz i hi).2
    obtain ⟨h', e1, e2, e3, e4⟩ := ih (i + 1) h1 (by omega) (fun j hj => by rw [a3 _ (by omega)]; exact hz j hj)
    refine ⟨h', ?_, fun j hj f hf => ?_, fun c hc k hk => ?_, fun a ha => ?_⟩
    · rw [e145_45a, if_neg (by rw [nI_leN (by omega) (by omega)]; omega), inB_nI (by omega), asr_d hi, asr_d hi, ix_nI (by omega), okA_of (kk16 (i := i) hi).2.1 (by omega), asr_true, a1, cV_s, nI_plus]
      exact e1
    · rw [e2 j hj f hf]
      by_cases z : i + 1 ≤ j
      · rw [if_pos z, if_pos (by omega), a3 _ (by omega)]
      · rw [if_neg z]
        by_cases y : i = j
        · subst y
          rw [if_pos (Nat.le_refl _), a2 f hf]
        · rw [if_neg (by omega), a3 _ (by omega)]
    · rw [e3 c hc k hk, a3 _ (by omega)]
    · rw [e4 a ha, a3 _ (by omega)]
theorem m145a (d : Nat) {h : PH} (hb : ∀ b, b < 8 → nrZ (hI h 57 b) = hI h 57 b) (hz : ∀ j, j < 16 → nrZ (hI h (63 + j) 1) = hI h (63 + j) 1 ∧ nrZ (hI h (63 + j) 4) = hI h (63 + j) 4) : ∃ h', exec (g2 L) (d + 2) 145 [.ref 8, .ref 54] h = some (none, h') ∧ (∀ f, f < 4 → hI h' 8 f = hI h 54 f) ∧ hI h' 9 0 = hI h 55 0 ∧ (∀ b, b < 8 → hI h' 10 b = hI h 56 b ∧ hI h' 11 b = hI h 57 b) ∧ (∀ j, j < 16 → ∀ f, f < 8 → hI h' (17 + j) f = hI h (63 + j) f) ∧ (∀ c, c < 4 → ∀ k, k < 30 → hI h' (13 + c) k = hI h (59 + c) k) ∧ (∀ a, ¬ (8 ≤ a ∧ a ≤ 32) → hI h' a = hI h a) := by
  have fr : ∀ a, a ≠ 8 → hI (wI (wI (wI (wI h 8 0 (hI h 54 0)) 8 1 (hI h 54 1)) 8 2 (hI h 54 2)) 8 3 (hI h 54 3)) a = hI h a := fun a ha => by rw [wI_ne ha, wI_ne ha, wI_ne ha, wI_ne ha]
  obtain ⟨h1, a1, a2, a3, a4⟩ := m43c (L := L) d (h := wI (wI (wI (wI h 8 0 (hI h 54 0)) 8 1 (hI h 54 1)) 8 2 (hI h 54 2)) 8 3 (hI h 54 3)) (fun b hb' => by rw [fr _ (by omega)]; exact hb b hb')
  obtain ⟨h', e1, e2, e3, e4⟩ := m145a_loop (L := L) (d := d) 16 0 h1 rfl (fun j hj => by rw [a4 _ (by omega) (by omega) (by omega), fr _ (by omega)]; exact hz j hj)
  refine ⟨h', ?_, fun f hf => ?_, ?_, fun b hb' => ?_, fun j hj f hf => ?_, fun c hc k hk => ?_, fun a ha => ?_⟩
  · rw [x145a, a1, cV_s]
    exact e1
  · rw [e4 _ (by omega), a4 _ (by omega) (by omega) (by omega), hI_wI, hI_wI, hI_wI, hI_wI]
    have c : f = 0 ∨ f = 1 ∨ f = 2 ∨ f = 3 := by omega
    rcases c with rfl | rfl | rfl | rfl <;> simp
  · rw [e4 _ (by omega), a2, fr _ (by omega)]
  · rw [e4 _ (by omega), e4 _ (by omega), (a3 b hb').1, (a3 b hb').2, fr _ (by omega), fr _ (by omega)]
    exact ⟨rfl, rfl⟩
  · rw [e2 j hj f hf, if_pos (Nat.zero_le _), a4 _ (by omega) (by omega) (by omega), fr _ (by omega)]
  · rw [e3 c hc k hk, a4 _ (by omega) (by omega) (by omega), fr _ (by omega)]
  · rw [e4 a (by omega), a4 _ (by omega) (by omega) (by omega), fr _ (by omega)]
theorem m144a_loop {d : Nat} : ∀ (n i : Nat) (h : PH), i + n = 16 → (∀ b, b < 8 → nrZ (hI h 57 b) = hI h 57 b) → (∀ j, j < 16 → nrZ (hI h (63 + j) 1) = hI h (63 + j) 1 ∧ nrZ (hI h (63 + j) 4) = hI h (63 + j) 4) → (∀ j, j < 16 → nrZ (hI h (79 + j) 1) = hI h (79 + j) 1 ∧ nrZ (hI h (79 + j) 4) = hI h (79 + j) 4) → ∃ h', runL (g2 L) (d + 2) 1 false none kc_144 61 [.ref 3, .ref 49, .int (nI i)] [] h = some (none, h') ∧ (∀ j, j < 16 → ∀ f, f < 8 → hI h' (33 + j) f = (if i ≤ j then hI h (79 + j) f else hI h (33 + j) f)) ∧ ((∀ f, f < 4 → hI h' 8 f = hI h 54 f) ∧ hI h' 9 0 = hI h 55 0 ∧ (∀ b, b < 8 → hI h' 10 b = hI h 56 b ∧ hI h' 11 b = hI h 57 b) ∧ (∀ j, j < 16 → ∀ f, f < 8 → hI h' (17 + j) f = hI h (63 + j) f) ∧ (∀ c, c < 4 → ∀ k, k < 30 → hI h' (13 + c) k = hI h (59 + c) k)) ∧ (∀ a, ¬ (8 ≤ a ∧ a ≤ 48) → hI h' a = hI h a) := by
  intro n
  induction n with
  | zero =>
    intro i h hi hb hw hz
    obtain ⟨h', a1, a2, a3, a4, a5, a6, a7⟩ := m145a (L := L) d hb hw
    refine ⟨h', ?_, fun j hj f hf => ?_, ⟨a2, a3, a4, a5, a6⟩, fun a ha => a7 a (by omega)⟩
    · rw [e144_61a, if_pos (by rw [nI_leN (by omega) (by omega)]; omega), a1, cV_s]
    · rw [if_neg (by omega), a7 _ (by omega)]
  | succ n ih =>
    intro i h hin hb hw hz
    have hi : i < 16 := by omega
    obtain ⟨h1, a1, a2, a3⟩ := m44 (L := L) (d + 1) (h := h) (kk16 (i := i) hi).1 (kk16 (i := i) hi).2.2.2.1 (show 79 + i ≠ 33 + i by omega) (by omega) (by omega) (by omega) (hz i hi).1 (hz i hi).2
    obtain ⟨h', e1, e2, ⟨b1, b2, b3, b4, b5⟩, e4⟩ := ih (i + 1) h1 (by omega) (fun b hb' => by rw [a3 _ (by omega)]; exact hb b hb') (fun j hj => by rw [a3 _ (by omega)]; exact hw j hj) (fun j hj => by rw [a3 _ (by omega)]; exact hz j hj)
    refine ⟨h', ?_, fun j hj f hf => ?_, ⟨fun f hf => ?_, ?_, fun b hb' => ?_, fun j hj f hf => ?_, fun c hc k hk => ?_⟩, fun a ha => ?_⟩
    · rw [e144_61a, if_neg (by rw [nI_leN (by omega) (by omega)]; omega), inB_nI (by omega), asr_d hi, asr_d hi, ix_nI (by omega), okA_of (kk16 (i := i) hi).1 (by omega), asr_true, a1, cV_s, nI_plus]
      exact e1
    · rw [e2 j hj f hf]
      by_cases z : i + 1 ≤ j
      · rw [if_pos z, if_pos (by omega), a3 _ (by omega)]
      · rw [if_neg z]
        by_cases y : i = j
        · subst y
          rw [if_pos (Nat.le_refl _), a2 f hf]
        · rw [if_neg (by omega), a3 _ (by omega)]
    · rw [b1 f hf, a3 _ (by omega)]
    · rw [b2, a3 _ (by omega)]
    · rw [(b3 b hb').1, (b3 b hb').2, a3 _ (by omega), a3 _ (by omega)]
      exact ⟨rfl, rfl⟩
    · rw [b4 j hj f hf, a3 _ (by omega)]
    · rw [b5 c hc k hk, a3 _ (by omega)]
    · rw [e4 a ha, a3 _ (by omega)]
/-- the hall is copied -/
theorem m144a (d : Nat) {h : PH} {A : Nat → Nat} {n : Nat} (hR : RC h 46 A) (hV : V n A) (hW : ∀ b, b < 8 → A (308 + b) ≤ 1) : ∃ h', exec (g2 L) (d + 3) 144 [.ref 3, .ref 49] h = some (none, h') ∧ RC h' 0 A ∧ (∀ a, ¬ (3 ≤ a ∧ a ≤ 48) → hI h' a = hI h a) := by
  obtain ⟨v0, v2, v5, v6, ⟨w1, w3, w4, wb9, wk, wl9⟩, v7, v8, v9, v10, v11, vb, vl, vr, vs, z1, z2⟩ := id hV
  have dz : ∀ j, j < 16 → A (40 + 8 * j + 1) ≤ 1 ∧ A (40 + 8 * j + 7) ≤ 1 := by
    intro j hj
    by_cases q : j < A 4
    · exact ⟨(wl9 j q).2.1, (wl9 j q).2.2.2.2.2.2.2⟩
    · rw [z1 j (by omega) hj 1 (by omega), z1 j (by omega) hj 7 (by omega)]
      exact ⟨by omega, by omega⟩
  have wz : ∀ j, j < 16 → A (170 + 8 * j + 1) ≤ 1 ∧ A (170 + 8 * j + 7) ≤ 1 := by
    intro j hj
    by_cases q : j < A 10
    · exact ⟨(vl j q).2.1, (vl j q).2.2.2.2.2.2.2⟩
    · rw [z2 j (by omega) hj 1 (by omega), z2 j (by omega) hj 7 (by omega)]
      exact ⟨by omega, by omega⟩
  have s3 : ∀ f, f < 6 → hI (wI (wI (wI (wI (wI (wI h 3 0 (hI h 49 0)) 3 1 (hI h 49 1)) 3 2 (hI h 49 2)) 3 3 (hI h 49 3)) 3 4 (hI h 49 4)) 3 5 (hI h 49 5)) 3 f = hI h 49 f := by
    intro f hf
    rw [hI_wI, hI_wI, hI_wI, hI_wI, hI_wI, hI_wI]
    have c : f = 0 ∨ f = 1 ∨ f = 2 ∨ f = 3 ∨ f = 4 ∨ f = 5 := by omega
    rcases c with rfl | rfl | rfl | rfl | rfl | rfl <;> simp
  have fr : ∀ a, a ≠ 3 → hI (wI (wI (wI (wI (wI (wI h 3 0 (hI h 49 0)) 3 1 (hI h 49 1)) 3 2 (hI h 49 2)) 3 3 (hI h 49 3)) 3 4 (hI h 49 4)) 3 5 (hI h 49 5)) a = hI h a := fun a ha => by rw [wI_ne ha, wI_ne ha, wI_ne ha, wI_ne ha, wI_ne ha, wI_ne ha]
  generalize hg : wI (wI (wI (wI (wI (wI h 3 0 (hI h 49 0)) 3 1 (hI h 49 1)) 3 2 (hI h 49 2)) 3 3 (hI h 49 3)) 3 4 (hI h 49 4)) 3 5 (hI h 49 5) = g at s3 fr
  have sp : hI h 49 2 = nI (A 2) := hR.sp
  have zb : ∀ b, b < 8 → nrZ (hI h 52 b) = hI h 52 b := fun b hb => by
    have e : hI h 52 b = nI (A (28 + b)) := by have := hR.br hb; rwa [show 46 + 6 = 52 from rfl] at this
    rw [e]
    exact nrZ_le (wk b hb)
  have zwb : ∀ b, b < 8 → nrZ (hI h 57 b) = hI h 57 b := fun b hb => by
    have e : hI h 57 b = nI (A (308 + b)) := by have := hR.wk hb; rwa [show 46 + 11 = 57 from rfl] at this
    rw [e]
    exact nrZ_le (hW b hb)
  have dl : ∀ j, j < 16 → ∀ c, c < 8 → hI h (79 + j) (prm c) = nI (A (40 + 8 * j + c)) := fun j hj c hc => by
    have := hR.dl hj hc
    rwa [show 46 + (33 + j) = 79 + j by omega] at this
  have wl : ∀ j, j < 16 → ∀ c, c < 8 → hI h (63 + j) (prm c) = nI (A (170 + 8 * j + c)) := fun j hj c hc => by
    have := hR.wl hj hc
    rwa [show 46 + (17 + j) = 63 + j by omega] at this
  have zd : ∀ j, j < 16 → nrZ (hI h (79 + j) 1) = hI h (79 + j) 1 ∧ nrZ (hI h (79 + j) 4) = hI h (79 + j) 4 := fun j hj => by
    have e1 : hI h (79 + j) 1 = nI (A (40 + 8 * j + 1)) := dl j hj 1 (by omega)
    have e4 : hI h (79 + j) 4 = nI (A (40 + 8 * j + 7)) := dl j hj 7 (by omega)
    rw [e1, e4]
    exact ⟨nrZ_le (dz j hj).1, nrZ_le (dz j hj).2⟩
  have zw : ∀ j, j < 16 → nrZ (hI h (63 + j) 1) = hI h (63 + j) 1 ∧ nrZ (hI h (63 + j) 4) = hI h (63 + j) 4 := fun j hj => by
    have e1 : hI h (63 + j) 1 = nI (A (170 + 8 * j + 1)) := wl j hj 1 (by omega)
    have e4 : hI h (63 + j) 4 = nI (A (170 + 8 * j + 7)) := wl j hj 7 (by omega)
    rw [e1, e4]
    exact ⟨nrZ_le (wz j hj).1, nrZ_le (wz j hj).2⟩
  obtain ⟨h1, a1, a2, a3, a4⟩ := m43a (L := L) (d + 1) (h := g) (fun b hb => by rw [fr _ (by omega)]; exact zb b hb)
  have f1 : ∀ a, ¬ (3 ≤ a ∧ a ≤ 6) → hI h1 a = hI h a := fun a ha => by rw [a4 a (by omega) (by omega) (by omega), fr a (by omega)]
  obtain ⟨h', e1, e2, ⟨b1, b2, b3, b4, b5⟩, e4⟩ := m144a_loop (L := L) (d := d) 16 0 h1 rfl (fun b hb => by rw [f1 _ (by omega)]; exact zwb b hb) (fun j hj => by rw [f1 _ (by omega)]; exact zw j hj) (fun j hj => by rw [f1 _ (by omega)]; exact zd j hj)
  refine ⟨h', ?_, ?_, fun a ha => by rw [e4 a (by omega), f1 a (by omega)]⟩
  · rw [x144a, sp, asr_d (nrZ_le v2), ← sp, hg, a1, cV_s]
    exact e1
  · have k3 : ∀ f, f < 6 → hI h' 3 f = hI h 49 f := fun f hf => by rw [e4 _ (by omega), a4 _ (by omega) (by omega) (by omega), s3 f hf]
    have k4 : hI h' 4 0 = hI h 50 0 := by rw [e4 _ (by omega), a2, fr _ (by omega)]
    have k8 : ∀ f, f < 4 → hI h' 8 f = hI h 54 f := fun f hf => by rw [b1 f hf, f1 _ (by omega)]
    have k9 : hI h' 9 0 = hI h 55 0 := by rw [b2, f1 _ (by omega)]
    refine RC.mk (fun k hk => ?_) (fun b hb => ?_) (fun i hi c hc => ?_) (fun i hi c hc => ?_) (fun b hb => ?_) (fun i hi c hc => ?_)
    · have c : k = 0 ∨ k = 1 ∨ k = 2 ∨ k = 3 ∨ k = 4 ∨ k = 5 ∨ k = 6 ∨ k = 7 ∨ k = 8 ∨ k = 9 ∨ k = 10 ∨ k = 11 := by omega
      rcases c with rfl | rfl | rfl | rfl | rfl | rfl | rfl | rfl | rfl | rfl | rfl | rfl
      · exact (k3 0 (by omega)).trans (hR 0 rfl)
      · exact (k3 1 (by omega)).trans (hR 1 rfl)
      · exact (k3 2 (by omega)).trans (hR 2 rfl)
      · exact k4.trans (hR 3 rfl)
      · exact (k3 3 (by omega)).trans (hR 4 rfl)
      · exact (k3 4 (by omega)).trans (hR 5 rfl)
      · exact (k3 5 (by omega)).trans (hR 6 rfl)
      · exact (k8 3 (by omega)).trans (hR 7 rfl)
      · exact (k8 0 (by omega)).trans (hR 8 rfl)
      · exact (k8 1 (by omega)).trans (hR 9 rfl)
      · exact (k8 2 (by omega)).trans (hR 10 rfl)
      · exact k9.trans (hR 11 rfl)
    · have q1 : hI h' 5 b = hI h 51 b := by rw [e4 _ (by omega), (a3 b hb).1, fr _ (by omega)]
      have q2 : hI h' 6 b = hI h 52 b := by rw [e4 _ (by omega), (a3 b hb).2, fr _ (by omega)]
      exact ⟨q1.trans (hR.fr hb), q2.trans (hR.br hb)⟩
    · rw [show 0 + (33 + i) = 33 + i by omega, e2 i hi _ (prm_lt hc), if_pos (Nat.zero_le _), f1 _ (by omega)]
      exact dl i hi c hc
    · rw [show 0 + (17 + i) = 17 + i by omega, b4 i hi _ (prm_lt hc), f1 _ (by omega)]
      exact wl i hi c hc
    · have q1 : hI h' 10 b = hI h 56 b := by rw [(b3 b hb).1, f1 _ (by omega)]
      have q2 : hI h' 11 b = hI h 57 b := by rw [(b3 b hb).2, f1 _ (by omega)]
      exact ⟨q1.trans (hR.wf hb), q2.trans (hR.wk hb)⟩
    · rw [show 0 + (13 + c) = 13 + c by omega, b5 c hc i hi, f1 _ (by omega)]
      have := hR.re hi hc
      rwa [show 46 + (13 + c) = 59 + c by omega] at this
theorem m145b_loop {d : Nat} : ∀ (n i : Nat) (h : PH), i + n = 16 → (∀ j, j < 16 → nrZ (hI h (17 + j) 1) = hI h (17 + j) 1 ∧ nrZ (hI h (17 + j) 4) = hI h (17 + j) 4) → ∃ h', runL (g2 L) (d + 1) 3 false none kc_145 45 [.ref 54, .ref 8, .int (nI i)] [] h = some (none, h') ∧ (∀ j, j < 16 → ∀ f, f < 8 → hI h' (63 + j) f = (if i ≤ j then hI h (17 + j) f else hI h (63 + j) f)) ∧ (∀ c, c < 4 → ∀ k, k < 30 → hI h' (59 + c) k = hI h (13 + c) k) ∧ (∀ a, ¬ (59 ≤ a ∧ a ≤ 78) → hI h' a = hI h a) := by
  intro n
  induction n with
  | zero =>
    intro i h hi hz
    refine ⟨_, by rw [e145_45b, if_pos (by rw [nI_leN (by omega) (by omega)]; omega)], fun j hj f hf => ?_, fun c hc k hk => ?_, fun a ha => ?_⟩
    · rw [if_neg (by omega), cpy_ne (by omega), cpy_ne (by omega), cpy_ne (by omega), cpy_ne (by omega)]
    · have cc : c = 0 ∨ c = 1 ∨ c = 2 ∨ c = 3 := by omega
      rcases cc with rfl | rfl | rfl | rfl
      · rw [cpy_ne (by omega), cpy_ne (by omega), cpy_ne (by omega), hI_cpy, if_pos ⟨rfl, by omega, by omega⟩, Nat.sub_zero, Nat.zero_add]
      · rw [cpy_ne (by omega), cpy_ne (by omega), hI_cpy, if_pos ⟨rfl, by omega, by omega⟩, Nat.sub_zero, Nat.zero_add, cpy_ne (by omega)]
      · rw [cpy_ne (by omega), hI_cpy, if_pos ⟨rfl, by omega, by omega⟩, Nat.sub_zero, Nat.zero_add, cpy_ne (by omega), cpy_ne (by omega)]
      · rw [hI_cpy, if_pos ⟨rfl, by omega, by omega⟩, Nat.sub_zero, Nat.zero_add, cpy_ne (by omega), cpy_ne (by omega), cpy_ne (by omega)]
    · rw [cpy_ne (by omega), cpy_ne (by omega), cpy_ne (by omega), cpy_ne (by omega)]
  | succ n ih =>
    intro i h hin hz
    have hi : i < 16 := by omega
    obtain ⟨h1, a1, a2, a3⟩ := m44 (L := L) d (h := h) (kk16 (i := i) hi).2.2.1 (kk16 (i := i) hi).2.1 (show 17 + i ≠ 63 + i by omega) (by omega) (by omega) (by omega) (hz i hi).1 (hz i hi).2
    obtain ⟨h', e1, e2, e3, e4⟩ := ih (i + 1) h1 (by omega) (fun j hj => by rw [a3 _ (by omega)]; exact hz j hj)
    refine ⟨h', ?_, fun j hj f hf => ?_, fun c hc k hk => ?_, fun a ha => ?_⟩
    · rw [e145_45b, if_neg (by rw [nI_leN (by omega) (by omega)]; omega), inB_nI (by omega), asr_d hi, asr_d hi, ix_nI (by omega), okA_of (kk16 (i := i) hi).2.2.1 (by omega), asr_true, a1, cV_s, nI_plus]
      exact e1
    · rw [e2 j hj f hf]
      by_cases z : i + 1 ≤ j
      · rw [if_pos z, if_pos (by omega), a3 _ (by omega)]
      · rw [if_neg z]
        by_cases y : i = j
        · subst y
          rw [if_pos (Nat.le_refl _), a2 f hf]
        · rw [if_neg (by omega), a3 _ (by omega)]
    · rw [e3 c hc k hk, a3 _ (by omega)]
    · rw [e4 a ha, a3 _ (by omega)]
theorem m145b (d : Nat) {h : PH} (hb : ∀ b, b < 8 → nrZ (hI h 11 b) = hI h 11 b) (hz : ∀ j, j < 16 → nrZ (hI h (17 + j) 1) = hI h (17 + j) 1 ∧ nrZ (hI h (17 + j) 4) = hI h (17 + j) 4) : ∃ h', exec (g2 L) (d + 2) 145 [.ref 54, .ref 8] h = some (none, h') ∧ (∀ f, f < 4 → hI h' 54 f = hI h 8 f) ∧ hI h' 55 0 = hI h 9 0 ∧ (∀ b, b < 8 → hI h' 56 b = hI h 10 b ∧ hI h' 57 b = hI h 11 b) ∧ (∀ j, j < 16 → ∀ f, f < 8 → hI h' (63 + j) f = hI h (17 + j) f) ∧ (∀ c, c < 4 → ∀ k, k < 30 → hI h' (59 + c) k = hI h (13 + c) k) ∧ (∀ a, ¬ (54 ≤ a ∧ a ≤ 78) → hI h' a = hI h a) := by
  have fr : ∀ a, a ≠ 54 → hI (wI (wI (wI (wI h 54 0 (hI h 8 0)) 54 1 (hI h 8 1)) 54 2 (hI h 8 2)) 54 3 (hI h 8 3)) a = hI h a := fun a ha => by rw [wI_ne ha, wI_ne ha, wI_ne ha, wI_ne ha]
  obtain ⟨h1, a1, a2, a3, a4⟩ := m43d (L := L) d (h := wI (wI (wI (wI h 54 0 (hI h 8 0)) 54 1 (hI h 8 1)) 54 2 (hI h 8 2)) 54 3 (hI h 8 3)) (fun b hb' => by rw [fr _ (by omega)]; exact hb b hb')
  obtain ⟨h', e1, e2, e3, e4⟩ := m145b_loop (L := L) (d := d) 16 0 h1 rfl (fun j hj => by rw [a4 _ (by omega) (by omega) (by omega), fr _ (by omega)]; exact hz j hj)
  refine ⟨h', ?_, fun f hf => ?_, ?_, fun b hb' => ?_, fun j hj f hf => ?_, fun c hc k hk => ?_, fun a ha => ?_⟩
  · rw [x145b, a1, cV_s]
    exact e1
  · rw [e4 _ (by omega), a4 _ (by omega) (by omega) (by omega), hI_wI, hI_wI, hI_wI, hI_wI]
    have c : f = 0 ∨ f = 1 ∨ f = 2 ∨ f = 3 := by omega
    rcases c with rfl | rfl | rfl | rfl <;> simp
  · rw [e4 _ (by omega), a2, fr _ (by omega)]
  · rw [e4 _ (by omega), e4 _ (by omega), (a3 b hb').1, (a3 b hb').2, fr _ (by omega), fr _ (by omega)]
    exact ⟨rfl, rfl⟩
  · rw [e2 j hj f hf, if_pos (Nat.zero_le _), a4 _ (by omega) (by omega) (by omega), fr _ (by omega)]
  · rw [e3 c hc k hk, a4 _ (by omega) (by omega) (by omega), fr _ (by omega)]
  · rw [e4 a (by omega), a4 _ (by omega) (by omega) (by omega), fr _ (by omega)]
theorem m144b_loop {d : Nat} : ∀ (n i : Nat) (h : PH), i + n = 16 → (∀ b, b < 8 → nrZ (hI h 11 b) = hI h 11 b) → (∀ j, j < 16 → nrZ (hI h (17 + j) 1) = hI h (17 + j) 1 ∧ nrZ (hI h (17 + j) 4) = hI h (17 + j) 4) → (∀ j, j < 16 → nrZ (hI h (33 + j) 1) = hI h (33 + j) 1 ∧ nrZ (hI h (33 + j) 4) = hI h (33 + j) 4) → ∃ h', runL (g2 L) (d + 2) 1 false none kc_144 61 [.ref 49, .ref 3, .int (nI i)] [] h = some (none, h') ∧ (∀ j, j < 16 → ∀ f, f < 8 → hI h' (79 + j) f = (if i ≤ j then hI h (33 + j) f else hI h (79 + j) f)) ∧ ((∀ f, f < 4 → hI h' 54 f = hI h 8 f) ∧ hI h' 55 0 = hI h 9 0 ∧ (∀ b, b < 8 → hI h' 56 b = hI h 10 b ∧ hI h' 57 b = hI h 11 b) ∧ (∀ j, j < 16 → ∀ f, f < 8 → hI h' (63 + j) f = hI h (17 + j) f) ∧ (∀ c, c < 4 → ∀ k, k < 30 → hI h' (59 + c) k = hI h (13 + c) k)) ∧ (∀ a, ¬ (54 ≤ a ∧ a ≤ 94) → hI h' a = hI h a) := by
  intro n
  induction n with
  | zero =>
    intro i h hi hb hw hz
    obtain ⟨h', a1, a2, a3, a4, a5, a6, a7⟩ := m145b (L := L) d hb hw
    refine ⟨h', ?_, fun j hj f hf => ?_, ⟨a2, a3, a4, a5, a6⟩, fun a ha => a7 a (by omega)⟩
    · rw [e144_61b, if_pos (by rw [nI_leN (by omega) (by omega)]; omega), a1, cV_s]
    · rw [if_neg (by omega), a7 _ (by omega)]
  | succ n ih =>
    intro i h hin hb hw hz
    have hi : i < 16 := by omega
    obtain ⟨h1, a1, a2, a3⟩ := m44 (L := L) (d + 1) (h := h) (kk16 (i := i) hi).2.2.2.1 (kk16 (i := i) hi).1 (show 33 + i ≠ 79 + i by omega) (by omega) (by omega) (by omega) (hz i hi).1 (hz i hi).2
    obtain ⟨h', e1, e2, ⟨b1, b2, b3, b4, b5⟩, e4⟩ := ih (i + 1) h1 (by omega) (fun b hb' => by rw [a3 _ (by omega)]; exact hb b hb') (fun j hj => by rw [a3 _ (by omega)]; exact hw j hj) (fun j hj => by rw [a3 _ (by omega)]; exact hz j hj)
    refine ⟨h', ?_, fun j hj f hf => ?_, ⟨fun f hf => ?_, ?_, fun b hb' => ?_, fun j hj f hf => ?_, fun c hc k hk => ?_⟩, fun a ha => ?_⟩
    · rw [e144_61b, if_neg (by rw [nI_leN (by omega) (by omega)]; omega), inB_nI (by omega), asr_d hi, asr_d hi, ix_nI (by omega), okA_of (kk16 (i := i) hi).2.2.2.1 (by omega), asr_true, a1, cV_s, nI_plus]
      exact e1
    · rw [e2 j hj f hf]
      by_cases z : i + 1 ≤ j
      · rw [if_pos z, if_pos (by omega), a3 _ (by omega)]
      · rw [if_neg z]
        by_cases y : i = j
        · subst y
          rw [if_pos (Nat.le_refl _), a2 f hf]
        · rw [if_neg (by omega), a3 _ (by omega)]
    · rw [b1 f hf, a3 _ (by omega)]
    · rw [b2, a3 _ (by omega)]
    · rw [(b3 b hb').1, (b3 b hb').2, a3 _ (by omega), a3 _ (by omega)]
      exact ⟨rfl, rfl⟩
    · rw [b4 j hj f hf, a3 _ (by omega)]
    · rw [b5 c hc k hk, a3 _ (by omega)]
    · rw [e4 a ha, a3 _ (by omega)]
/-- the hall is copied -/
theorem m144b (d : Nat) {h : PH} {A : Nat → Nat} {n : Nat} (hR : RC h 0 A) (hV : V n A) (hW : ∀ b, b < 8 → A (308 + b) ≤ 1) : ∃ h', exec (g2 L) (d + 3) 144 [.ref 49, .ref 3] h = some (none, h') ∧ RC h' 46 A ∧ (∀ a, ¬ (49 ≤ a ∧ a ≤ 94) → hI h' a = hI h a) := by
  obtain ⟨v0, v2, v5, v6, ⟨w1, w3, w4, wb9, wk, wl9⟩, v7, v8, v9, v10, v11, vb, vl, vr, vs, z1, z2⟩ := id hV
  have dz : ∀ j, j < 16 → A (40 + 8 * j + 1) ≤ 1 ∧ A (40 + 8 * j + 7) ≤ 1 := by
    intro j hj
    by_cases q : j < A 4
    · exact ⟨(wl9 j q).2.1, (wl9 j q).2.2.2.2.2.2.2⟩
    · rw [z1 j (by omega) hj 1 (by omega), z1 j (by omega) hj 7 (by omega)]
      exact ⟨by omega, by omega⟩
  have wz : ∀ j, j < 16 → A (170 + 8 * j + 1) ≤ 1 ∧ A (170 + 8 * j + 7) ≤ 1 := by
    intro j hj
    by_cases q : j < A 10
    · exact ⟨(vl j q).2.1, (vl j q).2.2.2.2.2.2.2⟩
    · rw [z2 j (by omega) hj 1 (by omega), z2 j (by omega) hj 7 (by omega)]
      exact ⟨by omega, by omega⟩
  have s3 : ∀ f, f < 6 → hI (wI (wI (wI (wI (wI (wI h 49 0 (hI h 3 0)) 49 1 (hI h 3 1)) 49 2 (hI h 3 2)) 49 3 (hI h 3 3)) 49 4 (hI h 3 4)) 49 5 (hI h 3 5)) 49 f = hI h 3 f := by
    intro f hf
    rw [hI_wI, hI_wI, hI_wI, hI_wI, hI_wI, hI_wI]
    have c : f = 0 ∨ f = 1 ∨ f = 2 ∨ f = 3 ∨ f = 4 ∨ f = 5 := by omega
    rcases c with rfl | rfl | rfl | rfl | rfl | rfl <;> simp
  have fr : ∀ a, a ≠ 49 → hI (wI (wI (wI (wI (wI (wI h 49 0 (hI h 3 0)) 49 1 (hI h 3 1)) 49 2 (hI h 3 2)) 49 3 (hI h 3 3)) 49 4 (hI h 3 4)) 49 5 (hI h 3 5)) a = hI h a := fun a ha => by rw [wI_ne ha, wI_ne ha, wI_ne ha, wI_ne ha, wI_ne ha, wI_ne ha]
  generalize hg : wI (wI (wI (wI (wI (wI h 49 0 (hI h 3 0)) 49 1 (hI h 3 1)) 49 2 (hI h 3 2)) 49 3 (hI h 3 3)) 49 4 (hI h 3 4)) 49 5 (hI h 3 5) = g at s3 fr
  have sp : hI h 3 2 = nI (A 2) := hR.sp
  have zb : ∀ b, b < 8 → nrZ (hI h 6 b) = hI h 6 b := fun b hb => by
    have e : hI h 6 b = nI (A (28 + b)) := by have := hR.br hb; rwa [show 0 + 6 = 6 from rfl] at this
    rw [e]
    exact nrZ_le (wk b hb)
  have zwb : ∀ b, b < 8 → nrZ (hI h 11 b) = hI h 11 b := fun b hb => by
    have e : hI h 11 b = nI (A (308 + b)) := by have := hR.wk hb; rwa [show 0 + 11 = 11 from rfl] at this
    rw [e]
    exact nrZ_le (hW b hb)
  have dl : ∀ j, j < 16 → ∀ c, c < 8 → hI h (33 + j) (prm c) = nI (A (40 + 8 * j + c)) := fun j hj c hc => by
    have := hR.dl hj hc
    rwa [show 0 + (33 + j) = 33 + j by omega] at this
  have wl : ∀ j, j < 16 → ∀ c, c < 8 → hI h (17 + j) (prm c) = nI (A (170 + 8 * j + c)) := fun j hj c hc => by
    have := hR.wl hj hc
    rwa [show 0 + (17 + j) = 17 + j by omega] at this
  have zd : ∀ j, j < 16 → nrZ (hI h (33 + j) 1) = hI h (33 + j) 1 ∧ nrZ (hI h (33 + j) 4) = hI h (33 + j) 4 := fun j hj => by
    have e1 : hI h (33 + j) 1 = nI (A (40 + 8 * j + 1)) := dl j hj 1 (by omega)
    have e4 : hI h (33 + j) 4 = nI (A (40 + 8 * j + 7)) := dl j hj 7 (by omega)
    rw [e1, e4]
    exact ⟨nrZ_le (dz j hj).1, nrZ_le (dz j hj).2⟩
  have zw : ∀ j, j < 16 → nrZ (hI h (17 + j) 1) = hI h (17 + j) 1 ∧ nrZ (hI h (17 + j) 4) = hI h (17 + j) 4 := fun j hj => by
    have e1 : hI h (17 + j) 1 = nI (A (170 + 8 * j + 1)) := wl j hj 1 (by omega)
    have e4 : hI h (17 + j) 4 = nI (A (170 + 8 * j + 7)) := wl j hj 7 (by omega)
    rw [e1, e4]
    exact ⟨nrZ_le (wz j hj).1, nrZ_le (wz j hj).2⟩
  obtain ⟨h1, a1, a2, a3, a4⟩ := m43b (L := L) (d + 1) (h := g) (fun b hb => by rw [fr _ (by omega)]; exact zb b hb)
  have f1 : ∀ a, ¬ (49 ≤ a ∧ a ≤ 52) → hI h1 a = hI h a := fun a ha => by rw [a4 a (by omega) (by omega) (by omega), fr a (by omega)]
  obtain ⟨h', e1, e2, ⟨b1, b2, b3, b4, b5⟩, e4⟩ := m144b_loop (L := L) (d := d) 16 0 h1 rfl (fun b hb => by rw [f1 _ (by omega)]; exact zwb b hb) (fun j hj => by rw [f1 _ (by omega)]; exact zw j hj) (fun j hj => by rw [f1 _ (by omega)]; exact zd j hj)
  refine ⟨h', ?_, ?_, fun a ha => by rw [e4 a (by omega), f1 a (by omega)]⟩
  · rw [x144b, sp, asr_d (nrZ_le v2), ← sp, hg, a1, cV_s]
    exact e1
  · have k3 : ∀ f, f < 6 → hI h' 49 f = hI h 3 f := fun f hf => by rw [e4 _ (by omega), a4 _ (by omega) (by omega) (by omega), s3 f hf]
    have k4 : hI h' 50 0 = hI h 4 0 := by rw [e4 _ (by omega), a2, fr _ (by omega)]
    have k8 : ∀ f, f < 4 → hI h' 54 f = hI h 8 f := fun f hf => by rw [b1 f hf, f1 _ (by omega)]
    have k9 : hI h' 55 0 = hI h 9 0 := by rw [b2, f1 _ (by omega)]
    refine RC.mk (fun k hk => ?_) (fun b hb => ?_) (fun i hi c hc => ?_) (fun i hi c hc => ?_) (fun b hb => ?_) (fun i hi c hc => ?_)
    · have c : k = 0 ∨ k = 1 ∨ k = 2 ∨ k = 3 ∨ k = 4 ∨ k = 5 ∨ k = 6 ∨ k = 7 ∨ k = 8 ∨ k = 9 ∨ k = 10 ∨ k = 11 := by omega
      rcases c with rfl | rfl | rfl | rfl | rfl | rfl | rfl | rfl | rfl | rfl | rfl | rfl
      · exact (k3 0 (by omega)).trans (hR 0 rfl)
      · exact (k3 1 (by omega)).trans (hR 1 rfl)
      · exact (k3 2 (by omega)).trans (hR 2 rfl)
      · exact k4.trans (hR 3 rfl)
      · exact (k3 3 (by omega)).trans (hR 4 rfl)
      · exact (k3 4 (by omega)).trans (hR 5 rfl)
      · exact (k3 5 (by omega)).trans (hR 6 rfl)
      · exact (k8 3 (by omega)).trans (hR 7 rfl)
      · exact (k8 0 (by omega)).trans (hR 8 rfl)
      · exact (k8 1 (by omega)).trans (hR 9 rfl)
      · exact (k8 2 (by omega)).trans (hR 10 rfl)
      · exact k9.trans (hR 11 rfl)
    · have q1 : hI h' 51 b = hI h 5 b := by rw [e4 _ (by omega), (a3 b hb).1, fr _ (by omega)]
      have q2 : hI h' 52 b = hI h 6 b := by rw [e4 _ (by omega), (a3 b hb).2, fr _ (by omega)]
      exact ⟨q1.trans (hR.fr hb), q2.trans (hR.br hb)⟩
    · rw [show 46 + (33 + i) = 79 + i by omega, e2 i hi _ (prm_lt hc), if_pos (Nat.zero_le _), f1 _ (by omega)]
      exact dl i hi c hc
    · rw [show 46 + (17 + i) = 63 + i by omega, b4 i hi _ (prm_lt hc), f1 _ (by omega)]
      exact wl i hi c hc
    · have q1 : hI h' 56 b = hI h 10 b := by rw [(b3 b hb).1, f1 _ (by omega)]
      have q2 : hI h' 57 b = hI h 11 b := by rw [(b3 b hb).2, f1 _ (by omega)]
      exact ⟨q1.trans (hR.wf hb), q2.trans (hR.wk hb)⟩
    · rw [show 46 + (13 + c) = 59 + c by omega, b5 c hc i hi, f1 _ (by omega)]
      have := hR.re hi hc
      rwa [show 0 + (13 + c) = 13 + c by omega] at this
end Copy
