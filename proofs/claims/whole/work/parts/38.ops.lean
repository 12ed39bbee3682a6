-- PART: image, back, watch.
def WX (A : Nat → Nat) : Prop := ∀ b, b < 8 → A (308 + b) ≤ 1
def Ks (h h' : PH) : Prop := (∀ a, (a = 1 ∨ (205 ≤ a ∧ a ≤ 252) ∨ (256 ≤ a ∧ a ≤ 261)) → hI h' a = hI h a) ∧ (∀ k, k < 11 → hI h' 253 k = hI h 253 k)
def Ar (h : PH) : Prop := ∀ r, r < 31 → hI h (97 + r) 0 = m2
theorem Kp.ks {h h' : PH} (hK : Kp h h') : Ks h h' := ⟨fun a ha => hK.1 a (by omega), hK.2⟩
theorem TF.ks {h h' : PH} (hT : TF h) (hK : Ks h h') : TF h' := by
  obtain ⟨⟨t, t1, t2, t3, t4⟩, hf⟩ := hT
  refine ⟨⟨t, t1, ?_, ?_, fun i hi => ?_⟩, ?_⟩
  · rw [hK.1 205 (by omega)]
    exact t2
  · rw [hK.2 3 (by omega)]
    exact t3
  · rw [hK.1 206 (by omega), hK.1 256 (by omega)]
    exact t4 i hi
  · rw [hK.1 207 (by omega), hK.2 4 (by omega), hK.2 5 (by omega)]
    exact hf
section Ops8
variable {L n : Nat} {h : PH} {A B : Nat → Nat}
theorem m150_1 {d : Nat} : ∀ (n i : Nat) (h : PH), i + n = 440 → ∃ h', runL (g2 L) d 11 false none kc_150 2 [.ref 253, .int (nI 1), .int (nI i)] [] h = some (none, h') ∧ (∀ k, k < 440 → hI h' 255 k = if i ≤ k then hI h 254 k else hI h 255 k) ∧ (∀ a, a ≠ 255 → hI h' a = hI h a) := by
  intro n
  induction n with
  | zero =>
    intro i h hi
    refine ⟨h, ?_, fun k hk => ?_, fun a _ => rfl⟩
    · rw [e150_2, if_pos (by rw [nI_leN (by omega) (by omega)]; omega)]
    · rw [if_neg (by omega)]
  | succ n ih =>
    intro i h hi
    obtain ⟨h', e1, e2, e3⟩ := ih (i + 1) (wI h 255 i (hI h 254 i)) (by omega)
    refine ⟨h', ?_, fun k hk => ?_, fun a p => ?_⟩
    · rw [e150_2, if_neg (by rw [nI_leN (by omega) (by omega)]; omega), if_neg (by decide), inB_nI (by omega), asr_d (by omega), asr_d (by omega), ix_nI (by omega), nI_plus]
      exact e1
    · rw [e2 k hk]
      by_cases z : i + 1 ≤ k
      · rw [if_pos z, if_pos (by omega), wI_ne (by omega)]
      · rw [if_neg z, hI_wI]
        by_cases y : k = i
        · subst y
          rw [if_pos ⟨rfl, rfl⟩, if_pos (Nat.le_refl _)]
        · rw [if_neg (fun q => y q.2), if_neg (by omega)]
    · rw [e3 a p, wI_ne p]
theorem m150_0 {d : Nat} : ∀ (n i : Nat) (h : PH), i + n = 440 → ∃ h', runL (g2 L) d 11 false none kc_150 2 [.ref 253, .int (nI 0), .int (nI i)] [] h = some (none, h') ∧ (∀ k, k < 440 → hI h' 254 k = if i ≤ k then hI h 255 k else hI h 254 k) ∧ (∀ a, a ≠ 254 → hI h' a = hI h a) := by
  intro n
  induction n with
  | zero =>
    intro i h hi
    refine ⟨h, ?_, fun k hk => ?_, fun a _ => rfl⟩
    · rw [e150_2, if_pos (by rw [nI_leN (by omega) (by omega)]; omega)]
    · rw [if_neg (by omega)]
  | succ n ih =>
    intro i h hi
    obtain ⟨h', e1, e2, e3⟩ := ih (i + 1) (wI h 254 i (hI h 255 i)) (by omega)
    refine ⟨h', ?_, fun k hk => ?_, fun a p => ?_⟩
    · rw [e150_2, if_neg (by rw [nI_leN (by omega) (by omega)]; omega), if_pos rfl, inB_nI (by omega), asr_d (by omega), asr_d (by omega), ix_nI (by omega), nI_plus]
      exact e1
    · rw [e2 k hk]
      by_cases z : i + 1 ≤ k
      · rw [if_pos z, if_pos (by omega), wI_ne (by omega)]
      · rw [if_neg z, hI_wI]
        by_cases y : k = i
        · subst y
          rw [if_pos ⟨rfl, rfl⟩, if_pos (Nat.le_refl _)]
        · rw [if_neg (fun q => y q.2), if_neg (by omega)]
    · rw [e3 a p, wI_ne p]
theorem op_image (hC : Core n h A B) (hW : WX A) : ∃ r h1 h2, exec (g2 L) 100 143 [.ref 2] h = some (some (.int r), h1) ∧ exec (g2 L) 100 255 [.ref 253] h1 = some (some (.int r), h2) ∧ Core (n + 1) h2 A A ∧ Kp h h2 ∧ Pk h h2 := by
  obtain ⟨c1, c2, c3, c4, c5, c6, c7⟩ := id hC
  obtain ⟨h1, a1, a2, a3⟩ := m144b (L := L) 96 c1 c5 hW
  obtain ⟨h2, b1, b2, b3⟩ := m150_1 (L := L) (d := 98) 440 0 h1 rfl
  have f0 := c1.mn
  rw [Nat.zero_add] at f0
  refine ⟨nI (A 0), h1, h2, ?_, ?_, ⟨?_, ?_, ?_, ?_, c5.mono (Nat.le_succ n), c5.mono (Nat.le_succ n), Nat.le_refl _⟩, ⟨fun a ha => ?_, fun k hk => ?_⟩, fun a q1 q2 => ?_⟩
  · rw [x143, a1, cV_s, a3 3 (by omega), f0]
  · rw [x255, x150, b1, cV_s, b3 254 (by omega), a3 254 (by omega), c3.at (k := 0) (by omega) (by omega)]
  · exact c1.congr (fun a p q => by rw [b3 a (by omega), a3 a (by omega)])
  · exact a2.congr (fun a p q => b3 a (by omega))
  · exact c3.congr (by rw [b3 254 (by omega), a3 254 (by omega)])
  · intro k hk
    rw [b2 k hk, if_pos (Nat.zero_le _), a3 254 (by omega)]
    exact c3 k hk
  · rw [b3 a (by omega), a3 a (by omega)]
  · rw [b3 253 (by omega), a3 253 (by omega)]
  · rw [b3 a (by omega), a3 a (by omega)]
theorem op_back (hC : Core n h A B) (hW : WX B) : ∃ r h1 h2, exec (g2 L) 100 146 [.ref 2] h = some (some (.int r), h1) ∧ exec (g2 L) 100 256 [.ref 253] h1 = some (some (.int r), h2) ∧ Core (n + 1) h2 B B ∧ Ks h h2 ∧ Pr h2 ∧ Ar h2 := by
  obtain ⟨c1, c2, c3, c4, c5, c6, c7⟩ := id hC
  obtain ⟨h1, a1, a2, a3⟩ := m144a (L := L) 96 c2 c6 hW
  obtain ⟨h2, b1, b2, b3⟩ := m150_0 (L := L) (d := 98) 440 0 (fgt 97 128 (fgt 165 181 h1)) rfl
  have f0 := a2.mn
  rw [Nat.zero_add] at f0
  refine ⟨nI (B 0), fgt 97 128 (fgt 165 181 h1), h2, ?_, ?_, ⟨?_, ?_, ?_, ?_, c6.mono (Nat.le_succ n), c6.mono (Nat.le_succ n), Nat.le_refl _⟩, ⟨fun a ha => ?_, fun k hk => ?_⟩, fun i hi => ?_, fun r hr => ?_⟩
  · rw [x146, a1, cV_s, m8, cV_s, m6, cV_s, fgt_ne (by omega), fgt_ne (by omega), f0]
  · rw [x256, x150, b1, cV_s, b2 0 (by omega), if_pos (Nat.zero_le _), fgt_ne (by omega), fgt_ne (by omega), a3 255 (by omega), c4.at (k := 0) (by omega) (by omega)]
  · exact a2.congr (fun a p q => by rw [b3 a (by omega), fgt_ne (by omega), fgt_ne (by omega)])
  · exact c2.congr (fun a p q => by rw [b3 a (by omega), fgt_ne (by omega), fgt_ne (by omega), a3 a (by omega)])
  · intro k hk
    rw [b2 k hk, if_pos (Nat.zero_le _), fgt_ne (by omega), fgt_ne (by omega), a3 255 (by omega)]
    exact c4 k hk
  · exact c4.congr (by rw [b3 255 (by omega), fgt_ne (by omega), fgt_ne (by omega), a3 255 (by omega)])
  · rw [b3 a (by omega), fgt_ne (by omega), fgt_ne (by omega), a3 a (by omega)]
  · rw [b3 253 (by omega), fgt_ne (by omega), fgt_ne (by omega), a3 253 (by omega)]
  · rw [b3 _ (by omega), fgt_ne (by omega), fgt_at (by omega)]
  · rw [b3 _ (by omega), fgt_at (by omega)]
/-- the row when a watch is told -/
def rwW (A : Nat → Nat) (x : Nat) : Nat → Nat := fun j => if j = 7 then 0 else if j = 8 then x else if j = 9 then A 1 else if j = 10 then A 4 else if j = 11 then A 3 else if 170 ≤ j ∧ j < 298 then A (j - 130) else if 300 ≤ j ∧ j < 316 then A (j - 280) else A j
theorem rwW_ne {x j : Nat} (h1 : ¬ (7 ≤ j ∧ j ≤ 11)) (h2 : ¬ (170 ≤ j ∧ j < 298)) (h3 : ¬ (300 ≤ j ∧ j < 316)) : rwW A x j = A j := by
  unfold rwW
  rw [if_neg (show ¬ j = 7 by omega), if_neg (show ¬ j = 8 by omega), if_neg (show ¬ j = 9 by omega), if_neg (show ¬ j = 10 by omega), if_neg (show ¬ j = 11 by omega), if_neg h2, if_neg h3]
theorem rwW_d {x j : Nat} (h : j < 128) : rwW A x (170 + j) = A (40 + j) := by
  unfold rwW
  rw [if_neg (show ¬ 170 + j = 7 by omega), if_neg (show ¬ 170 + j = 8 by omega), if_neg (show ¬ 170 + j = 9 by omega), if_neg (show ¬ 170 + j = 10 by omega), if_neg (show ¬ 170 + j = 11 by omega), if_pos (by omega), show 170 + j - 130 = 40 + j by omega]
theorem rwW_b {x j : Nat} (h : j < 16) : rwW A x (300 + j) = A (20 + j) := by
  unfold rwW
  rw [if_neg (show ¬ 300 + j = 7 by omega), if_neg (show ¬ 300 + j = 8 by omega), if_neg (show ¬ 300 + j = 9 by omega), if_neg (show ¬ 300 + j = 10 by omega), if_neg (show ¬ 300 + j = 11 by omega), if_neg (show ¬ (170 ≤ 300 + j ∧ 300 + j < 298) by omega), if_pos (by omega), show 300 + j - 280 = 20 + j by omega]
theorem rwW_V (hV : V n A) {x : Nat} (hx : x ≤ 10) : V n (rwW A x) := by
  obtain ⟨a0, a2, a5, a6, ⟨v1, v3, v4, vb9, vk, vl9⟩, a7, a8, a9, a10, a11, vb, vl, vr, vs, z1, z2⟩ := hV
  have e : ∀ j, ¬ (7 ≤ j ∧ j ≤ 11) → ¬ (170 ≤ j ∧ j < 298) → ¬ (300 ≤ j ∧ j < 316) → rwW A x j = A j := fun j => rwW_ne
  have e0 := e 0 (by omega) (by omega) (by omega)
  have e1 := e 1 (by omega) (by omega) (by omega)
  have e2 := e 2 (by omega) (by omega) (by omega)
  have e3 := e 3 (by omega) (by omega) (by omega)
  have e4 := e 4 (by omega) (by omega) (by omega)
  have e5 := e 5 (by omega) (by omega) (by omega)
  have e6 := e 6 (by omega) (by omega) (by omega)
  have e7 : rwW A x 7 = 0 := rfl
  have e8 : rwW A x 8 = x := rfl
  have e9 : rwW A x 9 = A 1 := rfl
  have e10 : rwW A x 10 = A 4 := rfl
  have e11 : rwW A x 11 = A 3 := rfl
  refine ⟨by rw [e0]; exact a0, by rw [e2]; exact a2, by rw [e5]; exact a5, by rw [e5, e6]; exact a6, ⟨by rw [e1]; exact v1, by rw [e3]; exact v3, by rw [e4]; exact v4, ?_, ?_, ?_⟩, by rw [e7]; omega, by rw [e8]; exact hx, by rw [e9]; exact v1, by rw [e10, e4]; exact Nat.le_refl _, by rw [e11]; exact v3, fun b hb => ?_, ?_, fun k hk => ?_, fun k hk => ?_, fun d hd hd2 c hc => ?_, fun d hd hd2 c hc => ?_⟩
  · intro b' hb'
    rw [e3] at hb'
    rw [e _ (by omega) (by omega) (by omega)]
    exact vb9 b' hb'
  · intro b' hb'
    rw [e _ (by omega) (by omega) (by omega)]
    exact vk b' hb'
  · rw [e4, e3]
    exact vl9.congr (fun j h1 h2 => e j (by omega) (by omega) (by omega))
  · rw [e11] at hb
    rw [rwW_b (by omega)]
    exact vb9 b hb
  · rw [e10, e11]
    intro i hi
    have q : ∀ c, c < 8 → rwW A x (170 + 8 * i + c) = A (40 + 8 * i + c) := fun c hc => by rw [show 170 + 8 * i + c = 170 + (8 * i + c) by omega, rwW_d (by omega), show 40 + (8 * i + c) = 40 + 8 * i + c by omega]
    have q0 : rwW A x (170 + 8 * i) = A (40 + 8 * i) := q 0 (by omega)
    rw [q0, q 1 (by omega), q 2 (by omega), q 3 (by omega), q 4 (by omega), q 5 (by omega), q 6 (by omega), q 7 (by omega)]
    exact vl9 i hi
  · rw [e7] at hk
    omega
  · rw [e7] at hk
    omega
  · rw [e4] at hd
    rw [e _ (by omega) (by omega) (by omega)]
    exact z1 d hd hd2 c hc
  · rw [e10] at hd
    rw [show 170 + 8 * d + c = 170 + (8 * d + c) by omega, rwW_d (by omega), show 40 + (8 * d + c) = 40 + 8 * d + c by omega]
    exact z1 d hd hd2 c hc
theorem m42_loop {d : Nat} {m : Nat} (hm : m ≤ 16) (x1 : Int32) : ∀ (n i : Nat) (h : PH), i + n = m → hI h 3 3 = nI m → (∀ j, j < 16 → nrZ (hI h (33 + j) 1) = hI h (33 + j) 1 ∧ nrZ (hI h (33 + j) 4) = hI h (33 + j) 4) → ∃ h', runL (g2 L) (d + 1) 1 false none kc_42 54 [.ref 3, .int x1, .int (nI i)] [] h = some (none, h') ∧ (∀ j, j < 16 → ∀ f, f < 8 → hI h' (17 + j) f = if i ≤ j ∧ j < m then hI h (33 + j) f else hI h (17 + j) f) ∧ (∀ a, ¬ (17 ≤ a ∧ a ≤ 32) → hI h' a = hI h a) := by
  intro n
  induction n with
  | zero =>
    intro i h hi h3 hz
    refine ⟨h, ?_, fun j hj f hf => ?_, fun a _ => rfl⟩
    · rw [e42_54, h3, if_pos (by rw [nI_leN (by omega) (by omega)]; omega)]
    · rw [if_neg (by omega)]
  | succ n ih =>
    intro i h hin h3 hz
    have hi : i < 16 := by omega
    obtain ⟨h1, a1, a2, a3⟩ := m44 (L := L) d (h := h) (kk16 (i := i) hi).2.1 (kk16 (i := i) hi).1 (show 33 + i ≠ 17 + i by omega) (by omega) (by omega) (by omega) (hz i hi).1 (hz i hi).2
    obtain ⟨h', e1, e2, e3⟩ := ih (i + 1) h1 (by omega) (by rw [a3 _ (by omega)]; exact h3) (fun j hj => by rw [a3 _ (by omega)]; exact hz j hj)
    refine ⟨h', ?_, fun j hj f hf => ?_, fun a p => ?_⟩
    · rw [e42_54, h3, if_neg (by rw [nI_leN (by omega) (by omega)]; omega), inB_nI (by omega), asr_d hi, asr_d hi, ix_nI (by omega), okA_of (kk16 (i := i) hi).2.1 (by omega), asr_true, a1, cV_s, nI_plus]
      exact e1
    · rw [e2 j hj f hf]
      by_cases z : i + 1 ≤ j ∧ j < m
      · rw [if_pos z, if_pos (by omega), a3 _ (by omega)]
      · rw [if_neg z]
        by_cases y : i = j
        · subst y
          rw [if_pos (by omega), a2 f hf]
        · rw [if_neg (by omega), a3 _ (by omega)]
    · rw [e3 a p, a3 _ (by omega)]
theorem m177_b {d : Nat} (x1 : Int32) : ∀ (n i : Nat) (h : PH), i + n = 8 → ∃ h', runL (g2 L) d 11 false (some .int) kc_177 103 [.ref 253, .int x1, .int (nI i)] [] h = some (some (.int (hI h 254 4)), h') ∧ (∀ k, hI h' 254 k = if (300 + i ≤ k ∧ k < 308) ∨ (308 + i ≤ k ∧ k < 316) then hI h 254 (k - 280) else hI h 254 k) ∧ (∀ a, a ≠ 254 → hI h' a = hI h a) := by
  intro n
  induction n with
  | zero =>
    intro i h hi
    refine ⟨h, ?_, fun k => ?_, fun a _ => rfl⟩
    · rw [e177_103, if_pos (by rw [nI_leN (by omega) (by omega)]; omega)]
    · rw [if_neg (by omega)]
  | succ n ih =>
    intro i h hi
    have e28 : hI (wI h 254 (300 + i) (hI h 254 (20 + i))) 254 (28 + i) = hI h 254 (28 + i) := by rw [hI_wI, if_neg (by omega)]
    obtain ⟨h', e1, e2, e3⟩ := ih (i + 1) (wI (wI h 254 (300 + i) (hI h 254 (20 + i))) 254 (308 + i) (hI h 254 (28 + i))) (by omega)
    refine ⟨h', ?_, fun k => ?_, fun a p => ?_⟩
    · rw [e177_103, if_neg (by rw [nI_leN (by omega) (by omega)]; omega), nI_plus, nI_plus, nI_plus, nI_plus, nI_plus, inB_nI (by omega), asr_d (by omega), inB_nI (by omega), asr_d (by omega), inB_nI (by omega), asr_d (by omega), inB_nI (by omega), asr_d (by omega), ix_nI (by omega), ix_nI (by omega), ix_nI (by omega), ix_nI (by omega), e28, e1, hI_wI, if_neg (by omega), hI_wI, if_neg (by omega)]
    · rw [e2 k]
      by_cases z : (300 + (i + 1) ≤ k ∧ k < 308) ∨ (308 + (i + 1) ≤ k ∧ k < 316)
      · rw [if_pos z, if_pos (by omega), hI_wI, if_neg (by omega), hI_wI, if_neg (by omega)]
      · rw [if_neg z, hI_wI, hI_wI]
        by_cases y : k = 308 + i
        · rw [if_pos ⟨rfl, y⟩, if_pos (by omega), y, show 308 + i - 280 = 28 + i by omega]
        · rw [if_neg (fun q => y q.2)]
          by_cases y2 : k = 300 + i
          · rw [if_pos ⟨rfl, y2⟩, if_pos (by omega), y2, show 300 + i - 280 = 20 + i by omega]
          · rw [if_neg (fun q => y2 q.2), if_neg (by omega)]
    · rw [e3 a p, wI_ne p, wI_ne p]
theorem m177_a {d : Nat} (x1 : Int32) : ∀ (n i : Nat) (h : PH), i + n = 128 → ∃ h', runL (g2 L) d 11 false (some .int) kc_177 69 [.ref 253, .int x1, .int (nI i)] [] h = some (some (.int (hI h 254 4)), h') ∧ (∀ k, hI h' 254 k = if 170 + i ≤ k ∧ k < 298 then hI h 254 (k - 130) else if 300 ≤ k ∧ k < 316 then hI h 254 (k - 280) else hI h 254 k) ∧ (∀ a, a ≠ 254 → hI h' a = hI h a) := by
  intro n
  induction n with
  | zero =>
    intro i h hi
    obtain ⟨h', e1, e2, e3⟩ := m177_b (L := L) (d := d) x1 8 0 h rfl
    refine ⟨h', ?_, fun k => ?_, e3⟩
    · rw [e177_69, if_pos (by rw [nI_leN (by omega) (by omega)]; omega)]
      exact e1
    · rw [e2 k, if_neg (show ¬ (170 + i ≤ k ∧ k < 298) by omega)]
      by_cases z : 300 ≤ k ∧ k < 316
      · rw [if_pos z, if_pos (by omega)]
      · rw [if_neg z, if_neg (by omega)]
  | succ n ih =>
    intro i h hi
    obtain ⟨h', e1, e2, e3⟩ := ih (i + 1) (wI h 254 (170 + i) (hI h 254 (40 + i))) (by omega)
    refine ⟨h', ?_, fun k => ?_, fun a p => ?_⟩
    · rw [e177_69, if_neg (by rw [nI_leN (by omega) (by omega)]; omega), nI_plus, nI_plus, nI_plus, inB_nI (by omega), asr_d (by omega), inB_nI (by omega), asr_d (by omega), ix_nI (by omega), ix_nI (by omega), e1, hI_wI, if_neg (by omega)]
    · rw [e2 k]
      by_cases z : 170 + (i + 1) ≤ k ∧ k < 298
      · rw [if_pos z, if_pos (by omega), hI_wI, if_neg (by omega)]
      · rw [if_neg z]
        by_cases y : k = 170 + i
        · rw [if_neg (by omega), hI_wI, if_pos ⟨rfl, y⟩, if_pos (by omega), y, show 170 + i - 130 = 40 + i by omega]
        · rw [if_neg (show ¬ (170 + i ≤ k ∧ k < 298) by omega)]
          by_cases y2 : 300 ≤ k ∧ k < 316
          · rw [if_pos y2, if_pos y2, hI_wI, if_neg (by omega)]
          · rw [if_neg y2, if_neg y2, hI_wI, if_neg (fun q => y q.2)]
    · rw [e3 a p, wI_ne p]
theorem op_watch (hC : Core n h A B) (hW : WX A) (x : Int32) : ∃ r h1 h2 A', exec (g2 L) 100 41 [.ref 2, .int x] h = some (some (.int r), h1) ∧ exec (g2 L) 100 177 [.ref 253, .int x] h1 = some (some (.int r), h2) ∧ Core (n + 1) h2 A' B ∧ Ks h h2 ∧ Pk h h2 ∧ PKe A A' ∧ A' 5 = A 5 ∧ WX A' ∧ ((Kp h h2 ∧ A' = A) ∨ Ar h2) := by
  obtain ⟨c1, c2, c3, c4, c5, c6, c7⟩ := id hC
  obtain ⟨a0, a2, a5, a6, ⟨v1, v3, v4, vb9, vk, vl9⟩, a7, a8, a9, a10, a11, vb, vl, vr, vs, z1, z2⟩ := id c5
  by_cases hx : nI 1 ≤ x ∧ x ≤ nI 10
  · obtain ⟨v, hv, rfl⟩ : ∃ v, v ≤ 10 ∧ x = nI v := in_le (by omega) ⟨Int32.le_trans (by decide) hx.1, hx.2⟩
    have f1 := c1.sg
    have f4 := c1.nd
    have f3 := c1.nb
    rw [Nat.zero_add] at f1 f4 f3
    have dl : ∀ j, j < 16 → ∀ c, c < 8 → hI h (33 + j) (prm c) = nI (A (40 + 8 * j + c)) := fun j hj c hc => by
      have := c1.dl hj hc
      rwa [Nat.zero_add] at this
    have wl : ∀ j, j < 16 → ∀ c, c < 8 → hI h (17 + j) (prm c) = nI (A (170 + 8 * j + c)) := fun j hj c hc => by
      have := c1.wl hj hc
      rwa [Nat.zero_add] at this
    have dz : ∀ j, j < 16 → A (40 + 8 * j + 1) ≤ 1 ∧ A (40 + 8 * j + 7) ≤ 1 := by
      intro j hj
      by_cases q : j < A 4
      · exact ⟨(vl9 j q).2.1, (vl9 j q).2.2.2.2.2.2.2⟩
      · rw [z1 j (by omega) hj 1 (by omega), z1 j (by omega) hj 7 (by omega)]
        exact ⟨by omega, by omega⟩
    have zd : ∀ j, j < 16 → nrZ (hI h (33 + j) 1) = hI h (33 + j) 1 ∧ nrZ (hI h (33 + j) 4) = hI h (33 + j) 4 := fun j hj => by
      have e1 : hI h (33 + j) 1 = nI (A (40 + 8 * j + 1)) := dl j hj 1 (by omega)
      have e4 : hI h (33 + j) 4 = nI (A (40 + 8 * j + 7)) := dl j hj 7 (by omega)
      rw [e1, e4]
      exact ⟨nrZ_le (dz j hj).1, nrZ_le (dz j hj).2⟩
    have fr : ∀ a, a ≠ 8 → hI (wI (wI (wI (wI h 8 0 (nI v)) 8 1 (nI (A 1))) 8 2 (nI (A 4))) 8 3 (nI 0)) a = hI h a := fun a ha => by rw [wI_ne ha, wI_ne ha, wI_ne ha, wI_ne ha]
    have s8 : hI (wI (wI (wI (wI h 8 0 (nI v)) 8 1 (nI (A 1))) 8 2 (nI (A 4))) 8 3 (nI 0)) 8 0 = nI v ∧ hI (wI (wI (wI (wI h 8 0 (nI v)) 8 1 (nI (A 1))) 8 2 (nI (A 4))) 8 3 (nI 0)) 8 1 = nI (A 1) ∧ hI (wI (wI (wI (wI h 8 0 (nI v)) 8 1 (nI (A 1))) 8 2 (nI (A 4))) 8 3 (nI 0)) 8 2 = nI (A 4) ∧ hI (wI (wI (wI (wI h 8 0 (nI v)) 8 1 (nI (A 1))) 8 2 (nI (A 4))) 8 3 (nI 0)) 8 3 = nI 0 := by
      rw [hI_wI, hI_wI, hI_wI, hI_wI, hI_wI, hI_wI, hI_wI, hI_wI, hI_wI, hI_wI, hI_wI, hI_wI, hI_wI, hI_wI, hI_wI, hI_wI]
      simp
    generalize hg : wI (wI (wI (wI h 8 0 (nI v)) 8 1 (nI (A 1))) 8 2 (nI (A 4))) 8 3 (nI 0) = g at fr s8
    obtain ⟨h1, b1, b2, b3, b4⟩ := m43e (L := L) 97 (h := g) (fun b hb => by
      have e : hI h 6 b = nI (A (28 + b)) := by have := c1.br hb; rwa [Nat.zero_add] at this
      rw [fr _ (by omega), e]
      exact nrZ_le (vk b hb))
    have k1 : ∀ a, ¬ (8 ≤ a ∧ a ≤ 11) → hI h1 a = hI h a := fun a ha => by rw [b4 a (by omega) (by omega) (by omega), fr a (by omega)]
    obtain ⟨h2, d1, d2, d3⟩ := m42_loop (L := L) (d := 97) v4 (nI v) (A 4) 0 h1 (by omega) (by rw [k1 _ (by omega)]; exact f4) (fun j hj => by rw [k1 _ (by omega)]; exact zd j hj)
    have k2 : ∀ a, ¬ (8 ≤ a ∧ a ≤ 32) → hI h2 a = hI h a := fun a ha => by rw [d3 a (by omega), k1 a (by omega)]
    have t8 : ∀ f, hI h2 8 f = hI g 8 f := fun f => by rw [d3 8 (by omega), b4 8 (by omega) (by omega) (by omega)]
    have R2 : RC h2 0 (rwW A v) := by
      have cg : ∀ k, k < 7 → hI h2 (0 + (loc k).1) (loc k).2 = sv k (rwW A v k) := by
        intro k hk
        rw [rwW_ne (by omega) (by omega) (by omega)]
        have q : (loc k).1 ≤ 4 := by
          have key : ∀ k, k < 7 → (loc k).1 ≤ 4 := by decide
          exact key k hk
        have qd : dom k = true := by
          have key : ∀ k, k < 7 → dom k = true := by decide
          exact key k hk
        rw [k2 _ (by omega)]
        exact c1 k qd
      refine RC.mk (fun k hk => ?_) (fun b hb => ?_) (fun i hi c hc => ?_) (fun i hi c hc => ?_) (fun b hb => ?_) (fun i hi c hc => ?_)
      · by_cases z : k < 7
        · exact cg k z
        · have c : k = 7 ∨ k = 8 ∨ k = 9 ∨ k = 10 ∨ k = 11 := by omega
          rcases c with rfl | rfl | rfl | rfl | rfl
          · exact (t8 3).trans s8.2.2.2
          · exact (t8 0).trans s8.1
          · exact (t8 1).trans s8.2.1
          · exact (t8 2).trans s8.2.2.1
          · show hI h2 9 0 = nI (A 3)
            rw [d3 9 (by omega), b2, fr _ (by omega)]
            exact f3
      · rw [rwW_ne (by omega) (by omega) (by omega), rwW_ne (by omega) (by omega) (by omega), k2 _ (by omega), k2 _ (by omega)]
        exact ⟨c1.fr hb, c1.br hb⟩
      · rw [rwW_ne (by omega) (by omega) (by omega), k2 _ (by omega), Nat.zero_add]
        exact dl i hi c hc
      · rw [show 170 + 8 * i + c = 170 + (8 * i + c) by omega, rwW_d (by omega), Nat.zero_add, d2 i hi _ (prm_lt hc), show 40 + (8 * i + c) = 40 + 8 * i + c by omega]
        by_cases z : i < A 4
        · rw [if_pos ⟨Nat.zero_le _, z⟩, k1 _ (by omega)]
          exact dl i hi c hc
        · rw [if_neg (fun q => z q.2), k1 _ (by omega), wl i hi c hc, z1 i (by omega) hi c hc, z2 i (by omega) hi c hc]
      · rw [rwW_b (by omega), show 308 + b = 300 + (8 + b) by omega, rwW_b (by omega), d3 _ (by omega), d3 _ (by omega)]
        rw [show 20 + (8 + b) = 28 + b by omega]
        have e1 := (b3 b hb).1
        have e2 := (b3 b hb).2
        rw [fr _ (by omega)] at e1 e2
        have q1 := c1.fr hb
        have q2 := c1.br hb
        rw [Nat.zero_add] at q1 q2 ⊢
        exact ⟨e1.trans q1, e2.trans q2⟩
      · rw [rwW_ne (by omega) (by omega) (by omega), d3 _ (by omega), k1 _ (by omega)]
        exact c1.re hi hc
    have kf : ∀ a, ¬ (97 ≤ a ∧ a < 128) → hI (fgt 97 128 h2) a = hI h2 a := fun a ha => fgt_ne ha
    have c3' : RM (fgt 97 128 h2) 254 A := c3.congr (by rw [kf _ (by omega), k2 _ (by omega)])
    have p1 := RM.set c3' (k := 8) (n := v) (v := nI v) rfl
    have p2 := RM.set p1 (k := 9) (n := A 1) (v := nI (A 1)) rfl
    have p3 := RM.set p2 (k := 10) (n := A 4) (v := nI (A 4)) rfl
    have p4 := RM.set p3 (k := 11) (n := A 3) (v := nI (A 3)) rfl
    have p5 := RM.set p4 (k := 7) (n := 0) (v := nI 0) rfl
    obtain ⟨h3, w1, w2, w3⟩ := m177_a (L := L) (d := 99) (nI v) 128 0 (wI (wI (wI (wI (wI (fgt 97 128 h2) 254 8 (nI v)) 254 9 (nI (A 1))) 254 10 (nI (A 4))) 254 11 (nI (A 3))) 254 7 (nI 0)) rfl
    have R3 : RM h3 254 (rwW A v) := by
      intro k hk
      rw [w2 k]
      by_cases y1 : 170 ≤ k ∧ k < 298
      · rw [if_pos (by omega), p5 (k - 130) (by omega), ud_ne _ (by omega), ud_ne _ (by omega), ud_ne _ (by omega), ud_ne _ (by omega), ud_ne _ (by omega)]
        obtain ⟨j, rfl⟩ : ∃ j, k = 170 + j := ⟨k - 170, by omega⟩
        rw [rwW_d (by omega), show 170 + j - 130 = 40 + j by omega, sv_p (by omega), sv_p (by omega)]
      · rw [if_neg (by omega)]
        by_cases y2 : 300 ≤ k ∧ k < 316
        · rw [if_pos y2, p5 (k - 280) (by omega), ud_ne _ (by omega), ud_ne _ (by omega), ud_ne _ (by omega), ud_ne _ (by omega), ud_ne _ (by omega)]
          obtain ⟨j, rfl⟩ : ∃ j, k = 300 + j := ⟨k - 300, by omega⟩
          rw [rwW_b (by omega), show 300 + j - 280 = 20 + j by omega]
          by_cases y3 : j < 8
          · rw [sv_m (by omega), sv_m (by omega)]
          · rw [sv_p (by omega), sv_p (by omega)]
        · rw [if_neg y2, p5 k hk]
          congr 1
          by_cases y3 : 7 ≤ k ∧ k ≤ 11
          · have c : k = 7 ∨ k = 8 ∨ k = 9 ∨ k = 10 ∨ k = 11 := by omega
            rcases c with rfl | rfl | rfl | rfl | rfl <;> rfl
          · rw [rwW_ne y3 y1 y2, ud_ne _ (by omega), ud_ne _ (by omega), ud_ne _ (by omega), ud_ne _ (by omega), ud_ne _ (by omega)]
    have kk : ∀ a, ¬ (8 ≤ a ∧ a ≤ 32) → ¬ (97 ≤ a ∧ a < 128) → a ≠ 254 → hI h3 a = hI h a := fun a q1 q2 q3 => by rw [w3 a q3, wI_ne q3, wI_ne q3, wI_ne q3, wI_ne q3, wI_ne q3, kf a q2, k2 a q1]
    have e5 : rwW A v 5 = A 5 := rwW_ne (by omega) (by omega) (by omega)
    refine ⟨nI (A 4), fgt 97 128 h2, h3, rwW A v, ?_, ?_, ⟨?_, ?_, R3, ?_, (rwW_V c5 hv).mono (Nat.le_succ n), c6.mono (Nat.le_succ n), by rw [e5]; exact c7⟩, ⟨fun a ha => kk a (by omega) (by omega) (by omega), fun k hk => by rw [kk 253 (by omega) (by omega) (by omega)]⟩, fun a q1 q2 => kk a (by omega) (by omega) (by omega), ?_, e5, ?_, Or.inr (fun r hr => ?_)⟩
    · have t10 : hI h2 8 2 = nI (A 4) := (t8 2).trans s8.2.2.1
      rw [x41, m18, cI_s, if_pos (bI_nz.mpr hx), x42, f1, f4]
      rw [hg, b1, cV_s, d1, cV_s, m6, cV_s, kf _ (by omega), t10]
    · have u : ∀ k, k < 440 → hI (fgt 97 128 h2) 254 k = sv k (A k) := c3'
      have u1 : hI (wI (fgt 97 128 h2) 254 8 (nI v)) 254 1 = nI (A 1) := by rw [hI_wI, if_neg (by omega)]; exact u 1 (by omega)
      have u4 : hI (wI (wI (fgt 97 128 h2) 254 8 (nI v)) 254 9 (nI (A 1))) 254 4 = nI (A 4) := by rw [hI_wI, if_neg (by omega), hI_wI, if_neg (by omega)]; exact u 4 (by omega)
      have u3 : hI (wI (wI (wI (fgt 97 128 h2) 254 8 (nI v)) 254 9 (nI (A 1))) 254 10 (nI (A 4))) 254 3 = nI (A 3) := by rw [hI_wI, if_neg (by omega), hI_wI, if_neg (by omega), hI_wI, if_neg (by omega)]; exact u 3 (by omega)
      have r4 := p5 4 (by omega)
      rw [x177, m153, cI_s, if_pos (bI_nz.mpr hx)]
      first
        | rw [show hI (fgt 97 128 h2) 254 1 = nI (A 1) from u 1 (by omega), show hI (fgt 97 128 h2) 254 4 = nI (A 4) from u 4 (by omega), show hI (fgt 97 128 h2) 254 3 = nI (A 3) from u 3 (by omega)]
        | rw [u1, u4, u3]
      rw [w1, r4, ud_ne _ (by omega), ud_ne _ (by omega), ud_ne _ (by omega), ud_ne _ (by omega), ud_ne _ (by omega)]
      rfl
    · exact R2.congr (fun a p q => by rw [w3 a (by omega), wI_ne (by omega), wI_ne (by omega), wI_ne (by omega), wI_ne (by omega), wI_ne (by omega), kf a (by omega)])
    · exact c2.congr (fun a p q => kk a (by omega) (by omega) (by omega))
    · exact c4.congr (kk 255 (by omega) (by omega) (by omega))
    · refine ⟨rwW_ne (by omega) (by omega) (by omega), rwW_ne (by omega) (by omega) (by omega), rwW_ne (by omega) (by omega) (by omega), ?_, fun b hb => ⟨rwW_ne (by omega) (by omega) (by omega), rwW_ne (by omega) (by omega) (by omega)⟩, fun i hi c hc => rwW_ne (by omega) (by omega) (by omega)⟩
      rw [rwW_ne (by omega) (by omega) (by omega)]
      exact Nat.le_refl _
    · intro b hb
      rw [show 308 + b = 300 + (8 + b) by omega, rwW_b (by omega), show 20 + (8 + b) = 28 + b by omega]
      exact vk b hb
    · rw [w3 _ (by omega), wI_ne (by omega), wI_ne (by omega), wI_ne (by omega), wI_ne (by omega), wI_ne (by omega), fgt_at (by omega)]
  · refine ⟨m1, h, h, A, ?_, ?_, hC.mono (Nat.le_succ n), Kp.rf.ks, fun _ _ _ => rfl, PKe.rf, rfl, hW, Or.inl ⟨Kp.rf, rfl⟩⟩
    · rw [x41, m18, cI_s, if_neg (by rw [bI_nz]; exact hx)]
    · rw [x177, m153, cI_s, if_neg (by rw [bI_nz]; exact hx)]
end Ops8
