-- PART: the ranges, and how they are kept.
/-- the ranges of a row, behind n calls -/
def V (n : Nat) (A : Nat → Nat) : Prop := A 0 < 576000 ∧ A 2 ≤ 1 ∧ A 5 ≤ 4 ∧ A 6 ≤ A 5 ∧ VW A (10000 * n) ∧ A 7 ≤ 30 ∧ A 8 ≤ 10 ∧ A 9 ≤ 1 ∧ A 10 ≤ A 4 ∧ A 11 ≤ 8 ∧ VB A 300 (A 11) ∧ VL A 170 (A 10) (A 11) (10000 * n) ∧ (∀ i, i < A 7 → A (320 + 4 * i) < A 10 ∧ A (320 + 4 * i + 1) ≤ A 8 ∧ A (320 + 4 * i + 2) < 720 ∧ A (320 + 4 * i + 3) ≤ A 0 / 1440) ∧ (∀ i, i + 1 < A 7 → A (320 + 4 * i + 3) ≤ A (320 + 4 * (i + 1) + 3)) ∧ (∀ d, A 4 ≤ d → d < 16 → ∀ c, c < 8 → A (40 + 8 * d + c) = 0) ∧ (∀ d, A 10 ≤ d → d < 16 → ∀ c, c < 8 → A (170 + 8 * d + c) = 0)
theorem VL.mono {A : Nat → Nat} {o nd nb q q' : Nat} (h : VL A o nd nb q) (hq : q ≤ q') : VL A o nd nb q' := by
  intro i hi
  obtain ⟨l0, l1, l2, l3, l4, l5, l6, l7⟩ := h i hi
  exact ⟨l0, l1, l2, l3, by omega, l5, l6, l7⟩
theorem VW.mono {A : Nat → Nat} {q q' : Nat} (h : VW A q) (hq : q ≤ q') : VW A q' := ⟨h.1, h.2.1, h.2.2.1, h.2.2.2.1, h.2.2.2.2.1, h.2.2.2.2.2.mono hq⟩
theorem V.mono {n n' : Nat} {A : Nat → Nat} (h : V n A) (hn : n ≤ n') : V n' A := by
  obtain ⟨a0, a2, a5, a6, vw, a7, a8, a9, a10, a11, vb, vl, vr, vs, z1, z2⟩ := h
  exact ⟨a0, a2, a5, a6, vw.mono (by omega), a7, a8, a9, a10, a11, vb, vl.mono (by omega), vr, vs, z1, z2⟩
/-- rows alike in all that the ranges of wires and dials speak of -/
theorem VL.congr {A A' : Nat → Nat} {o nd nb q : Nat} (h : VL A o nd nb q) (e : ∀ j, o ≤ j → j < o + 8 * nd → A' j = A j) : VL A' o nd nb q := by
  intro i hi
  rw [e _ (by omega) (by omega), e _ (by omega) (by omega), e _ (by omega) (by omega), e _ (by omega) (by omega), e _ (by omega) (by omega), e _ (by omega) (by omega), e _ (by omega) (by omega), e _ (by omega) (by omega)]
  exact h i hi
theorem VW.congr {A A' : Nat → Nat} {q : Nat} (h : VW A q) (e : ∀ j, (j = 1 ∨ j = 3 ∨ j = 4 ∨ (20 ≤ j ∧ j < 36) ∨ (40 ≤ j ∧ j < 168)) → A' j = A j) : VW A' q := by
  obtain ⟨v1, v3, v4, vb, vk, vl⟩ := h
  have e3 := e 3 (by omega)
  have e4 := e 4 (by omega)
  refine ⟨by rw [e 1 (by omega)]; exact v1, by rw [e3]; exact v3, by rw [e4]; exact v4, fun b hb => ?_, fun b hb => ?_, ?_⟩
  · rw [e3] at hb
    rw [e _ (by omega)]
    exact vb b hb
  · rw [e _ (by omega)]
    exact vk b hb
  · rw [e3, e4]
    exact vl.congr (fun j h1 h2 => e j (by omega))
/-- a row that differs from A only in places below 12 but 3, 4, 5, 8, 10, 11 and where asked -/
theorem V.of {n : Nat} {A A' : Nat → Nat} (h : V n A) (e : ∀ j, j ≠ 0 → j ≠ 1 → j ≠ 2 → j ≠ 6 → A' j = A j) (h0 : A 0 ≤ A' 0 ∧ A' 0 < 576000) (h1 : A' 1 ≤ 1) (h2 : A' 2 ≤ 1) (h6 : A' 6 ≤ A' 5) : V n A' := by
  obtain ⟨a0, a2, a5, a6, vw, a7, a8, a9, a10, a11, vb, vl, vr, vs, z1, z2⟩ := h
  have e4 := e 4 (by omega) (by omega) (by omega) (by omega)
  have e5 := e 5 (by omega) (by omega) (by omega) (by omega)
  have e7 := e 7 (by omega) (by omega) (by omega) (by omega)
  have e8 := e 8 (by omega) (by omega) (by omega) (by omega)
  have e9 := e 9 (by omega) (by omega) (by omega) (by omega)
  have e10 := e 10 (by omega) (by omega) (by omega) (by omega)
  have e11 := e 11 (by omega) (by omega) (by omega) (by omega)
  have e3 := e 3 (by omega) (by omega) (by omega) (by omega)
  refine ⟨h0.2, h2, by rw [e5]; exact a5, h6, ?_, by rw [e7]; exact a7, by rw [e8]; exact a8, by rw [e9]; exact a9, by rw [e10, e4]; exact a10, by rw [e11]; exact a11, fun b hb => ?_, ?_, fun i hi => ?_, fun i hi => ?_, fun d hd hd2 c hc => ?_, fun d hd hd2 c hc => ?_⟩
  · obtain ⟨v1, v3, v4, vb, vk, vl⟩ := vw
    refine ⟨h1, by rw [e3]; exact v3, by rw [e4]; exact v4, fun b hb => ?_, fun b hb => ?_, ?_⟩
    · rw [e3] at hb
      rw [e _ (by omega) (by omega) (by omega) (by omega)]
      exact vb b hb
    · rw [e _ (by omega) (by omega) (by omega) (by omega)]
      exact vk b hb
    · rw [e3, e4]
      exact vl.congr (fun j h1 h2 => e j (by omega) (by omega) (by omega) (by omega))
  · rw [e11] at hb
    rw [e _ (by omega) (by omega) (by omega) (by omega)]
    exact vb b hb
  · rw [e10, e11]
    exact vl.congr (fun j h1 h2 => e j (by omega) (by omega) (by omega) (by omega))
  · rw [e7] at hi
    obtain ⟨r0, r1, r2, r3⟩ := vr i hi
    have := h0.1
    rw [e10, e8, e _ (by omega) (by omega) (by omega) (by omega), e _ (by omega) (by omega) (by omega) (by omega), e _ (by omega) (by omega) (by omega) (by omega), e _ (by omega) (by omega) (by omega) (by omega)]
    exact ⟨r0, r1, r2, by omega⟩
  · rw [e7] at hi
    rw [e _ (by omega) (by omega) (by omega) (by omega), e _ (by omega) (by omega) (by omega) (by omega)]
    exact vs i hi
  · rw [e4] at hd
    rw [e _ (by omega) (by omega) (by omega) (by omega)]
    exact z1 d hd hd2 c hc
  · rw [e10] at hd
    rw [e _ (by omega) (by omega) (by omega) (by omega)]
    exact z2 d hd hd2 c hc
/-- a row whose dials (those that are) have changed within their ranges, and nothing else but 0, 1 -/
theorem V.dials {n n' : Nat} {A A' : Nat → Nat} (h : V n A) (hn : n ≤ n') (e : ∀ j, j ≠ 0 → j ≠ 1 → ¬ (40 ≤ j ∧ j < 40 + 8 * A 4) → A' j = A j) (h0 : A 0 ≤ A' 0 ∧ A' 0 < 576000) (h1 : A' 1 ≤ 1) (hl : VL A' 40 (A 4) (A 3) (10000 * n')) : V n' A' := by
  obtain ⟨a0, a2, a5, a6, vw, a7, a8, a9, a10, a11, vb, vl, vr, vs, z1, z2⟩ := h.mono hn
  obtain ⟨v1, v3, v4, vb9, vk, vl9⟩ := vw
  have e2 := e 2 (by omega) (by omega) (by omega)
  have e3 := e 3 (by omega) (by omega) (by omega)
  have e4 := e 4 (by omega) (by omega) (by omega)
  have e5 := e 5 (by omega) (by omega) (by omega)
  have e6 := e 6 (by omega) (by omega) (by omega)
  have e7 := e 7 (by omega) (by omega) (by omega)
  have e8 := e 8 (by omega) (by omega) (by omega)
  have e9 := e 9 (by omega) (by omega) (by omega)
  have e10 := e 10 (by omega) (by omega) (by omega)
  have e11 := e 11 (by omega) (by omega) (by omega)
  refine ⟨h0.2, by rw [e2]; exact a2, by rw [e5]; exact a5, by rw [e5, e6]; exact a6, ⟨h1, by rw [e3]; exact v3, by rw [e4]; exact v4, fun b hb => ?_, fun b hb => ?_, by rw [e3, e4]; exact hl⟩, by rw [e7]; exact a7, by rw [e8]; exact a8, by rw [e9]; exact a9, by rw [e10, e4]; exact a10, by rw [e11]; exact a11, fun b hb => ?_, ?_, fun i hi => ?_, fun i hi => ?_, fun d hd hd2 c hc => ?_, fun d hd hd2 c hc => ?_⟩
  · rw [e3] at hb
    rw [e _ (by omega) (by omega) (by omega)]
    exact vb9 b hb
  · rw [e _ (by omega) (by omega) (by omega)]
    exact vk b hb
  · rw [e11] at hb
    rw [e _ (by omega) (by omega) (by omega)]
    exact vb b hb
  · rw [e10, e11]
    exact vl.congr (fun j h1 h2 => e j (by omega) (by omega) (by omega))
  · rw [e7] at hi
    obtain ⟨r0, r1, r2, r3⟩ := vr i hi
    have := h0.1
    rw [e10, e8, e _ (by omega) (by omega) (by omega), e _ (by omega) (by omega) (by omega), e _ (by omega) (by omega) (by omega), e _ (by omega) (by omega) (by omega)]
    exact ⟨r0, r1, r2, by omega⟩
  · rw [e7] at hi
    rw [e _ (by omega) (by omega) (by omega), e _ (by omega) (by omega) (by omega)]
    exact vs i hi
  · rw [e4] at hd
    rw [e _ (by omega) (by omega) (by omega)]
    exact z1 d hd hd2 c hc
  · rw [e10] at hd
    rw [e _ (by omega) (by omega) (by omega)]
    exact z2 d hd hd2 c hc
/-- one number of a dial -/
theorem VL.set {A : Nat → Nat} {nd nb q d c v : Nat} (h : VL A 40 nd nb q) (hc : c < 8) (hv : (c = 0 → v < nb) ∧ (c = 1 → v ≤ 1) ∧ (c = 2 → v < 720) ∧ (c = 3 → v ≤ 1) ∧ (c = 4 → v ≤ q) ∧ (c = 5 → v ≤ 999) ∧ (c = 6 → v ≤ 999) ∧ (c = 7 → v ≤ 1)) : VL (ud A (40 + 8 * d + c) v) 40 nd nb q := by
  intro i hi
  obtain ⟨l0, l1, l2, l3, l4, l5, l6, l7⟩ := h i hi
  obtain ⟨w0, w1, w2, w3, w4, w5, w6, w7⟩ := hv
  have key : ∀ k, k < 8 → ud A (40 + 8 * d + c) v (40 + 8 * i + k) = if i = d ∧ k = c then v else A (40 + 8 * i + k) := by
    intro k hk
    unfold ud
    by_cases z : i = d ∧ k = c
    · rw [if_pos z, if_pos (by omega)]
    · rw [if_neg z, if_neg (by omega)]
  have k0 := key 0 (by omega)
  rw [Nat.add_zero] at k0
  rw [k0, key 1 (by omega), key 2 (by omega), key 3 (by omega), key 4 (by omega), key 5 (by omega), key 6 (by omega), key 7 (by omega)]
  refine ⟨?_, ?_, ?_, ?_, ?_, ?_, ?_, ?_⟩ <;> (split <;> omega)
/-- what the calls' cells hold -/
def Core (n : Nat) (h : PH) (A B : Nat → Nat) : Prop := RC h 0 A ∧ RC h 46 B ∧ RM h 254 A ∧ RM h 255 B ∧ V n A ∧ V n B ∧ B 5 ≤ A 5
/-- the tape and the latest fault -/
def TF (h : PH) : Prop := (∃ t, t ≤ 300 ∧ hI h 205 0 = nI t ∧ hI h 253 3 = nI t ∧ ∀ i, i < t → ∃ b, b < 256 ∧ hI h 206 i = nI b ∧ hI h 256 i = (nI b).toInt8.toInt32) ∧ ((hI h 207 0 = nI 0 ∧ hI h 253 4 = m1 ∧ hI h 253 5 = m1) ∨ (hI h 207 0 = nI 1 ∧ hI h 253 4 = hI h 207 1 ∧ hI h 253 5 = hI h 207 2))
/-- what most calls leave as it is: script, answers, tape, reader, strips, the reference's tape and strips -/
def Kp (h h' : PH) : Prop := (∀ a, (a = 1 ∨ (97 ≤ a ∧ a ≤ 127) ∨ (205 ≤ a ∧ a ≤ 252) ∨ (256 ≤ a ∧ a ≤ 261)) → hI h' a = hI h a) ∧ (∀ k, k < 11 → hI h' 253 k = hI h 253 k)
def Pk (h h' : PH) : Prop := ∀ a, 165 ≤ a → a < 181 → hI h' a = hI h a
def Pr (h : PH) : Prop := ∀ i, i < 16 → hI h (165 + i) 0 = m2
theorem Kp.rf {h : PH} : Kp h h := ⟨fun _ _ => rfl, fun _ _ => rfl⟩
theorem Kp.tr {a b c : PH} (h1 : Kp a b) (h2 : Kp b c) : Kp a c := ⟨fun x p => (h2.1 x p).trans (h1.1 x p), fun k z => (h2.2 k z).trans (h1.2 k z)⟩
theorem Kp.w {h : PH} {a k : Nat} {v : Int32} (ha : (2 ≤ a ∧ a ≤ 96) ∨ (128 ≤ a ∧ a ≤ 204) ∨ a = 254 ∨ a = 255 ∨ 262 ≤ a) : Kp h (wI h a k v) := ⟨fun x p => wI_ne (by omega), fun j hj => by rw [wI_ne (by omega)]⟩
theorem Kp.fg {h : PH} : Kp h (fgt 165 181 h) := ⟨fun x p => fgt_ne (by omega), fun j hj => by rw [fgt_ne (by omega)]⟩
theorem Kp.fd {h h' : PH} (hF : FD h h') : Kp h h' := ⟨fun x p => hF.1 x (by omega) (by omega), fun j hj => by rw [hF.1 253 (by omega) (by omega)]⟩
theorem Kp.fm {h h' : PH} (hF : Fm h h') : Kp h h' := ⟨fun x p => hF.1 x (by omega) (by omega), fun j hj => hF.2.1 j (Or.inl hj)⟩
theorem TF.kp {h h' : PH} (hT : TF h) (hK : Kp h h') : TF h' := by
  obtain ⟨⟨t, t1, t2, t3, t4⟩, hf⟩ := hT
  refine ⟨⟨t, t1, ?_, ?_, fun i hi => ?_⟩, ?_⟩
  · rw [hK.1 205 (by omega)]
    exact t2
  · rw [hK.2 3 (by omega)]
    exact t3
  · rw [hK.1 206 (by omega), hK.1 256 (by omega)]
    exact t4 i hi
  · rw [hK.1 207 (by omega), hK.2 4 (by omega), hK.2 5 (by omega)]
    exact hf
