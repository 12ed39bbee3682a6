-- PART: feed, end, fault.
theorem t8_nat (y : Int32) : y.toInt8.toBitVec.toNat = y.toBitVec.toNat % 256 := by
  show (y.toBitVec.signExtend 8).toNat = y.toBitVec.toNat % 256
  rw [BitVec.signExtend_eq_setWidth_of_le _ (by omega), BitVec.toNat_setWidth]
theorem byte_of (y : Int32) : ∃ b, b < 256 ∧ y &&& nI 255 = nI b ∧ y.toInt8.toInt32 = (nI b).toInt8.toInt32 := by
  refine ⟨y.toBitVec.toNat % 256, Nat.mod_lt _ (by omega), ?_, ?_⟩
  · apply Int32.toBitVec_inj.mp
    show y.toBitVec &&& BitVec.ofNat 32 255 = BitVec.ofNat 32 (y.toBitVec.toNat % 256)
    apply BitVec.eq_of_toNat_eq
    rw [BitVec.toNat_and, BitVec.toNat_ofNat, BitVec.toNat_ofNat]
    have e : y.toBitVec.toNat &&& 2 ^ 8 - 1 = y.toBitVec.toNat % 2 ^ 8 := Nat.and_two_pow_sub_one_eq_mod _ 8
    have l : y.toBitVec.toNat % 256 < 256 := Nat.mod_lt _ (by omega)
    rw [show 255 % 2 ^ 32 = 2 ^ 8 - 1 from rfl, e, show (2 : Nat) ^ 8 = 256 from rfl, Nat.mod_eq_of_lt (show y.toBitVec.toNat % 256 < 2 ^ 32 by omega)]
  · congr 1
    apply Int8.toBitVec_inj.mp
    apply BitVec.eq_of_toNat_eq
    have l : y.toBitVec.toNat % 256 < 256 := Nat.mod_lt _ (by omega)
    rw [t8_nat, t8_nat, nI_toNat (by omega), Nat.mod_eq_of_lt l]
theorem nrB_all : (List.range 256).all (fun b => decide (nrB (nI b).toInt8.toInt32 = (nI b).toInt8.toInt32)) = true := by decide +kernel
theorem nrB_of (y : Int32) : nrB y.toInt8.toInt32 = y.toInt8.toInt32 := by
  obtain ⟨b, hb, -, e⟩ := byte_of y
  rw [e]
  exact of_decide_eq_true (List.all_eq_true.mp nrB_all b (List.mem_range.mpr hb))
/-- byte j of a word -/
def wby (x : Int32) (j : Nat) : Int32 := x >>> (nI (24 - 8 * j) &&& nI 31)
section Feed
variable {L : Nat}
theorem m91_loop {d : Nat} (x : Int32) : ∀ (n j t : Nat) (h : PH), j + n = 4 → hI h 205 0 = nI t → t + n ≤ 300 → ∃ h', runL (g2 L) d 7 false none kc_91 3 [.ref 205, .int x, .int (if j = 4 then nI 0 + Int32.ofInt (-8) else nI (24 - 8 * j))] [] h = some (none, h') ∧ hI h' 205 0 = nI (t + n) ∧ (∀ i, i < t → hI h' 206 i = hI h 206 i) ∧ (∀ i, i < n → hI h' 206 (t + i) = wby x (j + i) &&& nI 255) ∧ (∀ a, a ≠ 205 → a ≠ 206 → hI h' a = hI h a) := by
  intro n
  induction n with
  | zero =>
    intro j t h hj ht hl
    refine ⟨h, ?_, ht, fun _ _ => rfl, fun i hi => by omega, fun _ _ _ => rfl⟩
    rw [if_pos (by omega), e91_3, if_pos (by decide)]
  | succ n ih =>
    intro j t h hj ht hl
    have sh : nI (24 - 8 * j) + Int32.ofInt (-8) = if j + 1 = 4 then nI 0 + Int32.ofInt (-8) else nI (24 - 8 * (j + 1)) := by
      have c : j = 0 ∨ j = 1 ∨ j = 2 ∨ j = 3 := by omega
      rcases c with rfl | rfl | rfl | rfl <;> decide
    obtain ⟨h', e1, e2, e3, e4, e5⟩ := ih (j + 1) (t + 1) (wI (wI h 206 t (wby x j &&& nI 255)) 205 0 (nI (t + 1))) (by omega) (by rw [hI_wI, if_pos ⟨rfl, rfl⟩]) (by omega)
    refine ⟨h', ?_, by rw [e2]; congr 1; omega, fun i hi => ?_, fun i hi => ?_, fun a p q => by rw [e5 a p q, wI_ne p, wI_ne q]⟩
    · rw [if_neg (by omega), e91_3, if_neg (by rw [nI_ltN (by omega) (by omega)]; omega), ht, if_neg (by rw [nI_leN (by omega) (by omega)]; omega), inB_nI (by omega), asr_d (by omega), ix_nI (by omega), nI_plus, sh]
      exact e1
    · rw [e3 i (by omega), wI_ne (by omega), hI_wI, if_neg (by omega)]
    · by_cases z : i = 0
      · subst z
        rw [Nat.add_zero, Nat.add_zero, e3 t (by omega), wI_ne (by omega), hI_wI, if_pos ⟨rfl, rfl⟩]
      · have := e4 (i - 1) (by omega)
        rw [show t + 1 + (i - 1) = t + i by omega, show j + 1 + (i - 1) = j + i by omega] at this
        exact this
theorem m91 (d : Nat) {t : Nat} {h : PH} (x : Int32) (ht : hI h 205 0 = nI t) (hl : t + 4 ≤ 300) : ∃ h', exec (g2 L) (d + 1) 91 [.ref 205, .int x] h = some (none, h') ∧ hI h' 205 0 = nI (t + 4) ∧ (∀ i, i < t → hI h' 206 i = hI h 206 i) ∧ (∀ i, i < 4 → hI h' 206 (t + i) = wby x i &&& nI 255) ∧ (∀ a, a ≠ 205 → a ≠ 206 → hI h' a = hI h a) := by
  obtain ⟨h', e1, e2, e3, e4, e5⟩ := m91_loop (L := L) (d := d) x 4 0 t h rfl ht hl
  refine ⟨h', ?_, e2, e3, fun i hi => ?_, e5⟩
  · rw [x91]
    exact e1
  · have := e4 i hi
    rwa [Nat.zero_add] at this
theorem m212_loop {d : Nat} (x : Int32) : ∀ (n j t : Nat) (h : PH), j + n = 4 → hI h 253 3 = nI t → t + n ≤ 300 → ∃ h', runL (g2 L) d 11 false none kc_212 3 [.ref 253, .int x, .int (if j = 4 then nI 0 - nI 8 else nI (24 - 8 * j))] [] h = some (none, h') ∧ hI h' 253 3 = nI (t + n) ∧ (∀ i, i < t → hI h' 256 i = hI h 256 i) ∧ (∀ i, i < n → hI h' 256 (t + i) = (wby x (j + i)).toInt8.toInt32) ∧ (∀ a, a ≠ 253 → a ≠ 256 → hI h' a = hI h a) ∧ (∀ k, k ≠ 3 → hI h' 253 k = hI h 253 k) := by
  intro n
  induction n with
  | zero =>
    intro j t h hj ht hl
    refine ⟨h, ?_, ht, fun _ _ => rfl, fun i hi => by omega, fun _ _ _ => rfl, fun _ _ => rfl⟩
    rw [if_pos (by omega), e212_3, if_pos (by decide)]
  | succ n ih =>
    intro j t h hj ht hl
    have sh : nI (24 - 8 * j) - nI 8 = if j + 1 = 4 then nI 0 - nI 8 else nI (24 - 8 * (j + 1)) := by
      have c : j = 0 ∨ j = 1 ∨ j = 2 ∨ j = 3 := by omega
      rcases c with rfl | rfl | rfl | rfl <;> decide
    obtain ⟨h', e1, e2, e3, e4, e5, e6⟩ := ih (j + 1) (t + 1) (wI (wI h 256 t (wby x j).toInt8.toInt32) 253 3 (nI (t + 1))) (by omega) (by rw [hI_wI, if_pos ⟨rfl, rfl⟩]) (by omega)
    refine ⟨h', ?_, by rw [e2]; congr 1; omega, fun i hi => ?_, fun i hi => ?_, fun a p q => by rw [e5 a p q, wI_ne p, wI_ne q], fun k hk => by rw [e6 k hk, hI_wI, if_neg (fun q => hk q.2), wI_ne (by omega)]⟩
    · rw [if_neg (by omega), e212_3, if_neg (by rw [nI_ltN (by omega) (by omega)]; omega), ht, inB_nI (by omega), asr_d (by omega), ix_nI (by omega), nI_plus, sh, nrB_of]
      exact e1
    · rw [e3 i (by omega), wI_ne (by omega), hI_wI, if_neg (by omega)]
    · by_cases z : i = 0
      · subst z
        rw [Nat.add_zero, Nat.add_zero, e3 t (by omega), wI_ne (by omega), hI_wI, if_pos ⟨rfl, rfl⟩]
      · have := e4 (i - 1) (by omega)
        rw [show t + 1 + (i - 1) = t + i by omega, show j + 1 + (i - 1) = j + i by omega] at this
        exact this
theorem m212 (d : Nat) {t : Nat} {h : PH} (x : Int32) (ht : hI h 253 3 = nI t) (hl : t + 4 ≤ 300) : ∃ h', exec (g2 L) (d + 1) 212 [.ref 253, .int x] h = some (none, h') ∧ hI h' 253 3 = nI (t + 4) ∧ (∀ i, i < t → hI h' 256 i = hI h 256 i) ∧ (∀ i, i < 4 → hI h' 256 (t + i) = (wby x i).toInt8.toInt32) ∧ (∀ a, a ≠ 253 → a ≠ 256 → hI h' a = hI h a) ∧ (∀ k, k ≠ 3 → hI h' 253 k = hI h 253 k) := by
  obtain ⟨h', e1, e2, e3, e4, e5, e6⟩ := m212_loop (L := L) (d := d) x 4 0 t h rfl ht hl
  refine ⟨h', ?_, e2, e3, fun i hi => ?_, e5, e6⟩
  · rw [x212]
    exact e1
  · have := e4 i hi
    rwa [Nat.zero_add] at this
/-- what feeding leaves as it is -/
def Kf (h h' : PH) : Prop := (∀ a, a ≠ 205 → a ≠ 206 → a ≠ 253 → a ≠ 256 → hI h' a = hI h a) ∧ (∀ k, k ≠ 3 → hI h' 253 k = hI h 253 k)
variable {n : Nat} {h : PH} {A B : Nat → Nat}
theorem Core.kf {h' : PH} (hC : Core n h A B) (hK : Kf h h') : Core (n + 1) h' A B := by
  obtain ⟨c1, c2, c3, c4, c5, c6, c7⟩ := hC
  exact ⟨c1.congr (fun a p q => hK.1 a (by omega) (by omega) (by omega) (by omega)), c2.congr (fun a p q => hK.1 a (by omega) (by omega) (by omega) (by omega)), c3.congr (hK.1 254 (by omega) (by omega) (by omega) (by omega)), c4.congr (hK.1 255 (by omega) (by omega) (by omega) (by omega)), c5.mono (Nat.le_succ n), c6.mono (Nat.le_succ n), c7⟩
theorem op_feed (hC : Core n h A B) (hT : TF h) (x1 x2 x3 x4 x5 : Int32) : ∃ r h1 h2, exec (g2 L) 100 90 [.ref 2, .int x1, .int x2, .int x3, .int x4, .int x5] h = some (some (.int r), h1) ∧ exec (g2 L) 100 211 [.ref 253, .int x1, .int x2, .int x3, .int x4, .int x5] h1 = some (some (.int r), h2) ∧ Core (n + 1) h2 A B ∧ TF h2 ∧ Kf h h2 := by
  obtain ⟨⟨t, t1, t2, t3, t4⟩, hf⟩ := id hT
  by_cases hl : t + 20 ≤ 300
  · obtain ⟨a1, p11, p12, p13, p14, p15⟩ := m91 (L := L) 98 x1 t2 (by omega)
    obtain ⟨a2, p21, p22, p23, p24, p25⟩ := m91 (L := L) 98 x2 p12 (by omega)
    obtain ⟨a3, p31, p32, p33, p34, p35⟩ := m91 (L := L) 98 x3 p22 (by omega)
    obtain ⟨a4, p41, p42, p43, p44, p45⟩ := m91 (L := L) 98 x4 p32 (by omega)
    obtain ⟨a5, p51, p52, p53, p54, p55⟩ := m91 (L := L) 98 x5 p42 (by omega)
    have fa : ∀ a, a ≠ 205 → a ≠ 206 → hI a5 a = hI h a := fun a p q => by rw [p55 a p q, p45 a p q, p35 a p q, p25 a p q, p15 a p q]
    have t3' : hI a5 253 3 = nI t := by rw [fa _ (by omega) (by omega)]; exact t3
    obtain ⟨b1, q11, q12, q13, q14, q15, q16⟩ := m212 (L := L) 98 x1 t3' (by omega)
    obtain ⟨b2, q21, q22, q23, q24, q25, q26⟩ := m212 (L := L) 98 x2 q12 (by omega)
    obtain ⟨b3, q31, q32, q33, q34, q35, q36⟩ := m212 (L := L) 98 x3 q22 (by omega)
    obtain ⟨b4, q41, q42, q43, q44, q45, q46⟩ := m212 (L := L) 98 x4 q32 (by omega)
    obtain ⟨b5, q51, q52, q53, q54, q55, q56⟩ := m212 (L := L) 98 x5 q42 (by omega)
    have fb : ∀ a, a ≠ 253 → a ≠ 256 → hI b5 a = hI a5 a := fun a p q => by rw [q55 a p q, q45 a p q, q35 a p q, q25 a p q, q15 a p q]
    have fk : ∀ k, k ≠ 3 → hI b5 253 k = hI h 253 k := fun k hk => by rw [q56 k hk, q46 k hk, q36 k hk, q26 k hk, q16 k hk, fa _ (by omega) (by omega)]
    have hK : Kf h b5 := ⟨fun a h1 h2 h3 h4 => by rw [fb a h3 h4, fa a h1 h2], fk⟩
    refine ⟨nI (t + 20), a5, b5, ?_, ?_, hC.kf hK, ⟨⟨t + 20, hl, ?_, q52, fun i hi => ?_⟩, ?_⟩, hK⟩
    · rw [x90, t2, nI_plus, if_pos (by rw [nI_leN (by omega) (by omega)]; exact hl), p11, cV_s, p21, cV_s, p31, cV_s, p41, cV_s, p51, cV_s, p52]
    · rw [x211, t3', nI_plus, if_pos (by rw [nI_leN (by omega) (by omega)]; exact hl), q11, cV_s, q21, cV_s, q31, cV_s, q41, cV_s, q51, cV_s, q52]
    · rw [fb _ (by omega) (by omega)]
      exact p52
    · rw [fb 206 (by omega) (by omega)]
      have fin : ∀ y : Int32, hI a5 206 i = y &&& nI 255 → hI b5 256 i = y.toInt8.toInt32 → ∃ b, b < 256 ∧ hI a5 206 i = nI b ∧ hI b5 256 i = (nI b).toInt8.toInt32 := by
        intro y e1 e2
        obtain ⟨b, hb, e3, e4⟩ := byte_of y
        exact ⟨b, hb, e1.trans e3, e2.trans e4⟩
      by_cases z5 : t + 16 ≤ i
      · obtain ⟨j, rfl⟩ : ∃ j, i = t + 4 + 4 + 4 + 4 + j := ⟨i - (t + 16), by omega⟩
        exact fin _ (p54 j (by omega)) (q54 j (by omega))
      by_cases z4 : t + 12 ≤ i
      · obtain ⟨j, rfl⟩ : ∃ j, i = t + 4 + 4 + 4 + j := ⟨i - (t + 12), by omega⟩
        exact fin _ ((p53 _ (by omega)).trans (p44 j (by omega))) ((q53 _ (by omega)).trans (q44 j (by omega)))
      by_cases z3 : t + 8 ≤ i
      · obtain ⟨j, rfl⟩ : ∃ j, i = t + 4 + 4 + j := ⟨i - (t + 8), by omega⟩
        exact fin _ ((p53 _ (by omega)).trans ((p43 _ (by omega)).trans (p34 j (by omega)))) ((q53 _ (by omega)).trans ((q43 _ (by omega)).trans (q34 j (by omega))))
      by_cases z2 : t + 4 ≤ i
      · obtain ⟨j, rfl⟩ : ∃ j, i = t + 4 + j := ⟨i - (t + 4), by omega⟩
        exact fin _ ((p53 _ (by omega)).trans ((p43 _ (by omega)).trans ((p33 _ (by omega)).trans (p24 j (by omega))))) ((q53 _ (by omega)).trans ((q43 _ (by omega)).trans ((q33 _ (by omega)).trans (q24 j (by omega)))))
      by_cases z1 : t ≤ i
      · obtain ⟨j, rfl⟩ : ∃ j, i = t + j := ⟨i - t, by omega⟩
        exact fin _ ((p53 _ (by omega)).trans ((p43 _ (by omega)).trans ((p33 _ (by omega)).trans ((p23 _ (by omega)).trans (p14 j (by omega)))))) ((q53 _ (by omega)).trans ((q43 _ (by omega)).trans ((q33 _ (by omega)).trans ((q23 _ (by omega)).trans (q14 j (by omega))))))
      · obtain ⟨b, hb, e1, e2⟩ := t4 i (by omega)
        refine ⟨b, hb, ?_, ?_⟩
        · rw [p53 _ (by omega), p43 _ (by omega), p33 _ (by omega), p23 _ (by omega), p13 _ (by omega)]
          exact e1
        · rw [q53 _ (by omega), q43 _ (by omega), q33 _ (by omega), q23 _ (by omega), q13 _ (by omega), fa _ (by omega) (by omega)]
          exact e2
    · rw [hK.1 207 (by omega) (by omega) (by omega) (by omega), fk 4 (by omega), fk 5 (by omega)]
      exact hf
  · refine ⟨m1, h, h, ?_, ?_, hC.mono (Nat.le_succ n), hT, fun _ _ _ _ _ => rfl, fun _ _ => rfl⟩
    · rw [x90, t2, nI_plus, if_neg (by rw [nI_leN (by omega) (by omega)]; exact hl)]
    · rw [x211, t3, nI_plus, if_neg (by rw [nI_leN (by omega) (by omega)]; exact hl)]
theorem op_end (hC : Core n h A B) (hT : TF h) (x : Int32) : ∃ r h1 h2, exec (g2 L) 100 92 [.ref 2, .int x] h = some (some (.int r), h1) ∧ exec (g2 L) 100 213 [.ref 253, .int x] h1 = some (some (.int r), h2) ∧ Core (n + 1) h2 A B ∧ TF h2 ∧ Kf h h2 := by
  obtain ⟨⟨t, t1, t2, t3, t4⟩, hf⟩ := id hT
  by_cases hx : nI 0 ≤ x ∧ x ≤ nI t
  · obtain ⟨v, hv, rfl⟩ := in_le (by omega) hx
    have hK : Kf h (wI (wI h 205 0 (nI v)) 253 3 (nI v)) := ⟨fun a h1 h2 h3 h4 => by rw [wI_ne h3, wI_ne h1], fun k hk => by rw [hI_wI, if_neg (fun q => hk q.2), wI_ne (by omega)]⟩
    refine ⟨nI v, wI h 205 0 (nI v), wI (wI h 205 0 (nI v)) 253 3 (nI v), ?_, ?_, hC.kf hK, ⟨⟨v, by omega, ?_, ?_, fun i hi => ?_⟩, ?_⟩, hK⟩
    · rw [x92, t2, m18, cI_s, if_pos (bI_nz.mpr hx)]
    · rw [x213, wI_ne (by omega), t3, m153, cI_s, if_pos (bI_nz.mpr hx)]
    · rw [wI_ne (by omega), hI_wI, if_pos ⟨rfl, rfl⟩]
    · rw [hI_wI, if_pos ⟨rfl, rfl⟩]
    · rw [wI_ne (by omega), wI_ne (by omega), wI_ne (by omega), wI_ne (by omega)]
      exact t4 i (by omega)
    · rw [hK.1 207 (by omega) (by omega) (by omega) (by omega), hK.2 4 (by omega), hK.2 5 (by omega)]
      exact hf
  · refine ⟨m1, h, h, ?_, ?_, hC.mono (Nat.le_succ n), hT, fun _ _ _ _ _ => rfl, fun _ _ => rfl⟩
    · rw [x92, t2, m18, cI_s, if_neg (by rw [bI_nz]; exact hx)]
    · rw [x213, t3, m153, cI_s, if_neg (by rw [bI_nz]; exact hx)]
theorem op_fault (hC : Core n h A B) (hT : TF h) (x : Int32) : Sim L 123 239 [.ref 2, .int x] [.ref 253, .int x] n h A B := by
  obtain ⟨-, hf⟩ := hT
  rcases hf with ⟨f0, f1, f2⟩ | ⟨f0, f1, f2⟩
  · refine Sim.same hC (r := m1) ?_ ?_
    · rw [x123, f0, if_neg (fun q => q rfl)]
    · rw [x239, f1, f2, ite_self, ite_self]
  · by_cases y0 : x = nI 0
    · refine Sim.same hC (r := hI h 207 1) ?_ ?_
      · rw [x123, f0, if_pos (by decide), if_pos y0]
      · rw [x239, if_neg (fun q => q y0), f1]
    by_cases y1 : x = nI 1
    · refine Sim.same hC (r := hI h 207 2) ?_ ?_
      · rw [x123, f0, if_pos (by decide), if_neg y0, if_pos y1]
      · rw [x239, if_pos y0, if_neg (fun q => q y1), f2]
    refine Sim.same hC (r := m1) ?_ ?_
    · rw [x123, f0, if_pos (by decide), if_neg y0, if_neg y1]
    · rw [x239, if_pos y0, if_pos y1]
end Feed
