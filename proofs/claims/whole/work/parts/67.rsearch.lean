-- PART: rounds, search.
def Fs (h h' : PH) : Prop := (∀ a, a ≠ 163 → a ≠ 199 → a ≠ 200 → a ≠ 201 → a ≠ 203 → a ≠ 204 → hI h' a = hI h a) ∧ (∀ j, j ≠ 9 → hI h' 163 j = hI h 163 j) ∧ hR h' = hR h
theorem Fs.rf {h : PH} : Fs h h := ⟨fun _ _ _ _ _ _ _ => rfl, fun _ _ => rfl, rfl⟩
theorem Fs.tr {a b c : PH} (h1 : Fs a b) (h2 : Fs b c) : Fs a c := ⟨fun x p q r s t u => (h2.1 x p q r s t u).trans (h1.1 x p q r s t u), fun j hj => (h2.2.1 j hj).trans (h1.2.1 j hj), h2.2.2.trans h1.2.2⟩
theorem Fs.ff {a b : PH} (h1 : Ff a b) : Fs a b := ⟨fun x p _ r s t u => h1.1 x p r s t u, h1.2.1, h1.2.2⟩
theorem Fs.w {h : PH} {k : Nat} {v : Int32} : Fs h (wI h 199 k v) := ⟨fun x _ q _ _ _ _ => wI_ne q, fun j _ => by rw [wI_ne (by omega)], rfl⟩
theorem GS.fs {h h' : PH} {A : Nat → Nat} (hG : GS h A) (hF : Fs h h') (h16 : rn A ≤ 16) : GS h' A := by
  refine ⟨by rw [hF.2.1 8 (by omega)]; exact hG.1, fun k hk => ⟨by rw [hF.2.2]; exact (hG.2 k hk).1, fun j hj => ?_⟩⟩
  rw [hF.1 _ (by omega) (by omega) (by omega) (by omega) (by omega) (by omega)]
  exact (hG.2 k hk).2 j hj
theorem RC.fs {h h' : PH} {A : Nat → Nat} (hC : RC h 0 A) (hF : Fs h h') : RC h' 0 A := hC.congr (fun a p q => hF.1 a (by omega) (by omega) (by omega) (by omega) (by omega) (by omega))
theorem er_le (r i : Nat) : 1 ≤ er r i ∧ er r i ≤ 30 := by
  unfold er
  split <;> omega
theorem lf_in {a b c : Nat} (ha : 1 ≤ a ∧ a ≤ 30) (hb : 1 ≤ b ∧ b ≤ 30) (hc : 1 ≤ c ∧ c ≤ 30) : ∀ i, 1 ≤ lf a b c i ∧ lf a b c i ≤ 30 := by
  intro i
  unfold lf
  split
  · exact ha
  · split
    · exact hb
    · exact hc
theorem lf_at {h : PH} {a b c : Nat} (h0 : hI h 199 0 = nI a) (h1 : hI h 199 1 = nI b) (h2 : hI h 199 2 = nI c) : ∀ i, i < 3 → hI h 199 i = nI (lf a b c i) := by
  intro i hi
  have : i = 0 ∨ i = 1 ∨ i = 2 := by omega
  rcases this with rfl | rfl | rfl
  · exact h0
  · exact h1
  · exact h2
section Rsearch
variable {L : Nat} {A : Nat → Nat}
theorem m81_75 {d H r q a b : Nat} (hV : VW A q) (hr : r ≤ 3) (hH : H ≤ 15) (h16 : rn A ≤ 16) (ha : 1 ≤ a ∧ a ≤ 30) (hb : 1 ≤ b ∧ b ≤ 30) (x3 x4 : Int32) : ∀ (n c : Nat) (h : PH), c + n = er r 2 + 1 → 1 ≤ c → RC h 0 A → GS h A → hI h 199 0 = nI a → hI h 199 1 = nI b → (∀ z, 1 ≤ z → z < c → ¬ OkR A (lf a b z) r H) → (∃ z h', 1 ≤ z ∧ z ≤ er r 2 ∧ OkR A (lf a b z) r H ∧ (∀ z', 1 ≤ z' → z' < z → ¬ OkR A (lf a b z') r H) ∧ runL (g2 L) (d + 3) 6 false (some .boolean) kc_81 75 [.ref 163, .int (nI r), .int (nI H), .int x3, .int x4, .int (nI (er r 2)), .int (nI a), .int (nI b), .int (nI c)] [] h = some (some (.int (nI 1)), h') ∧ (∀ i, i < 3 → hI h' 199 i = nI (lf a b z i)) ∧ Fs h h') ∨ (∃ h', (∀ z, 1 ≤ z → z ≤ er r 2 → ¬ OkR A (lf a b z) r H) ∧ runL (g2 L) (d + 3) 6 false (some .boolean) kc_81 75 [.ref 163, .int (nI r), .int (nI H), .int x3, .int x4, .int (nI (er r 2)), .int (nI a), .int (nI b), .int (nI c)] [] h = runL (g2 L) (d + 3) 6 false (some .boolean) kc_81 57 [.ref 163, .int (nI r), .int (nI H), .int x3, .int x4, .int (nI (er r 2)), .int (nI a), .int (nI (b + 1)), .int (nI (er r 2 + 1))] [] h' ∧ hI h' 199 0 = nI a ∧ Fs h h') := by
  have he := er_le r 2
  intro n
  induction n with
  | zero =>
    intro c h hc c1 hC hG h0 h1 hno
    refine Or.inr ⟨h, fun z z1 z2 => hno z z1 (by omega), ?_, h0, Fs.rf⟩
    rw [e81_75, if_pos (by rw [nI_ltN (by omega) (by omega)]; omega), nI_plus, show c = er r 2 + 1 by omega]
  | succ n ih =>
    intro c h hc c1 hC hG h0 h1 hno
    have F1 : Fs h (wI h 199 2 (nI c)) := Fs.w
    have hl := lf_in (c := c) ha hb ⟨c1, by omega⟩
    have g0 : hI (wI h 199 2 (nI c)) 199 0 = nI a := by rw [hI_wI, if_neg (by omega)]; exact h0
    have g1 : hI (wI h 199 2 (nI c)) 199 1 = nI b := by rw [hI_wI, if_neg (by omega)]; exact h1
    have gl := lf_at g0 g1 (show hI (wI h 199 2 (nI c)) 199 2 = nI c by rw [hI_wI, if_pos ⟨rfl, rfl⟩])
    obtain ⟨v, g, p1, p2, p3, p4⟩ := m82 (L := L) d hV hr hH hl h16 (hC.fs F1) (hG.fs F1 h16) gl
    have F2 : Fs h g := F1.tr (Fs.ff p4)
    have k9 : ∀ i, i < 3 → hI g 199 i = nI (lf a b c i) := fun i hi => by rw [p4.1 199 (by omega) (by omega) (by omega) (by omega) (by omega)]; exact gl i hi
    have st : runL (g2 L) (d + 3) 6 false (some .boolean) kc_81 75 [.ref 163, .int (nI r), .int (nI H), .int x3, .int x4, .int (nI (er r 2)), .int (nI a), .int (nI b), .int (nI c)] [] h = if nI v = nI 0 then runL (g2 L) (d + 3) 6 false (some .boolean) kc_81 75 [.ref 163, .int (nI r), .int (nI H), .int x3, .int x4, .int (nI (er r 2)), .int (nI a), .int (nI b), .int (nI (c + 1))] [] g else some (some (.int (nI 1)), g) := by
      rw [e81_75, if_neg (by rw [nI_ltN (by omega) (by omega)]; omega), p1, cI_s, nI_plus]
    by_cases y : v = 1
    · rw [y, if_neg (by decide)] at st
      exact Or.inl ⟨c, g, c1, by omega, p3.mp y, hno, st, k9, F2⟩
    · rw [show v = 0 by omega, if_pos rfl] at st
      have hn : ¬ OkR A (lf a b c) r H := fun z => y (p3.mpr z)
      rcases ih (c + 1) g (by omega) (by omega) (hC.fs F2) (hG.fs F2 h16) (k9 0 (by omega)) (k9 1 (by omega)) (fun z z1 z2 => by
        by_cases e : z = c
        · rw [e]; exact hn
        · exact hno z z1 (by omega)) with ⟨z, h', q1, q2, q3, q4, q5, q6, q7⟩ | ⟨h', q1, q2, q3, q4⟩
      · exact Or.inl ⟨z, h', q1, q2, q3, q4, st.trans q5, q6, F2.tr q7⟩
      · exact Or.inr ⟨h', q1, st.trans q2, q3, F2.tr q4⟩
theorem m81_57 {d H r q a : Nat} (hV : VW A q) (hr : r ≤ 3) (hH : H ≤ 15) (h16 : rn A ≤ 16) (ha : 1 ≤ a ∧ a ≤ 30) (x3 : Int32) : ∀ (n b : Nat) (v8 : Value) (h : PH), b + n = er r 1 + 1 → 1 ≤ b → RC h 0 A → GS h A → hI h 199 0 = nI a → (∀ y z, In2 r y z → y < b → ¬ OkR A (lf a y z) r H) → (∃ y z h', In2 r y z ∧ OkR A (lf a y z) r H ∧ (∀ y' z', In2 r y' z' → (y' < y ∨ (y' = y ∧ z' < z)) → ¬ OkR A (lf a y' z') r H) ∧ runL (g2 L) (d + 3) 6 false (some .boolean) kc_81 57 [.ref 163, .int (nI r), .int (nI H), .int x3, .int (nI (er r 1)), .int (nI (er r 2)), .int (nI a), .int (nI b), v8] [] h = some (some (.int (nI 1)), h') ∧ (∀ i, i < 3 → hI h' 199 i = nI (lf a y z i)) ∧ Fs h h') ∨ (∃ h' v7 v8', (∀ y z, In2 r y z → ¬ OkR A (lf a y z) r H) ∧ runL (g2 L) (d + 3) 6 false (some .boolean) kc_81 57 [.ref 163, .int (nI r), .int (nI H), .int x3, .int (nI (er r 1)), .int (nI (er r 2)), .int (nI a), .int (nI b), v8] [] h = runL (g2 L) (d + 3) 6 false (some .boolean) kc_81 40 [.ref 163, .int (nI r), .int (nI H), .int x3, .int (nI (er r 1)), .int (nI (er r 2)), .int (nI (a + 1)), v7, v8'] [] h' ∧ Fs h h') := by
  have he := er_le r 1
  intro n
  induction n with
  | zero =>
    intro b v8 h hb b1 hC hG h0 hno
    refine Or.inr ⟨h, .int (nI b), v8, fun y z hi => hno y z hi (by have := hi.2.1; omega), ?_, Fs.rf⟩
    rw [e81_57, if_pos (by rw [nI_ltN (by omega) (by omega)]; omega), nI_plus]
  | succ n ih =>
    intro b v8 h hb y1 hC hG h0 hno
    have F1 : Fs h (wI h 199 1 (nI b)) := Fs.w
    have st : runL (g2 L) (d + 3) 6 false (some .boolean) kc_81 57 [.ref 163, .int (nI r), .int (nI H), .int x3, .int (nI (er r 1)), .int (nI (er r 2)), .int (nI a), .int (nI b), v8] [] h = runL (g2 L) (d + 3) 6 false (some .boolean) kc_81 75 [.ref 163, .int (nI r), .int (nI H), .int x3, .int (nI (er r 1)), .int (nI (er r 2)), .int (nI a), .int (nI b), .int (nI 1)] [] (wI h 199 1 (nI b)) := by
      rw [e81_57, if_neg (by rw [nI_ltN (by omega) (by omega)]; omega)]
    rcases m81_75 (L := L) (d := d) (a := a) (b := b) hV hr hH h16 ha ⟨y1, by omega⟩ x3 (nI (er r 1)) (er r 2) 1 (wI h 199 1 (nI b)) (by omega) (by omega) (hC.fs F1) (hG.fs F1 h16) (by rw [hI_wI, if_neg (by omega)]; exact h0) (by rw [hI_wI, if_pos ⟨rfl, rfl⟩]) (fun z z1 z2 => by omega) with ⟨z, h', q1, q2, q3, q4, q5, q6, q7⟩ | ⟨g, q1, q2, q3, q4⟩
    · refine Or.inl ⟨b, z, h', ⟨y1, by omega, q1, q2⟩, q3, fun y' z' hi hl => ?_, st.trans q5, q6, F1.tr q7⟩
      rcases hl with hl | ⟨rfl, hl⟩
      · exact hno y' z' hi hl
      · exact q4 z' hi.2.2.1 hl
    · have F2 := F1.tr q4
      rcases ih (b + 1) (.int (nI (er r 2 + 1))) g (by omega) (by omega) (hC.fs F2) (hG.fs F2 h16) q3 (fun y z hi hl => by
        by_cases e : y = b
        · rw [e]; exact q1 z hi.2.2.1 hi.2.2.2
        · exact hno y z hi (by omega)) with ⟨y, z, h', s1, s2, s3, s4, s5, s6⟩ | ⟨h', v7, v8', s1, s2, s3⟩
      · exact Or.inl ⟨y, z, h', s1, s2, s3, (st.trans q2).trans s4, s5, F2.tr s6⟩
      · exact Or.inr ⟨h', v7, v8', s1, (st.trans q2).trans s2, F2.tr s3⟩
theorem m81_40 {d H r q : Nat} (hV : VW A q) (hr : r ≤ 3) (hH : H ≤ 15) (h16 : rn A ≤ 16) : ∀ (n a : Nat) (v7 v8 : Value) (h : PH), a + n = er r 0 + 1 → 1 ≤ a → RC h 0 A → GS h A → (∀ x y z, In3 r x y z → x < a → ¬ OkR A (lf x y z) r H) → (∃ x y z h', In3 r x y z ∧ OkR A (lf x y z) r H ∧ (∀ x' y' z', In3 r x' y' z' → (x' < x ∨ (x' = x ∧ (y' < y ∨ (y' = y ∧ z' < z)))) → ¬ OkR A (lf x' y' z') r H) ∧ runL (g2 L) (d + 3) 6 false (some .boolean) kc_81 40 [.ref 163, .int (nI r), .int (nI H), .int (nI (er r 0)), .int (nI (er r 1)), .int (nI (er r 2)), .int (nI a), v7, v8] [] h = some (some (.int (nI 1)), h') ∧ (∀ i, i < 3 → hI h' 199 i = nI (lf x y z i)) ∧ Fs h h') ∨ (∃ h', (∀ x y z, In3 r x y z → ¬ OkR A (lf x y z) r H) ∧ runL (g2 L) (d + 3) 6 false (some .boolean) kc_81 40 [.ref 163, .int (nI r), .int (nI H), .int (nI (er r 0)), .int (nI (er r 1)), .int (nI (er r 2)), .int (nI a), v7, v8] [] h = some (some (.int (nI 0)), h') ∧ Fs h h') := by
  have he := er_le r 0
  intro n
  induction n with
  | zero =>
    intro a v7 v8 h ha a1 hC hG hno
    refine Or.inr ⟨h, fun x y z hi => hno x y z hi (by have := hi.2.1; omega), ?_, Fs.rf⟩
    rw [e81_40, if_pos (by rw [nI_ltN (by omega) (by omega)]; omega)]
  | succ n ih =>
    intro a v7 v8 h ha a1 hC hG hno
    have F1 : Fs h (wI h 199 0 (nI a)) := Fs.w
    have st : runL (g2 L) (d + 3) 6 false (some .boolean) kc_81 40 [.ref 163, .int (nI r), .int (nI H), .int (nI (er r 0)), .int (nI (er r 1)), .int (nI (er r 2)), .int (nI a), v7, v8] [] h = runL (g2 L) (d + 3) 6 false (some .boolean) kc_81 57 [.ref 163, .int (nI r), .int (nI H), .int (nI (er r 0)), .int (nI (er r 1)), .int (nI (er r 2)), .int (nI a), .int (nI 1), v8] [] (wI h 199 0 (nI a)) := by
      rw [e81_40, if_neg (by rw [nI_ltN (by omega) (by omega)]; omega)]
    rcases m81_57 (L := L) (d := d) (a := a) hV hr hH h16 ⟨a1, by omega⟩ (nI (er r 0)) (er r 1) 1 v8 (wI h 199 0 (nI a)) (by omega) (by omega) (hC.fs F1) (hG.fs F1 h16) (by rw [hI_wI, if_pos ⟨rfl, rfl⟩]) (fun y z hi hl => by have := hi.1; omega) with ⟨y, z, h', q1, q2, q3, q4, q5, q6⟩ | ⟨g, u7, u8, q1, q2, q3⟩
    · refine Or.inl ⟨a, y, z, h', ⟨a1, by omega, q1⟩, q2, fun x' y' z' hi hl => ?_, st.trans q4, q5, F1.tr q6⟩
      rcases hl with hl | ⟨rfl, hl⟩
      · exact hno x' y' z' hi hl
      · exact q3 y' z' hi.2.2 hl
    · have F2 := F1.tr q3
      rcases ih (a + 1) u7 u8 g (by omega) (by omega) (hC.fs F2) (hG.fs F2 h16) (fun x y z hi hl => by
        by_cases e : x = a
        · rw [e]; exact q1 y z hi.2.2
        · exact hno x y z hi (by omega)) with ⟨x, y, z, h', s1, s2, s3, s4, s5, s6⟩ | ⟨h', s1, s2, s3⟩
      · exact Or.inl ⟨x, y, z, h', s1, s2, s3, (st.trans q2).trans s4, s5, F2.tr s6⟩
      · exact Or.inr ⟨h', s1, (st.trans q2).trans s2, F2.tr s3⟩
theorem m81 (d : Nat) {H r q : Nat} {h : PH} (hV : VW A q) (hr : r ≤ 3) (hH : H ≤ 15) (h16 : rn A ≤ 16) (hC : RC h 0 A) (hG : GS h A) : (∃ x y z h', In3 r x y z ∧ OkR A (lf x y z) r H ∧ (∀ x' y' z', In3 r x' y' z' → (x' < x ∨ (x' = x ∧ (y' < y ∨ (y' = y ∧ z' < z)))) → ¬ OkR A (lf x' y' z') r H) ∧ exec (g2 L) (d + 4) 81 [.ref 163, .int (nI r), .int (nI H)] h = some (some (.int (nI 1)), h') ∧ (∀ i, i < 3 → hI h' 199 i = nI (lf x y z i)) ∧ Fs h h') ∨ (∃ h', (∀ x y z, In3 r x y z → ¬ OkR A (lf x y z) r H) ∧ exec (g2 L) (d + 4) 81 [.ref 163, .int (nI r), .int (nI H)] h = some (some (.int (nI 0)), h') ∧ Fs h h') := by
  have st : exec (g2 L) (d + 4) 81 [.ref 163, .int (nI r), .int (nI H)] h = runL (g2 L) (d + 3) 6 false (some .boolean) kc_81 40 [.ref 163, .int (nI r), .int (nI H), .int (nI (er r 0)), .int (nI (er r 1)), .int (nI (er r 2)), .int (nI 1), dm, dm] [] h := by
    have : r = 0 ∨ r = 1 ∨ r = 2 ∨ r = 3 := by omega
    rcases this with rfl | rfl | rfl | rfl
    · rw [x81, if_pos (by decide), e81_10, if_pos (by decide), if_pos (by decide)]
      rfl
    · rw [x81, if_neg (by decide), e81_10, if_pos (by decide), if_pos (by decide)]
      rfl
    · rw [x81, if_neg (by decide), e81_10, if_neg (by decide), if_pos (by decide)]
      rfl
    · rw [x81, if_neg (by decide), e81_10, if_neg (by decide), if_neg (by decide)]
      rfl
  rw [st]
  exact m81_40 hV hr hH h16 (er r 0) 1 dm dm h (by omega) (by omega) hC hG (fun x y z hi hl => by have := hi.1; omega)
end Rsearch
