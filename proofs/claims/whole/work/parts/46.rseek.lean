-- PART: rounds, the reference seeks.
def lf (a b c : Nat) : Nat → Nat := fun i => if i = 0 then a else if i = 1 then b else c
def Sg (h : PH) (A l : Nat → Nat) (r : Nat) : Prop := RM h 254 A ∧ RH h A ∧ ∀ r', r' ≤ r → ∀ k, k < rn A → ∀ p, p < 2 ^ r' → E9 h A l r' k p
theorem E9.len {h : PH} {A l l' : Nat → Nat} {r k p : Nat} (e : ∀ i, i < r → l i = l' i) (hE : E9 h A l r k p) : E9 h A l' r k p := by
  unfold E9 at hE ⊢
  rw [← rS_len (l := l) (l' := l') r e]
  exact hE
theorem Sg.len {h : PH} {A l l' : Nat → Nat} {r : Nat} (hS : Sg h A l r) (e : ∀ i, i < r → l i = l' i) : Sg h A l' r := ⟨hS.1, hS.2.1, fun r' hr k hk p hp => (hS.2.2 r' hr k hk p hp).len (fun i hi => e i (by omega))⟩
theorem Sg.low {h : PH} {A l : Nat → Nat} {r r' : Nat} (hS : Sg h A l r) (hr : r' ≤ r) : Sg h A l r' := ⟨hS.1, hS.2.1, fun r'' hr'' => hS.2.2 r'' (by omega)⟩
theorem Sg.fr {h h' : PH} {A l : Nat → Nat} {r : Nat} (hS : Sg h A l r) (e : ∀ a, (a = 253 ∨ a = 254 ∨ (272 ≤ a ∧ a ≤ 275)) → hI h' a = hI h a) : Sg h' A l r := by
  refine ⟨hS.1.congr (e 254 (by omega)), ⟨by rw [e 253 (by omega)]; exact hS.2.1.1, fun k hk => by rw [e 272 (by omega)]; exact hS.2.1.2 k hk⟩, fun r' hr k hk p hp => ?_⟩
  unfold E9
  rw [e 273 (by omega), e 274 (by omega), e 275 (by omega)]
  exact hS.2.2 r' hr k hk p hp
theorem OkR_len {A l l' : Nat → Nat} {r H : Nat} (e : ∀ i, i < r → l i = l' i) : OkR A l r H ↔ OkR A l' r H := by
  have w : ∀ k, wy A l r k = wy A l' r k := fun k => by
    unfold wy
    funext p
    rw [rS_len (l := l) (l' := l') r e]
  have s : ∀ n k, wsl A l r k n = wsl A l' r k n := by
    intro n
    induction n with
    | zero => intro k; rfl
    | succ n ih => intro k; rw [wsl, wsl, w, ih]
  unfold OkR
  rw [s]
section Rseek
variable {L : Nat} {A l : Nat → Nat}
theorem go9 (d : Nat) {r q : Nat} {h : PH} (hr : r ≤ 2) (hV : VW A q) (hq : q ≤ 100000000) (hn : l r ≤ 30) (hb : bg l r ≤ 60) (hS : Sg h A l r) : ∃ h', exec (g2 L) (d + 3) 209 [.ref 253, .int (nI r), .int (nI (l r)), .int (nI (bg l r))] h = some (none, h') ∧ Sg h' A l (r + 1) ∧ Fr h h' ∧ hI h' 276 = hI h 276 := by
  have h16 : rn A ≤ A 4 := rl_len _
  have v4 := hV.2.2.1
  obtain ⟨h', e1, e2, e3, e4, e5, e6, e7, e8⟩ := m209 (L := L) d hr hV hq hn hb hS.1 hS.2.1 (hS.2.2 r (Nat.le_refl _))
  refine ⟨h', e1, ⟨e2, e3, fun r' hr' k hk p hp => ?_⟩, e6, e7⟩
  by_cases z : r' = r + 1
  · subst z
    exact e5 k hk p hp
  · have h8 := pow_le8 (show r' ≤ 3 by omega)
    unfold E9
    rw [e8 273 (by omega) (by omega) _ (by omega), e8 274 (by omega) (by omega) _ (by omega), e8 275 (by omega) (by omega) _ (by omega)]
    exact hS.2.2 r' (by omega) k hk p hp
theorem tst (d : Nat) {H r q : Nat} {h : PH} (hH : H ≤ 15) (hr : r ≤ 3) (hV : VW A q) (h0 : A 0 < 576000) (hS : Sg h A l r) : ∃ f h', exec (g2 L) (d + 3) 206 [.ref 253, .int (nI r), .int (nI H)] h = some (some (.int (nI f)), h') ∧ f ≤ 1 ∧ (f = 1 ↔ OkR A l r H) ∧ Sg h' A l r ∧ Fr h h' ∧ hI h' 276 = hI h 276 := by
  obtain ⟨f, h', e1, e2, e3, e4⟩ := m206 (L := L) d hH hr hV h0 hS.1 hS.2.1 (hS.2.2 r (Nat.le_refl _))
  exact ⟨f, h', e1, e2, e3, hS.fr (fun a ha => e4 a (by omega) (by omega)), ⟨fun a p1 p2 => e4 a (by omega) (by omega), fun k hk => by rw [e4 253 (by omega) (by omega)]⟩, e4 276 (by omega) (by omega)⟩
theorem Sg.w6 {h : PH} {r k : Nat} {v : Int32} (hS : Sg h A l r) : Sg (wI h 276 k v) A l r := hS.fr (fun a ha => wI_ne (by omega))
def P6 (h : PH) (a b c : Nat) : Prop := hI h 276 0 = nI a ∧ hI h 276 1 = nI b ∧ hI h 276 2 = nI c
/-- the third round of three -/
theorem m205_120 {d H q a b : Nat} (hH : H ≤ 15) (hV : VW A q) (hq : q ≤ 100000000) (h0 : A 0 < 576000) (ha : a ≤ 30) (hb : b ≤ 30) : ∀ (n c : Nat) (h : PH), c + n = 31 → 1 ≤ c → Sg h A (lf a b 0) 2 → P6 h a b c → (∀ z, 1 ≤ z → z < c → ¬ OkR A (lf a b z) 3 H) → (∃ z h', 1 ≤ z ∧ z ≤ 30 ∧ OkR A (lf a b z) 3 H ∧ (∀ z', 1 ≤ z' → z' < z → ¬ OkR A (lf a b z') 3 H) ∧ runL (g2 L) (d + 3) 11 false (some .boolean) kc_205 120 [.ref 253, .int (nI 3), .int (nI H)] [] h = some (some (.int (nI 1)), h') ∧ P6 h' a b z ∧ Fr h h') ∨ (∃ h', (∀ z, 1 ≤ z → z ≤ 30 → ¬ OkR A (lf a b z) 3 H) ∧ runL (g2 L) (d + 3) 11 false (some .boolean) kc_205 120 [.ref 253, .int (nI 3), .int (nI H)] [] h = runL (g2 L) (d + 3) 11 false (some .boolean) kc_205 64 [.ref 253, .int (nI 3), .int (nI H)] [] h' ∧ (hI h' 276 0 = nI a ∧ hI h' 276 1 = nI (b + 1)) ∧ Sg h' A (lf a b 0) 1 ∧ Fr h h') := by
  intro n
  induction n with
  | zero =>
    intro c h hc h1 hS hP hno
    refine Or.inr ⟨wI h 276 1 (nI (b + 1)), fun z q1 q2 => hno z q1 (by omega), ?_, ⟨?_, ?_⟩, (hS.low (by omega)).w6, Fr.w (by omega)⟩
    · rw [e205_120, hP.2.2, if_pos (by rw [nI_ltN (by omega) (by omega)]; omega), hP.2.1, nI_plus]
    · rw [hI_wI, if_neg (by omega)]
      exact hP.1
    · rw [hI_wI, if_pos ⟨rfl, rfl⟩]
  | succ n ih =>
    intro c h hc h1 hS hP hno
    have hS' : Sg h A (lf a b c) 2 := hS.len (fun i hi => by unfold lf; split; rfl; rw [if_pos (by omega), if_pos (by omega)])
    have bg2 : bg (lf a b c) 2 = a + b := by
      show 0 + a + b = a + b
      omega
    obtain ⟨h1', a1, a2, a3, a4⟩ := go9 (L := L) d (r := 2) (by omega) hV hq (show lf a b c 2 ≤ 30 by show c ≤ 30; omega) (by omega) hS'
    obtain ⟨f, h2, b1, b2, b3, b4, b5, b6⟩ := tst (L := L) d hH (by omega) hV h0 a2
    have a1' : exec (g2 L) (d + 3) 209 [.ref 253, .int (nI 2), .int (nI c), .int (nI (a + b))] h = some (none, h1') := by
      rw [← bg2]
      exact a1
    have st : runL (g2 L) (d + 3) 11 false (some .boolean) kc_205 120 [.ref 253, .int (nI 3), .int (nI H)] [] h = if f = 1 then some (some (.int (nI 1)), h2) else runL (g2 L) (d + 3) 11 false (some .boolean) kc_205 120 [.ref 253, .int (nI 3), .int (nI H)] [] (wI h2 276 2 (nI (c + 1))) := by
      rw [e205_120, hP.2.2, if_neg (by rw [nI_ltN (by omega) (by omega)]; omega), if_neg (by decide), hP.1, hP.2.1, nI_plus, a1', cV_s, b1, cI_s, b6, a4, hP.2.2, nI_plus]
      by_cases z : f = 1
      · rw [z, if_neg (by decide), if_pos rfl]
      · rw [if_pos (by rw [show f = 0 by omega]), if_neg z]
    by_cases z : f = 1
    · rw [if_pos z] at st
      refine Or.inl ⟨c, h2, h1, by omega, b3.mp z, hno, st, ?_, a3.tr b5⟩
      unfold P6
      rw [b6, a4]
      exact hP
    · rw [if_neg z] at st
      have hP' : P6 (wI h2 276 2 (nI (c + 1))) a b (c + 1) := by
        unfold P6
        rw [hI_wI, if_neg (by omega), hI_wI, if_neg (by omega), hI_wI, if_pos ⟨rfl, rfl⟩, b6, a4]
        exact ⟨hP.1, hP.2.1, rfl⟩
      have hno' : ∀ z, 1 ≤ z → z < c + 1 → ¬ OkR A (lf a b z) 3 H := by
        intro y y1 y2
        by_cases e : y = c
        · subst e
          exact fun o => z (b3.mpr o)
        · exact hno y y1 (by omega)
      have hS2 : Sg (wI h2 276 2 (nI (c + 1))) A (lf a b 0) 2 := ((b4.low (by omega)).w6).len (fun i hi => by unfold lf; split; rfl; rw [if_pos (by omega), if_pos (by omega)])
      rcases ih (c + 1) _ (by omega) (by omega) hS2 hP' hno' with ⟨y, h', g1, g2', g3, g4, g5, g6, g7⟩ | ⟨h', g1, g2', g3, g4, g5⟩
      · exact Or.inl ⟨y, h', g1, g2', g3, g4, st.trans g5, g6, ((a3.tr b5).tr (Fr.w (by omega))).tr g7⟩
      · exact Or.inr ⟨h', g1, st.trans g2', g3, g4, ((a3.tr b5).tr (Fr.w (by omega))).tr g5⟩
end Rseek
