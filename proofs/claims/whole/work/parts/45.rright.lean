-- PART: rounds, whether a try is right, the reference.
def wsl (A l : Nat → Nat) (r : Nat) : Nat → Nat → List (Nat → Prop)
  | _, 0 => []
  | k, n + 1 => wy A l r k :: wsl A l r (k + 1) n
def OkR (A l : Nat → Nat) (r H : Nat) : Prop := Okw H (wsl A l r 0 (rn A)) 0 0 0
theorem wsl_no {A l : Nat → Nat} {r H k : Nat} (hno : ∀ p, ¬ wy A l r k p) : ∀ (n j x y z : Nat), j ≤ k → k < j + n → ¬ Okw H (wsl A l r j n) x y z := by
  intro n
  induction n with
  | zero =>
    intro j x y z h1 h2
    omega
  | succ n ih =>
    intro j x y z h1 h2 ho
    obtain ⟨p, p8, hp, k0, k1, k2, hr⟩ := ho
    by_cases e : j = k
    · subst e
      exact hno p hp
    · exact ih (j + 1) _ _ _ (by omega) (by omega) hr
section Rright
variable {L : Nat} {A l : Nat → Nat}
theorem m206_24 {d H r k q : Nat} {h : PH} (hr : r ≤ 3) (hV : VW A q) (h0 : A 0 < 576000) (hk : k < rn A) (hM : RM h 254 A) (hE : ∀ k, k < rn A → ∀ p, p < 2 ^ r → E9 h A l r k p) (x3 : Int32) : ∀ (n p f : Nat), p + n = 2 ^ r → f ≤ 1 → (f = 1 ↔ ∃ p', p' < p ∧ wy A l r k p') → ∃ f' u6, runL (g2 L) (d + 1) 11 false (some .boolean) kc_206 24 [.ref 253, .int (nI r), .int (nI H), .int x3, .int (nI k), .int (nI f), .int (nI p)] [] h = runL (g2 L) (d + 1) 11 false (some .boolean) kc_206 5 [.ref 253, .int (nI r), .int (nI H), .int (nI f'), .int (nI (k + 1)), .int (nI f'), u6] [] h ∧ f' ≤ 1 ∧ (f' = 1 ↔ ∃ p', wy A l r k p') := by
  have h8 := pow_le8 hr
  intro n
  induction n with
  | zero =>
    intro p f hp hf hw
    refine ⟨f, .int (nI p), ?_, hf, ?_⟩
    · rw [e206_24, shl1 (by omega), if_pos (by rw [nI_leN (by omega) (by omega)]; omega), nI_plus]
    · rw [hw]
      exact ⟨fun ⟨p', _, a⟩ => ⟨p', a⟩, fun ⟨p', a⟩ => ⟨p', by have := a.1; omega, a⟩⟩
  | succ n ih =>
    intro p f hp hf hw
    by_cases hf1 : f = 1
    · obtain ⟨f', u6, e1, e2, e3⟩ := ih (p + 1) 1 (by omega) (Nat.le_refl _) ⟨fun _ => by
        obtain ⟨p', a1, a2⟩ := hw.mp hf1
        exact ⟨p', by omega, a2⟩, fun _ => rfl⟩
      refine ⟨f', u6, ?_, e2, e3⟩
      rw [e206_24, shl1 (by omega), if_neg (by rw [nI_leN (by omega) (by omega)]; omega), if_pos (by rw [hf1]; decide), nI_plus]
      exact e1
    · have hf0 : f = 0 := by omega
      have e7 := m207 (L := L) d hV h0 hr hk (show p < 2 ^ r by omega) hM hE
      by_cases z : (rS A l (rd A k) p r).1 = A 0 % 720
      · obtain ⟨f', u6, e1, e2, e3⟩ := ih (p + 1) 1 (by omega) (Nat.le_refl _) ⟨fun _ => ⟨p, by omega, by omega, z⟩, fun _ => rfl⟩
        refine ⟨f', u6, ?_, e2, e3⟩
        rw [e206_24, shl1 (by omega), if_neg (by rw [nI_leN (by omega) (by omega)]; omega), if_neg (by rw [hf0]; exact fun q => q rfl), e7, cI_s, bI_t z, if_neg (by decide), nI_plus]
        exact e1
      · obtain ⟨f', u6, e1, e2, e3⟩ := ih (p + 1) 0 (by omega) (by omega) ⟨fun q => by omega, fun ⟨p', a1, a2⟩ => by
          by_cases y : p' = p
          · subst y
            exact absurd a2.2 z
          · exact absurd (hw.mpr ⟨p', by omega, a2⟩) hf1⟩
        refine ⟨f', u6, ?_, e2, e3⟩
        rw [e206_24, shl1 (by omega), if_neg (by rw [nI_leN (by omega) (by omega)]; omega), if_neg (by rw [hf0]; exact fun q => q rfl), e7, cI_s, bI_f z, if_pos rfl, nI_plus]
        exact e1
theorem m206_5 {d H r q : Nat} {h : PH} (hr : r ≤ 3) (hV : VW A q) (h0 : A 0 < 576000) (hM : RM h 254 A) (hR : RH h A) (hE : ∀ k, k < rn A → ∀ p, p < 2 ^ r → E9 h A l r k p) : ∀ (n k : Nat) (v5 v6 : Value), k + n = rn A → (runL (g2 L) (d + 1) 11 false (some .boolean) kc_206 5 [.ref 253, .int (nI r), .int (nI H), .int (nI 1), .int (nI k), v5, v6] [] h = some (some (.int (nI 0)), h) ∧ ¬ OkR A l r H) ∨ (∃ u5 u6, runL (g2 L) (d + 1) 11 false (some .boolean) kc_206 5 [.ref 253, .int (nI r), .int (nI H), .int (nI 1), .int (nI k), v5, v6] [] h = runL (g2 L) (d + 1) 11 false (some .boolean) kc_206 80 [.ref 253, .int (nI r), .int (nI H), .int (nI 1), .int (nI 0), u5, u6] [] h) := by
  have h16 : rn A ≤ A 4 := rl_len _
  have v4 := hV.2.2.1
  intro n
  induction n with
  | zero =>
    intro k v5 v6 hk
    refine Or.inr ⟨v5, v6, ?_⟩
    rw [e206_5, hR.1, if_pos (by rw [nI_leN (by omega) (by omega)]; omega), if_pos (by decide)]
  | succ n ih =>
    intro k v5 v6 hk
    obtain ⟨f', u6, e1, e2, e3⟩ := m206_24 (L := L) (d := d) (H := H) hr hV h0 (show k < rn A by omega) hM hE (nI 1) (2 ^ r) 0 0 (by omega) (by omega) ⟨fun q => by omega, fun ⟨p', a, _⟩ => by omega⟩
    have st : runL (g2 L) (d + 1) 11 false (some .boolean) kc_206 5 [.ref 253, .int (nI r), .int (nI H), .int (nI 1), .int (nI k), v5, v6] [] h = runL (g2 L) (d + 1) 11 false (some .boolean) kc_206 5 [.ref 253, .int (nI r), .int (nI H), .int (nI f'), .int (nI (k + 1)), .int (nI f'), u6] [] h := by
      rw [e206_5, hR.1, if_neg (by rw [nI_leN (by omega) (by omega)]; omega), if_neg (show ¬ nI 1 = nI 0 by decide)]
      exact e1
    rw [st]
    by_cases hf : f' = 1
    · rw [hf]
      exact ih (k + 1) _ _ (by omega)
    · have hf0 : f' = 0 := by omega
      refine Or.inl ⟨?_, wsl_no (k := k) (fun p hp => hf (e3.mpr ⟨p, hp⟩)) _ _ _ _ _ (Nat.zero_le _) (by omega)⟩
      rw [hf0, e206_5, if_pos (show nI 0 = nI 0 from rfl), if_neg (show ¬ nI 0 ≠ nI 0 from fun q => q rfl), ite_self]
theorem m206_80 {d : Nat} (x1 x2 x3 : Int32) (v5 v6 : Value) : ∀ (n s : Nat) (h : PH), s + n = 4096 → ∃ h', runL (g2 L) d 11 false (some .boolean) kc_206 80 [.ref 253, .int x1, .int x2, .int x3, .int (nI s), v5, v6] [] h = runL (g2 L) d 11 false (some .boolean) kc_206 114 [.ref 253, .int x1, .int x2, .int x3, .int (nI 0), v5, v6] [] h' ∧ (∀ t, t < 4096 → s ≤ t → hI h' 277 t = if t = 0 then nI 1 else nI 0) ∧ (∀ t, t < s → hI h' 277 t = hI h 277 t) ∧ (∀ a, a ≠ 277 → hI h' a = hI h a) := by
  intro n
  induction n with
  | zero =>
    intro s h hs
    refine ⟨h, ?_, fun t h1 h2 => by omega, fun _ _ => rfl, fun _ _ => rfl⟩
    rw [e206_80, if_pos (by rw [nI_leN (by omega) (by omega)]; omega)]
  | succ n ih =>
    intro s h hs
    obtain ⟨h', e1, e2, e3, e4⟩ := ih (s + 1) (wI h 277 s (if s = 0 then nI 1 else nI 0)) (by omega)
    refine ⟨h', ?_, fun t h1 h2 => ?_, fun t ht => by rw [e3 t (by omega), hI_wI, if_neg (by omega)], fun a ha => by rw [e4 a ha, wI_ne ha]⟩
    · rw [e206_80, if_neg (by rw [nI_leN (by omega) (by omega)]; omega), inB_nI (by omega), asr_d (by omega), asr_d (by omega), ix_nI (by omega), nI_plus]
      by_cases z : s = 0
      · rw [if_pos z] at e1
        rw [if_neg (by rw [z]; exact fun q => q rfl)]
        exact e1
      · rw [if_neg z] at e1
        rw [if_pos (by rw [Ne, nI_eqI (by omega) (by omega)]; exact z)]
        exact e1
    · by_cases y : t = s
      · subst y
        rw [e3 t (by omega), hI_wI, if_pos ⟨rfl, rfl⟩]
      · exact e2 t h1 (by omega)
theorem m206_114 {d H r q : Nat} (hH : H ≤ 15) (hr : r ≤ 3) (hV : VW A q) (h0 : A 0 < 576000) (x3 : Int32) (v5 v6 : Value) : ∀ (n k : Nat) (S : Nat → Nat → Nat → Prop) (h : PH), k + n = rn A → RM h 254 A → RH h A → (∀ k, k < rn A → ∀ p, p < 2 ^ r → E9 h A l r k p) → (∀ x y z, S x y z → x ≤ 15 ∧ y ≤ 15 ∧ z ≤ 15) → T01 h 277 (dS S) → ∃ h' S', runL (g2 L) (d + 2) 11 false (some .boolean) kc_206 114 [.ref 253, .int (nI r), .int (nI H), .int x3, .int (nI k), v5, v6] [] h = runL (g2 L) (d + 2) 11 false (some .boolean) kc_206 143 [.ref 253, .int (nI r), .int (nI H), .int x3, .int (nI 0), .int (nI 0), v6] [] h' ∧ T01 h' 277 (dS S') ∧ (∀ x y z, S' x y z → x ≤ 15 ∧ y ≤ 15 ∧ z ≤ 15) ∧ (Ex3 H (wsl A l r k n) S ↔ Ex3 H [] S') ∧ (∀ a, a ≠ 277 → a ≠ 278 → hI h' a = hI h a) := by
  have h16 : rn A ≤ A 4 := rl_len _
  have v4 := hV.2.2.1
  intro n
  induction n with
  | zero =>
    intro k S h hk hM hR hE hS hT
    refine ⟨h, S, ?_, hT, hS, Iff.rfl, fun _ _ _ => rfl⟩
    rw [e206_114, hR.1, if_pos (by rw [nI_leN (by omega) (by omega)]; omega)]
  | succ n ih =>
    intro k S h hk hM hR hE hS hT
    obtain ⟨h1, a1, a2, a3⟩ := m208 (L := L) d hH hr hV h0 (show k < rn A by omega) hM hE hS hT
    obtain ⟨h', S', b1, b2, b3, b4, b5⟩ := ih (k + 1) (stp H (wy A l r k) S) h1 (by omega) (hM.congr (a3 254 (by omega) (by omega))) ⟨by rw [a3 253 (by omega) (by omega)]; exact hR.1, fun k' hk' => by rw [a3 272 (by omega) (by omega)]; exact hR.2 k' hk'⟩ (fun k' hk' p' hp' => by unfold E9; rw [a3 273 (by omega) (by omega), a3 274 (by omega) (by omega), a3 275 (by omega) (by omega)]; exact hE k' hk' p' hp') (fun x y z ⟨_, _, _, _, _, _, _, _, _, _, g1, g2', g3⟩ => by omega) a2
    refine ⟨h', S', ?_, b2, b3, Iff.trans Ex3_stp b4, fun a p1 p2 => by rw [b5 a p1 p2, a3 a p1 p2]⟩
    rw [e206_114, hR.1, if_neg (by rw [nI_leN (by omega) (by omega)]; omega), a1, cV_s, nI_plus]
    exact b1
theorem m206_143 {d : Nat} {D : Nat → Prop} {h : PH} (hD : T01 h 277 D) (x1 x2 x3 : Int32) (v6 : Value) : ∀ (n s f : Nat), s + n = 4096 → f ≤ 1 → (f = 1 ↔ ∃ t, t < s ∧ D t) → ∃ f', runL (g2 L) d 11 false (some .boolean) kc_206 143 [.ref 253, .int x1, .int x2, .int x3, .int (nI f), .int (nI s), v6] [] h = some (some (.int (nI f')), h) ∧ f' ≤ 1 ∧ (f' = 1 ↔ ∃ t, t < 4096 ∧ D t) := by
  intro n
  induction n with
  | zero =>
    intro s f hs hf hw
    have : s = 4096 := by omega
    subst this
    refine ⟨f, ?_, hf, hw⟩
    rw [e206_143, if_pos (by rw [nI_leN (by omega) (by omega)]; omega), asr_d (nrZ_le hf)]
  | succ n ih =>
    intro s f hs hf hw
    by_cases hf1 : f = 1
    · obtain ⟨f', e1, e2, e3⟩ := ih (s + 1) 1 (by omega) (Nat.le_refl _) ⟨fun _ => by
        obtain ⟨t, a1, a2⟩ := hw.mp hf1
        exact ⟨t, by omega, a2⟩, fun _ => rfl⟩
      refine ⟨f', ?_, e2, e3⟩
      rw [e206_143, if_neg (by rw [nI_leN (by omega) (by omega)]; omega), if_pos (by rw [hf1]; decide), nI_plus]
      exact e1
    · have hf0 : f = 0 := by omega
      by_cases z : D s
      · obtain ⟨f', e1, e2, e3⟩ := ih (s + 1) 1 (by omega) (Nat.le_refl _) ⟨fun _ => ⟨s, by omega, z⟩, fun _ => rfl⟩
        refine ⟨f', ?_, e2, e3⟩
        rw [e206_143, if_neg (by rw [nI_leN (by omega) (by omega)]; omega), if_neg (by rw [hf0]; exact fun q => q rfl), inB_nI (by omega), asr_d (by omega), ix_nI (by omega), (hD s (by omega)).1 z, if_neg (by decide), nI_plus]
        exact e1
      · obtain ⟨f', e1, e2, e3⟩ := ih (s + 1) 0 (by omega) (by omega) ⟨fun q => by omega, fun ⟨t, a1, a2⟩ => by
          by_cases y : t = s
          · subst y
            exact absurd a2 z
          · exact absurd (hw.mpr ⟨t, by omega, a2⟩) hf1⟩
        refine ⟨f', ?_, e2, e3⟩
        rw [e206_143, if_neg (by rw [nI_leN (by omega) (by omega)]; omega), if_neg (by rw [hf0]; exact fun q => q rfl), inB_nI (by omega), asr_d (by omega), ix_nI (by omega), (hD s (by omega)).2 z, if_pos rfl, nI_plus]
        exact e1
theorem m206 (d : Nat) {H r q : Nat} {h : PH} (hH : H ≤ 15) (hr : r ≤ 3) (hV : VW A q) (h0 : A 0 < 576000) (hM : RM h 254 A) (hR : RH h A) (hE : ∀ k, k < rn A → ∀ p, p < 2 ^ r → E9 h A l r k p) : ∃ f h', exec (g2 L) (d + 3) 206 [.ref 253, .int (nI r), .int (nI H)] h = some (some (.int (nI f)), h') ∧ f ≤ 1 ∧ (f = 1 ↔ OkR A l r H) ∧ (∀ a, a ≠ 277 → a ≠ 278 → hI h' a = hI h a) := by
  rcases m206_5 (L := L) (d := d + 1) (H := H) hr hV h0 hM hR hE (rn A) 0 dm dm (by omega) with ⟨e1, e2⟩ | ⟨u5, u6, e1⟩
  · refine ⟨0, h, ?_, by omega, ⟨fun q => by omega, fun q => absurd q e2⟩, fun _ _ _ => rfl⟩
    rw [x206]
    exact e1
  · obtain ⟨h1, a1, a2, -, a4⟩ := m206_80 (L := L) (d := d + 2) (nI r) (nI H) (nI 1) u5 u6 4096 0 h rfl
    have T1 : T01 h1 277 (dS (fun x y z => x = 0 ∧ y = 0 ∧ z = 0)) := fun s hs => by
      rw [a2 s hs (Nat.zero_le _)]
      constructor
      · rintro ⟨q1, q2, q3⟩
        rw [if_pos (by omega)]
      · intro q
        rw [if_neg (fun z => q (by rw [z]; exact ⟨rfl, rfl, rfl⟩))]
    obtain ⟨h2, S', b1, b2, b3, b4, b5⟩ := m206_114 (L := L) (d := d) (l := l) hH hr hV h0 (nI 1) u5 u6 (rn A) 0 (fun x y z => x = 0 ∧ y = 0 ∧ z = 0) h1 (by omega) (hM.congr (a4 254 (by omega))) ⟨by rw [a4 253 (by omega)]; exact hR.1, fun k' hk' => by rw [a4 272 (by omega)]; exact hR.2 k' hk'⟩ (fun k' hk' p' hp' => by unfold E9; rw [a4 273 (by omega), a4 274 (by omega), a4 275 (by omega)]; exact hE k' hk' p' hp') (fun x y z hx => by omega) T1
    obtain ⟨f, c1, c2, c3⟩ := m206_143 (L := L) (d := d + 2) b2 (nI r) (nI H) (nI 1) u6 4096 0 0 rfl (by omega) ⟨fun q => by omega, fun ⟨t, a, _⟩ => by omega⟩
    refine ⟨f, h2, ?_, c2, ?_, fun a p1 p2 => by rw [b5 a p1 p2, a4 a p1]⟩
    · rw [x206, e1, a1, b1]
      exact c1
    · rw [c3]
      have k : Ex3 H (wsl A l r 0 (rn A)) (fun x y z => x = 0 ∧ y = 0 ∧ z = 0) ↔ OkR A l r H := Ex3_at (fun _ _ _ => Iff.rfl)
      rw [← k, b4]
      constructor
      · rintro ⟨t, ht, hd⟩
        exact ⟨_, _, _, hd, trivial⟩
      · rintro ⟨x, y, z, hx, -⟩
        obtain ⟨x1, x2, x3⟩ := b3 x y z hx
        refine ⟨256 * x + 16 * y + z, by omega, ?_⟩
        show S' ((256 * x + 16 * y + z) / 256) ((256 * x + 16 * y + z) / 16 % 16) ((256 * x + 16 * y + z) % 16)
        rw [show (256 * x + 16 * y + z) / 256 = x by omega, show (256 * x + 16 * y + z) / 16 % 16 = y by omega, show (256 * x + 16 * y + z) % 16 = z by omega]
        exact hx
end Rright
