-- PART: rounds, the reference adds one dial.
def wy (A l : Nat → Nat) (r k : Nat) : Nat → Prop := fun p => p < 2 ^ r ∧ (rS A l (rd A k) p r).1 = A 0 % 720
def T01 (h : PH) (c : Nat) (P : Nat → Prop) : Prop := ∀ s, s < 4096 → (P s → hI h c s = nI 1) ∧ (¬ P s → hI h c s = nI 0)
theorem T01.iff {h : PH} {c : Nat} {P P' : Nat → Prop} (hT : T01 h c P) (e : ∀ s, s < 4096 → (P' s ↔ P s)) : T01 h c P' := fun s hs => ⟨fun q => (hT s hs).1 ((e s hs).mp q), fun q => (hT s hs).2 (fun z => q ((e s hs).mpr z))⟩
theorem T01.eq0 {h : PH} {c : Nat} {P : Nat → Prop} (hT : T01 h c P) {s : Nat} (hs : s < 4096) : (hI h c s = nI 0) ↔ ¬ P s := by
  constructor
  · intro e q
    rw [(hT s hs).1 q] at e
    exact absurd e (by decide)
  · exact (hT s hs).2
def tg (p s : Nat) : Nat := 256 * (s / 256 + b0 p) + 16 * (s / 16 % 16 + b1 p) + (s % 16 + b2 p)
def ft (H p s : Nat) : Prop := s / 256 + b0 p ≤ H ∧ s / 16 % 16 + b1 p ≤ H ∧ s % 16 + b2 p ≤ H
def Nx (H r : Nat) (W C : Nat → Prop) (P Q s' : Nat) : Prop := ∃ p s, p < 2 ^ r ∧ s < 4096 ∧ (p < P ∨ (p = P ∧ s < Q)) ∧ W p ∧ C s ∧ ft H p s ∧ s' = tg p s
def dS (S : Nat → Nat → Nat → Prop) : Nat → Prop := fun s => S (s / 256) (s / 16 % 16) (s % 16)
theorem sx {s p : Nat} (hs : s < 2147483648) : nI s / nI 256 + (nI p &&& nI 1) = nI (s / 256 + b0 p) := by
  rw [nI_quot hs (by omega), nI_and, Nat.and_one_is_mod, nI_plus]
  rfl
theorem sy {s p : Nat} (hs : s < 2147483648) (hp : p < 2147483648) : nI s / nI 16 % nI 16 + (nI p >>> (nI 1 &&& nI 31) &&& nI 1) = nI (s / 16 % 16 + b1 p) := by
  rw [nI_quot hs (by omega), nI_rest (by omega) (by omega), nI_shr hp (by omega), nI_and, Nat.and_one_is_mod, Nat.shiftRight_eq_div_pow, nI_plus]
  rfl
theorem sz {s p : Nat} (hs : s < 2147483648) (hp : p < 2147483648) : nI s % nI 16 + (nI p >>> (nI 2 &&& nI 31) &&& nI 1) = nI (s % 16 + b2 p) := by
  rw [nI_rest hs (by omega), nI_shr hp (by omega), nI_and, Nat.and_one_is_mod, Nat.shiftRight_eq_div_pow, nI_plus]
  rfl
theorem b0_le (p : Nat) : b0 p ≤ 1 := by unfold b0; omega
theorem b1_le (p : Nat) : b1 p ≤ 1 := by unfold b1; omega
theorem b2_le (p : Nat) : b2 p ≤ 1 := by unfold b2; omega
section Radds
variable {L : Nat} {A l : Nat → Nat}
theorem m207 (d : Nat) {r k p q : Nat} {h : PH} (hV : VW A q) (h0 : A 0 < 576000) (hr : r ≤ 3) (hk : k < rn A) (hp : p < 2 ^ r) (hM : RM h 254 A) (hE : ∀ k, k < rn A → ∀ p, p < 2 ^ r → E9 h A l r k p) : exec (g2 L) (d + 1) 207 [.ref 253, .int (nI r), .int (nI k), .int (nI p)] h = some (some (.int (bI ((rS A l (rd A k) p r).1 = A 0 % 720))), h) := by
  have h16 : rn A ≤ A 4 := rl_len _
  have v4 := hV.2.2.1
  have h8 : 2 ^ r ≤ 8 := by
    have c : r = 0 ∨ r = 1 ∨ r = 2 ∨ r = 3 := by omega
    rcases c with rfl | rfl | rfl | rfl <;> decide
  have e := (hE k hk p hp).1
  obtain ⟨j1, -, -⟩ := rS_in (l := l) (p := p) (d := rd A k) (hV.2.2.2.2.2 _ (rd_lt hk)).2.2.1 (hV.2.2.2.2.2 _ (rd_lt hk)).2.2.2.1 (hV.2.2.2.2.2 _ (rd_lt hk)).2.2.2.2.1 r
  rw [x207, ixr, inB_nI (by omega), asr_d (by omega), ix_nI (by omega), e, hM.at (k := 0) (by omega) (by omega), nI_rest (by omega) (by omega)]
  by_cases z : (rS A l (rd A k) p r).1 = A 0 % 720
  · rw [if_neg (by rw [z]; exact fun q => q rfl), bI_t z]
  · rw [if_pos (by rw [Ne, nI_eqI (by omega) (by omega)]; exact z), bI_f z]
theorem m208_50 {d H r p : Nat} (hH : H ≤ 15) (hr : r ≤ 3) (hp : p < 2 ^ r) {W C : Nat → Prop} (hW : W p) (x2 : Int32) : ∀ (n s : Nat) (v6 v7 v8 : Value) (h : PH), s + n = 4096 → T01 h 277 C → T01 h 278 (Nx H r W C p s) → ∃ h' u5 u6 u7 u8, runL (g2 L) d 11 false none kc_208 50 [.ref 253, .int (nI r), .int x2, .int (nI H), .int (nI p), .int (nI s), v6, v7, v8] [] h = runL (g2 L) d 11 false none kc_208 28 [.ref 253, .int (nI r), .int x2, .int (nI H), .int (nI (p + 1)), u5, u6, u7, u8] [] h' ∧ T01 h' 278 (Nx H r W C (p + 1) 0) ∧ (∀ a, a ≠ 278 → hI h' a = hI h a) := by
  have h8 : 2 ^ r ≤ 8 := by
    have c : r = 0 ∨ r = 1 ∨ r = 2 ∨ r = 3 := by omega
    rcases c with rfl | rfl | rfl | rfl <;> decide
  intro n
  induction n with
  | zero =>
    intro s v6 v7 v8 h hs hC hN
    refine ⟨h, .int (nI s), v6, v7, v8, ?_, hN.iff (fun s' _ => ?_), fun _ _ => rfl⟩
    · rw [e208_50, if_pos (by rw [nI_leN (by omega) (by omega)]; omega), nI_plus]
    · constructor
      · rintro ⟨p', t, a1, a2, a3, a4⟩
        exact ⟨p', t, a1, a2, by omega, a4⟩
      · rintro ⟨p', t, a1, a2, a3, a4⟩
        exact ⟨p', t, a1, a2, by omega, a4⟩
  | succ n ih =>
    intro s v6 v7 v8 h hs hC hN
    have f0 := b0_le p
    have f1 := b1_le p
    have f2 := b2_le p
    by_cases c : C s
    · by_cases f : ft H p s
      · have htg : tg p s < 4096 := by
          unfold tg
          obtain ⟨g0, g1, g2'⟩ := f
          omega
        have hN' : T01 (wI h 278 (tg p s) (nI 1)) 278 (Nx H r W C p (s + 1)) := by
          intro s' hs'
          rw [hI_wI]
          by_cases z : s' = tg p s
          · rw [if_pos ⟨rfl, z⟩]
            exact ⟨fun _ => rfl, fun q => absurd ⟨p, s, hp, by omega, Or.inr ⟨rfl, by omega⟩, hW, c, f, z⟩ q⟩
          · rw [if_neg (fun q => z q.2)]
            refine ⟨fun q => (hN s' hs').1 ?_, fun q => (hN s' hs').2 (fun y => q ?_)⟩
            · obtain ⟨p', t, a1, a2, a3, a4, a5, a6, a7⟩ := q
              refine ⟨p', t, a1, a2, ?_, a4, a5, a6, a7⟩
              rcases a3 with a3 | ⟨a3, a3'⟩
              · exact Or.inl a3
              · by_cases y : t = s
                · subst a3 y
                  exact absurd a7 z
                · exact Or.inr ⟨a3, by omega⟩
            · obtain ⟨p', t, a1, a2, a3, a4⟩ := y
              exact ⟨p', t, a1, a2, by omega, a4⟩
        obtain ⟨h', u5, u6, u7, u8, e1, e2, e3⟩ := ih (s + 1) (.int (nI (s / 256 + b0 p))) (.int (nI (s / 16 % 16 + b1 p))) (.int (nI (s % 16 + b2 p))) (wI h 278 (tg p s) (nI 1)) (by omega) (fun t ht => by rw [wI_ne (by omega)]; exact hC t ht) hN'
        refine ⟨h', u5, u6, u7, u8, ?_, e2, fun a ha => by rw [e3 a ha, wI_ne ha]⟩
        obtain ⟨g0, g1, g2'⟩ := id f
        rw [e208_50, if_neg (by rw [nI_leN (by omega) (by omega)]; omega), inB_nI (by omega), asr_d (by omega), ix_nI (by omega), (hC s (by omega)).1 c, if_neg (by decide), sx (by omega), sy (by omega) (by omega), sz (by omega) (by omega), if_neg (by rw [nI_ltN (by omega) (by omega)]; omega), if_neg (by rw [nI_ltN (by omega) (by omega)]; omega), if_neg (by rw [nI_ltN (by omega) (by omega)]; omega), nI_times, nI_times, nI_plus, nI_plus, nI_plus, inB_nI (show 256 * (s / 256 + b0 p) + 16 * (s / 16 % 16 + b1 p) + (s % 16 + b2 p) < 4294967296 by omega), asr_d (show 256 * (s / 256 + b0 p) + 16 * (s / 16 % 16 + b1 p) + (s % 16 + b2 p) < 4096 from htg), ix_nI (show 256 * (s / 256 + b0 p) + 16 * (s / 16 % 16 + b1 p) + (s % 16 + b2 p) < 4294967296 by omega)]
        exact e1
      · have hN' : T01 h 278 (Nx H r W C p (s + 1)) := by
          refine hN.iff (fun s' _ => ⟨?_, ?_⟩)
          · rintro ⟨p', t, a1, a2, a3, a4, a5, a6, a7⟩
            refine ⟨p', t, a1, a2, ?_, a4, a5, a6, a7⟩
            rcases a3 with a3 | ⟨a3, a3'⟩
            · exact Or.inl a3
            · by_cases y : t = s
              · subst a3 y
                exact absurd a6 f
              · exact Or.inr ⟨a3, by omega⟩
          · rintro ⟨p', t, a1, a2, a3, a4⟩
            exact ⟨p', t, a1, a2, by omega, a4⟩
        obtain ⟨h', u5, u6, u7, u8, e1, e2, e3⟩ := ih (s + 1) (.int (nI (s / 256 + b0 p))) (.int (nI (s / 16 % 16 + b1 p))) (.int (nI (s % 16 + b2 p))) h (by omega) hC hN'
        refine ⟨h', u5, u6, u7, u8, ?_, e2, e3⟩
        rw [e208_50, if_neg (by rw [nI_leN (by omega) (by omega)]; omega), inB_nI (by omega), asr_d (by omega), ix_nI (by omega), (hC s (by omega)).1 c, if_neg (by decide), sx (by omega), sy (by omega) (by omega), sz (by omega) (by omega), nI_plus]
        unfold ft at f
        by_cases g0 : s / 256 + b0 p ≤ H
        · rw [if_neg (show ¬ nI H < nI (s / 256 + b0 p) by rw [nI_ltN (by omega) (by omega)]; omega)]
          by_cases g1 : s / 16 % 16 + b1 p ≤ H
          · rw [if_neg (show ¬ nI H < nI (s / 16 % 16 + b1 p) by rw [nI_ltN (by omega) (by omega)]; omega), if_pos (by rw [nI_ltN (by omega) (by omega)]; omega)]
            exact e1
          · rw [if_pos (by rw [nI_ltN (by omega) (by omega)]; omega)]
            exact e1
        · rw [if_pos (by rw [nI_ltN (by omega) (by omega)]; omega)]
          exact e1
    · have hN' : T01 h 278 (Nx H r W C p (s + 1)) := by
        refine hN.iff (fun s' _ => ⟨?_, ?_⟩)
        · rintro ⟨p', t, a1, a2, a3, a4, a5, a6, a7⟩
          refine ⟨p', t, a1, a2, ?_, a4, a5, a6, a7⟩
          rcases a3 with a3 | ⟨a3, a3'⟩
          · exact Or.inl a3
          · by_cases y : t = s
            · subst a3 y
              exact absurd a5 c
            · exact Or.inr ⟨a3, by omega⟩
        · rintro ⟨p', t, a1, a2, a3, a4⟩
          exact ⟨p', t, a1, a2, by omega, a4⟩
      obtain ⟨h', u5, u6, u7, u8, e1, e2, e3⟩ := ih (s + 1) v6 v7 v8 h (by omega) hC hN'
      refine ⟨h', u5, u6, u7, u8, ?_, e2, e3⟩
      rw [e208_50, if_neg (by rw [nI_leN (by omega) (by omega)]; omega), inB_nI (by omega), asr_d (by omega), ix_nI (by omega), (hC s (by omega)).2 c, if_pos rfl, nI_plus]
      exact e1
theorem pow_le8 {r : Nat} (hr : r ≤ 3) : 2 ^ r ≤ 8 := by
  have c : r = 0 ∨ r = 1 ∨ r = 2 ∨ r = 3 := by omega
  rcases c with rfl | rfl | rfl | rfl <;> decide
theorem m208_28 {d H r k q : Nat} (hH : H ≤ 15) (hr : r ≤ 3) (hV : VW A q) (h0 : A 0 < 576000) (hk : k < rn A) {C : Nat → Prop} : ∀ (n p : Nat) (v5 v6 v7 v8 : Value) (h : PH), p + n = 2 ^ r → RM h 254 A → (∀ k, k < rn A → ∀ p, p < 2 ^ r → E9 h A l r k p) → T01 h 277 C → T01 h 278 (Nx H r (wy A l r k) C p 0) → ∃ h' u5 u6 u7 u8, runL (g2 L) (d + 1) 11 false none kc_208 28 [.ref 253, .int (nI r), .int (nI k), .int (nI H), .int (nI p), v5, v6, v7, v8] [] h = runL (g2 L) (d + 1) 11 false none kc_208 166 [.ref 253, .int (nI r), .int (nI k), .int (nI H), .int (nI 0), u5, u6, u7, u8] [] h' ∧ T01 h' 278 (Nx H r (wy A l r k) C (2 ^ r) 0) ∧ (∀ a, a ≠ 278 → hI h' a = hI h a) := by
  have h8 := pow_le8 hr
  intro n
  induction n with
  | zero =>
    intro p v5 v6 v7 v8 h hp hM hE hC hN
    have hp' : p = 2 ^ r := by omega
    subst hp'
    refine ⟨h, v5, v6, v7, v8, ?_, hN, fun _ _ => rfl⟩
    rw [e208_28, shl1 (by omega), if_pos (by rw [nI_leN (by omega) (by omega)]; omega)]
  | succ n ih =>
    intro p v5 v6 v7 v8 h hp hM hE hC hN
    have e7 := m207 (L := L) d hV h0 hr hk (show p < 2 ^ r by omega) hM hE
    by_cases z : (rS A l (rd A k) p r).1 = A 0 % 720
    · obtain ⟨h1, t5, t6, t7, t8, a1, a2, a3⟩ := m208_50 (L := L) (d := d + 1) hH hr (show p < 2 ^ r by omega) (W := wy A l r k) (C := C) ⟨by omega, z⟩ (nI k) 4096 0 v6 v7 v8 h rfl hC hN
      obtain ⟨h', u5, u6, u7, u8, c1, c2, c3⟩ := ih (p + 1) t5 t6 t7 t8 h1 (by omega) (hM.congr (a3 254 (by omega))) (fun k' hk' p' hp' => by unfold E9; rw [a3 273 (by omega), a3 274 (by omega), a3 275 (by omega)]; exact hE k' hk' p' hp') (fun t ht => by rw [a3 277 (by omega)]; exact hC t ht) a2
      refine ⟨h', u5, u6, u7, u8, ?_, c2, fun a ha => by rw [c3 a ha, a3 a ha]⟩
      rw [e208_28, shl1 (by omega), if_neg (by rw [nI_leN (by omega) (by omega)]; omega), e7, cI_s, bI_t z, if_neg (by decide), a1, c1]
    · obtain ⟨h', u5, u6, u7, u8, c1, c2, c3⟩ := ih (p + 1) v5 v6 v7 v8 h (by omega) hM hE hC (hN.iff (fun s' _ => by
        constructor
        · rintro ⟨p', t, a1, a2, a3, a4, a5⟩
          refine ⟨p', t, a1, a2, ?_, a4, a5⟩
          by_cases y : p' = p
          · subst y
            exact absurd a4.2 z
          · omega
        · rintro ⟨p', t, a1, a2, a3, a4⟩
          exact ⟨p', t, a1, a2, by omega, a4⟩))
      refine ⟨h', u5, u6, u7, u8, ?_, c2, c3⟩
      rw [e208_28, shl1 (by omega), if_neg (by rw [nI_leN (by omega) (by omega)]; omega), e7, cI_s, bI_f z, if_pos rfl, nI_plus]
      exact c1
theorem m208_166 {d : Nat} {D : Nat → Prop} (x1 x2 x3 : Int32) (v5 v6 v7 v8 : Value) : ∀ (n s : Nat) (h : PH), s + n = 4096 → T01 h 278 D → ∃ h', runL (g2 L) d 11 false none kc_208 166 [.ref 253, .int x1, .int x2, .int x3, .int (nI s), v5, v6, v7, v8] [] h = some (none, h') ∧ (∀ t, t < 4096 → hI h' 277 t = if s ≤ t then hI h 278 t else hI h 277 t) ∧ (∀ a, a ≠ 277 → hI h' a = hI h a) := by
  intro n
  induction n with
  | zero =>
    intro s h hs hD
    refine ⟨h, ?_, fun t ht => by rw [if_neg (by omega)], fun _ _ => rfl⟩
    rw [e208_166, if_pos (by rw [nI_leN (by omega) (by omega)]; omega)]
  | succ n ih =>
    intro s h hs hD
    have z : nrZ (hI h 278 s) = hI h 278 s := by
      by_cases c : D s
      · rw [(hD s (by omega)).1 c]; exact nrZ_le (u := 1) (by omega)
      · rw [(hD s (by omega)).2 c]; exact nrZ_le (u := 0) (by omega)
    obtain ⟨h', e1, e2, e3⟩ := ih (s + 1) (wI h 277 s (hI h 278 s)) (by omega) (fun t ht => by rw [wI_ne (by omega)]; exact hD t ht)
    refine ⟨h', ?_, fun t ht => ?_, fun a ha => by rw [e3 a ha, wI_ne ha]⟩
    · rw [e208_166, if_neg (by rw [nI_leN (by omega) (by omega)]; omega), inB_nI (by omega), asr_d (by omega), asr_d (by omega), ix_nI (by omega), z, nI_plus]
      exact e1
    · rw [e2 t ht]
      by_cases y : s + 1 ≤ t
      · rw [if_pos y, if_pos (by omega), wI_ne (by omega)]
      · rw [if_neg y, hI_wI]
        by_cases y2 : t = s
        · rw [if_pos ⟨rfl, y2⟩, if_pos (by omega), y2]
        · rw [if_neg (fun q => y2 q.2), if_neg (by omega)]
theorem m208_3 {d : Nat} (x1 x2 x3 : Int32) : ∀ (n s : Nat) (h : PH), s + n = 4096 → ∃ h', runL (g2 L) d 11 false none kc_208 3 [.ref 253, .int x1, .int x2, .int x3, .int (nI s), dm, dm, dm, dm] [] h = runL (g2 L) d 11 false none kc_208 28 [.ref 253, .int x1, .int x2, .int x3, .int (nI 0), dm, dm, dm, dm] [] h' ∧ (∀ t, t < 4096 → s ≤ t → hI h' 278 t = nI 0) ∧ (∀ t, t < s → hI h' 278 t = hI h 278 t) ∧ (∀ a, a ≠ 278 → hI h' a = hI h a) := by
  intro n
  induction n with
  | zero =>
    intro s h hs
    refine ⟨h, ?_, fun t h1 h2 => by omega, fun _ _ => rfl, fun _ _ => rfl⟩
    rw [e208_3, if_pos (by rw [nI_leN (by omega) (by omega)]; omega)]
  | succ n ih =>
    intro s h hs
    obtain ⟨h', e1, e2, e3, e4⟩ := ih (s + 1) (wI h 278 s (nI 0)) (by omega)
    refine ⟨h', ?_, fun t h1 h2 => ?_, fun t ht => by rw [e3 t (by omega), hI_wI, if_neg (by omega)], fun a ha => by rw [e4 a ha, wI_ne ha]⟩
    · rw [e208_3, if_neg (by rw [nI_leN (by omega) (by omega)]; omega), inB_nI (by omega), asr_d (by omega), ix_nI (by omega), nI_plus]
      exact e1
    · by_cases y : t = s
      · subst y
        rw [e3 t (by omega), hI_wI, if_pos ⟨rfl, rfl⟩]
      · exact e2 t h1 (by omega)
theorem m208 (d : Nat) {H r k q : Nat} {h : PH} (hH : H ≤ 15) (hr : r ≤ 3) (hV : VW A q) (h0 : A 0 < 576000) (hk : k < rn A) (hM : RM h 254 A) (hE : ∀ k, k < rn A → ∀ p, p < 2 ^ r → E9 h A l r k p) {S : Nat → Nat → Nat → Prop} (hS : ∀ x y z, S x y z → x ≤ 15 ∧ y ≤ 15 ∧ z ≤ 15) (hC : T01 h 277 (dS S)) : ∃ h', exec (g2 L) (d + 2) 208 [.ref 253, .int (nI r), .int (nI k), .int (nI H)] h = some (none, h') ∧ T01 h' 277 (dS (stp H (wy A l r k) S)) ∧ (∀ a, a ≠ 277 → a ≠ 278 → hI h' a = hI h a) := by
  have h8 := pow_le8 hr
  obtain ⟨h1, a1, a2, -, a4⟩ := m208_3 (L := L) (d := d + 1) (nI r) (nI k) (nI H) 4096 0 h rfl
  obtain ⟨h2, u5, u6, u7, u8, b1, b2, b3⟩ := m208_28 (L := L) (d := d) (l := l) hH hr hV h0 hk (C := dS S) (2 ^ r) 0 dm dm dm dm h1 (by omega) (hM.congr (a4 254 (by omega))) (fun k' hk' p' hp' => by unfold E9; rw [a4 273 (by omega), a4 274 (by omega), a4 275 (by omega)]; exact hE k' hk' p' hp') (fun t ht => by rw [a4 277 (by omega)]; exact hC t ht) (fun t ht => ⟨fun ⟨p, s, q1, q2, q3, _⟩ => by omega, fun _ => a2 t ht (Nat.zero_le _)⟩)
  obtain ⟨h3, c1, c2, c3⟩ := m208_166 (L := L) (d := d + 1) (nI r) (nI k) (nI H) u5 u6 u7 u8 4096 0 h2 rfl b2
  refine ⟨h3, ?_, ?_, fun a p1 p2 => by rw [c3 a p1, b3 a p2, a4 a p2]⟩
  · rw [x208, a1, b1, c1]
  · have b2' : T01 h3 277 (Nx H r (wy A l r k) (dS S) (2 ^ r) 0) := fun t ht => by
      rw [c2 t ht, if_pos (Nat.zero_le _)]
      exact b2 t ht
    refine b2'.iff (fun s' hs' => ⟨?_, ?_⟩)
    · rintro ⟨x, y, z, p, s1, p8, wp, e1, e2, e3, g1, g2', g3⟩
      obtain ⟨x15, y15, z15⟩ := hS x y z s1
      have f0 := b0_le p
      have f1 := b1_le p
      have f2 := b2_le p
      refine ⟨p, 256 * x + 16 * y + z, wp.1, by omega, Or.inl wp.1, wp, ?_, ?_, ?_⟩
      · show S ((256 * x + 16 * y + z) / 256) ((256 * x + 16 * y + z) / 16 % 16) ((256 * x + 16 * y + z) % 16)
        rw [show (256 * x + 16 * y + z) / 256 = x by omega, show (256 * x + 16 * y + z) / 16 % 16 = y by omega, show (256 * x + 16 * y + z) % 16 = z by omega]
        exact s1
      · unfold ft
        omega
      · unfold tg
        omega
    · rintro ⟨p, s, q1, q2, q3, q4, q5, ⟨g1, g2', g3⟩, q7⟩
      have f0 := b0_le p
      have f1 := b1_le p
      have f2 := b2_le p
      unfold tg at q7
      exact ⟨s / 256, s / 16 % 16, s % 16, p, q5, by omega, q4, by omega, by omega, by omega, by omega, by omega, by omega⟩
end Radds
