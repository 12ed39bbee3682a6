-- PART: rounds, the reference's table of rounds.
/-- n pulses, the first of sign s, to a dial that is not held -/
def go (t sk bo s n : Nat) (x : Nat × Nat × Nat) : Nat × Nat × Nat := if n = 0 then x else ((x.1 + far sk bo x.2.2 (tk t x.2.1 s n)) % 720, (s + (n - 1)) % 2, x.2.2 + tk t x.2.1 s n)
theorem go_s {t sk bo s n hd l c : Nat} (hs : s ≤ 1) (hh : hd < 720) : pl1 t sk bo ((s + n) % 2) (go t sk bo s n (hd, l, c)).1 (go t sk bo s n (hd, l, c)).2.1 (go t sk bo s n (hd, l, c)).2.2 = go t sk bo s (n + 1) (hd, l, c) := by
  have f0 : far sk bo c 0 = 0 := rfl
  have f1 : far sk bo c 1 = gn sk bo (c + 1) := by
    show 0 + gn sk bo (c + 0 + 1) = _
    rw [Nat.zero_add, Nat.add_zero]
  by_cases hn : n = 0
  · subst hn
    have e : (s + 0) % 2 = s := by omega
    rw [e]
    have g0 : go t sk bo s 0 (hd, l, c) = (hd, l, c) := if_pos rfl
    have g1 : go t sk bo s (0 + 1) (hd, l, c) = ((hd + far sk bo c (tk t l s 1)) % 720, (s + (1 - 1)) % 2, c + tk t l s 1) := if_neg (by omega)
    rw [g0, g1]
    show pl1 t sk bo s hd l c = _
    unfold pl1 tk
    by_cases z : t = 1 ∧ l = s
    · rw [if_pos z, if_pos z, f0, Nat.add_zero, Nat.mod_eq_of_lt hh, z.2]
      exact Prod.ext rfl (Prod.ext (by show s = (s + 0) % 2; omega) rfl)
    · rw [if_neg z, if_neg z, f1]
      exact Prod.ext rfl (Prod.ext (by show s = (s + 0) % 2; omega) rfl)
  · have g1 : go t sk bo s n (hd, l, c) = ((hd + far sk bo c (tk t l s n)) % 720, (s + (n - 1)) % 2, c + tk t l s n) := if_neg hn
    have g2' : go t sk bo s (n + 1) (hd, l, c) = ((hd + far sk bo c (tk t l s (n + 1))) % 720, (s + (n + 1 - 1)) % 2, c + tk t l s (n + 1)) := if_neg (by omega)
    have ht : tk t l s (n + 1) = tk t l s n + 1 := by
      unfold tk
      split <;> omega
    have hf : far sk bo c (tk t l s n + 1) = far sk bo c (tk t l s n) + gn sk bo (c + tk t l s n + 1) := rfl
    rw [g1, g2', ht, hf]
    unfold pl1
    rw [if_neg (by show ¬ (t = 1 ∧ (s + (n - 1)) % 2 = (s + n) % 2); omega)]
    refine Prod.ext ?_ (Prod.ext ?_ ?_)
    · show ((hd + far sk bo c (tk t l s n)) % 720 + gn sk bo (c + tk t l s n + 1)) % 720 = (hd + (far sk bo c (tk t l s n) + gn sk bo (c + tk t l s n + 1))) % 720
      omega
    · show (s + n) % 2 = (s + (n + 1 - 1)) % 2
      omega
    · show c + tk t l s n + 1 = c + (tk t l s n + 1)
      omega
theorem go_in {t sk bo s n hd l c : Nat} (hh : hd < 720) (hl : l ≤ 1) : (go t sk bo s n (hd, l, c)).1 < 720 ∧ (go t sk bo s n (hd, l, c)).2.1 ≤ 1 ∧ (go t sk bo s n (hd, l, c)).2.2 ≤ c + n := by
  unfold go
  split
  · exact ⟨hh, hl, Nat.le_add_right _ _⟩
  · have := tk_le t l s n
    refine ⟨Nat.mod_lt _ (by omega), ?_, ?_⟩
    · show (s + (n - 1)) % 2 ≤ 1
      omega
    · show c + tk t l s n ≤ c + n
      omega
def bg (l : Nat → Nat) : Nat → Nat
  | 0 => 0
  | r + 1 => bg l r + l r
/-- where the rounds bring dial d that is held in those of p -/
def rS (A l : Nat → Nat) (d p : Nat) : Nat → Nat × Nat × Nat
  | 0 => (A (40 + 8 * d + 2), A (40 + 8 * d + 3), A (40 + 8 * d + 4))
  | r + 1 => if p / 2 ^ r % 2 = 1 then rS A l d p r else go (A (40 + 8 * d + 1)) (A (40 + 8 * d + 5)) (A (40 + 8 * d + 6)) ((A 1 + bg l r) % 2) (l r) (rS A l d p r)
theorem rS_in {A l : Nat → Nat} {d p q : Nat} (h2 : A (40 + 8 * d + 2) < 720) (h3 : A (40 + 8 * d + 3) ≤ 1) (h4 : A (40 + 8 * d + 4) ≤ q) : ∀ r, (rS A l d p r).1 < 720 ∧ (rS A l d p r).2.1 ≤ 1 ∧ (rS A l d p r).2.2 ≤ q + bg l r
  | 0 => ⟨h2, h3, h4⟩
  | r + 1 => by
    obtain ⟨i1, i2, i3⟩ := rS_in (l := l) (p := p) h2 h3 h4 r
    rw [rS, bg]
    split
    · exact ⟨i1, i2, by omega⟩
    · obtain ⟨j1, j2, j3⟩ := go_in (t := A (40 + 8 * d + 1)) (sk := A (40 + 8 * d + 5)) (bo := A (40 + 8 * d + 6)) (s := (A 1 + bg l r) % 2) (n := l r) (hd := (rS A l d p r).1) (l := (rS A l d p r).2.1) (c := (rS A l d p r).2.2) i1 i2
      exact ⟨j1, j2, Nat.le_trans j3 (by omega)⟩
theorem rS_low {A l : Nat → Nat} {d p p' : Nat} : ∀ r, (∀ i, i < r → p / 2 ^ i % 2 = p' / 2 ^ i % 2) → rS A l d p r = rS A l d p' r
  | 0, _ => rfl
  | r + 1, h => by rw [rS, rS, h r (Nat.lt_succ_self r), rS_low r (fun i hi => h i (Nat.lt_succ_of_lt hi))]
theorem rS_len {A l l' : Nat → Nat} {d p : Nat} : ∀ r, (∀ i, i < r → l i = l' i) → rS A l d p r = rS A l' d p r
  | 0, _ => rfl
  | r + 1, h => by
    have hb : ∀ m, m ≤ r → bg l m = bg l' m := by
      intro m
      induction m with
      | zero => intro _; rfl
      | succ m ih =>
        intro hm
        rw [bg, bg, ih (by omega), h m (by omega)]
    rw [rS, rS, h r (Nat.lt_succ_self r), hb r (Nat.le_refl _), rS_len r (fun i hi => h i (Nat.lt_succ_of_lt hi))]
/-- the dials that the hall's pulses come to -/
def rl (A : Nat → Nat) : Nat → List Nat
  | 0 => []
  | m + 1 => if cm A 0 (A (40 + 8 * m) + 1) = true then rl A m ++ [m] else rl A m
theorem rl_lt {A : Nat → Nat} : ∀ m, ∀ d, d ∈ rl A m → d < m
  | 0, d, h => by cases h
  | m + 1, d, h => by
    rw [rl] at h
    split at h
    · rcases List.mem_append.mp h with q | q
      · have := rl_lt m d q
        omega
      · have := List.mem_singleton.mp q
        omega
    · have := rl_lt m d h
      omega
theorem rl_len {A : Nat → Nat} : ∀ m, (rl A m).length ≤ m
  | 0 => Nat.le_refl _
  | m + 1 => by
    have := rl_len (A := A) m
    rw [rl]
    split
    · rw [List.length_append, List.length_singleton]
      omega
    · omega
def rd (A : Nat → Nat) (k : Nat) : Nat := (rl A (A 4)).getD k 0
def rn (A : Nat → Nat) : Nat := (rl A (A 4)).length
theorem rd_lt {A : Nat → Nat} {k : Nat} (h : k < rn A) : rd A k < A 4 := by
  show (rl A (A 4))[k]?.getD 0 < A 4
  rw [List.getElem?_eq_getElem h]
  exact rl_lt _ _ (List.getElem_mem h)
/-- the tables of the rounds, level r, dials below K -/
def RTb (h : PH) (A l : Nat → Nat) (r : Nat) : Prop := ∀ k, k < rn A → ∀ p, p < 2 ^ r → hI h 273 (128 * r + 8 * k + p) = nI (rS A l (rd A k) p r).1 ∧ hI h 274 (128 * r + 8 * k + p) = nI (rS A l (rd A k) p r).2.1 ∧ hI h 275 (128 * r + 8 * k + p) = nI (rS A l (rd A k) p r).2.2
def RH (h : PH) (A : Nat → Nat) : Prop := hI h 253 30 = nI (rn A) ∧ ∀ k, k < rn A → hI h 272 k = nI (rd A k)
/-- what the reference's rounds leave as it is -/
def Fr (h h' : PH) : Prop := (∀ a, a ≠ 253 → ¬ (272 ≤ a ∧ a ≤ 278) → hI h' a = hI h a) ∧ (∀ k, k < 11 → hI h' 253 k = hI h 253 k)
theorem Fr.rf {h : PH} : Fr h h := ⟨fun _ _ _ => rfl, fun _ _ => rfl⟩
theorem Fr.tr {a b c : PH} (h1 : Fr a b) (h2 : Fr b c) : Fr a c := ⟨fun x p q => (h2.1 x p q).trans (h1.1 x p q), fun k z => (h2.2 k z).trans (h1.2 k z)⟩
theorem Fr.w {h : PH} {a k : Nat} {v : Int32} (ha : 272 ≤ a ∧ a ≤ 278) : Fr h (wI h a k v) := ⟨fun x p q => wI_ne (by omega), fun k _ => by rw [wI_ne (by omega)]⟩
theorem Fr.w3 {h : PH} {k : Nat} {v : Int32} (hk : 11 ≤ k) : Fr h (wI h 253 k v) := ⟨fun x p q => wI_ne p, fun j hj => by rw [hI_wI, if_neg (by omega)]⟩
theorem Fr.fm {h h' : PH} (hF : Fm h h') (h4 : hI h' 254 = hI h 254) : Fr h h' := ⟨fun a p q => by
  by_cases z : a = 254
  · rw [z, h4]
  · exact hF.1 a p z, fun k hk => hF.2.1 k (Or.inl hk)⟩
section Rgo
variable {L : Nat} {A l : Nat → Nat}
theorem m209_132 {d t sk bo n b hd la c : Nat} (ht : t ≤ 1) (h1 : sk ≤ 999) (h2 : bo ≤ 999) (hh : hd < 720) (hla : la ≤ 1) (hc : c ≤ 150000000) (hn : n ≤ 30) (hb : b ≤ 60) (a1 : A 1 ≤ 1) (x1 x4 x5 x6 x7 : Int32) : ∀ (k i : Nat) (v9 : Value) (h : PH), i + k = n → hI h 254 1 = nI (A 1) → TH h t (go t sk bo ((A 1 + b) % 2) i (hd, la, c)).1 (go t sk bo ((A 1 + b) % 2) i (hd, la, c)).2.1 (go t sk bo ((A 1 + b) % 2) i (hd, la, c)).2.2 sk bo → ∃ h' v', runL (g2 L) (d + 2) 11 false none kc_209 132 [.ref 253, .int x1, .int (nI n), .int (nI b), .int x4, .int x5, .int x6, .int x7, .int (nI i), v9] [] h = (cV (exec (g2 L) (d + 2) 210 [.ref 253, .int x7, .int (nI (go t sk bo ((A 1 + b) % 2) n (hd, la, c)).1), .int (nI (go t sk bo ((A 1 + b) % 2) n (hd, la, c)).2.1), .int (nI (go t sk bo ((A 1 + b) % 2) n (hd, la, c)).2.2)] h') fun h1 => runL (g2 L) (d + 2) 11 false none kc_209 15 [.ref 253, .int x1, .int (nI n), .int (nI b), .int x4, .int (x5 + nI 1), .int x6, .int x7, .int (nI n), v'] [] h1) ∧ (∀ a, a ≠ 253 → hI h' a = hI h a) ∧ (∀ j, (j < 11 ∨ 16 < j) → hI h' 253 j = hI h 253 j) := by
  intro k
  induction k with
  | zero =>
    intro i v9 h hi h41 hT
    have hin : i = n := by omega
    subst hin
    refine ⟨h, v9, ?_, fun _ _ => rfl, fun _ _ => rfl⟩
    rw [e209_132, if_pos (by rw [nI_leN (by omega) (by omega)]; omega), hT.2.2.2.1, hT.2.2.2.2.1, hT.2.2.2.2.2]
  | succ k ih =>
    intro i v9 h hi h41 hT
    obtain ⟨g1, g2', g3⟩ := go_in (t := t) (sk := sk) (bo := bo) (s := (A 1 + b) % 2) (n := i) (c := c) hh hla
    have e := m169 (L := L) d hT ht g1 g2' (by omega) h1 h2 (s := ((A 1 + b) % 2 + i) % 2) (by omega)
    have T' := hp1_TH (s := ((A 1 + b) % 2 + i) % 2) hT
    rw [go_s (by omega) hh] at T'
    obtain ⟨h', v', e1, e2, e3⟩ := ih (i + 1) (.int (bI (¬ (t = 1 ∧ (go t sk bo ((A 1 + b) % 2) i (hd, la, c)).2.1 = ((A 1 + b) % 2 + i) % 2)))) _ (by omega) (by rw [hp1_ne (by omega)]; exact h41) T'
    refine ⟨h', v', ?_, fun a ha => by rw [e2 a ha, hp1_ne ha], fun j hj => by rw [e3 j hj, hp1_253 hj]⟩
    rw [e209_132, if_neg (by rw [nI_leN (by omega) (by omega)]; omega), h41, nI_plus, nI_plus, nI_rest (by omega) (by omega), show (A 1 + b + i) % 2 = ((A 1 + b) % 2 + i) % 2 by omega, e, cI_s, nI_plus]
    exact e1
end Rgo
