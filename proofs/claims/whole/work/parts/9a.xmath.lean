-- PART: explaining, the least mishaps of a dial.
def xMin (S : Nat → Prop) (v : Nat) : Prop := v ≤ 1000 ∧ (∀ c, S c → v ≤ c) ∧ (v = 1000 ∨ S v)
theorem xMin.one {S : Nat → Prop} {v w : Nat} (h1 : xMin S v) (h2 : xMin S w) : v = w := by
  obtain ⟨a1, a2, a3⟩ := h1
  obtain ⟨c1, c2, c3⟩ := h2
  have p : w ≤ v := by
    rcases a3 with z | z
    · omega
    · exact c2 _ z
  have q : v ≤ w := by
    rcases c3 with z | z
    · omega
    · exact a2 _ z
  omega
theorem xMin.congr {S S' : Nat → Prop} {v : Nat} (h : xMin S v) (e : ∀ c, c < 1000 → (S' c ↔ S c)) : xMin S' v := by
  obtain ⟨a1, a2, a3⟩ := h
  refine ⟨a1, fun c hc => ?_, ?_⟩
  · by_cases q : c < 1000
    · exact a2 c ((e c q).mp hc)
    · omega
  · by_cases q : v < 1000
    · rcases a3 with z | z
      · exact Or.inl z
      · exact Or.inr ((e v q).mpr z)
    · exact Or.inl (by omega)
theorem xMin.none : xMin (fun _ => False) 1000 := ⟨Nat.le_refl _, fun _ h => h.elim, Or.inl rfl⟩
theorem xMin.also {S : Nat → Prop} {v : Nat} (h : xMin S v) (w : Nat) : xMin (fun c => S c ∨ c = w) (if w < v then w else v) := by
  obtain ⟨a1, a2, a3⟩ := h
  by_cases q : w < v
  · rw [if_pos q]
    refine ⟨by omega, fun c hc => ?_, Or.inr (Or.inr rfl)⟩
    rcases hc with z | z
    · have := a2 c z
      omega
    · omega
  · rw [if_neg q]
    refine ⟨a1, fun c hc => ?_, ?_⟩
    · rcases hc with z | z
      · exact a2 c z
      · omega
    · rcases a3 with z | z
      · exact Or.inl z
      · exact Or.inr (Or.inl z)
def xc1 (x : Nat) : Nat := if x < 1000 then x + 1 else 1000
def xq (f : Nat → Nat → Nat) (a : Nat) : Nat → Nat
  | 0 => 1000
  | j + 1 => xc1 (f a j)
def xp (f : Nat → Nat → Nat) (idl : Nat → Bool) (j : Nat) : Nat → Nat
  | 0 => 1000
  | a + 1 => if idl a = true then 1000 else min (f a j) (xq f a j)
def xU (f : Nat → Nat → Nat) (idl : Nat → Bool) (a j : Nat) : Nat := min (if idl a = true then f a j else xc1 (f a j)) (xp f idl j a)
def xT (idl : Nat → Nat → Bool) (ok : Nat → Nat → Nat → Bool) (M : Nat) : Nat → Nat → Nat → Nat
  | 0, a, j => if ok 0 a j = true ∧ a = 0 ∧ j = 0 then 0 else 1000
  | i + 1, a, j => if ok (i + 1) a j = true then (if M / 2 ^ i % 2 = 1 then xT idl ok M i a j else xU (xT idl ok M i) (fun a => idl a (i + 1)) a j) else 1000
/-- a dial's step -/
def xE (i : Bool) (v a0 j0 a j c : Nat) : Prop := if i = true then a = a0 ∧ j = j0 ∧ c = v else (a = a0 ∧ j = j0 ∧ c = v + 1) ∨ (a = a0 + 1 ∧ j = j0 ∧ c = v) ∨ (a = a0 + 1 ∧ j = j0 + 1 ∧ c = v + 1)
theorem xc1_le {x v : Nat} (h : v ≤ x) (h2 : v ≤ 1000) : v ≤ xc1 x := by
  unfold xc1
  split <;> omega
theorem xU_le {f : Nat → Nat → Nat} (hf : ∀ a j, f a j ≤ 1000) (idl : Nat → Bool) (a j : Nat) : xU f idl a j ≤ 1000 := by
  unfold xU
  refine Nat.le_trans (Nat.min_le_left _ _) ?_
  split
  · exact hf a j
  · unfold xc1
    split <;> omega
theorem xU_ge {f : Nat → Nat → Nat} {v : Nat} (hv : v ≤ 1000) (hf : ∀ a j, v ≤ f a j) (idl : Nat → Bool) (a j : Nat) : v ≤ xU f idl a j := by
  unfold xU
  refine Nat.le_min.mpr ⟨?_, ?_⟩
  · split
    · exact hf a j
    · exact xc1_le (hf a j) hv
  · cases a with
    | zero => exact hv
    | succ a =>
      show v ≤ (if idl a = true then 1000 else min (f a j) (xq f a j))
      split
      · exact hv
      · refine Nat.le_min.mpr ⟨hf a j, ?_⟩
        cases j with
        | zero => exact hv
        | succ j => exact xc1_le (hf a j) hv
theorem xU_a (f : Nat → Nat → Nat) {idl : Nat → Bool} {a : Nat} (hi : ¬ idl a = true) (j : Nat) : xU f idl (a + 1) j ≤ f a j := by
  unfold xU
  refine Nat.le_trans (Nat.min_le_right _ _) ?_
  show (if idl a = true then 1000 else min (f a j) _) ≤ _
  rw [if_neg hi]
  exact Nat.min_le_left _ _
theorem xU_b (f : Nat → Nat → Nat) {idl : Nat → Bool} {a : Nat} (hi : ¬ idl a = true) (j : Nat) : xU f idl (a + 1) (j + 1) ≤ xc1 (f a j) := by
  unfold xU
  refine Nat.le_trans (Nat.min_le_right _ _) ?_
  show (if idl a = true then 1000 else min (f a (j + 1)) (xc1 (f a j))) ≤ _
  rw [if_neg hi]
  exact Nat.min_le_right _ _
theorem xU_c (f : Nat → Nat → Nat) {idl : Nat → Bool} {a : Nat} (hi : ¬ idl a = true) (j : Nat) : xU f idl a j ≤ xc1 (f a j) := by
  unfold xU
  refine Nat.le_trans (Nat.min_le_left _ _) ?_
  rw [if_neg hi]
  exact Nat.le_refl _
theorem xU_d (f : Nat → Nat → Nat) {idl : Nat → Bool} {a : Nat} (hi : idl a = true) (j : Nat) : xU f idl a j ≤ f a j := by
  unfold xU
  refine Nat.le_trans (Nat.min_le_left _ _) ?_
  rw [if_pos hi]
  exact Nat.le_refl _
theorem xc1_lt {x c : Nat} (h : xc1 x = c) (hc : c < 1000) : x < 1000 ∧ c = x + 1 := by
  unfold xc1 at h
  split at h <;> omega
theorem xU_min {f : Nat → Nat → Nat} (hf : ∀ a j, f a j ≤ 1000) (idl : Nat → Bool) (a j : Nat) : xMin (fun c => ∃ a0 j0, f a0 j0 < 1000 ∧ xE (idl a0) (f a0 j0) a0 j0 a j c) (xU f idl a j) := by
  refine ⟨xU_le hf idl a j, ?_, ?_⟩
  · rintro c ⟨a0, j0, h1, h2⟩
    unfold xE at h2
    by_cases q : idl a0 = true
    · rw [if_pos q] at h2
      obtain ⟨rfl, rfl, rfl⟩ := h2
      exact xU_d f q j
    · rw [if_neg q] at h2
      have e : xc1 (f a0 j0) = f a0 j0 + 1 := if_pos h1
      rcases h2 with ⟨rfl, rfl, rfl⟩ | ⟨rfl, rfl, rfl⟩ | ⟨rfl, rfl, rfl⟩
      · rw [← e]
        exact xU_c f q j
      · exact xU_a f q j
      · rw [← e]
        exact xU_b f q j0
  · by_cases z : xU f idl a j < 1000
    · right
      generalize hc : xU f idl a j = c at z
      unfold xU at hc
      rcases Nat.le_total (if idl a = true then f a j else xc1 (f a j)) (xp f idl j a) with q | q
      · rw [Nat.min_eq_left q] at hc
        by_cases y : idl a = true
        · rw [if_pos y] at hc
          refine ⟨a, j, by omega, ?_⟩
          unfold xE
          rw [if_pos y]
          exact ⟨rfl, rfl, hc.symm⟩
        · rw [if_neg y] at hc
          obtain ⟨w1, w2⟩ := xc1_lt hc z
          refine ⟨a, j, w1, ?_⟩
          unfold xE
          rw [if_neg y]
          exact Or.inl ⟨rfl, rfl, w2⟩
      · rw [Nat.min_eq_right q] at hc
        clear q
        cases a with
        | zero =>
          have : 1000 = c := hc
          omega
        | succ a =>
          have hc' : (if idl a = true then 1000 else min (f a j) (xq f a j)) = c := hc
          by_cases y : idl a = true
          · rw [if_pos y] at hc'
            omega
          · rw [if_neg y] at hc'
            rcases Nat.le_total (f a j) (xq f a j) with w | w
            · rw [Nat.min_eq_left w] at hc'
              refine ⟨a, j, by omega, ?_⟩
              unfold xE
              rw [if_neg y]
              exact Or.inr (Or.inl ⟨rfl, rfl, hc'.symm⟩)
            · rw [Nat.min_eq_right w] at hc'
              cases j with
              | zero =>
                have : 1000 = c := hc'
                omega
              | succ j =>
                have hc2 : xc1 (f a j) = c := hc'
                obtain ⟨w1, w2⟩ := xc1_lt hc2 z
                refine ⟨a, j, w1, ?_⟩
                unfold xE
                rw [if_neg y]
                exact Or.inr (Or.inr ⟨rfl, rfl, w2⟩)
    · left
      have := xU_le hf idl a j
      omega
section XT
variable {idl : Nat → Nat → Bool} {ok : Nat → Nat → Nat → Bool}
theorem xT_le (M : Nat) : ∀ i a j, xT idl ok M i a j ≤ 1000
  | 0, a, j => by
    unfold xT
    split <;> omega
  | i + 1, a, j => by
    unfold xT
    split
    · split
      · exact xT_le M i a j
      · exact xU_le (xT_le M i) _ a j
    · exact Nat.le_refl _
theorem xT_in (M : Nat) : ∀ i a j, xT idl ok M i a j < 1000 → j ≤ a ∧ a ≤ i ∧ xT idl ok M i a j ≤ i
  | 0, a, j, h => by
    unfold xT at h ⊢
    by_cases q : ok 0 a j = true ∧ a = 0 ∧ j = 0
    · rw [if_pos q]
      omega
    · rw [if_neg q] at h
      omega
  | i + 1, a, j, h => by
    unfold xT at h ⊢
    by_cases q : ok (i + 1) a j = true
    · rw [if_pos q] at h ⊢
      by_cases z : M / 2 ^ i % 2 = 1
      · rw [if_pos z] at h ⊢
        have := xT_in M i a j h
        omega
      · rw [if_neg z] at h ⊢
        rcases (xU_min (xT_le (idl := idl) (ok := ok) M i) (fun a => idl a (i + 1)) a j).2.2 with y | ⟨a0, j0, h1, h2⟩
        · omega
        · have t := xT_in M i a0 j0 h1
          unfold xE at h2
          by_cases y : idl a0 (i + 1) = true
          · rw [if_pos y] at h2
            omega
          · rw [if_neg y] at h2
            omega
    · rw [if_neg q] at h
      omega
theorem xT_congr {M M' : Nat} : ∀ i, (∀ k, k < i → M / 2 ^ k % 2 = M' / 2 ^ k % 2) → xT idl ok M i = xT idl ok M' i
  | 0, _ => by
    funext a j
    rfl
  | i + 1, h => by
    funext a j
    unfold xT
    rw [xT_congr i (fun k hk => h k (by omega)), h i (by omega)]
/-- the least of a table -/
def xS (f : Nat → Nat → Nat) (c : Nat) : Prop := ∃ a j, f a j = c
theorem xS_step {M i v : Nat} (hok : ∀ a j, ok (i + 1) a j = true) (h : xMin (xS (xT idl ok M i)) v) : xMin (xS (xT idl ok M (i + 1))) v := by
  obtain ⟨h1, h2, h3⟩ := h
  have lo : ∀ a j, v ≤ xT idl ok M i a j := fun a j => h2 _ ⟨a, j, rfl⟩
  refine ⟨h1, ?_, ?_⟩
  · rintro c ⟨a, j, rfl⟩
    unfold xT
    rw [if_pos (hok a j)]
    split
    · exact lo a j
    · exact xU_ge h1 lo _ a j
  · rcases h3 with z | ⟨a, j, z⟩
    · exact Or.inl z
    · right
      by_cases q : M / 2 ^ i % 2 = 1
      · refine ⟨a, j, ?_⟩
        unfold xT
        rw [if_pos (hok a j), if_pos q]
        exact z
      · by_cases y : idl a (i + 1) = true
        · refine ⟨a, j, ?_⟩
          unfold xT
          rw [if_pos (hok a j), if_neg q]
          have p1 := xU_d (xT idl ok M i) (idl := fun a => idl a (i + 1)) y j
          have p2 := xU_ge h1 lo (fun a => idl a (i + 1)) a j
          omega
        · refine ⟨a + 1, j, ?_⟩
          unfold xT
          rw [if_pos (hok _ j), if_neg q]
          have p1 := xU_a (xT idl ok M i) (idl := fun a => idl a (i + 1)) y j
          have p2 := xU_ge h1 lo (fun a => idl a (i + 1)) (a + 1) j
          omega
theorem xS_no {M i : Nat} (h : xMin (xS (xT idl ok M i)) 1000) : xMin (xS (xT idl ok M (i + 1))) 1000 := by
  have lo : ∀ a j, 1000 ≤ xT idl ok M i a j := fun a j => h.2.1 _ ⟨a, j, rfl⟩
  refine ⟨Nat.le_refl _, ?_, Or.inl rfl⟩
  rintro c ⟨a, j, rfl⟩
  unfold xT
  split
  · split
    · exact lo a j
    · exact xU_ge (Nat.le_refl _) lo _ a j
  · exact Nat.le_refl _
def xl (g : Nat → Nat) : Nat → Nat
  | 0 => 1000
  | n + 1 => min (g n) (xl g n)
theorem xl_le (g : Nat → Nat) : ∀ n, xl g n ≤ 1000
  | 0 => Nat.le_refl _
  | n + 1 => Nat.le_trans (Nat.min_le_right _ _) (xl_le g n)
theorem xl_lo (g : Nat → Nat) : ∀ n k, k < n → xl g n ≤ g k
  | 0, _, h => absurd h (Nat.not_lt_zero _)
  | n + 1, k, h => by
    by_cases e : k = n
    · subst e
      exact Nat.min_le_left _ _
    · exact Nat.le_trans (Nat.min_le_right _ _) (xl_lo g n k (by omega))
theorem xl_is (g : Nat → Nat) : ∀ n, xl g n = 1000 ∨ ∃ k, k < n ∧ g k = xl g n
  | 0 => Or.inl rfl
  | n + 1 => by
    show min (g n) (xl g n) = 1000 ∨ _
    rcases Nat.le_total (g n) (xl g n) with q | q
    · right
      refine ⟨n, by omega, ?_⟩
      show g n = min (g n) (xl g n)
      rw [Nat.min_eq_left q]
    · rcases xl_is g n with z | ⟨k, k1, k2⟩
      · left
        rw [Nat.min_eq_right q]
        exact z
      · right
        refine ⟨k, by omega, ?_⟩
        show g k = min (g n) (xl g n)
        rw [Nat.min_eq_right q]
        exact k2
def xD (idl : Nat → Nat → Bool) (ok : Nat → Nat → Nat → Bool) (W M : Nat) : Nat := xl (fun x => xT idl ok M W (x / 11) (x % 11)) 121
theorem xD_min {W : Nat} (hW : W ≤ 10) (M : Nat) : xMin (xS (xT idl ok M W)) (xD idl ok W M) := by
  refine ⟨xl_le _ _, ?_, ?_⟩
  · rintro c ⟨a, j, rfl⟩
    by_cases q : xT idl ok M W a j < 1000
    · have t := xT_in M W a j q
      have := xl_lo (fun x => xT idl ok M W (x / 11) (x % 11)) 121 (11 * a + j) (by omega)
      rw [show (11 * a + j) / 11 = a by omega, show (11 * a + j) % 11 = j by omega] at this
      exact this
    · have := xl_le (fun x => xT idl ok M W (x / 11) (x % 11)) 121
      have e : xD idl ok W M = xl (fun x => xT idl ok M W (x / 11) (x % 11)) 121 := rfl
      omega
  · rcases xl_is (fun x => xT idl ok M W (x / 11) (x % 11)) 121 with z | ⟨k, k1, k2⟩
    · exact Or.inl z
    · exact Or.inr ⟨_, _, k2⟩
theorem xD_of {W M p v : Nat} (hW : W ≤ 10) (hp : p ≤ W) (hv : xMin (xS (xT idl ok M p)) v) (h : v = 1000 ∨ ∀ i, p ≤ i → ∀ a j, ok (i + 1) a j = true) : v = xD idl ok W M := by
  have key : ∀ n, xMin (xS (xT idl ok M (p + n))) v := by
    intro n
    induction n with
    | zero => exact hv
    | succ n ih =>
      rcases h with z | z
      · rw [z] at ih ⊢
        exact xS_no ih
      · exact xS_step (z (p + n) (by omega)) ih
  have := key (W - p)
  rw [show p + (W - p) = W by omega] at this
  exact this.one (xD_min hW M)
end XT
