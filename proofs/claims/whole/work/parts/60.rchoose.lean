-- PART: rounds, chooseOne.
def vld (H : Nat) (F : Nat → Nat → Nat) (W : Nat → Prop) (x y p : Nat) : Prop := x ≤ H ∧ y ≤ H ∧ p < 8 ∧ F x y ≤ H ∧ W p ∧ x + b0 p ≤ H ∧ y + b1 p ≤ H ∧ F x y + b2 p ≤ H
/-- a table of fewest, cell a -/
def Tb (h : PH) (a : Nat) (T : Nat → Nat → Nat) : Prop := ∀ x y, x < 16 → y < 16 → hI h a (x * 16 + y) = nI (T x y)
/-- what is known when the ways of P have been looked at -/
def Kn (H : Nat) (F : Nat → Nat → Nat) (W : Nat → Prop) (P : Nat → Nat → Nat → Prop) (T : Nat → Nat → Nat) (c : Nat) : Prop := (∀ x' y', x' < 16 → y' < 16 → T x' y' = 99 ∨ ∃ x y p, P x y p ∧ vld H F W x y p ∧ x' = x + b0 p ∧ y' = y + b1 p ∧ T x' y' = F x y + b2 p) ∧ (∀ x y p, P x y p → vld H F W x y p → T (x + b0 p) (y + b1 p) ≤ F x y + b2 p) ∧ (c ≤ 1 ∧ (c = 1 ↔ ∃ x y p, P x y p ∧ vld H F W x y p))
theorem Kn.iff {H : Nat} {F : Nat → Nat → Nat} {W : Nat → Prop} {P P' : Nat → Nat → Nat → Prop} {T : Nat → Nat → Nat} {c : Nat} (hK : Kn H F W P T c) (e : ∀ x y p, vld H F W x y p → (P x y p ↔ P' x y p)) : Kn H F W P' T c := by
  obtain ⟨k1, k2, k3, k4⟩ := hK
  refine ⟨fun x' y' h1 h2 => ?_, fun x y p h1 h2 => k2 x y p ((e x y p h2).mpr h1) h2, k3, ?_⟩
  · rcases k1 x' y' h1 h2 with q | ⟨x, y, p, q1, q2, q3⟩
    · exact Or.inl q
    · exact Or.inr ⟨x, y, p, (e x y p q2).mp q1, q2, q3⟩
  · rw [k4]
    exact ⟨fun ⟨x, y, p, q1, q2⟩ => ⟨x, y, p, (e x y p q2).mp q1, q2⟩, fun ⟨x, y, p, q1, q2⟩ => ⟨x, y, p, (e x y p q2).mpr q1, q2⟩⟩
/-- one way more that can be -/
theorem Kn.add {H : Nat} {F : Nat → Nat → Nat} {W : Nat → Prop} {P P' : Nat → Nat → Nat → Prop} {T : Nat → Nat → Nat} {c x0 y0 p0 : Nat} (hK : Kn H F W P T c) (hH : H ≤ 15) (hv : vld H F W x0 y0 p0) (e : ∀ x y p, vld H F W x y p → (P' x y p ↔ P x y p ∨ (x = x0 ∧ y = y0 ∧ p = p0))) : Kn H F W P' (fun x y => if x = x0 + b0 p0 ∧ y = y0 + b1 p0 then (if F x0 y0 + b2 p0 < T x y then F x0 y0 + b2 p0 else T x y) else T x y) 1 := by
  obtain ⟨k1, k2, k3, k4⟩ := hK
  refine ⟨fun x' y' h1 h2 => ?_, fun x y p h1 h2 => ?_, Nat.le_refl _, ⟨fun _ => ⟨x0, y0, p0, (e _ _ _ hv).mpr (Or.inr ⟨rfl, rfl, rfl⟩), hv⟩, fun _ => rfl⟩⟩
  · show (if x' = x0 + b0 p0 ∧ y' = y0 + b1 p0 then (if F x0 y0 + b2 p0 < T x' y' then F x0 y0 + b2 p0 else T x' y') else T x' y') = 99 ∨ _
    have old : T x' y' = 99 ∨ ∃ x y p, P' x y p ∧ vld H F W x y p ∧ x' = x + b0 p ∧ y' = y + b1 p ∧ T x' y' = F x y + b2 p := by
      rcases k1 x' y' h1 h2 with q | ⟨x, y, p, q1, q2, q3⟩
      · exact Or.inl q
      · exact Or.inr ⟨x, y, p, (e x y p q2).mpr (Or.inl q1), q2, q3⟩
    by_cases z : x' = x0 + b0 p0 ∧ y' = y0 + b1 p0
    · by_cases w : F x0 y0 + b2 p0 < T x' y'
      · rw [if_pos z, if_pos w]
        refine Or.inr ⟨x0, y0, p0, (e _ _ _ hv).mpr (Or.inr ⟨rfl, rfl, rfl⟩), hv, z.1, z.2, ?_⟩
        show (if x' = x0 + b0 p0 ∧ y' = y0 + b1 p0 then (if F x0 y0 + b2 p0 < T x' y' then F x0 y0 + b2 p0 else T x' y') else T x' y') = _
        rw [if_pos z, if_pos w]
      · rw [if_pos z, if_neg w]
        rcases old with q | ⟨x, y, p, q1, q2, q3, q4, q5⟩
        · exact Or.inl q
        · refine Or.inr ⟨x, y, p, q1, q2, q3, q4, ?_⟩
          show (if x' = x0 + b0 p0 ∧ y' = y0 + b1 p0 then (if F x0 y0 + b2 p0 < T x' y' then F x0 y0 + b2 p0 else T x' y') else T x' y') = _
          rw [if_pos z, if_neg w]
          exact q5
    · rw [if_neg z]
      rcases old with q | ⟨x, y, p, q1, q2, q3, q4, q5⟩
      · exact Or.inl q
      · refine Or.inr ⟨x, y, p, q1, q2, q3, q4, ?_⟩
        show (if x' = x0 + b0 p0 ∧ y' = y0 + b1 p0 then (if F x0 y0 + b2 p0 < T x' y' then F x0 y0 + b2 p0 else T x' y') else T x' y') = _
        rw [if_neg z]
        exact q5
  · show (if x + b0 p = x0 + b0 p0 ∧ y + b1 p = y0 + b1 p0 then (if F x0 y0 + b2 p0 < T (x + b0 p) (y + b1 p) then F x0 y0 + b2 p0 else T (x + b0 p) (y + b1 p)) else T (x + b0 p) (y + b1 p)) ≤ F x y + b2 p
    rcases (e x y p h2).mp h1 with q | ⟨rfl, rfl, rfl⟩
    · have := k2 x y p q h2
      split
      · split <;> omega
      · exact this
    · rw [if_pos ⟨rfl, rfl⟩]
      split <;> omega
