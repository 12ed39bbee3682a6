-- PART: rounds, canChoose.
def SF (H : Nat) (F : Nat → Nat → Nat) : Nat → Nat → Nat → Prop := fun x y z => x ≤ H ∧ y ≤ H ∧ F x y = z ∧ z ≤ H
theorem Kn_step {H : Nat} {F T : Nat → Nat → Nat} {W : Nat → Prop} {c : Nat} {ws : List (Nat → Prop)} (hH : H ≤ 15) (hK : Kn H F W (fun _ _ _ => True) T c) : Ex3 H (W :: ws) (SF H F) ↔ Ex3 H ws (SF H T) := by
  obtain ⟨k1, k2, k3, k4⟩ := hK
  refine Iff.trans Ex3_stp (Ex3_dom ?_ ?_)
  · rintro x y z ⟨h1, h2, h3, h4⟩
    rcases k1 x y (by omega) (by omega) with q | ⟨x0, y0, p, -, ⟨v1, v2, v3, v4, v5, v6, v7, v8⟩, e1, e2, e3⟩
    · omega
    · exact ⟨x0, y0, F x0 y0, p, ⟨v1, v2, rfl, v4⟩, v3, v5, e1, e2, by omega, h1, h2, h4⟩
  · rintro x y z ⟨x0, y0, z0, p, ⟨s1, s2, s3, s4⟩, p8, wp, e1, e2, e3, g1, g2', g3⟩
    subst s3 e1 e2 e3
    have := k2 x0 y0 p trivial ⟨s1, s2, p8, s4, wp, g1, g2', g3⟩
    exact ⟨T (x0 + b0 p) (y0 + b1 p), this, g1, g2', rfl, by omega⟩
theorem Kn_none {H : Nat} {F T : Nat → Nat → Nat} {W : Nat → Prop} {ws : List (Nat → Prop)} (hK : Kn H F W (fun _ _ _ => True) T 0) : ¬ Ex3 H (W :: ws) (SF H F) := by
  rintro ⟨x, y, z, ⟨s1, s2, s3, s4⟩, p, p8, hp, g1, g2', g3, -⟩
  subst s3
  have := hK.2.2.2.mpr ⟨x, y, p, trivial, s1, s2, p8, s4, hp, g1, g2', g3⟩
  omega
