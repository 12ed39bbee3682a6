-- PART: rounds, no try comes right out of reach.
theorem bg_le {l : Nat → Nat} (hl : ∀ i, l i ≤ 30) : ∀ r, bg l r ≤ 30 * r
  | 0 => Nat.le_refl _
  | r + 1 => by
    have := bg_le hl r
    have := hl r
    rw [bg]
    omega
theorem reach_no {A l : Nat → Nat} {q r H k : Nat} (hV : VW A q) (hr : r ≤ 3) (hl : ∀ i, l i ≤ 30) (hk : k < rn A) (hno : ∀ j, j ≤ 30 * r → ¬ rt A k j) : ¬ OkR A l r H := by
  have hb := bg_le hl r
  refine wsl_no (k := k) (fun p hp => ?_) _ _ _ _ _ (Nat.zero_le _) (by omega)
  have h2 := (hV.2.2.2.2.2 _ (rd_lt hk)).2.2.1
  have := (right_iff (l := l) (p := p) (r := r) h2 (by omega)).mpr hp.2
  exact hno _ (Nat.le_trans (rA_le r) hb) this
