-- PART: rounds, what a plan depends on.
theorem cmk {A A' : Nat → Nat} {N st : Nat} (e : ∀ b, b < N → A' (20 + b) = A (20 + b) ∧ A' (28 + b) = A (28 + b)) (hB : VB A 20 N) : ∀ (m c : Nat), c ≤ m → c ≤ N → cm A' st c = cm A st c := by
  intro m
  induction m with
  | zero =>
    intro c hc _
    have : c = 0 := by omega
    subst this
    rw [cm_0, cm_0]
  | succ m ih =>
    intro c hc hN
    cases c with
    | zero => rw [cm_0, cm_0]
    | succ c =>
      have hb := hB c (by omega)
      rw [cm_s, cm_s, (e c (by omega)).1, (e c (by omega)).2, ih (A (20 + c)) (by omega) (by omega)]
section Rkeep
variable {A A' : Nat → Nat} {q : Nat}
theorem rl_eq (hP : PKe A A') (hV : VW A q) : ∀ m, m ≤ A 4 → rl A' m = rl A m
  | 0, _ => rfl
  | m + 1, hm => by
    have h0 := hP.2.2.2.2.2 m (by omega) 0 (by omega)
    rw [Nat.add_zero] at h0
    have hb := (hV.2.2.2.2.2 m (by omega)).1
    rw [rl, rl, rl_eq hP hV m (by omega), h0, cmk hP.2.2.2.2.1 hV.2.2.2.1 (A 3) (A (40 + 8 * m) + 1) (by omega) (by omega)]
theorem rn_eq (hP : PKe A A') (hV : VW A q) : rn A' = rn A := by
  unfold rn
  rw [hP.2.2.1, rl_eq hP hV (A 4) (Nat.le_refl _)]
theorem rd_eq (hP : PKe A A') (hV : VW A q) (k : Nat) : rd A' k = rd A k := by
  unfold rd
  rw [hP.2.2.1, rl_eq hP hV (A 4) (Nat.le_refl _)]
theorem rS_eq (hP : PKe A A') {l : Nat → Nat} {d p : Nat} (hd : d < A 4) : ∀ r, rS A' l d p r = rS A l d p r
  | 0 => by
    have h := hP.2.2.2.2.2 d hd
    rw [rS, rS, h 2 (by omega), h 3 (by omega), h 4 (by omega)]
  | r + 1 => by
    have h := hP.2.2.2.2.2 d hd
    rw [rS, rS, rS_eq hP hd r, h 1 (by omega), h 5 (by omega), h 6 (by omega), hP.2.1]
theorem wsl_eq (hP : PKe A A') (hV : VW A q) {l : Nat → Nat} {r : Nat} : ∀ n k, k + n ≤ rn A → wsl A' l r k n = wsl A l r k n
  | 0, _, _ => rfl
  | n + 1, k, hk => by
    have : wy A' l r k = wy A l r k := by
      funext p
      unfold wy
      rw [rd_eq hP hV k, rS_eq hP (rd_lt (show k < rn A by omega)), hP.1]
    rw [wsl, wsl, this, wsl_eq hP hV n (k + 1) (by omega)]
theorem OkR_eq (hP : PKe A A') (hV : VW A q) (l : Nat → Nat) (r H : Nat) : OkR A' l r H ↔ OkR A l r H := by
  unfold OkR
  rw [rn_eq hP hV, wsl_eq hP hV (rn A) 0 (by omega)]
theorem PI.keep {h h' : PH} (hI' : PI h A) (hk : Pk h h') (hP : PKe A A') (hV : VW A q) : PI h' A' := by
  intro i hi
  have e1 : hI h' (165 + i) = hI h (165 + i) := hk _ (by omega) (by omega)
  rcases hI' i hi with z | ⟨s, x, y, z, ⟨u1, u2, u3, u4, u5⟩, v2, v3⟩ | ⟨u1, u2⟩
  · exact Or.inl (by rw [e1]; exact z)
  · refine Or.inr (Or.inl ⟨s, x, y, z, ⟨u1, u2, (OkR_eq hP hV _ _ _).mpr u3, fun x' y' z' a b c => u4 x' y' z' a b ((OkR_eq hP hV _ _ _).mp c), fun r' a x y z b c => u5 r' a x y z b ((OkR_eq hP hV _ _ _).mp c)⟩, by rw [e1]; exact v2, fun j hj => by rw [e1]; exact v3 j hj⟩)
  · exact Or.inr (Or.inr ⟨fun r a x y z b c => u1 r a x y z b ((OkR_eq hP hV _ _ _).mp c), by rw [e1]; exact u2⟩)
theorem PI.pr {h : PH} (hp : Pr h) : PI h A := fun i hi => Or.inl (hp i hi)
end Rkeep
