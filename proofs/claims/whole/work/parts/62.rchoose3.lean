-- PART: rounds, chooseOne, all.
section Rch3
variable {L : Nat}
theorem m89_15 {d a0 a1 w H x0 : Nat} {F : Nat → Nat → Nat} (k0 : kx_K a0 = 1 ∧ kx_L a0 = 256 ∧ 2 ≤ a0 ∧ a0 < 289) (ka : kx_K a1 = 1 ∧ kx_L a1 = 256 ∧ 2 ≤ a1 ∧ a1 < 289) (hne : a0 ≠ a1) (hw : w < 256) (hH : H ≤ 15) (hF : ∀ x y, F x y ≤ 99) (hx : x0 ≤ H) : ∀ (n y0 c : Nat) (T : Nat → Nat → Nat) (v7 v8 v9 v10 v11 v12 v13 : Value) (h : PH), y0 + n = H + 1 → Tb h a0 F → (∀ x y, T x y ≤ 99) → Tb h a1 T → Kn H F (fun p => w / 2 ^ p % 2 = 1) (Pz x0 y0 0) T c → ∃ h' T' c' u6 u7 u8 u9 u10 u11 u12 u13, runL (g2 L) d 6 false (some .boolean) kc_89 15 [.ref a0, .ref a1, .int (nI w), .int (nI H), .int (nI c), .int (nI x0), .int (nI y0), v7, v8, v9, v10, v11, v12, v13] [] h = runL (g2 L) d 6 false (some .boolean) kc_89 6 [.ref a0, .ref a1, .int (nI w), .int (nI H), .int (nI c'), .int (nI (x0 + 1)), u6, u7, u8, u9, u10, u11, u12, u13] [] h' ∧ Tb h' a0 F ∧ (∀ x y, T' x y ≤ 99) ∧ Tb h' a1 T' ∧ Kn H F (fun p => w / 2 ^ p % 2 = 1) (Pz (x0 + 1) 0 0) T' c' ∧ (∀ a, a ≠ a1 → hI h' a = hI h a) ∧ hR h' = hR h := by
  intro n
  induction n with
  | zero =>
    intro y0 c T v7 v8 v9 v10 v11 v12 v13 h hy hA hT9 hT hK
    refine ⟨h, T, c, _, _, _, _, _, _, _, _, by rw [e89_15, if_pos (by rw [nI_ltN (by omega) (by omega)]; omega), nI_plus], hA, hT9, hT, hK.iff (fun x y p hv => ?_), fun _ _ => rfl, rfl⟩
    have := hv.2.1
    unfold Pz
    omega
  | succ n ih =>
    intro y0 c T v7 v8 v9 v10 v11 v12 v13 h hy hA hT9 hT hK
    obtain ⟨h1, T1, c1, t7, t8, t9, t10, t11, t12, t13, a1', a2, a3, a4, a5, a6⟩ := m89_36 (L := L) (d := d) (a0 := a0) (F := F) (y0 := y0) ka hne hw hH hF hx (by omega) 8 0 c T v9 v10 v11 v12 v13 h rfl hT9 hT hK
    obtain ⟨h', T', c', u6, u7, u8, u9, u10, u11, u12, u13, b1, b2, b3, b4, b5, b6, b7⟩ := ih (y0 + 1) c1 T1 t7 t8 t9 t10 t11 t12 t13 h1 (by omega) (fun x y p q => by rw [a5 a0 hne]; exact hA x y p q) a2 a3 a4
    refine ⟨h', T', c', u6, u7, u8, u9, u10, u11, u12, u13, ?_, b2, b3, b4, b5, fun a ha => by rw [b6 a ha, a5 a ha], b7.trans a6⟩
    rw [e89_15, if_neg (by rw [nI_ltN (by omega) (by omega)]; omega), okA_of k0.1 k0.2.2.2, asr_true, nI_times, nI_plus, lenA_of k0.2.2.1, k0.2.1, inB_nI (by omega), asr_d (by omega), ix_nI (by omega), hA x0 y0 (by omega) (by omega), a1', b1]
theorem m89_6 {d a0 a1 w H : Nat} {F : Nat → Nat → Nat} (k0 : kx_K a0 = 1 ∧ kx_L a0 = 256 ∧ 2 ≤ a0 ∧ a0 < 289) (ka : kx_K a1 = 1 ∧ kx_L a1 = 256 ∧ 2 ≤ a1 ∧ a1 < 289) (hne : a0 ≠ a1) (hw : w < 256) (hH : H ≤ 15) (hF : ∀ x y, F x y ≤ 99) : ∀ (n x0 c : Nat) (T : Nat → Nat → Nat) (v6 v7 v8 v9 v10 v11 v12 v13 : Value) (h : PH), x0 + n = H + 1 → Tb h a0 F → (∀ x y, T x y ≤ 99) → Tb h a1 T → Kn H F (fun p => w / 2 ^ p % 2 = 1) (Pz x0 0 0) T c → ∃ h' T' c', runL (g2 L) d 6 false (some .boolean) kc_89 6 [.ref a0, .ref a1, .int (nI w), .int (nI H), .int (nI c), .int (nI x0), v6, v7, v8, v9, v10, v11, v12, v13] [] h = some (some (.int (nI c')), h') ∧ Tb h' a0 F ∧ (∀ x y, T' x y ≤ 99) ∧ Tb h' a1 T' ∧ Kn H F (fun p => w / 2 ^ p % 2 = 1) (fun _ _ _ => True) T' c' ∧ (∀ a, a ≠ a1 → hI h' a = hI h a) ∧ hR h' = hR h := by
  intro n
  induction n with
  | zero =>
    intro x0 c T v6 v7 v8 v9 v10 v11 v12 v13 h hx hA hT9 hT hK
    refine ⟨h, T, c, ?_, hA, hT9, hT, hK.iff (fun x y p hv => ?_), fun _ _ => rfl, rfl⟩
    · rw [e89_6, if_pos (by rw [nI_ltN (by omega) (by omega)]; omega), asr_d (nrZ_le hK.2.2.1)]
    · have := hv.1
      exact ⟨fun _ => trivial, fun _ => Or.inl (by omega)⟩
  | succ n ih =>
    intro x0 c T v6 v7 v8 v9 v10 v11 v12 v13 h hx hA hT9 hT hK
    obtain ⟨h1, T1, c1, t6, t7, t8, t9, t10, t11, t12, t13, a1', a2, a3, a4, a5, a6, a7⟩ := m89_15 (L := L) (d := d) (F := F) (x0 := x0) k0 ka hne hw hH hF (by omega) (H + 1) 0 c T v7 v8 v9 v10 v11 v12 v13 h (by omega) hA hT9 hT hK
    obtain ⟨h', T', c', b1, b2, b3, b4, b5, b6, b7⟩ := ih (x0 + 1) c1 T1 t6 t7 t8 t9 t10 t11 t12 t13 h1 (by omega) a2 a3 a4 a5
    refine ⟨h', T', c', ?_, b2, b3, b4, b5, fun a ha => by rw [b6 a ha, a6 a ha], b7.trans a7⟩
    rw [e89_6, if_neg (by rw [nI_ltN (by omega) (by omega)]; omega), a1', b1]
end Rch3
