-- PART: rounds, gather, all.
section Rgather2
variable {L : Nat} {A : Nat → Nat}
def GP (h : PH) (A : Nat → Nat) (m : Nat) : Prop := hI h 163 8 = nI (rl A m).length ∧ ∀ k, k < (rl A m).length → hR h 198 k = 33 + (rl A m).getD k 0 ∧ rowR h A k ((rl A m).getD k 0) 91
def Fg (h h' : PH) : Prop := (∀ a, a ≠ 163 → ¬ (182 ≤ a ∧ a ≤ 197) → hI h' a = hI h a)
theorem m79_7 {d q : Nat} (hV : VW A q) (hq : q ≤ 100000000) (h0 : A 0 < 576000) : ∀ (n m : Nat) (v2 v3 v4 : Value) (h : PH), m + n = A 4 → RC h 0 A → GP h A m → ∃ h', runL (g2 L) (d + 2) 6 false none kc_79 7 [.ref 163, .int (nI m), v2, v3, v4] [] h = some (none, h') ∧ RC h' 0 A ∧ GP h' A (A 4) ∧ Fg h h' := by
  obtain ⟨v1, v3', v4', vb, vk, vl⟩ := id hV
  intro n
  induction n with
  | zero =>
    intro m v2 v3 v4 h hm hC hG
    have : m = A 4 := by omega
    subst this
    have f4 := hC.nd
    rw [Nat.zero_add] at f4
    refine ⟨h, ?_, hC, hG, fun _ _ _ => rfl⟩
    rw [e79_7, f4, if_pos (by rw [nI_leN (by omega) (by omega)]; omega)]
  | succ n ih =>
    intro m v2 v3 v4 h hm hC hG
    have f4 := hC.nd
    have t0 := (hC.dH (i := m) (by omega)).1
    rw [Nat.zero_add] at f4 t0
    obtain ⟨l0, l1, l2, l3, l4, l5, l6, l7⟩ := vl m (by omega)
    have e1 := m30 (L := L) d hC v3' vb vk (st := 0) (by omega) l0
    rw [nI_p0] at e1
    by_cases z : cm A 0 (A (40 + 8 * m) + 1) = true
    · have er : rl A (m + 1) = rl A m ++ [m] := by rw [rl, if_pos z]
      have hlen := rl_len (A := A) m
      obtain ⟨G1, G2⟩ := hG
      obtain ⟨h1, a1, a2, a3, a4⟩ := m79_67 (L := L) (d := d) hV hq (show m < A 4 by omega) (show (rl A m).length < 16 by omega) (nI m) 91 0 h rfl hC G1 (fun j hj => by omega)
      have fr : ∀ a, a ≠ 163 → hI (wI (wR h1 198 (rl A m).length (33 + m)) 163 8 (nI ((rl A m).length + 1))) a = hI h1 a := fun a ha => by rw [wI_ne ha, hI_wR]
      have hG' : GP (wI (wR h1 198 (rl A m).length (33 + m)) 163 8 (nI ((rl A m).length + 1))) A (m + 1) := by
        unfold GP
        rw [er, List.length_append, List.length_singleton]
        refine ⟨by rw [hI_wI, if_pos ⟨rfl, rfl⟩], fun k hk => ?_⟩
        by_cases y : k = (rl A m).length
        · subst y
          rw [getD_last]
          refine ⟨?_, fun j hj => ?_⟩
          · show hR (wR h1 198 (rl A m).length (33 + m)) 198 (rl A m).length = _
            rw [hR_wR, if_pos ⟨rfl, rfl⟩]
          · rw [fr _ (by omega)]
            exact a2 j hj
        · rw [getD_app (by omega)]
          refine ⟨?_, fun j hj => ?_⟩
          · show hR (wR h1 198 (rl A m).length (33 + m)) 198 k = _
            rw [hR_wR, if_neg (fun q => y q.2), a4]
            exact (G2 k (by omega)).1
          · rw [fr _ (by omega), a3 _ (by omega)]
            exact (G2 k (by omega)).2 j hj
      obtain ⟨h', b1, b2, b3, b4⟩ := ih (m + 1) (.ref (33 + m)) (.int (nI (bh (A 0) (A (40 + 8 * m + 2))))) (.int (nI 91)) _ (by omega) (hC.congr (fun a p q => by rw [fr a (by omega), a3 a (by omega)])) hG'
      refine ⟨h', ?_, b2, b3, fun a p1 p2 => by rw [b4 a p1 p2, fr a p1, a3 a (by omega)]⟩
      rw [e79_7, f4, if_neg (by rw [nI_leN (by omega) (by omega)]; omega), if_neg (by rw [nI_leN (by omega) (by omega)]; omega), inB_nI (by omega), asr_d (by omega), ix_nI (by omega), okA_of (kk16 (show m < 16 by omega)).1 (by omega), asr_true, t0, e1, cI_s, bI_t z, if_pos (by decide), m39 (d + 1) hC h0 (by omega) l2, cI_s, a1, nI_plus]
      exact b1
    · have er : rl A (m + 1) = rl A m := by rw [rl, if_neg z]
      obtain ⟨h', b1, b2, b3, b4⟩ := ih (m + 1) (.ref (33 + m)) v3 v4 h (by omega) hC (by unfold GP; rw [er]; exact hG)
      refine ⟨h', ?_, b2, b3, b4⟩
      rw [e79_7, f4, if_neg (by rw [nI_leN (by omega) (by omega)]; omega), if_neg (by rw [nI_leN (by omega) (by omega)]; omega), inB_nI (by omega), asr_d (by omega), ix_nI (by omega), okA_of (kk16 (show m < 16 by omega)).1 (by omega), asr_true, t0, e1, cI_s, bI_f z, if_neg (fun q => q rfl), nI_plus]
      exact b1
theorem m79 (d : Nat) {q : Nat} {h : PH} (hV : VW A q) (hq : q ≤ 100000000) (h0 : A 0 < 576000) (hC : RC h 0 A) : ∃ h', exec (g2 L) (d + 3) 79 [.ref 163] h = some (none, h') ∧ RC h' 0 A ∧ GS h' A ∧ Fg h h' := by
  obtain ⟨h', b1, b2, b3, b4⟩ := m79_7 (L := L) (d := d) hV hq h0 (A 4) 0 dm dm dm (wI h 163 8 (nI 0)) (by omega) (hC.congr (fun a p q => wI_ne (by omega))) ⟨by rw [hI_wI, if_pos ⟨rfl, rfl⟩]; rfl, fun k hk => absurd hk (Nat.not_lt_zero _)⟩
  refine ⟨h', ?_, b2, ⟨b3.1, fun k hk => ⟨(b3.2 k hk).1, fun j hj => (b3.2 k hk).2 j (by omega)⟩⟩, fun a p1 p2 => by rw [b4 a p1 p2, wI_ne p1]⟩
  rw [x79]
  exact b1
end Rgather2
