-- PART: rounds, fits.
theorem csl_snoc {cs : Nat → Nat} : ∀ (n i : Nat), csl cs i (n + 1) = csl cs i n ++ [fun p => cs (i + n) / 2 ^ p % 2 = 1]
  | 0, i => rfl
  | n + 1, i => by
    rw [csl, csl_snoc n (i + 1), csl, List.cons_append, show i + 1 + n = i + (n + 1) by omega]
theorem csl_eq {cs cs' : Nat → Nat} : ∀ (n i : Nat), (∀ j, i ≤ j → j < i + n → cs j = cs' j) → csl cs i n = csl cs' i n
  | 0, i, _ => rfl
  | n + 1, i, h => by
    rw [csl, csl, csl_eq n (i + 1) (fun j h1 h2 => h j (by omega) (by omega)), h i (by omega) (by omega)]
theorem one_all1 : ∀ w, w < 256 → ∀ q, q < 8 → (w ≠ 0 ∧ w % 2 = 0 ∧ pc w ≤ 1) → (tz8 w < 8 ∧ (w / 2 ^ q % 2 = 1 ↔ q = tz8 w)) := by decide +kernel
theorem one_all (w : Nat) (hw : w < 256) (h0 : w ≠ 0) (h1 : w % 2 = 0) (h2 : pc w ≤ 1) : tz8 w < 8 ∧ ∀ q, q < 8 → (w / 2 ^ q % 2 = 1 ↔ q = tz8 w) := ⟨(one_all1 w hw 0 (by omega) ⟨h0, h1, h2⟩).1, fun q hq => (one_all1 w hw q hq ⟨h0, h1, h2⟩).2⟩
theorem none_all : ∀ q, q < 8 → (1 / 2 ^ q % 2 = 1 ↔ q = 0) := by decide +kernel
theorem lw_okw {A l : Nat → Nat} {r k H : Nat} (hr : r ≤ 3) {ws : List (Nat → Prop)} {x y z : Nat} : Okw H (wy A l r k :: ws) x y z ↔ Okw H ((fun p => lw (fun p => decide ((rS A l (rd A k) p r).1 = A 0 % 720)) (if H = 0 then 1 else 2 ^ r) / 2 ^ p % 2 = 1) :: ws) x y z := by
  have p8 := pow_le8 hr
  have p1 : 1 ≤ 2 ^ r := Nat.one_le_two_pow
  have he : (if H = 0 then 1 else 2 ^ r) ≤ 2 ^ r := by split <;> omega
  refine Okw_min (fun q _ hq => ?_) (fun p hp hw y0 y1 y2 => ?_)
  · have h1 := bit_lt (lw_lt _ _) hq
    exact ⟨by omega, of_decide_eq_true (lw_sub _ q hq)⟩
  · obtain ⟨w1, w2⟩ := hw
    have hpe : p < (if H = 0 then 1 else 2 ^ r) := by
      split
      · unfold b0 at y0
        unfold b1 at y1
        unfold b2 at y2
        omega
      · exact w1
    obtain ⟨t, t1, t2⟩ := lw_min (R := fun p => decide ((rS A l (rd A k) p r).1 = A 0 % 720)) _ p hpe (decide_eq_true w2)
    have h1 := bit_lt (lw_lt _ _) t1
    exact ⟨t, by omega, t1, t2⟩
def Ff (h h' : PH) : Prop := (∀ a, a ≠ 163 → a ≠ 200 → a ≠ 201 → a ≠ 203 → a ≠ 204 → hI h' a = hI h a) ∧ (∀ j, j ≠ 9 → hI h' 163 j = hI h 163 j) ∧ hR h' = hR h
theorem Ff.rf {h : PH} : Ff h h := ⟨fun _ _ _ _ _ _ => rfl, fun _ _ => rfl, rfl⟩
theorem Ff.tr {a b c : PH} (h1 : Ff a b) (h2 : Ff b c) : Ff a c := ⟨fun x p q r s t => (h2.1 x p q r s t).trans (h1.1 x p q r s t), fun j hj => (h2.2.1 j hj).trans (h1.2.1 j hj), h2.2.2.trans h1.2.2⟩
theorem GS.ff {h h' : PH} {A : Nat → Nat} (hG : GS h A) (hF : Ff h h') (h16 : rn A ≤ 16) : GS h' A := by
  refine ⟨by rw [hF.2.1 8 (by omega)]; exact hG.1, fun k hk => ⟨by rw [hF.2.2]; exact (hG.2 k hk).1, fun j hj => ?_⟩⟩
  rw [hF.1 _ (by omega) (by omega) (by omega) (by omega) (by omega)]
  exact (hG.2 k hk).2 j hj
theorem RC.ff {h h' : PH} {A : Nat → Nat} (hC : RC h 0 A) (hF : Ff h h') : RC h' 0 A := hC.congr (fun a p q => hF.1 a (by omega) (by omega) (by omega) (by omega) (by omega))
section Rfits
variable {L : Nat} {A l : Nat → Nat}
theorem m82_15 {d H r q : Nat} (hV : VW A q) (hr : r ≤ 3) (hH : H ≤ 15) (hl : ∀ i, 1 ≤ l i ∧ l i ≤ 30) (h16 : rn A ≤ 16) : ∀ (n k m f0 f1 f2 : Nat) (cs : Nat → Nat) (v4 : Value) (h : PH), k + n = rn A → m ≤ k → (∀ i, i < m → cs i < 256) → (f0 ≤ H ∧ f1 ≤ H ∧ f2 ≤ H) → RC h 0 A → GS h A → (∀ i, i < 3 → hI h 199 i = nI (l i)) → (hI h 200 0 = nI f0 ∧ hI h 200 1 = nI f1 ∧ hI h 200 2 = nI f2) → hI h 163 9 = nI m → (∀ i, i < m → hI h 201 i = nI (cs i)) → ∃ v h', runL (g2 L) (d + 2) 6 false (some .boolean) kc_82 15 [.ref 163, .int (nI r), .int (nI H), .int (nI k), v4] [] h = some (some (.int (nI v)), h') ∧ v ≤ 1 ∧ (v = 1 ↔ Okw H (csl cs 0 m ++ wsl A l r k n) f0 f1 f2) ∧ Ff h h' := by
  intro n
  induction n with
  | zero =>
    intro k m f0 f1 f2 cs v4 h hk hm hcs hf hC hG h9 h2 hm9 h1
    rw [e82_15, hG.1, if_pos (by rw [nI_leN (by omega) (by omega)]; omega), hm9]
    by_cases z : m = 0
    · subst z
      rw [if_pos rfl]
      exact ⟨1, h, rfl, Nat.le_refl _, ⟨fun _ => trivial, fun _ => rfl⟩, Ff.rf⟩
    · rw [if_neg (by rw [nI_eqI (by omega) (by omega)]; exact z)]
      obtain ⟨v, h', a1, a2, a3, a4, a5⟩ := m88 (L := L) d (h := h) hH (by omega) hcs hf h2 hm9 h1
      have F : Ff h h' := ⟨fun a _ _ _ q1 q2 => a4 a q1 q2, fun j _ => by rw [a4 163 (by omega) (by omega)], a5⟩
      refine ⟨v, h', ?_, a2, ?_, F⟩
      · rw [a1, cI_s]
        by_cases y : v = 1
        · rw [y, if_neg (by decide)]
        · rw [show v = 0 by omega, if_pos rfl]
      · rw [a3, wsl, List.append_nil]
  | succ n ih =>
    intro k m f0 f1 f2 cs v4 h hk hm hcs hf hC hG h9 h2 hm9 h1
    have kr : k < rn A := by omega
    have hM := m83 (L := L) d (H := H) (h := h) hV hC kr hr hH hG h9 hl
    have hO := @lw_okw A l r k H hr (csl cs 0 m ++ wsl A l r (k + 1) n) f0 f1 f2
    have lz := @lw_zero (fun p => decide ((rS A l (rd A k) p r).1 = A 0 % 720)) (if H = 0 then 1 else 2 ^ r)
    have ll := lw_lt (fun p => decide ((rS A l (rd A k) p r).1 = A 0 % 720)) (if H = 0 then 1 else 2 ^ r)
    generalize lw (fun p => decide ((rS A l (rd A k) p r).1 = A 0 % 720)) (if H = 0 then 1 else 2 ^ r) = w at hM hO lz ll
    have w256 : w < 256 := by
      have p8 := pow_le8 hr
      have he : (if H = 0 then 1 else 2 ^ r) ≤ 8 := by split <;> omega
      have : 2 ^ (if H = 0 then 1 else 2 ^ r) ≤ 2 ^ 8 := Nat.pow_le_pow_right (by decide) he
      omega
    have step : Okw H (csl cs 0 m ++ wsl A l r k (n + 1)) f0 f1 f2 ↔ Okw H ((fun p => w / 2 ^ p % 2 = 1) :: (csl cs 0 m ++ wsl A l r (k + 1) n)) f0 f1 f2 := by
      rw [wsl, Okw_mid]
      exact hO
    have hgo := e82_15 L (d + 2) (nI r) (nI H) (nI k) v4 h
    rw [hG.1, if_neg (by rw [nI_leN (by omega) (by omega)]; omega), hM, cI_s] at hgo
    rw [hgo, step]
    by_cases w0 : w = 0
    · refine ⟨0, h, ?_, Nat.zero_le _, ⟨fun q => absurd q (by decide), fun q => absurd q (Okw_none (fun p _ => ?_))⟩, Ff.rf⟩
      · rw [if_neg (by rw [w0]; exact fun q => q rfl)]
      · show ¬ w / 2 ^ p % 2 = 1
        rw [w0, Nat.zero_div]
        decide
    · rw [if_pos (by rw [Ne, nI_eqI (by omega) (by omega)]; exact w0), nI_plus]
      by_cases wo : w % 2 = 1
      · have w1 := lz wo
        rw [if_neg (by rw [w1]; decide)]
        obtain ⟨v, h', r1, r2, r3, r4⟩ := ih (k + 1) m f0 f1 f2 cs (.int (nI w)) h (by omega) (by omega) hcs hf hC hG h9 h2 hm9 h1
        refine ⟨v, h', r1, r2, ?_, r4⟩
        rw [r3, Okw_one (p := 0) (by omega) (by rw [w1]; exact none_all)]
        exact ⟨fun q => ⟨hf, q⟩, fun q => q.2⟩
      · have wev : w % 2 = 0 := by omega
        have hev : (nI w &&& nI 1) = nI 0 := by
          rw [nI_and, Nat.and_one_is_mod, wev]
        rw [if_pos hev, m64 (d + 1) (by omega), cI_s]
        by_cases pw : pc w ≤ 1
        · have pcb : pc w < 2147483648 := by omega
          obtain ⟨t8, tq⟩ := one_all w w256 w0 wev pw
          rw [if_pos (by rw [nI_leN pcb (by omega)]; exact pw), m86 (d + 1) w256 w0 wev, cI_s]
          obtain ⟨v, g, a1, a2, a3, a4⟩ := m87 (L := L) (d + 1) (h := h) t8 hH (by omega) h2
          rw [a1, cI_s]
          have F : Ff h g := ⟨fun a _ q1 _ _ _ => a2 a q1, fun j _ => by rw [a2 163 (by omega)], a3⟩
          rcases a4 with ⟨v1, v2, v3⟩ | ⟨v0, v2⟩
          · rw [v1, if_pos (by decide)]
            obtain ⟨v, h', r1, r2, r3, r4⟩ := ih (k + 1) m _ _ _ cs (.int (nI w)) g (by omega) (by omega) hcs v2 (hC.ff F) (hG.ff F h16) (fun i hi => by rw [a2 199 (by omega)]; exact h9 i hi) v3 (by rw [a2 163 (by omega)]; exact hm9) (fun i hi => by rw [a2 201 (by omega)]; exact h1 i hi)
            refine ⟨v, h', r1, r2, ?_, F.tr r4⟩
            rw [r3, Okw_one t8 tq]
            exact ⟨fun q => ⟨v2, q⟩, fun q => q.2⟩
          · rw [v0, if_neg (fun q => q rfl)]
            refine ⟨0, g, rfl, Nat.zero_le _, ⟨fun q => absurd q (by decide), fun q => ?_⟩, F⟩
            rw [Okw_one t8 tq] at q
            exact absurd q.1 v2
        · have pb : pc w < 2147483648 := by
            unfold pc
            omega
          rw [if_neg (by rw [nI_leN pb (by omega)]; exact pw), hm9, inB_nI (by omega), asr_d (by omega), ix_nI (by omega), nI_plus]
          have F : Ff h (wI (wI h 201 m (nI w)) 163 9 (nI (m + 1))) := ⟨fun a q1 _ q2 _ _ => by rw [wI_ne q1, wI_ne q2], fun j hj => by rw [hI_wI, if_neg (fun q => hj q.2), wI_ne (by omega)], rfl⟩
          obtain ⟨v, h', r1, r2, r3, r4⟩ := ih (k + 1) (m + 1) f0 f1 f2 (fun i => if i = m then w else cs i) (.int (nI w)) (wI (wI h 201 m (nI w)) 163 9 (nI (m + 1))) (by omega) (by omega) (fun i hi => by
            show (if i = m then w else cs i) < 256
            split
            · exact w256
            · exact hcs i (by omega)) hf (hC.ff F) (hG.ff F h16) (fun i hi => by rw [wI_ne (by omega), wI_ne (by omega)]; exact h9 i hi) (by rw [wI_ne (by omega), wI_ne (by omega)]; exact h2) (by rw [hI_wI, if_pos ⟨rfl, rfl⟩]) (fun i hi => by
            rw [wI_ne (by omega), hI_wI]
            show _ = nI (if i = m then w else cs i)
            by_cases e : i = m
            · rw [if_pos ⟨rfl, e⟩, if_pos e]
            · rw [if_neg (fun q => e q.2), if_neg e]
              exact h1 i (by omega))
          refine ⟨v, h', r1, r2, ?_, F.tr r4⟩
          rw [r3, csl_snoc, csl_eq (cs := fun i => if i = m then w else cs i) (cs' := cs) m 0 (fun j _ hj => if_neg (by omega)), List.append_assoc, List.singleton_append, Okw_mid]
          show Okw H ((fun p => (if 0 + m = m then w else cs (0 + m)) / 2 ^ p % 2 = 1) :: _) _ _ _ ↔ _
          rw [if_pos (Nat.zero_add m)]
/-- fits -/
theorem m82 (d : Nat) {H r q : Nat} {h : PH} (hV : VW A q) (hr : r ≤ 3) (hH : H ≤ 15) (hl : ∀ i, 1 ≤ l i ∧ l i ≤ 30) (h16 : rn A ≤ 16) (hC : RC h 0 A) (hG : GS h A) (h9 : ∀ i, i < 3 → hI h 199 i = nI (l i)) : ∃ v h', exec (g2 L) (d + 3) 82 [.ref 163, .int (nI r), .int (nI H)] h = some (some (.int (nI v)), h') ∧ v ≤ 1 ∧ (v = 1 ↔ OkR A l r H) ∧ Ff h h' := by
  obtain ⟨g, a1, a2, a3, a4⟩ := m55 (L := L) (d + 1) (a := 200) (n := 3) (h := h) (by decide) (by decide) (by decide) (by decide) (by decide) (nI 0)
  have F : Ff h (wI g 163 9 (nI 0)) := ⟨fun a q1 q2 _ _ _ => by rw [wI_ne q1, a3 a q2], fun j hj => by rw [hI_wI, if_neg (fun q => hj q.2), a3 163 (by omega)], a4⟩
  obtain ⟨v, h', r1, r2, r3, r4⟩ := m82_15 (L := L) (d := d) hV hr hH hl h16 (rn A) 0 0 0 0 0 (fun _ => 0) dm (wI g 163 9 (nI 0)) (by omega) (by omega) (fun i hi => absurd hi (Nat.not_lt_zero _)) ⟨by omega, by omega, by omega⟩ (hC.ff F) (hG.ff F h16) (fun i hi => by rw [wI_ne (by omega), a3 199 (by omega)]; exact h9 i hi) (by rw [wI_ne (by omega)]; exact ⟨a2 0 (by omega), a2 1 (by omega), a2 2 (by omega)⟩) (by rw [hI_wI, if_pos ⟨rfl, rfl⟩]) (fun i hi => absurd hi (Nat.not_lt_zero _))
  refine ⟨v, h', ?_, r2, r3, F.tr r4⟩
  rw [x82, a1, cV_s]
  exact r1
end Rfits
