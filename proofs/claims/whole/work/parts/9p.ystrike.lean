-- PART: explaining, the reference's table of a dial: its methods.
/-- what the reference holds of the dial D -/
def YC (h : PH) (A : Nat → Nat) (D : Nat) : Prop := RM h 254 A ∧ (∀ a, a ≤ 10 → hI h 265 a = nI (A (170 + 8 * D + 2) + xF A D a)) ∧ hI h 253 11 = nI (A (170 + 8 * D + 1)) ∧ hI h 253 15 = nI (A (170 + 8 * D + 3))
theorem YC.congr {h h' : PH} {A : Nat → Nat} {D : Nat} (hC : YC h A D) (e : ∀ x, x ≠ 262 → x ≠ 263 → x ≠ 264 → hI h' x = hI h x) : YC h' A D := by
  obtain ⟨c1, c2, c3, c4⟩ := hC
  refine ⟨c1.congr (e 254 (by omega) (by omega) (by omega)), fun a ha => ?_, ?_, ?_⟩
  · rw [e 265 (by omega) (by omega) (by omega)]
    exact c2 a ha
  · rw [e 253 (by omega) (by omega) (by omega)]
    exact c3
  · rw [e 253 (by omega) (by omega) (by omega)]
    exact c4
def yL (A : Nat → Nat) (D p K sh i : Nat) : Bool := decide (∀ k, k < i → A (320 + 4 * k) = D → A (320 + 4 * k + 1) = p → A (320 + 4 * k + 3) ≤ K → A (320 + 4 * k + 2) = sh)
/-- r readings are known on the day K -/
def yK (A : Nat → Nat) (K r : Nat) : Prop := r ≤ A 7 ∧ ∀ k, k < A 7 → (k < r ↔ A (320 + 4 * k + 3) ≤ K)
section Yp
variable {L : Nat} {A : Nat → Nat}
theorem m191 (d : Nat) {k v g : Nat} {h : PH} (hk : k < 242) (hg : hI h 264 k = nI g) (hv : v ≤ 2000) (hg2 : g ≤ 2000) : exec (g2 L) (d + 1) 191 [.ref 253, .int (nI k), .int (nI v)] h = some (none, wI h 264 k (nI (if v < g then v else g))) := by
  have s0 := x191 L d (nI k) (nI v) h
  simp (disch := omega) only [inB_nI, ix_nI, asr_d] at s0
  rw [hg] at s0
  rw [s0]
  by_cases q : v < g
  · rw [if_pos q, if_neg (by rw [nI_leN (by omega) (by omega)]; omega)]
  · rw [if_neg q, if_pos (by rw [nI_leN (by omega) (by omega)]; omega)]
theorem YG.put {h : PH} {S : Nat → Nat → Prop} (hG : YG h S) (d : Nat) {k v : Nat} (hk : k < 242) (hv : v ≤ 1000) : ∃ h', exec (g2 L) (d + 1) 191 [.ref 253, .int (nI k), .int (nI v)] h = some (none, h') ∧ YG h' (fun k2 c => S k2 c ∨ (k2 = k ∧ c = v)) ∧ ∀ x, x ≠ 264 → hI h' x = hI h x := by
  obtain ⟨g, g1, g2', g3⟩ := hG
  have b := g2' k
  refine ⟨_, m191 (L := L) d hk (g1 k hk) (by omega) (by omega), ⟨fun k2 => if k2 = k then (if v < g k then v else g k) else g k2, fun k2 hk2 => ?_, fun k2 => ?_, fun k2 => ?_⟩, fun x hx => wI_ne hx⟩
  · show _ = nI (if k2 = k then (if v < g k then v else g k) else g k2)
    rw [hI_wI]
    by_cases q : k2 = k
    · rw [if_pos ⟨rfl, q⟩, if_pos q]
    · rw [if_neg (fun z => q z.2), if_neg q]
      exact g1 k2 hk2
  · show (if k2 = k then (if v < g k then v else g k) else g k2) ≤ 1000
    by_cases q : k2 = k
    · rw [if_pos q]
      split <;> omega
    · rw [if_neg q]
      exact g2' k2
  · show xMin (fun c => S k2 c ∨ (k2 = k ∧ c = v)) (if k2 = k then (if v < g k then v else g k) else g k2)
    by_cases q : k2 = k
    · rw [if_pos q]
      subst q
      refine ((g3 k2).also v).congr (fun c _ => ?_)
      simp only [true_and]
    · rw [if_neg q]
      refine (g3 k2).congr (fun c _ => ?_)
      simp only [q, false_and, or_false]
theorem m190 (d : Nat) {t sg k v : Nat} {h : PH} {S : Nat → Nat → Prop} (ht : t ≤ 1) (hs : sg ≤ 1) (hk : k < 220) (f11 : hI h 253 11 = nI t) (hv : hI h 263 k = nI v) (hv1 : v < 1000) (hG : YG h S) : ∃ h', exec (g2 L) (d + 2) 190 [.ref 253, .int (nI k), .int (nI sg)] h = some (none, h') ∧ YG h' (fun k2 c => S k2 c ∨ yE t sg v k k2 c) ∧ ∀ x, x ≠ 264 → hI h' x = hI h x := by
  have core : ¬ (t = 1 ∧ k / 11 % 2 = sg) → ∃ h', runL (g2 L) (d + 1) 11 false none kc_190 29 [.ref 253, .int (nI k), .int (nI sg), dm] [] h = some (none, h') ∧ YG h' (fun k2 c => S k2 c ∨ yE t sg v k k2 c) ∧ ∀ x, x ≠ 264 → hI h' x = hI h x := by
    intro z
    have s0 := e190_29 L (d + 1) (nI k) (nI sg) h
    simp (disch := omega) only [inB_nI, ix_nI, asr_d, nI_quot, nI_rest, nI_plus, nI_times] at s0
    rw [hv, nI_plus] at s0
    obtain ⟨h1, p1, G1, F1⟩ := hG.put (L := L) d (k := k) (v := v + 1) (by omega) (by omega)
    rw [p1, cV_s, F1 263 (by omega), hv] at s0
    obtain ⟨h2, p2, G2, F2⟩ := G1.put (L := L) d (k := (k / 22 + 1) * 22 + 11 * sg + k % 11) (v := v) (by omega) (by omega)
    rw [p2, cV_s] at s0
    by_cases q : k % 11 < 10
    · obtain ⟨h3, p3, G3, F3⟩ := G2.put (L := L) d (k := (k / 22 + 1) * 22 + 11 * sg + k % 11 + 1) (v := v) (by omega) (by omega)
      rw [if_neg (by rw [nI_leN (by omega) (by omega)]; omega), F2 263 (by omega), F1 263 (by omega), hv, p3, cV_s] at s0
      refine ⟨h3, s0, G3.congr (fun k2 c => ?_), fun x hx => by rw [F3 x hx, F2 x hx, F1 x hx]⟩
      unfold yE
      rw [if_neg z]
      simp only [q, true_and, or_assoc]
    · rw [if_pos (by rw [nI_leN (by omega) (by omega)]; omega)] at s0
      refine ⟨h2, s0, G2.congr (fun k2 c => ?_), fun x hx => by rw [F2 x hx, F1 x hx]⟩
      unfold yE
      rw [if_neg z]
      simp only [q, false_and, or_false, or_assoc]
  rw [x190, f11, nI_quot (by omega) (by omega), nI_rest (by omega) (by omega)]
  by_cases z1 : t = 1
  · rw [if_neg (by rw [nI_eqI (by omega) (by omega)]; omega)]
    by_cases z2 : k / 11 % 2 = sg
    · rw [if_neg (by rw [z2]; exact fun q => q rfl), inB_nI (by omega), asr_d (by omega), ix_nI (by omega), hv]
      obtain ⟨h1, p1, G1, F1⟩ := hG.put (L := L) d (k := k) (v := v) (by omega) (by omega)
      refine ⟨h1, by rw [p1, cV_s], G1.congr (fun k2 c => ?_), F1⟩
      unfold yE
      rw [if_pos ⟨z1, z2⟩]
    · rw [if_pos (by rw [Ne, nI_eqI (by omega) (by omega)]; exact z2)]
      exact core (fun q => z2 q.2)
  · rw [if_pos (by rw [nI_eqI (by omega) (by omega)]; omega)]
    exact core (fun q => z1 q.1)
theorem m189_6 {d D p K sh : Nat} {h : PH} (hV : XV A) (hM : RM h 254 A) (hD : D < 16) (hp : p ≤ 10) (hK : K < 400) (hsh : sh < 720) : ∀ (n i : Nat) (x5 : Int32) (v7 : Value), i + n = A 7 → x5 = bI (yL A D p K sh i = true) → runL (g2 L) d 11 false (some .boolean) kc_189 6 [.ref 253, .int (nI D), .int (nI p), .int (nI K), .int (nI sh), .int x5, .int (nI i), v7] [] h = some (some (.int (bI (yL A D p K sh (A 7) = true))), h) := by
  obtain ⟨v7', v8, v9, v10, v11, vB, vL, vR, vS⟩ := id hV
  have w7 := hM.at (k := 7) (by omega) (by omega)
  intro n
  induction n with
  | zero =>
    intro i x5 v7 hi hx
    have e : i = A 7 := by omega
    subst e
    rw [e189_6, w7, if_pos (by rw [nI_leN (by omega) (by omega)]; omega), hx, bI_Z]
    rfl
  | succ n ih =>
    intro i x5 v7 hi hx
    obtain ⟨u0, u1, u2, u3⟩ := vR i (by omega)
    have r0 := hM.at (k := 320 + 4 * i) (by omega) (by omega)
    have r1 := hM.at (k := 320 + 4 * i + 1) (by omega) (by omega)
    have r2 := hM.at (k := 320 + 4 * i + 2) (by omega) (by omega)
    have r3 := hM.at (k := 320 + 4 * i + 3) (by omega) (by omega)
    have sp : (yL A D p K sh (i + 1) = true) ↔ (yL A D p K sh i = true ∧ (A (320 + 4 * i) = D → A (320 + 4 * i + 1) = p → A (320 + 4 * i + 3) ≤ K → A (320 + 4 * i + 2) = sh)) := by
      unfold yL
      rw [decide_eq_true_iff, decide_eq_true_iff]
      constructor
      · intro z
        exact ⟨fun k hk => z k (by omega), z i (by omega)⟩
      · rintro ⟨z1, z2⟩ k hk
        by_cases e : k = i
        · subst e
          exact z2
        · exact z1 k (by omega)
    have go : ∀ x5' v7', x5' = bI (yL A D p K sh (i + 1) = true) → runL (g2 L) d 11 false (some .boolean) kc_189 6 [.ref 253, .int (nI D), .int (nI p), .int (nI K), .int (nI sh), .int x5', .int (nI (i + 1)), v7'] [] h = some (some (.int (bI (yL A D p K sh (A 7) = true))), h) := fun x5' v7' hx' => ih (i + 1) x5' v7' (by omega) hx'
    have s0 := e189_6 L d (nI D) (nI p) (nI K) (nI sh) x5 (nI i) v7 h
    simp (disch := omega) only [nI_times, nI_plus, inB_nI, ix_nI, asr_d] at s0
    rw [w7, if_neg (by rw [nI_leN (by omega) (by omega)]; omega), r0, r1, r2, r3] at s0
    rw [s0]
    by_cases y : yL A D p K sh i = true
    · rw [hx, bI_t y, if_neg (by decide)]
      by_cases q0 : A (320 + 4 * i) = D
      · rw [if_neg (by rw [q0]; exact fun z => z rfl)]
        by_cases q1 : A (320 + 4 * i + 1) = p
        · rw [if_neg (by rw [q1]; exact fun z => z rfl)]
          by_cases q3 : A (320 + 4 * i + 3) ≤ K
          · rw [if_neg (by rw [nI_ltN (by omega) (by omega)]; omega)]
            by_cases q2 : A (320 + 4 * i + 2) = sh
            · rw [if_neg (by rw [q2]; exact fun z => z rfl)]
              exact go _ _ (bI_t (sp.mpr ⟨y, fun _ _ _ => q2⟩)).symm
            · rw [if_pos (by rw [Ne, nI_eqI (by omega) (by omega)]; exact q2)]
              exact go _ _ (bI_f (fun z => q2 ((sp.mp z).2 q0 q1 q3))).symm
          · rw [if_pos (by rw [nI_ltN (by omega) (by omega)]; omega)]
            exact go _ _ (bI_t (sp.mpr ⟨y, fun _ _ z => absurd z q3⟩)).symm
        · rw [if_pos (by rw [Ne, nI_eqI (by omega) (by omega)]; exact q1)]
          exact go _ _ (bI_t (sp.mpr ⟨y, fun _ z => absurd z q1⟩)).symm
      · rw [if_pos (by rw [Ne, nI_eqI (by omega) (by omega)]; exact q0)]
        exact go _ _ (bI_t (sp.mpr ⟨y, fun z => absurd z q0⟩)).symm
    · rw [hx, bI_f y, if_pos rfl]
      exact go _ _ (bI_f (fun z => y (sp.mp z).1)).symm
theorem m189 (d : Nat) {D p K sh : Nat} {h : PH} (hV : XV A) (hM : RM h 254 A) (hD : D < 16) (hp : p ≤ 10) (hK : K < 400) (hsh : sh < 720) : exec (g2 L) (d + 1) 189 [.ref 253, .int (nI D), .int (nI p), .int (nI K), .int (nI sh)] h = some (some (.int (bI (yL A D p K sh (A 7) = true))), h) := by
  rw [x189]
  refine m189_6 (L := L) hV hM hD hp hK hsh (A 7) 0 (nI 1) dm (by omega) (bI_t ?_).symm
  unfold yL
  rw [decide_eq_true_iff]
  exact fun k hk => absurd hk (Nat.not_lt_zero _)
theorem yL_ok {K r D p a j : Nat} (hK : yK A K r) : (yL A D p K ((A (170 + 8 * D + 2) + xF A D a + j) % 720) (A 7) = true) ↔ xok A r D p a j = true := by
  unfold yL xok
  rw [decide_eq_true_iff, decide_eq_true_iff]
  constructor
  · intro z k hk q0 q1
    have h7 : k < A 7 := Nat.lt_of_lt_of_le hk hK.1
    exact z k h7 q0 q1 ((hK.2 k h7).mp hk)
  · intro z k hk q0 q1 q3
    exact z k ((hK.2 k hk).mpr q3) q0 q1
def yk (f : Nat → Nat) (ok : Nat → Nat → Bool) (n k : Nat) : Nat := if k < n ∧ ¬ ok (k / 22) (k % 11) = true then 1000 else f k
theorem m188_3 {d D p K r : Nat} {f : Nat → Nat} (hV : XV A) (hY : yK A K r) (hD : D < A 10) (hp : p ≤ 10) (hK : K < 400) (hf : ∀ k, f k ≤ 1000) : ∀ (n k : Nat) (h : PH), k + n = 242 → YC h A D → YR h (yk f (xok A r D p) k) → ∃ h', runL (g2 L) (d + 1) 11 false none kc_188 3 [.ref 253, .int (nI D), .int (nI p), .int (nI K), .int (nI k)] [] h = some (none, h') ∧ YR h' (ys f (xok A r D p)) ∧ ∀ x, x ≠ 263 → hI h' x = hI h x := by
  obtain ⟨v7', v8, v9, v10, v11, vB, vL, vR, vS⟩ := id hV
  obtain ⟨l0, l1, l2, l3, l4, l5, l6, l7⟩ := vL D hD
  intro n
  induction n with
  | zero =>
    intro k h hk hC hR0
    have e : k = 242 := by omega
    subst e
    refine ⟨h, ?_, fun k hk => ?_, fun _ _ => rfl⟩
    · rw [e188_3, if_pos (by rw [nI_leN (by omega) (by omega)]; omega)]
    · rw [hR0 k hk]
      unfold yk ys
      by_cases q : xok A r D p (k / 22) (k % 11) = true
      · rw [if_neg (fun z => z.2 q), if_pos q]
      · rw [if_pos ⟨hk, q⟩, if_neg q]
  | succ n ih =>
    intro k h hk hC hR0
    have b1 := hf k
    have g0 := hC.2.1 (k / 22) (by omega)
    have xl := xF_le A D (k / 22)
    have f0 : hI h 263 k = nI (f k) := by
      rw [hR0 k (by omega)]
      unfold yk
      rw [if_neg (by omega)]
    have s0 := e188_3 L (d + 1) (nI D) (nI p) (nI K) (nI k) h
    simp (disch := omega) only [inB_nI, ix_nI, asr_d, nI_quot, nI_rest, nI_plus] at s0
    rw [if_neg (by rw [nI_leN (by omega) (by omega)]; omega), f0, g0, nI_plus, nI_rest (by omega) (by omega)] at s0
    by_cases q : f k < 1000
    · rw [if_neg (by rw [nI_leN (by omega) (by omega)]; omega), m189 (L := L) d hV hC.1 (by omega) hp hK (Nat.mod_lt _ (by omega)), cI_s] at s0
      by_cases y : xok A r D p (k / 22) (k % 11) = true
      · rw [if_pos (bI_nz.mpr ((yL_ok hY).mpr y))] at s0
        obtain ⟨h', e1, e2, e3⟩ := ih (k + 1) h (by omega) hC (fun k2 hk2 => by
          rw [hR0 k2 hk2]
          unfold yk
          by_cases e : k2 = k
          · subst e
            rw [if_neg (by omega), if_neg (fun z => z.2 y)]
          · by_cases z : k2 < k ∧ ¬ xok A r D p (k2 / 22) (k2 % 11) = true
            · rw [if_pos z, if_pos ⟨by omega, z.2⟩]
            · rw [if_neg z, if_neg (fun w => z ⟨by omega, w.2⟩)])
        exact ⟨h', s0.trans e1, e2, e3⟩
      · rw [if_neg (fun z => y ((yL_ok hY).mp (bI_nz.mp z)))] at s0
        obtain ⟨h', e1, e2, e3⟩ := ih (k + 1) (wI h 263 k (nI 1000)) (by omega) (hC.congr (fun x _ p _ => wI_ne p)) (fun k2 hk2 => by
          rw [hI_wI]
          by_cases e : k2 = k
          · subst e
            rw [if_pos ⟨rfl, rfl⟩]
            unfold yk
            rw [if_pos ⟨by omega, y⟩]
          · rw [if_neg (fun z => e z.2), hR0 k2 hk2]
            unfold yk
            by_cases z : k2 < k ∧ ¬ xok A r D p (k2 / 22) (k2 % 11) = true
            · rw [if_pos z, if_pos ⟨by omega, z.2⟩]
            · rw [if_neg z, if_neg (fun w => z ⟨by omega, w.2⟩)])
        exact ⟨h', s0.trans e1, e2, fun x hx => by rw [e3 x hx, wI_ne hx]⟩
    · rw [if_pos (by rw [nI_leN (by omega) (by omega)]; omega)] at s0
      obtain ⟨h', e1, e2, e3⟩ := ih (k + 1) h (by omega) hC (fun k2 hk2 => by
        rw [hR0 k2 hk2]
        unfold yk
        by_cases e : k2 = k
        · subst e
          rw [if_neg (by omega)]
          split
          · congr 1
            omega
          · rfl
        · by_cases z : k2 < k ∧ ¬ xok A r D p (k2 / 22) (k2 % 11) = true
          · rw [if_pos z, if_pos ⟨by omega, z.2⟩]
          · rw [if_neg z, if_neg (fun w => z ⟨by omega, w.2⟩)])
      exact ⟨h', s0.trans e1, e2, e3⟩
theorem m188 (d : Nat) {D p K r : Nat} {f : Nat → Nat} {h : PH} (hV : XV A) (hY : yK A K r) (hD : D < A 10) (hp : p ≤ 10) (hK : K < 400) (hf : ∀ k, f k ≤ 1000) (hC : YC h A D) (hR0 : YR h f) : ∃ h', exec (g2 L) (d + 2) 188 [.ref 253, .int (nI D), .int (nI p), .int (nI K)] h = some (none, h') ∧ YR h' (ys f (xok A r D p)) ∧ ∀ x, x ≠ 263 → hI h' x = hI h x := by
  rw [x188]
  refine m188_3 (L := L) hV hY hD hp hK hf 242 0 h (by omega) hC (fun k hk => ?_)
  rw [hR0 k hk]
  unfold yk
  rw [if_neg (by omega)]
theorem ys_le {f : Nat → Nat} {ok : Nat → Nat → Bool} (hf : ∀ k, f k ≤ 1000) : ∀ k, ys f ok k ≤ 1000 := by
  intro k
  unfold ys
  split
  · exact hf k
  · exact Nat.le_refl _
end Yp
