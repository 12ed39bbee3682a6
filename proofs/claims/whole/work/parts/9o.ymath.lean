-- PART: explaining, the reference's table of a dial: what it is.
/-- a pulse of the sign sg comes to k, with v misses: what becomes of it -/
def yE (t sg v k' k c : Nat) : Prop := if t = 1 ∧ k' / 11 % 2 = sg then k = k' ∧ c = v else (k = k' ∧ c = v + 1) ∨ (k = (k' / 22 + 1) * 22 + 11 * sg + k' % 11 ∧ c = v) ∨ (k' % 11 < 10 ∧ k = (k' / 22 + 1) * 22 + 11 * sg + k' % 11 + 1 ∧ c = v)
def YG (h : PH) (S : Nat → Nat → Prop) : Prop := ∃ g : Nat → Nat, (∀ k, k < 242 → hI h 264 k = nI (g k)) ∧ (∀ k, g k ≤ 1000) ∧ ∀ k, xMin (S k) (g k)
theorem YG.congr {h : PH} {S S' : Nat → Nat → Prop} (hG : YG h S) (e : ∀ k c, S' k c ↔ S k c) : YG h S' := by
  obtain ⟨g, g1, g2', g3⟩ := hG
  exact ⟨g, g1, g2', fun k => (g3 k).congr (fun c _ => e k c)⟩
def YR (h : PH) (f : Nat → Nat) : Prop := ∀ k, k < 242 → hI h 263 k = nI (f k)
def ys (f : Nat → Nat) (ok : Nat → Nat → Bool) (k : Nat) : Nat := if ok (k / 22) (k % 11) = true then f k else 1000
/-- the reference's table f says what T says -/
def yP (T : Nat → Nat → Nat) (f : Nat → Nat) (i t l : Nat) : Prop := (∀ k, k < 242 → f k < 1000 → f k ≤ i ∧ k / 22 ≤ i ∧ k % 11 ≤ k / 22 ∧ (t = 1 → k / 11 % 2 = (l + k / 22) % 2)) ∧ ∀ a j, a ≤ 10 → j ≤ 10 → xMin (fun c => ∃ e, e ≤ 1 ∧ f (22 * a + 11 * e + j) < 1000 ∧ c = f (22 * a + 11 * e + j) + j) (T a j)
theorem yP.mono {T : Nat → Nat → Nat} {f : Nat → Nat} {i t l : Nat} (h : yP T f i t l) : yP T f (i + 1) t l := by
  refine ⟨fun k hk hf => ?_, h.2⟩
  obtain ⟨p1, p2, p3, p4⟩ := h.1 k hk hf
  exact ⟨by omega, by omega, p3, p4⟩
theorem ix22 {a e j : Nat} (he : e ≤ 1) (hj : j ≤ 10) : (22 * a + 11 * e + j) / 22 = a ∧ (22 * a + 11 * e + j) % 11 = j ∧ (22 * a + 11 * e + j) / 11 % 2 = e := by omega
theorem ix22r (k : Nat) : 22 * (k / 22) + 11 * (k / 11 % 2) + k % 11 = k ∧ k / 11 % 2 ≤ 1 ∧ k % 11 ≤ 10 := by omega
theorem yP.ok {T : Nat → Nat → Nat} {f : Nat → Nat} {i t l : Nat} (h : yP T f i t l) (ok : Nat → Nat → Bool) : yP (fo T ok) (ys f ok) i t l := by
  refine ⟨fun k hk hf => ?_, fun a j ha hj => ?_⟩
  · unfold ys at hf ⊢
    by_cases q : ok (k / 22) (k % 11) = true
    · rw [if_pos q] at hf ⊢
      exact h.1 k hk hf
    · rw [if_neg q] at hf
      omega
  · unfold fo
    by_cases q : ok a j = true
    · rw [if_pos q]
      refine (h.2 a j ha hj).congr (fun c _ => ⟨?_, ?_⟩)
      · rintro ⟨e, e1, e2, e3⟩
        obtain ⟨z1, z2, _⟩ := ix22 (a := a) e1 hj
        unfold ys at e2 e3
        rw [z1, z2, if_pos q] at e2 e3
        exact ⟨e, e1, e2, e3⟩
      · rintro ⟨e, e1, e2, e3⟩
        obtain ⟨z1, z2, _⟩ := ix22 (a := a) e1 hj
        refine ⟨e, e1, ?_⟩
        unfold ys
        rw [z1, z2, if_pos q]
        exact ⟨e2, e3⟩
    · rw [if_neg q]
      refine xMin.none.congr (fun c _ => ⟨?_, False.elim⟩)
      rintro ⟨e, e1, e2, e3⟩
      obtain ⟨z1, z2, _⟩ := ix22 (a := a) e1 hj
      unfold ys at e2
      rw [z1, z2, if_neg q] at e2
      omega
def yS (f : Nat → Nat) (t sg n k c : Nat) : Prop := ∃ k', k' < n ∧ f k' < 1000 ∧ yE t sg (f k') k' k c
theorem yS_step {f : Nat → Nat} {t sg n k c : Nat} (hf : f n < 1000) : yS f t sg (n + 1) k c ↔ (yS f t sg n k c ∨ yE t sg (f n) n k c) := by
  constructor
  · rintro ⟨k', h1, h2, h3⟩
    by_cases e : k' = n
    · subst e
      exact Or.inr h3
    · exact Or.inl ⟨k', by omega, h2, h3⟩
  · rintro (⟨k', h1, h2, h3⟩ | h3)
    · exact ⟨k', by omega, h2, h3⟩
    · exact ⟨n, by omega, hf, h3⟩
theorem yS_skip {f : Nat → Nat} {t sg n k c : Nat} (hf : ¬ f n < 1000) : yS f t sg (n + 1) k c ↔ yS f t sg n k c := by
  constructor
  · rintro ⟨k', h1, h2, h3⟩
    by_cases e : k' = n
    · subst e
      exact absurd h2 hf
    · exact ⟨k', by omega, h2, h3⟩
  · rintro ⟨k', h1, h2, h3⟩
    exact ⟨k', by omega, h2, h3⟩
theorem yE_in {t sg v k' k c : Nat} (hs : sg ≤ 1) (h : yE t sg v k' k c) : (k = k' ∧ (t = 1 ∧ k' / 11 % 2 = sg) ∧ c = v) ∨ (¬ (t = 1 ∧ k' / 11 % 2 = sg) ∧ ((k = k' ∧ c = v + 1) ∨ (k / 22 = k' / 22 + 1 ∧ k % 11 = k' % 11 ∧ k / 11 % 2 = sg ∧ c = v) ∨ (k' % 11 < 10 ∧ k / 22 = k' / 22 + 1 ∧ k % 11 = k' % 11 + 1 ∧ k / 11 % 2 = sg ∧ c = v))) := by
  unfold yE at h
  by_cases z : t = 1 ∧ k' / 11 % 2 = sg
  · rw [if_pos z] at h
    exact Or.inl ⟨h.1, z, h.2⟩
  · rw [if_neg z] at h
    refine Or.inr ⟨z, ?_⟩
    rcases h with ⟨h1, h2⟩ | ⟨h1, h2⟩ | ⟨h0, h1, h2⟩
    · exact Or.inl ⟨h1, h2⟩
    · refine Or.inr (Or.inl ?_)
      have := ix22 (a := k' / 22 + 1) hs (show k' % 11 ≤ 10 by omega)
      rw [show 22 * (k' / 22 + 1) + 11 * sg + k' % 11 = k by omega] at this
      exact ⟨this.1, this.2.1, this.2.2, h2⟩
    · refine Or.inr (Or.inr ?_)
      have := ix22 (a := k' / 22 + 1) hs (show k' % 11 + 1 ≤ 10 by omega)
      rw [show 22 * (k' / 22 + 1) + 11 * sg + (k' % 11 + 1) = k by omega] at this
      exact ⟨h0, this.1, this.2.1, this.2.2, h2⟩
theorem yP_lo {T : Nat → Nat → Nat} {f : Nat → Nat} {i t l s k k' c : Nat} (hT : ∀ a j, T a j ≤ 1000) (hi : i ≤ 9) (hP : yP T f i t l) (hk : k' < 220) (hf : f k' < 1000) (hE : yE t ((s + i) % 2) (f k') k' k c) : c ≤ i + 1 ∧ k / 22 ≤ i + 1 ∧ k % 11 ≤ k / 22 ∧ (t = 1 → k / 11 % 2 = (l + k / 22) % 2) ∧ xU T (fun a => xI t l s a (i + 1)) (k / 22) (k % 11) ≤ c + k % 11 := by
  obtain ⟨p1, p2, p3, p4⟩ := hP.1 k' (by omega) hf
  obtain ⟨r1, r2, r3⟩ := ix22r k'
  have lo : T (k' / 22) (k' % 11) ≤ f k' + k' % 11 := by
    refine (hP.2 (k' / 22) (k' % 11) (by omega) (by omega)).2.1 _ ⟨k' / 11 % 2, r2, ?_⟩
    rw [r1]
    exact ⟨hf, rfl⟩
  have um := fun a j => xU_min hT (fun a => xI t l s a (i + 1)) a j
  have lt : T (k' / 22) (k' % 11) < 1000 := by omega
  rcases yE_in (by omega) hE with ⟨e1, e2, e3⟩ | ⟨e2, e3⟩
  · subst e1
    have id1 : xI t l s (k / 22) (i + 1) = true := by
      unfold xI
      rw [decide_eq_true_iff]
      have := p4 e2.1
      omega
    refine ⟨by omega, by omega, p3, p4, ?_⟩
    have := (um (k / 22) (k % 11)).2.1 (T (k / 22) (k % 11)) ⟨k / 22, k % 11, lt, by unfold xE; rw [if_pos id1]; exact ⟨rfl, rfl, rfl⟩⟩
    omega
  · have id0 : ¬ xI t l s (k' / 22) (i + 1) = true := by
      unfold xI
      rw [decide_eq_true_iff]
      intro z
      have := p4 z.1
      exact e2 ⟨z.1, by omega⟩
    have idt : t = 1 → k' / 11 % 2 ≠ (s + i) % 2 := fun z y => e2 ⟨z, y⟩
    rcases e3 with ⟨e4, e5⟩ | ⟨e4, e5, e6, e7⟩ | ⟨e0, e4, e5, e6, e7⟩
    · subst e4
      refine ⟨by omega, by omega, p3, p4, ?_⟩
      have := (um (k / 22) (k % 11)).2.1 (T (k / 22) (k % 11) + 1) ⟨k / 22, k % 11, lt, by unfold xE; rw [if_neg id0]; exact Or.inl ⟨rfl, rfl, rfl⟩⟩
      omega
    · refine ⟨by omega, by omega, by omega, fun z => ?_, ?_⟩
      · have y1 := p4 z
        have y2 := idt z
        omega
      · have := (um (k / 22) (k % 11)).2.1 (T (k' / 22) (k' % 11)) ⟨k' / 22, k' % 11, lt, by unfold xE; rw [if_neg id0]; exact Or.inr (Or.inl ⟨e4, e5, rfl⟩)⟩
        omega
    · refine ⟨by omega, by omega, by omega, fun z => ?_, ?_⟩
      · have y1 := p4 z
        have y2 := idt z
        omega
      · have := (um (k / 22) (k % 11)).2.1 (T (k' / 22) (k' % 11) + 1) ⟨k' / 22, k' % 11, lt, by unfold xE; rw [if_neg id0]; exact Or.inr (Or.inr ⟨e4, e5, rfl⟩)⟩
        omega
theorem yP.step {T : Nat → Nat → Nat} {f g : Nat → Nat} {i t l s : Nat} (hT : ∀ a j, T a j ≤ 1000) (hz : ∀ a j, T a j < 1000 → j ≤ a ∧ a ≤ i) (hi : i ≤ 9) (hP : yP T f i t l) (hg : ∀ k, xMin (yS f t ((s + i) % 2) 220 k) (g k)) : yP (xU T (fun a => xI t l s a (i + 1))) g (i + 1) t l := by
  have at1 : ∀ k, g k < 1000 → ∃ k', k' < 220 ∧ f k' < 1000 ∧ yE t ((s + i) % 2) (f k') k' k (g k) := by
    intro k hk
    rcases (hg k).2.2 with z | z
    · omega
    · exact z
  refine ⟨fun k hk hf => ?_, fun a j ha hj => ?_⟩
  · obtain ⟨k', q1, q2, q3⟩ := at1 k hf
    obtain ⟨y1, y2, y3, y4, _⟩ := yP_lo hT hi hP q1 q2 q3
    exact ⟨y1, y2, y3, y4⟩
  · have low : ∀ e, e ≤ 1 → g (22 * a + 11 * e + j) < 1000 → xU T (fun a => xI t l s a (i + 1)) a j ≤ g (22 * a + 11 * e + j) + j := by
      intro e he hge
      obtain ⟨z1, z2, z3⟩ := ix22 (a := a) he hj
      obtain ⟨k', q1, q2, q3⟩ := at1 _ hge
      have := (yP_lo hT hi hP q1 q2 q3).2.2.2.2
      rw [z1, z2] at this
      exact this
    refine ⟨xU_le hT _ a j, ?_, ?_⟩
    · rintro c ⟨e, e1, e2, rfl⟩
      exact low e e1 e2
    · rcases (xU_min hT (fun a => xI t l s a (i + 1)) a j).2.2 with z | ⟨a0, j0, h1, h2⟩
      · exact Or.inl z
      · right
        have ub := xU_le hT (fun a => xI t l s a (i + 1)) a j
        generalize hu : xU T (fun a => xI t l s a (i + 1)) a j = u at h2 low ub ⊢
        obtain ⟨w1, w2⟩ := hz a0 j0 h1
        obtain ⟨e, e1, e2, e3⟩ : ∃ e, e ≤ 1 ∧ f (22 * a0 + 11 * e + j0) < 1000 ∧ T a0 j0 = f (22 * a0 + 11 * e + j0) + j0 := by
          rcases (hP.2 a0 j0 (by omega) (by omega)).2.2 with y | y
          · omega
          · exact y
        obtain ⟨z1, z2, z3⟩ := ix22 (a := a0) e1 (show j0 ≤ 10 by omega)
        have k220 : 22 * a0 + 11 * e + j0 < 220 := by omega
        obtain ⟨p1, p2, p3, p4⟩ := hP.1 _ (show 22 * a0 + 11 * e + j0 < 242 by omega) e2
        rw [z1, z3] at p4
        -- a step of the reference's that comes to (a, e', j) with c' misses
        have fin : ∀ e' c', e' ≤ 1 → yE t ((s + i) % 2) (f (22 * a0 + 11 * e + j0)) (22 * a0 + 11 * e + j0) (22 * a + 11 * e' + j) c' → c' + j = u → c' ≤ 11 → ∃ e, e ≤ 1 ∧ g (22 * a + 11 * e + j) < 1000 ∧ u = g (22 * a + 11 * e + j) + j := by
          intro e' c' he' hy hc hc11
          have gl := (hg (22 * a + 11 * e' + j)).2.1 c' ⟨_, k220, e2, hy⟩
          have := low e' he' (by omega)
          exact ⟨e', he', by omega, by omega⟩
        by_cases q : xI t l s a0 (i + 1) = true
        · unfold xE at h2
          rw [if_pos q] at h2
          obtain ⟨rfl, rfl, h5⟩ := h2
          unfold xI at q
          rw [decide_eq_true_iff] at q
          have y := p4 q.1
          refine fin e (f (22 * a + 11 * e + j)) e1 ?_ (by omega) (by omega)
          unfold yE
          rw [if_pos ⟨q.1, by rw [z3]; omega⟩]
          exact ⟨rfl, rfl⟩
        · unfold xE at h2
          rw [if_neg q] at h2
          have ni : ¬ (t = 1 ∧ (22 * a0 + 11 * e + j0) / 11 % 2 = (s + i) % 2) := by
            rw [z3]
            intro y
            apply q
            unfold xI
            rw [decide_eq_true_iff]
            have := p4 y.1
            exact ⟨y.1, by omega⟩
          rcases h2 with ⟨rfl, rfl, h5⟩ | ⟨rfl, rfl, h5⟩ | ⟨rfl, rfl, h5⟩
          · refine fin e (f (22 * a + 11 * e + j) + 1) e1 ?_ (by omega) (by omega)
            unfold yE
            rw [if_neg ni]
            exact Or.inl ⟨rfl, rfl⟩
          · refine fin ((s + i) % 2) (f (22 * a0 + 11 * e + j)) (by omega) ?_ (by omega) (by omega)
            unfold yE
            rw [if_neg ni, z1, z2]
            exact Or.inr (Or.inl ⟨by omega, rfl⟩)
          · refine fin ((s + i) % 2) (f (22 * a0 + 11 * e + j0)) (by omega) ?_ (by omega) (by omega)
            unfold yE
            rw [if_neg ni, z1, z2]
            exact Or.inr (Or.inr ⟨by omega, by omega, rfl⟩)
theorem yP.first {l t : Nat} (hl : l ≤ 1) : yP (fun a j => if a = 0 ∧ j = 0 then 0 else 1000) (fun k => if k = 11 * l then 0 else 1000) 0 t l := by
  refine ⟨fun k hk hf => ?_, fun a j ha hj => ?_⟩
  · have hf' : (if k = 11 * l then 0 else 1000) < 1000 := hf
    show (if k = 11 * l then 0 else 1000) ≤ 0 ∧ _
    by_cases q : k = 11 * l
    · rw [if_pos q]
      subst q
      exact ⟨Nat.le_refl _, by omega, by omega, fun _ => by omega⟩
    · rw [if_neg q] at hf'
      omega
  · show xMin _ (if a = 0 ∧ j = 0 then 0 else 1000)
    by_cases q : a = 0 ∧ j = 0
    · rw [if_pos q]
      refine ⟨by omega, fun c _ => Nat.zero_le _, Or.inr ⟨l, hl, ?_⟩⟩
      show (if _ then 0 else 1000) < 1000 ∧ 0 = (if _ then 0 else 1000) + j
      rw [if_pos (by omega)]
      omega
    · rw [if_neg q]
      refine xMin.none.congr (fun c _ => ⟨?_, False.elim⟩)
      rintro ⟨e, e1, e2, e3⟩
      have e2' : (if 22 * a + 11 * e + j = 11 * l then 0 else 1000) < 1000 := e2
      rw [if_neg (by omega)] at e2'
      omega
theorem yP.last {idl : Nat → Nat → Bool} {ok : Nat → Nat → Nat → Bool} {M W t l v : Nat} {f : Nat → Nat} (hW : W ≤ 10) (hP : yP (xT idl ok M W) f W t l) (hv : xMin (fun c => ∃ k, k < 242 ∧ f k < 1000 ∧ c = f k + k % 11) v) : v = xD idl ok W M := by
  have lo : ∀ c, xS (xT idl ok M W) c → v ≤ c := by
    rintro c ⟨a, j, rfl⟩
    by_cases q : xT idl ok M W a j < 1000
    · obtain ⟨w1, w2, w3⟩ := xT_in M W a j q
      rcases (hP.2 a j (by omega) (by omega)).2.2 with z | ⟨e, e1, e2, e3⟩
      · omega
      · obtain ⟨z1, z2, z3⟩ := ix22 (a := a) e1 (show j ≤ 10 by omega)
        have := hv.2.1 (xT idl ok M W a j) ⟨22 * a + 11 * e + j, by omega, e2, by rw [z2]; exact e3⟩
        exact this
    · have := hv.1
      omega
  refine xMin.one (S := xS (xT idl ok M W)) ⟨hv.1, lo, ?_⟩ (xD_min hW M)
  rcases hv.2.2 with z | ⟨k, k1, k2, k3⟩
  · exact Or.inl z
  · right
    obtain ⟨r1, r2, r3⟩ := ix22r k
    have up := (hP.2 (k / 22) (k % 11) (by omega) (by omega)).2.1 v ⟨k / 11 % 2, r2, by rw [r1]; exact ⟨k2, k3⟩⟩
    have dn := lo _ ⟨k / 22, k % 11, rfl⟩
    exact ⟨k / 22, k % 11, by omega⟩
