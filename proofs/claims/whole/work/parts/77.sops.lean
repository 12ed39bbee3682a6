-- PART: bells, the calls, for any telling R that both sides answer.
def Two (L mc mm : Nat) (ac am : List Value) (I : PH → Prop) (h : PH) : Prop := ∃ x h1 h2, exec (g2 L) 100 mc ac h = some (some (.int x), h1) ∧ exec (g2 L) 100 mm am h1 = some (some (.int x), h2) ∧ I h2
section Sops
variable {L : Nat}
variable {R : Nat → Nat → Prop} {I : PH → Prop} {h : PH}
theorem two_rings (hc : StC L R I) (hm : StM L R I) (hI0 : I h) (x y : Int32) : Two L 125 241 [.ref 2, .int x, .int y] [.ref 253, .int x, .int y] I h := by
  by_cases hx : nI 0 ≤ x ∧ x ≤ nI 3
  · by_cases hy : nI 0 ≤ y ∧ y ≤ nI 575999
    · obtain ⟨o, ho, rfl⟩ := in_le (by omega) hx
      obtain ⟨t, ht, rfl⟩ := in_le (by omega) hy
      obtain ⟨v, h1, v1, v2, v3, v4⟩ := hc 93 h o t hI0 (by omega) (by omega)
      obtain ⟨w, h2, w1, w2, w3, w4⟩ := hm 93 h1 o t v4 (by omega) (by omega)
      have e : v = w := by
        by_cases z : R o t
        · rw [v3.mpr z, w3.mpr z]
        · have : ¬ v = 1 := fun q => z (v3.mp q)
          have : ¬ w = 1 := fun q => z (w3.mp q)
          omega
      subst e
      refine ⟨nI v, h1, h2, ?_, ?_, w4⟩
      · rw [x125, m126, cI_s, if_neg (by rw [bI_0]; exact not_not_intro hx), m127, cI_s, if_pos (bI_nz.mpr hy), v1, cI_s]
        by_cases z : v = 1
        · rw [z, if_neg (by decide)]
        · rw [show v = 0 by omega, if_pos rfl]
      · rw [x241, m242, cI_s, if_neg (by rw [bI_0]; exact not_not_intro hx), m243, cI_s, if_pos (bI_nz.mpr hy), w1, cI_s]
        by_cases z : v = 1
        · rw [z, if_neg (by decide)]
        · rw [show v = 0 by omega, if_pos rfl]
    · refine ⟨m1, h, h, ?_, ?_, hI0⟩
      · rw [x125, m126, cI_s, if_neg (by rw [bI_0]; exact not_not_intro hx), m127, cI_s, if_neg (by rw [bI_nz]; exact hy)]
      · rw [x241, m242, cI_s, if_neg (by rw [bI_0]; exact not_not_intro hx), m243, cI_s, if_neg (by rw [bI_nz]; exact hy)]
  · refine ⟨m1, h, h, ?_, ?_, hI0⟩
    · rw [x125, m126, cI_s, if_pos (bI_0.mpr hx)]
    · rw [x241, m242, cI_s, if_pos (bI_0.mpr hx)]
theorem two_next (hc : StC L R I) (hm : StM L R I) (hC : Ch R I) (hI0 : I h) (x y : Int32) : Two L 135 248 [.ref 2, .int x, .int y] [.ref 253, .int x, .int y] I h := by
  by_cases hx : nI 0 ≤ x ∧ x ≤ nI 3
  · by_cases hy : nI 0 ≤ y ∧ y ≤ nI 575999
    · obtain ⟨o, ho, rfl⟩ := in_le (by omega) hx
      obtain ⟨t, ht, rfl⟩ := in_le (by omega) hy
      obtain ⟨v, h1, v1, v2, v3⟩ := m136 hc hC 92 (o := o) (p := o) (a := t) (s := 28800) (by omega) (by omega) (by omega) (by omega) hI0
      obtain ⟨w, h2, w1, w2, w3⟩ := m249 hm 92 (o := o) (p := o) (a := t) (s := 28800) (by omega) (by omega) (by omega) (by omega) v3
      refine ⟨v, h1, h2, ?_, ?_, w3⟩
      · rw [x135, m126, cI_s, if_neg (by rw [bI_0]; exact not_not_intro hx), m127, cI_s, if_pos (bI_nz.mpr hy), v1, cI_s]
      · rw [x248, m242, cI_s, if_neg (by rw [bI_0]; exact not_not_intro hx), m243, cI_s, if_neg (by rw [bI_0]; exact not_not_intro hy), w1, cI_s, w2.one v2]
    · refine ⟨m1, h, h, ?_, ?_, hI0⟩
      · rw [x135, m126, cI_s, if_neg (by rw [bI_0]; exact not_not_intro hx), m127, cI_s, if_neg (by rw [bI_nz]; exact hy)]
      · rw [x248, m242, cI_s, if_neg (by rw [bI_0]; exact not_not_intro hx), m243, cI_s, if_pos (bI_0.mpr hy)]
  · refine ⟨m1, h, h, ?_, ?_, hI0⟩
    · rw [x135, m126, cI_s, if_pos (bI_0.mpr hx)]
    · rw [x248, m242, cI_s, if_pos (bI_0.mpr hx)]
theorem two_together (hc : StC L R I) (hm : StM L R I) (hC : Ch R I) (hI0 : I h) (x z y : Int32) : Two L 138 251 [.ref 2, .int x, .int z, .int y] [.ref 253, .int x, .int z, .int y] I h := by
  by_cases hx : nI 0 ≤ x ∧ x ≤ nI 3
  · by_cases hz : nI 0 ≤ z ∧ z ≤ nI 3
    · by_cases hy : nI 0 ≤ y ∧ y ≤ nI 575999
      · obtain ⟨o, ho, rfl⟩ := in_le (by omega) hx
        obtain ⟨p, hp, rfl⟩ := in_le (by omega) hz
        obtain ⟨t, ht, rfl⟩ := in_le (by omega) hy
        obtain ⟨v, h1, v1, v2, v3⟩ := m136 hc hC 92 (o := o) (p := p) (a := t) (s := 28800) (by omega) (by omega) (by omega) (by omega) hI0
        obtain ⟨w, h2, w1, w2, w3⟩ := m249 hm 92 (o := o) (p := p) (a := t) (s := 28800) (by omega) (by omega) (by omega) (by omega) v3
        refine ⟨v, h1, h2, ?_, ?_, w3⟩
        · rw [x138, m126, cI_s, if_neg (by rw [bI_0]; exact not_not_intro hx), m126, cI_s, if_neg (by rw [bI_0]; exact not_not_intro hz), m127, cI_s, if_pos (bI_nz.mpr hy), v1, cI_s]
        · rw [x251, m242, cI_s, if_neg (by rw [bI_0]; exact not_not_intro hx), m242, cI_s, if_neg (by rw [bI_0]; exact not_not_intro hz), m243, cI_s, if_neg (by rw [bI_0]; exact not_not_intro hy), w1, cI_s, w2.one v2]
      · refine ⟨m1, h, h, ?_, ?_, hI0⟩
        · rw [x138, m126, cI_s, if_neg (by rw [bI_0]; exact not_not_intro hx), m126, cI_s, if_neg (by rw [bI_0]; exact not_not_intro hz), m127, cI_s, if_neg (by rw [bI_nz]; exact hy)]
        · rw [x251, m242, cI_s, if_neg (by rw [bI_0]; exact not_not_intro hx), m242, cI_s, if_neg (by rw [bI_0]; exact not_not_intro hz), m243, cI_s, if_pos (bI_0.mpr hy)]
    · refine ⟨m1, h, h, ?_, ?_, hI0⟩
      · rw [x138, m126, cI_s, if_neg (by rw [bI_0]; exact not_not_intro hx), m126, cI_s, if_pos (bI_0.mpr hz)]
      · rw [x251, m242, cI_s, if_neg (by rw [bI_0]; exact not_not_intro hx), m242, cI_s, if_pos (bI_0.mpr hz)]
  · refine ⟨m1, h, h, ?_, ?_, hI0⟩
    · rw [x138, m126, cI_s, if_pos (bI_0.mpr hx)]
    · rw [x251, m242, cI_s, if_pos (bI_0.mpr hx)]
theorem two_often (hc : StC L R I) (hm : StM L R I) (hI0 : I h) (x y : Int32) : Two L 137 250 [.ref 2, .int x, .int y] [.ref 253, .int x, .int y] I h := by
  by_cases hx : nI 0 ≤ x ∧ x ≤ nI 3
  · by_cases hy : nI 0 ≤ y ∧ y ≤ nI 399
    · obtain ⟨o, ho, rfl⟩ := in_le (by omega) hx
      obtain ⟨t, ht, rfl⟩ := in_le (by omega) hy
      obtain ⟨h1, v1, v2⟩ := m137_25 hc (d := 93) (o := o) (D := t) (by omega) (by omega) 1440 0 h (by omega) hI0
      obtain ⟨h2, w1, w2⟩ := m250_29 hm (d := 93) (o := o) (D := t) (by omega) (by omega) 1440 0 h1 (by omega) v2
      refine ⟨nI (cnt R o (t * 1440) 1440), h1, h2, ?_, ?_, w2⟩
      · rw [x137, m126, cI_s, if_neg (by rw [bI_0]; exact not_not_intro hx), m18, cI_s, if_pos (bI_nz.mpr hy)]
        exact v1
      · rw [x250, m242, cI_s, if_neg (by rw [bI_0]; exact not_not_intro hx), m153, cI_s, if_pos (bI_nz.mpr hy), nI_times, Nat.mul_comm 1440 t]
        rw [Nat.add_zero (t * 1440), cnt] at w1
        exact w1
    · refine ⟨m1, h, h, ?_, ?_, hI0⟩
      · rw [x137, m126, cI_s, if_neg (by rw [bI_0]; exact not_not_intro hx), m18, cI_s, if_neg (by rw [bI_nz]; exact hy)]
      · rw [x250, m242, cI_s, if_neg (by rw [bI_0]; exact not_not_intro hx), m153, cI_s, if_neg (by rw [bI_nz]; exact hy)]
  · refine ⟨m1, h, h, ?_, ?_, hI0⟩
    · rw [x137, m126, cI_s, if_pos (bI_0.mpr hx)]
    · rw [x250, m242, cI_s, if_pos (bI_0.mpr hx)]
/-- the minute by which someone goes -/
def ms (m b : Nat) : Nat := if m < b then m + 720 - b else if b ≤ 360 then m - b else if 576000 ≤ m + 720 - b then m - b else m + 720 - b
variable {A : Nat → Nat}
theorem m140 (d : Nat) (hR : RC h 0 A) (h0 : A 0 < 576000) {i : Nat} (hi : i < 16) (hh : A (40 + 8 * i + 2) < 720) : exec (g2 L) (d + 2) 140 [.ref 2, .ref (33 + i)] h = some (some (.int (nI (ms (A 0) (bh (A 0) (A (40 + 8 * i + 2)))))), h) := by
  have hb : bh (A 0) (A (40 + 8 * i + 2)) < 720 := by
    unfold bh
    omega
  have hm := hR.mn
  rw [Nat.zero_add] at hm
  rw [x140, m39 d hR h0 hi hh, cI_s, hm]
  generalize bh (A 0) (A (40 + 8 * i + 2)) = b at hb
  unfold ms
  by_cases z : A 0 < b
  · have e1 : nI (A 0) - nI b + nI 720 = nI (A 0 + 720 - b) := by
      rw [nI_iv, nI_iv, nI_iv, nI_iv]
      apply iv_eq
      have a4 : (iv (A 0) - iv b).toInt = (A 0 : Int) - b := by rw [Jvm.Kit.i32_sub (by rw [iv_toInt (by omega) (by omega), iv_toInt (by omega) (by omega)]; omega) (by rw [iv_toInt (by omega) (by omega), iv_toInt (by omega) (by omega)]; omega), iv_toInt (by omega) (by omega), iv_toInt (by omega) (by omega)]
      have a5 : (iv (720 : Nat)).toInt = 720 := by decide
      rw [Jvm.Kit.i32_add (by rw [a4, a5]; omega) (by rw [a4, a5]; omega), a4, a5]
      omega
    have e2 : ¬ nI 0 ≤ nI (A 0) - nI b := by
      rw [nI_iv, nI_iv, nI_iv, Int32.le_iff_toInt_le, Jvm.Kit.i32_sub (by rw [iv_toInt (by omega) (by omega), iv_toInt (by omega) (by omega)]; omega) (by rw [iv_toInt (by omega) (by omega), iv_toInt (by omega) (by omega)]; omega), iv_toInt (by omega) (by omega), iv_toInt (by omega) (by omega), iv_toInt (by omega) (by omega)]
      omega
    rw [if_neg e2, e1, if_pos z]
  · rw [nI_minus (by omega), if_pos (by rw [nI_leN (by omega) (by omega)]; omega), if_neg z, nI_plus, nI_minus (show A 0 - b ≤ A 0 by omega)]
    by_cases y : A 0 - b + 720 < 576000
    · rw [if_pos (by rw [nI_ltN (by omega) (by omega)]; exact y)]
      by_cases w : b ≤ 360
      · have e3 : ¬ (nI (A 0 - b + 720) - nI (A 0) < nI (A 0 - (A 0 - b))) := by
          rw [nI_minus (by omega), nI_ltN (by omega) (by omega)]
          omega
        rw [if_neg e3, if_pos w]
      · have e3 : nI (A 0 - b + 720) - nI (A 0) < nI (A 0 - (A 0 - b)) := by
          rw [nI_minus (by omega), nI_ltN (by omega) (by omega)]
          omega
        rw [if_pos e3, if_neg w, if_neg (by omega), show A 0 - b + 720 = A 0 + 720 - b by omega]
    · rw [if_neg (by rw [nI_ltN (by omega) (by omega)]; exact y)]
      by_cases w : b ≤ 360
      · rw [if_pos w]
      · rw [if_neg w, if_pos (by omega)]
theorem two_late (hc : StC L R I) (hm : StM L R I) (hA : ∀ h, I h → RC h 0 A ∧ RM h 254 A) (h0 : A 0 < 576000) (v4 : A 4 ≤ 16) (vh : ∀ i, i < A 4 → A (40 + 8 * i + 2) < 720) (hI0 : I h) (x y : Int32) : Two L 139 252 [.ref 2, .int x, .int y] [.ref 253, .int x, .int y] I h := by
  have core : ∀ o M, o ≤ 3 → M < 576000 → ∃ z h1 h2, runL (g2 L) 99 0 false (some .int) kc_139 53 [.ref 2, .int (nI o), .int y, dm, dm] [.int (nI M)] h = some (some (.int z), h1) ∧ I h1 ∧ exec (g2 L) 99 253 [.ref 253, .int (nI o), .int (nI M)] h1 = some (some (.int z), h2) ∧ I h2 := by
    intro o M ho hM
    obtain ⟨v, h1, v1, v2, v3⟩ := m141 hc 92 (o := o) (by omega) hM hI0
    obtain ⟨w, h2, w1, w2, w3⟩ := m253 hm 92 (o := o) (by omega) hM v3
    rcases LtLs v2 w2 with ⟨rfl, rfl⟩ | ⟨t, t1, t2, rfl, rfl⟩
    · refine ⟨m1, h1, h2, ?_, v3, w1, w3⟩
      rw [e139_53, v1, cI_s, if_neg (fun q => q rfl)]
    · refine ⟨nI (M - t), h1, h2, ?_, v3, w1, w3⟩
      rw [e139_53, v1, cI_s, if_pos (by rw [Ne, nI_ne_m1 (by omega)]; exact id), nI_minus t2]
  have cr : ∀ g, I g → hI g 3 3 = nI (A 4) ∧ hI g 254 4 = nI (A 4) ∧ hI g 3 0 = nI (A 0) ∧ hI g 254 0 = nI (A 0) := by
    intro g hg
    obtain ⟨a1, a2⟩ := hA g hg
    have f4 := a1.nd
    have f0 := a1.mn
    rw [Nat.zero_add] at f4 f0
    exact ⟨f4, a2.at (k := 4) (by omega) (by omega), f0, a2.at (k := 0) (by omega) (by omega)⟩
  by_cases hx : nI 0 ≤ x ∧ x ≤ nI 3
  · obtain ⟨o, ho, rfl⟩ := in_le (by omega) hx
    by_cases e : y = m1
    · obtain ⟨z, h1, h2, z1, z2, z3, z4⟩ := core o (A 0) ho h0
      refine ⟨z, h1, h2, ?_, ?_, z4⟩
      · rw [x139, m126, cI_s, if_neg (by rw [bI_0]; exact not_not_intro hx), if_pos e, if_neg (not_not_intro e), (cr h hI0).2.2.1]
        exact z1
      · rw [x252, m242, cI_s, if_neg (by rw [bI_0]; exact not_not_intro hx), if_pos e, e252_22, if_pos e, (cr h1 z2).2.2.2, z3, cI_s]
    · by_cases hy : nI 0 ≤ y ∧ y < nI (A 4)
      · obtain ⟨i, hi, rfl⟩ := in_of (by omega) hy
        have hb : bh (A 0) (A (40 + 8 * i + 2)) < 720 := by
          unfold bh
          omega
        have hM : ms (A 0) (bh (A 0) (A (40 + 8 * i + 2))) < 576000 := by
          unfold ms
          repeat' split
          all_goals omega
        obtain ⟨z, h1, h2, z1, z2, z3, z4⟩ := core o _ ho hM
        refine ⟨z, h1, h2, ?_, ?_, z4⟩
        · rw [x139, m126, cI_s, if_neg (by rw [bI_0]; exact not_not_intro hx), if_neg e, m22, (cr h hI0).1, cI_s, if_pos (bI_nz.mpr hy), if_pos e, inB_nI (by omega), asr_d (by omega), ix_nI (by omega), m140 97 (hA h hI0).1 h0 (by omega) (vh i hi), cI_s]
          exact z1
        · have g0 := (cr h1 z2).2.2.2
          rw [x252, m242, cI_s, if_neg (by rw [bI_0]; exact not_not_intro hx), if_neg e, m157 97 (cr h1 z2).2.1 (by omega), cI_s, if_pos (bI_nz.mpr hy), e252_22, if_neg e, m175 97 (hA h1 z2).2 h0 (by omega) (vh i hi), cI_s, g0]
          generalize hbb : bh (A 0) (A (40 + 8 * i + 2)) = b at hb hM z3
          unfold ms at z3 hM
          by_cases q1 : A 0 < b
          · have e1 : nI (A 0) - nI b + nI 720 = nI (A 0 + 720 - b) := by
              rw [nI_iv, nI_iv, nI_iv, nI_iv]
              apply iv_eq
              have a4 : (iv (A 0) - iv b).toInt = (A 0 : Int) - b := by rw [Jvm.Kit.i32_sub (by rw [iv_toInt (by omega) (by omega), iv_toInt (by omega) (by omega)]; omega) (by rw [iv_toInt (by omega) (by omega), iv_toInt (by omega) (by omega)]; omega), iv_toInt (by omega) (by omega), iv_toInt (by omega) (by omega)]
              have a5 : (iv (720 : Nat)).toInt = 720 := by decide
              rw [Jvm.Kit.i32_add (by rw [a4, a5]; omega) (by rw [a4, a5]; omega), a4, a5]
              omega
            have e2 : nI (A 0) - nI b < nI 0 := by
              rw [nI_iv, nI_iv, nI_iv, Int32.lt_iff_toInt_lt, Jvm.Kit.i32_sub (by rw [iv_toInt (by omega) (by omega), iv_toInt (by omega) (by omega)]; omega) (by rw [iv_toInt (by omega) (by omega), iv_toInt (by omega) (by omega)]; omega), iv_toInt (by omega) (by omega), iv_toInt (by omega) (by omega), iv_toInt (by omega) (by omega)]
              omega
            rw [if_pos q1] at z3
            rw [if_pos e2, e1, z3, cI_s]
          · rw [if_neg q1] at z3
            rw [nI_minus (by omega), if_neg (by rw [nI_ltN (by omega) (by omega)]; omega), nI_plus]
            by_cases q2 : b ≤ 360
            · rw [if_pos q2] at z3
              rw [if_pos (by rw [nI_leN (by omega) (by omega)]; exact q2), z3, cI_s]
            · rw [if_neg q2] at z3
              rw [if_neg (by rw [nI_leN (by omega) (by omega)]; exact q2)]
              by_cases q3 : 576000 ≤ A 0 + 720 - b
              · rw [if_pos q3] at z3
                rw [if_pos (by rw [nI_ltN (by omega) (by omega)]; omega), z3, cI_s]
              · rw [if_neg q3] at z3
                rw [if_neg (by rw [nI_ltN (by omega) (by omega)]; omega), show A 0 - b + 720 = A 0 + 720 - b by omega, z3, cI_s]
      · refine ⟨m1, h, h, ?_, ?_, hI0⟩
        · rw [x139, m126, cI_s, if_neg (by rw [bI_0]; exact not_not_intro hx), if_neg e, m22, (cr h hI0).1, cI_s, if_neg (by rw [bI_nz]; exact hy)]
        · rw [x252, m242, cI_s, if_neg (by rw [bI_0]; exact not_not_intro hx), if_neg e, m157 97 (cr h hI0).2.1 (by omega), cI_s, if_neg (by rw [bI_nz]; exact hy)]
  · refine ⟨m1, h, h, ?_, ?_, hI0⟩
    · rw [x139, m126, cI_s, if_pos (bI_0.mpr hx)]
    · rw [x252, m242, cI_s, if_pos (bI_0.mpr hx)]
theorem two_lesson (hc : StC L R I) (hm : StM L R I) (hC : Ch R I) (hA : ∀ h, I h → RC h 0 A ∧ RM h 254 A) (h0 : A 0 < 576000) (hI0 : I h) (x z : Int32) : Two L 142 254 [.ref 2, .int x, .int z] [.ref 253, .int x, .int z] I h := by
  have cr : ∀ g, I g → hI g 3 0 = nI (A 0) ∧ hI g 254 0 = nI (A 0) := by
    intro g hg
    obtain ⟨a1, a2⟩ := hA g hg
    have f0 := a1.mn
    rw [Nat.zero_add] at f0
    exact ⟨f0, a2.at (k := 0) (by omega) (by omega)⟩
  by_cases hx : nI 0 ≤ x ∧ x ≤ nI 3
  · by_cases hz : nI 0 ≤ z ∧ z ≤ nI 3
    · obtain ⟨o, ho, rfl⟩ := in_le (by omega) hx
      obtain ⟨p, hp, rfl⟩ := in_le (by omega) hz
      obtain ⟨v, h1, v1, v2, v3⟩ := m141 hc 92 (o := o) (by omega) h0 hI0
      have s0 := x142 L 99 (nI o) (nI p) h
      rw [m126, cI_s, if_neg (by rw [bI_0]; exact not_not_intro hx), m126, cI_s, if_pos (bI_nz.mpr hz), (cr h hI0).1, v1, cI_s] at s0
      by_cases e : v = m1
      · obtain ⟨w, h2, w1, w2, w3⟩ := m253 hm 92 (o := o) (by omega) h0 v3
        have e2 : w = m1 := by
          rcases LtLs v2 w2 with ⟨_, q⟩ | ⟨t, t1, t2, q, _⟩
          · exact q
          · rw [e] at q
            exact absurd q.symm (fun q => (nI_ne_m1 (by omega)).mp q)
        rw [if_neg (not_not_intro e)] at s0
        refine ⟨m1, h1, h2, s0, ?_, w3⟩
        rw [x254, m242, cI_s, if_neg (by rw [bI_0]; exact not_not_intro hx), m242, cI_s, if_pos (bI_nz.mpr hz), (cr h1 v3).2, w1, cI_s, if_neg (not_not_intro e2)]
      · have vt : ∃ t, t ≤ A 0 ∧ v = nI t := by
          rcases v2 with ⟨q, _⟩ | ⟨t, t1, t2, _, _, q⟩
          · exact absurd q e
          · exact ⟨t, t2, q⟩
        obtain ⟨t, t2, rfl⟩ := vt
        rw [if_pos e, nI_plus] at s0
        obtain ⟨u, h3, u1, u2, u3⟩ := m136 hc hC 92 (o := p) (p := p) (a := t + 1) (s := 1440) (by omega) (by omega) (by omega) (by omega) v3
        rw [u1, cI_s] at s0
        obtain ⟨w, h2, w1, w2, w3⟩ := m253 hm 92 (o := o) (by omega) h0 u3
        have e2 : w = nI (A 0 - t) := by
          rcases LtLs v2 w2 with ⟨q, _⟩ | ⟨t', t1', t2', q, q'⟩
          · exact absurd q e
          · rw [nI_eqI (by omega) (by omega)] at q
            rw [q', q]
        have s1 := x254 L 99 (nI o) (nI p) h3
        rw [m242, cI_s, if_neg (by rw [bI_0]; exact not_not_intro hx), m242, cI_s, if_pos (bI_nz.mpr hz), (cr h3 u3).2, w1, cI_s, e2, if_pos (by rw [Ne, nI_ne_m1 (by omega)]; exact id), (cr h2 w3).2, nI_minus (by omega), show A 0 - (A 0 - t) = t by omega] at s1
        by_cases l : t = 575999
        · subst l
          have um : u = m1 := by
            rcases u2 with ⟨q, _⟩ | ⟨t', t1', t2', _⟩
            · exact q
            · omega
          rw [um, if_neg (fun q => q rfl)] at s0
          rw [if_pos (by decide)] at s1
          exact ⟨m1, h3, h2, s0, s1, w3⟩
        · rw [if_neg (by rw [nI_leN (by omega) (by omega)]; omega), nI_plus] at s1
          obtain ⟨u', h4, y1, y2, y3⟩ := m249 hm 92 (o := p) (p := p) (a := t + 1) (s := 1440) (by omega) (by omega) (by omega) (by omega) w3
          rw [y1, cI_s, y2.one u2] at s1
          by_cases um : u = m1
          · rw [if_neg (not_not_intro um)] at s0 s1
            exact ⟨m1, h3, h4, s0, s1, y3⟩
          · rw [if_pos um] at s0 s1
            exact ⟨_, h3, h4, s0, s1, y3⟩
    · refine ⟨m1, h, h, ?_, ?_, hI0⟩
      · rw [x142, m126, cI_s, if_neg (by rw [bI_0]; exact not_not_intro hx), m126, cI_s, if_neg (by rw [bI_nz]; exact hz)]
      · rw [x254, m242, cI_s, if_neg (by rw [bI_0]; exact not_not_intro hx), m242, cI_s, if_neg (by rw [bI_nz]; exact hz)]
  · refine ⟨m1, h, h, ?_, ?_, hI0⟩
    · rw [x142, m126, cI_s, if_pos (bI_0.mpr hx)]
    · rw [x254, m242, cI_s, if_pos (bI_0.mpr hx)]
end Sops
