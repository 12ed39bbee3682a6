-- PART: strips, the reference's next token, whole.
theorem sg3 {c v : Nat} (h : c = 35 ∨ c = 37 ∨ (40 ≤ c ∧ c ≤ 45) ∨ c = 47 ∨ (59 ≤ c ∧ c ≤ 62)) : MT (sgk c) v (nI 3) (nI c) := by
  have h' : c = 44 ∨ c = 40 ∨ c = 41 ∨ c = 59 ∨ c = 35 ∨ c = 37 ∨ c = 42 ∨ c = 43 ∨ c = 45 ∨ c = 47 ∨ c = 60 ∨ c = 61 ∨ c = 62 := by omega
  rcases h' with rfl | rfl | rfl | rfl | rfl | rfl | rfl | rfl | rfl | rfl | rfl | rfl | rfl
  · exact Or.inr (Or.inl ⟨rfl, Or.inr ⟨rfl, rfl⟩⟩)
  · exact Or.inr (Or.inr (Or.inr (Or.inr ⟨rfl, Or.inl ⟨rfl, rfl⟩⟩)))
  · exact Or.inr (Or.inr (Or.inr (Or.inr ⟨rfl, Or.inr (Or.inl ⟨rfl, rfl⟩)⟩)))
  · exact Or.inr (Or.inr (Or.inr (Or.inr ⟨rfl, Or.inr (Or.inr (Or.inl ⟨rfl, rfl⟩))⟩)))
  all_goals exact Or.inr (Or.inr (Or.inr (Or.inr ⟨rfl, Or.inr (Or.inr (Or.inr ⟨by decide, by decide, by decide⟩))⟩)))
theorem sg4 {c v : Nat} {x : Int32} (h : ¬ (c = 35 ∨ c = 37 ∨ (40 ≤ c ∧ c ≤ 45) ∨ c = 47 ∨ (59 ≤ c ∧ c ≤ 62))) : MT (sgk c) v (nI 4) x := by
  refine Or.inr (Or.inl ⟨?_, Or.inl rfl⟩)
  unfold sgk
  rw [if_neg (by omega), if_neg (by omega), if_neg (by omega), if_neg (by omega), if_neg (by omega), if_neg (by omega), if_neg (by omega), if_neg (by omega), if_neg (by omega), if_neg (by omega), if_neg (by omega), if_neg (by omega)]
section Snext2
variable {L : Nat} {T : Nat → Nat} {t : Nat}
/-- the second sign of <= and >= -/
theorem m215_392 {d q : Nat} {h : PH} {c : Nat} (ht : t ≤ 300) (hT : ∀ k, T k < 256) (hq : q < t) (hc : T q = c) (h6 : c = 60 ∨ c = 62) (hX : TM h T t (q + 1)) (h40 : hI h 253 40 = nI q) (h41 : hI h 253 41 = nI 3) (h42 : hI h 253 42 = nI c) : ∃ h', runL (g2 L) d 11 false none kc_215 392 [.ref 253, .int (nI c), dm, dm, dm] [] h = some (none, h') ∧ LX h' T t q ∧ Fx h h' := by
  have nl : ltr (T q) = false := by
    rw [Bool.eq_false_iff, Ne, ltr_i]
    omega
  have nd : dgt (T q) = false := by
    rw [Bool.eq_false_iff, Ne, dgt_i]
    omega
  have one : ¬ (q + 1 < t ∧ T (q + 1) = 61) → LX h T t q := by
    intro no
    have no' : ¬ ((T q = 60 ∨ T q = 62) ∧ q + 1 < t ∧ T (q + 1) = 61) := fun z => no z.2
    refine ⟨hX.2.1, h40, Or.inr ⟨hq, ?_, ?_⟩⟩
    · rw [hX.2.2]
      unfold tkE
      rw [nl, if_neg (by decide), nd, if_neg (by decide), if_neg no']
    · unfold tkK
      rw [nl, if_neg (by decide), nd, if_neg (by decide), if_neg no', h41, h42, hc]
      exact sg3 (by omega)
  rw [e215_392, hX.2.1, hX.2.2]
  by_cases e : q + 1 < t
  · have t2 := hT (q + 1)
    rw [if_neg (by rw [nI_leN (by omega) (by omega)]; omega), inB_nI (by omega), asr_d (by omega), ix_nI (by omega), hX.1 (q + 1) e]
    by_cases f : T (q + 1) = 61
    · have yes : (T q = 60 ∨ T q = 62) ∧ q + 1 < t ∧ T (q + 1) = 61 := ⟨by omega, e, f⟩
      rw [if_neg (by rw [Ne, sb_eq t2 (by omega)]; exact not_not_intro f), nI_plus]
      have go : ∀ k : Nat, k = (if T q = 60 then 18 else 20) → LX (wI (wI h 253 42 (nI (oc k))) 253 39 (nI (q + 1 + 1))) T t q := by
        intro k hk
        refine ⟨?_, ?_, Or.inr ⟨hq, ?_, ?_⟩⟩
        · rw [hI_wI, if_neg (by omega), hI_wI, if_neg (by omega)]
          exact hX.2.1
        · rw [hI_wI, if_neg (by omega), hI_wI, if_neg (by omega)]
          exact h40
        · rw [hI_wI, if_pos ⟨rfl, rfl⟩]
          unfold tkE
          rw [nl, if_neg (by decide), nd, if_neg (by decide), if_pos yes]
        · unfold tkK
          rw [nl, if_neg (by decide), nd, if_neg (by decide), if_pos yes, ← hk, hI_wI, if_neg (by omega), hI_wI, if_neg (by omega), hI_wI, if_neg (by omega), hI_wI, if_pos ⟨rfl, rfl⟩, h41]
          have : 17 ≤ k ∧ k ≤ 27 := by
            rw [hk]
            split <;> omega
          exact Or.inr (Or.inr (Or.inr (Or.inr ⟨rfl, Or.inr (Or.inr (Or.inr ⟨this.1, this.2, rfl⟩))⟩)))
      have F : ∀ v w, Fx h (wI (wI h 253 42 v) 253 39 w) := fun v w => (Fx.w (by omega)).tr (Fx.w (by omega))
      by_cases z : c = 60
      · rw [if_neg (by rw [z]; exact fun w => w rfl)]
        exact ⟨_, rfl, go 18 (by rw [if_pos (hc.trans z)]), F _ _⟩
      · rw [if_pos (by rw [Ne, nI_eqI (by omega) (by omega)]; exact z)]
        exact ⟨_, rfl, go 20 (by rw [if_neg (by omega)]), F _ _⟩
    · rw [if_pos (by rw [Ne, sb_eq t2 (by omega)]; exact f)]
      exact ⟨h, rfl, one (fun z => f z.2), Fx.rf⟩
  · rw [if_pos (by rw [nI_leN (by omega) (by omega)]; omega)]
    exact ⟨h, rfl, one (fun z => e z.1), Fx.rf⟩
theorem m215_52 {d q : Nat} {h : PH} (ht : t ≤ 300) (hT : ∀ k, T k < 256) (hq : q ≤ t) (hb : q < t → blk (T q) = false) (hX : TM h T t q) : ∃ h', runL (g2 L) (d + 2) 11 false none kc_215 52 [.ref 253, dm, dm, dm, dm] [] h = some (none, h') ∧ LX h' T t q ∧ Fx h h' := by
  have s0 := e215_52 L (d + 2) h
  rw [hX.2.1, hX.2.2] at s0
  by_cases e : q = t
  · rw [if_neg (by rw [e]; exact fun w => w rfl)] at s0
    refine ⟨_, s0, ⟨?_, ?_, Or.inl ⟨e, ?_⟩⟩, (Fx.w (by omega)).tr (Fx.w (by omega))⟩
    · rw [hI_wI, if_neg (by omega), hI_wI, if_neg (by omega)]
      exact hX.2.1
    · rw [hI_wI, if_neg (by omega), hI_wI, if_pos ⟨rfl, rfl⟩]
    · rw [hI_wI, if_pos ⟨rfl, rfl⟩]
  · have hq' : q < t := by omega
    have t1 := hT q
    have F1 : Fx h (wI h 253 40 (nI q)) := Fx.w (by omega)
    have X1 : TM (wI h 253 40 (nI q)) T t q := hX.fx F1 (by rw [hI_wI, if_neg (by omega)]; exact hX.2.2)
    rw [if_pos (by rw [Ne, nI_eqI (by omega) (by omega)]; exact e), inB_nI (by omega), asr_d (by omega), ix_nI (by omega), hX.1 q hq', m216 d t1, cI_s] at s0
    by_cases z : ltr (T q) = true
    · rw [if_pos z, if_neg (by decide)] at s0
      obtain ⟨g, y, r1, r2, r3, r4, r5⟩ := m215_99 (L := L) (d := d) (p := q) (q0 := 0) ht hT (sb (T q)) (t - q) 0 0 (wI h 253 40 (nI q)) (by omega) X1 (fun k hk => absurd hk (Nat.not_lt_zero _)) (fun _ => jv_0.symm)
      rw [Nat.add_zero] at r1 r2 r3
      obtain ⟨w1, w2, w3, w4⟩ := wh_in (T := T) (P := ltr) (t := t) (t - q) q (by omega)
      have nd : dgt (T q) = false := by
        rw [Bool.eq_false_iff, Ne, dgt_i]
        have := ltr_i.mp z
        omega
      have g40 : hI g 253 40 = nI q := by rw [r5 40 (by omega), hI_wI, if_pos ⟨rfl, rfl⟩]
      have kq : tkK T t q = wkv (hv T q (wh T ltr t q - q)) (wh T ltr t q - q) := by
        unfold tkK
        rw [if_pos z]
      have eq : tkE T t q = wh T ltr t q := by
        unfold tkE
        rw [if_pos z]
      have fin : ∀ (r s : Int32), MT (tkK T t q) (tkV T t q) s r → LX (wI (wI g 253 42 r) 253 41 s) T t q := by
        intro r s hm
        refine ⟨?_, ?_, Or.inr ⟨hq', ?_, ?_⟩⟩
        · rw [hI_wI, if_neg (by omega), hI_wI, if_neg (by omega)]
          exact r3.2.1
        · rw [hI_wI, if_neg (by omega), hI_wI, if_neg (by omega)]
          exact g40
        · rw [hI_wI, if_neg (by omega), hI_wI, if_neg (by omega), eq]
          exact r3.2.2
        · rw [hI_wI, if_pos ⟨rfl, rfl⟩, hI_wI, if_neg (by omega), hI_wI, if_pos ⟨rfl, rfl⟩]
          exact hm
      have F2 : ∀ (r s : Int32), Fx h (wI (wI g 253 42 r) 253 41 s) := fun r s => F1.tr (r4.tr ((Fx.w (by omega)).tr (Fx.w (by omega))))
      rw [r1] at s0
      have s1 := e215_173 L (d + 2) (sb (T q)) y (nI (wh T ltr t q - q)) g
      by_cases n7 : wh T ltr t q - q ≤ 7
      · have hl : ∀ k, k < wh T ltr t q - q → 65 ≤ T (q + k) ∧ T (q + k) ≤ 122 := fun k hk => by
          rcases ltr_i.mp (w3 (q + k) (by omega) (by omega)) with w | w <;> omega
        have hb7 := hv8 hl (wh T ltr t q - q) (Nat.le_refl _)
        have b8 : (64 : Nat) ^ (wh T ltr t q - q) ≤ 64 ^ 7 := Nat.pow_le_pow_right (by decide) n7
        have b9 : (64 : Nat) ^ 7 = 4398046511104 := by decide
        obtain ⟨r, u1, u2⟩ := m217 (L := L) (d + 1) (x := hv T q (wh T ltr t q - q)) (by omega) n7 g
        have yv := r2 (by omega)
        subst yv
        rw [if_pos (by rw [nI_leN (by omega) (by omega)]; exact n7), u1, cI_s] at s1
        rcases u2 with ⟨v1, v2⟩ | ⟨j, j1, j2, j3⟩
        · rw [v2, if_neg (by decide)] at s1
          exact ⟨_, s0.trans s1, fin m1 (nI 4) (Or.inr (Or.inl ⟨by rw [kq]; exact v1, Or.inl rfl⟩)), F2 _ _⟩
        · rw [j2, if_pos (by rw [nI_leN (by omega) (by omega)]; omega)] at s1
          refine ⟨_, s0.trans s1, fin (nI j) (nI 1) (Or.inr (Or.inr (Or.inr (Or.inl ⟨?_, rfl⟩)))), F2 _ _⟩
          rw [kq]
          rcases j3 with ⟨j3, j4⟩ | ⟨j3, j4⟩
          · exact Or.inl ⟨by omega, by omega, by rw [j3]; rfl⟩
          · exact Or.inr ⟨by omega, by omega, by rw [j3]; rfl⟩
      · rw [if_neg (by rw [nI_leN (by omega) (by omega)]; exact n7)] at s1
        exact ⟨_, s0.trans s1, fin m1 (nI 4) (Or.inr (Or.inl ⟨by rw [kq]; unfold wkv; rw [if_pos (by omega)], Or.inl rfl⟩)), F2 _ _⟩
    · rw [if_neg z, if_pos rfl, m153, cI_s] at s0
      by_cases y : dgt (T q) = true
      · have yd := dgt_i.mp y
        rw [if_neg (by rw [bI_0, sb_in t1 (by omega) (by omega)]; exact not_not_intro yd)] at s0
        have F2 : Fx (wI h 253 40 (nI q)) (wI (wI (wI h 253 40 (nI q)) 253 41 (nI 2)) 253 42 (nI 0)) := (Fx.w (by omega)).tr (Fx.w (by omega))
        obtain ⟨g, r1, r2, r3, r4, r5, r6⟩ := m215_232 (L := L) (d := d + 1) (p := q) ht hT (sb (T q)) (t - q) 0 (wI (wI (wI h 253 40 (nI q)) 253 41 (nI 2)) 253 42 (nI 0)) (by omega) (X1.fx F2 (by rw [hI_wI, if_neg (by omega), hI_wI, if_neg (by omega)]; exact X1.2.2)) (by rw [hI_wI, if_pos ⟨rfl, rfl⟩]; rfl)
        rw [Nat.add_zero] at r2 r3
        obtain ⟨w1, w2, w3, w4⟩ := wh_in (T := T) (P := dgt) (t := t) (t - q) q (by omega)
        refine ⟨g, s0.trans r1, ⟨r2.2.1, ?_, Or.inr ⟨hq', ?_, ?_⟩⟩, F1.tr (F2.tr r6)⟩
        · rw [r5, hI_wI, if_neg (by omega), hI_wI, if_neg (by omega), hI_wI, if_pos ⟨rfl, rfl⟩]
        · unfold tkE
          rw [if_neg z, if_pos y]
          exact r2.2.2
        · unfold tkK tkV
          rw [if_neg z, if_pos y, if_pos y, r3, r4, hI_wI, if_neg (by omega), hI_wI, if_pos ⟨rfl, rfl⟩]
          refine Or.inr (Or.inr (Or.inl ⟨rfl, rfl, nvM T q (wh T dgt t q - q), rfl, nvM_le hT _, ?_⟩))
          exact nvCM _ (fun k hk => dgt_i.mp (w3 (q + k) (by omega) (by omega)))
      · rw [if_pos (by rw [bI_0, sb_in t1 (by omega) (by omega)]; exact fun w => y (dgt_i.mpr w)), show hI (wI h 253 40 (nI q)) 253 39 = nI q from X1.2.2, nI_plus] at s0
        have fin : ∀ (s : Int32), (T q = 60 ∨ T q = 62 → False) → MT (sgk (T q)) (tkV T t q) s (sb (T q)) → LX (wI (wI (wI (wI h 253 40 (nI q)) 253 39 (nI (q + 1))) 253 42 (sb (T q))) 253 41 s) T t q := by
          intro s h6 hm
          have no : ¬ ((T q = 60 ∨ T q = 62) ∧ q + 1 < t ∧ T (q + 1) = 61) := fun w => h6 w.1
          refine ⟨?_, ?_, Or.inr ⟨hq', ?_, ?_⟩⟩
          · rw [hI_wI, if_neg (by omega), hI_wI, if_neg (by omega), hI_wI, if_neg (by omega)]
            exact X1.2.1
          · rw [hI_wI, if_neg (by omega), hI_wI, if_neg (by omega), hI_wI, if_neg (by omega), hI_wI, if_pos ⟨rfl, rfl⟩]
          · rw [hI_wI, if_neg (by omega), hI_wI, if_neg (by omega), hI_wI, if_pos ⟨rfl, rfl⟩]
            unfold tkE
            rw [if_neg z, if_neg y, if_neg no]
          · unfold tkK
            rw [if_neg z, if_neg y, if_neg no, hI_wI, if_pos ⟨rfl, rfl⟩, hI_wI, if_neg (by omega), hI_wI, if_pos ⟨rfl, rfl⟩]
            exact hm
        have F3 : ∀ s : Int32, Fx h (wI (wI (wI (wI h 253 40 (nI q)) 253 39 (nI (q + 1))) 253 42 (sb (T q))) 253 41 s) := fun s => F1.tr ((Fx.w (by omega)).tr ((Fx.w (by omega)).tr (Fx.w (by omega))))
        rw [m153, cI_s] at s0
        by_cases a : 59 ≤ T q ∧ T q ≤ 62
        · have tl : sb (T q) = nI (T q) := sb_lo _ (by omega)
          rw [if_pos (bI_nz.mpr ((sb_in t1 (by omega) (by omega)).mpr a))] at s0
          have go : (T q = 60 ∨ T q = 62) → ∃ h', runL (g2 L) (d + 2) 11 false none kc_215 392 [.ref 253, .int (sb (T q)), dm, dm, dm] [] (wI (wI (wI (wI h 253 40 (nI q)) 253 39 (nI (q + 1))) 253 42 (sb (T q))) 253 41 (nI 3)) = some (none, h') ∧ LX h' T t q ∧ Fx h h' := by
            intro h6
            rw [tl]
            obtain ⟨h', r1, r2, r3⟩ := m215_392 (L := L) (d := d + 2) (h := wI (wI (wI (wI h 253 40 (nI q)) 253 39 (nI (q + 1))) 253 42 (nI (T q))) 253 41 (nI 3)) ht hT hq' rfl h6 (X1.fx ((Fx.w (by omega)).tr ((Fx.w (by omega)).tr (Fx.w (by omega)))) (by rw [hI_wI, if_neg (by omega), hI_wI, if_neg (by omega), hI_wI, if_pos ⟨rfl, rfl⟩])) (by rw [hI_wI, if_neg (by omega), hI_wI, if_neg (by omega), hI_wI, if_neg (by omega), hI_wI, if_pos ⟨rfl, rfl⟩]) (by rw [hI_wI, if_pos ⟨rfl, rfl⟩]) (by rw [hI_wI, if_neg (by omega), hI_wI, if_pos ⟨rfl, rfl⟩])
            have F4 := F3 (nI 3)
            rw [tl] at F4
            exact ⟨h', r1, r2, F4.tr r3⟩
          by_cases b : T q = 60
          · rw [if_pos ((sb_eq t1 (by omega)).mpr b)] at s0
            obtain ⟨h', g1, g2', g3⟩ := go (Or.inl b)
            exact ⟨h', s0.trans g1, g2', g3⟩
          · rw [if_neg (by rw [sb_eq t1 (by omega)]; exact b)] at s0
            by_cases c : T q = 62
            · rw [if_neg (by rw [Ne, sb_eq t1 (by omega)]; exact not_not_intro c)] at s0
              obtain ⟨h', g1, g2', g3⟩ := go (Or.inr c)
              exact ⟨h', s0.trans g1, g2', g3⟩
            · rw [if_pos (by rw [Ne, sb_eq t1 (by omega)]; exact c)] at s0
              exact ⟨_, s0, fin (nI 3) (by omega) (by rw [tl]; exact sg3 (by omega)), F3 _⟩
        · have b : ¬ T q = 60 := by omega
          have c : ¬ T q = 62 := by omega
          have b' : ¬ sb (T q) = nI 60 := by rw [sb_eq t1 (by omega)]; exact b
          have c' : sb (T q) ≠ nI 62 := by rw [Ne, sb_eq t1 (by omega)]; exact c
          rw [if_neg (by rw [bI_nz, sb_in t1 (by omega) (by omega)]; exact a), m153, cI_s] at s0
          simp only [if_neg b', if_pos c'] at s0
          by_cases e4 : 40 ≤ T q ∧ T q ≤ 45
          · rw [if_pos (bI_nz.mpr ((sb_in t1 (by omega) (by omega)).mpr e4))] at s0
            exact ⟨_, s0, fin (nI 3) (by omega) (by rw [sb_lo _ (by omega)]; exact sg3 (by omega)), F3 _⟩
          · rw [if_neg (by rw [bI_nz, sb_in t1 (by omega) (by omega)]; exact e4)] at s0
            by_cases e5 : T q = 37
            · rw [if_pos ((sb_eq t1 (by omega)).mpr e5)] at s0
              exact ⟨_, s0, fin (nI 3) (by omega) (by rw [sb_lo _ (by omega)]; exact sg3 (by omega)), F3 _⟩
            · rw [if_neg (by rw [sb_eq t1 (by omega)]; exact e5)] at s0
              by_cases e6 : T q = 47
              · rw [if_pos ((sb_eq t1 (by omega)).mpr e6)] at s0
                exact ⟨_, s0, fin (nI 3) (by omega) (by rw [sb_lo _ (by omega)]; exact sg3 (by omega)), F3 _⟩
              · rw [if_neg (by rw [sb_eq t1 (by omega)]; exact e6)] at s0
                by_cases e7 : T q = 35
                · rw [if_neg (by rw [Ne, sb_eq t1 (by omega)]; exact not_not_intro e7)] at s0
                  exact ⟨_, s0, fin (nI 3) (by omega) (by rw [sb_lo _ (by omega)]; exact sg3 (by omega)), F3 _⟩
                · rw [if_pos (by rw [Ne, sb_eq t1 (by omega)]; exact e7)] at s0
                  exact ⟨_, s0, fin (nI 4) (by omega) (sg4 (by omega)), F3 _⟩
/-- next -/
theorem m215 (d : Nat) {p : Nat} {h : PH} (ht : t ≤ 300) (hT : ∀ k, T k < 256) (hp : p ≤ t) (hX : TM h T t p) : ∃ h', exec (g2 L) (d + 3) 215 [.ref 253] h = some (none, h') ∧ LX h' T t (wh T blk t p) ∧ Fx h h' := by
  obtain ⟨g, r1, r2, r3⟩ := m215_0 (L := L) (d := d + 2) ht hT (t - p) p h (by omega) hX
  obtain ⟨w1, w2, w3, w4⟩ := wh_in (T := T) (P := blk) (t := t) (t - p) p (by omega)
  obtain ⟨h', q1, q2, q3⟩ := m215_52 (L := L) (d := d) ht hT w2 w4 r2
  exact ⟨h', ((x215 L (d + 2) h).trans (e215_0 L (d + 2) h).symm).trans (r1.trans q1), q2, r3.tr q3⟩
end Snext2
