-- PART: strips, the class cuts its tape into tokens (printed in part by a program of mine).
section Ssplit
variable {L : Nat} {T : Nat → Nat} {t : Nat}
theorem m99_0 {d sz : Nat} (ht : t ≤ 300) (hT : ∀ k, T k < 256) : ∀ (u q : Nat) (h : PH), q + u = t → TX h T t q sz → ∃ h', runL (g2 L) (d + 1) 9 false (some .int) kc_99 0 [.ref 208] [] h = runL (g2 L) (d + 1) 9 false (some .int) kc_99 39 [.ref 208] [] h' ∧ TX h' T t (wh T ltr t q) sz ∧ (∀ a, a ≠ 208 → hI h' a = hI h a) ∧ hR h' = hR h := by
  intro u
  induction u with
  | zero =>
    intro q h hq hX
    refine ⟨h, ?_, ?_, fun _ _ => rfl, rfl⟩
    · rw [e99_0, hX.2.1, hX.2.2.1, if_pos (by rw [nI_leN (by omega) (by omega)]; omega)]
    · rw [wh_no (by omega)]
      exact hX
  | succ u ih =>
    intro q h hq hX
    have t1 := hT q
    have s0 := e99_0 L (d + 1) h
    rw [hX.2.1, hX.2.2.1, if_neg (by rw [nI_leN (by omega) (by omega)]; omega), inB_nI (by omega), asr_d (by omega), ix_nI (by omega), hX.1 q (by omega), m98 d t1, cI_s] at s0
    by_cases z : ltr (T q) = true
    · rw [if_pos z, if_neg (by decide), hX.2.2.1, nI_plus] at s0
      obtain ⟨h', r1, r2, r3, r4⟩ := ih (q + 1) (wI h 208 7 (nI (q + 1))) (by omega) hX.at
      rw [wh_go (by omega) z]
      exact ⟨h', s0.trans r1, r2, fun a ha => by rw [r3 a ha, wI_ne ha], r4⟩
    · rw [if_neg z, if_pos rfl] at s0
      rw [wh_no (fun w => z w.2)]
      exact ⟨h, s0, hX, fun _ _ => rfl, rfl⟩
theorem m99_39 (d : Nat) {p e sz : Nat} {h : PH} (ht : t ≤ 300) (hT : ∀ k, T k < 256) (hX : TX h T t e sz) (hz : sz ≤ 300) (hp : p ≤ e) (he : e ≤ t) (h10 : hI h 210 sz = nI p) (hl : ∀ k, p ≤ k → k < e → ltr (T k) = true) : runL (g2 L) (d + 1) 9 false (some .int) kc_99 39 [.ref 208] [] h = some (some (.int (nI (wkv (hv T p (e - p)) (e - p)))), h) := by
  rw [e99_39]
  by_cases n7 : 7 < e - p
  · unfold wkv
    rw [if_pos n7]
    rw [m100_0 d ht hT hX hz hp he h10 hl, cI_s, if_neg (show ¬ (e - p ≤ 7 ∧ hv T p (e - p) = 13278119) from fun z => by omega), if_pos rfl]
    rw [m100_1 d ht hT hX hz hp he h10 hl, cI_s, if_neg (show ¬ (e - p ≤ 7 ∧ hv T p (e - p) = 13262068) from fun z => by omega), if_pos rfl]
    rw [m100_2 d ht hT hX hz hp he h10 hl, cI_s, if_neg (show ¬ (e - p ≤ 7 ∧ hv T p (e - p) = 14584174) from fun z => by omega), if_pos rfl]
    rw [m100_3 d ht hT hX hz hp he h10 hl, cI_s, if_neg (show ¬ (e - p ≤ 7 ∧ hv T p (e - p) = 3058) from fun z => by omega), if_pos rfl]
    rw [m100_4 d ht hT hX hz hp he h10 hl, cI_s, if_neg (show ¬ (e - p ≤ 7 ∧ hv T p (e - p) = 138148) from fun z => by omega), if_pos rfl]
    rw [m100_5 d ht hT hX hz hp he h10 hl, cI_s, if_neg (show ¬ (e - p ≤ 7 ∧ hv T p (e - p) = 191476) from fun z => by omega), if_pos rfl]
    rw [m100_6 d ht hT hX hz hp he h10 hl, cI_s, if_neg (show ¬ (e - p ≤ 7 ∧ hv T p (e - p) = 49018527013) from fun z => by omega), if_pos rfl]
    rw [m100_7 d ht hT hX hz hp he h10 hl, cI_s, if_neg (show ¬ (e - p ≤ 7 ∧ hv T p (e - p) = 10681714) from fun z => by omega), if_pos rfl]
    rw [m100_8 d ht hT hX hz hp he h10 hl, cI_s, if_neg (show ¬ (e - p ≤ 7 ∧ hv T p (e - p) = 598931691) from fun z => by omega), if_pos rfl]
    rw [m100_9 d ht hT hX hz hp he h10 hl, cI_s, if_neg (show ¬ (e - p ≤ 7 ∧ hv T p (e - p) = 149625) from fun z => by omega), if_pos rfl]
    rw [m100_10 d ht hT hX hz hp he h10 hl, cI_s, if_neg (show ¬ (e - p ≤ 7 ∧ hv T p (e - p) = 9575717) from fun z => by omega), if_pos rfl]
  unfold wkv
  rw [if_neg n7]
  rw [m100_0 d ht hT hX hz hp he h10 hl, cI_s]
  by_cases c0 : hv T p (e - p) = 13278119
  · rw [if_pos (show e - p ≤ 7 ∧ hv T p (e - p) = 13278119 from ⟨by omega, c0⟩), if_neg (by decide), if_pos c0]
  rw [if_neg (show ¬ (e - p ≤ 7 ∧ hv T p (e - p) = 13278119) from fun z => c0 z.2), if_pos rfl, if_neg c0]
  rw [m100_1 d ht hT hX hz hp he h10 hl, cI_s]
  by_cases c1 : hv T p (e - p) = 13262068
  · rw [if_pos (show e - p ≤ 7 ∧ hv T p (e - p) = 13262068 from ⟨by omega, c1⟩), if_neg (by decide), if_pos c1]
  rw [if_neg (show ¬ (e - p ≤ 7 ∧ hv T p (e - p) = 13262068) from fun z => c1 z.2), if_pos rfl, if_neg c1]
  rw [m100_2 d ht hT hX hz hp he h10 hl, cI_s]
  by_cases c2 : hv T p (e - p) = 14584174
  · rw [if_pos (show e - p ≤ 7 ∧ hv T p (e - p) = 14584174 from ⟨by omega, c2⟩), if_neg (by decide), if_pos c2]
  rw [if_neg (show ¬ (e - p ≤ 7 ∧ hv T p (e - p) = 14584174) from fun z => c2 z.2), if_pos rfl, if_neg c2]
  rw [m100_3 d ht hT hX hz hp he h10 hl, cI_s]
  by_cases c3 : hv T p (e - p) = 3058
  · rw [if_pos (show e - p ≤ 7 ∧ hv T p (e - p) = 3058 from ⟨by omega, c3⟩), if_neg (by decide), if_pos c3]
  rw [if_neg (show ¬ (e - p ≤ 7 ∧ hv T p (e - p) = 3058) from fun z => c3 z.2), if_pos rfl, if_neg c3]
  rw [m100_4 d ht hT hX hz hp he h10 hl, cI_s]
  by_cases c4 : hv T p (e - p) = 138148
  · rw [if_pos (show e - p ≤ 7 ∧ hv T p (e - p) = 138148 from ⟨by omega, c4⟩), if_neg (by decide), if_pos c4]
  rw [if_neg (show ¬ (e - p ≤ 7 ∧ hv T p (e - p) = 138148) from fun z => c4 z.2), if_pos rfl, if_neg c4]
  rw [m100_5 d ht hT hX hz hp he h10 hl, cI_s]
  by_cases c5 : hv T p (e - p) = 191476
  · rw [if_pos (show e - p ≤ 7 ∧ hv T p (e - p) = 191476 from ⟨by omega, c5⟩), if_neg (by decide), if_pos c5]
  rw [if_neg (show ¬ (e - p ≤ 7 ∧ hv T p (e - p) = 191476) from fun z => c5 z.2), if_pos rfl, if_neg c5]
  rw [m100_6 d ht hT hX hz hp he h10 hl, cI_s]
  by_cases c6 : hv T p (e - p) = 49018527013
  · rw [if_pos (show e - p ≤ 7 ∧ hv T p (e - p) = 49018527013 from ⟨by omega, c6⟩), if_neg (by decide), if_pos c6]
  rw [if_neg (show ¬ (e - p ≤ 7 ∧ hv T p (e - p) = 49018527013) from fun z => c6 z.2), if_pos rfl, if_neg c6]
  rw [m100_7 d ht hT hX hz hp he h10 hl, cI_s]
  by_cases c7 : hv T p (e - p) = 10681714
  · rw [if_pos (show e - p ≤ 7 ∧ hv T p (e - p) = 10681714 from ⟨by omega, c7⟩), if_neg (by decide), if_pos c7]
  rw [if_neg (show ¬ (e - p ≤ 7 ∧ hv T p (e - p) = 10681714) from fun z => c7 z.2), if_pos rfl, if_neg c7]
  rw [m100_8 d ht hT hX hz hp he h10 hl, cI_s]
  by_cases c8 : hv T p (e - p) = 598931691
  · rw [if_pos (show e - p ≤ 7 ∧ hv T p (e - p) = 598931691 from ⟨by omega, c8⟩), if_neg (by decide), if_pos c8]
  rw [if_neg (show ¬ (e - p ≤ 7 ∧ hv T p (e - p) = 598931691) from fun z => c8 z.2), if_pos rfl, if_neg c8]
  rw [m100_9 d ht hT hX hz hp he h10 hl, cI_s]
  by_cases c9 : hv T p (e - p) = 149625
  · rw [if_pos (show e - p ≤ 7 ∧ hv T p (e - p) = 149625 from ⟨by omega, c9⟩), if_neg (by decide), if_pos c9]
  rw [if_neg (show ¬ (e - p ≤ 7 ∧ hv T p (e - p) = 149625) from fun z => c9 z.2), if_pos rfl, if_neg c9]
  rw [m100_10 d ht hT hX hz hp he h10 hl, cI_s]
  by_cases c10 : hv T p (e - p) = 9575717
  · rw [if_pos (show e - p ≤ 7 ∧ hv T p (e - p) = 9575717 from ⟨by omega, c10⟩), if_neg (by decide), if_pos c10]
  rw [if_neg (show ¬ (e - p ≤ 7 ∧ hv T p (e - p) = 9575717) from fun z => c10 z.2), if_pos rfl, if_neg c10]
theorem m102_2 {d p sz : Nat} (ht : t ≤ 300) (hT : ∀ k, T k < 256) (hz : sz ≤ 300) : ∀ (u n : Nat) (h : PH), p + n + u = t → TX h T t (p + n) sz → ∃ h', runL (g2 L) (d + 1) 9 false (some .int) kc_102 2 [.ref 208, .int (nI (nvC T p n))] [] h = some (some (.int (nI 2)), h') ∧ TX h' T t (wh T dgt t (p + n)) sz ∧ hI h' 211 sz = nI (nvC T p (wh T dgt t (p + n) - p)) ∧ (∀ k, k ≠ sz → hI h' 211 k = hI h 211 k) ∧ (∀ a, a ≠ 208 → a ≠ 211 → hI h' a = hI h a) ∧ hR h' = hR h := by
  have fin : ∀ (n : Nat) (h : PH), TX h T t (p + n) sz → wh T dgt t (p + n) = p + n → ∃ h', (some (some (Value.int (nI 2)), wI h 211 sz (nI (nvC T p n))) : PR) = some (some (.int (nI 2)), h') ∧ TX h' T t (wh T dgt t (p + n)) sz ∧ hI h' 211 sz = nI (nvC T p (wh T dgt t (p + n) - p)) ∧ (∀ k, k ≠ sz → hI h' 211 k = hI h 211 k) ∧ (∀ a, a ≠ 208 → a ≠ 211 → hI h' a = hI h a) ∧ hR h' = hR h := by
    intro n h hX e
    refine ⟨wI h 211 sz (nI (nvC T p n)), rfl, ?_, ?_, fun k hk => ?_, fun a _ ha => wI_ne ha, rfl⟩
    · rw [e]
      exact ⟨fun k hk => by rw [wI_ne (by omega)]; exact hX.1 k hk, by rw [wI_ne (by omega)]; exact hX.2.1, by rw [wI_ne (by omega)]; exact hX.2.2.1, by rw [wI_ne (by omega)]; exact hX.2.2.2⟩
    · rw [e, hI_wI, if_pos ⟨rfl, rfl⟩, show p + n - p = n by omega]
    · rw [hI_wI, if_neg (fun q => hk q.2)]
  intro u
  induction u with
  | zero =>
    intro n h hn hX
    rw [e102_2, hX.2.1, hX.2.2.1, if_pos (by rw [nI_leN (by omega) (by omega)]; omega), hX.2.2.2, inB_nI (by omega), asr_d (by omega), ix_nI (by omega)]
    exact fin n h hX (wh_no (by omega))
  | succ u ih =>
    intro n h hn hX
    have t1 := hT (p + n)
    have v1 := nvC_le (T := T) (p := p) n
    have s0 := e102_2 L (d + 1) (nI (nvC T p n)) h
    rw [hX.2.1, hX.2.2.1, if_neg (by rw [nI_leN (by omega) (by omega)]; omega), inB_nI (by omega), asr_d (by omega), ix_nI (by omega), hX.1 (p + n) (by omega), m101 d t1, cI_s] at s0
    by_cases z : dgt (T (p + n)) = true
    · have zd := dgt_i.mp z
      rw [if_pos z, if_neg (by decide), hX.2.2.1, inB_nI (by omega), asr_d (by omega), ix_nI (by omega), hX.1 (p + n) (by omega), nI_times, nI_plus, nI_minus (by omega), nI_plus] at s0
      have e1 : (if nI (nvC T p n * 10 + T (p + n) - 48) < nI 10000 then nI (nvC T p n * 10 + T (p + n) - 48) else nI 10000) = nI (nvC T p (n + 1)) := by
        rw [nvC]
        by_cases q : nvC T p n * 10 + T (p + n) - 48 < 10000
        · rw [if_pos (by rw [nI_ltN (by omega) (by omega)]; exact q), if_pos q]
        · rw [if_neg (by rw [nI_ltN (by omega) (by omega)]; exact q), if_neg q]
      rw [e1, Nat.add_assoc p n 1] at s0
      obtain ⟨h', r1, r2, r3, r4, r5, r6⟩ := ih (n + 1) (wI h 208 7 (nI (p + (n + 1)))) (by omega) hX.at
      rw [wh_go (by omega) z, Nat.add_assoc]
      exact ⟨h', s0.trans r1, r2, r3, fun k hk => by rw [r4 k hk, wI_ne (by omega)], fun a h1 h2 => by rw [r5 a h1 h2, wI_ne h1], r6⟩
    · rw [if_neg z, if_pos rfl, hX.2.2.2, inB_nI (by omega), asr_d (by omega), ix_nI (by omega)] at s0
      rw [s0]
      exact fin n h hX (wh_no (fun w => z w.2))
theorem m103 (d : Nat) {c : Nat} (hc : c < 256) (h : PH) : exec (g2 L) (d + 1) 103 [.int (nI c)] h = some (some (.int (nI (sgk c))), h) := by
  rw [x103]
  by_cases c35 : c = 35
  · rw [if_pos (by rw [c35]), c35]
    rfl
  rw [if_neg (by rw [nI_eqI (by omega) (by omega)]; exact c35)]
  by_cases c36 : c = 36
  · rw [if_pos (by rw [c36]), c36]
    rfl
  rw [if_neg (by rw [nI_eqI (by omega) (by omega)]; exact c36)]
  by_cases c37 : c = 37
  · rw [if_pos (by rw [c37]), c37]
    rfl
  rw [if_neg (by rw [nI_eqI (by omega) (by omega)]; exact c37)]
  by_cases c38 : c = 38
  · rw [if_pos (by rw [c38]), c38]
    rfl
  rw [if_neg (by rw [nI_eqI (by omega) (by omega)]; exact c38)]
  by_cases c39 : c = 39
  · rw [if_pos (by rw [c39]), c39]
    rfl
  rw [if_neg (by rw [nI_eqI (by omega) (by omega)]; exact c39)]
  by_cases c40 : c = 40
  · rw [if_pos (by rw [c40]), c40]
    rfl
  rw [if_neg (by rw [nI_eqI (by omega) (by omega)]; exact c40)]
  by_cases c41 : c = 41
  · rw [if_pos (by rw [c41]), c41]
    rfl
  rw [if_neg (by rw [nI_eqI (by omega) (by omega)]; exact c41)]
  by_cases c42 : c = 42
  · rw [if_pos (by rw [c42]), c42]
    rfl
  rw [if_neg (by rw [nI_eqI (by omega) (by omega)]; exact c42)]
  by_cases c43 : c = 43
  · rw [if_pos (by rw [c43]), c43]
    rfl
  rw [if_neg (by rw [nI_eqI (by omega) (by omega)]; exact c43)]
  by_cases c44 : c = 44
  · rw [if_pos (by rw [c44]), c44]
    rfl
  rw [if_neg (by rw [nI_eqI (by omega) (by omega)]; exact c44)]
  by_cases c45 : c = 45
  · rw [if_pos (by rw [c45]), c45]
    rfl
  rw [if_neg (by rw [nI_eqI (by omega) (by omega)]; exact c45)]
  by_cases c46 : c = 46
  · rw [if_pos (by rw [c46]), c46]
    rfl
  rw [if_neg (by rw [nI_eqI (by omega) (by omega)]; exact c46)]
  by_cases c47 : c = 47
  · rw [if_pos (by rw [c47]), c47]
    rfl
  rw [if_neg (by rw [nI_eqI (by omega) (by omega)]; exact c47)]
  by_cases c48 : c = 48
  · rw [if_pos (by rw [c48]), c48]
    rfl
  rw [if_neg (by rw [nI_eqI (by omega) (by omega)]; exact c48)]
  by_cases c49 : c = 49
  · rw [if_pos (by rw [c49]), c49]
    rfl
  rw [if_neg (by rw [nI_eqI (by omega) (by omega)]; exact c49)]
  by_cases c50 : c = 50
  · rw [if_pos (by rw [c50]), c50]
    rfl
  rw [if_neg (by rw [nI_eqI (by omega) (by omega)]; exact c50)]
  by_cases c51 : c = 51
  · rw [if_pos (by rw [c51]), c51]
    rfl
  rw [if_neg (by rw [nI_eqI (by omega) (by omega)]; exact c51)]
  by_cases c52 : c = 52
  · rw [if_pos (by rw [c52]), c52]
    rfl
  rw [if_neg (by rw [nI_eqI (by omega) (by omega)]; exact c52)]
  by_cases c53 : c = 53
  · rw [if_pos (by rw [c53]), c53]
    rfl
  rw [if_neg (by rw [nI_eqI (by omega) (by omega)]; exact c53)]
  by_cases c54 : c = 54
  · rw [if_pos (by rw [c54]), c54]
    rfl
  rw [if_neg (by rw [nI_eqI (by omega) (by omega)]; exact c54)]
  by_cases c55 : c = 55
  · rw [if_pos (by rw [c55]), c55]
    rfl
  rw [if_neg (by rw [nI_eqI (by omega) (by omega)]; exact c55)]
  by_cases c56 : c = 56
  · rw [if_pos (by rw [c56]), c56]
    rfl
  rw [if_neg (by rw [nI_eqI (by omega) (by omega)]; exact c56)]
  by_cases c57 : c = 57
  · rw [if_pos (by rw [c57]), c57]
    rfl
  rw [if_neg (by rw [nI_eqI (by omega) (by omega)]; exact c57)]
  by_cases c58 : c = 58
  · rw [if_pos (by rw [c58]), c58]
    rfl
  rw [if_neg (by rw [nI_eqI (by omega) (by omega)]; exact c58)]
  by_cases c59 : c = 59
  · rw [if_pos (by rw [c59]), c59]
    rfl
  rw [if_neg (by rw [nI_eqI (by omega) (by omega)]; exact c59)]
  by_cases c60 : c = 60
  · rw [if_pos (by rw [c60]), c60]
    rfl
  rw [if_neg (by rw [nI_eqI (by omega) (by omega)]; exact c60)]
  by_cases c61 : c = 61
  · rw [if_pos (by rw [c61]), c61]
    rfl
  rw [if_neg (by rw [nI_eqI (by omega) (by omega)]; exact c61)]
  by_cases c62 : c = 62
  · rw [if_pos (by rw [c62]), c62]
    rfl
  rw [if_neg (by rw [nI_eqI (by omega) (by omega)]; exact c62)]
  unfold sgk
  rw [if_neg c35, if_neg c37, if_neg c40, if_neg c41, if_neg c42, if_neg c43, if_neg c45, if_neg c47, if_neg c59, if_neg c60, if_neg c61, if_neg c62]
theorem m97 (d : Nat) {p sz : Nat} {h : PH} (ht : t ≤ 300) (hT : ∀ k, T k < 256) (hz : sz ≤ 300) (hp : p < t) (hX : TX h T t p sz) (h10 : hI h 210 sz = nI p) (h11 : hI h 211 sz = nI 0) : ∃ h', exec (g2 L) (d + 3) 97 [.ref 208] h = some (some (.int (nI (tkK T t p))), h') ∧ TX h' T t (tkE T t p) sz ∧ hI h' 211 sz = nI (tkV T t p) ∧ (∀ k, k ≠ sz → hI h' 211 k = hI h 211 k) ∧ (∀ a, a ≠ 208 → a ≠ 211 → hI h' a = hI h a) ∧ hR h' = hR h := by
  have t1 := hT p
  have s0 := x97 L (d + 2) h
  rw [hX.2.2.1, inB_nI (by omega), asr_d (by omega), ix_nI (by omega), hX.1 p hp, m98 (d + 1) t1, cI_s] at s0
  by_cases z : ltr (T p) = true
  · obtain ⟨g, r1, r2, r3, r4⟩ := m99_0 (L := L) (d := d) ht hT (t - p) p h (by omega) hX
    obtain ⟨w1, w2, w3, w4⟩ := wh_in (T := T) (P := ltr) (t := t) (t - p) p (by omega)
    have w5 : dgt (T p) = false := by
      rw [Bool.eq_false_iff]
      intro q
      have := dgt_i.mp q
      have := ltr_i.mp z
      omega
    rw [if_pos z, if_neg (by decide), (x99 L (d + 1) h).trans (e99_0 L (d + 1) h).symm, r1, m99_39 d ht hT r2 hz w1 w2 (by rw [r3 210 (by omega)]; exact h10) w3, cI_s] at s0
    refine ⟨g, ?_, ?_, ?_, fun k _ => by rw [r3 211 (by omega)], fun a h1 _ => r3 a h1, r4⟩
    · rw [s0]
      unfold tkK
      rw [if_pos z]
    · unfold tkE
      rw [if_pos z]
      exact r2
    · unfold tkV
      rw [w5, if_neg (by decide), r3 211 (by omega)]
      exact h11
  · rw [if_neg z, if_pos rfl, m101 (d + 1) t1, cI_s] at s0
    by_cases y : dgt (T p) = true
    · obtain ⟨g, r1, r2, r3, r4, r5, r6⟩ := m102_2 (L := L) (d := d) (p := p) ht hT hz (t - p) 0 h (by omega) hX
      rw [if_pos y, if_neg (by decide), x102] at s0
      rw [nvC] at r1
      rw [r1, cI_s] at s0
      refine ⟨g, ?_, ?_, ?_, r4, r5, r6⟩
      · rw [s0]
        unfold tkK
        rw [if_neg z, if_pos y]
      · unfold tkE
        rw [if_neg z, if_pos y]
        exact r2
      · unfold tkV
        rw [if_pos y]
        exact r3
    · have kk : ∀ g : PH, TX g T t (p + 1) sz → (∀ a, a ≠ 208 → hI g a = hI h a) → hR g = hR h → ∀ x : Nat, x ≤ 1 → (x = 1 ↔ p + 1 < t ∧ T (p + 1) = 61) → ∃ h', runL (g2 L) (d + 2) 9 false (some .int) kc_97 74 [.ref 208, .int (nI (T p)), dm] [.int (nI x)] g = some (some (.int (nI (tkK T t p))), h') ∧ TX h' T t (tkE T t p) sz ∧ hI h' 211 sz = nI (tkV T t p) ∧ (∀ k, k ≠ sz → hI h' 211 k = hI h 211 k) ∧ (∀ a, a ≠ 208 → a ≠ 211 → hI h' a = hI h a) ∧ hR h' = hR h := by
        intro g gX gF gR x hx ex
        have v0 : tkV T t p = 0 := by
          unfold tkV
          rw [if_neg y]
        have one : ¬ ((T p = 60 ∨ T p = 62) ∧ p + 1 < t ∧ T (p + 1) = 61) → ∃ h', (some (some (Value.int (nI (sgk (T p)))), g) : PR) = some (some (.int (nI (tkK T t p))), h') ∧ TX h' T t (tkE T t p) sz ∧ hI h' 211 sz = nI (tkV T t p) ∧ (∀ k, k ≠ sz → hI h' 211 k = hI h 211 k) ∧ (∀ a, a ≠ 208 → a ≠ 211 → hI h' a = hI h a) ∧ hR h' = hR h := by
          intro no
          refine ⟨g, ?_, ?_, by rw [v0, gF 211 (by omega)]; exact h11, fun k _ => by rw [gF 211 (by omega)], fun a h1 _ => gF a h1, gR⟩
          · unfold tkK
            rw [if_neg z, if_neg y, if_neg no]
          · unfold tkE
            rw [if_neg z, if_neg y, if_neg no]
            exact gX
        have two : (T p = 60 ∨ T p = 62) → x = 1 → ∃ h', (some (some (Value.int (if T p = 60 then nI 18 else nI 20)), wI g 208 7 (nI (p + 2))) : PR) = some (some (.int (nI (tkK T t p))), h') ∧ TX h' T t (tkE T t p) sz ∧ hI h' 211 sz = nI (tkV T t p) ∧ (∀ k, k ≠ sz → hI h' 211 k = hI h 211 k) ∧ (∀ a, a ≠ 208 → a ≠ 211 → hI h' a = hI h a) ∧ hR h' = hR h := by
          intro h6 x1
          have hc : (T p = 60 ∨ T p = 62) ∧ p + 1 < t ∧ T (p + 1) = 61 := ⟨h6, ex.mp x1⟩
          refine ⟨wI g 208 7 (nI (p + 2)), ?_, ?_, by rw [v0, wI_ne (by omega), gF 211 (by omega)]; exact h11, fun k _ => by rw [wI_ne (by omega), gF 211 (by omega)], fun a h1 _ => by rw [wI_ne h1]; exact gF a h1, gR⟩
          · unfold tkK
            rw [if_neg z, if_neg y, if_pos hc]
            by_cases q : T p = 60
            · rw [if_pos q, if_pos q]
            · rw [if_neg q, if_neg q]
          · unfold tkE
            rw [if_neg z, if_neg y, if_pos hc]
            exact gX.at
        rw [e97_74, gX.2.2.1, nI_plus, m103 (d + 1) t1]
        by_cases x0 : x = 1
        · rw [if_neg (by rw [x0]; decide)]
          by_cases a : T p = 60
          · rw [if_pos (by rw [a]), if_neg (by rw [a]; exact fun q => q rfl)]
            have := two (Or.inl a) x0
            rw [if_pos a] at this
            exact this
          · rw [if_neg (by rw [nI_eqI (by omega) (by omega)]; exact a)]
            by_cases b : T p = 62
            · rw [if_neg (by rw [b]; exact fun q => q rfl), if_pos (by rw [Ne, nI_eqI (by omega) (by omega)]; exact a)]
              have := two (Or.inr b) x0
              rw [if_neg a] at this
              exact this
            · rw [if_pos (by rw [Ne, nI_eqI (by omega) (by omega)]; exact b), cI_s]
              exact one (fun q => by rcases q.1 with q | q <;> contradiction)
        · rw [show x = 0 by omega, if_pos rfl, cI_s]
          exact one (fun q => x0 (ex.mpr q.2))
      have gX := hX.at (p' := p + 1)
      have gF : ∀ a, a ≠ 208 → hI (wI h 208 7 (nI (p + 1))) a = hI h a := fun a ha => wI_ne ha
      rw [if_neg y, if_pos rfl, hX.2.1, hX.2.2.1, nI_plus] at s0
      by_cases e : p + 1 < t
      · have t2 := hT (p + 1)
        rw [if_neg (by rw [nI_leN (by omega) (by omega)]; omega), inB_nI (by omega), asr_d (by omega), ix_nI (by omega), hX.1 (p + 1) e] at s0
        by_cases f : T (p + 1) = 61
        · rw [if_neg (by rw [f]; exact fun q => q rfl)] at s0
          obtain ⟨h', q1, q2⟩ := kk _ gX gF rfl 1 (by omega) ⟨fun _ => ⟨e, f⟩, fun _ => rfl⟩
          exact ⟨h', s0.trans q1, q2⟩
        · rw [if_pos (by rw [Ne, nI_eqI (by omega) (by omega)]; exact f)] at s0
          obtain ⟨h', q1, q2⟩ := kk _ gX gF rfl 0 (by omega) ⟨fun q => by omega, fun q => absurd q.2 f⟩
          exact ⟨h', s0.trans q1, q2⟩
      · rw [if_pos (by rw [nI_leN (by omega) (by omega)]; omega)] at s0
        obtain ⟨h', q1, q2⟩ := kk _ gX gF rfl 0 (by omega) ⟨fun q => by omega, fun q => absurd q.1 e⟩
        exact ⟨h', s0.trans q1, q2⟩
theorem tkE_in {p : Nat} (hp : p < t) : p < tkE T t p ∧ tkE T t p ≤ t := by
  unfold tkE
  split
  · rename_i z
    obtain ⟨w1, w2, -, -⟩ := wh_in (T := T) (P := ltr) (t := t) (t - (p + 1)) (p + 1) (by omega)
    rw [wh_go hp z]
    exact ⟨by omega, w2⟩
  · split
    · rename_i z
      obtain ⟨w1, w2, -, -⟩ := wh_in (T := T) (P := dgt) (t := t) (t - (p + 1)) (p + 1) (by omega)
      rw [wh_go hp z]
      exact ⟨by omega, w2⟩
    · split
      · rename_i z
        exact ⟨by omega, by omega⟩
      · exact ⟨by omega, by omega⟩
/-- the tokens in the class's rows -/
def TK (h : PH) (T : Nat → Nat) (t N : Nat) : Prop := (∀ j, j < N → ps T t j < t ∧ hI h 209 j = nI (tkK T t (ps T t j)) ∧ hI h 210 j = nI (ps T t j) ∧ hI h 211 j = nI (tkV T t (ps T t j)))
theorem m95_29 {d : Nat} (ht : t ≤ 300) (hT : ∀ k, T k < 256) : ∀ (u j q : Nat) (h : PH), j + u = 300 → j ≤ q → q ≤ t → ps T t j = wh T blk t q → TX h T t q j → TK h T t j → ∃ N h', runL (g2 L) (d + 3) 9 false none kc_95 29 [.ref 208, .int (nI j)] [] h = some (none, h') ∧ N ≤ 300 ∧ ps T t N = t ∧ TK h' T t N ∧ hI h' 209 N = nI 0 ∧ hI h' 210 N = nI t ∧ (∀ a, ¬ (208 ≤ a ∧ a ≤ 211) → hI h' a = hI h a) ∧ hR h' = hR h := by
  have fin : ∀ (j : Nat) (x1 : Int32) (h : PH), j ≤ 300 → ps T t j = t → TX h T t t j → TK h T t j → ∃ N h', runL (g2 L) (d + 3) 9 false none kc_95 95 [.ref 208, .int x1] [] h = some (none, h') ∧ N ≤ 300 ∧ ps T t N = t ∧ TK h' T t N ∧ hI h' 209 N = nI 0 ∧ hI h' 210 N = nI t ∧ (∀ a, ¬ (208 ≤ a ∧ a ≤ 211) → hI h' a = hI h a) ∧ hR h' = hR h := by
    intro j x1 h hj hp hX hK
    refine ⟨j, wI (wI (wI h 210 j (nI t)) 211 j (nI 0)) 209 j (nI 0), ?_, hj, hp, fun i hi => ?_, ?_, ?_, fun a ha => ?_, rfl⟩
    · rw [e95_95, hX.2.2.2, inB_nI (by omega), asr_d (by omega), asr_d (by omega), asr_d (by omega), ix_nI (by omega), hX.2.1]
    · obtain ⟨k1, k2, k3, k4⟩ := hK i hi
      refine ⟨k1, ?_, ?_, ?_⟩
      · rw [hI_wI, if_neg (by omega), wI_ne (by omega), wI_ne (by omega)]
        exact k2
      · rw [wI_ne (by omega), wI_ne (by omega), hI_wI, if_neg (by omega)]
        exact k3
      · rw [wI_ne (by omega), hI_wI, if_neg (by omega), wI_ne (by omega)]
        exact k4
    · rw [hI_wI, if_pos ⟨rfl, rfl⟩]
    · rw [wI_ne (by omega), wI_ne (by omega), hI_wI, if_pos ⟨rfl, rfl⟩]
    · rw [wI_ne (by omega), wI_ne (by omega), wI_ne (by omega)]
  intro u
  induction u with
  | zero =>
    intro j q h hj hjq hq hp hX hK
    have e : q = t := by omega
    subst e
    rw [wh_no (by omega)] at hp
    rw [e95_29, if_pos (by rw [nI_leN (by omega) (by omega)]; omega)]
    exact fin j (nI j) h (by omega) hp hX hK
  | succ u ih =>
    intro j q h hj hjq hq hp hX hK
    obtain ⟨g, r1, r2, r3, r4⟩ := m96 (L := L) (d := d + 2) (sz := j) ht (t - q) q h (by omega) hX hT
    obtain ⟨w1, w2, w3, w4⟩ := wh_in (T := T) (P := blk) (t := t) (t - q) q (by omega)
    rw [← hp] at r1 r2 w1 w2 w3 w4
    have gK : TK g T t j := fun i hi => by
      rw [r3 209 (by omega), r3 210 (by omega), r3 211 (by omega)]
      exact hK i hi
    have s0 := e95_29 L (d + 3) (nI j) h
    rw [if_neg (by rw [nI_leN (by omega) (by omega)]; omega), (x96 L (d + 2) h).trans (e96_0 L (d + 2) h).symm, r1, cI_s] at s0
    by_cases z : ps T t j < t
    · rw [if_pos z, if_neg (by decide), r2.2.2.2, inB_nI (by omega), asr_d (by omega), asr_d (by omega), ix_nI (by omega), r2.2.2.1] at s0
      have gX : TX (wI (wI g 210 j (nI (ps T t j))) 211 j (nI 0)) T t (ps T t j) j := ⟨fun k hk => by rw [wI_ne (by omega), wI_ne (by omega)]; exact r2.1 k hk, by rw [wI_ne (by omega), wI_ne (by omega)]; exact r2.2.1, by rw [wI_ne (by omega), wI_ne (by omega)]; exact r2.2.2.1, by rw [wI_ne (by omega), wI_ne (by omega)]; exact r2.2.2.2⟩
      obtain ⟨f, v1, v2, v3, v4, v5, v6⟩ := m97 (L := L) d ht hT (by omega) z gX (by rw [wI_ne (by omega), hI_wI, if_pos ⟨rfl, rfl⟩]) (by rw [hI_wI, if_pos ⟨rfl, rfl⟩])
      rw [v1, cI_s, asr_d (by omega), v2.2.2.2, nI_plus] at s0
      obtain ⟨e1, e2⟩ := tkE_in (T := T) z
      have W9 : ∀ i, hI (wI (wI f 209 j (nI (tkK T t (ps T t j)))) 208 3 (nI (j + 1))) 209 i = if i = j then nI (tkK T t (ps T t j)) else hI f 209 i := fun i => by
        rw [wI_ne (by omega), hI_wI]
        by_cases e : i = j
        · rw [if_pos ⟨rfl, e⟩, if_pos e]
        · rw [if_neg (fun q => e q.2), if_neg e]
      have W0 : hI (wI (wI f 209 j (nI (tkK T t (ps T t j)))) 208 3 (nI (j + 1))) 210 = hI f 210 := by rw [wI_ne (by omega), wI_ne (by omega)]
      have W1 : hI (wI (wI f 209 j (nI (tkK T t (ps T t j)))) 208 3 (nI (j + 1))) 211 = hI f 211 := by rw [wI_ne (by omega), wI_ne (by omega)]
      obtain ⟨N, h', q1, q2, q3, q4, q5, q6, q7, q8⟩ := ih (j + 1) (tkE T t (ps T t j)) (wI (wI f 209 j (nI (tkK T t (ps T t j)))) 208 3 (nI (j + 1))) (by omega) (by omega) e2 rfl ⟨fun k hk => by rw [wI_ne (by omega), wI_ne (by omega)]; exact v2.1 k hk, by rw [hI_wI, if_neg (by omega), wI_ne (by omega)]; exact v2.2.1, by rw [hI_wI, if_neg (by omega), wI_ne (by omega)]; exact v2.2.2.1, by rw [hI_wI, if_pos ⟨rfl, rfl⟩]⟩ (fun i hi => by
        rw [W9 i, W0, W1]
        by_cases e : i = j
        · subst e
          refine ⟨z, by rw [if_pos rfl], ?_, v3⟩
          rw [v5 210 (by omega) (by omega), wI_ne (by omega), hI_wI, if_pos ⟨rfl, rfl⟩]
        · obtain ⟨k1, k2, k3, k4⟩ := gK i (by omega)
          refine ⟨k1, ?_, ?_, ?_⟩
          · rw [if_neg e, v5 209 (by omega) (by omega), wI_ne (by omega), wI_ne (by omega)]
            exact k2
          · rw [v5 210 (by omega) (by omega), wI_ne (by omega), hI_wI, if_neg (fun q => e q.2)]
            exact k3
          · rw [v4 i e, hI_wI, if_neg (fun q => e q.2), wI_ne (by omega)]
            exact k4)
      refine ⟨N, h', s0.trans q1, q2, q3, q4, q5, q6, fun a ha => ?_, q8.trans (v6.trans r4)⟩
      rw [q7 a ha, wI_ne (by omega), wI_ne (by omega), v5 a (by omega) (by omega), wI_ne (by omega), wI_ne (by omega), r3 a (by omega)]
    · rw [if_neg z, if_pos rfl] at s0
      have e : ps T t j = t := by omega
      rw [e] at r2
      obtain ⟨N, h', q1, q2, q3, q4, q5, q6, q7, q8⟩ := fin j (nI j) g (by omega) e r2 gK
      exact ⟨N, h', s0.trans q1, q2, q3, q4, q5, q6, fun a ha => by rw [q7 a ha, r3 a (by omega)], q8.trans r4⟩
/-- split -/
theorem m95 (d : Nat) {h : PH} (ht : t ≤ 300) (hT : ∀ k, T k < 256) (h6 : ∀ k, k < t → hI h 206 k = nI (T k)) (h5 : hI h 205 0 = nI t) : ∃ N h', exec (g2 L) (d + 4) 95 [.ref 208] h = some (none, h') ∧ N ≤ 300 ∧ ps T t N = t ∧ TK h' T t N ∧ hI h' 209 N = nI 0 ∧ hI h' 210 N = nI t ∧ (∀ a, ¬ (208 ≤ a ∧ a ≤ 211) → hI h' a = hI h a) ∧ hR h' = hR h := by
  rw [x95, h5, if_neg (by rw [nI_ltN (by omega) (by omega)]; omega)]
  obtain ⟨N, h', q1, q2, q3, q4, q5, q6, q7, q8⟩ := m95_29 (L := L) (d := d) (T := T) ht hT 300 0 0 (wI (wI (wI h 208 6 (nI t)) 208 7 (nI 0)) 208 3 (nI 0)) (by omega) (by omega) (by omega) rfl ⟨fun k hk => by rw [wI_ne (by omega), wI_ne (by omega), wI_ne (by omega)]; exact h6 k hk, by rw [hI_wI, if_neg (by omega), hI_wI, if_neg (by omega), hI_wI, if_pos ⟨rfl, rfl⟩], by rw [hI_wI, if_neg (by omega), hI_wI, if_pos ⟨rfl, rfl⟩], by rw [hI_wI, if_pos ⟨rfl, rfl⟩]⟩ (fun i hi => absurd hi (Nat.not_lt_zero _))
  exact ⟨N, h', q1, q2, q3, q4, q5, q6, fun a ha => by rw [q7 a ha, wI_ne (by omega), wI_ne (by omega), wI_ne (by omega)], q8⟩
end Ssplit
