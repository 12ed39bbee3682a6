-- PART: what the members of texts answer.
theorem rem_eq64 (x y : Int64) : x - x / y * y = x % y := by
  apply Int64.toInt_inj.mp
  have a := (x % y).toInt_lt
  have b := (x % y).le_toInt
  rw [Int64.toInt_sub, Int64.toInt_mul, Int64.toInt_div, Int.bmod_mul_bmod, Int.sub_bmod_bmod, Int.mul_comm, ← Int.tmod_def, ← Int64.toInt_mod]
  exact Int.bmod_eq_of_le (by omega) (by omega)
theorem shr0 (x : Int32) : x >>> ((0 : Int32) &&& 31) = x := by
  have e : ((0 : Int32) &&& 31) = 0 := rfl
  rw [e]
  simp
theorem lenJ {i : Nat} : (kx_byt.map List.length).getD i 0 = slen i := by
  unfold slen
  rw [List.getD_eq_getElem?_getD, List.getElem?_map, List.getD_eq_getElem?_getD]
  cases kx_byt[i]? <;> rfl
theorem byt_all : kx_byt.all (fun l => Nat.blt l.length 100 && l.all (fun b => decide (0 ≤ b ∧ b ≤ 127))) = true := by decide +kernel
theorem slen_lt (i : Nat) : slen i < 100 := by
  unfold slen
  rw [List.getD_eq_getElem?_getD]
  cases h : kx_byt[i]? with
  | none => simp
  | some q =>
    have := List.all_eq_true.mp byt_all q (List.mem_of_getElem? h)
    rw [Bool.and_eq_true] at this
    exact Nat.le_of_ble_eq_true this.1
theorem schr_in (i k : Nat) : 0 ≤ schr i k ∧ schr i k ≤ 127 := by
  unfold schr
  rw [List.getD_eq_getElem?_getD, List.getD_eq_getElem?_getD]
  cases h : kx_byt[i]? with
  | none => simp only [Option.getD_none, List.getElem?_nil]; decide
  | some q =>
    have := List.all_eq_true.mp byt_all q (List.mem_of_getElem? h)
    rw [Bool.and_eq_true] at this
    simp only [Option.getD_some]
    cases h2 : q[k]? with
    | none => simp only [Option.getD_none]; decide
    | some b =>
      have h3 := List.all_eq_true.mp this.2 b (List.mem_of_getElem? h2)
      simpa using h3
theorem in127 {x : Int32} (h : 0 ≤ x ∧ x ≤ 127) : ∃ n : Nat, n < 128 ∧ x = Int32.ofNat n := by
  have h1 := Int32.le_iff_toInt_le.mp h.1
  have h2 := Int32.le_iff_toInt_le.mp h.2
  have e0 : (0 : Int32).toInt = 0 := rfl
  have e1 : (127 : Int32).toInt = 127 := rfl
  rw [e0] at h1
  rw [e1] at h2
  refine ⟨x.toInt.toNat, by omega, Int32.toInt_inj.mp ?_⟩
  rw [show Int32.ofNat x.toInt.toNat = nI x.toInt.toNat from rfl, nI_toInt (by omega)]
  omega
theorem ch_all : ∀ n, n < 128 → ((Int32.ofNat n &&& 255).toUInt32 % 65536).toInt32 = Int32.ofNat n ∧ narrow .char (.int (Int32.ofNat n)) = .int (Int32.ofNat n) := by decide +kernel
theorem ch_eq {x : Int32} (h : 0 ≤ x ∧ x ≤ 127) : ((x &&& 255).toUInt32 % 65536).toInt32 = x ∧ narrow .char (.int x) = .int x := by
  obtain ⟨n, hn, rfl⟩ := in127 h
  exact ch_all n hn
section Mem
variable {l : Launch} {w : Wd} {wV : Nat → Nat}
theorem met_coder {i : Nat} (hi : i < kx_byt.length) : Met l ⟨"java/lang/String", "coder", "()B"⟩ (wsY ⟨"java/lang/String", "coder", "()B"⟩ prog_17_method_152_code 1 (some .byte)) (rmJ 0 0) (Pj w wV [.ref (wS w i)]) (Qj (some (.int 0))) 0 0 (fun _ => False) := by
  refine met_j l (List.all_eq_true.mp pf_all _ (by simp)) (by show 1 ≤ 1; decide) ?_
  rintro p e s m below meth c ls ⟨hx, hb, hml, hown, hts, hXt⟩ hr hlk hl
  have hS : va_S (wAd w) s.heap s.heap ([] : List Loc) := va_S.rf
  refine va_gets hx hb hXt.2.2.2.2.2.2.2.1 hS hown (hts _ (tw_in 3 rfl)) (fun x q => q) jd_co0 ?_
  refine lv_if_eq hx hb jd_co3 (tgt := 13) (by decide) (fun q => absurd q (by decide)) (fun q => ?_)
  refine lv_aload_n hx hb jd_co6 rfl (lv_at hl 0 rfl) ?_
  refine vk_getf hx hb (hXt.2.2.2.2.2.2.1.1 i hi).2.1 hS hown (hts _ (tw_in 5 rfl)) (fun x q => q) jd_co7 ?_
  refine lv_goto hx hb jd_co10 (tgt := 14) (by decide) ?_
  exact W.zret (ty := .byte) hx hb hr rfl (fun t ht _ => j_end ht) (fun q hq => by cases hq) jd_co14 hlk
theorem met_len {i : Nat} (hi : i < kx_byt.length) : Met l ⟨"java/lang/String", "length", "()I"⟩ (wsY ⟨"java/lang/String", "length", "()I"⟩ prog_17_method_54_code 1 (some .int)) (rmJ 1 30) (Pj w wV [.ref (wS w i)]) (Qj (some (.int (Int32.ofNat (slen i))))) 0 0 (fun _ => False) := by
  refine met_j l (List.all_eq_true.mp pf_all _ (by simp)) (by show 1 ≤ 1; decide) ?_
  rintro p e s m below meth c ls ⟨hx, hb, hml, hown, hts, hXt⟩ hr hlk hl
  have hS : va_S (wAd w) s.heap s.heap ([] : List Loc) := va_S.rf
  have hQ := hXt.2.2.2.2.2.2.1.1 i hi
  refine lv_aload_n hx hb jd_le0 rfl (lv_at hl 0 rfl) ?_
  refine vk_getf hx hb hQ.2.2.1 hS hown (hts _ (tw_in 4 rfl)) (fun x q => q) jd_le1 ?_
  refine va_tlen (v := Int32.ofNat (slen i)) hx hb hQ.2.2.2 hS (by rw [lenJ]) jd_le4 ?_
  refine lv_aload_n hx hb jd_le5 rfl (lv_at hl 0 rfl) ?_
  refine j_virt (as := []) (yn := 1) (rm := rmJ 0 0) hx hb (hml.trans hl.1.symm) hown hts hXt hS hi (met_coder hi) ⟨rfl, rfl⟩ (tw_in 25 rfl) (tw_in 18 rfl) (tw_in 26 rfl) (tw_in 23 rfl) (tw_in 24 rfl) (by decide) ⟨by decide, by decide⟩ (by show 1 ≤ 8; decide) jd_le6 ⟨Nat.zero_le _, Nat.zero_le _⟩ ?_
  refine lv_ishr hx hb jd_le9 ?_
  rw [shr0]
  exact W.iret hx hb hr (fun t ht _ => j_end ht) (fun q hq => by cases hq) jd_le10 hlk
theorem met_lat {i : Nat} (hi : i < kx_byt.length) : Met l ⟨"java/lang/String", "isLatin1", "()Z"⟩ (wsY ⟨"java/lang/String", "isLatin1", "()Z"⟩ prog_17_method_154_code 1 (some .boolean)) (rmJ 0 0) (Pj w wV [.ref (wS w i)]) (Qj (some (.int 1))) 0 0 (fun _ => False) := by
  refine met_j l (List.all_eq_true.mp pf_all _ (by simp)) (by show 1 ≤ 1; decide) ?_
  rintro p e s m below meth c ls ⟨hx, hb, hml, hown, hts, hXt⟩ hr hlk hl
  have hS : va_S (wAd w) s.heap s.heap ([] : List Loc) := va_S.rf
  refine va_gets hx hb hXt.2.2.2.2.2.2.2.1 hS hown (hts _ (tw_in 3 rfl)) (fun x q => q) jd_la0 ?_
  refine lv_if_eq hx hb jd_la3 (tgt := 17) (by decide) (fun q => absurd q (by decide)) (fun q => ?_)
  refine lv_aload_n hx hb jd_la6 rfl (lv_at hl 0 rfl) ?_
  refine vk_getf hx hb (hXt.2.2.2.2.2.2.1.1 i hi).2.1 hS hown (hts _ (tw_in 5 rfl)) (fun x q => q) jd_la7 ?_
  refine lv_if_ne hx hb jd_la10 (tgt := 17) (by decide) (fun q => absurd rfl q) (fun q => ?_)
  refine lv_iconst (v := 1) hx hb jd_la13 rfl ?_
  refine lv_goto hx hb jd_la14 (tgt := 18) (by decide) ?_
  exact W.zret (ty := .boolean) hx hb hr rfl (fun t ht _ => j_end ht) (fun q hq => by cases hq) jd_la18 hlk
theorem met_pre {v : Value} (hv : v = .null ∨ ∃ a, v = .ref a) {k n : Int32} (h0 : ¬ k < 0) (h1 : k < n) : Met l ⟨"jdk/internal/util/Preconditions", "checkIndex", "(IILjava/util/function/BiFunction;)I"⟩ (wsY ⟨"jdk/internal/util/Preconditions", "checkIndex", "(IILjava/util/function/BiFunction;)I"⟩ prog_22_method_11_code 3 (some .int)) (rmJ 0 0) (Pj w wV [.int k, .int n, v]) (Qj (some (.int k))) 0 0 (fun _ => False) := by
  refine met_j l (List.all_eq_true.mp pf_all _ (by simp)) ?_ ?_
  · rcases hv with rfl | ⟨a, rfl⟩
    · show 3 ≤ 3
      decide
    · show 3 ≤ 3
      decide
  · rintro p e s m below meth c ls ⟨hx, hb, hml, hown, hts, hXt⟩ hr hlk hl
    refine lv_iload_n hx hb jd_pi0 rfl (lv_at hl 0 rfl) ?_
    refine lv_if_lt hx hb jd_pi1 (tgt := 9) (by decide) (fun q => absurd q h0) (fun q => ?_)
    refine lv_iload_n hx hb jd_pi4 rfl (lv_at hl 0 rfl) ?_
    refine lv_iload_n hx hb jd_pi5 rfl (lv_at hl 1 rfl) ?_
    refine lv_icmp_lt hx hb jd_pi6 (tgt := 16) (by decide) (fun q => ?_) (fun q => absurd h1 q)
    refine lv_iload_n hx hb jd_pi16 rfl (lv_at hl 0 rfl) ?_
    exact W.iret hx hb hr (fun t ht _ => j_end ht) (fun q hq => by cases hq) jd_pi17 hlk
theorem met_chk {k n : Int32} (h0 : ¬ k < 0) (h1 : k < n) : Met l ⟨"java/lang/String", "checkIndex", "(II)V"⟩ (wsY ⟨"java/lang/String", "checkIndex", "(II)V"⟩ prog_17_method_155_code 2 none) (rmJ 1 30) (Pj w wV [.int k, .int n]) (Qj none) 0 0 (fun _ => False) := by
  refine met_j l (List.all_eq_true.mp pf_all _ (by simp)) (by show 2 ≤ 2; decide) ?_
  rintro p e s m below meth c ls ⟨hx, hb, hml, hown, hts, hXt⟩ hr hlk hl
  have hS : va_S (wAd w) s.heap s.heap ([] : List Loc) := va_S.rf
  refine lv_iload_n hx hb jd_ci0 rfl (lv_at hl 0 rfl) ?_
  refine lv_iload_n hx hb jd_ci1 rfl (lv_at hl 1 rfl) ?_
  have go : ∀ v : Value, (v = .null ∨ ∃ a, v = .ref a) → va_Z "jdk/internal/util/Preconditions" "SIOOBE_FORMATTER" "Ljava/util/function/BiFunction;" v (wAd w) s s.heap → W p l e (rmJ 1 30) s m [Value.int k, .int n].toArray below meth c s.heap [] 0 0 (MQ below (Qj none) [Value.int k, .int n].toArray s 0 0 (fun _ => False)) (F0 m 2 ls [.int n, .int k]) := by
    intro v hv hz
    refine va_gets hx hb hz hS hown (hts _ (tw_in 6 rfl)) (fun x q => q) jd_ci2 ?_
    refine j_stat (n := 0) (as := [.int k, .int n, v]) (rest := []) (yn := 3) (rm := rmJ 0 0) hx hb (hml.trans hl.1.symm) hown hts hXt (fun q _ _ => rfl) (met_pre hv h0 h1) ⟨rfl, rfl⟩ (tw_in 9 rfl) (tw_in 10 rfl) (tw_in 7 rfl) (tw_in 8 rfl) ⟨by decide, by decide, show _ = some 3 by decide +kernel⟩ ⟨by decide, by decide⟩ (by show 0 ≤ 8; decide) jd_ci5 ⟨Nat.zero_le _, Nat.zero_le _⟩ ?_
    refine lv_pop (va := .int k) hx hb jd_ci8 rfl ?_
    exact W.vret hx hb hr (fun t ht _ => j_end ht) (fun q hq => by cases hq) jd_ci9 hlk
  rcases hXt.2.2.2.2.2.2.2.2 with q | ⟨t, q⟩
  · exact go _ (Or.inl rfl) q
  · exact go _ (Or.inr ⟨_, rfl⟩) q
theorem met_lch {i : Nat} (hi : i < kx_byt.length) {k : Int32} (hk : inB k (slen i) = true) : Met l ⟨"java/lang/StringLatin1", "charAt", "([BI)C"⟩ (wsY ⟨"java/lang/StringLatin1", "charAt", "([BI)C"⟩ prog_18_method_2_code 2 (some .char)) (rmJ 2 60) (Pj w wV [.ref (wV i), .int k]) (Qj (some (.int (schr i (ix k))))) 0 0 (fun _ => False) := by
  refine met_j l (List.all_eq_true.mp pf_all _ (by simp)) (by show 2 ≤ 2; decide) ?_
  rintro p e s m below meth c ls ⟨hx, hb, hml, hown, hts, hXt⟩ hr hlk hl
  have hS : va_S (wAd w) s.heap s.heap ([] : List Loc) := va_S.rf
  have hQ := hXt.2.2.2.2.2.2.1.1 i hi
  obtain ⟨hin, hix⟩ := ix_in hk (by have := slen_lt i; omega)
  have hl1 := slen_lt i
  have h0 : ¬ k < 0 := fun q => hin (Or.inl q)
  have hlt : ix k < slen i := Nat.le_of_ble_eq_true hk
  have hkn : k = Int32.ofNat (ix k) := by
    apply Int32.toInt_inj.mp
    rw [show Int32.ofNat (ix k) = nI (ix k) from rfl, nI_toInt (by omega)]
    have : k.toInt.toNat = ix k := hix
    have h2 : (0 : Int) ≤ k.toInt := by
      have := Int32.not_lt.mp h0
      simpa using Int32.le_iff_toInt_le.mp this
    omega
  have h1 : k < Int32.ofNat (slen i) := by
    rw [hkn]
    exact nI_lt hlt (by omega)
  refine lv_iload_n hx hb jd_lc0 rfl (lv_at hl 1 rfl) ?_
  refine lv_aload_n hx hb jd_lc1 rfl (lv_at hl 0 rfl) ?_
  refine va_tlen (v := Int32.ofNat (slen i)) hx hb hQ.2.2.2 hS (by rw [lenJ]) jd_lc2 ?_
  refine j_stat (n := 0) (as := [.int k, .int (Int32.ofNat (slen i))]) (rest := []) (yn := 2) (rm := rmJ 1 30) hx hb (hml.trans hl.1.symm) hown hts hXt (fun q _ _ => rfl) (met_chk h0 h1) ⟨rfl, rfl⟩ (tw_in 17 rfl) (tw_in 18 rfl) (tw_in 15 rfl) (tw_in 16 rfl) ⟨by decide, by decide, show _ = some 2 by decide +kernel⟩ ⟨by decide, by decide⟩ (by show 0 ≤ 8; decide) jd_lc3 ⟨Nat.zero_le _, Nat.zero_le _⟩ ?_
  refine lv_aload_n hx hb jd_lc6 rfl (lv_at hl 0 rfl) ?_
  refine lv_iload_n hx hb jd_lc7 rfl (lv_at hl 1 rfl) ?_
  refine va_tb (v := .int (schr i (ix k))) hx hb hQ.2.2.2 hS (by rw [lenJ]; exact hin) (by rw [hix]; rfl) jd_lc8 ?_
  refine lv_sipush (v := 255) hx hb jd_lc9 rfl ?_
  refine lv_iand hx hb jd_lc12 ?_
  refine lv_i2c hx hb jd_lc13 (ch_eq (schr_in i (ix k))).1 ?_
  exact W.zret (ty := .char) hx hb hr (ch_eq (schr_in i (ix k))).2 (fun t ht _ => j_end ht) (fun q hq => by cases hq) jd_lc14 hlk
theorem met_chr {i : Nat} (hi : i < kx_byt.length) {k : Int32} (hk : inB k (slen i) = true) : Met l ⟨"java/lang/String", "charAt", "(I)C"⟩ (wsY ⟨"java/lang/String", "charAt", "(I)C"⟩ prog_17_method_56_code 2 (some .char)) (rmJ 3 90) (Pj w wV [.ref (wS w i), .int k]) (Qj (some (.int (schr i (ix k))))) 0 0 (fun _ => False) := by
  refine met_j l (List.all_eq_true.mp pf_all _ (by simp)) (by show 2 ≤ 2; decide) ?_
  rintro p e s m below meth c ls ⟨hx, hb, hml, hown, hts, hXt⟩ hr hlk hl
  have hS : va_S (wAd w) s.heap s.heap ([] : List Loc) := va_S.rf
  have hQ := hXt.2.2.2.2.2.2.1.1 i hi
  refine lv_aload_n hx hb jd_ca0 rfl (lv_at hl 0 rfl) ?_
  refine j_virt (as := []) (rest := []) (yn := 1) (rm := rmJ 0 0) hx hb (hml.trans hl.1.symm) hown hts hXt hS hi (met_lat hi) ⟨rfl, rfl⟩ (tw_in 21 rfl) (tw_in 18 rfl) (tw_in 22 rfl) (tw_in 19 rfl) (tw_in 20 rfl) (by decide) ⟨by decide, by decide⟩ (by show 0 ≤ 8; decide) jd_ca1 ⟨Nat.zero_le _, Nat.zero_le _⟩ ?_
  refine lv_if_eq hx hb jd_ca4 (tgt := 16) (by decide) (fun q => absurd q (by decide)) (fun q => ?_)
  refine lv_aload_n hx hb jd_ca7 rfl (lv_at hl 0 rfl) ?_
  refine vk_getf hx hb hQ.2.2.1 hS hown (hts _ (tw_in 4 rfl)) (fun x q => q) jd_ca8 ?_
  refine lv_iload_n hx hb jd_ca11 rfl (lv_at hl 1 rfl) ?_
  refine j_stat (n := 0) (as := [.ref (wV i), .int k]) (rest := []) (yn := 2) (rm := rmJ 2 60) hx hb (hml.trans hl.1.symm) hown hts hXt (fun q _ _ => rfl) (met_lch hi hk) ⟨rfl, rfl⟩ (tw_in 12 rfl) (tw_in 13 rfl) (tw_in 14 rfl) (tw_in 11 rfl) ⟨by decide, by decide, show _ = some 2 by decide +kernel⟩ ⟨by decide, by decide⟩ (by show 0 ≤ 8; decide) jd_ca12 ⟨Nat.zero_le _, Nat.zero_le _⟩ ?_
  exact W.zret (ty := .char) hx hb hr (ch_eq (schr_in i (ix k))).2 (fun t ht _ => j_end ht) (fun q hq => by cases hq) jd_ca15 hlk
end Mem
