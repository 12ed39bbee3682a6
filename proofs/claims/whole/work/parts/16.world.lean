-- PART: the world at the law's entry.
def tmS (i : Nat) : Term := .string "HallClock$Tokens" ((kx_S 9).getD i (0, 0, 0)).1
def nfl : List Cond := flatC (Jvm.Cond.and given_1 narrow_1)
theorem tx_all : (List.range 11).all (fun i => decide (Cond.exactly (tmS i) "java/lang/String" ∈ nfl) && (decide (Cond.eq (.field (tmS i) "java/lang/String" "coder" "B") (.int 0) ∈ nfl) && (decide (Cond.arrayOf (.field (tmS i) "java/lang/String" "value" "[B") .byte ∈ nfl) && (decide (Cond.eq (.length (.field (tmS i) "java/lang/String" "value" "[B")) (.int (Int32.ofNat ((kx_byt.map List.length).getD i 0))) ∈ nfl) && ((List.range ((kx_byt.map List.length).getD i 0)).all (fun j => decide (Cond.eq (.elem (.field (tmS i) "java/lang/String" "value" "[B") (.int (Int32.ofNat j))) (.int ((kx_byt.getD i []).getD j 0)) ∈ nfl)) && (List.range 11).all (fun j => Nat.beq i j || (decide (Cond.not (Cond.eq (tmS i) (tmS j)) ∈ nfl) || decide (Cond.not (Cond.eq (tmS j) (tmS i)) ∈ nfl)))))))) = true := by decide +kernel
theorem wt_ok : ([(176, .arrayOver (.object "HallClock$Dial")), (511, .arrayOver (.object "HallClock$Strip")), (329, .arrayOver (.array .int)), (331, .arrayOver (.array .byte)), (960, .laysStatic "java/lang/String" "COMPACT_STRINGS" "Z"), (135, .initialized "java/lang/String"), (976, .laysStatic "jdk/internal/util/Preconditions" "SIOOBE_FORMATTER" "Ljava/util/function/BiFunction;"), (137, .initialized "jdk/internal/util/Preconditions")] : List (Nat × Cond)).all (fun q => decide (lw_tbl[q.1]? = some q.2)) = true := by decide +kernel
theorem wt_in {i : Nat} {q : Cond} (h : lw_tbl[i]? = some q) : q ∈ lw_tbl := List.mem_of_getElem? h
theorem nf_ok : (decide (Cond.eq (.static "java/lang/String" "COMPACT_STRINGS" "Z") (.int 1) ∈ nfl) && decide (Cond.isRef (.static "jdk/internal/util/Preconditions" "SIOOBE_FORMATTER" "Ljava/util/function/BiFunction;") ∈ nfl)) = true := by decide +kernel
theorem nest_ok : kx_nest.all (fun q => decide (q ∈ lw_tbl)) = true := by decide +kernel
theorem strs_ok : (kx_S 9).all (fun q => decide (lw_tbl[q.2.2]? = some (.stringRef "HallClock$Tokens" q.1 (kx_txt.getD q.2.1 ""))) && (Nat.blt q.2.1 11 && Nat.beq ((kx_S 9).getD q.2.1 (0, 0, 0)).1 q.1)) = true := by decide +kernel
theorem wt_get {i : Nat} {q : Cond} (h : (i, q) ∈ ([(176, .arrayOver (.object "HallClock$Dial")), (511, .arrayOver (.object "HallClock$Strip")), (329, .arrayOver (.array .int)), (331, .arrayOver (.array .byte)), (960, .laysStatic "java/lang/String" "COMPACT_STRINGS" "Z"), (135, .initialized "java/lang/String"), (976, .laysStatic "jdk/internal/util/Preconditions" "SIOOBE_FORMATTER" "Ljava/util/function/BiFunction;"), (137, .initialized "jdk/internal/util/Preconditions")] : List (Nat × Cond))) : q ∈ lw_tbl := wt_in (of_decide_eq_true (List.all_eq_true.mp wt_ok _ h))
theorem world_ex {p : Program} {s : State} {m : MethodId} {meth : Method} {c : Code} {b L : Nat} {xs : Nat → Int32} (C0 : lw_At p s m meth c b L xs) : ∃ (w : Wd) (wV : Nat → Nat), wb w = b ∧ wo w = s.heap.size ∧ va_K (wD w) kx_cl (tys w) s ∧ Xt w wV s := by
  obtain ⟨hx, hb, hr, hml, hown, hts, hX, hbl, hlocks, hgv⟩ := id C0
  have htB : ∀ q ∈ TB, q.before #[Value.ref b] s = true := fun q hq => hts q (TB_tbl hq)
  have hn : ∀ q ∈ nfl, q.before #[Value.ref b] s = true := flat_of_before _ hgv
  have hA : ∀ a : Nat, a < s.heap.size → ¬ (fun q : Nat => s.heap.size ≤ q) a := fun a h q => absurd h (Nat.not_lt.mpr q)
  obtain ⟨dq, hdq⟩ := Classical.axiomOfChoice (show ∀ ci : Nat, ∃ q : ClassId × (Nat → Nat), ci < 12 → u_Kn s (kx_R ci) (kx_T ci) (kx_N ci) q.1 q.2 from fun ci => by
    by_cases h : ci < 12
    · obtain ⟨cC, iS, hK⟩ := u_known (C := kx_R ci) (T := kx_T ci) (N := kx_N ci) (n := kx_N ci) htB (kxF_in h) (htB _ (kxO h).1)
      exact ⟨(cC, iS), fun _ => hK⟩
    · exact ⟨(0, fun _ => 0), fun q => absurd q h⟩)
  have prim : ∀ ty : FieldType, Cond.arrayClass ty ∈ TB → (∀ C, ty ≠ .object C) → ∃ cA : ClassId, ArrOfT s cA ty ∧ va_RA s cA ty := by
    intro ty hty hne
    obtain ⟨cA, kA, comp, f1, f2, f3⟩ := Cond.arrayClass_spec (htB _ hty)
    refine ⟨cA, fun n z => ⟨(fun k h => by cases h), kA, f2, comp, f3⟩, ?_⟩
    cases ty with
    | object C => exact absurd rfl (hne C)
    | _ => exact f1
  have obj : ∀ C : String, Cond.arrayOver (.object C) ∈ lw_tbl → ∃ cA : ClassId, ArrOfT s cA (.object C) ∧ va_RA s cA (.object C) := by
    intro C hC
    obtain ⟨comp, cA, kA, f1, -, f2, f3, f4⟩ := Cond.arrayOver_spec (hts _ hC)
    exact ⟨cA, fun n z => ⟨(fun k h => by cases h), kA, f2, comp, f3⟩, kA, comp, f2, f3, f1, f4⟩
  have arr : ∀ t : FieldType, Cond.arrayOver (.array t) ∈ lw_tbl → ∃ cA : ClassId, ArrOfT s cA (.array t) ∧ va_RA s cA (.array t) := by
    intro t ht
    obtain ⟨comp, cA, kA, f1, f2, f3, f4⟩ := AOA.of (hts _ ht)
    exact ⟨cA, fun n z => ⟨(fun k h => by cases h), kA, f2, comp, f3⟩, f4⟩
  obtain ⟨aq, haq⟩ := Classical.axiomOfChoice (show ∀ k : Nat, ∃ cA : ClassId, k < 9 → ArrOfT s cA (kx_at k) ∧ va_RA s cA (kx_at k) from fun k => by
    match k with
    | 0 => obtain ⟨cA, h⟩ := prim .int (ac_in (q := (173, .int)) (by simp [kx_ac])) (fun C h => by cases h); exact ⟨cA, fun _ => h⟩
    | 1 => obtain ⟨cA, h⟩ := prim .int (ac_in (q := (173, .int)) (by simp [kx_ac])) (fun C h => by cases h); exact ⟨cA, fun _ => h⟩
    | 2 => obtain ⟨cA, h⟩ := prim .boolean (ac_in (q := (174, .boolean)) (by simp [kx_ac])) (fun C h => by cases h); exact ⟨cA, fun _ => h⟩
    | 3 => obtain ⟨cA, h⟩ := prim .byte (ac_in (q := (385, .byte)) (by simp [kx_ac])) (fun C h => by cases h); exact ⟨cA, fun _ => h⟩
    | 4 => obtain ⟨cA, h⟩ := prim .long (ac_in (q := (1402, .long)) (by simp [kx_ac])) (fun C h => by cases h); exact ⟨cA, fun _ => h⟩
    | 5 => obtain ⟨cA, h⟩ := obj "HallClock$Dial" (wt_get (i := 176) (by simp)); exact ⟨cA, fun _ => h⟩
    | 6 => obtain ⟨cA, h⟩ := obj "HallClock$Strip" (wt_get (i := 511) (by simp)); exact ⟨cA, fun _ => h⟩
    | 7 => obtain ⟨cA, h⟩ := arr .int (wt_get (i := 329) (by simp)); exact ⟨cA, fun _ => h⟩
    | 8 => obtain ⟨cA, h⟩ := arr .byte (wt_get (i := 331) (by simp)); exact ⟨cA, fun _ => h⟩
    | k + 9 => exact ⟨0, fun h => by omega⟩)
  have htx : ∀ i, i < 11 → _ := fun i hi => List.all_eq_true.mp tx_all i (List.mem_range.mpr hi)
  simp only [Bool.and_eq_true, decide_eq_true_eq] at htx
  obtain ⟨adK, adV, hSS, hSe⟩ := vk_Sof (N := 11) (tm := tmS) (len := kx_byt.map List.length) (byt := kx_byt) (A := fun q : Nat => s.heap.size ≤ q) (args := #[Value.ref b]) (s := s) (fun i hi => by rw [lenJ]; have := slen_lt i; omega) (fun i hi => hn _ (htx i hi).1) (fun i hi => hn _ (htx i hi).2.1) (fun i hi => hn _ (htx i hi).2.2.1) (fun i hi => hn _ (htx i hi).2.2.2.1) (fun i hi j hj => hn _ (of_decide_eq_true (List.all_eq_true.mp (htx i hi).2.2.2.2.1 j (List.mem_range.mpr hj)))) (fun i j hi hj hij => by
    have := List.all_eq_true.mp (htx i hi).2.2.2.2.2 j (List.mem_range.mpr hj)
    simp only [Bool.or_eq_true, decide_eq_true_eq] at this
    rcases this with q | q | q
    · exact absurd (Nat.eq_of_beq_eq_true q) hij
    · exact Or.inl (hn _ q)
    · exact Or.inr (hn _ q)) hA
  have hnf := nf_ok
  rw [Bool.and_eq_true] at hnf
  refine ⟨(b, s.heap.size, (fun ci => (dq ci).1, fun ci => (dq ci).2), aq, adK), adV, rfl, rfl, ⟨fun ci q hq => ?_, fun k q hq => ?_⟩, ?_⟩
  · have hc : ci < 12 := by
      have := (List.getElem?_eq_some_iff.mp hq).1
      simpa [kx_cl] using this
    rw [kx_cl_get hc] at hq
    cases hq
    exact hdq ci hc
  · have hk : k < 9 := by
      have := (List.getElem?_eq_some_iff.mp hq).1
      simpa [tys] using this
    rw [tys_get hk] at hq
    cases hq
    exact haq k hk
  · refine ⟨fun q hq => ?_, va_AO.of (hts _ (wt_get (i := 176) (by simp))), va_AO.of (hts _ (wt_get (i := 511) (by simp))), AOA.of (hts _ (wt_get (i := 329) (by simp))), AOA.of (hts _ (wt_get (i := 331) (by simp))), fun q hq => ?_, hSS, ?_, ?_⟩
    · have := of_decide_eq_true (List.all_eq_true.mp nest_ok q hq)
      obtain ⟨a, i, x, g, rfl⟩ := nest_form hq
      exact va_Nw.of rfl (hts _ this)
    · have := List.all_eq_true.mp strs_ok q hq
      simp only [Bool.and_eq_true, decide_eq_true_eq] at this
      obtain ⟨h1, h2, h3⟩ := this
      have h4 := hSe q.2.1 (Nat.le_of_ble_eq_true h2)
      unfold tmS at h4
      rw [Nat.eq_of_beq_eq_true h3] at h4
      exact vk_R.of (A := #[Value.ref b]) (hts _ (wt_in h1)) h4
    · exact va_Zof (args := #[Value.ref b]) (hts _ (wt_get (i := 960) (by simp))) (hts _ (wt_get (i := 135) (by simp))) (va_eqt (hn _ (of_decide_eq_true hnf.1))) hA
    · exact va_Zqof (args := #[Value.ref b]) (hts _ (wt_get (i := 976) (by simp))) (hts _ (wt_get (i := 137) (by simp))) (hn _ (of_decide_eq_true hnf.2)) hA
