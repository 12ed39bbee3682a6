-- PART: what the members answer.
theorem rem_eq (x y : Int32) : x - x / y * y = x % y := by
  apply Int32.toInt_inj.mp
  rw [Int32.toInt_sub, Int32.toInt_mul, Int32.toInt_mod, Int32.toInt_div]
  have e : (x.toInt - ((x.toInt.tdiv y.toInt).bmod (2 ^ 32) * y.toInt).bmod (2 ^ 32)).bmod (2 ^ 32) = (x.toInt - x.toInt.tdiv y.toInt * y.toInt).bmod (2 ^ 32) := by
    rw [Int.sub_bmod_bmod, Int.sub_bmod, Int.bmod_mul_bmod, ← Int.sub_bmod]
  rw [e]
  have h : x.toInt - x.toInt.tdiv y.toInt * y.toInt = x.toInt.tmod y.toInt := by
    have := Int.tmod_add_mul_tdiv x.toInt y.toInt
    rw [Int.mul_comm] at this
    omega
  rw [h]
  have e2 : (x.toInt.tmod y.toInt) = (x % y).toInt := (Int32.toInt_mod x y).symm
  rw [e2]
  exact Int.bmod_eq_of_le (by have := Int32.le_toInt (x % y); omega) (by have := Int32.toInt_lt (x % y); omega)
def tw : List (Nat × Cond) := [(689, .code ⟨"java/lang/Math", "floorMod", "(II)I"⟩ prog_16_method_50_code 3 (some .int)), (688, .static ⟨"java/lang/Math", "floorMod", "(II)I"⟩), (131, .initialized "java/lang/Math"),
  (959, .fieldLink "java/lang/String" 38 "java/lang/String" "COMPACT_STRINGS" "Z"), (1838, .fieldLink "java/lang/String" 9 "java/lang/String" "value" "[B"), (1839, .fieldLink "java/lang/String" 15 "java/lang/String" "coder" "B"), (975, .fieldLink "java/lang/String" 1053 "jdk/internal/util/Preconditions" "SIOOBE_FORMATTER" "Ljava/util/function/BiFunction;"),
  (977, .methodLink "java/lang/String" 1059 ⟨"jdk/internal/util/Preconditions", "checkIndex", "(IILjava/util/function/BiFunction;)I"⟩), (978, .static ⟨"jdk/internal/util/Preconditions", "checkIndex", "(IILjava/util/function/BiFunction;)I"⟩), (979, .code ⟨"jdk/internal/util/Preconditions", "checkIndex", "(IILjava/util/function/BiFunction;)I"⟩ prog_22_method_11_code 3 (some .int)), (137, .initialized "jdk/internal/util/Preconditions"),
  (970, .static ⟨"java/lang/StringLatin1", "charAt", "([BI)C"⟩), (971, .code ⟨"java/lang/StringLatin1", "charAt", "([BI)C"⟩ prog_18_method_2_code 2 (some .char)), (136, .initialized "java/lang/StringLatin1"), (969, .methodLink "java/lang/String" 495 ⟨"java/lang/StringLatin1", "charAt", "([BI)C"⟩),
  (972, .methodLink "java/lang/StringLatin1" 9 ⟨"java/lang/String", "checkIndex", "(II)V"⟩), (973, .static ⟨"java/lang/String", "checkIndex", "(II)V"⟩), (974, .code ⟨"java/lang/String", "checkIndex", "(II)V"⟩ prog_17_method_155_code 2 none), (135, .initialized "java/lang/String"),
  (966, .instanceMethod ⟨"java/lang/String", "isLatin1", "()Z"⟩), (967, .selects "java/lang/String" ⟨"java/lang/String", "isLatin1", "()Z"⟩ ⟨"java/lang/String", "isLatin1", "()Z"⟩), (968, .code ⟨"java/lang/String", "isLatin1", "()Z"⟩ prog_17_method_154_code 1 (some .boolean)), (965, .methodLink "java/lang/String" 492 ⟨"java/lang/String", "isLatin1", "()Z"⟩),
  (956, .instanceMethod ⟨"java/lang/String", "coder", "()B"⟩), (957, .selects "java/lang/String" ⟨"java/lang/String", "coder", "()B"⟩ ⟨"java/lang/String", "coder", "()B"⟩), (958, .code ⟨"java/lang/String", "coder", "()B"⟩ prog_17_method_152_code 1 (some .byte)), (955, .methodLink "java/lang/String" 335 ⟨"java/lang/String", "coder", "()B"⟩),
  (952, .instanceMethod ⟨"java/lang/String", "length", "()I"⟩), (953, .selects "java/lang/String" ⟨"java/lang/String", "length", "()I"⟩ ⟨"java/lang/String", "length", "()I"⟩), (954, .code ⟨"java/lang/String", "length", "()I"⟩ prog_17_method_54_code 1 (some .int)),
  (962, .instanceMethod ⟨"java/lang/String", "charAt", "(I)C"⟩), (963, .selects "java/lang/String" ⟨"java/lang/String", "charAt", "(I)C"⟩ ⟨"java/lang/String", "charAt", "(I)C"⟩), (964, .code ⟨"java/lang/String", "charAt", "(I)C"⟩ prog_17_method_56_code 2 (some .char)),
  (802, .static arraycopyName), (803, .native arraycopyName), (134, .initialized "java/lang/System"),
  (764, .static Lib.Math.max.name), (765, .code Lib.Math.max.name Lib.Math.max.code 2 (some .int)), (737, .static Lib.Math.min.name), (738, .code Lib.Math.min.name Lib.Math.min.code 2 (some .int)),
  (1142, .static Lib.MathLoose.max_long.x), (1143, .code Lib.MathLoose.max_long.x Lib.MathLoose.max_long.code 4 (some .long)), (1139, .static Lib.MathLoose.min_long.x), (1140, .code Lib.MathLoose.min_long.x Lib.MathLoose.min_long.code 4 (some .long))]
theorem tw_ok : tw.all (fun q => isW q.1 q.2) = true := by decide +kernel
theorem tw_in (k : Nat) {i : Nat} {q : Cond} (h : tw[k]? = some (i, q)) : q ∈ TB := isW_in (List.all_eq_true.mp tw_ok (i, q) (List.mem_of_getElem? h))
theorem pf_all : ([⟨"java/lang/Math", "floorMod", "(II)I"⟩, ⟨"jdk/internal/util/Preconditions", "checkIndex", "(IILjava/util/function/BiFunction;)I"⟩, ⟨"java/lang/StringLatin1", "charAt", "([BI)C"⟩, ⟨"java/lang/String", "checkIndex", "(II)V"⟩, ⟨"java/lang/String", "isLatin1", "()Z"⟩, ⟨"java/lang/String", "coder", "()B"⟩, ⟨"java/lang/String", "length", "()I"⟩, ⟨"java/lang/String", "charAt", "(I)C"⟩] : List MethodName).all plainFor = true := by decide +kernel
section Mem
variable {l : Launch} {w : Wd} {wV : Nat → Nat}
def rmJ (f lo : Nat) : Room := { frames := f, cells := 0, slots := 0, locals := lo }
theorem met_fmod {x y : Int32} (hy : ¬ y = 0) : Met l ⟨"java/lang/Math", "floorMod", "(II)I"⟩ (wsY ⟨"java/lang/Math", "floorMod", "(II)I"⟩ prog_16_method_50_code 3 (some .int)) (rmJ 0 0) (Pj w wV [.int x, .int y]) (Qj (some (.int (fmod x y)))) 0 0 (fun _ => False) := by
  refine met_j l (List.all_eq_true.mp pf_all _ (by simp)) (by show 2 ≤ 3; decide) ?_
  rintro p e s m below meth c ls ⟨hx, hb, hml, hown, hts, hXt⟩ hr hlk hl
  refine lv_iload_n hx hb jd_fm0 rfl (lv_at hl 0 rfl) ?_
  refine lv_iload_n hx hb jd_fm1 rfl (lv_at hl 1 rfl) ?_
  refine lv_irem hx hb jd_fm2 hy ?_
  rw [rem_eq]
  refine lv_istore_n hx hb jd_fm3 rfl hl (by decide) rfl (fun ls' hl' => ?_)
  refine lv_iload_n hx hb jd_fm4 rfl (lv_at hl' 1 rfl) ?_
  refine lv_iload_n hx hb jd_fm5 rfl (lv_at hl' 2 rfl) ?_
  refine lv_ixor hx hb jd_fm6 ?_
  have ret18 : fmod x y = x % y → W p l e (rmJ 0 0) s m [Value.int x, .int y].toArray below meth c s.heap [] 0 0 (MQ below (Qj (some (.int (fmod x y)))) [Value.int x, .int y].toArray s 0 0 (fun _ => False)) (F0 m 18 ls' []) := by
    intro e1
    rw [e1]
    refine lv_iload_n hx hb jd_fm18 rfl (lv_at hl' 0 rfl) ?_
    exact W.iret hx hb hr (fun t ht _ => j_end ht) (fun q hq => by cases hq) jd_fm19 hlk
  refine lv_if_ge hx hb jd_fm7 (tgt := 18) (by decide) (fun q => ret18 (by unfold fmod; rw [if_pos q])) (fun q => ?_)
  refine lv_iload_n hx hb jd_fm10 rfl (lv_at hl' 0 rfl) ?_
  refine lv_if_eq hx hb jd_fm11 (tgt := 18) (by decide) (fun q2 => ret18 (by unfold fmod; rw [if_neg q, if_pos q2])) (fun q2 => ?_)
  refine lv_iload_n hx hb jd_fm14 rfl (lv_at hl' 0 rfl) ?_
  refine lv_iload_n hx hb jd_fm15 rfl (lv_at hl' 2 rfl) ?_
  refine lv_iadd hx hb jd_fm16 ?_
  rw [show x % y + y = fmod x y by unfold fmod; rw [if_neg q, if_neg q2]]
  exact W.iret hx hb hr (fun t ht _ => j_end ht) (fun q hq => by cases hq) jd_fm17 hlk
end Mem
