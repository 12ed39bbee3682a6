-- PART: no method writes into the script.
def R1 (h h1 : PH) : Prop := hI h1 1 = hI h 1
theorem R1.rf {h : PH} : R1 h h := rfl
theorem R1.tr {a b c : PH} (h1 : R1 a b) (h2 : R1 b c) : R1 a c := h2.trans h1
theorem okW_1 {G : PG} {h : PH} {a k : Nat} (h1 : okW G h a k = true) : 1 ≠ a := by
  unfold okW at h1
  rw [Bool.and_eq_true, Bool.and_eq_true] at h1
  have := Nat.le_of_ble_eq_true h1.2.1
  omega
theorem R1.wI {G : PG} {h : PH} {a k j : Nat} {x : Int32} (h1 : okW G h a k = true) : R1 h (wI h a j x) := wI_ne (okW_1 h1)
theorem R1.wJ {h : PH} {a k : Nat} {x : Int64} : R1 h (wJ h a k x) := rfl
theorem R1.wR {h : PH} {a k x : Nat} : R1 h (wR h a k x) := rfl
theorem R1.cpy {G : PG} {h : PH} {a sp b dp n k : Nat} (h1 : okW G h b k = true) : R1 h (cpy h a sp b dp n) := cpy_ne (okW_1 h1)
set_option maxHeartbeats 8000000 in
theorem stepI_R1 {G : PG} (hp : G.2.1 = true) {call : Nat → List Value → PH → PR} (hC : ∀ m as h r h1, call m as h = some (r, h1) → R1 h h1) {own : Nat} {ini : Bool} {ret : Option FieldType} {i : Instr} {len pc : Nat} {l st : List Value} {h h1 : PH} {r : Option Value} (hs : stepI G call own ini ret i len pc l st h kd9 = some (r, h1)) : R1 h h1 := by
  have fin : ∀ {x : Option Value} {g : PH}, some (x, g) = some (r, h1) → g = h1 := fun q => by cases q; rfl
  have e9 : ∀ {pc : Nat} {l st : List Value} {g : PH}, kd9 pc l st g = some (r, h1) → g = h1 := fun q => by cases q; rfl
  have ej : ∀ {pc : Nat} {off : Int} {l st : List Value}, jmp pc off (fun t => kd9 t l st h) = some (r, h1) → R1 h h1 := fun q => by
    obtain ⟨t, -, q⟩ := jmp_some q
    exact e9 q ▸ R1.rf
  cases i
  all_goals try (cases hs; done)
  all_goals try exact e9 hs ▸ R1.rf
  all_goals try exact ej hs
  case putfield j =>
    simp only [stepI] at hs
    split at hs
    · split at hs
      · split at hs
        · obtain ⟨a1, hs⟩ := asr_some hs
          rw [Bool.and_eq_true] at a1
          exact e9 hs ▸ R1.wI a1.1
        · cases hs
      · split at hs
        · obtain ⟨a1, hs⟩ := asr_some hs
          obtain ⟨-, hs⟩ := asr_some hs
          rw [Bool.and_eq_true] at a1
          exact e9 hs ▸ R1.wI a1.1
        · cases hs
      · split at hs
        · obtain ⟨a1, hs⟩ := asr_some hs
          exact e9 hs ▸ R1.wR
        · cases hs
    · cases hs
  case iastore =>
    simp only [stepI] at hs
    split at hs
    · obtain ⟨a1, hs⟩ := asr_some hs
      obtain ⟨-, hs⟩ := asr_some hs
      exact e9 hs ▸ R1.wI a1
    · cases hs
  case bastore =>
    simp only [stepI] at hs
    split at hs
    · split at hs
      · rename_i a1
        obtain ⟨-, hs⟩ := asr_some hs
        exact e9 hs ▸ R1.wI a1
      · obtain ⟨a1, hs⟩ := asr_some hs
        obtain ⟨-, hs⟩ := asr_some hs
        exact e9 hs ▸ R1.wI a1
    · cases hs
  case lastore =>
    simp only [stepI] at hs
    split at hs
    · obtain ⟨a1, hs⟩ := asr_some hs
      obtain ⟨-, hs⟩ := asr_some hs
      exact e9 hs ▸ R1.wJ
    · cases hs
  case aastore =>
    simp only [stepI] at hs
    split at hs
    · obtain ⟨a1, hs⟩ := asr_some hs
      obtain ⟨-, hs⟩ := asr_some hs
      exact e9 hs ▸ R1.wR
    · cases hs
  case new j =>
    simp only [stepI] at hs
    split at hs
    · obtain ⟨a1, hs⟩ := asr_some hs
      simp [hp] at a1
    · cases hs
  case newarray t =>
    simp only [stepI] at hs
    split at hs
    · obtain ⟨a1, hs⟩ := asr_some hs
      simp [hp] at a1
    · cases hs
  case anewarray j =>
    simp only [stepI] at hs
    split at hs
    · split at hs
      · obtain ⟨a1, hs⟩ := asr_some hs
        simp [hp] at a1
      · cases hs
    · cases hs
  case multianewarray j dims =>
    simp only [stepI] at hs
    split at hs
    · split at hs
      · obtain ⟨a1, hs⟩ := asr_some hs
        simp [hp] at a1
      · cases hs
    · cases hs
  case invokevirtual j =>
    simp only [stepI] at hs
    split at hs
    · split at hs
      · split at hs
        · obtain ⟨a1, hs⟩ := asr_some hs
          obtain ⟨r0, g, hc, hs⟩ := retC_some hs
          exact e9 hs ▸ hC _ _ _ _ _ hc
        · cases hs
      · split at hs
        · obtain ⟨a1, hs⟩ := asr_some hs
          exact e9 hs ▸ R1.rf
        · cases hs
      · split at hs
        · obtain ⟨a1, hs⟩ := asr_some hs
          exact e9 hs ▸ R1.rf
        · cases hs
      · cases hs
    · cases hs
  case invokespecial j =>
    simp only [stepI] at hs
    split at hs
    · split at hs
      · split at hs
        · obtain ⟨a1, hs⟩ := asr_some hs
          exact e9 hs ▸ R1.rf
        · cases hs
      · split at hs
        · obtain ⟨a1, hs⟩ := asr_some hs
          obtain ⟨r0, g, hc, hs⟩ := retC_some hs
          exact e9 hs ▸ hC _ _ _ _ _ hc
        · cases hs
    · cases hs
  case invokestatic j =>
    simp only [stepI] at hs
    split at hs
    · split at hs
      · obtain ⟨a1, hs⟩ := asr_some hs
        obtain ⟨r0, g, hc, hs⟩ := retC_some hs
        exact e9 hs ▸ hC _ _ _ _ _ hc
      · split at hs
        · obtain ⟨a1, hs⟩ := asr_some hs
          simp only [cpyOk, Bool.and_eq_true] at a1
          exact e9 hs ▸ R1.cpy a1.2.2.1
        · cases hs
      all_goals first
        | (cases hs; done)
        | (split at hs
           · obtain ⟨a1, hs⟩ := asr_some hs
             first | exact e9 hs ▸ R1.rf | (split at hs; · cases hs
                                            · exact e9 hs ▸ R1.rf)
           · cases hs)
    · cases hs
  case ifCond cn off =>
    simp only [stepI] at hs
    split at hs
    · obtain ⟨t, -, hs⟩ := jmp_some hs
      cases cn <;> simp only at hs <;> split at hs <;> exact e9 hs ▸ R1.rf
    · cases hs
  case if_icmp cn off =>
    simp only [stepI] at hs
    split at hs
    · obtain ⟨t, -, hs⟩ := jmp_some hs
      cases cn <;> simp only at hs <;> split at hs <;> exact e9 hs ▸ R1.rf
    · cases hs
  case tableswitch dflt lo9 hi9 offs =>
    simp only [stepI] at hs
    split at hs
    · obtain ⟨a1, a2⟩ := asr_some hs
      simp only [swOk, decide_eq_true_eq] at a1
      rcases swT_some _ _ (by omega) (by omega) a2 with ⟨off, q1, q2, q3, q4⟩ | ⟨q1, q2⟩
      · exact ej q4
      · exact ej q2
    · cases hs
  case lookupswitch dflt ps =>
    simp only [stepI] at hs
    split at hs
    · rename_i x r9
      obtain ⟨a1, a2⟩ := asr_some hs
      simp only [slOk, Bool.and_eq_true] at a1
      exact ej (swL_some (f := fun off => jmp pc off (fun t => kd9 t l r9 h)) (d := dflt) ps.toList (fun q hq => by
        have := List.all_eq_true.mp a1.2 q hq
        simpa using this) a2)
    · cases hs
  all_goals simp only [stepI] at hs
  all_goals repeat' (split at hs)
  all_goals first
    | (cases hs; done)
    | exact e9 hs ▸ R1.rf
    | exact fin hs ▸ R1.rf
    | (obtain ⟨-, hs⟩ := asr_some hs; exact e9 hs ▸ R1.rf)
    | (obtain ⟨-, hs⟩ := asr_some hs; obtain ⟨-, hs⟩ := asr_some hs; exact e9 hs ▸ R1.rf)
    | (obtain ⟨-, hs⟩ := asr_some hs; exact fin hs ▸ R1.rf)
theorem stepK_R1 {G : PG} (hp : G.2.1 = true) {call : Nat → List Value → PH → PR} (hC : ∀ m as h r h1, call m as h = some (r, h1) → R1 h h1) {own : Nat} {ini : Bool} {ret : Option FieldType} {c : KC} {pc : Nat} {l st : List Value} {h h1 : PH} {r : Option Value} (hs : stepK G call own ini ret c pc l st h kd9 = some (r, h1)) : R1 h h1 := by
  unfold stepK at hs
  split at hs
  · exact stepI_R1 hp hC hs
  · cases hs
theorem runN_R1 {G : PG} (hp : G.2.1 = true) {call : Nat → List Value → PH → PR} (hC : ∀ m as h r h1, call m as h = some (r, h1) → R1 h h1) {own : Nat} {ini : Bool} {ret : Option FieldType} {c : KC} {r : Option Value} {h1 : PH} : ∀ (n pc : Nat) (l st : List Value) (h : PH), runN G call own ini ret c n pc l st h = some (r, h1) → R1 h h1
  | 0, _, _, _, _, hs => by cases hs
  | n + 1, pc, l, st, h, hs => by
    rcases stepK_one G call own ini ret c pc l st h _ _ hs with q | ⟨pc', l', st', h', q1, q2⟩
    · exact stepK_R1 hp hC (q kd9)
    · exact (stepK_R1 hp hC (r := none) (h1 := h') (q2 kd9)).tr (runN_R1 hp hC n _ _ _ _ q1)
theorem exec_R1 {G : PG} (hp : G.2.1 = true) : ∀ (d m : Nat) (as : List Value) (h : PH) (r : Option Value) (h1 : PH), exec G d m as h = some (r, h1) → R1 h h1
  | 0, _, _, _, _, _, hs => by cases hs
  | d + 1, m, as, h, r, h1, hs => by
    unfold exec at hs
    split at hs
    · obtain ⟨-, hs⟩ := asr_some hs
      obtain ⟨n, hn⟩ := lim_some hs
      exact runN_R1 hp (fun m as h r h1 => exec_R1 hp d m as h r h1) n _ _ _ _ hn
    · cases hs

