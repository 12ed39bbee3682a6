-- PART: frames and calls: what the pure machine answers, the real one does.
def Rm (h h1 : PH) : Prop := hN h ≤ hN h1 ∧ hZ h ≤ hZ h1 ∧ (2 ≤ hN h → hI h1 1 = hI h 1)
theorem Rm.rf {h : PH} : Rm h h := ⟨Nat.le_refl _, Nat.le_refl _, fun _ => rfl⟩
theorem Rm.tr {a b c : PH} (h1 : Rm a b) (h2 : Rm b c) : Rm a c := ⟨Nat.le_trans h1.1 h2.1, Nat.le_trans h1.2.1 h2.2.1, fun q => (h2.2.2 (Nat.le_trans q h1.1)).trans (h1.2.2 q)⟩
theorem okW_2 {G : PG} {h : PH} {a k : Nat} (ha : okW G h a k = true) : 2 ≤ a := by
  simp only [okW, Bool.and_eq_true] at ha
  exact Nat.le_of_ble_eq_true ha.2.1
theorem Rm.wI {h : PH} {a k : Nat} {x : Int32} (ha : 2 ≤ a) : Rm h (wI h a k x) := ⟨Nat.le_refl _, Nat.le_refl _, fun _ => wI_ne (by omega)⟩
theorem Rm.wJ {h : PH} {a k : Nat} {x : Int64} : Rm h (wJ h a k x) := ⟨Nat.le_refl _, Nat.le_refl _, fun _ => rfl⟩
theorem Rm.wR {h : PH} {a k x : Nat} : Rm h (wR h a k x) := ⟨Nat.le_refl _, Nat.le_refl _, fun _ => rfl⟩
theorem Rm.alc {h : PH} {n z : Nat} : Rm h (alc h n z) := ⟨Nat.le_add_right _ _, Nat.le_add_right _ _, fun q => by
  funext j
  show (if h.1 ≤ 1 ∧ 1 < h.1 + n then 0 else hI h 1 j) = hI h 1 j
  rw [if_neg (fun z => by have : 2 ≤ h.1 := q; omega)]⟩
theorem Rm.alcM {h : PH} {n z : Nat} : Rm h (alcM h n z) := ⟨Nat.le_add_right _ _, Nat.le_add_right _ _, fun q => by
  funext j
  show (if h.1 ≤ 1 ∧ 1 < h.1 + (1 + n) then 0 else hI h 1 j) = hI h 1 j
  rw [if_neg (fun z => by have : 2 ≤ h.1 := q; omega)]⟩
theorem Rm.cpy {h : PH} {a sp b dp n : Nat} (hb : 2 ≤ b) : Rm h (cpy h a sp b dp n) := ⟨Nat.le_refl _, Nat.le_refl _, fun _ => by
  funext j
  show (if 1 = b ∧ dp ≤ j ∧ j < dp + n then _ else hI h 1 j) = hI h 1 j
  rw [if_neg (fun z => by have := z.1; omega)]⟩
def kd9 : PK := fun _ _ _ h => some (none, h)
set_option maxHeartbeats 8000000 in
theorem stepI_Rm {G : PG} {call : Nat → List Value → PH → PR} (hC : ∀ m as h r h1, call m as h = some (r, h1) → Rm h h1) {own : Nat} {ini : Bool} {ret : Option FieldType} {i : Instr} {len pc : Nat} {l st : List Value} {h h1 : PH} {r : Option Value} (hs : stepI G call own ini ret i len pc l st h kd9 = some (r, h1)) : Rm h h1 := by
  have fin : ∀ {x : Option Value} {g : PH}, some (x, g) = some (r, h1) → g = h1 := fun q => by cases q; rfl
  have e9 : ∀ {pc : Nat} {l st : List Value} {g : PH}, kd9 pc l st g = some (r, h1) → g = h1 := fun q => by cases q; rfl
  have ej : ∀ {pc : Nat} {off : Int} {l st : List Value}, jmp pc off (fun t => kd9 t l st h) = some (r, h1) → Rm h h1 := fun q => by
    obtain ⟨t, -, q⟩ := jmp_some q
    exact e9 q ▸ Rm.rf
  cases i
  all_goals try (cases hs; done)
  all_goals try exact e9 hs ▸ Rm.rf
  all_goals try exact ej hs
  case putfield j =>
    simp only [stepI] at hs
    split at hs
    · split at hs
      · split at hs
        · obtain ⟨a1, hs⟩ := asr_some hs
          rw [Bool.and_eq_true] at a1
          exact e9 hs ▸ Rm.wI (okW_2 a1.1)
        · cases hs
      · split at hs
        · obtain ⟨a1, hs⟩ := asr_some hs
          obtain ⟨-, hs⟩ := asr_some hs
          rw [Bool.and_eq_true] at a1
          exact e9 hs ▸ Rm.wI (okW_2 a1.1)
        · cases hs
      · split at hs
        · obtain ⟨a1, hs⟩ := asr_some hs
          exact e9 hs ▸ Rm.wR
        · cases hs
    · cases hs
  case iastore =>
    simp only [stepI] at hs
    split at hs
    · obtain ⟨a1, hs⟩ := asr_some hs
      obtain ⟨-, hs⟩ := asr_some hs
      exact e9 hs ▸ Rm.wI (okW_2 a1)
    · cases hs
  case bastore =>
    simp only [stepI] at hs
    split at hs
    · split at hs
      · rename_i a1
        obtain ⟨-, hs⟩ := asr_some hs
        exact e9 hs ▸ Rm.wI (okW_2 a1)
      · obtain ⟨a1, hs⟩ := asr_some hs
        obtain ⟨-, hs⟩ := asr_some hs
        exact e9 hs ▸ Rm.wI (okW_2 a1)
    · cases hs
  case lastore =>
    simp only [stepI] at hs
    split at hs
    · obtain ⟨a1, hs⟩ := asr_some hs
      obtain ⟨-, hs⟩ := asr_some hs
      exact e9 hs ▸ Rm.wJ
    · cases hs
  case aastore =>
    simp only [stepI] at hs
    split at hs
    · obtain ⟨a1, hs⟩ := asr_some hs
      obtain ⟨-, hs⟩ := asr_some hs
      exact e9 hs ▸ Rm.wR
    · cases hs
  case new j =>
    simp only [stepI] at hs
    split at hs
    · obtain ⟨a1, hs⟩ := asr_some hs
      exact e9 hs ▸ Rm.alc
    · cases hs
  case newarray t =>
    simp only [stepI] at hs
    split at hs
    · obtain ⟨a1, hs⟩ := asr_some hs
      exact e9 hs ▸ Rm.alc
    · cases hs
  case anewarray j =>
    simp only [stepI] at hs
    split at hs
    · split at hs
      · obtain ⟨a1, hs⟩ := asr_some hs
        exact e9 hs ▸ Rm.alc
      · cases hs
    · cases hs
  case multianewarray j dims =>
    simp only [stepI] at hs
    split at hs
    · split at hs
      · obtain ⟨a1, hs⟩ := asr_some hs
        exact e9 hs ▸ Rm.alcM
      · cases hs
    · cases hs
  case invokevirtual j =>
    simp only [stepI] at hs
    split at hs
    · split at hs
      · split at hs
        · obtain ⟨a1, hs⟩ := asr_some hs
          obtain ⟨r0, g, hc, hs⟩ := retC_some hs
          exact e9 hs ▸ hC _ _ _ _ _ hc
        · cases hs
      · split at hs
        · obtain ⟨a1, hs⟩ := asr_some hs
          exact e9 hs ▸ Rm.rf
        · cases hs
      · split at hs
        · obtain ⟨a1, hs⟩ := asr_some hs
          exact e9 hs ▸ Rm.rf
        · cases hs
      · cases hs
    · cases hs
  case invokespecial j =>
    simp only [stepI] at hs
    split at hs
    · split at hs
      · split at hs
        · obtain ⟨a1, hs⟩ := asr_some hs
          exact e9 hs ▸ Rm.rf
        · cases hs
      · split at hs
        · obtain ⟨a1, hs⟩ := asr_some hs
          obtain ⟨r0, g, hc, hs⟩ := retC_some hs
          exact e9 hs ▸ hC _ _ _ _ _ hc
        · cases hs
    · cases hs
  case invokestatic j =>
    simp only [stepI] at hs
    split at hs
    · split at hs
      · obtain ⟨a1, hs⟩ := asr_some hs
        obtain ⟨r0, g, hc, hs⟩ := retC_some hs
        exact e9 hs ▸ hC _ _ _ _ _ hc
      · split at hs
        · obtain ⟨a1, hs⟩ := asr_some hs
          simp only [cpyOk, Bool.and_eq_true] at a1
          exact e9 hs ▸ Rm.cpy (okW_2 a1.2.2.1)
        · cases hs
      all_goals first
        | (cases hs; done)
        | (split at hs
           · obtain ⟨a1, hs⟩ := asr_some hs
             first | exact e9 hs ▸ Rm.rf | (split at hs; · cases hs
                                            · exact e9 hs ▸ Rm.rf)
           · cases hs)
    · cases hs
  case ifCond cn off =>
    simp only [stepI] at hs
    split at hs
    · obtain ⟨t, -, hs⟩ := jmp_some hs
      cases cn <;> simp only at hs <;> split at hs <;> exact e9 hs ▸ Rm.rf
    · cases hs
  case if_icmp cn off =>
    simp only [stepI] at hs
    split at hs
    · obtain ⟨t, -, hs⟩ := jmp_some hs
      cases cn <;> simp only at hs <;> split at hs <;> exact e9 hs ▸ Rm.rf
    · cases hs
  case tableswitch dflt lo9 hi9 offs =>
    simp only [stepI] at hs
    split at hs
    · obtain ⟨a1, a2⟩ := asr_some hs
      simp only [swOk, decide_eq_true_eq] at a1
      rcases swT_some _ _ (by omega) (by omega) a2 with ⟨off, q1, q2, q3, q4⟩ | ⟨q1, q2⟩
      · exact ej q4
      · exact ej q2
    · cases hs
  case lookupswitch dflt ps =>
    simp only [stepI] at hs
    split at hs
    · rename_i x r9
      obtain ⟨a1, a2⟩ := asr_some hs
      simp only [slOk, Bool.and_eq_true] at a1
      exact ej (swL_some (f := fun off => jmp pc off (fun t => kd9 t l r9 h)) (d := dflt) ps.toList (fun q hq => by
        have := List.all_eq_true.mp a1.2 q hq
        simpa using this) a2)
    · cases hs
  all_goals simp only [stepI] at hs
  all_goals repeat' (split at hs)
  all_goals first
    | (cases hs; done)
    | exact e9 hs ▸ Rm.rf
    | exact fin hs ▸ Rm.rf
    | (obtain ⟨-, hs⟩ := asr_some hs; exact e9 hs ▸ Rm.rf)
    | (obtain ⟨-, hs⟩ := asr_some hs; obtain ⟨-, hs⟩ := asr_some hs; exact e9 hs ▸ Rm.rf)
    | (obtain ⟨-, hs⟩ := asr_some hs; exact fin hs ▸ Rm.rf)
theorem stepK_Rm {G : PG} {call : Nat → List Value → PH → PR} (hC : ∀ m as h r h1, call m as h = some (r, h1) → Rm h h1) {own : Nat} {ini : Bool} {ret : Option FieldType} {c : KC} {pc : Nat} {l st : List Value} {h h1 : PH} {r : Option Value} (hs : stepK G call own ini ret c pc l st h kd9 = some (r, h1)) : Rm h h1 := by
  unfold stepK at hs
  split at hs
  · exact stepI_Rm hC hs
  · cases hs
theorem runN_Rm {G : PG} {call : Nat → List Value → PH → PR} (hC : ∀ m as h r h1, call m as h = some (r, h1) → Rm h h1) {own : Nat} {ini : Bool} {ret : Option FieldType} {c : KC} {r : Option Value} {h1 : PH} : ∀ (n pc : Nat) (l st : List Value) (h : PH), runN G call own ini ret c n pc l st h = some (r, h1) → Rm h h1
  | 0, _, _, _, _, hs => by cases hs
  | n + 1, pc, l, st, h, hs => by
    rcases stepK_one G call own ini ret c pc l st h _ _ hs with q | ⟨pc', l', st', h', q1, q2⟩
    · exact stepK_Rm hC (q kd9)
    · exact (stepK_Rm hC (r := none) (h1 := h') (q2 kd9)).tr (runN_Rm hC n _ _ _ _ q1)
theorem exec_Rm {G : PG} : ∀ (d m : Nat) (as : List Value) (h : PH) (r : Option Value) (h1 : PH), exec G d m as h = some (r, h1) → Rm h h1
  | 0, _, _, _, _, _, hs => by cases hs
  | d + 1, m, as, h, r, h1, hs => by
    unfold exec at hs
    split at hs
    · obtain ⟨-, hs⟩ := asr_some hs
      obtain ⟨n, hn⟩ := lim_some hs
      exact runN_Rm (fun m as h r h1 => exec_Rm d m as h r h1) n _ _ _ _ hn
    · cases hs
