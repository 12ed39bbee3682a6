-- PART: behind the constructors nothing is made; more fuel, more calls.
def Rz (h h1 : PH) : Prop := hN h1 = hN h ∧ hZ h1 = hZ h
theorem Rz.rf {h : PH} : Rz h h := ⟨rfl, rfl⟩
theorem Rz.tr {a b c : PH} (h1 : Rz a b) (h2 : Rz b c) : Rz a c := ⟨h2.1.trans h1.1, h2.2.trans h1.2⟩
theorem Rz.wI {h : PH} {a k : Nat} {x : Int32} : Rz h (wI h a k x) := ⟨rfl, rfl⟩
theorem Rz.wJ {h : PH} {a k : Nat} {x : Int64} : Rz h (wJ h a k x) := ⟨rfl, rfl⟩
theorem Rz.wR {h : PH} {a k x : Nat} : Rz h (wR h a k x) := ⟨rfl, rfl⟩
theorem Rz.cpy {h : PH} {a sp b dp n : Nat} : Rz h (cpy h a sp b dp n) := ⟨rfl, rfl⟩
set_option maxHeartbeats 8000000 in
theorem stepI_Rz {G : PG} (hp : G.2.1 = true) {call : Nat → List Value → PH → PR} (hC : ∀ m as h r h1, call m as h = some (r, h1) → Rz h h1) {own : Nat} {ini : Bool} {ret : Option FieldType} {i : Instr} {len pc : Nat} {l st : List Value} {h h1 : PH} {r : Option Value} (hs : stepI G call own ini ret i len pc l st h kd9 = some (r, h1)) : Rz h h1 := by
  have fin : ∀ {x : Option Value} {g : PH}, some (x, g) = some (r, h1) → g = h1 := fun q => by cases q; rfl
  have e9 : ∀ {pc : Nat} {l st : List Value} {g : PH}, kd9 pc l st g = some (r, h1) → g = h1 := fun q => by cases q; rfl
  have ej : ∀ {pc : Nat} {off : Int} {l st : List Value}, jmp pc off (fun t => kd9 t l st h) = some (r, h1) → Rz h h1 := fun q => by
    obtain ⟨t, -, q⟩ := jmp_some q
    exact e9 q ▸ Rz.rf
  cases i
  all_goals try (cases hs; done)
  all_goals try exact e9 hs ▸ Rz.rf
  all_goals try exact ej hs
  case putfield j =>
    simp only [stepI] at hs
    split at hs
    · split at hs
      · split at hs
        · obtain ⟨a1, hs⟩ := asr_some hs
          rw [Bool.and_eq_true] at a1
          exact e9 hs ▸ Rz.wI
        · cases hs
      · split at hs
        · obtain ⟨a1, hs⟩ := asr_some hs
          obtain ⟨-, hs⟩ := asr_some hs
          rw [Bool.and_eq_true] at a1
          exact e9 hs ▸ Rz.wI
        · cases hs
      · split at hs
        · obtain ⟨a1, hs⟩ := asr_some hs
          exact e9 hs ▸ Rz.wR
        · cases hs
    · cases hs
  case iastore =>
    simp only [stepI] at hs
    split at hs
    · obtain ⟨a1, hs⟩ := asr_some hs
      obtain ⟨-, hs⟩ := asr_some hs
      exact e9 hs ▸ Rz.wI
    · cases hs
  case bastore =>
    simp only [stepI] at hs
    split at hs
    · split at hs
      · rename_i a1
        obtain ⟨-, hs⟩ := asr_some hs
        exact e9 hs ▸ Rz.wI
      · obtain ⟨a1, hs⟩ := asr_some hs
        obtain ⟨-, hs⟩ := asr_some hs
        exact e9 hs ▸ Rz.wI
    · cases hs
  case lastore =>
    simp only [stepI] at hs
    split at hs
    · obtain ⟨a1, hs⟩ := asr_some hs
      obtain ⟨-, hs⟩ := asr_some hs
      exact e9 hs ▸ Rz.wJ
    · cases hs
  case aastore =>
    simp only [stepI] at hs
    split at hs
    · obtain ⟨a1, hs⟩ := asr_some hs
      obtain ⟨-, hs⟩ := asr_some hs
      exact e9 hs ▸ Rz.wR
    · cases hs
  case new j =>
    simp only [stepI] at hs
    split at hs
    · obtain ⟨a1, hs⟩ := asr_some hs
      simp [hp] at a1
    · cases hs
  case newarray t =>
    simp only [stepI] at hs
    split at hs
    · obtain ⟨a1, hs⟩ := asr_some hs
      simp [hp] at a1
    · cases hs
  case anewarray j =>
    simp only [stepI] at hs
    split at hs
    · split at hs
      · obtain ⟨a1, hs⟩ := asr_some hs
        simp [hp] at a1
      · cases hs
    · cases hs
  case multianewarray j dims =>
    simp only [stepI] at hs
    split at hs
    · split at hs
      · obtain ⟨a1, hs⟩ := asr_some hs
        simp [hp] at a1
      · cases hs
    · cases hs
  case invokevirtual j =>
    simp only [stepI] at hs
    split at hs
    · split at hs
      · split at hs
        · obtain ⟨a1, hs⟩ := asr_some hs
          obtain ⟨r0, g, hc, hs⟩ := retC_some hs
          exact e9 hs ▸ hC _ _ _ _ _ hc
        · cases hs
      · split at hs
        · obtain ⟨a1, hs⟩ := asr_some hs
          exact e9 hs ▸ Rz.rf
        · cases hs
      · split at hs
        · obtain ⟨a1, hs⟩ := asr_some hs
          exact e9 hs ▸ Rz.rf
        · cases hs
      · cases hs
    · cases hs
  case invokespecial j =>
    simp only [stepI] at hs
    split at hs
    · split at hs
      · split at hs
        · obtain ⟨a1, hs⟩ := asr_some hs
          exact e9 hs ▸ Rz.rf
        · cases hs
      · split at hs
        · obtain ⟨a1, hs⟩ := asr_some hs
          obtain ⟨r0, g, hc, hs⟩ := retC_some hs
          exact e9 hs ▸ hC _ _ _ _ _ hc
        · cases hs
    · cases hs
  case invokestatic j =>
    simp only [stepI] at hs
    split at hs
    · split at hs
      · obtain ⟨a1, hs⟩ := asr_some hs
        obtain ⟨r0, g, hc, hs⟩ := retC_some hs
        exact e9 hs ▸ hC _ _ _ _ _ hc
      · split at hs
        · obtain ⟨a1, hs⟩ := asr_some hs
          simp only [cpyOk, Bool.and_eq_true] at a1
          exact e9 hs ▸ Rz.cpy
        · cases hs
      all_goals first
        | (cases hs; done)
        | (split at hs
           · obtain ⟨a1, hs⟩ := asr_some hs
             first | exact e9 hs ▸ Rz.rf | (split at hs; · cases hs
                                            · exact e9 hs ▸ Rz.rf)
           · cases hs)
    · cases hs
  case ifCond cn off =>
    simp only [stepI] at hs
    split at hs
    · obtain ⟨t, -, hs⟩ := jmp_some hs
      cases cn <;> simp only at hs <;> split at hs <;> exact e9 hs ▸ Rz.rf
    · cases hs
  case if_icmp cn off =>
    simp only [stepI] at hs
    split at hs
    · obtain ⟨t, -, hs⟩ := jmp_some hs
      cases cn <;> simp only at hs <;> split at hs <;> exact e9 hs ▸ Rz.rf
    · cases hs
  case tableswitch dflt lo9 hi9 offs =>
    simp only [stepI] at hs
    split at hs
    · obtain ⟨a1, a2⟩ := asr_some hs
      simp only [swOk, decide_eq_true_eq] at a1
      rcases swT_some _ _ (by omega) (by omega) a2 with ⟨off, q1, q2, q3, q4⟩ | ⟨q1, q2⟩
      · exact ej q4
      · exact ej q2
    · cases hs
  case lookupswitch dflt ps =>
    simp only [stepI] at hs
    split at hs
    · rename_i x r9
      obtain ⟨a1, a2⟩ := asr_some hs
      simp only [slOk, Bool.and_eq_true] at a1
      exact ej (swL_some (f := fun off => jmp pc off (fun t => kd9 t l r9 h)) (d := dflt) ps.toList (fun q hq => by
        have := List.all_eq_true.mp a1.2 q hq
        simpa using this) a2)
    · cases hs
  all_goals simp only [stepI] at hs
  all_goals repeat' (split at hs)
  all_goals first
    | (cases hs; done)
    | exact e9 hs ▸ Rz.rf
    | exact fin hs ▸ Rz.rf
    | (obtain ⟨-, hs⟩ := asr_some hs; exact e9 hs ▸ Rz.rf)
    | (obtain ⟨-, hs⟩ := asr_some hs; obtain ⟨-, hs⟩ := asr_some hs; exact e9 hs ▸ Rz.rf)
    | (obtain ⟨-, hs⟩ := asr_some hs; exact fin hs ▸ Rz.rf)
theorem stepK_Rz {G : PG} (hp : G.2.1 = true) {call : Nat → List Value → PH → PR} (hC : ∀ m as h r h1, call m as h = some (r, h1) → Rz h h1) {own : Nat} {ini : Bool} {ret : Option FieldType} {c : KC} {pc : Nat} {l st : List Value} {h h1 : PH} {r : Option Value} (hs : stepK G call own ini ret c pc l st h kd9 = some (r, h1)) : Rz h h1 := by
  unfold stepK at hs
  split at hs
  · exact stepI_Rz hp hC hs
  · cases hs
theorem runN_Rz {G : PG} (hp : G.2.1 = true) {call : Nat → List Value → PH → PR} (hC : ∀ m as h r h1, call m as h = some (r, h1) → Rz h h1) {own : Nat} {ini : Bool} {ret : Option FieldType} {c : KC} {r : Option Value} {h1 : PH} : ∀ (n pc : Nat) (l st : List Value) (h : PH), runN G call own ini ret c n pc l st h = some (r, h1) → Rz h h1
  | 0, _, _, _, _, hs => by cases hs
  | n + 1, pc, l, st, h, hs => by
    rcases stepK_one G call own ini ret c pc l st h _ _ hs with q | ⟨pc', l', st', h', q1, q2⟩
    · exact stepK_Rz hp hC (q kd9)
    · exact (stepK_Rz hp hC (r := none) (h1 := h') (q2 kd9)).tr (runN_Rz hp hC n _ _ _ _ q1)
theorem exec_Rz {G : PG} (hp : G.2.1 = true) : ∀ (d m : Nat) (as : List Value) (h : PH) (r : Option Value) (h1 : PH), exec G d m as h = some (r, h1) → Rz h h1
  | 0, _, _, _, _, _, hs => by cases hs
  | d + 1, m, as, h, r, h1, hs => by
    unfold exec at hs
    split at hs
    · obtain ⟨-, hs⟩ := asr_some hs
      obtain ⟨n, hn⟩ := lim_some hs
      exact runN_Rz hp (fun m as h r h1 => exec_Rz hp d m as h r h1) n _ _ _ _ hn
    · cases hs

theorem retC_mono {rt : Nat} {o o' : PR} {f : List Value → PH → PR} {r : Option Value × PH} (ho : ∀ q, o = some q → o' = some q) (hs : retC rt o f = some r) : retC rt o' f = some r := by
  cases o with
  | none =>
    rcases rt with _ | _ | _ | n <;> cases hs
  | some q =>
    rw [ho q rfl]
    exact hs
theorem asr_mono {b : Bool} {x y : PR} {r : Option Value × PH} (hxy : x = some r → y = some r) (hs : asr b x = some r) : asr b y = some r := by
  cases b
  · cases hs
  · exact hxy hs
theorem stepI_call {G : PG} {call call' : Nat → List Value → PH → PR} (hC : ∀ m as h r, call m as h = some r → call' m as h = some r) {own : Nat} {ini : Bool} {ret : Option FieldType} {i : Instr} {len pc : Nat} {l st : List Value} {h : PH} {k : PK} {r : Option Value × PH} : stepI G call own ini ret i len pc l st h k = some r → stepI G call' own ini ret i len pc l st h k = some r := by
  cases i
  case invokevirtual j =>
    simp only [stepI]
    generalize kx_find (kx_E own) j = fd
    rcases fd with _ | ⟨m, kd, n, rt, co, z⟩
    · exact id
    · by_cases h2 : kd = 0
      · subst h2
        simp only
        generalize st.take n = tk
        generalize st.drop n = dr
        rcases dr with _ | ⟨_ | _ | _ | _ | _ | _ | _, dr⟩ <;> first | exact id | exact asr_mono (retC_mono (fun q => hC _ _ _ q))
      · by_cases h3 : kd = 10
        · subst h3
          exact id
        · by_cases h4 : kd = 11
          · subst h4
            exact id
          · intro hs
            simp only at hs
            cases hs
  case invokespecial j =>
    simp only [stepI]
    generalize kx_find (kx_E own) j = fd
    rcases fd with _ | ⟨m, kd, n, rt, co, z⟩
    · exact id
    · cases hkd : Nat.beq kd 4
      · simp only [hkd]
        generalize st.take n = tk
        generalize st.drop n = dr
        rcases dr with _ | ⟨_ | _ | _ | _ | _ | _ | _, dr⟩ <;> first | exact id | exact asr_mono (retC_mono (fun q => hC _ _ _ q))
      · simp only [hkd]
        exact id
  case invokestatic j =>
    simp only [stepI]
    generalize kx_find (kx_E own) j = fd
    rcases fd with _ | ⟨m, kd, n, rt, co, z⟩
    · exact id
    · by_cases h2 : kd = 2
      · subst h2
        exact asr_mono (retC_mono (fun q => hC _ _ _ q))
      · intro hs
        simp only at hs ⊢
        split at hs
        · exact absurd rfl h2
        all_goals exact hs
  all_goals exact id
theorem runN_call {G : PG} {call call' : Nat → List Value → PH → PR} (hC : ∀ m as h r, call m as h = some r → call' m as h = some r) {own : Nat} {ini : Bool} {ret : Option FieldType} {c : KC} {r : Option Value × PH} : ∀ (n pc : Nat) (l st : List Value) (h : PH), runN G call own ini ret c n pc l st h = some r → runN G call' own ini ret c n pc l st h = some r
  | 0, _, _, _, _, hs => by cases hs
  | n + 1, pc, l, st, h, hs => by
    have h1 : stepK G call own ini ret c pc l st h (runN G call' own ini ret c n) = some r := stepK_mono (fun pc l st h q => runN_call hC n pc l st h q) hs
    show stepK G call' own ini ret c pc l st h (runN G call' own ini ret c n) = some r
    unfold stepK at h1 ⊢
    split at h1
    · rename_i i len hf
      exact stepI_call hC h1
    · cases h1
theorem execF_exec {G : PG} {f : Nat} : ∀ (d m : Nat) (as : List Value) (h : PH) (r : Option Value × PH), execF G f d m as h = some r → exec G d m as h = some r
  | 0, _, _, _, _, hs => by cases hs
  | d + 1, m, as, h, r, hs => by
    unfold execF at hs
    unfold exec
    split at hs
    · rename_i own ini ret maxL c hm
      simp only [hm]
      refine asr_mono (fun q => ?_) hs
      exact lim_of (f := fun n => runN G (exec G d) own ini ret c n 0 (pad as maxL) [] h) (fun n m r h q => runN_mono h q) (runN_call (execF_exec d) f _ _ _ _ q)
    · cases hs
theorem runK_call {G : PG} {call call' : Nat → List Value → PH → PR} (hC : ∀ m as h r, call m as h = some r → call' m as h = some r) {own : Nat} {ini : Bool} {ret : Option FieldType} {c : KC} {stops : List Nat} {k : PK} {r : Option Value × PH} : ∀ (n pc : Nat) (l st : List Value) (h : PH), runK G call own ini ret c stops k n pc l st h = some r → runK G call' own ini ret c stops k n pc l st h = some r
  | 0, _, _, _, _, hs => hs
  | n + 1, pc, l, st, h, hs => by
    have h1 : stepK G call own ini ret c pc l st h (fun pc l st h => bif stops.contains pc then k pc l st h else runK G call' own ini ret c stops k n pc l st h) = some r := by
      refine stepK_mono (fun pc l st h q => ?_) hs
      cases hq : stops.contains pc
      · rw [hq] at q
        exact runK_call hC n pc l st h q
      · rw [hq] at q
        exact q
    show stepK G call' own ini ret c pc l st h _ = some r
    unfold stepK at h1 ⊢
    split at h1
    · rename_i i len hf
      exact stepI_call hC h1
    · cases h1
