theorem lim_of {α : Type} {f : Nat → Option α} (hm : ∀ n m r, n ≤ m → f n = some r → f m = some r) {n : Nat} {r : α} (h : f n = some r) : lim f = some r := by
  have hx : ∃ n, (f n).isSome = true := ⟨n, by rw [h]; rfl⟩
  unfold lim
  rw [dif_pos hx]
  have hs := Classical.choose_spec hx
  generalize Classical.choose hx = j at hs
  obtain ⟨q, hq⟩ := Option.isSome_iff_exists.mp hs
  rcases Nat.le_total n j with a | a
  · exact hm n j r a h
  · rw [hq, ← h]
    exact (hm j n q a hq).symm
theorem lim_some {α : Type} {f : Nat → Option α} {r : α} (h : lim f = some r) : ∃ n, f n = some r := by
  unfold lim at h
  by_cases hx : ∃ n, (f n).isSome = true
  · rw [dif_pos hx] at h
    exact ⟨_, h⟩
  · rw [dif_neg hx] at h
    cases h
theorem asr_some {b : Bool} {x : PR} {r : Option Value × PH} (h : asr b x = some r) : b = true ∧ x = some r := by
  cases b
  · cases h
  · exact ⟨rfl, h⟩
theorem asr_t (x : PR) : asr true x = x := rfl
/-- behind the constructors -/
def g2 (L : Nat) : PG := (kx_nf, true, L)
/-- what a step does with what comes behind it: nothing, or it goes to one place -/
def One (F : PK → PR) (k : PK) (r : Option Value × PH) : Prop := F k = some r → (∀ k', F k' = some r) ∨ ∃ pc l st h, k pc l st h = some r ∧ ∀ k' : PK, F k' = k' pc l st h
section One
variable {k : PK} {r : Option Value × PH}
theorem one_none : One (fun _ => none) k r := fun h => by cases h
theorem one_const (o : PR) : One (fun _ => o) k r := fun h => Or.inl fun _ => h
theorem one_k (pc : Nat) (l st : List Value) (h : PH) : One (fun k => k pc l st h) k r := fun hk => Or.inr ⟨pc, l, st, h, hk, fun _ => rfl⟩
theorem one_ite {c : Prop} [Decidable c] {F F' : PK → PR} (h1 : One F k r) (h2 : One F' k r) : One (fun k => if c then F k else F' k) k r := by
  intro h
  by_cases hc : c
  · simp only [hc, if_true] at h ⊢
    exact h1 h
  · simp only [hc, if_false] at h ⊢
    exact h2 h
theorem one_asr {b : Bool} {F : PK → PR} (h1 : One F k r) : One (fun k => asr b (F k)) k r := by
  cases b
  · exact one_none
  · exact h1
theorem one_jmp {pc : Nat} {off : Int} {F : Nat → PK → PR} (h1 : ∀ t, One (F t) k r) : One (fun k => jmp pc off (fun t => F t k)) k r := by
  unfold jmp
  intro h
  revert h
  cases (pc : Int) + off with
  | ofNat t => exact h1 t
  | negSucc t => exact one_none
theorem one_swT {x : Int32} {F : Int → PK → PR} {D : PK → PR} (h1 : ∀ o, One (F o) k r) (h2 : One D k r) : ∀ (t : List Int) (lo : Int), One (fun k => swT x lo t (fun o => F o k) (D k)) k r
  | [], _ => h2
  | o :: t, lo => one_ite (c := x = Int32.ofInt lo) (h1 o) (one_swT h1 h2 t (lo + 1))
theorem one_swL {x : Int32} {F : Int → PK → PR} {D : PK → PR} (h1 : ∀ o, One (F o) k r) (h2 : One D k r) : ∀ (t : List (Int × Int)), One (fun k => swL x t (fun o => F o k) (D k)) k r
  | [] => h2
  | q :: t => one_ite (c := x = Int32.ofInt q.1) (h1 q.2) (one_swL h1 h2 t)
theorem one_retC {rt : Nat} {o : PR} {F : List Value → PH → PK → PR} (h1 : ∀ vs h, One (F vs h) k r) : One (fun k => retC rt o (fun vs h => F vs h k)) k r := by
  rcases rt with _ | _ | _ | n
  · rcases o with _ | ⟨_ | v, h⟩
    · exact one_none
    · exact h1 _ _
    · exact one_none
  · rcases o with _ | ⟨_ | v, h⟩
    · exact one_none
    · exact one_none
    · cases v <;> first | exact h1 _ _ | exact one_none
  · rcases o with _ | ⟨_ | v, h⟩
    · exact one_none
    · exact one_none
    · cases v <;> first | exact h1 _ _ | exact one_none
  · rcases o with _ | ⟨_ | v, h⟩
    · exact one_none
    · exact one_none
    · cases v <;> first | exact h1 _ _ | exact one_none
end One

theorem one_cpy {G : PG} {h : PH} {l st : List Value} {pc : Nat} {k : PK} {r : Option Value × PH} : One (fun k => match st with
        | .int n :: .int dp :: .ref b :: .int sp :: .ref a :: r => asr (Nat.ble (scat r) 8 && cpyOk G h a sp b dp n) (k pc l r (cpy h a (ix sp) b (ix dp) (ix n)))
        | _ => none) k r := by
  intro hs
  simp only at hs
  split at hs
  · exact one_asr (one_k _ _ _ _) hs
  · cases hs
set_option maxHeartbeats 8000000 in
theorem stepI_one (G : PG) (call : Nat → List Value → PH → PR) (own : Nat) (ini : Bool) (ret : Option FieldType) (i : Instr) (len pc : Nat) (l st : List Value) (h : PH) (k : PK) (r : Option Value × PH) : One (fun k => stepI G call own ini ret i len pc l st h k) k r := by
  cases i
  all_goals try exact one_none
  all_goals try exact one_k _ _ _ _
  all_goals try exact one_jmp (fun t => one_k _ _ _ _)
  case ifCond c off =>
    rcases st with _ | ⟨_ | _ | _ | _ | _ | _ | _, st⟩ <;> first | exact one_none | (cases c <;> exact one_jmp (fun t => one_ite (one_k _ _ _ _) (one_k _ _ _ _)))
  case if_icmp c off =>
    rcases st with _ | ⟨_ | _ | _ | _ | _ | _ | _, _ | ⟨_ | _ | _ | _ | _ | _ | _, st⟩⟩ <;> first | exact one_none | (cases c <;> exact one_jmp (fun t => one_ite (one_k _ _ _ _) (one_k _ _ _ _)))
  case getfield j =>
    simp only [stepI]
    rcases kx_find (kx_D own) j with _ | ⟨ci, kf, tc, f, z⟩
    · exact one_none
    · rcases st with _ | ⟨_ | _ | _ | _ | _ | _ | _, st⟩ <;> first | exact one_none | exact one_asr (one_k _ _ _ _)
  case putfield j =>
    simp only [stepI]
    rcases kx_find (kx_D own) j with _ | ⟨ci, kf, tc, f, z⟩
    · exact one_none
    · rcases tc with _ | _ | tc <;> rcases st with _ | ⟨_ | _ | _ | _ | _ | _ | _, _ | ⟨_ | _ | _ | _ | _ | _ | _, st⟩⟩ <;> first | exact one_none | exact one_asr (one_k _ _ _ _) | exact one_asr (one_asr (one_k _ _ _ _))
  case ldc j =>
    simp only [stepI]
    rcases kx_find (kx_I own) j with _ | q
    · rcases kx_find (kx_S own) j with _ | q
      · exact one_none
      · exact one_k _ _ _ _
    · exact one_k _ _ _ _
  case anewarray j =>
    simp only [stepI]
    rcases kx_find (kx_C own) j with _ | ⟨ci, z⟩
    · exact one_none
    · rcases st with _ | ⟨_ | _ | _ | _ | _ | _ | _, st⟩ <;> first | exact one_none | exact one_asr (one_k _ _ _ _)
  case multianewarray j dims =>
    simp only [stepI]
    rcases kx_find (kx_C own) j with _ | ⟨ci, z⟩
    · exact one_none
    · rcases st with _ | ⟨_ | _ | _ | _ | _ | _ | _, _ | ⟨_ | _ | _ | _ | _ | _ | _, st⟩⟩ <;> first | exact one_none | exact one_asr (one_k _ _ _ _)
  case invokespecial j =>
    simp only [stepI]
    rcases kx_find (kx_E own) j with _ | ⟨m, kd, n, rt, co, z⟩
    · exact one_none
    · cases hkd : Nat.beq kd 4
      · simp only [hkd]
        generalize st.take n = tk
        generalize st.drop n = dr
        rcases dr with _ | ⟨_ | _ | _ | _ | _ | _ | _, dr⟩ <;> first | exact one_none | exact one_asr (one_retC (fun vs h => one_k _ _ _ _))
      · simp only [hkd]
        rcases st with _ | ⟨_ | _ | _ | _ | _ | _ | _, st⟩ <;> first | exact one_none | exact one_asr (one_k _ _ _ _)
  case invokestatic j =>
    simp only [stepI]
    rcases kx_find (kx_E own) j with _ | ⟨m, kd, n, rt, co, z⟩
    · exact one_none
    · intro hs
      simp only at hs
      split at hs
      · exact one_asr (one_retC (fun vs h => one_k _ _ _ _)) hs
      · exact one_cpy hs
      all_goals first
        | (cases hs; done)
        | (split at hs
           · first | exact one_asr (one_k _ _ _ _) hs | exact one_asr (one_ite one_none (one_k _ _ _ _)) hs
           · cases hs)
  case invokevirtual j =>
    simp only [stepI]
    rcases kx_find (kx_E own) j with _ | ⟨m, kd, n, rt, co, z⟩
    · exact one_none
    · by_cases h2 : kd = 0
      · subst h2
        simp only
        generalize st.take n = tk
        generalize st.drop n = dr
        rcases dr with _ | ⟨_ | _ | _ | _ | _ | _ | _, dr⟩ <;> first | exact one_none | exact one_asr (one_retC (fun vs h => one_k _ _ _ _))
      · by_cases h3 : kd = 10
        · subst h3
          rcases st with _ | ⟨_ | _ | _ | _ | _ | _ | _, st⟩ <;> first | exact one_none | exact one_asr (one_k _ _ _ _)
        · by_cases h4 : kd = 11
          · subst h4
            rcases st with _ | ⟨_ | _ | _ | _ | _ | _ | _, _ | ⟨_ | _ | _ | _ | _ | _ | _, st⟩⟩ <;> first | exact one_none | exact one_asr (one_k _ _ _ _)
          · intro hs
            simp only at hs
            cases hs
  all_goals intro hs
  all_goals simp only [stepI] at hs
  all_goals repeat' (split at hs)
  all_goals first
    | exact one_k _ _ _ _ hs
    | exact one_const _ hs
    | exact one_asr (one_k _ _ _ _) hs
    | exact one_asr (one_asr (one_k _ _ _ _)) hs
    | exact one_asr (one_const _) hs
    | exact one_jmp (fun t => one_k _ _ _ _) hs
    | exact one_asr (one_swT (fun o => one_jmp (fun t => one_k _ _ _ _)) (one_jmp (fun t => one_k _ _ _ _)) _ _) hs
    | exact one_asr (one_swL (fun o => one_jmp (fun t => one_k _ _ _ _)) (one_jmp (fun t => one_k _ _ _ _)) _) hs
    | (cases hs; done)
    | (rename_i hq; simp only [stepI, hq]; first | exact one_k _ _ _ _ hs | exact one_asr (one_k _ _ _ _) hs | exact one_asr (one_asr (one_k _ _ _ _)) hs | exact one_jmp (fun t => one_k _ _ _ _) hs)
    | (rename_i hq; simp only [stepI, if_pos hq]; first | exact one_k _ _ _ _ hs | exact one_jmp (fun t => one_k _ _ _ _) hs)
    | (rename_i hq; simp only [stepI, if_neg hq]; first | exact one_k _ _ _ _ hs | exact one_jmp (fun t => one_k _ _ _ _) hs)
theorem stepK_one (G : PG) (call : Nat → List Value → PH → PR) (own : Nat) (ini : Bool) (ret : Option FieldType) (c : KC) (pc : Nat) (l st : List Value) (h : PH) (k : PK) (r : Option Value × PH) : One (fun k => stepK G call own ini ret c pc l st h k) k r := by
  unfold stepK
  rcases kx_find c pc with _ | ⟨i, len⟩
  · exact one_none
  · exact stepI_one G call own ini ret i len pc l st h k r
theorem stepK_mono {G : PG} {call : Nat → List Value → PH → PR} {own : Nat} {ini : Bool} {ret : Option FieldType} {c : KC} {pc : Nat} {l st : List Value} {h : PH} {k k' : PK} {r : Option Value × PH} (hk : ∀ pc l st h, k pc l st h = some r → k' pc l st h = some r) (hs : stepK G call own ini ret c pc l st h k = some r) : stepK G call own ini ret c pc l st h k' = some r := by
  rcases stepK_one G call own ini ret c pc l st h k r hs with h1 | ⟨a, b, e, f, h1, h2⟩
  · exact h1 k'
  · exact (h2 k').trans (hk _ _ _ _ h1)
theorem runN_succ {G : PG} {call : Nat → List Value → PH → PR} {own : Nat} {ini : Bool} {ret : Option FieldType} {c : KC} {r : Option Value × PH} : ∀ (n pc : Nat) (l st : List Value) (h : PH), runN G call own ini ret c n pc l st h = some r → runN G call own ini ret c (n + 1) pc l st h = some r
  | 0, _, _, _, _, hr => by cases hr
  | n + 1, _, _, _, _, hr => stepK_mono (fun pc l st h q => runN_succ n pc l st h q) hr
theorem runN_mono {G : PG} {call : Nat → List Value → PH → PR} {own : Nat} {ini : Bool} {ret : Option FieldType} {c : KC} {r : Option Value × PH} {n m pc : Nat} {l st : List Value} {h : PH} (hnm : n ≤ m) (hr : runN G call own ini ret c n pc l st h = some r) : runN G call own ini ret c m pc l st h = some r := by
  induction hnm with
  | refl => exact hr
  | step _ ih => exact runN_succ _ _ _ _ _ ih
theorem opt_eq {α : Type} {x y : Option α} (h : ∀ r, x = some r ↔ y = some r) : x = y := by
  cases x with
  | none => cases y with
    | none => rfl
    | some r => exact ((h r).mpr rfl)
  | some r => exact ((h r).mp rfl).symm
theorem runL_some {G : PG} {d own : Nat} {ini : Bool} {ret : Option FieldType} {c : KC} {pc : Nat} {l st : List Value} {h : PH} {r : Option Value × PH} : runL G d own ini ret c pc l st h = some r ↔ ∃ n, runN G (exec G d) own ini ret c n pc l st h = some r := by
  unfold runL
  constructor
  · exact lim_some
  · rintro ⟨n, hn⟩
    exact lim_of (f := fun n => runN G (exec G d) own ini ret c n pc l st h) (fun n m r h q => runN_mono h q) hn
theorem runL_step {G : PG} {d own : Nat} {ini : Bool} {ret : Option FieldType} {c : KC} (pc : Nat) (l st : List Value) (h : PH) : runL G d own ini ret c pc l st h = stepK G (exec G d) own ini ret c pc l st h (runL G d own ini ret c) := by
  apply opt_eq
  intro r
  rw [runL_some]
  constructor
  · rintro ⟨n, hn⟩
    cases n with
    | zero => cases hn
    | succ n => exact stepK_mono (fun pc l st h q => runL_some.mpr ⟨n, q⟩) hn
  · intro hs
    rcases stepK_one G (exec G d) own ini ret c pc l st h _ r hs with h1 | ⟨a, b, e, f, h1, h2⟩
    · exact ⟨1, h1 _⟩
    · obtain ⟨n, hn⟩ := runL_some.mp h1
      exact ⟨n + 1, (h2 _).trans hn⟩
theorem stepK_congr {G : PG} {call : Nat → List Value → PH → PR} {own : Nat} {ini : Bool} {ret : Option FieldType} {c : KC} {pc : Nat} {l st : List Value} {h : PH} {k k' : PK} (hk : ∀ pc l st h, k pc l st h = k' pc l st h) : stepK G call own ini ret c pc l st h k = stepK G call own ini ret c pc l st h k' := by
  have e : k = k' := funext fun pc => funext fun l => funext fun st => funext fun h => hk pc l st h
  rw [e]
theorem runL_K {G : PG} {d own : Nat} {ini : Bool} {ret : Option FieldType} {c : KC} (stops : List Nat) : ∀ (n pc : Nat) (l st : List Value) (h : PH), runL G d own ini ret c pc l st h = runK G (exec G d) own ini ret c stops (runL G d own ini ret c) n pc l st h
  | 0, _, _, _, _ => rfl
  | n + 1, pc, l, st, h => by
    rw [runL_step]
    refine stepK_congr fun pc l st h => ?_
    cases stops.contains pc
    · exact runL_K stops n pc l st h
    · rfl
theorem exec_M {G : PG} {d m own : Nat} {ini : Bool} {ret : Option FieldType} {maxL : Nat} {c : KC} (hm : kx_M m = some (own, ini, ret, maxL, c)) (as : List Value) (h : PH) (hl : Nat.ble (spread as).length maxL = true) : exec G (d + 1) m as h = runL G d own ini ret c 0 (pad as maxL) [] h := by
  show (match kx_M m with
    | some (own, ini, ret, maxL, c) => asr (Nat.ble (spread as).length maxL) (lim (fun n => runN G (exec G d) own ini ret c n 0 (pad as maxL) [] h))
    | none => none) = _
  rw [hm]
  show asr (Nat.ble (spread as).length maxL) _ = _
  rw [hl]
  rfl
