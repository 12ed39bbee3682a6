-- PART: how the machine's heap and locals hold a pure heap and pure locals.
/-- the script's address, the first new address, classes and slots, array classes, addresses of the texts -/
abbrev Wd : Type := Nat × Nat × va_G × (Nat → ClassId) × (Nat → Nat)
def wb (w : Wd) : Nat := w.1
def wo (w : Wd) : Nat := w.2.1
def wD (w : Wd) : va_G := w.2.2.1
def wA (w : Wd) : Nat → ClassId := w.2.2.2.1
def wS (w : Wd) : Nat → Nat := w.2.2.2.2
def ra (w : Wd) (r : Nat) : Nat := if r = 1 then wb w else wo w + (r - 2)
def ro (w : Wd) (r : Nat) : Option Nat := if r = 0 then none else some (ra w r)
def tv (w : Wd) (v : Value) : Value := match v with
  | .ref r => va_rf (ro w r)
  | .retAddr s => .ref (wS w s)
  | .int x => .int x
  | .long x => .long x
  | v => v
def kx_at (k : Nat) : FieldType := match k with
  | 2 => .boolean
  | 3 => .byte
  | 4 => .long
  | 5 => .object "HallClock$Dial"
  | 6 => .object "HallClock$Strip"
  | 7 => .array .int
  | 8 => .array .byte
  | _ => .int
def tys (w : Wd) : List (ClassId × FieldType) := (List.range 9).map (fun k => (wA w k, kx_at k))
def encF (w : Wd) (G : PG) (h : PH) (x ci : Nat) : List Value := (List.range (kx_N ci)).map (fun j => tv w (fval G h x j (kx_tc ci j)))
def encA (w : Wd) (G : PG) (h : PH) (x k : Nat) : vp_A := (kx_L x, match k with
  | 1 => .inl (fun j => hI h x j)
  | 2 => .inl (fun j => hI h x j)
  | 3 => .inl (fun j => hI h x j)
  | 4 => .inr (.inl (fun j => hJ h x j))
  | _ => .inr (.inr (.inr (.inr (fun j => ro w (rdA G h x j))))))
def enc (w : Wd) (G : PG) (h : PH) (x : Nat) : va_E := if 20 ≤ kx_K x then .inr (kx_K x - 20, encF w G h x (kx_K x - 20)) else .inl (wA w (kx_K x), encA w G h x (kx_K x))
def ws (w : Wd) (G : PG) (h : PH) : va_W := (List.range (hN h - 2)).map (fun i => (wo w + i, enc w G h (i + 2)))
theorem tv_cat (w : Wd) (v : Value) : (tv w v).category = v.category := by
  cases v with
  | ref r =>
    show (va_rf (ro w r)).category = 1
    cases ro w r <;> rfl
  | _ => rfl
theorem scat_tv (w : Wd) : ∀ st : List Value, ((st.map (tv w)).map fun v => v.category).sum = scat st
  | [] => rfl
  | v :: t => by
    show (tv w v).category + _ = v.category + scat t
    rw [tv_cat, ← scat_tv w t]
    rfl
theorem ws_len (w : Wd) (G : PG) (h : PH) : (ws w G h).length = hN h - 2 := by simp [ws]
theorem ws_get (w : Wd) (G : PG) {h : PH} {x : Nat} (h2 : 2 ≤ x) (hx : x < hN h) : (ws w G h)[x - 2]? = some (ra w x, enc w G h x) := by
  have e : x - 2 < hN h - 2 := by omega
  have e2 : x - 2 + 2 = x := by omega
  simp only [ws, List.getElem?_map, List.getElem?_range e, Option.map_some, e2]
  rw [ra, if_neg (by omega)]
theorem ws_set (w : Wd) (G : PG) {h h' : PH} {x : Nat} (hn : hN h' = hN h) (h2 : 2 ≤ x) (hne : ∀ y, y ≠ x → enc w G h' y = enc w G h y) {q : Nat} (hq : q = ra w x) : (ws w G h).set (x - 2) (q, enc w G h' x) = ws w G h' := by
  apply List.ext_getElem?
  intro i
  rw [List.getElem?_set]
  simp only [ws_len]
  by_cases hi : i < hN h - 2
  · by_cases e : x - 2 = i
    · subst e
      have e2 : x - 2 + 2 = x := by omega
      simp only [if_true, hi, ws, List.getElem?_map, hn, List.getElem?_range hi, Option.map_some, e2, hq, ra, if_neg (show ¬ x = 1 by omega)]
    · simp only [if_neg e, ws, List.getElem?_map, hn, List.getElem?_range hi, Option.map_some]
      rw [hne (i + 2) (by omega)]
  · have z1 : (ws w G h')[i]? = none := List.getElem?_eq_none (by rw [ws_len, hn]; omega)
    have z2 : (ws w G h)[i]? = none := List.getElem?_eq_none (by rw [ws_len]; omega)
    rw [z1, z2]
    by_cases e : x - 2 = i
    · simp [e, hi]
    · rw [if_neg e]
def wAd (w : Wd) : Nat → Prop := fun q => wo w ≤ q
theorem ws_D (w : Wd) (G : PG) (h : PH) : va_D (wAd w) (ws w G h) := by
  refine ⟨fun i j p q hi hj e => ?_, fun k q hk => ?_⟩
  · simp only [ws, List.getElem?_map, Option.map_eq_some_iff] at hi hj
    obtain ⟨a, ha, rfl⟩ := hi
    obtain ⟨b, hb, rfl⟩ := hj
    obtain ⟨h1, rfl⟩ := List.getElem?_eq_some_iff.mp ha
    obtain ⟨h2, rfl⟩ := List.getElem?_eq_some_iff.mp hb
    simp only [List.getElem_range] at e
    omega
  · simp only [ws, List.getElem?_map, Option.map_eq_some_iff] at hk
    obtain ⟨a, ha, rfl⟩ := hk
    exact Nat.le_add_right _ _
-- locals
def isD (v : Value) : Bool := match v with
  | .double _ => true
  | _ => false
def LV (w : Wd) (nL : Nat) (l : List Value) (ls : Array Slot) : Prop := ls.size = nL ∧ l.length = nL ∧ lv_wf ls ∧ ∀ (i : Nat) (v : Value), l[i]? = some v → isD v = false → ls[i]? = some (Slot.val (tv w v))
def prs (w : Wd) (l : List Value) : List (Nat × Value) := l.zipIdx.filterMap (fun q => if isD q.1 then none else some (q.2, tv w q.1))
theorem prs_mem {w : Wd} {l : List Value} {q : Nat × Value} : q ∈ prs w l ↔ ∃ v, l[q.1]? = some v ∧ isD v = false ∧ q.2 = tv w v := by
  simp only [prs, List.mem_filterMap]
  constructor
  · rintro ⟨⟨v, i⟩, h1, h2⟩
    by_cases hv : isD v = true
    · simp [hv] at h2
    · simp only [hv] at h2
      simp only [Bool.false_eq_true, if_false, Option.some.injEq] at h2
      subst h2
      have := List.mem_zipIdx_iff_getElem?.mp h1
      exact ⟨v, this, by simpa using hv, rfl⟩
  · rintro ⟨v, h1, h2, h3⟩
    refine ⟨(v, q.1), List.mem_zipIdx_iff_getElem?.mpr h1, ?_⟩
    simp [h2, ← h3]
theorem LV.has {w : Wd} {nL : Nat} {l : List Value} {ls : Array Slot} (h : LV w nL l ls) : lv_has ls nL (prs w l) := by
  refine ⟨h.1, h.2.2.1, fun q hq => ?_⟩
  obtain ⟨v, h1, h2, h3⟩ := prs_mem.mp hq
  rw [h3]
  exact h.2.2.2 _ v h1 h2
theorem nth_get : ∀ (l : List Value) (i : Nat), isD (nth l i) = false → l[i]? = some (nth l i)
  | [], _, h => by cases h
  | a :: _, 0, _ => rfl
  | _ :: t, i + 1, h => by
    simp only [List.getElem?_cons_succ]
    exact nth_get t i h
theorem LV.at {w : Wd} {nL : Nat} {l : List Value} {ls : Array Slot} (h : LV w nL l ls) {i : Nat} {v : Value} (hv : nth l i = v) (hd : isD v = false) : ls[i]? = some (Slot.val (tv w v)) := by
  subst hv
  exact h.2.2.2 i _ (nth_get l i hd) hd
theorem LV.lt {w : Wd} {nL : Nat} {l : List Value} {ls : Array Slot} (h : LV w nL l ls) {i : Nat} {v : Value} (hv : nth l i = v) (hd : isD v = false) : i < nL := by
  subst hv
  have := nth_get l i hd
  rw [← h.2.1]
  exact (List.getElem?_eq_some_iff.mp this).1
theorem stl_len : ∀ (l : List Value) (j : Nat) (v : Value), (stl l j v).length = l.length
  | [], _, _ => rfl
  | _ :: _, 0, _ => rfl
  | a :: t, i + 1, v => by simp [stl, stl_len t i v]
theorem stl_get : ∀ (l : List Value) (j : Nat) (v : Value) (i : Nat), (stl l j v)[i]? = if i = j then (if j < l.length then some v else none) else if i + 1 = j then l[i]?.map kl else l[i]?
  | [], j, v, i => by simp [stl]
  | a :: t, 0, v, i => by
    cases i with
    | zero => simp [stl]
    | succ i => simp [stl]
  | a :: t, j + 1, v, i => by
    cases i with
    | zero =>
      cases j with
      | zero => simp [stl]
      | succ j => simp [stl]
    | succ i =>
      simp only [stl, List.getElem?_cons_succ, stl_get t j v i, Nat.add_right_cancel_iff, List.length_cons, Nat.add_lt_add_iff_right]
theorem LV.store {w : Wd} {nL : Nat} {l : List Value} {ls ls' : Array Slot} {j : Nat} {v : Value} (h : LV w nL l ls) (h' : lv_has ls' nL ((j, tv w v) :: (prs w l).filter (fun q => !(q.1 == j) && !(q.1 + 1 == j && q.2.category == 2)))) : LV w nL (stl l j v) ls' := by
  refine ⟨h'.1, by rw [stl_len]; exact h.2.1, h'.2.1, fun i u hu hd => ?_⟩
  rw [stl_get] at hu
  by_cases e : i = j
  · subst e
    simp only [if_true] at hu
    by_cases hl : i < l.length
    · simp only [hl, if_true, Option.some.injEq] at hu
      subst hu
      exact h'.2.2 _ List.mem_cons_self
    · simp [hl] at hu
  · rw [if_neg e] at hu
    by_cases e1 : i + 1 = j
    · rw [if_pos e1] at hu
      obtain ⟨z, hz, rfl⟩ := Option.map_eq_some_iff.mp hu
      have hz2 : kl z = z ∧ ¬ z.category = 2 := by
        cases z <;> first | (cases hd; done) | exact ⟨rfl, by simp [Value.category]⟩
      refine h'.2.2 (i, tv w (kl z)) (List.mem_cons_of_mem _ (List.mem_filter.mpr ⟨prs_mem.mpr ⟨z, hz, by rw [hz2.1] at hd; exact hd, by rw [hz2.1]⟩, ?_⟩))
      simp [e, tv_cat, hz2.1, hz2.2]
    · rw [if_neg e1] at hu
      refine h'.2.2 (i, tv w u) (List.mem_cons_of_mem _ (List.mem_filter.mpr ⟨prs_mem.mpr ⟨u, hu, hd, rfl⟩, ?_⟩))
      simp [e, e1]
theorem LV.store2 {w : Wd} {nL : Nat} {l : List Value} {ls ls' : Array Slot} {j : Nat} {v : Value} (h : LV w nL l ls) (h' : lv_has ls' nL ((j, tv w v) :: (prs w l).filter (fun q => !(q.1 == j) && (!(q.1 == j + 1) && !(q.1 + 1 == j && q.2.category == 2))))) : LV w nL ((stl l j v).set (j + 1) dm) ls' := by
  refine ⟨h'.1, by rw [List.length_set, stl_len]; exact h.2.1, h'.2.1, fun i u hu hd => ?_⟩
  rw [List.getElem?_set] at hu
  by_cases e0 : j + 1 = i
  · rw [if_pos e0] at hu
    by_cases hl : j + 1 < (stl l j v).length
    · rw [if_pos hl] at hu
      cases hu
      cases hd
    · rw [if_neg hl] at hu
      cases hu
  rw [if_neg e0, stl_get] at hu
  by_cases e : i = j
  · subst e
    simp only [if_true] at hu
    by_cases hl : i < l.length
    · simp only [hl, if_true, Option.some.injEq] at hu
      subst hu
      exact h'.2.2 _ List.mem_cons_self
    · simp [hl] at hu
  · rw [if_neg e] at hu
    by_cases e1 : i + 1 = j
    · rw [if_pos e1] at hu
      obtain ⟨z, hz, rfl⟩ := Option.map_eq_some_iff.mp hu
      have hz2 : kl z = z ∧ ¬ z.category = 2 := by
        cases z <;> first | (cases hd; done) | exact ⟨rfl, by simp [Value.category]⟩
      refine h'.2.2 (i, tv w (kl z)) (List.mem_cons_of_mem _ (List.mem_filter.mpr ⟨prs_mem.mpr ⟨z, hz, by rw [hz2.1] at hd; exact hd, by rw [hz2.1]⟩, ?_⟩))
      simp [e, tv_cat, hz2.1, hz2.2]
      try omega
    · rw [if_neg e1] at hu
      refine h'.2.2 (i, tv w u) (List.mem_cons_of_mem _ (List.mem_filter.mpr ⟨prs_mem.mpr ⟨u, hu, hd, rfl⟩, ?_⟩))
      simp [e, e1]
      try omega
