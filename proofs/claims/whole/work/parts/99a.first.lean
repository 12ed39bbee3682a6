-- PART: the constructors, run by the kernel once more: the numbers of a new hall.
def t3 (lo n off : Nat) (o : PR) : Bool := match o with
  | some (none, h) => (List.range n).all (fun i => !(dom (lo + i)) || decide (hI h (off + (loc (lo + i)).1) (loc (lo + i)).2 = if lo + i = 6 then -1 else 0))
  | _ => false
theorem t3_a : t3 0 220 0 lawA = true := by decide +kernel
theorem t3_b : t3 220 220 0 lawA = true := by decide +kernel
theorem t3_c : t3 0 220 46 lawA = true := by decide +kernel
theorem t3_d : t3 220 220 46 lawA = true := by decide +kernel
theorem t3_in {lo n off : Nat} {g : PH} (hg : lawA = some (none, g)) (h : t3 lo n off lawA = true) {k : Nat} (h1 : lo ≤ k) (h2 : k < lo + n) (hk : dom k = true) : hI g (off + (loc k).1) (loc k).2 = if k = 6 then -1 else 0 := by
  rw [hg] at h
  have := List.all_eq_true.mp h (k - lo) (List.mem_range.mpr (by omega))
  rw [show lo + (k - lo) = k by omega, hk, Bool.not_true, Bool.false_or] at this
  exact of_decide_eq_true this
