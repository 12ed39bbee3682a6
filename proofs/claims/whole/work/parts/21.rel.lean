-- PART: the mathematical state: one row of numbers A (the reference's row a; NONE as 0, a branch as its number + 1 where NONE may stand).
def dom (k : Nat) : Bool := Nat.blt k 12 || ((Nat.ble 20 k && Nat.blt k 36) || ((Nat.ble 40 k && Nat.blt k 168) || ((Nat.ble 170 k && Nat.blt k 298) || ((Nat.ble 300 k && Nat.blt k 316) || (Nat.ble 320 k && Nat.blt k 440)))))
def prm (c : Nat) : Nat := [0, 1, 2, 3, 5, 6, 7, 4].getD c 0
def ipr (c : Nat) : Nat := [0, 1, 2, 3, 7, 4, 5, 6].getD c 0
/-- where the class keeps the number k -/
def loc (k : Nat) : Nat × Nat :=
  if k < 12 then [(3, 0), (3, 1), (3, 2), (4, 0), (3, 3), (3, 4), (3, 5), (8, 3), (8, 0), (8, 1), (8, 2), (9, 0)].getD k (0, 0)
  else if k < 28 then (5, k - 20) else if k < 36 then (6, k - 28) else if k < 168 then (33 + (k - 40) / 8, prm ((k - 40) % 8))
  else if k < 298 then (17 + (k - 170) / 8, prm ((k - 170) % 8)) else if k < 308 then (10, k - 300) else if k < 316 then (11, k - 308)
  else (13 + (k - 320) % 4, (k - 320) / 4)
def unl (a f : Nat) : Nat :=
  if a = 3 then [0, 1, 2, 4, 5, 6].getD f 0 else if a = 4 then 3 else if a = 5 then 20 + f else if a = 6 then 28 + f else if a = 8 then [8, 9, 10, 7].getD f 0 else if a = 9 then 11 else if a = 10 then 300 + f else if a = 11 then 308 + f
  else if a < 17 then 320 + 4 * f + (a - 13) else if a < 33 then 170 + 8 * (a - 17) + ipr f else 40 + 8 * (a - 33) + ipr f
theorem dom_lt {k : Nat} (h : dom k = true) : k < 440 := by
  rcases Nat.lt_or_ge k 440 with q | q
  · exact q
  · unfold dom at h
    simp only [Bool.or_eq_true, Bool.and_eq_true] at h
    have e : ∀ n, Nat.blt k n = true → k < n := fun n z => Nat.le_of_ble_eq_true z
    rcases h with z | z | z | z | z | z
    · have := e _ z; omega
    · have := e _ z.2; omega
    · have := e _ z.2; omega
    · have := e _ z.2; omega
    · have := e _ z.2; omega
    · have := e _ z.2; omega
theorem loc_all : (List.range 440).all (fun k => !(dom k) || (Nat.beq (unl (loc k).1 (loc k).2) k && (Nat.ble 3 (loc k).1 && Nat.ble (loc k).1 48))) = true := by decide +kernel
theorem loc_in {k : Nat} (h : dom k = true) : unl (loc k).1 (loc k).2 = k ∧ 3 ≤ (loc k).1 ∧ (loc k).1 ≤ 48 := by
  have h1 := List.all_eq_true.mp loc_all k (List.mem_range.mpr (dom_lt h))
  simp only [h, Bool.not_true, Bool.false_or, Bool.and_eq_true] at h1
  exact ⟨Nat.eq_of_beq_eq_true h1.1, Nat.le_of_ble_eq_true h1.2.1, Nat.le_of_ble_eq_true h1.2.2⟩
def sv (k n : Nat) : Int32 := if k = 6 ∨ (20 ≤ k ∧ k < 28) ∨ (300 ≤ k ∧ k < 308) then nI n - nI 1 else nI n
def RC (h : PH) (o : Nat) (A : Nat → Nat) : Prop := ∀ k, dom k = true → hI h (o + (loc k).1) (loc k).2 = sv k (A k)
def RM (h : PH) (c : Nat) (A : Nat → Nat) : Prop := ∀ k, k < 440 → hI h c k = sv k (A k)
def ud (A : Nat → Nat) (k n : Nat) : Nat → Nat := fun j => if j = k then n else A j
theorem ud_at (A : Nat → Nat) (k n : Nat) : ud A k n k = n := if_pos rfl
theorem ud_ne (A : Nat → Nat) {k n j : Nat} (h : j ≠ k) : ud A k n j = A j := if_neg h
theorem RC.congr {h h' : PH} {o : Nat} {A : Nat → Nat} (hR : RC h o A) (hc : ∀ a, o + 3 ≤ a → a ≤ o + 48 → hI h' a = hI h a) : RC h' o A := by
  intro k hk
  obtain ⟨-, h1, h2⟩ := loc_in hk
  rw [hc _ (by omega) (by omega)]
  exact hR k hk
theorem RM.congr {h h' : PH} {c : Nat} {A : Nat → Nat} (hR : RM h c A) (hc : hI h' c = hI h c) : RM h' c A := by
  intro k hk
  rw [hc]
  exact hR k hk
theorem RC.set {h : PH} {o : Nat} {A : Nat → Nat} (hR : RC h o A) {k n a f : Nat} {v : Int32} (hd : dom k = true) (ha : a = o + (loc k).1) (hf : f = (loc k).2) (hv : v = sv k n) : RC (wI h a f v) o (ud A k n) := by
  intro j hj
  rw [hI_wI]
  by_cases e : j = k
  · subst e
    rw [if_pos ⟨ha.symm, hf.symm⟩, ud_at, hv]
  · rw [if_neg, ud_ne A e]
    · exact hR j hj
    · rintro ⟨q1, q2⟩
      have e1 : (loc j).1 = (loc k).1 := by omega
      have e2 : (loc j).2 = (loc k).2 := by rw [q2, hf]
      have := (loc_in hj).1
      rw [e1, e2, (loc_in hd).1] at this
      exact e this.symm
theorem RM.set {h : PH} {c : Nat} {A : Nat → Nat} (hR : RM h c A) {k n : Nat} {v : Int32} (hv : v = sv k n) : RM (wI h c k v) c (ud A k n) := by
  intro j hj
  rw [hI_wI]
  by_cases e : j = k
  · subst e
    rw [if_pos ⟨rfl, rfl⟩, ud_at, hv]
  · rw [if_neg (fun q => e q.2), ud_ne A e]
    exact hR j hj
theorem hI_wI_ne {h : PH} {a k : Nat} {v : Int32} {x : Nat} (hx : x ≠ a) : hI (wI h a k v) x = hI h x := wI_ne hx
theorem okA_of {L : Nat} {h : PH} {a k : Nat} (hk : kx_K a = k) (ha : a < 289) : okA (g2 L) h a k = true := by
  unfold okA alive
  rw [hk, show Nat.blt a (g2 L).1 = true from Nat.ble_eq_true_of_le ha]
  simp
theorem okW_of {L : Nat} {h : PH} {a k : Nat} (hk : kx_K a = k) (h2 : 2 ≤ a) (ha : a < 289) : okW (g2 L) h a k = true := by
  unfold okW alive
  rw [hk, show Nat.blt a (g2 L).1 = true from Nat.ble_eq_true_of_le ha, show Nat.blt 1 a = true from Nat.ble_eq_true_of_le h2]
  simp
theorem kk_all : ((List.range 16).all (fun i => Nat.beq (kx_K (33 + i)) 24 && (Nat.beq (kx_K (17 + i)) 24 && (Nat.beq (kx_K (63 + i)) 24 && (Nat.beq (kx_K (79 + i)) 24 && (Nat.beq (kx_K (165 + i)) 1 && (Nat.beq (kx_L (165 + i)) 4 && (Nat.beq (kx_K (182 + i)) 1 && Nat.beq (kx_L (182 + i)) 91))))))) && ((List.range 31).all (fun i => Nat.beq (kx_K (97 + i)) 1 && Nat.beq (kx_L (97 + i)) 20) && ((List.range 8).all (fun i => Nat.beq (kx_K (129 + i)) 1 && (Nat.beq (kx_L (129 + i)) 1024 && (Nat.beq (kx_K (138 + i)) 3 && Nat.beq (kx_L (138 + i)) 1024))) && (List.range 11).all (fun i => Nat.beq (kx_K (147 + i)) 1 && Nat.beq (kx_L (147 + i)) 121)))) = true := by decide +kernel
theorem kk16 {i : Nat} (hi : i < 16) : kx_K (33 + i) = 24 ∧ kx_K (17 + i) = 24 ∧ kx_K (63 + i) = 24 ∧ kx_K (79 + i) = 24 ∧ kx_K (165 + i) = 1 ∧ kx_L (165 + i) = 4 ∧ kx_K (182 + i) = 1 ∧ kx_L (182 + i) = 91 := by
  have h := kk_all
  simp only [Bool.and_eq_true] at h
  have h1 := List.all_eq_true.mp h.1 i (List.mem_range.mpr hi)
  simp only [Bool.and_eq_true] at h1
  obtain ⟨a, b, c, d, e, f, g, k⟩ := h1
  exact ⟨Nat.eq_of_beq_eq_true a, Nat.eq_of_beq_eq_true b, Nat.eq_of_beq_eq_true c, Nat.eq_of_beq_eq_true d, Nat.eq_of_beq_eq_true e, Nat.eq_of_beq_eq_true f, Nat.eq_of_beq_eq_true g, Nat.eq_of_beq_eq_true k⟩
theorem kk31 {i : Nat} (hi : i < 31) : kx_K (97 + i) = 1 ∧ kx_L (97 + i) = 20 := by
  have h := kk_all
  simp only [Bool.and_eq_true] at h
  have h1 := List.all_eq_true.mp h.2.1 i (List.mem_range.mpr hi)
  simp only [Bool.and_eq_true] at h1
  exact ⟨Nat.eq_of_beq_eq_true h1.1, Nat.eq_of_beq_eq_true h1.2⟩
theorem kk8 {i : Nat} (hi : i < 8) : kx_K (129 + i) = 1 ∧ kx_L (129 + i) = 1024 ∧ kx_K (138 + i) = 3 ∧ kx_L (138 + i) = 1024 := by
  have h := kk_all
  simp only [Bool.and_eq_true] at h
  have h1 := List.all_eq_true.mp h.2.2.1 i (List.mem_range.mpr hi)
  simp only [Bool.and_eq_true] at h1
  exact ⟨Nat.eq_of_beq_eq_true h1.1, Nat.eq_of_beq_eq_true h1.2.1, Nat.eq_of_beq_eq_true h1.2.2.1, Nat.eq_of_beq_eq_true h1.2.2.2⟩
theorem kk11 {i : Nat} (hi : i < 11) : kx_K (147 + i) = 1 ∧ kx_L (147 + i) = 121 := by
  have h := kk_all
  simp only [Bool.and_eq_true] at h
  have h1 := List.all_eq_true.mp h.2.2.2 i (List.mem_range.mpr hi)
  simp only [Bool.and_eq_true] at h1
  exact ⟨Nat.eq_of_beq_eq_true h1.1, Nat.eq_of_beq_eq_true h1.2⟩
theorem lenA_of {L a : Nat} (ha : 2 ≤ a) : lenA (g2 L) a = kx_L a := lenA_ne ha
-- the places
theorem loc_d {d c : Nat} (hd : d < 16) (hc : c < 8) : loc (40 + 8 * d + c) = (33 + d, prm c) ∧ dom (40 + 8 * d + c) = true := by
  have key : ∀ d, d < 16 → ∀ c, c < 8 → loc (40 + 8 * d + c) = (33 + d, prm c) ∧ dom (40 + 8 * d + c) = true := by decide +kernel
  exact key d hd c hc
theorem loc_w {d c : Nat} (hd : d < 16) (hc : c < 8) : loc (170 + 8 * d + c) = (17 + d, prm c) ∧ dom (170 + 8 * d + c) = true := by
  have key : ∀ d, d < 16 → ∀ c, c < 8 → loc (170 + 8 * d + c) = (17 + d, prm c) ∧ dom (170 + 8 * d + c) = true := by decide +kernel
  exact key d hd c hc
theorem loc_b {b : Nat} (hb : b < 8) : (loc (20 + b) = (5, b) ∧ dom (20 + b) = true) ∧ (loc (28 + b) = (6, b) ∧ dom (28 + b) = true) ∧ (loc (300 + b) = (10, b) ∧ dom (300 + b) = true) ∧ (loc (308 + b) = (11, b) ∧ dom (308 + b) = true) := by
  have key : ∀ b, b < 8 → (loc (20 + b) = (5, b) ∧ dom (20 + b) = true) ∧ (loc (28 + b) = (6, b) ∧ dom (28 + b) = true) ∧ (loc (300 + b) = (10, b) ∧ dom (300 + b) = true) ∧ (loc (308 + b) = (11, b) ∧ dom (308 + b) = true) := by decide +kernel
  exact key b hb
theorem loc_r {i c : Nat} (hi : i < 30) (hc : c < 4) : loc (320 + 4 * i + c) = (13 + c, i) ∧ dom (320 + 4 * i + c) = true := by
  have key : ∀ i, i < 30 → ∀ c, c < 4 → loc (320 + 4 * i + c) = (13 + c, i) ∧ dom (320 + 4 * i + c) = true := by decide +kernel
  exact key i hi c hc
theorem sv_p {k n : Nat} (h : ¬ (k = 6 ∨ (20 ≤ k ∧ k < 28) ∨ (300 ≤ k ∧ k < 308))) : sv k n = nI n := if_neg h
theorem sv_m {k n : Nat} (h : k = 6 ∨ (20 ≤ k ∧ k < 28) ∨ (300 ≤ k ∧ k < 308)) : sv k n = nI n - nI 1 := if_pos h
section Acc
variable {h : PH} {o : Nat} {A : Nat → Nat}
theorem RC.mn (hR : RC h o A) : hI h (o + 3) 0 = nI (A 0) := hR 0 rfl
theorem RC.sg (hR : RC h o A) : hI h (o + 3) 1 = nI (A 1) := hR 1 rfl
theorem RC.sp (hR : RC h o A) : hI h (o + 3) 2 = nI (A 2) := hR 2 rfl
theorem RC.nb (hR : RC h o A) : hI h (o + 4) 0 = nI (A 3) := hR 3 rfl
theorem RC.nd (hR : RC h o A) : hI h (o + 3) 3 = nI (A 4) := hR 4 rfl
theorem RC.ns (hR : RC h o A) : hI h (o + 3) 4 = nI (A 5) := hR 5 rfl
theorem RC.ch (hR : RC h o A) : hI h (o + 3) 5 = nI (A 6) - nI 1 := hR 6 rfl
theorem RC.rd (hR : RC h o A) : hI h (o + 8) 3 = nI (A 7) := hR 7 rfl
theorem RC.wn (hR : RC h o A) : hI h (o + 8) 0 = nI (A 8) := hR 8 rfl
theorem RC.ws (hR : RC h o A) : hI h (o + 8) 1 = nI (A 9) := hR 9 rfl
theorem RC.wd (hR : RC h o A) : hI h (o + 8) 2 = nI (A 10) := hR 10 rfl
theorem RC.wb (hR : RC h o A) : hI h (o + 9) 0 = nI (A 11) := hR 11 rfl
theorem RC.dl (hR : RC h o A) {d c : Nat} (hd : d < 16) (hc : c < 8) : hI h (o + (33 + d)) (prm c) = nI (A (40 + 8 * d + c)) := by
  obtain ⟨h1, h2⟩ := loc_d hd hc
  have := hR _ h2
  rw [h1, sv_p (by omega)] at this
  exact this
theorem RC.wl (hR : RC h o A) {d c : Nat} (hd : d < 16) (hc : c < 8) : hI h (o + (17 + d)) (prm c) = nI (A (170 + 8 * d + c)) := by
  obtain ⟨h1, h2⟩ := loc_w hd hc
  have := hR _ h2
  rw [h1, sv_p (by omega)] at this
  exact this
theorem RC.fr (hR : RC h o A) {b : Nat} (hb : b < 8) : hI h (o + 5) b = nI (A (20 + b)) - nI 1 := by
  obtain ⟨h1, h2⟩ := (loc_b hb).1
  have := hR _ h2
  rw [h1, sv_m (by omega)] at this
  exact this
theorem RC.br (hR : RC h o A) {b : Nat} (hb : b < 8) : hI h (o + 6) b = nI (A (28 + b)) := by
  obtain ⟨h1, h2⟩ := (loc_b hb).2.1
  have := hR _ h2
  rw [h1, sv_p (by omega)] at this
  exact this
theorem RC.wf (hR : RC h o A) {b : Nat} (hb : b < 8) : hI h (o + 10) b = nI (A (300 + b)) - nI 1 := by
  obtain ⟨h1, h2⟩ := (loc_b hb).2.2.1
  have := hR _ h2
  rw [h1, sv_m (by omega)] at this
  exact this
theorem RC.wk (hR : RC h o A) {b : Nat} (hb : b < 8) : hI h (o + 11) b = nI (A (308 + b)) := by
  obtain ⟨h1, h2⟩ := (loc_b hb).2.2.2
  have := hR _ h2
  rw [h1, sv_p (by omega)] at this
  exact this
theorem RC.re (hR : RC h o A) {i c : Nat} (hi : i < 30) (hc : c < 4) : hI h (o + (13 + c)) i = nI (A (320 + 4 * i + c)) := by
  obtain ⟨h1, h2⟩ := loc_r hi hc
  have := hR _ h2
  rw [h1, sv_p (by omega)] at this
  exact this
end Acc
theorem RM.at {h : PH} {c : Nat} {A : Nat → Nat} (hR : RM h c A) {k : Nat} (hk : k < 440) (hp : ¬ (k = 6 ∨ (20 ≤ k ∧ k < 28) ∨ (300 ≤ k ∧ k < 308))) : hI h c k = nI (A k) := by
  rw [hR k hk, sv_p hp]
theorem RM.am {h : PH} {c : Nat} {A : Nat → Nat} (hR : RM h c A) {k : Nat} (hk : k < 440) (hp : k = 6 ∨ (20 ≤ k ∧ k < 28) ∨ (300 ≤ k ∧ k < 308)) : hI h c k = nI (A k) - nI 1 := by
  rw [hR k hk, sv_m hp]
