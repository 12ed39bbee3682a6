-- PART: rounds, the choice of who is held.
def b0 (p : Nat) : Nat := p % 2
def b1 (p : Nat) : Nat := p / 2 % 2
def b2 (p : Nat) : Nat := p / 4 % 2
/-- each dial (a set of ways, a way a mask of rounds in which it is held) can be given a way, and no round holds more than h -/
def Okw (h : Nat) : List (Nat → Prop) → Nat → Nat → Nat → Prop
  | [], _, _, _ => True
  | w :: ws, x, y, z => ∃ p, p < 8 ∧ w p ∧ x + b0 p ≤ h ∧ y + b1 p ≤ h ∧ z + b2 p ≤ h ∧ Okw h ws (x + b0 p) (y + b1 p) (z + b2 p)
theorem Okw.le {h : Nat} : ∀ {ws : List (Nat → Prop)} {x y z x' y' z' : Nat}, Okw h ws x y z → x' ≤ x → y' ≤ y → z' ≤ z → Okw h ws x' y' z'
  | [], _, _, _, _, _, _, _, _, _, _ => trivial
  | w :: ws, x, y, z, x', y', z', ⟨p, p8, hp, h0, h1, h2, ho⟩, hx, hy, hz => ⟨p, p8, hp, by omega, by omega, by omega, ho.le (by omega) (by omega) (by omega)⟩
theorem Okw.two {h : Nat} {ws : List (Nat → Prop)} {w v : Nat → Prop} {x y z : Nat} (ho : Okw h (w :: v :: ws) x y z) : Okw h (v :: w :: ws) x y z := by
  obtain ⟨p, p8, hp, h0, h1, h2, q, q8, hq, k0, k1, k2, hr⟩ := ho
  refine ⟨q, q8, hq, by omega, by omega, by omega, p, p8, hp, by omega, by omega, by omega, ?_⟩
  rw [Nat.add_right_comm x, Nat.add_right_comm y, Nat.add_right_comm z]
  exact hr
theorem Okw.cons {h : Nat} {w : Nat → Prop} {ws vs : List (Nat → Prop)} (hi : ∀ x y z, Okw h ws x y z → Okw h vs x y z) {x y z : Nat} (ho : Okw h (w :: ws) x y z) : Okw h (w :: vs) x y z := by
  obtain ⟨p, p8, hp, h0, h1, h2, hr⟩ := ho
  exact ⟨p, p8, hp, h0, h1, h2, hi _ _ _ hr⟩
theorem Okw.up {h : Nat} {w : Nat → Prop} {ws : List (Nat → Prop)} : ∀ {cs : List (Nat → Prop)} {x y z : Nat}, Okw h (cs ++ w :: ws) x y z → Okw h (w :: (cs ++ ws)) x y z
  | [], _, _, _, ho => ho
  | c :: cs, x, y, z, ho => by
    have h1 : Okw h (c :: w :: (cs ++ ws)) x y z := Okw.cons (fun x y z => Okw.up) ho
    exact h1.two
theorem Okw.down {h : Nat} {w : Nat → Prop} {ws : List (Nat → Prop)} : ∀ {cs : List (Nat → Prop)} {x y z : Nat}, Okw h (w :: (cs ++ ws)) x y z → Okw h (cs ++ w :: ws) x y z
  | [], _, _, _, ho => ho
  | c :: cs, x, y, z, ho => by
    have h1 : Okw h (c :: w :: (cs ++ ws)) x y z := Okw.two ho
    exact Okw.cons (fun x y z => Okw.down) h1
theorem Okw_mid {h : Nat} {w : Nat → Prop} {cs ws : List (Nat → Prop)} {x y z : Nat} : Okw h (cs ++ w :: ws) x y z ↔ Okw h (w :: (cs ++ ws)) x y z := ⟨Okw.up, Okw.down⟩
/-- q holds in no round in which p does not -/
def sub8 (q p : Nat) : Prop := b0 q ≤ b0 p ∧ b1 q ≤ b1 p ∧ b2 q ≤ b2 p
theorem Okw_min {h : Nat} {w v : Nat → Prop} {ws : List (Nat → Prop)} (h1 : ∀ q, q < 8 → v q → w q) (h2 : ∀ p, p < 8 → w p → b0 p ≤ h → b1 p ≤ h → b2 p ≤ h → ∃ q, q < 8 ∧ v q ∧ sub8 q p) {x y z : Nat} : Okw h (w :: ws) x y z ↔ Okw h (v :: ws) x y z := by
  constructor
  · rintro ⟨p, p8, hp, k0, k1, k2, hr⟩
    obtain ⟨q, q8, hq, s0, s1, s2⟩ := h2 p p8 hp (by omega) (by omega) (by omega)
    exact ⟨q, q8, hq, by omega, by omega, by omega, hr.le (by omega) (by omega) (by omega)⟩
  · rintro ⟨q, q8, hq, k0, k1, k2, hr⟩
    exact ⟨q, q8, h1 q q8 hq, k0, k1, k2, hr⟩
theorem Okw_one {h : Nat} {v : Nat → Prop} {ws : List (Nat → Prop)} {p : Nat} (p8 : p < 8) (hv : ∀ q, q < 8 → (v q ↔ q = p)) {x y z : Nat} : Okw h (v :: ws) x y z ↔ (x + b0 p ≤ h ∧ y + b1 p ≤ h ∧ z + b2 p ≤ h) ∧ Okw h ws (x + b0 p) (y + b1 p) (z + b2 p) := by
  constructor
  · rintro ⟨q, q8, hq, k0, k1, k2, hr⟩
    have := (hv q q8).mp hq
    subst this
    exact ⟨⟨k0, k1, k2⟩, hr⟩
  · rintro ⟨⟨k0, k1, k2⟩, hr⟩
    exact ⟨p, p8, (hv p p8).mpr rfl, k0, k1, k2, hr⟩
theorem Okw_none {h : Nat} {v : Nat → Prop} {ws : List (Nat → Prop)} (hv : ∀ q, q < 8 → ¬ v q) {x y z : Nat} : ¬ Okw h (v :: ws) x y z := by
  rintro ⟨q, q8, hq, -⟩
  exact hv q q8 hq
/-- a set of sums goes one dial further -/
def stp (h : Nat) (w : Nat → Prop) (S : Nat → Nat → Nat → Prop) : Nat → Nat → Nat → Prop := fun x' y' z' => ∃ x y z p, S x y z ∧ p < 8 ∧ w p ∧ x' = x + b0 p ∧ y' = y + b1 p ∧ z' = z + b2 p ∧ x' ≤ h ∧ y' ≤ h ∧ z' ≤ h
def Ex3 (h : Nat) (ws : List (Nat → Prop)) (S : Nat → Nat → Nat → Prop) : Prop := ∃ x y z, S x y z ∧ Okw h ws x y z
theorem Ex3_stp {h : Nat} {w : Nat → Prop} {ws : List (Nat → Prop)} {S : Nat → Nat → Nat → Prop} : Ex3 h (w :: ws) S ↔ Ex3 h ws (stp h w S) := by
  constructor
  · rintro ⟨x, y, z, hS, p, p8, hp, k0, k1, k2, hr⟩
    exact ⟨_, _, _, ⟨x, y, z, p, hS, p8, hp, rfl, rfl, rfl, k0, k1, k2⟩, hr⟩
  · rintro ⟨x', y', z', ⟨x, y, z, p, hS, p8, hp, rfl, rfl, rfl, k0, k1, k2⟩, hr⟩
    exact ⟨x, y, z, hS, p, p8, hp, k0, k1, k2, hr⟩
/-- of two sets of sums the one has below each of the other's one of its own -/
theorem Ex3_dom {h : Nat} {ws : List (Nat → Prop)} {S T : Nat → Nat → Nat → Prop} (h1 : ∀ x y z, T x y z → S x y z) (h2 : ∀ x y z, S x y z → ∃ z', z' ≤ z ∧ T x y z') : Ex3 h ws S ↔ Ex3 h ws T := by
  constructor
  · rintro ⟨x, y, z, hS, hr⟩
    obtain ⟨z', hz, hT⟩ := h2 x y z hS
    exact ⟨x, y, z', hT, hr.le (Nat.le_refl _) (Nat.le_refl _) hz⟩
  · rintro ⟨x, y, z, hT, hr⟩
    exact ⟨x, y, z, h1 x y z hT, hr⟩
theorem Ex3_at {h : Nat} {ws : List (Nat → Prop)} {a b c : Nat} {S : Nat → Nat → Nat → Prop} (hS : ∀ x y z, S x y z ↔ x = a ∧ y = b ∧ z = c) : Ex3 h ws S ↔ Okw h ws a b c := by
  constructor
  · rintro ⟨x, y, z, hx, hr⟩
    obtain ⟨rfl, rfl, rfl⟩ := (hS x y z).mp hx
    exact hr
  · intro hr
    exact ⟨a, b, c, (hS a b c).mpr ⟨rfl, rfl, rfl⟩, hr⟩
