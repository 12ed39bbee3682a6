-- PART: the constructors, run by the kernel.
/-- calls with so much fuel for each frame -/
def execF (G : PG) (f : Nat) : Nat → Nat → List Value → PH → PR
  | 0 => fun _ _ _ => none
  | d + 1 => fun m as h => match kx_M m with
    | some (own, ini, ret, maxL, c) => asr (Nat.ble (spread as).length maxL) (runN G (execF G f d) own ini ret c f 0 (pad as maxL) [] h)
    | none => none
def h00 : PH := (2, 0, fun _ _ => 0, fun _ _ => 0, fun _ _ => 0)
def G1 : PG := (2, false, 0)
def kfin : PK := fun pc l st h => match l, st with
  | [.ref a, .ref b, .ref c, .int x], [] => bif Nat.beq pc 18 && (Nat.beq a 1 && (Nat.beq b 2 && (Nat.beq c 253 && decide (x = 0)))) then some (none, h) else none
  | _, _ => none
def lawA : PR := runK G1 (execF G1 20000 8) 12 false (some .boolean) kc_law [18] kfin 50 0 [.ref 1, dm, dm, dm] [] h00
def tRef (h : PH) : Bool := (List.range 289).all (fun a => (List.range (kx_Q a).length).all (fun k => Nat.beq ((kx_Q a).getD k 0) 0 || Nat.beq ((kx_Q a).getD k 0) (hR h a k)) && (Nat.beq (kx_A a).2 0 || (List.range (kx_L a)).all (fun i => Nat.beq (rdA (g2 0) h a i) (hR h a i))))
def i0 : List (Nat × Nat × Int32) := [(3, 0, 0), (3, 1, 0), (3, 2, 0), (3, 3, 0), (3, 4, 0), (3, 5, -1), (4, 0, 0), (8, 0, 0), (8, 1, 0), (8, 2, 0), (8, 3, 0), (49, 0, 0), (49, 1, 0), (49, 2, 0), (49, 3, 0), (49, 4, 0), (49, 5, -1), (50, 0, 0), (54, 0, 0), (54, 1, 0), (54, 2, 0), (54, 3, 0), (205, 0, 0), (207, 0, 0), (207, 1, 0), (207, 2, -1), (253, 3, 0), (253, 4, -1), (253, 5, -1)]
def tInt (h : PH) : Bool := i0.all (fun q => decide (hI h q.1 q.2.1 = q.2.2)) && ((List.range 31).all (fun i => decide (hI h (97 + i) 0 = -2)) && ((List.range 16).all (fun i => decide (hI h (165 + i) 0 = -2)) && ((List.range 440).all (fun k => decide (hI h 254 k = if k = 6 then -1 else 0) && decide (hI h 255 k = if k = 6 then -1 else 0)))))
def tAll (o : PR) : Bool := match o with
  | some (none, h) => Nat.beq (hN h) 289 && (Nat.ble (hZ h) 100000 && (tRef h && tInt h))
  | _ => false
theorem lawA_ok : tAll lawA = true := by decide +kernel
