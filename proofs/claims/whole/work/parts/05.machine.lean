-- PART: a pure machine for the claim's codes: a heap of numbers, frames as lists, calls by depth.
/-- cells (their number), slots used, ints, longs, references (0: null) -/
abbrev PH : Type := Nat × Nat × (Nat → Nat → Int32) × (Nat → Nat → Int64) × (Nat → Nat → Nat)
def hN (h : PH) : Nat := h.1
def hZ (h : PH) : Nat := h.2.1
def hI (h : PH) : Nat → Nat → Int32 := h.2.2.1
def hJ (h : PH) : Nat → Nat → Int64 := h.2.2.2.1
def hR (h : PH) : Nat → Nat → Nat := h.2.2.2.2
def up2 {α : Type} (f : Nat → Nat → α) (a k : Nat) (v : α) : Nat → Nat → α := fun x j => if x = a ∧ j = k then v else f x j
def row0 {α : Type} (f : Nat → Nat → α) (lo hi : Nat) (z : α) : Nat → Nat → α := fun x j => if lo ≤ x ∧ x < hi then z else f x j
def wI (h : PH) (a k : Nat) (v : Int32) : PH := (h.1, h.2.1, up2 h.2.2.1 a k v, h.2.2.2.1, h.2.2.2.2)
def wJ (h : PH) (a k : Nat) (v : Int64) : PH := (h.1, h.2.1, h.2.2.1, up2 h.2.2.2.1 a k v, h.2.2.2.2)
def wR (h : PH) (a k : Nat) (v : Nat) : PH := (h.1, h.2.1, h.2.2.1, h.2.2.2.1, up2 h.2.2.2.2 a k v)
/-- n new cells of sl slots -/
def alc (h : PH) (n sl : Nat) : PH := (h.1 + n, h.2.1 + sl, row0 h.2.2.1 h.1 (h.1 + n) 0, row0 h.2.2.2.1 h.1 (h.1 + n) 0, row0 h.2.2.2.2 h.1 (h.1 + n) 0)
/-- new T[N][K] -/
def alcM (h : PH) (N K : Nat) : PH := (h.1 + (1 + N), h.2.1 + (N + N * K), row0 h.2.2.1 h.1 (h.1 + (1 + N)) 0, row0 h.2.2.2.1 h.1 (h.1 + (1 + N)) 0, fun x j => if x = h.1 then (if j < N then h.1 + 1 + j else 0) else row0 h.2.2.2.2 h.1 (h.1 + (1 + N)) 0 x j)
/-- System.arraycopy of ints -/
def cpy (h : PH) (a sp b dp n : Nat) : PH := (h.1, h.2.1, fun x j => if x = b ∧ dp ≤ j ∧ j < dp + n then h.2.2.1 a (sp + (j - dp)) else h.2.2.1 x j, h.2.2.2.1, h.2.2.2.2)
abbrev PR : Type := Option (Option Value × PH)
abbrev PK : Type := Nat → List Value → List Value → PH → PR
/-- cells below it stand for sure; whether the constructors are through; the script's length -/
abbrev PG : Type := Nat × Bool × Nat
def ix (i : Int32) : Nat := i.toUInt32.toNat
def inB (i : Int32) (n : Nat) : Bool := Nat.blt (ix i) n
def lenA (G : PG) (a : Nat) : Nat := bif Nat.beq a 1 then G.2.2 else kx_L a
def alive (G : PG) (h : PH) (a : Nat) : Bool := Nat.blt a G.1 || Nat.blt a (hN h)
def okA (G : PG) (h : PH) (a k : Nat) : Bool := Nat.beq (kx_K a) k && alive G h a
def okW (G : PG) (h : PH) (a k : Nat) : Bool := Nat.beq (kx_K a) k && (Nat.blt 1 a && alive G h a)
def rdR (G : PG) (h : PH) (a k : Nat) : Nat := match G.2.1 with
  | true => (match (kx_Q a).getD k 0 with
    | 0 => hR h a k
    | r + 1 => r + 1)
  | false => hR h a k
def rdA (G : PG) (h : PH) (a i : Nat) : Nat := match G.2.1 with
  | true => (match (kx_A a).2 with
    | 0 => hR h a i
    | 1 => (kx_A a).1 + i
    | _ => (kx_A a).1 + (kx_A a).2 * i)
  | false => hR h a i
def nrZ (x : Int32) : Int32 := vp_nar .boolean x
def nrB (x : Int32) : Int32 := vp_nar .byte x
def dm : Value := .double 0
def kl (v : Value) : Value := match v with
  | .long _ => dm
  | .int x => .int x
  | .ref a => .ref a
  | v => v
def nth : List Value → Nat → Value
  | [], _ => dm
  | a :: _, 0 => a
  | _ :: t, i + 1 => nth t i
def stl : List Value → Nat → Value → List Value
  | [], _, _ => []
  | _ :: t, 0, v => v :: t
  | a :: t, i + 1, v => (match i with
    | 0 => kl a
    | _ => a) :: stl t i v
def asr (b : Bool) (x : PR) : PR := match b with
  | true => x
  | false => none
def cV (o : PR) (f : PH → PR) : PR := match o with
  | some (none, h) => f h
  | _ => none
def cI (o : PR) (f : Int32 → PH → PR) : PR := match o with
  | some (some (.int x), h) => f x h
  | _ => none
def cJ (o : PR) (f : Int64 → PH → PR) : PR := match o with
  | some (some (.long x), h) => f x h
  | _ => none
def cA (o : PR) (f : Nat → PH → PR) : PR := match o with
  | some (some (.ref x), h) => f x h
  | _ => none
def retC (rt : Nat) (o : PR) (f : List Value → PH → PR) : PR := match rt with
  | 0 => cV o (fun h => f [] h)
  | 1 => cI o (fun x h => f [.int x] h)
  | 2 => cJ o (fun x h => f [.long x] h)
  | _ => cA o (fun x h => f [.ref x] h)
def jmp (pc : Nat) (off : Int) (f : Nat → PR) : PR := match (pc : Int) + off with
  | .ofNat t => f t
  | .negSucc _ => none
def swT (x : Int32) : Int → List Int → (Int → PR) → PR → PR
  | _, [], _, d => d
  | lo, o :: t, f, d => if x = Int32.ofInt lo then f o else swT x (lo + 1) t f d
def swL (x : Int32) : List (Int × Int) → (Int → PR) → PR → PR
  | [], _, d => d
  | q :: t, f, d => if x = Int32.ofInt q.1 then f q.2 else swL x t f d
def swOk (lo hi : Int) (n : Nat) : Bool := decide ((n : Int) = hi - lo + 1 ∧ -2147483648 ≤ lo ∧ hi ≤ 2147483647 ∧ lo ≤ hi)
def slOk (ps : List (Int × Int)) : Bool := (ps.zip (ps.drop 1)).all (fun q => decide (q.1.1 < q.2.1)) && ps.all (fun q => decide (-2147483648 ≤ q.1 ∧ q.1 ≤ 2147483647))
def slen (s : Nat) : Nat := (kx_byt.getD s []).length
def schr (s i : Nat) : Int32 := (kx_byt.getD s []).getD i 0
def fval (G : PG) (h : PH) (a k tc : Nat) : Value := match tc with
  | 3 => .ref (rdR G h a k)
  | _ => .int (hI h a k)
def aOk (t : ArrayType) : Nat := match t with
  | .int => 1
  | .boolean => 2
  | .byte => 3
  | .long => 4
  | _ => 0
def cpyOk (G : PG) (h : PH) (a : Nat) (sp : Int32) (b : Nat) (dp n : Int32) : Bool := okW G h a 1 && (okW G h b 1 && (!(Nat.beq a b) && (Nat.ble (ix sp + ix n) (lenA G a) && Nat.ble (ix dp + ix n) (lenA G b))))
def spread : List Value → List Value
  | [] => []
  | v :: t => (match v with
    | .long x => .long x :: dm :: spread t
    | .double x => .double x :: dm :: spread t
    | v => v :: spread t)
def pad (as : List Value) (n : Nat) : List Value := (spread as ++ List.replicate n dm).take n
/-- Math.floorMod -/
def fmod (x y : Int32) : Int32 := if 0 ≤ x ^^^ y then x % y else if x % y = 0 then x % y else x % y + y
def scat : List Value → Nat
  | [] => 0
  | v :: t => v.category + scat t
/-- one instruction, and then k -/
def stepI (G : PG) (call : Nat → List Value → PH → PR) (own : Nat) (ini : Bool) (ret : Option FieldType) (i : Instr) (len pc : Nat) (l st : List Value) (h : PH) (k : PK) : PR :=
  match i with
  | .iconst n => k (pc + len) l (.int (Int32.ofInt n) :: st) h
  | .bipush n => k (pc + len) l (.int (Int8.ofInt n).toInt32 :: st) h
  | .sipush n => k (pc + len) l (.int (Int16.ofInt n).toInt32 :: st) h
  | .lconst n => k (pc + len) l (.long (Int64.ofNat (n : Nat)) :: st) h
  | .ldc j => (match kx_find (kx_I own) j with
    | some q => k (pc + len) l (.int q.1 :: st) h
    | none => (match kx_find (kx_S own) j with
      | some q => k (pc + len) l (.retAddr q.1 :: st) h
      | none => none))
  | .ldc_w j => (match kx_find (kx_I own) j with
    | some q => k (pc + len) l (.int q.1 :: st) h
    | none => none)
  | .ldc2_w j => (match kx_find (kx_J own) j with
    | some q => k (pc + len) l (.long q.1 :: st) h
    | none => none)
  | .iload j => (match nth l j with
    | .int x => k (pc + len) l (.int x :: st) h
    | _ => none)
  | .iload_n j => (match nth l j with
    | .int x => k (pc + len) l (.int x :: st) h
    | _ => none)
  | .lload j => (match nth l j with
    | .long x => k (pc + len) l (.long x :: st) h
    | _ => none)
  | .lload_n j => (match nth l j with
    | .long x => k (pc + len) l (.long x :: st) h
    | _ => none)
  | .aload j => (match nth l j with
    | .ref x => k (pc + len) l (.ref x :: st) h
    | .retAddr x => k (pc + len) l (.retAddr x :: st) h
    | _ => none)
  | .aload_n j => (match nth l j with
    | .ref x => k (pc + len) l (.ref x :: st) h
    | .retAddr x => k (pc + len) l (.retAddr x :: st) h
    | _ => none)
  | .istore j => (match st with
    | .int x :: r => asr (Nat.blt j l.length) (k (pc + len) (stl l j (.int x)) r h)
    | _ => none)
  | .istore_n j => (match st with
    | .int x :: r => asr (Nat.blt j l.length) (k (pc + len) (stl l j (.int x)) r h)
    | _ => none)
  | .lstore j => (match st with
    | .long x :: r => asr (Nat.blt (j + 1) l.length) (k (pc + len) ((stl l j (.long x)).set (j + 1) dm) r h)
    | _ => none)
  | .lstore_n j => (match st with
    | .long x :: r => asr (Nat.blt (j + 1) l.length) (k (pc + len) ((stl l j (.long x)).set (j + 1) dm) r h)
    | _ => none)
  | .astore j => (match st with
    | .ref x :: r => asr (Nat.blt j l.length) (k (pc + len) (stl l j (.ref x)) r h)
    | _ => none)
  | .astore_n j => (match st with
    | .ref x :: r => asr (Nat.blt j l.length) (k (pc + len) (stl l j (.ref x)) r h)
    | _ => none)
  | .iinc j n => (match nth l j with
    | .int x => k (pc + len) (stl l j (.int (x + Int32.ofInt n))) st h
    | _ => none)
  | .iadd => (match st with
    | .int y :: .int x :: r => k (pc + len) l (.int (x + y) :: r) h
    | _ => none)
  | .isub => (match st with
    | .int y :: .int x :: r => k (pc + len) l (.int (x - y) :: r) h
    | _ => none)
  | .imul => (match st with
    | .int y :: .int x :: r => k (pc + len) l (.int (x * y) :: r) h
    | _ => none)
  | .idiv => (match st with
    | .int y :: .int x :: r => if y = 0 then none else k (pc + len) l (.int (x / y) :: r) h
    | _ => none)
  | .irem => (match st with
    | .int y :: .int x :: r => if y = 0 then none else k (pc + len) l (.int (x % y) :: r) h
    | _ => none)
  | .ineg => (match st with
    | .int x :: r => k (pc + len) l (.int (-x) :: r) h
    | _ => none)
  | .iand => (match st with
    | .int y :: .int x :: r => k (pc + len) l (.int (x &&& y) :: r) h
    | _ => none)
  | .ior => (match st with
    | .int y :: .int x :: r => k (pc + len) l (.int (x ||| y) :: r) h
    | _ => none)
  | .ixor => (match st with
    | .int y :: .int x :: r => k (pc + len) l (.int (x ^^^ y) :: r) h
    | _ => none)
  | .ishl => (match st with
    | .int y :: .int x :: r => k (pc + len) l (.int (x <<< (y &&& 31)) :: r) h
    | _ => none)
  | .ishr => (match st with
    | .int y :: .int x :: r => k (pc + len) l (.int (x >>> (y &&& 31)) :: r) h
    | _ => none)
  | .iushr => (match st with
    | .int y :: .int x :: r => k (pc + len) l (.int ((x.toUInt32 >>> (y.toUInt32 &&& Int32.toUInt32 31)).toInt32) :: r) h
    | _ => none)
  | .ladd => (match st with
    | .long y :: .long x :: r => k (pc + len) l (.long (x + y) :: r) h
    | _ => none)
  | .lsub => (match st with
    | .long y :: .long x :: r => k (pc + len) l (.long (x - y) :: r) h
    | _ => none)
  | .lmul => (match st with
    | .long y :: .long x :: r => k (pc + len) l (.long (x * y) :: r) h
    | _ => none)
  | .ldiv => (match st with
    | .long y :: .long x :: r => if y = 0 then none else k (pc + len) l (.long (x / y) :: r) h
    | _ => none)
  | .lrem => (match st with
    | .long y :: .long x :: r => if y = 0 then none else k (pc + len) l (.long (x % y) :: r) h
    | _ => none)
  | .lneg => (match st with
    | .long x :: r => k (pc + len) l (.long (-x) :: r) h
    | _ => none)
  | .lcmp => (match st with
    | .long y :: .long x :: r => k (pc + len) l (.int (lg_cmp x y) :: r) h
    | _ => none)
  | .i2l => (match st with
    | .int x :: r => k (pc + len) l (.long x.toInt64 :: r) h
    | _ => none)
  | .l2i => (match st with
    | .long x :: r => k (pc + len) l (.int x.toInt32 :: r) h
    | _ => none)
  | .i2b => (match st with
    | .int x :: r => k (pc + len) l (.int x.toInt8.toInt32 :: r) h
    | _ => none)
  | .dup => (match st with
    | .int x :: r => k (pc + len) l (.int x :: .int x :: r) h
    | .ref x :: r => k (pc + len) l (.ref x :: .ref x :: r) h
    | _ => none)
  | .dup2 => (match st with
    | .int x :: .ref y :: r => k (pc + len) l (.int x :: .ref y :: .int x :: .ref y :: r) h
    | .int x :: .int y :: r => k (pc + len) l (.int x :: .int y :: .int x :: .int y :: r) h
    | _ => none)
  | .pop => (match st with
    | .int _ :: r => k (pc + len) l r h
    | .ref _ :: r => k (pc + len) l r h
    | _ => none)
  | .goto off => jmp pc off (fun t => k t l st h)
  | .ifCond c off => (match st with
    | .int x :: r => jmp pc off (fun t => match c with
      | .eq => if x = 0 then k t l r h else k (pc + len) l r h
      | .ne => if x ≠ 0 then k t l r h else k (pc + len) l r h
      | .lt => if x < 0 then k t l r h else k (pc + len) l r h
      | .ge => if 0 ≤ x then k t l r h else k (pc + len) l r h
      | .gt => if 0 < x then k t l r h else k (pc + len) l r h
      | .le => if x ≤ 0 then k t l r h else k (pc + len) l r h)
    | _ => none)
  | .if_icmp c off => (match st with
    | .int y :: .int x :: r => jmp pc off (fun t => match c with
      | .eq => if x = y then k t l r h else k (pc + len) l r h
      | .ne => if x ≠ y then k t l r h else k (pc + len) l r h
      | .lt => if x < y then k t l r h else k (pc + len) l r h
      | .ge => if y ≤ x then k t l r h else k (pc + len) l r h
      | .gt => if y < x then k t l r h else k (pc + len) l r h
      | .le => if x ≤ y then k t l r h else k (pc + len) l r h)
    | _ => none)
  | .tableswitch dflt lo hi offs => (match st with
    | .int x :: r => asr (swOk lo hi offs.toList.length) (swT x lo offs.toList (fun off => jmp pc off (fun t => k t l r h)) (jmp pc dflt (fun t => k t l r h)))
    | _ => none)
  | .lookupswitch dflt ps => (match st with
    | .int x :: r => asr (slOk ps.toList) (swL x ps.toList (fun off => jmp pc off (fun t => k t l r h)) (jmp pc dflt (fun t => k t l r h)))
    | _ => none)
  | .getfield j => (match kx_find (kx_D own) j with
    | some (ci, kf, tc, _, _) => (match st with
      | .ref a :: r => asr (okA G h a (20 + ci)) (k (pc + len) l (fval G h a kf tc :: r) h)
      | _ => none)
    | none => none)
  | .putfield j => (match kx_find (kx_D own) j with
    | some (ci, kf, tc, fin, _) => (match tc with
      | 0 => (match st with
        | .int x :: .ref a :: r => asr (okW G h a (20 + ci) && (!fin || (ini && Nat.beq own ci))) (k (pc + len) l r (wI h a kf x))
        | _ => none)
      | 1 => (match st with
        | .int x :: .ref a :: r => asr (okW G h a (20 + ci) && (!fin || (ini && Nat.beq own ci))) (asr (decide (nrZ x = x)) (k (pc + len) l r (wI h a kf x)))
        | _ => none)
      | _ => (match st with
        | .ref x :: .ref a :: r => asr (okW G h a (20 + ci) && ((!fin || (ini && Nat.beq own ci)) && (!G.2.1 || Nat.beq ((kx_Q a).getD kf 0) 0))) (k (pc + len) l r (wR h a kf x))
        | _ => none))
    | none => none)
  | .iaload => (match st with
    | .int i :: .ref a :: r => asr ((G.2.1 || Nat.blt 1 a) && okA G h a 1) (asr (inB i (lenA G a)) (k (pc + len) l (.int (hI h a (ix i)) :: r) h))
    | _ => none)
  | .baload => (match st with
    | .int i :: .ref a :: r => asr (okA G h a 2 || okA G h a 3) (asr (inB i (lenA G a)) (k (pc + len) l (.int (hI h a (ix i)) :: r) h))
    | _ => none)
  | .laload => (match st with
    | .int i :: .ref a :: r => asr (okA G h a 4) (asr (inB i (lenA G a)) (k (pc + len) l (.long (hJ h a (ix i)) :: r) h))
    | _ => none)
  | .aaload => (match st with
    | .int i :: .ref a :: r => asr (Nat.ble 5 (kx_K a) && (Nat.ble (kx_K a) 8 && alive G h a)) (asr (inB i (lenA G a)) (k (pc + len) l (.ref (rdA G h a (ix i)) :: r) h))
    | _ => none)
  | .iastore => (match st with
    | .int x :: .int i :: .ref a :: r => asr (okW G h a 1) (asr (inB i (lenA G a)) (k (pc + len) l r (wI h a (ix i) x)))
    | _ => none)
  | .bastore => (match st with
    | .int x :: .int i :: .ref a :: r => (match okW G h a 2 with
      | true => asr (inB i (lenA G a)) (k (pc + len) l r (wI h a (ix i) (nrZ x)))
      | false => asr (okW G h a 3) (asr (inB i (lenA G a)) (k (pc + len) l r (wI h a (ix i) (nrB x)))))
    | _ => none)
  | .lastore => (match st with
    | .long x :: .int i :: .ref a :: r => asr (okW G h a 4) (asr (inB i (lenA G a)) (k (pc + len) l r (wJ h a (ix i) x)))
    | _ => none)
  | .aastore => (match st with
    | .ref x :: .int i :: .ref a :: r => asr (((okW G h a 5 && okA G h x 24) || (okW G h a 6 && okA G h x 30)) && (!G.2.1 || Nat.beq (kx_A a).2 0)) (asr (inB i (lenA G a)) (k (pc + len) l r (wR h a (ix i) x)))
    | _ => none)
  | .arraylength => (match st with
    | .ref a :: r => asr ((G.2.1 || Nat.blt 1 a) && (Nat.ble 1 (kx_K a) && (Nat.ble (kx_K a) 8 && alive G h a))) (k (pc + len) l (.int (Int32.ofNat (lenA G a)) :: r) h)
    | _ => none)
  | .new j => (match kx_find (kx_C own) j with
    | some (ci, _) => asr (!G.2.1 && Nat.blt ci 12 && Nat.beq (kx_K (hN h)) (20 + ci)) (k (pc + len) l (.ref (hN h) :: st) (alc h 1 (kx_N ci)))
    | none => none)
  | .newarray t => (match st with
    | .int n :: r => asr (!G.2.1 && Nat.blt 0 (aOk t) && (Nat.beq (kx_K (hN h)) (aOk t) && (Nat.beq (kx_L (hN h)) (ix n) && Nat.blt (ix n) 1000000))) (k (pc + len) l (.ref (hN h) :: r) (alc h 1 (ix n)))
    | _ => none)
  | .anewarray j => (match kx_find (kx_C own) j with
    | some (ci, _) => (match st with
      | .int n :: r => asr (!G.2.1 && ((Nat.beq ci 4 && Nat.beq (kx_K (hN h)) 5) || (Nat.beq ci 10 && Nat.beq (kx_K (hN h)) 6)) && (Nat.beq (kx_L (hN h)) (ix n) && Nat.blt (ix n) 1000000)) (k (pc + len) l (.ref (hN h) :: r) (alc h 1 (ix n)))
      | _ => none)
    | none => none)
  | .multianewarray j dims => (match kx_find (kx_C own) j with
    | some (ci, _) => (match st with
      | .int m :: .int n :: r => asr (!G.2.1 && Nat.beq dims 2 && (((Nat.beq ci 107 && Nat.beq (kx_K (hN h)) 7) || (Nat.beq ci 108 && Nat.beq (kx_K (hN h)) 8)) && (Nat.beq (kx_L (hN h)) (ix n) && (Nat.blt (ix n) 1000 && (Nat.blt (ix m) 100000 && (List.range (ix n)).all (fun j => Nat.beq (kx_K (hN h + 1 + j)) (if ci = 107 then 1 else 3) && Nat.beq (kx_L (hN h + 1 + j)) (ix m))))))) (k (pc + len) l (.ref (hN h) :: r) (alcM h (ix n) (ix m)))
      | _ => none)
    | none => none)
  | .invokevirtual j => (match kx_find (kx_E own) j with
    | some (m, kd, n, rt, co, _) => (match kd with
      | 0 => (match st.drop n with
        | .ref a :: r => asr (Nat.ble n st.length && (Nat.ble (scat r) 8 && okA G h a (20 + co))) (retC rt (call m (.ref a :: (st.take n).reverse) h) (fun vs h => k (pc + len) l (vs ++ r) h))
        | _ => none)
      | 10 => (match st with
        | .retAddr s :: r => asr (Nat.ble (scat r) 8 && Nat.blt s kx_byt.length) (k (pc + len) l (.int (Int32.ofNat (slen s)) :: r) h)
        | _ => none)
      | 11 => (match st with
        | .int i :: .retAddr s :: r => asr (Nat.ble (scat r) 8 && (Nat.blt s kx_byt.length && inB i (slen s))) (k (pc + len) l (.int (schr s (ix i)) :: r) h)
        | _ => none)
      | _ => none)
    | none => none)
  | .invokespecial j => (match kx_find (kx_E own) j with
    | some (m, kd, n, rt, _, _) => (match Nat.beq kd 4 with
      | true => (match st with
        | .ref a :: r => asr (Nat.ble (scat r) 8 && !(Nat.beq a 0)) (k (pc + len) l r h)
        | _ => none)
      | false => (match st.drop n with
        | .ref a :: r => asr (Nat.ble n st.length && (Nat.ble (scat r) 8 && (!(Nat.beq a 0) && (Nat.beq kd 1 || Nat.beq kd 3)))) (retC rt (call m (.ref a :: (st.take n).reverse) h) (fun vs h => k (pc + len) l (vs ++ r) h))
        | _ => none))
    | none => none)
  | .invokestatic j => (match kx_find (kx_E own) j with
    | some (m, kd, n, rt, _, _) => (match kd with
      | 2 => asr (Nat.ble n st.length && Nat.ble (scat (st.drop n)) 8) (retC rt (call m (st.take n).reverse h) (fun vs h => k (pc + len) l (vs ++ st.drop n) h))
      | 12 => (match st with
        | .int n :: .int dp :: .ref b :: .int sp :: .ref a :: r => asr (Nat.ble (scat r) 8 && cpyOk G h a sp b dp n) (k (pc + len) l r (cpy h a (ix sp) b (ix dp) (ix n)))
        | _ => none)
      | 20 => (match st with
        | .int y :: .int x :: r => asr (Nat.ble (scat r) 8) (k (pc + len) l (.int (if x < y then y else x) :: r) h)
        | _ => none)
      | 21 => (match st with
        | .int y :: .int x :: r => asr (Nat.ble (scat r) 8) (k (pc + len) l (.int (if y < x then y else x) :: r) h)
        | _ => none)
      | 22 => (match st with
        | .long y :: .long x :: r => asr (Nat.ble (scat r) 8) (k (pc + len) l (.long (if y < x then x else y) :: r) h)
        | _ => none)
      | 23 => (match st with
        | .long y :: .long x :: r => asr (Nat.ble (scat r) 8) (k (pc + len) l (.long (if y < x then y else x) :: r) h)
        | _ => none)
      | 24 => (match st with
        | .int y :: .int x :: r => asr (Nat.ble (scat r) 8) (if y = 0 then none else k (pc + len) l (.int (fmod x y) :: r) h)
        | _ => none)
      | _ => none)
    | none => none)
  | .ireturn => (match st with
    | [.int x] => (match ret with
      | some .int => some (some (.int x), h)
      | some .boolean => asr (decide (nrZ x = x)) (some (some (.int x), h))
      | _ => none)
    | _ => none)
  | .lreturn => (match st with
    | [.long x] => (match ret with
      | some .long => some (some (.long x), h)
      | _ => none)
    | _ => none)
  | .areturn => (match st with
    | [.ref x] => (match ret with
      | some (.array _) => some (some (.ref x), h)
      | _ => none)
    | _ => none)
  | .return_ => (match st with
    | [] => (match ret with
      | none => some (none, h)
      | _ => none)
    | _ => none)
  | _ => none
def stepK (G : PG) (call : Nat → List Value → PH → PR) (own : Nat) (ini : Bool) (ret : Option FieldType) (c : KC) (pc : Nat) (l st : List Value) (h : PH) (k : PK) : PR :=
  match kx_find c pc with
  | some (i, len) => stepI G call own ini ret i len pc l st h k
  | none => none
def runN (G : PG) (call : Nat → List Value → PH → PR) (own : Nat) (ini : Bool) (ret : Option FieldType) (c : KC) : Nat → PK
  | 0 => fun _ _ _ _ => none
  | n + 1 => fun pc l st h => stepK G call own ini ret c pc l st h (runN G call own ini ret c n)
noncomputable def lim {α : Type} (f : Nat → Option α) : Option α := @dite (Option α) (∃ n, (f n).isSome = true) (Classical.propDecidable _) (fun h => f (Classical.choose h)) (fun _ => none)
/-- a call, at a depth -/
noncomputable def exec (G : PG) : Nat → Nat → List Value → PH → PR
  | 0 => fun _ _ _ => none
  | d + 1 => fun m as h => match kx_M m with
    | some (own, ini, ret, maxL, c) => asr (Nat.ble (spread as).length maxL) (lim (fun n => runN G (exec G d) own ini ret c n 0 (pad as maxL) [] h))
    | none => none
/-- a frame, run to its return -/
noncomputable def runL (G : PG) (d : Nat) (own : Nat) (ini : Bool) (ret : Option FieldType) (c : KC) : PK := fun pc l st h => lim (fun n => runN G (exec G d) own ini ret c n pc l st h)
/-- n instructions, but not through a place of stops; then k -/
def runK (G : PG) (call : Nat → List Value → PH → PR) (own : Nat) (ini : Bool) (ret : Option FieldType) (c : KC) (stops : List Nat) (k : PK) : Nat → PK
  | 0 => k
  | n + 1 => fun pc l st h => stepK G call own ini ret c pc l st h (fun pc l st h => bif stops.contains pc then k pc l st h else runK G call own ini ret c stops k n pc l st h)
