-- PART: bitCount.
def us (x : Int32) (n : Nat) : Int32 := (x.toUInt32 >>> (Int32.toUInt32 (nI n) &&& Int32.toUInt32 (nI 31))).toInt32
def pp1 (x : Int32) : Int32 := x - (us x 1 &&& nI 1431655765)
def pp2 (x : Int32) : Int32 := (x &&& nI 858993459) + (us x 2 &&& nI 858993459)
def pp3 (x : Int32) : Int32 := (x + us x 4) &&& nI 252645135
def pp4 (x : Int32) : Int32 := x + us x 8
def pp5 (x : Int32) : Int32 := x + us x 16
def pc (w : Nat) : Nat := w % 2 + w / 2 % 2 + w / 4 % 2 + w / 8 % 2 + w / 16 % 2 + w / 32 % 2 + w / 64 % 2 + w / 128 % 2 + w / 256 % 2 + w / 512 % 2
def g1 (w : Nat) : Nat := w - (w / 2 &&& 1431655765)
def g2n (w : Nat) : Nat := (w &&& 858993459) + (w / 4 &&& 858993459)
theorem pp1_all : ∀ w, w < 1024 → pp1 (nI w) = nI (g1 w) ∧ g1 w < 1024 := by decide +kernel
theorem pp2_all : ∀ w, w < 1024 → pp2 (nI w) = nI (g2n w) ∧ g2n w < 1024 := by decide +kernel
theorem pp3_all : ∀ w, w < 1024 → (pp5 (pp4 (pp3 (nI w)))) &&& nI 63 = nI ((((w + w / 16) &&& 252645135) + ((w + w / 16) &&& 252645135) / 256) % 64) := by decide +kernel
theorem pc_all : ∀ w, w < 1024 → (((g2n (g1 w) + g2n (g1 w) / 16) &&& 252645135) + ((g2n (g1 w) + g2n (g1 w) / 16) &&& 252645135) / 256) % 64 = pc w := by decide +kernel
theorem m64 {L : Nat} (d : Nat) {w : Nat} (hw : w < 1024) (h : PH) : exec (g2 L) (d + 1) 64 [.int (nI w)] h = some (some (.int (nI (pc w))), h) := by
  have e : (pp5 (pp4 (pp3 (pp2 (pp1 (nI w)))))) &&& nI 63 = nI (pc w) := by
    obtain ⟨a1, a2⟩ := pp1_all w hw
    obtain ⟨b1, b2⟩ := pp2_all (g1 w) a2
    rw [a1, b1, pp3_all _ b2, pc_all w hw]
  rw [x64, ← e]
  rfl
