-- PART: equations of the methods, printed by gen/geneq.py.
set_option maxRecDepth 100000 in
theorem e150_0 (L d : Nat) (x1 : Int32) (h : PH) : runL (g2 L) d 11 false none kc_150 0 [.ref 253, .int x1, dm] [] h
  = runL (g2 L) d 11 false none kc_150 2 [.ref 253, .int x1, .int (nI 0)] [] h := (runL_K [2] 7 _ _ _ _).trans rfl
set_option maxRecDepth 100000 in
theorem e150_2 (L d : Nat) (x1 : Int32) (x2 : Int32) (h : PH) : runL (g2 L) d 11 false none kc_150 2 [.ref 253, .int x1, .int x2] [] h
  = if (nI 440) ≤ x2 then some (none, h) else if x1 = (nI 0) then asr (inB x2 440) (asr (inB x2 440) (runL (g2 L) d 11 false none kc_150 2 [.ref 253, .int x1, .int (x2 + (nI 1))] [] (wI h 254 (ix x2) (hI h 255 (ix x2))))) else asr (inB x2 440) (asr (inB x2 440) (runL (g2 L) d 11 false none kc_150 2 [.ref 253, .int x1, .int (x2 + (nI 1))] [] (wI h 255 (ix x2) (hI h 254 (ix x2))))) := (runL_K [2] 32 _ _ _ _).trans rfl
set_option maxRecDepth 100000 in
theorem x150 (L d : Nat) (x1 : Int32) (h : PH) : exec (g2 L) (d + 1) 150 [.ref 253, .int x1] h
  = runL (g2 L) d 11 false none kc_150 2 [.ref 253, .int x1, .int (nI 0)] [] h := (exec_M (by rfl) _ _ rfl).trans (e150_0 L d x1 h)
set_option maxRecDepth 100000 in
theorem e151_0 (L d : Nat) (x1 : Int32) (h : PH) : runL (g2 L) d 11 false (some .int) kc_151 0 [.ref 253, .int x1] [] h
  = if x1 = m1 then runL (g2 L) d 11 false (some .int) kc_151 13 [.ref 253, .int x1] [] h else cI (exec (g2 L) d 152 [.ref 253, .int x1] h) fun r2 h1 => if r2 = (nI 0) then some (some (.int m1), h1) else runL (g2 L) d 11 false (some .int) kc_151 13 [.ref 253, .int x1] [] h1 := (runL_K [13] 14 _ _ _ _).trans rfl
set_option maxRecDepth 100000 in
theorem e151_13 (L d : Nat) (x1 : Int32) (h : PH) : runL (g2 L) d 11 false (some .int) kc_151 13 [.ref 253, .int x1] [] h
  = if (hI h 254 (3)) ≠ (nI 8) then asr (inB ((nI 20) + (hI h 254 (3))) 440) (asr (inB ((nI 28) + (hI (wI h 254 (ix ((nI 20) + (hI h 254 (3)))) x1) 254 (3))) 440) (some (some (.int (((hI (wI (wI h 254 (ix ((nI 20) + (hI h 254 (3)))) x1) 254 (ix ((nI 28) + (hI (wI h 254 (ix ((nI 20) + (hI h 254 (3)))) x1) 254 (3)))) (nI 0)) 254 (3)) + (nI 1)) - (nI 1))), wI (wI (wI h 254 (ix ((nI 20) + (hI h 254 (3)))) x1) 254 (ix ((nI 28) + (hI (wI h 254 (ix ((nI 20) + (hI h 254 (3)))) x1) 254 (3)))) (nI 0)) 254 (3) ((hI (wI (wI h 254 (ix ((nI 20) + (hI h 254 (3)))) x1) 254 (ix ((nI 28) + (hI (wI h 254 (ix ((nI 20) + (hI h 254 (3)))) x1) 254 (3)))) (nI 0)) 254 (3)) + (nI 1))))) else some (some (.int m1), h) := (runL_K [13] 48 _ _ _ _).trans rfl
set_option maxRecDepth 100000 in
theorem x151 (L d : Nat) (x1 : Int32) (h : PH) : exec (g2 L) (d + 1) 151 [.ref 253, .int x1] h
  = if x1 = m1 then runL (g2 L) d 11 false (some .int) kc_151 13 [.ref 253, .int x1] [] h else cI (exec (g2 L) d 152 [.ref 253, .int x1] h) fun r2 h1 => if r2 = (nI 0) then some (some (.int m1), h1) else runL (g2 L) d 11 false (some .int) kc_151 13 [.ref 253, .int x1] [] h1 := (exec_M (by rfl) _ _ rfl).trans (e151_0 L d x1 h)
set_option maxRecDepth 100000 in
theorem e152_0 (L d : Nat) (x1 : Int32) (h : PH) : runL (g2 L) d 11 false (some .boolean) kc_152 0 [.ref 253, .int x1] [] h
  = cI (exec (g2 L) d 153 [.int x1, .int (nI 0), .int ((hI h 254 (3)) - (nI 1))] h) fun r2 h1 => asr (decide (nrZ r2 = r2)) (some (some (.int r2), h1)) := (runL_K [] 15 _ _ _ _).trans rfl
set_option maxRecDepth 100000 in
theorem x152 (L d : Nat) (x1 : Int32) (h : PH) : exec (g2 L) (d + 1) 152 [.ref 253, .int x1] h
  = cI (exec (g2 L) d 153 [.int x1, .int (nI 0), .int ((hI h 254 (3)) - (nI 1))] h) fun r2 h1 => asr (decide (nrZ r2 = r2)) (some (some (.int r2), h1)) := (exec_M (by rfl) _ _ rfl).trans (e152_0 L d x1 h)
set_option maxRecDepth 100000 in
theorem e153_0 (L d : Nat) (x0 : Int32) (x1 : Int32) (x2 : Int32) (h : PH) : runL (g2 L) d 11 false (some .boolean) kc_153 0 [.int x0, .int x1, .int x2] [] h
  = if x0 < x1 then some (some (.int (nI 0)), h) else if x2 < x0 then some (some (.int (nI 0)), h) else some (some (.int (nI 1)), h) := (runL_K [] 18 _ _ _ _).trans rfl
set_option maxRecDepth 100000 in
theorem x153 (L d : Nat) (x0 : Int32) (x1 : Int32) (x2 : Int32) (h : PH) : exec (g2 L) (d + 1) 153 [.int x0, .int x1, .int x2] h
  = if x0 < x1 then some (some (.int (nI 0)), h) else if x2 < x0 then some (some (.int (nI 0)), h) else some (some (.int (nI 1)), h) := (exec_M (by rfl) _ _ rfl).trans (e153_0 L d x0 x1 x2 h)
set_option maxRecDepth 100000 in
theorem e154_0 (L d : Nat) (x1 : Int32) (x2 : Int32) (x3 : Int32) (x4 : Int32) (h : PH) : runL (g2 L) d 11 false (some .int) kc_154 0 [.ref 253, .int x1, .int x2, .int x3, .int x4, dm, dm] [] h
  = cI (exec (g2 L) d 152 [.ref 253, .int x1] h) fun r2 h1 => if r2 = (nI 0) then some (some (.int m1), h1) else cI (exec (g2 L) d 153 [.int x3, .int (nI 0), .int (nI 719)] h1) fun r4 h3 => if r4 = (nI 0) then some (some (.int m1), h3) else cI (exec (g2 L) d 153 [.int x4, .int (nI 0), .int (nI 1)] h3) fun r6 h5 => if r6 = (nI 0) then some (some (.int m1), h5) else if (hI h5 254 (4)) ≠ (nI 16) then runL (g2 L) d 11 false (some .int) kc_154 53 [.ref 253, .int x1, .int x2, .int x3, .int x4, .int (hI h5 254 (4)), .int (nI 0)] [] h5 else some (some (.int m1), h5) := (runL_K [53, 96] 40 _ _ _ _).trans rfl
set_option maxRecDepth 100000 in
theorem e154_53 (L d : Nat) (x1 : Int32) (x2 : Int32) (x3 : Int32) (x4 : Int32) (x5 : Int32) (x6 : Int32) (h : PH) : runL (g2 L) d 11 false (some .int) kc_154 53 [.ref 253, .int x1, .int x2, .int x3, .int x4, .int x5, .int x6] [] h
  = if (nI 8) ≤ x6 then cV (exec (g2 L) d 155 [.ref 253, .int x5, .int (nI 0), .int x1] h) fun h1 => if x2 = (nI 0) then runL (g2 L) d 11 false (some .int) kc_154 96 [.ref 253, .int x1, .int x2, .int x3, .int x4, .int x5, .int x6] [.int (nI 0), .int (nI 1), .int x5, .ref 253] h1 else runL (g2 L) d 11 false (some .int) kc_154 96 [.ref 253, .int x1, .int x2, .int x3, .int x4, .int x5, .int x6] [.int (nI 1), .int (nI 1), .int x5, .ref 253] h1 else cV (exec (g2 L) d 155 [.ref 253, .int x5, .int x6, .int (nI 0)] h) fun h2 => runL (g2 L) d 11 false (some .int) kc_154 53 [.ref 253, .int x1, .int x2, .int x3, .int x4, .int x5, .int (x6 + (nI 1))] [] h2 := (runL_K [53, 96] 28 _ _ _ _).trans rfl
set_option maxRecDepth 100000 in
theorem e154_96 (L d : Nat) (x1 : Int32) (x2 : Int32) (x3 : Int32) (x4 : Int32) (x5 : Int32) (x6 : Int32) (xs0 : Int32) (xs1 : Int32) (xs2 : Int32) (h : PH) : runL (g2 L) d 11 false (some .int) kc_154 96 [.ref 253, .int x1, .int x2, .int x3, .int x4, .int x5, .int x6] [.int xs0, .int xs1, .int xs2, .ref 253] h
  = cV (exec (g2 L) d 155 [.ref 253, .int xs2, .int xs1, .int xs0] h) fun h1 => cV (exec (g2 L) d 155 [.ref 253, .int x5, .int (nI 2), .int x3] h1) fun h2 => cV (exec (g2 L) d 155 [.ref 253, .int x5, .int (nI 3), .int x4] h2) fun h3 => some (some (.int x5), wI h3 254 (4) ((hI h3 254 (4)) + (nI 1))) := (runL_K [53, 96] 26 _ _ _ _).trans rfl
set_option maxRecDepth 100000 in
theorem x154 (L d : Nat) (x1 : Int32) (x2 : Int32) (x3 : Int32) (x4 : Int32) (h : PH) : exec (g2 L) (d + 1) 154 [.ref 253, .int x1, .int x2, .int x3, .int x4] h
  = cI (exec (g2 L) d 152 [.ref 253, .int x1] h) fun r2 h1 => if r2 = (nI 0) then some (some (.int m1), h1) else cI (exec (g2 L) d 153 [.int x3, .int (nI 0), .int (nI 719)] h1) fun r4 h3 => if r4 = (nI 0) then some (some (.int m1), h3) else cI (exec (g2 L) d 153 [.int x4, .int (nI 0), .int (nI 1)] h3) fun r6 h5 => if r6 = (nI 0) then some (some (.int m1), h5) else if (hI h5 254 (4)) ≠ (nI 16) then runL (g2 L) d 11 false (some .int) kc_154 53 [.ref 253, .int x1, .int x2, .int x3, .int x4, .int (hI h5 254 (4)), .int (nI 0)] [] h5 else some (some (.int m1), h5) := (exec_M (by rfl) _ _ rfl).trans (e154_0 L d x1 x2 x3 x4 h)
set_option maxRecDepth 100000 in
theorem e155_0 (L d : Nat) (x1 : Int32) (x2 : Int32) (x3 : Int32) (h : PH) : runL (g2 L) d 11 false none kc_155 0 [.ref 253, .int x1, .int x2, .int x3] [] h
  = asr (inB (((nI 40) + ((nI 8) * x1)) + x2) 440) (some (none, wI h 254 (ix (((nI 40) + ((nI 8) * x1)) + x2)) x3)) := (runL_K [] 17 _ _ _ _).trans rfl
set_option maxRecDepth 100000 in
theorem x155 (L d : Nat) (x1 : Int32) (x2 : Int32) (x3 : Int32) (h : PH) : exec (g2 L) (d + 1) 155 [.ref 253, .int x1, .int x2, .int x3] h
  = asr (inB (((nI 40) + ((nI 8) * x1)) + x2) 440) (some (none, wI h 254 (ix (((nI 40) + ((nI 8) * x1)) + x2)) x3)) := (exec_M (by rfl) _ _ rfl).trans (e155_0 L d x1 x2 x3 h)
set_option maxRecDepth 100000 in
theorem e156_0 (L d : Nat) (x1 : Int32) (x2 : Int32) (x3 : Int32) (h : PH) : runL (g2 L) d 11 false (some .boolean) kc_156 0 [.ref 253, .int x1, .int x2, .int x3] [] h
  = cI (exec (g2 L) d 157 [.ref 253, .int x1] h) fun r2 h1 => if r2 = (nI 0) then some (some (.int (nI 0)), h1) else cI (exec (g2 L) d 153 [.int x2, .int (nI 0), .int (nI 999)] h1) fun r4 h3 => if r4 = (nI 0) then some (some (.int (nI 0)), h3) else cI (exec (g2 L) d 153 [.int x3, .int (nI 0), .int (nI 999)] h3) fun r6 h5 => if r6 ≠ (nI 0) then cV (exec (g2 L) d 155 [.ref 253, .int x1, .int (nI 5), .int x2] h5) fun h7 => cV (exec (g2 L) d 155 [.ref 253, .int x1, .int (nI 6), .int x3] h7) fun h8 => some (some (.int (nI 1)), h8) else some (some (.int (nI 0)), h5) := (runL_K [] 37 _ _ _ _).trans rfl
set_option maxRecDepth 100000 in
theorem x156 (L d : Nat) (x1 : Int32) (x2 : Int32) (x3 : Int32) (h : PH) : exec (g2 L) (d + 1) 156 [.ref 253, .int x1, .int x2, .int x3] h
  = cI (exec (g2 L) d 157 [.ref 253, .int x1] h) fun r2 h1 => if r2 = (nI 0) then some (some (.int (nI 0)), h1) else cI (exec (g2 L) d 153 [.int x2, .int (nI 0), .int (nI 999)] h1) fun r4 h3 => if r4 = (nI 0) then some (some (.int (nI 0)), h3) else cI (exec (g2 L) d 153 [.int x3, .int (nI 0), .int (nI 999)] h3) fun r6 h5 => if r6 ≠ (nI 0) then cV (exec (g2 L) d 155 [.ref 253, .int x1, .int (nI 5), .int x2] h5) fun h7 => cV (exec (g2 L) d 155 [.ref 253, .int x1, .int (nI 6), .int x3] h7) fun h8 => some (some (.int (nI 1)), h8) else some (some (.int (nI 0)), h5) := (exec_M (by rfl) _ _ rfl).trans (e156_0 L d x1 x2 x3 h)
set_option maxRecDepth 100000 in
theorem e157_0 (L d : Nat) (x1 : Int32) (h : PH) : runL (g2 L) d 11 false (some .boolean) kc_157 0 [.ref 253, .int x1] [] h
  = cI (exec (g2 L) d 153 [.int x1, .int (nI 0), .int ((hI h 254 (4)) - (nI 1))] h) fun r2 h1 => asr (decide (nrZ r2 = r2)) (some (some (.int r2), h1)) := (runL_K [] 15 _ _ _ _).trans rfl
set_option maxRecDepth 100000 in
theorem x157 (L d : Nat) (x1 : Int32) (h : PH) : exec (g2 L) (d + 1) 157 [.ref 253, .int x1] h
  = cI (exec (g2 L) d 153 [.int x1, .int (nI 0), .int ((hI h 254 (4)) - (nI 1))] h) fun r2 h1 => asr (decide (nrZ r2 = r2)) (some (some (.int r2), h1)) := (exec_M (by rfl) _ _ rfl).trans (e157_0 L d x1 h)
set_option maxRecDepth 100000 in
theorem e158_0 (L d : Nat) (x1 : Int32) (x2 : Int32) (h : PH) : runL (g2 L) d 11 false (some .boolean) kc_158 0 [.ref 253, .int x1, .int x2] [] h
  = cI (exec (g2 L) d 157 [.ref 253, .int x1] h) fun r2 h1 => if r2 = (nI 0) then some (some (.int (nI 0)), h1) else cI (exec (g2 L) d 152 [.ref 253, .int x2] h1) fun r4 h3 => if r4 ≠ (nI 0) then cV (exec (g2 L) d 155 [.ref 253, .int x1, .int (nI 0), .int x2] h3) fun h5 => some (some (.int (nI 1)), h5) else some (some (.int (nI 0)), h3) := (runL_K [] 24 _ _ _ _).trans rfl
set_option maxRecDepth 100000 in
theorem x158 (L d : Nat) (x1 : Int32) (x2 : Int32) (h : PH) : exec (g2 L) (d + 1) 158 [.ref 253, .int x1, .int x2] h
  = cI (exec (g2 L) d 157 [.ref 253, .int x1] h) fun r2 h1 => if r2 = (nI 0) then some (some (.int (nI 0)), h1) else cI (exec (g2 L) d 152 [.ref 253, .int x2] h1) fun r4 h3 => if r4 ≠ (nI 0) then cV (exec (g2 L) d 155 [.ref 253, .int x1, .int (nI 0), .int x2] h3) fun h5 => some (some (.int (nI 1)), h5) else some (some (.int (nI 0)), h3) := (exec_M (by rfl) _ _ rfl).trans (e158_0 L d x1 x2 h)
set_option maxRecDepth 100000 in
theorem e159_0 (L d : Nat) (x1 : Int32) (x2 : Int32) (h : PH) : runL (g2 L) d 11 false (some .boolean) kc_159 0 [.ref 253, .int x1, .int x2] [] h
  = cI (exec (g2 L) d 157 [.ref 253, .int x1] h) fun r2 h1 => if r2 = (nI 0) then some (some (.int (nI 0)), h1) else cI (exec (g2 L) d 153 [.int x2, .int (nI 0), .int (nI 719)] h1) fun r4 h3 => if r4 ≠ (nI 0) then cV (exec (g2 L) d 155 [.ref 253, .int x1, .int (nI 2), .int x2] h3) fun h5 => some (some (.int (nI 1)), h5) else some (some (.int (nI 0)), h3) := (runL_K [] 25 _ _ _ _).trans rfl
set_option maxRecDepth 100000 in
theorem x159 (L d : Nat) (x1 : Int32) (x2 : Int32) (h : PH) : exec (g2 L) (d + 1) 159 [.ref 253, .int x1, .int x2] h
  = cI (exec (g2 L) d 157 [.ref 253, .int x1] h) fun r2 h1 => if r2 = (nI 0) then some (some (.int (nI 0)), h1) else cI (exec (g2 L) d 153 [.int x2, .int (nI 0), .int (nI 719)] h1) fun r4 h3 => if r4 ≠ (nI 0) then cV (exec (g2 L) d 155 [.ref 253, .int x1, .int (nI 2), .int x2] h3) fun h5 => some (some (.int (nI 1)), h5) else some (some (.int (nI 0)), h3) := (exec_M (by rfl) _ _ rfl).trans (e159_0 L d x1 x2 h)
set_option maxRecDepth 100000 in
theorem e160_0 (L d : Nat) (x1 : Int32) (x2 : Int32) (h : PH) : runL (g2 L) d 11 false (some .boolean) kc_160 0 [.ref 253, .int x1, .int x2] [] h
  = cI (exec (g2 L) d 152 [.ref 253, .int x1] h) fun r2 h1 => if r2 = (nI 0) then some (some (.int (nI 0)), h1) else cI (exec (g2 L) d 161 [.ref 253, .int ((nI 28) + x1), .int x2] h1) fun r4 h3 => if r4 = (nI 0) then some (some (.int (nI 0)), h3) else some (some (.int (nI 1)), h3) := (runL_K [] 23 _ _ _ _).trans rfl
set_option maxRecDepth 100000 in
theorem x160 (L d : Nat) (x1 : Int32) (x2 : Int32) (h : PH) : exec (g2 L) (d + 1) 160 [.ref 253, .int x1, .int x2] h
  = cI (exec (g2 L) d 152 [.ref 253, .int x1] h) fun r2 h1 => if r2 = (nI 0) then some (some (.int (nI 0)), h1) else cI (exec (g2 L) d 161 [.ref 253, .int ((nI 28) + x1), .int x2] h1) fun r4 h3 => if r4 = (nI 0) then some (some (.int (nI 0)), h3) else some (some (.int (nI 1)), h3) := (exec_M (by rfl) _ _ rfl).trans (e160_0 L d x1 x2 h)
set_option maxRecDepth 100000 in
theorem e161_0 (L d : Nat) (x1 : Int32) (x2 : Int32) (h : PH) : runL (g2 L) d 11 false (some .boolean) kc_161 0 [.ref 253, .int x1, .int x2] [] h
  = asr (inB x1 440) (if (hI h 254 (ix x1)) ≠ (nI 1) then runL (g2 L) d 11 false (some .boolean) kc_161 15 [.ref 253, .int x1, .int x2] [.int (nI 0)] h else runL (g2 L) d 11 false (some .boolean) kc_161 15 [.ref 253, .int x1, .int x2] [.int (nI 1)] h) := (runL_K [15] 14 _ _ _ _).trans rfl
set_option maxRecDepth 100000 in
theorem e161_15 (L d : Nat) (x1 : Int32) (x2 : Int32) (xs0 : Int32) (h : PH) : runL (g2 L) d 11 false (some .boolean) kc_161 15 [.ref 253, .int x1, .int x2] [.int xs0] h
  = if xs0 ≠ x2 then if x2 = (nI 0) then asr (inB x1 440) (some (some (.int (nI 1)), wI h 254 (ix x1) (nI 0))) else asr (inB x1 440) (some (some (.int (nI 1)), wI h 254 (ix x1) (nI 1))) else some (some (.int (nI 0)), h) := (runL_K [15] 23 _ _ _ _).trans rfl
set_option maxRecDepth 100000 in
theorem x161 (L d : Nat) (x1 : Int32) (x2 : Int32) (h : PH) : exec (g2 L) (d + 1) 161 [.ref 253, .int x1, .int x2] h
  = asr (inB x1 440) (if (hI h 254 (ix x1)) ≠ (nI 1) then runL (g2 L) d 11 false (some .boolean) kc_161 15 [.ref 253, .int x1, .int x2] [.int (nI 0)] h else runL (g2 L) d 11 false (some .boolean) kc_161 15 [.ref 253, .int x1, .int x2] [.int (nI 1)] h) := (exec_M (by rfl) _ _ rfl).trans (e161_0 L d x1 x2 h)
set_option maxRecDepth 100000 in
theorem e162_0 (L d : Nat) (x1 : Int32) (x2 : Int32) (h : PH) : runL (g2 L) d 11 false (some .boolean) kc_162 0 [.ref 253, .int x1, .int x2] [] h
  = cI (exec (g2 L) d 157 [.ref 253, .int x1] h) fun r2 h1 => if r2 = (nI 0) then some (some (.int (nI 0)), h1) else cI (exec (g2 L) d 161 [.ref 253, .int (((nI 40) + ((nI 8) * x1)) + (nI 7)), .int x2] h1) fun r4 h3 => if r4 = (nI 0) then some (some (.int (nI 0)), h3) else some (some (.int (nI 1)), h3) := (runL_K [] 27 _ _ _ _).trans rfl
set_option maxRecDepth 100000 in
theorem x162 (L d : Nat) (x1 : Int32) (x2 : Int32) (h : PH) : exec (g2 L) (d + 1) 162 [.ref 253, .int x1, .int x2] h
  = cI (exec (g2 L) d 157 [.ref 253, .int x1] h) fun r2 h1 => if r2 = (nI 0) then some (some (.int (nI 0)), h1) else cI (exec (g2 L) d 161 [.ref 253, .int (((nI 40) + ((nI 8) * x1)) + (nI 7)), .int x2] h1) fun r4 h3 => if r4 = (nI 0) then some (some (.int (nI 0)), h3) else some (some (.int (nI 1)), h3) := (exec_M (by rfl) _ _ rfl).trans (e162_0 L d x1 x2 h)
set_option maxRecDepth 100000 in
theorem e163_0 (L d : Nat) (x1 : Int32) (h : PH) : runL (g2 L) d 11 false (some .boolean) kc_163 0 [.ref 253, .int x1] [] h
  = cI (exec (g2 L) d 161 [.ref 253, .int (nI 2), .int x1] h) fun r2 h1 => asr (decide (nrZ r2 = r2)) (some (some (.int r2), h1)) := (runL_K [] 10 _ _ _ _).trans rfl
set_option maxRecDepth 100000 in
theorem x163 (L d : Nat) (x1 : Int32) (h : PH) : exec (g2 L) (d + 1) 163 [.ref 253, .int x1] h
  = cI (exec (g2 L) d 161 [.ref 253, .int (nI 2), .int x1] h) fun r2 h1 => asr (decide (nrZ r2 = r2)) (some (some (.int r2), h1)) := (exec_M (by rfl) _ _ rfl).trans (e163_0 L d x1 h)
set_option maxRecDepth 100000 in
theorem e164_0 (L d : Nat) (x1 : Int32) (h : PH) : runL (g2 L) d 11 false (some .int) kc_164 0 [.ref 253, .int x1, dm] [] h
  = cI (exec (g2 L) d 153 [.int x1, .int (nI 1), .int (nI 10000)] h) fun r2 h1 => if r2 = (nI 0) then some (some (.int m1), h1) else if ((hI h1 254 (0)) + x1) ≤ (nI 575999) then runL (g2 L) d 11 false (some .int) kc_164 28 [.ref 253, .int x1, .int (nI 0)] [] h1 else some (some (.int m1), h1) := (runL_K [28] 24 _ _ _ _).trans rfl
set_option maxRecDepth 100000 in
theorem e164_28 (L d : Nat) (x1 : Int32) (x2 : Int32) (h : PH) : runL (g2 L) d 11 false (some .int) kc_164 28 [.ref 253, .int x1, .int x2] [] h
  = if x1 ≤ x2 then some (some (.int (hI h 254 (0))), h) else if (hI h 254 (2)) ≠ (nI 0) then runL (g2 L) d 11 false (some .int) kc_164 28 [.ref 253, .int x1, .int (x2 + (nI 1))] [] (wI h 254 (0) ((hI h 254 (0)) + (nI 1))) else cV (exec (g2 L) d 165 [.ref 253] (wI h 254 (0) ((hI h 254 (0)) + (nI 1)))) fun h1 => runL (g2 L) d 11 false (some .int) kc_164 28 [.ref 253, .int x1, .int (x2 + (nI 1))] [] h1 := (runL_K [28] 32 _ _ _ _).trans rfl
set_option maxRecDepth 100000 in
theorem x164 (L d : Nat) (x1 : Int32) (h : PH) : exec (g2 L) (d + 1) 164 [.ref 253, .int x1] h
  = cI (exec (g2 L) d 153 [.int x1, .int (nI 1), .int (nI 10000)] h) fun r2 h1 => if r2 = (nI 0) then some (some (.int m1), h1) else if ((hI h1 254 (0)) + x1) ≤ (nI 575999) then runL (g2 L) d 11 false (some .int) kc_164 28 [.ref 253, .int x1, .int (nI 0)] [] h1 else some (some (.int m1), h1) := (exec_M (by rfl) _ _ rfl).trans (e164_0 L d x1 h)
set_option maxRecDepth 100000 in
theorem e165_0 (L d : Nat)  (h : PH) : runL (g2 L) d 11 false none kc_165 0 [.ref 253, dm, dm] [] h
  = runL (g2 L) d 11 false none kc_165 2 [.ref 253, .int (nI 0), dm] [] h := (runL_K [2] 7 _ _ _ _).trans rfl
set_option maxRecDepth 100000 in
theorem e165_2 (L d : Nat) (x1 : Int32) (v2 : Value) (h : PH) : runL (g2 L) d 11 false none kc_165 2 [.ref 253, .int x1, v2] [] h
  = if (hI h 254 (4)) ≤ x1 then some (none, wI h 254 (1) ((nI 1) - (hI h 254 (1)))) else cI (exec (g2 L) d 166 [.ref 253, .int x1, .int (nI 7)] h) fun r2 h1 => if r2 ≠ (nI 0) then runL (g2 L) d 11 false none kc_165 2 [.ref 253, .int (x1 + (nI 1)), v2] [] h1 else cI (exec (g2 L) d 166 [.ref 253, .int x1, .int (nI 0)] h1) fun r4 h3 => cI (exec (g2 L) d 167 [.ref 253, .int r4, .int m1] h3) fun r6 h5 => if r6 = (nI 0) then runL (g2 L) d 11 false none kc_165 2 [.ref 253, .int (x1 + (nI 1)), v2] [] h5 else cV (exec (g2 L) d 168 [.ref 253, .int ((nI 40) + ((nI 8) * x1))] h5) fun h7 => cI (exec (g2 L) d 169 [.ref 253, .int (hI h7 254 (1))] h7) fun r9 h8 => cV (exec (g2 L) d 171 [.ref 253, .int ((nI 40) + ((nI 8) * x1))] h8) fun h10 => runL (g2 L) d 11 false none kc_165 2 [.ref 253, .int (x1 + (nI 1)), .int r9] [] h10 := (runL_K [2] 62 _ _ _ _).trans rfl
set_option maxRecDepth 100000 in
theorem x165 (L d : Nat)  (h : PH) : exec (g2 L) (d + 1) 165 [.ref 253] h
  = runL (g2 L) d 11 false none kc_165 2 [.ref 253, .int (nI 0), dm] [] h := (exec_M (by rfl) _ _ rfl).trans (e165_0 L d  h)
set_option maxRecDepth 100000 in
theorem e166_0 (L d : Nat) (x1 : Int32) (x2 : Int32) (h : PH) : runL (g2 L) d 11 false (some .int) kc_166 0 [.ref 253, .int x1, .int x2] [] h
  = asr (inB (((nI 40) + ((nI 8) * x1)) + x2) 440) (some (some (.int (hI h 254 (ix (((nI 40) + ((nI 8) * x1)) + x2)))), h)) := (runL_K [] 16 _ _ _ _).trans rfl
set_option maxRecDepth 100000 in
theorem x166 (L d : Nat) (x1 : Int32) (x2 : Int32) (h : PH) : exec (g2 L) (d + 1) 166 [.ref 253, .int x1, .int x2] h
  = asr (inB (((nI 40) + ((nI 8) * x1)) + x2) 440) (some (some (.int (hI h 254 (ix (((nI 40) + ((nI 8) * x1)) + x2)))), h)) := (exec_M (by rfl) _ _ rfl).trans (e166_0 L d x1 x2 h)
set_option maxRecDepth 100000 in
theorem e167_0 (L d : Nat) (x1 : Int32) (x2 : Int32) (h : PH) : runL (g2 L) d 11 false (some .boolean) kc_167 0 [.ref 253, .int x1, .int x2, dm] [] h
  = runL (g2 L) d 11 false (some .boolean) kc_167 2 [.ref 253, .int x1, .int x2, .int x1] [] h := (runL_K [2] 7 _ _ _ _).trans rfl
set_option maxRecDepth 100000 in
theorem e167_2 (L d : Nat) (x1 : Int32) (x2 : Int32) (x3 : Int32) (h : PH) : runL (g2 L) d 11 false (some .boolean) kc_167 2 [.ref 253, .int x1, .int x2, .int x3] [] h
  = if x3 = m1 then if x3 ≠ m1 then some (some (.int (nI 0)), h) else if x2 ≠ m1 then some (some (.int (nI 0)), h) else some (some (.int (nI 1)), h) else asr (inB ((nI 28) + x3) 440) (if (hI h 254 (ix ((nI 28) + x3))) ≠ (nI 0) then if x3 ≠ m1 then some (some (.int (nI 0)), h) else if x2 ≠ m1 then some (some (.int (nI 0)), h) else some (some (.int (nI 1)), h) else if x3 ≠ x2 then asr (inB ((nI 20) + x3) 440) (runL (g2 L) d 11 false (some .boolean) kc_167 2 [.ref 253, .int x1, .int x2, .int (hI h 254 (ix ((nI 20) + x3)))] [] h) else some (some (.int (nI 1)), h)) := (runL_K [2] 54 _ _ _ _).trans rfl
set_option maxRecDepth 100000 in
theorem x167 (L d : Nat) (x1 : Int32) (x2 : Int32) (h : PH) : exec (g2 L) (d + 1) 167 [.ref 253, .int x1, .int x2] h
  = runL (g2 L) d 11 false (some .boolean) kc_167 2 [.ref 253, .int x1, .int x2, .int x1] [] h := (exec_M (by rfl) _ _ rfl).trans (e167_0 L d x1 x2 h)
set_option maxRecDepth 100000 in
theorem e168_0 (L d : Nat) (x1 : Int32) (h : PH) : runL (g2 L) d 11 false none kc_168 0 [.ref 253, .int x1] [] h
  = asr (inB (x1 + (nI 1)) 440) (if (hI h 254 (ix (x1 + (nI 1)))) ≠ (nI 1) then runL (g2 L) d 11 false none kc_168 18 [.ref 253, .int x1] [.int (nI 0), .ref 253] h else runL (g2 L) d 11 false none kc_168 18 [.ref 253, .int x1] [.int (nI 1), .ref 253] h) := (runL_K [18] 17 _ _ _ _).trans rfl
set_option maxRecDepth 100000 in
theorem e168_18 (L d : Nat) (x1 : Int32) (xs0 : Int32) (h : PH) : runL (g2 L) d 11 false none kc_168 18 [.ref 253, .int x1] [.int xs0, .ref 253] h
  = asr (decide (nrZ xs0 = xs0)) (asr (inB (x1 + (nI 5)) 440) (asr (inB (x1 + (nI 6)) 440) (asr (inB (x1 + (nI 2)) 440) (asr (inB (x1 + (nI 3)) 440) (asr (inB (x1 + (nI 4)) 440) (some (none, wI (wI (wI (wI (wI (wI h 253 11 xs0) 253 12 (hI h 254 (ix (x1 + (nI 5))))) 253 13 (hI h 254 (ix (x1 + (nI 6))))) 253 14 (hI h 254 (ix (x1 + (nI 2))))) 253 15 (hI h 254 (ix (x1 + (nI 3))))) 253 16 (hI h 254 (ix (x1 + (nI 4))))))))))) := (runL_K [18] 47 _ _ _ _).trans rfl
set_option maxRecDepth 100000 in
theorem x168 (L d : Nat) (x1 : Int32) (h : PH) : exec (g2 L) (d + 1) 168 [.ref 253, .int x1] h
  = asr (inB (x1 + (nI 1)) 440) (if (hI h 254 (ix (x1 + (nI 1)))) ≠ (nI 1) then runL (g2 L) d 11 false none kc_168 18 [.ref 253, .int x1] [.int (nI 0), .ref 253] h else runL (g2 L) d 11 false none kc_168 18 [.ref 253, .int x1] [.int (nI 1), .ref 253] h) := (exec_M (by rfl) _ _ rfl).trans (e168_0 L d x1 h)
set_option maxRecDepth 100000 in
theorem e169_0 (L d : Nat) (x1 : Int32) (h : PH) : runL (g2 L) d 11 false (some .boolean) kc_169 0 [.ref 253, .int x1] [] h
  = if (hI h 253 11) = (nI 0) then runL (g2 L) d 11 false (some .boolean) kc_169 17 [.ref 253, .int x1] [] h else if (hI h 253 15) ≠ x1 then runL (g2 L) d 11 false (some .boolean) kc_169 17 [.ref 253, .int x1] [] h else some (some (.int (nI 0)), h) := (runL_K [17] 14 _ _ _ _).trans rfl
set_option maxRecDepth 100000 in
theorem e169_17 (L d : Nat) (x1 : Int32) (h : PH) : runL (g2 L) d 11 false (some .boolean) kc_169 17 [.ref 253, .int x1] [] h
  = cI (exec (g2 L) d 170 [.ref 253, .int ((hI h 253 16) + (nI 1))] (wI (wI h 253 15 x1) 253 16 ((hI h 253 16) + (nI 1)))) fun r2 h1 => some (some (.int (nI 1)), wI h1 253 14 (((hI h 253 14) + r2) % (nI 720))) := (runL_K [17] 27 _ _ _ _).trans rfl
set_option maxRecDepth 100000 in
theorem x169 (L d : Nat) (x1 : Int32) (h : PH) : exec (g2 L) (d + 1) 169 [.ref 253, .int x1] h
  = if (hI h 253 11) = (nI 0) then runL (g2 L) d 11 false (some .boolean) kc_169 17 [.ref 253, .int x1] [] h else if (hI h 253 15) ≠ x1 then runL (g2 L) d 11 false (some .boolean) kc_169 17 [.ref 253, .int x1] [] h else some (some (.int (nI 0)), h) := (exec_M (by rfl) _ _ rfl).trans (e169_0 L d x1 h)
set_option maxRecDepth 100000 in
theorem e170_0 (L d : Nat) (x1 : Int32) (h : PH) : runL (g2 L) d 11 false (some .int) kc_170 0 [.ref 253, .int x1] [] h
  = if (hI h 253 12) = (nI 0) then runL (g2 L) d 11 false (some .int) kc_170 20 [.ref 253, .int x1] [] h else if (hI h 253 12) = nI 0 then none else if (x1 % (hI h 253 12)) ≠ (nI 0) then runL (g2 L) d 11 false (some .int) kc_170 20 [.ref 253, .int x1] [] h else some (some (.int (nI 0)), h) := (runL_K [20] 16 _ _ _ _).trans rfl
set_option maxRecDepth 100000 in
theorem e170_20 (L d : Nat) (x1 : Int32) (h : PH) : runL (g2 L) d 11 false (some .int) kc_170 20 [.ref 253, .int x1] [] h
  = if (hI h 253 13) = (nI 0) then some (some (.int (nI 1)), h) else if (hI h 253 13) = nI 0 then none else if (x1 % (hI h 253 13)) ≠ (nI 0) then some (some (.int (nI 1)), h) else some (some (.int (nI 2)), h) := (runL_K [20] 20 _ _ _ _).trans rfl
set_option maxRecDepth 100000 in
theorem x170 (L d : Nat) (x1 : Int32) (h : PH) : exec (g2 L) (d + 1) 170 [.ref 253, .int x1] h
  = if (hI h 253 12) = (nI 0) then runL (g2 L) d 11 false (some .int) kc_170 20 [.ref 253, .int x1] [] h else if (hI h 253 12) = nI 0 then none else if (x1 % (hI h 253 12)) ≠ (nI 0) then runL (g2 L) d 11 false (some .int) kc_170 20 [.ref 253, .int x1] [] h else some (some (.int (nI 0)), h) := (exec_M (by rfl) _ _ rfl).trans (e170_0 L d x1 h)
set_option maxRecDepth 100000 in
theorem e171_0 (L d : Nat) (x1 : Int32) (h : PH) : runL (g2 L) d 11 false none kc_171 0 [.ref 253, .int x1] [] h
  = asr (inB (x1 + (nI 2)) 440) (asr (inB (x1 + (nI 3)) 440) (asr (inB (x1 + (nI 4)) 440) (some (none, wI (wI (wI h 254 (ix (x1 + (nI 2))) (hI h 253 14)) 254 (ix (x1 + (nI 3))) (hI h 253 15)) 254 (ix (x1 + (nI 4))) (hI h 253 16))))) := (runL_K [] 30 _ _ _ _).trans rfl
set_option maxRecDepth 100000 in
theorem x171 (L d : Nat) (x1 : Int32) (h : PH) : exec (g2 L) (d + 1) 171 [.ref 253, .int x1] h
  = asr (inB (x1 + (nI 2)) 440) (asr (inB (x1 + (nI 3)) 440) (asr (inB (x1 + (nI 4)) 440) (some (none, wI (wI (wI h 254 (ix (x1 + (nI 2))) (hI h 253 14)) 254 (ix (x1 + (nI 3))) (hI h 253 15)) 254 (ix (x1 + (nI 4))) (hI h 253 16))))) := (exec_M (by rfl) _ _ rfl).trans (e171_0 L d x1 h)
set_option maxRecDepth 100000 in
theorem e172_0 (L d : Nat) (x1 : Int32) (h : PH) : runL (g2 L) d 11 false (some .int) kc_172 0 [.ref 253, .int x1, dm] [] h
  = cI (exec (g2 L) d 153 [.int x1, .int (nI 1), .int (nI 1440)] h) fun r2 h1 => if r2 ≠ (nI 0) then runL (g2 L) d 11 false (some .int) kc_172 15 [.ref 253, .int x1, .int (nI 0)] [] h1 else some (some (.int m1), h1) := (runL_K [15] 14 _ _ _ _).trans rfl
set_option maxRecDepth 100000 in
theorem e172_15 (L d : Nat) (x1 : Int32) (x2 : Int32) (h : PH) : runL (g2 L) d 11 false (some .int) kc_172 15 [.ref 253, .int x1, .int x2] [] h
  = if x1 ≤ x2 then some (some (.int (hI h 254 (1))), h) else cV (exec (g2 L) d 165 [.ref 253] h) fun h1 => runL (g2 L) d 11 false (some .int) kc_172 15 [.ref 253, .int x1, .int (x2 + (nI 1))] [] h1 := (runL_K [15] 17 _ _ _ _).trans rfl
set_option maxRecDepth 100000 in
theorem x172 (L d : Nat) (x1 : Int32) (h : PH) : exec (g2 L) (d + 1) 172 [.ref 253, .int x1] h
  = cI (exec (g2 L) d 153 [.int x1, .int (nI 1), .int (nI 1440)] h) fun r2 h1 => if r2 ≠ (nI 0) then runL (g2 L) d 11 false (some .int) kc_172 15 [.ref 253, .int x1, .int (nI 0)] [] h1 else some (some (.int m1), h1) := (exec_M (by rfl) _ _ rfl).trans (e172_0 L d x1 h)
set_option maxRecDepth 100000 in
theorem e173_0 (L d : Nat) (x1 : Int32) (x2 : Int32) (h : PH) : runL (g2 L) d 11 false (some .int) kc_173 0 [.ref 253, .int x1, .int x2, dm, dm] [] h
  = cI (exec (g2 L) d 152 [.ref 253, .int x1] h) fun r2 h1 => if r2 = (nI 0) then some (some (.int m1), h1) else cI (exec (g2 L) d 153 [.int x2, .int (nI 0), .int (nI 1)] h1) fun r4 h3 => if r4 ≠ (nI 0) then runL (g2 L) d 11 false (some .int) kc_173 24 [.ref 253, .int x1, .int x2, .int (nI 0), .int (nI 0)] [] h3 else some (some (.int m1), h3) := (runL_K [24] 22 _ _ _ _).trans rfl
set_option maxRecDepth 100000 in
theorem e173_24 (L d : Nat) (x1 : Int32) (x2 : Int32) (x3 : Int32) (x4 : Int32) (h : PH) : runL (g2 L) d 11 false (some .int) kc_173 24 [.ref 253, .int x1, .int x2, .int x3, .int x4] [] h
  = if (hI h 254 (4)) ≤ x4 then some (some (.int x3), h) else cI (exec (g2 L) d 166 [.ref 253, .int x4, .int (nI 7)] h) fun r2 h1 => if r2 ≠ (nI 0) then runL (g2 L) d 11 false (some .int) kc_173 24 [.ref 253, .int x1, .int x2, .int x3, .int (x4 + (nI 1))] [] h1 else cI (exec (g2 L) d 166 [.ref 253, .int x4, .int (nI 0)] h1) fun r4 h3 => cI (exec (g2 L) d 167 [.ref 253, .int r4, .int x1] h3) fun r6 h5 => if r6 = (nI 0) then runL (g2 L) d 11 false (some .int) kc_173 24 [.ref 253, .int x1, .int x2, .int x3, .int (x4 + (nI 1))] [] h5 else cV (exec (g2 L) d 168 [.ref 253, .int ((nI 40) + ((nI 8) * x4))] h5) fun h7 => cI (exec (g2 L) d 169 [.ref 253, .int x2] h7) fun r9 h8 => if r9 = (nI 0) then cV (exec (g2 L) d 171 [.ref 253, .int ((nI 40) + ((nI 8) * x4))] h8) fun h10 => runL (g2 L) d 11 false (some .int) kc_173 24 [.ref 253, .int x1, .int x2, .int (x3 + (nI 0)), .int (x4 + (nI 1))] [] h10 else cV (exec (g2 L) d 171 [.ref 253, .int ((nI 40) + ((nI 8) * x4))] h8) fun h11 => runL (g2 L) d 11 false (some .int) kc_173 24 [.ref 253, .int x1, .int x2, .int (x3 + (nI 1)), .int (x4 + (nI 1))] [] h11 := (runL_K [24] 67 _ _ _ _).trans rfl
set_option maxRecDepth 100000 in
theorem x173 (L d : Nat) (x1 : Int32) (x2 : Int32) (h : PH) : exec (g2 L) (d + 1) 173 [.ref 253, .int x1, .int x2] h
  = cI (exec (g2 L) d 152 [.ref 253, .int x1] h) fun r2 h1 => if r2 = (nI 0) then some (some (.int m1), h1) else cI (exec (g2 L) d 153 [.int x2, .int (nI 0), .int (nI 1)] h1) fun r4 h3 => if r4 ≠ (nI 0) then runL (g2 L) d 11 false (some .int) kc_173 24 [.ref 253, .int x1, .int x2, .int (nI 0), .int (nI 0)] [] h3 else some (some (.int m1), h3) := (exec_M (by rfl) _ _ rfl).trans (e173_0 L d x1 x2 h)
set_option maxRecDepth 100000 in
theorem e174_0 (L d : Nat) (x1 : Int32) (x2 : Int32) (h : PH) : runL (g2 L) d 11 false (some .int) kc_174 0 [.ref 253, .int x1, .int x2] [] h
  = cI (exec (g2 L) d 157 [.ref 253, .int x1] h) fun r2 h1 => if r2 ≠ (nI 0) then if x2 = (nI 0) then cI (exec (g2 L) d 166 [.ref 253, .int x1, .int (nI 2)] h1) fun r4 h3 => some (some (.int r4), h3) else if x2 = (nI 1) then cI (exec (g2 L) d 166 [.ref 253, .int x1, .int (nI 3)] h1) fun r6 h5 => some (some (.int r6), h5) else if x2 = (nI 2) then cI (exec (g2 L) d 166 [.ref 253, .int x1, .int (nI 4)] h1) fun r8 h7 => some (some (.int r8), h7) else if x2 = (nI 3) then cI (exec (g2 L) d 175 [.ref 253, .int x1] h1) fun r10 h9 => some (some (.int r10), h9) else if x2 = (nI 4) then cI (exec (g2 L) d 166 [.ref 253, .int x1, .int (nI 0)] h1) fun r12 h11 => some (some (.int r12), h11) else if x2 = (nI 5) then cI (exec (g2 L) d 166 [.ref 253, .int x1, .int (nI 7)] h1) fun r14 h13 => some (some (.int r14), h13) else if x2 = (nI 6) then cI (exec (g2 L) d 166 [.ref 253, .int x1, .int (nI 0)] h1) fun r16 h15 => cI (exec (g2 L) d 167 [.ref 253, .int r16, .int m1] h15) fun r18 h17 => if r18 = (nI 0) then some (some (.int (nI 0)), h17) else some (some (.int (nI 1)), h17) else some (some (.int m1), h1) else some (some (.int m1), h1) := (runL_K [] 57 _ _ _ _).trans rfl
set_option maxRecDepth 100000 in
theorem x174 (L d : Nat) (x1 : Int32) (x2 : Int32) (h : PH) : exec (g2 L) (d + 1) 174 [.ref 253, .int x1, .int x2] h
  = cI (exec (g2 L) d 157 [.ref 253, .int x1] h) fun r2 h1 => if r2 ≠ (nI 0) then if x2 = (nI 0) then cI (exec (g2 L) d 166 [.ref 253, .int x1, .int (nI 2)] h1) fun r4 h3 => some (some (.int r4), h3) else if x2 = (nI 1) then cI (exec (g2 L) d 166 [.ref 253, .int x1, .int (nI 3)] h1) fun r6 h5 => some (some (.int r6), h5) else if x2 = (nI 2) then cI (exec (g2 L) d 166 [.ref 253, .int x1, .int (nI 4)] h1) fun r8 h7 => some (some (.int r8), h7) else if x2 = (nI 3) then cI (exec (g2 L) d 175 [.ref 253, .int x1] h1) fun r10 h9 => some (some (.int r10), h9) else if x2 = (nI 4) then cI (exec (g2 L) d 166 [.ref 253, .int x1, .int (nI 0)] h1) fun r12 h11 => some (some (.int r12), h11) else if x2 = (nI 5) then cI (exec (g2 L) d 166 [.ref 253, .int x1, .int (nI 7)] h1) fun r14 h13 => some (some (.int r14), h13) else if x2 = (nI 6) then cI (exec (g2 L) d 166 [.ref 253, .int x1, .int (nI 0)] h1) fun r16 h15 => cI (exec (g2 L) d 167 [.ref 253, .int r16, .int m1] h15) fun r18 h17 => if r18 = (nI 0) then some (some (.int (nI 0)), h17) else some (some (.int (nI 1)), h17) else some (some (.int m1), h1) else some (some (.int m1), h1) := (exec_M (by rfl) _ _ rfl).trans (e174_0 L d x1 x2 h)
set_option maxRecDepth 100000 in
theorem e175_0 (L d : Nat) (x1 : Int32) (h : PH) : runL (g2 L) d 11 false (some .int) kc_175 0 [.ref 253, .int x1, dm] [] h
  = cI (exec (g2 L) d 166 [.ref 253, .int x1, .int (nI 2)] h) fun r2 h1 => if (nI 0) ≤ (((hI h 254 (0)) - r2) % (nI 720)) then some (some (.int (((hI h 254 (0)) - r2) % (nI 720))), h1) else some (some (.int ((((hI h 254 (0)) - r2) % (nI 720)) + (nI 720))), h1) := (runL_K [] 26 _ _ _ _).trans rfl
set_option maxRecDepth 100000 in
theorem x175 (L d : Nat) (x1 : Int32) (h : PH) : exec (g2 L) (d + 1) 175 [.ref 253, .int x1] h
  = cI (exec (g2 L) d 166 [.ref 253, .int x1, .int (nI 2)] h) fun r2 h1 => if (nI 0) ≤ (((hI h 254 (0)) - r2) % (nI 720)) then some (some (.int (((hI h 254 (0)) - r2) % (nI 720))), h1) else some (some (.int ((((hI h 254 (0)) - r2) % (nI 720)) + (nI 720))), h1) := (exec_M (by rfl) _ _ rfl).trans (e175_0 L d x1 h)
set_option maxRecDepth 100000 in
theorem e176_0 (L d : Nat)  (h : PH) : runL (g2 L) d 11 false (some .int) kc_176 0 [.ref 253, dm, dm] [] h
  = runL (g2 L) d 11 false (some .int) kc_176 4 [.ref 253, .int (nI 0), .int (nI 0)] [] h := (runL_K [4] 9 _ _ _ _).trans rfl
set_option maxRecDepth 100000 in
theorem e176_4 (L d : Nat) (x1 : Int32) (x2 : Int32) (h : PH) : runL (g2 L) d 11 false (some .int) kc_176 4 [.ref 253, .int x1, .int x2] [] h
  = if (hI h 254 (4)) ≤ x2 then some (some (.int x1), h) else cI (exec (g2 L) d 175 [.ref 253, .int x2] h) fun r2 h1 => if r2 = (nI 0) then runL (g2 L) d 11 false (some .int) kc_176 4 [.ref 253, .int (x1 + (nI 0)), .int (x2 + (nI 1))] [] h1 else runL (g2 L) d 11 false (some .int) kc_176 4 [.ref 253, .int (x1 + (nI 1)), .int (x2 + (nI 1))] [] h1 := (runL_K [4] 29 _ _ _ _).trans rfl
set_option maxRecDepth 100000 in
theorem x176 (L d : Nat)  (h : PH) : exec (g2 L) (d + 1) 176 [.ref 253] h
  = runL (g2 L) d 11 false (some .int) kc_176 4 [.ref 253, .int (nI 0), .int (nI 0)] [] h := (exec_M (by rfl) _ _ rfl).trans (e176_0 L d  h)
set_option maxRecDepth 100000 in
theorem e177_0 (L d : Nat) (x1 : Int32) (h : PH) : runL (g2 L) d 11 false (some .int) kc_177 0 [.ref 253, .int x1, dm] [] h
  = cI (exec (g2 L) d 153 [.int x1, .int (nI 1), .int (nI 10)] h) fun r2 h1 => if r2 ≠ (nI 0) then runL (g2 L) d 11 false (some .int) kc_177 69 [.ref 253, .int x1, .int (nI 0)] [] (wI (wI (wI (wI (wI h1 254 (8) x1) 254 (9) (hI h1 254 (1))) 254 (10) (hI h1 254 (4))) 254 (11) (hI h1 254 (3))) 254 (7) (nI 0)) else some (some (.int m1), h1) := (runL_K [69, 103] 48 _ _ _ _).trans rfl
set_option maxRecDepth 100000 in
theorem e177_69 (L d : Nat) (x1 : Int32) (x2 : Int32) (h : PH) : runL (g2 L) d 11 false (some .int) kc_177 69 [.ref 253, .int x1, .int x2] [] h
  = if (nI 128) ≤ x2 then runL (g2 L) d 11 false (some .int) kc_177 103 [.ref 253, .int x1, .int (nI 0)] [] h else asr (inB ((nI 40) + x2) 440) (asr (inB ((nI 170) + x2) 440) (runL (g2 L) d 11 false (some .int) kc_177 69 [.ref 253, .int x1, .int (x2 + (nI 1))] [] (wI h 254 (ix ((nI 170) + x2)) (hI h 254 (ix ((nI 40) + x2)))))) := (runL_K [69, 103] 24 _ _ _ _).trans rfl
set_option maxRecDepth 100000 in
theorem e177_103 (L d : Nat) (x1 : Int32) (x2 : Int32) (h : PH) : runL (g2 L) d 11 false (some .int) kc_177 103 [.ref 253, .int x1, .int x2] [] h
  = if (nI 8) ≤ x2 then some (some (.int (hI h 254 (4))), h) else asr (inB ((nI 20) + x2) 440) (asr (inB ((nI 300) + x2) 440) (asr (inB ((nI 28) + x2) 440) (asr (inB ((nI 308) + x2) 440) (runL (g2 L) d 11 false (some .int) kc_177 103 [.ref 253, .int x1, .int (x2 + (nI 1))] [] (wI (wI h 254 (ix ((nI 300) + x2)) (hI h 254 (ix ((nI 20) + x2)))) 254 (ix ((nI 308) + x2)) (hI (wI h 254 (ix ((nI 300) + x2)) (hI h 254 (ix ((nI 20) + x2)))) 254 (ix ((nI 28) + x2)))))))) := (runL_K [69, 103] 39 _ _ _ _).trans rfl
set_option maxRecDepth 100000 in
theorem x177 (L d : Nat) (x1 : Int32) (h : PH) : exec (g2 L) (d + 1) 177 [.ref 253, .int x1] h
  = cI (exec (g2 L) d 153 [.int x1, .int (nI 1), .int (nI 10)] h) fun r2 h1 => if r2 ≠ (nI 0) then runL (g2 L) d 11 false (some .int) kc_177 69 [.ref 253, .int x1, .int (nI 0)] [] (wI (wI (wI (wI (wI h1 254 (8) x1) 254 (9) (hI h1 254 (1))) 254 (10) (hI h1 254 (4))) 254 (11) (hI h1 254 (3))) 254 (7) (nI 0)) else some (some (.int m1), h1) := (exec_M (by rfl) _ _ rfl).trans (e177_0 L d x1 h)
set_option maxRecDepth 100000 in
theorem e178_0 (L d : Nat) (x1 : Int32) (x2 : Int32) (x3 : Int32) (h : PH) : runL (g2 L) d 11 false (some .int) kc_178 0 [.ref 253, .int x1, .int x2, .int x3, dm] [] h
  = if (hI h 254 (8)) = (nI 0) then some (some (.int m1), h) else cI (exec (g2 L) d 153 [.int x1, .int (nI 0), .int ((hI h 254 (10)) - (nI 1))] h) fun r2 h1 => if r2 = (nI 0) then some (some (.int m1), h1) else cI (exec (g2 L) d 153 [.int x2, .int (nI 0), .int (hI h1 254 (8))] h1) fun r4 h3 => if r4 = (nI 0) then some (some (.int m1), h3) else cI (exec (g2 L) d 153 [.int x3, .int (nI 0), .int (nI 719)] h3) fun r6 h5 => if r6 = (nI 0) then some (some (.int m1), h5) else if (hI h5 254 (7)) ≠ (nI 30) then asr (inB ((nI 320) + ((nI 4) * (hI h5 254 (7)))) 440) (asr (inB (((nI 320) + ((nI 4) * (hI h5 254 (7)))) + (nI 1)) 440) (asr (inB (((nI 320) + ((nI 4) * (hI h5 254 (7)))) + (nI 2)) 440) (cI (exec (g2 L) d 179 [.ref 253] (wI (wI (wI h5 254 (ix ((nI 320) + ((nI 4) * (hI h5 254 (7))))) x1) 254 (ix (((nI 320) + ((nI 4) * (hI h5 254 (7)))) + (nI 1))) x2) 254 (ix (((nI 320) + ((nI 4) * (hI h5 254 (7)))) + (nI 2))) x3)) fun r8 h7 => asr (inB (((nI 320) + ((nI 4) * (hI h5 254 (7)))) + (nI 3)) 440) (some (some (.int ((hI (wI h7 254 (ix (((nI 320) + ((nI 4) * (hI h5 254 (7)))) + (nI 3))) r8) 254 (7)) + (nI 1))), wI (wI h7 254 (ix (((nI 320) + ((nI 4) * (hI h5 254 (7)))) + (nI 3))) r8) 254 (7) ((hI (wI h7 254 (ix (((nI 320) + ((nI 4) * (hI h5 254 (7)))) + (nI 3))) r8) 254 (7)) + (nI 1))))))) else some (some (.int m1), h5) := (runL_K [] 98 _ _ _ _).trans rfl
set_option maxRecDepth 100000 in
theorem x178 (L d : Nat) (x1 : Int32) (x2 : Int32) (x3 : Int32) (h : PH) : exec (g2 L) (d + 1) 178 [.ref 253, .int x1, .int x2, .int x3] h
  = if (hI h 254 (8)) = (nI 0) then some (some (.int m1), h) else cI (exec (g2 L) d 153 [.int x1, .int (nI 0), .int ((hI h 254 (10)) - (nI 1))] h) fun r2 h1 => if r2 = (nI 0) then some (some (.int m1), h1) else cI (exec (g2 L) d 153 [.int x2, .int (nI 0), .int (hI h1 254 (8))] h1) fun r4 h3 => if r4 = (nI 0) then some (some (.int m1), h3) else cI (exec (g2 L) d 153 [.int x3, .int (nI 0), .int (nI 719)] h3) fun r6 h5 => if r6 = (nI 0) then some (some (.int m1), h5) else if (hI h5 254 (7)) ≠ (nI 30) then asr (inB ((nI 320) + ((nI 4) * (hI h5 254 (7)))) 440) (asr (inB (((nI 320) + ((nI 4) * (hI h5 254 (7)))) + (nI 1)) 440) (asr (inB (((nI 320) + ((nI 4) * (hI h5 254 (7)))) + (nI 2)) 440) (cI (exec (g2 L) d 179 [.ref 253] (wI (wI (wI h5 254 (ix ((nI 320) + ((nI 4) * (hI h5 254 (7))))) x1) 254 (ix (((nI 320) + ((nI 4) * (hI h5 254 (7)))) + (nI 1))) x2) 254 (ix (((nI 320) + ((nI 4) * (hI h5 254 (7)))) + (nI 2))) x3)) fun r8 h7 => asr (inB (((nI 320) + ((nI 4) * (hI h5 254 (7)))) + (nI 3)) 440) (some (some (.int ((hI (wI h7 254 (ix (((nI 320) + ((nI 4) * (hI h5 254 (7)))) + (nI 3))) r8) 254 (7)) + (nI 1))), wI (wI h7 254 (ix (((nI 320) + ((nI 4) * (hI h5 254 (7)))) + (nI 3))) r8) 254 (7) ((hI (wI h7 254 (ix (((nI 320) + ((nI 4) * (hI h5 254 (7)))) + (nI 3))) r8) 254 (7)) + (nI 1))))))) else some (some (.int m1), h5) := (exec_M (by rfl) _ _ rfl).trans (e178_0 L d x1 x2 x3 h)
set_option maxRecDepth 100000 in
theorem e179_0 (L d : Nat)  (h : PH) : runL (g2 L) d 11 false (some .int) kc_179 0 [.ref 253] [] h
  = some (some (.int ((hI h 254 (0)) / (nI 1440))), h) := (runL_K [] 12 _ _ _ _).trans rfl
set_option maxRecDepth 100000 in
theorem x179 (L d : Nat)  (h : PH) : exec (g2 L) (d + 1) 179 [.ref 253] h
  = some (some (.int ((hI h 254 (0)) / (nI 1440))), h) := (exec_M (by rfl) _ _ rfl).trans (e179_0 L d  h)
set_option maxRecDepth 100000 in
theorem e180_0 (L d : Nat) (x1 : Int32) (h : PH) : runL (g2 L) d 11 false (some .int) kc_180 0 [.ref 253, .int x1] [] h
  = cI (exec (g2 L) d 181 [.ref 253, .int x1] h) fun r2 h1 => if r2 = (nI 0) then some (some (.int m1), h1) else cI (exec (g2 L) d 182 [.ref 253, .int x1, .int (nI 0)] h1) fun r4 h3 => if r4 = (nI 0) then some (some (.int m1), h3) else some (some (.int (hI h3 253 25)), h3) := (runL_K [] 22 _ _ _ _).trans rfl
set_option maxRecDepth 100000 in
theorem x180 (L d : Nat) (x1 : Int32) (h : PH) : exec (g2 L) (d + 1) 180 [.ref 253, .int x1] h
  = cI (exec (g2 L) d 181 [.ref 253, .int x1] h) fun r2 h1 => if r2 = (nI 0) then some (some (.int m1), h1) else cI (exec (g2 L) d 182 [.ref 253, .int x1, .int (nI 0)] h1) fun r4 h3 => if r4 = (nI 0) then some (some (.int m1), h3) else some (some (.int (hI h3 253 25)), h3) := (exec_M (by rfl) _ _ rfl).trans (e180_0 L d x1 h)
set_option maxRecDepth 100000 in
theorem e181_0 (L d : Nat) (x1 : Int32) (h : PH) : runL (g2 L) d 11 false (some .boolean) kc_181 0 [.ref 253, .int x1] [] h
  = if (hI h 254 (8)) ≤ (nI 0) then some (some (.int (nI 0)), h) else cI (exec (g2 L) d 153 [.int x1, .int (nI 0), .int (nI 399)] h) fun r2 h1 => if r2 = (nI 0) then some (some (.int (nI 0)), h1) else some (some (.int (nI 1)), h1) := (runL_K [] 22 _ _ _ _).trans rfl
set_option maxRecDepth 100000 in
theorem x181 (L d : Nat) (x1 : Int32) (h : PH) : exec (g2 L) (d + 1) 181 [.ref 253, .int x1] h
  = if (hI h 254 (8)) ≤ (nI 0) then some (some (.int (nI 0)), h) else cI (exec (g2 L) d 153 [.int x1, .int (nI 0), .int (nI 399)] h) fun r2 h1 => if r2 = (nI 0) then some (some (.int (nI 0)), h1) else some (some (.int (nI 1)), h1) := (exec_M (by rfl) _ _ rfl).trans (e181_0 L d x1 h)
set_option maxRecDepth 100000 in
theorem e182_0 (L d : Nat) (x1 : Int32) (x2 : Int32) (h : PH) : runL (g2 L) d 11 false (some .boolean) kc_182 0 [.ref 253, .int x1, .int x2, dm] [] h
  = cV (exec (g2 L) d 183 [.ref 253] h) fun h1 => cV (exec (g2 L) d 184 [.ref 253, .int x1] h1) fun h2 => cI (exec (g2 L) d 192 [.ref 253, .int m1, .int m1] h2) fun r4 h3 => cV (exec (g2 L) d 197 [.ref 253, .int (nI 1)] (wI h3 253 25 r4)) fun h5 => if (hI h5 253 25) = (nI 1000) then if (nI 1000) ≤ (hI h5 253 25) then some (some (.int (nI 0)), h5) else some (some (.int (nI 1)), h5) else if x2 ≠ (nI 0) then runL (g2 L) d 11 false (some .boolean) kc_182 61 [.ref 253, .int x1, .int x2, .int (nI 0)] [] (wI h5 253 26 (nI 0)) else if (nI 1000) ≤ (hI h5 253 25) then some (some (.int (nI 0)), h5) else some (some (.int (nI 1)), h5) := (runL_K [61, 82] 48 _ _ _ _).trans rfl
set_option maxRecDepth 100000 in
theorem e182_61 (L d : Nat) (x1 : Int32) (x2 : Int32) (x3 : Int32) (h : PH) : runL (g2 L) d 11 false (some .boolean) kc_182 61 [.ref 253, .int x1, .int x2, .int x3] [] h
  = if (nI 88) ≤ x3 then runL (g2 L) d 11 false (some .boolean) kc_182 82 [.ref 253, .int x1, .int x2, .int (nI 0)] [] h else asr (inB x3 88) (runL (g2 L) d 11 false (some .boolean) kc_182 61 [.ref 253, .int x1, .int x2, .int (x3 + (nI 1))] [] (wI h 269 (ix x3) (nI 0))) := (runL_K [61, 82] 17 _ _ _ _).trans rfl
set_option maxRecDepth 100000 in
theorem e182_82 (L d : Nat) (x1 : Int32) (x2 : Int32) (x3 : Int32) (h : PH) : runL (g2 L) d 11 false (some .boolean) kc_182 82 [.ref 253, .int x1, .int x2, .int x3] [] h
  = if (nI 16384) ≤ x3 then cV (exec (g2 L) d 199 [.ref 253, .int m1, .int m1] h) fun h1 => cV (exec (g2 L) d 197 [.ref 253, .int (nI 0)] h1) fun h2 => some (some (.int (nI 1)), h2) else asr (inB x3 16384) (runL (g2 L) d 11 false (some .boolean) kc_182 82 [.ref 253, .int x1, .int x2, .int (x3 + (nI 1))] [] (wI h 270 (ix x3) (nI 0))) := (runL_K [61, 82] 24 _ _ _ _).trans rfl
set_option maxRecDepth 100000 in
theorem x182 (L d : Nat) (x1 : Int32) (x2 : Int32) (h : PH) : exec (g2 L) (d + 1) 182 [.ref 253, .int x1, .int x2] h
  = cV (exec (g2 L) d 183 [.ref 253] h) fun h1 => cV (exec (g2 L) d 184 [.ref 253, .int x1] h1) fun h2 => cI (exec (g2 L) d 192 [.ref 253, .int m1, .int m1] h2) fun r4 h3 => cV (exec (g2 L) d 197 [.ref 253, .int (nI 1)] (wI h3 253 25 r4)) fun h5 => if (hI h5 253 25) = (nI 1000) then if (nI 1000) ≤ (hI h5 253 25) then some (some (.int (nI 0)), h5) else some (some (.int (nI 1)), h5) else if x2 ≠ (nI 0) then runL (g2 L) d 11 false (some .boolean) kc_182 61 [.ref 253, .int x1, .int x2, .int (nI 0)] [] (wI h5 253 26 (nI 0)) else if (nI 1000) ≤ (hI h5 253 25) then some (some (.int (nI 0)), h5) else some (some (.int (nI 1)), h5) := (exec_M (by rfl) _ _ rfl).trans (e182_0 L d x1 x2 h)
set_option maxRecDepth 100000 in
theorem e183_0 (L d : Nat)  (h : PH) : runL (g2 L) d 11 false none kc_183 0 [.ref 253, dm, dm] [] h
  = runL (g2 L) d 11 false none kc_183 7 [.ref 253, .int (nI 1), dm] [] (wI h 253 21 (nI 0)) := (runL_K [7, 20] 10 _ _ _ _).trans rfl
set_option maxRecDepth 100000 in
theorem e183_7 (L d : Nat) (x1 : Int32) (v2 : Value) (h : PH) : runL (g2 L) d 11 false none kc_183 7 [.ref 253, .int x1, v2] [] h
  = if (hI h 254 (8)) < x1 then some (none, h) else runL (g2 L) d 11 false none kc_183 20 [.ref 253, .int x1, .int x1] [] h := (runL_K [7, 20] 14 _ _ _ _).trans rfl
set_option maxRecDepth 100000 in
theorem e183_20 (L d : Nat) (x1 : Int32) (x2 : Int32) (h : PH) : runL (g2 L) d 11 false none kc_183 20 [.ref 253, .int x1, .int x2] [] h
  = if (hI h 254 (8)) < x2 then runL (g2 L) d 11 false none kc_183 7 [.ref 253, .int (x1 + (nI 1)), .int x2] [] h else asr (inB (hI h 253 21) 55) (asr (inB (hI h 253 21) 55) (runL (g2 L) d 11 false none kc_183 20 [.ref 253, .int x1, .int (x2 + (nI 1))] [] (wI (wI (wI h 266 (ix (hI h 253 21)) x1) 267 (ix (hI h 253 21)) x2) 253 21 ((hI h 253 21) + (nI 1))))) := (runL_K [7, 20] 33 _ _ _ _).trans rfl
set_option maxRecDepth 100000 in
theorem x183 (L d : Nat)  (h : PH) : exec (g2 L) (d + 1) 183 [.ref 253] h
  = runL (g2 L) d 11 false none kc_183 7 [.ref 253, .int (nI 1), dm] [] (wI h 253 21 (nI 0)) := (exec_M (by rfl) _ _ rfl).trans (e183_0 L d  h)
set_option maxRecDepth 100000 in
theorem e184_0 (L d : Nat) (x1 : Int32) (h : PH) : runL (g2 L) d 11 false none kc_184 0 [.ref 253, .int x1, dm, dm, dm] [] h
  = runL (g2 L) d 11 false none kc_184 2 [.ref 253, .int x1, .int (nI 0), dm, dm] [] h := (runL_K [2, 32] 7 _ _ _ _).trans rfl
set_option maxRecDepth 100000 in
theorem e184_2 (L d : Nat) (x1 : Int32) (x2 : Int32) (v3 : Value) (v4 : Value) (h : PH) : runL (g2 L) d 11 false none kc_184 2 [.ref 253, .int x1, .int x2, v3, v4] [] h
  = if (hI h 254 (10)) ≤ x2 then some (none, h) else cI (exec (g2 L) d 185 [.ref 253, .int x2, .int x1] h) fun r2 h1 => if r2 = (nI 0) then runL (g2 L) d 11 false none kc_184 32 [.ref 253, .int x1, .int x2, .int r2, .int (nI 0)] [] h1 else cV (exec (g2 L) d 186 [.ref 253, .int x2] h1) fun h3 => runL (g2 L) d 11 false none kc_184 32 [.ref 253, .int x1, .int x2, .int r2, .int (nI 0)] [] h3 := (runL_K [2, 32] 26 _ _ _ _).trans rfl
set_option maxRecDepth 100000 in
theorem e184_32 (L d : Nat) (x1 : Int32) (x2 : Int32) (x3 : Int32) (x4 : Int32) (h : PH) : runL (g2 L) d 11 false none kc_184 32 [.ref 253, .int x1, .int x2, .int x3, .int x4] [] h
  = if ((nI 1) <<< ((hI h 254 (8)) &&& nI 31)) ≤ x4 then runL (g2 L) d 11 false none kc_184 2 [.ref 253, .int x1, .int (x2 + (nI 1)), .int x3, .int x4] [] h else if x3 = (nI 0) then asr (inB (((nI 1024) * x2) + x4) 16384) (runL (g2 L) d 11 false none kc_184 32 [.ref 253, .int x1, .int x2, .int x3, .int (x4 + (nI 1))] [] (wI h 262 (ix (((nI 1024) * x2) + x4)) (nI 0))) else cI (exec (g2 L) d 187 [.ref 253, .int x2, .int x4, .int x1] h) fun r2 h1 => asr (inB (((nI 1024) * x2) + x4) 16384) (runL (g2 L) d 11 false none kc_184 32 [.ref 253, .int x1, .int x2, .int x3, .int (x4 + (nI 1))] [] (wI h1 262 (ix (((nI 1024) * x2) + x4)) r2)) := (runL_K [2, 32] 37 _ _ _ _).trans rfl
set_option maxRecDepth 100000 in
theorem x184 (L d : Nat) (x1 : Int32) (h : PH) : exec (g2 L) (d + 1) 184 [.ref 253, .int x1] h
  = runL (g2 L) d 11 false none kc_184 2 [.ref 253, .int x1, .int (nI 0), dm, dm] [] h := (exec_M (by rfl) _ _ rfl).trans (e184_0 L d x1 h)
set_option maxRecDepth 100000 in
theorem e185_0 (L d : Nat) (x1 : Int32) (x2 : Int32) (h : PH) : runL (g2 L) d 11 false (some .boolean) kc_185 0 [.ref 253, .int x1, .int x2, dm, dm] [] h
  = runL (g2 L) d 11 false (some .boolean) kc_185 5 [.ref 253, .int x1, .int x2, .int (nI 0), .int (nI 0)] [] h := (runL_K [5] 9 _ _ _ _).trans rfl
set_option maxRecDepth 100000 in
theorem e185_5 (L d : Nat) (x1 : Int32) (x2 : Int32) (x3 : Int32) (x4 : Int32) (h : PH) : runL (g2 L) d 11 false (some .boolean) kc_185 5 [.ref 253, .int x1, .int x2, .int x3, .int x4] [] h
  = if (hI h 254 (7)) ≤ x4 then asr (decide (nrZ x3 = x3)) (some (some (.int x3), h)) else if x3 ≠ (nI 0) then runL (g2 L) d 11 false (some .boolean) kc_185 5 [.ref 253, .int x1, .int x2, .int (nI 1), .int (x4 + (nI 1))] [] h else asr (inB ((nI 320) + ((nI 4) * x4)) 440) (if (hI h 254 (ix ((nI 320) + ((nI 4) * x4)))) ≠ x1 then runL (g2 L) d 11 false (some .boolean) kc_185 5 [.ref 253, .int x1, .int x2, .int (nI 0), .int (x4 + (nI 1))] [] h else asr (inB (((nI 320) + ((nI 4) * x4)) + (nI 3)) 440) (if x2 < (hI h 254 (ix (((nI 320) + ((nI 4) * x4)) + (nI 3)))) then runL (g2 L) d 11 false (some .boolean) kc_185 5 [.ref 253, .int x1, .int x2, .int (nI 0), .int (x4 + (nI 1))] [] h else runL (g2 L) d 11 false (some .boolean) kc_185 5 [.ref 253, .int x1, .int x2, .int (nI 1), .int (x4 + (nI 1))] [] h)) := (runL_K [5] 55 _ _ _ _).trans rfl
set_option maxRecDepth 100000 in
theorem x185 (L d : Nat) (x1 : Int32) (x2 : Int32) (h : PH) : exec (g2 L) (d + 1) 185 [.ref 253, .int x1, .int x2] h
  = runL (g2 L) d 11 false (some .boolean) kc_185 5 [.ref 253, .int x1, .int x2, .int (nI 0), .int (nI 0)] [] h := (exec_M (by rfl) _ _ rfl).trans (e185_0 L d x1 x2 h)
set_option maxRecDepth 100000 in
theorem e186_0 (L d : Nat) (x1 : Int32) (h : PH) : runL (g2 L) d 11 false none kc_186 0 [.ref 253, .int x1, dm] [] h
  = cV (exec (g2 L) d 168 [.ref 253, .int ((nI 170) + ((nI 8) * x1))] h) fun h1 => runL (g2 L) d 11 false none kc_186 24 [.ref 253, .int x1, .int (nI 1)] [] (wI h1 265 (0) (hI h1 253 14)) := (runL_K [24] 20 _ _ _ _).trans rfl
set_option maxRecDepth 100000 in
theorem e186_24 (L d : Nat) (x1 : Int32) (x2 : Int32) (h : PH) : runL (g2 L) d 11 false none kc_186 24 [.ref 253, .int x1, .int x2] [] h
  = if (nI 11) ≤ x2 then some (none, h) else asr (inB (x2 - (nI 1)) 11) (cI (exec (g2 L) d 170 [.ref 253, .int ((hI h 253 16) + x2)] h) fun r2 h1 => asr (inB x2 11) (runL (g2 L) d 11 false none kc_186 24 [.ref 253, .int x1, .int (x2 + (nI 1))] [] (wI h1 265 (ix x2) ((hI h 265 (ix (x2 - (nI 1)))) + r2)))) := (runL_K [24] 28 _ _ _ _).trans rfl
set_option maxRecDepth 100000 in
theorem x186 (L d : Nat) (x1 : Int32) (h : PH) : exec (g2 L) (d + 1) 186 [.ref 253, .int x1] h
  = cV (exec (g2 L) d 168 [.ref 253, .int ((nI 170) + ((nI 8) * x1))] h) fun h1 => runL (g2 L) d 11 false none kc_186 24 [.ref 253, .int x1, .int (nI 1)] [] (wI h1 265 (0) (hI h1 253 14)) := (exec_M (by rfl) _ _ rfl).trans (e186_0 L d x1 h)
