-- PART: equations of the methods, printed by gen/geneq.py.
set_option maxRecDepth 100000 in
theorem e6_0 (L d : Nat)  (h : PH) : runL (g2 L) d 5 false none kc_6 0 [.ref 95, dm] [] h
  = runL (g2 L) d 5 false none kc_6 2 [.ref 95, .int (nI 0)] [] h := (runL_K [2] 7 _ _ _ _).trans rfl
set_option maxRecDepth 100000 in
theorem e6_2 (L d : Nat) (x1 : Int32) (h : PH) : runL (g2 L) d 5 false none kc_6 2 [.ref 95, .int x1] [] h
  = if (nI 30) < x1 then some (none, h) else asr (inB x1 31) (asr (okW (g2 L) h (97 + ix x1) 1) (asr (inB (nI 0) (lenA (g2 L) (97 + ix x1))) (runL (g2 L) d 5 false none kc_6 2 [.ref 95, .int (x1 + (nI 1))] [] (wI h (97 + ix x1) (0) m2)))) := (runL_K [2] 18 _ _ _ _).trans rfl
set_option maxRecDepth 100000 in
theorem x6 (L d : Nat)  (h : PH) : exec (g2 L) (d + 1) 6 [.ref 95] h
  = runL (g2 L) d 5 false none kc_6 2 [.ref 95, .int (nI 0)] [] h := (exec_M (by rfl) _ _ rfl).trans (e6_0 L d  h)
set_option maxRecDepth 100000 in
theorem e8_0 (L d : Nat)  (h : PH) : runL (g2 L) d 6 false none kc_8 0 [.ref 163, dm] [] h
  = runL (g2 L) d 6 false none kc_8 2 [.ref 163, .int (nI 0)] [] h := (runL_K [2] 7 _ _ _ _).trans rfl
set_option maxRecDepth 100000 in
theorem e8_2 (L d : Nat) (x1 : Int32) (h : PH) : runL (g2 L) d 6 false none kc_8 2 [.ref 163, .int x1] [] h
  = if (nI 16) ≤ x1 then some (none, h) else asr (inB x1 16) (asr (okW (g2 L) h (165 + ix x1) 1) (asr (inB (nI 0) (lenA (g2 L) (165 + ix x1))) (runL (g2 L) d 6 false none kc_8 2 [.ref 163, .int (x1 + (nI 1))] [] (wI h (165 + ix x1) (0) m2)))) := (runL_K [2] 18 _ _ _ _).trans rfl
set_option maxRecDepth 100000 in
theorem x8 (L d : Nat)  (h : PH) : exec (g2 L) (d + 1) 8 [.ref 163] h
  = runL (g2 L) d 6 false none kc_8 2 [.ref 163, .int (nI 0)] [] h := (exec_M (by rfl) _ _ rfl).trans (e8_0 L d  h)
set_option maxRecDepth 100000 in
theorem e13_0 (L d : Nat) (x1 : Int32) (h : PH) : runL (g2 L) d 0 false (some .int) kc_13 0 [.ref 2, .int x1, dm] [] h
  = if x1 = m1 then runL (g2 L) d 0 false (some .int) kc_13 24 [.ref 2, .int x1, dm] [.int (nI 1)] h else cI (exec (g2 L) d 14 [.ref 4, .int x1] h) fun r2 h1 => if r2 = (nI 0) then runL (g2 L) d 0 false (some .int) kc_13 24 [.ref 2, .int x1, dm] [.int (nI 0)] h1 else runL (g2 L) d 0 false (some .int) kc_13 24 [.ref 2, .int x1, dm] [.int (nI 1)] h1 := (runL_K [24] 19 _ _ _ _).trans rfl
set_option maxRecDepth 100000 in
theorem e13_24 (L d : Nat) (x1 : Int32) (xs0 : Int32) (h : PH) : runL (g2 L) d 0 false (some .int) kc_13 24 [.ref 2, .int x1, dm] [.int xs0] h
  = if xs0 = (nI 0) then some (some (.int m1), h) else if (hI h 4 0) < (nI 8) then cI (exec (g2 L) d 15 [.ref 4, .int x1] h) fun r2 h1 => some (some (.int r2), h1) else some (some (.int m1), h) := (runL_K [24] 24 _ _ _ _).trans rfl
set_option maxRecDepth 100000 in
theorem x13 (L d : Nat) (x1 : Int32) (h : PH) : exec (g2 L) (d + 1) 13 [.ref 2, .int x1] h
  = if x1 = m1 then runL (g2 L) d 0 false (some .int) kc_13 24 [.ref 2, .int x1, dm] [.int (nI 1)] h else cI (exec (g2 L) d 14 [.ref 4, .int x1] h) fun r2 h1 => if r2 = (nI 0) then runL (g2 L) d 0 false (some .int) kc_13 24 [.ref 2, .int x1, dm] [.int (nI 0)] h1 else runL (g2 L) d 0 false (some .int) kc_13 24 [.ref 2, .int x1, dm] [.int (nI 1)] h1 := (exec_M (by rfl) _ _ rfl).trans (e13_0 L d x1 h)
set_option maxRecDepth 100000 in
theorem e14_0a (L d : Nat) (x1 : Int32) (h : PH) : runL (g2 L) d 2 false (some .boolean) kc_14 0 [.ref 4, .int x1] [] h
  = if x1 < (nI 0) then some (some (.int (nI 0)), h) else if (hI h 4 0) ≤ x1 then some (some (.int (nI 0)), h) else some (some (.int (nI 1)), h) := (runL_K [] 18 _ _ _ _).trans rfl
set_option maxRecDepth 100000 in
theorem x14a (L d : Nat) (x1 : Int32) (h : PH) : exec (g2 L) (d + 1) 14 [.ref 4, .int x1] h
  = if x1 < (nI 0) then some (some (.int (nI 0)), h) else if (hI h 4 0) ≤ x1 then some (some (.int (nI 0)), h) else some (some (.int (nI 1)), h) := (exec_M (by rfl) _ _ rfl).trans (e14_0a L d x1 h)
set_option maxRecDepth 100000 in
theorem e14_0b (L d : Nat) (x1 : Int32) (h : PH) : runL (g2 L) d 2 false (some .boolean) kc_14 0 [.ref 9, .int x1] [] h
  = if x1 < (nI 0) then some (some (.int (nI 0)), h) else if (hI h 9 0) ≤ x1 then some (some (.int (nI 0)), h) else some (some (.int (nI 1)), h) := (runL_K [] 18 _ _ _ _).trans rfl
set_option maxRecDepth 100000 in
theorem x14b (L d : Nat) (x1 : Int32) (h : PH) : exec (g2 L) (d + 1) 14 [.ref 9, .int x1] h
  = if x1 < (nI 0) then some (some (.int (nI 0)), h) else if (hI h 9 0) ≤ x1 then some (some (.int (nI 0)), h) else some (some (.int (nI 1)), h) := (exec_M (by rfl) _ _ rfl).trans (e14_0b L d x1 h)
set_option maxRecDepth 100000 in
theorem e15_0 (L d : Nat) (x1 : Int32) (h : PH) : runL (g2 L) d 2 false (some .int) kc_15 0 [.ref 4, .int x1] [] h
  = if (hI h 4 0) < (nI 8) then asr (inB (hI h 4 0) 8) (asr (inB (hI h 4 0) 8) (some (some (.int (((hI h 4 0) + (nI 1)) - (nI 1))), wI (wI (wI h 5 (ix (hI h 4 0)) x1) 6 (ix (hI h 4 0)) (nI 0)) 4 0 ((hI h 4 0) + (nI 1))))) else some (some (.int m1), h) := (runL_K [] 34 _ _ _ _).trans rfl
set_option maxRecDepth 100000 in
theorem x15 (L d : Nat) (x1 : Int32) (h : PH) : exec (g2 L) (d + 1) 15 [.ref 4, .int x1] h
  = if (hI h 4 0) < (nI 8) then asr (inB (hI h 4 0) 8) (asr (inB (hI h 4 0) 8) (some (some (.int (((hI h 4 0) + (nI 1)) - (nI 1))), wI (wI (wI h 5 (ix (hI h 4 0)) x1) 6 (ix (hI h 4 0)) (nI 0)) 4 0 ((hI h 4 0) + (nI 1))))) else some (some (.int m1), h) := (exec_M (by rfl) _ _ rfl).trans (e15_0 L d x1 h)
set_option maxRecDepth 100000 in
theorem e16_0 (L d : Nat) (x1 : Int32) (x2 : Int32) (x3 : Int32) (x4 : Int32) (h : PH) : runL (g2 L) d 0 false (some .int) kc_16 0 [.ref 2, .int x1, .int x2, .int x3, .int x4, dm] [] h
  = cI (exec (g2 L) d 14 [.ref 4, .int x1] h) fun r2 h1 => if r2 = (nI 0) then some (some (.int m1), h1) else cI (exec (g2 L) d 17 [.int x3] h1) fun r4 h3 => if r4 = (nI 0) then some (some (.int m1), h3) else cI (exec (g2 L) d 19 [.int x4] h3) fun r6 h5 => if r6 = (nI 0) then some (some (.int m1), h5) else if (hI h5 3 3) < (nI 16) then cV (exec (g2 L) d 8 [.ref 163] h5) fun h7 => asr (inB (hI h7 3 3) 16) (asr (okA (g2 L) h7 (33 + ix (hI h7 3 3)) 24) (cV (exec (g2 L) d 20 [.ref (33 + ix (hI h7 3 3)), .int x1, .int x2, .int x3, .int x4] h7) fun h8 => some (some (.int (hI h7 3 3)), wI h8 3 3 ((hI h7 3 3) + (nI 1))))) else some (some (.int m1), h5) := (runL_K [] 55 _ _ _ _).trans rfl
set_option maxRecDepth 100000 in
theorem x16 (L d : Nat) (x1 : Int32) (x2 : Int32) (x3 : Int32) (x4 : Int32) (h : PH) : exec (g2 L) (d + 1) 16 [.ref 2, .int x1, .int x2, .int x3, .int x4] h
  = cI (exec (g2 L) d 14 [.ref 4, .int x1] h) fun r2 h1 => if r2 = (nI 0) then some (some (.int m1), h1) else cI (exec (g2 L) d 17 [.int x3] h1) fun r4 h3 => if r4 = (nI 0) then some (some (.int m1), h3) else cI (exec (g2 L) d 19 [.int x4] h3) fun r6 h5 => if r6 = (nI 0) then some (some (.int m1), h5) else if (hI h5 3 3) < (nI 16) then cV (exec (g2 L) d 8 [.ref 163] h5) fun h7 => asr (inB (hI h7 3 3) 16) (asr (okA (g2 L) h7 (33 + ix (hI h7 3 3)) 24) (cV (exec (g2 L) d 20 [.ref (33 + ix (hI h7 3 3)), .int x1, .int x2, .int x3, .int x4] h7) fun h8 => some (some (.int (hI h7 3 3)), wI h8 3 3 ((hI h7 3 3) + (nI 1))))) else some (some (.int m1), h5) := (exec_M (by rfl) _ _ rfl).trans (e16_0 L d x1 x2 x3 x4 h)
set_option maxRecDepth 100000 in
theorem e17_0 (L d : Nat) (x0 : Int32) (h : PH) : runL (g2 L) d 0 false (some .boolean) kc_17 0 [.int x0] [] h
  = cI (exec (g2 L) d 18 [.int x0, .int (nI 0), .int (nI 719)] h) fun r2 h1 => asr (decide (nrZ r2 = r2)) (some (some (.int r2), h1)) := (runL_K [] 10 _ _ _ _).trans rfl
set_option maxRecDepth 100000 in
theorem x17 (L d : Nat) (x0 : Int32) (h : PH) : exec (g2 L) (d + 1) 17 [.int x0] h
  = cI (exec (g2 L) d 18 [.int x0, .int (nI 0), .int (nI 719)] h) fun r2 h1 => asr (decide (nrZ r2 = r2)) (some (some (.int r2), h1)) := (exec_M (by rfl) _ _ rfl).trans (e17_0 L d x0 h)
set_option maxRecDepth 100000 in
theorem e18_0 (L d : Nat) (x0 : Int32) (x1 : Int32) (x2 : Int32) (h : PH) : runL (g2 L) d 0 false (some .boolean) kc_18 0 [.int x0, .int x1, .int x2] [] h
  = if x0 < x1 then some (some (.int (nI 0)), h) else if x2 < x0 then some (some (.int (nI 0)), h) else some (some (.int (nI 1)), h) := (runL_K [] 18 _ _ _ _).trans rfl
set_option maxRecDepth 100000 in
theorem x18 (L d : Nat) (x0 : Int32) (x1 : Int32) (x2 : Int32) (h : PH) : exec (g2 L) (d + 1) 18 [.int x0, .int x1, .int x2] h
  = if x0 < x1 then some (some (.int (nI 0)), h) else if x2 < x0 then some (some (.int (nI 0)), h) else some (some (.int (nI 1)), h) := (exec_M (by rfl) _ _ rfl).trans (e18_0 L d x0 x1 x2 h)
set_option maxRecDepth 100000 in
theorem e19_0 (L d : Nat) (x0 : Int32) (h : PH) : runL (g2 L) d 0 false (some .boolean) kc_19 0 [.int x0] [] h
  = cI (exec (g2 L) d 18 [.int x0, .int (nI 0), .int (nI 1)] h) fun r2 h1 => asr (decide (nrZ r2 = r2)) (some (some (.int r2), h1)) := (runL_K [] 10 _ _ _ _).trans rfl
set_option maxRecDepth 100000 in
theorem x19 (L d : Nat) (x0 : Int32) (h : PH) : exec (g2 L) (d + 1) 19 [.int x0] h
  = cI (exec (g2 L) d 18 [.int x0, .int (nI 0), .int (nI 1)] h) fun r2 h1 => asr (decide (nrZ r2 = r2)) (some (some (.int r2), h1)) := (exec_M (by rfl) _ _ rfl).trans (e19_0 L d x0 h)
set_option maxRecDepth 100000 in
theorem e20_0 (L d : Nat) (a0 : Nat) (x1 : Int32) (x2 : Int32) (x3 : Int32) (x4 : Int32) (h : PH) : runL (g2 L) d 4 false none kc_20 0 [.ref a0, .int x1, .int x2, .int x3, .int x4] [] h
  = asr (okW (g2 L) h a0 24 && true) (runL (g2 L) d 4 false none kc_20 5 [.ref a0, .int x1, .int x2, .int x3, .int x4] [] (wI h a0 0 x1)) := (runL_K [5, 10, 15, 21, 26, 31, 36, 41] 8 _ _ _ _).trans rfl
set_option maxRecDepth 100000 in
theorem e20_5 (L d : Nat) (a0 : Nat) (x1 : Int32) (x2 : Int32) (x3 : Int32) (x4 : Int32) (h : PH) : runL (g2 L) d 4 false none kc_20 5 [.ref a0, .int x1, .int x2, .int x3, .int x4] [] h
  = asr (okW (g2 L) h a0 24 && true) (asr (decide (nrZ x2 = x2)) (runL (g2 L) d 4 false none kc_20 10 [.ref a0, .int x1, .int x2, .int x3, .int x4] [] (wI h a0 1 x2))) := (runL_K [5, 10, 15, 21, 26, 31, 36, 41] 8 _ _ _ _).trans rfl
set_option maxRecDepth 100000 in
theorem e20_10 (L d : Nat) (a0 : Nat) (x1 : Int32) (x2 : Int32) (x3 : Int32) (x4 : Int32) (h : PH) : runL (g2 L) d 4 false none kc_20 10 [.ref a0, .int x1, .int x2, .int x3, .int x4] [] h
  = asr (okW (g2 L) h a0 24 && true) (runL (g2 L) d 4 false none kc_20 15 [.ref a0, .int x1, .int x2, .int x3, .int x4] [] (wI h a0 2 x3)) := (runL_K [5, 10, 15, 21, 26, 31, 36, 41] 8 _ _ _ _).trans rfl
set_option maxRecDepth 100000 in
theorem e20_15 (L d : Nat) (a0 : Nat) (x1 : Int32) (x2 : Int32) (x3 : Int32) (x4 : Int32) (h : PH) : runL (g2 L) d 4 false none kc_20 15 [.ref a0, .int x1, .int x2, .int x3, .int x4] [] h
  = asr (okW (g2 L) h a0 24 && true) (runL (g2 L) d 4 false none kc_20 21 [.ref a0, .int x1, .int x2, .int x3, .int x4] [] (wI h a0 3 x4)) := (runL_K [5, 10, 15, 21, 26, 31, 36, 41] 8 _ _ _ _).trans rfl
set_option maxRecDepth 100000 in
theorem e20_21 (L d : Nat) (a0 : Nat) (x1 : Int32) (x2 : Int32) (x3 : Int32) (x4 : Int32) (h : PH) : runL (g2 L) d 4 false none kc_20 21 [.ref a0, .int x1, .int x2, .int x3, .int x4] [] h
  = asr (okW (g2 L) h a0 24 && true) (runL (g2 L) d 4 false none kc_20 26 [.ref a0, .int x1, .int x2, .int x3, .int x4] [] (wI h a0 4 (nI 0))) := (runL_K [5, 10, 15, 21, 26, 31, 36, 41] 8 _ _ _ _).trans rfl
set_option maxRecDepth 100000 in
theorem e20_26 (L d : Nat) (a0 : Nat) (x1 : Int32) (x2 : Int32) (x3 : Int32) (x4 : Int32) (h : PH) : runL (g2 L) d 4 false none kc_20 26 [.ref a0, .int x1, .int x2, .int x3, .int x4] [] h
  = asr (okW (g2 L) h a0 24 && true) (runL (g2 L) d 4 false none kc_20 31 [.ref a0, .int x1, .int x2, .int x3, .int x4] [] (wI h a0 5 (nI 0))) := (runL_K [5, 10, 15, 21, 26, 31, 36, 41] 8 _ _ _ _).trans rfl
set_option maxRecDepth 100000 in
theorem e20_31 (L d : Nat) (a0 : Nat) (x1 : Int32) (x2 : Int32) (x3 : Int32) (x4 : Int32) (h : PH) : runL (g2 L) d 4 false none kc_20 31 [.ref a0, .int x1, .int x2, .int x3, .int x4] [] h
  = asr (okW (g2 L) h a0 24 && true) (runL (g2 L) d 4 false none kc_20 36 [.ref a0, .int x1, .int x2, .int x3, .int x4] [] (wI h a0 6 (nI 0))) := (runL_K [5, 10, 15, 21, 26, 31, 36, 41] 8 _ _ _ _).trans rfl
set_option maxRecDepth 100000 in
theorem e20_36 (L d : Nat) (a0 : Nat) (x1 : Int32) (x2 : Int32) (x3 : Int32) (x4 : Int32) (h : PH) : runL (g2 L) d 4 false none kc_20 36 [.ref a0, .int x1, .int x2, .int x3, .int x4] [] h
  = asr (okW (g2 L) h a0 24 && true) (runL (g2 L) d 4 false none kc_20 41 [.ref a0, .int x1, .int x2, .int x3, .int x4] [] (wI h a0 7 (nI 0))) := (runL_K [5, 10, 15, 21, 26, 31, 36, 41] 8 _ _ _ _).trans rfl
set_option maxRecDepth 100000 in
theorem e20_41 (L d : Nat) (a0 : Nat) (x1 : Int32) (x2 : Int32) (x3 : Int32) (x4 : Int32) (h : PH) : runL (g2 L) d 4 false none kc_20 41 [.ref a0, .int x1, .int x2, .int x3, .int x4] [] h
  = some (none, h) := (runL_K [5, 10, 15, 21, 26, 31, 36, 41] 6 _ _ _ _).trans rfl
set_option maxRecDepth 100000 in
theorem x20 (L d : Nat) (a0 : Nat) (x1 : Int32) (x2 : Int32) (x3 : Int32) (x4 : Int32) (h : PH) : exec (g2 L) (d + 1) 20 [.ref a0, .int x1, .int x2, .int x3, .int x4] h
  = asr (okW (g2 L) h a0 24 && true) (runL (g2 L) d 4 false none kc_20 5 [.ref a0, .int x1, .int x2, .int x3, .int x4] [] (wI h a0 0 x1)) := (exec_M (by rfl) _ _ rfl).trans (e20_0 L d a0 x1 x2 x3 x4 h)
set_option maxRecDepth 100000 in
theorem e21_0 (L d : Nat) (x1 : Int32) (x2 : Int32) (x3 : Int32) (h : PH) : runL (g2 L) d 0 false (some .boolean) kc_21 0 [.ref 2, .int x1, .int x2, .int x3] [] h
  = cI (exec (g2 L) d 22 [.ref 3, .int x1] h) fun r2 h1 => if r2 = (nI 0) then some (some (.int (nI 0)), h1) else cI (exec (g2 L) d 18 [.int x2, .int (nI 0), .int (nI 999)] h1) fun r4 h3 => if r4 = (nI 0) then some (some (.int (nI 0)), h3) else cI (exec (g2 L) d 18 [.int x3, .int (nI 0), .int (nI 999)] h3) fun r6 h5 => if r6 ≠ (nI 0) then cV (exec (g2 L) d 8 [.ref 163] h5) fun h7 => asr (inB x1 16) (asr (okW (g2 L) h7 (33 + ix x1) 24 && true) (asr (inB x1 16) (asr (okW (g2 L) h7 (33 + ix x1) 24 && true) (some (some (.int (nI 1)), wI (wI h7 (33 + ix x1) 6 x2) (33 + ix x1) 7 x3))))) else some (some (.int (nI 0)), h5) := (runL_K [] 45 _ _ _ _).trans rfl
set_option maxRecDepth 100000 in
theorem x21 (L d : Nat) (x1 : Int32) (x2 : Int32) (x3 : Int32) (h : PH) : exec (g2 L) (d + 1) 21 [.ref 2, .int x1, .int x2, .int x3] h
  = cI (exec (g2 L) d 22 [.ref 3, .int x1] h) fun r2 h1 => if r2 = (nI 0) then some (some (.int (nI 0)), h1) else cI (exec (g2 L) d 18 [.int x2, .int (nI 0), .int (nI 999)] h1) fun r4 h3 => if r4 = (nI 0) then some (some (.int (nI 0)), h3) else cI (exec (g2 L) d 18 [.int x3, .int (nI 0), .int (nI 999)] h3) fun r6 h5 => if r6 ≠ (nI 0) then cV (exec (g2 L) d 8 [.ref 163] h5) fun h7 => asr (inB x1 16) (asr (okW (g2 L) h7 (33 + ix x1) 24 && true) (asr (inB x1 16) (asr (okW (g2 L) h7 (33 + ix x1) 24 && true) (some (some (.int (nI 1)), wI (wI h7 (33 + ix x1) 6 x2) (33 + ix x1) 7 x3))))) else some (some (.int (nI 0)), h5) := (exec_M (by rfl) _ _ rfl).trans (e21_0 L d x1 x2 x3 h)
set_option maxRecDepth 100000 in
theorem e22_0 (L d : Nat) (x1 : Int32) (h : PH) : runL (g2 L) d 1 false (some .boolean) kc_22 0 [.ref 3, .int x1] [] h
  = if x1 < (nI 0) then some (some (.int (nI 0)), h) else if (hI h 3 3) ≤ x1 then some (some (.int (nI 0)), h) else some (some (.int (nI 1)), h) := (runL_K [] 18 _ _ _ _).trans rfl
set_option maxRecDepth 100000 in
theorem x22 (L d : Nat) (x1 : Int32) (h : PH) : exec (g2 L) (d + 1) 22 [.ref 3, .int x1] h
  = if x1 < (nI 0) then some (some (.int (nI 0)), h) else if (hI h 3 3) ≤ x1 then some (some (.int (nI 0)), h) else some (some (.int (nI 1)), h) := (exec_M (by rfl) _ _ rfl).trans (e22_0 L d x1 h)
set_option maxRecDepth 100000 in
theorem e23_0 (L d : Nat) (x1 : Int32) (x2 : Int32) (h : PH) : runL (g2 L) d 0 false (some .boolean) kc_23 0 [.ref 2, .int x1, .int x2] [] h
  = cI (exec (g2 L) d 22 [.ref 3, .int x1] h) fun r2 h1 => if r2 = (nI 0) then some (some (.int (nI 0)), h1) else cI (exec (g2 L) d 14 [.ref 4, .int x2] h1) fun r4 h3 => if r4 ≠ (nI 0) then cV (exec (g2 L) d 8 [.ref 163] h3) fun h5 => asr (inB x1 16) (asr (okW (g2 L) h5 (33 + ix x1) 24 && true) (some (some (.int (nI 1)), wI h5 (33 + ix x1) 0 x2))) else some (some (.int (nI 0)), h3) := (runL_K [] 32 _ _ _ _).trans rfl
set_option maxRecDepth 100000 in
theorem x23 (L d : Nat) (x1 : Int32) (x2 : Int32) (h : PH) : exec (g2 L) (d + 1) 23 [.ref 2, .int x1, .int x2] h
  = cI (exec (g2 L) d 22 [.ref 3, .int x1] h) fun r2 h1 => if r2 = (nI 0) then some (some (.int (nI 0)), h1) else cI (exec (g2 L) d 14 [.ref 4, .int x2] h1) fun r4 h3 => if r4 ≠ (nI 0) then cV (exec (g2 L) d 8 [.ref 163] h3) fun h5 => asr (inB x1 16) (asr (okW (g2 L) h5 (33 + ix x1) 24 && true) (some (some (.int (nI 1)), wI h5 (33 + ix x1) 0 x2))) else some (some (.int (nI 0)), h3) := (exec_M (by rfl) _ _ rfl).trans (e23_0 L d x1 x2 h)
set_option maxRecDepth 100000 in
theorem e24_0 (L d : Nat) (x1 : Int32) (x2 : Int32) (h : PH) : runL (g2 L) d 0 false (some .boolean) kc_24 0 [.ref 2, .int x1, .int x2] [] h
  = cI (exec (g2 L) d 22 [.ref 3, .int x1] h) fun r2 h1 => if r2 = (nI 0) then some (some (.int (nI 0)), h1) else cI (exec (g2 L) d 17 [.int x2] h1) fun r4 h3 => if r4 ≠ (nI 0) then cV (exec (g2 L) d 8 [.ref 163] h3) fun h5 => asr (inB x1 16) (asr (okW (g2 L) h5 (33 + ix x1) 24 && true) (some (some (.int (nI 1)), wI h5 (33 + ix x1) 2 x2))) else some (some (.int (nI 0)), h3) := (runL_K [] 29 _ _ _ _).trans rfl
set_option maxRecDepth 100000 in
theorem x24 (L d : Nat) (x1 : Int32) (x2 : Int32) (h : PH) : exec (g2 L) (d + 1) 24 [.ref 2, .int x1, .int x2] h
  = cI (exec (g2 L) d 22 [.ref 3, .int x1] h) fun r2 h1 => if r2 = (nI 0) then some (some (.int (nI 0)), h1) else cI (exec (g2 L) d 17 [.int x2] h1) fun r4 h3 => if r4 ≠ (nI 0) then cV (exec (g2 L) d 8 [.ref 163] h3) fun h5 => asr (inB x1 16) (asr (okW (g2 L) h5 (33 + ix x1) 24 && true) (some (some (.int (nI 1)), wI h5 (33 + ix x1) 2 x2))) else some (some (.int (nI 0)), h3) := (exec_M (by rfl) _ _ rfl).trans (e24_0 L d x1 x2 h)
set_option maxRecDepth 100000 in
theorem e25_0 (L d : Nat) (x1 : Int32) (x2 : Int32) (h : PH) : runL (g2 L) d 0 false (some .boolean) kc_25 0 [.ref 2, .int x1, .int x2] [] h
  = cI (exec (g2 L) d 14 [.ref 4, .int x1] h) fun r2 h1 => if r2 = (nI 0) then some (some (.int (nI 0)), h1) else asr (inB x1 8) (if (hI h1 6 (ix x1)) ≠ x2 then cV (exec (g2 L) d 8 [.ref 163] h1) fun h3 => asr (inB x1 8) (some (some (.int (nI 1)), wI h3 6 (ix x1) (nrZ x2))) else some (some (.int (nI 0)), h1)) := (runL_K [] 35 _ _ _ _).trans rfl
set_option maxRecDepth 100000 in
theorem x25 (L d : Nat) (x1 : Int32) (x2 : Int32) (h : PH) : exec (g2 L) (d + 1) 25 [.ref 2, .int x1, .int x2] h
  = cI (exec (g2 L) d 14 [.ref 4, .int x1] h) fun r2 h1 => if r2 = (nI 0) then some (some (.int (nI 0)), h1) else asr (inB x1 8) (if (hI h1 6 (ix x1)) ≠ x2 then cV (exec (g2 L) d 8 [.ref 163] h1) fun h3 => asr (inB x1 8) (some (some (.int (nI 1)), wI h3 6 (ix x1) (nrZ x2))) else some (some (.int (nI 0)), h1)) := (exec_M (by rfl) _ _ rfl).trans (e25_0 L d x1 x2 h)
set_option maxRecDepth 100000 in
theorem e26_0 (L d : Nat) (x1 : Int32) (x2 : Int32) (h : PH) : runL (g2 L) d 0 false (some .boolean) kc_26 0 [.ref 2, .int x1, .int x2] [] h
  = cI (exec (g2 L) d 22 [.ref 3, .int x1] h) fun r2 h1 => if r2 = (nI 0) then some (some (.int (nI 0)), h1) else asr (inB x1 16) (asr (okA (g2 L) h1 (33 + ix x1) 24) (if (hI h1 (33 + ix x1) 4) ≠ x2 then asr (inB x1 16) (asr (okW (g2 L) h1 (33 + ix x1) 24 && true) (asr (decide (nrZ x2 = x2)) (some (some (.int (nI 1)), wI h1 (33 + ix x1) 4 x2)))) else some (some (.int (nI 0)), h1))) := (runL_K [] 31 _ _ _ _).trans rfl
set_option maxRecDepth 100000 in
theorem x26 (L d : Nat) (x1 : Int32) (x2 : Int32) (h : PH) : exec (g2 L) (d + 1) 26 [.ref 2, .int x1, .int x2] h
  = cI (exec (g2 L) d 22 [.ref 3, .int x1] h) fun r2 h1 => if r2 = (nI 0) then some (some (.int (nI 0)), h1) else asr (inB x1 16) (asr (okA (g2 L) h1 (33 + ix x1) 24) (if (hI h1 (33 + ix x1) 4) ≠ x2 then asr (inB x1 16) (asr (okW (g2 L) h1 (33 + ix x1) 24 && true) (asr (decide (nrZ x2 = x2)) (some (some (.int (nI 1)), wI h1 (33 + ix x1) 4 x2)))) else some (some (.int (nI 0)), h1))) := (exec_M (by rfl) _ _ rfl).trans (e26_0 L d x1 x2 h)
set_option maxRecDepth 100000 in
theorem e27_0 (L d : Nat) (x1 : Int32) (h : PH) : runL (g2 L) d 0 false (some .boolean) kc_27 0 [.ref 2, .int x1] [] h
  = if (hI h 3 2) ≠ x1 then asr (decide (nrZ x1 = x1)) (some (some (.int (nI 1)), wI h 3 2 x1)) else some (some (.int (nI 0)), h) := (runL_K [] 18 _ _ _ _).trans rfl
set_option maxRecDepth 100000 in
theorem x27 (L d : Nat) (x1 : Int32) (h : PH) : exec (g2 L) (d + 1) 27 [.ref 2, .int x1] h
  = if (hI h 3 2) ≠ x1 then asr (decide (nrZ x1 = x1)) (some (some (.int (nI 1)), wI h 3 2 x1)) else some (some (.int (nI 0)), h) := (exec_M (by rfl) _ _ rfl).trans (e27_0 L d x1 h)
set_option maxRecDepth 100000 in
theorem e28_0 (L d : Nat) (x1 : Int32) (h : PH) : runL (g2 L) d 0 false (some .int) kc_28 0 [.ref 2, .int x1] [] h
  = cI (exec (g2 L) d 18 [.int x1, .int (nI 1), .int (nI 10000)] h) fun r2 h1 => if r2 = (nI 0) then some (some (.int m1), h1) else if ((hI h1 3 0) + x1) < (nI 576000) then cV (exec (g2 L) d 8 [.ref 163] h1) fun h3 => if (hI h3 3 2) ≠ (nI 0) then some (some (.int ((hI h3 3 0) + x1)), wI h3 3 0 ((hI h3 3 0) + x1)) else cV (exec (g2 L) d 29 [.ref 3, .int x1] (wI h3 3 0 ((hI h3 3 0) + x1))) fun h4 => some (some (.int (hI h4 3 0)), h4) else some (some (.int m1), h1) := (runL_K [] 47 _ _ _ _).trans rfl
set_option maxRecDepth 100000 in
theorem x28 (L d : Nat) (x1 : Int32) (h : PH) : exec (g2 L) (d + 1) 28 [.ref 2, .int x1] h
  = cI (exec (g2 L) d 18 [.int x1, .int (nI 1), .int (nI 10000)] h) fun r2 h1 => if r2 = (nI 0) then some (some (.int m1), h1) else if ((hI h1 3 0) + x1) < (nI 576000) then cV (exec (g2 L) d 8 [.ref 163] h1) fun h3 => if (hI h3 3 2) ≠ (nI 0) then some (some (.int ((hI h3 3 0) + x1)), wI h3 3 0 ((hI h3 3 0) + x1)) else cV (exec (g2 L) d 29 [.ref 3, .int x1] (wI h3 3 0 ((hI h3 3 0) + x1))) fun h4 => some (some (.int (hI h4 3 0)), h4) else some (some (.int m1), h1) := (exec_M (by rfl) _ _ rfl).trans (e28_0 L d x1 h)
set_option maxRecDepth 100000 in
theorem e29_0 (L d : Nat) (x1 : Int32) (h : PH) : runL (g2 L) d 1 false none kc_29 0 [.ref 3, .int x1, dm] [] h
  = runL (g2 L) d 1 false none kc_29 2 [.ref 3, .int x1, .int (nI 0)] [] h := (runL_K [2] 7 _ _ _ _).trans rfl
set_option maxRecDepth 100000 in
theorem e29_2 (L d : Nat) (x1 : Int32) (x2 : Int32) (h : PH) : runL (g2 L) d 1 false none kc_29 2 [.ref 3, .int x1, .int x2] [] h
  = if (hI h 3 3) ≤ x2 then some (none, wI h 3 1 ((hI h 3 1) ^^^ (x1 &&& (nI 1)))) else asr (inB x2 16) (asr (okA (g2 L) h (33 + ix x2) 24) (cI (exec (g2 L) d 30 [.ref 4, .int m1, .int (hI h (33 + ix x2) 0)] h) fun r2 h1 => if r2 = (nI 0) then runL (g2 L) d 1 false none kc_29 2 [.ref 3, .int x1, .int (x2 + (nI 1))] [] h1 else asr (inB x2 16) (asr (okA (g2 L) h1 (33 + ix x2) 24) (cI (exec (g2 L) d 31 [.ref (33 + ix x2), .int (hI h1 3 1), .int x1] h1) fun r4 h3 => runL (g2 L) d 1 false none kc_29 2 [.ref 3, .int x1, .int (x2 + (nI 1))] [] h3)))) := (runL_K [2] 41 _ _ _ _).trans rfl
set_option maxRecDepth 100000 in
theorem x29 (L d : Nat) (x1 : Int32) (h : PH) : exec (g2 L) (d + 1) 29 [.ref 3, .int x1] h
  = runL (g2 L) d 1 false none kc_29 2 [.ref 3, .int x1, .int (nI 0)] [] h := (exec_M (by rfl) _ _ rfl).trans (e29_0 L d x1 h)
set_option maxRecDepth 100000 in
theorem e30_0 (L d : Nat) (x1 : Int32) (x2 : Int32) (h : PH) : runL (g2 L) d 2 false (some .boolean) kc_30 0 [.ref 4, .int x1, .int x2, dm, dm] [] h
  = runL (g2 L) d 2 false (some .boolean) kc_30 5 [.ref 4, .int x1, .int x2, .int x2, .int (nI 0)] [] h := (runL_K [5] 9 _ _ _ _).trans rfl
set_option maxRecDepth 100000 in
theorem e30_5 (L d : Nat) (x1 : Int32) (x2 : Int32) (x3 : Int32) (x4 : Int32) (h : PH) : runL (g2 L) d 2 false (some .boolean) kc_30 5 [.ref 4, .int x1, .int x2, .int x3, .int x4] [] h
  = if (nI 8) ≤ x4 then if x1 ≠ m1 then some (some (.int (nI 0)), h) else some (some (.int (nI 1)), h) else cI (exec (g2 L) d 14 [.ref 4, .int x3] h) fun r2 h1 => if r2 = (nI 0) then if x1 ≠ m1 then some (some (.int (nI 0)), h1) else some (some (.int (nI 1)), h1) else asr (inB x3 8) (if (hI h1 6 (ix x3)) = (nI 0) then if x3 ≠ x1 then asr (inB x3 8) (runL (g2 L) d 2 false (some .boolean) kc_30 5 [.ref 4, .int x1, .int x2, .int (hI h1 5 (ix x3)), .int (x4 + (nI 1))] [] h1) else some (some (.int (nI 1)), h1) else some (some (.int (nI 0)), h1)) := (runL_K [5] 47 _ _ _ _).trans rfl
set_option maxRecDepth 100000 in
theorem x30 (L d : Nat) (x1 : Int32) (x2 : Int32) (h : PH) : exec (g2 L) (d + 1) 30 [.ref 4, .int x1, .int x2] h
  = runL (g2 L) d 2 false (some .boolean) kc_30 5 [.ref 4, .int x1, .int x2, .int x2, .int (nI 0)] [] h := (exec_M (by rfl) _ _ rfl).trans (e30_0 L d x1 x2 h)
set_option maxRecDepth 100000 in
theorem e31_0 (L d : Nat) (a0 : Nat) (x1 : Int32) (x2 : Int32) (h : PH) : runL (g2 L) d 4 false (some .int) kc_31 0 [.ref a0, .int x1, .int x2, dm] [] h
  = asr (okA (g2 L) h a0 24) (if (hI h a0 4) ≠ (nI 0) then some (some (.int (nI 0)), h) else if (nI 1) ≤ x2 then asr (okA (g2 L) h a0 24) (if (hI h a0 1) = (nI 0) then runL (g2 L) d 4 false (some .int) kc_31 36 [.ref a0, .int x1, .int x2, dm] [.int x2] h else asr (okA (g2 L) h a0 24) (if (hI h a0 3) ≠ x1 then runL (g2 L) d 4 false (some .int) kc_31 36 [.ref a0, .int x1, .int x2, dm] [.int x2] h else runL (g2 L) d 4 false (some .int) kc_31 36 [.ref a0, .int x1, .int x2, dm] [.int (x2 - (nI 1))] h)) else some (some (.int (nI 0)), h)) := (runL_K [36] 28 _ _ _ _).trans rfl
set_option maxRecDepth 100000 in
theorem e31_36 (L d : Nat) (a0 : Nat) (x1 : Int32) (x2 : Int32) (xs0 : Int32) (h : PH) : runL (g2 L) d 4 false (some .int) kc_31 36 [.ref a0, .int x1, .int x2, dm] [.int xs0] h
  = asr (okA (g2 L) h a0 24) (asr (okA (g2 L) h a0 24) (cI (exec (g2 L) d 32 [.ref a0, .int xs0] h) fun r2 h1 => asr (okW (g2 L) h1 a0 24 && true) (asr (okA (g2 L) h1 a0 24) (asr (okW (g2 L) h1 a0 24 && true) (asr (okW (g2 L) h1 a0 24 && true) (some (some (.int xs0), wI (wI (wI h1 a0 2 (((hI h a0 2) + r2) % (nI 720))) a0 5 ((hI (wI h1 a0 2 (((hI h a0 2) + r2) % (nI 720))) a0 5) + xs0)) a0 3 (x1 ^^^ ((x2 - (nI 1)) &&& (nI 1)))))))))) := (runL_K [36] 33 _ _ _ _).trans rfl
set_option maxRecDepth 100000 in
theorem x31 (L d : Nat) (a0 : Nat) (x1 : Int32) (x2 : Int32) (h : PH) : exec (g2 L) (d + 1) 31 [.ref a0, .int x1, .int x2] h
  = asr (okA (g2 L) h a0 24) (if (hI h a0 4) ≠ (nI 0) then some (some (.int (nI 0)), h) else if (nI 1) ≤ x2 then asr (okA (g2 L) h a0 24) (if (hI h a0 1) = (nI 0) then runL (g2 L) d 4 false (some .int) kc_31 36 [.ref a0, .int x1, .int x2, dm] [.int x2] h else asr (okA (g2 L) h a0 24) (if (hI h a0 3) ≠ x1 then runL (g2 L) d 4 false (some .int) kc_31 36 [.ref a0, .int x1, .int x2, dm] [.int x2] h else runL (g2 L) d 4 false (some .int) kc_31 36 [.ref a0, .int x1, .int x2, dm] [.int (x2 - (nI 1))] h)) else some (some (.int (nI 0)), h)) := (exec_M (by rfl) _ _ rfl).trans (e31_0 L d a0 x1 x2 h)
set_option maxRecDepth 100000 in
theorem e32_0 (L d : Nat) (a0 : Nat) (x1 : Int32) (h : PH) : runL (g2 L) d 4 false (some .int) kc_32 0 [.ref a0, .int x1, dm, dm, dm] [] h
  = asr (okA (g2 L) h a0 24) (asr (okA (g2 L) h a0 24) (asr (okA (g2 L) h a0 24) (cI (exec (g2 L) d 33 [.int (hI h a0 6), .int (hI h a0 5), .int ((hI h a0 5) + x1)] h) fun r2 h1 => asr (okA (g2 L) h1 a0 24) (asr (okA (g2 L) h1 a0 24) (cI (exec (g2 L) d 33 [.int (hI h1 a0 7), .int (hI h1 a0 5), .int ((hI h a0 5) + x1)] h1) fun r4 h3 => asr (okA (g2 L) h3 a0 24) (cI (exec (g2 L) d 34 [.ref a0] h3) fun r6 h5 => asr (okA (g2 L) h5 a0 24) (cI (exec (g2 L) d 33 [.int r6, .int (hI h5 a0 5), .int ((hI h a0 5) + x1)] h5) fun r8 h7 => some (some (.int ((x1 - r2) + (r4 - r8))), h7)))))))) := (runL_K [] 37 _ _ _ _).trans rfl
set_option maxRecDepth 100000 in
theorem x32 (L d : Nat) (a0 : Nat) (x1 : Int32) (h : PH) : exec (g2 L) (d + 1) 32 [.ref a0, .int x1] h
  = asr (okA (g2 L) h a0 24) (asr (okA (g2 L) h a0 24) (asr (okA (g2 L) h a0 24) (cI (exec (g2 L) d 33 [.int (hI h a0 6), .int (hI h a0 5), .int ((hI h a0 5) + x1)] h) fun r2 h1 => asr (okA (g2 L) h1 a0 24) (asr (okA (g2 L) h1 a0 24) (cI (exec (g2 L) d 33 [.int (hI h1 a0 7), .int (hI h1 a0 5), .int ((hI h a0 5) + x1)] h1) fun r4 h3 => asr (okA (g2 L) h3 a0 24) (cI (exec (g2 L) d 34 [.ref a0] h3) fun r6 h5 => asr (okA (g2 L) h5 a0 24) (cI (exec (g2 L) d 33 [.int r6, .int (hI h5 a0 5), .int ((hI h a0 5) + x1)] h5) fun r8 h7 => some (some (.int ((x1 - r2) + (r4 - r8))), h7)))))))) := (exec_M (by rfl) _ _ rfl).trans (e32_0 L d a0 x1 h)
set_option maxRecDepth 100000 in
theorem e33_0 (L d : Nat) (x0 : Int32) (x1 : Int32) (x2 : Int32) (h : PH) : runL (g2 L) d 4 false (some .int) kc_33 0 [.int x0, .int x1, .int x2] [] h
  = if x0 ≠ (nI 0) then if x0 = nI 0 then none else if x0 = nI 0 then none else some (some (.int ((x2 / x0) - (x1 / x0))), h) else some (some (.int (nI 0)), h) := (runL_K [] 18 _ _ _ _).trans rfl
set_option maxRecDepth 100000 in
theorem x33 (L d : Nat) (x0 : Int32) (x1 : Int32) (x2 : Int32) (h : PH) : exec (g2 L) (d + 1) 33 [.int x0, .int x1, .int x2] h
  = if x0 ≠ (nI 0) then if x0 = nI 0 then none else if x0 = nI 0 then none else some (some (.int ((x2 / x0) - (x1 / x0))), h) else some (some (.int (nI 0)), h) := (exec_M (by rfl) _ _ rfl).trans (e33_0 L d x0 x1 x2 h)
set_option maxRecDepth 100000 in
theorem e34_0 (L d : Nat) (a0 : Nat) (h : PH) : runL (g2 L) d 4 false (some .int) kc_34 0 [.ref a0, dm, dm, dm, dm] [] h
  = asr (okA (g2 L) h a0 24) (asr (okA (g2 L) h a0 24) (runL (g2 L) d 4 false (some .int) kc_34 12 [.ref a0, .int (hI h a0 6), .int (hI h a0 7), .int (nI 0), dm] [] h)) := (runL_K [12, 38] 13 _ _ _ _).trans rfl
set_option maxRecDepth 100000 in
theorem e34_12 (L d : Nat) (a0 : Nat) (x1 : Int32) (x2 : Int32) (x3 : Int32) (v4 : Value) (h : PH) : runL (g2 L) d 4 false (some .int) kc_34 12 [.ref a0, .int x1, .int x2, .int x3, v4] [] h
  = if (nI 40) ≤ x3 then runL (g2 L) d 4 false (some .int) kc_34 38 [.ref a0, .int x1, .int x2, .int x3, v4] [] h else if x2 = (nI 0) then runL (g2 L) d 4 false (some .int) kc_34 38 [.ref a0, .int x1, .int x2, .int x3, v4] [] h else if x2 = nI 0 then none else runL (g2 L) d 4 false (some .int) kc_34 12 [.ref a0, .int x2, .int (x1 % x2), .int (x3 + (nI 1)), .int (x1 % x2)] [] h := (runL_K [12, 38] 20 _ _ _ _).trans rfl
set_option maxRecDepth 100000 in
theorem e34_38 (L d : Nat) (a0 : Nat) (x1 : Int32) (x2 : Int32) (x3 : Int32) (v4 : Value) (h : PH) : runL (g2 L) d 4 false (some .int) kc_34 38 [.ref a0, .int x1, .int x2, .int x3, v4] [] h
  = asr (okA (g2 L) h a0 24) (if (hI h a0 6) = (nI 0) then some (some (.int (nI 0)), h) else asr (okA (g2 L) h a0 24) (if (hI h a0 7) = (nI 0) then some (some (.int (nI 0)), h) else if x1 ≠ (nI 0) then asr (okA (g2 L) h a0 24) (if x1 = nI 0 then none else asr (okA (g2 L) h a0 24) (some (some (.int (((hI h a0 6) / x1) * (hI h a0 7))), h))) else some (some (.int (nI 0)), h))) := (runL_K [12, 38] 30 _ _ _ _).trans rfl
set_option maxRecDepth 100000 in
theorem x34 (L d : Nat) (a0 : Nat) (h : PH) : exec (g2 L) (d + 1) 34 [.ref a0] h
  = asr (okA (g2 L) h a0 24) (asr (okA (g2 L) h a0 24) (runL (g2 L) d 4 false (some .int) kc_34 12 [.ref a0, .int (hI h a0 6), .int (hI h a0 7), .int (nI 0), dm] [] h)) := (exec_M (by rfl) _ _ rfl).trans (e34_0 L d a0 h)
set_option maxRecDepth 100000 in
theorem e35_0 (L d : Nat) (x1 : Int32) (h : PH) : runL (g2 L) d 0 false (some .int) kc_35 0 [.ref 2, .int x1] [] h
  = cI (exec (g2 L) d 18 [.int x1, .int (nI 1), .int (nI 1440)] h) fun r2 h1 => if r2 ≠ (nI 0) then cV (exec (g2 L) d 8 [.ref 163] h1) fun h3 => cV (exec (g2 L) d 29 [.ref 3, .int x1] h3) fun h4 => some (some (.int (hI h4 3 1)), h4) else some (some (.int m1), h1) := (runL_K [] 23 _ _ _ _).trans rfl
set_option maxRecDepth 100000 in
theorem x35 (L d : Nat) (x1 : Int32) (h : PH) : exec (g2 L) (d + 1) 35 [.ref 2, .int x1] h
  = cI (exec (g2 L) d 18 [.int x1, .int (nI 1), .int (nI 1440)] h) fun r2 h1 => if r2 ≠ (nI 0) then cV (exec (g2 L) d 8 [.ref 163] h1) fun h3 => cV (exec (g2 L) d 29 [.ref 3, .int x1] h3) fun h4 => some (some (.int (hI h4 3 1)), h4) else some (some (.int m1), h1) := (exec_M (by rfl) _ _ rfl).trans (e35_0 L d x1 h)
set_option maxRecDepth 100000 in
theorem e36_0 (L d : Nat) (x1 : Int32) (x2 : Int32) (h : PH) : runL (g2 L) d 0 false (some .int) kc_36 0 [.ref 2, .int x1, .int x2] [] h
  = cI (exec (g2 L) d 14 [.ref 4, .int x1] h) fun r2 h1 => if r2 = (nI 0) then some (some (.int m1), h1) else cI (exec (g2 L) d 19 [.int x2] h1) fun r4 h3 => if r4 ≠ (nI 0) then cV (exec (g2 L) d 8 [.ref 163] h3) fun h5 => cI (exec (g2 L) d 37 [.ref 3, .int x1, .int x2] h5) fun r7 h6 => some (some (.int r7), h6) else some (some (.int m1), h3) := (runL_K [] 27 _ _ _ _).trans rfl
set_option maxRecDepth 100000 in
theorem x36 (L d : Nat) (x1 : Int32) (x2 : Int32) (h : PH) : exec (g2 L) (d + 1) 36 [.ref 2, .int x1, .int x2] h
  = cI (exec (g2 L) d 14 [.ref 4, .int x1] h) fun r2 h1 => if r2 = (nI 0) then some (some (.int m1), h1) else cI (exec (g2 L) d 19 [.int x2] h1) fun r4 h3 => if r4 ≠ (nI 0) then cV (exec (g2 L) d 8 [.ref 163] h3) fun h5 => cI (exec (g2 L) d 37 [.ref 3, .int x1, .int x2] h5) fun r7 h6 => some (some (.int r7), h6) else some (some (.int m1), h3) := (exec_M (by rfl) _ _ rfl).trans (e36_0 L d x1 x2 h)
set_option maxRecDepth 100000 in
theorem e37_0 (L d : Nat) (x1 : Int32) (x2 : Int32) (h : PH) : runL (g2 L) d 1 false (some .int) kc_37 0 [.ref 3, .int x1, .int x2, dm, dm] [] h
  = runL (g2 L) d 1 false (some .int) kc_37 5 [.ref 3, .int x1, .int x2, .int (nI 0), .int (nI 0)] [] h := (runL_K [5] 9 _ _ _ _).trans rfl
set_option maxRecDepth 100000 in
theorem e37_5 (L d : Nat) (x1 : Int32) (x2 : Int32) (x3 : Int32) (x4 : Int32) (h : PH) : runL (g2 L) d 1 false (some .int) kc_37 5 [.ref 3, .int x1, .int x2, .int x3, .int x4] [] h
  = if (hI h 3 3) ≤ x4 then some (some (.int x3), h) else asr (inB x4 16) (asr (okA (g2 L) h (33 + ix x4) 24) (cI (exec (g2 L) d 30 [.ref 4, .int x1, .int (hI h (33 + ix x4) 0)] h) fun r2 h1 => if r2 = (nI 0) then runL (g2 L) d 1 false (some .int) kc_37 5 [.ref 3, .int x1, .int x2, .int x3, .int (x4 + (nI 1))] [] h1 else asr (inB x4 16) (asr (okA (g2 L) h1 (33 + ix x4) 24) (cI (exec (g2 L) d 31 [.ref (33 + ix x4), .int x2, .int (nI 1)] h1) fun r4 h3 => runL (g2 L) d 1 false (some .int) kc_37 5 [.ref 3, .int x1, .int x2, .int (x3 + r4), .int (x4 + (nI 1))] [] h3)))) := (runL_K [5] 35 _ _ _ _).trans rfl
set_option maxRecDepth 100000 in
theorem x37 (L d : Nat) (x1 : Int32) (x2 : Int32) (h : PH) : exec (g2 L) (d + 1) 37 [.ref 3, .int x1, .int x2] h
  = runL (g2 L) d 1 false (some .int) kc_37 5 [.ref 3, .int x1, .int x2, .int (nI 0), .int (nI 0)] [] h := (exec_M (by rfl) _ _ rfl).trans (e37_0 L d x1 x2 h)
set_option maxRecDepth 100000 in
theorem e38_0 (L d : Nat) (x1 : Int32) (x2 : Int32) (h : PH) : runL (g2 L) d 0 false (some .int) kc_38 0 [.ref 2, .int x1, .int x2, dm] [] h
  = cI (exec (g2 L) d 22 [.ref 3, .int x1] h) fun r2 h1 => if r2 ≠ (nI 0) then asr (inB x1 16) (if x2 = (nI 0) then asr (okA (g2 L) h1 (33 + ix x1) 24) (some (some (.int (hI h1 (33 + ix x1) 2)), h1)) else if x2 = (nI 1) then asr (okA (g2 L) h1 (33 + ix x1) 24) (some (some (.int (hI h1 (33 + ix x1) 3)), h1)) else if x2 = (nI 2) then asr (okA (g2 L) h1 (33 + ix x1) 24) (some (some (.int (hI h1 (33 + ix x1) 5)), h1)) else if x2 = (nI 3) then cI (exec (g2 L) d 39 [.ref 3, .ref (33 + ix x1)] h1) fun r4 h3 => some (some (.int r4), h3) else if x2 = (nI 4) then asr (okA (g2 L) h1 (33 + ix x1) 24) (some (some (.int (hI h1 (33 + ix x1) 0)), h1)) else if x2 = (nI 5) then asr (okA (g2 L) h1 (33 + ix x1) 24) (if (hI h1 (33 + ix x1) 4) = (nI 0) then some (some (.int (nI 0)), h1) else some (some (.int (nI 1)), h1)) else if x2 = (nI 6) then asr (okA (g2 L) h1 (33 + ix x1) 24) (cI (exec (g2 L) d 30 [.ref 4, .int m1, .int (hI h1 (33 + ix x1) 0)] h1) fun r6 h5 => if r6 = (nI 0) then some (some (.int (nI 0)), h5) else some (some (.int (nI 1)), h5)) else some (some (.int m1), h1)) else some (some (.int m1), h1) := (runL_K [] 60 _ _ _ _).trans rfl
set_option maxRecDepth 100000 in
theorem x38 (L d : Nat) (x1 : Int32) (x2 : Int32) (h : PH) : exec (g2 L) (d + 1) 38 [.ref 2, .int x1, .int x2] h
  = cI (exec (g2 L) d 22 [.ref 3, .int x1] h) fun r2 h1 => if r2 ≠ (nI 0) then asr (inB x1 16) (if x2 = (nI 0) then asr (okA (g2 L) h1 (33 + ix x1) 24) (some (some (.int (hI h1 (33 + ix x1) 2)), h1)) else if x2 = (nI 1) then asr (okA (g2 L) h1 (33 + ix x1) 24) (some (some (.int (hI h1 (33 + ix x1) 3)), h1)) else if x2 = (nI 2) then asr (okA (g2 L) h1 (33 + ix x1) 24) (some (some (.int (hI h1 (33 + ix x1) 5)), h1)) else if x2 = (nI 3) then cI (exec (g2 L) d 39 [.ref 3, .ref (33 + ix x1)] h1) fun r4 h3 => some (some (.int r4), h3) else if x2 = (nI 4) then asr (okA (g2 L) h1 (33 + ix x1) 24) (some (some (.int (hI h1 (33 + ix x1) 0)), h1)) else if x2 = (nI 5) then asr (okA (g2 L) h1 (33 + ix x1) 24) (if (hI h1 (33 + ix x1) 4) = (nI 0) then some (some (.int (nI 0)), h1) else some (some (.int (nI 1)), h1)) else if x2 = (nI 6) then asr (okA (g2 L) h1 (33 + ix x1) 24) (cI (exec (g2 L) d 30 [.ref 4, .int m1, .int (hI h1 (33 + ix x1) 0)] h1) fun r6 h5 => if r6 = (nI 0) then some (some (.int (nI 0)), h5) else some (some (.int (nI 1)), h5)) else some (some (.int m1), h1)) else some (some (.int m1), h1) := (exec_M (by rfl) _ _ rfl).trans (e38_0 L d x1 x2 h)
set_option maxRecDepth 100000 in
theorem e39_0 (L d : Nat) (a1 : Nat) (h : PH) : runL (g2 L) d 1 false (some .int) kc_39 0 [.ref 3, .ref a1] [] h
  = asr (okA (g2 L) h a1 24) (some (some (.int (fmod ((hI h 3 0) - (hI h a1 2)) (nI 720))), h)) := (runL_K [] 13 _ _ _ _).trans rfl
set_option maxRecDepth 100000 in
theorem x39 (L d : Nat) (a1 : Nat) (h : PH) : exec (g2 L) (d + 1) 39 [.ref 3, .ref a1] h
  = asr (okA (g2 L) h a1 24) (some (some (.int (fmod ((hI h 3 0) - (hI h a1 2)) (nI 720))), h)) := (exec_M (by rfl) _ _ rfl).trans (e39_0 L d a1 h)
set_option maxRecDepth 100000 in
theorem e40_0 (L d : Nat)  (h : PH) : runL (g2 L) d 0 false (some .int) kc_40 0 [.ref 2, dm, dm] [] h
  = runL (g2 L) d 0 false (some .int) kc_40 4 [.ref 2, .int (nI 0), .int (nI 0)] [] h := (runL_K [4] 9 _ _ _ _).trans rfl
set_option maxRecDepth 100000 in
theorem e40_4 (L d : Nat) (x1 : Int32) (x2 : Int32) (h : PH) : runL (g2 L) d 0 false (some .int) kc_40 4 [.ref 2, .int x1, .int x2] [] h
  = if (hI h 3 3) ≤ x2 then some (some (.int x1), h) else asr (inB x2 16) (cI (exec (g2 L) d 39 [.ref 3, .ref (33 + ix x2)] h) fun r2 h1 => if r2 = (nI 0) then runL (g2 L) d 0 false (some .int) kc_40 4 [.ref 2, .int x1, .int (x2 + (nI 1))] [] h1 else runL (g2 L) d 0 false (some .int) kc_40 4 [.ref 2, .int (x1 + (nI 1)), .int (x2 + (nI 1))] [] h1) := (runL_K [4] 26 _ _ _ _).trans rfl
set_option maxRecDepth 100000 in
theorem x40 (L d : Nat)  (h : PH) : exec (g2 L) (d + 1) 40 [.ref 2] h
  = runL (g2 L) d 0 false (some .int) kc_40 4 [.ref 2, .int (nI 0), .int (nI 0)] [] h := (exec_M (by rfl) _ _ rfl).trans (e40_0 L d  h)
set_option maxRecDepth 100000 in
theorem e41_0 (L d : Nat) (x1 : Int32) (h : PH) : runL (g2 L) d 0 false (some .int) kc_41 0 [.ref 2, .int x1] [] h
  = cI (exec (g2 L) d 18 [.int x1, .int (nI 1), .int (nI 10)] h) fun r2 h1 => if r2 ≠ (nI 0) then cV (exec (g2 L) d 42 [.ref 3, .int x1] h1) fun h3 => cV (exec (g2 L) d 6 [.ref 95] h3) fun h4 => some (some (.int (hI h4 8 2)), h4) else some (some (.int m1), h1) := (runL_K [] 24 _ _ _ _).trans rfl
set_option maxRecDepth 100000 in
theorem x41 (L d : Nat) (x1 : Int32) (h : PH) : exec (g2 L) (d + 1) 41 [.ref 2, .int x1] h
  = cI (exec (g2 L) d 18 [.int x1, .int (nI 1), .int (nI 10)] h) fun r2 h1 => if r2 ≠ (nI 0) then cV (exec (g2 L) d 42 [.ref 3, .int x1] h1) fun h3 => cV (exec (g2 L) d 6 [.ref 95] h3) fun h4 => some (some (.int (hI h4 8 2)), h4) else some (some (.int m1), h1) := (exec_M (by rfl) _ _ rfl).trans (e41_0 L d x1 h)
set_option maxRecDepth 100000 in
theorem e42_0 (L d : Nat) (x1 : Int32) (h : PH) : runL (g2 L) d 1 false none kc_42 0 [.ref 3, .int x1, dm] [] h
  = cV (exec (g2 L) d 43 [.ref 9, .ref 4] (wI (wI (wI (wI h 8 0 x1) 8 1 (hI h 3 1)) 8 2 (hI h 3 3)) 8 3 (nI 0))) fun h1 => runL (g2 L) d 1 false none kc_42 54 [.ref 3, .int x1, .int (nI 0)] [] h1 := (runL_K [54] 31 _ _ _ _).trans rfl
set_option maxRecDepth 100000 in
theorem e42_54 (L d : Nat) (x1 : Int32) (x2 : Int32) (h : PH) : runL (g2 L) d 1 false none kc_42 54 [.ref 3, .int x1, .int x2] [] h
  = if (hI h 3 3) ≤ x2 then some (none, h) else asr (inB x2 16) (asr (inB x2 16) (asr (okA (g2 L) h (17 + ix x2) 24) (cV (exec (g2 L) d 44 [.ref (17 + ix x2), .ref (33 + ix x2)] h) fun h1 => runL (g2 L) d 1 false none kc_42 54 [.ref 3, .int x1, .int (x2 + (nI 1))] [] h1))) := (runL_K [54] 22 _ _ _ _).trans rfl
set_option maxRecDepth 100000 in
theorem x42 (L d : Nat) (x1 : Int32) (h : PH) : exec (g2 L) (d + 1) 42 [.ref 3, .int x1] h
  = cV (exec (g2 L) d 43 [.ref 9, .ref 4] (wI (wI (wI (wI h 8 0 x1) 8 1 (hI h 3 1)) 8 2 (hI h 3 3)) 8 3 (nI 0))) fun h1 => runL (g2 L) d 1 false none kc_42 54 [.ref 3, .int x1, .int (nI 0)] [] h1 := (exec_M (by rfl) _ _ rfl).trans (e42_0 L d x1 h)
set_option maxRecDepth 100000 in
theorem e43_0a (L d : Nat)  (h : PH) : runL (g2 L) d 2 false none kc_43 0 [.ref 4, .ref 50, dm] [] h
  = runL (g2 L) d 2 false none kc_43 10 [.ref 4, .ref 50, .int (nI 0)] [] (wI h 4 0 (hI h 50 0)) := (runL_K [10] 11 _ _ _ _).trans rfl
set_option maxRecDepth 100000 in
theorem e43_10a (L d : Nat) (x2 : Int32) (h : PH) : runL (g2 L) d 2 false none kc_43 10 [.ref 4, .ref 50, .int x2] [] h
  = if (nI 8) ≤ x2 then some (none, h) else asr (inB x2 8) (asr (inB x2 8) (asr (inB x2 8) (asr (inB x2 8) (runL (g2 L) d 2 false none kc_43 10 [.ref 4, .ref 50, .int (x2 + (nI 1))] [] (wI (wI h 5 (ix x2) (hI h 51 (ix x2))) 6 (ix x2) (nrZ (hI h 52 (ix x2)))))))) := (runL_K [10] 27 _ _ _ _).trans rfl
set_option maxRecDepth 100000 in
theorem x43a (L d : Nat)  (h : PH) : exec (g2 L) (d + 1) 43 [.ref 4, .ref 50] h
  = runL (g2 L) d 2 false none kc_43 10 [.ref 4, .ref 50, .int (nI 0)] [] (wI h 4 0 (hI h 50 0)) := (exec_M (by rfl) _ _ rfl).trans (e43_0a L d  h)
set_option maxRecDepth 100000 in
theorem e43_0b (L d : Nat)  (h : PH) : runL (g2 L) d 2 false none kc_43 0 [.ref 50, .ref 4, dm] [] h
  = runL (g2 L) d 2 false none kc_43 10 [.ref 50, .ref 4, .int (nI 0)] [] (wI h 50 0 (hI h 4 0)) := (runL_K [10] 11 _ _ _ _).trans rfl
set_option maxRecDepth 100000 in
theorem e43_10b (L d : Nat) (x2 : Int32) (h : PH) : runL (g2 L) d 2 false none kc_43 10 [.ref 50, .ref 4, .int x2] [] h
  = if (nI 8) ≤ x2 then some (none, h) else asr (inB x2 8) (asr (inB x2 8) (asr (inB x2 8) (asr (inB x2 8) (runL (g2 L) d 2 false none kc_43 10 [.ref 50, .ref 4, .int (x2 + (nI 1))] [] (wI (wI h 51 (ix x2) (hI h 5 (ix x2))) 52 (ix x2) (nrZ (hI h 6 (ix x2)))))))) := (runL_K [10] 27 _ _ _ _).trans rfl
set_option maxRecDepth 100000 in
theorem x43b (L d : Nat)  (h : PH) : exec (g2 L) (d + 1) 43 [.ref 50, .ref 4] h
  = runL (g2 L) d 2 false none kc_43 10 [.ref 50, .ref 4, .int (nI 0)] [] (wI h 50 0 (hI h 4 0)) := (exec_M (by rfl) _ _ rfl).trans (e43_0b L d  h)
set_option maxRecDepth 100000 in
theorem e43_0c (L d : Nat)  (h : PH) : runL (g2 L) d 2 false none kc_43 0 [.ref 9, .ref 55, dm] [] h
  = runL (g2 L) d 2 false none kc_43 10 [.ref 9, .ref 55, .int (nI 0)] [] (wI h 9 0 (hI h 55 0)) := (runL_K [10] 11 _ _ _ _).trans rfl
set_option maxRecDepth 100000 in
theorem e43_10c (L d : Nat) (x2 : Int32) (h : PH) : runL (g2 L) d 2 false none kc_43 10 [.ref 9, .ref 55, .int x2] [] h
  = if (nI 8) ≤ x2 then some (none, h) else asr (inB x2 8) (asr (inB x2 8) (asr (inB x2 8) (asr (inB x2 8) (runL (g2 L) d 2 false none kc_43 10 [.ref 9, .ref 55, .int (x2 + (nI 1))] [] (wI (wI h 10 (ix x2) (hI h 56 (ix x2))) 11 (ix x2) (nrZ (hI h 57 (ix x2)))))))) := (runL_K [10] 27 _ _ _ _).trans rfl
set_option maxRecDepth 100000 in
theorem x43c (L d : Nat)  (h : PH) : exec (g2 L) (d + 1) 43 [.ref 9, .ref 55] h
  = runL (g2 L) d 2 false none kc_43 10 [.ref 9, .ref 55, .int (nI 0)] [] (wI h 9 0 (hI h 55 0)) := (exec_M (by rfl) _ _ rfl).trans (e43_0c L d  h)
set_option maxRecDepth 100000 in
theorem e43_0d (L d : Nat)  (h : PH) : runL (g2 L) d 2 false none kc_43 0 [.ref 55, .ref 9, dm] [] h
  = runL (g2 L) d 2 false none kc_43 10 [.ref 55, .ref 9, .int (nI 0)] [] (wI h 55 0 (hI h 9 0)) := (runL_K [10] 11 _ _ _ _).trans rfl
set_option maxRecDepth 100000 in
theorem e43_10d (L d : Nat) (x2 : Int32) (h : PH) : runL (g2 L) d 2 false none kc_43 10 [.ref 55, .ref 9, .int x2] [] h
  = if (nI 8) ≤ x2 then some (none, h) else asr (inB x2 8) (asr (inB x2 8) (asr (inB x2 8) (asr (inB x2 8) (runL (g2 L) d 2 false none kc_43 10 [.ref 55, .ref 9, .int (x2 + (nI 1))] [] (wI (wI h 56 (ix x2) (hI h 10 (ix x2))) 57 (ix x2) (nrZ (hI h 11 (ix x2)))))))) := (runL_K [10] 27 _ _ _ _).trans rfl
set_option maxRecDepth 100000 in
theorem x43d (L d : Nat)  (h : PH) : exec (g2 L) (d + 1) 43 [.ref 55, .ref 9] h
  = runL (g2 L) d 2 false none kc_43 10 [.ref 55, .ref 9, .int (nI 0)] [] (wI h 55 0 (hI h 9 0)) := (exec_M (by rfl) _ _ rfl).trans (e43_0d L d  h)
set_option maxRecDepth 100000 in
theorem e43_0e (L d : Nat)  (h : PH) : runL (g2 L) d 2 false none kc_43 0 [.ref 9, .ref 4, dm] [] h
  = runL (g2 L) d 2 false none kc_43 10 [.ref 9, .ref 4, .int (nI 0)] [] (wI h 9 0 (hI h 4 0)) := (runL_K [10] 11 _ _ _ _).trans rfl
set_option maxRecDepth 100000 in
theorem e43_10e (L d : Nat) (x2 : Int32) (h : PH) : runL (g2 L) d 2 false none kc_43 10 [.ref 9, .ref 4, .int x2] [] h
  = if (nI 8) ≤ x2 then some (none, h) else asr (inB x2 8) (asr (inB x2 8) (asr (inB x2 8) (asr (inB x2 8) (runL (g2 L) d 2 false none kc_43 10 [.ref 9, .ref 4, .int (x2 + (nI 1))] [] (wI (wI h 10 (ix x2) (hI h 5 (ix x2))) 11 (ix x2) (nrZ (hI h 6 (ix x2)))))))) := (runL_K [10] 27 _ _ _ _).trans rfl
set_option maxRecDepth 100000 in
theorem x43e (L d : Nat)  (h : PH) : exec (g2 L) (d + 1) 43 [.ref 9, .ref 4] h
  = runL (g2 L) d 2 false none kc_43 10 [.ref 9, .ref 4, .int (nI 0)] [] (wI h 9 0 (hI h 4 0)) := (exec_M (by rfl) _ _ rfl).trans (e43_0e L d  h)
set_option maxRecDepth 100000 in
theorem e44_0 (L d : Nat) (a0 : Nat) (a1 : Nat) (h : PH) : runL (g2 L) d 4 false none kc_44 0 [.ref a0, .ref a1] [] h
  = asr (okA (g2 L) h a1 24) (asr (okW (g2 L) h a0 24 && true) (runL (g2 L) d 4 false none kc_44 8 [.ref a0, .ref a1] [] (wI h a0 0 (hI h a1 0)))) := (runL_K [8, 16, 24, 32, 40, 48, 56, 64] 9 _ _ _ _).trans rfl
set_option maxRecDepth 100000 in
theorem e44_8 (L d : Nat) (a0 : Nat) (a1 : Nat) (h : PH) : runL (g2 L) d 4 false none kc_44 8 [.ref a0, .ref a1] [] h
  = asr (okA (g2 L) h a1 24) (asr (okW (g2 L) h a0 24 && true) (asr (decide (nrZ (hI h a1 1) = (hI h a1 1))) (runL (g2 L) d 4 false none kc_44 16 [.ref a0, .ref a1] [] (wI h a0 1 (hI h a1 1))))) := (runL_K [8, 16, 24, 32, 40, 48, 56, 64] 9 _ _ _ _).trans rfl
set_option maxRecDepth 100000 in
theorem e44_16 (L d : Nat) (a0 : Nat) (a1 : Nat) (h : PH) : runL (g2 L) d 4 false none kc_44 16 [.ref a0, .ref a1] [] h
  = asr (okA (g2 L) h a1 24) (asr (okW (g2 L) h a0 24 && true) (runL (g2 L) d 4 false none kc_44 24 [.ref a0, .ref a1] [] (wI h a0 2 (hI h a1 2)))) := (runL_K [8, 16, 24, 32, 40, 48, 56, 64] 9 _ _ _ _).trans rfl
set_option maxRecDepth 100000 in
theorem e44_24 (L d : Nat) (a0 : Nat) (a1 : Nat) (h : PH) : runL (g2 L) d 4 false none kc_44 24 [.ref a0, .ref a1] [] h
  = asr (okA (g2 L) h a1 24) (asr (okW (g2 L) h a0 24 && true) (runL (g2 L) d 4 false none kc_44 32 [.ref a0, .ref a1] [] (wI h a0 3 (hI h a1 3)))) := (runL_K [8, 16, 24, 32, 40, 48, 56, 64] 9 _ _ _ _).trans rfl
set_option maxRecDepth 100000 in
theorem e44_32 (L d : Nat) (a0 : Nat) (a1 : Nat) (h : PH) : runL (g2 L) d 4 false none kc_44 32 [.ref a0, .ref a1] [] h
  = asr (okA (g2 L) h a1 24) (asr (okW (g2 L) h a0 24 && true) (asr (decide (nrZ (hI h a1 4) = (hI h a1 4))) (runL (g2 L) d 4 false none kc_44 40 [.ref a0, .ref a1] [] (wI h a0 4 (hI h a1 4))))) := (runL_K [8, 16, 24, 32, 40, 48, 56, 64] 9 _ _ _ _).trans rfl
set_option maxRecDepth 100000 in
theorem e44_40 (L d : Nat) (a0 : Nat) (a1 : Nat) (h : PH) : runL (g2 L) d 4 false none kc_44 40 [.ref a0, .ref a1] [] h
  = asr (okA (g2 L) h a1 24) (asr (okW (g2 L) h a0 24 && true) (runL (g2 L) d 4 false none kc_44 48 [.ref a0, .ref a1] [] (wI h a0 5 (hI h a1 5)))) := (runL_K [8, 16, 24, 32, 40, 48, 56, 64] 9 _ _ _ _).trans rfl
set_option maxRecDepth 100000 in
theorem e44_48 (L d : Nat) (a0 : Nat) (a1 : Nat) (h : PH) : runL (g2 L) d 4 false none kc_44 48 [.ref a0, .ref a1] [] h
  = asr (okA (g2 L) h a1 24) (asr (okW (g2 L) h a0 24 && true) (runL (g2 L) d 4 false none kc_44 56 [.ref a0, .ref a1] [] (wI h a0 6 (hI h a1 6)))) := (runL_K [8, 16, 24, 32, 40, 48, 56, 64] 9 _ _ _ _).trans rfl
set_option maxRecDepth 100000 in
theorem e44_56 (L d : Nat) (a0 : Nat) (a1 : Nat) (h : PH) : runL (g2 L) d 4 false none kc_44 56 [.ref a0, .ref a1] [] h
  = asr (okA (g2 L) h a1 24) (asr (okW (g2 L) h a0 24 && true) (runL (g2 L) d 4 false none kc_44 64 [.ref a0, .ref a1] [] (wI h a0 7 (hI h a1 7)))) := (runL_K [8, 16, 24, 32, 40, 48, 56, 64] 9 _ _ _ _).trans rfl
set_option maxRecDepth 100000 in
theorem e44_64 (L d : Nat) (a0 : Nat) (a1 : Nat) (h : PH) : runL (g2 L) d 4 false none kc_44 64 [.ref a0, .ref a1] [] h
  = some (none, h) := (runL_K [8, 16, 24, 32, 40, 48, 56, 64] 6 _ _ _ _).trans rfl
set_option maxRecDepth 100000 in
theorem x44 (L d : Nat) (a0 : Nat) (a1 : Nat) (h : PH) : exec (g2 L) (d + 1) 44 [.ref a0, .ref a1] h
  = asr (okA (g2 L) h a1 24) (asr (okW (g2 L) h a0 24 && true) (runL (g2 L) d 4 false none kc_44 8 [.ref a0, .ref a1] [] (wI h a0 0 (hI h a1 0)))) := (exec_M (by rfl) _ _ rfl).trans (e44_0 L d a0 a1 h)
set_option maxRecDepth 100000 in
theorem e45_0 (L d : Nat) (x1 : Int32) (x2 : Int32) (x3 : Int32) (h : PH) : runL (g2 L) d 0 false (some .int) kc_45 0 [.ref 2, .int x1, .int x2, .int x3, dm, dm] [] h
  = if (hI h 8 0) ≤ (nI 0) then runL (g2 L) d 0 false (some .int) kc_45 57 [.ref 2, .int x1, .int x2, .int x3, .ref 8, dm] [.int (nI 0)] h else cI (exec (g2 L) d 18 [.int x1, .int (nI 0), .int ((hI h 8 2) - (nI 1))] h) fun r2 h1 => if r2 = (nI 0) then runL (g2 L) d 0 false (some .int) kc_45 57 [.ref 2, .int x1, .int x2, .int x3, .ref 8, dm] [.int (nI 0)] h1 else cI (exec (g2 L) d 18 [.int x2, .int (nI 0), .int (hI h1 8 0)] h1) fun r4 h3 => if r4 = (nI 0) then runL (g2 L) d 0 false (some .int) kc_45 57 [.ref 2, .int x1, .int x2, .int x3, .ref 8, dm] [.int (nI 0)] h3 else cI (exec (g2 L) d 17 [.int x3] h3) fun r6 h5 => if r6 = (nI 0) then runL (g2 L) d 0 false (some .int) kc_45 57 [.ref 2, .int x1, .int x2, .int x3, .ref 8, dm] [.int (nI 0)] h5 else runL (g2 L) d 0 false (some .int) kc_45 57 [.ref 2, .int x1, .int x2, .int x3, .ref 8, dm] [.int (nI 1)] h5 := (runL_K [57] 35 _ _ _ _).trans rfl
set_option maxRecDepth 100000 in
theorem e45_57 (L d : Nat) (x1 : Int32) (x2 : Int32) (x3 : Int32) (xs0 : Int32) (h : PH) : runL (g2 L) d 0 false (some .int) kc_45 57 [.ref 2, .int x1, .int x2, .int x3, .ref 8, dm] [.int xs0] h
  = if xs0 = (nI 0) then some (some (.int m1), h) else if (hI h 8 3) < (nI 30) then cV (exec (g2 L) d 46 [.ref 8, .int x1, .int x2, .int x3, .int ((hI h 3 0) / (nI 1440))] h) fun h1 => some (some (.int (hI h1 8 3)), h1) else some (some (.int m1), h) := (runL_K [57] 29 _ _ _ _).trans rfl
set_option maxRecDepth 100000 in
theorem x45 (L d : Nat) (x1 : Int32) (x2 : Int32) (x3 : Int32) (h : PH) : exec (g2 L) (d + 1) 45 [.ref 2, .int x1, .int x2, .int x3] h
  = if (hI h 8 0) ≤ (nI 0) then runL (g2 L) d 0 false (some .int) kc_45 57 [.ref 2, .int x1, .int x2, .int x3, .ref 8, dm] [.int (nI 0)] h else cI (exec (g2 L) d 18 [.int x1, .int (nI 0), .int ((hI h 8 2) - (nI 1))] h) fun r2 h1 => if r2 = (nI 0) then runL (g2 L) d 0 false (some .int) kc_45 57 [.ref 2, .int x1, .int x2, .int x3, .ref 8, dm] [.int (nI 0)] h1 else cI (exec (g2 L) d 18 [.int x2, .int (nI 0), .int (hI h1 8 0)] h1) fun r4 h3 => if r4 = (nI 0) then runL (g2 L) d 0 false (some .int) kc_45 57 [.ref 2, .int x1, .int x2, .int x3, .ref 8, dm] [.int (nI 0)] h3 else cI (exec (g2 L) d 17 [.int x3] h3) fun r6 h5 => if r6 = (nI 0) then runL (g2 L) d 0 false (some .int) kc_45 57 [.ref 2, .int x1, .int x2, .int x3, .ref 8, dm] [.int (nI 0)] h5 else runL (g2 L) d 0 false (some .int) kc_45 57 [.ref 2, .int x1, .int x2, .int x3, .ref 8, dm] [.int (nI 1)] h5 := (exec_M (by rfl) _ _ rfl).trans (e45_0 L d x1 x2 x3 h)
set_option maxRecDepth 100000 in
theorem e46_0 (L d : Nat) (x1 : Int32) (x2 : Int32) (x3 : Int32) (x4 : Int32) (h : PH) : runL (g2 L) d 3 false none kc_46 0 [.ref 8, .int x1, .int x2, .int x3, .int x4] [] h
  = if (nI 30) ≤ (hI h 8 3) then runL (g2 L) d 3 false none kc_46 60 [.ref 8, .int x1, .int x2, .int x3, .int x4] [] h else asr (inB (hI h 8 3) 30) (runL (g2 L) d 3 false none kc_46 19 [.ref 8, .int x1, .int x2, .int x3, .int x4] [] (wI h 13 (ix (hI h 8 3)) x1)) := (runL_K [19, 29, 39, 50, 60] 15 _ _ _ _).trans rfl
set_option maxRecDepth 100000 in
theorem e46_19 (L d : Nat) (x1 : Int32) (x2 : Int32) (x3 : Int32) (x4 : Int32) (h : PH) : runL (g2 L) d 3 false none kc_46 19 [.ref 8, .int x1, .int x2, .int x3, .int x4] [] h
  = asr (inB (hI h 8 3) 30) (runL (g2 L) d 3 false none kc_46 29 [.ref 8, .int x1, .int x2, .int x3, .int x4] [] (wI h 14 (ix (hI h 8 3)) x2)) := (runL_K [19, 29, 39, 50, 60] 11 _ _ _ _).trans rfl
set_option maxRecDepth 100000 in
theorem e46_29 (L d : Nat) (x1 : Int32) (x2 : Int32) (x3 : Int32) (x4 : Int32) (h : PH) : runL (g2 L) d 3 false none kc_46 29 [.ref 8, .int x1, .int x2, .int x3, .int x4] [] h
  = asr (inB (hI h 8 3) 30) (runL (g2 L) d 3 false none kc_46 39 [.ref 8, .int x1, .int x2, .int x3, .int x4] [] (wI h 15 (ix (hI h 8 3)) x3)) := (runL_K [19, 29, 39, 50, 60] 11 _ _ _ _).trans rfl
set_option maxRecDepth 100000 in
theorem e46_39 (L d : Nat) (x1 : Int32) (x2 : Int32) (x3 : Int32) (x4 : Int32) (h : PH) : runL (g2 L) d 3 false none kc_46 39 [.ref 8, .int x1, .int x2, .int x3, .int x4] [] h
  = asr (inB (hI h 8 3) 30) (runL (g2 L) d 3 false none kc_46 50 [.ref 8, .int x1, .int x2, .int x3, .int x4] [] (wI h 16 (ix (hI h 8 3)) x4)) := (runL_K [19, 29, 39, 50, 60] 11 _ _ _ _).trans rfl
set_option maxRecDepth 100000 in
theorem e46_50 (L d : Nat) (x1 : Int32) (x2 : Int32) (x3 : Int32) (x4 : Int32) (h : PH) : runL (g2 L) d 3 false none kc_46 50 [.ref 8, .int x1, .int x2, .int x3, .int x4] [] h
  = runL (g2 L) d 3 false none kc_46 60 [.ref 8, .int x1, .int x2, .int x3, .int x4] [] (wI h 8 3 ((hI h 8 3) + (nI 1))) := (runL_K [19, 29, 39, 50, 60] 11 _ _ _ _).trans rfl
set_option maxRecDepth 100000 in
theorem e46_60 (L d : Nat) (x1 : Int32) (x2 : Int32) (x3 : Int32) (x4 : Int32) (h : PH) : runL (g2 L) d 3 false none kc_46 60 [.ref 8, .int x1, .int x2, .int x3, .int x4] [] h
  = some (none, h) := (runL_K [19, 29, 39, 50, 60] 6 _ _ _ _).trans rfl
set_option maxRecDepth 100000 in
theorem x46 (L d : Nat) (x1 : Int32) (x2 : Int32) (x3 : Int32) (x4 : Int32) (h : PH) : exec (g2 L) (d + 1) 46 [.ref 8, .int x1, .int x2, .int x3, .int x4] h
  = if (nI 30) ≤ (hI h 8 3) then runL (g2 L) d 3 false none kc_46 60 [.ref 8, .int x1, .int x2, .int x3, .int x4] [] h else asr (inB (hI h 8 3) 30) (runL (g2 L) d 3 false none kc_46 19 [.ref 8, .int x1, .int x2, .int x3, .int x4] [] (wI h 13 (ix (hI h 8 3)) x1)) := (exec_M (by rfl) _ _ rfl).trans (e46_0 L d x1 x2 x3 x4 h)
set_option maxRecDepth 100000 in
theorem e47_0 (L d : Nat) (x1 : Int32) (h : PH) : runL (g2 L) d 0 false (some .int) kc_47 0 [.ref 2, .int x1] [] h
  = cI (exec (g2 L) d 48 [.ref 2, .int x1] h) fun r2 h1 => if r2 = (nI 0) then some (some (.int m1), h1) else cA (exec (g2 L) d 49 [.ref 95, .int x1] h1) fun p4 h3 => asr (okA (g2 L) h3 p4 1) (asr (inB (nI 0) (lenA (g2 L) p4)) (some (some (.int (hI h3 p4 (0))), h3))) := (runL_K [] 19 _ _ _ _).trans rfl
set_option maxRecDepth 100000 in
theorem x47 (L d : Nat) (x1 : Int32) (h : PH) : exec (g2 L) (d + 1) 47 [.ref 2, .int x1] h
  = cI (exec (g2 L) d 48 [.ref 2, .int x1] h) fun r2 h1 => if r2 = (nI 0) then some (some (.int m1), h1) else cA (exec (g2 L) d 49 [.ref 95, .int x1] h1) fun p4 h3 => asr (okA (g2 L) h3 p4 1) (asr (inB (nI 0) (lenA (g2 L) p4)) (some (some (.int (hI h3 p4 (0))), h3))) := (exec_M (by rfl) _ _ rfl).trans (e47_0 L d x1 h)
set_option maxRecDepth 100000 in
theorem e48_0 (L d : Nat) (x1 : Int32) (h : PH) : runL (g2 L) d 0 false (some .boolean) kc_48 0 [.ref 2, .int x1] [] h
  = if (hI h 8 0) ≤ (nI 0) then some (some (.int (nI 0)), h) else cI (exec (g2 L) d 18 [.int x1, .int (nI 0), .int (nI 399)] h) fun r2 h1 => if r2 = (nI 0) then some (some (.int (nI 0)), h1) else some (some (.int (nI 1)), h1) := (runL_K [] 22 _ _ _ _).trans rfl
set_option maxRecDepth 100000 in
theorem x48 (L d : Nat) (x1 : Int32) (h : PH) : exec (g2 L) (d + 1) 48 [.ref 2, .int x1] h
  = if (hI h 8 0) ≤ (nI 0) then some (some (.int (nI 0)), h) else cI (exec (g2 L) d 18 [.int x1, .int (nI 0), .int (nI 399)] h) fun r2 h1 => if r2 = (nI 0) then some (some (.int (nI 0)), h1) else some (some (.int (nI 1)), h1) := (exec_M (by rfl) _ _ rfl).trans (e48_0 L d x1 h)
set_option maxRecDepth 100000 in
theorem e49_0 (L d : Nat) (x1 : Int32) (h : PH) : runL (g2 L) d 5 false (some (.array .int)) kc_49 0 [.ref 95, .int x1, dm] [] h
  = cI (exec (g2 L) d 50 [.ref 8, .int x1] h) fun r2 h1 => asr (inB (if (nI 30) < r2 then (nI 30) else r2) 31) (asr (okA (g2 L) h1 (97 + ix (if (nI 30) < r2 then (nI 30) else r2)) 1) (asr (inB (nI 0) (lenA (g2 L) (97 + ix (if (nI 30) < r2 then (nI 30) else r2)))) (if (hI h1 (97 + ix (if (nI 30) < r2 then (nI 30) else r2)) (0)) ≠ m2 then some (some (.ref (97 + ix (if (nI 30) < r2 then (nI 30) else r2))), wR h1 95 15 (97 + ix (if (nI 30) < r2 then (nI 30) else r2))) else cV (exec (g2 L) d 51 [.ref 95, .int (if (nI 30) < r2 then (nI 30) else r2)] (wR h1 95 15 (97 + ix (if (nI 30) < r2 then (nI 30) else r2)))) fun h3 => some (some (.ref (hR h3 95 15)), h3)))) := (runL_K [] 33 _ _ _ _).trans rfl
set_option maxRecDepth 100000 in
theorem x49 (L d : Nat) (x1 : Int32) (h : PH) : exec (g2 L) (d + 1) 49 [.ref 95, .int x1] h
  = cI (exec (g2 L) d 50 [.ref 8, .int x1] h) fun r2 h1 => asr (inB (if (nI 30) < r2 then (nI 30) else r2) 31) (asr (okA (g2 L) h1 (97 + ix (if (nI 30) < r2 then (nI 30) else r2)) 1) (asr (inB (nI 0) (lenA (g2 L) (97 + ix (if (nI 30) < r2 then (nI 30) else r2)))) (if (hI h1 (97 + ix (if (nI 30) < r2 then (nI 30) else r2)) (0)) ≠ m2 then some (some (.ref (97 + ix (if (nI 30) < r2 then (nI 30) else r2))), wR h1 95 15 (97 + ix (if (nI 30) < r2 then (nI 30) else r2))) else cV (exec (g2 L) d 51 [.ref 95, .int (if (nI 30) < r2 then (nI 30) else r2)] (wR h1 95 15 (97 + ix (if (nI 30) < r2 then (nI 30) else r2)))) fun h3 => some (some (.ref (hR h3 95 15)), h3)))) := (exec_M (by rfl) _ _ rfl).trans (e49_0 L d x1 h)
set_option maxRecDepth 100000 in
theorem e50_0 (L d : Nat) (x1 : Int32) (h : PH) : runL (g2 L) d 3 false (some .int) kc_50 0 [.ref 8, .int x1, dm, dm] [] h
  = runL (g2 L) d 3 false (some .int) kc_50 4 [.ref 8, .int x1, .int (nI 0), .int (nI 0)] [] h := (runL_K [4] 9 _ _ _ _).trans rfl
set_option maxRecDepth 100000 in
theorem e50_4 (L d : Nat) (x1 : Int32) (x2 : Int32) (x3 : Int32) (h : PH) : runL (g2 L) d 3 false (some .int) kc_50 4 [.ref 8, .int x1, .int x2, .int x3] [] h
  = if (hI h 8 3) ≤ x3 then some (some (.int x2), h) else asr (inB x3 30) (if x1 < (hI h 16 (ix x3)) then runL (g2 L) d 3 false (some .int) kc_50 4 [.ref 8, .int x1, .int x2, .int (x3 + (nI 1))] [] h else runL (g2 L) d 3 false (some .int) kc_50 4 [.ref 8, .int x1, .int (x2 + (nI 1)), .int (x3 + (nI 1))] [] h) := (runL_K [4] 22 _ _ _ _).trans rfl
set_option maxRecDepth 100000 in
theorem x50 (L d : Nat) (x1 : Int32) (h : PH) : exec (g2 L) (d + 1) 50 [.ref 8, .int x1] h
  = runL (g2 L) d 3 false (some .int) kc_50 4 [.ref 8, .int x1, .int (nI 0), .int (nI 0)] [] h := (exec_M (by rfl) _ _ rfl).trans (e50_0 L d x1 h)
set_option maxRecDepth 100000 in
theorem e51_0 (L d : Nat) (x1 : Int32) (h : PH) : runL (g2 L) d 5 false none kc_51 0 [.ref 95, .int x1, dm] [] h
  = cV (exec (g2 L) d 52 [.ref 95] h) fun h1 => cV (exec (g2 L) d 53 [.ref 95] h1) fun h2 => cV (exec (g2 L) d 54 [.ref 95, .int x1] h2) fun h3 => cV (exec (g2 L) d 66 [.ref 95] (wI (wI h3 95 13 (nI 1000)) 95 14 (nI 0))) fun h4 => cV (exec (g2 L) d 55 [.ref (hR h4 95 15), .int (nI 0)] h4) fun h5 => asr (okW (g2 L) h5 (hR h5 95 15) 1) (asr (inB (nI 1) (lenA (g2 L) (hR h5 95 15))) (asr (okW (g2 L) h5 (hR h5 95 15) 1) (asr (inB (nI 2) (lenA (g2 L) (hR h5 95 15))) (asr (okW (g2 L) h5 (hR h5 95 15) 1) (asr (inB (nI 3) (lenA (g2 L) (hR h5 95 15))) (if (hI (wI (wI (wI h5 (hR h5 95 15) (1) m1) (hR h5 95 15) (2) m1) (hR h5 95 15) (3) m1) 95 13) < (nI 1000) then asr (okW (g2 L) h5 (hR h5 95 15) 1) (asr (inB (nI 0) (lenA (g2 L) (hR h5 95 15))) (if (hI (wI (wI (wI (wI h5 (hR h5 95 15) (1) m1) (hR h5 95 15) (2) m1) (hR h5 95 15) (3) m1) (hR h5 95 15) (0) (hI (wI (wI (wI h5 (hR h5 95 15) (1) m1) (hR h5 95 15) (2) m1) (hR h5 95 15) (3) m1) 95 13)) 95 13) < (nI 1000) then runL (g2 L) d 5 false none kc_51 95 [.ref 95, .int x1, .int (nI 0)] [] (wI (wI (wI (wI h5 (hR h5 95 15) (1) m1) (hR h5 95 15) (2) m1) (hR h5 95 15) (3) m1) (hR h5 95 15) (0) (hI (wI (wI (wI h5 (hR h5 95 15) (1) m1) (hR h5 95 15) (2) m1) (hR h5 95 15) (3) m1) 95 13)) else some (none, wI (wI (wI (wI h5 (hR h5 95 15) (1) m1) (hR h5 95 15) (2) m1) (hR h5 95 15) (3) m1) (hR h5 95 15) (0) (hI (wI (wI (wI h5 (hR h5 95 15) (1) m1) (hR h5 95 15) (2) m1) (hR h5 95 15) (3) m1) 95 13)))) else asr (okW (g2 L) h5 (hR h5 95 15) 1) (asr (inB (nI 0) (lenA (g2 L) (hR h5 95 15))) (if (hI (wI (wI (wI (wI h5 (hR h5 95 15) (1) m1) (hR h5 95 15) (2) m1) (hR h5 95 15) (3) m1) (hR h5 95 15) (0) m1) 95 13) < (nI 1000) then runL (g2 L) d 5 false none kc_51 95 [.ref 95, .int x1, .int (nI 0)] [] (wI (wI (wI (wI h5 (hR h5 95 15) (1) m1) (hR h5 95 15) (2) m1) (hR h5 95 15) (3) m1) (hR h5 95 15) (0) m1) else some (none, wI (wI (wI (wI h5 (hR h5 95 15) (1) m1) (hR h5 95 15) (2) m1) (hR h5 95 15) (3) m1) (hR h5 95 15) (0) m1))))))))) := (runL_K [95] 66 _ _ _ _).trans rfl
set_option maxRecDepth 100000 in
theorem e51_95 (L d : Nat) (x1 : Int32) (x2 : Int32) (h : PH) : runL (g2 L) d 5 false none kc_51 95 [.ref 95, .int x1, .int x2] [] h
  = if (nI 8) ≤ x2 then cV (exec (g2 L) d 66 [.ref 95] (wI h 95 14 (nI 1))) fun h1 => cV (exec (g2 L) d 72 [.ref 95] h1) fun h2 => some (none, h2) else asr (okW (g2 L) h (hR h 95 15) 1) (asr (inB ((nI 12) + x2) (lenA (g2 L) (hR h 95 15))) (asr (inB x2 8) (cV (exec (g2 L) d 71 [.ref (138 + ix x2), .int (nI 0)] (wI h (hR h 95 15) (ix ((nI 12) + x2)) (nI 1023))) fun h3 => runL (g2 L) d 5 false none kc_51 95 [.ref 95, .int x1, .int (x2 + (nI 1))] [] h3))) := (runL_K [95] 31 _ _ _ _).trans rfl
set_option maxRecDepth 100000 in
theorem x51 (L d : Nat) (x1 : Int32) (h : PH) : exec (g2 L) (d + 1) 51 [.ref 95, .int x1] h
  = cV (exec (g2 L) d 52 [.ref 95] h) fun h1 => cV (exec (g2 L) d 53 [.ref 95] h1) fun h2 => cV (exec (g2 L) d 54 [.ref 95, .int x1] h2) fun h3 => cV (exec (g2 L) d 66 [.ref 95] (wI (wI h3 95 13 (nI 1000)) 95 14 (nI 0))) fun h4 => cV (exec (g2 L) d 55 [.ref (hR h4 95 15), .int (nI 0)] h4) fun h5 => asr (okW (g2 L) h5 (hR h5 95 15) 1) (asr (inB (nI 1) (lenA (g2 L) (hR h5 95 15))) (asr (okW (g2 L) h5 (hR h5 95 15) 1) (asr (inB (nI 2) (lenA (g2 L) (hR h5 95 15))) (asr (okW (g2 L) h5 (hR h5 95 15) 1) (asr (inB (nI 3) (lenA (g2 L) (hR h5 95 15))) (if (hI (wI (wI (wI h5 (hR h5 95 15) (1) m1) (hR h5 95 15) (2) m1) (hR h5 95 15) (3) m1) 95 13) < (nI 1000) then asr (okW (g2 L) h5 (hR h5 95 15) 1) (asr (inB (nI 0) (lenA (g2 L) (hR h5 95 15))) (if (hI (wI (wI (wI (wI h5 (hR h5 95 15) (1) m1) (hR h5 95 15) (2) m1) (hR h5 95 15) (3) m1) (hR h5 95 15) (0) (hI (wI (wI (wI h5 (hR h5 95 15) (1) m1) (hR h5 95 15) (2) m1) (hR h5 95 15) (3) m1) 95 13)) 95 13) < (nI 1000) then runL (g2 L) d 5 false none kc_51 95 [.ref 95, .int x1, .int (nI 0)] [] (wI (wI (wI (wI h5 (hR h5 95 15) (1) m1) (hR h5 95 15) (2) m1) (hR h5 95 15) (3) m1) (hR h5 95 15) (0) (hI (wI (wI (wI h5 (hR h5 95 15) (1) m1) (hR h5 95 15) (2) m1) (hR h5 95 15) (3) m1) 95 13)) else some (none, wI (wI (wI (wI h5 (hR h5 95 15) (1) m1) (hR h5 95 15) (2) m1) (hR h5 95 15) (3) m1) (hR h5 95 15) (0) (hI (wI (wI (wI h5 (hR h5 95 15) (1) m1) (hR h5 95 15) (2) m1) (hR h5 95 15) (3) m1) 95 13)))) else asr (okW (g2 L) h5 (hR h5 95 15) 1) (asr (inB (nI 0) (lenA (g2 L) (hR h5 95 15))) (if (hI (wI (wI (wI (wI h5 (hR h5 95 15) (1) m1) (hR h5 95 15) (2) m1) (hR h5 95 15) (3) m1) (hR h5 95 15) (0) m1) 95 13) < (nI 1000) then runL (g2 L) d 5 false none kc_51 95 [.ref 95, .int x1, .int (nI 0)] [] (wI (wI (wI (wI h5 (hR h5 95 15) (1) m1) (hR h5 95 15) (2) m1) (hR h5 95 15) (3) m1) (hR h5 95 15) (0) m1) else some (none, wI (wI (wI (wI h5 (hR h5 95 15) (1) m1) (hR h5 95 15) (2) m1) (hR h5 95 15) (3) m1) (hR h5 95 15) (0) m1))))))))) := (exec_M (by rfl) _ _ rfl).trans (e51_0 L d x1 h)
set_option maxRecDepth 100000 in
theorem e52_0 (L d : Nat)  (h : PH) : runL (g2 L) d 5 false none kc_52 0 [.ref 95, dm, dm] [] h
  = runL (g2 L) d 5 false none kc_52 2 [.ref 95, .int (nI 0), dm] [] h := (runL_K [2] 7 _ _ _ _).trans rfl
set_option maxRecDepth 100000 in
theorem e52_2 (L d : Nat) (x1 : Int32) (v2 : Value) (h : PH) : runL (g2 L) d 5 false none kc_52 2 [.ref 95, .int x1, v2] [] h
  = if (hI h 9 0) ≤ x1 then some (none, h) else asr (inB x1 8) (if (hI h 10 (ix x1)) < (nI 0) then asr (inB x1 8) (runL (g2 L) d 5 false none kc_52 2 [.ref 95, .int (x1 + (nI 1)), .int (hI h 10 (ix x1))] [] (wI h 161 (ix x1) (((nI 1) <<< (x1 &&& nI 31)) ||| (nI 0)))) else if x1 ≤ (hI h 10 (ix x1)) then asr (inB x1 8) (runL (g2 L) d 5 false none kc_52 2 [.ref 95, .int (x1 + (nI 1)), .int (hI h 10 (ix x1))] [] (wI h 161 (ix x1) (((nI 1) <<< (x1 &&& nI 31)) ||| (nI 0)))) else asr (inB (hI h 10 (ix x1)) 8) (asr (inB x1 8) (runL (g2 L) d 5 false none kc_52 2 [.ref 95, .int (x1 + (nI 1)), .int (hI h 10 (ix x1))] [] (wI h 161 (ix x1) (((nI 1) <<< (x1 &&& nI 31)) ||| (hI h 161 (ix (hI h 10 (ix x1))))))))) := (runL_K [2] 49 _ _ _ _).trans rfl
set_option maxRecDepth 100000 in
theorem x52 (L d : Nat)  (h : PH) : exec (g2 L) (d + 1) 52 [.ref 95] h
  = runL (g2 L) d 5 false none kc_52 2 [.ref 95, .int (nI 0), dm] [] h := (exec_M (by rfl) _ _ rfl).trans (e52_0 L d  h)
set_option maxRecDepth 100000 in
theorem e53_0 (L d : Nat)  (h : PH) : runL (g2 L) d 5 false none kc_53 0 [.ref 95, dm, dm] [] h
  = runL (g2 L) d 5 false none kc_53 7 [.ref 95, .int (nI 0), dm] [] (wI h 95 10 (nI 0)) := (runL_K [7, 22] 10 _ _ _ _).trans rfl
set_option maxRecDepth 100000 in
theorem e53_7 (L d : Nat) (x1 : Int32) (v2 : Value) (h : PH) : runL (g2 L) d 5 false none kc_53 7 [.ref 95, .int x1, v2] [] h
  = if (hI h 8 0) ≤ x1 then some (none, h) else runL (g2 L) d 5 false none kc_53 22 [.ref 95, .int x1, .int (x1 + (nI 1))] [] h := (runL_K [7, 22] 15 _ _ _ _).trans rfl
set_option maxRecDepth 100000 in
theorem e53_22 (L d : Nat) (x1 : Int32) (x2 : Int32) (h : PH) : runL (g2 L) d 5 false none kc_53 22 [.ref 95, .int x1, .int x2] [] h
  = if (hI h 8 0) < x2 then runL (g2 L) d 5 false none kc_53 7 [.ref 95, .int (x1 + (nI 1)), .int x2] [] h else if (nI 55) ≤ (hI h 95 10) then runL (g2 L) d 5 false none kc_53 7 [.ref 95, .int (x1 + (nI 1)), .int x2] [] h else asr (inB (hI h 95 10) 55) (runL (g2 L) d 5 false none kc_53 22 [.ref 95, .int x1, .int (x2 + (nI 1))] [] (wI (wI h 162 (ix (hI h 95 10)) (((nI 1) <<< (x2 &&& nI 31)) - ((nI 1) <<< (x1 &&& nI 31)))) 95 10 ((hI h 95 10) + (nI 1)))) := (runL_K [7, 22] 40 _ _ _ _).trans rfl
set_option maxRecDepth 100000 in
theorem x53 (L d : Nat)  (h : PH) : exec (g2 L) (d + 1) 53 [.ref 95] h
  = runL (g2 L) d 5 false none kc_53 7 [.ref 95, .int (nI 0), dm] [] (wI h 95 10 (nI 0)) := (exec_M (by rfl) _ _ rfl).trans (e53_0 L d  h)
set_option maxRecDepth 100000 in
theorem e54_0 (L d : Nat) (x1 : Int32) (h : PH) : runL (g2 L) d 5 false none kc_54 0 [.ref 95, .int x1, dm, dm] [] h
  = runL (g2 L) d 5 false none kc_54 2 [.ref 95, .int x1, .int (nI 0), dm] [] h := (runL_K [2, 26, 122] 7 _ _ _ _).trans rfl
set_option maxRecDepth 100000 in
theorem e54_2 (L d : Nat) (x1 : Int32) (x2 : Int32) (h : PH) : runL (g2 L) d 5 false none kc_54 2 [.ref 95, .int x1, .int x2, dm] [] h
  = if (nI 8) ≤ x2 then runL (g2 L) d 5 false none kc_54 26 [.ref 95, .int x1, .int (nI 0), dm] [] h else asr (inB x2 8) (cV (exec (g2 L) d 55 [.ref (129 + ix x2), .int (nI 0)] h) fun h1 => runL (g2 L) d 5 false none kc_54 2 [.ref 95, .int x1, .int (x2 + (nI 1)), dm] [] h1) := (runL_K [2, 26, 122] 18 _ _ _ _).trans rfl
set_option maxRecDepth 100000 in
theorem e54_26 (L d : Nat) (x1 : Int32) (x2 : Int32) (v3 : Value) (h : PH) : runL (g2 L) d 5 false none kc_54 26 [.ref 95, .int x1, .int x2, v3] [] h
  = if (hI h 8 2) ≤ x2 then runL (g2 L) d 5 false none kc_54 122 [.ref 95, .int x1, .int ((hI h 9 0) - (nI 1)), v3] [] (wI h 95 12 (nI 0)) else asr (inB x2 16) (cV (exec (g2 L) d 56 [.ref 95, .int x2, .int x1] h) fun h1 => cV (exec (g2 L) d 57 [.ref 95, .ref (17 + ix x2)] h1) fun h2 => if (hI h2 95 11) < (nI 0) then runL (g2 L) d 5 false none kc_54 26 [.ref 95, .int x1, .int (x2 + (nI 1)), .ref (17 + ix x2)] [] h2 else cV (exec (g2 L) d 55 [.ref 147, .int (nI 1000)] h2) fun h3 => cI (exec (g2 L) d 58 [.ref 95, .int (nI 0)] (wI h3 147 (0) (nI 0))) fun r5 h4 => cV (exec (g2 L) d 59 [.ref 95, .ref (17 + ix x2), .int (nI 0), .int (nI 0), .int r5] h4) fun h6 => runL (g2 L) d 5 false none kc_54 26 [.ref 95, .int x1, .int (x2 + (nI 1)), .ref (17 + ix x2)] [] h6) := (runL_K [2, 26, 122] 61 _ _ _ _).trans rfl
set_option maxRecDepth 100000 in
theorem e54_122 (L d : Nat) (x1 : Int32) (x2 : Int32) (v3 : Value) (h : PH) : runL (g2 L) d 5 false none kc_54 122 [.ref 95, .int x1, .int x2, v3] [] h
  = if x2 < (nI 0) then some (none, h) else asr (inB x2 8) (if (hI h 10 (ix x2)) ≠ m1 then if (hI h 10 (ix x2)) < (nI 0) then runL (g2 L) d 5 false none kc_54 122 [.ref 95, .int x1, .int (x2 + m1), .int (hI h 10 (ix x2))] [] h else if x2 ≤ (hI h 10 (ix x2)) then runL (g2 L) d 5 false none kc_54 122 [.ref 95, .int x1, .int (x2 + m1), .int (hI h 10 (ix x2))] [] h else asr (inB (hI h 10 (ix x2)) 8) (asr (inB x2 8) (cV (exec (g2 L) d 65 [.ref (129 + ix (hI h 10 (ix x2))), .ref (129 + ix x2)] h) fun h1 => runL (g2 L) d 5 false none kc_54 122 [.ref 95, .int x1, .int (x2 + m1), .int (hI h 10 (ix x2))] [] h1)) else asr (inB x2 8) (asr (okA (g2 L) h (129 + ix x2) 1) (asr (inB (nI 0) (lenA (g2 L) (129 + ix x2))) (runL (g2 L) d 5 false none kc_54 122 [.ref 95, .int x1, .int (x2 + m1), .int (hI h 10 (ix x2))] [] (wI h 95 12 ((hI h 95 12) + (hI h (129 + ix x2) (0)))))))) := (runL_K [2, 26, 122] 52 _ _ _ _).trans rfl
set_option maxRecDepth 100000 in
theorem x54 (L d : Nat) (x1 : Int32) (h : PH) : exec (g2 L) (d + 1) 54 [.ref 95, .int x1] h
  = runL (g2 L) d 5 false none kc_54 2 [.ref 95, .int x1, .int (nI 0), dm] [] h := (exec_M (by rfl) _ _ rfl).trans (e54_0 L d x1 h)
set_option maxRecDepth 100000 in
theorem e55_0 (L d : Nat) (a0 : Nat) (x1 : Int32) (h : PH) : runL (g2 L) d 16 false none kc_55 0 [.ref a0, .int x1, dm, dm] [] h
  = asr (Nat.ble 1 (kx_K a0) && (Nat.ble (kx_K a0) 8 && alive (g2 L) h a0)) (runL (g2 L) d 16 false none kc_55 5 [.ref a0, .int x1, .int (nI 0), .int (nI (lenA (g2 L) a0))] [] h) := (runL_K [5] 10 _ _ _ _).trans rfl
set_option maxRecDepth 100000 in
theorem e55_5 (L d : Nat) (a0 : Nat) (x1 : Int32) (x2 : Int32) (x3 : Int32) (h : PH) : runL (g2 L) d 16 false none kc_55 5 [.ref a0, .int x1, .int x2, .int x3] [] h
  = if x3 ≤ x2 then some (none, h) else asr (okW (g2 L) h a0 1) (asr (inB x2 (lenA (g2 L) a0)) (runL (g2 L) d 16 false none kc_55 5 [.ref a0, .int x1, .int (x2 + (nI 1)), .int x3] [] (wI h a0 (ix x2) x1))) := (runL_K [5] 15 _ _ _ _).trans rfl
set_option maxRecDepth 100000 in
theorem x55 (L d : Nat) (a0 : Nat) (x1 : Int32) (h : PH) : exec (g2 L) (d + 1) 55 [.ref a0, .int x1] h
  = asr (Nat.ble 1 (kx_K a0) && (Nat.ble (kx_K a0) 8 && alive (g2 L) h a0)) (runL (g2 L) d 16 false none kc_55 5 [.ref a0, .int x1, .int (nI 0), .int (nI (lenA (g2 L) a0))] [] h) := (exec_M (by rfl) _ _ rfl).trans (e55_0 L d a0 x1 h)
set_option maxRecDepth 100000 in
theorem e56_0 (L d : Nat) (x1 : Int32) (x2 : Int32) (h : PH) : runL (g2 L) d 5 false none kc_56 0 [.ref 95, .int x1, .int x2, dm, dm, dm] [] h
  = cV (exec (g2 L) d 55 [.ref 158, .int m1] h) fun h1 => runL (g2 L) d 5 false none kc_56 15 [.ref 95, .int x1, .int x2, .int (nI 0), dm, dm] [] (wI h1 95 11 m1) := (runL_K [15] 14 _ _ _ _).trans rfl
set_option maxRecDepth 100000 in
theorem e56_15 (L d : Nat) (x1 : Int32) (x2 : Int32) (x3 : Int32) (v4 : Value) (v5 : Value) (h : PH) : runL (g2 L) d 5 false none kc_56 15 [.ref 95, .int x1, .int x2, .int x3, v4, v5] [] h
  = if x2 ≤ x3 then some (none, h) else if (nI 30) ≤ x3 then some (none, h) else asr (inB x3 30) (if (hI h 13 (ix x3)) = x1 then asr (inB x3 30) (asr (inB x3 30) (asr (inB x1 16) (asr (okA (g2 L) h (17 + ix x1) 24) (asr (inB (hI h 14 (ix x3)) 11) (if (hI h 158 (ix (hI h 14 (ix x3)))) = m1 then asr (inB (hI h 14 (ix x3)) 11) (runL (g2 L) d 5 false none kc_56 15 [.ref 95, .int x1, .int x2, .int (x3 + (nI 1)), .int (hI h 14 (ix x3)), .int (fmod ((hI h 15 (ix x3)) - (hI h (17 + ix x1) 2)) (nI 720))] [] (wI (wI h 158 (ix (hI h 14 (ix x3))) (fmod ((hI h 15 (ix x3)) - (hI h (17 + ix x1) 2)) (nI 720))) 95 11 (if (hI h 95 11) < (hI h 14 (ix x3)) then (hI h 14 (ix x3)) else (hI h 95 11)))) else asr (inB (hI h 14 (ix x3)) 11) (if (hI h 158 (ix (hI h 14 (ix x3)))) ≠ (fmod ((hI h 15 (ix x3)) - (hI h (17 + ix x1) 2)) (nI 720)) then asr (inB (hI h 14 (ix x3)) 11) (runL (g2 L) d 5 false none kc_56 15 [.ref 95, .int x1, .int x2, .int (x3 + (nI 1)), .int (hI h 14 (ix x3)), .int (fmod ((hI h 15 (ix x3)) - (hI h (17 + ix x1) 2)) (nI 720))] [] (wI (wI h 158 (ix (hI h 14 (ix x3))) (nI 720)) 95 11 (if (hI h 95 11) < (hI h 14 (ix x3)) then (hI h 14 (ix x3)) else (hI h 95 11)))) else asr (inB (hI h 14 (ix x3)) 11) (runL (g2 L) d 5 false none kc_56 15 [.ref 95, .int x1, .int x2, .int (x3 + (nI 1)), .int (hI h 14 (ix x3)), .int (fmod ((hI h 15 (ix x3)) - (hI h (17 + ix x1) 2)) (nI 720))] [] (wI (wI h 158 (ix (hI h 14 (ix x3))) (fmod ((hI h 15 (ix x3)) - (hI h (17 + ix x1) 2)) (nI 720))) 95 11 (if (hI h 95 11) < (hI h 14 (ix x3)) then (hI h 14 (ix x3)) else (hI h 95 11)))))))))) else runL (g2 L) d 5 false none kc_56 15 [.ref 95, .int x1, .int x2, .int (x3 + (nI 1)), v4, v5] [] h) := (runL_K [15] 91 _ _ _ _).trans rfl
set_option maxRecDepth 100000 in
theorem x56 (L d : Nat) (x1 : Int32) (x2 : Int32) (h : PH) : exec (g2 L) (d + 1) 56 [.ref 95, .int x1, .int x2] h
  = cV (exec (g2 L) d 55 [.ref 158, .int m1] h) fun h1 => runL (g2 L) d 5 false none kc_56 15 [.ref 95, .int x1, .int x2, .int (nI 0), dm, dm] [] (wI h1 95 11 m1) := (exec_M (by rfl) _ _ rfl).trans (e56_0 L d x1 x2 h)
set_option maxRecDepth 100000 in
theorem e57_0 (L d : Nat) (a1 : Nat) (h : PH) : runL (g2 L) d 5 false none kc_57 0 [.ref 95, .ref a1, dm] [] h
  = runL (g2 L) d 5 false none kc_57 2 [.ref 95, .ref a1, .int (nI 0)] [] h := (runL_K [2] 7 _ _ _ _).trans rfl
set_option maxRecDepth 100000 in
theorem e57_2 (L d : Nat) (a1 : Nat) (x2 : Int32) (h : PH) : runL (g2 L) d 5 false none kc_57 2 [.ref 95, .ref a1, .int x2] [] h
  = if (nI 10) < x2 then some (none, h) else asr (okA (g2 L) h a1 24) (cI (exec (g2 L) d 32 [.ref a1, .int x2] h) fun r2 h1 => asr (inB x2 11) (runL (g2 L) d 5 false none kc_57 2 [.ref 95, .ref a1, .int (x2 + (nI 1))] [] (wI h1 159 (ix x2) r2))) := (runL_K [2] 18 _ _ _ _).trans rfl
set_option maxRecDepth 100000 in
theorem x57 (L d : Nat) (a1 : Nat) (h : PH) : exec (g2 L) (d + 1) 57 [.ref 95, .ref a1] h
  = runL (g2 L) d 5 false none kc_57 2 [.ref 95, .ref a1, .int (nI 0)] [] h := (exec_M (by rfl) _ _ rfl).trans (e57_0 L d a1 h)
