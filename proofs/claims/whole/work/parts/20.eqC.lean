-- PART: equations of the methods, printed by gen/geneq.py.
set_option maxRecDepth 100000 in
theorem e90_0 (L d : Nat) (x1 : Int32) (x2 : Int32) (x3 : Int32) (x4 : Int32) (x5 : Int32) (h : PH) : runL (g2 L) d 0 false (some .int) kc_90 0 [.ref 2, .int x1, .int x2, .int x3, .int x4, .int x5] [] h
  = if ((hI h 205 0) + (nI 20)) ≤ (nI 300) then cV (exec (g2 L) d 91 [.ref 205, .int x1] h) fun h1 => cV (exec (g2 L) d 91 [.ref 205, .int x2] h1) fun h2 => cV (exec (g2 L) d 91 [.ref 205, .int x3] h2) fun h3 => cV (exec (g2 L) d 91 [.ref 205, .int x4] h3) fun h4 => cV (exec (g2 L) d 91 [.ref 205, .int x5] h4) fun h5 => some (some (.int (hI h5 205 0)), h5) else some (some (.int m1), h) := (runL_K [] 38 _ _ _ _).trans rfl
set_option maxRecDepth 100000 in
theorem x90 (L d : Nat) (x1 : Int32) (x2 : Int32) (x3 : Int32) (x4 : Int32) (x5 : Int32) (h : PH) : exec (g2 L) (d + 1) 90 [.ref 2, .int x1, .int x2, .int x3, .int x4, .int x5] h
  = if ((hI h 205 0) + (nI 20)) ≤ (nI 300) then cV (exec (g2 L) d 91 [.ref 205, .int x1] h) fun h1 => cV (exec (g2 L) d 91 [.ref 205, .int x2] h1) fun h2 => cV (exec (g2 L) d 91 [.ref 205, .int x3] h2) fun h3 => cV (exec (g2 L) d 91 [.ref 205, .int x4] h3) fun h4 => cV (exec (g2 L) d 91 [.ref 205, .int x5] h4) fun h5 => some (some (.int (hI h5 205 0)), h5) else some (some (.int m1), h) := (exec_M (by rfl) _ _ rfl).trans (e90_0 L d x1 x2 x3 x4 x5 h)
set_option maxRecDepth 100000 in
theorem e91_0 (L d : Nat) (x1 : Int32) (h : PH) : runL (g2 L) d 7 false none kc_91 0 [.ref 205, .int x1, dm] [] h
  = runL (g2 L) d 7 false none kc_91 3 [.ref 205, .int x1, .int (nI 24)] [] h := (runL_K [3] 7 _ _ _ _).trans rfl
set_option maxRecDepth 100000 in
theorem e91_3 (L d : Nat) (x1 : Int32) (x2 : Int32) (h : PH) : runL (g2 L) d 7 false none kc_91 3 [.ref 205, .int x1, .int x2] [] h
  = if x2 < (nI 0) then some (none, h) else if (nI 300) ≤ (hI h 205 0) then some (none, h) else asr (inB (hI h 205 0) 300) (runL (g2 L) d 7 false none kc_91 3 [.ref 205, .int x1, .int (x2 + (Int32.ofInt (-8)))] [] (wI (wI h 206 (ix (hI h 205 0)) ((x1 >>> (x2 &&& nI 31)) &&& (nI 255))) 205 0 ((hI h 205 0) + (nI 1)))) := (runL_K [3] 31 _ _ _ _).trans rfl
set_option maxRecDepth 100000 in
theorem x91 (L d : Nat) (x1 : Int32) (h : PH) : exec (g2 L) (d + 1) 91 [.ref 205, .int x1] h
  = runL (g2 L) d 7 false none kc_91 3 [.ref 205, .int x1, .int (nI 24)] [] h := (exec_M (by rfl) _ _ rfl).trans (e91_0 L d x1 h)
set_option maxRecDepth 100000 in
theorem e92_0 (L d : Nat) (x1 : Int32) (h : PH) : runL (g2 L) d 0 false (some .int) kc_92 0 [.ref 2, .int x1] [] h
  = cI (exec (g2 L) d 18 [.int x1, .int (nI 0), .int (hI h 205 0)] h) fun r2 h1 => if r2 ≠ (nI 0) then some (some (.int x1), wI h1 205 0 x1) else some (some (.int m1), h1) := (runL_K [] 20 _ _ _ _).trans rfl
set_option maxRecDepth 100000 in
theorem x92 (L d : Nat) (x1 : Int32) (h : PH) : exec (g2 L) (d + 1) 92 [.ref 2, .int x1] h
  = cI (exec (g2 L) d 18 [.int x1, .int (nI 0), .int (hI h 205 0)] h) fun r2 h1 => if r2 ≠ (nI 0) then some (some (.int x1), wI h1 205 0 x1) else some (some (.int m1), h1) := (exec_M (by rfl) _ _ rfl).trans (e92_0 L d x1 h)
set_option maxRecDepth 100000 in
theorem e93_0 (L d : Nat)  (h : PH) : runL (g2 L) d 0 false (some .int) kc_93 0 [.ref 2, dm, dm] [] h
  = if (hI h 3 4) < (nI 4) then asr (inB (hI h 3 4) 4) (cI (exec (g2 L) d 94 [.ref 207, .ref (213 + 10 * (ix (hI h 3 4)))] h) fun r2 h1 => if r2 ≠ (nI 0) then some (some (.int (hI h 3 4)), wI (wI h1 205 0 (nI 0)) 3 4 ((hI h 3 4) + (nI 1))) else some (some (.int m1), wI h1 205 0 (nI 0))) else some (some (.int m1), h) := (runL_K [] 38 _ _ _ _).trans rfl
set_option maxRecDepth 100000 in
theorem x93 (L d : Nat)  (h : PH) : exec (g2 L) (d + 1) 93 [.ref 2] h
  = if (hI h 3 4) < (nI 4) then asr (inB (hI h 3 4) 4) (cI (exec (g2 L) d 94 [.ref 207, .ref (213 + 10 * (ix (hI h 3 4)))] h) fun r2 h1 => if r2 ≠ (nI 0) then some (some (.int (hI h 3 4)), wI (wI h1 205 0 (nI 0)) 3 4 ((hI h 3 4) + (nI 1))) else some (some (.int m1), wI h1 205 0 (nI 0))) else some (some (.int m1), h) := (exec_M (by rfl) _ _ rfl).trans (e93_0 L d  h)
set_option maxRecDepth 100000 in
theorem e94_0 (L d : Nat) (a1 : Nat) (h : PH) : runL (g2 L) d 8 false (some .boolean) kc_94 0 [.ref 207, .ref a1, dm] [] h
  = cV (exec (g2 L) d 95 [.ref 208] (wI (wI (wI h 207 0 (nI 1)) 207 1 (nI 0)) 207 2 m1)) fun h1 => asr (okA (g2 L) h1 a1 30) (cV (exec (g2 L) d 104 [.ref a1] (wR (wI (wI h1 207 4 (nI 0)) 207 5 (hI h1 209 (0))) 207 6 a1)) fun h2 => runL (g2 L) d 8 false (some .boolean) kc_94 54 [.ref 207, .ref a1, .int (nI 0)] [] h2) := (runL_K [54] 35 _ _ _ _).trans rfl
set_option maxRecDepth 100000 in
theorem e94_54 (L d : Nat) (a1 : Nat) (x2 : Int32) (h : PH) : runL (g2 L) d 8 false (some .boolean) kc_94 54 [.ref 207, .ref a1, .int x2] [] h
  = if (nI 12) < x2 then asr (okA (g2 L) h (hR h 207 6) 30) (cV (exec (g2 L) d 122 [.ref (hR h 207 6)] h) fun h1 => if (hI h1 207 1) ≠ (nI 0) then some (some (.int (nI 0)), h1) else some (some (.int (nI 1)), h1)) else if (hI h 207 1) ≠ (nI 0) then asr (okA (g2 L) h (hR h 207 6) 30) (cV (exec (g2 L) d 122 [.ref (hR h 207 6)] h) fun h2 => if (hI h2 207 1) ≠ (nI 0) then some (some (.int (nI 0)), h2) else some (some (.int (nI 1)), h2)) else if (hI h 207 5) = (nI 0) then asr (okA (g2 L) h (hR h 207 6) 30) (cV (exec (g2 L) d 122 [.ref (hR h 207 6)] h) fun h3 => if (hI h3 207 1) ≠ (nI 0) then some (some (.int (nI 0)), h3) else some (some (.int (nI 1)), h3)) else if (hI h 207 5) = (nI 3) then if x2 ≠ (nI 12) then cV (exec (g2 L) d 106 [.ref 207] h) fun h4 => runL (g2 L) d 8 false (some .boolean) kc_94 54 [.ref 207, .ref a1, .int (x2 + (nI 1))] [] h4 else cI (exec (g2 L) d 105 [.ref 207, .int (nI 4)] h) fun r6 h5 => runL (g2 L) d 8 false (some .boolean) kc_94 54 [.ref 207, .ref a1, .int (x2 + (nI 1))] [] h5 else if (hI h 207 5) = (nI 4) then if x2 ≠ (nI 12) then cV (exec (g2 L) d 106 [.ref 207] h) fun h7 => runL (g2 L) d 8 false (some .boolean) kc_94 54 [.ref 207, .ref a1, .int (x2 + (nI 1))] [] h7 else cI (exec (g2 L) d 105 [.ref 207, .int (nI 4)] h) fun r9 h8 => runL (g2 L) d 8 false (some .boolean) kc_94 54 [.ref 207, .ref a1, .int (x2 + (nI 1))] [] h8 else cI (exec (g2 L) d 105 [.ref 207, .int (nI 1)] h) fun r11 h10 => runL (g2 L) d 8 false (some .boolean) kc_94 54 [.ref 207, .ref a1, .int (x2 + (nI 1))] [] h10 := (runL_K [54] 90 _ _ _ _).trans rfl
set_option maxRecDepth 100000 in
theorem x94 (L d : Nat) (a1 : Nat) (h : PH) : exec (g2 L) (d + 1) 94 [.ref 207, .ref a1] h
  = cV (exec (g2 L) d 95 [.ref 208] (wI (wI (wI h 207 0 (nI 1)) 207 1 (nI 0)) 207 2 m1)) fun h1 => asr (okA (g2 L) h1 a1 30) (cV (exec (g2 L) d 104 [.ref a1] (wR (wI (wI h1 207 4 (nI 0)) 207 5 (hI h1 209 (0))) 207 6 a1)) fun h2 => runL (g2 L) d 8 false (some .boolean) kc_94 54 [.ref 207, .ref a1, .int (nI 0)] [] h2) := (exec_M (by rfl) _ _ rfl).trans (e94_0 L d a1 h)
set_option maxRecDepth 100000 in
theorem e95_0 (L d : Nat)  (h : PH) : runL (g2 L) d 9 false none kc_95 0 [.ref 208, dm] [] h
  = runL (g2 L) d 9 false none kc_95 29 [.ref 208, .int (nI 0)] [] (wI (wI (wI h 208 6 (if (nI 300) < (hI h 205 0) then (nI 300) else (hI h 205 0))) 208 7 (nI 0)) 208 3 (nI 0)) := (runL_K [29, 95] 20 _ _ _ _).trans rfl
set_option maxRecDepth 100000 in
theorem e95_29 (L d : Nat) (x1 : Int32) (h : PH) : runL (g2 L) d 9 false none kc_95 29 [.ref 208, .int x1] [] h
  = if (nI 300) ≤ x1 then runL (g2 L) d 9 false none kc_95 95 [.ref 208, .int x1] [] h else cI (exec (g2 L) d 96 [.ref 208] h) fun r2 h1 => if r2 = (nI 0) then runL (g2 L) d 9 false none kc_95 95 [.ref 208, .int x1] [] h1 else asr (inB (hI h1 208 3) 301) (asr (inB (hI h1 208 3) 301) (cI (exec (g2 L) d 97 [.ref 208] (wI (wI h1 210 (ix (hI h1 208 3)) (hI h1 208 7)) 211 (ix (hI h1 208 3)) (nI 0))) fun r4 h3 => asr (inB (hI h1 208 3) 301) (runL (g2 L) d 9 false none kc_95 29 [.ref 208, .int (x1 + (nI 1))] [] (wI (wI h3 209 (ix (hI h1 208 3)) r4) 208 3 ((hI h3 208 3) + (nI 1)))))) := (runL_K [29, 95] 39 _ _ _ _).trans rfl
set_option maxRecDepth 100000 in
theorem e95_95 (L d : Nat) (x1 : Int32) (h : PH) : runL (g2 L) d 9 false none kc_95 95 [.ref 208, .int x1] [] h
  = asr (inB (hI h 208 3) 301) (asr (inB (hI h 208 3) 301) (asr (inB (hI h 208 3) 301) (some (none, wI (wI (wI h 210 (ix (hI h 208 3)) (hI h 208 6)) 211 (ix (hI h 208 3)) (nI 0)) 209 (ix (hI h 208 3)) (nI 0))))) := (runL_K [29, 95] 25 _ _ _ _).trans rfl
set_option maxRecDepth 100000 in
theorem x95 (L d : Nat)  (h : PH) : exec (g2 L) (d + 1) 95 [.ref 208] h
  = runL (g2 L) d 9 false none kc_95 29 [.ref 208, .int (nI 0)] [] (wI (wI (wI h 208 6 (if (nI 300) < (hI h 205 0) then (nI 300) else (hI h 205 0))) 208 7 (nI 0)) 208 3 (nI 0)) := (exec_M (by rfl) _ _ rfl).trans (e95_0 L d  h)
set_option maxRecDepth 100000 in
theorem e96_0 (L d : Nat)  (h : PH) : runL (g2 L) d 9 false (some .boolean) kc_96 0 [.ref 208] [] h
  = if (hI h 208 6) ≤ (hI h 208 7) then if (hI h 208 6) ≤ (hI h 208 7) then some (some (.int (nI 0)), h) else some (some (.int (nI 1)), h) else asr (inB (hI h 208 7) 300) (if (hI h 206 (ix (hI h 208 7))) = (nI 32) then runL (g2 L) d 9 false (some .boolean) kc_96 0 [.ref 208] [] (wI h 208 7 ((hI h 208 7) + (nI 1))) else asr (inB (hI h 208 7) 300) (if (hI h 206 (ix (hI h 208 7))) ≠ (nI 10) then if (hI h 208 6) ≤ (hI h 208 7) then some (some (.int (nI 0)), h) else some (some (.int (nI 1)), h) else runL (g2 L) d 9 false (some .boolean) kc_96 0 [.ref 208] [] (wI h 208 7 ((hI h 208 7) + (nI 1))))) := (runL_K [0] 58 _ _ _ _).trans rfl
set_option maxRecDepth 100000 in
theorem x96 (L d : Nat)  (h : PH) : exec (g2 L) (d + 1) 96 [.ref 208] h
  = if (hI h 208 6) ≤ (hI h 208 7) then if (hI h 208 6) ≤ (hI h 208 7) then some (some (.int (nI 0)), h) else some (some (.int (nI 1)), h) else asr (inB (hI h 208 7) 300) (if (hI h 206 (ix (hI h 208 7))) = (nI 32) then runL (g2 L) d 9 false (some .boolean) kc_96 0 [.ref 208] [] (wI h 208 7 ((hI h 208 7) + (nI 1))) else asr (inB (hI h 208 7) 300) (if (hI h 206 (ix (hI h 208 7))) ≠ (nI 10) then if (hI h 208 6) ≤ (hI h 208 7) then some (some (.int (nI 0)), h) else some (some (.int (nI 1)), h) else runL (g2 L) d 9 false (some .boolean) kc_96 0 [.ref 208] [] (wI h 208 7 ((hI h 208 7) + (nI 1))))) := (exec_M (by rfl) _ _ rfl).trans (e96_0 L d  h)
set_option maxRecDepth 100000 in
theorem e97_0 (L d : Nat)  (h : PH) : runL (g2 L) d 9 false (some .int) kc_97 0 [.ref 208, dm, dm] [] h
  = asr (inB (hI h 208 7) 300) (cI (exec (g2 L) d 98 [.int (hI h 206 (ix (hI h 208 7)))] h) fun r2 h1 => if r2 = (nI 0) then cI (exec (g2 L) d 101 [.int (hI h 206 (ix (hI h 208 7)))] h1) fun r4 h3 => if r4 = (nI 0) then if (hI h3 208 6) ≤ ((hI h3 208 7) + (nI 1)) then runL (g2 L) d 9 false (some .int) kc_97 74 [.ref 208, .int (hI h 206 (ix (hI h 208 7))), dm] [.int (nI 0)] (wI h3 208 7 ((hI h3 208 7) + (nI 1))) else asr (inB ((hI h3 208 7) + (nI 1)) 300) (if (hI h3 206 (ix ((hI h3 208 7) + (nI 1)))) ≠ (nI 61) then runL (g2 L) d 9 false (some .int) kc_97 74 [.ref 208, .int (hI h 206 (ix (hI h 208 7))), dm] [.int (nI 0)] (wI h3 208 7 ((hI h3 208 7) + (nI 1))) else runL (g2 L) d 9 false (some .int) kc_97 74 [.ref 208, .int (hI h 206 (ix (hI h 208 7))), dm] [.int (nI 1)] (wI h3 208 7 ((hI h3 208 7) + (nI 1)))) else cI (exec (g2 L) d 102 [.ref 208] h3) fun r6 h5 => some (some (.int r6), h5) else cI (exec (g2 L) d 99 [.ref 208] h1) fun r8 h7 => some (some (.int r8), h7)) := (runL_K [74] 45 _ _ _ _).trans rfl
set_option maxRecDepth 100000 in
theorem e97_74 (L d : Nat) (x1 : Int32) (xs0 : Int32) (h : PH) : runL (g2 L) d 9 false (some .int) kc_97 74 [.ref 208, .int x1, dm] [.int xs0] h
  = if xs0 = (nI 0) then cI (exec (g2 L) d 103 [.int x1] h) fun r2 h1 => some (some (.int r2), h1) else if x1 = (nI 60) then if x1 ≠ (nI 60) then some (some (.int (nI 20)), wI h 208 7 ((hI h 208 7) + (nI 1))) else some (some (.int (nI 18)), wI h 208 7 ((hI h 208 7) + (nI 1))) else if x1 ≠ (nI 62) then cI (exec (g2 L) d 103 [.int x1] h) fun r4 h3 => some (some (.int r4), h3) else if x1 ≠ (nI 60) then some (some (.int (nI 20)), wI h 208 7 ((hI h 208 7) + (nI 1))) else some (some (.int (nI 18)), wI h 208 7 ((hI h 208 7) + (nI 1))) := (runL_K [74] 48 _ _ _ _).trans rfl
set_option maxRecDepth 100000 in
theorem x97 (L d : Nat)  (h : PH) : exec (g2 L) (d + 1) 97 [.ref 208] h
  = asr (inB (hI h 208 7) 300) (cI (exec (g2 L) d 98 [.int (hI h 206 (ix (hI h 208 7)))] h) fun r2 h1 => if r2 = (nI 0) then cI (exec (g2 L) d 101 [.int (hI h 206 (ix (hI h 208 7)))] h1) fun r4 h3 => if r4 = (nI 0) then if (hI h3 208 6) ≤ ((hI h3 208 7) + (nI 1)) then runL (g2 L) d 9 false (some .int) kc_97 74 [.ref 208, .int (hI h 206 (ix (hI h 208 7))), dm] [.int (nI 0)] (wI h3 208 7 ((hI h3 208 7) + (nI 1))) else asr (inB ((hI h3 208 7) + (nI 1)) 300) (if (hI h3 206 (ix ((hI h3 208 7) + (nI 1)))) ≠ (nI 61) then runL (g2 L) d 9 false (some .int) kc_97 74 [.ref 208, .int (hI h 206 (ix (hI h 208 7))), dm] [.int (nI 0)] (wI h3 208 7 ((hI h3 208 7) + (nI 1))) else runL (g2 L) d 9 false (some .int) kc_97 74 [.ref 208, .int (hI h 206 (ix (hI h 208 7))), dm] [.int (nI 1)] (wI h3 208 7 ((hI h3 208 7) + (nI 1)))) else cI (exec (g2 L) d 102 [.ref 208] h3) fun r6 h5 => some (some (.int r6), h5) else cI (exec (g2 L) d 99 [.ref 208] h1) fun r8 h7 => some (some (.int r8), h7)) := (exec_M (by rfl) _ _ rfl).trans (e97_0 L d  h)
set_option maxRecDepth 100000 in
theorem e98_0 (L d : Nat) (x0 : Int32) (h : PH) : runL (g2 L) d 9 false (some .boolean) kc_98 0 [.int x0] [] h
  = if x0 < (nI 97) then if x0 < (nI 65) then some (some (.int (nI 0)), h) else if (nI 90) < x0 then some (some (.int (nI 0)), h) else some (some (.int (nI 1)), h) else if x0 ≤ (nI 122) then some (some (.int (nI 1)), h) else if x0 < (nI 65) then some (some (.int (nI 0)), h) else if (nI 90) < x0 then some (some (.int (nI 0)), h) else some (some (.int (nI 1)), h) := (runL_K [] 40 _ _ _ _).trans rfl
set_option maxRecDepth 100000 in
theorem x98 (L d : Nat) (x0 : Int32) (h : PH) : exec (g2 L) (d + 1) 98 [.int x0] h
  = if x0 < (nI 97) then if x0 < (nI 65) then some (some (.int (nI 0)), h) else if (nI 90) < x0 then some (some (.int (nI 0)), h) else some (some (.int (nI 1)), h) else if x0 ≤ (nI 122) then some (some (.int (nI 1)), h) else if x0 < (nI 65) then some (some (.int (nI 0)), h) else if (nI 90) < x0 then some (some (.int (nI 0)), h) else some (some (.int (nI 1)), h) := (exec_M (by rfl) _ _ rfl).trans (e98_0 L d x0 h)
set_option maxRecDepth 100000 in
theorem e99_0 (L d : Nat)  (h : PH) : runL (g2 L) d 9 false (some .int) kc_99 0 [.ref 208] [] h
  = if (hI h 208 6) ≤ (hI h 208 7) then runL (g2 L) d 9 false (some .int) kc_99 39 [.ref 208] [] h else asr (inB (hI h 208 7) 300) (cI (exec (g2 L) d 98 [.int (hI h 206 (ix (hI h 208 7)))] h) fun r2 h1 => if r2 = (nI 0) then runL (g2 L) d 9 false (some .int) kc_99 39 [.ref 208] [] h1 else runL (g2 L) d 9 false (some .int) kc_99 0 [.ref 208] [] (wI h1 208 7 ((hI h1 208 7) + (nI 1)))) := (runL_K [0, 39] 24 _ _ _ _).trans rfl
set_option maxRecDepth 100000 in
theorem e99_39 (L d : Nat)  (h : PH) : runL (g2 L) d 9 false (some .int) kc_99 39 [.ref 208] [] h
  = cI (exec (g2 L) d 100 [.ref 208, .retAddr 0] h) fun r2 h1 => if r2 = (nI 0) then cI (exec (g2 L) d 100 [.ref 208, .retAddr 1] h1) fun r4 h3 => if r4 = (nI 0) then cI (exec (g2 L) d 100 [.ref 208, .retAddr 2] h3) fun r6 h5 => if r6 = (nI 0) then cI (exec (g2 L) d 100 [.ref 208, .retAddr 3] h5) fun r8 h7 => if r8 = (nI 0) then cI (exec (g2 L) d 100 [.ref 208, .retAddr 4] h7) fun r10 h9 => if r10 = (nI 0) then cI (exec (g2 L) d 100 [.ref 208, .retAddr 5] h9) fun r12 h11 => if r12 = (nI 0) then cI (exec (g2 L) d 100 [.ref 208, .retAddr 6] h11) fun r14 h13 => if r14 = (nI 0) then cI (exec (g2 L) d 100 [.ref 208, .retAddr 7] h13) fun r16 h15 => if r16 = (nI 0) then cI (exec (g2 L) d 100 [.ref 208, .retAddr 8] h15) fun r18 h17 => if r18 = (nI 0) then cI (exec (g2 L) d 100 [.ref 208, .retAddr 9] h17) fun r20 h19 => if r20 = (nI 0) then cI (exec (g2 L) d 100 [.ref 208, .retAddr 10] h19) fun r22 h21 => if r22 = (nI 0) then some (some (.int (nI 1)), h21) else some (some (.int (nI 16)), h21) else some (some (.int (nI 15)), h19) else some (some (.int (nI 14)), h17) else some (some (.int (nI 13)), h15) else some (some (.int (nI 12)), h13) else some (some (.int (nI 11)), h11) else some (some (.int (nI 10)), h9) else some (some (.int (nI 9)), h7) else some (some (.int (nI 5)), h5) else some (some (.int (nI 4)), h3) else some (some (.int (nI 3)), h1) := (runL_K [0, 39] 73 _ _ _ _).trans rfl
set_option maxRecDepth 100000 in
theorem x99 (L d : Nat)  (h : PH) : exec (g2 L) (d + 1) 99 [.ref 208] h
  = if (hI h 208 6) ≤ (hI h 208 7) then runL (g2 L) d 9 false (some .int) kc_99 39 [.ref 208] [] h else asr (inB (hI h 208 7) 300) (cI (exec (g2 L) d 98 [.int (hI h 206 (ix (hI h 208 7)))] h) fun r2 h1 => if r2 = (nI 0) then runL (g2 L) d 9 false (some .int) kc_99 39 [.ref 208] [] h1 else runL (g2 L) d 9 false (some .int) kc_99 0 [.ref 208] [] (wI h1 208 7 ((hI h1 208 7) + (nI 1)))) := (exec_M (by rfl) _ _ rfl).trans (e99_0 L d  h)
set_option maxRecDepth 100000 in
theorem e100_0s0 (L d : Nat)  (h : PH) : runL (g2 L) d 9 false (some .boolean) kc_100 0 [.ref 208, .retAddr 0, dm, dm] [] h
  = asr (inB (hI h 208 3) 301) (if (nI 4) = ((hI h 208 7) - (hI h 210 (ix (hI h 208 3)))) then runL (g2 L) d 9 false (some .boolean) kc_100 27 [.ref 208, .retAddr 0, .int (hI h 210 (ix (hI h 208 3))), .int (nI 0)] [] h else some (some (.int (nI 0)), h)) := (runL_K [27] 22 _ _ _ _).trans rfl
set_option maxRecDepth 100000 in
theorem e100_27s0 (L d : Nat) (x2 : Int32) (x3 : Int32) (h : PH) : runL (g2 L) d 9 false (some .boolean) kc_100 27 [.ref 208, .retAddr 0, .int x2, .int x3] [] h
  = if (nI 4) ≤ x3 then some (some (.int (nI 1)), h) else asr (inB x3 4) (asr (inB (x2 + x3) 300) (if (schr 0 (ix x3)) = (hI h 206 (ix (x2 + x3))) then runL (g2 L) d 9 false (some .boolean) kc_100 27 [.ref 208, .retAddr 0, .int x2, .int (x3 + (nI 1))] [] h else some (some (.int (nI 0)), h))) := (runL_K [27] 25 _ _ _ _).trans rfl
set_option maxRecDepth 100000 in
theorem x100s0 (L d : Nat)  (h : PH) : exec (g2 L) (d + 1) 100 [.ref 208, .retAddr 0] h
  = asr (inB (hI h 208 3) 301) (if (nI 4) = ((hI h 208 7) - (hI h 210 (ix (hI h 208 3)))) then runL (g2 L) d 9 false (some .boolean) kc_100 27 [.ref 208, .retAddr 0, .int (hI h 210 (ix (hI h 208 3))), .int (nI 0)] [] h else some (some (.int (nI 0)), h)) := (exec_M (by rfl) _ _ rfl).trans (e100_0s0 L d  h)
set_option maxRecDepth 100000 in
theorem e100_0s1 (L d : Nat)  (h : PH) : runL (g2 L) d 9 false (some .boolean) kc_100 0 [.ref 208, .retAddr 1, dm, dm] [] h
  = asr (inB (hI h 208 3) 301) (if (nI 4) = ((hI h 208 7) - (hI h 210 (ix (hI h 208 3)))) then runL (g2 L) d 9 false (some .boolean) kc_100 27 [.ref 208, .retAddr 1, .int (hI h 210 (ix (hI h 208 3))), .int (nI 0)] [] h else some (some (.int (nI 0)), h)) := (runL_K [27] 22 _ _ _ _).trans rfl
set_option maxRecDepth 100000 in
theorem e100_27s1 (L d : Nat) (x2 : Int32) (x3 : Int32) (h : PH) : runL (g2 L) d 9 false (some .boolean) kc_100 27 [.ref 208, .retAddr 1, .int x2, .int x3] [] h
  = if (nI 4) ≤ x3 then some (some (.int (nI 1)), h) else asr (inB x3 4) (asr (inB (x2 + x3) 300) (if (schr 1 (ix x3)) = (hI h 206 (ix (x2 + x3))) then runL (g2 L) d 9 false (some .boolean) kc_100 27 [.ref 208, .retAddr 1, .int x2, .int (x3 + (nI 1))] [] h else some (some (.int (nI 0)), h))) := (runL_K [27] 25 _ _ _ _).trans rfl
set_option maxRecDepth 100000 in
theorem x100s1 (L d : Nat)  (h : PH) : exec (g2 L) (d + 1) 100 [.ref 208, .retAddr 1] h
  = asr (inB (hI h 208 3) 301) (if (nI 4) = ((hI h 208 7) - (hI h 210 (ix (hI h 208 3)))) then runL (g2 L) d 9 false (some .boolean) kc_100 27 [.ref 208, .retAddr 1, .int (hI h 210 (ix (hI h 208 3))), .int (nI 0)] [] h else some (some (.int (nI 0)), h)) := (exec_M (by rfl) _ _ rfl).trans (e100_0s1 L d  h)
set_option maxRecDepth 100000 in
theorem e100_0s2 (L d : Nat)  (h : PH) : runL (g2 L) d 9 false (some .boolean) kc_100 0 [.ref 208, .retAddr 2, dm, dm] [] h
  = asr (inB (hI h 208 3) 301) (if (nI 4) = ((hI h 208 7) - (hI h 210 (ix (hI h 208 3)))) then runL (g2 L) d 9 false (some .boolean) kc_100 27 [.ref 208, .retAddr 2, .int (hI h 210 (ix (hI h 208 3))), .int (nI 0)] [] h else some (some (.int (nI 0)), h)) := (runL_K [27] 22 _ _ _ _).trans rfl
set_option maxRecDepth 100000 in
theorem e100_27s2 (L d : Nat) (x2 : Int32) (x3 : Int32) (h : PH) : runL (g2 L) d 9 false (some .boolean) kc_100 27 [.ref 208, .retAddr 2, .int x2, .int x3] [] h
  = if (nI 4) ≤ x3 then some (some (.int (nI 1)), h) else asr (inB x3 4) (asr (inB (x2 + x3) 300) (if (schr 2 (ix x3)) = (hI h 206 (ix (x2 + x3))) then runL (g2 L) d 9 false (some .boolean) kc_100 27 [.ref 208, .retAddr 2, .int x2, .int (x3 + (nI 1))] [] h else some (some (.int (nI 0)), h))) := (runL_K [27] 25 _ _ _ _).trans rfl
set_option maxRecDepth 100000 in
theorem x100s2 (L d : Nat)  (h : PH) : exec (g2 L) (d + 1) 100 [.ref 208, .retAddr 2] h
  = asr (inB (hI h 208 3) 301) (if (nI 4) = ((hI h 208 7) - (hI h 210 (ix (hI h 208 3)))) then runL (g2 L) d 9 false (some .boolean) kc_100 27 [.ref 208, .retAddr 2, .int (hI h 210 (ix (hI h 208 3))), .int (nI 0)] [] h else some (some (.int (nI 0)), h)) := (exec_M (by rfl) _ _ rfl).trans (e100_0s2 L d  h)
set_option maxRecDepth 100000 in
theorem e100_0s3 (L d : Nat)  (h : PH) : runL (g2 L) d 9 false (some .boolean) kc_100 0 [.ref 208, .retAddr 3, dm, dm] [] h
  = asr (inB (hI h 208 3) 301) (if (nI 2) = ((hI h 208 7) - (hI h 210 (ix (hI h 208 3)))) then runL (g2 L) d 9 false (some .boolean) kc_100 27 [.ref 208, .retAddr 3, .int (hI h 210 (ix (hI h 208 3))), .int (nI 0)] [] h else some (some (.int (nI 0)), h)) := (runL_K [27] 22 _ _ _ _).trans rfl
set_option maxRecDepth 100000 in
theorem e100_27s3 (L d : Nat) (x2 : Int32) (x3 : Int32) (h : PH) : runL (g2 L) d 9 false (some .boolean) kc_100 27 [.ref 208, .retAddr 3, .int x2, .int x3] [] h
  = if (nI 2) ≤ x3 then some (some (.int (nI 1)), h) else asr (inB x3 2) (asr (inB (x2 + x3) 300) (if (schr 3 (ix x3)) = (hI h 206 (ix (x2 + x3))) then runL (g2 L) d 9 false (some .boolean) kc_100 27 [.ref 208, .retAddr 3, .int x2, .int (x3 + (nI 1))] [] h else some (some (.int (nI 0)), h))) := (runL_K [27] 25 _ _ _ _).trans rfl
set_option maxRecDepth 100000 in
theorem x100s3 (L d : Nat)  (h : PH) : exec (g2 L) (d + 1) 100 [.ref 208, .retAddr 3] h
  = asr (inB (hI h 208 3) 301) (if (nI 2) = ((hI h 208 7) - (hI h 210 (ix (hI h 208 3)))) then runL (g2 L) d 9 false (some .boolean) kc_100 27 [.ref 208, .retAddr 3, .int (hI h 210 (ix (hI h 208 3))), .int (nI 0)] [] h else some (some (.int (nI 0)), h)) := (exec_M (by rfl) _ _ rfl).trans (e100_0s3 L d  h)
set_option maxRecDepth 100000 in
theorem e100_0s4 (L d : Nat)  (h : PH) : runL (g2 L) d 9 false (some .boolean) kc_100 0 [.ref 208, .retAddr 4, dm, dm] [] h
  = asr (inB (hI h 208 3) 301) (if (nI 3) = ((hI h 208 7) - (hI h 210 (ix (hI h 208 3)))) then runL (g2 L) d 9 false (some .boolean) kc_100 27 [.ref 208, .retAddr 4, .int (hI h 210 (ix (hI h 208 3))), .int (nI 0)] [] h else some (some (.int (nI 0)), h)) := (runL_K [27] 22 _ _ _ _).trans rfl
set_option maxRecDepth 100000 in
theorem e100_27s4 (L d : Nat) (x2 : Int32) (x3 : Int32) (h : PH) : runL (g2 L) d 9 false (some .boolean) kc_100 27 [.ref 208, .retAddr 4, .int x2, .int x3] [] h
  = if (nI 3) ≤ x3 then some (some (.int (nI 1)), h) else asr (inB x3 3) (asr (inB (x2 + x3) 300) (if (schr 4 (ix x3)) = (hI h 206 (ix (x2 + x3))) then runL (g2 L) d 9 false (some .boolean) kc_100 27 [.ref 208, .retAddr 4, .int x2, .int (x3 + (nI 1))] [] h else some (some (.int (nI 0)), h))) := (runL_K [27] 25 _ _ _ _).trans rfl
set_option maxRecDepth 100000 in
theorem x100s4 (L d : Nat)  (h : PH) : exec (g2 L) (d + 1) 100 [.ref 208, .retAddr 4] h
  = asr (inB (hI h 208 3) 301) (if (nI 3) = ((hI h 208 7) - (hI h 210 (ix (hI h 208 3)))) then runL (g2 L) d 9 false (some .boolean) kc_100 27 [.ref 208, .retAddr 4, .int (hI h 210 (ix (hI h 208 3))), .int (nI 0)] [] h else some (some (.int (nI 0)), h)) := (exec_M (by rfl) _ _ rfl).trans (e100_0s4 L d  h)
set_option maxRecDepth 100000 in
theorem e100_0s5 (L d : Nat)  (h : PH) : runL (g2 L) d 9 false (some .boolean) kc_100 0 [.ref 208, .retAddr 5, dm, dm] [] h
  = asr (inB (hI h 208 3) 301) (if (nI 3) = ((hI h 208 7) - (hI h 210 (ix (hI h 208 3)))) then runL (g2 L) d 9 false (some .boolean) kc_100 27 [.ref 208, .retAddr 5, .int (hI h 210 (ix (hI h 208 3))), .int (nI 0)] [] h else some (some (.int (nI 0)), h)) := (runL_K [27] 22 _ _ _ _).trans rfl
set_option maxRecDepth 100000 in
theorem e100_27s5 (L d : Nat) (x2 : Int32) (x3 : Int32) (h : PH) : runL (g2 L) d 9 false (some .boolean) kc_100 27 [.ref 208, .retAddr 5, .int x2, .int x3] [] h
  = if (nI 3) ≤ x3 then some (some (.int (nI 1)), h) else asr (inB x3 3) (asr (inB (x2 + x3) 300) (if (schr 5 (ix x3)) = (hI h 206 (ix (x2 + x3))) then runL (g2 L) d 9 false (some .boolean) kc_100 27 [.ref 208, .retAddr 5, .int x2, .int (x3 + (nI 1))] [] h else some (some (.int (nI 0)), h))) := (runL_K [27] 25 _ _ _ _).trans rfl
set_option maxRecDepth 100000 in
theorem x100s5 (L d : Nat)  (h : PH) : exec (g2 L) (d + 1) 100 [.ref 208, .retAddr 5] h
  = asr (inB (hI h 208 3) 301) (if (nI 3) = ((hI h 208 7) - (hI h 210 (ix (hI h 208 3)))) then runL (g2 L) d 9 false (some .boolean) kc_100 27 [.ref 208, .retAddr 5, .int (hI h 210 (ix (hI h 208 3))), .int (nI 0)] [] h else some (some (.int (nI 0)), h)) := (exec_M (by rfl) _ _ rfl).trans (e100_0s5 L d  h)
set_option maxRecDepth 100000 in
theorem e100_0s6 (L d : Nat)  (h : PH) : runL (g2 L) d 9 false (some .boolean) kc_100 0 [.ref 208, .retAddr 6, dm, dm] [] h
  = asr (inB (hI h 208 3) 301) (if (nI 6) = ((hI h 208 7) - (hI h 210 (ix (hI h 208 3)))) then runL (g2 L) d 9 false (some .boolean) kc_100 27 [.ref 208, .retAddr 6, .int (hI h 210 (ix (hI h 208 3))), .int (nI 0)] [] h else some (some (.int (nI 0)), h)) := (runL_K [27] 22 _ _ _ _).trans rfl
set_option maxRecDepth 100000 in
theorem e100_27s6 (L d : Nat) (x2 : Int32) (x3 : Int32) (h : PH) : runL (g2 L) d 9 false (some .boolean) kc_100 27 [.ref 208, .retAddr 6, .int x2, .int x3] [] h
  = if (nI 6) ≤ x3 then some (some (.int (nI 1)), h) else asr (inB x3 6) (asr (inB (x2 + x3) 300) (if (schr 6 (ix x3)) = (hI h 206 (ix (x2 + x3))) then runL (g2 L) d 9 false (some .boolean) kc_100 27 [.ref 208, .retAddr 6, .int x2, .int (x3 + (nI 1))] [] h else some (some (.int (nI 0)), h))) := (runL_K [27] 25 _ _ _ _).trans rfl
set_option maxRecDepth 100000 in
theorem x100s6 (L d : Nat)  (h : PH) : exec (g2 L) (d + 1) 100 [.ref 208, .retAddr 6] h
  = asr (inB (hI h 208 3) 301) (if (nI 6) = ((hI h 208 7) - (hI h 210 (ix (hI h 208 3)))) then runL (g2 L) d 9 false (some .boolean) kc_100 27 [.ref 208, .retAddr 6, .int (hI h 210 (ix (hI h 208 3))), .int (nI 0)] [] h else some (some (.int (nI 0)), h)) := (exec_M (by rfl) _ _ rfl).trans (e100_0s6 L d  h)
set_option maxRecDepth 100000 in
theorem e100_0s7 (L d : Nat)  (h : PH) : runL (g2 L) d 9 false (some .boolean) kc_100 0 [.ref 208, .retAddr 7, dm, dm] [] h
  = asr (inB (hI h 208 3) 301) (if (nI 4) = ((hI h 208 7) - (hI h 210 (ix (hI h 208 3)))) then runL (g2 L) d 9 false (some .boolean) kc_100 27 [.ref 208, .retAddr 7, .int (hI h 210 (ix (hI h 208 3))), .int (nI 0)] [] h else some (some (.int (nI 0)), h)) := (runL_K [27] 22 _ _ _ _).trans rfl
set_option maxRecDepth 100000 in
theorem e100_27s7 (L d : Nat) (x2 : Int32) (x3 : Int32) (h : PH) : runL (g2 L) d 9 false (some .boolean) kc_100 27 [.ref 208, .retAddr 7, .int x2, .int x3] [] h
  = if (nI 4) ≤ x3 then some (some (.int (nI 1)), h) else asr (inB x3 4) (asr (inB (x2 + x3) 300) (if (schr 7 (ix x3)) = (hI h 206 (ix (x2 + x3))) then runL (g2 L) d 9 false (some .boolean) kc_100 27 [.ref 208, .retAddr 7, .int x2, .int (x3 + (nI 1))] [] h else some (some (.int (nI 0)), h))) := (runL_K [27] 25 _ _ _ _).trans rfl
set_option maxRecDepth 100000 in
theorem x100s7 (L d : Nat)  (h : PH) : exec (g2 L) (d + 1) 100 [.ref 208, .retAddr 7] h
  = asr (inB (hI h 208 3) 301) (if (nI 4) = ((hI h 208 7) - (hI h 210 (ix (hI h 208 3)))) then runL (g2 L) d 9 false (some .boolean) kc_100 27 [.ref 208, .retAddr 7, .int (hI h 210 (ix (hI h 208 3))), .int (nI 0)] [] h else some (some (.int (nI 0)), h)) := (exec_M (by rfl) _ _ rfl).trans (e100_0s7 L d  h)
set_option maxRecDepth 100000 in
theorem e100_0s8 (L d : Nat)  (h : PH) : runL (g2 L) d 9 false (some .boolean) kc_100 0 [.ref 208, .retAddr 8, dm, dm] [] h
  = asr (inB (hI h 208 3) 301) (if (nI 5) = ((hI h 208 7) - (hI h 210 (ix (hI h 208 3)))) then runL (g2 L) d 9 false (some .boolean) kc_100 27 [.ref 208, .retAddr 8, .int (hI h 210 (ix (hI h 208 3))), .int (nI 0)] [] h else some (some (.int (nI 0)), h)) := (runL_K [27] 22 _ _ _ _).trans rfl
set_option maxRecDepth 100000 in
theorem e100_27s8 (L d : Nat) (x2 : Int32) (x3 : Int32) (h : PH) : runL (g2 L) d 9 false (some .boolean) kc_100 27 [.ref 208, .retAddr 8, .int x2, .int x3] [] h
  = if (nI 5) ≤ x3 then some (some (.int (nI 1)), h) else asr (inB x3 5) (asr (inB (x2 + x3) 300) (if (schr 8 (ix x3)) = (hI h 206 (ix (x2 + x3))) then runL (g2 L) d 9 false (some .boolean) kc_100 27 [.ref 208, .retAddr 8, .int x2, .int (x3 + (nI 1))] [] h else some (some (.int (nI 0)), h))) := (runL_K [27] 25 _ _ _ _).trans rfl
set_option maxRecDepth 100000 in
theorem x100s8 (L d : Nat)  (h : PH) : exec (g2 L) (d + 1) 100 [.ref 208, .retAddr 8] h
  = asr (inB (hI h 208 3) 301) (if (nI 5) = ((hI h 208 7) - (hI h 210 (ix (hI h 208 3)))) then runL (g2 L) d 9 false (some .boolean) kc_100 27 [.ref 208, .retAddr 8, .int (hI h 210 (ix (hI h 208 3))), .int (nI 0)] [] h else some (some (.int (nI 0)), h)) := (exec_M (by rfl) _ _ rfl).trans (e100_0s8 L d  h)
set_option maxRecDepth 100000 in
theorem e100_0s9 (L d : Nat)  (h : PH) : runL (g2 L) d 9 false (some .boolean) kc_100 0 [.ref 208, .retAddr 9, dm, dm] [] h
  = asr (inB (hI h 208 3) 301) (if (nI 3) = ((hI h 208 7) - (hI h 210 (ix (hI h 208 3)))) then runL (g2 L) d 9 false (some .boolean) kc_100 27 [.ref 208, .retAddr 9, .int (hI h 210 (ix (hI h 208 3))), .int (nI 0)] [] h else some (some (.int (nI 0)), h)) := (runL_K [27] 22 _ _ _ _).trans rfl
set_option maxRecDepth 100000 in
theorem e100_27s9 (L d : Nat) (x2 : Int32) (x3 : Int32) (h : PH) : runL (g2 L) d 9 false (some .boolean) kc_100 27 [.ref 208, .retAddr 9, .int x2, .int x3] [] h
  = if (nI 3) ≤ x3 then some (some (.int (nI 1)), h) else asr (inB x3 3) (asr (inB (x2 + x3) 300) (if (schr 9 (ix x3)) = (hI h 206 (ix (x2 + x3))) then runL (g2 L) d 9 false (some .boolean) kc_100 27 [.ref 208, .retAddr 9, .int x2, .int (x3 + (nI 1))] [] h else some (some (.int (nI 0)), h))) := (runL_K [27] 25 _ _ _ _).trans rfl
set_option maxRecDepth 100000 in
theorem x100s9 (L d : Nat)  (h : PH) : exec (g2 L) (d + 1) 100 [.ref 208, .retAddr 9] h
  = asr (inB (hI h 208 3) 301) (if (nI 3) = ((hI h 208 7) - (hI h 210 (ix (hI h 208 3)))) then runL (g2 L) d 9 false (some .boolean) kc_100 27 [.ref 208, .retAddr 9, .int (hI h 210 (ix (hI h 208 3))), .int (nI 0)] [] h else some (some (.int (nI 0)), h)) := (exec_M (by rfl) _ _ rfl).trans (e100_0s9 L d  h)
set_option maxRecDepth 100000 in
theorem e100_0s10 (L d : Nat)  (h : PH) : runL (g2 L) d 9 false (some .boolean) kc_100 0 [.ref 208, .retAddr 10, dm, dm] [] h
  = asr (inB (hI h 208 3) 301) (if (nI 4) = ((hI h 208 7) - (hI h 210 (ix (hI h 208 3)))) then runL (g2 L) d 9 false (some .boolean) kc_100 27 [.ref 208, .retAddr 10, .int (hI h 210 (ix (hI h 208 3))), .int (nI 0)] [] h else some (some (.int (nI 0)), h)) := (runL_K [27] 22 _ _ _ _).trans rfl
set_option maxRecDepth 100000 in
theorem e100_27s10 (L d : Nat) (x2 : Int32) (x3 : Int32) (h : PH) : runL (g2 L) d 9 false (some .boolean) kc_100 27 [.ref 208, .retAddr 10, .int x2, .int x3] [] h
  = if (nI 4) ≤ x3 then some (some (.int (nI 1)), h) else asr (inB x3 4) (asr (inB (x2 + x3) 300) (if (schr 10 (ix x3)) = (hI h 206 (ix (x2 + x3))) then runL (g2 L) d 9 false (some .boolean) kc_100 27 [.ref 208, .retAddr 10, .int x2, .int (x3 + (nI 1))] [] h else some (some (.int (nI 0)), h))) := (runL_K [27] 25 _ _ _ _).trans rfl
set_option maxRecDepth 100000 in
theorem x100s10 (L d : Nat)  (h : PH) : exec (g2 L) (d + 1) 100 [.ref 208, .retAddr 10] h
  = asr (inB (hI h 208 3) 301) (if (nI 4) = ((hI h 208 7) - (hI h 210 (ix (hI h 208 3)))) then runL (g2 L) d 9 false (some .boolean) kc_100 27 [.ref 208, .retAddr 10, .int (hI h 210 (ix (hI h 208 3))), .int (nI 0)] [] h else some (some (.int (nI 0)), h)) := (exec_M (by rfl) _ _ rfl).trans (e100_0s10 L d  h)
set_option maxRecDepth 100000 in
theorem e101_0 (L d : Nat) (x0 : Int32) (h : PH) : runL (g2 L) d 9 false (some .boolean) kc_101 0 [.int x0] [] h
  = if x0 < (nI 48) then some (some (.int (nI 0)), h) else if (nI 57) < x0 then some (some (.int (nI 0)), h) else some (some (.int (nI 1)), h) := (runL_K [] 18 _ _ _ _).trans rfl
set_option maxRecDepth 100000 in
theorem x101 (L d : Nat) (x0 : Int32) (h : PH) : exec (g2 L) (d + 1) 101 [.int x0] h
  = if x0 < (nI 48) then some (some (.int (nI 0)), h) else if (nI 57) < x0 then some (some (.int (nI 0)), h) else some (some (.int (nI 1)), h) := (exec_M (by rfl) _ _ rfl).trans (e101_0 L d x0 h)
set_option maxRecDepth 100000 in
theorem e102_0 (L d : Nat)  (h : PH) : runL (g2 L) d 9 false (some .int) kc_102 0 [.ref 208, dm] [] h
  = runL (g2 L) d 9 false (some .int) kc_102 2 [.ref 208, .int (nI 0)] [] h := (runL_K [2] 7 _ _ _ _).trans rfl
set_option maxRecDepth 100000 in
theorem e102_2 (L d : Nat) (x1 : Int32) (h : PH) : runL (g2 L) d 9 false (some .int) kc_102 2 [.ref 208, .int x1] [] h
  = if (hI h 208 6) ≤ (hI h 208 7) then asr (inB (hI h 208 3) 301) (some (some (.int (nI 2)), wI h 211 (ix (hI h 208 3)) x1)) else asr (inB (hI h 208 7) 300) (cI (exec (g2 L) d 101 [.int (hI h 206 (ix (hI h 208 7)))] h) fun r2 h1 => if r2 = (nI 0) then asr (inB (hI h1 208 3) 301) (some (some (.int (nI 2)), wI h1 211 (ix (hI h1 208 3)) x1)) else asr (inB (hI h1 208 7) 300) (runL (g2 L) d 9 false (some .int) kc_102 2 [.ref 208, .int (if (((x1 * (nI 10)) + (hI h1 206 (ix (hI h1 208 7)))) - (nI 48)) < (nI 10000) then (((x1 * (nI 10)) + (hI h1 206 (ix (hI h1 208 7)))) - (nI 48)) else (nI 10000))] [] (wI h1 208 7 ((hI h1 208 7) + (nI 1))))) := (runL_K [2] 54 _ _ _ _).trans rfl
set_option maxRecDepth 100000 in
theorem x102 (L d : Nat)  (h : PH) : exec (g2 L) (d + 1) 102 [.ref 208] h
  = runL (g2 L) d 9 false (some .int) kc_102 2 [.ref 208, .int (nI 0)] [] h := (exec_M (by rfl) _ _ rfl).trans (e102_0 L d  h)
set_option maxRecDepth 100000 in
theorem e103_0 (L d : Nat) (x0 : Int32) (h : PH) : runL (g2 L) d 9 false (some .int) kc_103 0 [.int x0] [] h
  = if x0 = (nI 35) then some (some (.int (nI 22)), h) else if x0 = (nI 36) then some (some (.int (nI 1)), h) else if x0 = (nI 37) then some (some (.int (nI 27)), h) else if x0 = (nI 38) then some (some (.int (nI 1)), h) else if x0 = (nI 39) then some (some (.int (nI 1)), h) else if x0 = (nI 40) then some (some (.int (nI 6)), h) else if x0 = (nI 41) then some (some (.int (nI 7)), h) else if x0 = (nI 42) then some (some (.int (nI 25)), h) else if x0 = (nI 43) then some (some (.int (nI 23)), h) else if x0 = (nI 44) then some (some (.int (nI 1)), h) else if x0 = (nI 45) then some (some (.int (nI 24)), h) else if x0 = (nI 46) then some (some (.int (nI 1)), h) else if x0 = (nI 47) then some (some (.int (nI 26)), h) else if x0 = (nI 48) then some (some (.int (nI 1)), h) else if x0 = (nI 49) then some (some (.int (nI 1)), h) else if x0 = (nI 50) then some (some (.int (nI 1)), h) else if x0 = (nI 51) then some (some (.int (nI 1)), h) else if x0 = (nI 52) then some (some (.int (nI 1)), h) else if x0 = (nI 53) then some (some (.int (nI 1)), h) else if x0 = (nI 54) then some (some (.int (nI 1)), h) else if x0 = (nI 55) then some (some (.int (nI 1)), h) else if x0 = (nI 56) then some (some (.int (nI 1)), h) else if x0 = (nI 57) then some (some (.int (nI 1)), h) else if x0 = (nI 58) then some (some (.int (nI 1)), h) else if x0 = (nI 59) then some (some (.int (nI 8)), h) else if x0 = (nI 60) then some (some (.int (nI 17)), h) else if x0 = (nI 61) then some (some (.int (nI 21)), h) else if x0 = (nI 62) then some (some (.int (nI 19)), h) else some (some (.int (nI 1)), h) := (runL_K [] 33 _ _ _ _).trans rfl
set_option maxRecDepth 100000 in
theorem x103 (L d : Nat) (x0 : Int32) (h : PH) : exec (g2 L) (d + 1) 103 [.int x0] h
  = if x0 = (nI 35) then some (some (.int (nI 22)), h) else if x0 = (nI 36) then some (some (.int (nI 1)), h) else if x0 = (nI 37) then some (some (.int (nI 27)), h) else if x0 = (nI 38) then some (some (.int (nI 1)), h) else if x0 = (nI 39) then some (some (.int (nI 1)), h) else if x0 = (nI 40) then some (some (.int (nI 6)), h) else if x0 = (nI 41) then some (some (.int (nI 7)), h) else if x0 = (nI 42) then some (some (.int (nI 25)), h) else if x0 = (nI 43) then some (some (.int (nI 23)), h) else if x0 = (nI 44) then some (some (.int (nI 1)), h) else if x0 = (nI 45) then some (some (.int (nI 24)), h) else if x0 = (nI 46) then some (some (.int (nI 1)), h) else if x0 = (nI 47) then some (some (.int (nI 26)), h) else if x0 = (nI 48) then some (some (.int (nI 1)), h) else if x0 = (nI 49) then some (some (.int (nI 1)), h) else if x0 = (nI 50) then some (some (.int (nI 1)), h) else if x0 = (nI 51) then some (some (.int (nI 1)), h) else if x0 = (nI 52) then some (some (.int (nI 1)), h) else if x0 = (nI 53) then some (some (.int (nI 1)), h) else if x0 = (nI 54) then some (some (.int (nI 1)), h) else if x0 = (nI 55) then some (some (.int (nI 1)), h) else if x0 = (nI 56) then some (some (.int (nI 1)), h) else if x0 = (nI 57) then some (some (.int (nI 1)), h) else if x0 = (nI 58) then some (some (.int (nI 1)), h) else if x0 = (nI 59) then some (some (.int (nI 8)), h) else if x0 = (nI 60) then some (some (.int (nI 17)), h) else if x0 = (nI 61) then some (some (.int (nI 21)), h) else if x0 = (nI 62) then some (some (.int (nI 19)), h) else some (some (.int (nI 1)), h) := (exec_M (by rfl) _ _ rfl).trans (e103_0 L d x0 h)
set_option maxRecDepth 100000 in
theorem e104_0 (L d : Nat) (s : Nat) (hs : s < 4) (h : PH) : runL (g2 L) d 10 false none kc_104 0 [.ref (213 + 10 * s)] [] h
  = some (none, wI (wI (wI (wI h (213 + 10 * s) 0 (nI 0)) (213 + 10 * s) 1 (nI 0)) (213 + 10 * s) 11 m1) (213 + 10 * s) 12 (nI 1)) := match s, hs with
  | 0, _ => (runL_K [] 18 _ _ _ _).trans rfl
  | 1, _ => (runL_K [] 18 _ _ _ _).trans rfl
  | 2, _ => (runL_K [] 18 _ _ _ _).trans rfl
  | 3, _ => (runL_K [] 18 _ _ _ _).trans rfl
set_option maxRecDepth 100000 in
theorem x104 (L d : Nat) (s : Nat) (hs : s < 4) (h : PH) : exec (g2 L) (d + 1) 104 [.ref (213 + 10 * s)] h
  = some (none, wI (wI (wI (wI h (213 + 10 * s) 0 (nI 0)) (213 + 10 * s) 1 (nI 0)) (213 + 10 * s) 11 m1) (213 + 10 * s) 12 (nI 1)) := (exec_M (by rfl) _ _ rfl).trans (e104_0 L d s hs h)
set_option maxRecDepth 100000 in
theorem e105_0 (L d : Nat) (x1 : Int32) (h : PH) : runL (g2 L) d 8 false (some .int) kc_105 0 [.ref 207, .int x1] [] h
  = if (hI h 207 1) ≠ (nI 0) then some (some (.int m1), h) else asr (inB (hI h 207 4) 301) (some (some (.int m1), wI (wI h 207 1 x1) 207 2 (hI h 210 (ix (hI h 207 4))))) := (runL_K [] 23 _ _ _ _).trans rfl
set_option maxRecDepth 100000 in
theorem x105 (L d : Nat) (x1 : Int32) (h : PH) : exec (g2 L) (d + 1) 105 [.ref 207, .int x1] h
  = if (hI h 207 1) ≠ (nI 0) then some (some (.int m1), h) else asr (inB (hI h 207 4) 301) (some (some (.int m1), wI (wI h 207 1 x1) 207 2 (hI h 210 (ix (hI h 207 4))))) := (exec_M (by rfl) _ _ rfl).trans (e105_0 L d x1 h)
set_option maxRecDepth 100000 in
theorem e106_0 (L d : Nat)  (h : PH) : runL (g2 L) d 8 false none kc_106 0 [.ref 207, dm, dm] [] h
  = if (hI h 207 5) ≠ (nI 3) then runL (g2 L) d 8 false none kc_106 16 [.ref 207, dm, dm] [.int m1] h else cI (exec (g2 L) d 107 [.ref 207] h) fun r2 h1 => runL (g2 L) d 8 false none kc_106 16 [.ref 207, dm, dm] [.int r2] h1 := (runL_K [16] 13 _ _ _ _).trans rfl
set_option maxRecDepth 100000 in
theorem e106_16 (L d : Nat) (xs0 : Int32) (h : PH) : runL (g2 L) d 8 false none kc_106 16 [.ref 207, dm, dm] [.int xs0] h
  = if (hI h 207 1) = (nI 0) then cV (exec (g2 L) d 108 [.ref 207] h) fun h1 => cI (exec (g2 L) d 109 [.ref 207] h1) fun r3 h2 => if (hI h2 207 1) = (nI 0) then if (hI h2 207 5) = (nI 8) then asr (okA (g2 L) h2 (hR h2 207 6) 30) (cV (exec (g2 L) d 121 [.ref (hR h2 207 6), .int xs0, .int r3] h2) fun h4 => cV (exec (g2 L) d 108 [.ref 207] h4) fun h5 => some (none, h5)) else cI (exec (g2 L) d 105 [.ref 207, .int (nI 1)] h2) fun r7 h6 => some (none, h6) else some (none, h2) else some (none, h) := (runL_K [16] 36 _ _ _ _).trans rfl
set_option maxRecDepth 100000 in
theorem x106 (L d : Nat)  (h : PH) : exec (g2 L) (d + 1) 106 [.ref 207] h
  = if (hI h 207 5) ≠ (nI 3) then runL (g2 L) d 8 false none kc_106 16 [.ref 207, dm, dm] [.int m1] h else cI (exec (g2 L) d 107 [.ref 207] h) fun r2 h1 => runL (g2 L) d 8 false none kc_106 16 [.ref 207, dm, dm] [.int r2] h1 := (exec_M (by rfl) _ _ rfl).trans (e106_0 L d  h)
set_option maxRecDepth 100000 in
theorem e107_0 (L d : Nat)  (h : PH) : runL (g2 L) d 8 false (some .int) kc_107 0 [.ref 207, dm] [] h
  = cV (exec (g2 L) d 108 [.ref 207] h) fun h1 => if (hI h1 207 5) = (nI 2) then asr (inB (hI h1 207 4) 301) (if (hI h1 211 (ix (hI h1 207 4))) < (nI 4) then cV (exec (g2 L) d 108 [.ref 207] h1) fun h2 => if (hI h2 207 5) ≠ (nI 5) then cI (exec (g2 L) d 105 [.ref 207, .int (nI 1)] h2) fun r4 h3 => some (some (.int r4), h3) else some (some (.int (hI h1 211 (ix (hI h1 207 4)))), h2) else cI (exec (g2 L) d 105 [.ref 207, .int (nI 2)] h1) fun r6 h5 => some (some (.int r6), h5)) else cI (exec (g2 L) d 105 [.ref 207, .int (nI 1)] h1) fun r8 h7 => some (some (.int r8), h7) := (runL_K [] 42 _ _ _ _).trans rfl
set_option maxRecDepth 100000 in
theorem x107 (L d : Nat)  (h : PH) : exec (g2 L) (d + 1) 107 [.ref 207] h
  = cV (exec (g2 L) d 108 [.ref 207] h) fun h1 => if (hI h1 207 5) = (nI 2) then asr (inB (hI h1 207 4) 301) (if (hI h1 211 (ix (hI h1 207 4))) < (nI 4) then cV (exec (g2 L) d 108 [.ref 207] h1) fun h2 => if (hI h2 207 5) ≠ (nI 5) then cI (exec (g2 L) d 105 [.ref 207, .int (nI 1)] h2) fun r4 h3 => some (some (.int r4), h3) else some (some (.int (hI h1 211 (ix (hI h1 207 4)))), h2) else cI (exec (g2 L) d 105 [.ref 207, .int (nI 2)] h1) fun r6 h5 => some (some (.int r6), h5)) else cI (exec (g2 L) d 105 [.ref 207, .int (nI 1)] h1) fun r8 h7 => some (some (.int r8), h7) := (exec_M (by rfl) _ _ rfl).trans (e107_0 L d  h)
set_option maxRecDepth 100000 in
theorem e108_0 (L d : Nat)  (h : PH) : runL (g2 L) d 8 false none kc_108 0 [.ref 207] [] h
  = if (nI 300) ≤ (hI h 207 4) then some (none, h) else if (hI h 207 5) = (nI 0) then some (none, h) else asr (inB ((hI h 207 4) + (nI 1)) 301) (some (none, wI (wI h 207 4 ((hI h 207 4) + (nI 1))) 207 5 (hI h 209 (ix ((hI h 207 4) + (nI 1)))))) := (runL_K [] 29 _ _ _ _).trans rfl
set_option maxRecDepth 100000 in
theorem x108 (L d : Nat)  (h : PH) : exec (g2 L) (d + 1) 108 [.ref 207] h
  = if (nI 300) ≤ (hI h 207 4) then some (none, h) else if (hI h 207 5) = (nI 0) then some (none, h) else asr (inB ((hI h 207 4) + (nI 1)) 301) (some (none, wI (wI h 207 4 ((hI h 207 4) + (nI 1))) 207 5 (hI h 209 (ix ((hI h 207 4) + (nI 1)))))) := (exec_M (by rfl) _ _ rfl).trans (e108_0 L d  h)
set_option maxRecDepth 100000 in
theorem e109_0 (L d : Nat)  (h : PH) : runL (g2 L) d 8 false (some .int) kc_109 0 [.ref 207, dm, dm, dm] [] h
  = cI (exec (g2 L) d 110 [.ref 207, .int (nI 0)] h) fun r2 h1 => runL (g2 L) d 8 false (some .int) kc_109 10 [.ref 207, .int m1, .int r2, .int (nI 0)] [] h1 := (runL_K [10, 42] 13 _ _ _ _).trans rfl
set_option maxRecDepth 100000 in
theorem e109_10 (L d : Nat) (x1 : Int32) (x2 : Int32) (x3 : Int32) (h : PH) : runL (g2 L) d 8 false (some .int) kc_109 10 [.ref 207, .int x1, .int x2, .int x3] [] h
  = if (nI 300) ≤ x3 then if x1 ≠ m1 then cI (exec (g2 L) d 111 [.ref 207, .int (nI 9), .int x1, .int x2] h) fun r2 h1 => some (some (.int r2), h1) else some (some (.int x2), h) else if (hI h 207 1) ≠ (nI 0) then if x1 ≠ m1 then cI (exec (g2 L) d 111 [.ref 207, .int (nI 9), .int x1, .int x2] h) fun r4 h3 => some (some (.int r4), h3) else some (some (.int x2), h) else if (hI h 207 5) = (nI 10) then runL (g2 L) d 8 false (some .int) kc_109 42 [.ref 207, .int x1, .int x2, .int x3] [] h else if (hI h 207 5) ≠ (nI 9) then if x1 ≠ m1 then cI (exec (g2 L) d 111 [.ref 207, .int (nI 9), .int x1, .int x2] h) fun r6 h5 => some (some (.int r6), h5) else some (some (.int x2), h) else runL (g2 L) d 8 false (some .int) kc_109 42 [.ref 207, .int x1, .int x2, .int x3] [] h := (runL_K [10, 42] 55 _ _ _ _).trans rfl
set_option maxRecDepth 100000 in
theorem e109_42 (L d : Nat) (x1 : Int32) (x2 : Int32) (x3 : Int32) (h : PH) : runL (g2 L) d 8 false (some .int) kc_109 42 [.ref 207, .int x1, .int x2, .int x3] [] h
  = if (hI h 207 5) ≠ (nI 10) then if x1 ≠ m1 then cI (exec (g2 L) d 111 [.ref 207, .int (nI 9), .int x1, .int x2] h) fun r2 h1 => cV (exec (g2 L) d 108 [.ref 207] h1) fun h3 => cI (exec (g2 L) d 110 [.ref 207, .int (nI 0)] h3) fun r5 h4 => runL (g2 L) d 8 false (some .int) kc_109 10 [.ref 207, .int r2, .int r5, .int (x3 + (nI 1))] [] h4 else cV (exec (g2 L) d 108 [.ref 207] h) fun h6 => cI (exec (g2 L) d 110 [.ref 207, .int (nI 0)] h6) fun r8 h7 => runL (g2 L) d 8 false (some .int) kc_109 10 [.ref 207, .int x2, .int r8, .int (x3 + (nI 1))] [] h7 else cV (exec (g2 L) d 108 [.ref 207] h) fun h9 => cI (exec (g2 L) d 110 [.ref 207, .int (nI 0)] h9) fun r11 h10 => cI (exec (g2 L) d 111 [.ref 207, .int (nI 10), .int x2, .int r11] h10) fun r13 h12 => runL (g2 L) d 8 false (some .int) kc_109 10 [.ref 207, .int x1, .int r13, .int (x3 + (nI 1))] [] h12 := (runL_K [10, 42] 50 _ _ _ _).trans rfl
set_option maxRecDepth 100000 in
theorem x109 (L d : Nat)  (h : PH) : exec (g2 L) (d + 1) 109 [.ref 207] h
  = cI (exec (g2 L) d 110 [.ref 207, .int (nI 0)] h) fun r2 h1 => runL (g2 L) d 8 false (some .int) kc_109 10 [.ref 207, .int m1, .int r2, .int (nI 0)] [] h1 := (exec_M (by rfl) _ _ rfl).trans (e109_0 L d  h)
set_option maxRecDepth 100000 in
theorem e110_0 (L d : Nat) (x1 : Int32) (h : PH) : runL (g2 L) d 8 false (some .int) kc_110 0 [.ref 207, .int x1, dm, dm] [] h
  = if (hI h 207 5) ≠ (nI 11) then cI (exec (g2 L) d 113 [.ref 207, .int x1] h) fun r2 h1 => if (hI h1 207 1) = (nI 0) then if (hI h1 207 5) < (nI 17) then cI (exec (g2 L) d 105 [.ref 207, .int (nI 1)] h1) fun r4 h3 => some (some (.int r4), h3) else if (hI h1 207 5) ≤ (nI 22) then cV (exec (g2 L) d 108 [.ref 207] h1) fun h5 => cI (exec (g2 L) d 113 [.ref 207, .int x1] h5) fun r7 h6 => cI (exec (g2 L) d 111 [.ref 207, .int (hI h1 207 5), .int r2, .int r7] h6) fun r9 h8 => some (some (.int r9), h8) else cI (exec (g2 L) d 105 [.ref 207, .int (nI 1)] h1) fun r11 h10 => some (some (.int r11), h10) else some (some (.int m1), h1) else if x1 < (nI 8) then cV (exec (g2 L) d 108 [.ref 207] h) fun h12 => cI (exec (g2 L) d 110 [.ref 207, .int (x1 + (nI 1))] h12) fun r14 h13 => cI (exec (g2 L) d 111 [.ref 207, .int (nI 11), .int r14, .int r14] h13) fun r16 h15 => some (some (.int r16), h15) else cI (exec (g2 L) d 105 [.ref 207, .int (nI 3)] h) fun r18 h17 => some (some (.int r18), h17) := (runL_K [] 66 _ _ _ _).trans rfl
set_option maxRecDepth 100000 in
theorem x110 (L d : Nat) (x1 : Int32) (h : PH) : exec (g2 L) (d + 1) 110 [.ref 207, .int x1] h
  = if (hI h 207 5) ≠ (nI 11) then cI (exec (g2 L) d 113 [.ref 207, .int x1] h) fun r2 h1 => if (hI h1 207 1) = (nI 0) then if (hI h1 207 5) < (nI 17) then cI (exec (g2 L) d 105 [.ref 207, .int (nI 1)] h1) fun r4 h3 => some (some (.int r4), h3) else if (hI h1 207 5) ≤ (nI 22) then cV (exec (g2 L) d 108 [.ref 207] h1) fun h5 => cI (exec (g2 L) d 113 [.ref 207, .int x1] h5) fun r7 h6 => cI (exec (g2 L) d 111 [.ref 207, .int (hI h1 207 5), .int r2, .int r7] h6) fun r9 h8 => some (some (.int r9), h8) else cI (exec (g2 L) d 105 [.ref 207, .int (nI 1)] h1) fun r11 h10 => some (some (.int r11), h10) else some (some (.int m1), h1) else if x1 < (nI 8) then cV (exec (g2 L) d 108 [.ref 207] h) fun h12 => cI (exec (g2 L) d 110 [.ref 207, .int (x1 + (nI 1))] h12) fun r14 h13 => cI (exec (g2 L) d 111 [.ref 207, .int (nI 11), .int r14, .int r14] h13) fun r16 h15 => some (some (.int r16), h15) else cI (exec (g2 L) d 105 [.ref 207, .int (nI 3)] h) fun r18 h17 => some (some (.int r18), h17) := (exec_M (by rfl) _ _ rfl).trans (e110_0 L d x1 h)
set_option maxRecDepth 100000 in
theorem e111_0 (L d : Nat) (x1 : Int32) (x2 : Int32) (x3 : Int32) (h : PH) : runL (g2 L) d 8 false (some .int) kc_111 0 [.ref 207, .int x1, .int x2, .int x3] [] h
  = if (hI h 207 1) = (nI 0) then asr (okA (g2 L) h (hR h 207 6) 30) (cI (exec (g2 L) d 112 [.ref (hR h 207 6), .int x1, .int x2, .int x3] h) fun r2 h1 => some (some (.int r2), h1)) else some (some (.int m1), h) := (runL_K [] 18 _ _ _ _).trans rfl
set_option maxRecDepth 100000 in
theorem x111 (L d : Nat) (x1 : Int32) (x2 : Int32) (x3 : Int32) (h : PH) : exec (g2 L) (d + 1) 111 [.ref 207, .int x1, .int x2, .int x3] h
  = if (hI h 207 1) = (nI 0) then asr (okA (g2 L) h (hR h 207 6) 30) (cI (exec (g2 L) d 112 [.ref (hR h 207 6), .int x1, .int x2, .int x3] h) fun r2 h1 => some (some (.int r2), h1)) else some (some (.int m1), h) := (exec_M (by rfl) _ _ rfl).trans (e111_0 L d x1 x2 x3 h)
set_option maxRecDepth 100000 in
theorem e112_0 (L d : Nat) (s : Nat) (hs : s < 4) (x1 : Int32) (x2 : Int32) (x3 : Int32) (h : PH) : runL (g2 L) d 10 false (some .int) kc_112 0 [.ref (213 + 10 * s), .int x1, .int x2, .int x3] [] h
  = if (nI 300) ≤ (hI h (213 + 10 * s) 0) then some (some (.int m1), h) else if x2 < (nI 0) then some (some (.int m1), h) else if (hI h (213 + 10 * s) 0) ≤ x2 then some (some (.int m1), h) else if x3 < (nI 0) then some (some (.int m1), h) else if x3 < (hI h (213 + 10 * s) 0) then asr (inB (hI h (213 + 10 * s) 0) 300) (runL (g2 L) d 10 false (some .int) kc_112 46 [.ref (213 + 10 * s), .int x1, .int x2, .int x3] [] (wI h (213 + 10 * s + 1) (ix (hI h (213 + 10 * s) 0)) x1)) else some (some (.int m1), h) := match s, hs with
  | 0, _ => (runL_K [46, 56, 66, 90, 100] 37 _ _ _ _).trans rfl
  | 1, _ => (runL_K [46, 56, 66, 90, 100] 37 _ _ _ _).trans rfl
  | 2, _ => (runL_K [46, 56, 66, 90, 100] 37 _ _ _ _).trans rfl
  | 3, _ => (runL_K [46, 56, 66, 90, 100] 37 _ _ _ _).trans rfl
set_option maxRecDepth 100000 in
theorem e112_46 (L d : Nat) (s : Nat) (hs : s < 4) (x1 : Int32) (x2 : Int32) (x3 : Int32) (h : PH) : runL (g2 L) d 10 false (some .int) kc_112 46 [.ref (213 + 10 * s), .int x1, .int x2, .int x3] [] h
  = asr (inB (hI h (213 + 10 * s) 0) 300) (runL (g2 L) d 10 false (some .int) kc_112 56 [.ref (213 + 10 * s), .int x1, .int x2, .int x3] [] (wI h (213 + 10 * s + 2) (ix (hI h (213 + 10 * s) 0)) x2)) := match s, hs with
  | 0, _ => (runL_K [46, 56, 66, 90, 100] 11 _ _ _ _).trans rfl
  | 1, _ => (runL_K [46, 56, 66, 90, 100] 11 _ _ _ _).trans rfl
  | 2, _ => (runL_K [46, 56, 66, 90, 100] 11 _ _ _ _).trans rfl
  | 3, _ => (runL_K [46, 56, 66, 90, 100] 11 _ _ _ _).trans rfl
set_option maxRecDepth 100000 in
theorem e112_56 (L d : Nat) (s : Nat) (hs : s < 4) (x1 : Int32) (x2 : Int32) (x3 : Int32) (h : PH) : runL (g2 L) d 10 false (some .int) kc_112 56 [.ref (213 + 10 * s), .int x1, .int x2, .int x3] [] h
  = asr (inB (hI h (213 + 10 * s) 0) 300) (runL (g2 L) d 10 false (some .int) kc_112 66 [.ref (213 + 10 * s), .int x1, .int x2, .int x3] [] (wI h (213 + 10 * s + 3) (ix (hI h (213 + 10 * s) 0)) x3)) := match s, hs with
  | 0, _ => (runL_K [46, 56, 66, 90, 100] 11 _ _ _ _).trans rfl
  | 1, _ => (runL_K [46, 56, 66, 90, 100] 11 _ _ _ _).trans rfl
  | 2, _ => (runL_K [46, 56, 66, 90, 100] 11 _ _ _ _).trans rfl
  | 3, _ => (runL_K [46, 56, 66, 90, 100] 11 _ _ _ _).trans rfl
set_option maxRecDepth 100000 in
theorem e112_66 (L d : Nat) (s : Nat) (hs : s < 4) (x1 : Int32) (x2 : Int32) (x3 : Int32) (h : PH) : runL (g2 L) d 10 false (some .int) kc_112 66 [.ref (213 + 10 * s), .int x1, .int x2, .int x3] [] h
  = asr (inB x2 300) (asr (inB x3 300) (asr (inB (hI h (213 + 10 * s) 0) 300) (runL (g2 L) d 10 false (some .int) kc_112 90 [.ref (213 + 10 * s), .int x1, .int x2, .int x3] [] (wI h (213 + 10 * s + 4) (ix (hI h (213 + 10 * s) 0)) (if (hI h (213 + 10 * s + 4) (ix x2)) < (hI h (213 + 10 * s + 4) (ix x3)) then (hI h (213 + 10 * s + 4) (ix x3)) else (hI h (213 + 10 * s + 4) (ix x2))))))) := match s, hs with
  | 0, _ => (runL_K [46, 56, 66, 90, 100] 19 _ _ _ _).trans rfl
  | 1, _ => (runL_K [46, 56, 66, 90, 100] 19 _ _ _ _).trans rfl
  | 2, _ => (runL_K [46, 56, 66, 90, 100] 19 _ _ _ _).trans rfl
  | 3, _ => (runL_K [46, 56, 66, 90, 100] 19 _ _ _ _).trans rfl
set_option maxRecDepth 100000 in
theorem e112_90 (L d : Nat) (s : Nat) (hs : s < 4) (x1 : Int32) (x2 : Int32) (x3 : Int32) (h : PH) : runL (g2 L) d 10 false (some .int) kc_112 90 [.ref (213 + 10 * s), .int x1, .int x2, .int x3] [] h
  = runL (g2 L) d 10 false (some .int) kc_112 100 [.ref (213 + 10 * s), .int x1, .int x2, .int x3] [] (wI h (213 + 10 * s) 0 ((hI h (213 + 10 * s) 0) + (nI 1))) := match s, hs with
  | 0, _ => (runL_K [46, 56, 66, 90, 100] 11 _ _ _ _).trans rfl
  | 1, _ => (runL_K [46, 56, 66, 90, 100] 11 _ _ _ _).trans rfl
  | 2, _ => (runL_K [46, 56, 66, 90, 100] 11 _ _ _ _).trans rfl
  | 3, _ => (runL_K [46, 56, 66, 90, 100] 11 _ _ _ _).trans rfl
set_option maxRecDepth 100000 in
theorem e112_100 (L d : Nat) (s : Nat) (hs : s < 4) (x1 : Int32) (x2 : Int32) (x3 : Int32) (h : PH) : runL (g2 L) d 10 false (some .int) kc_112 100 [.ref (213 + 10 * s), .int x1, .int x2, .int x3] [] h
  = some (some (.int ((hI h (213 + 10 * s) 0) - (nI 1))), h) := match s, hs with
  | 0, _ => (runL_K [46, 56, 66, 90, 100] 10 _ _ _ _).trans rfl
  | 1, _ => (runL_K [46, 56, 66, 90, 100] 10 _ _ _ _).trans rfl
  | 2, _ => (runL_K [46, 56, 66, 90, 100] 10 _ _ _ _).trans rfl
  | 3, _ => (runL_K [46, 56, 66, 90, 100] 10 _ _ _ _).trans rfl
set_option maxRecDepth 100000 in
theorem x112 (L d : Nat) (s : Nat) (hs : s < 4) (x1 : Int32) (x2 : Int32) (x3 : Int32) (h : PH) : exec (g2 L) (d + 1) 112 [.ref (213 + 10 * s), .int x1, .int x2, .int x3] h
  = if (nI 300) ≤ (hI h (213 + 10 * s) 0) then some (some (.int m1), h) else if x2 < (nI 0) then some (some (.int m1), h) else if (hI h (213 + 10 * s) 0) ≤ x2 then some (some (.int m1), h) else if x3 < (nI 0) then some (some (.int m1), h) else if x3 < (hI h (213 + 10 * s) 0) then asr (inB (hI h (213 + 10 * s) 0) 300) (runL (g2 L) d 10 false (some .int) kc_112 46 [.ref (213 + 10 * s), .int x1, .int x2, .int x3] [] (wI h (213 + 10 * s + 1) (ix (hI h (213 + 10 * s) 0)) x1)) else some (some (.int m1), h) := (exec_M (by rfl) _ _ rfl).trans (e112_0 L d s hs x1 x2 x3 h)
set_option maxRecDepth 100000 in
theorem e113_0 (L d : Nat) (x1 : Int32) (h : PH) : runL (g2 L) d 8 false (some .int) kc_113 0 [.ref 207, .int x1, dm, dm, dm] [] h
  = cI (exec (g2 L) d 114 [.ref 207, .int x1] h) fun r2 h1 => runL (g2 L) d 8 false (some .int) kc_113 8 [.ref 207, .int x1, .int r2, .int (nI 0), dm] [] h1 := (runL_K [8, 40] 11 _ _ _ _).trans rfl
set_option maxRecDepth 100000 in
theorem e113_8 (L d : Nat) (x1 : Int32) (x2 : Int32) (x3 : Int32) (v4 : Value) (h : PH) : runL (g2 L) d 8 false (some .int) kc_113 8 [.ref 207, .int x1, .int x2, .int x3, v4] [] h
  = if (nI 300) ≤ x3 then some (some (.int x2), h) else if (hI h 207 1) ≠ (nI 0) then some (some (.int x2), h) else if (hI h 207 5) = (nI 23) then runL (g2 L) d 8 false (some .int) kc_113 40 [.ref 207, .int x1, .int x2, .int x3, v4] [] h else if (hI h 207 5) ≠ (nI 24) then some (some (.int x2), h) else runL (g2 L) d 8 false (some .int) kc_113 40 [.ref 207, .int x1, .int x2, .int x3, v4] [] h := (runL_K [8, 40] 25 _ _ _ _).trans rfl
set_option maxRecDepth 100000 in
theorem e113_40 (L d : Nat) (x1 : Int32) (x2 : Int32) (x3 : Int32) (v4 : Value) (h : PH) : runL (g2 L) d 8 false (some .int) kc_113 40 [.ref 207, .int x1, .int x2, .int x3, v4] [] h
  = cV (exec (g2 L) d 108 [.ref 207] h) fun h1 => cI (exec (g2 L) d 114 [.ref 207, .int x1] h1) fun r3 h2 => cI (exec (g2 L) d 111 [.ref 207, .int (hI h 207 5), .int x2, .int r3] h2) fun r5 h4 => runL (g2 L) d 8 false (some .int) kc_113 8 [.ref 207, .int x1, .int r5, .int (x3 + (nI 1)), .int (hI h 207 5)] [] h4 := (runL_K [8, 40] 20 _ _ _ _).trans rfl
set_option maxRecDepth 100000 in
theorem x113 (L d : Nat) (x1 : Int32) (h : PH) : exec (g2 L) (d + 1) 113 [.ref 207, .int x1] h
  = cI (exec (g2 L) d 114 [.ref 207, .int x1] h) fun r2 h1 => runL (g2 L) d 8 false (some .int) kc_113 8 [.ref 207, .int x1, .int r2, .int (nI 0), dm] [] h1 := (exec_M (by rfl) _ _ rfl).trans (e113_0 L d x1 h)
set_option maxRecDepth 100000 in
theorem e114_0 (L d : Nat) (x1 : Int32) (h : PH) : runL (g2 L) d 8 false (some .int) kc_114 0 [.ref 207, .int x1, dm, dm, dm] [] h
  = cI (exec (g2 L) d 115 [.ref 207, .int x1] h) fun r2 h1 => runL (g2 L) d 8 false (some .int) kc_114 8 [.ref 207, .int x1, .int r2, .int (nI 0), dm] [] h1 := (runL_K [8] 11 _ _ _ _).trans rfl
set_option maxRecDepth 100000 in
theorem e114_8 (L d : Nat) (x1 : Int32) (x2 : Int32) (x3 : Int32) (v4 : Value) (h : PH) : runL (g2 L) d 8 false (some .int) kc_114 8 [.ref 207, .int x1, .int x2, .int x3, v4] [] h
  = if (nI 300) ≤ x3 then some (some (.int x2), h) else if (hI h 207 1) ≠ (nI 0) then some (some (.int x2), h) else cI (exec (g2 L) d 120 [.ref 207] h) fun r2 h1 => if r2 = (nI 0) then some (some (.int x2), h1) else cV (exec (g2 L) d 108 [.ref 207] h1) fun h3 => cI (exec (g2 L) d 115 [.ref 207, .int x1] h3) fun r5 h4 => cI (exec (g2 L) d 111 [.ref 207, .int (hI h1 207 5), .int x2, .int r5] h4) fun r7 h6 => runL (g2 L) d 8 false (some .int) kc_114 8 [.ref 207, .int x1, .int r7, .int (x3 + (nI 1)), .int (hI h1 207 5)] [] h6 := (runL_K [8] 35 _ _ _ _).trans rfl
set_option maxRecDepth 100000 in
theorem x114 (L d : Nat) (x1 : Int32) (h : PH) : exec (g2 L) (d + 1) 114 [.ref 207, .int x1] h
  = cI (exec (g2 L) d 115 [.ref 207, .int x1] h) fun r2 h1 => runL (g2 L) d 8 false (some .int) kc_114 8 [.ref 207, .int x1, .int r2, .int (nI 0), dm] [] h1 := (exec_M (by rfl) _ _ rfl).trans (e114_0 L d x1 h)
set_option maxRecDepth 100000 in
theorem e115_0 (L d : Nat) (x1 : Int32) (h : PH) : runL (g2 L) d 8 false (some .int) kc_115 0 [.ref 207, .int x1, dm, dm] [] h
  = if (hI h 207 5) ≠ (nI 2) then runL (g2 L) d 8 false (some .int) kc_115 13 [.ref 207, .int x1, dm, dm] [.int (nI 0)] h else runL (g2 L) d 8 false (some .int) kc_115 13 [.ref 207, .int x1, dm, dm] [.int (nI 1)] h := (runL_K [13, 42, 64, 118] 12 _ _ _ _).trans rfl
set_option maxRecDepth 100000 in
theorem e115_13 (L d : Nat) (x1 : Int32) (xs0 : Int32) (h : PH) : runL (g2 L) d 8 false (some .int) kc_115 13 [.ref 207, .int x1, dm, dm] [.int xs0] h
  = if xs0 = (nI 0) then runL (g2 L) d 8 false (some .int) kc_115 42 [.ref 207, .int x1, .int xs0, dm] [] h else asr (inB (hI h 207 4) 301) (if (hI h 211 (ix (hI h 207 4))) ≤ (nI 9999) then runL (g2 L) d 8 false (some .int) kc_115 42 [.ref 207, .int x1, .int xs0, dm] [] h else cI (exec (g2 L) d 105 [.ref 207, .int (nI 2)] h) fun r2 h1 => some (some (.int r2), h1)) := (runL_K [13, 42, 64, 118] 20 _ _ _ _).trans rfl
set_option maxRecDepth 100000 in
theorem e115_42 (L d : Nat) (x1 : Int32) (x2 : Int32) (h : PH) : runL (g2 L) d 8 false (some .int) kc_115 42 [.ref 207, .int x1, .int x2, dm] [] h
  = if x2 ≠ (nI 0) then runL (g2 L) d 8 false (some .int) kc_115 64 [.ref 207, .int x1, .int x2, dm] [] h else if (hI h 207 5) < (nI 12) then if (hI h 207 5) = (nI 6) then runL (g2 L) d 8 false (some .int) kc_115 118 [.ref 207, .int x1, .int x2, dm] [] h else if (hI h 207 5) = (nI 24) then runL (g2 L) d 8 false (some .int) kc_115 118 [.ref 207, .int x1, .int x2, dm] [] h else cI (exec (g2 L) d 105 [.ref 207, .int (nI 1)] h) fun r2 h1 => some (some (.int r2), h1) else if (nI 16) < (hI h 207 5) then if (hI h 207 5) = (nI 6) then runL (g2 L) d 8 false (some .int) kc_115 118 [.ref 207, .int x1, .int x2, dm] [] h else if (hI h 207 5) = (nI 24) then runL (g2 L) d 8 false (some .int) kc_115 118 [.ref 207, .int x1, .int x2, dm] [] h else cI (exec (g2 L) d 105 [.ref 207, .int (nI 1)] h) fun r4 h3 => some (some (.int r4), h3) else runL (g2 L) d 8 false (some .int) kc_115 64 [.ref 207, .int x1, .int x2, dm] [] h := (runL_K [13, 42, 64, 118] 39 _ _ _ _).trans rfl
set_option maxRecDepth 100000 in
theorem e115_64 (L d : Nat) (x1 : Int32) (x2 : Int32) (h : PH) : runL (g2 L) d 8 false (some .int) kc_115 64 [.ref 207, .int x1, .int x2, dm] [] h
  = asr (inB (hI h 207 4) 301) (asr (okA (g2 L) h (hR h 207 6) 30) (cI (exec (g2 L) d 116 [.ref (hR h 207 6), .int (hI h 207 5), .int (hI h 211 (ix (hI h 207 4)))] h) fun r2 h1 => cV (exec (g2 L) d 108 [.ref 207] h1) fun h3 => some (some (.int r2), h3))) := (runL_K [13, 42, 64, 118] 21 _ _ _ _).trans rfl
set_option maxRecDepth 100000 in
theorem e115_118 (L d : Nat) (x1 : Int32) (x2 : Int32) (h : PH) : runL (g2 L) d 8 false (some .int) kc_115 118 [.ref 207, .int x1, .int x2, dm] [] h
  = if x1 < (nI 8) then if (hI h 207 5) ≠ (nI 6) then cV (exec (g2 L) d 108 [.ref 207] h) fun h1 => cI (exec (g2 L) d 115 [.ref 207, .int (x1 + (nI 1))] h1) fun r3 h2 => cI (exec (g2 L) d 111 [.ref 207, .int (nI 28), .int r3, .int r3] h2) fun r5 h4 => some (some (.int r5), h4) else cI (exec (g2 L) d 119 [.ref 207, .int (x1 + (nI 1))] h) fun r7 h6 => some (some (.int r7), h6) else cI (exec (g2 L) d 105 [.ref 207, .int (nI 3)] h) fun r9 h8 => some (some (.int r9), h8) := (runL_K [13, 42, 64, 118] 36 _ _ _ _).trans rfl
set_option maxRecDepth 100000 in
theorem x115 (L d : Nat) (x1 : Int32) (h : PH) : exec (g2 L) (d + 1) 115 [.ref 207, .int x1] h
  = if (hI h 207 5) ≠ (nI 2) then runL (g2 L) d 8 false (some .int) kc_115 13 [.ref 207, .int x1, dm, dm] [.int (nI 0)] h else runL (g2 L) d 8 false (some .int) kc_115 13 [.ref 207, .int x1, dm, dm] [.int (nI 1)] h := (exec_M (by rfl) _ _ rfl).trans (e115_0 L d x1 h)
set_option maxRecDepth 100000 in
theorem e116_0 (L d : Nat) (s : Nat) (hs : s < 4) (x1 : Int32) (x2 : Int32) (h : PH) : runL (g2 L) d 10 false (some .int) kc_116 0 [.ref (213 + 10 * s), .int x1, .int x2] [] h
  = if (hI h (213 + 10 * s) 0) < (nI 300) then asr (inB (hI h (213 + 10 * s) 0) 300) (runL (g2 L) d 10 false (some .int) kc_116 22 [.ref (213 + 10 * s), .int x1, .int x2] [] (wI h (213 + 10 * s + 1) (ix (hI h (213 + 10 * s) 0)) x1)) else some (some (.int m1), h) := match s, hs with
  | 0, _ => (runL_K [22, 32, 42, 55, 70, 80] 17 _ _ _ _).trans rfl
  | 1, _ => (runL_K [22, 32, 42, 55, 70, 80] 17 _ _ _ _).trans rfl
  | 2, _ => (runL_K [22, 32, 42, 55, 70, 80] 17 _ _ _ _).trans rfl
  | 3, _ => (runL_K [22, 32, 42, 55, 70, 80] 17 _ _ _ _).trans rfl
set_option maxRecDepth 100000 in
theorem e116_22 (L d : Nat) (s : Nat) (hs : s < 4) (x1 : Int32) (x2 : Int32) (h : PH) : runL (g2 L) d 10 false (some .int) kc_116 22 [.ref (213 + 10 * s), .int x1, .int x2] [] h
  = asr (inB (hI h (213 + 10 * s) 0) 300) (runL (g2 L) d 10 false (some .int) kc_116 32 [.ref (213 + 10 * s), .int x1, .int x2] [] (wI h (213 + 10 * s + 2) (ix (hI h (213 + 10 * s) 0)) x2)) := match s, hs with
  | 0, _ => (runL_K [22, 32, 42, 55, 70, 80] 11 _ _ _ _).trans rfl
  | 1, _ => (runL_K [22, 32, 42, 55, 70, 80] 11 _ _ _ _).trans rfl
  | 2, _ => (runL_K [22, 32, 42, 55, 70, 80] 11 _ _ _ _).trans rfl
  | 3, _ => (runL_K [22, 32, 42, 55, 70, 80] 11 _ _ _ _).trans rfl
set_option maxRecDepth 100000 in
theorem e116_32 (L d : Nat) (s : Nat) (hs : s < 4) (x1 : Int32) (x2 : Int32) (h : PH) : runL (g2 L) d 10 false (some .int) kc_116 32 [.ref (213 + 10 * s), .int x1, .int x2] [] h
  = asr (inB (hI h (213 + 10 * s) 0) 300) (runL (g2 L) d 10 false (some .int) kc_116 42 [.ref (213 + 10 * s), .int x1, .int x2] [] (wI h (213 + 10 * s + 3) (ix (hI h (213 + 10 * s) 0)) m1)) := match s, hs with
  | 0, _ => (runL_K [22, 32, 42, 55, 70, 80] 11 _ _ _ _).trans rfl
  | 1, _ => (runL_K [22, 32, 42, 55, 70, 80] 11 _ _ _ _).trans rfl
  | 2, _ => (runL_K [22, 32, 42, 55, 70, 80] 11 _ _ _ _).trans rfl
  | 3, _ => (runL_K [22, 32, 42, 55, 70, 80] 11 _ _ _ _).trans rfl
set_option maxRecDepth 100000 in
theorem e116_42 (L d : Nat) (s : Nat) (hs : s < 4) (x1 : Int32) (x2 : Int32) (h : PH) : runL (g2 L) d 10 false (some .int) kc_116 42 [.ref (213 + 10 * s), .int x1, .int x2] [] h
  = cI (exec (g2 L) d 117 [.int x1] h) fun r2 h1 => asr (inB (hI h (213 + 10 * s) 0) 300) (runL (g2 L) d 10 false (some .int) kc_116 55 [.ref (213 + 10 * s), .int x1, .int x2] [] (wI h1 (213 + 10 * s + 4) (ix (hI h (213 + 10 * s) 0)) r2)) := match s, hs with
  | 0, _ => (runL_K [22, 32, 42, 55, 70, 80] 12 _ _ _ _).trans rfl
  | 1, _ => (runL_K [22, 32, 42, 55, 70, 80] 12 _ _ _ _).trans rfl
  | 2, _ => (runL_K [22, 32, 42, 55, 70, 80] 12 _ _ _ _).trans rfl
  | 3, _ => (runL_K [22, 32, 42, 55, 70, 80] 12 _ _ _ _).trans rfl
set_option maxRecDepth 100000 in
theorem e116_55 (L d : Nat) (s : Nat) (hs : s < 4) (x1 : Int32) (x2 : Int32) (h : PH) : runL (g2 L) d 10 false (some .int) kc_116 55 [.ref (213 + 10 * s), .int x1, .int x2] [] h
  = cI (exec (g2 L) d 118 [.int x1] h) fun r2 h1 => runL (g2 L) d 10 false (some .int) kc_116 70 [.ref (213 + 10 * s), .int x1, .int x2] [] (wI h1 (213 + 10 * s) 12 (if (hI h (213 + 10 * s) 12) < r2 then r2 else (hI h (213 + 10 * s) 12))) := match s, hs with
  | 0, _ => (runL_K [22, 32, 42, 55, 70, 80] 12 _ _ _ _).trans rfl
  | 1, _ => (runL_K [22, 32, 42, 55, 70, 80] 12 _ _ _ _).trans rfl
  | 2, _ => (runL_K [22, 32, 42, 55, 70, 80] 12 _ _ _ _).trans rfl
  | 3, _ => (runL_K [22, 32, 42, 55, 70, 80] 12 _ _ _ _).trans rfl
set_option maxRecDepth 100000 in
theorem e116_70 (L d : Nat) (s : Nat) (hs : s < 4) (x1 : Int32) (x2 : Int32) (h : PH) : runL (g2 L) d 10 false (some .int) kc_116 70 [.ref (213 + 10 * s), .int x1, .int x2] [] h
  = runL (g2 L) d 10 false (some .int) kc_116 80 [.ref (213 + 10 * s), .int x1, .int x2] [] (wI h (213 + 10 * s) 0 ((hI h (213 + 10 * s) 0) + (nI 1))) := match s, hs with
  | 0, _ => (runL_K [22, 32, 42, 55, 70, 80] 11 _ _ _ _).trans rfl
  | 1, _ => (runL_K [22, 32, 42, 55, 70, 80] 11 _ _ _ _).trans rfl
  | 2, _ => (runL_K [22, 32, 42, 55, 70, 80] 11 _ _ _ _).trans rfl
  | 3, _ => (runL_K [22, 32, 42, 55, 70, 80] 11 _ _ _ _).trans rfl
set_option maxRecDepth 100000 in
theorem e116_80 (L d : Nat) (s : Nat) (hs : s < 4) (x1 : Int32) (x2 : Int32) (h : PH) : runL (g2 L) d 10 false (some .int) kc_116 80 [.ref (213 + 10 * s), .int x1, .int x2] [] h
  = some (some (.int ((hI h (213 + 10 * s) 0) - (nI 1))), h) := match s, hs with
  | 0, _ => (runL_K [22, 32, 42, 55, 70, 80] 10 _ _ _ _).trans rfl
  | 1, _ => (runL_K [22, 32, 42, 55, 70, 80] 10 _ _ _ _).trans rfl
  | 2, _ => (runL_K [22, 32, 42, 55, 70, 80] 10 _ _ _ _).trans rfl
  | 3, _ => (runL_K [22, 32, 42, 55, 70, 80] 10 _ _ _ _).trans rfl
set_option maxRecDepth 100000 in
theorem x116 (L d : Nat) (s : Nat) (hs : s < 4) (x1 : Int32) (x2 : Int32) (h : PH) : exec (g2 L) (d + 1) 116 [.ref (213 + 10 * s), .int x1, .int x2] h
  = if (hI h (213 + 10 * s) 0) < (nI 300) then asr (inB (hI h (213 + 10 * s) 0) 300) (runL (g2 L) d 10 false (some .int) kc_116 22 [.ref (213 + 10 * s), .int x1, .int x2] [] (wI h (213 + 10 * s + 1) (ix (hI h (213 + 10 * s) 0)) x1)) else some (some (.int m1), h) := (exec_M (by rfl) _ _ rfl).trans (e116_0 L d s hs x1 x2 h)
set_option maxRecDepth 100000 in
theorem e117_0 (L d : Nat) (x0 : Int32) (h : PH) : runL (g2 L) d 10 false (some .int) kc_117 0 [.int x0] [] h
  = if x0 = (nI 12) then some (some (.int (nI 3)), h) else if x0 = (nI 13) then some (some (.int (nI 2)), h) else if x0 = (nI 14) then some (some (.int (nI 3)), h) else if x0 = (nI 15) then some (some (.int (nI 1)), h) else if x0 = (nI 16) then some (some (.int (nI 1)), h) else some (some (.int (nI 0)), h) := (runL_K [] 15 _ _ _ _).trans rfl
set_option maxRecDepth 100000 in
theorem x117 (L d : Nat) (x0 : Int32) (h : PH) : exec (g2 L) (d + 1) 117 [.int x0] h
  = if x0 = (nI 12) then some (some (.int (nI 3)), h) else if x0 = (nI 13) then some (some (.int (nI 2)), h) else if x0 = (nI 14) then some (some (.int (nI 3)), h) else if x0 = (nI 15) then some (some (.int (nI 1)), h) else if x0 = (nI 16) then some (some (.int (nI 1)), h) else some (some (.int (nI 0)), h) := (exec_M (by rfl) _ _ rfl).trans (e117_0 L d x0 h)
set_option maxRecDepth 100000 in
theorem e118_0 (L d : Nat) (x0 : Int32) (h : PH) : runL (g2 L) d 10 false (some .int) kc_118 0 [.int x0] [] h
  = if x0 = (nI 12) then some (some (.int (nI 60)), h) else if x0 = (nI 13) then some (some (.int (nI 1440)), h) else if x0 = (nI 14) then some (some (.int (nI 1440)), h) else if x0 = (nI 15) then some (some (.int (nI 10080)), h) else if x0 = (nI 16) then some (some (.int (nI 576000)), h) else some (some (.int (nI 1)), h) := (runL_K [] 17 _ _ _ _).trans rfl
set_option maxRecDepth 100000 in
theorem x118 (L d : Nat) (x0 : Int32) (h : PH) : exec (g2 L) (d + 1) 118 [.int x0] h
  = if x0 = (nI 12) then some (some (.int (nI 60)), h) else if x0 = (nI 13) then some (some (.int (nI 1440)), h) else if x0 = (nI 14) then some (some (.int (nI 1440)), h) else if x0 = (nI 15) then some (some (.int (nI 10080)), h) else if x0 = (nI 16) then some (some (.int (nI 576000)), h) else some (some (.int (nI 1)), h) := (exec_M (by rfl) _ _ rfl).trans (e118_0 L d x0 h)
set_option maxRecDepth 100000 in
theorem e119_0 (L d : Nat) (x1 : Int32) (h : PH) : runL (g2 L) d 8 false (some .int) kc_119 0 [.ref 207, .int x1, dm] [] h
  = cV (exec (g2 L) d 108 [.ref 207] h) fun h1 => cI (exec (g2 L) d 113 [.ref 207, .int x1] h1) fun r3 h2 => if (hI h2 207 1) = (nI 0) then if (hI h2 207 5) = (nI 7) then cV (exec (g2 L) d 108 [.ref 207] h2) fun h4 => some (some (.int r3), h4) else cI (exec (g2 L) d 105 [.ref 207, .int (nI 1)] h2) fun r6 h5 => some (some (.int r6), h5) else some (some (.int m1), h2) := (runL_K [] 28 _ _ _ _).trans rfl
set_option maxRecDepth 100000 in
theorem x119 (L d : Nat) (x1 : Int32) (h : PH) : exec (g2 L) (d + 1) 119 [.ref 207, .int x1] h
  = cV (exec (g2 L) d 108 [.ref 207] h) fun h1 => cI (exec (g2 L) d 113 [.ref 207, .int x1] h1) fun r3 h2 => if (hI h2 207 1) = (nI 0) then if (hI h2 207 5) = (nI 7) then cV (exec (g2 L) d 108 [.ref 207] h2) fun h4 => some (some (.int r3), h4) else cI (exec (g2 L) d 105 [.ref 207, .int (nI 1)] h2) fun r6 h5 => some (some (.int r6), h5) else some (some (.int m1), h2) := (exec_M (by rfl) _ _ rfl).trans (e119_0 L d x1 h)
set_option maxRecDepth 100000 in
theorem e120_0 (L d : Nat)  (h : PH) : runL (g2 L) d 8 false (some .boolean) kc_120 0 [.ref 207] [] h
  = if (hI h 207 5) = (nI 25) then some (some (.int (nI 1)), h) else if (hI h 207 5) = (nI 26) then some (some (.int (nI 1)), h) else if (hI h 207 5) ≠ (nI 27) then some (some (.int (nI 0)), h) else some (some (.int (nI 1)), h) := (runL_K [] 28 _ _ _ _).trans rfl
set_option maxRecDepth 100000 in
theorem x120 (L d : Nat)  (h : PH) : exec (g2 L) (d + 1) 120 [.ref 207] h
  = if (hI h 207 5) = (nI 25) then some (some (.int (nI 1)), h) else if (hI h 207 5) = (nI 26) then some (some (.int (nI 1)), h) else if (hI h 207 5) ≠ (nI 27) then some (some (.int (nI 0)), h) else some (some (.int (nI 1)), h) := (exec_M (by rfl) _ _ rfl).trans (e120_0 L d  h)
set_option maxRecDepth 100000 in
theorem e121_0 (L d : Nat) (s : Nat) (hs : s < 4) (x1 : Int32) (x2 : Int32) (h : PH) : runL (g2 L) d 10 false none kc_121 0 [.ref (213 + 10 * s), .int x1, .int x2] [] h
  = if (nI 12) ≤ (hI h (213 + 10 * s) 1) then some (none, h) else if x2 < (nI 0) then some (none, h) else if (hI h (213 + 10 * s) 0) ≤ x2 then some (none, h) else asr (inB (hI h (213 + 10 * s) 1) 12) (asr (inB (hI h (213 + 10 * s) 1) 12) (some (none, wI (wI (wI h (213 + 10 * s + 8) (ix (hI h (213 + 10 * s) 1)) x1) (213 + 10 * s + 9) (ix (hI h (213 + 10 * s) 1)) x2) (213 + 10 * s) 1 ((hI h (213 + 10 * s) 1) + (nI 1))))) := match s, hs with
  | 0, _ => (runL_K [] 37 _ _ _ _).trans rfl
  | 1, _ => (runL_K [] 37 _ _ _ _).trans rfl
  | 2, _ => (runL_K [] 37 _ _ _ _).trans rfl
  | 3, _ => (runL_K [] 37 _ _ _ _).trans rfl
set_option maxRecDepth 100000 in
theorem x121 (L d : Nat) (s : Nat) (hs : s < 4) (x1 : Int32) (x2 : Int32) (h : PH) : exec (g2 L) (d + 1) 121 [.ref (213 + 10 * s), .int x1, .int x2] h
  = if (nI 12) ≤ (hI h (213 + 10 * s) 1) then some (none, h) else if x2 < (nI 0) then some (none, h) else if (hI h (213 + 10 * s) 0) ≤ x2 then some (none, h) else asr (inB (hI h (213 + 10 * s) 1) 12) (asr (inB (hI h (213 + 10 * s) 1) 12) (some (none, wI (wI (wI h (213 + 10 * s + 8) (ix (hI h (213 + 10 * s) 1)) x1) (213 + 10 * s + 9) (ix (hI h (213 + 10 * s) 1)) x2) (213 + 10 * s) 1 ((hI h (213 + 10 * s) 1) + (nI 1))))) := (exec_M (by rfl) _ _ rfl).trans (e121_0 L d s hs x1 x2 h)
set_option maxRecDepth 100000 in
theorem e122_0 (L d : Nat) (s : Nat) (hs : s < 4) (h : PH) : runL (g2 L) d 10 false none kc_122 0 [.ref (213 + 10 * s), dm, dm, dm] [] h
  = runL (g2 L) d 10 false none kc_122 4 [.ref (213 + 10 * s), .int (nI 0), .int (nI 0), dm] [] h := match s, hs with
  | 0, _ => (runL_K [4, 18] 9 _ _ _ _).trans rfl
  | 1, _ => (runL_K [4, 18] 9 _ _ _ _).trans rfl
  | 2, _ => (runL_K [4, 18] 9 _ _ _ _).trans rfl
  | 3, _ => (runL_K [4, 18] 9 _ _ _ _).trans rfl
set_option maxRecDepth 100000 in
theorem e122_4 (L d : Nat) (s : Nat) (hs : s < 4) (x1 : Int32) (x2 : Int32) (v3 : Value) (h : PH) : runL (g2 L) d 10 false none kc_122 4 [.ref (213 + 10 * s), .int x1, .int x2, v3] [] h
  = if (nI 4) ≤ x2 then some (none, h) else asr (inB x2 4) (runL (g2 L) d 10 false none kc_122 18 [.ref (213 + 10 * s), .int x1, .int x2, .int (nI 0)] [] (wI h (213 + 10 * s + 6) (ix x2) x1)) := match s, hs with
  | 0, _ => (runL_K [4, 18] 16 _ _ _ _).trans rfl
  | 1, _ => (runL_K [4, 18] 16 _ _ _ _).trans rfl
  | 2, _ => (runL_K [4, 18] 16 _ _ _ _).trans rfl
  | 3, _ => (runL_K [4, 18] 16 _ _ _ _).trans rfl
set_option maxRecDepth 100000 in
theorem e122_18 (L d : Nat) (s : Nat) (hs : s < 4) (x1 : Int32) (x2 : Int32) (x3 : Int32) (h : PH) : runL (g2 L) d 10 false none kc_122 18 [.ref (213 + 10 * s), .int x1, .int x2, .int x3] [] h
  = if (hI h (213 + 10 * s) 0) ≤ x3 then runL (g2 L) d 10 false none kc_122 4 [.ref (213 + 10 * s), .int x1, .int (x2 + (nI 1)), .int x3] [] h else asr (inB x3 300) (if (hI h (213 + 10 * s + 4) (ix x3)) ≠ x2 then runL (g2 L) d 10 false none kc_122 18 [.ref (213 + 10 * s), .int x1, .int x2, .int (x3 + (nI 1))] [] h else asr (inB x1 300) (runL (g2 L) d 10 false none kc_122 18 [.ref (213 + 10 * s), .int (x1 + (nI 1)), .int x2, .int (x3 + (nI 1))] [] (wI h (213 + 10 * s + 5) (ix x1) x3))) := match s, hs with
  | 0, _ => (runL_K [4, 18] 27 _ _ _ _).trans rfl
  | 1, _ => (runL_K [4, 18] 27 _ _ _ _).trans rfl
  | 2, _ => (runL_K [4, 18] 27 _ _ _ _).trans rfl
  | 3, _ => (runL_K [4, 18] 27 _ _ _ _).trans rfl
set_option maxRecDepth 100000 in
theorem x122 (L d : Nat) (s : Nat) (hs : s < 4) (h : PH) : exec (g2 L) (d + 1) 122 [.ref (213 + 10 * s)] h
  = runL (g2 L) d 10 false none kc_122 4 [.ref (213 + 10 * s), .int (nI 0), .int (nI 0), dm] [] h := (exec_M (by rfl) _ _ rfl).trans (e122_0 L d s hs h)
set_option maxRecDepth 100000 in
theorem e123_0 (L d : Nat) (x1 : Int32) (h : PH) : runL (g2 L) d 0 false (some .int) kc_123 0 [.ref 2, .int x1] [] h
  = if (hI h 207 0) ≠ (nI 0) then if x1 = (nI 0) then some (some (.int (hI h 207 1)), h) else if x1 = (nI 1) then some (some (.int (hI h 207 2)), h) else some (some (.int m1), h) else some (some (.int m1), h) := (runL_K [] 23 _ _ _ _).trans rfl
set_option maxRecDepth 100000 in
theorem x123 (L d : Nat) (x1 : Int32) (h : PH) : exec (g2 L) (d + 1) 123 [.ref 2, .int x1] h
  = if (hI h 207 0) ≠ (nI 0) then if x1 = (nI 0) then some (some (.int (hI h 207 1)), h) else if x1 = (nI 1) then some (some (.int (hI h 207 2)), h) else some (some (.int m1), h) else some (some (.int m1), h) := (exec_M (by rfl) _ _ rfl).trans (e123_0 L d x1 h)
set_option maxRecDepth 100000 in
theorem e124_0 (L d : Nat) (x1 : Int32) (h : PH) : runL (g2 L) d 0 false (some .boolean) kc_124 0 [.ref 2, .int x1] [] h
  = cI (exec (g2 L) d 18 [.int x1, .int m1, .int ((hI h 3 4) - (nI 1))] h) fun r2 h1 => if r2 ≠ (nI 0) then some (some (.int (nI 1)), wI h1 3 5 x1) else some (some (.int (nI 0)), h1) := (runL_K [] 22 _ _ _ _).trans rfl
set_option maxRecDepth 100000 in
theorem x124 (L d : Nat) (x1 : Int32) (h : PH) : exec (g2 L) (d + 1) 124 [.ref 2, .int x1] h
  = cI (exec (g2 L) d 18 [.int x1, .int m1, .int ((hI h 3 4) - (nI 1))] h) fun r2 h1 => if r2 ≠ (nI 0) then some (some (.int (nI 1)), wI h1 3 5 x1) else some (some (.int (nI 0)), h1) := (exec_M (by rfl) _ _ rfl).trans (e124_0 L d x1 h)
set_option maxRecDepth 100000 in
theorem e125_0 (L d : Nat) (x1 : Int32) (x2 : Int32) (h : PH) : runL (g2 L) d 0 false (some .int) kc_125 0 [.ref 2, .int x1, .int x2] [] h
  = cI (exec (g2 L) d 126 [.int x1] h) fun r2 h1 => if r2 = (nI 0) then some (some (.int m1), h1) else cI (exec (g2 L) d 127 [.int x2] h1) fun r4 h3 => if r4 ≠ (nI 0) then cI (exec (g2 L) d 128 [.ref 2, .int x1, .int x2] h3) fun r6 h5 => if r6 = (nI 0) then some (some (.int (nI 0)), h5) else some (some (.int (nI 1)), h5) else some (some (.int m1), h3) := (runL_K [] 25 _ _ _ _).trans rfl
set_option maxRecDepth 100000 in
theorem x125 (L d : Nat) (x1 : Int32) (x2 : Int32) (h : PH) : exec (g2 L) (d + 1) 125 [.ref 2, .int x1, .int x2] h
  = cI (exec (g2 L) d 126 [.int x1] h) fun r2 h1 => if r2 = (nI 0) then some (some (.int m1), h1) else cI (exec (g2 L) d 127 [.int x2] h1) fun r4 h3 => if r4 ≠ (nI 0) then cI (exec (g2 L) d 128 [.ref 2, .int x1, .int x2] h3) fun r6 h5 => if r6 = (nI 0) then some (some (.int (nI 0)), h5) else some (some (.int (nI 1)), h5) else some (some (.int m1), h3) := (exec_M (by rfl) _ _ rfl).trans (e125_0 L d x1 x2 h)
set_option maxRecDepth 100000 in
theorem e126_0 (L d : Nat) (x0 : Int32) (h : PH) : runL (g2 L) d 0 false (some .boolean) kc_126 0 [.int x0] [] h
  = cI (exec (g2 L) d 18 [.int x0, .int (nI 0), .int (nI 3)] h) fun r2 h1 => asr (decide (nrZ r2 = r2)) (some (some (.int r2), h1)) := (runL_K [] 10 _ _ _ _).trans rfl
set_option maxRecDepth 100000 in
theorem x126 (L d : Nat) (x0 : Int32) (h : PH) : exec (g2 L) (d + 1) 126 [.int x0] h
  = cI (exec (g2 L) d 18 [.int x0, .int (nI 0), .int (nI 3)] h) fun r2 h1 => asr (decide (nrZ r2 = r2)) (some (some (.int r2), h1)) := (exec_M (by rfl) _ _ rfl).trans (e126_0 L d x0 h)
set_option maxRecDepth 100000 in
theorem e127_0 (L d : Nat) (x0 : Int32) (h : PH) : runL (g2 L) d 0 false (some .boolean) kc_127 0 [.int x0] [] h
  = cI (exec (g2 L) d 18 [.int x0, .int (nI 0), .int (nI 575999)] h) fun r2 h1 => asr (decide (nrZ r2 = r2)) (some (some (.int r2), h1)) := (runL_K [] 10 _ _ _ _).trans rfl
set_option maxRecDepth 100000 in
theorem x127 (L d : Nat) (x0 : Int32) (h : PH) : exec (g2 L) (d + 1) 127 [.int x0] h
  = cI (exec (g2 L) d 18 [.int x0, .int (nI 0), .int (nI 575999)] h) fun r2 h1 => asr (decide (nrZ r2 = r2)) (some (some (.int r2), h1)) := (exec_M (by rfl) _ _ rfl).trans (e127_0 L d x0 h)
set_option maxRecDepth 100000 in
theorem e128_0 (L d : Nat) (x1 : Int32) (x2 : Int32) (h : PH) : runL (g2 L) d 0 false (some .boolean) kc_128 0 [.ref 2, .int x1, .int x2] [] h
  = if (hI h 3 5) < (nI 0) then some (some (.int (nI 0)), h) else if (nI 4) ≤ (hI h 3 5) then some (some (.int (nI 0)), h) else asr (inB (hI h 3 5) 4) (asr (okA (g2 L) h (213 + 10 * (ix (hI h 3 5))) 30) (cI (exec (g2 L) d 129 [.ref (213 + 10 * (ix (hI h 3 5))), .int x1, .int x2] h) fun r2 h1 => if r2 = (nI 0) then some (some (.int (nI 0)), h1) else some (some (.int (nI 1)), h1))) := (runL_K [] 33 _ _ _ _).trans rfl
set_option maxRecDepth 100000 in
theorem x128 (L d : Nat) (x1 : Int32) (x2 : Int32) (h : PH) : exec (g2 L) (d + 1) 128 [.ref 2, .int x1, .int x2] h
  = if (hI h 3 5) < (nI 0) then some (some (.int (nI 0)), h) else if (nI 4) ≤ (hI h 3 5) then some (some (.int (nI 0)), h) else asr (inB (hI h 3 5) 4) (asr (okA (g2 L) h (213 + 10 * (ix (hI h 3 5))) 30) (cI (exec (g2 L) d 129 [.ref (213 + 10 * (ix (hI h 3 5))), .int x1, .int x2] h) fun r2 h1 => if r2 = (nI 0) then some (some (.int (nI 0)), h1) else some (some (.int (nI 1)), h1))) := (exec_M (by rfl) _ _ rfl).trans (e128_0 L d x1 x2 h)
set_option maxRecDepth 100000 in
theorem e129_0 (L d : Nat) (s : Nat) (hs : s < 4) (x1 : Int32) (x2 : Int32) (h : PH) : runL (g2 L) d 10 false (some .boolean) kc_129 0 [.ref (213 + 10 * s), .int x1, .int x2, dm, dm, dm] [] h
  = cV (exec (g2 L) d 130 [.ref (213 + 10 * s), .int x2] h) fun h1 => runL (g2 L) d 10 false (some .boolean) kc_129 10 [.ref (213 + 10 * s), .int x1, .int x2, .int (nI 0), .int (nI 0), dm] [] h1 := match s, hs with
  | 0, _ => (runL_K [10, 59] 12 _ _ _ _).trans rfl
  | 1, _ => (runL_K [10, 59] 12 _ _ _ _).trans rfl
  | 2, _ => (runL_K [10, 59] 12 _ _ _ _).trans rfl
  | 3, _ => (runL_K [10, 59] 12 _ _ _ _).trans rfl
set_option maxRecDepth 100000 in
theorem e129_10 (L d : Nat) (s : Nat) (hs : s < 4) (x1 : Int32) (x2 : Int32) (x3 : Int32) (x4 : Int32) (v5 : Value) (h : PH) : runL (g2 L) d 10 false (some .boolean) kc_129 10 [.ref (213 + 10 * s), .int x1, .int x2, .int x3, .int x4, v5] [] h
  = if (hI h (213 + 10 * s) 1) ≤ x4 then asr (decide (nrZ x3 = x3)) (some (some (.int x3), h)) else asr (inB x4 12) (asr (inB (hI h (213 + 10 * s + 9) (ix x4)) 300) (if (hI h (213 + 10 * s + 7) (ix (hI h (213 + 10 * s + 9) (ix x4)))) = (nI 0) then runL (g2 L) d 10 false (some .boolean) kc_129 59 [.ref (213 + 10 * s), .int x1, .int x2, .int x3, .int x4, .int (nI 0)] [] h else asr (inB x4 12) (if (hI h (213 + 10 * s + 8) (ix x4)) ≠ m1 then runL (g2 L) d 10 false (some .boolean) kc_129 59 [.ref (213 + 10 * s), .int x1, .int x2, .int x3, .int x4, .int (nI 1)] [] h else some (some (.int (nI 0)), h)))) := match s, hs with
  | 0, _ => (runL_K [10, 59] 44 _ _ _ _).trans rfl
  | 1, _ => (runL_K [10, 59] 44 _ _ _ _).trans rfl
  | 2, _ => (runL_K [10, 59] 44 _ _ _ _).trans rfl
  | 3, _ => (runL_K [10, 59] 44 _ _ _ _).trans rfl
set_option maxRecDepth 100000 in
theorem e129_59 (L d : Nat) (s : Nat) (hs : s < 4) (x1 : Int32) (x2 : Int32) (x3 : Int32) (x4 : Int32) (x5 : Int32) (h : PH) : runL (g2 L) d 10 false (some .boolean) kc_129 59 [.ref (213 + 10 * s), .int x1, .int x2, .int x3, .int x4, .int x5] [] h
  = if x3 ≠ (nI 0) then runL (g2 L) d 10 false (some .boolean) kc_129 10 [.ref (213 + 10 * s), .int x1, .int x2, .int (nI 1), .int (x4 + (nI 1)), .int x5] [] h else if x5 = (nI 0) then runL (g2 L) d 10 false (some .boolean) kc_129 10 [.ref (213 + 10 * s), .int x1, .int x2, .int (nI 0), .int (x4 + (nI 1)), .int x5] [] h else asr (inB x4 12) (if (hI h (213 + 10 * s + 8) (ix x4)) ≠ x1 then runL (g2 L) d 10 false (some .boolean) kc_129 10 [.ref (213 + 10 * s), .int x1, .int x2, .int (nI 0), .int (x4 + (nI 1)), .int x5] [] h else runL (g2 L) d 10 false (some .boolean) kc_129 10 [.ref (213 + 10 * s), .int x1, .int x2, .int (nI 1), .int (x4 + (nI 1)), .int x5] [] h) := match s, hs with
  | 0, _ => (runL_K [10, 59] 33 _ _ _ _).trans rfl
  | 1, _ => (runL_K [10, 59] 33 _ _ _ _).trans rfl
  | 2, _ => (runL_K [10, 59] 33 _ _ _ _).trans rfl
  | 3, _ => (runL_K [10, 59] 33 _ _ _ _).trans rfl
set_option maxRecDepth 100000 in
theorem x129 (L d : Nat) (s : Nat) (hs : s < 4) (x1 : Int32) (x2 : Int32) (h : PH) : exec (g2 L) (d + 1) 129 [.ref (213 + 10 * s), .int x1, .int x2] h
  = cV (exec (g2 L) d 130 [.ref (213 + 10 * s), .int x2] h) fun h1 => runL (g2 L) d 10 false (some .boolean) kc_129 10 [.ref (213 + 10 * s), .int x1, .int x2, .int (nI 0), .int (nI 0), dm] [] h1 := (exec_M (by rfl) _ _ rfl).trans (e129_0 L d s hs x1 x2 h)
set_option maxRecDepth 100000 in
theorem e130_0 (L d : Nat) (s : Nat) (hs : s < 4) (x1 : Int32) (h : PH) : runL (g2 L) d 10 false none kc_130 0 [.ref (213 + 10 * s), .int x1, dm, dm] [] h
  = if x1 ≠ (hI h (213 + 10 * s) 11) then if (hI h (213 + 10 * s) 11) ≠ m1 then if (x1 / (nI 1440)) = ((hI h (213 + 10 * s) 11) / (nI 1440)) then if (x1 / (nI 60)) = ((hI h (213 + 10 * s) 11) / (nI 60)) then runL (g2 L) d 10 false none kc_130 68 [.ref (213 + 10 * s), .int x1, .int (nI 3), .int (hI h (213 + 10 * s + 6) (3))] [] h else runL (g2 L) d 10 false none kc_130 68 [.ref (213 + 10 * s), .int x1, .int (nI 2), .int (hI h (213 + 10 * s + 6) (2))] [] h else runL (g2 L) d 10 false none kc_130 68 [.ref (213 + 10 * s), .int x1, .int (nI 1), .int (hI h (213 + 10 * s + 6) (1))] [] h else runL (g2 L) d 10 false none kc_130 68 [.ref (213 + 10 * s), .int x1, .int (nI 0), .int (hI h (213 + 10 * s + 6) (0))] [] h else some (none, h) := match s, hs with
  | 0, _ => (runL_K [68] 60 _ _ _ _).trans rfl
  | 1, _ => (runL_K [68] 60 _ _ _ _).trans rfl
  | 2, _ => (runL_K [68] 60 _ _ _ _).trans rfl
  | 3, _ => (runL_K [68] 60 _ _ _ _).trans rfl
set_option maxRecDepth 100000 in
theorem e130_68 (L d : Nat) (s : Nat) (hs : s < 4) (x1 : Int32) (x2 : Int32) (x3 : Int32) (h : PH) : runL (g2 L) d 10 false none kc_130 68 [.ref (213 + 10 * s), .int x1, .int x2, .int x3] [] h
  = if (hI h (213 + 10 * s) 0) ≤ x3 then some (none, wI h (213 + 10 * s) 11 x1) else asr (inB x3 300) (asr (inB x3 300) (cI (exec (g2 L) d 131 [.ref (213 + 10 * s), .int (hI h (213 + 10 * s + 5) (ix x3)), .int x1] h) fun r2 h1 => asr (inB (hI h (213 + 10 * s + 5) (ix x3)) 300) (runL (g2 L) d 10 false none kc_130 68 [.ref (213 + 10 * s), .int x1, .int x2, .int (x3 + (nI 1))] [] (wI h1 (213 + 10 * s + 7) (ix (hI h (213 + 10 * s + 5) (ix x3))) r2)))) := match s, hs with
  | 0, _ => (runL_K [68] 29 _ _ _ _).trans rfl
  | 1, _ => (runL_K [68] 29 _ _ _ _).trans rfl
  | 2, _ => (runL_K [68] 29 _ _ _ _).trans rfl
  | 3, _ => (runL_K [68] 29 _ _ _ _).trans rfl
set_option maxRecDepth 100000 in
theorem x130 (L d : Nat) (s : Nat) (hs : s < 4) (x1 : Int32) (h : PH) : exec (g2 L) (d + 1) 130 [.ref (213 + 10 * s), .int x1] h
  = if x1 ≠ (hI h (213 + 10 * s) 11) then if (hI h (213 + 10 * s) 11) ≠ m1 then if (x1 / (nI 1440)) = ((hI h (213 + 10 * s) 11) / (nI 1440)) then if (x1 / (nI 60)) = ((hI h (213 + 10 * s) 11) / (nI 60)) then runL (g2 L) d 10 false none kc_130 68 [.ref (213 + 10 * s), .int x1, .int (nI 3), .int (hI h (213 + 10 * s + 6) (3))] [] h else runL (g2 L) d 10 false none kc_130 68 [.ref (213 + 10 * s), .int x1, .int (nI 2), .int (hI h (213 + 10 * s + 6) (2))] [] h else runL (g2 L) d 10 false none kc_130 68 [.ref (213 + 10 * s), .int x1, .int (nI 1), .int (hI h (213 + 10 * s + 6) (1))] [] h else runL (g2 L) d 10 false none kc_130 68 [.ref (213 + 10 * s), .int x1, .int (nI 0), .int (hI h (213 + 10 * s + 6) (0))] [] h else some (none, h) := (exec_M (by rfl) _ _ rfl).trans (e130_0 L d s hs x1 h)
set_option maxRecDepth 100000 in
theorem e131_0 (L d : Nat) (s : Nat) (hs : s < 4) (x1 : Int32) (x2 : Int32) (h : PH) : runL (g2 L) d 10 false (some .int) kc_131 0 [.ref (213 + 10 * s), .int x1, .int x2] [] h
  = asr (inB x1 300) (if (hI h (213 + 10 * s + 1) (ix x1)) = (nI 2) then asr (inB x1 300) (some (some (.int (hI h (213 + 10 * s + 2) (ix x1))), h)) else if (hI h (213 + 10 * s + 1) (ix x1)) = (nI 3) then runL (g2 L) d 10 false (some .int) kc_131 122 [.ref (213 + 10 * s), .int x1, .int x2] [] h else if (hI h (213 + 10 * s + 1) (ix x1)) = (nI 4) then runL (g2 L) d 10 false (some .int) kc_131 122 [.ref (213 + 10 * s), .int x1, .int x2] [] h else if (hI h (213 + 10 * s + 1) (ix x1)) = (nI 5) then runL (g2 L) d 10 false (some .int) kc_131 122 [.ref (213 + 10 * s), .int x1, .int x2] [] h else if (hI h (213 + 10 * s + 1) (ix x1)) = (nI 6) then runL (g2 L) d 10 false (some .int) kc_131 122 [.ref (213 + 10 * s), .int x1, .int x2] [] h else if (hI h (213 + 10 * s + 1) (ix x1)) = (nI 7) then runL (g2 L) d 10 false (some .int) kc_131 122 [.ref (213 + 10 * s), .int x1, .int x2] [] h else if (hI h (213 + 10 * s + 1) (ix x1)) = (nI 8) then runL (g2 L) d 10 false (some .int) kc_131 122 [.ref (213 + 10 * s), .int x1, .int x2] [] h else if (hI h (213 + 10 * s + 1) (ix x1)) = (nI 9) then runL (g2 L) d 10 false (some .int) kc_131 122 [.ref (213 + 10 * s), .int x1, .int x2] [] h else if (hI h (213 + 10 * s + 1) (ix x1)) = (nI 10) then runL (g2 L) d 10 false (some .int) kc_131 122 [.ref (213 + 10 * s), .int x1, .int x2] [] h else if (hI h (213 + 10 * s + 1) (ix x1)) = (nI 11) then runL (g2 L) d 10 false (some .int) kc_131 122 [.ref (213 + 10 * s), .int x1, .int x2] [] h else if (hI h (213 + 10 * s + 1) (ix x1)) = (nI 12) then some (some (.int (x2 % (nI 60))), h) else if (hI h (213 + 10 * s + 1) (ix x1)) = (nI 13) then some (some (.int ((x2 % (nI 1440)) / (nI 60))), h) else if (hI h (213 + 10 * s + 1) (ix x1)) = (nI 14) then some (some (.int (x2 % (nI 1440))), h) else if (hI h (213 + 10 * s + 1) (ix x1)) = (nI 15) then some (some (.int ((x2 / (nI 1440)) % (nI 7))), h) else if (hI h (213 + 10 * s + 1) (ix x1)) = (nI 16) then some (some (.int (x2 / (nI 1440))), h) else runL (g2 L) d 10 false (some .int) kc_131 122 [.ref (213 + 10 * s), .int x1, .int x2] [] h) := match s, hs with
  | 0, _ => (runL_K [122] 39 _ _ _ _).trans rfl
  | 1, _ => (runL_K [122] 39 _ _ _ _).trans rfl
  | 2, _ => (runL_K [122] 39 _ _ _ _).trans rfl
  | 3, _ => (runL_K [122] 39 _ _ _ _).trans rfl
set_option maxRecDepth 100000 in
theorem e131_122 (L d : Nat) (s : Nat) (hs : s < 4) (x1 : Int32) (x2 : Int32) (h : PH) : runL (g2 L) d 10 false (some .int) kc_131 122 [.ref (213 + 10 * s), .int x1, .int x2] [] h
  = asr (inB x1 300) (asr (inB x1 300) (asr (inB (hI h (213 + 10 * s + 2) (ix x1)) 300) (asr (inB x1 300) (asr (inB (hI h (213 + 10 * s + 3) (ix x1)) 300) (cI (exec (g2 L) d 132 [.int (hI h (213 + 10 * s + 1) (ix x1)), .int (hI h (213 + 10 * s + 7) (ix (hI h (213 + 10 * s + 2) (ix x1)))), .int (hI h (213 + 10 * s + 7) (ix (hI h (213 + 10 * s + 3) (ix x1))))] h) fun r2 h1 => some (some (.int r2), h1)))))) := match s, hs with
  | 0, _ => (runL_K [122] 25 _ _ _ _).trans rfl
  | 1, _ => (runL_K [122] 25 _ _ _ _).trans rfl
  | 2, _ => (runL_K [122] 25 _ _ _ _).trans rfl
  | 3, _ => (runL_K [122] 25 _ _ _ _).trans rfl
set_option maxRecDepth 100000 in
theorem x131 (L d : Nat) (s : Nat) (hs : s < 4) (x1 : Int32) (x2 : Int32) (h : PH) : exec (g2 L) (d + 1) 131 [.ref (213 + 10 * s), .int x1, .int x2] h
  = asr (inB x1 300) (if (hI h (213 + 10 * s + 1) (ix x1)) = (nI 2) then asr (inB x1 300) (some (some (.int (hI h (213 + 10 * s + 2) (ix x1))), h)) else if (hI h (213 + 10 * s + 1) (ix x1)) = (nI 3) then runL (g2 L) d 10 false (some .int) kc_131 122 [.ref (213 + 10 * s), .int x1, .int x2] [] h else if (hI h (213 + 10 * s + 1) (ix x1)) = (nI 4) then runL (g2 L) d 10 false (some .int) kc_131 122 [.ref (213 + 10 * s), .int x1, .int x2] [] h else if (hI h (213 + 10 * s + 1) (ix x1)) = (nI 5) then runL (g2 L) d 10 false (some .int) kc_131 122 [.ref (213 + 10 * s), .int x1, .int x2] [] h else if (hI h (213 + 10 * s + 1) (ix x1)) = (nI 6) then runL (g2 L) d 10 false (some .int) kc_131 122 [.ref (213 + 10 * s), .int x1, .int x2] [] h else if (hI h (213 + 10 * s + 1) (ix x1)) = (nI 7) then runL (g2 L) d 10 false (some .int) kc_131 122 [.ref (213 + 10 * s), .int x1, .int x2] [] h else if (hI h (213 + 10 * s + 1) (ix x1)) = (nI 8) then runL (g2 L) d 10 false (some .int) kc_131 122 [.ref (213 + 10 * s), .int x1, .int x2] [] h else if (hI h (213 + 10 * s + 1) (ix x1)) = (nI 9) then runL (g2 L) d 10 false (some .int) kc_131 122 [.ref (213 + 10 * s), .int x1, .int x2] [] h else if (hI h (213 + 10 * s + 1) (ix x1)) = (nI 10) then runL (g2 L) d 10 false (some .int) kc_131 122 [.ref (213 + 10 * s), .int x1, .int x2] [] h else if (hI h (213 + 10 * s + 1) (ix x1)) = (nI 11) then runL (g2 L) d 10 false (some .int) kc_131 122 [.ref (213 + 10 * s), .int x1, .int x2] [] h else if (hI h (213 + 10 * s + 1) (ix x1)) = (nI 12) then some (some (.int (x2 % (nI 60))), h) else if (hI h (213 + 10 * s + 1) (ix x1)) = (nI 13) then some (some (.int ((x2 % (nI 1440)) / (nI 60))), h) else if (hI h (213 + 10 * s + 1) (ix x1)) = (nI 14) then some (some (.int (x2 % (nI 1440))), h) else if (hI h (213 + 10 * s + 1) (ix x1)) = (nI 15) then some (some (.int ((x2 / (nI 1440)) % (nI 7))), h) else if (hI h (213 + 10 * s + 1) (ix x1)) = (nI 16) then some (some (.int (x2 / (nI 1440))), h) else runL (g2 L) d 10 false (some .int) kc_131 122 [.ref (213 + 10 * s), .int x1, .int x2] [] h) := (exec_M (by rfl) _ _ rfl).trans (e131_0 L d s hs x1 x2 h)
set_option maxRecDepth 100000 in
theorem e132_0 (L d : Nat) (x0 : Int32) (x1 : Int32) (x2 : Int32) (h : PH) : runL (g2 L) d 10 false (some .int) kc_132 0 [.int x0, .int x1, .int x2] [] h
  = if x0 = (nI 23) then cI (exec (g2 L) d 133 [.long (x1.toInt64 + x2.toInt64)] h) fun r2 h1 => some (some (.int r2), h1) else if x0 = (nI 24) then cI (exec (g2 L) d 133 [.long (x1.toInt64 - x2.toInt64)] h) fun r4 h3 => some (some (.int r4), h3) else if x0 = (nI 25) then cI (exec (g2 L) d 133 [.long (x1.toInt64 * x2.toInt64)] h) fun r6 h5 => some (some (.int r6), h5) else if x0 = (nI 26) then if x2 ≠ (nI 0) then if x2 = nI 0 then none else some (some (.int (x1 / x2)), h) else some (some (.int (nI 0)), h) else if x0 = (nI 27) then if x2 ≠ (nI 0) then if x2 = nI 0 then none else some (some (.int (x1 % x2)), h) else some (some (.int (nI 0)), h) else if x0 = (nI 28) then some (some (.int (-x1)), h) else cI (exec (g2 L) d 134 [.int x0, .int x1, .int x2] h) fun r8 h7 => if r8 = (nI 0) then some (some (.int (nI 0)), h7) else some (some (.int (nI 1)), h7) := (runL_K [] 59 _ _ _ _).trans rfl
set_option maxRecDepth 100000 in
theorem x132 (L d : Nat) (x0 : Int32) (x1 : Int32) (x2 : Int32) (h : PH) : exec (g2 L) (d + 1) 132 [.int x0, .int x1, .int x2] h
  = if x0 = (nI 23) then cI (exec (g2 L) d 133 [.long (x1.toInt64 + x2.toInt64)] h) fun r2 h1 => some (some (.int r2), h1) else if x0 = (nI 24) then cI (exec (g2 L) d 133 [.long (x1.toInt64 - x2.toInt64)] h) fun r4 h3 => some (some (.int r4), h3) else if x0 = (nI 25) then cI (exec (g2 L) d 133 [.long (x1.toInt64 * x2.toInt64)] h) fun r6 h5 => some (some (.int r6), h5) else if x0 = (nI 26) then if x2 ≠ (nI 0) then if x2 = nI 0 then none else some (some (.int (x1 / x2)), h) else some (some (.int (nI 0)), h) else if x0 = (nI 27) then if x2 ≠ (nI 0) then if x2 = nI 0 then none else some (some (.int (x1 % x2)), h) else some (some (.int (nI 0)), h) else if x0 = (nI 28) then some (some (.int (-x1)), h) else cI (exec (g2 L) d 134 [.int x0, .int x1, .int x2] h) fun r8 h7 => if r8 = (nI 0) then some (some (.int (nI 0)), h7) else some (some (.int (nI 1)), h7) := (exec_M (by rfl) _ _ rfl).trans (e132_0 L d x0 x1 x2 h)
set_option maxRecDepth 100000 in
theorem e133_0 (L d : Nat) (x0 : Int64) (h : PH) : runL (g2 L) d 10 false (some .int) kc_133 0 [.long x0, dm] [] h
  = some (some (.int ((if (if x0 < (1000000 : Int64) then x0 else (1000000 : Int64)) < ((-1000000) : Int64) then ((-1000000) : Int64) else (if x0 < (1000000 : Int64) then x0 else (1000000 : Int64))).toInt32)), h) := (runL_K [] 12 _ _ _ _).trans rfl
set_option maxRecDepth 100000 in
theorem x133 (L d : Nat) (x0 : Int64) (h : PH) : exec (g2 L) (d + 1) 133 [.long x0] h
  = some (some (.int ((if (if x0 < (1000000 : Int64) then x0 else (1000000 : Int64)) < ((-1000000) : Int64) then ((-1000000) : Int64) else (if x0 < (1000000 : Int64) then x0 else (1000000 : Int64))).toInt32)), h) := (exec_M (by rfl) _ _ rfl).trans (e133_0 L d x0 h)
set_option maxRecDepth 100000 in
theorem e134_0 (L d : Nat) (x0 : Int32) (x1 : Int32) (x2 : Int32) (h : PH) : runL (g2 L) d 10 false (some .boolean) kc_134 0 [.int x0, .int x1, .int x2] [] h
  = if x0 = (nI 9) then if x1 ≠ (nI 0) then some (some (.int (nI 1)), h) else if x2 = (nI 0) then some (some (.int (nI 0)), h) else some (some (.int (nI 1)), h) else if x0 = (nI 10) then if x1 = (nI 0) then some (some (.int (nI 0)), h) else if x2 = (nI 0) then some (some (.int (nI 0)), h) else some (some (.int (nI 1)), h) else if x0 = (nI 11) then if x1 ≠ (nI 0) then some (some (.int (nI 0)), h) else some (some (.int (nI 1)), h) else if x0 = (nI 12) then some (some (.int (nI 0)), h) else if x0 = (nI 13) then some (some (.int (nI 0)), h) else if x0 = (nI 14) then some (some (.int (nI 0)), h) else if x0 = (nI 15) then some (some (.int (nI 0)), h) else if x0 = (nI 16) then some (some (.int (nI 0)), h) else if x0 = (nI 17) then if x2 ≤ x1 then some (some (.int (nI 0)), h) else some (some (.int (nI 1)), h) else if x0 = (nI 18) then if x2 < x1 then some (some (.int (nI 0)), h) else some (some (.int (nI 1)), h) else if x0 = (nI 19) then if x1 ≤ x2 then some (some (.int (nI 0)), h) else some (some (.int (nI 1)), h) else if x0 = (nI 20) then if x1 < x2 then some (some (.int (nI 0)), h) else some (some (.int (nI 1)), h) else if x0 = (nI 21) then if x1 ≠ x2 then some (some (.int (nI 0)), h) else some (some (.int (nI 1)), h) else if x0 = (nI 22) then if x1 = x2 then some (some (.int (nI 0)), h) else some (some (.int (nI 1)), h) else some (some (.int (nI 0)), h) := (runL_K [] 87 _ _ _ _).trans rfl
set_option maxRecDepth 100000 in
theorem x134 (L d : Nat) (x0 : Int32) (x1 : Int32) (x2 : Int32) (h : PH) : exec (g2 L) (d + 1) 134 [.int x0, .int x1, .int x2] h
  = if x0 = (nI 9) then if x1 ≠ (nI 0) then some (some (.int (nI 1)), h) else if x2 = (nI 0) then some (some (.int (nI 0)), h) else some (some (.int (nI 1)), h) else if x0 = (nI 10) then if x1 = (nI 0) then some (some (.int (nI 0)), h) else if x2 = (nI 0) then some (some (.int (nI 0)), h) else some (some (.int (nI 1)), h) else if x0 = (nI 11) then if x1 ≠ (nI 0) then some (some (.int (nI 0)), h) else some (some (.int (nI 1)), h) else if x0 = (nI 12) then some (some (.int (nI 0)), h) else if x0 = (nI 13) then some (some (.int (nI 0)), h) else if x0 = (nI 14) then some (some (.int (nI 0)), h) else if x0 = (nI 15) then some (some (.int (nI 0)), h) else if x0 = (nI 16) then some (some (.int (nI 0)), h) else if x0 = (nI 17) then if x2 ≤ x1 then some (some (.int (nI 0)), h) else some (some (.int (nI 1)), h) else if x0 = (nI 18) then if x2 < x1 then some (some (.int (nI 0)), h) else some (some (.int (nI 1)), h) else if x0 = (nI 19) then if x1 ≤ x2 then some (some (.int (nI 0)), h) else some (some (.int (nI 1)), h) else if x0 = (nI 20) then if x1 < x2 then some (some (.int (nI 0)), h) else some (some (.int (nI 1)), h) else if x0 = (nI 21) then if x1 ≠ x2 then some (some (.int (nI 0)), h) else some (some (.int (nI 1)), h) else if x0 = (nI 22) then if x1 = x2 then some (some (.int (nI 0)), h) else some (some (.int (nI 1)), h) else some (some (.int (nI 0)), h) := (exec_M (by rfl) _ _ rfl).trans (e134_0 L d x0 x1 x2 h)
set_option maxRecDepth 100000 in
theorem e135_0 (L d : Nat) (x1 : Int32) (x2 : Int32) (h : PH) : runL (g2 L) d 0 false (some .int) kc_135 0 [.ref 2, .int x1, .int x2] [] h
  = cI (exec (g2 L) d 126 [.int x1] h) fun r2 h1 => if r2 = (nI 0) then some (some (.int m1), h1) else cI (exec (g2 L) d 127 [.int x2] h1) fun r4 h3 => if r4 ≠ (nI 0) then cI (exec (g2 L) d 136 [.ref 2, .int x1, .int x1, .int x2, .int (nI 28800)] h3) fun r6 h5 => some (some (.int r6), h5) else some (some (.int m1), h3) := (runL_K [] 22 _ _ _ _).trans rfl
set_option maxRecDepth 100000 in
theorem x135 (L d : Nat) (x1 : Int32) (x2 : Int32) (h : PH) : exec (g2 L) (d + 1) 135 [.ref 2, .int x1, .int x2] h
  = cI (exec (g2 L) d 126 [.int x1] h) fun r2 h1 => if r2 = (nI 0) then some (some (.int m1), h1) else cI (exec (g2 L) d 127 [.int x2] h1) fun r4 h3 => if r4 ≠ (nI 0) then cI (exec (g2 L) d 136 [.ref 2, .int x1, .int x1, .int x2, .int (nI 28800)] h3) fun r6 h5 => some (some (.int r6), h5) else some (some (.int m1), h3) := (exec_M (by rfl) _ _ rfl).trans (e135_0 L d x1 x2 h)
set_option maxRecDepth 100000 in
theorem e136_0 (L d : Nat) (x1 : Int32) (x2 : Int32) (x3 : Int32) (x4 : Int32) (h : PH) : runL (g2 L) d 0 false (some .int) kc_136 0 [.ref 2, .int x1, .int x2, .int x3, .int x4, dm, dm] [] h
  = if (hI h 3 5) < (nI 0) then some (some (.int m1), h) else if (hI h 3 5) < (nI 4) then asr (inB (hI h 3 5) 4) (asr (okA (g2 L) h (213 + 10 * (ix (hI h 3 5))) 30) (runL (g2 L) d 0 false (some .int) kc_136 55 [.ref 2, .int x1, .int x2, .int x3, .int x4, .int (if (nI 576000) < (x3 + (if (hI h (213 + 10 * (ix (hI h 3 5))) 12) < x4 then (hI h (213 + 10 * (ix (hI h 3 5))) 12) else x4)) then (nI 576000) else (x3 + (if (hI h (213 + 10 * (ix (hI h 3 5))) 12) < x4 then (hI h (213 + 10 * (ix (hI h 3 5))) 12) else x4))), .int x3] [] h)) else some (some (.int m1), h) := (runL_K [55] 34 _ _ _ _).trans rfl
set_option maxRecDepth 100000 in
theorem e136_55 (L d : Nat) (x1 : Int32) (x2 : Int32) (x3 : Int32) (x4 : Int32) (x5 : Int32) (x6 : Int32) (h : PH) : runL (g2 L) d 0 false (some .int) kc_136 55 [.ref 2, .int x1, .int x2, .int x3, .int x4, .int x5, .int x6] [] h
  = if x5 ≤ x6 then some (some (.int m1), h) else cI (exec (g2 L) d 128 [.ref 2, .int x1, .int x6] h) fun r2 h1 => if r2 = (nI 0) then runL (g2 L) d 0 false (some .int) kc_136 55 [.ref 2, .int x1, .int x2, .int x3, .int x4, .int x5, .int (x6 + (nI 1))] [] h1 else cI (exec (g2 L) d 128 [.ref 2, .int x2, .int x6] h1) fun r4 h3 => if r4 = (nI 0) then runL (g2 L) d 0 false (some .int) kc_136 55 [.ref 2, .int x1, .int x2, .int x3, .int x4, .int x5, .int (x6 + (nI 1))] [] h3 else some (some (.int x6), h3) := (runL_K [55] 26 _ _ _ _).trans rfl
set_option maxRecDepth 100000 in
theorem x136 (L d : Nat) (x1 : Int32) (x2 : Int32) (x3 : Int32) (x4 : Int32) (h : PH) : exec (g2 L) (d + 1) 136 [.ref 2, .int x1, .int x2, .int x3, .int x4] h
  = if (hI h 3 5) < (nI 0) then some (some (.int m1), h) else if (hI h 3 5) < (nI 4) then asr (inB (hI h 3 5) 4) (asr (okA (g2 L) h (213 + 10 * (ix (hI h 3 5))) 30) (runL (g2 L) d 0 false (some .int) kc_136 55 [.ref 2, .int x1, .int x2, .int x3, .int x4, .int (if (nI 576000) < (x3 + (if (hI h (213 + 10 * (ix (hI h 3 5))) 12) < x4 then (hI h (213 + 10 * (ix (hI h 3 5))) 12) else x4)) then (nI 576000) else (x3 + (if (hI h (213 + 10 * (ix (hI h 3 5))) 12) < x4 then (hI h (213 + 10 * (ix (hI h 3 5))) 12) else x4))), .int x3] [] h)) else some (some (.int m1), h) := (exec_M (by rfl) _ _ rfl).trans (e136_0 L d x1 x2 x3 x4 h)
set_option maxRecDepth 100000 in
theorem e137_0 (L d : Nat) (x1 : Int32) (x2 : Int32) (h : PH) : runL (g2 L) d 0 false (some .int) kc_137 0 [.ref 2, .int x1, .int x2, dm, dm] [] h
  = cI (exec (g2 L) d 126 [.int x1] h) fun r2 h1 => if r2 = (nI 0) then some (some (.int m1), h1) else cI (exec (g2 L) d 18 [.int x2, .int (nI 0), .int (nI 399)] h1) fun r4 h3 => if r4 ≠ (nI 0) then runL (g2 L) d 0 false (some .int) kc_137 25 [.ref 2, .int x1, .int x2, .int (nI 0), .int (nI 0)] [] h3 else some (some (.int m1), h3) := (runL_K [25] 21 _ _ _ _).trans rfl
set_option maxRecDepth 100000 in
theorem e137_25 (L d : Nat) (x1 : Int32) (x2 : Int32) (x3 : Int32) (x4 : Int32) (h : PH) : runL (g2 L) d 0 false (some .int) kc_137 25 [.ref 2, .int x1, .int x2, .int x3, .int x4] [] h
  = if (nI 1440) ≤ x4 then some (some (.int x3), h) else cI (exec (g2 L) d 128 [.ref 2, .int x1, .int ((x2 * (nI 1440)) + x4)] h) fun r2 h1 => if r2 = (nI 0) then runL (g2 L) d 0 false (some .int) kc_137 25 [.ref 2, .int x1, .int x2, .int x3, .int (x4 + (nI 1))] [] h1 else runL (g2 L) d 0 false (some .int) kc_137 25 [.ref 2, .int x1, .int x2, .int (x3 + (nI 1)), .int (x4 + (nI 1))] [] h1 := (runL_K [25] 24 _ _ _ _).trans rfl
set_option maxRecDepth 100000 in
theorem x137 (L d : Nat) (x1 : Int32) (x2 : Int32) (h : PH) : exec (g2 L) (d + 1) 137 [.ref 2, .int x1, .int x2] h
  = cI (exec (g2 L) d 126 [.int x1] h) fun r2 h1 => if r2 = (nI 0) then some (some (.int m1), h1) else cI (exec (g2 L) d 18 [.int x2, .int (nI 0), .int (nI 399)] h1) fun r4 h3 => if r4 ≠ (nI 0) then runL (g2 L) d 0 false (some .int) kc_137 25 [.ref 2, .int x1, .int x2, .int (nI 0), .int (nI 0)] [] h3 else some (some (.int m1), h3) := (exec_M (by rfl) _ _ rfl).trans (e137_0 L d x1 x2 h)
set_option maxRecDepth 100000 in
theorem e138_0 (L d : Nat) (x1 : Int32) (x2 : Int32) (x3 : Int32) (h : PH) : runL (g2 L) d 0 false (some .int) kc_138 0 [.ref 2, .int x1, .int x2, .int x3] [] h
  = cI (exec (g2 L) d 126 [.int x1] h) fun r2 h1 => if r2 = (nI 0) then some (some (.int m1), h1) else cI (exec (g2 L) d 126 [.int x2] h1) fun r4 h3 => if r4 = (nI 0) then some (some (.int m1), h3) else cI (exec (g2 L) d 127 [.int x3] h3) fun r6 h5 => if r6 ≠ (nI 0) then cI (exec (g2 L) d 136 [.ref 2, .int x1, .int x2, .int x3, .int (nI 28800)] h5) fun r8 h7 => some (some (.int r8), h7) else some (some (.int m1), h5) := (runL_K [] 27 _ _ _ _).trans rfl
set_option maxRecDepth 100000 in
theorem x138 (L d : Nat) (x1 : Int32) (x2 : Int32) (x3 : Int32) (h : PH) : exec (g2 L) (d + 1) 138 [.ref 2, .int x1, .int x2, .int x3] h
  = cI (exec (g2 L) d 126 [.int x1] h) fun r2 h1 => if r2 = (nI 0) then some (some (.int m1), h1) else cI (exec (g2 L) d 126 [.int x2] h1) fun r4 h3 => if r4 = (nI 0) then some (some (.int m1), h3) else cI (exec (g2 L) d 127 [.int x3] h3) fun r6 h5 => if r6 ≠ (nI 0) then cI (exec (g2 L) d 136 [.ref 2, .int x1, .int x2, .int x3, .int (nI 28800)] h5) fun r8 h7 => some (some (.int r8), h7) else some (some (.int m1), h5) := (exec_M (by rfl) _ _ rfl).trans (e138_0 L d x1 x2 x3 h)
set_option maxRecDepth 100000 in
theorem e139_0 (L d : Nat) (x1 : Int32) (x2 : Int32) (h : PH) : runL (g2 L) d 0 false (some .int) kc_139 0 [.ref 2, .int x1, .int x2, dm, dm] [] h
  = cI (exec (g2 L) d 126 [.int x1] h) fun r2 h1 => if r2 = (nI 0) then some (some (.int m1), h1) else if x2 = m1 then if x2 ≠ m1 then asr (inB x2 16) (cI (exec (g2 L) d 140 [.ref 2, .ref (33 + ix x2)] h1) fun r4 h3 => runL (g2 L) d 0 false (some .int) kc_139 53 [.ref 2, .int x1, .int x2, dm, dm] [.int r4] h3) else runL (g2 L) d 0 false (some .int) kc_139 53 [.ref 2, .int x1, .int x2, dm, dm] [.int (hI h1 3 0)] h1 else cI (exec (g2 L) d 22 [.ref 3, .int x2] h1) fun r6 h5 => if r6 ≠ (nI 0) then if x2 ≠ m1 then asr (inB x2 16) (cI (exec (g2 L) d 140 [.ref 2, .ref (33 + ix x2)] h5) fun r8 h7 => runL (g2 L) d 0 false (some .int) kc_139 53 [.ref 2, .int x1, .int x2, dm, dm] [.int r8] h7) else runL (g2 L) d 0 false (some .int) kc_139 53 [.ref 2, .int x1, .int x2, dm, dm] [.int (hI h5 3 0)] h5 else some (some (.int m1), h5) := (runL_K [53] 48 _ _ _ _).trans rfl
set_option maxRecDepth 100000 in
theorem e139_53 (L d : Nat) (x1 : Int32) (x2 : Int32) (xs0 : Int32) (h : PH) : runL (g2 L) d 0 false (some .int) kc_139 53 [.ref 2, .int x1, .int x2, dm, dm] [.int xs0] h
  = cI (exec (g2 L) d 141 [.ref 2, .int x1, .int xs0] h) fun r2 h1 => if r2 ≠ m1 then some (some (.int (xs0 - r2)), h1) else some (some (.int m1), h1) := (runL_K [53] 21 _ _ _ _).trans rfl
set_option maxRecDepth 100000 in
theorem x139 (L d : Nat) (x1 : Int32) (x2 : Int32) (h : PH) : exec (g2 L) (d + 1) 139 [.ref 2, .int x1, .int x2] h
  = cI (exec (g2 L) d 126 [.int x1] h) fun r2 h1 => if r2 = (nI 0) then some (some (.int m1), h1) else if x2 = m1 then if x2 ≠ m1 then asr (inB x2 16) (cI (exec (g2 L) d 140 [.ref 2, .ref (33 + ix x2)] h1) fun r4 h3 => runL (g2 L) d 0 false (some .int) kc_139 53 [.ref 2, .int x1, .int x2, dm, dm] [.int r4] h3) else runL (g2 L) d 0 false (some .int) kc_139 53 [.ref 2, .int x1, .int x2, dm, dm] [.int (hI h1 3 0)] h1 else cI (exec (g2 L) d 22 [.ref 3, .int x2] h1) fun r6 h5 => if r6 ≠ (nI 0) then if x2 ≠ m1 then asr (inB x2 16) (cI (exec (g2 L) d 140 [.ref 2, .ref (33 + ix x2)] h5) fun r8 h7 => runL (g2 L) d 0 false (some .int) kc_139 53 [.ref 2, .int x1, .int x2, dm, dm] [.int r8] h7) else runL (g2 L) d 0 false (some .int) kc_139 53 [.ref 2, .int x1, .int x2, dm, dm] [.int (hI h5 3 0)] h5 else some (some (.int m1), h5) := (exec_M (by rfl) _ _ rfl).trans (e139_0 L d x1 x2 h)
set_option maxRecDepth 100000 in
theorem e140_0 (L d : Nat) (a1 : Nat) (h : PH) : runL (g2 L) d 0 false (some .int) kc_140 0 [.ref 2, .ref a1, dm, dm] [] h
  = cI (exec (g2 L) d 39 [.ref 3, .ref a1] h) fun r2 h1 => if (nI 0) ≤ ((hI h 3 0) - r2) then if (((hI h 3 0) - r2) + (nI 720)) < (nI 576000) then if ((((hI h 3 0) - r2) + (nI 720)) - (hI h1 3 0)) < ((hI h1 3 0) - ((hI h 3 0) - r2)) then some (some (.int (((hI h 3 0) - r2) + (nI 720))), h1) else some (some (.int ((hI h 3 0) - r2)), h1) else some (some (.int ((hI h 3 0) - r2)), h1) else some (some (.int (((hI h 3 0) - r2) + (nI 720))), h1) := (runL_K [] 43 _ _ _ _).trans rfl
set_option maxRecDepth 100000 in
theorem x140 (L d : Nat) (a1 : Nat) (h : PH) : exec (g2 L) (d + 1) 140 [.ref 2, .ref a1] h
  = cI (exec (g2 L) d 39 [.ref 3, .ref a1] h) fun r2 h1 => if (nI 0) ≤ ((hI h 3 0) - r2) then if (((hI h 3 0) - r2) + (nI 720)) < (nI 576000) then if ((((hI h 3 0) - r2) + (nI 720)) - (hI h1 3 0)) < ((hI h1 3 0) - ((hI h 3 0) - r2)) then some (some (.int (((hI h 3 0) - r2) + (nI 720))), h1) else some (some (.int ((hI h 3 0) - r2)), h1) else some (some (.int ((hI h 3 0) - r2)), h1) else some (some (.int (((hI h 3 0) - r2) + (nI 720))), h1) := (exec_M (by rfl) _ _ rfl).trans (e140_0 L d a1 h)
set_option maxRecDepth 100000 in
theorem e141_0 (L d : Nat) (x1 : Int32) (x2 : Int32) (h : PH) : runL (g2 L) d 0 false (some .int) kc_141 0 [.ref 2, .int x1, .int x2, dm, dm] [] h
  = runL (g2 L) d 0 false (some .int) kc_141 15 [.ref 2, .int x1, .int x2, .int (if (nI 0) < ((x2 - (nI 1440)) + (nI 1)) then ((x2 - (nI 1440)) + (nI 1)) else (nI 0)), .int x2] [] h := (runL_K [15] 15 _ _ _ _).trans rfl
set_option maxRecDepth 100000 in
theorem e141_15 (L d : Nat) (x1 : Int32) (x2 : Int32) (x3 : Int32) (x4 : Int32) (h : PH) : runL (g2 L) d 0 false (some .int) kc_141 15 [.ref 2, .int x1, .int x2, .int x3, .int x4] [] h
  = if x4 < x3 then some (some (.int m1), h) else cI (exec (g2 L) d 128 [.ref 2, .int x1, .int x4] h) fun r2 h1 => if r2 = (nI 0) then runL (g2 L) d 0 false (some .int) kc_141 15 [.ref 2, .int x1, .int x2, .int x3, .int (x4 + m1)] [] h1 else some (some (.int x4), h1) := (runL_K [15] 19 _ _ _ _).trans rfl
set_option maxRecDepth 100000 in
theorem x141 (L d : Nat) (x1 : Int32) (x2 : Int32) (h : PH) : exec (g2 L) (d + 1) 141 [.ref 2, .int x1, .int x2] h
  = runL (g2 L) d 0 false (some .int) kc_141 15 [.ref 2, .int x1, .int x2, .int (if (nI 0) < ((x2 - (nI 1440)) + (nI 1)) then ((x2 - (nI 1440)) + (nI 1)) else (nI 0)), .int x2] [] h := (exec_M (by rfl) _ _ rfl).trans (e141_0 L d x1 x2 h)
set_option maxRecDepth 100000 in
theorem e142_0 (L d : Nat) (x1 : Int32) (x2 : Int32) (h : PH) : runL (g2 L) d 0 false (some .int) kc_142 0 [.ref 2, .int x1, .int x2, dm, dm] [] h
  = cI (exec (g2 L) d 126 [.int x1] h) fun r2 h1 => if r2 = (nI 0) then some (some (.int m1), h1) else cI (exec (g2 L) d 126 [.int x2] h1) fun r4 h3 => if r4 ≠ (nI 0) then cI (exec (g2 L) d 141 [.ref 2, .int x1, .int (hI h3 3 0)] h3) fun r6 h5 => if r6 ≠ m1 then cI (exec (g2 L) d 136 [.ref 2, .int x2, .int x2, .int (r6 + (nI 1)), .int (nI 1440)] h5) fun r8 h7 => if r8 ≠ m1 then some (some (.int (r8 - r6)), h7) else some (some (.int m1), h7) else some (some (.int m1), h5) else some (some (.int m1), h3) := (runL_K [] 46 _ _ _ _).trans rfl
set_option maxRecDepth 100000 in
theorem x142 (L d : Nat) (x1 : Int32) (x2 : Int32) (h : PH) : exec (g2 L) (d + 1) 142 [.ref 2, .int x1, .int x2] h
  = cI (exec (g2 L) d 126 [.int x1] h) fun r2 h1 => if r2 = (nI 0) then some (some (.int m1), h1) else cI (exec (g2 L) d 126 [.int x2] h1) fun r4 h3 => if r4 ≠ (nI 0) then cI (exec (g2 L) d 141 [.ref 2, .int x1, .int (hI h3 3 0)] h3) fun r6 h5 => if r6 ≠ m1 then cI (exec (g2 L) d 136 [.ref 2, .int x2, .int x2, .int (r6 + (nI 1)), .int (nI 1440)] h5) fun r8 h7 => if r8 ≠ m1 then some (some (.int (r8 - r6)), h7) else some (some (.int m1), h7) else some (some (.int m1), h5) else some (some (.int m1), h3) := (exec_M (by rfl) _ _ rfl).trans (e142_0 L d x1 x2 h)
set_option maxRecDepth 100000 in
theorem e143_0 (L d : Nat)  (h : PH) : runL (g2 L) d 0 false (some .int) kc_143 0 [.ref 2] [] h
  = cV (exec (g2 L) d 144 [.ref 49, .ref 3] h) fun h1 => some (some (.int (hI h1 3 0)), h1) := (runL_K [] 14 _ _ _ _).trans rfl
set_option maxRecDepth 100000 in
theorem x143 (L d : Nat)  (h : PH) : exec (g2 L) (d + 1) 143 [.ref 2] h
  = cV (exec (g2 L) d 144 [.ref 49, .ref 3] h) fun h1 => some (some (.int (hI h1 3 0)), h1) := (exec_M (by rfl) _ _ rfl).trans (e143_0 L d  h)
set_option maxRecDepth 100000 in
theorem e144_0a (L d : Nat)  (h : PH) : runL (g2 L) d 1 false none kc_144 0 [.ref 3, .ref 49, dm] [] h
  = asr (decide (nrZ (hI h 49 2) = (hI h 49 2))) (cV (exec (g2 L) d 43 [.ref 4, .ref 50] (wI (wI (wI (wI (wI (wI h 3 0 (hI h 49 0)) 3 1 (hI h 49 1)) 3 2 (hI h 49 2)) 3 3 (hI h 49 3)) 3 4 (hI h 49 4)) 3 5 (hI h 49 5))) fun h1 => runL (g2 L) d 1 false none kc_144 61 [.ref 3, .ref 49, .int (nI 0)] [] h1) := (runL_K [61] 36 _ _ _ _).trans rfl
set_option maxRecDepth 100000 in
theorem e144_61a (L d : Nat) (x2 : Int32) (h : PH) : runL (g2 L) d 1 false none kc_144 61 [.ref 3, .ref 49, .int x2] [] h
  = if (nI 16) ≤ x2 then cV (exec (g2 L) d 145 [.ref 8, .ref 54] h) fun h1 => some (none, h1) else asr (inB x2 16) (asr (inB x2 16) (asr (okA (g2 L) h (33 + ix x2) 24) (cV (exec (g2 L) d 44 [.ref (33 + ix x2), .ref (79 + ix x2)] h) fun h2 => runL (g2 L) d 1 false none kc_144 61 [.ref 3, .ref 49, .int (x2 + (nI 1))] [] h2))) := (runL_K [61] 25 _ _ _ _).trans rfl
set_option maxRecDepth 100000 in
theorem x144a (L d : Nat)  (h : PH) : exec (g2 L) (d + 1) 144 [.ref 3, .ref 49] h
  = asr (decide (nrZ (hI h 49 2) = (hI h 49 2))) (cV (exec (g2 L) d 43 [.ref 4, .ref 50] (wI (wI (wI (wI (wI (wI h 3 0 (hI h 49 0)) 3 1 (hI h 49 1)) 3 2 (hI h 49 2)) 3 3 (hI h 49 3)) 3 4 (hI h 49 4)) 3 5 (hI h 49 5))) fun h1 => runL (g2 L) d 1 false none kc_144 61 [.ref 3, .ref 49, .int (nI 0)] [] h1) := (exec_M (by rfl) _ _ rfl).trans (e144_0a L d  h)
set_option maxRecDepth 100000 in
theorem e144_0b (L d : Nat)  (h : PH) : runL (g2 L) d 1 false none kc_144 0 [.ref 49, .ref 3, dm] [] h
  = asr (decide (nrZ (hI h 3 2) = (hI h 3 2))) (cV (exec (g2 L) d 43 [.ref 50, .ref 4] (wI (wI (wI (wI (wI (wI h 49 0 (hI h 3 0)) 49 1 (hI h 3 1)) 49 2 (hI h 3 2)) 49 3 (hI h 3 3)) 49 4 (hI h 3 4)) 49 5 (hI h 3 5))) fun h1 => runL (g2 L) d 1 false none kc_144 61 [.ref 49, .ref 3, .int (nI 0)] [] h1) := (runL_K [61] 36 _ _ _ _).trans rfl
set_option maxRecDepth 100000 in
theorem e144_61b (L d : Nat) (x2 : Int32) (h : PH) : runL (g2 L) d 1 false none kc_144 61 [.ref 49, .ref 3, .int x2] [] h
  = if (nI 16) ≤ x2 then cV (exec (g2 L) d 145 [.ref 54, .ref 8] h) fun h1 => some (none, h1) else asr (inB x2 16) (asr (inB x2 16) (asr (okA (g2 L) h (79 + ix x2) 24) (cV (exec (g2 L) d 44 [.ref (79 + ix x2), .ref (33 + ix x2)] h) fun h2 => runL (g2 L) d 1 false none kc_144 61 [.ref 49, .ref 3, .int (x2 + (nI 1))] [] h2))) := (runL_K [61] 25 _ _ _ _).trans rfl
set_option maxRecDepth 100000 in
theorem x144b (L d : Nat)  (h : PH) : exec (g2 L) (d + 1) 144 [.ref 49, .ref 3] h
  = asr (decide (nrZ (hI h 3 2) = (hI h 3 2))) (cV (exec (g2 L) d 43 [.ref 50, .ref 4] (wI (wI (wI (wI (wI (wI h 49 0 (hI h 3 0)) 49 1 (hI h 3 1)) 49 2 (hI h 3 2)) 49 3 (hI h 3 3)) 49 4 (hI h 3 4)) 49 5 (hI h 3 5))) fun h1 => runL (g2 L) d 1 false none kc_144 61 [.ref 49, .ref 3, .int (nI 0)] [] h1) := (exec_M (by rfl) _ _ rfl).trans (e144_0b L d  h)
set_option maxRecDepth 100000 in
theorem e145_0a (L d : Nat)  (h : PH) : runL (g2 L) d 3 false none kc_145 0 [.ref 8, .ref 54, dm] [] h
  = cV (exec (g2 L) d 43 [.ref 9, .ref 55] (wI (wI (wI (wI h 8 0 (hI h 54 0)) 8 1 (hI h 54 1)) 8 2 (hI h 54 2)) 8 3 (hI h 54 3))) fun h1 => runL (g2 L) d 3 false none kc_145 45 [.ref 8, .ref 54, .int (nI 0)] [] h1 := (runL_K [45] 28 _ _ _ _).trans rfl
set_option maxRecDepth 100000 in
theorem e145_45a (L d : Nat) (x2 : Int32) (h : PH) : runL (g2 L) d 3 false none kc_145 45 [.ref 8, .ref 54, .int x2] [] h
  = if (nI 16) ≤ x2 then some (none, cpy (cpy (cpy (cpy h 59 (0) 13 (0) (30)) 60 (0) 14 (0) (30)) 61 (0) 15 (0) (30)) 62 (0) 16 (0) (30)) else asr (inB x2 16) (asr (inB x2 16) (asr (okA (g2 L) h (17 + ix x2) 24) (cV (exec (g2 L) d 44 [.ref (17 + ix x2), .ref (63 + ix x2)] h) fun h1 => runL (g2 L) d 3 false none kc_145 45 [.ref 8, .ref 54, .int (x2 + (nI 1))] [] h1))) := (runL_K [45] 52 _ _ _ _).trans rfl
set_option maxRecDepth 100000 in
theorem x145a (L d : Nat)  (h : PH) : exec (g2 L) (d + 1) 145 [.ref 8, .ref 54] h
  = cV (exec (g2 L) d 43 [.ref 9, .ref 55] (wI (wI (wI (wI h 8 0 (hI h 54 0)) 8 1 (hI h 54 1)) 8 2 (hI h 54 2)) 8 3 (hI h 54 3))) fun h1 => runL (g2 L) d 3 false none kc_145 45 [.ref 8, .ref 54, .int (nI 0)] [] h1 := (exec_M (by rfl) _ _ rfl).trans (e145_0a L d  h)
set_option maxRecDepth 100000 in
theorem e145_0b (L d : Nat)  (h : PH) : runL (g2 L) d 3 false none kc_145 0 [.ref 54, .ref 8, dm] [] h
  = cV (exec (g2 L) d 43 [.ref 55, .ref 9] (wI (wI (wI (wI h 54 0 (hI h 8 0)) 54 1 (hI h 8 1)) 54 2 (hI h 8 2)) 54 3 (hI h 8 3))) fun h1 => runL (g2 L) d 3 false none kc_145 45 [.ref 54, .ref 8, .int (nI 0)] [] h1 := (runL_K [45] 28 _ _ _ _).trans rfl
set_option maxRecDepth 100000 in
theorem e145_45b (L d : Nat) (x2 : Int32) (h : PH) : runL (g2 L) d 3 false none kc_145 45 [.ref 54, .ref 8, .int x2] [] h
  = if (nI 16) ≤ x2 then some (none, cpy (cpy (cpy (cpy h 13 (0) 59 (0) (30)) 14 (0) 60 (0) (30)) 15 (0) 61 (0) (30)) 16 (0) 62 (0) (30)) else asr (inB x2 16) (asr (inB x2 16) (asr (okA (g2 L) h (63 + ix x2) 24) (cV (exec (g2 L) d 44 [.ref (63 + ix x2), .ref (17 + ix x2)] h) fun h1 => runL (g2 L) d 3 false none kc_145 45 [.ref 54, .ref 8, .int (x2 + (nI 1))] [] h1))) := (runL_K [45] 52 _ _ _ _).trans rfl
set_option maxRecDepth 100000 in
theorem x145b (L d : Nat)  (h : PH) : exec (g2 L) (d + 1) 145 [.ref 54, .ref 8] h
  = cV (exec (g2 L) d 43 [.ref 55, .ref 9] (wI (wI (wI (wI h 54 0 (hI h 8 0)) 54 1 (hI h 8 1)) 54 2 (hI h 8 2)) 54 3 (hI h 8 3))) fun h1 => runL (g2 L) d 3 false none kc_145 45 [.ref 54, .ref 8, .int (nI 0)] [] h1 := (exec_M (by rfl) _ _ rfl).trans (e145_0b L d  h)
set_option maxRecDepth 100000 in
theorem e146_0 (L d : Nat)  (h : PH) : runL (g2 L) d 0 false (some .int) kc_146 0 [.ref 2] [] h
  = cV (exec (g2 L) d 144 [.ref 3, .ref 49] h) fun h1 => cV (exec (g2 L) d 8 [.ref 163] h1) fun h2 => cV (exec (g2 L) d 6 [.ref 95] h2) fun h3 => some (some (.int (hI h3 3 0)), h3) := (runL_K [] 20 _ _ _ _).trans rfl
set_option maxRecDepth 100000 in
theorem x146 (L d : Nat)  (h : PH) : exec (g2 L) (d + 1) 146 [.ref 2] h
  = cV (exec (g2 L) d 144 [.ref 3, .ref 49] h) fun h1 => cV (exec (g2 L) d 8 [.ref 163] h1) fun h2 => cV (exec (g2 L) d 6 [.ref 95] h2) fun h3 => some (some (.int (hI h3 3 0)), h3) := (exec_M (by rfl) _ _ rfl).trans (e146_0 L d  h)
set_option maxRecDepth 100000 in
theorem e147_0 (L d : Nat) (x1 : Int32) (h : PH) : runL (g2 L) d 0 false (some .int) kc_147 0 [.ref 2, .int x1] [] h
  = if x1 = (nI 0) then some (some (.int (hI h 3 0)), h) else if x1 = (nI 1) then some (some (.int (hI h 3 1)), h) else if x1 = (nI 2) then if (hI h 3 2) = (nI 0) then some (some (.int (nI 0)), h) else some (some (.int (nI 1)), h) else if x1 = (nI 3) then some (some (.int (hI h 4 0)), h) else if x1 = (nI 4) then some (some (.int (hI h 3 3)), h) else if x1 = (nI 5) then some (some (.int (hI h 3 4)), h) else if x1 = (nI 6) then some (some (.int (hI h 3 5)), h) else if x1 = (nI 7) then some (some (.int (hI h 8 3)), h) else if x1 = (nI 8) then some (some (.int (hI h 8 0)), h) else if x1 = (nI 9) then some (some (.int (hI h 205 0)), h) else cI (exec (g2 L) d 148 [.ref 2, .int x1] h) fun r2 h1 => some (some (.int r2), h1) := (runL_K [] 59 _ _ _ _).trans rfl
set_option maxRecDepth 100000 in
theorem x147 (L d : Nat) (x1 : Int32) (h : PH) : exec (g2 L) (d + 1) 147 [.ref 2, .int x1] h
  = if x1 = (nI 0) then some (some (.int (hI h 3 0)), h) else if x1 = (nI 1) then some (some (.int (hI h 3 1)), h) else if x1 = (nI 2) then if (hI h 3 2) = (nI 0) then some (some (.int (nI 0)), h) else some (some (.int (nI 1)), h) else if x1 = (nI 3) then some (some (.int (hI h 4 0)), h) else if x1 = (nI 4) then some (some (.int (hI h 3 3)), h) else if x1 = (nI 5) then some (some (.int (hI h 3 4)), h) else if x1 = (nI 6) then some (some (.int (hI h 3 5)), h) else if x1 = (nI 7) then some (some (.int (hI h 8 3)), h) else if x1 = (nI 8) then some (some (.int (hI h 8 0)), h) else if x1 = (nI 9) then some (some (.int (hI h 205 0)), h) else cI (exec (g2 L) d 148 [.ref 2, .int x1] h) fun r2 h1 => some (some (.int r2), h1) := (exec_M (by rfl) _ _ rfl).trans (e147_0 L d x1 h)
set_option maxRecDepth 100000 in
theorem e148_0 (L d : Nat) (x1 : Int32) (h : PH) : runL (g2 L) d 0 false (some .int) kc_148 0 [.ref 2, .int x1] [] h
  = cI (exec (g2 L) d 18 [.int x1, .int (nI 20), .int (nI 27)] h) fun r2 h1 => if r2 = (nI 0) then some (some (.int m1), h1) else cI (exec (g2 L) d 14 [.ref 4, .int (x1 - (nI 20))] h1) fun r4 h3 => if r4 ≠ (nI 0) then asr (inB (x1 - (nI 20)) 8) (if (hI h3 6 (ix (x1 - (nI 20)))) = (nI 0) then some (some (.int (nI 0)), h3) else some (some (.int (nI 1)), h3)) else some (some (.int m1), h3) := (runL_K [] 36 _ _ _ _).trans rfl
set_option maxRecDepth 100000 in
theorem x148 (L d : Nat) (x1 : Int32) (h : PH) : exec (g2 L) (d + 1) 148 [.ref 2, .int x1] h
  = cI (exec (g2 L) d 18 [.int x1, .int (nI 20), .int (nI 27)] h) fun r2 h1 => if r2 = (nI 0) then some (some (.int m1), h1) else cI (exec (g2 L) d 14 [.ref 4, .int (x1 - (nI 20))] h1) fun r4 h3 => if r4 ≠ (nI 0) then asr (inB (x1 - (nI 20)) 8) (if (hI h3 6 (ix (x1 - (nI 20)))) = (nI 0) then some (some (.int (nI 0)), h3) else some (some (.int (nI 1)), h3)) else some (some (.int m1), h3) := (exec_M (by rfl) _ _ rfl).trans (e148_0 L d x1 h)
