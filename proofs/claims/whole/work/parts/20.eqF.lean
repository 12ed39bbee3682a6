-- PART: equations of the methods, printed by gen/geneq.py.
set_option maxRecDepth 100000 in
theorem e218_0 (L d : Nat)  (h : PH) : runL (g2 L) d 11 false none kc_218 0 [.ref 253, dm] [] h
  = cI (exec (g2 L) d 219 [.ref 253, .int (nI 5)] h) fun r2 h1 => if r2 = (nI 0) then cV (exec (g2 L) d 222 [.ref 253, .int (nI 4)] h1) fun h3 => some (none, wI h3 253 52 (nI 1)) else cI (exec (g2 L) d 220 [.ref 253, .int (nI 3)] h1) fun r5 h4 => some (none, h4) := (runL_K [] 22 _ _ _ _).trans rfl
set_option maxRecDepth 100000 in
theorem x218 (L d : Nat)  (h : PH) : exec (g2 L) (d + 1) 218 [.ref 253] h
  = cI (exec (g2 L) d 219 [.ref 253, .int (nI 5)] h) fun r2 h1 => if r2 = (nI 0) then cV (exec (g2 L) d 222 [.ref 253, .int (nI 4)] h1) fun h3 => some (none, wI h3 253 52 (nI 1)) else cI (exec (g2 L) d 220 [.ref 253, .int (nI 3)] h1) fun r5 h4 => some (none, h4) := (exec_M (by rfl) _ _ rfl).trans (e218_0 L d  h)
set_option maxRecDepth 100000 in
theorem e219_0 (L d : Nat) (x1 : Int32) (h : PH) : runL (g2 L) d 11 false (some .boolean) kc_219 0 [.ref 253, .int x1] [] h
  = if (hI h 253 41) ≠ (nI 1) then some (some (.int (nI 0)), h) else if (hI h 253 42) ≠ x1 then some (some (.int (nI 0)), h) else some (some (.int (nI 1)), h) := (runL_K [] 20 _ _ _ _).trans rfl
set_option maxRecDepth 100000 in
theorem x219 (L d : Nat) (x1 : Int32) (h : PH) : exec (g2 L) (d + 1) 219 [.ref 253, .int x1] h
  = if (hI h 253 41) ≠ (nI 1) then some (some (.int (nI 0)), h) else if (hI h 253 42) ≠ x1 then some (some (.int (nI 0)), h) else some (some (.int (nI 1)), h) := (exec_M (by rfl) _ _ rfl).trans (e219_0 L d x1 h)
set_option maxRecDepth 100000 in
theorem e220_0 (L d : Nat) (x1 : Int32) (h : PH) : runL (g2 L) d 11 false (some .boolean) kc_220 0 [.ref 253, .int x1] [] h
  = if (hI h 253 45) ≠ (nI 8) then cV (exec (g2 L) d 222 [.ref 253, .int x1] (wI h 253 45 ((hI h 253 45) + (nI 1)))) fun h1 => cV (exec (g2 L) d 215 [.ref 253] h1) fun h2 => some (some (.int (nI 1)), h2) else cV (exec (g2 L) d 221 [.ref 253, .int (nI 3)] h) fun h3 => some (some (.int (nI 0)), h3) := (runL_K [] 27 _ _ _ _).trans rfl
set_option maxRecDepth 100000 in
theorem x220 (L d : Nat) (x1 : Int32) (h : PH) : exec (g2 L) (d + 1) 220 [.ref 253, .int x1] h
  = if (hI h 253 45) ≠ (nI 8) then cV (exec (g2 L) d 222 [.ref 253, .int x1] (wI h 253 45 ((hI h 253 45) + (nI 1)))) fun h1 => cV (exec (g2 L) d 215 [.ref 253] h1) fun h2 => some (some (.int (nI 1)), h2) else cV (exec (g2 L) d 221 [.ref 253, .int (nI 3)] h) fun h3 => some (some (.int (nI 0)), h3) := (exec_M (by rfl) _ _ rfl).trans (e220_0 L d x1 h)
set_option maxRecDepth 100000 in
theorem e221_0 (L d : Nat) (x1 : Int32) (h : PH) : runL (g2 L) d 11 false none kc_221 0 [.ref 253, .int x1] [] h
  = if (hI h 253 43) ≠ (nI 0) then some (none, h) else some (none, wI (wI h 253 43 x1) 253 44 (hI h 253 40)) := (runL_K [] 17 _ _ _ _).trans rfl
set_option maxRecDepth 100000 in
theorem x221 (L d : Nat) (x1 : Int32) (h : PH) : exec (g2 L) (d + 1) 221 [.ref 253, .int x1] h
  = if (hI h 253 43) ≠ (nI 0) then some (none, h) else some (none, wI (wI h 253 43 x1) 253 44 (hI h 253 40)) := (exec_M (by rfl) _ _ rfl).trans (e221_0 L d x1 h)
set_option maxRecDepth 100000 in
theorem e222_0 (L d : Nat) (x1 : Int32) (h : PH) : runL (g2 L) d 11 false none kc_222 0 [.ref 253, .int x1] [] h
  = asr (inB (hI h 253 46) 40) (some (none, wI (wI h 279 (ix (hI h 253 46)) x1) 253 46 ((hI h 253 46) + (nI 1)))) := (runL_K [] 18 _ _ _ _).trans rfl
set_option maxRecDepth 100000 in
theorem x222 (L d : Nat) (x1 : Int32) (h : PH) : exec (g2 L) (d + 1) 222 [.ref 253, .int x1] h
  = asr (inB (hI h 253 46) 40) (some (none, wI (wI h 279 (ix (hI h 253 46)) x1) 253 46 ((hI h 253 46) + (nI 1)))) := (exec_M (by rfl) _ _ rfl).trans (e222_0 L d x1 h)
set_option maxRecDepth 100000 in
theorem e223_0 (L d : Nat)  (h : PH) : runL (g2 L) d 11 false none kc_223 0 [.ref 253, dm] [] h
  = if (hI h 253 41) ≠ (nI 2) then if (hI h 253 41) ≠ (nI 1) then runL (g2 L) d 11 false none kc_223 88 [.ref 253, dm] [] h else if (hI h 253 42) ≤ (nI 5) then runL (g2 L) d 11 false none kc_223 88 [.ref 253, dm] [] h else cV (exec (g2 L) d 224 [.ref 253, .int (nI 401), .int (((hI h 253 42) - (nI 5)) - (nI 1))] h) fun h1 => cV (exec (g2 L) d 215 [.ref 253] h1) fun h2 => cV (exec (g2 L) d 225 [.ref 253] h2) fun h3 => some (none, h3) else if (hI h 253 42) ≤ (nI 9999) then cV (exec (g2 L) d 224 [.ref 253, .int (nI 400), .int (hI h 253 42)] h) fun h4 => cV (exec (g2 L) d 215 [.ref 253] h4) fun h5 => cV (exec (g2 L) d 225 [.ref 253] h5) fun h6 => some (none, h6) else cV (exec (g2 L) d 221 [.ref 253, .int (nI 2)] h) fun h7 => some (none, h7) := (runL_K [88] 51 _ _ _ _).trans rfl
set_option maxRecDepth 100000 in
theorem e223_88 (L d : Nat)  (h : PH) : runL (g2 L) d 11 false none kc_223 88 [.ref 253, dm] [] h
  = cI (exec (g2 L) d 227 [.ref 253, .int (nI 40)] h) fun r2 h1 => if r2 = (nI 0) then cI (exec (g2 L) d 227 [.ref 253, .int (nI 45)] h1) fun r4 h3 => if r4 = (nI 0) then cV (exec (g2 L) d 221 [.ref 253, .int (nI 1)] h3) fun h5 => some (none, h5) else cI (exec (g2 L) d 220 [.ref 253, .int (nI 7)] h3) fun r7 h6 => some (none, h6) else cI (exec (g2 L) d 220 [.ref 253, .int (nI 6)] h1) fun r9 h8 => some (none, h8) := (runL_K [88] 29 _ _ _ _).trans rfl
set_option maxRecDepth 100000 in
theorem x223 (L d : Nat)  (h : PH) : exec (g2 L) (d + 1) 223 [.ref 253] h
  = if (hI h 253 41) ≠ (nI 2) then if (hI h 253 41) ≠ (nI 1) then runL (g2 L) d 11 false none kc_223 88 [.ref 253, dm] [] h else if (hI h 253 42) ≤ (nI 5) then runL (g2 L) d 11 false none kc_223 88 [.ref 253, dm] [] h else cV (exec (g2 L) d 224 [.ref 253, .int (nI 401), .int (((hI h 253 42) - (nI 5)) - (nI 1))] h) fun h1 => cV (exec (g2 L) d 215 [.ref 253] h1) fun h2 => cV (exec (g2 L) d 225 [.ref 253] h2) fun h3 => some (none, h3) else if (hI h 253 42) ≤ (nI 9999) then cV (exec (g2 L) d 224 [.ref 253, .int (nI 400), .int (hI h 253 42)] h) fun h4 => cV (exec (g2 L) d 215 [.ref 253] h4) fun h5 => cV (exec (g2 L) d 225 [.ref 253] h5) fun h6 => some (none, h6) else cV (exec (g2 L) d 221 [.ref 253, .int (nI 2)] h) fun h7 => some (none, h7) := (exec_M (by rfl) _ _ rfl).trans (e223_0 L d  h)
set_option maxRecDepth 100000 in
theorem e224_0 (L d : Nat) (x1 : Int32) (x2 : Int32) (h : PH) : runL (g2 L) d 11 false none kc_224 0 [.ref 253, .int x1, .int x2] [] h
  = asr (inB (hI h 253 56) 400) (asr (inB (hI h 253 56) 400) (some (none, wI (wI (wI h 285 (ix (hI h 253 56)) x1) 286 (ix (hI h 253 56)) x2) 253 56 ((hI h 253 56) + (nI 1))))) := (runL_K [] 24 _ _ _ _).trans rfl
set_option maxRecDepth 100000 in
theorem x224 (L d : Nat) (x1 : Int32) (x2 : Int32) (h : PH) : exec (g2 L) (d + 1) 224 [.ref 253, .int x1, .int x2] h
  = asr (inB (hI h 253 56) 400) (asr (inB (hI h 253 56) 400) (some (none, wI (wI (wI h 285 (ix (hI h 253 56)) x1) 286 (ix (hI h 253 56)) x2) 253 56 ((hI h 253 56) + (nI 1))))) := (exec_M (by rfl) _ _ rfl).trans (e224_0 L d x1 x2 h)
set_option maxRecDepth 100000 in
theorem e225_0 (L d : Nat)  (h : PH) : runL (g2 L) d 11 false none kc_225 0 [.ref 253] [] h
  = cI (exec (g2 L) d 226 [.ref 253] h) fun r2 h1 => if r2 ≠ (nI 7) then some (none, wI h1 253 52 (nI 2)) else cV (exec (g2 L) d 224 [.ref 253, .int (nI 402), .int (nI 0)] (wI (wI h1 253 46 ((hI h1 253 46) - (nI 1))) 253 45 ((hI h1 253 45) - (nI 1)))) fun h3 => runL (g2 L) d 11 false none kc_225 0 [.ref 253] [] h3 := (runL_K [0] 30 _ _ _ _).trans rfl
set_option maxRecDepth 100000 in
theorem x225 (L d : Nat)  (h : PH) : exec (g2 L) (d + 1) 225 [.ref 253] h
  = cI (exec (g2 L) d 226 [.ref 253] h) fun r2 h1 => if r2 ≠ (nI 7) then some (none, wI h1 253 52 (nI 2)) else cV (exec (g2 L) d 224 [.ref 253, .int (nI 402), .int (nI 0)] (wI (wI h1 253 46 ((hI h1 253 46) - (nI 1))) 253 45 ((hI h1 253 45) - (nI 1)))) fun h3 => runL (g2 L) d 11 false none kc_225 0 [.ref 253] [] h3 := (exec_M (by rfl) _ _ rfl).trans (e225_0 L d  h)
set_option maxRecDepth 100000 in
theorem e226_0 (L d : Nat)  (h : PH) : runL (g2 L) d 11 false (some .int) kc_226 0 [.ref 253] [] h
  = asr (inB ((hI h 253 46) - (nI 1)) 40) (some (some (.int (hI h 279 (ix ((hI h 253 46) - (nI 1))))), h)) := (runL_K [] 13 _ _ _ _).trans rfl
set_option maxRecDepth 100000 in
theorem x226 (L d : Nat)  (h : PH) : exec (g2 L) (d + 1) 226 [.ref 253] h
  = asr (inB ((hI h 253 46) - (nI 1)) 40) (some (some (.int (hI h 279 (ix ((hI h 253 46) - (nI 1))))), h)) := (exec_M (by rfl) _ _ rfl).trans (e226_0 L d  h)
set_option maxRecDepth 100000 in
theorem e227_0 (L d : Nat) (x1 : Int32) (h : PH) : runL (g2 L) d 11 false (some .boolean) kc_227 0 [.ref 253, .int x1] [] h
  = if (hI h 253 41) ≠ (nI 3) then some (some (.int (nI 0)), h) else if (hI h 253 42) ≠ x1 then some (some (.int (nI 0)), h) else some (some (.int (nI 1)), h) := (runL_K [] 20 _ _ _ _).trans rfl
set_option maxRecDepth 100000 in
theorem x227 (L d : Nat) (x1 : Int32) (h : PH) : exec (g2 L) (d + 1) 227 [.ref 253, .int x1] h
  = if (hI h 253 41) ≠ (nI 3) then some (some (.int (nI 0)), h) else if (hI h 253 42) ≠ x1 then some (some (.int (nI 0)), h) else some (some (.int (nI 1)), h) := (exec_M (by rfl) _ _ rfl).trans (e227_0 L d x1 h)
set_option maxRecDepth 100000 in
theorem e228_0 (L d : Nat)  (h : PH) : runL (g2 L) d 11 false none kc_228 0 [.ref 253, dm, dm] [] h
  = cI (exec (g2 L) d 226 [.ref 253] h) fun r2 h1 => if (hI h1 253 41) ≠ (nI 3) then runL (g2 L) d 11 false none kc_228 74 [.ref 253, .int r2, dm] [] h1 else if (hI h1 253 42) = (nI 43) then cV (exec (g2 L) d 229 [.ref 253, .int (hI h1 253 42)] h1) fun h3 => some (none, wI h3 253 52 (nI 1)) else if (hI h1 253 42) = (nI 45) then cV (exec (g2 L) d 229 [.ref 253, .int (hI h1 253 42)] h1) fun h4 => some (none, wI h4 253 52 (nI 1)) else if (hI h1 253 42) = (nI 42) then cV (exec (g2 L) d 229 [.ref 253, .int (hI h1 253 42)] h1) fun h5 => some (none, wI h5 253 52 (nI 1)) else if (hI h1 253 42) = (nI 47) then cV (exec (g2 L) d 229 [.ref 253, .int (hI h1 253 42)] h1) fun h6 => some (none, wI h6 253 52 (nI 1)) else if (hI h1 253 42) ≠ (nI 37) then runL (g2 L) d 11 false none kc_228 74 [.ref 253, .int r2, dm] [] h1 else cV (exec (g2 L) d 229 [.ref 253, .int (hI h1 253 42)] h1) fun h7 => some (none, wI h7 253 52 (nI 1)) := (runL_K [74, 125, 190] 77 _ _ _ _).trans rfl
set_option maxRecDepth 100000 in
theorem e228_74 (L d : Nat) (x1 : Int32) (h : PH) : runL (g2 L) d 11 false none kc_228 74 [.ref 253, .int x1, dm] [] h
  = if x1 ≠ (nI 6) then runL (g2 L) d 11 false none kc_228 125 [.ref 253, .int x1, dm] [] h else cI (exec (g2 L) d 227 [.ref 253, .int (nI 41)] h) fun r2 h1 => if r2 = (nI 0) then runL (g2 L) d 11 false none kc_228 125 [.ref 253, .int x1, dm] [] h1 else cV (exec (g2 L) d 231 [.ref 253, .int (nI 3)] h1) fun h3 => cV (exec (g2 L) d 215 [.ref 253] (wI (wI h3 253 46 ((hI h3 253 46) - (nI 1))) 253 45 ((hI h3 253 45) - (nI 1)))) fun h4 => cV (exec (g2 L) d 225 [.ref 253] h4) fun h5 => some (none, h5) := (runL_K [74, 125, 190] 33 _ _ _ _).trans rfl
set_option maxRecDepth 100000 in
theorem e228_125 (L d : Nat) (x1 : Int32) (h : PH) : runL (g2 L) d 11 false none kc_228 125 [.ref 253, .int x1, dm] [] h
  = if x1 ≠ (nI 4) then runL (g2 L) d 11 false none kc_228 190 [.ref 253, .int x1, dm] [] h else if (hI h 253 41) ≠ (nI 3) then runL (g2 L) d 11 false none kc_228 190 [.ref 253, .int x1, dm] [] h else cI (exec (g2 L) d 232 [.int (hI h 253 42)] h) fun r2 h1 => if r2 = (nI 0) then runL (g2 L) d 11 false none kc_228 190 [.ref 253, .int x1, dm] [] h1 else cV (exec (g2 L) d 231 [.ref 253, .int (nI 3)] h1) fun h3 => asr (inB (hI h3 253 46) 41) (asr (inB ((hI h3 253 46) - (nI 1)) 40) (cV (exec (g2 L) d 215 [.ref 253] (wI (wI h3 280 (ix (hI h3 253 46)) (hI h3 253 42)) 279 (ix ((hI h3 253 46) - (nI 1))) (nI 5))) fun h4 => some (none, wI h4 253 52 (nI 1)))) := (runL_K [74, 125, 190] 41 _ _ _ _).trans rfl
set_option maxRecDepth 100000 in
theorem e228_190 (L d : Nat) (x1 : Int32) (h : PH) : runL (g2 L) d 11 false none kc_228 190 [.ref 253, .int x1, dm] [] h
  = if x1 ≠ (nI 5) then cV (exec (g2 L) d 221 [.ref 253, .int (nI 1)] h) fun h1 => some (none, h1) else cV (exec (g2 L) d 231 [.ref 253, .int (nI 3)] h) fun h2 => asr (inB (hI h2 253 46) 41) (cV (exec (g2 L) d 224 [.ref 253, .int (hI h2 280 (ix (hI h2 253 46))), .int (nI 0)] (wI h2 253 46 ((hI h2 253 46) - (nI 1)))) fun h3 => cV (exec (g2 L) d 233 [.ref 253] h3) fun h4 => some (none, h4)) := (runL_K [74, 125, 190] 35 _ _ _ _).trans rfl
set_option maxRecDepth 100000 in
theorem x228 (L d : Nat)  (h : PH) : exec (g2 L) (d + 1) 228 [.ref 253] h
  = cI (exec (g2 L) d 226 [.ref 253] h) fun r2 h1 => if (hI h1 253 41) ≠ (nI 3) then runL (g2 L) d 11 false none kc_228 74 [.ref 253, .int r2, dm] [] h1 else if (hI h1 253 42) = (nI 43) then cV (exec (g2 L) d 229 [.ref 253, .int (hI h1 253 42)] h1) fun h3 => some (none, wI h3 253 52 (nI 1)) else if (hI h1 253 42) = (nI 45) then cV (exec (g2 L) d 229 [.ref 253, .int (hI h1 253 42)] h1) fun h4 => some (none, wI h4 253 52 (nI 1)) else if (hI h1 253 42) = (nI 42) then cV (exec (g2 L) d 229 [.ref 253, .int (hI h1 253 42)] h1) fun h5 => some (none, wI h5 253 52 (nI 1)) else if (hI h1 253 42) = (nI 47) then cV (exec (g2 L) d 229 [.ref 253, .int (hI h1 253 42)] h1) fun h6 => some (none, wI h6 253 52 (nI 1)) else if (hI h1 253 42) ≠ (nI 37) then runL (g2 L) d 11 false none kc_228 74 [.ref 253, .int r2, dm] [] h1 else cV (exec (g2 L) d 229 [.ref 253, .int (hI h1 253 42)] h1) fun h7 => some (none, wI h7 253 52 (nI 1)) := (exec_M (by rfl) _ _ rfl).trans (e228_0 L d  h)
set_option maxRecDepth 100000 in
theorem e229_0 (L d : Nat) (x1 : Int32) (h : PH) : runL (g2 L) d 11 false none kc_229 0 [.ref 253, .int x1] [] h
  = cI (exec (g2 L) d 230 [.int x1] h) fun r2 h1 => cV (exec (g2 L) d 231 [.ref 253, .int r2] h1) fun h3 => asr (inB (hI h3 253 49) 80) (asr (inB (hI h3 253 49) 80) (cV (exec (g2 L) d 215 [.ref 253] (wI (wI (wI h3 281 (ix (hI h3 253 49)) x1) 282 (ix (hI h3 253 49)) (hI h3 253 46)) 253 49 ((hI h3 253 49) + (nI 1)))) fun h4 => some (none, h4))) := (runL_K [] 31 _ _ _ _).trans rfl
set_option maxRecDepth 100000 in
theorem x229 (L d : Nat) (x1 : Int32) (h : PH) : exec (g2 L) (d + 1) 229 [.ref 253, .int x1] h
  = cI (exec (g2 L) d 230 [.int x1] h) fun r2 h1 => cV (exec (g2 L) d 231 [.ref 253, .int r2] h1) fun h3 => asr (inB (hI h3 253 49) 80) (asr (inB (hI h3 253 49) 80) (cV (exec (g2 L) d 215 [.ref 253] (wI (wI (wI h3 281 (ix (hI h3 253 49)) x1) 282 (ix (hI h3 253 49)) (hI h3 253 46)) 253 49 ((hI h3 253 49) + (nI 1)))) fun h4 => some (none, h4))) := (exec_M (by rfl) _ _ rfl).trans (e229_0 L d x1 h)
set_option maxRecDepth 100000 in
theorem e230_0 (L d : Nat) (x0 : Int32) (h : PH) : runL (g2 L) d 11 false (some .int) kc_230 0 [.int x0] [] h
  = if x0 ≠ (nI 407) then if x0 ≠ (nI 406) then if x0 = (nI 43) then some (some (.int (nI 3)), h) else if x0 ≠ (nI 45) then some (some (.int (nI 4)), h) else some (some (.int (nI 3)), h) else some (some (.int (nI 2)), h) else some (some (.int (nI 1)), h) := (runL_K [] 31 _ _ _ _).trans rfl
set_option maxRecDepth 100000 in
theorem x230 (L d : Nat) (x0 : Int32) (h : PH) : exec (g2 L) (d + 1) 230 [.int x0] h
  = if x0 ≠ (nI 407) then if x0 ≠ (nI 406) then if x0 = (nI 43) then some (some (.int (nI 3)), h) else if x0 ≠ (nI 45) then some (some (.int (nI 4)), h) else some (some (.int (nI 3)), h) else some (some (.int (nI 2)), h) else some (some (.int (nI 1)), h) := (exec_M (by rfl) _ _ rfl).trans (e230_0 L d x0 h)
set_option maxRecDepth 100000 in
theorem e231_0 (L d : Nat) (x1 : Int32) (h : PH) : runL (g2 L) d 11 false none kc_231 0 [.ref 253, .int x1] [] h
  = if (hI h 253 49) ≤ (nI 0) then some (none, h) else asr (inB ((hI h 253 49) - (nI 1)) 80) (if (hI h 282 (ix ((hI h 253 49) - (nI 1)))) ≠ (hI h 253 46) then some (none, h) else asr (inB ((hI h 253 49) - (nI 1)) 80) (cI (exec (g2 L) d 230 [.int (hI h 281 (ix ((hI h 253 49) - (nI 1))))] h) fun r2 h1 => if r2 < x1 then some (none, h1) else asr (inB ((hI h1 253 49) - (nI 1)) 80) (cV (exec (g2 L) d 224 [.ref 253, .int (hI h1 281 (ix ((hI h1 253 49) - (nI 1)))), .int (nI 0)] (wI h1 253 49 ((hI h1 253 49) - (nI 1)))) fun h3 => runL (g2 L) d 11 false none kc_231 0 [.ref 253, .int x1] [] h3))) := (runL_K [0] 46 _ _ _ _).trans rfl
set_option maxRecDepth 100000 in
theorem x231 (L d : Nat) (x1 : Int32) (h : PH) : exec (g2 L) (d + 1) 231 [.ref 253, .int x1] h
  = if (hI h 253 49) ≤ (nI 0) then some (none, h) else asr (inB ((hI h 253 49) - (nI 1)) 80) (if (hI h 282 (ix ((hI h 253 49) - (nI 1)))) ≠ (hI h 253 46) then some (none, h) else asr (inB ((hI h 253 49) - (nI 1)) 80) (cI (exec (g2 L) d 230 [.int (hI h 281 (ix ((hI h 253 49) - (nI 1))))] h) fun r2 h1 => if r2 < x1 then some (none, h1) else asr (inB ((hI h1 253 49) - (nI 1)) 80) (cV (exec (g2 L) d 224 [.ref 253, .int (hI h1 281 (ix ((hI h1 253 49) - (nI 1)))), .int (nI 0)] (wI h1 253 49 ((hI h1 253 49) - (nI 1)))) fun h3 => runL (g2 L) d 11 false none kc_231 0 [.ref 253, .int x1] [] h3))) := (exec_M (by rfl) _ _ rfl).trans (e231_0 L d x1 h)
set_option maxRecDepth 100000 in
theorem e232_0 (L d : Nat) (x0 : Int32) (h : PH) : runL (g2 L) d 11 false (some .boolean) kc_232 0 [.int x0] [] h
  = if x0 = (nI 60) then some (some (.int (nI 1)), h) else if x0 = (nI 62) then some (some (.int (nI 1)), h) else if x0 = (nI 61) then some (some (.int (nI 1)), h) else if x0 = (nI 35) then some (some (.int (nI 1)), h) else if x0 = (nI 300) then some (some (.int (nI 1)), h) else if x0 ≠ (nI 301) then some (some (.int (nI 0)), h) else some (some (.int (nI 1)), h) := (runL_K [] 43 _ _ _ _).trans rfl
set_option maxRecDepth 100000 in
theorem x232 (L d : Nat) (x0 : Int32) (h : PH) : exec (g2 L) (d + 1) 232 [.int x0] h
  = if x0 = (nI 60) then some (some (.int (nI 1)), h) else if x0 = (nI 62) then some (some (.int (nI 1)), h) else if x0 = (nI 61) then some (some (.int (nI 1)), h) else if x0 = (nI 35) then some (some (.int (nI 1)), h) else if x0 = (nI 300) then some (some (.int (nI 1)), h) else if x0 ≠ (nI 301) then some (some (.int (nI 0)), h) else some (some (.int (nI 1)), h) := (exec_M (by rfl) _ _ rfl).trans (e232_0 L d x0 h)
set_option maxRecDepth 100000 in
theorem e233_0 (L d : Nat)  (h : PH) : runL (g2 L) d 11 false none kc_233 0 [.ref 253] [] h
  = cI (exec (g2 L) d 226 [.ref 253] h) fun r2 h1 => if r2 ≠ (nI 3) then some (none, wI h1 253 52 (nI 3)) else cV (exec (g2 L) d 224 [.ref 253, .int (nI 405), .int (nI 0)] (wI (wI h1 253 46 ((hI h1 253 46) - (nI 1))) 253 45 ((hI h1 253 45) - (nI 1)))) fun h3 => runL (g2 L) d 11 false none kc_233 0 [.ref 253] [] h3 := (runL_K [0] 30 _ _ _ _).trans rfl
set_option maxRecDepth 100000 in
theorem x233 (L d : Nat)  (h : PH) : exec (g2 L) (d + 1) 233 [.ref 253] h
  = cI (exec (g2 L) d 226 [.ref 253] h) fun r2 h1 => if r2 ≠ (nI 3) then some (none, wI h1 253 52 (nI 3)) else cV (exec (g2 L) d 224 [.ref 253, .int (nI 405), .int (nI 0)] (wI (wI h1 253 46 ((hI h1 253 46) - (nI 1))) 253 45 ((hI h1 253 45) - (nI 1)))) fun h3 => runL (g2 L) d 11 false none kc_233 0 [.ref 253] [] h3 := (exec_M (by rfl) _ _ rfl).trans (e233_0 L d  h)
set_option maxRecDepth 100000 in
theorem e234_0 (L d : Nat)  (h : PH) : runL (g2 L) d 11 false none kc_234 0 [.ref 253] [] h
  = cI (exec (g2 L) d 219 [.ref 253, .int (nI 3)] h) fun r2 h1 => if r2 ≠ (nI 0) then runL (g2 L) d 11 false none kc_234 16 [.ref 253] [] h1 else cI (exec (g2 L) d 219 [.ref 253, .int (nI 4)] h1) fun r4 h3 => if r4 = (nI 0) then cI (exec (g2 L) d 226 [.ref 253] h3) fun r6 h5 => if r6 ≠ (nI 2) then cV (exec (g2 L) d 221 [.ref 253, .int (nI 1)] h5) fun h7 => some (none, h7) else cI (exec (g2 L) d 227 [.ref 253, .int (nI 59)] h5) fun r9 h8 => if r9 = (nI 0) then cV (exec (g2 L) d 221 [.ref 253, .int (nI 1)] h8) fun h10 => some (none, h10) else cV (exec (g2 L) d 235 [.ref 253] h8) fun h11 => some (none, h11) else runL (g2 L) d 11 false none kc_234 16 [.ref 253] [] h3 := (runL_K [16] 33 _ _ _ _).trans rfl
set_option maxRecDepth 100000 in
theorem e234_16 (L d : Nat)  (h : PH) : runL (g2 L) d 11 false none kc_234 16 [.ref 253] [] h
  = cI (exec (g2 L) d 219 [.ref 253, .int (nI 3)] h) fun r2 h1 => if r2 = (nI 0) then cV (exec (g2 L) d 229 [.ref 253, .int (nI 406)] h1) fun h3 => some (none, wI h3 253 52 (nI 0)) else cV (exec (g2 L) d 229 [.ref 253, .int (nI 407)] h1) fun h4 => some (none, wI h4 253 52 (nI 0)) := (runL_K [16] 25 _ _ _ _).trans rfl
set_option maxRecDepth 100000 in
theorem x234 (L d : Nat)  (h : PH) : exec (g2 L) (d + 1) 234 [.ref 253] h
  = cI (exec (g2 L) d 219 [.ref 253, .int (nI 3)] h) fun r2 h1 => if r2 ≠ (nI 0) then runL (g2 L) d 11 false none kc_234 16 [.ref 253] [] h1 else cI (exec (g2 L) d 219 [.ref 253, .int (nI 4)] h1) fun r4 h3 => if r4 = (nI 0) then cI (exec (g2 L) d 226 [.ref 253] h3) fun r6 h5 => if r6 ≠ (nI 2) then cV (exec (g2 L) d 221 [.ref 253, .int (nI 1)] h5) fun h7 => some (none, h7) else cI (exec (g2 L) d 227 [.ref 253, .int (nI 59)] h5) fun r9 h8 => if r9 = (nI 0) then cV (exec (g2 L) d 221 [.ref 253, .int (nI 1)] h8) fun h10 => some (none, h10) else cV (exec (g2 L) d 235 [.ref 253] h8) fun h11 => some (none, h11) else runL (g2 L) d 11 false none kc_234 16 [.ref 253] [] h3 := (exec_M (by rfl) _ _ rfl).trans (e234_0 L d  h)
set_option maxRecDepth 100000 in
theorem e235_0 (L d : Nat)  (h : PH) : runL (g2 L) d 11 false none kc_235 0 [.ref 253] [] h
  = cV (exec (g2 L) d 231 [.ref 253, .int (nI 1)] h) fun h1 => cV (exec (g2 L) d 224 [.ref 253, .int (nI 408), .int (nI 0)] (wI h1 253 46 (nI 0))) fun h2 => cV (exec (g2 L) d 215 [.ref 253] (wI h2 253 53 ((hI h2 253 53) + (nI 1)))) fun h3 => some (none, wI h3 253 52 (nI 4)) := (runL_K [] 27 _ _ _ _).trans rfl
set_option maxRecDepth 100000 in
theorem x235 (L d : Nat)  (h : PH) : exec (g2 L) (d + 1) 235 [.ref 253] h
  = cV (exec (g2 L) d 231 [.ref 253, .int (nI 1)] h) fun h1 => cV (exec (g2 L) d 224 [.ref 253, .int (nI 408), .int (nI 0)] (wI h1 253 46 (nI 0))) fun h2 => cV (exec (g2 L) d 215 [.ref 253] (wI h2 253 53 ((hI h2 253 53) + (nI 1)))) fun h3 => some (none, wI h3 253 52 (nI 4)) := (exec_M (by rfl) _ _ rfl).trans (e235_0 L d  h)
set_option maxRecDepth 100000 in
theorem e236_0 (L d : Nat)  (h : PH) : runL (g2 L) d 11 false none kc_236 0 [.ref 253, dm, dm] [] h
  = if (hI h 253 41) ≠ (nI 1) then cV (exec (g2 L) d 221 [.ref 253, .int (nI 1)] h) fun h1 => some (none, h1) else if (hI h 253 42) ≤ (nI 1) then if (hI h 253 53) ≠ (nI 12) then if (hI h 253 42) ≠ (nI 0) then cV (exec (g2 L) d 215 [.ref 253] h) fun h2 => runL (g2 L) d 11 false none kc_236 68 [.ref 253, .int (nI 0), dm] [.int m1] h2 else cV (exec (g2 L) d 215 [.ref 253] h) fun h3 => cI (exec (g2 L) d 237 [.ref 253, .int (nI 0), .int (nI 3)] h3) fun r5 h4 => runL (g2 L) d 11 false none kc_236 68 [.ref 253, .int (nI 1), dm] [.int r5] h4 else cV (exec (g2 L) d 221 [.ref 253, .int (nI 4)] h) fun h6 => some (none, h6) else cV (exec (g2 L) d 221 [.ref 253, .int (nI 1)] h) fun h7 => some (none, h7) := (runL_K [68, 100] 57 _ _ _ _).trans rfl
set_option maxRecDepth 100000 in
theorem e236_68 (L d : Nat) (x1 : Int32) (xs0 : Int32) (h : PH) : runL (g2 L) d 11 false none kc_236 68 [.ref 253, .int x1, dm] [.int xs0] h
  = if (hI h 253 43) ≠ (nI 0) then runL (g2 L) d 11 false none kc_236 100 [.ref 253, .int x1, .int xs0] [] h else if x1 = (nI 0) then runL (g2 L) d 11 false none kc_236 100 [.ref 253, .int x1, .int xs0] [] h else cI (exec (g2 L) d 219 [.ref 253, .int (nI 2)] h) fun r2 h1 => if r2 = (nI 0) then cV (exec (g2 L) d 221 [.ref 253, .int (nI 1)] h1) fun h3 => runL (g2 L) d 11 false none kc_236 100 [.ref 253, .int x1, .int xs0] [] h3 else cV (exec (g2 L) d 215 [.ref 253] h1) fun h4 => runL (g2 L) d 11 false none kc_236 100 [.ref 253, .int x1, .int xs0] [] h4 := (runL_K [68, 100] 21 _ _ _ _).trans rfl
set_option maxRecDepth 100000 in
theorem e236_100 (L d : Nat) (x1 : Int32) (x2 : Int32) (h : PH) : runL (g2 L) d 11 false none kc_236 100 [.ref 253, .int x1, .int x2] [] h
  = if (hI h 253 43) ≤ (nI 0) then asr (inB (hI h 253 53) 12) (asr (inB (hI h 253 53) 12) (cV (exec (g2 L) d 222 [.ref 253, .int (nI 2)] (wI (wI h 283 (ix (hI h 253 53)) x2) 284 (ix (hI h 253 53)) (hI h 253 56))) fun h1 => some (none, wI h1 253 52 (nI 0)))) else some (none, h) := (runL_K [68, 100] 29 _ _ _ _).trans rfl
set_option maxRecDepth 100000 in
theorem x236 (L d : Nat)  (h : PH) : exec (g2 L) (d + 1) 236 [.ref 253] h
  = if (hI h 253 41) ≠ (nI 1) then cV (exec (g2 L) d 221 [.ref 253, .int (nI 1)] h) fun h1 => some (none, h1) else if (hI h 253 42) ≤ (nI 1) then if (hI h 253 53) ≠ (nI 12) then if (hI h 253 42) ≠ (nI 0) then cV (exec (g2 L) d 215 [.ref 253] h) fun h2 => runL (g2 L) d 11 false none kc_236 68 [.ref 253, .int (nI 0), dm] [.int m1] h2 else cV (exec (g2 L) d 215 [.ref 253] h) fun h3 => cI (exec (g2 L) d 237 [.ref 253, .int (nI 0), .int (nI 3)] h3) fun r5 h4 => runL (g2 L) d 11 false none kc_236 68 [.ref 253, .int (nI 1), dm] [.int r5] h4 else cV (exec (g2 L) d 221 [.ref 253, .int (nI 4)] h) fun h6 => some (none, h6) else cV (exec (g2 L) d 221 [.ref 253, .int (nI 1)] h) fun h7 => some (none, h7) := (exec_M (by rfl) _ _ rfl).trans (e236_0 L d  h)
set_option maxRecDepth 100000 in
theorem e237_0 (L d : Nat) (x1 : Int32) (x2 : Int32) (h : PH) : runL (g2 L) d 11 false (some .int) kc_237 0 [.ref 253, .int x1, .int x2, dm] [] h
  = if (nI 0) < (hI h 253 43) then cV (exec (g2 L) d 221 [.ref 253, .int (nI 1)] h) fun h1 => some (some (.int x1), h1) else if (hI h 253 41) = (nI 2) then cI (exec (g2 L) d 153 [.int (hI h 253 42), .int x1, .int x2] h) fun r3 h2 => if r3 ≠ (nI 0) then cV (exec (g2 L) d 215 [.ref 253] h2) fun h4 => some (some (.int (hI h2 253 42)), h4) else cV (exec (g2 L) d 221 [.ref 253, .int (nI 2)] h2) fun h5 => some (some (.int x1), h5) else cV (exec (g2 L) d 221 [.ref 253, .int (nI 1)] h) fun h6 => some (some (.int x1), h6) := (runL_K [] 40 _ _ _ _).trans rfl
set_option maxRecDepth 100000 in
theorem x237 (L d : Nat) (x1 : Int32) (x2 : Int32) (h : PH) : exec (g2 L) (d + 1) 237 [.ref 253, .int x1, .int x2] h
  = if (nI 0) < (hI h 253 43) then cV (exec (g2 L) d 221 [.ref 253, .int (nI 1)] h) fun h1 => some (some (.int x1), h1) else if (hI h 253 41) = (nI 2) then cI (exec (g2 L) d 153 [.int (hI h 253 42), .int x1, .int x2] h) fun r3 h2 => if r3 ≠ (nI 0) then cV (exec (g2 L) d 215 [.ref 253] h2) fun h4 => some (some (.int (hI h2 253 42)), h4) else cV (exec (g2 L) d 221 [.ref 253, .int (nI 2)] h2) fun h5 => some (some (.int x1), h5) else cV (exec (g2 L) d 221 [.ref 253, .int (nI 1)] h) fun h6 => some (some (.int x1), h6) := (exec_M (by rfl) _ _ rfl).trans (e237_0 L d x1 x2 h)
set_option maxRecDepth 100000 in
theorem e238_0 (L d : Nat) (x1 : Int32) (h : PH) : runL (g2 L) d 11 false none kc_238 0 [.ref 253, .int x1, dm] [] h
  = asr (inB x1 4) (runL (g2 L) d 11 false none kc_238 12 [.ref 253, .int x1, .int (nI 0)] [] (wI h 257 (ix x1) (hI h 253 53))) := (runL_K [12, 68] 13 _ _ _ _).trans rfl
set_option maxRecDepth 100000 in
theorem e238_12 (L d : Nat) (x1 : Int32) (x2 : Int32) (h : PH) : runL (g2 L) d 11 false none kc_238 12 [.ref 253, .int x1, .int x2] [] h
  = if (hI h 253 53) ≤ x2 then runL (g2 L) d 11 false none kc_238 68 [.ref 253, .int x1, .int (nI 0)] [] h else asr (inB x2 12) (asr (inB (((nI 12) * x1) + x2) 48) (asr (inB x2 12) (asr (inB (((nI 12) * x1) + x2) 48) (runL (g2 L) d 11 false none kc_238 12 [.ref 253, .int x1, .int (x2 + (nI 1))] [] (wI (wI h 258 (ix (((nI 12) * x1) + x2)) (hI h 283 (ix x2))) 259 (ix (((nI 12) * x1) + x2)) (((nI 400) * x1) + (hI h 284 (ix x2)))))))) := (runL_K [12, 68] 41 _ _ _ _).trans rfl
set_option maxRecDepth 100000 in
theorem e238_68 (L d : Nat) (x1 : Int32) (x2 : Int32) (h : PH) : runL (g2 L) d 11 false none kc_238 68 [.ref 253, .int x1, .int x2] [] h
  = if (hI h 253 56) ≤ x2 then some (none, h) else asr (inB x2 400) (asr (inB (((nI 400) * x1) + x2) 1600) (asr (inB x2 400) (asr (inB (((nI 400) * x1) + x2) 1600) (runL (g2 L) d 11 false none kc_238 68 [.ref 253, .int x1, .int (x2 + (nI 1))] [] (wI (wI h 260 (ix (((nI 400) * x1) + x2)) (hI h 285 (ix x2))) 261 (ix (((nI 400) * x1) + x2)) (hI h 286 (ix x2))))))) := (runL_K [12, 68] 36 _ _ _ _).trans rfl
set_option maxRecDepth 100000 in
theorem x238 (L d : Nat) (x1 : Int32) (h : PH) : exec (g2 L) (d + 1) 238 [.ref 253, .int x1] h
  = asr (inB x1 4) (runL (g2 L) d 11 false none kc_238 12 [.ref 253, .int x1, .int (nI 0)] [] (wI h 257 (ix x1) (hI h 253 53))) := (exec_M (by rfl) _ _ rfl).trans (e238_0 L d x1 h)
set_option maxRecDepth 100000 in
theorem e239_0 (L d : Nat) (x1 : Int32) (h : PH) : runL (g2 L) d 11 false (some .int) kc_239 0 [.ref 253, .int x1] [] h
  = if x1 ≠ (nI 0) then if x1 ≠ (nI 1) then some (some (.int m1), h) else some (some (.int (hI h 253 5)), h) else some (some (.int (hI h 253 4)), h) := (runL_K [] 20 _ _ _ _).trans rfl
set_option maxRecDepth 100000 in
theorem x239 (L d : Nat) (x1 : Int32) (h : PH) : exec (g2 L) (d + 1) 239 [.ref 253, .int x1] h
  = if x1 ≠ (nI 0) then if x1 ≠ (nI 1) then some (some (.int m1), h) else some (some (.int (hI h 253 5)), h) else some (some (.int (hI h 253 4)), h) := (exec_M (by rfl) _ _ rfl).trans (e239_0 L d x1 h)
set_option maxRecDepth 100000 in
theorem e240_0 (L d : Nat) (x1 : Int32) (h : PH) : runL (g2 L) d 11 false (some .boolean) kc_240 0 [.ref 253, .int x1] [] h
  = if x1 = m1 then some (some (.int (nI 1)), wI h 254 (6) x1) else cI (exec (g2 L) d 153 [.int x1, .int (nI 0), .int ((hI h 254 (5)) - (nI 1))] h) fun r2 h1 => if r2 ≠ (nI 0) then some (some (.int (nI 1)), wI h1 254 (6) x1) else some (some (.int (nI 0)), h1) := (runL_K [] 34 _ _ _ _).trans rfl
set_option maxRecDepth 100000 in
theorem x240 (L d : Nat) (x1 : Int32) (h : PH) : exec (g2 L) (d + 1) 240 [.ref 253, .int x1] h
  = if x1 = m1 then some (some (.int (nI 1)), wI h 254 (6) x1) else cI (exec (g2 L) d 153 [.int x1, .int (nI 0), .int ((hI h 254 (5)) - (nI 1))] h) fun r2 h1 => if r2 ≠ (nI 0) then some (some (.int (nI 1)), wI h1 254 (6) x1) else some (some (.int (nI 0)), h1) := (exec_M (by rfl) _ _ rfl).trans (e240_0 L d x1 h)
set_option maxRecDepth 100000 in
theorem e241_0 (L d : Nat) (x1 : Int32) (x2 : Int32) (h : PH) : runL (g2 L) d 11 false (some .int) kc_241 0 [.ref 253, .int x1, .int x2] [] h
  = cI (exec (g2 L) d 242 [.int x1] h) fun r2 h1 => if r2 = (nI 0) then some (some (.int m1), h1) else cI (exec (g2 L) d 243 [.int x2] h1) fun r4 h3 => if r4 ≠ (nI 0) then cI (exec (g2 L) d 244 [.ref 253, .int x1, .int x2] h3) fun r6 h5 => if r6 = (nI 0) then some (some (.int (nI 0)), h5) else some (some (.int (nI 1)), h5) else some (some (.int m1), h3) := (runL_K [] 25 _ _ _ _).trans rfl
set_option maxRecDepth 100000 in
theorem x241 (L d : Nat) (x1 : Int32) (x2 : Int32) (h : PH) : exec (g2 L) (d + 1) 241 [.ref 253, .int x1, .int x2] h
  = cI (exec (g2 L) d 242 [.int x1] h) fun r2 h1 => if r2 = (nI 0) then some (some (.int m1), h1) else cI (exec (g2 L) d 243 [.int x2] h1) fun r4 h3 => if r4 ≠ (nI 0) then cI (exec (g2 L) d 244 [.ref 253, .int x1, .int x2] h3) fun r6 h5 => if r6 = (nI 0) then some (some (.int (nI 0)), h5) else some (some (.int (nI 1)), h5) else some (some (.int m1), h3) := (exec_M (by rfl) _ _ rfl).trans (e241_0 L d x1 x2 h)
set_option maxRecDepth 100000 in
theorem e242_0 (L d : Nat) (x0 : Int32) (h : PH) : runL (g2 L) d 11 false (some .boolean) kc_242 0 [.int x0] [] h
  = cI (exec (g2 L) d 153 [.int x0, .int (nI 0), .int (nI 3)] h) fun r2 h1 => asr (decide (nrZ r2 = r2)) (some (some (.int r2), h1)) := (runL_K [] 10 _ _ _ _).trans rfl
set_option maxRecDepth 100000 in
theorem x242 (L d : Nat) (x0 : Int32) (h : PH) : exec (g2 L) (d + 1) 242 [.int x0] h
  = cI (exec (g2 L) d 153 [.int x0, .int (nI 0), .int (nI 3)] h) fun r2 h1 => asr (decide (nrZ r2 = r2)) (some (some (.int r2), h1)) := (exec_M (by rfl) _ _ rfl).trans (e242_0 L d x0 h)
set_option maxRecDepth 100000 in
theorem e243_0 (L d : Nat) (x0 : Int32) (h : PH) : runL (g2 L) d 11 false (some .boolean) kc_243 0 [.int x0] [] h
  = cI (exec (g2 L) d 153 [.int x0, .int (nI 0), .int (nI 575999)] h) fun r2 h1 => asr (decide (nrZ r2 = r2)) (some (some (.int r2), h1)) := (runL_K [] 10 _ _ _ _).trans rfl
set_option maxRecDepth 100000 in
theorem x243 (L d : Nat) (x0 : Int32) (h : PH) : exec (g2 L) (d + 1) 243 [.int x0] h
  = cI (exec (g2 L) d 153 [.int x0, .int (nI 0), .int (nI 575999)] h) fun r2 h1 => asr (decide (nrZ r2 = r2)) (some (some (.int r2), h1)) := (exec_M (by rfl) _ _ rfl).trans (e243_0 L d x0 h)
set_option maxRecDepth 100000 in
theorem e244_0 (L d : Nat) (x1 : Int32) (x2 : Int32) (h : PH) : runL (g2 L) d 11 false (some .boolean) kc_244 0 [.ref 253, .int x1, .int x2, dm, dm, dm, dm, dm] [] h
  = if (hI h 254 (6)) ≠ m1 then runL (g2 L) d 11 false (some .boolean) kc_244 84 [.ref 253, .int x1, .int x2, .int (hI h 254 (6)), .int (nI 0), .int (nI 0), .int (nI 0), dm] [] (wI (wI (wI (wI (wI h 287 (0) (x2 % (nI 60))) 287 (1) ((x2 % (nI 1440)) / (nI 60))) 287 (2) (x2 % (nI 1440))) 287 (3) ((x2 / (nI 1440)) % (nI 7))) 287 (4) (x2 / (nI 1440))) else some (some (.int (nI 0)), h) := (runL_K [84, 151] 60 _ _ _ _).trans rfl
set_option maxRecDepth 100000 in
theorem e244_84 (L d : Nat) (x1 : Int32) (x2 : Int32) (x3 : Int32) (x4 : Int32) (x5 : Int32) (x6 : Int32) (v7 : Value) (h : PH) : runL (g2 L) d 11 false (some .boolean) kc_244 84 [.ref 253, .int x1, .int x2, .int x3, .int x4, .int x5, .int x6, v7] [] h
  = asr (inB x3 4) (if (hI h 257 (ix x3)) ≤ x6 then if x4 = (nI 0) then some (some (.int (nI 0)), h) else if x5 ≠ (nI 0) then some (some (.int (nI 0)), h) else some (some (.int (nI 1)), h) else asr (inB (((nI 12) * x3) + x6) 48) (if (hI h 258 (ix (((nI 12) * x3) + x6))) ≠ x1 then runL (g2 L) d 11 false (some .boolean) kc_244 151 [.ref 253, .int x1, .int x2, .int x3, .int x4, .int x5, .int x6, .int (hI h 258 (ix (((nI 12) * x3) + x6)))] [] h else if x4 ≠ (nI 0) then runL (g2 L) d 11 false (some .boolean) kc_244 151 [.ref 253, .int x1, .int x2, .int x3, .int x4, .int x5, .int x6, .int (hI h 258 (ix (((nI 12) * x3) + x6)))] [] h else asr (inB (((nI 12) * x3) + x6) 48) (cJ (exec (g2 L) d 245 [.ref 253, .int (hI h 259 (ix (((nI 12) * x3) + x6)))] h) fun q2 h1 => if (lg_cmp q2 0) ≤ (nI 0) then runL (g2 L) d 11 false (some .boolean) kc_244 84 [.ref 253, .int x1, .int x2, .int x3, .int (nI 0), .int x5, .int (x6 + (nI 1)), .int (hI h 258 (ix (((nI 12) * x3) + x6)))] [] h1 else runL (g2 L) d 11 false (some .boolean) kc_244 84 [.ref 253, .int x1, .int x2, .int x3, .int (nI 1), .int x5, .int (x6 + (nI 1)), .int (hI h 258 (ix (((nI 12) * x3) + x6)))] [] h1))) := (runL_K [84, 151] 60 _ _ _ _).trans rfl
set_option maxRecDepth 100000 in
theorem e244_151 (L d : Nat) (x1 : Int32) (x2 : Int32) (x3 : Int32) (x4 : Int32) (x5 : Int32) (x6 : Int32) (x7 : Int32) (h : PH) : runL (g2 L) d 11 false (some .boolean) kc_244 151 [.ref 253, .int x1, .int x2, .int x3, .int x4, .int x5, .int x6, .int x7] [] h
  = if x7 ≠ m1 then runL (g2 L) d 11 false (some .boolean) kc_244 84 [.ref 253, .int x1, .int x2, .int x3, .int x4, .int x5, .int (x6 + (nI 1)), .int x7] [] h else if x5 ≠ (nI 0) then runL (g2 L) d 11 false (some .boolean) kc_244 84 [.ref 253, .int x1, .int x2, .int x3, .int x4, .int x5, .int (x6 + (nI 1)), .int x7] [] h else asr (inB (((nI 12) * x3) + x6) 48) (cJ (exec (g2 L) d 245 [.ref 253, .int (hI h 259 (ix (((nI 12) * x3) + x6)))] h) fun q2 h1 => if (lg_cmp q2 0) ≤ (nI 0) then runL (g2 L) d 11 false (some .boolean) kc_244 84 [.ref 253, .int x1, .int x2, .int x3, .int x4, .int (nI 0), .int (x6 + (nI 1)), .int x7] [] h1 else runL (g2 L) d 11 false (some .boolean) kc_244 84 [.ref 253, .int x1, .int x2, .int x3, .int x4, .int (nI 1), .int (x6 + (nI 1)), .int x7] [] h1) := (runL_K [84, 151] 36 _ _ _ _).trans rfl
set_option maxRecDepth 100000 in
theorem x244 (L d : Nat) (x1 : Int32) (x2 : Int32) (h : PH) : exec (g2 L) (d + 1) 244 [.ref 253, .int x1, .int x2] h
  = if (hI h 254 (6)) ≠ m1 then runL (g2 L) d 11 false (some .boolean) kc_244 84 [.ref 253, .int x1, .int x2, .int (hI h 254 (6)), .int (nI 0), .int (nI 0), .int (nI 0), dm] [] (wI (wI (wI (wI (wI h 287 (0) (x2 % (nI 60))) 287 (1) ((x2 % (nI 1440)) / (nI 60))) 287 (2) (x2 % (nI 1440))) 287 (3) ((x2 / (nI 1440)) % (nI 7))) 287 (4) (x2 / (nI 1440))) else some (some (.int (nI 0)), h) := (exec_M (by rfl) _ _ rfl).trans (e244_0 L d x1 x2 h)
set_option maxRecDepth 100000 in
theorem e245_0 (L d : Nat) (x1 : Int32) (h : PH) : runL (g2 L) d 11 false (some .long) kc_245 0 [.ref 253, .int x1, dm, dm, dm] [] h
  = runL (g2 L) d 11 false (some .long) kc_245 4 [.ref 253, .int x1, .int (nI 0), .int x1, dm] [] h := (runL_K [4, 40, 82, 110, 139, 142] 9 _ _ _ _).trans rfl
set_option maxRecDepth 100000 in
theorem e245_4 (L d : Nat) (x1 : Int32) (x2 : Int32) (x3 : Int32) (v4 : Value) (h : PH) : runL (g2 L) d 11 false (some .long) kc_245 4 [.ref 253, .int x1, .int x2, .int x3, v4] [] h
  = asr (inB x3 1600) (if (hI h 260 (ix x3)) = (nI 408) then some (some (.long (hJ h 288 (0))), h) else asr (inB x3 1600) (if (hI h 260 (ix x3)) = (nI 400) then runL (g2 L) d 11 false (some .long) kc_245 40 [.ref 253, .int x1, .int x2, .int x3, .int (hI h 260 (ix x3))] [] h else if (hI h 260 (ix x3)) ≠ (nI 401) then runL (g2 L) d 11 false (some .long) kc_245 82 [.ref 253, .int x1, .int x2, .int x3, .int (hI h 260 (ix x3))] [] h else runL (g2 L) d 11 false (some .long) kc_245 40 [.ref 253, .int x1, .int x2, .int x3, .int (hI h 260 (ix x3))] [] h)) := (runL_K [4, 40, 82, 110, 139, 142] 27 _ _ _ _).trans rfl
set_option maxRecDepth 100000 in
theorem e245_40 (L d : Nat) (x1 : Int32) (x2 : Int32) (x3 : Int32) (x4 : Int32) (h : PH) : runL (g2 L) d 11 false (some .long) kc_245 40 [.ref 253, .int x1, .int x2, .int x3, .int x4] [] h
  = if x4 ≠ (nI 400) then asr (inB x3 1600) (asr (inB (hI h 261 (ix x3)) 5) (asr (inB x2 200) (runL (g2 L) d 11 false (some .long) kc_245 4 [.ref 253, .int x1, .int (x2 + (nI 1)), .int (x3 + (nI 1)), .int x4] [] (wJ h 288 (ix x2) ((hI h 287 (ix (hI h 261 (ix x3)))).toInt64))))) else asr (inB x3 1600) (asr (inB x2 200) (runL (g2 L) d 11 false (some .long) kc_245 4 [.ref 253, .int x1, .int (x2 + (nI 1)), .int (x3 + (nI 1)), .int x4] [] (wJ h 288 (ix x2) ((hI h 261 (ix x3)).toInt64)))) := (runL_K [4, 40, 82, 110, 139, 142] 35 _ _ _ _).trans rfl
set_option maxRecDepth 100000 in
theorem e245_82 (L d : Nat) (x1 : Int32) (x2 : Int32) (x3 : Int32) (x4 : Int32) (h : PH) : runL (g2 L) d 11 false (some .long) kc_245 82 [.ref 253, .int x1, .int x2, .int x3, .int x4] [] h
  = if x4 ≠ (nI 402) then runL (g2 L) d 11 false (some .long) kc_245 110 [.ref 253, .int x1, .int x2, .int x3, .int x4] [] h else asr (inB (x2 - (nI 1)) 200) (asr (inB (x2 - (nI 1)) 200) (runL (g2 L) d 11 false (some .long) kc_245 4 [.ref 253, .int x1, .int x2, .int (x3 + (nI 1)), .int x4] [] (wJ h 288 (ix (x2 - (nI 1))) (-(hJ h 288 (ix (x2 - (nI 1)))))))) := (runL_K [4, 40, 82, 110, 139, 142] 24 _ _ _ _).trans rfl
set_option maxRecDepth 100000 in
theorem e245_110 (L d : Nat) (x1 : Int32) (x2 : Int32) (x3 : Int32) (x4 : Int32) (h : PH) : runL (g2 L) d 11 false (some .long) kc_245 110 [.ref 253, .int x1, .int x2, .int x3, .int x4] [] h
  = if x4 ≠ (nI 405) then runL (g2 L) d 11 false (some .long) kc_245 139 [.ref 253, .int x1, .int x2, .int x3, .int x4] [] h else asr (inB (x2 - (nI 1)) 200) (asr (inB (x2 - (nI 1)) 200) (runL (g2 L) d 11 false (some .long) kc_245 4 [.ref 253, .int x1, .int x2, .int (x3 + (nI 1)), .int x4] [] (wJ h 288 (ix (x2 - (nI 1))) (1 - (hJ h 288 (ix (x2 - (nI 1)))))))) := (runL_K [4, 40, 82, 110, 139, 142] 25 _ _ _ _).trans rfl
set_option maxRecDepth 100000 in
theorem e245_139 (L d : Nat) (x1 : Int32) (x2 : Int32) (x3 : Int32) (x4 : Int32) (h : PH) : runL (g2 L) d 11 false (some .long) kc_245 139 [.ref 253, .int x1, .int x2, .int x3, .int x4] [] h
  = runL (g2 L) d 11 false (some .long) kc_245 142 [.ref 253, .int x1, .int (x2 + m1), .int x3, .int x4] [] h := (runL_K [4, 40, 82, 110, 139, 142] 6 _ _ _ _).trans rfl
set_option maxRecDepth 100000 in
theorem e245_142 (L d : Nat) (x1 : Int32) (x2 : Int32) (x3 : Int32) (x4 : Int32) (h : PH) : runL (g2 L) d 11 false (some .long) kc_245 142 [.ref 253, .int x1, .int x2, .int x3, .int x4] [] h
  = asr (inB (x2 - (nI 1)) 200) (asr (inB x2 200) (cJ (exec (g2 L) d 246 [.int x4, .long (hJ h 288 (ix (x2 - (nI 1)))), .long (hJ h 288 (ix x2))] h) fun q2 h1 => asr (inB (x2 - (nI 1)) 200) (runL (g2 L) d 11 false (some .long) kc_245 4 [.ref 253, .int x1, .int x2, .int (x3 + (nI 1)), .int x4] [] (wJ h1 288 (ix (x2 - (nI 1))) q2)))) := (runL_K [4, 40, 82, 110, 139, 142] 25 _ _ _ _).trans rfl
set_option maxRecDepth 100000 in
theorem x245 (L d : Nat) (x1 : Int32) (h : PH) : exec (g2 L) (d + 1) 245 [.ref 253, .int x1] h
  = runL (g2 L) d 11 false (some .long) kc_245 4 [.ref 253, .int x1, .int (nI 0), .int x1, dm] [] h := (exec_M (by rfl) _ _ rfl).trans (e245_0 L d x1 h)
set_option maxRecDepth 100000 in
theorem e246_0 (L d : Nat) (x0 : Int32) (x1 : Int64) (x3 : Int64) (h : PH) : runL (g2 L) d 11 false (some .long) kc_246 0 [.int x0, .long x1, dm, .long x3, dm] [] h
  = if x0 = (nI 35) then if (lg_cmp x1 x3) = (nI 0) then some (some (.long 0), h) else some (some (.long 1), h) else if x0 = (nI 37) then if (lg_cmp x3 0) ≠ (nI 0) then if x3 = 0 then none else some (some (.long (x1 % x3)), h) else some (some (.long 0), h) else if x0 = (nI 42) then cJ (exec (g2 L) d 247 [.long (x1 * x3)] h) fun q2 h1 => some (some (.long q2), h1) else if x0 = (nI 43) then cJ (exec (g2 L) d 247 [.long (x1 + x3)] h) fun q4 h3 => some (some (.long q4), h3) else if x0 = (nI 45) then cJ (exec (g2 L) d 247 [.long (x1 - x3)] h) fun q6 h5 => some (some (.long q6), h5) else if x0 = (nI 47) then if (lg_cmp x3 0) ≠ (nI 0) then if x3 = 0 then none else some (some (.long (x1 / x3)), h) else some (some (.long 0), h) else if x0 = (nI 60) then if (nI 0) ≤ (lg_cmp x1 x3) then some (some (.long 0), h) else some (some (.long 1), h) else if x0 = (nI 61) then if (lg_cmp x1 x3) ≠ (nI 0) then some (some (.long 0), h) else some (some (.long 1), h) else if x0 = (nI 62) then if (lg_cmp x1 x3) ≤ (nI 0) then some (some (.long 0), h) else some (some (.long 1), h) else if x0 = (nI 300) then if (nI 0) < (lg_cmp x1 x3) then some (some (.long 0), h) else some (some (.long 1), h) else if x0 = (nI 301) then if (lg_cmp x1 x3) < (nI 0) then some (some (.long 0), h) else some (some (.long 1), h) else if x0 = (nI 406) then some (some (.long (x1 * x3)), h) else if (lg_cmp (x1 + x3) 0) ≤ (nI 0) then some (some (.long 0), h) else some (some (.long 1), h) := (runL_K [] 113 _ _ _ _).trans rfl
set_option maxRecDepth 100000 in
theorem x246 (L d : Nat) (x0 : Int32) (x1 : Int64) (x3 : Int64) (h : PH) : exec (g2 L) (d + 1) 246 [.int x0, .long x1, .long x3] h
  = if x0 = (nI 35) then if (lg_cmp x1 x3) = (nI 0) then some (some (.long 0), h) else some (some (.long 1), h) else if x0 = (nI 37) then if (lg_cmp x3 0) ≠ (nI 0) then if x3 = 0 then none else some (some (.long (x1 % x3)), h) else some (some (.long 0), h) else if x0 = (nI 42) then cJ (exec (g2 L) d 247 [.long (x1 * x3)] h) fun q2 h1 => some (some (.long q2), h1) else if x0 = (nI 43) then cJ (exec (g2 L) d 247 [.long (x1 + x3)] h) fun q4 h3 => some (some (.long q4), h3) else if x0 = (nI 45) then cJ (exec (g2 L) d 247 [.long (x1 - x3)] h) fun q6 h5 => some (some (.long q6), h5) else if x0 = (nI 47) then if (lg_cmp x3 0) ≠ (nI 0) then if x3 = 0 then none else some (some (.long (x1 / x3)), h) else some (some (.long 0), h) else if x0 = (nI 60) then if (nI 0) ≤ (lg_cmp x1 x3) then some (some (.long 0), h) else some (some (.long 1), h) else if x0 = (nI 61) then if (lg_cmp x1 x3) ≠ (nI 0) then some (some (.long 0), h) else some (some (.long 1), h) else if x0 = (nI 62) then if (lg_cmp x1 x3) ≤ (nI 0) then some (some (.long 0), h) else some (some (.long 1), h) else if x0 = (nI 300) then if (nI 0) < (lg_cmp x1 x3) then some (some (.long 0), h) else some (some (.long 1), h) else if x0 = (nI 301) then if (lg_cmp x1 x3) < (nI 0) then some (some (.long 0), h) else some (some (.long 1), h) else if x0 = (nI 406) then some (some (.long (x1 * x3)), h) else if (lg_cmp (x1 + x3) 0) ≤ (nI 0) then some (some (.long 0), h) else some (some (.long 1), h) := (exec_M (by rfl) _ _ rfl).trans (e246_0 L d x0 x1 x3 h)
set_option maxRecDepth 100000 in
theorem e247_0 (L d : Nat) (x0 : Int64) (h : PH) : runL (g2 L) d 11 false (some .long) kc_247 0 [.long x0, dm] [] h
  = if (lg_cmp x0 1000000) ≤ (nI 0) then if (nI 0) ≤ (lg_cmp x0 (-1000000)) then some (some (.long x0), h) else some (some (.long (-1000000)), h) else some (some (.long 1000000), h) := (runL_K [] 21 _ _ _ _).trans rfl
set_option maxRecDepth 100000 in
theorem x247 (L d : Nat) (x0 : Int64) (h : PH) : exec (g2 L) (d + 1) 247 [.long x0] h
  = if (lg_cmp x0 1000000) ≤ (nI 0) then if (nI 0) ≤ (lg_cmp x0 (-1000000)) then some (some (.long x0), h) else some (some (.long (-1000000)), h) else some (some (.long 1000000), h) := (exec_M (by rfl) _ _ rfl).trans (e247_0 L d x0 h)
set_option maxRecDepth 100000 in
theorem e248_0 (L d : Nat) (x1 : Int32) (x2 : Int32) (h : PH) : runL (g2 L) d 11 false (some .int) kc_248 0 [.ref 253, .int x1, .int x2] [] h
  = cI (exec (g2 L) d 242 [.int x1] h) fun r2 h1 => if r2 = (nI 0) then some (some (.int m1), h1) else cI (exec (g2 L) d 243 [.int x2] h1) fun r4 h3 => if r4 = (nI 0) then some (some (.int m1), h3) else cI (exec (g2 L) d 249 [.ref 253, .int x1, .int x1, .int x2, .int (nI 28800)] h3) fun r6 h5 => some (some (.int r6), h5) := (runL_K [] 23 _ _ _ _).trans rfl
set_option maxRecDepth 100000 in
theorem x248 (L d : Nat) (x1 : Int32) (x2 : Int32) (h : PH) : exec (g2 L) (d + 1) 248 [.ref 253, .int x1, .int x2] h
  = cI (exec (g2 L) d 242 [.int x1] h) fun r2 h1 => if r2 = (nI 0) then some (some (.int m1), h1) else cI (exec (g2 L) d 243 [.int x2] h1) fun r4 h3 => if r4 = (nI 0) then some (some (.int m1), h3) else cI (exec (g2 L) d 249 [.ref 253, .int x1, .int x1, .int x2, .int (nI 28800)] h3) fun r6 h5 => some (some (.int r6), h5) := (exec_M (by rfl) _ _ rfl).trans (e248_0 L d x1 x2 h)
set_option maxRecDepth 100000 in
theorem e249_0 (L d : Nat) (x1 : Int32) (x2 : Int32) (x3 : Int32) (x4 : Int32) (h : PH) : runL (g2 L) d 11 false (some .int) kc_249 0 [.ref 253, .int x1, .int x2, .int x3, .int x4, dm] [] h
  = runL (g2 L) d 11 false (some .int) kc_249 3 [.ref 253, .int x1, .int x2, .int x3, .int x4, .int x3] [] h := (runL_K [3] 7 _ _ _ _).trans rfl
set_option maxRecDepth 100000 in
theorem e249_3 (L d : Nat) (x1 : Int32) (x2 : Int32) (x3 : Int32) (x4 : Int32) (x5 : Int32) (h : PH) : runL (g2 L) d 11 false (some .int) kc_249 3 [.ref 253, .int x1, .int x2, .int x3, .int x4, .int x5] [] h
  = if (x3 + x4) ≤ x5 then some (some (.int m1), h) else if (nI 575999) < x5 then some (some (.int m1), h) else cI (exec (g2 L) d 244 [.ref 253, .int x1, .int x5] h) fun r2 h1 => if r2 = (nI 0) then runL (g2 L) d 11 false (some .int) kc_249 3 [.ref 253, .int x1, .int x2, .int x3, .int x4, .int (x5 + (nI 1))] [] h1 else cI (exec (g2 L) d 244 [.ref 253, .int x2, .int x5] h1) fun r4 h3 => if r4 = (nI 0) then runL (g2 L) d 11 false (some .int) kc_249 3 [.ref 253, .int x1, .int x2, .int x3, .int x4, .int (x5 + (nI 1))] [] h3 else some (some (.int x5), h3) := (runL_K [3] 33 _ _ _ _).trans rfl
set_option maxRecDepth 100000 in
theorem x249 (L d : Nat) (x1 : Int32) (x2 : Int32) (x3 : Int32) (x4 : Int32) (h : PH) : exec (g2 L) (d + 1) 249 [.ref 253, .int x1, .int x2, .int x3, .int x4] h
  = runL (g2 L) d 11 false (some .int) kc_249 3 [.ref 253, .int x1, .int x2, .int x3, .int x4, .int x3] [] h := (exec_M (by rfl) _ _ rfl).trans (e249_0 L d x1 x2 x3 x4 h)
set_option maxRecDepth 100000 in
theorem e250_0 (L d : Nat) (x1 : Int32) (x2 : Int32) (h : PH) : runL (g2 L) d 11 false (some .int) kc_250 0 [.ref 253, .int x1, .int x2, dm, dm] [] h
  = cI (exec (g2 L) d 242 [.int x1] h) fun r2 h1 => if r2 = (nI 0) then some (some (.int m1), h1) else cI (exec (g2 L) d 153 [.int x2, .int (nI 0), .int (nI 399)] h1) fun r4 h3 => if r4 ≠ (nI 0) then runL (g2 L) d 11 false (some .int) kc_250 29 [.ref 253, .int x1, .int x2, .int (nI 0), .int ((nI 1440) * x2)] [] h3 else some (some (.int m1), h3) := (runL_K [29] 23 _ _ _ _).trans rfl
set_option maxRecDepth 100000 in
theorem e250_29 (L d : Nat) (x1 : Int32) (x2 : Int32) (x3 : Int32) (x4 : Int32) (h : PH) : runL (g2 L) d 11 false (some .int) kc_250 29 [.ref 253, .int x1, .int x2, .int x3, .int x4] [] h
  = if (((nI 1440) * x2) + (nI 1440)) ≤ x4 then some (some (.int x3), h) else cI (exec (g2 L) d 244 [.ref 253, .int x1, .int x4] h) fun r2 h1 => if r2 = (nI 0) then runL (g2 L) d 11 false (some .int) kc_250 29 [.ref 253, .int x1, .int x2, .int (x3 + (nI 0)), .int (x4 + (nI 1))] [] h1 else runL (g2 L) d 11 false (some .int) kc_250 29 [.ref 253, .int x1, .int x2, .int (x3 + (nI 1)), .int (x4 + (nI 1))] [] h1 := (runL_K [29] 31 _ _ _ _).trans rfl
set_option maxRecDepth 100000 in
theorem x250 (L d : Nat) (x1 : Int32) (x2 : Int32) (h : PH) : exec (g2 L) (d + 1) 250 [.ref 253, .int x1, .int x2] h
  = cI (exec (g2 L) d 242 [.int x1] h) fun r2 h1 => if r2 = (nI 0) then some (some (.int m1), h1) else cI (exec (g2 L) d 153 [.int x2, .int (nI 0), .int (nI 399)] h1) fun r4 h3 => if r4 ≠ (nI 0) then runL (g2 L) d 11 false (some .int) kc_250 29 [.ref 253, .int x1, .int x2, .int (nI 0), .int ((nI 1440) * x2)] [] h3 else some (some (.int m1), h3) := (exec_M (by rfl) _ _ rfl).trans (e250_0 L d x1 x2 h)
set_option maxRecDepth 100000 in
theorem e251_0 (L d : Nat) (x1 : Int32) (x2 : Int32) (x3 : Int32) (h : PH) : runL (g2 L) d 11 false (some .int) kc_251 0 [.ref 253, .int x1, .int x2, .int x3] [] h
  = cI (exec (g2 L) d 242 [.int x1] h) fun r2 h1 => if r2 = (nI 0) then some (some (.int m1), h1) else cI (exec (g2 L) d 242 [.int x2] h1) fun r4 h3 => if r4 = (nI 0) then some (some (.int m1), h3) else cI (exec (g2 L) d 243 [.int x3] h3) fun r6 h5 => if r6 = (nI 0) then some (some (.int m1), h5) else cI (exec (g2 L) d 249 [.ref 253, .int x1, .int x2, .int x3, .int (nI 28800)] h5) fun r8 h7 => some (some (.int r8), h7) := (runL_K [] 28 _ _ _ _).trans rfl
set_option maxRecDepth 100000 in
theorem x251 (L d : Nat) (x1 : Int32) (x2 : Int32) (x3 : Int32) (h : PH) : exec (g2 L) (d + 1) 251 [.ref 253, .int x1, .int x2, .int x3] h
  = cI (exec (g2 L) d 242 [.int x1] h) fun r2 h1 => if r2 = (nI 0) then some (some (.int m1), h1) else cI (exec (g2 L) d 242 [.int x2] h1) fun r4 h3 => if r4 = (nI 0) then some (some (.int m1), h3) else cI (exec (g2 L) d 243 [.int x3] h3) fun r6 h5 => if r6 = (nI 0) then some (some (.int m1), h5) else cI (exec (g2 L) d 249 [.ref 253, .int x1, .int x2, .int x3, .int (nI 28800)] h5) fun r8 h7 => some (some (.int r8), h7) := (exec_M (by rfl) _ _ rfl).trans (e251_0 L d x1 x2 x3 h)
set_option maxRecDepth 100000 in
theorem e252_0 (L d : Nat) (x1 : Int32) (x2 : Int32) (h : PH) : runL (g2 L) d 11 false (some .int) kc_252 0 [.ref 253, .int x1, .int x2, dm, dm, dm, dm] [] h
  = cI (exec (g2 L) d 242 [.int x1] h) fun r2 h1 => if r2 = (nI 0) then some (some (.int m1), h1) else if x2 = m1 then runL (g2 L) d 11 false (some .int) kc_252 22 [.ref 253, .int x1, .int x2, dm, dm, dm, dm] [] h1 else cI (exec (g2 L) d 157 [.ref 253, .int x2] h1) fun r4 h3 => if r4 ≠ (nI 0) then runL (g2 L) d 11 false (some .int) kc_252 22 [.ref 253, .int x1, .int x2, dm, dm, dm, dm] [] h3 else some (some (.int m1), h3) := (runL_K [22] 19 _ _ _ _).trans rfl
set_option maxRecDepth 100000 in
theorem e252_22 (L d : Nat) (x1 : Int32) (x2 : Int32) (h : PH) : runL (g2 L) d 11 false (some .int) kc_252 22 [.ref 253, .int x1, .int x2, dm, dm, dm, dm] [] h
  = if x2 = m1 then cI (exec (g2 L) d 253 [.ref 253, .int x1, .int (hI h 254 (0))] h) fun r2 h1 => some (some (.int r2), h1) else cI (exec (g2 L) d 175 [.ref 253, .int x2] h) fun r4 h3 => if ((hI h 254 (0)) - r4) < (nI 0) then cI (exec (g2 L) d 253 [.ref 253, .int x1, .int (((hI h 254 (0)) - r4) + (nI 720))] h3) fun r6 h5 => some (some (.int r6), h5) else if r4 ≤ (nI 360) then cI (exec (g2 L) d 253 [.ref 253, .int x1, .int ((hI h 254 (0)) - r4)] h3) fun r8 h7 => some (some (.int r8), h7) else if (nI 575999) < (((hI h 254 (0)) - r4) + (nI 720)) then cI (exec (g2 L) d 253 [.ref 253, .int x1, .int ((hI h 254 (0)) - r4)] h3) fun r10 h9 => some (some (.int r10), h9) else cI (exec (g2 L) d 253 [.ref 253, .int x1, .int (((hI h 254 (0)) - r4) + (nI 720))] h3) fun r12 h11 => some (some (.int r12), h11) := (runL_K [22] 68 _ _ _ _).trans rfl
set_option maxRecDepth 100000 in
theorem x252 (L d : Nat) (x1 : Int32) (x2 : Int32) (h : PH) : exec (g2 L) (d + 1) 252 [.ref 253, .int x1, .int x2] h
  = cI (exec (g2 L) d 242 [.int x1] h) fun r2 h1 => if r2 = (nI 0) then some (some (.int m1), h1) else if x2 = m1 then runL (g2 L) d 11 false (some .int) kc_252 22 [.ref 253, .int x1, .int x2, dm, dm, dm, dm] [] h1 else cI (exec (g2 L) d 157 [.ref 253, .int x2] h1) fun r4 h3 => if r4 ≠ (nI 0) then runL (g2 L) d 11 false (some .int) kc_252 22 [.ref 253, .int x1, .int x2, dm, dm, dm, dm] [] h3 else some (some (.int m1), h3) := (exec_M (by rfl) _ _ rfl).trans (e252_0 L d x1 x2 h)
set_option maxRecDepth 100000 in
theorem e253_0 (L d : Nat) (x1 : Int32) (x2 : Int32) (h : PH) : runL (g2 L) d 11 false (some .int) kc_253 0 [.ref 253, .int x1, .int x2, dm] [] h
  = runL (g2 L) d 11 false (some .int) kc_253 2 [.ref 253, .int x1, .int x2, .int (nI 0)] [] h := (runL_K [2] 7 _ _ _ _).trans rfl
set_option maxRecDepth 100000 in
theorem e253_2 (L d : Nat) (x1 : Int32) (x2 : Int32) (x3 : Int32) (h : PH) : runL (g2 L) d 11 false (some .int) kc_253 2 [.ref 253, .int x1, .int x2, .int x3] [] h
  = if (nI 1440) ≤ x3 then some (some (.int m1), h) else if x2 < x3 then some (some (.int m1), h) else cI (exec (g2 L) d 244 [.ref 253, .int x1, .int (x2 - x3)] h) fun r2 h1 => if r2 = (nI 0) then runL (g2 L) d 11 false (some .int) kc_253 2 [.ref 253, .int x1, .int x2, .int (x3 + (nI 1))] [] h1 else some (some (.int x3), h1) := (runL_K [2] 26 _ _ _ _).trans rfl
set_option maxRecDepth 100000 in
theorem x253 (L d : Nat) (x1 : Int32) (x2 : Int32) (h : PH) : exec (g2 L) (d + 1) 253 [.ref 253, .int x1, .int x2] h
  = runL (g2 L) d 11 false (some .int) kc_253 2 [.ref 253, .int x1, .int x2, .int (nI 0)] [] h := (exec_M (by rfl) _ _ rfl).trans (e253_0 L d x1 x2 h)
set_option maxRecDepth 100000 in
theorem e254_0 (L d : Nat) (x1 : Int32) (x2 : Int32) (h : PH) : runL (g2 L) d 11 false (some .int) kc_254 0 [.ref 253, .int x1, .int x2, dm, dm, dm] [] h
  = cI (exec (g2 L) d 242 [.int x1] h) fun r2 h1 => if r2 = (nI 0) then some (some (.int m1), h1) else cI (exec (g2 L) d 242 [.int x2] h1) fun r4 h3 => if r4 ≠ (nI 0) then cI (exec (g2 L) d 253 [.ref 253, .int x1, .int (hI h3 254 (0))] h3) fun r6 h5 => if r6 ≠ m1 then if (nI 575999) ≤ ((hI h5 254 (0)) - r6) then some (some (.int m1), h5) else cI (exec (g2 L) d 249 [.ref 253, .int x2, .int x2, .int (((hI h5 254 (0)) - r6) + (nI 1)), .int (nI 1440)] h5) fun r8 h7 => if r8 ≠ m1 then some (some (.int (r8 - ((hI h5 254 (0)) - r6))), h7) else some (some (.int m1), h7) else some (some (.int m1), h5) else some (some (.int m1), h3) := (runL_K [] 70 _ _ _ _).trans rfl
set_option maxRecDepth 100000 in
theorem x254 (L d : Nat) (x1 : Int32) (x2 : Int32) (h : PH) : exec (g2 L) (d + 1) 254 [.ref 253, .int x1, .int x2] h
  = cI (exec (g2 L) d 242 [.int x1] h) fun r2 h1 => if r2 = (nI 0) then some (some (.int m1), h1) else cI (exec (g2 L) d 242 [.int x2] h1) fun r4 h3 => if r4 ≠ (nI 0) then cI (exec (g2 L) d 253 [.ref 253, .int x1, .int (hI h3 254 (0))] h3) fun r6 h5 => if r6 ≠ m1 then if (nI 575999) ≤ ((hI h5 254 (0)) - r6) then some (some (.int m1), h5) else cI (exec (g2 L) d 249 [.ref 253, .int x2, .int x2, .int (((hI h5 254 (0)) - r6) + (nI 1)), .int (nI 1440)] h5) fun r8 h7 => if r8 ≠ m1 then some (some (.int (r8 - ((hI h5 254 (0)) - r6))), h7) else some (some (.int m1), h7) else some (some (.int m1), h5) else some (some (.int m1), h3) := (exec_M (by rfl) _ _ rfl).trans (e254_0 L d x1 x2 h)
set_option maxRecDepth 100000 in
theorem e255_0 (L d : Nat)  (h : PH) : runL (g2 L) d 11 false (some .int) kc_255 0 [.ref 253] [] h
  = cV (exec (g2 L) d 150 [.ref 253, .int (nI 1)] h) fun h1 => some (some (.int (hI h1 254 (0))), h1) := (runL_K [] 13 _ _ _ _).trans rfl
set_option maxRecDepth 100000 in
theorem x255 (L d : Nat)  (h : PH) : exec (g2 L) (d + 1) 255 [.ref 253] h
  = cV (exec (g2 L) d 150 [.ref 253, .int (nI 1)] h) fun h1 => some (some (.int (hI h1 254 (0))), h1) := (exec_M (by rfl) _ _ rfl).trans (e255_0 L d  h)
set_option maxRecDepth 100000 in
theorem e256_0 (L d : Nat)  (h : PH) : runL (g2 L) d 11 false (some .int) kc_256 0 [.ref 253] [] h
  = cV (exec (g2 L) d 150 [.ref 253, .int (nI 0)] h) fun h1 => some (some (.int (hI h1 254 (0))), h1) := (runL_K [] 13 _ _ _ _).trans rfl
set_option maxRecDepth 100000 in
theorem x256 (L d : Nat)  (h : PH) : exec (g2 L) (d + 1) 256 [.ref 253] h
  = cV (exec (g2 L) d 150 [.ref 253, .int (nI 0)] h) fun h1 => some (some (.int (hI h1 254 (0))), h1) := (exec_M (by rfl) _ _ rfl).trans (e256_0 L d  h)
set_option maxRecDepth 100000 in
theorem e257_0 (L d : Nat) (x1 : Int32) (h : PH) : runL (g2 L) d 11 false (some .int) kc_257 0 [.ref 253, .int x1] [] h
  = if x1 = (nI 0) then some (some (.int (hI h 254 (0))), h) else if x1 = (nI 1) then some (some (.int (hI h 254 (1))), h) else if x1 = (nI 2) then some (some (.int (hI h 254 (2))), h) else if x1 = (nI 3) then some (some (.int (hI h 254 (3))), h) else if x1 = (nI 4) then some (some (.int (hI h 254 (4))), h) else if x1 = (nI 5) then some (some (.int (hI h 254 (5))), h) else if x1 = (nI 6) then some (some (.int (hI h 254 (6))), h) else if x1 = (nI 7) then some (some (.int (hI h 254 (7))), h) else if x1 = (nI 8) then some (some (.int (hI h 254 (8))), h) else if x1 = (nI 9) then some (some (.int (hI h 253 3)), h) else cI (exec (g2 L) d 153 [.int x1, .int (nI 20), .int ((nI 19) + (hI h 254 (3)))] h) fun r2 h1 => if r2 = (nI 0) then some (some (.int m1), h1) else asr (inB (((nI 28) + x1) - (nI 20)) 440) (some (some (.int (hI h1 254 (ix (((nI 28) + x1) - (nI 20))))), h1)) := (runL_K [] 77 _ _ _ _).trans rfl
set_option maxRecDepth 100000 in
theorem x257 (L d : Nat) (x1 : Int32) (h : PH) : exec (g2 L) (d + 1) 257 [.ref 253, .int x1] h
  = if x1 = (nI 0) then some (some (.int (hI h 254 (0))), h) else if x1 = (nI 1) then some (some (.int (hI h 254 (1))), h) else if x1 = (nI 2) then some (some (.int (hI h 254 (2))), h) else if x1 = (nI 3) then some (some (.int (hI h 254 (3))), h) else if x1 = (nI 4) then some (some (.int (hI h 254 (4))), h) else if x1 = (nI 5) then some (some (.int (hI h 254 (5))), h) else if x1 = (nI 6) then some (some (.int (hI h 254 (6))), h) else if x1 = (nI 7) then some (some (.int (hI h 254 (7))), h) else if x1 = (nI 8) then some (some (.int (hI h 254 (8))), h) else if x1 = (nI 9) then some (some (.int (hI h 253 3)), h) else cI (exec (g2 L) d 153 [.int x1, .int (nI 20), .int ((nI 19) + (hI h 254 (3)))] h) fun r2 h1 => if r2 = (nI 0) then some (some (.int m1), h1) else asr (inB (((nI 28) + x1) - (nI 20)) 440) (some (some (.int (hI h1 254 (ix (((nI 28) + x1) - (nI 20))))), h1)) := (exec_M (by rfl) _ _ rfl).trans (e257_0 L d x1 h)
