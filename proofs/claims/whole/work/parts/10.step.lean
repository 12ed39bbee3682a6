theorem jmp_some {pc : Nat} {off : Int} {f : Nat → PR} {res : Option Value × PH} (hs : jmp pc off f = some res) : ∃ t : Nat, (pc : Int) + off = (t : Int) ∧ f t = some res := by
  unfold jmp at hs
  split at hs
  · rename_i t he
    exact ⟨t, he, hs⟩
  · cases hs
theorem len_of {i : Instr} {len : Nat} (h : (Nat.beq (lenOf i) 0 || Nat.beq (lenOf i) len) = true) (h0 : lenOf i ≠ 0) : len = lenOf i := by
  simp only [Bool.or_eq_true] at h
  rcases h with q | q
  · exact absurd (Nat.eq_of_beq_eq_true q) h0
  · exact (Nat.eq_of_beq_eq_true q).symm
theorem swT_some {x : Int32} {f : Int → PR} {d : PR} {res : Option Value × PH} : ∀ (offs : List Int) (lo : Int), -2147483648 ≤ lo → lo + offs.length ≤ 2147483648 → swT x lo offs f d = some res → (∃ off, offs[(x.toInt - lo).toNat]? = some off ∧ lo ≤ x.toInt ∧ x.toInt < lo + offs.length ∧ f off = some res) ∨ ((x.toInt < lo ∨ lo + offs.length ≤ x.toInt) ∧ d = some res)
  | [], lo, _, _, hs => Or.inr ⟨by simp only [List.length_nil]; omega, hs⟩
  | o :: t, lo, h1, h2, hs => by
    simp only [List.length_cons] at h2
    have hl : (Int32.ofInt lo).toInt = lo := Int32.toInt_ofInt_of_le (by omega) (by omega)
    unfold swT at hs
    by_cases hx : x = Int32.ofInt lo
    · rw [if_pos hx] at hs
      have e : x.toInt = lo := by rw [hx, hl]
      refine Or.inl ⟨o, ?_, by omega, by simp only [List.length_cons]; omega, hs⟩
      rw [e]
      simp
    · rw [if_neg hx] at hs
      have hne : x.toInt ≠ lo := fun q => hx (Int32.toInt_inj.mp (by rw [hl]; exact q))
      rcases swT_some t (lo + 1) (by omega) (by omega) hs with ⟨off, q1, q2, q3, q4⟩ | ⟨q1, q2⟩
      · refine Or.inl ⟨off, ?_, by omega, by simp only [List.length_cons]; omega, q4⟩
        rw [show (x.toInt - lo).toNat = (x.toInt - (lo + 1)).toNat + 1 by omega]
        exact q1
      · exact Or.inr ⟨by simp only [List.length_cons]; omega, q2⟩
theorem swL_some {x : Int32} {f : Int → PR} {d : Int} {res : Option Value × PH} : ∀ (ps : List (Int × Int)), (∀ q ∈ ps, -2147483648 ≤ q.1 ∧ q.1 ≤ 2147483647) → swL x ps f (f d) = some res → f (Op.lookupswitch.offset ps d x.toInt) = some res
  | [], _, hs => hs
  | (a, o) :: t, hr, hs => by
    have ha := hr (a, o) List.mem_cons_self
    have hl : (Int32.ofInt a).toInt = a := Int32.toInt_ofInt_of_le (by omega) (by have := ha.2; omega)
    unfold swL at hs
    by_cases hx : x = Int32.ofInt a
    · rw [if_pos hx] at hs
      have e : x.toInt = a := by rw [hx, hl]
      rw [Op.lookupswitch.offset_cons, if_pos e.symm]
      exact hs
    · rw [if_neg hx] at hs
      rw [lv_osw (k := Int32.ofInt a) hx hl]
      exact swL_some t (fun q hq => hr q (List.mem_cons_of_mem _ hq)) hs
section Main9
variable {p : Program} {l : Launch} {e : Env} {R : Room} {s : State} {m : MethodId} {args : Array Value} {below : List Frame} {meth : Method} {c : Code} {Q : State → Prop} {cc : ByteArray}
variable {w : Wd} {wV : Nat → Nat} {G : PG} {n0 z0 own nL : Nat} {ini : Bool} {ret : Option FieldType} {xs : Nat → Int32} {pc : Nat} {lv st : List Value} {h : PH}
theorem blt_lt {a b : Nat} (h : Nat.blt a b = true) : a < b := Nat.le_of_ble_eq_true h
theorem kxI {j t : Nat} {v : Int32} (ho : own < 17) (hf : kx_find (kx_I own) j = some (v, t)) : Cond.constant (kx_R own) j v ∈ TB := isW_in (List.all_eq_true.mp (List.all_eq_true.mp chI_all own (List.mem_range.mpr ho)) _ (kx_find_mem hf))
theorem kxJ {j t : Nat} {v : Int64} (ho : own < 17) (hf : kx_find (kx_J own) j = some (v, t)) : Cond.constantLong (kx_R own) j v ∈ TB := isW_in (List.all_eq_true.mp (List.all_eq_true.mp chJ_all own (List.mem_range.mpr ho)) _ (kx_find_mem hf))
theorem tv_cat1 {x : Nat} : (tv w (.ref x)).category = 1 := tv_cat w _
set_option maxHeartbeats 16000000 in
theorem step_gd (S : Sf w wV G xs n0 p m c cc nL own s args) (hini : ini = true → meth.name = "<init>") {fr lo : Nat} (hfr : fr + 1 ≤ R.frames) (hlo : 50 + lo ≤ R.locals) (hf8 : 8 ≤ fr) (hl5 : 400 ≤ lo) {call : Nat → List Value → PH → PR} (hC : CallsOk l w wV G xs fr lo call) {i : Instr} {len : Nat} {k : PK} {res : Option Value} {h' : PH} (hs : stepI G call own ini ret i len pc lv st h k = some (res, h')) (hnr : isRet i = false) (hd : decode cc pc = .ok (i, len)) (hln : (Nat.beq (lenOf i) 0 || Nat.beq (lenOf i) len) = true)
    (hk : ∀ pc' lv' st' h1, k pc' lv' st' h1 = some (res, h') → Gd p l e R s m args below meth c Q w G xs n0 z0 nL pc' lv' st' h1) (hkN : ∀ pc' lv' st' h1, k pc' lv' st' h1 = some (res, h') → hN h1 ≤ hN h' ∧ hZ h1 ≤ hZ h') (hRc : hN h' - n0 ≤ R.cells) (hRz : hZ h' - z0 ≤ R.slots) : Gd p l e R s m args below meth c Q w G xs n0 z0 nL pc lv st h := by
  have hx := S.1
  have hb := S.2.1
  have hml := S.2.2.1
  have hown := S.2.2.2.1
  have hts := S.2.2.2.2.1
  have ho := S.2.2.2.2.2.2.2.2.2.2.2.1
  cases i
  all_goals try (cases hs; done)
  all_goals try (cases hnr; done)
  case tableswitch dflt lo9 hi9 offs =>
    simp only [stepI] at hs
    split at hs
    · rename_i x r
      obtain ⟨a1, a2⟩ := asr_some hs
      simp only [swOk, decide_eq_true_eq] at a1
      have hlen9 : offs.toList.length = offs.size := rfl
      rcases swT_some _ _ (by omega) (by omega) a2 with ⟨off, q1, q2, q3, q4⟩ | ⟨q1, q2⟩
      · obtain ⟨t, ht, hs⟩ := jmp_some q4
        exact fun H locs ls hI hL => lv_tableIn hx hb hd (by omega) (by omega) (off := off) (by rw [← q1]; simp) ht (hk _ _ _ _ hs H locs ls hI hL)
      · obtain ⟨t, ht, hs⟩ := jmp_some q2
        exact fun H locs ls hI hL => lv_tableOut hx hb hd (by omega) ht (hk _ _ _ _ hs H locs ls hI hL)
    · cases hs
  case lookupswitch dflt ps =>
    simp only [stepI] at hs
    split at hs
    · rename_i x r
      obtain ⟨a1, a2⟩ := asr_some hs
      simp only [slOk, Bool.and_eq_true] at a1
      have q4 := swL_some (f := fun off => jmp pc off (fun t => k t lv r h)) (d := dflt) ps.toList (fun q hq => by
        have := List.all_eq_true.mp a1.2 q hq
        simpa using this) a2
      obtain ⟨t, ht, hs⟩ := jmp_some q4
      exact fun H locs ls hI hL => lv_lookup hx hb hd (by simpa using a1.1) rfl ht (hk _ _ _ _ hs H locs ls hI hL)
    · cases hs
  all_goals (obtain rfl := len_of hln (Nat.succ_ne_zero _))
  case iconst n => exact fun H locs ls hI hL => lv_iconst hx hb hd rfl (hk _ _ _ _ hs H locs ls hI hL)
  case bipush n => exact fun H locs ls hI hL => lv_bipush hx hb hd rfl (hk _ _ _ _ hs H locs ls hI hL)
  case sipush n => exact fun H locs ls hI hL => lv_sipush hx hb hd rfl (hk _ _ _ _ hs H locs ls hI hL)
  case lconst n => exact fun H locs ls hI hL => lv_lconst hx hb hd rfl (hk _ _ _ _ hs H locs ls hI hL)
  case ldc j =>
    simp only [stepI] at hs
    split at hs
    · rename_i q hq
      exact fun H locs ls hI hL => lv_ldc hx hb hown (hts _ (kxI ho hq)) hd (hk _ _ _ _ hs H locs ls hI hL)
    · split at hs
      · rename_i q hq
        exact g_ldcS S hq hd (hk _ _ _ _ hs)
      · cases hs
  case ldc_w j =>
    simp only [stepI] at hs
    split at hs
    · rename_i q hq
      exact fun H locs ls hI hL => lv_ldcw hx hb hown (hts _ (kxI ho hq)) hd (hk _ _ _ _ hs H locs ls hI hL)
    · cases hs
  case ldc2_w j =>
    simp only [stepI] at hs
    split at hs
    · rename_i q hq
      exact fun H locs ls hI hL => lv_ldc2 hx hb hown (hts _ (kxJ ho hq)) hd (hk _ _ _ _ hs H locs ls hI hL)
    · cases hs
  case iload j =>
    simp only [stepI] at hs
    split at hs
    · rename_i x hq
      exact fun H locs ls hI hL => lv_iload hx hb hd (hL.at hq rfl) (hk _ _ _ _ hs H locs ls hI hL)
    · cases hs
  case iload_n j =>
    simp only [stepI] at hs
    split at hs
    · rename_i x hq
      exact fun H locs ls hI hL => lv_iload_n hx hb hd rfl (hL.at hq rfl) (hk _ _ _ _ hs H locs ls hI hL)
    · cases hs
  case lload j =>
    simp only [stepI] at hs
    split at hs
    · rename_i x hq
      exact fun H locs ls hI hL => lv_lload hx hb hd (hL.at hq rfl) (hk _ _ _ _ hs H locs ls hI hL)
    · cases hs
  case lload_n j =>
    simp only [stepI] at hs
    split at hs
    · rename_i x hq
      exact fun H locs ls hI hL => lv_lload_n hx hb hd rfl (hL.at hq rfl) (hk _ _ _ _ hs H locs ls hI hL)
    · cases hs
  case aload j =>
    simp only [stepI] at hs
    split at hs
    · rename_i x hq
      intro H locs ls hI hL
      have h1 := hL.at hq rfl
      have h2 := hk _ _ _ _ hs H locs ls hI hL
      by_cases h0 : x = 0
      · subst h0
        exact lv_aloadN hx hb hd h1 h2
      · rw [List.map_cons, tv_ref1 h0] at h2
        rw [tv_ref1 h0] at h1
        exact lv_aload hx hb hd h1 h2
    · rename_i x hq
      exact fun H locs ls hI hL => lv_aload hx hb hd (hL.at hq rfl) (hk _ _ _ _ hs H locs ls hI hL)
    · cases hs
  case aload_n j =>
    simp only [stepI] at hs
    split at hs
    · rename_i x hq
      intro H locs ls hI hL
      have h1 := hL.at hq rfl
      have h2 := hk _ _ _ _ hs H locs ls hI hL
      by_cases h0 : x = 0
      · subst h0
        exact lv_aload_nN hx hb hd rfl h1 h2
      · rw [List.map_cons, tv_ref1 h0] at h2
        rw [tv_ref1 h0] at h1
        exact lv_aload_n hx hb hd rfl h1 h2
    · rename_i x hq
      exact fun H locs ls hI hL => lv_aload_n hx hb hd rfl (hL.at hq rfl) (hk _ _ _ _ hs H locs ls hI hL)
    · cases hs
  case istore j =>
    simp only [stepI] at hs
    split at hs
    · obtain ⟨a1, a2⟩ := asr_some hs
      exact fun H locs ls hI hL => lv_istore hx hb hd hL.has (by rw [← hL.2.1]; exact blt_lt a1) rfl (fun ls' h' => hk _ _ _ _ a2 H locs ls' hI (hL.store h'))
    · cases hs
  case istore_n j =>
    simp only [stepI] at hs
    split at hs
    · obtain ⟨a1, a2⟩ := asr_some hs
      exact fun H locs ls hI hL => lv_istore_n hx hb hd rfl hL.has (by rw [← hL.2.1]; exact blt_lt a1) rfl (fun ls' h' => hk _ _ _ _ a2 H locs ls' hI (hL.store h'))
    · cases hs
  case lstore j =>
    simp only [stepI] at hs
    split at hs
    · obtain ⟨a1, a2⟩ := asr_some hs
      exact fun H locs ls hI hL => lv_lstore hx hb hd hL.has (by rw [← hL.2.1]; exact blt_lt a1) rfl (fun ls' h' => hk _ _ _ _ a2 H locs ls' hI (hL.store2 h'))
    · cases hs
  case lstore_n j =>
    simp only [stepI] at hs
    split at hs
    · obtain ⟨a1, a2⟩ := asr_some hs
      exact fun H locs ls hI hL => lv_lstore_n hx hb hd rfl hL.has (by rw [← hL.2.1]; exact blt_lt a1) rfl (fun ls' h' => hk _ _ _ _ a2 H locs ls' hI (hL.store2 h'))
    · cases hs
  case astore j =>
    simp only [stepI] at hs
    split at hs
    · rename_i x r
      obtain ⟨a1, a2⟩ := asr_some hs
      intro H locs ls hI hL
      have hj : j < nL := by rw [← hL.2.1]; exact blt_lt a1
      by_cases h0 : x = 0
      · subst h0
        exact lv_astoreN hx hb hd hL.has hj rfl (fun ls' h' => hk _ _ _ _ a2 H locs ls' hI (hL.store h'))
      · show W p l e R s m args below meth c H locs _ _ Q (F0 m pc ls (tv w (.ref x) :: r.map (tv w)))
        rw [tv_ref1 h0]
        exact lv_astore hx hb hd hL.has hj rfl (fun ls' h' => hk _ _ _ _ a2 H locs ls' hI (hL.store (by rw [tv_ref1 h0]; exact h')))
    · cases hs
  case astore_n j =>
    simp only [stepI] at hs
    split at hs
    · rename_i x r
      obtain ⟨a1, a2⟩ := asr_some hs
      intro H locs ls hI hL
      have hj : (j : Nat) < nL := by rw [← hL.2.1]; exact blt_lt a1
      by_cases h0 : x = 0
      · subst h0
        exact lv_astore_nN hx hb hd rfl hL.has hj rfl (fun ls' h' => hk _ _ _ _ a2 H locs ls' hI (hL.store h'))
      · show W p l e R s m args below meth c H locs _ _ Q (F0 m pc ls (tv w (.ref x) :: r.map (tv w)))
        rw [tv_ref1 h0]
        exact lv_astore_n hx hb hd rfl hL.has hj rfl (fun ls' h' => hk _ _ _ _ a2 H locs ls' hI (hL.store (by rw [tv_ref1 h0]; exact h')))
    · cases hs
  case iinc j n =>
    simp only [stepI] at hs
    split at hs
    · rename_i x hq
      intro H locs ls hI hL
      have hm : (j, Value.int x) ∈ prs w lv := prs_mem.mpr ⟨.int x, by rw [← hq]; exact nth_get _ _ (by rw [hq]; rfl), rfl, rfl⟩
      obtain ⟨kk, hkk⟩ := List.getElem?_of_mem hm
      exact lv_iinc hx hb hd hL.has hkk rfl (hL.lt hq rfl) rfl (fun ls' h' => hk _ _ _ _ hs H locs ls' hI (hL.store h'))
    · cases hs
  case iadd =>
    simp only [stepI] at hs
    split at hs
    · exact fun H locs ls hI hL => lv_iadd hx hb hd (hk _ _ _ _ hs H locs ls hI hL)
    · cases hs
  case isub =>
    simp only [stepI] at hs
    split at hs
    · exact fun H locs ls hI hL => lv_isub hx hb hd (hk _ _ _ _ hs H locs ls hI hL)
    · cases hs
  case imul =>
    simp only [stepI] at hs
    split at hs
    · exact fun H locs ls hI hL => lv_imul hx hb hd (hk _ _ _ _ hs H locs ls hI hL)
    · cases hs
  case iand =>
    simp only [stepI] at hs
    split at hs
    · exact fun H locs ls hI hL => lv_iand hx hb hd (hk _ _ _ _ hs H locs ls hI hL)
    · cases hs
  case ior =>
    simp only [stepI] at hs
    split at hs
    · exact fun H locs ls hI hL => lv_ior hx hb hd (hk _ _ _ _ hs H locs ls hI hL)
    · cases hs
  case ixor =>
    simp only [stepI] at hs
    split at hs
    · exact fun H locs ls hI hL => lv_ixor hx hb hd (hk _ _ _ _ hs H locs ls hI hL)
    · cases hs
  case ishl =>
    simp only [stepI] at hs
    split at hs
    · exact fun H locs ls hI hL => lv_ishl hx hb hd (hk _ _ _ _ hs H locs ls hI hL)
    · cases hs
  case ishr =>
    simp only [stepI] at hs
    split at hs
    · exact fun H locs ls hI hL => lv_ishr hx hb hd (hk _ _ _ _ hs H locs ls hI hL)
    · cases hs
  case ladd =>
    simp only [stepI] at hs
    split at hs
    · exact fun H locs ls hI hL => lv_ladd hx hb hd (hk _ _ _ _ hs H locs ls hI hL)
    · cases hs
  case lsub =>
    simp only [stepI] at hs
    split at hs
    · exact fun H locs ls hI hL => lv_lsub hx hb hd (hk _ _ _ _ hs H locs ls hI hL)
    · cases hs
  case lmul =>
    simp only [stepI] at hs
    split at hs
    · exact fun H locs ls hI hL => lv_lmul hx hb hd (hk _ _ _ _ hs H locs ls hI hL)
    · cases hs
  case ineg =>
    simp only [stepI] at hs
    split at hs
    · exact fun H locs ls hI hL => lv_ineg hx hb hd (hk _ _ _ _ hs H locs ls hI hL)
    · cases hs
  case lneg =>
    simp only [stepI] at hs
    split at hs
    · exact fun H locs ls hI hL => lv_lneg hx hb hd (hk _ _ _ _ hs H locs ls hI hL)
    · cases hs
  case iushr =>
    simp only [stepI] at hs
    split at hs
    · exact fun H locs ls hI hL => lv_iushr hx hb hd rfl (hk _ _ _ _ hs H locs ls hI hL)
    · cases hs
  case i2l =>
    simp only [stepI] at hs
    split at hs
    · exact fun H locs ls hI hL => lv_i2l hx hb hd rfl (hk _ _ _ _ hs H locs ls hI hL)
    · cases hs
  case l2i =>
    simp only [stepI] at hs
    split at hs
    · exact fun H locs ls hI hL => lv_l2i hx hb hd rfl (hk _ _ _ _ hs H locs ls hI hL)
    · cases hs
  case i2b =>
    simp only [stepI] at hs
    split at hs
    · exact fun H locs ls hI hL => lv_i2b hx hb hd rfl (hk _ _ _ _ hs H locs ls hI hL)
    · cases hs
  case lcmp =>
    simp only [stepI] at hs
    split at hs
    · exact fun H locs ls hI hL => W.lcmp hx hb hd (hk _ _ _ _ hs H locs ls hI hL)
    · cases hs
  case idiv =>
    simp only [stepI] at hs
    split at hs
    · split at hs
      · cases hs
      · rename_i hz
        exact fun H locs ls hI hL => lv_idiv hx hb hd hz (hk _ _ _ _ hs H locs ls hI hL)
    · cases hs
  case irem =>
    simp only [stepI] at hs
    split at hs
    · split at hs
      · cases hs
      · rename_i hz
        exact fun H locs ls hI hL => lv_irem hx hb hd hz (by rw [rem_eq]; exact hk _ _ _ _ hs H locs ls hI hL)
    · cases hs
  case ldiv =>
    simp only [stepI] at hs
    split at hs
    · split at hs
      · cases hs
      · rename_i hz
        exact fun H locs ls hI hL => lv_ldiv hx hb hd hz (hk _ _ _ _ hs H locs ls hI hL)
    · cases hs
  case lrem =>
    simp only [stepI] at hs
    split at hs
    · split at hs
      · cases hs
      · rename_i hz
        exact fun H locs ls hI hL => lv_lrem hx hb hd hz (by rw [rem_eq64]; exact hk _ _ _ _ hs H locs ls hI hL)
    · cases hs
  case dup =>
    simp only [stepI] at hs
    split at hs
    · exact fun H locs ls hI hL => lv_dup hx hb hd rfl (hk _ _ _ _ hs H locs ls hI hL)
    · exact fun H locs ls hI hL => lv_dup hx hb hd tv_cat1 (hk _ _ _ _ hs H locs ls hI hL)
    · cases hs
  case dup2 =>
    simp only [stepI] at hs
    split at hs
    · exact fun H locs ls hI hL => lv_dup2_11 hx hb hd rfl tv_cat1 (hk _ _ _ _ hs H locs ls hI hL)
    · exact fun H locs ls hI hL => lv_dup2_11 hx hb hd rfl rfl (hk _ _ _ _ hs H locs ls hI hL)
    · cases hs
  case pop =>
    simp only [stepI] at hs
    split at hs
    · rename_i x r
      exact fun H locs ls hI hL => lv_pop (va := .int x) hx hb hd rfl (hk _ _ _ _ hs H locs ls hI hL)
    · rename_i x r
      exact fun H locs ls hI hL => lv_pop (va := tv w (.ref x)) hx hb hd tv_cat1 (hk _ _ _ _ hs H locs ls hI hL)
    · cases hs
  case goto off =>
    obtain ⟨t, ht, hs⟩ := jmp_some hs
    exact fun H locs ls hI hL => lv_goto hx hb hd ht (hk _ _ _ _ hs H locs ls hI hL)
  case ifCond cn off =>
    simp only [stepI] at hs
    split at hs
    · obtain ⟨t, ht, hs⟩ := jmp_some hs
      cases cn <;> simp only at hs
      · exact fun H locs ls hI hL => lv_if_eq hx hb hd ht (fun q => hk _ _ _ _ (by rw [if_pos q] at hs; exact hs) H locs ls hI hL) (fun q => hk _ _ _ _ (by rw [if_neg q] at hs; exact hs) H locs ls hI hL)
      · exact fun H locs ls hI hL => lv_if_ne hx hb hd ht (fun q => hk _ _ _ _ (by rw [if_pos q] at hs; exact hs) H locs ls hI hL) (fun q => hk _ _ _ _ (by rw [if_neg (not_not_intro q)] at hs; exact hs) H locs ls hI hL)
      · exact fun H locs ls hI hL => lv_if_lt hx hb hd ht (fun q => hk _ _ _ _ (by rw [if_pos q] at hs; exact hs) H locs ls hI hL) (fun q => hk _ _ _ _ (by rw [if_neg q] at hs; exact hs) H locs ls hI hL)
      · exact fun H locs ls hI hL => lv_if_ge hx hb hd ht (fun q => hk _ _ _ _ (by rw [if_pos q] at hs; exact hs) H locs ls hI hL) (fun q => hk _ _ _ _ (by rw [if_neg q] at hs; exact hs) H locs ls hI hL)
      · exact fun H locs ls hI hL => lv_if_gt hx hb hd ht (fun q => hk _ _ _ _ (by rw [if_pos q] at hs; exact hs) H locs ls hI hL) (fun q => hk _ _ _ _ (by rw [if_neg q] at hs; exact hs) H locs ls hI hL)
      · exact fun H locs ls hI hL => lv_if_le hx hb hd ht (fun q => hk _ _ _ _ (by rw [if_pos q] at hs; exact hs) H locs ls hI hL) (fun q => hk _ _ _ _ (by rw [if_neg q] at hs; exact hs) H locs ls hI hL)
    · cases hs
  case if_icmp cn off =>
    simp only [stepI] at hs
    split at hs
    · obtain ⟨t, ht, hs⟩ := jmp_some hs
      cases cn <;> simp only at hs
      · exact fun H locs ls hI hL => lv_icmp_eq hx hb hd ht (fun q => hk _ _ _ _ (by rw [if_pos q] at hs; exact hs) H locs ls hI hL) (fun q => hk _ _ _ _ (by rw [if_neg q] at hs; exact hs) H locs ls hI hL)
      · exact fun H locs ls hI hL => lv_icmp_ne hx hb hd ht (fun q => hk _ _ _ _ (by rw [if_pos q] at hs; exact hs) H locs ls hI hL) (fun q => hk _ _ _ _ (by rw [if_neg (not_not_intro q)] at hs; exact hs) H locs ls hI hL)
      · exact fun H locs ls hI hL => lv_icmp_lt hx hb hd ht (fun q => hk _ _ _ _ (by rw [if_pos q] at hs; exact hs) H locs ls hI hL) (fun q => hk _ _ _ _ (by rw [if_neg q] at hs; exact hs) H locs ls hI hL)
      · exact fun H locs ls hI hL => lv_icmp_ge hx hb hd ht (fun q => hk _ _ _ _ (by rw [if_pos q] at hs; exact hs) H locs ls hI hL) (fun q => hk _ _ _ _ (by rw [if_neg q] at hs; exact hs) H locs ls hI hL)
      · exact fun H locs ls hI hL => lv_icmp_gt hx hb hd ht (fun q => hk _ _ _ _ (by rw [if_pos q] at hs; exact hs) H locs ls hI hL) (fun q => hk _ _ _ _ (by rw [if_neg q] at hs; exact hs) H locs ls hI hL)
      · exact fun H locs ls hI hL => lv_icmp_le hx hb hd ht (fun q => hk _ _ _ _ (by rw [if_pos q] at hs; exact hs) H locs ls hI hL) (fun q => hk _ _ _ _ (by rw [if_neg q] at hs; exact hs) H locs ls hI hL)
    · cases hs
  case getfield j =>
    simp only [stepI] at hs
    split at hs
    · rename_i ci kf tc f z hq
      split at hs
      · obtain ⟨a1, a2⟩ := asr_some hs
        exact g_getfield S hq a1 hd (hk _ _ _ _ a2)
      · cases hs
    · cases hs
  case putfield j =>
    simp only [stepI] at hs
    split at hs
    · rename_i ci kf tc f z hq
      split at hs
      · split at hs
        · obtain ⟨a1, a2⟩ := asr_some hs
          rw [Bool.and_eq_true] at a1
          exact g_putI S hini hq (by omega) a1.1 a1.2 (fun q => by omega) hd (hk _ _ _ _ a2)
        · cases hs
      · split at hs
        · obtain ⟨a1, a2⟩ := asr_some hs
          obtain ⟨a3, a4⟩ := asr_some a2
          rw [Bool.and_eq_true] at a1
          exact g_putI S hini hq (by omega) a1.1 a1.2 (fun _ => of_decide_eq_true a3) hd (hk _ _ _ _ a4)
        · cases hs
      · rename_i n0 n1
        split at hs
        · obtain ⟨a1, a2⟩ := asr_some hs
          rw [Bool.and_eq_true, Bool.and_eq_true] at a1
          exact g_putR S hini hq n0 n1 a1.1 a1.2.1 a1.2.2 hd (hk _ _ _ _ a2)
        · cases hs
    · cases hs
  case iaload =>
    simp only [stepI] at hs
    split at hs
    · obtain ⟨a1, a2⟩ := asr_some hs
      obtain ⟨a3, a4⟩ := asr_some a2
      rw [Bool.and_eq_true] at a1
      exact g_iaload S a1.1 a1.2 a3 hd (hk _ _ _ _ a4)
    · cases hs
  case baload =>
    simp only [stepI] at hs
    split at hs
    · obtain ⟨a1, a2⟩ := asr_some hs
      obtain ⟨a3, a4⟩ := asr_some a2
      exact g_baload S a1 a3 hd (hk _ _ _ _ a4)
    · cases hs
  case laload =>
    simp only [stepI] at hs
    split at hs
    · obtain ⟨a1, a2⟩ := asr_some hs
      obtain ⟨a3, a4⟩ := asr_some a2
      exact g_laload S a1 a3 hd (hk _ _ _ _ a4)
    · cases hs
  case aaload =>
    simp only [stepI] at hs
    split at hs
    · obtain ⟨a1, a2⟩ := asr_some hs
      obtain ⟨a3, a4⟩ := asr_some a2
      exact g_aaload S a1 a3 hd (hk _ _ _ _ a4)
    · cases hs
  case iastore =>
    simp only [stepI] at hs
    split at hs
    · obtain ⟨a1, a2⟩ := asr_some hs
      obtain ⟨a3, a4⟩ := asr_some a2
      exact g_iastore S a1 a3 hd (hk _ _ _ _ a4)
    · cases hs
  case bastore =>
    simp only [stepI] at hs
    split at hs
    · split at hs
      · rename_i hq
        obtain ⟨a3, a4⟩ := asr_some hs
        exact g_bastoreZ S hq a3 hd (hk _ _ _ _ a4)
      · obtain ⟨a1, a2⟩ := asr_some hs
        obtain ⟨a3, a4⟩ := asr_some a2
        exact g_bastoreB S a1 a3 hd (hk _ _ _ _ a4)
    · cases hs
  case lastore =>
    simp only [stepI] at hs
    split at hs
    · obtain ⟨a1, a2⟩ := asr_some hs
      obtain ⟨a3, a4⟩ := asr_some a2
      exact g_lastore S a1 a3 hd (hk _ _ _ _ a4)
    · cases hs
  case aastore =>
    simp only [stepI] at hs
    split at hs
    · obtain ⟨a1, a2⟩ := asr_some hs
      obtain ⟨a3, a4⟩ := asr_some a2
      exact g_aastore S a1 a3 hd (hk _ _ _ _ a4)
    · cases hs
  case arraylength =>
    simp only [stepI] at hs
    split at hs
    · obtain ⟨a1, a2⟩ := asr_some hs
      rw [Bool.and_eq_true] at a1
      exact g_alen S a1.1 a1.2 hd (hk _ _ _ _ a2)
    · cases hs
  case invokevirtual j =>
    simp only [stepI] at hs
    split at hs
    · rename_i mid kd n rt co t hq
      split at hs
      · split at hs
        · rename_i a r hdr
          obtain ⟨a1, a2⟩ := asr_some hs
          simp only [Bool.and_eq_true] at a1
          obtain ⟨r0, h1, hc, hs⟩ := retC_some a2
          have hmo := hkN _ _ _ _ hs
          exact g_virt S hfr hlo hC hq hdr (Nat.le_of_ble_eq_true a1.1) (Nat.le_of_ble_eq_true a1.2.1) a1.2.2 hc hd (by omega) (by omega) (hk _ _ _ _ hs)
        · cases hs
      · split at hs
        · obtain ⟨a1, a2⟩ := asr_some hs
          rw [Bool.and_eq_true] at a1
          have hmo := hkN _ _ _ _ a2
          exact g_len S (by omega) (by omega) hq (blt_lt a1.2) (Nat.le_of_ble_eq_true a1.1) (by omega) (by omega) hd (hk _ _ _ _ a2)
        · cases hs
      · split at hs
        · obtain ⟨a1, a2⟩ := asr_some hs
          simp only [Bool.and_eq_true] at a1
          have hmo := hkN _ _ _ _ a2
          exact g_chr S (by omega) (by omega) hq (blt_lt a1.2.1) a1.2.2 (Nat.le_of_ble_eq_true a1.1) (by omega) (by omega) hd (hk _ _ _ _ a2)
        · cases hs
      · cases hs
    · cases hs
  case invokespecial j =>
    simp only [stepI] at hs
    split at hs
    · rename_i mid kd n rt co t hq
      split at hs
      · rename_i hkd
        have e4 : kd = 4 := Nat.eq_of_beq_eq_true hkd
        subst e4
        split at hs
        · obtain ⟨a1, a2⟩ := asr_some hs
          simp only [Bool.and_eq_true, Bool.not_eq_true'] at a1
          exact g_obj S hfr hlo hq (Nat.le_of_ble_eq_true a1.1) (fun q => by rw [q] at a1; exact absurd a1.2 (by decide)) hd (hk _ _ _ _ a2)
        · cases hs
      · split at hs
        · rename_i a r hdr
          obtain ⟨a1, a2⟩ := asr_some hs
          simp only [Bool.and_eq_true, Bool.not_eq_true', Bool.or_eq_true] at a1
          obtain ⟨r0, h1, hc, hs⟩ := retC_some a2
          have hmo := hkN _ _ _ _ hs
          exact g_init S hfr hlo hC hq (a1.2.2.2.imp Nat.eq_of_beq_eq_true Nat.eq_of_beq_eq_true) hdr (Nat.le_of_ble_eq_true a1.1) (Nat.le_of_ble_eq_true a1.2.1) (fun q => by rw [q] at a1; exact absurd a1.2.2.1 (by decide)) hc hd (by omega) (by omega) (hk _ _ _ _ hs)
        · cases hs
    · cases hs
  case invokestatic j =>
    simp only [stepI] at hs
    split at hs
    · rename_i mid kd n rt co t hq
      split at hs
      · obtain ⟨a1, a2⟩ := asr_some hs
        simp only [Bool.and_eq_true] at a1
        obtain ⟨r0, h1, hc, hs⟩ := retC_some a2
        have hmo := hkN _ _ _ _ hs
        exact g_stat S hfr hlo hC hq (Nat.le_of_ble_eq_true a1.1) (Nat.le_of_ble_eq_true a1.2) hc hd (by omega) (by omega) (hk _ _ _ _ hs)
      · split at hs
        · obtain ⟨a1, a2⟩ := asr_some hs
          rw [Bool.and_eq_true] at a1
          exact g_cpy S (by omega) (by omega) hq a1.2 (Nat.le_of_ble_eq_true a1.1) hd (hk _ _ _ _ a2)
        · cases hs
      · split at hs
        · obtain ⟨a1, a2⟩ := asr_some hs
          have hmo := hkN _ _ _ _ a2
          exact g_max S (by omega) (by omega) hq (Nat.le_of_ble_eq_true a1) (by omega) (by omega) hd (hk _ _ _ _ a2)
        · cases hs
      · split at hs
        · obtain ⟨a1, a2⟩ := asr_some hs
          have hmo := hkN _ _ _ _ a2
          exact g_min S (by omega) (by omega) hq (Nat.le_of_ble_eq_true a1) (by omega) (by omega) hd (hk _ _ _ _ a2)
        · cases hs
      · split at hs
        · obtain ⟨a1, a2⟩ := asr_some hs
          have hmo := hkN _ _ _ _ a2
          exact g_maxJ S (by omega) (by omega) hq (Nat.le_of_ble_eq_true a1) (by omega) (by omega) hd (hk _ _ _ _ a2)
        · cases hs
      · split at hs
        · obtain ⟨a1, a2⟩ := asr_some hs
          have hmo := hkN _ _ _ _ a2
          exact g_minJ S (by omega) (by omega) hq (Nat.le_of_ble_eq_true a1) (by omega) (by omega) hd (hk _ _ _ _ a2)
        · cases hs
      · split at hs
        · obtain ⟨a1, a2⟩ := asr_some hs
          split at a2
          · cases a2
          · rename_i hz
            have hmo := hkN _ _ _ _ a2
            exact g_fmod S (by omega) (by omega) hq hz (Nat.le_of_ble_eq_true a1) (by omega) (by omega) hd (hk _ _ _ _ a2)
        · cases hs
      · cases hs
    · cases hs
  case new j =>
    simp only [stepI] at hs
    split at hs
    · rename_i ci t hq
      obtain ⟨a1, a2⟩ := asr_some hs
      simp only [Bool.and_eq_true, Bool.not_eq_true'] at a1
      have hmo := hkN _ _ _ _ a2
      have e1 : hN (alc h 1 (kx_N ci)) = hN h + 1 := rfl
      have e2 : hZ (alc h 1 (kx_N ci)) = hZ h + kx_N ci := rfl
      exact g_new S a1.1.1 hq (blt_lt a1.1.2) (Nat.eq_of_beq_eq_true a1.2) (by omega) (by omega) hd (hk _ _ _ _ a2)
    · cases hs
  case newarray t =>
    simp only [stepI] at hs
    split at hs
    · rename_i n r
      obtain ⟨a1, a2⟩ := asr_some hs
      simp only [Bool.and_eq_true, Bool.not_eq_true'] at a1
      have hmo := hkN _ _ _ _ a2
      have e1 : hN (alc h 1 (ix n)) = hN h + 1 := rfl
      have e2 : hZ (alc h 1 (ix n)) = hZ h + ix n := rfl
      exact g_newarr S a1.1.1 (blt_lt a1.1.2) (Nat.eq_of_beq_eq_true a1.2.1) (Nat.eq_of_beq_eq_true a1.2.2.1) (blt_lt a1.2.2.2) (by omega) (by omega) hd (hk _ _ _ _ a2)
    · cases hs
  case anewarray j =>
    simp only [stepI] at hs
    split at hs
    · rename_i ci t hq
      split at hs
      · rename_i n r
        obtain ⟨a1, a2⟩ := asr_some hs
        simp only [Bool.and_eq_true, Bool.not_eq_true', Bool.or_eq_true] at a1
        have hmo := hkN _ _ _ _ a2
        have e1 : hN (alc h 1 (ix n)) = hN h + 1 := rfl
        have e2 : hZ (alc h 1 (ix n)) = hZ h + ix n := rfl
        rcases a1.1.2 with q | q
        · exact g_anew (k := 5) S a1.1.1 hq (Or.inl ⟨Nat.eq_of_beq_eq_true q.1, rfl⟩) (Nat.eq_of_beq_eq_true q.2) (Nat.eq_of_beq_eq_true a1.2.1) (blt_lt a1.2.2) (by omega) (by omega) hd (hk _ _ _ _ a2)
        · exact g_anew (k := 6) S a1.1.1 hq (Or.inr ⟨Nat.eq_of_beq_eq_true q.1, rfl⟩) (Nat.eq_of_beq_eq_true q.2) (Nat.eq_of_beq_eq_true a1.2.1) (blt_lt a1.2.2) (by omega) (by omega) hd (hk _ _ _ _ a2)
      · cases hs
    · cases hs
  case multianewarray j dims =>
    simp only [stepI] at hs
    split at hs
    · rename_i ci t hq
      split at hs
      · rename_i q n r
        obtain ⟨a1, a2⟩ := asr_some hs
        simp only [Bool.and_eq_true, Bool.not_eq_true', Bool.or_eq_true] at a1
        obtain ⟨⟨b1, b2⟩, b3, b4, b5, b6, b7⟩ := a1
        have ed : dims = 2 := Nat.eq_of_beq_eq_true b2
        subst ed
        have hmo := hkN _ _ _ _ a2
        have e1 : hN (alcM h (ix n) (ix q)) = hN h + (1 + ix n) := rfl
        have e2 : hZ (alcM h (ix n) (ix q)) = hZ h + (ix n + ix n * ix q) := rfl
        have hin : ∀ j, j < ix n → kx_K (hN h + 1 + j) = (if ci = 107 then 1 else 3) ∧ kx_L (hN h + 1 + j) = ix q := fun j hj => by
          have := List.all_eq_true.mp b7 j (List.mem_range.mpr hj)
          rw [Bool.and_eq_true] at this
          exact ⟨Nat.eq_of_beq_eq_true this.1, Nat.eq_of_beq_eq_true this.2⟩
        rcases b3 with z | z
        · have ez : ci = 107 := Nat.eq_of_beq_eq_true z.1
          exact g_multi (kO := 7) (kI := 1) S b1 hq (Or.inl ⟨ez, rfl, rfl⟩) (Nat.eq_of_beq_eq_true z.2) (Nat.eq_of_beq_eq_true b4) (blt_lt b5) (blt_lt b6) (fun j hj => by have := hin j hj; rw [if_pos ez] at this; exact this) (by omega) (by omega) hd (hk _ _ _ _ a2)
        · have ez : ci = 108 := Nat.eq_of_beq_eq_true z.1
          exact g_multi (kO := 8) (kI := 3) S b1 hq (Or.inr ⟨ez, rfl, rfl⟩) (Nat.eq_of_beq_eq_true z.2) (Nat.eq_of_beq_eq_true b4) (blt_lt b5) (blt_lt b6) (fun j hj => by have := hin j hj; rw [if_neg (by omega)] at this; exact this) (by omega) (by omega) hd (hk _ _ _ _ a2)
      · cases hs
    · cases hs
end Main9
