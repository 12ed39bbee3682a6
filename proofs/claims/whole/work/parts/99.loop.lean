-- PART: the law's loop: every call keeps what holds (printed in part by gen/gen99.py).
/-- what the calls that explain readings must do -/
def EXS (L : Nat) (AN : PH → (Nat → Nat) → Prop) : Prop := (∀ h h' A A', AN h A → (∀ a, 97 ≤ a → a ≤ 127 → hI h' a = hI h a) → WK A A' → AN h' A') ∧ (∀ h A, Ar h → AN h A) ∧ (∀ n h A B x, Core n h A B → WX A → AN h A → n ≤ 5000 → ∃ r h1 h2, exec (g2 L) 100 47 [.ref 2, .int x] h = some (some (.int r), h1) ∧ exec (g2 L) 100 180 [.ref 253, .int x] h1 = some (some (.int r), h2) ∧ Core (n + 1) h2 A B ∧ AN h2 A ∧ Ks h h2 ∧ Pk h h2) ∧ (∀ n h A B x y z, Core n h A B → WX A → AN h A → n ≤ 5000 → ∃ r h1 h2, exec (g2 L) 100 74 [.ref 2, .int x, .int y, .int z] h = some (some (.int r), h1) ∧ exec (g2 L) 100 200 [.ref 253, .int x, .int y, .int z] h1 = some (some (.int r), h2) ∧ Core (n + 1) h2 A B ∧ AN h2 A ∧ Ks h h2 ∧ Pk h h2) ∧ (∀ n h A B x y, Core n h A B → WX A → AN h A → n ≤ 5000 → ∃ r h1 h2, exec (g2 L) 100 76 [.ref 2, .int x, .int y] h = some (some (.int r), h1) ∧ exec (g2 L) 100 201 [.ref 253, .int x, .int y] h1 = some (some (.int r), h2) ∧ Core (n + 1) h2 A B ∧ AN h2 A ∧ Ks h h2 ∧ Pk h h2)
/-- what holds behind n calls -/
def INV (AN : PH → (Nat → Nat) → Prop) (n : Nat) (h : PH) : Prop := ∃ A B, Core n h A B ∧ TF h ∧ WX A ∧ WX B ∧ PI h A ∧ AN h A ∧ SA h A
def Nx2 (AN : PH → (Nat → Nat) → Prop) (L mc mm : Nat) (ac am : List Value) (n : Nat) (h : PH) : Prop := ∃ x h1 h2, exec (g2 L) 100 mc ac h = some (some (.int x), h1) ∧ exec (g2 L) 100 mm am h1 = some (some (.int x), h2) ∧ INV AN (n + 1) h2
theorem TF.kz {h h' : PH} (hT : TF h) (hK : Kz h h') : TF h' := by
  obtain ⟨⟨t, t1, t2, t3, t4⟩, hf⟩ := hT
  refine ⟨⟨t, t1, ?_, ?_, fun i hi => ?_⟩, ?_⟩
  · rw [hK.1 205 (by omega)]
    exact t2
  · rw [hK.2.1 3 (by omega)]
    exact t3
  · rw [hK.1 206 (by omega), hK.1 256 (by omega)]
    exact t4 i hi
  · rw [hK.1 207 (by omega), hK.2.1 4 (by omega), hK.2.1 5 (by omega)]
    exact hf
theorem SA.ks {h h' : PH} {A A' : Nat → Nat} (hS : SA h A) (hk : Ks h h') (h5 : A' 5 ≤ A 5) (h4 : A 5 ≤ 4) : SA h' A' := fun s hs => (hS s (by omega)).cg (fun a p q => hk.1 a (by omega)) (fun a p q => hk.1 a (by omega))
section Law
variable {AN : PH → (Nat → Nat) → Prop} {L n : Nat} {h : PH}
theorem nx_sim (hE : EXS L AN) {A B : Nat → Nat} {mc mm : Nat} {ac am : List Value} (hC : Core n h A B) (hT : TF h) (hA : WX A) (hB : WX B) (hP : PI h A) (hN : AN h A) (hS : SA h A) (hs : Sim L mc mm ac am n h A B) : Nx2 AN L mc mm ac am n h := by
  obtain ⟨x, h1, h2, A', e1, e2, c1, k1, k2, k3, k4⟩ := hs
  have vw := hC.2.2.2.2.1.2.2.2.2.1
  have a5 := hC.2.2.2.2.1.2.2.1
  refine ⟨x, h1, h2, e1, e2, A', B, c1, hT.kp k1, fun b hb => by rw [k3.1 _ (by omega)]; exact hA b hb, hB, ?_, hE.1 h h2 A A' hN (fun a p q => k1.1 a (by omega)) k3, hS.kp k1 (by omega) a5⟩
  rcases k2 with k2 | ⟨k2, k2'⟩
  · exact PI.pr k2
  · exact hP.keep k2 k2' vw
theorem nx_bel (hE : EXS L AN) {A B : Nat → Nat} {mc mm : Nat} {ac am : List Value} (hC : Core n h A B) (hT : TF h) (hA : WX A) (hB : WX B) (hP : PI h A) (hN : AN h A) (hs : Bel L mc mm ac am n h A B) : Nx2 AN L mc mm ac am n h := by
  obtain ⟨x, h1, h2, e1, e2, c1, k1, k2⟩ := hs
  exact ⟨x, h1, h2, e1, e2, A, B, c1, hT.kz k2, hA, hB, hP.keep k2.2.2 PKe.rf hC.2.2.2.2.1.2.2.2.2.1, hE.1 h h2 A A hN (fun a p q => k2.1 a (by omega)) WK.rf, k1⟩
theorem nx_ex (hE : EXS L AN) {A B : Nat → Nat} {mc mm : Nat} {ac am : List Value} (hC : Core n h A B) (hT : TF h) (hA : WX A) (hB : WX B) (hP : PI h A) (hS : SA h A) (hs : ∃ r h1 h2, exec (g2 L) 100 mc ac h = some (some (.int r), h1) ∧ exec (g2 L) 100 mm am h1 = some (some (.int r), h2) ∧ Core (n + 1) h2 A B ∧ AN h2 A ∧ Ks h h2 ∧ Pk h h2) : Nx2 AN L mc mm ac am n h := by
  obtain ⟨x, h1, h2, e1, e2, c1, k1, k2, k3⟩ := hs
  exact ⟨x, h1, h2, e1, e2, A, B, c1, hT.ks k2, hA, hB, hP.keep k3 PKe.rf hC.2.2.2.2.1.2.2.2.2.1, k1, hS.ks k2 (Nat.le_refl _) hC.2.2.2.2.1.2.2.1⟩

theorem nx_13 (hE : EXS L AN) (hI0 : INV AN n h) (hn : n ≤ 5000) (a0 : Int32) : Nx2 AN L 13 151 [.ref 2, .int a0] [.ref 253, .int a0] n h := by
  obtain ⟨A, B, hC, hT, hA, hB, hP, hN, hS⟩ := hI0
  exact nx_sim hE hC hT hA hB hP hN hS (op_branch hC a0)
theorem nx_16 (hE : EXS L AN) (hI0 : INV AN n h) (hn : n ≤ 5000) (a0 : Int32) {a1 : Nat} (hu : a1 ≤ 1) (a2 : Int32) (a3 : Int32) : Nx2 AN L 16 154 [.ref 2, .int a0, .int (nI a1), .int a2, .int a3] [.ref 253, .int a0, .int (nI a1), .int a2, .int a3] n h := by
  obtain ⟨A, B, hC, hT, hA, hB, hP, hN, hS⟩ := hI0
  exact nx_sim hE hC hT hA hB hP hN hS (op_dial hC a0 hu a2 a3)
theorem nx_21 (hE : EXS L AN) (hI0 : INV AN n h) (hn : n ≤ 5000) (a0 : Int32) (a1 : Int32) (a2 : Int32) : Nx2 AN L 21 156 [.ref 2, .int a0, .int a1, .int a2] [.ref 253, .int a0, .int a1, .int a2] n h := by
  obtain ⟨A, B, hC, hT, hA, hB, hP, hN, hS⟩ := hI0
  exact nx_sim hE hC hT hA hB hP hN hS (op_worn hC a0 a1 a2)
theorem nx_23 (hE : EXS L AN) (hI0 : INV AN n h) (hn : n ≤ 5000) (a0 : Int32) (a1 : Int32) : Nx2 AN L 23 158 [.ref 2, .int a0, .int a1] [.ref 253, .int a0, .int a1] n h := by
  obtain ⟨A, B, hC, hT, hA, hB, hP, hN, hS⟩ := hI0
  exact nx_sim hE hC hT hA hB hP hN hS (op_hang hC a0 a1)
theorem nx_24 (hE : EXS L AN) (hI0 : INV AN n h) (hn : n ≤ 5000) (a0 : Int32) (a1 : Int32) : Nx2 AN L 24 159 [.ref 2, .int a0, .int a1] [.ref 253, .int a0, .int a1] n h := by
  obtain ⟨A, B, hC, hT, hA, hB, hP, hN, hS⟩ := hI0
  exact nx_sim hE hC hT hA hB hP hN hS (op_set hC a0 a1)
theorem nx_25 (hE : EXS L AN) (hI0 : INV AN n h) (hn : n ≤ 5000) (a0 : Int32) {a1 : Nat} (hu : a1 ≤ 1) : Nx2 AN L 25 160 [.ref 2, .int a0, .int (nI a1)] [.ref 253, .int a0, .int (nI a1)] n h := by
  obtain ⟨A, B, hC, hT, hA, hB, hP, hN, hS⟩ := hI0
  exact nx_sim hE hC hT hA hB hP hN hS (op_cut hC a0 hu)
theorem nx_26 (hE : EXS L AN) (hI0 : INV AN n h) (hn : n ≤ 5000) (a0 : Int32) {a1 : Nat} (hu : a1 ≤ 1) : Nx2 AN L 26 162 [.ref 2, .int a0, .int (nI a1)] [.ref 253, .int a0, .int (nI a1)] n h := by
  obtain ⟨A, B, hC, hT, hA, hB, hP, hN, hS⟩ := hI0
  exact nx_sim hE hC hT hA hB hP hN hS (op_hold hC a0 hu)
theorem nx_27 (hE : EXS L AN) (hI0 : INV AN n h) (hn : n ≤ 5000) {a0 : Nat} (hu : a0 ≤ 1) : Nx2 AN L 27 163 [.ref 2, .int (nI a0)] [.ref 253, .int (nI a0)] n h := by
  obtain ⟨A, B, hC, hT, hA, hB, hP, hN, hS⟩ := hI0
  exact nx_sim hE hC hT hA hB hP hN hS (op_stop hC hu)
theorem nx_28 (hE : EXS L AN) (hI0 : INV AN n h) (hn : n ≤ 5000) (a0 : Int32) : Nx2 AN L 28 164 [.ref 2, .int a0] [.ref 253, .int a0] n h := by
  obtain ⟨A, B, hC, hT, hA, hB, hP, hN, hS⟩ := hI0
  exact nx_sim hE hC hT hA hB hP hN hS (op_minutes hC hn a0)
theorem nx_35 (hE : EXS L AN) (hI0 : INV AN n h) (hn : n ≤ 5000) (a0 : Int32) : Nx2 AN L 35 172 [.ref 2, .int a0] [.ref 253, .int a0] n h := by
  obtain ⟨A, B, hC, hT, hA, hB, hP, hN, hS⟩ := hI0
  exact nx_sim hE hC hT hA hB hP hN hS (op_quick hC hn a0)
theorem nx_36 (hE : EXS L AN) (hI0 : INV AN n h) (hn : n ≤ 5000) (a0 : Int32) (a1 : Int32) : Nx2 AN L 36 173 [.ref 2, .int a0, .int a1] [.ref 253, .int a0, .int a1] n h := by
  obtain ⟨A, B, hC, hT, hA, hB, hP, hN, hS⟩ := hI0
  exact nx_sim hE hC hT hA hB hP hN hS (op_storm hC hn a0 a1)
theorem nx_38 (hE : EXS L AN) (hI0 : INV AN n h) (hn : n ≤ 5000) (a0 : Int32) (a1 : Int32) : Nx2 AN L 38 174 [.ref 2, .int a0, .int a1] [.ref 253, .int a0, .int a1] n h := by
  obtain ⟨A, B, hC, hT, hA, hB, hP, hN, hS⟩ := hI0
  exact nx_sim hE hC hT hA hB hP hN hS (op_at hC a0 a1)
theorem nx_40 (hE : EXS L AN) (hI0 : INV AN n h) (hn : n ≤ 5000)  : Nx2 AN L 40 176 [.ref 2] [.ref 253] n h := by
  obtain ⟨A, B, hC, hT, hA, hB, hP, hN, hS⟩ := hI0
  exact nx_sim hE hC hT hA hB hP hN hS (op_wrong hC )
theorem nx_41 (hE : EXS L AN) (hI0 : INV AN n h) (hn : n ≤ 5000) (a0 : Int32) : Nx2 AN L 41 177 [.ref 2, .int a0] [.ref 253, .int a0] n h := by
  obtain ⟨A, B, hC, hT, hA, hB, hP, hN, hS⟩ := hI0
  obtain ⟨x, h1, h2, A', e1, e2, c1, k1, k2, k3, k4, k5, k6⟩ := op_watch (L := L) hC hA a0
  refine ⟨x, h1, h2, e1, e2, A', B, c1, hT.ks k1, k5, hB, hP.keep k2 k3 hC.2.2.2.2.1.2.2.2.2.1, ?_, hS.ks k1 (by omega) hC.2.2.2.2.1.2.2.1⟩
  rcases k6 with ⟨k6, k7⟩ | k6
  · rw [k7]
    exact hE.1 h h2 A A hN (fun a p q => k6.1 a (by omega)) WK.rf
  · exact hE.2.1 h2 A' k6
theorem nx_45 (hE : EXS L AN) (hI0 : INV AN n h) (hn : n ≤ 5000) (a0 : Int32) (a1 : Int32) (a2 : Int32) : Nx2 AN L 45 178 [.ref 2, .int a0, .int a1, .int a2] [.ref 253, .int a0, .int a1, .int a2] n h := by
  obtain ⟨A, B, hC, hT, hA, hB, hP, hN, hS⟩ := hI0
  exact nx_sim hE hC hT hA hB hP hN hS (op_read hC a0 a1 a2)
theorem nx_47 (hE : EXS L AN) (hI0 : INV AN n h) (hn : n ≤ 5000) (a0 : Int32) : Nx2 AN L 47 180 [.ref 2, .int a0] [.ref 253, .int a0] n h := by
  obtain ⟨A, B, hC, hT, hA, hB, hP, hN, hS⟩ := hI0
  exact nx_ex hE hC hT hA hB hP hS (hE.2.2.1 n h A B a0 hC hA hN hn)
theorem nx_74 (hE : EXS L AN) (hI0 : INV AN n h) (hn : n ≤ 5000) (a0 : Int32) (a1 : Int32) (a2 : Int32) : Nx2 AN L 74 200 [.ref 2, .int a0, .int a1, .int a2] [.ref 253, .int a0, .int a1, .int a2] n h := by
  obtain ⟨A, B, hC, hT, hA, hB, hP, hN, hS⟩ := hI0
  exact nx_ex hE hC hT hA hB hP hS (hE.2.2.2.1 n h A B a0 a1 a2 hC hA hN hn)
theorem nx_76 (hE : EXS L AN) (hI0 : INV AN n h) (hn : n ≤ 5000) (a0 : Int32) (a1 : Int32) : Nx2 AN L 76 201 [.ref 2, .int a0, .int a1] [.ref 253, .int a0, .int a1] n h := by
  obtain ⟨A, B, hC, hT, hA, hB, hP, hN, hS⟩ := hI0
  exact nx_ex hE hC hT hA hB hP hS (hE.2.2.2.2 n h A B a0 a1 hC hA hN hn)
theorem nx_77 (hE : EXS L AN) (hI0 : INV AN n h) (hn : n ≤ 5000) (a0 : Int32) (a1 : Int32) : Nx2 AN L 77 203 [.ref 2, .int a0, .int a1] [.ref 253, .int a0, .int a1] n h := by
  obtain ⟨A, B, hC, hT, hA, hB, hP, hN, hS⟩ := hI0
  obtain ⟨x, h1, h2, e1, e2, c1, k1, k2⟩ := op_rounds (L := L) hC hn hP a0 a1
  exact ⟨x, h1, h2, e1, e2, A, B, c1, hT.kp k1, hA, hB, k2, hE.1 h h2 A A hN (fun a p q => k1.1 a (by omega)) WK.rf, hS.kp k1 (Nat.le_refl _) hC.2.2.2.2.1.2.2.1⟩
theorem nx_90 (hE : EXS L AN) (hI0 : INV AN n h) (hn : n ≤ 5000) (a0 : Int32) (a1 : Int32) (a2 : Int32) (a3 : Int32) (a4 : Int32) : Nx2 AN L 90 211 [.ref 2, .int a0, .int a1, .int a2, .int a3, .int a4] [.ref 253, .int a0, .int a1, .int a2, .int a3, .int a4] n h := by
  obtain ⟨A, B, hC, hT, hA, hB, hP, hN, hS⟩ := hI0
  obtain ⟨x, h1, h2, e1, e2, c1, k1, k2⟩ := op_feed (L := L) hC hT a0 a1 a2 a3 a4
  exact ⟨x, h1, h2, e1, e2, A, B, c1, k1, hA, hB, hP.keep (fun a p q => k2.1 a (by omega) (by omega) (by omega) (by omega)) PKe.rf hC.2.2.2.2.1.2.2.2.2.1, hE.1 h h2 A A hN (fun a p q => k2.1 a (by omega) (by omega) (by omega) (by omega)) WK.rf, fun s hs => (hS s hs).cg (fun a p q => k2.1 a (by omega) (by omega) (by have := hC.2.2.2.2.1.2.2.1; omega) (by have := hC.2.2.2.2.1.2.2.1; omega)) (fun a p q => k2.1 a (by omega) (by omega) (by omega) (by omega))⟩
theorem nx_92 (hE : EXS L AN) (hI0 : INV AN n h) (hn : n ≤ 5000) (a0 : Int32) : Nx2 AN L 92 213 [.ref 2, .int a0] [.ref 253, .int a0] n h := by
  obtain ⟨A, B, hC, hT, hA, hB, hP, hN, hS⟩ := hI0
  obtain ⟨x, h1, h2, e1, e2, c1, k1, k2⟩ := op_end (L := L) hC hT a0
  exact ⟨x, h1, h2, e1, e2, A, B, c1, k1, hA, hB, hP.keep (fun a p q => k2.1 a (by omega) (by omega) (by omega) (by omega)) PKe.rf hC.2.2.2.2.1.2.2.2.2.1, hE.1 h h2 A A hN (fun a p q => k2.1 a (by omega) (by omega) (by omega) (by omega)) WK.rf, fun s hs => (hS s hs).cg (fun a p q => k2.1 a (by omega) (by omega) (by have := hC.2.2.2.2.1.2.2.1; omega) (by have := hC.2.2.2.2.1.2.2.1; omega)) (fun a p q => k2.1 a (by omega) (by omega) (by omega) (by omega))⟩
theorem nx_93 (hE : EXS L AN) (hI0 : INV AN n h) (hn : n ≤ 5000)  : Nx2 AN L 93 214 [.ref 2] [.ref 253] n h := by
  obtain ⟨A, B, hC, hT, hA, hB, hP, hN, hS⟩ := hI0
  obtain ⟨x, h1, h2, A', e1, e2, c1, k1, k2, k3, k4, k5⟩ := op_strip (L := L) hC hT hS
  have wk : WK A A' := ⟨fun j hj => k3 j (by omega), by rw [k3 7 (by omega)]; exact Nat.le_refl _⟩
  have pk : PKe A A' := ⟨k3 0 (by omega), k3 1 (by omega), k3 4 (by omega), by rw [k3 3 (by omega)]; exact Nat.le_refl _, fun b _ => ⟨k3 _ (by omega), k3 _ (by omega)⟩, fun i _ c _ => k3 _ (by omega)⟩
  exact ⟨x, h1, h2, e1, e2, A', B, c1, k1, fun b hb => by rw [k3 _ (by omega)]; exact hA b hb, hB, hP.keep k5 pk hC.2.2.2.2.1.2.2.2.2.1, hE.1 h h2 A A' hN (fun a p q => k4 a (by omega)) wk, k2⟩
theorem nx_123 (hE : EXS L AN) (hI0 : INV AN n h) (hn : n ≤ 5000) (a0 : Int32) : Nx2 AN L 123 239 [.ref 2, .int a0] [.ref 253, .int a0] n h := by
  obtain ⟨A, B, hC, hT, hA, hB, hP, hN, hS⟩ := hI0
  exact nx_sim hE hC hT hA hB hP hN hS (op_fault hC hT a0)
theorem nx_124 (hE : EXS L AN) (hI0 : INV AN n h) (hn : n ≤ 5000) (a0 : Int32) : Nx2 AN L 124 240 [.ref 2, .int a0] [.ref 253, .int a0] n h := by
  obtain ⟨A, B, hC, hT, hA, hB, hP, hN, hS⟩ := hI0
  exact nx_sim hE hC hT hA hB hP hN hS (op_by hC a0)
theorem nx_125 (hE : EXS L AN) (hI0 : INV AN n h) (hn : n ≤ 5000) (a0 : Int32) (a1 : Int32) : Nx2 AN L 125 241 [.ref 2, .int a0, .int a1] [.ref 253, .int a0, .int a1] n h := by
  obtain ⟨A, B, hC, hT, hA, hB, hP, hN, hS⟩ := hI0
  exact nx_bel hE hC hT hA hB hP hN (op_rings hC hS a0 a1)
theorem nx_135 (hE : EXS L AN) (hI0 : INV AN n h) (hn : n ≤ 5000) (a0 : Int32) (a1 : Int32) : Nx2 AN L 135 248 [.ref 2, .int a0, .int a1] [.ref 253, .int a0, .int a1] n h := by
  obtain ⟨A, B, hC, hT, hA, hB, hP, hN, hS⟩ := hI0
  exact nx_bel hE hC hT hA hB hP hN (op_next hC hS a0 a1)
theorem nx_137 (hE : EXS L AN) (hI0 : INV AN n h) (hn : n ≤ 5000) (a0 : Int32) (a1 : Int32) : Nx2 AN L 137 250 [.ref 2, .int a0, .int a1] [.ref 253, .int a0, .int a1] n h := by
  obtain ⟨A, B, hC, hT, hA, hB, hP, hN, hS⟩ := hI0
  exact nx_bel hE hC hT hA hB hP hN (op_often hC hS a0 a1)
theorem nx_138 (hE : EXS L AN) (hI0 : INV AN n h) (hn : n ≤ 5000) (a0 : Int32) (a1 : Int32) (a2 : Int32) : Nx2 AN L 138 251 [.ref 2, .int a0, .int a1, .int a2] [.ref 253, .int a0, .int a1, .int a2] n h := by
  obtain ⟨A, B, hC, hT, hA, hB, hP, hN, hS⟩ := hI0
  exact nx_bel hE hC hT hA hB hP hN (op_together hC hS a0 a1 a2)
theorem nx_139 (hE : EXS L AN) (hI0 : INV AN n h) (hn : n ≤ 5000) (a0 : Int32) (a1 : Int32) : Nx2 AN L 139 252 [.ref 2, .int a0, .int a1] [.ref 253, .int a0, .int a1] n h := by
  obtain ⟨A, B, hC, hT, hA, hB, hP, hN, hS⟩ := hI0
  exact nx_bel hE hC hT hA hB hP hN (op_late hC hS a0 a1)
theorem nx_142 (hE : EXS L AN) (hI0 : INV AN n h) (hn : n ≤ 5000) (a0 : Int32) (a1 : Int32) : Nx2 AN L 142 254 [.ref 2, .int a0, .int a1] [.ref 253, .int a0, .int a1] n h := by
  obtain ⟨A, B, hC, hT, hA, hB, hP, hN, hS⟩ := hI0
  exact nx_bel hE hC hT hA hB hP hN (op_lesson hC hS a0 a1)
theorem nx_143 (hE : EXS L AN) (hI0 : INV AN n h) (hn : n ≤ 5000)  : Nx2 AN L 143 255 [.ref 2] [.ref 253] n h := by
  obtain ⟨A, B, hC, hT, hA, hB, hP, hN, hS⟩ := hI0
  obtain ⟨x, h1, h2, e1, e2, c1, k1, k2⟩ := op_image (L := L) hC hA
  exact ⟨x, h1, h2, e1, e2, A, A, c1, hT.kp k1, hA, hA, hP.keep k2 PKe.rf hC.2.2.2.2.1.2.2.2.2.1, hE.1 h h2 A A hN (fun a p q => k1.1 a (by omega)) WK.rf, hS.kp k1 (Nat.le_refl _) hC.2.2.2.2.1.2.2.1⟩
theorem nx_146 (hE : EXS L AN) (hI0 : INV AN n h) (hn : n ≤ 5000)  : Nx2 AN L 146 256 [.ref 2] [.ref 253] n h := by
  obtain ⟨A, B, hC, hT, hA, hB, hP, hN, hS⟩ := hI0
  obtain ⟨x, h1, h2, e1, e2, c1, k1, k2, k3⟩ := op_back (L := L) hC hB
  exact ⟨x, h1, h2, e1, e2, B, B, c1, hT.ks k1, hB, hB, PI.pr k2, hE.2.1 h2 B k3, hS.ks k1 hC.2.2.2.2.2.2 hC.2.2.2.2.1.2.2.1⟩
theorem nx_147 (hE : EXS L AN) (hI0 : INV AN n h) (hn : n ≤ 5000) (a0 : Int32) : Nx2 AN L 147 257 [.ref 2, .int a0] [.ref 253, .int a0] n h := by
  obtain ⟨A, B, hC, hT, hA, hB, hP, hN, hS⟩ := hI0
  exact nx_sim hE hC hT hA hB hP hN hS (op_about hC hT a0)
theorem lenA1 : lenA (g2 L) 1 = L := rfl
variable {i : Nat}
theorem ca_180 (hE : EXS L AN) (hI0 : INV AN n h) (hn : n ≤ 5000) (hL : i + 6 ≤ L) (hL2 : L ≤ 3072) : ∃ h2, runL (g2 L) 100 12 false (some .boolean) kc_law 180 [.ref 1, .ref 2, .ref 253, .int (nI i)] [] h = runL (g2 L) 100 12 false (some .boolean) kc_law 1243 [.ref 1, .ref 2, .ref 253, .int (nI i)] [] h2 ∧ INV AN (n + 1) h2 := by
  obtain ⟨x, h1, h2, e1, e2, e3⟩ := nx_13 hE hI0 hn (hI h 1 (i + 1))
  have c1 : hI h1 1 = hI h 1 := exec_R1 rfl 100 _ _ _ _ _ e1
  refine ⟨h2, ?_, e3⟩
  rw [el_180, lenA1, nI_plus i 1, inB_nI (n := L) (show i + 1 < 4294967296 by omega), ix_nI (show i + 1 < 4294967296 by omega), asr_d (show i + 1 < L by omega), e1, cI_s, asr_d (show i + 1 < L by omega), c1, e2, cI_s, if_pos rfl]
theorem ca_203 (hE : EXS L AN) (hI0 : INV AN n h) (hn : n ≤ 5000) (hL : i + 6 ≤ L) (hL2 : L ≤ 3072) : ∃ h2, runL (g2 L) 100 12 false (some .boolean) kc_law 203 [.ref 1, .ref 2, .ref 253, .int (nI i)] [] h = runL (g2 L) 100 12 false (some .boolean) kc_law 1243 [.ref 1, .ref 2, .ref 253, .int (nI i)] [] h2 ∧ INV AN (n + 1) h2 := by
  by_cases z : hI h 1 (i + 2) = nI 0
  · obtain ⟨x, h1, h2, e1, e2, e3⟩ := nx_16 hE hI0 hn (hI h 1 (i + 1)) (show 0 ≤ 1 by omega) (hI h 1 (i + 3)) (hI h 1 (i + 4))
    have c1 : hI h1 1 = hI h 1 := exec_R1 rfl 100 _ _ _ _ _ e1
    refine ⟨h2, ?_, e3⟩
    rw [el_203, lenA1, nI_plus i 1, inB_nI (n := L) (show i + 1 < 4294967296 by omega), ix_nI (show i + 1 < 4294967296 by omega), nI_plus i 2, inB_nI (n := L) (show i + 2 < 4294967296 by omega), ix_nI (show i + 2 < 4294967296 by omega), nI_plus i 3, inB_nI (n := L) (show i + 3 < 4294967296 by omega), ix_nI (show i + 3 < 4294967296 by omega), nI_plus i 4, inB_nI (n := L) (show i + 4 < 4294967296 by omega), ix_nI (show i + 4 < 4294967296 by omega), asr_d (show i + 1 < L by omega), asr_d (show i + 2 < L by omega), if_pos z, asr_d (show i + 3 < L by omega), asr_d (show i + 4 < L by omega), e1, cI_s, asr_d (show i + 1 < L by omega), asr_d (show i + 2 < L by omega), c1, if_pos z, asr_d (show i + 3 < L by omega), asr_d (show i + 4 < L by omega), e2, cI_s, if_pos rfl]
  · obtain ⟨x, h1, h2, e1, e2, e3⟩ := nx_16 hE hI0 hn (hI h 1 (i + 1)) (show 1 ≤ 1 by omega) (hI h 1 (i + 3)) (hI h 1 (i + 4))
    have c1 : hI h1 1 = hI h 1 := exec_R1 rfl 100 _ _ _ _ _ e1
    refine ⟨h2, ?_, e3⟩
    rw [el_203, lenA1, nI_plus i 1, inB_nI (n := L) (show i + 1 < 4294967296 by omega), ix_nI (show i + 1 < 4294967296 by omega), nI_plus i 2, inB_nI (n := L) (show i + 2 < 4294967296 by omega), ix_nI (show i + 2 < 4294967296 by omega), nI_plus i 3, inB_nI (n := L) (show i + 3 < 4294967296 by omega), ix_nI (show i + 3 < 4294967296 by omega), nI_plus i 4, inB_nI (n := L) (show i + 4 < 4294967296 by omega), ix_nI (show i + 4 < 4294967296 by omega), asr_d (show i + 1 < L by omega), asr_d (show i + 2 < L by omega), if_neg z, asr_d (show i + 3 < L by omega), asr_d (show i + 4 < L by omega), e1, cI_s, asr_d (show i + 1 < L by omega), asr_d (show i + 2 < L by omega), c1, if_neg z, asr_d (show i + 3 < L by omega), asr_d (show i + 4 < L by omega), e2, cI_s, if_pos rfl]
theorem ca_272 (hE : EXS L AN) (hI0 : INV AN n h) (hn : n ≤ 5000) (hL : i + 6 ≤ L) (hL2 : L ≤ 3072) : ∃ h2, runL (g2 L) 100 12 false (some .boolean) kc_law 272 [.ref 1, .ref 2, .ref 253, .int (nI i)] [] h = runL (g2 L) 100 12 false (some .boolean) kc_law 1243 [.ref 1, .ref 2, .ref 253, .int (nI i)] [] h2 ∧ INV AN (n + 1) h2 := by
  obtain ⟨x, h1, h2, e1, e2, e3⟩ := nx_21 hE hI0 hn (hI h 1 (i + 1)) (hI h 1 (i + 2)) (hI h 1 (i + 3))
  have c1 : hI h1 1 = hI h 1 := exec_R1 rfl 100 _ _ _ _ _ e1
  refine ⟨h2, ?_, e3⟩
  rw [el_272, lenA1, nI_plus i 1, inB_nI (n := L) (show i + 1 < 4294967296 by omega), ix_nI (show i + 1 < 4294967296 by omega), nI_plus i 2, inB_nI (n := L) (show i + 2 < 4294967296 by omega), ix_nI (show i + 2 < 4294967296 by omega), nI_plus i 3, inB_nI (n := L) (show i + 3 < 4294967296 by omega), ix_nI (show i + 3 < 4294967296 by omega), asr_d (show i + 1 < L by omega), asr_d (show i + 2 < L by omega), asr_d (show i + 3 < L by omega), e1, cI_s, asr_d (show i + 1 < L by omega), asr_d (show i + 2 < L by omega), asr_d (show i + 3 < L by omega), c1, e2, cI_s, if_pos rfl]
theorem ca_315 (hE : EXS L AN) (hI0 : INV AN n h) (hn : n ≤ 5000) (hL : i + 6 ≤ L) (hL2 : L ≤ 3072) : ∃ h2, runL (g2 L) 100 12 false (some .boolean) kc_law 315 [.ref 1, .ref 2, .ref 253, .int (nI i)] [] h = runL (g2 L) 100 12 false (some .boolean) kc_law 1243 [.ref 1, .ref 2, .ref 253, .int (nI i)] [] h2 ∧ INV AN (n + 1) h2 := by
  obtain ⟨x, h1, h2, e1, e2, e3⟩ := nx_23 hE hI0 hn (hI h 1 (i + 1)) (hI h 1 (i + 2))
  have c1 : hI h1 1 = hI h 1 := exec_R1 rfl 100 _ _ _ _ _ e1
  refine ⟨h2, ?_, e3⟩
  rw [el_315, lenA1, nI_plus i 1, inB_nI (n := L) (show i + 1 < 4294967296 by omega), ix_nI (show i + 1 < 4294967296 by omega), nI_plus i 2, inB_nI (n := L) (show i + 2 < 4294967296 by omega), ix_nI (show i + 2 < 4294967296 by omega), asr_d (show i + 1 < L by omega), asr_d (show i + 2 < L by omega), e1, cI_s, asr_d (show i + 1 < L by omega), asr_d (show i + 2 < L by omega), c1, e2, cI_s, if_pos rfl]
theorem ca_348 (hE : EXS L AN) (hI0 : INV AN n h) (hn : n ≤ 5000) (hL : i + 6 ≤ L) (hL2 : L ≤ 3072) : ∃ h2, runL (g2 L) 100 12 false (some .boolean) kc_law 348 [.ref 1, .ref 2, .ref 253, .int (nI i)] [] h = runL (g2 L) 100 12 false (some .boolean) kc_law 1243 [.ref 1, .ref 2, .ref 253, .int (nI i)] [] h2 ∧ INV AN (n + 1) h2 := by
  obtain ⟨x, h1, h2, e1, e2, e3⟩ := nx_24 hE hI0 hn (hI h 1 (i + 1)) (hI h 1 (i + 2))
  have c1 : hI h1 1 = hI h 1 := exec_R1 rfl 100 _ _ _ _ _ e1
  refine ⟨h2, ?_, e3⟩
  rw [el_348, lenA1, nI_plus i 1, inB_nI (n := L) (show i + 1 < 4294967296 by omega), ix_nI (show i + 1 < 4294967296 by omega), nI_plus i 2, inB_nI (n := L) (show i + 2 < 4294967296 by omega), ix_nI (show i + 2 < 4294967296 by omega), asr_d (show i + 1 < L by omega), asr_d (show i + 2 < L by omega), e1, cI_s, asr_d (show i + 1 < L by omega), asr_d (show i + 2 < L by omega), c1, e2, cI_s, if_pos rfl]
theorem ca_381 (hE : EXS L AN) (hI0 : INV AN n h) (hn : n ≤ 5000) (hL : i + 6 ≤ L) (hL2 : L ≤ 3072) : ∃ h2, runL (g2 L) 100 12 false (some .boolean) kc_law 381 [.ref 1, .ref 2, .ref 253, .int (nI i)] [] h = runL (g2 L) 100 12 false (some .boolean) kc_law 1243 [.ref 1, .ref 2, .ref 253, .int (nI i)] [] h2 ∧ INV AN (n + 1) h2 := by
  by_cases z : hI h 1 (i + 2) = nI 0
  · obtain ⟨x, h1, h2, e1, e2, e3⟩ := nx_25 hE hI0 hn (hI h 1 (i + 1)) (show 0 ≤ 1 by omega)
    have c1 : hI h1 1 = hI h 1 := exec_R1 rfl 100 _ _ _ _ _ e1
    refine ⟨h2, ?_, e3⟩
    rw [el_381, lenA1, nI_plus i 1, inB_nI (n := L) (show i + 1 < 4294967296 by omega), ix_nI (show i + 1 < 4294967296 by omega), nI_plus i 2, inB_nI (n := L) (show i + 2 < 4294967296 by omega), ix_nI (show i + 2 < 4294967296 by omega), asr_d (show i + 1 < L by omega), asr_d (show i + 2 < L by omega), if_pos z, e1, cI_s, asr_d (show i + 1 < L by omega), asr_d (show i + 2 < L by omega), c1, if_pos z, e2, cI_s, if_pos rfl]
  · obtain ⟨x, h1, h2, e1, e2, e3⟩ := nx_25 hE hI0 hn (hI h 1 (i + 1)) (show 1 ≤ 1 by omega)
    have c1 : hI h1 1 = hI h 1 := exec_R1 rfl 100 _ _ _ _ _ e1
    refine ⟨h2, ?_, e3⟩
    rw [el_381, lenA1, nI_plus i 1, inB_nI (n := L) (show i + 1 < 4294967296 by omega), ix_nI (show i + 1 < 4294967296 by omega), nI_plus i 2, inB_nI (n := L) (show i + 2 < 4294967296 by omega), ix_nI (show i + 2 < 4294967296 by omega), asr_d (show i + 1 < L by omega), asr_d (show i + 2 < L by omega), if_neg z, e1, cI_s, asr_d (show i + 1 < L by omega), asr_d (show i + 2 < L by omega), c1, if_neg z, e2, cI_s, if_pos rfl]
theorem ca_430 (hE : EXS L AN) (hI0 : INV AN n h) (hn : n ≤ 5000) (hL : i + 6 ≤ L) (hL2 : L ≤ 3072) : ∃ h2, runL (g2 L) 100 12 false (some .boolean) kc_law 430 [.ref 1, .ref 2, .ref 253, .int (nI i)] [] h = runL (g2 L) 100 12 false (some .boolean) kc_law 1243 [.ref 1, .ref 2, .ref 253, .int (nI i)] [] h2 ∧ INV AN (n + 1) h2 := by
  by_cases z : hI h 1 (i + 2) = nI 0
  · obtain ⟨x, h1, h2, e1, e2, e3⟩ := nx_26 hE hI0 hn (hI h 1 (i + 1)) (show 0 ≤ 1 by omega)
    have c1 : hI h1 1 = hI h 1 := exec_R1 rfl 100 _ _ _ _ _ e1
    refine ⟨h2, ?_, e3⟩
    rw [el_430, lenA1, nI_plus i 1, inB_nI (n := L) (show i + 1 < 4294967296 by omega), ix_nI (show i + 1 < 4294967296 by omega), nI_plus i 2, inB_nI (n := L) (show i + 2 < 4294967296 by omega), ix_nI (show i + 2 < 4294967296 by omega), asr_d (show i + 1 < L by omega), asr_d (show i + 2 < L by omega), if_pos z, e1, cI_s, asr_d (show i + 1 < L by omega), asr_d (show i + 2 < L by omega), c1, if_pos z, e2, cI_s, if_pos rfl]
  · obtain ⟨x, h1, h2, e1, e2, e3⟩ := nx_26 hE hI0 hn (hI h 1 (i + 1)) (show 1 ≤ 1 by omega)
    have c1 : hI h1 1 = hI h 1 := exec_R1 rfl 100 _ _ _ _ _ e1
    refine ⟨h2, ?_, e3⟩
    rw [el_430, lenA1, nI_plus i 1, inB_nI (n := L) (show i + 1 < 4294967296 by omega), ix_nI (show i + 1 < 4294967296 by omega), nI_plus i 2, inB_nI (n := L) (show i + 2 < 4294967296 by omega), ix_nI (show i + 2 < 4294967296 by omega), asr_d (show i + 1 < L by omega), asr_d (show i + 2 < L by omega), if_neg z, e1, cI_s, asr_d (show i + 1 < L by omega), asr_d (show i + 2 < L by omega), c1, if_neg z, e2, cI_s, if_pos rfl]
theorem ca_479 (hE : EXS L AN) (hI0 : INV AN n h) (hn : n ≤ 5000) (hL : i + 6 ≤ L) (hL2 : L ≤ 3072) : ∃ h2, runL (g2 L) 100 12 false (some .boolean) kc_law 479 [.ref 1, .ref 2, .ref 253, .int (nI i)] [] h = runL (g2 L) 100 12 false (some .boolean) kc_law 1243 [.ref 1, .ref 2, .ref 253, .int (nI i)] [] h2 ∧ INV AN (n + 1) h2 := by
  by_cases z : hI h 1 (i + 1) = nI 0
  · obtain ⟨x, h1, h2, e1, e2, e3⟩ := nx_27 hE hI0 hn (show 0 ≤ 1 by omega)
    have c1 : hI h1 1 = hI h 1 := exec_R1 rfl 100 _ _ _ _ _ e1
    refine ⟨h2, ?_, e3⟩
    rw [el_479, lenA1, nI_plus i 1, inB_nI (n := L) (show i + 1 < 4294967296 by omega), ix_nI (show i + 1 < 4294967296 by omega), asr_d (show i + 1 < L by omega), if_pos z, e1, cI_s, asr_d (show i + 1 < L by omega), c1, if_pos z, e2, cI_s, if_pos rfl]
  · obtain ⟨x, h1, h2, e1, e2, e3⟩ := nx_27 hE hI0 hn (show 1 ≤ 1 by omega)
    have c1 : hI h1 1 = hI h 1 := exec_R1 rfl 100 _ _ _ _ _ e1
    refine ⟨h2, ?_, e3⟩
    rw [el_479, lenA1, nI_plus i 1, inB_nI (n := L) (show i + 1 < 4294967296 by omega), ix_nI (show i + 1 < 4294967296 by omega), asr_d (show i + 1 < L by omega), if_neg z, e1, cI_s, asr_d (show i + 1 < L by omega), c1, if_neg z, e2, cI_s, if_pos rfl]
theorem ca_518 (hE : EXS L AN) (hI0 : INV AN n h) (hn : n ≤ 5000) (hL : i + 6 ≤ L) (hL2 : L ≤ 3072) : ∃ h2, runL (g2 L) 100 12 false (some .boolean) kc_law 518 [.ref 1, .ref 2, .ref 253, .int (nI i)] [] h = runL (g2 L) 100 12 false (some .boolean) kc_law 1243 [.ref 1, .ref 2, .ref 253, .int (nI i)] [] h2 ∧ INV AN (n + 1) h2 := by
  obtain ⟨x, h1, h2, e1, e2, e3⟩ := nx_28 hE hI0 hn (hI h 1 (i + 1))
  have c1 : hI h1 1 = hI h 1 := exec_R1 rfl 100 _ _ _ _ _ e1
  refine ⟨h2, ?_, e3⟩
  rw [el_518, lenA1, nI_plus i 1, inB_nI (n := L) (show i + 1 < 4294967296 by omega), ix_nI (show i + 1 < 4294967296 by omega), asr_d (show i + 1 < L by omega), e1, cI_s, asr_d (show i + 1 < L by omega), c1, e2, cI_s, if_pos rfl]
theorem ca_541 (hE : EXS L AN) (hI0 : INV AN n h) (hn : n ≤ 5000) (hL : i + 6 ≤ L) (hL2 : L ≤ 3072) : ∃ h2, runL (g2 L) 100 12 false (some .boolean) kc_law 541 [.ref 1, .ref 2, .ref 253, .int (nI i)] [] h = runL (g2 L) 100 12 false (some .boolean) kc_law 1243 [.ref 1, .ref 2, .ref 253, .int (nI i)] [] h2 ∧ INV AN (n + 1) h2 := by
  obtain ⟨x, h1, h2, e1, e2, e3⟩ := nx_35 hE hI0 hn (hI h 1 (i + 1))
  have c1 : hI h1 1 = hI h 1 := exec_R1 rfl 100 _ _ _ _ _ e1
  refine ⟨h2, ?_, e3⟩
  rw [el_541, lenA1, nI_plus i 1, inB_nI (n := L) (show i + 1 < 4294967296 by omega), ix_nI (show i + 1 < 4294967296 by omega), asr_d (show i + 1 < L by omega), e1, cI_s, asr_d (show i + 1 < L by omega), c1, e2, cI_s, if_pos rfl]
theorem ca_564 (hE : EXS L AN) (hI0 : INV AN n h) (hn : n ≤ 5000) (hL : i + 6 ≤ L) (hL2 : L ≤ 3072) : ∃ h2, runL (g2 L) 100 12 false (some .boolean) kc_law 564 [.ref 1, .ref 2, .ref 253, .int (nI i)] [] h = runL (g2 L) 100 12 false (some .boolean) kc_law 1243 [.ref 1, .ref 2, .ref 253, .int (nI i)] [] h2 ∧ INV AN (n + 1) h2 := by
  obtain ⟨x, h1, h2, e1, e2, e3⟩ := nx_36 hE hI0 hn (hI h 1 (i + 1)) (hI h 1 (i + 2))
  have c1 : hI h1 1 = hI h 1 := exec_R1 rfl 100 _ _ _ _ _ e1
  refine ⟨h2, ?_, e3⟩
  rw [el_564, lenA1, nI_plus i 1, inB_nI (n := L) (show i + 1 < 4294967296 by omega), ix_nI (show i + 1 < 4294967296 by omega), nI_plus i 2, inB_nI (n := L) (show i + 2 < 4294967296 by omega), ix_nI (show i + 2 < 4294967296 by omega), asr_d (show i + 1 < L by omega), asr_d (show i + 2 < L by omega), e1, cI_s, asr_d (show i + 1 < L by omega), asr_d (show i + 2 < L by omega), c1, e2, cI_s, if_pos rfl]
theorem ca_597 (hE : EXS L AN) (hI0 : INV AN n h) (hn : n ≤ 5000) (hL : i + 6 ≤ L) (hL2 : L ≤ 3072) : ∃ h2, runL (g2 L) 100 12 false (some .boolean) kc_law 597 [.ref 1, .ref 2, .ref 253, .int (nI i)] [] h = runL (g2 L) 100 12 false (some .boolean) kc_law 1243 [.ref 1, .ref 2, .ref 253, .int (nI i)] [] h2 ∧ INV AN (n + 1) h2 := by
  obtain ⟨x, h1, h2, e1, e2, e3⟩ := nx_38 hE hI0 hn (hI h 1 (i + 1)) (hI h 1 (i + 2))
  have c1 : hI h1 1 = hI h 1 := exec_R1 rfl 100 _ _ _ _ _ e1
  refine ⟨h2, ?_, e3⟩
  rw [el_597, lenA1, nI_plus i 1, inB_nI (n := L) (show i + 1 < 4294967296 by omega), ix_nI (show i + 1 < 4294967296 by omega), nI_plus i 2, inB_nI (n := L) (show i + 2 < 4294967296 by omega), ix_nI (show i + 2 < 4294967296 by omega), asr_d (show i + 1 < L by omega), asr_d (show i + 2 < L by omega), e1, cI_s, asr_d (show i + 1 < L by omega), asr_d (show i + 2 < L by omega), c1, e2, cI_s, if_pos rfl]
theorem ca_630 (hE : EXS L AN) (hI0 : INV AN n h) (hn : n ≤ 5000) (hL : i + 6 ≤ L) (hL2 : L ≤ 3072) : ∃ h2, runL (g2 L) 100 12 false (some .boolean) kc_law 630 [.ref 1, .ref 2, .ref 253, .int (nI i)] [] h = runL (g2 L) 100 12 false (some .boolean) kc_law 1243 [.ref 1, .ref 2, .ref 253, .int (nI i)] [] h2 ∧ INV AN (n + 1) h2 := by
  obtain ⟨x, h1, h2, e1, e2, e3⟩ := nx_40 hE hI0 hn 
  have c1 : hI h1 1 = hI h 1 := exec_R1 rfl 100 _ _ _ _ _ e1
  refine ⟨h2, ?_, e3⟩
  rw [el_630, e1, cI_s, e2, cI_s, if_pos rfl]
theorem ca_643 (hE : EXS L AN) (hI0 : INV AN n h) (hn : n ≤ 5000) (hL : i + 6 ≤ L) (hL2 : L ≤ 3072) : ∃ h2, runL (g2 L) 100 12 false (some .boolean) kc_law 643 [.ref 1, .ref 2, .ref 253, .int (nI i)] [] h = runL (g2 L) 100 12 false (some .boolean) kc_law 1243 [.ref 1, .ref 2, .ref 253, .int (nI i)] [] h2 ∧ INV AN (n + 1) h2 := by
  obtain ⟨x, h1, h2, e1, e2, e3⟩ := nx_41 hE hI0 hn (hI h 1 (i + 1))
  have c1 : hI h1 1 = hI h 1 := exec_R1 rfl 100 _ _ _ _ _ e1
  refine ⟨h2, ?_, e3⟩
  rw [el_643, lenA1, nI_plus i 1, inB_nI (n := L) (show i + 1 < 4294967296 by omega), ix_nI (show i + 1 < 4294967296 by omega), asr_d (show i + 1 < L by omega), e1, cI_s, asr_d (show i + 1 < L by omega), c1, e2, cI_s, if_pos rfl]
theorem ca_666 (hE : EXS L AN) (hI0 : INV AN n h) (hn : n ≤ 5000) (hL : i + 6 ≤ L) (hL2 : L ≤ 3072) : ∃ h2, runL (g2 L) 100 12 false (some .boolean) kc_law 666 [.ref 1, .ref 2, .ref 253, .int (nI i)] [] h = runL (g2 L) 100 12 false (some .boolean) kc_law 1243 [.ref 1, .ref 2, .ref 253, .int (nI i)] [] h2 ∧ INV AN (n + 1) h2 := by
  obtain ⟨x, h1, h2, e1, e2, e3⟩ := nx_45 hE hI0 hn (hI h 1 (i + 1)) (hI h 1 (i + 2)) (hI h 1 (i + 3))
  have c1 : hI h1 1 = hI h 1 := exec_R1 rfl 100 _ _ _ _ _ e1
  refine ⟨h2, ?_, e3⟩
  rw [el_666, lenA1, nI_plus i 1, inB_nI (n := L) (show i + 1 < 4294967296 by omega), ix_nI (show i + 1 < 4294967296 by omega), nI_plus i 2, inB_nI (n := L) (show i + 2 < 4294967296 by omega), ix_nI (show i + 2 < 4294967296 by omega), nI_plus i 3, inB_nI (n := L) (show i + 3 < 4294967296 by omega), ix_nI (show i + 3 < 4294967296 by omega), asr_d (show i + 1 < L by omega), asr_d (show i + 2 < L by omega), asr_d (show i + 3 < L by omega), e1, cI_s, asr_d (show i + 1 < L by omega), asr_d (show i + 2 < L by omega), asr_d (show i + 3 < L by omega), c1, e2, cI_s, if_pos rfl]
theorem ca_709 (hE : EXS L AN) (hI0 : INV AN n h) (hn : n ≤ 5000) (hL : i + 6 ≤ L) (hL2 : L ≤ 3072) : ∃ h2, runL (g2 L) 100 12 false (some .boolean) kc_law 709 [.ref 1, .ref 2, .ref 253, .int (nI i)] [] h = runL (g2 L) 100 12 false (some .boolean) kc_law 1243 [.ref 1, .ref 2, .ref 253, .int (nI i)] [] h2 ∧ INV AN (n + 1) h2 := by
  obtain ⟨x, h1, h2, e1, e2, e3⟩ := nx_47 hE hI0 hn (hI h 1 (i + 1))
  have c1 : hI h1 1 = hI h 1 := exec_R1 rfl 100 _ _ _ _ _ e1
  refine ⟨h2, ?_, e3⟩
  rw [el_709, lenA1, nI_plus i 1, inB_nI (n := L) (show i + 1 < 4294967296 by omega), ix_nI (show i + 1 < 4294967296 by omega), asr_d (show i + 1 < L by omega), e1, cI_s, asr_d (show i + 1 < L by omega), c1, e2, cI_s, if_pos rfl]
theorem ca_732 (hE : EXS L AN) (hI0 : INV AN n h) (hn : n ≤ 5000) (hL : i + 6 ≤ L) (hL2 : L ≤ 3072) : ∃ h2, runL (g2 L) 100 12 false (some .boolean) kc_law 732 [.ref 1, .ref 2, .ref 253, .int (nI i)] [] h = runL (g2 L) 100 12 false (some .boolean) kc_law 1243 [.ref 1, .ref 2, .ref 253, .int (nI i)] [] h2 ∧ INV AN (n + 1) h2 := by
  obtain ⟨x, h1, h2, e1, e2, e3⟩ := nx_74 hE hI0 hn (hI h 1 (i + 1)) (hI h 1 (i + 2)) (hI h 1 (i + 3))
  have c1 : hI h1 1 = hI h 1 := exec_R1 rfl 100 _ _ _ _ _ e1
  refine ⟨h2, ?_, e3⟩
  rw [el_732, lenA1, nI_plus i 1, inB_nI (n := L) (show i + 1 < 4294967296 by omega), ix_nI (show i + 1 < 4294967296 by omega), nI_plus i 2, inB_nI (n := L) (show i + 2 < 4294967296 by omega), ix_nI (show i + 2 < 4294967296 by omega), nI_plus i 3, inB_nI (n := L) (show i + 3 < 4294967296 by omega), ix_nI (show i + 3 < 4294967296 by omega), asr_d (show i + 1 < L by omega), asr_d (show i + 2 < L by omega), asr_d (show i + 3 < L by omega), e1, cI_s, asr_d (show i + 1 < L by omega), asr_d (show i + 2 < L by omega), asr_d (show i + 3 < L by omega), c1, e2, cI_s, if_pos rfl]
theorem ca_775 (hE : EXS L AN) (hI0 : INV AN n h) (hn : n ≤ 5000) (hL : i + 6 ≤ L) (hL2 : L ≤ 3072) : ∃ h2, runL (g2 L) 100 12 false (some .boolean) kc_law 775 [.ref 1, .ref 2, .ref 253, .int (nI i)] [] h = runL (g2 L) 100 12 false (some .boolean) kc_law 1243 [.ref 1, .ref 2, .ref 253, .int (nI i)] [] h2 ∧ INV AN (n + 1) h2 := by
  obtain ⟨x, h1, h2, e1, e2, e3⟩ := nx_76 hE hI0 hn (hI h 1 (i + 1)) (hI h 1 (i + 2))
  have c1 : hI h1 1 = hI h 1 := exec_R1 rfl 100 _ _ _ _ _ e1
  refine ⟨h2, ?_, e3⟩
  rw [el_775, lenA1, nI_plus i 1, inB_nI (n := L) (show i + 1 < 4294967296 by omega), ix_nI (show i + 1 < 4294967296 by omega), nI_plus i 2, inB_nI (n := L) (show i + 2 < 4294967296 by omega), ix_nI (show i + 2 < 4294967296 by omega), asr_d (show i + 1 < L by omega), asr_d (show i + 2 < L by omega), e1, cI_s, asr_d (show i + 1 < L by omega), asr_d (show i + 2 < L by omega), c1, e2, cI_s, if_pos rfl]
theorem ca_808 (hE : EXS L AN) (hI0 : INV AN n h) (hn : n ≤ 5000) (hL : i + 6 ≤ L) (hL2 : L ≤ 3072) : ∃ h2, runL (g2 L) 100 12 false (some .boolean) kc_law 808 [.ref 1, .ref 2, .ref 253, .int (nI i)] [] h = runL (g2 L) 100 12 false (some .boolean) kc_law 1243 [.ref 1, .ref 2, .ref 253, .int (nI i)] [] h2 ∧ INV AN (n + 1) h2 := by
  obtain ⟨x, h1, h2, e1, e2, e3⟩ := nx_77 hE hI0 hn (hI h 1 (i + 1)) (hI h 1 (i + 2))
  have c1 : hI h1 1 = hI h 1 := exec_R1 rfl 100 _ _ _ _ _ e1
  refine ⟨h2, ?_, e3⟩
  rw [el_808, lenA1, nI_plus i 1, inB_nI (n := L) (show i + 1 < 4294967296 by omega), ix_nI (show i + 1 < 4294967296 by omega), nI_plus i 2, inB_nI (n := L) (show i + 2 < 4294967296 by omega), ix_nI (show i + 2 < 4294967296 by omega), asr_d (show i + 1 < L by omega), asr_d (show i + 2 < L by omega), e1, cI_s, asr_d (show i + 1 < L by omega), asr_d (show i + 2 < L by omega), c1, e2, cI_s, if_pos rfl]
theorem ca_841 (hE : EXS L AN) (hI0 : INV AN n h) (hn : n ≤ 5000) (hL : i + 6 ≤ L) (hL2 : L ≤ 3072) : ∃ h2, runL (g2 L) 100 12 false (some .boolean) kc_law 841 [.ref 1, .ref 2, .ref 253, .int (nI i)] [] h = runL (g2 L) 100 12 false (some .boolean) kc_law 1243 [.ref 1, .ref 2, .ref 253, .int (nI i)] [] h2 ∧ INV AN (n + 1) h2 := by
  obtain ⟨x, h1, h2, e1, e2, e3⟩ := nx_90 hE hI0 hn (hI h 1 (i + 1)) (hI h 1 (i + 2)) (hI h 1 (i + 3)) (hI h 1 (i + 4)) (hI h 1 (i + 5))
  have c1 : hI h1 1 = hI h 1 := exec_R1 rfl 100 _ _ _ _ _ e1
  refine ⟨h2, ?_, e3⟩
  rw [el_841, lenA1, nI_plus i 1, inB_nI (n := L) (show i + 1 < 4294967296 by omega), ix_nI (show i + 1 < 4294967296 by omega), nI_plus i 2, inB_nI (n := L) (show i + 2 < 4294967296 by omega), ix_nI (show i + 2 < 4294967296 by omega), nI_plus i 3, inB_nI (n := L) (show i + 3 < 4294967296 by omega), ix_nI (show i + 3 < 4294967296 by omega), nI_plus i 4, inB_nI (n := L) (show i + 4 < 4294967296 by omega), ix_nI (show i + 4 < 4294967296 by omega), nI_plus i 5, inB_nI (n := L) (show i + 5 < 4294967296 by omega), ix_nI (show i + 5 < 4294967296 by omega), asr_d (show i + 1 < L by omega), asr_d (show i + 2 < L by omega), asr_d (show i + 3 < L by omega), asr_d (show i + 4 < L by omega), asr_d (show i + 5 < L by omega), e1, cI_s, asr_d (show i + 1 < L by omega), asr_d (show i + 2 < L by omega), asr_d (show i + 3 < L by omega), asr_d (show i + 4 < L by omega), asr_d (show i + 5 < L by omega), c1, e2, cI_s, if_pos rfl]
theorem ca_904 (hE : EXS L AN) (hI0 : INV AN n h) (hn : n ≤ 5000) (hL : i + 6 ≤ L) (hL2 : L ≤ 3072) : ∃ h2, runL (g2 L) 100 12 false (some .boolean) kc_law 904 [.ref 1, .ref 2, .ref 253, .int (nI i)] [] h = runL (g2 L) 100 12 false (some .boolean) kc_law 1243 [.ref 1, .ref 2, .ref 253, .int (nI i)] [] h2 ∧ INV AN (n + 1) h2 := by
  obtain ⟨x, h1, h2, e1, e2, e3⟩ := nx_92 hE hI0 hn (hI h 1 (i + 1))
  have c1 : hI h1 1 = hI h 1 := exec_R1 rfl 100 _ _ _ _ _ e1
  refine ⟨h2, ?_, e3⟩
  rw [el_904, lenA1, nI_plus i 1, inB_nI (n := L) (show i + 1 < 4294967296 by omega), ix_nI (show i + 1 < 4294967296 by omega), asr_d (show i + 1 < L by omega), e1, cI_s, asr_d (show i + 1 < L by omega), c1, e2, cI_s, if_pos rfl]
theorem ca_927 (hE : EXS L AN) (hI0 : INV AN n h) (hn : n ≤ 5000) (hL : i + 6 ≤ L) (hL2 : L ≤ 3072) : ∃ h2, runL (g2 L) 100 12 false (some .boolean) kc_law 927 [.ref 1, .ref 2, .ref 253, .int (nI i)] [] h = runL (g2 L) 100 12 false (some .boolean) kc_law 1243 [.ref 1, .ref 2, .ref 253, .int (nI i)] [] h2 ∧ INV AN (n + 1) h2 := by
  obtain ⟨x, h1, h2, e1, e2, e3⟩ := nx_93 hE hI0 hn 
  have c1 : hI h1 1 = hI h 1 := exec_R1 rfl 100 _ _ _ _ _ e1
  refine ⟨h2, ?_, e3⟩
  rw [el_927, e1, cI_s, e2, cI_s, if_pos rfl]
theorem ca_940 (hE : EXS L AN) (hI0 : INV AN n h) (hn : n ≤ 5000) (hL : i + 6 ≤ L) (hL2 : L ≤ 3072) : ∃ h2, runL (g2 L) 100 12 false (some .boolean) kc_law 940 [.ref 1, .ref 2, .ref 253, .int (nI i)] [] h = runL (g2 L) 100 12 false (some .boolean) kc_law 1243 [.ref 1, .ref 2, .ref 253, .int (nI i)] [] h2 ∧ INV AN (n + 1) h2 := by
  obtain ⟨x, h1, h2, e1, e2, e3⟩ := nx_123 hE hI0 hn (hI h 1 (i + 1))
  have c1 : hI h1 1 = hI h 1 := exec_R1 rfl 100 _ _ _ _ _ e1
  refine ⟨h2, ?_, e3⟩
  rw [el_940, lenA1, nI_plus i 1, inB_nI (n := L) (show i + 1 < 4294967296 by omega), ix_nI (show i + 1 < 4294967296 by omega), asr_d (show i + 1 < L by omega), e1, cI_s, asr_d (show i + 1 < L by omega), c1, e2, cI_s, if_pos rfl]
theorem ca_963 (hE : EXS L AN) (hI0 : INV AN n h) (hn : n ≤ 5000) (hL : i + 6 ≤ L) (hL2 : L ≤ 3072) : ∃ h2, runL (g2 L) 100 12 false (some .boolean) kc_law 963 [.ref 1, .ref 2, .ref 253, .int (nI i)] [] h = runL (g2 L) 100 12 false (some .boolean) kc_law 1243 [.ref 1, .ref 2, .ref 253, .int (nI i)] [] h2 ∧ INV AN (n + 1) h2 := by
  obtain ⟨x, h1, h2, e1, e2, e3⟩ := nx_124 hE hI0 hn (hI h 1 (i + 1))
  have c1 : hI h1 1 = hI h 1 := exec_R1 rfl 100 _ _ _ _ _ e1
  refine ⟨h2, ?_, e3⟩
  rw [el_963, lenA1, nI_plus i 1, inB_nI (n := L) (show i + 1 < 4294967296 by omega), ix_nI (show i + 1 < 4294967296 by omega), asr_d (show i + 1 < L by omega), e1, cI_s, asr_d (show i + 1 < L by omega), c1, e2, cI_s, if_pos rfl]
theorem ca_986 (hE : EXS L AN) (hI0 : INV AN n h) (hn : n ≤ 5000) (hL : i + 6 ≤ L) (hL2 : L ≤ 3072) : ∃ h2, runL (g2 L) 100 12 false (some .boolean) kc_law 986 [.ref 1, .ref 2, .ref 253, .int (nI i)] [] h = runL (g2 L) 100 12 false (some .boolean) kc_law 1243 [.ref 1, .ref 2, .ref 253, .int (nI i)] [] h2 ∧ INV AN (n + 1) h2 := by
  obtain ⟨x, h1, h2, e1, e2, e3⟩ := nx_125 hE hI0 hn (hI h 1 (i + 1)) (hI h 1 (i + 2))
  have c1 : hI h1 1 = hI h 1 := exec_R1 rfl 100 _ _ _ _ _ e1
  refine ⟨h2, ?_, e3⟩
  rw [el_986, lenA1, nI_plus i 1, inB_nI (n := L) (show i + 1 < 4294967296 by omega), ix_nI (show i + 1 < 4294967296 by omega), nI_plus i 2, inB_nI (n := L) (show i + 2 < 4294967296 by omega), ix_nI (show i + 2 < 4294967296 by omega), asr_d (show i + 1 < L by omega), asr_d (show i + 2 < L by omega), e1, cI_s, asr_d (show i + 1 < L by omega), asr_d (show i + 2 < L by omega), c1, e2, cI_s, if_pos rfl]
theorem ca_1019 (hE : EXS L AN) (hI0 : INV AN n h) (hn : n ≤ 5000) (hL : i + 6 ≤ L) (hL2 : L ≤ 3072) : ∃ h2, runL (g2 L) 100 12 false (some .boolean) kc_law 1019 [.ref 1, .ref 2, .ref 253, .int (nI i)] [] h = runL (g2 L) 100 12 false (some .boolean) kc_law 1243 [.ref 1, .ref 2, .ref 253, .int (nI i)] [] h2 ∧ INV AN (n + 1) h2 := by
  obtain ⟨x, h1, h2, e1, e2, e3⟩ := nx_135 hE hI0 hn (hI h 1 (i + 1)) (hI h 1 (i + 2))
  have c1 : hI h1 1 = hI h 1 := exec_R1 rfl 100 _ _ _ _ _ e1
  refine ⟨h2, ?_, e3⟩
  rw [el_1019, lenA1, nI_plus i 1, inB_nI (n := L) (show i + 1 < 4294967296 by omega), ix_nI (show i + 1 < 4294967296 by omega), nI_plus i 2, inB_nI (n := L) (show i + 2 < 4294967296 by omega), ix_nI (show i + 2 < 4294967296 by omega), asr_d (show i + 1 < L by omega), asr_d (show i + 2 < L by omega), e1, cI_s, asr_d (show i + 1 < L by omega), asr_d (show i + 2 < L by omega), c1, e2, cI_s, if_pos rfl]
theorem ca_1052 (hE : EXS L AN) (hI0 : INV AN n h) (hn : n ≤ 5000) (hL : i + 6 ≤ L) (hL2 : L ≤ 3072) : ∃ h2, runL (g2 L) 100 12 false (some .boolean) kc_law 1052 [.ref 1, .ref 2, .ref 253, .int (nI i)] [] h = runL (g2 L) 100 12 false (some .boolean) kc_law 1243 [.ref 1, .ref 2, .ref 253, .int (nI i)] [] h2 ∧ INV AN (n + 1) h2 := by
  obtain ⟨x, h1, h2, e1, e2, e3⟩ := nx_137 hE hI0 hn (hI h 1 (i + 1)) (hI h 1 (i + 2))
  have c1 : hI h1 1 = hI h 1 := exec_R1 rfl 100 _ _ _ _ _ e1
  refine ⟨h2, ?_, e3⟩
  rw [el_1052, lenA1, nI_plus i 1, inB_nI (n := L) (show i + 1 < 4294967296 by omega), ix_nI (show i + 1 < 4294967296 by omega), nI_plus i 2, inB_nI (n := L) (show i + 2 < 4294967296 by omega), ix_nI (show i + 2 < 4294967296 by omega), asr_d (show i + 1 < L by omega), asr_d (show i + 2 < L by omega), e1, cI_s, asr_d (show i + 1 < L by omega), asr_d (show i + 2 < L by omega), c1, e2, cI_s, if_pos rfl]
theorem ca_1085 (hE : EXS L AN) (hI0 : INV AN n h) (hn : n ≤ 5000) (hL : i + 6 ≤ L) (hL2 : L ≤ 3072) : ∃ h2, runL (g2 L) 100 12 false (some .boolean) kc_law 1085 [.ref 1, .ref 2, .ref 253, .int (nI i)] [] h = runL (g2 L) 100 12 false (some .boolean) kc_law 1243 [.ref 1, .ref 2, .ref 253, .int (nI i)] [] h2 ∧ INV AN (n + 1) h2 := by
  obtain ⟨x, h1, h2, e1, e2, e3⟩ := nx_138 hE hI0 hn (hI h 1 (i + 1)) (hI h 1 (i + 2)) (hI h 1 (i + 3))
  have c1 : hI h1 1 = hI h 1 := exec_R1 rfl 100 _ _ _ _ _ e1
  refine ⟨h2, ?_, e3⟩
  rw [el_1085, lenA1, nI_plus i 1, inB_nI (n := L) (show i + 1 < 4294967296 by omega), ix_nI (show i + 1 < 4294967296 by omega), nI_plus i 2, inB_nI (n := L) (show i + 2 < 4294967296 by omega), ix_nI (show i + 2 < 4294967296 by omega), nI_plus i 3, inB_nI (n := L) (show i + 3 < 4294967296 by omega), ix_nI (show i + 3 < 4294967296 by omega), asr_d (show i + 1 < L by omega), asr_d (show i + 2 < L by omega), asr_d (show i + 3 < L by omega), e1, cI_s, asr_d (show i + 1 < L by omega), asr_d (show i + 2 < L by omega), asr_d (show i + 3 < L by omega), c1, e2, cI_s, if_pos rfl]
theorem ca_1128 (hE : EXS L AN) (hI0 : INV AN n h) (hn : n ≤ 5000) (hL : i + 6 ≤ L) (hL2 : L ≤ 3072) : ∃ h2, runL (g2 L) 100 12 false (some .boolean) kc_law 1128 [.ref 1, .ref 2, .ref 253, .int (nI i)] [] h = runL (g2 L) 100 12 false (some .boolean) kc_law 1243 [.ref 1, .ref 2, .ref 253, .int (nI i)] [] h2 ∧ INV AN (n + 1) h2 := by
  obtain ⟨x, h1, h2, e1, e2, e3⟩ := nx_139 hE hI0 hn (hI h 1 (i + 1)) (hI h 1 (i + 2))
  have c1 : hI h1 1 = hI h 1 := exec_R1 rfl 100 _ _ _ _ _ e1
  refine ⟨h2, ?_, e3⟩
  rw [el_1128, lenA1, nI_plus i 1, inB_nI (n := L) (show i + 1 < 4294967296 by omega), ix_nI (show i + 1 < 4294967296 by omega), nI_plus i 2, inB_nI (n := L) (show i + 2 < 4294967296 by omega), ix_nI (show i + 2 < 4294967296 by omega), asr_d (show i + 1 < L by omega), asr_d (show i + 2 < L by omega), e1, cI_s, asr_d (show i + 1 < L by omega), asr_d (show i + 2 < L by omega), c1, e2, cI_s, if_pos rfl]
theorem ca_1161 (hE : EXS L AN) (hI0 : INV AN n h) (hn : n ≤ 5000) (hL : i + 6 ≤ L) (hL2 : L ≤ 3072) : ∃ h2, runL (g2 L) 100 12 false (some .boolean) kc_law 1161 [.ref 1, .ref 2, .ref 253, .int (nI i)] [] h = runL (g2 L) 100 12 false (some .boolean) kc_law 1243 [.ref 1, .ref 2, .ref 253, .int (nI i)] [] h2 ∧ INV AN (n + 1) h2 := by
  obtain ⟨x, h1, h2, e1, e2, e3⟩ := nx_142 hE hI0 hn (hI h 1 (i + 1)) (hI h 1 (i + 2))
  have c1 : hI h1 1 = hI h 1 := exec_R1 rfl 100 _ _ _ _ _ e1
  refine ⟨h2, ?_, e3⟩
  rw [el_1161, lenA1, nI_plus i 1, inB_nI (n := L) (show i + 1 < 4294967296 by omega), ix_nI (show i + 1 < 4294967296 by omega), nI_plus i 2, inB_nI (n := L) (show i + 2 < 4294967296 by omega), ix_nI (show i + 2 < 4294967296 by omega), asr_d (show i + 1 < L by omega), asr_d (show i + 2 < L by omega), e1, cI_s, asr_d (show i + 1 < L by omega), asr_d (show i + 2 < L by omega), c1, e2, cI_s, if_pos rfl]
theorem ca_1194 (hE : EXS L AN) (hI0 : INV AN n h) (hn : n ≤ 5000) (hL : i + 6 ≤ L) (hL2 : L ≤ 3072) : ∃ h2, runL (g2 L) 100 12 false (some .boolean) kc_law 1194 [.ref 1, .ref 2, .ref 253, .int (nI i)] [] h = runL (g2 L) 100 12 false (some .boolean) kc_law 1243 [.ref 1, .ref 2, .ref 253, .int (nI i)] [] h2 ∧ INV AN (n + 1) h2 := by
  obtain ⟨x, h1, h2, e1, e2, e3⟩ := nx_143 hE hI0 hn 
  have c1 : hI h1 1 = hI h 1 := exec_R1 rfl 100 _ _ _ _ _ e1
  refine ⟨h2, ?_, e3⟩
  rw [el_1194, e1, cI_s, e2, cI_s, if_pos rfl]
theorem ca_1207 (hE : EXS L AN) (hI0 : INV AN n h) (hn : n ≤ 5000) (hL : i + 6 ≤ L) (hL2 : L ≤ 3072) : ∃ h2, runL (g2 L) 100 12 false (some .boolean) kc_law 1207 [.ref 1, .ref 2, .ref 253, .int (nI i)] [] h = runL (g2 L) 100 12 false (some .boolean) kc_law 1243 [.ref 1, .ref 2, .ref 253, .int (nI i)] [] h2 ∧ INV AN (n + 1) h2 := by
  obtain ⟨x, h1, h2, e1, e2, e3⟩ := nx_146 hE hI0 hn 
  have c1 : hI h1 1 = hI h 1 := exec_R1 rfl 100 _ _ _ _ _ e1
  refine ⟨h2, ?_, e3⟩
  rw [el_1207, e1, cI_s, e2, cI_s, if_pos rfl]
theorem ca_1220 (hE : EXS L AN) (hI0 : INV AN n h) (hn : n ≤ 5000) (hL : i + 6 ≤ L) (hL2 : L ≤ 3072) : ∃ h2, runL (g2 L) 100 12 false (some .boolean) kc_law 1220 [.ref 1, .ref 2, .ref 253, .int (nI i)] [] h = runL (g2 L) 100 12 false (some .boolean) kc_law 1243 [.ref 1, .ref 2, .ref 253, .int (nI i)] [] h2 ∧ INV AN (n + 1) h2 := by
  obtain ⟨x, h1, h2, e1, e2, e3⟩ := nx_147 hE hI0 hn (hI h 1 (i + 1))
  have c1 : hI h1 1 = hI h 1 := exec_R1 rfl 100 _ _ _ _ _ e1
  refine ⟨h2, ?_, e3⟩
  rw [el_1220, lenA1, nI_plus i 1, inB_nI (n := L) (show i + 1 < 4294967296 by omega), ix_nI (show i + 1 < 4294967296 by omega), asr_d (show i + 1 < L by omega), e1, cI_s, asr_d (show i + 1 < L by omega), c1, e2, cI_s, if_pos rfl]
theorem law_loop (hE : EXS L AN) (hL : L ≤ 3072) : ∀ (u n : Nat) (h : PH), L + 6 ≤ 6 * (n + u) → n + u ≤ 600 → INV AN n h → ∃ h', runL (g2 L) 100 12 false (some .boolean) kc_law 18 [.ref 1, .ref 2, .ref 253, .int (nI (6 * n))] [] h = some (some (.int (nI 1)), h') := by
  have e0 : ∀ i : Nat, i < 5000 → ((nI L - nI 6 < nI i) ↔ L < i + 6) := by
    intro i hi
    rw [nI_iv, nI_iv, nI_iv, Int32.lt_iff_toInt_lt, Jvm.Kit.i32_sub (by rw [iv_toInt (by omega) (by omega), iv_toInt (by omega) (by omega)]; omega) (by rw [iv_toInt (by omega) (by omega), iv_toInt (by omega) (by omega)]; omega), iv_toInt (by omega) (by omega), iv_toInt (by omega) (by omega), iv_toInt (by omega) (by omega)]
    omega
  intro u
  induction u with
  | zero =>
    intro n h hu hu2 hI0
    refine ⟨h, ?_⟩
    rw [el_18, lenA1, if_pos ((e0 (6 * n) (by omega)).mpr (by omega))]
  | succ u ih =>
    intro n h hu hu2 hI0
    by_cases z : L < 6 * n + 6
    · refine ⟨h, ?_⟩
      rw [el_18, lenA1, if_pos ((e0 (6 * n) (by omega)).mpr z)]
    · have s0 := el_18 L (nI (6 * n)) h
      rw [lenA1, if_neg (fun q => z ((e0 (6 * n) (by omega)).mp q)), inB_nI (by omega), asr_d (by omega)] at s0
      -- behind a call
      have on : ∀ (pc : Nat), (runL (g2 L) 100 12 false (some .boolean) kc_law 18 [.ref 1, .ref 2, .ref 253, .int (nI (6 * n))] [] h = runL (g2 L) 100 12 false (some .boolean) kc_law pc [.ref 1, .ref 2, .ref 253, .int (nI (6 * n))] [] h) → (∃ h2, runL (g2 L) 100 12 false (some .boolean) kc_law pc [.ref 1, .ref 2, .ref 253, .int (nI (6 * n))] [] h = runL (g2 L) 100 12 false (some .boolean) kc_law 1243 [.ref 1, .ref 2, .ref 253, .int (nI (6 * n))] [] h2 ∧ INV AN (n + 1) h2) → ∃ h', runL (g2 L) 100 12 false (some .boolean) kc_law 18 [.ref 1, .ref 2, .ref 253, .int (nI (6 * n))] [] h = some (some (.int (nI 1)), h') := by
        intro pc e1 ⟨h2, e2, e3⟩
        obtain ⟨h', e4⟩ := ih (n + 1) h2 (by omega) (by omega) e3
        refine ⟨h', ?_⟩
        rw [e1, e2, el_1243, nI_plus, show 6 * n + 6 = 6 * (n + 1) by omega]
        exact e4
      by_cases c0 : (hI h 1 (ix (nI (6 * n))) &&& nI 63) = nI 0
      · rw [if_pos c0] at s0
        exact on 180 s0 (ca_180 hE hI0 (by omega) (by omega) hL)
      rw [if_neg c0] at s0
      by_cases c1 : (hI h 1 (ix (nI (6 * n))) &&& nI 63) = nI 1
      · rw [if_pos c1] at s0
        exact on 203 s0 (ca_203 hE hI0 (by omega) (by omega) hL)
      rw [if_neg c1] at s0
      by_cases c2 : (hI h 1 (ix (nI (6 * n))) &&& nI 63) = nI 2
      · rw [if_pos c2] at s0
        exact on 272 s0 (ca_272 hE hI0 (by omega) (by omega) hL)
      rw [if_neg c2] at s0
      by_cases c3 : (hI h 1 (ix (nI (6 * n))) &&& nI 63) = nI 3
      · rw [if_pos c3] at s0
        exact on 315 s0 (ca_315 hE hI0 (by omega) (by omega) hL)
      rw [if_neg c3] at s0
      by_cases c4 : (hI h 1 (ix (nI (6 * n))) &&& nI 63) = nI 4
      · rw [if_pos c4] at s0
        exact on 348 s0 (ca_348 hE hI0 (by omega) (by omega) hL)
      rw [if_neg c4] at s0
      by_cases c5 : (hI h 1 (ix (nI (6 * n))) &&& nI 63) = nI 5
      · rw [if_pos c5] at s0
        exact on 381 s0 (ca_381 hE hI0 (by omega) (by omega) hL)
      rw [if_neg c5] at s0
      by_cases c6 : (hI h 1 (ix (nI (6 * n))) &&& nI 63) = nI 6
      · rw [if_pos c6] at s0
        exact on 430 s0 (ca_430 hE hI0 (by omega) (by omega) hL)
      rw [if_neg c6] at s0
      by_cases c7 : (hI h 1 (ix (nI (6 * n))) &&& nI 63) = nI 7
      · rw [if_pos c7] at s0
        exact on 479 s0 (ca_479 hE hI0 (by omega) (by omega) hL)
      rw [if_neg c7] at s0
      by_cases c8 : (hI h 1 (ix (nI (6 * n))) &&& nI 63) = nI 8
      · rw [if_pos c8] at s0
        exact on 518 s0 (ca_518 hE hI0 (by omega) (by omega) hL)
      rw [if_neg c8] at s0
      by_cases c9 : (hI h 1 (ix (nI (6 * n))) &&& nI 63) = nI 9
      · rw [if_pos c9] at s0
        exact on 541 s0 (ca_541 hE hI0 (by omega) (by omega) hL)
      rw [if_neg c9] at s0
      by_cases c10 : (hI h 1 (ix (nI (6 * n))) &&& nI 63) = nI 10
      · rw [if_pos c10] at s0
        exact on 564 s0 (ca_564 hE hI0 (by omega) (by omega) hL)
      rw [if_neg c10] at s0
      by_cases c11 : (hI h 1 (ix (nI (6 * n))) &&& nI 63) = nI 11
      · rw [if_pos c11] at s0
        exact on 597 s0 (ca_597 hE hI0 (by omega) (by omega) hL)
      rw [if_neg c11] at s0
      by_cases c12 : (hI h 1 (ix (nI (6 * n))) &&& nI 63) = nI 12
      · rw [if_pos c12] at s0
        exact on 630 s0 (ca_630 hE hI0 (by omega) (by omega) hL)
      rw [if_neg c12] at s0
      by_cases c13 : (hI h 1 (ix (nI (6 * n))) &&& nI 63) = nI 13
      · rw [if_pos c13] at s0
        exact on 643 s0 (ca_643 hE hI0 (by omega) (by omega) hL)
      rw [if_neg c13] at s0
      by_cases c14 : (hI h 1 (ix (nI (6 * n))) &&& nI 63) = nI 14
      · rw [if_pos c14] at s0
        exact on 666 s0 (ca_666 hE hI0 (by omega) (by omega) hL)
      rw [if_neg c14] at s0
      by_cases c15 : (hI h 1 (ix (nI (6 * n))) &&& nI 63) = nI 15
      · rw [if_pos c15] at s0
        exact on 709 s0 (ca_709 hE hI0 (by omega) (by omega) hL)
      rw [if_neg c15] at s0
      by_cases c16 : (hI h 1 (ix (nI (6 * n))) &&& nI 63) = nI 16
      · rw [if_pos c16] at s0
        exact on 732 s0 (ca_732 hE hI0 (by omega) (by omega) hL)
      rw [if_neg c16] at s0
      by_cases c17 : (hI h 1 (ix (nI (6 * n))) &&& nI 63) = nI 17
      · rw [if_pos c17] at s0
        exact on 775 s0 (ca_775 hE hI0 (by omega) (by omega) hL)
      rw [if_neg c17] at s0
      by_cases c18 : (hI h 1 (ix (nI (6 * n))) &&& nI 63) = nI 18
      · rw [if_pos c18] at s0
        exact on 808 s0 (ca_808 hE hI0 (by omega) (by omega) hL)
      rw [if_neg c18] at s0
      by_cases c19 : (hI h 1 (ix (nI (6 * n))) &&& nI 63) = nI 19
      · rw [if_pos c19] at s0
        exact on 841 s0 (ca_841 hE hI0 (by omega) (by omega) hL)
      rw [if_neg c19] at s0
      by_cases c20 : (hI h 1 (ix (nI (6 * n))) &&& nI 63) = nI 20
      · rw [if_pos c20] at s0
        exact on 904 s0 (ca_904 hE hI0 (by omega) (by omega) hL)
      rw [if_neg c20] at s0
      by_cases c21 : (hI h 1 (ix (nI (6 * n))) &&& nI 63) = nI 21
      · rw [if_pos c21] at s0
        exact on 927 s0 (ca_927 hE hI0 (by omega) (by omega) hL)
      rw [if_neg c21] at s0
      by_cases c22 : (hI h 1 (ix (nI (6 * n))) &&& nI 63) = nI 22
      · rw [if_pos c22] at s0
        exact on 940 s0 (ca_940 hE hI0 (by omega) (by omega) hL)
      rw [if_neg c22] at s0
      by_cases c23 : (hI h 1 (ix (nI (6 * n))) &&& nI 63) = nI 23
      · rw [if_pos c23] at s0
        exact on 963 s0 (ca_963 hE hI0 (by omega) (by omega) hL)
      rw [if_neg c23] at s0
      by_cases c24 : (hI h 1 (ix (nI (6 * n))) &&& nI 63) = nI 24
      · rw [if_pos c24] at s0
        exact on 986 s0 (ca_986 hE hI0 (by omega) (by omega) hL)
      rw [if_neg c24] at s0
      by_cases c25 : (hI h 1 (ix (nI (6 * n))) &&& nI 63) = nI 25
      · rw [if_pos c25] at s0
        exact on 1019 s0 (ca_1019 hE hI0 (by omega) (by omega) hL)
      rw [if_neg c25] at s0
      by_cases c26 : (hI h 1 (ix (nI (6 * n))) &&& nI 63) = nI 26
      · rw [if_pos c26] at s0
        exact on 1052 s0 (ca_1052 hE hI0 (by omega) (by omega) hL)
      rw [if_neg c26] at s0
      by_cases c27 : (hI h 1 (ix (nI (6 * n))) &&& nI 63) = nI 27
      · rw [if_pos c27] at s0
        exact on 1085 s0 (ca_1085 hE hI0 (by omega) (by omega) hL)
      rw [if_neg c27] at s0
      by_cases c28 : (hI h 1 (ix (nI (6 * n))) &&& nI 63) = nI 28
      · rw [if_pos c28] at s0
        exact on 1128 s0 (ca_1128 hE hI0 (by omega) (by omega) hL)
      rw [if_neg c28] at s0
      by_cases c29 : (hI h 1 (ix (nI (6 * n))) &&& nI 63) = nI 29
      · rw [if_pos c29] at s0
        exact on 1161 s0 (ca_1161 hE hI0 (by omega) (by omega) hL)
      rw [if_neg c29] at s0
      by_cases c30 : (hI h 1 (ix (nI (6 * n))) &&& nI 63) = nI 30
      · rw [if_pos c30] at s0
        exact on 1194 s0 (ca_1194 hE hI0 (by omega) (by omega) hL)
      rw [if_neg c30] at s0
      by_cases c31 : (hI h 1 (ix (nI (6 * n))) &&& nI 63) = nI 31
      · rw [if_pos c31] at s0
        exact on 1207 s0 (ca_1207 hE hI0 (by omega) (by omega) hL)
      rw [if_neg c31] at s0
      by_cases c32 : (hI h 1 (ix (nI (6 * n))) &&& nI 63) = nI 32
      · rw [if_pos c32] at s0
        exact on 1220 s0 (ca_1220 hE hI0 (by omega) (by omega) hL)
      rw [if_neg c32] at s0
      obtain ⟨A, B, hC, hr⟩ := hI0
      exact on 1243 s0 ⟨h, rfl, A, B, hC.mono (Nat.le_succ _), hr⟩
end Law
