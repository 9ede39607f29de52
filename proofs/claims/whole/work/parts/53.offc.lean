/-! ===== official: what the house does with one pool ===== -/
theorem sI_self {M : Mm} {s i k : Nat} {v : Int32} (h : mI M s i k = v) : sI M s i k v = M := by
  subst h
  refine Prod.ext ?_ rfl
  funext s' i' k'
  show (if s' = s ∧ i' = i ∧ k' = k then M.1 s i k else M.1 s' i' k') = M.1 s' i' k'
  by_cases h : s' = s ∧ i' = i ∧ k' = k
  · rw [if_pos h]; obtain ⟨rfl, rfl, rfl⟩ := h; rfl
  · rw [if_neg h]
theorem sJ_self {M : Mm} {s i k : Nat} {v : Int64} (h : mJ M s i k = v) : sJ M s i k v = M := by
  subst h
  refine Prod.ext rfl (Prod.ext ?_ rfl)
  funext s' i' k'
  show (if s' = s ∧ i' = i ∧ k' = k then M.2.1 s i k else M.2.1 s' i' k') = M.2.1 s' i' k'
  by_cases h : s' = s ∧ i' = i ∧ k' = k
  · rw [if_pos h]; obtain ⟨rfl, rfl, rfl⟩ := h; rfl
  · rw [if_neg h]
theorem sI_sI {M : Mm} {s i k : Nat} {v w : Int32} : sI (sI M s i k v) s i k w = sI M s i k w := by
  refine Prod.ext ?_ rfl
  funext s' i' k'
  show (if s' = s ∧ i' = i ∧ k' = k then w else (if s' = s ∧ i' = i ∧ k' = k then v else M.1 s' i' k')) = if s' = s ∧ i' = i ∧ k' = k then w else M.1 s' i' k'
  by_cases h : s' = s ∧ i' = i ∧ k' = k
  · rw [if_pos h, if_pos h]
  · rw [if_neg h, if_neg h, if_neg h]
theorem sJ_sJ {M : Mm} {s i k : Nat} {v w : Int64} : sJ (sJ M s i k v) s i k w = sJ M s i k w := by
  refine Prod.ext rfl (Prod.ext ?_ rfl)
  funext s' i' k'
  show (if s' = s ∧ i' = i ∧ k' = k then w else (if s' = s ∧ i' = i ∧ k' = k then v else M.2.1 s' i' k')) = if s' = s ∧ i' = i ∧ k' = k then w else M.2.1 s' i' k'
  by_cases h : s' = s ∧ i' = i ∧ k' = k
  · rw [if_pos h, if_pos h]
  · rw [if_neg h, if_neg h, if_neg h]
/-- a pool's fields, written one by one -/
theorem RCx_J {EE : Nat → Prop} {S : SV} {C : Mm} {p k row v : Nat} (h : RCx EE S C) (hk : (k = 10 ∧ row = 19) ∨ (k = 11 ∧ row = 20) ∨ (k = 12 ∧ row = 21) ∨ (k = 13 ∧ row = 22) ∨ (k = 15 ∧ row = 23)) : RCx (fun _ => True) (up S row p v) (sJ C 7 p k (lN v)) := by
  obtain ⟨h1, h2, h3, h4, h5⟩ := h
  have key : ∀ q kk rr, mJ C 7 q kk = lN (S rr q) → (kk = k ↔ rr = row) → mJ (sJ C 7 p k (lN v)) 7 q kk = lN (up S row p v rr q) := fun q kk rr e hkr => by
    rw [rd_J]
    by_cases c : q = p ∧ kk = k
    · obtain ⟨rfl, c2⟩ := c
      have := hkr.mp c2
      subst c2 this
      rw [if_pos ⟨rfl, rfl, rfl⟩, up_s]
    · rw [if_neg (fun z => c z.2), up_n (fun z => c ⟨z.2, hkr.mpr z.1⟩)]
      exact e
  have ne : row ≠ 0 ∧ row ≠ 10 ∧ row ≠ 11 ∧ row ≠ 12 ∧ row ≠ 13 ∧ row ≠ 14 ∧ row ≠ 15 ∧ row ≠ 16 ∧ row ≠ 17 ∧ row ≠ 18 ∧ row ≠ 26 ∧ row ≠ 27 ∧ row ≠ 28 ∧ row ≠ 29 ∧ row ≠ 30 := by omega
  obtain ⟨a0, a10, a11, a12, a13, a14, a15, a16, a17, a18, a26, a27, a28, a29, a30⟩ := ne
  have er : ∀ s, s ≠ row → up S row p v s = S s := fun s hs => funext (fun i => up_n (fun z => hs z.1))
  have e0 := er 0 (Ne.symm a0)
  have e10 := er 10 (Ne.symm a10)
  have e11 := er 11 (Ne.symm a11)
  have e12 := er 12 (Ne.symm a12)
  have e13 := er 13 (Ne.symm a13)
  have e14 := er 14 (Ne.symm a14)
  have e15 := er 15 (Ne.symm a15)
  have e16 := er 16 (Ne.symm a16)
  have e17 := er 17 (Ne.symm a17)
  have e18 := er 18 (Ne.symm a18)
  have e26 := er 26 (Ne.symm a26)
  have e27 := er 27 (Ne.symm a27)
  have e28 := er 28 (Ne.symm a28)
  have e29 := er 29 (Ne.symm a29)
  have e30 := er 30 (Ne.symm a30)
  refine ⟨?_, fun r hr => ?_, fun q hq => ⟨?_, trivial⟩, fun t ht => ?_, ?_⟩
  · unfold RCh; rw [e0, e15, e10]; exact h1
  · rw [e10] at hr
    unfold RCr rng; rw [e10, e11, e12, e13, e14, e15]; exact h2 r hr
  · rw [e15] at hq
    obtain ⟨⟨r1, r2, r3, r4, r5, r6, r7, r8, r9, r10, r11, r12, r13, r14, r15⟩, -⟩ := h3 q hq
    refine ⟨r1, ?_, ?_, ?_, ?_, ?_, ?_, ?_, ?_, ?_, ?_, ?_, ?_, ?_, ?_⟩
    · unfold ro; rw [e0]; exact r2
    · unfold ro; rw [e0]; exact r3
    · rw [e16]; exact r4
    · rw [e17]; exact r5
    · rw [e27, e0]; exact r6
    · rw [e18]; exact r7
    · rw [e26]; exact r8
    · exact key q 10 19 r9 (by omega)
    · exact key q 11 20 r10 (by omega)
    · exact key q 12 21 r11 (by omega)
    · exact key q 13 22 r12 (by omega)
    · exact key q 14 24 r13 (by omega)
    · exact key q 15 23 r14 (by omega)
    · exact key q 16 25 r15 (by omega)
  · rw [e0] at ht
    unfold RCt; rw [e27, e28, e29, e30]; exact h4 t ht
  · unfold RCa; rw [e10, e15, e0]; exact h5
theorem RCx_8 {EE : Nat → Prop} {S : SV} {C : Mm} {p k : Nat} {v : Int64} (h : RCx EE S C) (hk : k = 8 ∨ k = 9) : RCx (fun _ => True) S (sJ C 7 p k v) := by
  obtain ⟨h1, h2, h3, h4, h5⟩ := h
  refine ⟨h1, h2, fun q hq => ⟨?_, trivial⟩, h4, h5⟩
  obtain ⟨⟨r1, r2, r3, r4, r5, r6, r7, r8, r9, r10, r11, r12, r13, r14, r15⟩, -⟩ := h3 q hq
  refine ⟨r1, r2, r3, r4, r5, r6, r7, r8, ?_, ?_, ?_, ?_, ?_, ?_, ?_⟩
  · rw [rd_J, if_neg (by omega)]; exact r9
  · rw [rd_J, if_neg (by omega)]; exact r10
  · rw [rd_J, if_neg (by omega)]; exact r11
  · rw [rd_J, if_neg (by omega)]; exact r12
  · rw [rd_J, if_neg (by omega)]; exact r13
  · rw [rd_J, if_neg (by omega)]; exact r14
  · rw [rd_J, if_neg (by omega)]; exact r15
theorem RCx_I {EE : Nat → Prop} {S : SV} {C : Mm} {p k row v : Nat} (h : RCx EE S C) (hk : (k = 6 ∧ row = 18) ∨ (k = 7 ∧ row = 26)) : RCx (fun _ => True) (up S row p v) (sI C 7 p k (nI v)) := by
  obtain ⟨h1, h2, h3, h4, h5⟩ := h
  rcases hk with ⟨rfl, rfl⟩ | ⟨rfl, rfl⟩
  · refine ⟨h1, h2, fun q hq => ⟨?_, trivial⟩, h4, h5⟩
    obtain ⟨⟨r1, r2, r3, r4, r5, r6, r7, r8, r9, r10, r11, r12, r13, r14, r15⟩, -⟩ := h3 q hq
    refine ⟨?_, r2, r3, ?_, ?_, r6, ?_, ?_, r9, r10, r11, r12, r13, r14, r15⟩
    · rw [rd_I, if_neg (by omega)]; exact r1
    · rw [rd_I, if_neg (by omega)]; exact r4
    · rw [rd_I, if_neg (by omega)]; exact r5
    · rw [rd_I]
      by_cases e : q = p
      · rw [if_pos ⟨rfl, e, rfl⟩, e, up_s]
      · rw [if_neg (fun z => e z.2.1), up_n (fun z => e z.2)]; exact r7
    · rw [rd_I, if_neg (by omega)]; exact r8
  · refine ⟨h1, h2, fun q hq => ⟨?_, trivial⟩, h4, h5⟩
    obtain ⟨⟨r1, r2, r3, r4, r5, r6, r7, r8, r9, r10, r11, r12, r13, r14, r15⟩, -⟩ := h3 q hq
    refine ⟨?_, r2, r3, ?_, ?_, r6, ?_, ?_, r9, r10, r11, r12, r13, r14, r15⟩
    · rw [rd_I, if_neg (by omega)]; exact r1
    · rw [rd_I, if_neg (by omega)]; exact r4
    · rw [rd_I, if_neg (by omega)]; exact r5
    · rw [rd_I, if_neg (by omega)]; exact r7
    · rw [rd_I]
      by_cases e : q = p
      · rw [if_pos ⟨rfl, e, rfl⟩, e, up_s]
      · rw [if_neg (fun z => e z.2.1), up_n (fun z => e z.2)]; exact r8
/-- the house's memory while it looks for winners -/
abbrev WM (C : Mm) (p k w : Nat) : Mm := sI (sJ C 7 p 8 (lN w)) 7 p 7 (nI k)
theorem RCx_WM {EE : Nat → Prop} {S : SV} {C : Mm} {p k w : Nat} (h : RCx EE S C) : RCx (fun _ => True) (up S 26 p k) (WM C p k w) := RCx_I (RCx_8 h (Or.inl rfl)) (Or.inr ⟨rfl, rfl⟩)
theorem c_isOldest {S : SV} {C : Mm} {k t p : Nat} {EE : Nat → Prop} (h : RCx EE S C) {TT : Prop} (g : GTx TT S k) (ht : t < S 0 19) (hp : S 27 t = p) : f_X0_isOldestOfItsNames p t C = some (b1 (frs S t)) := by
  have hT := GT_T g
  have hg := GT_t g ht
  have hpp := (h.2.2.1 p (by rw [← hp]; omega)).1
  obtain ⟨-, k1, -, k3, k4, k5, -⟩ := h.2.2.2.1 t ht
  have key : ∀ j n, j ≤ t → j < n → f_X0_isOldestOfItsNames_5 C n p t (lastT (S 27) p j) = some (b1 (sm j (fun q => if cntT S q ∧ sameTT S q t then 1 else 0) = 0)) := by
    intro j
    induction j with
    | zero =>
      intro n h1 h2
      obtain ⟨n', rfl⟩ : ∃ n', n = n' + 1 := ⟨n - 1, by omega⟩
      rw [f_X0_isOldestOfItsNames_5]
      exact congrArg some (b1_t rfl).symm
    | succ j ih =>
      intro n h1 h2
      have hj : j < S 0 19 := by omega
      have skip : ¬ (cntT S j ∧ sameTT S j t) → (sm j (fun q => if cntT S q ∧ sameTT S q t then 1 else 0) = 0 ↔ sm (j + 1) (fun q => if cntT S q ∧ sameTT S q t then 1 else 0) = 0) := fun hne => by
        have e : sm (j + 1) (fun q => if cntT S q ∧ sameTT S q t then 1 else 0) = sm j (fun q => if cntT S q ∧ sameTT S q t then 1 else 0) := by
          show _ + (if cntT S j ∧ sameTT S j t then 1 else 0) = _
          rw [if_neg hne, Nat.add_zero]
        exact ⟨fun z => e.trans z, fun z => e.symm.trans z⟩
      by_cases q : S 27 j = p
      · obtain ⟨n', rfl⟩ : ∃ n', n = n' + 1 := ⟨n - 1, by omega⟩
        have hcj := h.2.2.2.1 j hj
        rw [c_chain q, f_X0_isOldestOfItsNames_5, on_s, c_isLive hcj (GT_t g hj).2.2.2, k3, k4, k5, c_isNamed hcj hpp q]
        simp only [ob_s, b1_if]
        rw [show mR C 8 j 1 = lastT (S 27) p j from by rw [hcj.2.1, q]]
        have es : sameT S j p (nI (S 28 (3 * t))) (nI (S 28 (3 * t + 1))) (nI (S 28 (3 * t + 2))) ↔ sameTT S j t := by
          unfold sameTT
          rw [hp]
        by_cases q1 : cntT S j
        · rw [if_pos q1]
          by_cases q2 : sameTT S j t
          · rw [if_pos (es.mpr q2)]
            refine congrArg some (b1_f (fun z => ?_)).symm
            simp only [sm] at z
            rw [if_pos ⟨q1, q2⟩] at z
            omega
          · rw [if_neg (fun z => q2 (es.mp z)), ih n' (by omega) (by omega)]
            exact congrArg some (b1_congr (skip (fun z => q2 z.2)))
        · rw [if_neg q1, ih n' (by omega) (by omega)]
          exact congrArg some (b1_congr (skip (fun z => q1 z.1)))
      · rw [c_chainN q, ih n (by omega) (by omega)]
        exact congrArg some (b1_congr (skip (fun z => q (z.2.1.trans hp))))
  have k1' : mR C 8 t 1 = lastT (S 27) p t := by rw [k1, hp]
  unfold f_X0_isOldestOfItsNames
  rw [k1']
  exact key t FU (Nat.le_refl _) (by show t < 1000; omega)
theorem c_findL {S : SV} {C : Mm} {k p : Nat} {EE : Nat → Prop} (h : RCx EE S C) (g1 : GA S) {DD : Nat → Prop} {ZZ : Prop} (g2 : GPx DD ZZ S) {TT : Prop} (g : GTx TT S k) (hp : S 15 p = 1) : ∀ j n kk ww, j ≤ S 0 19 → j < n → f_X0_findWinners_5 n p (lastT (S 27) p j) (WM C p kk ww) = some (WM C p (kk + wkn S p j) (ww + wun S p j)) := by
  have hT := GT_T g
  intro j
  induction j with
  | zero =>
    intro n kk ww h1 h2
    obtain ⟨n', rfl⟩ : ∃ n', n = n' + 1 := ⟨n - 1, by omega⟩
    rw [f_X0_findWinners_5]
    rfl
  | succ j ih =>
    intro n kk ww h1 h2
    have hj : j < S 0 19 := by omega
    have e1 : wkn S p (j + 1) = wkn S p j + (if win S p j ∧ frs S j then 1 else 0) := rfl
    have e2 : wun S p (j + 1) = wun S p j + (if win S p j then S 29 j else 0) := rfl
    have skip : ¬ win S p j → ∀ n, j < n → f_X0_findWinners_5 n p (lastT (S 27) p j) (WM C p kk ww) = some (WM C p (kk + wkn S p (j + 1)) (ww + wun S p (j + 1))) := fun nw n hn => by
      rw [e1, e2, if_neg (fun z => nw z.1), if_neg nw]
      exact ih n kk ww (by omega) hn
    by_cases q : S 27 j = p
    · obtain ⟨n', rfl⟩ : ∃ n', n = n' + 1 := ⟨n - 1, by omega⟩
      have hW : RCx (fun _ => True) (up S 26 p kk) (WM C p kk ww) := RCx_WM h
      have g2w : GPx DD True (up S 26 p kk) := ⟨g2.1, g2.2.1, g2.2.2.1, g2.2.2.2.1, g2.2.2.2.2.1, trivial⟩
      have gw : GTx TT (up S 26 p kk) k := g
      have hcj := hW.2.2.2.1 j hj
      have hg := GT_t g hj
      have n1 : S 28 (3 * j) ≤ 24 := GT_n g g1 hj (j := 0) (by omega)
      have n2 : S 28 (3 * j + 1) ≤ 24 := GT_n g g1 hj (j := 1) (by omega)
      have n3 : S 28 (3 * j + 2) ≤ 24 := GT_n g g1 hj (j := 2) (by omega)
      have k1 : mR (WM C p kk ww) 8 j 1 = lastT (S 27) p j := hcj.2.1.trans (by rw [show up S 26 p kk 27 = S 27 from rfl, q])
      have k2 : mI (WM C p kk ww) 8 j 2 = nI (S 29 j) := hcj.2.2.1
      have k3 : mI (WM C p kk ww) 8 j 3 = nI (S 28 (3 * j)) := hcj.2.2.2.1
      have k4 : mI (WM C p kk ww) 8 j 4 = nI (S 28 (3 * j + 1)) := hcj.2.2.2.2.1
      have k5 : mI (WM C p kk ww) 8 j 5 = nI (S 28 (3 * j + 2)) := hcj.2.2.2.2.2.1
      have ewn : wns (up S 26 p kk) p (S 28 (3 * j)) (S 28 (3 * j + 1)) (S 28 (3 * j + 2)) ↔ wnT S j := by
        show wns S p (S 28 (3 * j)) (S 28 (3 * j + 1)) (S 28 (3 * j + 2)) ↔ wns S (S 27 j) (S 28 (3 * j)) (S 28 (3 * j + 1)) (S 28 (3 * j + 2))
        rw [q]
      rw [c_chain q, f_X0_findWinners_5, on_s, c_isLive hcj hg.2.2.2, k1, k2, k3, k4, k5, c_isWon hW g1 g2w hp (by omega) (fun _ => by omega) (fun _ => by omega)]
      simp only [ob_s, b1_if, lt_e]
      by_cases q1 : cntT S j
      · rw [if_pos (c := cntT (up S 26 p kk) j) q1]
        by_cases q2 : wnT S j
        · have hw : win S p j := ⟨q, q1, q2⟩
          have e8 : mJ (WM C p kk ww) 7 p 8 = lN ww := by rw [rd_JI, rd_J, if_pos ⟨rfl, rfl, rfl⟩]
          have eM : sJ (WM C p kk ww) 7 p 8 (lN ww + (nI (S 29 j)).toInt64) = WM C p kk (ww + S 29 j) := by
            rw [nI_i2l (by omega), lN_add]
            show sI (sJ (sJ C 7 p 8 (lN ww)) 7 p 8 (lN (ww + S 29 j))) 7 p 7 (nI kk) = _
            rw [sJ_sJ]
          have hW2 : RCx (fun _ => True) (up S 26 p kk) (WM C p kk (ww + S 29 j)) := RCx_WM h
          have k1' : ∀ kk ww, mR (WM C p kk ww) 8 j 1 = lastT (S 27) p j := fun kk ww => k1
          rw [if_pos (ewn.mpr q2), e8, eM, c_isOldest hW2 gw hj q]
          simp only [ob_s, b1_if]
          rw [k1']
          have e7 : mI (WM C p kk (ww + S 29 j)) 7 p 7 = nI kk := by rw [rd_I, if_pos ⟨rfl, rfl, rfl⟩]
          by_cases q3 : frs S j
          · rw [if_pos (c := frs (up S 26 p kk) j) q3, e7, nI_1, sI_sI]
            have := ih n' (kk + 1) (ww + S 29 j) (by omega) (by omega)
            have k1'' : mR (sI (sJ C 7 p 8 (lN (ww + S 29 j))) 7 p 7 (nI (kk + 1))) 8 j 1 = lastT (S 27) p j := k1
            rw [k1'', this, e1, e2, if_pos (c := win S p j ∧ frs S j) ⟨hw, q3⟩, if_pos hw]
            exact congrArg some (congr (congrArg (WM C p) (by omega)) (by omega))
          · rw [if_neg (c := frs (up S 26 p kk) j) q3, ih n' kk (ww + S 29 j) (by omega) (by omega), e1, e2, if_neg (c := win S p j ∧ frs S j) (fun z => q3 z.2), if_pos hw]
            exact congrArg some (congr (congrArg (WM C p) (by omega)) (by omega))
        · rw [if_neg (fun z => q2 (ewn.mp z))]
          exact skip (fun z => q2 z.2.2) n' (by omega)
      · rw [if_neg (c := cntT (up S 26 p kk) j) q1]
        exact skip (fun z => q1 z.2.1) n' (by omega)
    · rw [c_chainN q]
      exact skip (fun z => q z.1) n (by omega)
theorem c_findWinners {S : SV} {C : Mm} {k p : Nat} {EE : Nat → Prop} (h : RCx EE S C) (g1 : GA S) {DD : Nat → Prop} {ZZ : Prop} (g2 : GPx DD ZZ S) {TT : Prop} (g : GTx TT S k) (hp : S 15 p = 1) (h26 : S 26 p = 0) (h8 : mJ C 7 p 8 = 0) : f_X0_findWinners p C = some (WM C p (wk S p) (wu S p)) := by
  have hT := GT_T g
  have hpp := (h.2.2.1 p (by omega)).1
  have e : WM C p 0 0 = C := by
    have h7 : mI C 7 p 7 = nI 0 := by rw [hpp.2.2.2.2.2.2.2.1, h26]
    have e1 : sJ C 7 p 8 (lN 0) = C := sJ_self h8
    show sI (sJ C 7 p 8 (lN 0)) 7 p 7 (nI 0) = C
    rw [e1]
    exact sI_self h7
  have := c_findL h g1 g2 g hp (S 0 19) FU 0 0 (Nat.le_refl _) (by show S 0 19 < 1000; omega)
  unfold f_X0_findWinners
  rw [hpp.2.2.2.2.2.1]
  rw [e, Nat.zero_add, Nat.zero_add] at this
  exact this
theorem c_due {S : SV} {C : Mm} {k p : Nat} {V : Nat → Nat} {EE : Nat → Prop} (h : RCx EE S C) (g1 : GA S) {DD : Nat → Prop} {ZZ : Prop} (g2 : GPx DD ZZ S) {TT : Prop} (g : GTx TT S k) (hp : S 15 p = 1) (hV : ∀ u, 1 ≤ u → u ≤ 512000 → f_X0_dividendOn p (lN u) C = some (lN (V u))) : f_X0_dueToWinners p C = some (lN (sm (S 0 19) (fun t => if win S p t then S 29 t * V (uoT S t) else 0))) := by
  have hT := GT_T g
  have hpp := (h.2.2.1 p (by omega)).1
  have key : ∀ j n acc, j ≤ S 0 19 → j < n → f_X0_dueToWinners_7 C n p (lN acc) (lastT (S 27) p j) = some (lN (acc + sm j (fun t => if win S p t then S 29 t * V (uoT S t) else 0))) := by
    intro j
    induction j with
    | zero =>
      intro n acc h1 h2
      obtain ⟨n', rfl⟩ : ∃ n', n = n' + 1 := ⟨n - 1, by omega⟩
      rw [f_X0_dueToWinners_7]
      rfl
    | succ j ih =>
      intro n acc h1 h2
      have hj : j < S 0 19 := by omega
      simp only [sm]
      have skip : ¬ win S p j → ∀ n, j < n → f_X0_dueToWinners_7 C n p (lN acc) (lastT (S 27) p j) = some (lN (acc + (sm j (fun t => if win S p t then S 29 t * V (uoT S t) else 0) + (if win S p j then S 29 j * V (uoT S j) else 0)))) := fun nw n hn => by
        rw [if_neg nw, Nat.add_zero]
        exact ih n acc (by omega) hn
      by_cases q : S 27 j = p
      · obtain ⟨n', rfl⟩ : ∃ n', n = n' + 1 := ⟨n - 1, by omega⟩
        have hcj := h.2.2.2.1 j hj
        have hg := GT_t g hj
        have n1 : S 28 (3 * j) ≤ 24 := GT_n g g1 hj (j := 0) (by omega)
        have n2 : S 28 (3 * j + 1) ≤ 24 := GT_n g g1 hj (j := 1) (by omega)
        have n3 : S 28 (3 * j + 2) ≤ 24 := GT_n g g1 hj (j := 2) (by omega)
        have ewn : wns S p (S 28 (3 * j)) (S 28 (3 * j + 1)) (S 28 (3 * j + 2)) ↔ wnT S j := by
          show wns S p (S 28 (3 * j)) (S 28 (3 * j + 1)) (S 28 (3 * j + 2)) ↔ wns S (S 27 j) (S 28 (3 * j)) (S 28 (3 * j + 1)) (S 28 (3 * j + 2))
          rw [q]
        rw [c_chain q, f_X0_dueToWinners_7, on_s, c_isLive hcj hg.2.2.2, hcj.2.2.1, hcj.2.2.2.1, hcj.2.2.2.2.1, hcj.2.2.2.2.2.1, c_isWon h g1 g2 hp (by omega) (fun _ => by omega) (fun _ => by omega), c_unitsOn h g hp]
        simp only [ob_s, b1_if, lt_e]
        rw [show mR C 8 j 1 = lastT (S 27) p j from by rw [hcj.2.1, q]]
        by_cases q1 : cntT S j
        · rw [if_pos q1]
          by_cases q2 : wnT S j
          · have hw : win S p j := ⟨q, q1, q2⟩
            have eu : uo S p (nI (S 28 (3 * j))) (nI (S 28 (3 * j + 1))) (nI (S 28 (3 * j + 2))) = uoT S j := by unfold uoT; rw [q]
            have u1 : 1 ≤ uoT S j := uo_pos hj hg.2.1 q1 same_self
            rw [if_pos (ewn.mpr q2), eu, hV _ u1 (uo_le g _ _ _ _)]
            simp only [ob_s]
            rw [nI_i2l (by omega), lN_mul, lN_add, ih n' _ (by omega) (by omega), if_pos hw]
            exact congrArg (fun v => some (lN v)) (by omega)
          · rw [if_neg (fun z => q2 (ewn.mp z))]
            exact skip (fun z => q2 z.2.2) n' (by omega)
        · rw [if_neg q1]
          exact skip (fun z => q1 z.2.1) n' (by omega)
      · rw [c_chainN q]
        exact skip (fun z => q z.1) n (by omega)
  unfold f_X0_dueToWinners
  rw [hpp.2.2.2.2.2.1]
  have := key (S 0 19) FU 0 (Nat.le_refl _) (by show S 0 19 < 1000; omega)
  rw [Nat.zero_add] at this
  exact this
