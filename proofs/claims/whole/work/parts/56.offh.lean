/-! ===== official: the house settles a pool ===== -/
theorem stl_up26 {S : SV} {p v : Nat} (h : Z0 S p) : up S 26 p v = stl S p 0 v 0 0 0 0 0 (S 31) := by
  have := congrArg (fun X => up X 26 p v) (stl_z h)
  exact this.trans stl_26
theorem WM_0 {S : SV} {C : Mm} {p : Nat} {EE : Nat → Prop} (h : RCx EE S C) (hp : S 15 p = 1) (h26 : S 26 p = 0) (h8 : mJ C 7 p 8 = 0) : WM C p 0 0 = C := by
  have hpp := (h.2.2.1 p (by omega)).1
  have h7 : mI C 7 p 7 = nI 0 := by rw [hpp.2.2.2.2.2.2.2.1, h26]
  have e1 : sJ C 7 p 8 (lN 0) = C := sJ_self h8
  show sI (sJ C 7 p 8 (lN 0)) 7 p 7 (nI 0) = C
  rw [e1]
  exact sI_self h7
theorem c_vd {S : SV} {C : Mm} {k p : Nat} (h : RC S C) (g1 : GA S) (g2 : GQ S) (g : GT S k) (hp : S 15 p = 1) (hu : S 18 p = 0) (h3 : kd p ≠ 3) (hk : wk S p = 0) : ∃ C', f_X0_settle p C = some C' ∧ RC (vdS S p) C' ∧ mJ C' 7 p 15 = 0 := by
  have hT := GT_T g
  have kl := kd_le p
  have hz := Z0_of g2 hu
  have hpp := (h.2.2.1 p (by omega)).1
  have h8 : mJ C 7 p 8 = 0 := (h.2.2.1 p (by omega)).2.1 hu
  have e7 : mI C 7 p 7 = nI 0 := by rw [hpp.2.2.2.2.2.2.2.1, hz.2.1]
  unfold f_X0_settle
  rw [c_findWinners h g1 g2 g hp hz.2.1 h8, hk, wu_0 g1 g hk, WM_0 h hp hz.2.1 h8, ob_s, e7, if_pos (show nI 0 = 0 from rfl), hpp.1, if_neg (fun z => h3 ((nI_3e (by omega)).mp z))]
  unfold f_X0_refundAll
  rw [hpp.2.2.2.2.2.1]
  have h0 : RC (vdt S p (PP S (fun _ => false) p (S 0 19))) C := by
    rw [vdt_0 (fun t z => by
      rcases PP_iff.mp z.1 with w | w
      · cases w
      · omega)]
    exact h
  obtain ⟨C1, x1, x2, x3⟩ := c_vdL g hu (S 0 19) FU C (Nat.le_refl _) (by show S 0 19 < 1000; omega) h0
  rw [x1]
  refine ⟨_, rfl, RC_vd x2, ?_⟩
  show mJ C1 7 p 15 = 0
  rw [x3, hpp.2.2.2.2.2.2.2.2.2.2.2.2.2.1, hz.2.2.2.2.2.2]
  rfl
theorem L_lt0 {a b : Nat} (ha : a < 2 ^ 62) (hb : b < 2 ^ 62) : (if lN a - lN b < (0 : Int64) then (0 : Int64) else lN a - lN b) = lN (a - b) := by
  by_cases q : b ≤ a
  · rw [L_sub q, if_neg]
    intro z
    rw [Int64.lt_iff_toInt_lt, L_i (by omega)] at z
    have e : (0 : Int64).toInt = 0 := rfl
    omega
  · have e0 : a - b = 0 := by omega
    rw [e0, if_pos]
    · rfl
    · have e : lN a - lN b = - lN (b - a) := by
        rw [← L_sub (by omega), Int64.neg_sub]
      rw [e, Int64.lt_iff_toInt_lt, Int64.toInt_neg, L_i (by omega)]
      have e : (0 : Int64).toInt = 0 := rfl
      rw [e]
      have : ((- ((b - a : Nat) : Int)).bmod (2 ^ 64)) = - ((b - a : Nat) : Int) := by
        rw [Int.bmod_eq_of_le (by omega) (by omega)]
      rw [this]
      omega
/-- what both ends have ahead of them -/
theorem c_29 {S : SV} {C : Mm} {k p : Nat} (h : RC S C) (g1 : GA S) (g2 : GQ S) (g : GT S k) (hp : S 15 p = 1) (hu : S 18 p = 0) (h3 : kd p = 3 ∨ wk S p ≠ 0) (hN : net S p < 2 ^ 50) : ∃ M3, f_X0_settle p C = (if wk S p = 0 then some (sJ M3 7 p 15 (lN (net S p))) else if kd p = 1 then f_X0_settle_97 p (sJ M3 7 p 13 (lN (S 17 p * wu S p - net S p))) else f_X0_settle_97 p M3) ∧ RCx (fun _ => True) (stl S p 1 (wk S p) (ded S p) 0 0 0 0 (S 31)) M3 ∧ mJ M3 7 p 8 = lN (wu S p) ∧ mJ M3 7 p 9 = lN (net S p) ∧ (∀ q, q ≠ p → ∀ j, mJ M3 7 q j = mJ C 7 q j) := by
  have hT := GT_T g
  have kl := kd_le p
  have hz := Z0_of g2 hu
  have hwk := wk_le g p
  have hwu := wu_le g p
  obtain ⟨-, -, -, -, a5, -⟩ := g2.2.1 p hp
  have hUW : S 17 p * wu S p ≤ 1000 * 512000 := Nat.mul_le_mul a5 hwu
  have h8 : mJ C 7 p 8 = 0 := (h.2.2.1 p (by omega)).2.1 hu
  have m0 : RCx (fun _ => True) (stl S p 0 (wk S p) 0 0 0 0 0 (S 31)) (WM C p (wk S p) (wu S p)) := by
    rw [← stl_up26 hz]
    exact RCx_WM h
  have e1 : f_X0_deductionNow p (WM C p (wk S p) (wu S p)) = some (lN (ded S p)) := (c_deductionNow m0 (stl_GP g2 hp (by omega)) (show GTx _ (stl S p 0 (wk S p) 0 0 0 0 0 (S 31)) k from g) hp).trans rfl
  have m1 : RCx (fun _ => True) (stl S p 0 (wk S p) (ded S p) 0 0 0 0 (S 31)) (sJ (WM C p (wk S p) (wu S p)) 7 p 10 (lN (ded S p))) := by
    have := RCx_J (p := p) (k := 10) (row := 19) (v := ded S p) m0 (by omega)
    rw [stl_19] at this
    exact this
  have e2 : f_X0_netNow p (sJ (WM C p (wk S p) (wu S p)) 7 p 10 (lN (ded S p))) = some (lN (net S p)) := (c_netNow m1 (stl_GP g2 hp (by omega)) (show GTx _ (stl S p 0 (wk S p) (ded S p) 0 0 0 0 (S 31)) k from g) hp).trans rfl
  have m2 := RCx_8 (p := p) (k := 9) (v := lN (net S p)) m1 (Or.inr rfl)
  have m3 : RCx (fun _ => True) (stl S p 1 (wk S p) (ded S p) 0 0 0 0 (S 31)) (sI (sJ (sJ (WM C p (wk S p) (wu S p)) 7 p 10 (lN (ded S p))) 7 p 9 (lN (net S p))) 7 p 6 (nI 1)) := by
    have := RCx_I (p := p) (k := 6) (row := 18) (v := 1) m2 (by omega)
    rw [stl_18] at this
    exact this
  have w7 : mI (WM C p (wk S p) (wu S p)) 7 p 7 = nI (wk S p) := by rw [rd_I, if_pos ⟨rfl, rfl, rfl⟩]
  have w0 : mI (WM C p (wk S p) (wu S p)) 7 p 0 = nI (kd p) := (m0.2.2.1 p (by show S 15 p ≠ 0; omega)).1.1
  generalize hM : sI (sJ (sJ (WM C p (wk S p) (wu S p)) 7 p 10 (lN (ded S p))) 7 p 9 (lN (net S p))) 7 p 6 (nI 1) = M3 at m3
  have pp3 := (m3.2.2.1 p (by show S 15 p ≠ 0; omega)).1
  have k7 : mI M3 7 p 7 = nI (wk S p) := pp3.2.2.2.2.2.2.2.1.trans (congrArg nI (if_pos rfl))
  have k0 : mI M3 7 p 0 = nI (kd p) := pp3.1
  have k4 : mI M3 7 p 4 = nI (S 17 p) := pp3.2.2.2.2.1
  have k8 : mJ M3 7 p 8 = lN (wu S p) := by
    rw [← hM, rd_JI, rd_J, if_neg (by omega), rd_J, if_neg (by omega), rd_JI, rd_J, if_pos ⟨rfl, rfl, rfl⟩]
  have k9 : mJ M3 7 p 9 = lN (net S p) := by
    rw [← hM, rd_JI, rd_J, if_pos ⟨rfl, rfl, rfl⟩]
  have ko : ∀ q, q ≠ p → ∀ j, mJ M3 7 q j = mJ C 7 q j := fun q hq j => by
    rw [← hM, rd_JI, rd_J, if_neg (fun z => hq z.2.1), rd_J, if_neg (fun z => hq z.2.1), rd_JI, rd_J, if_neg (fun z => hq z.2.1)]
  have e29 : f_X0_settle_29 p (WM C p (wk S p) (wu S p)) = (if wk S p = 0 then some (sJ M3 7 p 15 (lN (net S p))) else if kd p = 1 then f_X0_settle_97 p (sJ M3 7 p 13 (lN (S 17 p * wu S p - net S p))) else f_X0_settle_97 p M3) := by
    unfold f_X0_settle_29
    rw [e1]
    simp only [ob_s, lt_e]
    rw [e2]
    simp only [ob_s]
    rw [show sI (sJ (sJ (WM C p (wk S p) (wu S p)) 7 p 10 (lN (ded S p))) 7 p 9 (lN (net S p))) 7 p 6 (1 : Int32) = M3 from hM, k7, k0, k4, k8, k9, nI_i2l (by omega), lN_mul, L_lt0 (by omega) (by omega)]
    by_cases q : wk S p = 0
    · rw [if_pos ((nI_z (by omega)).mpr q), if_pos q]
    · rw [if_neg (fun z => q ((nI_z (by omega)).mp z)), if_neg q]
      by_cases q2 : kd p = 1
      · rw [if_pos ((nI_1e (by omega)).mpr q2), if_pos q2]
      · rw [if_neg (fun z => q2 ((nI_1e (by omega)).mp z)), if_neg q2]
  refine ⟨M3, ?_, m3, k8, k9, ko⟩
  rw [← e29]
  unfold f_X0_settle
  rw [c_findWinners h g1 g2 g hp hz.2.1 h8, ob_s, w7, w0]
  by_cases q : wk S p = 0
  · rw [if_pos ((nI_z (by omega)).mpr q), if_pos ((nI_3e (by omega)).mpr (h3.resolve_right (fun z => z q)))]
  · rw [if_neg (fun z => q ((nI_z (by omega)).mp z))]
theorem c_97 {S : SV} {M : Mm} {k p e hc : Nat} (g1 : GA S) {DD : Nat → Prop} {ZZ : Prop} (g2 : GPx DD ZZ S) {TT : Prop} (g : GTx TT S k) (hp : S 15 p = 1) (hN : net S p < 2 ^ 50) (hk0 : wk S p ≠ 0) (hM : RCx (fun _ => True) (stl S p 1 (wk S p) e 0 0 hc 0 (S 31)) M) (h8 : mJ M 7 p 8 = lN (wu S p)) (h9 : mJ M 7 p 9 = lN (net S p)) (hD : dueN S p (S 0 19) ≤ net S p + hc) : ∃ M', f_X0_settle_97 p M = some M' ∧ RCx (fun _ => True) (stl S p 1 (wk S p) e (dueN S p (S 0 19)) (net S p + hc - dueN S p (S 0 19)) hc 0 (S 31)) M' ∧ mJ M' 7 p 8 = lN (wu S p) ∧ mJ M' 7 p 9 = lN (net S p) ∧ (∀ q, q ≠ p → ∀ j, mJ M' 7 q j = mJ M 7 q j) := by
  have hwk := wk_le g p
  have hwu := wu_le g p
  obtain ⟨-, -, -, -, a5, a6, -⟩ := g2.2.1 p hp
  have hpp := (hM.2.2.1 p (by show S 15 p ≠ 0; omega)).1
  have k7 : mI M 7 p 7 = nI (wk S p) := hpp.2.2.2.2.2.2.2.1.trans (congrArg nI (if_pos rfl))
  have hV : ∀ u, 1 ≤ u → u ≤ 512000 → f_X0_dividendOn p (lN u) M = some (lN ((fun u => dvd (kd p) (S 17 p) (net S p) (wk S p) (wu S p) u) u)) := fun u h1 h2 => by
    unfold f_X0_dividendOn
    have := c_from (N := net S p) (k := wk S p) (W := wu S p) (u := u) hpp a5 a6 hN (by omega) (by omega) (by omega)
    rw [h8, h9, k7, this, if_neg (by omega)]
    rfl
  have ed : f_X0_dueToWinners p M = some (lN (dueN S p (S 0 19))) := (c_due hM (show GA (stl S p 1 (wk S p) e 0 0 hc 0 (S 31)) from g1) (stl_GP g2 hp (by omega)) (show GTx TT (stl S p 1 (wk S p) e 0 0 hc 0 (S 31)) k from g) hp hV).trans rfl
  have m1 : RCx (fun _ => True) (stl S p 1 (wk S p) e (dueN S p (S 0 19)) 0 hc 0 (S 31)) (sJ M 7 p 11 (lN (dueN S p (S 0 19)))) := by
    have := RCx_J (p := p) (k := 11) (row := 20) (v := dueN S p (S 0 19)) hM (by omega)
    rw [stl_20] at this
    exact this
  have m2 : RCx (fun _ => True) (stl S p 1 (wk S p) e (dueN S p (S 0 19)) (net S p + hc - dueN S p (S 0 19)) hc 0 (S 31)) (sJ (sJ M 7 p 11 (lN (dueN S p (S 0 19)))) 7 p 12 (lN (net S p + hc - dueN S p (S 0 19)))) := by
    have := RCx_J (p := p) (k := 12) (row := 21) (v := net S p + hc - dueN S p (S 0 19)) m1 (by omega)
    rw [stl_21] at this
    exact this
  have k13 : mJ M 7 p 13 = lN hc := hpp.2.2.2.2.2.2.2.2.2.2.2.1.trans (congrArg lN (if_pos rfl))
  refine ⟨_, ?_, m2, ?_, ?_, fun q hq j => ?_⟩
  · unfold f_X0_settle_97
    rw [ed]
    simp only [ob_s, lt_e]
    rw [show mJ (sJ M 7 p 11 (lN (dueN S p (S 0 19)))) 7 p 9 = lN (net S p) from by rw [rd_J, if_neg (by omega)]; exact h9, show mJ (sJ M 7 p 11 (lN (dueN S p (S 0 19)))) 7 p 13 = lN hc from by rw [rd_J, if_neg (by omega)]; exact k13, show mJ (sJ M 7 p 11 (lN (dueN S p (S 0 19)))) 7 p 11 = lN (dueN S p (S 0 19)) from by rw [rd_J, if_pos ⟨rfl, rfl, rfl⟩], lN_add, L_sub hD]
  · rw [rd_J, if_neg (by omega), rd_J, if_neg (by omega)]; exact h8
  · rw [rd_J, if_neg (by omega), rd_J, if_neg (by omega)]; exact h9
  · rw [rd_J, if_neg (fun z => hq z.2.1), rd_J, if_neg (fun z => hq z.2.1)]
/-- row 31 is the model's alone -/
theorem RCx_31 {EE : Nat → Prop} {S : SV} {C : Mm} {p d k e u b h o : Nat} {f f' : Nat → Nat} (hC : RCx EE (stl S p d k e u b h o f) C) : RCx (fun _ => True) (stl S p d k e u b h o f') C := ⟨hC.1, hC.2.1, fun q hq => ⟨(hC.2.2.1 q hq).1, trivial⟩, hC.2.2.2.1, hC.2.2.2.2⟩
theorem due_n {S : SV} {kk p : Nat} (g1 : GA S) {TT : Prop} (g : GTx TT S kk) (hk : wk S p ≠ 0) (h17 : S 17 p ≤ 1000) (hN : net S p < 2 ^ 50) : dueN S p (S 0 19) < 2 ^ 60 ∧ (kd p = 1 → dueN S p (S 0 19) - net S p = S 17 p * wu S p - net S p) ∧ (kd p ≠ 1 → dueN S p (S 0 19) ≤ net S p) := by
  have hwu := wu_le g p
  have hUW : S 17 p * wu S p ≤ 1000 * 512000 := Nat.mul_le_mul h17 hwu
  rw [due_dueS]
  by_cases q : kd p = 1
  · have := due_place (N := net S p) g1 g q hk
    by_cases q2 : net S p < S 17 p * wu S p
    · have e := this.1 q2
      exact ⟨by omega, fun _ => by omega, fun z => absurd q z⟩
    · have e := this.2 (by omega)
      exact ⟨by omega, fun _ => by omega, fun z => absurd q z⟩
  · have := due_le (p := p) (N := net S p) (W := wu S p) g1 g q
    exact ⟨by omega, fun z => absurd z q, fun _ => this⟩
theorem c_won {S : SV} {C : Mm} {k p : Nat} (h : RC S C) (g1 : GA S) (g2 : GQ S) (g : GT S k) (hp : S 15 p = 1) (hu : S 18 p = 0) (hk : wk S p ≠ 0) (hN : net S p < 2 ^ 50) : ∃ C', f_X0_settle p C = some C' ∧ RC (stl S p 1 (wk S p) (ded S p) (dueN S p (S 0 19)) (net S p - dueN S p (S 0 19)) (dueN S p (S 0 19) - net S p) 0 (f31 S p (S 0 19))) C' := by
  have hwu := wu_le g p
  obtain ⟨M3, x1, x2, x3, x4, x5⟩ := c_29 h g1 g2 g hp hu (Or.inr hk) hN
  obtain ⟨-, -, -, -, a5, -⟩ := g2.2.1 p hp
  obtain ⟨d1, d2, d3⟩ := due_n g1 g hk a5 hN
  rw [if_neg hk] at x1
  have fin : ∀ M', RCx (fun _ => True) (stl S p 1 (wk S p) (ded S p) (dueN S p (S 0 19)) (net S p - dueN S p (S 0 19)) (dueN S p (S 0 19) - net S p) 0 (S 31)) M' → mJ M' 7 p 8 = lN (wu S p) → mJ M' 7 p 9 = lN (net S p) → (∀ q, q ≠ p → ∀ j, mJ M' 7 q j = mJ C 7 q j) → RC (stl S p 1 (wk S p) (ded S p) (dueN S p (S 0 19)) (net S p - dueN S p (S 0 19)) (dueN S p (S 0 19) - net S p) 0 (f31 S p (S 0 19))) M' := fun M' y1 y2 y3 y4 => by
    refine RC_stl h (RCx_31 y1) y2 y3 hN (by omega) (fun q hq => ⟨y4 q hq 8, y4 q hq 9⟩) (fun t ht h27 hc => ?_) (fun t h27 => ?_)
    · unfold f31
      by_cases w : wnT S t
      · rw [if_pos ⟨ht, h27, hc, w⟩, if_pos w]
      · rw [if_neg (fun z => w z.2.2.2), if_neg w]
        have t4 := g.2.2.2.1
        exact t4 t (Or.inr (by rw [h27]; exact hu))
    · unfold f31
      rw [if_neg (fun z => h27 z.2.1)]
  by_cases q : kd p = 1
  · rw [if_pos q] at x1
    have e := d2 q
    have m4 : RCx (fun _ => True) (stl S p 1 (wk S p) (ded S p) 0 0 (S 17 p * wu S p - net S p) 0 (S 31)) (sJ M3 7 p 13 (lN (S 17 p * wu S p - net S p))) := by
      have := RCx_J (p := p) (k := 13) (row := 22) (v := S 17 p * wu S p - net S p) x2 (by omega)
      rw [stl_22] at this
      exact this
    obtain ⟨M', y1, y2, y3, y4, y5⟩ := c_97 g1 g2 g hp hN hk m4 (by rw [rd_J, if_neg (by omega)]; exact x3) (by rw [rd_J, if_neg (by omega)]; exact x4) (by omega)
    refine ⟨M', x1.trans y1, fin M' ?_ y3 y4 (fun q hq j => ?_)⟩
    · rw [← e, show net S p + (dueN S p (S 0 19) - net S p) - dueN S p (S 0 19) = net S p - dueN S p (S 0 19) by omega] at y2
      exact y2
    · rw [y5 q hq j, rd_J, if_neg (fun z => hq z.2.1)]
      exact x5 q hq j
  · rw [if_neg q] at x1
    have e := d3 q
    obtain ⟨M', y1, y2, y3, y4, y5⟩ := c_97 g1 g2 g hp hN hk x2 x3 x4 (by omega)
    refine ⟨M', x1.trans y1, fin M' ?_ y3 y4 (fun q hq j => ?_)⟩
    · rw [show net S p + 0 - dueN S p (S 0 19) = net S p - dueN S p (S 0 19) by omega] at y2
      rw [show dueN S p (S 0 19) - net S p = 0 by omega]
      exact y2
    · rw [y5 q hq j]
      exact x5 q hq j
theorem c_none {S : SV} {C : Mm} {k p : Nat} (h : RC S C) (g1 : GA S) (g2 : GQ S) (g : GT S k) (hp : S 15 p = 1) (hu : S 18 p = 0) (h3 : kd p = 3) (hk : wk S p = 0) (hN : net S p < 2 ^ 50) : ∃ C', f_X0_settle p C = some C' ∧ RC (stl S p 1 0 (ded S p) 0 0 0 (net S p) (S 31)) C' ∧ mJ C' 7 p 15 = lN (net S p) := by
  have hwu := wu_le g p
  obtain ⟨M3, x1, x2, x3, x4, x5⟩ := c_29 h g1 g2 g hp hu (Or.inl h3) hN
  rw [if_pos hk] at x1
  rw [hk] at x2
  have m4 : RCx (fun _ => True) (stl S p 1 0 (ded S p) 0 0 0 (net S p) (S 31)) (sJ M3 7 p 15 (lN (net S p))) := by
    have := RCx_J (p := p) (k := 15) (row := 23) (v := net S p) x2 (by omega)
    rw [stl_23] at this
    exact this
  refine ⟨_, x1, RC_stl h m4 (by rw [rd_J, if_neg (by omega)]; exact x3) (by rw [rd_J, if_neg (by omega)]; exact x4) hN (by omega) (fun q hq => ⟨?_, ?_⟩) (fun t ht h27 hc => ?_) (fun t _ => rfl), ?_⟩
  · rw [rd_J, if_neg (fun z => hq z.2.1)]; exact x5 q hq 8
  · rw [rd_J, if_neg (fun z => hq z.2.1)]; exact x5 q hq 9
  · have t4 := g.2.2.2.1
    rw [t4 t (Or.inr (by rw [h27]; exact hu)), if_neg]
    exact fun w => wk_0 g1 g hk t ht ⟨h27, hc, w⟩
  · rw [rd_J, if_pos ⟨rfl, rfl, rfl⟩]
