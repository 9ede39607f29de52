/-! ===== does what is named win; the call dividend ===== -/
theorem c_lastWin {S : SV} {C : Mm} {r : Nat} (h : RCr S C r) (g : GA S) : f_X1_lastWinningPlace r C = some (nI (lwp S r)) := by
  have hl := GA_rng g r
  unfold f_X1_lastWinningPlace lwp
  rw [h.2.2.2.2.2.1]
  simp only [i_lt]
  rw [nI_tI (by omega)]
  by_cases q1 : 8 ≤ rng S r
  · rw [if_pos q1, if_neg (show ¬ (rng S r : Int) < (8 : Int32).toInt from by show ¬ (rng S r : Int) < 8; omega)]; rfl
  · rw [if_neg q1, if_pos (show (rng S r : Int) < (8 : Int32).toInt from by show (rng S r : Int) < 8; omega)]
    by_cases q2 : 5 ≤ rng S r
    · rw [if_pos q2, if_neg (show ¬ (rng S r : Int) < (5 : Int32).toInt from by show ¬ (rng S r : Int) < 5; omega)]; rfl
    · rw [if_neg q2, if_pos (show (rng S r : Int) < (5 : Int32).toInt from by show (rng S r : Int) < 5; omega)]; rfl
theorem c_isWon {S : SV} {C : Mm} {p x y z : Nat} {EE : Nat → Prop} (h : RCx EE S C) (g1 : GA S) {DD : Nat → Prop} {ZZ : Prop} (g2 : GPx DD ZZ S) (hp : S 15 p = 1) (hx : x < 25) (hy : 2 ≤ mny p → y < 25) (hz : 3 ≤ mny p → z < 25) : f_X0_isWon p (nI x) (nI y) (nI z) C = some (b1 (wns S p x y z)) := by
  obtain ⟨k0, k1, k2, -⟩ := (h.2.2.1 p (by omega)).1
  have hr0 := h.2.1 _ (ro_p g1 g2 hp 0)
  have hr1 := h.2.1 _ (ro_p g1 g2 hp 1)
  have kl := kd_le p
  have lw : lwp S (ro S p 0) < 4 := by unfold lwp; split <;> (try split) <;> omega
  have i1 : (1 : Int32) = nI 1 := rfl
  have i2 : (2 : Int32) = nI 2 := rfl
  have i3 : (3 : Int32) = nI 3 := rfl
  unfold f_X0_isWon
  rw [k0, k1, k2]
  simp only [ob_s, lt_e]
  have hk : kd p = 0 ∨ kd p = 1 ∨ kd p = 2 ∨ kd p = 3 ∨ kd p = 4 := by omega
  have hmm := mny_kd p
  unfold wns
  rcases hk with q | q | q | q | q
  · rw [q, if_pos (c := nI 0 = 0) rfl, i1, c_isWithin hr0 g1 hx (by omega)]
    simp only [ob_s]
    rw [zb_b]
    refine congrArg some (b1_congr ?_)
    constructor
    · exact fun w => Or.inl ⟨trivial, w⟩
    · rintro (w | w | w | w | w)
      · exact w.2
      all_goals exact absurd w.1 (by decide)
  · rw [q, if_neg (c := nI 1 = 0) (by decide), if_pos (c := nI 1 = 1) rfl, c_lastWin hr0 g1]
    simp only [ob_s]
    rw [c_isWithin hr0 g1 hx (by omega)]
    simp only [ob_s]
    rw [zb_b]
    refine congrArg some (b1_congr ?_)
    constructor
    · exact fun w => Or.inr (Or.inl ⟨trivial, w⟩)
    · rintro (w | w | w | w | w)
      · exact absurd w.1 (by decide)
      · exact w.2
      all_goals exact absurd w.1 (by decide)
  · have hy' := hy (hmm.1.mpr (by omega))
    rw [q, if_neg (c := nI 2 = 0) (by decide), if_neg (c := nI 2 = 1) (by decide), if_pos (c := nI 2 = 2) rfl, i1, i2, c_isWithin hr0 g1 hx (by omega), c_isWithin hr0 g1 hy' (by omega), c_isWithin hr0 g1 hx (by omega), c_isWithin hr0 g1 hy' (by omega)]
    simp only [ob_s, b1_if]
    by_cases w1 : wth S (ro S p 0) x 2
    · rw [if_pos w1]
      by_cases w2 : wth S (ro S p 0) y 2
      · rw [if_pos w2]
        by_cases w3 : wth S (ro S p 0) x 1
        · rw [if_pos w3]
          exact congrArg some (b1_t (Or.inr (Or.inr (Or.inl ⟨trivial, w1, w2, Or.inl w3⟩)))).symm
        · rw [if_neg w3]
          by_cases w4 : wth S (ro S p 0) y 1
          · rw [if_pos w4]
            exact congrArg some (b1_t (Or.inr (Or.inr (Or.inl ⟨trivial, w1, w2, Or.inr w4⟩)))).symm
          · rw [if_neg w4]
            refine congrArg some (b1_f ?_).symm
            rintro (w | w | w | w | w)
            · exact absurd w.1 (by decide)
            · exact absurd w.1 (by decide)
            · exact w.2.2.2.elim w3 w4
            all_goals exact absurd w.1 (by decide)
      · rw [if_neg w2]
        refine congrArg some (b1_f ?_).symm
        rintro (w | w | w | w | w)
        · exact absurd w.1 (by decide)
        · exact absurd w.1 (by decide)
        · exact w2 w.2.2.1
        all_goals exact absurd w.1 (by decide)
    · rw [if_neg w1]
      refine congrArg some (b1_f ?_).symm
      rintro (w | w | w | w | w)
      · exact absurd w.1 (by decide)
      · exact absurd w.1 (by decide)
      · exact w1 w.2.1
      all_goals exact absurd w.1 (by decide)
  · have hy' := hy (hmm.1.mpr (by omega))
    have hz' := hz (hmm.2.mpr q)
    rw [q, if_neg (c := nI 3 = 0) (by decide), if_neg (c := nI 3 = 1) (by decide), if_neg (c := nI 3 = 2) (by decide), if_pos (c := nI 3 = 3) rfl, i1, i2, i3, c_isWithin hr0 g1 hx (by omega), c_isWithin hr0 g1 hy' (by omega), c_isWithin hr0 g1 hz' (by omega)]
    simp only [ob_s, b1_if]
    by_cases w1 : wth S (ro S p 0) x 1
    · rw [if_pos w1]
      by_cases w2 : wth S (ro S p 0) y 2
      · rw [if_pos w2]
        by_cases w3 : wth S (ro S p 0) z 3
        · rw [if_pos w3]; exact congrArg some (b1_t (Or.inr (Or.inr (Or.inr (Or.inl ⟨trivial, w1, w2, w3⟩))))).symm
        · rw [if_neg w3]
          refine congrArg some (b1_f ?_).symm
          rintro (w | w | w | w | w)
          · exact absurd w.1 (by decide)
          · exact absurd w.1 (by decide)
          · exact absurd w.1 (by decide)
          · exact w3 w.2.2.2
          · exact absurd w.1 (by decide)
      · rw [if_neg w2]
        refine congrArg some (b1_f ?_).symm
        rintro (w | w | w | w | w)
        · exact absurd w.1 (by decide)
        · exact absurd w.1 (by decide)
        · exact absurd w.1 (by decide)
        · exact w2 w.2.2.1
        · exact absurd w.1 (by decide)
    · rw [if_neg w1]
      refine congrArg some (b1_f ?_).symm
      rintro (w | w | w | w | w)
      · exact absurd w.1 (by decide)
      · exact absurd w.1 (by decide)
      · exact absurd w.1 (by decide)
      · exact w1 w.2.1
      · exact absurd w.1 (by decide)
  · have hy' := hy (hmm.1.mpr (by omega))
    rw [q, if_neg (c := nI 4 = 0) (by decide), if_neg (c := nI 4 = 1) (by decide), if_neg (c := nI 4 = 2) (by decide), if_neg (c := nI 4 = 3) (by decide), i1, c_isWithin hr0 g1 hx (by omega), c_isWithin hr1 g1 hy' (by omega)]
    simp only [ob_s, b1_if]
    by_cases w1 : wth S (ro S p 0) x 1
    · rw [if_pos w1]
      by_cases w2 : wth S (ro S p 1) y 1
      · rw [if_pos w2]
        exact congrArg some (b1_t (Or.inr (Or.inr (Or.inr (Or.inr ⟨trivial, w1, w2⟩))))).symm
      · rw [if_neg w2]
        refine congrArg some (b1_f ?_).symm
        rintro (w | w | w | w | w)
        · exact absurd w.1 (by decide)
        · exact absurd w.1 (by decide)
        · exact absurd w.1 (by decide)
        · exact absurd w.1 (by decide)
        · exact w2 w.2.2
    · rw [if_neg w1]
      refine congrArg some (b1_f ?_).symm
      rintro (w | w | w | w | w)
      · exact absurd w.1 (by decide)
      · exact absurd w.1 (by decide)
      · exact absurd w.1 (by decide)
      · exact absurd w.1 (by decide)
      · exact w1 w.2.1
