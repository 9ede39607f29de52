/-! ===== the calls count, unclaimed ===== -/
theorem tOf_nI {S : SV} {t : Nat} (ht : t < S 0 19) (h2 : t < 2 ^ 31) : tOf S (nI t) = some t := by
  unfold tOf
  rw [nI_tI h2, nI_cl h2, if_pos (by omega)]
def nst (S : SV) (st : Nat) : Nat := sm (S 0 19) (fun t => if S 30 t = st then 1 else 0)
theorem c_ticketsThatAre {S : SV} {C : Mm} {k st : Nat} (h : RC S C) (g : GT S k) (hst : st ≤ 3) : f_X3_ticketsThatAre 0 (nI st) C = some (lN (nst S st)) := by
  have hT := GT_T g
  have key : ∀ n j, j ≤ S 0 19 → S 0 19 < j + n → f_X3_ticketsThatAre_5 C n 0 (nI st) (lN (sm j (fun t => if S 30 t = st then 1 else 0))) (nI j) = some (lN (nst S st)) := by
    intro n
    induction n with
    | zero => intro j h1 h2; omega
    | succ n ih =>
      intro j h1 h2
      rw [f_X3_ticketsThatAre_5, h.1.2.2.1]
      by_cases q : j = S 0 19
      · rw [if_pos ((i_le_n (by omega) (by omega)).mpr (by omega)), q]; rfl
      · have hj : j < S 0 19 := by omega
        have hg := GT_t g hj
        rw [if_neg (fun z => by have := (i_le_n (by omega) (by omega)).mp z; omega), c_ticketNumbered h g, tOf_nI hj (by omega)]
        simp only [ob_s, lt_e, on_s]
        rw [(h.2.2.2.1 j hj).2.2.2.2.2.2]
        have key2 := ih (j + 1) (by omega) (by omega)
        simp only [sm] at key2
        by_cases q1 : S 30 j = st
        · rw [if_pos (congrArg nI q1), lN_1, nI_1]
          rw [if_pos q1] at key2
          exact key2
        · rw [if_neg (fun z => q1 ((nI_e (by omega) (by omega)).mp z)), nI_1]
          rw [if_neg q1] at key2
          exact key2
  unfold f_X3_ticketsThatAre
  exact key FU 0 (by omega) (by show S 0 19 < 0 + 1000; omega)
theorem m_countL {S : SV} {R : Mm} {k st : Nat} (h : RM S R) (g : GT S k) (hst : st ≤ 3) : f_X4_count_37 R FU 0 (nI (st + 1)) (0 : Int32) (0 : Int32) = some (lN (nst S st)) := by
  have hT := GT_T g
  have hn : nst S st ≤ S 0 19 := sm1
  have key : ∀ n j, j ≤ S 0 19 → S 0 19 < j + n → f_X4_count_37 R n 0 (nI (st + 1)) (nI (sm j (fun t => if S 30 t = st then 1 else 0))) (nI j) = some (lN (nst S st)) := by
    intro n
    induction n with
    | zero => intro j h1 h2; omega
    | succ n ih =>
      intro j h1 h2
      rw [f_X4_count_37, RM_T h]
      by_cases q : j = S 0 19
      · rw [if_pos ((i_le_n (by omega) (by omega)).mpr (by omega)), q]
        exact congrArg some (nI_i2l (n := nst S st) (by omega))
      · have hj : j < S 0 19 := by omega
        have hg := GT_t g hj
        rw [if_neg (fun z => by have := (i_le_n (by omega) (by omega)).mp z; omega), RM_ref h 23]
        simp only [ob_s, lt_e]
        rw [ix_n (by omega) (by omega), nI_cl (by omega), RM_I h 30, show nI (st + 1) - (1 : Int32) = nI st from pk_sub (a := st + 1) (b := 1) (by omega)]
        have key2 := ih (j + 1) (by omega) (by omega)
        simp only [sm] at key2
        by_cases q1 : S 30 j = st
        · rw [if_pos (congrArg nI q1), nI_1, nI_1]
          rw [if_pos q1] at key2
          exact key2
        · rw [if_neg (fun z => q1 ((nI_e (by omega) (by omega)).mp z)), nI_a0, nI_1]
          rw [if_neg q1] at key2
          exact key2
  exact key FU 0 (by omega) (by show S 0 19 < 0 + 1000; omega)
theorem c_wentBack {S : SV} {C : Mm} {k : Nat} (h : RC S C) (g : GT S k) (gp : GP S) (gm : GM S) : f_X3_centsThatWentBack 0 C = some (lN (S 0 25)) := by
  have hT := GT_T g
  rw [gm.1]
  have key : ∀ n j, j ≤ S 0 19 → S 0 19 < j + n → f_X3_centsThatWentBack_4 C n 0 (lN (sm j (fun t => if S 30 t = 1 ∨ S 30 t = 2 then cost S t else 0))) (nI j) = some (lN (sm (S 0 19) (fun t => if S 30 t = 1 ∨ S 30 t = 2 then cost S t else 0))) := by
    intro n
    induction n with
    | zero => intro j h1 h2; omega
    | succ n ih =>
      intro j h1 h2
      rw [f_X3_centsThatWentBack_4, h.1.2.2.1]
      by_cases q : j = S 0 19
      · rw [if_pos ((i_le_n (by omega) (by omega)).mpr (by omega)), q]
      · have hj : j < S 0 19 := by omega
        have hg := GT_t g hj
        rw [if_neg (fun z => by have := (i_le_n (by omega) (by omega)).mp z; omega), c_ticketNumbered h g, tOf_nI hj (by omega)]
        simp only [ob_s, lt_e, on_s, f_X3_centsThatWentBack_42]
        rw [(h.2.2.2.1 j hj).2.2.2.2.2.2, c_cost h g gp hj]
        simp only [ob_s]
        have key2 := ih (j + 1) (by omega) (by omega)
        simp only [sm] at key2
        by_cases q1 : S 30 j = 1
        · rw [if_pos ((nI_1e (by omega)).mpr q1), lN_add, nI_1]
          rw [if_pos (Or.inl q1)] at key2
          exact key2
        · rw [if_neg (fun z => q1 ((nI_1e (by omega)).mp z))]
          by_cases q2 : S 30 j = 2
          · rw [if_pos ((nI_2e (by omega)).mpr q2), lN_add, nI_1]
            rw [if_pos (Or.inr q2)] at key2
            exact key2
          · rw [if_neg (fun z => q2 ((nI_2e (by omega)).mp z)), nI_1]
            rw [if_neg (by omega)] at key2
            exact key2
  unfold f_X3_centsThatWentBack
  exact key FU 0 (by omega) (by show S 0 19 < 0 + 1000; omega)
theorem s_count : S_count Inv := by
  intro k C R u hk hI
  obtain ⟨S, hR, hC, g1, g2, g3, g4, g5⟩ := hI
  have hI' := Inv_st hR hC g1 g2 g3 hk g4 g5
  unfold f_X3_count f_X4_count
  have t0 : f_X3_ticketsThatAre 0 (0 : Int32) C = some (lN (nst S 0)) := c_ticketsThatAre (st := 0) hC g3 (by omega)
  have t1 : f_X3_ticketsThatAre 0 (1 : Int32) C = some (lN (nst S 1)) := c_ticketsThatAre (st := 1) hC g3 (by omega)
  have t2 : f_X3_ticketsThatAre 0 (2 : Int32) C = some (lN (nst S 2)) := c_ticketsThatAre (st := 2) hC g3 (by omega)
  have t3 : f_X3_ticketsThatAre 0 (3 : Int32) C = some (lN (nst S 3)) := c_ticketsThatAre (st := 3) hC g3 (by omega)
  rw [hC.1.2.2.1, RM_T hR, c_wentBack hC g3 g2 g4, RM_back hR, t0, t1, t2, t3, m_in]
  simp only [ob_s, b1_if]
  by_cases q0 : u = 0
  · rw [if_pos q0, if_pos q0]; exact ⟨_, rfl, rfl, hI'⟩
  · rw [if_neg q0, if_neg q0]
    by_cases q5 : u = 5
    · rw [if_pos (c := u = 5) q5]
      subst q5
      rw [if_neg (by decide), if_neg (by decide), if_neg (by decide), if_neg (by decide)]
      exact ⟨_, rfl, rfl, hI'⟩
    · rw [if_neg (c := u = 5) q5, if_neg (c := u = 5) q5]
      have mm : ∀ st : Nat, st ≤ 3 → f_X4_count_37 R FU 0 (nI (st + 1)) (0 : Int32) (0 : Int32) = some (lN (nst S st)) := fun st hst => m_countL hR g3 hst
      by_cases q1 : u = 1
      · rw [if_pos q1]
        subst q1
        rw [if_pos (by decide), show (1 : Int32) = nI (0 + 1) from rfl, mm 0 (by omega)]
        exact ⟨_, rfl, rfl, hI'⟩
      · rw [if_neg q1]
        by_cases q2 : u = 2
        · rw [if_pos q2]
          subst q2
          rw [if_pos (by decide), show (2 : Int32) = nI (1 + 1) from rfl, mm 1 (by omega)]
          exact ⟨_, rfl, rfl, hI'⟩
        · rw [if_neg q2]
          by_cases q3 : u = 3
          · rw [if_pos q3]
            subst q3
            rw [if_pos (by decide), show (3 : Int32) = nI (2 + 1) from rfl, mm 2 (by omega)]
            exact ⟨_, rfl, rfl, hI'⟩
          · rw [if_neg q3]
            by_cases q4 : u = 4
            · rw [if_pos q4]
              subst q4
              rw [if_pos (by decide), show (4 : Int32) = nI (3 + 1) from rfl, mm 3 (by omega)]
              exact ⟨_, rfl, rfl, hI'⟩
            · rw [if_neg q4, if_neg]
              · exact ⟨_, rfl, rfl, hI'⟩
              · intro z
                have z1 : 1 ≤ u.toInt ∧ u.toInt ≤ 4 := z
                obtain ⟨f1, f2⟩ := i_of (x := u) (by omega)
                generalize u.toNatClampNeg = n at f1 f2
                have : n = 1 ∨ n = 2 ∨ n = 3 ∨ n = 4 := by omega
                rcases this with rfl | rfl | rfl | rfl
                · exact q1 f1
                · exact q2 f1
                · exact q3 f1
                · exact q4 f1
