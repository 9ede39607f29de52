/-! ===== the calls ticket, look, count ===== -/
theorem kd_52 {p : Nat} : kd p = 4 ↔ p = 52 := by unfold kd; split <;> omega
theorem Inv_st {S : SV} {k : Nat} {C R : Mm} (hR : RM S R) (hC : RC S C) (g1 : GA S) (g2 : GP S) (g3 : GT S k) (hk : k < 512) (g4 : GM S) (g5 : GO S) : Inv (k + 1) C R := ⟨S, hR, hC, g1, g2, GT_s g3 hk, g4, g5⟩
theorem ro_p {S : SV} {p : Nat} (g1 : GA S) {DD : Nat → Prop} {ZZ : Prop} (g2 : GPx DD ZZ S) (hp : S 15 p = 1) (j : Nat) : S 10 (ro S p j) ≠ 0 := by
  obtain ⟨a1, a2, -⟩ := g2.2.1 p hp
  unfold ro
  by_cases q : p = 52
  · subst q
    obtain ⟨b1', b2', -⟩ := g2.2.2.1 hp
    rw [if_pos rfl]
    split
    · exact b1'
    · exact b2'
  · rw [if_neg q]
    exact a2.resolve_left q
theorem s_ticket : S_ticket Inv := by
  intro k C R v u hk hI
  obtain ⟨S, hR, hC, g1, g2, g3, g4, g5⟩ := hI
  have hI' := Inv_st hR hC g1 g2 g3 hk g4 g5
  unfold f_X3_ticket f_X4_ticket
  rw [c_ticketNumbered hC g3, m_inT hR g3]
  simp only [ob_s, b1_if]
  cases ht : tOf S v with
  | none =>
    rw [on_n, if_neg (fun z => z rfl)]
    exact ⟨-1, rfl, rfl, hI'⟩
  | some t =>
    obtain ⟨e1, e2⟩ := tOf_s ht
    have hT := GT_T g3
    have hct := hC.2.2.2.1 t e2
    have hg := GT_t g3 e2
    have hpp := (hC.2.2.1 (S 27 t) (by omega)).1
    have hpt := GT_p g3 g2 e2
    have hrr := hC.2.1 _ (ro_p g1 g2 hg.1 0)
    rw [on_s, if_pos (fun z => by cases z), e1]
    by_cases q0 : u = 0
    · rw [if_pos q0, if_pos q0, hct.1, RM_ref hR 20]
      simp only [ob_s]
      rw [ix_n (by omega) (by omega), ix_n (by omega) (by omega), nI_cl (by omega), RM_I hR 27, hpp.1, hpp.2.1, dv_4]
      simp only [ob_s]
      rw [hrr.1]
      have hk4 := kd_le (S 27 t)
      by_cases q : S 27 t = 52
      · rw [if_pos ((nI_4e (by omega)).mpr (kd_52.mpr q)), if_pos ((nI_52 (by omega)).mpr q)]
        exact ⟨0, rfl, rfl, hI'⟩
      · rw [if_neg (fun z => q (kd_52.mp ((nI_4e (by omega)).mp z))), if_neg (fun z => q ((nI_52 (by omega)).mp z))]
        refine ⟨_, rfl, ?_, hI'⟩
        rw [show nI (S 27 t) / (4 : Int32) = nI (S 27 t / 4) from pk_div (d := 4) (by omega) (by omega) (by omega)]
        unfold ro
        rw [if_neg q]
    · rw [if_neg q0, if_neg q0]
      by_cases q1 : u = 1
      · rw [if_pos q1, if_pos q1, hct.1, RM_ref hR 20]
        simp only [ob_s]
        rw [ix_n (by omega) (by omega), nI_cl (by omega), RM_I hR 27, m_kindOf hpt, hpp.1]
        exact ⟨_, rfl, rfl, hI'⟩
      · rw [if_neg q1, if_neg q1]
        by_cases q2 : u = 2
        · rw [if_pos q2, if_pos q2, hct.2.2.2.1, RM_ref hR 21, q2]
          simp only [ob_s]
          rw [e32, show nI (3 * t + 2) - (2 : Int32) = nI (3 * t) from pk_sub (a := 3 * t + 2) (b := 2) (by omega), ix_n (by omega) (by omega), nI_cl (by omega), RM_I hR 28]
          exact ⟨_, rfl, rfl, hI'⟩
        · rw [if_neg q2, if_neg q2]
          by_cases q3 : u = 3
          · rw [if_pos q3, if_pos q3, hct.2.2.2.2.1, RM_ref hR 21, q3]
            simp only [ob_s]
            rw [e3, show nI (3 * t) + (3 : Int32) - (2 : Int32) = nI (3 * t + 1) from (congrArg (· - (2 : Int32)) (nI_add (3 * t) 3)).trans (pk_sub (a := 3 * t + 3) (b := 2) (by omega)), ix_n (by omega) (by omega), nI_cl (by omega), RM_I hR 28]
            exact ⟨_, rfl, rfl, hI'⟩
          · rw [if_neg q3, if_neg q3]
            by_cases q4 : u = 4
            · rw [if_pos q4, if_pos q4, hct.2.2.2.2.2.1, RM_ref hR 21, q4]
              simp only [ob_s]
              rw [e3, show nI (3 * t) + (4 : Int32) - (2 : Int32) = nI (3 * t + 2) from (congrArg (· - (2 : Int32)) (nI_add (3 * t) 4)).trans (pk_sub (a := 3 * t + 4) (b := 2) (by omega)), ix_n (by omega) (by omega), nI_cl (by omega), RM_I hR 28]
              exact ⟨_, rfl, rfl, hI'⟩
            · rw [if_neg q4, if_neg q4]
              by_cases q5 : u = 5
              · rw [if_pos q5, if_pos q5, hct.2.2.1, RM_ref hR 22]
                simp only [ob_s]
                rw [ix_n (by omega) (by omega), nI_cl (by omega), RM_I hR 29]
                exact ⟨_, rfl, rfl, hI'⟩
              · rw [if_neg q5, if_neg q5]
                by_cases q6 : u = 6
                · rw [if_pos q6, if_pos q6, hct.2.2.2.2.2.2, RM_ref hR 23]
                  simp only [ob_s]
                  rw [ix_n (by omega) (by omega), nI_cl (by omega), RM_I hR 30]
                  exact ⟨_, rfl, rfl, hI'⟩
                · rw [if_neg q6, if_neg q6]
                  exact ⟨_, rfl, rfl, hI'⟩
theorem s_look : S_look Inv := by
  intro k C R v u hk hI
  obtain ⟨S, hR, hC, g1, g2, g3, g4, g5⟩ := hI
  have hI' := Inv_st hR hC g1 g2 g3 hk g4 g5
  unfold f_X3_look f_X4_look
  rw [c_raceNumbered hC g1, m_isRace hR g1]
  simp only [ob_s, b1_if]
  cases hr : rOf S v with
  | none =>
    rw [on_n, if_neg (fun z => z rfl)]
    exact ⟨-2, rfl, rfl, hI'⟩
  | some r =>
    obtain ⟨r1, r2, r3, r4⟩ := rOf_s hr
    have hrr := hC.2.1 r r4
    have hl := GA_10 g1 r
    have hrg := GA_rng g1 r
    rw [on_s, if_pos (fun z => by cases z), RM_ref hR 0, RM_ref hR 1, RM_ref hR 2, RM_ref hR 3, RM_ref hR 4, r1]
    simp only [ob_s]
    rw [ix_n (by omega) (by omega), nI_cl (by omega), RM_I hR 10, show (100 : Int32) + nI (S 10 r) = nI (100 + S 10 r) from nI_add 100 _, m_in, m_running hR g1 r3, show (100 : Int32) = nI 100 from rfl, m_placed hR g1 r3 (by omega), c_placedRunners hrr g1, pld_all g1 r (b := 100) (by omega)]
    simp only [ob_s, b1_if]
    rw [ix_n (by omega) (by omega), ix_n (by omega) (by omega), ix_n (by omega) (by omega), RM_I hR 11, RM_I hR 12, nI_tI (n := 100 + S 10 r) (by omega)]
    obtain ⟨-, h1, -, -, h4, h5, h6, -, -⟩ := hrr
    rw [h1, h4, h5, h6]
    have e101 : (101 : Int32).toInt = 101 := rfl
    by_cases q : (101 : Int32).toInt ≤ u.toInt ∧ u.toInt ≤ ((100 + S 10 r : Nat) : Int)
    · rw [if_pos q]
      rw [e101] at q
      obtain ⟨f1, f2⟩ := i_of (x := u) (by omega)
      generalize hm : u.toNatClampNeg = m at f1 f2
      obtain ⟨n, rfl⟩ : ∃ n, m = 100 + n := ⟨m - 100, by omega⟩
      subst f1
      have ne : ∀ c : Nat, c ≤ 4 → ¬ nI (100 + n) = nI c := fun c hc z => by
        have := (nI_e (by omega) (by omega)).mp z
        omega
      rw [if_neg (show ¬ nI (100 + n) = (0 : Int32) from ne 0 (by omega)), if_neg (show ¬ nI (100 + n) = (1 : Int32) from ne 1 (by omega)), if_neg (show ¬ nI (100 + n) = (2 : Int32) from ne 2 (by omega)), if_neg (show ¬ nI (100 + n) = (3 : Int32) from ne 3 (by omega)), if_neg (show ¬ nI (100 + n) = (4 : Int32) from ne 4 (by omega)), if_neg (fun z => by have := (i_le_n (by omega) (by omega)).mp z; omega)]
      rw [show nI (100 + n) - nI 100 = nI n from (pk_sub (a := 100 + n) (b := 100) (by omega)).trans (congrArg nI (by omega)), c_hasRunner (hC.2.1 r r4) g1, c_positionOf (hC.2.1 r r4) _ (by rw [nI_tI (by omega)]; omega), nI_cl (n := n) (by omega)]
      simp only [ob_s, b1_if]
      rw [if_pos (show 1 ≤ (nI n).toInt ∧ (nI n).toInt ≤ (S 10 r : Int) from by rw [nI_tI (by omega)]; omega)]
      have ee : (25 : Int32) * nI r + nI (100 + n) - nI 100 = nI (25 * r + n) := by
        rw [e25]
        exact (pk_sub (a := 25 * r + (100 + n)) (b := 100) (by omega)).trans (congrArg nI (by omega))
      rw [ee, ix_n (by omega) (by omega), ix_n (by omega) (by omega), nI_cl (by omega), RM_I hR 13, RM_I hR 14]
      have h13 := (g1.2.2.2.1 (25 * r + n)).1
      by_cases w : S 13 (25 * r + n) = 0
      · rw [if_pos w, if_pos ((nI_z (by omega)).mpr w)]
        exact ⟨_, rfl, rfl, hI'⟩
      · rw [if_neg w, if_neg (fun z => w ((nI_z (by omega)).mp z))]
        exact ⟨_, rfl, rfl, hI'⟩
    · rw [if_neg q]
      rw [e101] at q
      have tail : (if u ≤ nI 100 then some (-2 : Int32) else ob (f_X1_hasRunner r (u - nI 100) C) fun r47 => if r47 = 0 then some (-2 : Int32) else ob (f_X1_positionOf r (u - nI 100) C) fun r52 => some r52) = some (-2 : Int32) := by
        by_cases w : u ≤ nI 100
        · rw [if_pos w]
        · rw [if_neg w, c_hasRunner (hC.2.1 r r4) g1]
          simp only [ob_s, b1_if]
          rw [i_le, nI_tI (by omega)] at w
          obtain ⟨f1, f2⟩ := i_of (x := u) (by omega)
          have f3 := Int32.toInt_lt u
          rw [if_neg]
          rw [f1, show nI u.toNatClampNeg - nI 100 = nI (u.toNatClampNeg - 100) from pk_sub (by omega)]
          intro z
          have z2 := z.2
          rw [nI_tI (by omega)] at z2
          omega
      rw [tail]
      simp only [some_ife]
      exact ⟨_, rfl, rfl, hI'⟩
