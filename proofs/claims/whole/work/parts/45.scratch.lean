/-! ===== the call scratch ===== -/
def BK (S : SV) (r κ : Nat) : Nat → Bool := fun t => decide (t < S 0 19) && (decide (4 * r ≤ S 27 t) && decide (S 27 t < 4 * r + κ))
theorem BK_iff {S : SV} {r κ t : Nat} : BK S r κ t = true ↔ (t < S 0 19 ∧ 4 * r ≤ S 27 t ∧ S 27 t < 4 * r + κ) := by
  unfold BK
  rw [Bool.and_eq_true, Bool.and_eq_true, decide_eq_true_iff, decide_eq_true_iff, decide_eq_true_iff]
theorem nmd_pool {S : SV} {r x t : Nat} (h : nmd S r x t) : S 27 t = 52 ∨ (4 * r ≤ S 27 t ∧ S 27 t < 4 * r + 4) := by
  by_cases p52 : S 27 t = 52
  · exact Or.inl p52
  · refine Or.inr ?_
    have hro : ∀ j, ro S (S 27 t) j = S 27 t / 4 := fun j => by unfold ro; rw [if_neg p52]
    have : S 27 t / 4 = r := by
      rcases h.2 with z | z | z
      · rw [← hro 0]; exact z.2.1
      · rw [← hro 1]; exact z.2.1
      · rw [← hro 2]; exact z.2.1
    omega
theorem b_eq {a b : Bool} (h : a = true ↔ b = true) : a = b := Bool.eq_iff_iff.mpr h
theorem c_scrL {S : SV} {k r x : Nat} (g1 : GA S) (g2 : GP S) (g3 : GT S k) (gs : ∀ P, GA (scr S r x P)) (hr : S 10 r ≠ 0) (h11 : S 11 r = 0) (hx : 1 ≤ x ∧ x < 25) : ∀ n κ C, κ ≤ 4 → 4 < κ + n → RC (scr S r x (BK S r κ)) C → ∃ C', f_X3_scratch_49 n 0 (nI x) r (nI (cnt S r x (BK S r κ))) r (4 : Int32) (nI κ) C = some (nI (cnt S r x (fun t => decide (t < S 0 19))), C') ∧ RC (scr S r x (fun t => decide (t < S 0 19))) C' := by
  have hT := GT_T g3
  have hr1 := g1.1 r hr
  intro n
  induction n with
  | zero => intro κ C h1 h2; omega
  | succ n ih =>
    intro κ C h1 h2 hC
    rw [f_X3_scratch_49]
    by_cases q : κ = 4
    · subst q
      rw [if_pos (show (4 : Int32) ≤ nI 4 from by decide)]
      have h52 : mR C 1 0 3 = if S 15 52 = 0 then none else some 52 := hC.1.2.2.2.1
      rw [h52]
      by_cases q1 : S 15 52 = 0
      · have agree : ∀ t, t < S 0 19 → (BK S r 4 t = true ↔ (fun t => decide (t < S 0 19)) t = true) ∨ ¬ nmd S r x t := fun t ht => by
          by_cases nd : nmd S r x t
          · refine Or.inl ?_
            show BK S r 4 t = true ↔ decide (t < S 0 19) = true
            rw [BK_iff, decide_eq_true_iff]
            refine ⟨fun z => z.1, fun z => ⟨z, ?_⟩⟩
            rcases nmd_pool nd with w | w
            · have := (GT_t g3 ht).1
              rw [w, q1] at this
              omega
            · exact w
          · exact Or.inr nd
        have e1 : scr S r x (BK S r 4) = scr S r x (fun t => decide (t < S 0 19)) := scr_congr (fun t nd => by
          by_cases ht : t < S 0 19
          · exact b_eq ((agree t ht).resolve_right (fun z => z nd))
          · refine b_eq ?_
            show BK S r 4 t = true ↔ decide (t < S 0 19) = true
            rw [BK_iff, decide_eq_true_iff]
            exact ⟨fun z => z.1, fun z => absurd z ht⟩)
        have e2 : cnt S r x (BK S r 4) = cnt S r x (fun t => decide (t < S 0 19)) := cnt_congr (fun t ht nd => b_eq ((agree t ht).resolve_right (fun z => z nd)))
        rw [if_pos q1, on_n, e2]
        exact ⟨C, rfl, by rw [← e1]; exact hC⟩
      · have hp : S 15 52 = 1 := by have := g2.1 52; omega
        rw [if_neg q1, on_s, ob_s]
        have hpp := (hC.2.2.1 52 q1).1
        have p5 : mR C 7 52 5 = lastT (S 27) 52 (S 0 19) := by
          have := hpp.2.2.2.2.2.1
          rw [scr_27] at this
          exact this
        have hb : ∀ t, S 27 t = 52 → BK S r 4 t = false := fun t e => Bool.eq_false_iff.mpr (fun z => by have := (BK_iff.mp z).2.2; omega)
        have eT : PP S (BK S r 4) 52 (S 0 19) = BK S r 4 := PP_eq (fun t => by
          rw [PP_iff]
          exact ⟨fun z => z.elim id (fun w => by omega), fun z => Or.inl z⟩)
        have agree : ∀ t, nmd S r x t → (PP S (BK S r 4) 52 0 t = true ↔ (fun t => decide (t < S 0 19)) t = true) := fun t nd => by
          show PP S (BK S r 4) 52 0 t = true ↔ decide (t < S 0 19) = true
          rw [PP_iff, BK_iff, decide_eq_true_iff]
          refine ⟨fun z => z.elim (fun w => w.1) (fun w => w.1), fun z => ?_⟩
          rcases nmd_pool nd with w | w
          · exact Or.inr ⟨z, w, Nat.zero_le _⟩
          · exact Or.inl ⟨z, w⟩
        have h0 : ∀ x, S 11 (ro S 52 x) = 0 → S 18 52 = 0 := fun x hx => by
          have a8 := (g2.2.1 52 hp).2.2.2.2.2.2.2
          refine a8.mpr (fun z => ?_)
          rcases ro_j (S := S) (p := 52) (j := x) with e | e
          · rw [e] at hx; have := z.1; omega
          · rw [e] at hx; have := z.2; omega
        by_cases hof : S 0 17 = r ∨ S 0 18 = r
        · have hu : S 18 52 = 0 := by
            rcases hof with e | e
            · exact h0 0 (by show S 11 (S 0 17) = 0; rw [e]; exact h11)
            · exact h0 1 (by show S 11 (S 0 18) = 0; rw [e]; exact h11)
          obtain ⟨C', acc', x1, x2, x3⟩ := c_movL (base := BK S r 4) g1 g2 g3 gs hr hx hp hu hb (S 0 19) FU 0 C (Nat.le_refl _) (by show S 0 19 < 1000; omega) (by rw [eT]; exact hC)
          rw [eT] at x3
          unfold f_X0_moveLegs
          rw [p5]
          have x1' : f_X0_moveLegs_8 FU 52 r (nI x) (0 : Int32) (lastT (S 27) 52 (S 0 19)) C = some (nI acc', C') := x1
          rw [x1']
          simp only [ob_s, lt_e]
          have e1 : scr S r x (PP S (BK S r 4) 52 0) = scr S r x (fun t => decide (t < S 0 19)) := scr_congr (fun t nd => b_eq (agree t nd))
          have e2 : cnt S r x (PP S (BK S r 4) 52 0) = cnt S r x (fun t => decide (t < S 0 19)) := cnt_congr (fun t _ nd => b_eq (agree t nd))
          rw [nI_add]
          refine ⟨C', ?_, by rw [← e1]; exact x2⟩
          refine congrArg (fun v => some (nI v, C')) ?_
          omega
        · have nn : ∀ t, S 27 t = 52 → ¬ nmd S r x t := fun t e nd => by
            have r0 : ro S (S 27 t) 0 = S 0 17 := by rw [e]; rfl
            have r1 : ro S (S 27 t) 1 = S 0 18 := by rw [e]; rfl
            have m2 : mny (S 27 t) = 2 := by rw [e]; rfl
            rcases nd.2 with z | z | z
            · exact hof (Or.inl (r0.symm.trans z.2.1))
            · exact hof (Or.inr (r1.symm.trans z.2.1))
            · have := z.1; omega
          have skip : ∀ j n C, j ≤ S 0 19 → j < n → RC (scr S r x (BK S r 4)) C → f_X0_moveLegs_8 n 52 r (nI x) (0 : Int32) (lastT (S 27) 52 j) C = some ((0 : Int32), C) := by
            intro j
            induction j with
            | zero =>
              intro n C h1 h2 _
              obtain ⟨n', rfl⟩ : ∃ n', n = n' + 1 := ⟨n - 1, by omega⟩
              rw [f_X0_moveLegs_8]; rfl
            | succ j ihj =>
              intro n C h1 h2 hC
              have hj : j < S 0 19 := by omega
              by_cases q : S 27 j = 52
              · obtain ⟨n', rfl⟩ : ∃ n', n = n' + 1 := ⟨n - 1, by omega⟩
                have hpp := (hC.2.2.1 52 q1).1
                have p1 : mR C 7 52 1 = some (S 0 17) := hpp.2.1
                have p2 : mR C 7 52 2 = some (S 0 18) := hpp.2.2.1
                obtain ⟨-, k1, -, -, -, -, -⟩ := hC.2.2.2.1 j (show j < scr S r x (BK S r 4) 0 19 from hj)
                rw [scr_27, q] at k1
                rw [c_chain q, f_X0_moveLegs_8, on_s, p1, if_neg (fun z => hof (Or.inl (Option.some.inj z).symm))]
                unfold f_X0_moveLegs_34 f_X0_moveLegs_35
                rw [p2, if_neg (fun z => hof (Or.inr (Option.some.inj z).symm))]
                unfold f_X0_moveLegs_58 f_X0_moveLegs_59
                rw [if_pos rfl, if_pos rfl, k1]
                have := ihj n' C (by omega) (by omega) hC
                rw [this]
                split <;> rfl
              · rw [c_chainN q]
                exact ihj n C (by omega) (by omega) hC
          unfold f_X0_moveLegs
          rw [p5, skip (S 0 19) FU C (Nat.le_refl _) (by show S 0 19 < 1000; omega) hC]
          simp only [ob_s, lt_e]
          rw [nI_a0]
          have agree2 : ∀ t, nmd S r x t → (BK S r 4 t = true ↔ (fun t => decide (t < S 0 19)) t = true) := fun t nd => by
            show BK S r 4 t = true ↔ decide (t < S 0 19) = true
            rw [BK_iff, decide_eq_true_iff]
            refine ⟨fun z => z.1, fun z => ⟨z, ?_⟩⟩
            rcases nmd_pool nd with w | w
            · exact absurd nd (nn t w)
            · exact w
          have e1 : scr S r x (BK S r 4) = scr S r x (fun t => decide (t < S 0 19)) := scr_congr (fun t nd => b_eq (agree2 t nd))
          have e2 : cnt S r x (BK S r 4) = cnt S r x (fun t => decide (t < S 0 19)) := cnt_congr (fun t _ nd => b_eq (agree2 t nd))
          rw [e2]
          exact ⟨C, rfl, by rw [← e1]; exact hC⟩
    · have hκ : κ < 4 := by omega
      rw [if_neg (fun z => by have := (i_le_n (a := 4) (by omega) (by omega)).mp z; omega), ix_n (by omega) (by omega), nI_cl (by omega)]
      have h6 : mR C 6 r κ = if S 15 (4 * r + κ) = 0 then none else some (4 * r + κ) := (hC.2.1 r hr).2.2.2.2.2.2.2.2 κ hκ
      rw [h6]
      simp only [lt_e]
      rw [nI_1]
      by_cases q1 : S 15 (4 * r + κ) = 0
      · have e0 : ∀ t, t < S 0 19 → S 27 t ≠ 4 * r + κ := fun t ht e => by
          have := (GT_t g3 ht).1
          rw [e, q1] at this
          omega
        have eB : BK S r κ = BK S r (κ + 1) := PP_eq (fun t => by
          rw [BK_iff, BK_iff]
          exact ⟨fun z => ⟨z.1, z.2.1, by omega⟩, fun z => ⟨z.1, z.2.1, by have := e0 t z.1; omega⟩⟩)
        rw [if_pos q1, on_n, eB]
        rw [eB] at hC
        exact ih (κ + 1) C (by omega) (by omega) hC
      · have hp : S 15 (4 * r + κ) = 1 := by have := g2.1 (4 * r + κ); omega
        rw [if_neg q1, on_s]
        have n52 : 4 * r + κ ≠ 52 := by omega
        have hu : S 18 (4 * r + κ) = 0 := by
          have a8 := (g2.2.1 _ hp).2.2.2.2.2.2.2
          refine a8.mpr (fun z => ?_)
          have e : ro S (4 * r + κ) 0 = r := by unfold ro; rw [if_neg n52]; omega
          have := z.1
          rw [e] at this
          omega
        have hpp := (hC.2.2.1 (4 * r + κ) q1).1
        have p5 : mR C 7 (4 * r + κ) 5 = lastT (S 27) (4 * r + κ) (S 0 19) := by
          have := hpp.2.2.2.2.2.1
          rw [scr_27] at this
          exact this
        have hb : ∀ t, S 27 t = 4 * r + κ → BK S r κ t = false := fun t e => Bool.eq_false_iff.mpr (fun z => by have := (BK_iff.mp z).2.2; omega)
        have eT : PP S (BK S r κ) (4 * r + κ) (S 0 19) = BK S r κ := PP_eq (fun t => by
          rw [PP_iff]
          exact ⟨fun z => z.elim id (fun w => by omega), fun z => Or.inl z⟩)
        have e1 : PP S (BK S r κ) (4 * r + κ) 0 = BK S r (κ + 1) := PP_eq (fun t => by
          rw [PP_iff, BK_iff, BK_iff]
          constructor
          · rintro (z | z)
            · exact ⟨z.1, z.2.1, by omega⟩
            · exact ⟨z.1, by omega, by omega⟩
          · intro z
            by_cases e : S 27 t = 4 * r + κ
            · exact Or.inr ⟨z.1, e, Nat.zero_le _⟩
            · exact Or.inl ⟨z.1, z.2.1, by omega⟩)
        obtain ⟨C', acc', x1, x2, x3⟩ := c_refN (k := k) (base := BK S r κ) (p := 4 * r + κ) (r := r) g1 g3 n52 (by omega) hx hu hb (S 0 19) FU 0 C (Nat.le_refl _) (by show S 0 19 < 1000; omega) (by rw [eT]; exact hC)
        rw [eT, e1] at x3
        rw [e1] at x2
        unfold f_X0_refundNaming
        have x1' : f_X0_refundNaming_7 FU (nI x) (0 : Int32) (lastT (S 27) (4 * r + κ) (S 0 19)) C = some (nI acc', C') := x1
        rw [p5, x1']
        simp only [ob_s]
        rw [nI_add]
        have ec : cnt S r x (BK S r κ) + acc' = cnt S r x (BK S r (κ + 1)) := by omega
        rw [ec]
        exact ih (κ + 1) C' (by omega) (by omega) x2
theorem s_scratch : S_scratch Inv := by
  intro k C R v w hk hI
  obtain ⟨S, hR, hC, g1, g2, g3, g4, g5⟩ := hI
  have stay : ∃ (r : Int32) (C' R' : Mm), some ((-1 : Int32), C) = some (r, C') ∧ some ((-1 : Int32), R) = some (r, R') ∧ Inv (k + 1) C' R' := ⟨-1, C, R, rfl, rfl, Inv_st hR hC g1 g2 g3 hk g4 g5⟩
  unfold f_X3_scratch f_X4_scratch
  rw [c_raceNumbered hC g1, m_isRace hR g1]
  simp only [ob_s, b1_if]
  cases hr : rOf S v with
  | none => rw [on_n, if_neg (fun z => z rfl)]; exact stay
  | some r =>
    obtain ⟨r1, r2, r3, r4⟩ := rOf_s hr
    have hrr := hC.2.1 r r4
    have hl := GA_10 g1 r
    have h11 := (g1.2.1 r).1
    rw [on_s, if_pos (fun z => by cases z), r1, m_runs hR g1 r3, RM_ref hR 1, hrr.2.2.2.2.1, c_isRunning hrr g1]
    simp only [ob_s, b1_if, lt_e]
    rw [ix_n (by omega) (by omega), nI_cl (by omega), RM_I hR 11]
    by_cases q : S 11 r = 0
    · rw [if_pos ((nI_z (by omega)).mpr q), if_pos ((nI_z (by omega)).mpr q)]
      by_cases q1 : rns S r w
      · rw [if_pos q1, if_pos q1]
        obtain ⟨f1, f2⟩ := i_of (x := w) (by omega)
        have hsc := q1.2
        have hrn := q1.1
        generalize w.toNatClampNeg = x at f1 f2 hsc
        subst f1
        have hx : 1 ≤ x ∧ x ≤ S 10 r := by omega
        have hx25 : x < 25 := by omega
        rw [RM_ref hR 3]
        simp only [ob_s]
        rw [e25, ix_n (by omega) (by omega), nI_cl (by omega)]
        have hR1 : RM (scr S r x (fun _ => false)) (sI R 13 0 (25 * r + x) (1 : Int32)) := by
          rw [scr_0]
          exact RM_sI (v := 1) hR (by omega)
        have gs : ∀ P, GA (scr S r x P) := fun P => GA_scr g1 g5 r4 q hx25
        obtain ⟨R', y1, y2⟩ := m_scrL g1 g2 g3 gs hR1 ⟨r2, r3⟩ hx25 hsc
        rw [y1]
        have hrg : 1 ≤ rng S r := by have := rng_out hx hsc; omega
        have hC1 : RC (scr S r x (BK S r 0)) (sI (sI C 5 r x (-1)) 4 r 5 (nI (rng S r - 1))) := by
          have e : BK S r 0 = (fun _ => false) := funext (fun t => Bool.eq_false_iff.mpr (fun z => by have := (BK_iff.mp z).2; omega))
          rw [e, scr_0]
          exact RC_out hC g1 g2 g3 r4 q hx hsc
        have e0 : cnt S r x (BK S r 0) = 0 := sm_zero (fun t _ => if_neg (fun z => by have := (BK_iff.mp z.1).2; omega))
        unfold f_X1_withdraw f_X1_putAt
        rw [if_neg (fun z => by have := i_lt.mp z; rw [nI_tI (by omega)] at this; have e : (0 : Int32).toInt = 0 := rfl; omega), hrr.2.2.1]
        simp only [ob_s, lt_e]
        rw [if_neg (fun z => by have := (i_le_n (a := 25) (by omega) (by omega)).mp z; omega), ix_n (by omega) (by omega), nI_cl (by omega)]
        simp only [ob_s]
        have e5 : mI (sI C 5 r x (-1)) 4 r 5 = nI (rng S r) := hrr.2.2.2.2.2.1
        have e6 : nI (rng S r) - (1 : Int32) = nI (rng S r - 1) := pk_sub (b := 1) hrg
        have e7 : mR (sI (sI C 5 r x (-1)) 4 r 5 (nI (rng S r - 1))) 4 r 3 = some r := hrr.2.2.2.1
        rw [e5, e6, e7]
        simp only [ob_s]
        obtain ⟨C', z1, z2⟩ := c_scrL g1 g2 g3 gs r4 q ⟨hx.1, hx25⟩ FU 0 _ (by omega) (by show 4 < 0 + 1000; omega) hC1
        rw [e0] at z1
        have z1' : f_X3_scratch_49 FU 0 (nI x) r (0 : Int32) r (4 : Int32) (0 : Int32) (sI (sI C 5 r x (-1)) 4 r 5 (nI (rng S r - 1))) = some (nI (cnt S r x (fun t => decide (t < S 0 19))), C') := z1
        rw [z1']
        obtain ⟨i1, i2, i3, i4, i5⟩ := scr_inv (P := fun t => decide (t < S 0 19)) g1 g2 g3 g4 g5 r4 q hx25 (fun t ht => decide_eq_true ht)
        exact ⟨_, _, _, rfl, rfl, Inv_st y2 z2 i1 i2 i3 hk i4 i5⟩
      · rw [if_neg q1, if_neg q1]; exact stay
    · rw [if_neg (fun z => q ((nI_z (by omega)).mp z)), if_neg (fun z => q ((nI_z (by omega)).mp z))]
      by_cases q1 : rns S r w
      · rw [if_pos q1]; exact stay
      · rw [if_neg q1]; exact stay
