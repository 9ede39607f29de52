/-! ===== the calls substitute, pool, pair ===== -/
theorem ro_52a {S : SV} : ro S 52 0 = S 0 17 := rfl
theorem ro_52b {S : SV} : ro S 52 1 = S 0 18 := rfl
theorem c_isOf {S : SV} {C : Mm} {p r : Nat} (h : RCp S C p) : f_X0_isOf p r C = some (b1 (ro S p 0 = r ∨ ro S p 1 = r)) := by
  obtain ⟨-, h1, h2, -⟩ := h
  unfold f_X0_isOf
  rw [h1, h2]
  by_cases q1 : ro S p 0 = r
  · rw [if_pos (congrArg some q1), b1_t (Or.inl q1)]
  · rw [if_neg (fun z => q1 (Option.some.inj z))]
    by_cases q2 : ro S p 1 = r
    · rw [if_pos (congrArg some q2), b1_t (Or.inr q2)]
    · rw [if_neg (fun z => q2 (Option.some.inj z)), b1_f (fun z => z.elim q1 q2)]
theorem rOf_n {S : SV} {r : Nat} (g : GA S) (h : S 10 r ≠ 0) : rOf S (nI r) = some r := by
  obtain ⟨a1, a2, -⟩ := g.1 r h
  unfold rOf
  rw [nI_tI (by omega), nI_cl (by omega), if_pos ⟨by omega, by omega, h⟩]
theorem RC_sub {S : SV} {C : Mm} {r v : Nat} (h : RC S C) : RC (up S 12 r v) (sI C 4 r 6 (nI v)) := by
  obtain ⟨h1, h2, h3, h4, h5⟩ := h
  refine ⟨h1, fun r' hr' => ?_, h3, h4, h5⟩
  obtain ⟨k1, k2, k3, k4, k5, k6, k7, k8, k9⟩ := h2 r' hr'
  refine ⟨?_, ?_, k3, k4, ?_, ?_, ?_, k8, k9⟩
  · rw [rd_I, if_neg (by omega)]; exact k1
  · rw [rd_I, if_neg (by omega)]; exact k2
  · rw [rd_I, if_neg (by omega)]; exact k5
  · rw [rd_I, if_neg (by omega)]; exact k6
  · rw [rd_I]
    by_cases q : r' = r
    · subst q; rw [if_pos ⟨rfl, rfl, rfl⟩, up_s]
    · rw [if_neg (fun z => q z.2.1), up_n (fun z => q z.2)]; exact k7
theorem m_sub {S : SV} {R : Mm} (h : RM S R) (g : GA S) {r : Nat} (hr : r ≤ 12) (w : Int32) : f_X4_substitute_33 0 (nI r) w R = if S 11 r = 0 then (if rns S r w then some ((1 : Int32), sI R 12 0 r w) else some ((0 : Int32), R)) else some ((0 : Int32), R) := by
  unfold f_X4_substitute_33
  rw [RM_ref h 1, RM_ref h 2]
  simp only [ob_s, lt_e]
  have h11 := (g.2.1 r).1
  rw [ix_n (by omega) (by omega), nI_cl (by omega), RM_I h 11]
  by_cases q : S 11 r = 0
  · rw [if_pos q, if_pos ((nI_z (by omega)).mpr q), m_runs h g hr, ob_s, b1_if]
    by_cases q1 : rns S r w
    · rw [if_pos q1, if_pos q1, ix_n (by omega) (by omega)]
    · rw [if_neg q1, if_neg q1]
  · rw [if_neg q, if_neg (fun z => q ((nI_z (by omega)).mp z))]
theorem s_substitute : S_substitute Inv := by
  intro k C R v w hk hI
  obtain ⟨S, hR, hC, g1, g2, g3, g4, g5⟩ := hI
  have stay : ∃ (r : Int32) (C' R' : Mm), some ((0 : Int32), C) = some (r, C') ∧ some ((0 : Int32), R) = some (r, R') ∧ Inv (k + 1) C' R' := ⟨0, C, R, rfl, rfl, Inv_st hR hC g1 g2 g3 hk g4 g5⟩
  unfold f_X3_substitute f_X4_substitute
  rw [c_raceNumbered hC g1, hC.1.2.2.1, RM_T hR, RM_ref hR 5, RM_17 hR, RM_18 hR, hC.1.2.2.2.1]
  simp only [ob_s]
  rw [ix_52, cl_52, RM_I hR 15]
  have h15 := g2.1 52
  by_cases q0 : (0 : Int32) < nI (S 0 19)
  · rw [if_pos q0, if_pos q0]; exact stay
  · rw [if_neg q0, if_neg q0]
    by_cases qd : S 15 52 = 0
    · rw [if_pos ((nI_z (by omega)).mpr qd), if_pos qd]
      cases hr : rOf S v with
      | none => rw [on_n]; exact stay
      | some r => rw [on_s, on_n]; exact stay
    · have hd : S 15 52 = 1 := by omega
      obtain ⟨d1, d2, d3⟩ := g2.2.2.1 hd
      obtain ⟨d4, d5⟩ := g2.2.2.2.1
      rw [if_neg (fun z => qd ((nI_z (by omega)).mp z)), if_neg qd]
      cases hr : rOf S v with
      | none =>
        rw [on_n, if_neg (fun z => by rw [z, rOf_n g1 d1] at hr; cases hr), if_neg (fun z => by rw [z, rOf_n g1 d2] at hr; cases hr)]
        exact stay
      | some r =>
        obtain ⟨r1, r2, r3, r4⟩ := rOf_s hr
        have hrr := hC.2.1 r r4
        have h11 := (g1.2.1 r).1
        have hl := GA_10 g1 r
        rw [on_s, on_s, ob_s, c_isOf (hC.2.2.1 52 qd).1, r1, m_sub hR g1 r3, ro_52a, ro_52b, ob_s, b1_if]
        have fin : ∃ (x : Int32) (C' R' : Mm), (if (mI C 4 r 4) = 0 then (ob (f_X1_isRunning r w C) fun r56 => if r56 = 0 then (some ((0 : Int32), C)) else (lt (sI C 4 r 6 w) fun M60 => some ((1 : Int32), M60))) else (some ((0 : Int32), C))) = some (x, C') ∧ (if S 11 r = 0 then (if rns S r w then some ((1 : Int32), sI R 12 0 r w) else some ((0 : Int32), R)) else some ((0 : Int32), R)) = some (x, R') ∧ Inv (k + 1) C' R' := by
          rw [hrr.2.2.2.2.1]
          by_cases q : S 11 r = 0
          · rw [if_pos q, if_pos ((nI_z (by omega)).mpr q), c_isRunning hrr g1, ob_s, b1_if]
            by_cases q1 : rns S r w
            · rw [if_pos q1, if_pos q1, lt_e]
              obtain ⟨e1, e2⟩ := i_of (x := w) (by omega)
              obtain ⟨⟨n1, n2⟩, n3⟩ := q1
              generalize w.toNatClampNeg = n at e1 e2 n3
              subst e1
              refine ⟨1, _, _, rfl, rfl, up S 12 r n, RM_sI hR (by omega), RC_sub hC, ⟨g1.1, g1.2.1, fun r' => ?_, g1.2.2.2.1, g1.2.2.2.2⟩, g2, GT_s g3 hk, g4, g5⟩
              by_cases e : r' = r
              · subst e; rw [up_s]; show n ≤ S 10 r'; omega
              · rw [up_n (fun z => e z.2)]; exact g1.2.2.1 r'
            · rw [if_neg q1, if_neg q1]; exact stay
          · rw [if_neg q, if_neg (fun z => q ((nI_z (by omega)).mp z))]; exact stay
        by_cases q1 : S 0 17 = r
        · rw [if_pos (c := nI r = nI (S 0 17)) (by rw [q1]), if_pos (Or.inl q1)]; exact fin
        · rw [if_neg (c := nI r = nI (S 0 17)) (fun z => q1 ((nI_e (by omega) (by omega)).mp z).symm)]
          by_cases q2 : S 0 18 = r
          · rw [if_pos (c := nI r = nI (S 0 18)) (by rw [q2]), if_pos (Or.inr q2)]; exact fin
          · rw [if_neg (c := nI r = nI (S 0 18)) (fun z => q2 ((nI_e (by omega) (by omega)).mp z).symm), if_neg (fun z => z.elim q1 q2)]; exact stay
