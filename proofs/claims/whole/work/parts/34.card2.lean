/-! ===== the calls substitute, pool, pair ===== -/
theorem ro_52a {S : SV} : ro S 52 0 = S 0 17 := rfl
theorem ro_52b {S : SV} : ro S 52 1 = S 0 18 := rfl
theorem c_isOf {S : SV} {C : Mm} {p r : Nat} (h : RCp S C p) : f_X0_isOf p r C = some (b1 (ro S p 0 = r ∨ ro S p 1 = r)) := by
  obtain ⟨-, h1, h2, -⟩ := h
  unfold f_X0_isOf
  rw [h1, h2]
  by_cases q1 : ro S p 0 = r
  · rw [if_pos (congrArg some q1), b1_t (Or.inl q1)]
  · rw [if_neg (fun z => q1 (Option.some.inj z))]
    by_cases q2 : ro S p 1 = r
    · rw [if_pos (congrArg some q2), b1_t (Or.inr q2)]
    · rw [if_neg (fun z => q2 (Option.some.inj z)), b1_f (fun z => z.elim q1 q2)]
theorem rOf_n {S : SV} {r : Nat} (g : GA S) (h : S 10 r ≠ 0) : rOf S (nI r) = some r := by
  obtain ⟨a1, a2, -⟩ := g.1 r h
  unfold rOf
  rw [nI_tI (by omega), nI_cl (by omega), if_pos ⟨by omega, by omega, h⟩]
theorem RC_sub {S : SV} {C : Mm} {r v : Nat} (h : RC S C) : RC (up S 12 r v) (sI C 4 r 6 (nI v)) := by
  obtain ⟨h1, h2, h3, h4, h5⟩ := h
  refine ⟨h1, fun r' hr' => ?_, h3, h4, h5⟩
  obtain ⟨k1, k2, k3, k4, k5, k6, k7, k8, k9⟩ := h2 r' hr'
  refine ⟨?_, ?_, k3, k4, ?_, ?_, ?_, k8, k9⟩
  · rw [rd_I, if_neg (by omega)]; exact k1
  · rw [rd_I, if_neg (by omega)]; exact k2
  · rw [rd_I, if_neg (by omega)]; exact k5
  · rw [rd_I, if_neg (by omega)]; exact k6
  · rw [rd_I]
    by_cases q : r' = r
    · subst q; rw [if_pos ⟨rfl, rfl, rfl⟩, up_s]
    · rw [if_neg (fun z => q z.2.1), up_n (fun z => q z.2)]; exact k7
theorem m_sub {S : SV} {R : Mm} (h : RM S R) (g : GA S) {r : Nat} (hr : r ≤ 12) (w : Int32) : f_X4_substitute_33 0 (nI r) w R = if S 11 r = 0 then (if rns S r w then some ((1 : Int32), sI R 12 0 r w) else some ((0 : Int32), R)) else some ((0 : Int32), R) := by
  unfold f_X4_substitute_33
  rw [RM_ref h 1, RM_ref h 2]
  simp only [ob_s, lt_e]
  have h11 := (g.2.1 r).1
  rw [ix_n (by omega) (by omega), nI_cl (by omega), RM_I h 11]
  by_cases q : S 11 r = 0
  · rw [if_pos q, if_pos ((nI_z (by omega)).mpr q), m_runs h g hr, ob_s, b1_if]
    by_cases q1 : rns S r w
    · rw [if_pos q1, if_pos q1, ix_n (by omega) (by omega)]
    · rw [if_neg q1, if_neg q1]
  · rw [if_neg q, if_neg (fun z => q ((nI_z (by omega)).mp z))]
theorem s_substitute : S_substitute Inv := by
  intro k C R v w hk hI
  obtain ⟨S, hR, hC, g1, g2, g3, g4, g5⟩ := hI
  have stay : ∃ (r : Int32) (C' R' : Mm), some ((0 : Int32), C) = some (r, C') ∧ some ((0 : Int32), R) = some (r, R') ∧ Inv (k + 1) C' R' := ⟨0, C, R, rfl, rfl, Inv_st hR hC g1 g2 g3 hk g4 g5⟩
  unfold f_X3_substitute f_X4_substitute
  rw [c_raceNumbered hC g1, hC.1.2.2.1, RM_T hR, RM_ref hR 5, RM_17 hR, RM_18 hR, hC.1.2.2.2.1]
  simp only [ob_s]
  rw [ix_52, cl_52, RM_I hR 15]
  have h15 := g2.1 52
  by_cases q0 : (0 : Int32) < nI (S 0 19)
  · rw [if_pos q0, if_pos q0]; exact stay
  · rw [if_neg q0, if_neg q0]
    by_cases qd : S 15 52 = 0
    · rw [if_pos ((nI_z (by omega)).mpr qd), if_pos qd]
      cases hr : rOf S v with
      | none => rw [on_n]; exact stay
      | some r => rw [on_s, on_n]; exact stay
    · have hd : S 15 52 = 1 := by omega
      obtain ⟨d1, d2, d3⟩ := g2.2.2.1 hd
      obtain ⟨d4, d5⟩ := g2.2.2.2.1
      rw [if_neg (fun z => qd ((nI_z (by omega)).mp z)), if_neg qd]
      cases hr : rOf S v with
      | none =>
        rw [on_n, if_neg (fun z => by rw [z, rOf_n g1 d1] at hr; cases hr), if_neg (fun z => by rw [z, rOf_n g1 d2] at hr; cases hr)]
        exact stay
      | some r =>
        obtain ⟨r1, r2, r3, r4⟩ := rOf_s hr
        have hrr := hC.2.1 r r4
        have h11 := (g1.2.1 r).1
        have hl := GA_10 g1 r
        rw [on_s, on_s, ob_s, c_isOf (hC.2.2.1 52 qd).1, r1, m_sub hR g1 r3, ro_52a, ro_52b, ob_s, b1_if]
        have fin : ∃ (x : Int32) (C' R' : Mm), (if (mI C 4 r 4) = 0 then (ob (f_X1_isRunning r w C) fun r56 => if r56 = 0 then (some ((0 : Int32), C)) else (lt (sI C 4 r 6 w) fun M60 => some ((1 : Int32), M60))) else (some ((0 : Int32), C))) = some (x, C') ∧ (if S 11 r = 0 then (if rns S r w then some ((1 : Int32), sI R 12 0 r w) else some ((0 : Int32), R)) else some ((0 : Int32), R)) = some (x, R') ∧ Inv (k + 1) C' R' := by
          rw [hrr.2.2.2.2.1]
          by_cases q : S 11 r = 0
          · rw [if_pos q, if_pos ((nI_z (by omega)).mpr q), c_isRunning hrr g1, ob_s, b1_if]
            by_cases q1 : rns S r w
            · rw [if_pos q1, if_pos q1, lt_e]
              obtain ⟨e1, e2⟩ := i_of (x := w) (by omega)
              obtain ⟨⟨n1, n2⟩, n3⟩ := q1
              generalize w.toNatClampNeg = n at e1 e2 n3
              subst e1
              refine ⟨1, _, _, rfl, rfl, up S 12 r n, RM_sI hR (by omega), RC_sub hC, ⟨g1.1, g1.2.1, fun r' => ?_, g1.2.2.2.1, g1.2.2.2.2⟩, g2, GT_s g3 hk, g4, g5⟩
              by_cases e : r' = r
              · subst e; rw [up_s]; show n ≤ S 10 r'; omega
              · rw [up_n (fun z => e z.2)]; exact g1.2.2.1 r'
            · rw [if_neg q1, if_neg q1]; exact stay
          · rw [if_neg q, if_neg (fun z => q ((nI_z (by omega)).mp z))]; exact stay
        by_cases q1 : S 0 17 = r
        · rw [if_pos (c := nI r = nI (S 0 17)) (by rw [q1]), if_pos (Or.inl q1)]; exact fin
        · rw [if_neg (c := nI r = nI (S 0 17)) (fun z => q1 ((nI_e (by omega) (by omega)).mp z).symm)]
          by_cases q2 : S 0 18 = r
          · rw [if_pos (c := nI r = nI (S 0 18)) (by rw [q2]), if_pos (Or.inr q2)]; exact fin
          · rw [if_neg (c := nI r = nI (S 0 18)) (fun z => q2 ((nI_e (by omega) (by omega)).mp z).symm), if_neg (fun z => z.elim q1 q2)]; exact stay
theorem terms_eq {d u : Int32} (R C : Mm) : f_X3_areTerms d u C = some (b1 (0 ≤ d.toInt ∧ d.toInt ≤ 999 ∧ 10 ≤ u.toInt ∧ u.toInt ≤ 1000 ∧ u - u / 10 * 10 = 0)) ∧ f_X4_may d u R = some (b1 (0 ≤ d.toInt ∧ d.toInt ≤ 999 ∧ 10 ≤ u.toInt ∧ u.toInt ≤ 1000 ∧ u - u / 10 * 10 = 0)) := by
  unfold f_X3_areTerms f_X4_may
  rw [m_in, m_in]
  simp only [ob_s, b1_if, i_lt]
  have t0 : (0 : Int32).toInt = 0 := rfl
  have t1 : (999 : Int32).toInt = 999 := rfl
  have t2 : (10 : Int32).toInt = 10 := rfl
  have t3 : (1000 : Int32).toInt = 1000 := rfl
  rw [t0, t1, t2, t3, dv_10]
  by_cases q1 : 0 ≤ d.toInt ∧ d.toInt ≤ 999
  · rw [if_neg (by omega), if_neg (by omega), if_pos q1]
    by_cases q2 : 10 ≤ u.toInt ∧ u.toInt ≤ 1000
    · rw [if_neg (by omega), if_neg (by omega), if_pos q2]
      by_cases q3 : u - u / 10 * 10 = 0
      · rw [if_pos q3, b1_t ⟨q1.1, q1.2, q2.1, q2.2, q3⟩]; exact ⟨rfl, rfl⟩
      · rw [if_neg q3, b1_f (fun z => q3 z.2.2.2.2)]; exact ⟨rfl, rfl⟩
    · rw [if_neg q2, b1_f (fun z => q2 ⟨z.2.2.1, z.2.2.2.1⟩)]
      refine ⟨?_, rfl⟩
      by_cases q3 : u.toInt < 10
      · rw [if_pos q3]
      · rw [if_neg q3, if_pos (by omega)]
  · rw [if_neg q1, b1_f (fun z => q1 ⟨z.1, z.2.1⟩)]
    refine ⟨?_, rfl⟩
    by_cases q3 : d.toInt < 0
    · rw [if_pos q3]
    · rw [if_neg q3, if_pos (by omega)]
theorem new_pool {S S' : SV} {k : Nat} {C C' R' : Mm} {p a b : Nat} (hC : RC S C) (g1 : GA S) (g2 : GP S) (g3 : GT S k) (hk : k < 512) (g4 : GM S) (g5 : GO S) (hT : S 0 19 = 0) (hp : S 15 p = 0)
    (e : ∀ s i, (s ≠ 0 ∨ (i ≠ 17 ∧ i ≠ 18)) → ¬ ((s = 15 ∨ s = 16 ∨ s = 17) ∧ i = p) → S' s i = S s i)
    (ero : ∀ p' j, p' ≠ p → ro S' p' j = ro S p' j) (e15 : S' 15 p = 1) (e16 : S' 16 p ≤ 999) (e17 : 10 ≤ S' 17 p ∧ S' 17 p ≤ 1000 ∧ S' 17 p % 10 = 0) (era : ro S' p 0 = a) (erb : ro S' p 1 = b)
    (f1 : p ≤ 52) (f2 : p = 52 ∨ S 10 (p / 4) ≠ 0) (f3 : S 11 a = 0) (f4 : S' 15 52 = 1 → S 10 (S' 0 17) ≠ 0 ∧ S 10 (S' 0 18) ≠ 0 ∧ S' 0 17 ≠ S' 0 18) (f5 : S' 0 17 < 13 ∧ S' 0 18 < 13) (hR : RM S' R')
    (c1 : ∀ s i j, s ≠ 7 → mI C' s i j = mI C s i j) (c2 : ∀ s i j, s ≠ 7 → mJ C' s i j = mJ C s i j) (c3 : ∀ s i j, s ≠ 7 → s ≠ 6 → ¬ (s = 1 ∧ j = 3) → mR C' s i j = mR C s i j) (c4 : mR C' 1 0 3 = if S' 15 52 = 0 then none else some 52) (c5 : ∀ r j, S 10 r ≠ 0 → j < 4 → mR C' 6 r j = if S' 15 (4 * r + j) = 0 then none else some (4 * r + j))
    (c6 : ∀ s i, ¬ (s = 7 ∧ i = p) → mA C' s i = mA C s i) (c7 : ∀ i j, i ≠ p → mI C' 7 i j = mI C 7 i j ∧ mJ C' 7 i j = mJ C 7 i j ∧ mR C' 7 i j = mR C 7 i j) (c8 : ∀ j, mJ C' 7 p j = 0) (c9 : mI C' 7 p 0 = nI (kd p) ∧ mI C' 7 p 3 = nI (S' 16 p) ∧ mI C' 7 p 4 = nI (S' 17 p) ∧ mI C' 7 p 6 = 0 ∧ mI C' 7 p 7 = 0 ∧ mR C' 7 p 1 = some a ∧ mR C' 7 p 2 = some b ∧ mR C' 7 p 5 = none) : Inv (k + 1) C' R' := by
  have es : ∀ s, s ≠ 0 → s ≠ 15 → s ≠ 16 → s ≠ 17 → S' s = S s := fun s h0 h1 h2 h3 => funext (fun i => e s i (Or.inl h0) (by omega))
  have e19 : S' 0 19 = S 0 19 := e 0 19 (Or.inr (by omega)) (by omega)
  have e25 : S' 0 25 = S 0 25 := e 0 25 (Or.inr (by omega)) (by omega)
  have e26 : S' 0 26 = S 0 26 := e 0 26 (Or.inr (by omega)) (by omega)
  have e10 := es 10 (by omega) (by omega) (by omega) (by omega)
  have e11 := es 11 (by omega) (by omega) (by omega) (by omega)
  have e12 := es 12 (by omega) (by omega) (by omega) (by omega)
  have e13 := es 13 (by omega) (by omega) (by omega) (by omega)
  have e14 := es 14 (by omega) (by omega) (by omega) (by omega)
  have e18 := es 18 (by omega) (by omega) (by omega) (by omega)
  have x19 := es 19 (by omega) (by omega) (by omega) (by omega)
  have x20 := es 20 (by omega) (by omega) (by omega) (by omega)
  have x21 := es 21 (by omega) (by omega) (by omega) (by omega)
  have x22 := es 22 (by omega) (by omega) (by omega) (by omega)
  have x23 := es 23 (by omega) (by omega) (by omega) (by omega)
  have x24 := es 24 (by omega) (by omega) (by omega) (by omega)
  have x25 := es 25 (by omega) (by omega) (by omega) (by omega)
  have x26 := es 26 (by omega) (by omega) (by omega) (by omega)
  have x27 := es 27 (by omega) (by omega) (by omega) (by omega)
  have x31 := es 31 (by omega) (by omega) (by omega) (by omega)
  have k15 : ∀ i, i ≠ p → S' 15 i = S 15 i := fun i hi => e 15 i (Or.inl (by omega)) (by omega)
  have k16 : ∀ i, i ≠ p → S' 16 i = S 16 i := fun i hi => e 16 i (Or.inl (by omega)) (by omega)
  have k17 : ∀ i, i ≠ p → S' 17 i = S 17 i := fun i hi => e 17 i (Or.inl (by omega)) (by omega)
  have noT : ∀ t, ¬ t < S' 0 19 := fun t => by omega
  obtain ⟨z18, z24⟩ := g2.2.2.2.2.1 p hp
  obtain ⟨z19, z20, z21, z22, z23, z25, z26⟩ := g2.2.2.2.2.2 p z18
  obtain ⟨y1, y2, y3, y4, y5, y6, y7, y8⟩ := c9
  obtain ⟨⟨h1, h2, h3, h4, h5, h6, h7⟩, hr, hpp, ht, ha⟩ := hC
  refine ⟨S', hR, ⟨⟨?_, ?_, ?_, c4, ?_, fun r hr' => ?_, fun t ht' => ?_⟩, fun r hr' => ?_, fun q hq => ?_, fun t ht' => absurd ht' (noT t), ?_⟩, ?_, ?_, ?_, ?_, ?_⟩
  · rw [c3 1 0 0 (by omega) (by omega) (by omega)]; exact h1
  · rw [c3 1 0 1 (by omega) (by omega) (by omega)]; exact h2
  · rw [c1 1 0 2 (by omega), e19]; exact h3
  · rw [c2 1 0 4 (by omega), e26]; exact h5
  · rw [c3 2 0 r (by omega) (by omega) (by omega), e10]; exact h6 r hr'
  · rw [c3 3 0 t (by omega) (by omega) (by omega), e19]; exact h7 t ht'
  · rw [e10] at hr'
    obtain ⟨k1, k2, k3, k4, k5, k6, k7, k8, k9⟩ := hr r hr'
    refine ⟨?_, ?_, ?_, ?_, ?_, ?_, ?_, fun m hm => ?_, fun j hj => c5 r j hr' hj⟩
    · rw [c1 4 r 0 (by omega)]; exact k1
    · rw [c1 4 r 1 (by omega), e10]; exact k2
    · rw [c3 4 r 2 (by omega) (by omega) (by omega)]; exact k3
    · rw [c3 4 r 3 (by omega) (by omega) (by omega)]; exact k4
    · rw [c1 4 r 4 (by omega), e11]; exact k5
    · unfold rng; rw [c1 4 r 5 (by omega), e10, e13]; exact k6
    · rw [c1 4 r 6 (by omega), e12]; exact k7
    · rw [c1 5 r m (by omega), e13, e14]; exact k8 m hm
  · by_cases eq : q = p
    · subst eq
      refine ⟨⟨y1, ?_, ?_, y2, y3, ?_, ?_, ?_, ?_, ?_, ?_, ?_, ?_, ?_, ?_⟩, fun _ => c8 8, fun z => by rw [e18, z18] at z; cases z⟩
      · rw [era]; exact y6
      · rw [erb]; exact y7
      · rw [e19, hT]; exact y8
      · rw [e18, z18]; exact y4
      · rw [x26, z26]; exact y5
      · rw [x19, z19]; exact c8 10
      · rw [x20, z20]; exact c8 11
      · rw [x21, z21]; exact c8 12
      · rw [x22, z22]; exact c8 13
      · rw [x24, z24]; exact c8 14
      · rw [x23, z23]; exact c8 15
      · rw [x25, z25]; exact c8 16
    · rw [k15 q eq] at hq
      obtain ⟨⟨r1, r2, r3, r4, r5, r6, r7, r8, r9, r10, r11, r12, r13, r14, r15⟩, d1, d2⟩ := hpp q hq
      refine ⟨⟨?_, ?_, ?_, ?_, ?_, ?_, ?_, ?_, ?_, ?_, ?_, ?_, ?_, ?_, ?_⟩, fun z => ?_, fun z => ?_⟩
      · rw [(c7 q 0 eq).1]; exact r1
      · rw [(c7 q 1 eq).2.2, ero q 0 eq]; exact r2
      · rw [(c7 q 2 eq).2.2, ero q 1 eq]; exact r3
      · rw [(c7 q 3 eq).1, k16 q eq]; exact r4
      · rw [(c7 q 4 eq).1, k17 q eq]; exact r5
      · rw [(c7 q 5 eq).2.2, x27, e19]; exact r6
      · rw [(c7 q 6 eq).1, e18]; exact r7
      · rw [(c7 q 7 eq).1, x26]; exact r8
      · rw [(c7 q 10 eq).2.1, x19]; exact r9
      · rw [(c7 q 11 eq).2.1, x20]; exact r10
      · rw [(c7 q 12 eq).2.1, x21]; exact r11
      · rw [(c7 q 13 eq).2.1, x22]; exact r12
      · rw [(c7 q 14 eq).2.1, x24]; exact r13
      · rw [(c7 q 15 eq).2.1, x23]; exact r14
      · rw [(c7 q 16 eq).2.1, x25]; exact r15
      · rw [(c7 q 8 eq).2.1]; rw [e18] at z; exact d1 z
      · rw [e18] at z
        obtain ⟨N, W, w1, w2, w3, w4, -⟩ := d2 z
        exact ⟨N, W, w1, w2, by rw [(c7 q 8 eq).2.1]; exact w3, by rw [(c7 q 9 eq).2.1]; exact w4, fun t ht' => absurd ht' (noT t)⟩
  · obtain ⟨a1, a2, a3⟩ := ha
    refine ⟨fun r hr' => ?_, fun q hq => ?_, fun t ht' => ?_⟩
    · rw [e10] at hr'
      rw [c6 4 r (by omega), c6 5 r (by omega), c6 6 r (by omega)]; exact a1 r hr'
    · have eq : q ≠ p := fun z => by rw [z, e15] at hq; cases hq
      rw [k15 q eq] at hq
      rw [c6 7 q (by omega)]; exact a2 q hq
    · rw [c6 8 t (by omega)]; exact a3 t (by omega)
  · unfold GA; rw [e10, e11, e12, e13, e14]; exact g1
  · obtain ⟨b1', b2', b3', b4', b5', b6'⟩ := g2
    refine ⟨fun q => ?_, fun q hq => ?_, fun h => ?_, f5, fun q hq => ?_, fun q hq => ?_⟩
    · by_cases eq : q = p
      · subst eq; omega
      · rw [k15 q eq]; exact b1' q
    · rw [e10, e11, e18]
      by_cases eq : q = p
      · subst eq
        refine ⟨f1, f2, e16, e17.1, e17.2.1, e17.2.2, by omega, ?_⟩
        show S 18 q = 0 ↔ ¬ (S 11 (ro S' q 0) = 2 ∧ S 11 (ro S' q 1) = 2)
        rw [era, f3]; omega
      · rw [k15 q eq] at hq
        obtain ⟨w1, w2, w3, w4, w5, w6, w7, w8⟩ := b2' q hq
        rw [k16 q eq, k17 q eq]
        refine ⟨w1, w2, w3, w4, w5, w6, w7, ?_⟩
        show S 18 q = 0 ↔ ¬ (S 11 (ro S' q 0) = 2 ∧ S 11 (ro S' q 1) = 2)
        rw [ero q 0 eq, ero q 1 eq]; exact w8
    · rw [e10]; exact f4 h
    · have eq : q ≠ p := fun z => by rw [z, e15] at hq; cases hq
      rw [k15 q eq] at hq
      rw [e18, x24]; exact b5' q hq
    · rw [e18] at hq
      rw [x19, x20, x21, x22, x23, x25, x26]; exact b6' q hq
  · obtain ⟨t1, t2, t3, t4, t5, t6⟩ := GT_s g3 hk
    exact ⟨by omega, t2, fun t ht' => absurd ht' (noT t), fun t _ => by rw [x31]; exact t4 t (Or.inl (by omega)), fun t ht' => absurd ht' (noT t), fun t ht' => absurd ht' (noT t)⟩
  · refine ⟨?_, ?_, ?_⟩
    · rw [e25, e19, hT]
      have := g4.1
      rw [hT] at this
      exact this
    · rw [e11, x24]; exact g4.2.1
    · rw [e11, e26, x26]; exact g4.2.2
  · unfold GO GOr; rw [e10, e11, e14]; exact g5
theorem m_opens {S : SV} {R : Mm} (h : RM S R) {p d u : Nat} (hp : p ≤ 52) : ∃ R' : Mm, f_X4_opens 0 (nI p) (nI d) (nI u) R = some ((1 : Int32), R') ∧ RM (up (up (up S 15 p 1) 16 p d) 17 p u) R' := by
  unfold f_X4_opens
  have a1 := RM_sI (S := S) (R := R) (s := 15) (i := p) (v := 1) h (by omega)
  have a2 := RM_sI (s := 16) (i := p) (v := d) a1 (by omega)
  have a3 := RM_sI (s := 17) (i := p) (v := u) a2 (by omega)
  refine ⟨_, ?_, a3⟩
  rw [RM_ref h 5]
  simp only [ob_s, lt_e]
  rw [ix_n (by omega) (by omega), nI_cl (by omega), show (1 : Int32) = nI 1 from rfl, RM_ref a1 6]
  simp only [ob_s]
  rw [ix_n (by omega) (by omega), RM_ref a2 7]
  simp only [ob_s]
  rw [ix_n (by omega) (by omega)]
theorem s_pool : S_pool Inv := by
  intro k C R v w d u hk hI
  obtain ⟨S, hR, hC, g1, g2, g3, g4, g5⟩ := hI
  have stay : ∃ (r : Int32) (C' R' : Mm), some ((0 : Int32), C) = some (r, C') ∧ some ((0 : Int32), R) = some (r, R') ∧ Inv (k + 1) C' R' := ⟨0, C, R, rfl, rfl, Inv_st hR hC g1 g2 g3 hk g4 g5⟩
  unfold f_X3_pool f_X4_pool
  rw [c_raceNumbered hC g1, hC.1.2.2.1, RM_T hR, m_isRace hR g1, RM_ref hR 1, RM_ref hR 5, m_in, (terms_eq R C).1, (terms_eq R C).2]
  simp only [ob_s, lt_e, b1_if, i_lt, i_le]
  by_cases q0 : (0 : Int32).toInt < (nI (S 0 19)).toInt
  · rw [if_pos q0, if_pos q0]; exact stay
  · rw [if_neg q0, if_neg q0]
    have hT : S 0 19 = 0 := Decidable.byContradiction (fun z => q0 (i_lt.mp ((sold0 g3).mpr z)))
    cases hr : rOf S v with
    | none => rw [on_n, if_neg (fun z => z rfl)]; exact stay
    | some r =>
      obtain ⟨r1, r2, r3, r4⟩ := rOf_s hr
      have hrr := hC.2.1 r r4
      have h11 := (g1.2.1 r).1
      subst r1
      rw [on_s, if_pos (fun z => by cases z), ix_n (by omega) (by omega), nI_cl (by omega), RM_I hR 11, hrr.2.2.2.2.1, hrr.2.2.2.1]
      simp only [ob_s]
      by_cases q1 : S 11 r = 0
      · rw [if_pos ((nI_z (by omega)).mpr q1), if_pos ((nI_z (by omega)).mpr q1)]
        by_cases q2 : 0 ≤ d.toInt ∧ d.toInt ≤ 999 ∧ 10 ≤ u.toInt ∧ u.toInt ≤ 1000 ∧ u - u / 10 * 10 = 0
        · rw [if_pos q2, if_pos q2]
          by_cases q3 : (0 : Int32).toInt ≤ w.toInt ∧ w.toInt ≤ (3 : Int32).toInt
          · have q3' : 0 ≤ w.toInt ∧ w.toInt ≤ 3 := q3
            rw [if_pos q3, if_neg (show ¬ w.toInt < (0 : Int32).toInt from by show ¬ w.toInt < 0; omega), if_neg (show ¬ (4 : Int32).toInt ≤ w.toInt from by show ¬ 4 ≤ w.toInt; omega)]
            obtain ⟨e1, e2⟩ := i_of (x := w) (by omega)
            obtain ⟨e3, e4⟩ := i_of (x := d) (by omega)
            obtain ⟨e5, e6⟩ := i_of (x := u) (by omega)
            generalize w.toNatClampNeg = j at e1 e2 ⊢
            generalize d.toNatClampNeg = dn at e3 e4
            generalize u.toNatClampNeg = un at e5 e6
            subst e1 e3 e5
            have e7 : (4 : Int32) * nI r + nI j = nI (4 * r + j) := by
              rw [show (4 : Int32) = nI 4 from rfl, pk_mul]; exact nI_add _ _
            rw [e7, ix_n (by omega) (by omega), ix_n (by omega) (by omega), nI_cl (n := 4 * r + j) (by omega), RM_I hR 15, hrr.2.2.2.2.2.2.2.2 j (by omega)]
            have h15 := g2.1 (4 * r + j)
            by_cases q4 : S 15 (4 * r + j) = 0
            · rw [if_pos q4, if_pos ((nI_z (by omega)).mpr q4), on_n]
              have a2 := hC.2.2.2.2.2.1 (4 * r + j) q4
              rw [nw_f a2]
              obtain ⟨R', o1, o2⟩ := m_opens hR (p := 4 * r + j) (d := dn) (u := un) (by omega)
              rw [o1]
              simp only [ob_s]
              rw [zb_1]
              unfold f_X0_init
              simp only [lt_e, ob_s]
              have m10 : un % 10 = 0 := by
                have e : nI un - nI un / 10 * 10 = nI (un % 10) := pk_rem (d := 10) (by omega) (by omega) (by omega)
                exact (nI_z (by omega)).mp (e.symm.trans q2.2.2.2.2)
              have p52 : 4 * r + j ≠ 52 := by omega
              have kdp : kd (4 * r + j) = j := by unfold kd; rw [if_neg p52]; omega
              have rop : ∀ i, ro S (4 * r + j) i = r := fun i => by unfold ro; rw [if_neg p52]; omega
              rw [ix_n (by omega) (by omega)]
              refine ⟨1, _, R', rfl, rfl, new_pool (S' := up (up (up S 15 (4 * r + j) 1) 16 (4 * r + j) dn) 17 (4 * r + j) un) hC g1 g2 g3 hk g4 g5 (p := 4 * r + j) (a := r) (b := r) hT q4 (fun s i h1 h2 => ?_) (fun p' i _ => rfl) ?_ ?_ ?_ (rop 0) (rop 1) (by omega) (Or.inr (by rw [show (4 * r + j) / 4 = r by omega]; exact r4)) q1 (fun z => ?_) g2.2.2.2.1 o2 (fun s i m h => ?_) (fun s i m h => ?_) (fun s i m h1 h2 h3 => ?_) ?_ (fun r' m h1 h2 => ?_) (fun s i h => ?_) (fun i m h => ?_) (fun m => ?_) ?_⟩
              · rw [up_n (by omega), up_n (by omega), up_n (by omega)]
              · rw [up_n (by omega), up_n (by omega), up_s]
              · rw [up_n (by omega), up_s]; omega
              · rw [up_s]; omega
              · rw [up_n (by omega), up_n (by omega), up_n (by omega)] at z; exact g2.2.2.1 z
              · rw [rd_IR, rd_I, if_neg (by omega), rd_I, if_neg (by omega), rd_IR, rd_IR, rd_I, if_neg (by omega), rn_I, if_neg (by omega)]
              · rw [rd_JR, rd_JI, rd_JI, rd_JR, rd_JR, rd_JI, rn_J, if_neg (by omega)]
              · rw [rd_R, if_neg (by omega), rd_RI, rd_RI, rd_R, if_neg (by omega), rd_R, if_neg (by omega), rd_RI, rn_R, if_neg (by omega)]
              · rw [rd_R, if_neg (by omega), rd_RI, rd_RI, rd_R, if_neg (by omega), rd_R, if_neg (by omega), rd_RI, rn_R, if_neg (by omega), up_n (by omega), up_n (by omega), up_n (by omega)]
                exact hC.1.2.2.2.1
              · rw [up_n (by omega), up_n (by omega), rd_R]
                by_cases z : r' = r ∧ m = j
                · obtain ⟨rfl, rfl⟩ := z
                  rw [if_pos ⟨rfl, rfl, rfl⟩, up_s, if_neg (by omega)]
                · rw [if_neg (fun y => z y.2), rd_RI, rd_RI, rd_R, if_neg (by omega), rd_R, if_neg (by omega), rd_RI, rn_R, if_neg (by omega), up_n (by omega)]
                  exact (hC.2.1 r' h1).2.2.2.2.2.2.2.2 m h2
              · rw [rd_AR, rd_AI, rd_AI, rd_AR, rd_AR, rd_AI, rn_A, if_neg h]
              · refine ⟨?_, ?_, ?_⟩
                · rw [rd_IR, rd_I, if_neg (by omega), rd_I, if_neg (by omega), rd_IR, rd_IR, rd_I, if_neg (by omega), rn_I, if_neg (by omega)]
                · rw [rd_JR, rd_JI, rd_JI, rd_JR, rd_JR, rd_JI, rn_J, if_neg (by omega)]
                · rw [rd_R, if_neg (by omega), rd_RI, rd_RI, rd_R, if_neg (by omega), rd_R, if_neg (by omega), rd_RI, rn_R, if_neg (by omega)]
              · rw [rd_JR, rd_JI, rd_JI, rd_JR, rd_JR, rd_JI, rn_J, if_pos ⟨rfl, rfl⟩]
              · refine ⟨?_, ?_, ?_, ?_, ?_, ?_, ?_, ?_⟩
                · rw [rd_IR, rd_I, if_neg (by omega), rd_I, if_neg (by omega), rd_IR, rd_IR, rd_I, if_pos ⟨rfl, rfl, rfl⟩, kdp]
                · rw [rd_IR, rd_I, if_neg (by omega), rd_I, if_pos ⟨rfl, rfl, rfl⟩, up_n (by omega), up_s]
                · rw [rd_IR, rd_I, if_pos ⟨rfl, rfl, rfl⟩, up_s]
                · rw [rd_IR, rd_I, if_neg (by omega), rd_I, if_neg (by omega), rd_IR, rd_IR, rd_I, if_neg (by omega), rn_I, if_pos ⟨rfl, rfl⟩]
                · rw [rd_IR, rd_I, if_neg (by omega), rd_I, if_neg (by omega), rd_IR, rd_IR, rd_I, if_neg (by omega), rn_I, if_pos ⟨rfl, rfl⟩]
                · rw [rd_R, if_neg (by omega), rd_RI, rd_RI, rd_R, if_neg (by omega), rd_R, if_pos ⟨rfl, rfl, rfl⟩]
                · rw [rd_R, if_neg (by omega), rd_RI, rd_RI, rd_R, if_pos ⟨rfl, rfl, rfl⟩]
                · rw [rd_R, if_neg (by omega), rd_RI, rd_RI, rd_R, if_neg (by omega), rd_R, if_neg (by omega), rd_RI, rn_R, if_pos ⟨rfl, rfl⟩]
            · rw [if_neg q4, if_neg (fun z => q4 ((nI_z (by omega)).mp z)), on_s]; exact stay
          · rw [if_neg q3]
            have q3' : ¬ (0 ≤ w.toInt ∧ w.toInt ≤ 3) := q3
            by_cases q4 : w.toInt < (0 : Int32).toInt
            · rw [if_pos q4]; exact stay
            · have q4' : ¬ w.toInt < 0 := q4
              rw [if_neg q4, if_pos (show (4 : Int32).toInt ≤ w.toInt from by show 4 ≤ w.toInt; omega)]; exact stay
        · rw [if_neg q2, if_neg q2, ite_self]; exact stay
      · rw [if_neg (fun z => q1 ((nI_z (by omega)).mp z)), if_neg (fun z => q1 ((nI_z (by omega)).mp z))]; exact stay
theorem s_pair : S_pair Inv := by
  intro k C R v w d u hk hI
  obtain ⟨S, hR, hC, g1, g2, g3, g4, g5⟩ := hI
  have stay : ∃ (r : Int32) (C' R' : Mm), some ((0 : Int32), C) = some (r, C') ∧ some ((0 : Int32), R) = some (r, R') ∧ Inv (k + 1) C' R' := ⟨0, C, R, rfl, rfl, Inv_st hR hC g1 g2 g3 hk g4 g5⟩
  unfold f_X3_pair f_X4_pair
  rw [c_raceNumbered hC g1, c_raceNumbered hC g1, hC.1.2.2.1, RM_T hR, m_isRace hR g1, m_isRace hR g1, RM_ref hR 1, RM_ref hR 5, hC.1.2.2.2.1, (terms_eq R C).1, (terms_eq R C).2]
  simp only [ob_s, lt_e, b1_if, i_lt]
  by_cases q0 : (0 : Int32).toInt < (nI (S 0 19)).toInt
  · rw [if_pos q0, if_pos q0]; exact stay
  · rw [if_neg q0, if_neg q0]
    have hT : S 0 19 = 0 := Decidable.byContradiction (fun z => q0 (i_lt.mp ((sold0 g3).mpr z)))
    cases hr : rOf S v with
    | none => rw [on_n, if_neg (fun z => z rfl)]; exact stay
    | some r =>
      obtain ⟨r1, r2, r3, r4⟩ := rOf_s hr
      have hrr := hC.2.1 r r4
      have h11 := (g1.2.1 r).1
      subst r1
      rw [on_s, if_pos (fun z => by cases z)]
      cases hs : rOf S w with
      | none => rw [on_n, if_neg (fun z => z rfl)]; exact stay
      | some s =>
        obtain ⟨s1, s2, s3, s4⟩ := rOf_s hs
        have hss := hC.2.1 s s4
        have h12 := (g1.2.1 s).1
        subst s1
        rw [on_s, if_pos (fun z => by cases z)]
        by_cases q5 : r = s
        · rw [if_pos (congrArg some q5), if_pos (congrArg nI q5)]; exact stay
        · rw [if_neg (fun z => q5 (Option.some.inj z)), if_neg (fun z => q5 ((nI_e (by omega) (by omega)).mp z)), ix_n (by omega) (by omega), ix_n (by omega) (by omega), nI_cl (by omega), nI_cl (by omega), RM_I hR 11, RM_I hR 11, hrr.2.2.2.2.1, hss.2.2.2.2.1]
          by_cases q1 : S 11 r = 0
          · rw [if_pos ((nI_z (by omega)).mpr q1), if_pos ((nI_z (by omega)).mpr q1)]
            by_cases q6 : S 11 s = 0
            · rw [if_pos ((nI_z (by omega)).mpr q6), if_pos ((nI_z (by omega)).mpr q6)]
              by_cases q2 : 0 ≤ d.toInt ∧ d.toInt ≤ 999 ∧ 10 ≤ u.toInt ∧ u.toInt ≤ 1000 ∧ u - u / 10 * 10 = 0
              · rw [if_pos q2, if_pos q2]
                obtain ⟨e3, e4⟩ := i_of (x := d) (by omega)
                obtain ⟨e5, e6⟩ := i_of (x := u) (by omega)
                generalize d.toNatClampNeg = dn at e3 e4
                generalize u.toNatClampNeg = un at e5 e6
                subst e3 e5
                rw [ix_52, cl_52, RM_I hR 15]
                have h15 := g2.1 52
                by_cases q4 : S 15 52 = 0
                · rw [if_pos q4, if_pos ((nI_z (by omega)).mpr q4), on_n]
                  have a2 := hC.2.2.2.2.2.1 52 q4
                  rw [nw_f a2]
                  have y1 := RM_s0 (k := 17) (v := r) hR (by omega)
                  have y2 := RM_s0 (k := 18) (v := s) y1 (by omega)
                  obtain ⟨R', o1, o2⟩ := m_opens y2 (p := 52) (d := dn) (u := un) (by omega)
                  have o1' : f_X4_opens 0 (52 : Int32) (nI dn) (nI un) (sI (sI R 0 0 17 (nI r)) 0 0 18 (nI s)) = some ((1 : Int32), R') := o1
                  rw [o1']
                  simp only [ob_s]
                  rw [zb_1]
                  unfold f_X0_init
                  simp only [lt_e, ob_s]
                  have m10 : un % 10 = 0 := by
                    have e : nI un - nI un / 10 * 10 = nI (un % 10) := pk_rem (d := 10) (by omega) (by omega) (by omega)
                    exact (nI_z (by omega)).mp (e.symm.trans q2.2.2.2.2)
                  refine ⟨1, _, R', rfl, rfl, new_pool (S' := up (up (up (up (up S 0 17 r) 0 18 s) 15 52 1) 16 52 dn) 17 52 un) hC g1 g2 g3 hk g4 g5 (p := 52) (a := r) (b := s) hT q4 (fun s i h1 h2 => ?_) (fun p' i hp' => ?_) ?_ ?_ ?_ ?_ ?_ (by omega) (Or.inl rfl) q1 (fun z => ?_) ?_ o2 (fun s i m h => ?_) (fun s i m h => ?_) (fun s i m h1 h2 h3 => ?_) ?_ (fun r' m h1 h2 => ?_) (fun s i h => ?_) (fun i m h => ?_) (fun m => ?_) ?_⟩
                  · rw [up_n (by omega), up_n (by omega), up_n (by omega), up_n (by omega), up_n (by omega)]
                  · unfold ro; rw [if_neg hp', if_neg hp']
                  · rw [up_n (by omega), up_n (by omega), up_s]
                  · rw [up_n (by omega), up_s]; omega
                  · rw [up_s]; omega
                  · rw [ro_52a, up_n (by omega), up_n (by omega), up_n (by omega), up_n (by omega), up_s]
                  · rw [ro_52b, up_n (by omega), up_n (by omega), up_n (by omega), up_s]
                  · rw [up_n (by omega), up_n (by omega), up_n (by omega), up_n (by omega), up_s, up_n (by omega), up_n (by omega), up_n (by omega), up_s]
                    exact ⟨r4, s4, q5⟩
                  · rw [up_n (by omega), up_n (by omega), up_n (by omega), up_n (by omega), up_s, up_n (by omega), up_n (by omega), up_n (by omega), up_s]; omega
                  · rw [rd_IR, rd_I, if_neg (by omega), rd_I, if_neg (by omega), rd_IR, rd_IR, rd_I, if_neg (by omega), rn_I, if_neg (by omega)]
                  · rw [rd_JR, rd_JI, rd_JI, rd_JR, rd_JR, rd_JI, rn_J, if_neg (by omega)]
                  · by_cases hz : s = 1 ∧ i = 0 ∧ m = 3
                    · exact absurd ⟨hz.1, hz.2.2⟩ h3
                    · rw [rd_R, if_neg hz, rd_RI, rd_RI, rd_R, if_neg (by omega), rd_R, if_neg (by omega), rd_RI, rn_R, if_neg (by omega)]
                  · rw [rd_R, if_pos ⟨rfl, rfl, rfl⟩, up_n (by omega), up_n (by omega), up_s, if_neg (by omega)]
                  · rw [rd_R, if_neg (by omega), rd_RI, rd_RI, rd_R, if_neg (by omega), rd_R, if_neg (by omega), rd_RI, rn_R, if_neg (by omega)]
                    have r12 := (g1.1 r' h1).2.1
                    rw [up_n (by omega), up_n (by omega), up_n (by omega), up_n (by omega), up_n (by omega)]
                    exact (hC.2.1 r' h1).2.2.2.2.2.2.2.2 m h2
                  · rw [rd_AR, rd_AI, rd_AI, rd_AR, rd_AR, rd_AI, rn_A, if_neg h]
                  · refine ⟨?_, ?_, ?_⟩
                    · rw [rd_IR, rd_I, if_neg (by omega), rd_I, if_neg (by omega), rd_IR, rd_IR, rd_I, if_neg (by omega), rn_I, if_neg (by omega)]
                    · rw [rd_JR, rd_JI, rd_JI, rd_JR, rd_JR, rd_JI, rn_J, if_neg (by omega)]
                    · rw [rd_R, if_neg (by omega), rd_RI, rd_RI, rd_R, if_neg (by omega), rd_R, if_neg (by omega), rd_RI, rn_R, if_neg (by omega)]
                  · rw [rd_JR, rd_JI, rd_JI, rd_JR, rd_JR, rd_JI, rn_J, if_pos ⟨rfl, rfl⟩]
                  · refine ⟨?_, ?_, ?_, ?_, ?_, ?_, ?_, ?_⟩
                    · rw [rd_IR, rd_I, if_neg (by omega), rd_I, if_neg (by omega), rd_IR, rd_IR, rd_I, if_pos ⟨rfl, rfl, rfl⟩]; rfl
                    · rw [rd_IR, rd_I, if_neg (by omega), rd_I, if_pos ⟨rfl, rfl, rfl⟩, up_n (by omega), up_s]
                    · rw [rd_IR, rd_I, if_pos ⟨rfl, rfl, rfl⟩, up_s]
                    · rw [rd_IR, rd_I, if_neg (by omega), rd_I, if_neg (by omega), rd_IR, rd_IR, rd_I, if_neg (by omega), rn_I, if_pos ⟨rfl, rfl⟩]
                    · rw [rd_IR, rd_I, if_neg (by omega), rd_I, if_neg (by omega), rd_IR, rd_IR, rd_I, if_neg (by omega), rn_I, if_pos ⟨rfl, rfl⟩]
                    · rw [rd_R, if_neg (by omega), rd_RI, rd_RI, rd_R, if_neg (by omega), rd_R, if_pos ⟨rfl, rfl, rfl⟩]
                    · rw [rd_R, if_neg (by omega), rd_RI, rd_RI, rd_R, if_pos ⟨rfl, rfl, rfl⟩]
                    · rw [rd_R, if_neg (by omega), rd_RI, rd_RI, rd_R, if_neg (by omega), rd_R, if_neg (by omega), rd_RI, rn_R, if_pos ⟨rfl, rfl⟩]
                · rw [if_neg q4, if_neg (fun z => q4 ((nI_z (by omega)).mp z)), on_s]; exact stay
              · rw [if_neg q2, if_neg q2]; exact stay
            · rw [if_neg (fun z => q6 ((nI_z (by omega)).mp z)), if_neg (fun z => q6 ((nI_z (by omega)).mp z))]; exact stay
          · rw [if_neg (fun z => q1 ((nI_z (by omega)).mp z)), if_neg (fun z => q1 ((nI_z (by omega)).mp z))]; exact stay
