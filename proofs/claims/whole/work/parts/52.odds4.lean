/-! ===== the call odds: the checks ===== -/
theorem pOf_v {S : SV} {v w : Int32} {p : Nat} (h : pOf S v w = some p) (hp : p ≠ 52) : v = nI (p / 4) := by
  unfold pOf at h
  by_cases q : w = 4
  · rw [if_pos q] at h
    by_cases q0 : S 15 52 = 0
    · rw [if_pos q0] at h; cases h
    · rw [if_neg q0] at h; cases h; exact absurd rfl hp
  · rw [if_neg q] at h
    cases hr : rOf S v with
    | none => rw [hr] at h; cases h
    | some r =>
      rw [hr] at h
      obtain ⟨r1, r2, r3, r4⟩ := rOf_s hr
      by_cases q1 : 0 ≤ w.toInt ∧ w.toInt ≤ 3 ∧ S 15 (4 * r + w.toNatClampNeg) ≠ 0
      · have h' : (if 0 ≤ w.toInt ∧ w.toInt ≤ 3 ∧ S 15 (4 * r + w.toNatClampNeg) ≠ 0 then some (4 * r + w.toNatClampNeg) else none) = some p := h
        rw [if_pos q1] at h'
        cases h'
        obtain ⟨e1, e2⟩ := i_of (x := w) q1.1
        rw [r1]
        exact congrArg nI (by omega)
      · have h' : (if 0 ≤ w.toInt ∧ w.toInt ≤ 3 ∧ S 15 (4 * r + w.toNatClampNeg) ≠ 0 then some (4 * r + w.toNatClampNeg) else none) = some p := h
        rw [if_neg q1] at h'
        cases h'
theorem m_99 {S : SV} {M : Mm} {r p m : Nat} {a b c : Int32} (h : RM S M) (g1 : GA S) (hr : r ≤ 12) (hn : NMD M a b c) (hm : m = if 3 ≤ rng S r then 3 else rng S r) (hm1 : 1 ≤ m) : f_X4_odds_99 FU 0 (nI r) a b c (nI p) (nI m) (0 : Int32) M = if cfnI S r a b c then f_X4_odds_167 FU 0 a b c (nI p) (0 : Int32) M else some ((-1 : Int32), M) := by
  have hm3 : m ≤ 3 := by rw [hm]; split <;> omega
  have st : ∀ n i v, i < m → mI M 32 0 i = v → f_X4_odds_99 (n + 1) 0 (nI r) a b c (nI p) (nI m) (nI i) M = if rns S r v then f_X4_odds_126 (f_X4_odds_99 n) FU 0 (nI r) a b c (nI p) (nI m) (nI i) (nI 0) M else some ((-1 : Int32), M) := fun n i v hi hv => by
    rw [f_X4_odds_99, if_neg (fun z => by have := (i_le_n (by omega) (by omega)).mp z; omega), RM_ref h 27]
    simp only [ob_s]
    rw [ix_n (by omega) (by omega), nI_cl (by omega), hv, m_runs h g1 hr]
    simp only [ob_s, b1_if]
    rfl
  have en : ∀ n, f_X4_odds_99 (n + 1) 0 (nI r) a b c (nI p) (nI m) (nI m) M = f_X4_odds_167 FU 0 a b c (nI p) (0 : Int32) M := fun n => by
    rw [f_X4_odds_99, if_pos ((i_le_n (by omega) (by omega)).mpr (Nat.le_refl _))]
  have s6 : ∀ K n i j vi vj, j < i → i < 3 → mI M 32 0 i = vi → mI M 32 0 j = vj → f_X4_odds_126 K (n + 1) 0 (nI r) a b c (nI p) (nI m) (nI i) (nI j) M = if vi = vj then some ((-1 : Int32), M) else f_X4_odds_126 K n 0 (nI r) a b c (nI p) (nI m) (nI i) (nI (j + 1)) M := fun K n i j vi vj hj hi e1 e2 => by
    rw [f_X4_odds_126, if_neg (fun z => by have := (i_le_n (by omega) (by omega)).mp z; omega), RM_ref h 27]
    simp only [ob_s, lt_e]
    rw [ix_n (by omega) (by omega), ix_n (by omega) (by omega), nI_cl (by omega), nI_cl (by omega), e1, e2, nI_1]
  have e6 : ∀ K n i, i < 3 → f_X4_odds_126 K (n + 1) 0 (nI r) a b c (nI p) (nI m) (nI i) (nI i) M = K 0 (nI r) a b c (nI p) (nI m) (nI (i + 1)) M := fun K n i hi => by
    rw [f_X4_odds_126, if_pos ((i_le_n (by omega) (by omega)).mpr (Nat.le_refl _)), lt_e, nI_1]
  obtain ⟨n0, n1, n2⟩ := hn
  refine (st 999 0 a (by omega) n0).trans ?_
  by_cases ca : rns S r a
  · rw [if_pos ca]
    refine (e6 _ 999 0 (by omega)).trans ?_
    by_cases m1 : m = 1
    · have hr1 : rng S r = 1 := by
        rw [m1] at hm
        split at hm <;> omega
      rw [if_pos (c := cfnI S r a b c) ⟨ca, fun w => by omega, fun w => by omega⟩]
      have := en 998
      rw [m1] at this ⊢
      exact this
    · refine (st 998 1 b (by omega) n1).trans ?_
      have hr2 : 2 ≤ rng S r := by
        split at hm <;> omega
      by_cases cb : rns S r b
      · rw [if_pos cb]
        refine (s6 _ 999 1 0 b a (by omega) (by omega) n1 n0).trans ?_
        by_cases cba : b = a
        · rw [if_pos cba, if_neg (c := cfnI S r a b c) (fun w => (w.2.1 hr2).2 cba)]
        · rw [if_neg cba]
          refine (e6 _ 998 1 (by omega)).trans ?_
          by_cases m2 : m = 2
          · have hr1 : rng S r = 2 := by
              rw [m2] at hm
              split at hm <;> omega
            rw [if_pos (c := cfnI S r a b c) ⟨ca, fun _ => ⟨cb, cba⟩, fun w => by omega⟩]
            have := en 997
            rw [m2] at this ⊢
            exact this
          · refine (st 997 2 c (by omega) n2).trans ?_
            have hr3 : 3 ≤ rng S r := by
              split at hm <;> omega
            have m3 : m = 3 := by omega
            by_cases cc : rns S r c
            · rw [if_pos cc]
              refine (s6 _ 999 2 0 c a (by omega) (by omega) n2 n0).trans ?_
              by_cases cca : c = a
              · rw [if_pos cca, if_neg (c := cfnI S r a b c) (fun w => (w.2.2 hr3).2.1 cca)]
              · rw [if_neg cca]
                refine (s6 _ 998 2 1 c b (by omega) (by omega) n2 n1).trans ?_
                by_cases ccb : c = b
                · rw [if_pos ccb, if_neg (c := cfnI S r a b c) (fun w => (w.2.2 hr3).2.2 ccb)]
                · rw [if_neg ccb]
                  refine (e6 _ 997 2 (by omega)).trans ?_
                  rw [if_pos (c := cfnI S r a b c) ⟨ca, fun _ => ⟨cb, cba⟩, fun _ => ⟨cc, cca, ccb⟩⟩]
                  have := en 996
                  rw [m3] at this ⊢
                  exact this
            · rw [if_neg cc, if_neg (c := cfnI S r a b c) (fun w => cc (w.2.2 hr3).1)]
      · rw [if_neg cb, if_neg (c := cfnI S r a b c) (fun w => cb (w.2.1 hr2).1)]
  · rw [if_neg ca, if_neg (c := cfnI S r a b c) (fun w => ca w.1)]
theorem s_odds : S_odds Inv := by
  intro k C R v w a b c hk hI
  obtain ⟨S, hR, hC, g1, g2, g3, g4, g5⟩ := hI
  unfold f_X3_odds f_X4_odds
  rw [c_poolOf hC g1, m_poolOf hR g1 g2]
  simp only [ob_s]
  cases hp : pOf S v w with
  | none => exact ⟨-1, R, rfl, rfl, Inv_st hR hC g1 g2 g3 hk g4 g5⟩
  | some p =>
    obtain ⟨p1, p2, -⟩ := pOf_s g1 g2 hp
    have hpp := (hC.2.2.1 p (by omega)).1
    have h18 := (g2.2.1 p p2).2.2.2.2.2.2.1
    have h6 : mI C 7 p 6 = nI (S 18 p) := hpp.2.2.2.2.2.2.1
    obtain ⟨R1, e1, hR1, hn⟩ := m_names hR a b c
    rw [on_s, h6, show pI (some p) = nI p from rfl, if_neg (pI_n p1), RM_ref hR 8]
    simp only [ob_s]
    rw [ix_n (by omega) (by omega), nI_cl (by omega), RM_I hR 18]
    by_cases q : S 18 p = 0
    · rw [if_pos ((nI_z (by omega)).mpr q), if_pos ((nI_z (by omega)).mpr q), c_canFin hC g1 g2 p2, e1]
      simp only [ob_s, b1_if]
      obtain ⟨x, rfl, fx⟩ := nI_any a
      obtain ⟨y, rfl, fy⟩ := nI_any b
      obtain ⟨z, rfl, fz⟩ := nI_any c
      have rnx : ∀ {r n : Nat}, (0 ≤ (nI n).toInt → (n : Int) = (nI n).toInt) → rns S r (nI n) → rn S r n := fun {r n} hf h => by
        have hl := GA_10 g1 r
        have h1 := h.1.1
        have h2 := h.1.2
        have := hf (by omega)
        exact rn_I2 g1 h (by omega)
      have good : cfp S p (nI x) (nI y) (nI z) → ∃ (r : Int32) (R' : Mm), (ob (f_X0_dividendIfFinished p (nI x) (nI y) (nI z) C) fun r34 => some (r34.toInt32)) = some r ∧ f_X4_odds_167 FU 0 (nI x) (nI y) (nI z) (nI p) (0 : Int32) R1 = some (r, R') ∧ Inv (k + 1) C R' := fun hcf => by
        have hc : cfnN S p x y z := by
          refine ⟨fun n52 => ?_, fun e52 => ?_⟩
          · obtain ⟨c0, c1, c2⟩ := hcf.1 n52
            exact ⟨rnx fx c0, fun h => ⟨rnx fy (c1 h).1, fun e => (c1 h).2 (by rw [e])⟩, fun h => ⟨rnx fz (c2 h).1, fun e => (c2 h).2.1 (by rw [e]), fun e => (c2 h).2.2 (by rw [e])⟩⟩
          · obtain ⟨c0, c1⟩ := hcf.2 e52
            exact ⟨rnx fx c0, rnx fy c1⟩
        obtain ⟨M2, x1, x2, x3, x4⟩ := m_keep (p := p) g1 FU 0 R1 (by omega) (by show 325 < 0 + 1000; omega) hR1 hn (fun q hq => absurd hq (Nat.not_lt_zero q))
        obtain ⟨M3, y1, y2⟩ := m_oddsT x2 g1 g2 g3 g4 p2 x3 x4 hc fy fz
        rw [c_divFin hC g1 g2 g3 g4 p2]
        simp only [ob_s]
        exact ⟨_, M3, rfl, x1.trans y1, Inv_st y2 hC g1 g2 g3 hk g4 g5⟩
      have hI1 := Inv_st hR1 hC g1 g2 g3 hk g4 g5
      by_cases q52 : p = 52
      · rw [if_pos ((nI_52 (by omega)).mpr q52), RM_17 hR1, RM_18 hR1, m_runs hR1 g1 (show S 0 17 ≤ 12 by have := g2.2.2.2.1.1; omega), m_runs hR1 g1 (show S 0 18 ≤ 12 by have := g2.2.2.2.1.2; omega)]
        simp only [ob_s, b1_if]
        by_cases c0 : rns S (S 0 17) (nI x)
        · rw [if_pos c0]
          by_cases c1 : rns S (S 0 18) (nI y)
          · have cf : cfp S p (nI x) (nI y) (nI z) := ⟨fun n52 => absurd q52 n52, fun _ => ⟨c0, c1⟩⟩
            rw [if_pos c1, if_pos cf]
            exact good cf
          · rw [if_neg c1, if_neg (c := cfp S p (nI x) (nI y) (nI z)) (fun w => c1 (w.2 q52).2)]
            exact ⟨_, _, rfl, rfl, hI1⟩
        · rw [if_neg c0, if_neg (c := cfp S p (nI x) (nI y) (nI z)) (fun w => c0 (w.2 q52).1)]
          exact ⟨_, _, rfl, rfl, hI1⟩
      · have er : ro S p 0 = p / 4 := ro_n52 q52
        have hr := ro_le g1 g2 p2 0
        rw [er] at hr
        have hrn := GA_rng g1 (p / 4)
        have l3 : (3 : Int32) ≤ nI (rng S (p / 4)) ↔ 3 ≤ rng S (p / 4) := nI_leI (a := 3) (by omega) (by omega)
        rw [if_neg (fun w => q52 ((nI_52 (by omega)).mp w)), pOf_v hp q52, m_running hR1 g1 hr]
        simp only [ob_s]
        have em : (if (3 : Int32) ≤ nI (rng S (p / 4)) then f_X4_odds_87 0 (nI (p / 4)) (nI x) (nI y) (nI z) (nI p) (3 : Int32) R1 else f_X4_odds_87 0 (nI (p / 4)) (nI x) (nI y) (nI z) (nI p) (nI (rng S (p / 4))) R1) = f_X4_odds_87 0 (nI (p / 4)) (nI x) (nI y) (nI z) (nI p) (nI (if 3 ≤ rng S (p / 4) then 3 else rng S (p / 4))) R1 := by
          by_cases h3 : 3 ≤ rng S (p / 4)
          · rw [if_pos (l3.mpr h3), if_pos h3]; rfl
          · rw [if_neg (fun w => h3 (l3.mp w)), if_neg h3]
        rw [em]
        unfold f_X4_odds_87
        have cf : cfp S p (nI x) (nI y) (nI z) ↔ cfnI S (p / 4) (nI x) (nI y) (nI z) := ⟨fun w => w.1 q52, fun w => ⟨fun _ => w, fun e => absurd e q52⟩⟩
        have hm3 : (if 3 ≤ rng S (p / 4) then 3 else rng S (p / 4)) ≤ 3 := by split <;> omega
        by_cases h0 : rng S (p / 4) = 0
        · have hm0 : (if 3 ≤ rng S (p / 4) then 3 else rng S (p / 4)) = 0 := by rw [if_neg (by omega)]; exact h0
          rw [hm0, if_pos (show nI 0 = 0 from rfl), if_neg (c := cfp S p (nI x) (nI y) (nI z)) (fun w => by have := rng_1 (rnx fx (cf.mp w).1); omega)]
          exact ⟨_, _, rfl, rfl, hI1⟩
        · have hm1 : 1 ≤ (if 3 ≤ rng S (p / 4) then 3 else rng S (p / 4)) := by split <;> omega
          rw [if_neg (c := nI (if 3 ≤ rng S (p / 4) then 3 else rng S (p / 4)) = 0) (fun w => by have := (nI_z (by omega)).mp w; omega), m_99 hR1 g1 hr hn rfl hm1]
          by_cases c0 : cfnI S (p / 4) (nI x) (nI y) (nI z)
          · rw [if_pos c0, if_pos (cf.mpr c0)]
            exact good (cf.mpr c0)
          · rw [if_neg c0, if_neg (c := cfp S p (nI x) (nI y) (nI z)) (fun w => c0 (cf.mp w))]
            exact ⟨_, _, rfl, rfl, hI1⟩
    · rw [if_neg (fun z => q ((nI_z (by omega)).mp z)), if_neg (fun z => q ((nI_z (by omega)).mp z))]
      exact ⟨-1, R, rfl, rfl, Inv_st hR hC g1 g2 g3 hk g4 g5⟩
