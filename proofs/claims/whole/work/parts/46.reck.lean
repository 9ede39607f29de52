/-! ===== who wins of a pool's tickets: the model's reckoning ===== -/
/-- no ticket ahead of one names the same -/
abbrev frs (S : SV) (t : Nat) : Prop := sm t (fun q => if cntT S q ∧ sameTT S q t then 1 else 0) = 0
theorem frs_iff {S : SV} {t : Nat} : frs S t ↔ ∀ q, q < t → ¬ (cntT S q ∧ sameTT S q t) := by
  constructor
  · intro h q hq w
    have h2 := sm_ge (f := fun q => if cntT S q ∧ sameTT S q t then 1 else 0) hq
    rw [if_pos (c := cntT S q ∧ sameTT S q t) w] at h2
    have h' : sm t (fun q => if cntT S q ∧ sameTT S q t then 1 else 0) = 0 := h
    omega
  · exact fun h => sm_zero (fun q hq => if_neg (h q hq))
/-- a ticket of a pool that counts and wins -/
abbrev win (S : SV) (p t : Nat) : Prop := S 27 t = p ∧ cntT S t ∧ wnT S t
def wkn (S : SV) (p n : Nat) : Nat := sm n (fun t => if win S p t ∧ frs S t then 1 else 0)
def wun (S : SV) (p n : Nat) : Nat := sm n (fun t => if win S p t then S 29 t else 0)
def wk (S : SV) (p : Nat) : Nat := wkn S p (S 0 19)
def wu (S : SV) (p : Nat) : Nat := wun S p (S 0 19)
def ded (S : SV) (p : Nat) : Nat := lu S p * S 17 p * S 16 p / 1000
def net (S : SV) (p : Nat) : Nat := lu S p * S 17 p - ded S p + S 24 p
theorem wk_le {S : SV} {k : Nat} {TT : Prop} (g : GTx TT S k) (p : Nat) : wk S p ≤ 512 := by
  have hT := GT_T g
  have : wk S p ≤ S 0 19 * 1 := sm_bound (fun i _ => by show (if _ then 1 else 0) ≤ 1; split <;> omega)
  omega
theorem wu_le {S : SV} {k : Nat} {TT : Prop} (g : GTx TT S k) (p : Nat) : wu S p ≤ 512000 := sm_if_le (fun i hi => (GT_t g hi).2.2.1) (GT_T g)
theorem m_isFirst {S : SV} {R : Mm} {k t : Nat} (h : RM S R) (g1 : GA S) {DD : Nat → Prop} {ZZ : Prop} (g2 : GPx DD ZZ S) {TT : Prop} (g : GTx TT S k) (ht : t < S 0 19) : f_X4_isFirst 0 (nI t) R = some (b1 (frs S t)) := by
  have hT := GT_T g
  have hpt := GT_p g g2 ht
  have key : ∀ n j, j ≤ t → t < j + n → (∀ q, q < j → ¬ (cntT S q ∧ sameTT S q t)) → f_X4_isFirst_2 R n 0 (nI t) (nI j) = some (b1 (frs S t)) := by
    intro n
    induction n with
    | zero => intro j h1 h2; omega
    | succ n ih =>
      intro j h1 h2 hno
      rw [f_X4_isFirst_2]
      by_cases q : j = t
      · subst q
        rw [if_pos ((i_le_n (by omega) (by omega)).mpr (Nat.le_refl _)), b1_t (frs_iff.mpr hno)]
      · have hj : j < S 0 19 := by omega
        rw [if_neg (fun z => by have := (i_le_n (by omega) (by omega)).mp z; omega), m_counts h (by omega) (GT_t g hj).2.2.2]
        simp only [ob_s, lt_e, b1_if]
        have step : ¬ (cntT S j ∧ sameTT S j t) → f_X4_isFirst_2 R n 0 (nI t) (nI j + (1 : Int32)) = some (b1 (frs S t)) := fun hne => by
          rw [nI_1]
          refine ih (j + 1) (by omega) (by omega) (fun q hq => ?_)
          by_cases e : q = j
          · subst e; exact hne
          · exact hno q (by omega)
        by_cases q1 : cntT S j
        · rw [if_pos q1, RM_ref h 20, RM_ref h 21]
          simp only [ob_s]
          rw [e31, e32, e3, ix_n (by omega) (by omega), ix_n (by omega) (by omega), ix_n (by omega) (by omega), ix_n (by omega) (by omega), nI_cl (by omega), nI_cl (by omega), nI_cl (by omega), nI_cl (by omega), RM_I h 27, RM_I h 28, RM_I h 28, RM_I h 28, m_isSame h g g1 g2 hj hpt]
          simp only [ob_s, b1_if]
          by_cases q2 : sameTT S j t
          · rw [if_pos q2, b1_f (fun z => frs_iff.mp z j (by omega) ⟨q1, q2⟩)]
          · rw [if_neg q2]; exact step (fun z => q2 z.2)
        · rw [if_neg q1]; exact step (fun z => q1 z.1)
  unfold f_X4_isFirst
  exact key FU 0 (by omega) (by show t < 0 + 1000; omega) (fun q hq => absurd hq (Nat.not_lt_zero q))
theorem stake_le {S : SV} {k p : Nat} {TT : Prop} (g : GTx TT S k) (h17 : S 17 p ≤ 1000) : lu S p * S 17 p ≤ 512000000 := by
  have h := lu_le g p
  calc lu S p * S 17 p ≤ 512000 * 1000 := Nat.mul_le_mul h h17
    _ = 512000000 := rfl
theorem ded_le {S : SV} {p : Nat} (h16 : S 16 p ≤ 999) : ded S p ≤ lu S p * S 17 p := by
  unfold ded
  have : lu S p * S 17 p * S 16 p ≤ lu S p * S 17 p * 1000 := Nat.mul_le_mul_left _ (by omega)
  have := Nat.div_le_div_right (c := 1000) this
  rw [Nat.mul_div_cancel _ (by decide)] at this
  exact this
theorem l_ded {S : SV} {k p : Nat} {TT : Prop} (g : GTx TT S k) (h16 : S 16 p ≤ 999) (h17 : S 17 p ≤ 1000) : lN (lu S p * S 17 p) * (nI (S 16 p)).toInt64 / (1000 : Int64) = lN (ded S p) := by
  have h := stake_le g h17
  have h2 : lu S p * S 17 p * S 16 p ≤ 512000000 * 999 := Nat.mul_le_mul h h16
  rw [nI_i2l (by omega), lN_mul, show (1000 : Int64) = lN 1000 from rfl, L_div (by omega) (by omega) (by omega)]
  rfl
theorem l_net {S : SV} {p : Nat} (h16 : S 16 p ≤ 999) : lN (lu S p * S 17 p) - lN (ded S p) + lN (S 24 p) = lN (net S p) := by
  rw [L_sub (ded_le h16), lN_add]; rfl
theorem l_stake {S : SV} {k p : Nat} {TT : Prop} (g : GTx TT S k) : lN (stk S p) - lN (cst S p 2) = lN (lu S p * S 17 p) := by
  rw [stk_eq g, L_sub (by omega)]
  exact congrArg lN (by omega)
theorem m_reckons {S : SV} {R : Mm} {k p : Nat} (h : RM S R) (g1 : GA S) {DD : Nat → Prop} {ZZ : Prop} (g2 : GPx DD ZZ S) {TT : Prop} (g : GTx TT S k) (hp : S 15 p = 1) (ho : GOr S (ro S p 0)) : ∃ R', f_X4_reckons 0 (nI p) R = some R' ∧ RM S R' ∧ mI R' 0 0 28 = nI (wk S p) ∧ mI R' 0 0 29 = nI (wu S p) ∧ mJ R' 0 0 30 = lN (net S p) ∧ (∀ s i j, s ≠ 0 → mI R' s i j = mI R s i j) := by
  have hT := GT_T g
  obtain ⟨p1, -, a3, -, a5, -⟩ := g2.2.1 p hp
  have key : ∀ n j M, j ≤ S 0 19 → S 0 19 < j + n → RM S M → mI M 0 0 28 = nI (wkn S p j) → mI M 0 0 29 = nI (wun S p j) → (∀ s i j, s ≠ 0 → mI M s i j = mI R s i j) → ∃ R', f_X4_reckons_12 n 0 (nI p) (nI j) M = some R' ∧ RM S R' ∧ mI R' 0 0 28 = nI (wk S p) ∧ mI R' 0 0 29 = nI (wu S p) ∧ mJ R' 0 0 30 = lN (net S p) ∧ (∀ s i j, s ≠ 0 → mI R' s i j = mI R s i j) := by
    intro n
    induction n with
    | zero => intro j M h1 h2; omega
    | succ n ih =>
      intro j M h1 h2 hM h28 h29 hF
      rw [f_X4_reckons_12, RM_T hM]
      by_cases q : j = S 0 19
      · rw [if_pos ((i_le_n (by omega) (by omega)).mpr (by omega)), m_staked0 hM g g2 p1, m_staked1 hM g g2 p1, RM_ref hM 6, RM_ref hM 14]
        simp only [ob_s, lt_e]
        rw [ix_n (by omega) (by omega), ix_n (by omega) (by omega), dvl_1000, nI_cl (by omega), RM_I hM 16, RM_J hM 24, l_stake g, l_ded g a3 a5, l_net a3]
        refine ⟨_, rfl, RM_scJ hM, ?_, ?_, ?_, ?_⟩
        · rw [rd_IJ, h28, q]; rfl
        · rw [rd_IJ, h29, q]; rfl
        · rw [rd_J, if_pos ⟨rfl, rfl, rfl⟩]
        · intro s i j' hs; rw [rd_IJ]; exact hF s i j' hs
      · have hj : j < S 0 19 := by omega
        have hg := GT_t g hj
        have hpt := GT_p g g2 hj
        rw [if_neg (fun z => by have := (i_le_n (by omega) (by omega)).mp z; omega), RM_ref hM 20, RM_ref hM 22]
        simp only [ob_s, lt_e]
        rw [ix_n (by omega) (by omega), ix_n (by omega) (by omega), nI_cl (by omega), RM_I hM 27, RM_I hM 29]
        have skip : ¬ win S p j → ∃ R', f_X4_reckons_12 n 0 (nI p) (nI j + (1 : Int32)) M = some R' ∧ RM S R' ∧ mI R' 0 0 28 = nI (wk S p) ∧ mI R' 0 0 29 = nI (wu S p) ∧ mJ R' 0 0 30 = lN (net S p) ∧ (∀ s i j, s ≠ 0 → mI R' s i j = mI R s i j) := fun nw => by
          rw [nI_1]
          refine ih (j + 1) M (by omega) (by omega) hM ?_ ?_ hF
          · show mI M 0 0 28 = nI (wkn S p j + (if win S p j ∧ frs S j then 1 else 0))
            rw [if_neg (fun z => nw z.1), Nat.add_zero]; exact h28
          · show mI M 0 0 29 = nI (wun S p j + (if win S p j then S 29 j else 0))
            rw [if_neg nw, Nat.add_zero]; exact h29
        by_cases q1 : S 27 j = p
        · rw [if_pos ((nI_e (by omega) (by omega)).mpr q1), m_counts hM (by omega) hg.2.2.2]
          simp only [ob_s, b1_if]
          by_cases q2 : cntT S j
          · rw [if_pos q2, m_holds hM g1 g2 g hj (by rw [q1]; exact ho)]
            simp only [ob_s, b1_if]
            by_cases q3 : wnT S j
            · have hw : win S p j := ⟨q1, q2, q3⟩
              have hM1 : RM S (sI M 0 0 29 (mI M 0 0 29 + nI (S 29 j))) := RM_scI hM (by omega)
              rw [if_pos q3, m_isFirst hM1 g1 g2 g hj]
              simp only [ob_s, b1_if]
              have e28 : mI (sI M 0 0 29 (mI M 0 0 29 + nI (S 29 j))) 0 0 28 = nI (wkn S p j) := h28
              by_cases q4 : frs S j
              · rw [if_pos q4, e28, nI_1, nI_1]
                refine ih (j + 1) _ (by omega) (by omega) (RM_scI hM1 (by omega)) ?_ ?_ (fun s i j' hs => ?_)
                · rw [rd_I, if_pos ⟨rfl, rfl, rfl⟩]
                  show _ = nI (wkn S p j + (if win S p j ∧ frs S j then 1 else 0))
                  rw [if_pos (c := win S p j ∧ frs S j) ⟨hw, q4⟩]
                · rw [rd_I, if_neg (by omega), rd_I, if_pos ⟨rfl, rfl, rfl⟩, h29, nI_add]
                  show _ = nI (wun S p j + (if win S p j then S 29 j else 0))
                  rw [if_pos hw]
                · rw [rd_I, if_neg (by omega), rd_I, if_neg (by omega)]; exact hF s i j' hs
              · rw [if_neg q4, e28, nI_a0, nI_1]
                refine ih (j + 1) _ (by omega) (by omega) (RM_scI hM1 (by omega)) ?_ ?_ (fun s i j' hs => ?_)
                · rw [rd_I, if_pos ⟨rfl, rfl, rfl⟩]
                  show _ = nI (wkn S p j + (if win S p j ∧ frs S j then 1 else 0))
                  rw [if_neg (c := win S p j ∧ frs S j) (fun z => q4 z.2), Nat.add_zero]
                · rw [rd_I, if_neg (by omega), rd_I, if_pos ⟨rfl, rfl, rfl⟩, h29, nI_add]
                  show _ = nI (wun S p j + (if win S p j then S 29 j else 0))
                  rw [if_pos hw]
                · rw [rd_I, if_neg (by omega), rd_I, if_neg (by omega)]; exact hF s i j' hs
            · rw [if_neg q3]; exact skip (fun z => q3 z.2.2)
          · rw [if_neg q2]; exact skip (fun z => q2 z.2.1)
        · rw [if_neg (fun z => q1 ((nI_e (by omega) (by omega)).mp z))]; exact skip (fun z => q1 z.1)
  unfold f_X4_reckons
  simp only [lt_e]
  have hR1 : RM S (sI R 0 0 28 (0 : Int32)) := RM_scI h (by omega)
  refine key FU 0 (sI (sI R 0 0 28 (0 : Int32)) 0 0 29 (0 : Int32)) (by omega) (by show S 0 19 < 0 + 1000; omega) (RM_scI hR1 (by omega)) rfl rfl (fun s i j hs => ?_)
  rw [rd_I, if_neg (by omega), rd_I, if_neg (by omega)]
theorem lwp_0 {S : SV} {r : Nat} (h : rng S r < 5) : lwp S r = 0 := by
  unfold lwp
  rw [if_neg (by omega), if_neg (by omega)]
theorem wk_void {S : SV} {p : Nat} (h1 : kd p = 1) (h : rng S (ro S p 0) < 5) : wk S p = 0 := sm_zero (fun t _ => if_neg (fun z => by
  obtain ⟨⟨e, -, w⟩, -⟩ := z
  unfold wnT at w
  rw [e] at w
  have w2 := (wns_1 h1).mp w
  rw [lwp_0 h] at w2
  have := w2.1
  have := w2.2
  omega))
theorem m_isVoid {S : SV} {R : Mm} {k p : Nat} (h : RM S R) (g1 : GA S) {DD : Nat → Prop} {ZZ : Prop} (g2 : GPx DD ZZ S) {TT : Prop} (g : GTx TT S k) (hp : S 15 p = 1) (h28 : mI R 0 0 28 = nI (wk S p)) : f_X4_isVoid 0 (nI p) R = some (b1 (kd p ≠ 3 ∧ wk S p = 0)) := by
  have p1 := (g2.2.1 p hp).1
  have hr := ro_le g1 g2 hp 0
  have kl := kd_le p
  have hwk := wk_le g p
  have hrn := GA_rng g1 (ro S p 0)
  unfold f_X4_isVoid
  rw [m_kindOf p1, h28]
  simp only [ob_s]
  have e15 : f_X4_isVoid_15 R 0 (nI p) = some (b1 (kd p = 1 ∧ rng S (ro S p 0) < 5)) := by
    unfold f_X4_isVoid_15
    rw [m_kindOf p1]
    simp only [ob_s]
    by_cases q : kd p = 1
    · have n52 : p ≠ 52 := fun w => by have := kd_52.mpr w; omega
      have e : ro S p 0 = p / 4 := by unfold ro; rw [if_neg n52]
      rw [if_pos ((nI_1e (by omega)).mpr q), dv_4, show nI p / (4 : Int32) = nI (p / 4) from pk_div (d := 4) (by omega) (by omega) (by omega), ← e, m_running h g1 hr]
      simp only [ob_s]
      have l5 : (5 : Int32) ≤ nI (rng S (ro S p 0)) ↔ 5 ≤ rng S (ro S p 0) := nI_leI (a := 5) (by omega) (by omega)
      by_cases q2 : 5 ≤ rng S (ro S p 0)
      · rw [if_pos (l5.mpr q2), b1_f (fun z => by have := z.2; omega)]
      · rw [if_neg (fun z => q2 (l5.mp z)), b1_t ⟨q, by omega⟩]
    · rw [if_neg (fun z => q ((nI_1e (by omega)).mp z)), b1_f (fun z => q z.1)]
  rw [e15]
  by_cases q : kd p = 3
  · rw [if_pos ((nI_3e (by omega)).mpr q), b1_f (fun z => by have := z.1; omega), b1_f (fun z => z.1 q)]
  · rw [if_neg (fun z => q ((nI_3e (by omega)).mp z))]
    by_cases q2 : wk S p = 0
    · rw [if_pos ((nI_z (by omega)).mpr q2), b1_t ⟨q, q2⟩]
    · rw [if_neg (fun z => q2 ((nI_z (by omega)).mp z)), b1_f (fun z => q2 (wk_void z.1 z.2)), b1_f (fun z => q2 z.2)]
theorem m_dividendOf {S : SV} {R : Mm} {p N k W u : Nat} (h : RM S R) (hp : p ≤ 52) (h1 : S 17 p ≤ 1000) (hN : N < 2 ^ 50) (hk : k < 2 ^ 31) (hk0 : 0 < k) (hW : W < 2 ^ 30) (hu : u < 2 ^ 31) (hu0 : 0 < u) (h28 : mI R 0 0 28 = nI k) (h29 : mI R 0 0 29 = nI W) (h30 : mJ R 0 0 30 = lN N) : f_X4_dividendOf 0 (nI p) (nI u) R = some (lN (dvd (kd p) (S 17 p) N k W u)) := by
  have kl := kd_le p
  have hUW : S 17 p * W ≤ 1000 * W := Nat.mul_le_mul_right W h1
  unfold f_X4_dividendOf
  rw [RM_ref h 7, m_kindOf hp, h28, h29, h30]
  simp only [ob_s, lt_e]
  rw [ix_n (by omega) (by omega), nI_cl (by omega), RM_I h 17, nI_i2l (by omega), nI_i2l (by omega), nI_i2l hk, nI_i2l hu, lN_mul]
  simp only [lg_cmp_ge]
  have ten : ∀ x, x < 2 ^ 62 → lN x / (10 : Int64) * (10 : Int64) = lN (x / 10 * 10) := fun x hx => by
    rw [show (10 : Int64) = lN 10 from rfl, L_div (by omega) (by omega) (by omega), lN_mul]
  unfold dvd
  by_cases q3 : kd p = 1
  · rw [if_pos ((nI_1e (by omega)).mpr q3), if_neg (c := kd p ≠ 1) (fun z => z q3), if_neg (c := k = 0) (by omega)]
    by_cases q4 : N < S 17 p * W
    · rw [if_pos q4, if_neg (fun z => by have := (L_le (by omega) (by omega)).mp z; omega), ix_n (by omega) (by omega)]
    · have d1 : (N - S 17 p * W) / k ≤ N - S 17 p * W := Nat.div_le_self _ _
      have d2 : (N - S 17 p * W) / k / u ≤ (N - S 17 p * W) / k := Nat.div_le_self _ _
      rw [if_neg q4, if_pos ((L_le (by omega) (by omega)).mpr (by omega)), ix_n (by omega) (by omega), L_dvl (by omega) (by omega), L_dvl (by omega) (by omega), dvl_10, L_sub (by omega), L_div (by omega) (by omega) (by omega), L_div (by omega) (by omega) (by omega), ten _ (by omega), lN_add]
  · have d1 : N / k ≤ N := Nat.div_le_self _ _
    have d2 : N / k / u ≤ N / k := Nat.div_le_self _ _
    rw [if_neg (fun z => q3 ((nI_1e (by omega)).mp z)), if_pos (c := kd p ≠ 1) q3, L_dvl (by omega) (by omega), L_dvl (by omega) (by omega), dvl_10, L_div (by omega) (by omega) (by omega), L_div (by omega) (by omega) (by omega), ten _ (by omega)]
/-- the house's -/
theorem c_deductionNow {S : SV} {C : Mm} {k p : Nat} {EE : Nat → Prop} (h : RCx EE S C) {DD : Nat → Prop} {ZZ : Prop} (g2 : GPx DD ZZ S) {TT : Prop} (g : GTx TT S k) (hp : S 15 p = 1) : f_X0_deductionNow p C = some (lN (ded S p)) := by
  have hpp := (h.2.2.1 p (by omega)).1
  obtain ⟨-, -, a3, -, a5, -⟩ := g2.2.1 p hp
  unfold f_X0_deductionNow
  rw [c_stakeAtRisk h g g2 hp, ob_s, dvl_1000, hpp.2.2.2.1, l_ded g a3 a5]
theorem c_netNow {S : SV} {C : Mm} {k p : Nat} {EE : Nat → Prop} (h : RCx EE S C) {DD : Nat → Prop} {ZZ : Prop} (g2 : GPx DD ZZ S) {TT : Prop} (g : GTx TT S k) (hp : S 15 p = 1) : f_X0_netNow p C = some (lN (net S p)) := by
  have hpp := (h.2.2.1 p (by omega)).1
  obtain ⟨-, -, a3, -, a5, -⟩ := g2.2.1 p hp
  unfold f_X0_netNow
  rw [c_stakeAtRisk h g g2 hp, ob_s, c_deductionNow h g2 g hp, ob_s, hpp.2.2.2.2.2.2.2.2.2.2.2.2.1, l_net a3]
