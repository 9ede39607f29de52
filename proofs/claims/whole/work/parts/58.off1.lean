/-! ===== official: one pool, in the house and in the model ===== -/
theorem c_isDecided {S : SV} {C : Mm} {p : Nat} {EE : Nat → Prop} (h : RCx EE S C) (g1 : GA S) {DD : Nat → Prop} {ZZ : Prop} (g2 : GPx DD ZZ S) (hp : S 15 p = 1) : f_X0_isDecided p C = some (b1 (S 18 p = 0 ∧ S 11 (ro S p 0) = 2 ∧ S 11 (ro S p 1) = 2)) := by
  have hpp := (h.2.2.1 p (by omega)).1
  have h18 := (g2.2.1 p hp).2.2.2.2.2.2.1
  have hr0 := h.2.1 _ (ro_p g1 g2 hp 0)
  have hr1 := h.2.1 _ (ro_p g1 g2 hp 1)
  have l0 := (g1.2.1 (ro S p 0)).1
  have l1 := (g1.2.1 (ro S p 1)).1
  unfold f_X0_isDecided
  rw [hpp.2.2.2.2.2.2.1, hpp.2.1, hpp.2.2.1]
  simp only [ob_s]
  rw [hr0.2.2.2.2.1, hr1.2.2.2.2.1]
  by_cases q : S 18 p = 0
  · rw [if_pos ((nI_z (by omega)).mpr q)]
    by_cases q0 : S 11 (ro S p 0) = 2
    · rw [if_pos ((nI_2e (by omega)).mpr q0)]
      by_cases q1 : S 11 (ro S p 1) = 2
      · rw [if_pos ((nI_2e (by omega)).mpr q1), b1_t ⟨q, q0, q1⟩]
      · rw [if_neg (fun z => q1 ((nI_2e (by omega)).mp z)), b1_f (fun z => q1 z.2.2)]
    · rw [if_neg (fun z => q0 ((nI_2e (by omega)).mp z)), b1_f (fun z => q0 z.2.1)]
  · rw [if_neg (fun z => q ((nI_z (by omega)).mp z)), b1_f (fun z => q z.1)]
theorem GP_18 {S : SV} {p d : Nat} {DD : Nat → Prop} {ZZ : Prop} (g2 : GPx DD ZZ S) (hp : S 15 p = 1) (hd : d ≤ 2) : GPx (fun q => up S 18 p d 18 q ≠ 0) True (up S 18 p d) := by
  refine ⟨g2.1, fun q hq => ?_, g2.2.2.1, g2.2.2.2.1, fun q hq => ?_, trivial⟩
  · obtain ⟨a1, a2, a3, a4, a5, a6, a7, -⟩ := g2.2.1 q hq
    refine ⟨a1, a2, a3, a4, a5, a6, ?_, ⟨fun z => fun w => w z, fun z => Decidable.byContradiction z⟩⟩
    by_cases e : q = p
    · rw [e, up_s]; exact hd
    · rw [up_n (fun z => e z.2)]; exact a7
  · have hq' : S 15 q = 0 := hq
    rw [up_n (fun z => by rw [z.2] at hq'; omega)]
    exact g2.2.2.2.2.1 q hq
theorem stl_up18 {S : SV} {p v : Nat} (h : Z0 S p) : up S 18 p v = stl S p v 0 0 0 0 0 0 (S 31) := by
  have := congrArg (fun X => up X 18 p v) (stl_z h)
  exact this.trans stl_18
/-- the model, till it knows whether there are winners -/
theorem m_head {S : SV} {R1 : Mm} {k p : Nat} {K : Mm → Option (Int32 × Mm)} (h : RM S R1) (g1 : GA S) (g2 : GQ S) (g : GT S k) (hp : S 15 p = 1) (hu : S 18 p = 0) (h28 : mI R1 0 0 28 = nI (wk S p)) (h29 : mI R1 0 0 29 = nI (wu S p)) (h30 : mJ R1 0 0 30 = lN (net S p)) : ∃ M, (ob (mR R1 0 0 8) fun i233 => ix (nI p) 53 (lt (sI R1 18 i233 (nI p).toNatClampNeg (1 : Int32)) fun M237 => ob (mR M237 0 0 16) fun i241 => ix (nI p) 53 (lt (sI M237 26 i241 (nI p).toNatClampNeg (mI M237 0 0 28)) fun M245 => ob (f_X4_staked 0 (nI p) (0 : Int32) M245) fun r249 => ob (f_X4_staked 0 (nI p) (1 : Int32) M245) fun r253 => lt (r249 - r253) fun x256 => ob (mR M245 0 0 6) fun i260 => ix (nI p) 53 (dvl (1000 : Int64) (ob (mR M245 0 0 9) fun i265 => ix (nI p) 53 (lt (sJ M245 19 i265 (nI p).toNatClampNeg ((x256 * (((mI M245 16 i260 (nI p).toNatClampNeg)).toInt64)) / (1000 : Int64))) K)))))) = K M ∧ RM (stl S p 1 (wk S p) (ded S p) 0 0 0 0 (S 31)) M ∧ mI M 0 0 28 = nI (wk S p) ∧ mI M 0 0 29 = nI (wu S p) ∧ mJ M 0 0 30 = lN (net S p) := by
  have hz := Z0_of g2 hu
  have hT := GT_T g
  obtain ⟨p1, -, a3, -, a5, -⟩ := g2.2.1 p hp
  have hM1 : RM (stl S p 1 0 0 0 0 0 0 (S 31)) (sI R1 18 0 p (nI 1)) := by
    rw [← stl_up18 hz]
    exact RM_sI h (by omega)
  have hM2 : RM (stl S p 1 (wk S p) 0 0 0 0 0 (S 31)) (sI (sI R1 18 0 p (nI 1)) 26 0 p (nI (wk S p))) := by
    have := RM_sI hM1 (s := 26) (i := p) (v := wk S p) (by omega)
    rw [stl_26] at this
    exact this
  have hM3 : RM (stl S p 1 (wk S p) (ded S p) 0 0 0 0 (S 31)) (sJ (sI (sI R1 18 0 p (nI 1)) 26 0 p (nI (wk S p))) 19 0 p (lN (ded S p))) := by
    have := RM_sJ hM2 (s := 19) (i := p) (v := ded S p) (by omega)
    rw [stl_19] at this
    exact this
  have e0 : f_X4_staked 0 (nI p) (0 : Int32) (sI (sI R1 18 0 p (nI 1)) 26 0 p (nI (wk S p))) = some (lN (stk S p)) := (m_staked0 hM2 (show GTx _ (stl S p 1 (wk S p) 0 0 0 0 0 (S 31)) k from g) (stl_GP g2 hp (by omega)) p1).trans rfl
  have e1 : f_X4_staked 0 (nI p) (1 : Int32) (sI (sI R1 18 0 p (nI 1)) 26 0 p (nI (wk S p))) = some (lN (cst S p 2)) := (m_staked1 hM2 (show GTx _ (stl S p 1 (wk S p) 0 0 0 0 0 (S 31)) k from g) (stl_GP g2 hp (by omega)) p1).trans rfl
  have e16 : mI (sI (sI R1 18 0 p (nI 1)) 26 0 p (nI (wk S p))) 16 0 p = nI (S 16 p) := (RM_I hM2 16 p).trans rfl
  refine ⟨_, ?_, hM3, ?_, ?_, ?_⟩
  · rw [RM_ref h 8]
    simp only [ob_s, lt_e]
    rw [show sI R1 18 0 (nI p).toNatClampNeg (1 : Int32) = sI R1 18 0 p (nI 1) from by rw [nI_cl (by omega)]; rfl, RM_ref hM1 16]
    simp only [ob_s]
    rw [show mI (sI R1 18 0 p (nI 1)) 0 0 28 = nI (wk S p) from by rw [rd_I, if_neg (by omega)]; exact h28, nI_cl (by omega), e0]
    simp only [ob_s]
    rw [e1]
    simp only [ob_s]
    rw [RM_ref hM2 6]
    simp only [ob_s]
    rw [RM_ref hM2 9]
    simp only [ob_s]
    rw [e16, ix_n (by omega) (by omega), ix_n (by omega) (by omega), ix_n (by omega) (by omega), dvl_1000, ix_n (by omega) (by omega), l_stake g, l_ded g a3 a5]
  · rw [rd_IJ, rd_I, if_neg (by omega), rd_I, if_neg (by omega)]; exact h28
  · rw [rd_IJ, rd_I, if_neg (by omega), rd_I, if_neg (by omega)]; exact h29
  · rw [rd_J, if_neg (by omega), rd_JI, rd_JI]; exact h30
abbrev S1res (S : SV) (C R : Mm) (k p B : Nat) : Prop := ∃ (S' : SV) (C' R' : Mm), f_X3_settleIfDecided 0 (some p) C = some ((1 : Int32), C') ∧ f_X4_settles 0 (nI p) R = some ((1 : Int32), R') ∧ RM S' R' ∧ RC S' C' ∧ GA S' ∧ GQ S' ∧ GT S' k ∧ GMb (if kd p = 3 then 2 * B + 2 ^ 30 else B) S' ∧ GO S' ∧ KP S S' ∧ S' 18 p ≠ 0 ∧ (∀ q, q ≠ p → S' 18 q = S 18 q)
theorem settle1 {S : SV} {C R : Mm} {k p B : Nat} (hR : RM S R) (hC : RC S C) (g1 : GA S) (g2 : GQ S) (g : GT S k) (g4 : GMb B S) (hB : B ≤ 2 ^ 43) (g5 : GO S) (hp : S 15 p = 1) (hu : S 18 p = 0) (o0 : S 11 (ro S p 0) = 2) (o1 : S 11 (ro S p 1) = 2) : S1res S C R k p B := by
  have hT := GT_T g
  have kl := kd_le p
  have hz := Z0_of g2 hu
  have hwk := wk_le g p
  obtain ⟨p1, -, a3, -, a5, -⟩ := g2.2.1 p hp
  have hN := net_le g a5 (Nat.le_trans (g4.2.1 p) hB)
  have hN2 := net_le2 g a5 (g4.2.1 p)
  have ho := g5.1 _ o0
  obtain ⟨R1, y1, hR1, h28, h29, h30, -⟩ := m_reckons hR g1 g2 g hp ho
  have em : ∀ X, (if kd p ≠ 3 ∧ wk S p = 0 then (ob (mR R1 0 0 8) fun i391 => ix (nI p) 53 (lt (sI R1 18 i391 (nI p).toNatClampNeg (2 : Int32)) fun M395 => f_X4_settles_42 FU 0 (nI p) (0 : Int32) M395)) else (ob (mR R1 0 0 8) fun i233 => ix (nI p) 53 (lt (sI R1 18 i233 (nI p).toNatClampNeg (1 : Int32)) fun M237 => ob (mR M237 0 0 16) fun i241 => ix (nI p) 53 (lt (sI M237 26 i241 (nI p).toNatClampNeg (mI M237 0 0 28)) fun M245 => ob (f_X4_staked 0 (nI p) (0 : Int32) M245) fun r249 => ob (f_X4_staked 0 (nI p) (1 : Int32) M245) fun r253 => lt (r249 - r253) fun x256 => ob (mR M245 0 0 6) fun i260 => ix (nI p) 53 (dvl (1000 : Int64) (ob (mR M245 0 0 9) fun i265 => ix (nI p) 53 (lt (sJ M245 19 i265 (nI p).toNatClampNeg ((x256 * (((mI M245 16 i260 (nI p).toNatClampNeg)).toInt64)) / (1000 : Int64))) fun M269 => if (mI M269 0 0 28) = 0 then (ob (mR M269 0 0 13) fun i379 => ix (nI p) 53 (lt (sJ M269 23 i379 (nI p).toNatClampNeg (mJ M269 0 0 30)) fun M383 => ob (f_X4_carries 0 (nI p) M383) fun M388 => some ((1 : Int32), M388))) else (f_X4_settles_159 FU 0 (nI p) (0 : Int32) M269)))))))) = X → f_X4_settles 0 (nI p) R = X := fun X hX => by
    unfold f_X4_settles
    rw [RM_ref hR 5, RM_ref hR 8]
    simp only [ob_s]
    rw [ix_n (by omega) (by omega), nI_cl (by omega), RM_I hR 15, RM_I hR 18, hp, hu, if_neg (show ¬ nI 1 = 0 by decide), ix_n (by omega) (by omega), if_pos (show nI 0 = 0 from rfl), y1]
    simp only [ob_s]
    rw [m_isVoid hR1 g1 g2 g hp h28]
    simp only [ob_s, b1_if]
    rw [nI_cl (by omega)] at hX
    exact hX
  have ec : ∀ C', f_X0_settle p C = some C' → mJ C' 7 p 15 = 0 → f_X3_settleIfDecided 0 (some p) C = some ((1 : Int32), C') := fun C' e1 e2 => by
    unfold f_X3_settleIfDecided
    rw [on_s, c_isDecided hC g1 g2 hp, b1_t ⟨hu, o0, o1⟩]
    simp only [ob_s]
    rw [if_neg (by decide), e1]
    simp only [ob_s]
    rw [e2, if_pos (by decide)]
  by_cases v : kd p ≠ 3 ∧ wk S p = 0
  · obtain ⟨C', x1, x2, x3⟩ := c_vd hC g1 g2 g hp hu v.1 v.2
    obtain ⟨i1, i2, i3, i4, i5⟩ := vd_inv g1 g2 g g4 g5 hp hu
    have hM : RM (up S 18 p 2) (sI R1 18 0 p (nI 2)) := RM_sI hR1 (by omega)
    have hM0 : RM (vdt (up S 18 p 2) p (fun t => decide (t < 0))) (sI R1 18 0 p (nI 2)) := by
      rw [vdt_0 (fun t z => by have := decide_eq_true_iff.mp z.1; omega)]
      exact hM
    obtain ⟨R', z1, z2⟩ := m_vdL (GP_18 (p := p) g2 hp (show 2 ≤ 2 by omega)) (show GTx _ (up S 18 p 2) k from g) p1 FU 0 _ (Nat.zero_le _) (by show S 0 19 < 0 + 1000; omega) hM0
    have e : vdt (up S 18 p 2) p (Pall (up S 18 p 2)) = vdS S p := vdS_eq
    rw [e] at z2
    refine ⟨vdS S p, C', R', ec C' x1 x3, em _ ?_, z2, x2, i1, i2, i3, ?_, i5, KP_vd, ?_, fun q hq => ?_⟩
    · rw [if_pos v, RM_ref hR1 8]
      simp only [ob_s, lt_e]
      rw [ix_n (by omega) (by omega), nI_cl (by omega)]
      exact z1
    · rw [if_neg v.1]; exact i4
    · show up (vdt S p (Pall S)) 18 p 2 18 p ≠ 0
      rw [up_s]; omega
    · show up (vdt S p (Pall S)) 18 p 2 18 q = S 18 q
      rw [up_n (fun z => hq z.2)]; rfl
  · obtain ⟨M, m1, m2, m28, m29, m30⟩ := m_head (K := fun M269 => if (mI M269 0 0 28) = 0 then (ob (mR M269 0 0 13) fun i379 => ix (nI p) 53 (lt (sJ M269 23 i379 (nI p).toNatClampNeg (mJ M269 0 0 30)) fun M383 => ob (f_X4_carries 0 (nI p) M383) fun M388 => some ((1 : Int32), M388))) else (f_X4_settles_159 FU 0 (nI p) (0 : Int32) M269)) hR1 g1 g2 g hp hu h28 h29 h30
    rw [if_neg v, m1, m28] at em
    by_cases q : wk S p = 0
    · have h3 : kd p = 3 := Decidable.byContradiction (fun z => v ⟨z, q⟩)
      obtain ⟨C1, x1, x2, x3⟩ := c_none hC g1 g2 g hp hu h3 q hN
      rw [q] at m2
      have n52 : p ≠ 52 := kd_n52 (by omega)
      have hr := ro_p g1 g2 hp 0
      rw [ro_n52 n52] at hr
      have hr1 := g1.1 _ hr
      have hM1 : RM (stl S p 1 0 (ded S p) 0 0 0 (net S p) (S 31)) (sJ M 23 0 p (lN (net S p))) := by
        have := RM_sJ m2 (s := 23) (i := p) (v := net S p) (by omega)
        rw [stl_23] at this
        exact this
      obtain ⟨i1, i2, i3, i4, i5⟩ := stl_inv (k := 0) (e := ded S p) (u := 0) (b := 0) (h := 0) (o := net S p) (f := S 31) g1 g2 g g4 g5 hp hu (by omega) (fun _ _ => rfl)
      obtain ⟨S', C', R', c1, c2, c3, c4, c5⟩ := carry2 hM1 x2 i1 i2 (by rw [rd_J, if_neg (by omega)]; exact m30) FU (p / 4 + 1) (by omega) (by omega) (by show 13 < p / 4 + 1 + 1000; omega)
      have eM : f_X4_settles 0 (nI p) R = some ((1 : Int32), R') := by
        refine em _ ?_
        rw [if_pos ((nI_z (by omega)).mpr q), RM_ref m2 13]
        simp only [ob_s, lt_e]
        rw [ix_n (by omega) (by omega), nI_cl (by omega), m30]
        unfold f_X4_carries
        rw [dv_4]
        simp only [lt_e]
        rw [show nI p / (4 : Int32) = nI (p / 4) from pk_div (d := 4) (by omega) (by omega) (by omega), nI_1, c2]
        rfl
      obtain ⟨k1, k2⟩ := KP_cry c5
      have s18 : ∀ q, S' 18 q = if q = p then 1 else S 18 q := fun q => by rw [k2]; rfl
      obtain ⟨j1, j2, j3, j4, j5⟩ := cry_inv c5 i1 i2 i3 i4 i5
      have fin : ∀ C2, f_X3_settleIfDecided 0 (some p) C = some ((1 : Int32), C2) → RC S' C2 → S1res S C R k p B := fun C2 e1 e2 => by
        refine ⟨S', C2, R', e1, eM, c3, e2, j1, j2, j3, ?_, j5, KP_t KP_stl k1, ?_, fun q hq => ?_⟩
        · rw [if_pos h3]
          exact GMb_le j4 (by omega)
        · rw [s18, if_pos rfl]; omega
        · rw [s18, if_neg hq]
      by_cases q0 : net S p = 0
      · refine fin C1 (ec C1 x1 (by rw [x3, q0]; rfl)) ?_
        rw [q0] at c5
        rw [cry_0 c5]
        rw [q0] at x2
        exact x2
      · have hpp := (x2.2.2.1 p (by show S 15 p ≠ 0; omega)).1
        have rr : mI C1 4 (p / 4) 0 = nI (p / 4) := (x2.2.1 (p / 4) hr).1
        have p0 : mR C1 7 p 1 = some (p / 4) := hpp.2.1.trans (congrArg some (ro_n52 n52))
        refine fin C' ?_ c4
        unfold f_X3_settleIfDecided
        rw [on_s, c_isDecided hC g1 g2 hp, b1_t ⟨hu, o0, o1⟩]
        simp only [ob_s]
        rw [if_neg (by decide), x1]
        simp only [ob_s]
        have hc : lg_cmp (lN (net S p)) (0 : Int64) ≤ 0 ↔ net S p ≤ 0 := by rw [lg_cmp_le, show (0 : Int64) = lN 0 from rfl, L_le (by omega) (by omega)]
        rw [x3, p0, if_neg (fun z => by have := hc.mp z; omega)]
        simp only [ob_s]
        rw [rr]
        unfold f_X3_carryFrom
        simp only [lt_e]
        rw [nI_1, c1]
        rfl
    · obtain ⟨C', x1, x2⟩ := c_won hC g1 g2 g hp hu q hN
      obtain ⟨d1, -, -⟩ := due_n g1 g q a5 hN
      obtain ⟨R', z1, z2⟩ := m_159 (k := k) (p := p) (e := ded S p) (b := 0) (h := 0) (o := 0) g1 g2 g hp ho q hN d1 FU 0 M (Nat.zero_le _) (by show S 0 19 < 0 + 1000; omega) (by rw [f31_0]; exact m2) m28 m29 m30
      obtain ⟨i1, i2, i3, i4, i5⟩ := stl_inv (k := wk S p) (e := ded S p) (u := dueN S p (S 0 19)) (b := net S p - dueN S p (S 0 19)) (h := dueN S p (S 0 19) - net S p) (o := 0) (f := f31 S p (S 0 19)) g1 g2 g g4 g5 hp hu hwk (fun t ht => by
        unfold f31
        rw [if_neg]
        rintro ⟨w1, w2, -⟩
        rcases ht with w | w
        · omega
        · exact w w2)
      have h15 : mJ C' 7 p 15 = 0 := (x2.2.2.1 p (by show S 15 p ≠ 0; omega)).1.2.2.2.2.2.2.2.2.2.2.2.2.2.1.trans (congrArg lN (if_pos rfl))
      refine ⟨_, C', R', ec C' x1 h15, em _ ?_, z2, x2, i1, i2, i3, ?_, i5, KP_stl, ?_, fun q hq => ?_⟩
      · rw [if_neg (fun z => q ((nI_z (by omega)).mp z))]
        exact z1
      · exact GMb_le i4 (by split <;> omega)
      · show (if p = p then 1 else S 18 p) ≠ 0
        rw [if_pos rfl]; omega
      · show (if q = p then 1 else S 18 q) = S 18 q
        rw [if_neg hq]
