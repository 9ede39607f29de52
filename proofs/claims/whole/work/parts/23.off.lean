/-! ===== poolOf; the calls off, carried, and what is no call ===== -/
theorem rOf_le {S : SV} {v : Int32} {r : Nat} (h : rOf S v = some r) : r ≤ 12 := (rOf_s h).2.2.1
theorem c_poolOf {S : SV} {C : Mm} {EE : Nat → Prop} (h : RCx EE S C) (g : GA S) (v w : Int32) : f_X3_poolOf 0 v w C = some (pOf S v w) := by
  unfold f_X3_poolOf pOf
  by_cases q : w = 4
  · rw [if_pos q, if_pos q, h.1.2.2.2.1]
  · rw [if_neg q, if_neg q, c_raceNumbered h g, ob_s]
    cases hr : rOf S v with
    | none => rfl
    | some r =>
      obtain ⟨-, -, -, r4⟩ := rOf_s hr
      obtain ⟨-, -, -, h3, -, -, -, -, h8⟩ := h.2.1 r r4
      rw [on_s, h3]
      simp only [ob_s, i_lt]
      by_cases q1 : w.toInt < (0 : Int32).toInt
      · have q1' : w.toInt < 0 := q1
        rw [if_pos q1, if_neg (by omega)]
      · have q1' : ¬ w.toInt < 0 := q1
        rw [if_neg q1]
        obtain ⟨e1, e2⟩ := i_of (x := w) (by omega)
        by_cases q2 : w.toInt < (4 : Int32).toInt
        · have q2' : w.toInt < 4 := q2
          rw [if_pos q2, ix_v (vp_in_iff.mpr (by omega)), h8 _ (by omega)]
          by_cases q3 : S 15 (4 * r + w.toNatClampNeg) = 0
          · rw [if_pos q3, if_neg (fun z => z.2.2 q3)]
          · rw [if_neg q3, if_pos ⟨by omega, by omega, q3⟩]
        · have q2' : ¬ w.toInt < 4 := q2
          rw [if_neg q2, if_neg (by omega)]
theorem m_poolOf {S : SV} {R : Mm} (h : RM S R) (g : GA S) {DD : Nat → Prop} {ZZ : Prop} (gp : GPx DD ZZ S) (v w : Int32) : f_X4_poolOf 0 v w R = some (pI (pOf S v w)) := by
  unfold f_X4_poolOf pOf
  by_cases q : w = 4
  · rw [if_pos q, if_pos q, RM_ref h 5, ob_s, ix_52, cl_52, RM_I h 15]
    have := gp.1 52
    by_cases q0 : S 15 52 = 0
    · rw [if_pos ((nI_z (by omega)).mpr q0), if_pos q0]; rfl
    · rw [if_neg (fun z => q0 ((nI_z (by omega)).mp z)), if_neg q0]; rfl
  · rw [if_neg q, if_neg q, m_isRace h g, ob_s, b1_if]
    cases hr : rOf S v with
    | none => rw [if_neg (fun z => z rfl)]; rfl
    | some r =>
      obtain ⟨r1, r2, r3, r4⟩ := rOf_s hr
      rw [if_pos (fun z => by cases z), m_in, ob_s, b1_if]
      by_cases q1 : (0 : Int32).toInt ≤ w.toInt ∧ w.toInt ≤ (3 : Int32).toInt
      · have q1' : 0 ≤ w.toInt ∧ w.toInt ≤ 3 := q1
        rw [if_pos q1, RM_ref h 5, ob_s]
        obtain ⟨e1, e2⟩ := i_of (x := w) q1'.1
        have e3 : (4 : Int32) * v + w = nI (4 * r + w.toNatClampNeg) := by
          rw [r1, show (4 : Int32) = nI 4 from rfl, pk_mul]
          exact (congrArg (nI (4 * r) + ·) e1).trans (nI_add _ _)
        rw [e3, ix_n (by omega) (by omega), nI_cl (by omega), RM_I h 15]
        have := gp.1 (4 * r + w.toNatClampNeg)
        by_cases q0 : S 15 (4 * r + w.toNatClampNeg) = 0
        · rw [if_pos ((nI_z (by omega)).mpr q0)]
          show _ = some (pI (if _ then _ else _))
          rw [if_neg (fun z => z.2.2 q0)]; rfl
        · rw [if_neg (fun z => q0 ((nI_z (by omega)).mp z))]
          show _ = some (pI (if _ then _ else _))
          rw [if_pos ⟨q1'.1, q1'.2, q0⟩]; rfl
      · rw [if_neg q1]
        have q1' : ¬ (0 ≤ w.toInt ∧ w.toInt ≤ 3) := q1
        show _ = some (pI (if _ then _ else _))
        rw [if_neg (fun z => q1' ⟨z.1, z.2.1⟩)]; rfl
/-- what a pool that is named is -/
theorem pOf_s {S : SV} {v w : Int32} {p : Nat} (g : GA S) {DD : Nat → Prop} {ZZ : Prop} (gp : GPx DD ZZ S) (h : pOf S v w = some p) : p ≤ 52 ∧ S 15 p = 1 ∧ (p = 52 → w = 4) := by
  have key : ∀ q, S 15 q ≠ 0 → S 15 q = 1 := fun q hq => by have := gp.1 q; omega
  unfold pOf at h
  by_cases q : w = 4
  · rw [if_pos q] at h
    by_cases q0 : S 15 52 = 0
    · rw [if_pos q0] at h; cases h
    · rw [if_neg q0] at h; cases h; exact ⟨by omega, key _ q0, fun _ => q⟩
  · rw [if_neg q] at h
    cases hr : rOf S v with
    | none => rw [hr] at h; cases h
    | some r =>
      rw [hr] at h
      obtain ⟨r1, r2, r3, r4⟩ := rOf_s hr
      by_cases q1 : 0 ≤ w.toInt ∧ w.toInt ≤ 3 ∧ S 15 (4 * r + w.toNatClampNeg) ≠ 0
      · have h' : (if 0 ≤ w.toInt ∧ w.toInt ≤ 3 ∧ S 15 (4 * r + w.toNatClampNeg) ≠ 0 then some (4 * r + w.toNatClampNeg) else none) = some p := h
        rw [if_pos q1] at h'
        cases h'
        obtain ⟨e1, e2⟩ := i_of (x := w) q1.1
        exact ⟨by omega, key _ q1.2.2, fun z => by omega⟩
      · have h' : (if 0 ≤ w.toInt ∧ w.toInt ≤ 3 ∧ S 15 (4 * r + w.toNatClampNeg) ≠ 0 then some (4 * r + w.toNatClampNeg) else none) = some p := h
        rw [if_neg q1] at h'
        cases h'
/-- the house: a race goes on -/
theorem RC_phase {S : SV} {C : Mm} {r v : Nat} (h : RC S C) (hr : S 10 r ≠ 0) : RC (up S 11 r v) (sI C 4 r 4 (nI v)) := by
  obtain ⟨h1, h2, h3, h4, h5⟩ := h
  refine ⟨h1, fun r' hr' => ?_, h3, h4, h5⟩
  obtain ⟨k1, k2, k3, k4, k5, k6, k7, k8, k9⟩ := h2 r' hr'
  refine ⟨?_, ?_, k3, k4, ?_, ?_, ?_, k8, k9⟩
  · rw [rd_I, if_neg (by omega)]; exact k1
  · rw [rd_I, if_neg (by omega)]; exact k2
  · rw [rd_I]
    by_cases q : r' = r
    · subst q; rw [if_pos ⟨rfl, rfl, rfl⟩, up_s]
    · rw [if_neg (fun z => q z.2.1), up_n (fun z => q z.2)]; exact k5
  · rw [rd_I, if_neg (by omega)]; exact k6
  · rw [rd_I, if_neg (by omega)]; exact k7
theorem s_carried : S_carried Inv := by
  intro k C R hk hI
  obtain ⟨S, hR, hC, g1, g2, g3, g4, g5⟩ := hI
  refine ⟨lN (S 0 26), ?_, ?_, S, hR, hC, g1, g2, ⟨Nat.le_succ_of_le g3.1, by omega, g3.2.2⟩, g4, g5⟩
  · unfold f_X3_carried; rw [hC.1.2.2.2.2.1]
  · unfold f_X4_carried; rw [RM_end hR]
theorem GT_s {S : SV} {k : Nat} (h : GT S k) (hk : k < 512) : GT S (k + 1) := ⟨Nat.le_succ_of_le h.1, by omega, h.2.2⟩
theorem s_no : S_no Inv := by
  intro k C R hk hI
  obtain ⟨S, hR, hC, g1, g2, g3, g4, g5⟩ := hI
  exact ⟨S, hR, hC, g1, g2, GT_s g3 hk, g4, g5⟩
theorem s_off : S_off Inv := by
  intro k C R v hk hI
  obtain ⟨S, hR, hC, g1, g2, g3, g4, g5⟩ := hI
  unfold f_X3_off f_X4_off
  rw [c_raceNumbered hC g1, m_isRace hR g1]
  simp only [ob_s]
  rw [b1_if]
  cases hr : rOf S v with
  | none =>
    rw [on_n, if_neg (fun z => z rfl)]
    exact ⟨0, C, R, rfl, rfl, S, hR, hC, g1, g2, GT_s g3 hk, g4, g5⟩
  | some r =>
    obtain ⟨r1, r2, r3, r4⟩ := rOf_s hr
    rw [on_s, if_pos (fun z => by cases z), RM_ref hR 1]
    simp only [ob_s]
    rw [r1, ix_n (by omega) (by omega), nI_cl (by omega), RM_I hR 11, (hC.2.1 r r4).2.2.2.2.1]
    have := (g1.2.1 r).1
    by_cases q : S 11 r = 0
    · rw [if_pos ((nI_z (by omega)).mpr q), if_pos ((nI_z (by omega)).mpr q), ix_n (by omega) (by omega)]
      refine ⟨1, _, _, rfl, rfl, up S 11 r 1, RM_sI hR (by omega), RC_phase hC r4, ?_, ?_, GT_s g3 hk, ?_, ?_⟩
      · refine ⟨g1.1, fun r' => ?_, g1.2.2.1, g1.2.2.2.1, g1.2.2.2.2⟩
        by_cases e : r' = r
        · subst e; rw [up_s]; exact ⟨by omega, fun z => absurd z r4⟩
        · rw [up_n (fun z => e z.2)]; exact g1.2.1 r'
      · have e2 : ∀ x, up S 11 r 1 11 x = 2 ↔ S 11 x = 2 := fun x => by
          by_cases e : x = r
          · subst e; rw [up_s, q]; omega
          · rw [up_n (fun z => e z.2)]
        refine ⟨g2.1, fun p hp => ?_, g2.2.2.1, g2.2.2.2.1, g2.2.2.2.2⟩
        obtain ⟨a1, a2, a3, a4, a5, a6, a7, a8⟩ := g2.2.1 p hp
        refine ⟨a1, a2, a3, a4, a5, a6, a7, a8.trans ?_⟩
        exact (not_congr (and_congr (e2 _) (e2 _))).symm
      · have e2 : ∀ x, (if up S 11 r 1 11 x = 2 then 1 else 0) = (if S 11 x = 2 then 1 else 0) := fun x => by
          by_cases e : x = r
          · subst e; rw [up_s, q]; rfl
          · rw [up_n (fun z => e z.2)]
        have e3 : cap (up S 11 r 1 11) = cap (S 11) := by
          unfold cap offN
          rw [sm_congr (fun x _ => e2 x)]
        refine ⟨g4.1, fun p => ?_, ?_⟩
        · rw [e3]; exact g4.2.1 p
        · rw [e3]; exact g4.2.2
      · refine ⟨fun r' hr' => ?_, fun r' m h0 hm => ?_⟩
        · by_cases e : r' = r
          · subst e; rw [up_s] at hr'; omega
          · rw [up_n (fun z => e z.2)] at hr'; exact g5.1 r' hr'
        · by_cases e : r' = r
          · subst e; rw [up_s] at h0; omega
          · rw [up_n (fun z => e z.2)] at h0; exact g5.2 r' m h0 hm
    · rw [if_neg (fun z => q ((nI_z (by omega)).mp z)), if_neg (fun z => q ((nI_z (by omega)).mp z))]
      exact ⟨0, C, R, rfl, rfl, S, hR, hC, g1, g2, GT_s g3 hk, g4, g5⟩
