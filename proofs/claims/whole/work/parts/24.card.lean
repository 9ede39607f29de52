/-! ===== the calls race, place ===== -/
theorem rn_I {M : Mm} {s i s' i' k' : Nat} : mI (nA M s i) s' i' k' = if s' = s ∧ i' = i then 0 else mI M s' i' k' := rfl
theorem rn_J {M : Mm} {s i s' i' k' : Nat} : mJ (nA M s i) s' i' k' = if s' = s ∧ i' = i then 0 else mJ M s' i' k' := rfl
theorem rn_R {M : Mm} {s i s' i' k' : Nat} : mR (nA M s i) s' i' k' = if s' = s ∧ i' = i then none else mR M s' i' k' := rfl
theorem rn_A {M : Mm} {s i s' i' : Nat} : mA (nA M s i) s' i' = if s' = s ∧ i' = i then true else mA M s' i' := rfl
theorem nI_lit0 : nI 0 = (0 : Int32) := rfl
theorem nI_lit1 : nI 1 = (1 : Int32) := rfl
/-- nothing was sold yet -/
theorem sold0 {S : SV} {k : Nat} (g : GT S k) : (0 : Int32) < nI (S 0 19) ↔ S 0 19 ≠ 0 := by
  rw [nI_0lt (by have := g.1; have := g.2.1; omega)]; omega
theorem rng_full {S : SV} {r n : Nat} (h : ∀ m, m < 25 → S 13 (25 * r + m) = 0) (hn : n ≤ 24) : sm n (fun m => if S 13 (25 * r + (m + 1)) = 0 then 1 else 0) = n := by
  have : sm n (fun m => if S 13 (25 * r + (m + 1)) = 0 then 1 else 0) = sm n (fun _ => 1) := sm_congr (fun m hm => by
    show (if S 13 (25 * r + (m + 1)) = 0 then 1 else 0) = 1
    rw [if_pos (h (m + 1) (by omega))])
  rw [this, sm_const]
  omega
theorem s_race : S_race Inv := by
  intro k C R v w hk hI
  obtain ⟨S, hR, hC, g1, g2, g3, g4, g5⟩ := hI
  have stay : ∃ (r : Int32) (C' R' : Mm), some ((0 : Int32), C) = some (r, C') ∧ some ((0 : Int32), R) = some (r, R') ∧ Inv (k + 1) C' R' := ⟨0, C, R, rfl, rfl, S, hR, hC, g1, g2, GT_s g3 hk, g4, g5⟩
  unfold f_X3_race f_X4_race
  rw [hC.1.2.2.1, RM_T hR]
  simp only [m_in, ob_s, b1_if]
  by_cases q0 : (0 : Int32) < nI (S 0 19)
  · rw [if_pos q0, if_pos q0]; exact stay
  · rw [if_neg q0, if_neg q0]
    have hT : S 0 19 = 0 := Decidable.byContradiction (fun z => q0 ((sold0 g3).mpr z))
    rw [hC.1.1]
    simp only [ob_s, i_lt, i_le]
    by_cases q1 : (1 : Int32).toInt ≤ v.toInt ∧ v.toInt ≤ (12 : Int32).toInt
    · have q1' : 1 ≤ v.toInt ∧ v.toInt ≤ 12 := q1
      rw [if_pos q1, if_neg (show ¬ v.toInt < (1 : Int32).toInt from by show ¬ v.toInt < 1; omega), if_neg (show ¬ (13 : Int32).toInt ≤ v.toInt from by show ¬ 13 ≤ v.toInt; omega)]
      obtain ⟨e1, e2⟩ := i_of (x := v) (by omega)
      rw [ix_v (vp_in_iff.mpr (by omega)), hC.1.2.2.2.2.2.1 _ (by omega)]
      generalize hr : v.toNatClampNeg = r at e1 e2 ⊢
      subst e1
      by_cases q2 : (2 : Int32).toInt ≤ w.toInt ∧ w.toInt ≤ (24 : Int32).toInt
      · have q2' : 2 ≤ w.toInt ∧ w.toInt ≤ 24 := q2
        rw [if_pos q2, RM_ref hR 0]
        simp only [ob_s]
        rw [ix_n (by omega) (by omega), RM_I hR 10]
        have hl := GA_10 g1 r
        by_cases q3 : S 10 r = 0
        · rw [if_pos q3, on_n, if_neg (show ¬ w.toInt < (2 : Int32).toInt from by show ¬ w.toInt < 2; omega), if_pos (show w.toInt ≤ (24 : Int32).toInt from q2'.2), if_pos (i_le.mp ((nI_le0 (by omega)).mpr q3)), ix_n (by omega) (by omega)]
          obtain ⟨a1, a2, a3⟩ := hC.2.2.2.2.1 r q3
          rw [nw_f a1]
          unfold f_X1_init
          simp only [lt_e]
          rw [nw_f (show mA (nA C 4 r) 5 r = false from a2), nw_f (show mA (sR (nA (nA C 4 r) 5 r) 4 r 2 (some r)) 6 r = false from a3)]
          simp only [ob_s]
          rw [ix_n (by omega) (by omega)]
          obtain ⟨f1, f2⟩ := i_of (x := w) (by omega)
          generalize hn : w.toNatClampNeg = n at f1 f2 ⊢
          subst f1
          refine ⟨1, _, _, rfl, rfl, up S 10 r n, RM_sI hR (by omega), ⟨⟨hC.1.1, hC.1.2.1, hC.1.2.2.1, hC.1.2.2.2.1, hC.1.2.2.2.2.1, fun r' hr' => ?_, hC.1.2.2.2.2.2.2⟩, fun r' hr' => ?_, fun p hp => ⟨(hC.2.2.1 p hp).1, ?_⟩, fun t ht => absurd ht (by show ¬ t < S 0 19; omega), fun r' hr' => ?_, hC.2.2.2.2.2⟩, ?_, ?_, ?_, ?_, ?_⟩
          · rw [rd_R]
            by_cases e : r' = r
            · subst e; rw [if_pos ⟨rfl, rfl, rfl⟩, up_s, if_neg (by omega)]
            · rw [if_neg (fun z => e z.2.2), up_n (fun z => e z.2)]
              exact hC.1.2.2.2.2.2.1 r' hr'
          · by_cases e : r' = r
            · subst e
              have hz := fun m hm => (g1.2.2.2.2 r' m q3 hm).1
              have hz2 := fun m hm => (g1.2.2.2.2 r' m q3 hm).2
              have h12 := g1.2.2.1 r'
              refine ⟨?_, ?_, ?_, ?_, ?_, ?_, ?_, fun m hm => ?_, fun j hj => ?_⟩
              · rw [rd_IR, rd_I, if_neg (by omega), rd_I, if_neg (by omega), rd_I, if_pos ⟨rfl, rfl, rfl⟩]
              · rw [rd_IR, rd_I, if_neg (by omega), rd_I, if_pos ⟨rfl, rfl, rfl⟩, up_s]
              · rw [rd_R, if_neg (by omega), rd_RI, rd_RI, rd_RI, rd_R, if_neg (by omega), rn_R, if_neg (by omega), rd_R, if_pos ⟨rfl, rfl, rfl⟩]
              · rw [rd_R, if_neg (by omega), rd_RI, rd_RI, rd_RI, rd_R, if_pos ⟨rfl, rfl, rfl⟩]
              · rw [rd_IR, rd_I, if_neg (by omega), rd_I, if_neg (by omega), rd_I, if_neg (by omega), rd_IR, rn_I, if_neg (by omega), rd_IR, rn_I, if_neg (by omega), rn_I, if_pos ⟨rfl, rfl⟩]
                show (0 : Int32) = nI (S 11 r')
                rw [(g1.2.1 r').2 q3]; rfl
              · rw [rd_IR, rd_I, if_pos ⟨rfl, rfl, rfl⟩]
                show nI n = nI (sm (up S 10 r' n 10 r') _)
                rw [up_s]
                exact congrArg nI (rng_full hz (by omega)).symm
              · rw [rd_IR, rd_I, if_neg (by omega), rd_I, if_neg (by omega), rd_I, if_neg (by omega), rd_IR, rn_I, if_neg (by omega), rd_IR, rn_I, if_neg (by omega), rn_I, if_pos ⟨rfl, rfl⟩]
                show (0 : Int32) = nI (S 12 r')
                rw [show S 12 r' = 0 by omega]; rfl
              · rw [rd_IR, rd_I, if_neg (by omega), rd_I, if_neg (by omega), rd_I, if_neg (by omega), rd_IR, rn_I, if_neg (by omega), rd_IR, rn_I, if_pos ⟨rfl, rfl⟩]
                show (0 : Int32) = if S 13 (25 * r' + m) = 0 then nI (S 14 (25 * r' + m)) else -1
                rw [if_pos (hz m hm), hz2 m hm]; rfl
              · rw [rd_R, if_neg (by omega), rd_RI, rd_RI, rd_RI, rd_R, if_neg (by omega), rn_R, if_pos ⟨rfl, rfl⟩]
                show none = if S 15 (4 * r' + j) = 0 then none else some (4 * r' + j)
                rw [if_pos]
                have h15 := g2.1 (4 * r' + j)
                by_cases z : S 15 (4 * r' + j) = 1
                · have := (g2.2.1 _ z).2.1
                  rw [show (4 * r' + j) / 4 = r' by omega] at this
                  omega
                · omega
            · have hr'' : S 10 r' ≠ 0 := by rw [up_n (fun z => e z.2)] at hr'; exact hr'
              obtain ⟨k1, k2, k3, k4, k5, k6, k7, k8, k9⟩ := hC.2.1 r' hr''
              refine ⟨?_, ?_, ?_, ?_, ?_, ?_, ?_, fun m hm => ?_, fun j hj => ?_⟩
              · simp only [rd_IR, rd_I, rn_I, e, false_and, and_false, if_false]; exact k1
              · simp only [rd_IR, rd_I, rn_I, e, false_and, and_false, if_false]; rw [up_n (fun z => e z.2)]; exact k2
              · simp only [rd_RI, rd_R, rn_R, e, false_and, and_false, if_false]; rw [if_neg (by omega)]; exact k3
              · simp only [rd_RI, rd_R, rn_R, e, false_and, and_false, if_false]; rw [if_neg (by omega)]; exact k4
              · simp only [rd_IR, rd_I, rn_I, e, false_and, and_false, if_false]; exact k5
              · simp only [rd_IR, rd_I, rn_I, e, false_and, and_false, if_false]
                show _ = nI (sm (up S 10 r n 10 r') _)
                rw [up_n (fun z => e z.2)]; exact k6
              · simp only [rd_IR, rd_I, rn_I, e, false_and, and_false, if_false]; exact k7
              · rw [rd_IR, rd_I, if_neg (by omega), rd_I, if_neg (by omega), rd_I, if_neg (by omega), rd_IR, rn_I, if_neg (by omega), rd_IR, rn_I, if_neg (fun z => e z.2), rn_I, if_neg (by omega)]
                exact k8 m hm
              · simp only [rd_RI, rd_R, rn_R, e, false_and, and_false, if_false]; rw [if_neg (by omega)]; exact k9 j hj
          · obtain ⟨d1, d2⟩ := (hC.2.2.1 p hp).2
            refine ⟨d1, fun z => ?_⟩
            obtain ⟨N, W, y1, y2, y3, y4, -⟩ := d2 z
            exact ⟨N, W, y1, y2, y3, y4, fun t ht => absurd ht (by show ¬ t < S 0 19; omega)⟩
          · by_cases e : r' = r
            · subst e; rw [up_s] at hr'; omega
            · rw [up_n (fun z => e z.2)] at hr'
              obtain ⟨b1', b2', b3'⟩ := hC.2.2.2.2.1 r' hr'
              simp only [rd_AR, rd_AI, rn_A, e, and_false, if_false]
              exact ⟨b1', b2', b3'⟩
          · refine ⟨fun r' hr' => ?_, fun r' => ⟨(g1.2.1 r').1, fun z => ?_⟩, fun r' => ?_, g1.2.2.2.1, fun r' m z hm => ?_⟩
            · by_cases e : r' = r
              · subst e; rw [up_s]; omega
              · rw [up_n (fun z => e z.2)] at hr' ⊢; exact g1.1 r' hr'
            · by_cases e : r' = r
              · subst e; exact (g1.2.1 r').2 q3
              · rw [up_n (fun z => e z.2)] at z; exact (g1.2.1 r').2 z
            · have := g1.2.2.1 r'
              by_cases e : r' = r
              · subst e; rw [up_s]; show S 12 r' ≤ n; omega
              · rw [up_n (s := 10) (s' := 10) (fun z => e z.2)]; exact this
            · by_cases e : r' = r
              · subst e; exact g1.2.2.2.2 r' m q3 hm
              · rw [up_n (fun z => e z.2)] at z; exact g1.2.2.2.2 r' m z hm
          · have hne : ∀ x, S 10 x ≠ 0 → up S 10 r n 10 x ≠ 0 := fun x hx => by
              by_cases e : x = r
              · subst e; exact absurd q3 hx
              · rw [up_n (fun z => e z.2)]; exact hx
            refine ⟨g2.1, fun p hp => ?_, fun hp => ?_, g2.2.2.2.1, g2.2.2.2.2⟩
            · obtain ⟨a1, a2, a3⟩ := g2.2.1 p hp
              exact ⟨a1, a2.imp id (hne _), a3⟩
            · obtain ⟨a1, a2, a3⟩ := g2.2.2.1 hp
              exact ⟨hne _ a1, hne _ a2, a3⟩
          · obtain ⟨t1, t2, t3, t4, t5, t6⟩ := GT_s g3 hk
            exact ⟨t1, t2, fun t ht => absurd ht (by show ¬ t < S 0 19; omega), t4, t5, t6⟩
          · exact g4
          · refine ⟨fun r' hr' m hm1 hm2 hm3 => ?_, fun r' m h0 hm => g5.2 r' m h0 hm⟩
            have e : r' ≠ r := fun e => by
              subst e
              have : S 11 r' = 0 := (g1.2.1 r').2 q3
              have : S 11 r' = 2 := hr'
              omega
            have e10 : up S 10 r n 10 r' = S 10 r' := up_n (fun z => e z.2)
            rw [e10] at hm2 ⊢
            exact g5.1 r' hr' m hm1 hm2 hm3
        · rw [if_neg q3, on_s, if_neg (fun z => q3 ((nI_le0 (by omega)).mp (i_le.mpr z)))]
          exact stay
      · rw [if_neg q2]
        have q2' : ¬ (2 ≤ w.toInt ∧ w.toInt ≤ 24) := q2
        by_cases q3 : S 10 r = 0
        · rw [if_pos q3, on_n]
          by_cases q4 : w.toInt < (2 : Int32).toInt
          · rw [if_pos q4]; exact stay
          · have q4' : ¬ w.toInt < 2 := q4
            rw [if_neg q4, if_neg (show ¬ w.toInt ≤ (24 : Int32).toInt from fun z => q2' ⟨by omega, z⟩)]; exact stay
        · rw [if_neg q3, on_s]; exact stay
    · rw [if_neg q1]
      have q1' : ¬ (1 ≤ v.toInt ∧ v.toInt ≤ 12) := q1
      by_cases q2 : v.toInt < (1 : Int32).toInt
      · rw [if_pos q2]; exact stay
      · have q2' : ¬ v.toInt < 1 := q2
        rw [if_neg q2, if_pos (show (13 : Int32).toInt ≤ v.toInt from by show 13 ≤ v.toInt; omega)]; exact stay
