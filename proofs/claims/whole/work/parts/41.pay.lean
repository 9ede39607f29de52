/-! ===== what the model says wins; the call pay ===== -/
theorem m_wins {S : SV} {R : Mm} {p x y z : Nat} (h : RM S R) (g1 : GA S) {DD : Nat → Prop} {ZZ : Prop} (g2 : GPx DD ZZ S) (hp : S 15 p = 1) (vx : 1 ≤ x ∧ x ≤ S 10 (ro S p 0)) (vy : 2 ≤ mny p → 1 ≤ y ∧ y ≤ S 10 (ro S p 1)) (vz : 3 ≤ mny p → 1 ≤ z ∧ z ≤ S 10 (ro S p 2)) (hd : p ≠ 52 → (2 ≤ mny p → x ≠ y) ∧ (3 ≤ mny p → x ≠ z ∧ y ≠ z)) (ho : GOr S (ro S p 0)) : f_X4_wins 0 (nI p) (nI x) (nI y) (nI z) R = some (b1 (wns S p x y z)) := by
  have p1 := (g2.2.1 p hp).1
  have hr := ro_le g1 g2 hp 0
  have hl := GA_10 g1 (ro S p 0)
  have hl1 := GA_10 g1 (ro S p 1)
  have hm := mny_kd p
  have hrn := GA_rng g1 (ro S p 0)
  have hP := (g1.2.2.2.1 (25 * ro S p 0 + x)).2.1
  have e0 : f_X4_raceOf 0 (nI p) (0 : Int32) R = some (nI (ro S p 0)) := m_raceOf (k := 0) h p1 (by omega)
  unfold f_X4_wins
  rw [e0]
  simp only [ob_s]
  rw [m_running h g1 hr, RM_ref h 4, m_kindOf p1]
  simp only [ob_s, lt_e]
  rw [e25, ix_n (by omega) (by omega), nI_cl (by omega), RM_I h 14]
  rcases kd_5 p with q | q | q | q | q
  · rw [b1_congr (wns_0 (a := x) (b := y) (c := z) (S := S) q)]
    rw [q, if_pos (show nI 0 = (0 : Int32) from rfl), some_if]
    refine congrArg some (b1_congr ?_)
    rw [nI_1e (by omega)]
    exact ⟨fun w => ⟨by omega, by omega⟩, fun w => by have := w.1; have := w.2; omega⟩
  · rw [b1_congr (wns_1 (a := x) (b := y) (c := z) (S := S) q)]
    rw [q, if_neg (show ¬ nI 1 = (0 : Int32) from by decide), if_pos (show nI 1 = (1 : Int32) from rfl)]
    unfold lwp
    have l8 : nI (rng S (ro S p 0)) < (8 : Int32) ↔ rng S (ro S p 0) < 8 := nI_ltI (b := 8) (by omega) (by omega)
    have l5 : nI (rng S (ro S p 0)) < (5 : Int32) ↔ rng S (ro S p 0) < 5 := nI_ltI (b := 5) (by omega) (by omega)
    have l2 : (2 : Int32) < nI (S 14 (25 * ro S p 0 + x)) ↔ 2 < S 14 (25 * ro S p 0 + x) := nI_ltI (a := 2) (by omega) (by omega)
    have l3 : (3 : Int32) < nI (S 14 (25 * ro S p 0 + x)) ↔ 3 < S 14 (25 * ro S p 0 + x) := nI_ltI (a := 3) (by omega) (by omega)
    by_cases c0 : S 14 (25 * ro S p 0 + x) = 0
    · rw [if_pos ((nI_le0 (by omega)).mpr c0)]
      exact congrArg some (b1_f (fun w => by have := w.1; omega)).symm
    · rw [if_neg (fun w => c0 ((nI_le0 (by omega)).mp w))]
      by_cases c8 : rng S (ro S p 0) < 8
      · rw [if_pos (l8.mpr c8), if_neg (c := 8 ≤ rng S (ro S p 0)) (by omega)]
        by_cases c5 : rng S (ro S p 0) < 5
        · rw [if_pos (l5.mpr c5), if_neg (c := 5 ≤ rng S (ro S p 0)) (by omega)]
          exact congrArg some (b1_f (fun w => by have := w.2; omega)).symm
        · rw [if_neg (fun w => c5 (l5.mp w)), if_pos (c := 5 ≤ rng S (ro S p 0)) (by omega)]
          by_cases c2 : 2 < S 14 (25 * ro S p 0 + x)
          · rw [if_pos (l2.mpr c2)]
            exact congrArg some (b1_f (fun w => by have := w.2; omega)).symm
          · rw [if_neg (fun w => c2 (l2.mp w))]
            exact congrArg some (b1_t ⟨by omega, by omega⟩).symm
      · rw [if_neg (fun w => c8 (l8.mp w)), if_pos (c := 8 ≤ rng S (ro S p 0)) (by omega)]
        by_cases c3 : 3 < S 14 (25 * ro S p 0 + x)
        · rw [if_pos (l3.mpr c3)]
          exact congrArg some (b1_f (fun w => by have := w.2; omega)).symm
        · rw [if_neg (fun w => c3 (l3.mp w))]
          exact congrArg some (b1_t ⟨by omega, by omega⟩).symm
  · have m2 : 2 ≤ mny p := hm.1.mpr (by omega)
    have n52 : p ≠ 52 := fun w => by have := kd_52.mpr w; omega
    have er : ro S p 1 = ro S p 0 := by unfold ro; rw [if_neg n52, if_neg n52]
    have vy' := vy m2
    rw [er] at vy' hl1
    have hne := (hd n52).1 m2
    rw [b1_congr (wns_2 (a := x) (b := y) (c := z) (S := S) q)]
    rw [q, if_neg (show ¬ nI 2 = (0 : Int32) from by decide), if_neg (show ¬ nI 2 = (1 : Int32) from by decide), if_pos (show nI 2 = (2 : Int32) from rfl)]
    obtain ⟨a1, a2⟩ := m_ahead2 (x := x) (y := y) h g1 hr (by omega) (by omega) 0
    obtain ⟨c1, c2⟩ := m_ahead2 (x := y) (y := x) h g1 hr (by omega) (by omega) 0
    have t1 : (okk S (ro S p 0) 0 (nI x) (nI y) x ∧ okk S (ro S p 0) 1 (nI x) (nI y) y) ↔ (wth S (ro S p 0) x 1 ∧ wth S (ro S p 0) y 2) := by
      rw [ok_0 ho vx]
      exact ⟨fun w => ⟨w.1, (ok_1 g1 ho vx vy' hne w.1).mp w.2⟩, fun w => ⟨w.1, (ok_1 g1 ho vx vy' hne w.1).mpr w.2⟩⟩
    have t2 : (okk S (ro S p 0) 0 (nI y) (nI x) y ∧ okk S (ro S p 0) 1 (nI y) (nI x) x) ↔ (wth S (ro S p 0) y 1 ∧ wth S (ro S p 0) x 2) := by
      rw [ok_0 ho vy']
      exact ⟨fun w => ⟨w.1, (ok_1 g1 ho vy' vx (Ne.symm hne) w.1).mp w.2⟩, fun w => ⟨w.1, (ok_1 g1 ho vy' vx (Ne.symm hne) w.1).mpr w.2⟩⟩
    by_cases w1 : wth S (ro S p 0) x 1 ∧ wth S (ro S p 0) y 2
    · rw [a1 (t1.mpr w1)]
      simp only [ob_s]
      rw [if_neg (by decide)]
      exact congrArg some (b1_t ⟨⟨w1.1.1, Nat.le_trans w1.1.2 (by decide)⟩, w1.2, Or.inl w1.1⟩).symm
    · rw [a2 (fun u => w1 (t1.mp u))]
      simp only [ob_s]
      rw [if_pos trivial]
      by_cases w2 : wth S (ro S p 0) y 1 ∧ wth S (ro S p 0) x 2
      · rw [c1 (t2.mpr w2)]
        simp only [ob_s]
        rw [if_neg (by decide)]
        exact congrArg some (b1_t ⟨w2.2, ⟨w2.1.1, Nat.le_trans w2.1.2 (by decide)⟩, Or.inr w2.1⟩).symm
      · rw [c2 (fun u => w2 (t2.mp u))]
        simp only [ob_s]
        rw [if_pos trivial]
        refine congrArg some (b1_f (fun u => ?_)).symm
        rcases u.2.2 with v | v
        · exact w1 ⟨v, u.2.1⟩
        · exact w2 ⟨v, u.1⟩
  · have m3 : 3 ≤ mny p := hm.2.mpr q
    have m2 : 2 ≤ mny p := Nat.le_trans (by decide) m3
    have n52 : p ≠ 52 := fun w => by have := kd_52.mpr w; omega
    have er : ro S p 1 = ro S p 0 := by unfold ro; rw [if_neg n52, if_neg n52]
    have vy' := vy m2
    have vz' := vz m3
    rw [er] at vy' hl1
    rw [ro_2 m3] at vz'
    have hne := (hd n52).1 m2
    obtain ⟨hn2, hn3⟩ := (hd n52).2 m3
    rw [b1_congr (wns_3 (a := x) (b := y) (c := z) (S := S) q)]
    rw [q, if_neg (show ¬ nI 3 = (0 : Int32) from by decide), if_neg (show ¬ nI 3 = (1 : Int32) from by decide), if_neg (show ¬ nI 3 = (2 : Int32) from by decide), if_pos (show nI 3 = (3 : Int32) from rfl)]
    obtain ⟨a1, a2⟩ := m_ahead3 (x := x) (y := y) (z := z) h g1 hr (by omega) (by omega) (by omega)
    have t1 : (okk S (ro S p 0) 0 (nI x) (nI y) x ∧ okk S (ro S p 0) 1 (nI x) (nI y) y ∧ okk S (ro S p 0) 2 (nI x) (nI y) z) ↔ (wth S (ro S p 0) x 1 ∧ wth S (ro S p 0) y 2 ∧ wth S (ro S p 0) z 3) := by
      rw [ok_0 ho vx]
      constructor
      · intro w
        have w2 := (ok_1 g1 ho vx vy' hne w.1).mp w.2.1
        exact ⟨w.1, w2, (ok_2 g1 ho vx vy' vz' hne hn2 hn3 w.1 w2).mp w.2.2⟩
      · intro w
        exact ⟨w.1, (ok_1 g1 ho vx vy' hne w.1).mpr w.2.1, (ok_2 g1 ho vx vy' vz' hne hn2 hn3 w.1 w.2.1).mpr w.2.2⟩
    by_cases w1 : wth S (ro S p 0) x 1 ∧ wth S (ro S p 0) y 2 ∧ wth S (ro S p 0) z 3
    · rw [a1 (t1.mpr w1), b1_t w1]
      simp only [ob_s]
      rw [zb_1]
    · rw [a2 (fun u => w1 (t1.mp u)), b1_f w1]
      simp only [ob_s]
      rw [zb_0]
  · have m2 : 2 ≤ mny p := hm.1.mpr (by omega)
    have h52 : p = 52 := kd_52.mp q
    subst h52
    have vy' := vy m2
    have hr1 := ro_le g1 g2 hp 1
    have e1 : ro S 52 1 = S 0 18 := rfl
    rw [e1] at vy' hl1 hr1
    have hP2 := (g1.2.2.2.1 (25 * S 0 18 + y)).2.1
    rw [b1_congr (wns_4 (a := x) (b := y) (c := z) (S := S) q), e1]
    rw [q, if_neg (show ¬ nI 4 = (0 : Int32) from by decide), if_neg (show ¬ nI 4 = (1 : Int32) from by decide), if_neg (show ¬ nI 4 = (2 : Int32) from by decide), if_neg (show ¬ nI 4 = (3 : Int32) from by decide)]
    by_cases w1 : S 14 (25 * ro S 52 0 + x) = 1
    · rw [if_pos ((nI_1e (by omega)).mpr w1), RM_18 h]
      rw [e25, ix_n (by omega) (by omega), nI_cl (by omega), RM_I h 14, some_if]
      refine congrArg some (b1_congr ?_)
      rw [nI_1e (by omega)]
      exact ⟨fun w => ⟨⟨by omega, by omega⟩, by omega, by omega⟩, fun w => by have := w.2.1; have := w.2.2; omega⟩
    · rw [if_neg (fun w => w1 ((nI_1e (by omega)).mp w))]
      exact congrArg some (b1_f (fun w => by have := w.1.1; have := w.1.2; omega)).symm
theorem m_holds {S : SV} {R : Mm} {k t : Nat} (h : RM S R) (g1 : GA S) {DD : Nat → Prop} {ZZ : Prop} (g2 : GPx DD ZZ S) {TT : Prop} (g : GTx TT S k) (ht : t < S 0 19) (ho : GOr S (ro S (S 27 t) 0)) : f_X4_holds 0 (nI t) R = some (b1 (wnT S t)) := by
  have hT := GT_T g
  have hg := GT_t g ht
  have hpt := GT_p g g2 ht
  obtain ⟨-, -, -, -, a5, a6⟩ := g.2.2.1 t ht
  have hm := mny_le (S 27 t)
  unfold f_X4_holds
  rw [RM_ref h 20, RM_ref h 21]
  simp only [ob_s]
  rw [e31, e32, e3, ix_n (by omega) (by omega), ix_n (by omega) (by omega), ix_n (by omega) (by omega), ix_n (by omega) (by omega), nI_cl (by omega), nI_cl (by omega), nI_cl (by omega), nI_cl (by omega), RM_I h 27, RM_I h 28, RM_I h 28, RM_I h 28]
  have v0 := a5 0 (by omega)
  rw [if_pos (show 0 < mny (S 27 t) by omega)] at v0
  rw [m_wins (x := S 28 (3 * t)) (y := S 28 (3 * t + 1)) (z := S 28 (3 * t + 2)) h g1 g2 hg.1 ⟨v0.1, v0.2.1⟩ (fun m => by
    have v1 := a5 1 (by omega)
    rw [if_pos (show 1 < mny (S 27 t) by omega)] at v1
    exact ⟨v1.1, v1.2.1⟩) (fun m => by
    have v2 := a5 2 (by omega)
    rw [if_pos (show 2 < mny (S 27 t) by omega)] at v2
    exact ⟨v2.1, v2.2.1⟩) a6 ho]
  simp only [ob_s]
  rw [zb_b]
theorem same_self {S : SV} {t : Nat} : sameTT S t t := ⟨rfl, Or.inr ⟨rfl, Or.inr rfl, Or.inr rfl⟩⟩
/-- one more ticket is paid -/
theorem pay_inv {S : SV} {k : Nat} {C R : Mm} {t : Nat} (hR : RM S R) (hC : RC S C) (g1 : GA S) (g2 : GP S) (g3 : GT S k) (hk : k < 512) (g4 : GM S) (g5 : GO S) (ht : t < S 0 19) (h30 : S 30 t = 0) (h18 : S 18 (S 27 t) = 1) (v : Nat) : Inv (k + 1) (sJ (sI C 8 t 6 (nI 3)) 7 (S 27 t) 16 (lN (S 25 (S 27 t) + v))) (sJ (sI R 30 0 t (nI 3)) 25 0 (S 27 t) (lN (S 25 (S 27 t) + v))) := by
  have h27 : ∀ x, up (up S 30 t 3) 25 (S 27 t) (S 25 (S 27 t) + v) 30 x = up S 30 t 3 30 x := fun x => up_n (by omega)
  have key : ∀ t', up S 30 t 3 30 t' = S 30 t' ∨ (t' = t ∧ up S 30 t 3 30 t' = 3) := fun t' => by
    by_cases e : t' = t
    · subst e; exact Or.inr ⟨rfl, up_s⟩
    · exact Or.inl (up_n (fun z => e z.2))
  have hcnt : ∀ t', (up S 30 t 3 30 t' = 0 ∨ up S 30 t 3 30 t' = 3) ↔ (S 30 t' = 0 ∨ S 30 t' = 3) := fun t' => by
    rcases key t' with e | ⟨e0, e⟩
    · rw [e]
    · rw [e, e0, h30]
      exact ⟨fun _ => Or.inl rfl, fun _ => Or.inr rfl⟩
  have huo : ∀ p a b c, uo (up (up S 30 t 3) 25 (S 27 t) (S 25 (S 27 t) + v)) p a b c = uo S p a b c := fun p a b c => by
    unfold uo
    refine sm_congr (fun q _ => ?_)
    show (if (up S 30 t 3 30 q = 0 ∨ up S 30 t 3 30 q = 3) ∧ sameT S q p a b c then S 29 q else 0) = _
    by_cases w : cntT S q ∧ sameT S q p a b c
    · rw [if_pos w, if_pos ⟨(hcnt q).mpr w.1, w.2⟩]
    · rw [if_neg w, if_neg (fun z => w ⟨(hcnt q).mp z.1, z.2⟩)]
  refine ⟨up (up S 30 t 3) 25 (S 27 t) (S 25 (S 27 t) + v), RM_sJ (RM_sI hR (by omega)) (by omega), ?_, g1, ?_, ?_, ?_, g5⟩
  · obtain ⟨h1, h2, h3, h4, h5⟩ := hC
    refine ⟨?_, h2, fun p hp => ?_, fun t' ht' => ?_, h5⟩
    · obtain ⟨k1, k2, k3, k4, k5, k6, k7⟩ := h1
      exact ⟨k1, k2, k3, k4, k5, k6, k7⟩
    · obtain ⟨⟨r1, r2, r3, r4, r5, r6, r7, r8, r9, r10, r11, r12, r13, r14, r15⟩, d1, d2⟩ := h3 p hp
      refine ⟨⟨r1, r2, r3, r4, r5, r6, r7, r8, ?_, ?_, ?_, ?_, ?_, ?_, ?_⟩, fun z => ?_, fun z => ?_⟩
      · rw [rd_J, if_neg (by omega)]; exact r9
      · rw [rd_J, if_neg (by omega)]; exact r10
      · rw [rd_J, if_neg (by omega)]; exact r11
      · rw [rd_J, if_neg (by omega)]; exact r12
      · rw [rd_J, if_neg (by omega)]; exact r13
      · rw [rd_J, if_neg (by omega)]; exact r14
      · rw [rd_J]
        by_cases e : p = S 27 t
        · rw [if_pos ⟨rfl, e, rfl⟩, e, up_s]
        · rw [if_neg (fun z => e z.2.1), up_n (fun z => e z.2)]
          exact r15
      · rw [rd_J, if_neg (by omega)]; exact d1 z
      · obtain ⟨N, W, y1, y2, y3, y4, y5⟩ := d2 z
        refine ⟨N, W, y1, y2, ?_, ?_, fun t' ht' hp' hc' => ?_⟩
        · rw [rd_J, if_neg (by omega)]; exact y3
        · rw [rd_J, if_neg (by omega)]; exact y4
        · have hc2 : cntT S t' := (hcnt t').mp hc'
          have := y5 t' ht' hp' hc2
          unfold uoT
          rw [huo]
          exact this
    · obtain ⟨k0, k1, k2, k3, k4, k5, k6⟩ := h4 t' ht'
      refine ⟨k0, k1, ?_, ?_, ?_, ?_, ?_⟩
      · rw [rd_IJ, rd_I, if_neg (by omega)]; exact k2
      · rw [rd_IJ, rd_I, if_neg (by omega)]; exact k3
      · rw [rd_IJ, rd_I, if_neg (by omega)]; exact k4
      · rw [rd_IJ, rd_I, if_neg (by omega)]; exact k5
      · rw [rd_IJ, rd_I, h27]
        by_cases e : t' = t
        · subst e; rw [if_pos ⟨rfl, rfl, rfl⟩, up_s]
        · rw [if_neg (fun z => e z.2.1), up_n (fun z => e z.2)]; exact k6
  · obtain ⟨b1', b2', b3', b4', b5', b6'⟩ := g2
    refine ⟨b1', b2', b3', b4', b5', fun p hp => ?_⟩
    have hp' : S 18 p = 0 := hp
    obtain ⟨c1, c2, c3, c4, c5, c6, c7⟩ := b6' p hp'
    refine ⟨c1, c2, c3, c4, c5, ?_, c7⟩
    rw [up_n (fun z => by rw [z.2] at hp'; omega)]
    exact c6
  · obtain ⟨t1, t2, t3, t4, t5, t6⟩ := GT_s g3 hk
    refine ⟨t1, t2, fun t' ht' => ?_, t4, fun t' ht' h3 => ?_, fun t' ht' h2 => ?_⟩
    · obtain ⟨a1, a2, a3, a4, a5, a6⟩ := t3 t' ht'
      refine ⟨a1, a2, a3, ?_, fun j hj => ?_, a6⟩
      · rw [h27]
        rcases key t' with e | ⟨-, e⟩
        · rw [e]; exact a4
        · rw [e]; omega
      · have h5 := a5 j hj
        show (if j < mny (S 27 t') then 1 ≤ S 28 (3 * t' + j) ∧ S 28 (3 * t' + j) ≤ S 10 (ro S (S 27 t') j) ∧ ((up S 30 t 3 30 t' = 0 ∨ up S 30 t 3 30 t' = 3) → S 13 (25 * ro S (S 27 t') j + S 28 (3 * t' + j)) = 0) else S 28 (3 * t' + j) = 0)
        by_cases q : j < mny (S 27 t')
        · rw [if_pos q] at h5 ⊢
          exact ⟨h5.1, h5.2.1, fun z => h5.2.2 ((hcnt t').mp z)⟩
        · rw [if_neg q] at h5 ⊢
          exact h5
    · rw [h27] at h3
      show S 18 (S 27 t') = 1
      rcases key t' with e | ⟨e0, e⟩
      · rw [e] at h3; exact t5 t' ht' h3
      · rw [e0]; exact h18
    · intro z
      exact t6 t' ht' h2 ((hcnt t').mp z)
  · obtain ⟨m1, m2, m3⟩ := g4
    refine ⟨?_, m2, m3⟩
    show S 0 25 = sm (S 0 19) (fun t' => if up S 30 t 3 30 t' = 1 ∨ up S 30 t 3 30 t' = 2 then cost S t' else 0)
    rw [m1]
    refine sm_congr (fun t' _ => ?_)
    rcases key t' with e | ⟨e0, e⟩
    · rw [e]
    · rw [e, e0, h30, if_neg (by omega), if_neg (by omega)]
theorem s_pay : S_pay Inv := by
  intro k C R v hk hI
  obtain ⟨S, hR, hC, g1, g2, g3, g4, g5⟩ := hI
  have stay : ∀ x : Int64, ∃ (r : Int64) (C' R' : Mm), some (x, C) = some (r, C') ∧ some (x, R) = some (r, R') ∧ Inv (k + 1) C' R' := fun x => ⟨x, C, R, rfl, rfl, Inv_st hR hC g1 g2 g3 hk g4 g5⟩
  unfold f_X3_pay f_X4_pay
  rw [c_ticketNumbered hC g3, m_inT hR g3]
  simp only [ob_s, b1_if]
  cases ht : tOf S v with
  | none => rw [on_n, if_neg (fun z => z rfl)]; exact stay _
  | some t =>
    obtain ⟨e1, e2⟩ := tOf_s ht
    have hT := GT_T g3
    have hct := hC.2.2.2.1 t e2
    have hg := GT_t g3 e2
    have hpt := GT_p g3 g2 e2
    have hpp := (hC.2.2.1 (S 27 t) (by omega)).1
    have l18 := (g2.2.1 _ hg.1).2.2.2.2.2.2.1
    rw [on_s, if_pos (fun z => by cases z), e1, hct.1, hct.2.2.2.2.2.2, RM_ref hR 20, RM_ref hR 23]
    simp only [ob_s, lt_e]
    rw [ix_n (n := 600) (by omega) (by omega), ix_n (n := 600) (by omega) (by omega), ix_n (n := 600) (by omega) (by omega), nI_cl (by omega), RM_I hR 30]
    by_cases q1 : S 30 t = 1
    · rw [if_pos ((nI_1e (by omega)).mpr q1), if_pos ((nI_1e (by omega)).mpr q1)]; exact stay _
    · rw [if_neg (fun z => q1 ((nI_1e (by omega)).mp z)), if_neg (fun z => q1 ((nI_1e (by omega)).mp z))]
      by_cases q3 : S 30 t = 3
      · rw [if_neg (fun z => by have := (nI_2e (by omega)).mp z; omega), if_pos ((nI_3e (by omega)).mpr q3), if_pos ((nI_3e (by omega)).mpr q3)]; exact stay _
      · rw [if_neg (c := nI (S 30 t) = 3) (fun z => q3 ((nI_3e (by omega)).mp z)), if_neg (c := nI (S 30 t) = 3) (fun z => q3 ((nI_3e (by omega)).mp z))]
        by_cases q2 : S 30 t = 2
        · rw [if_pos ((nI_2e (by omega)).mpr q2), if_pos ((nI_2e (by omega)).mpr q2)]; exact stay _
        · have q0 : S 30 t = 0 := by omega
          rw [if_neg (fun z => q2 ((nI_2e (by omega)).mp z)), if_neg (fun z => q2 ((nI_2e (by omega)).mp z))]
          rw [ix_n (n := 600) (by omega) (by omega), RM_I hR 27, RM_ref hR 8]
          simp only [ob_s]
          rw [ix_n (n := 53) (by omega) (by omega), nI_cl (by omega), RM_I hR 18, hpp.2.2.2.2.2.2.1]
          by_cases q4 : S 18 (S 27 t) = 0
          · rw [if_pos ((nI_z (by omega)).mpr q4), if_pos ((nI_z (by omega)).mpr q4)]; exact stay _
          · rw [if_neg (fun z => q4 ((nI_z (by omega)).mp z)), if_neg (fun z => q4 ((nI_z (by omega)).mp z)), ix_n (n := 53) (by omega) (by omega)]
            have q5 : S 18 (S 27 t) ≠ 2 := fun z => g3.2.2.2.2.2 t e2 z (Or.inl q0)
            have q6 : S 18 (S 27 t) = 1 := by omega
            rw [if_neg (fun z => q5 ((nI_2e (by omega)).mp z))]
            have ho := g5.1 _ (GP_off g2 hg.1 q4).1
            have n1 : S 28 (3 * t) ≤ 24 := GT_n g3 g1 e2 (j := 0) (by omega)
            have n2 := GT_n g3 g1 e2 (j := 1) (by omega)
            have n3 := GT_n g3 g1 e2 (j := 2) (by omega)
            obtain ⟨N, W, y1, y2, y3, y4, y5⟩ := (hC.2.2.1 (S 27 t) (by omega)).2.2 q6
            rw [m_holds hR g1 g2 g3 e2 ho, hct.2.2.2.1, hct.2.2.2.2.1, hct.2.2.2.2.2.1, c_isWon hC g1 g2 hg.1 (show S 28 (3 * t) < 25 by omega) (fun _ => by omega) (fun _ => by omega), c_dividendOf hC g1 g2 g3 hg.1 (show S 28 (3 * t) < 25 by omega) (fun _ => by omega) (fun _ => by omega) (g4.2.2.2 _) y1 y2 y3 y4]
            rw [← dv0_eq (C := C) g1 g3 y5 (show S 28 (3 * t) < 25 by omega) (fun _ => by omega) (fun _ => by omega) e2 (Or.inl q0) same_self]
            simp only [ob_s, b1_if]
            by_cases q7 : wnT S t
            · rw [if_pos q7, if_pos q7, ix_n (n := 600) (by omega) (by omega)]
              have hR1 : RM (up S 30 t 3) (sI R 30 0 t (3 : Int32)) := RM_sI (v := 3) hR (by omega)
              rw [RM_ref hR1 15, RM_ref hR1 24, RM_ref hR1 22]
              simp only [ob_s]
              rw [ix_n (n := 53) (by omega) (by omega), ix_n (n := 600) (by omega) (by omega), ix_n (n := 600) (by omega) (by omega), ix_n (n := 53) (by omega) (by omega), RM_J hR1 25, RM_J hR1 31, RM_I hR1 29]
              have hR2 : ∀ z, RM (up (up S 30 t 3) 25 (S 27 t) z) (sJ (sI R 30 0 t (3 : Int32)) 25 0 (S 27 t) (lN z)) := fun z => RM_sJ hR1 (by omega)
              have u1 : up S 30 t 3 25 (S 27 t) = S 25 (S 27 t) := rfl
              have u2 : up S 30 t 3 31 t = S 31 t := rfl
              have u3 : up S 30 t 3 29 t = S 29 t := rfl
              rw [u1, u2, u3, nI_i2l (by omega), lN_mul, lN_add, RM_ref (hR2 _) 24, RM_ref (hR2 _) 22]
              simp only [ob_s]
              rw [ix_n (n := 600) (by omega) (by omega), ix_n (n := 600) (by omega) (by omega), RM_J (hR2 _) 31, RM_I (hR2 _) 29]
              have u4 : ∀ z, up (up S 30 t 3) 25 (S 27 t) z 31 t = S 31 t := fun z => rfl
              have u5 : ∀ z, up (up S 30 t 3) 25 (S 27 t) z 29 t = S 29 t := fun z => rfl
              rw [u4, u5, hct.2.2.1, nI_i2l (by omega), lN_mul, lN_mul]
              have e16 : mJ (sI C 8 t 6 (3 : Int32)) 7 (S 27 t) 16 = lN (S 25 (S 27 t)) := hpp.2.2.2.2.2.2.2.2.2.2.2.2.2.2
              rw [e16, lN_add, Nat.mul_comm (S 29 t) (S 31 t)]
              exact ⟨_, _, _, rfl, rfl, pay_inv hR hC g1 g2 g3 hk g4 g5 e2 q0 q6 _⟩
            · rw [if_neg q7, if_neg q7]; exact stay _
