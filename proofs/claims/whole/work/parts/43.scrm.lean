/-! ===== a runner is scratched: the model's loop ===== -/
theorem m_refunds {S : SV} {R : Mm} {t : Nat} (h : RM S R) (ht : t < 600) (hp : S 27 t ≤ 52) (h29 : S 29 t ≤ 1000) (h17 : S 17 (S 27 t) ≤ 1000) : ∃ R', f_X4_refunds 0 (nI t) R = some R' ∧ RM (up (up S 30 t 2) 0 25 (S 0 25 + cost S t)) R' := by
  have h1 : RM (up S 30 t 2) (sI R 30 0 t (2 : Int32)) := RM_sI (v := 2) h (by omega)
  have hc : f_X4_cost 0 (nI t) (sI R 30 0 t (2 : Int32)) = some (lN (cost S t)) := by
    unfold f_X4_cost
    rw [RM_ref h1 22, RM_ref h1 20, RM_ref h1 7]
    simp only [ob_s]
    rw [ix_n (by omega) (by omega), ix_n (by omega) (by omega), nI_cl (by omega), RM_I h1 27, show up S 30 t 2 27 t = S 27 t from rfl]
    rw [ix_n (by omega) (by omega), nI_cl (by omega), RM_I h1 29, RM_I h1 17]
    show some ((nI (S 29 t)).toInt64 * (nI (S 17 (S 27 t))).toInt64) = _
    rw [nI_i2l (by omega), nI_i2l (by omega), lN_mul]
    rfl
  unfold f_X4_refunds
  rw [RM_ref h 23]
  simp only [ob_s, lt_e]
  rw [ix_n (by omega) (by omega), nI_cl (by omega), hc]
  simp only [ob_s]
  rw [RM_back h1]
  show ∃ R', some (sJ (sI R 30 0 t (2 : Int32)) 0 0 25 (lN (S 0 25) + lN (cost S t))) = some R' ∧ _
  rw [lN_add]
  exact ⟨_, rfl, RM_s0J h1 (Or.inl rfl)⟩
theorem m_69e {R : Mm} {K : Nat → Int32 → Int32 → Int32 → Int32 → Mm → Option (Int32 × Mm)} {n p k : Nat} {r x v3 t g : Int32} (hp : p ≤ 52) (hk : k ≤ 3) (hm : mny p ≤ k) : f_X4_scratch_69 K (n + 1) 0 r x v3 t (nI p) g (nI k) R = f_X4_scratch_180 K 0 r x v3 t g R := by
  have := mny_le p
  rw [f_X4_scratch_69, m_many hp]
  simp only [ob_s]
  rw [if_pos ((i_le_n (by omega) (by omega)).mpr hm)]
theorem m_69z {S : SV} {R : Mm} {K : Nat → Int32 → Int32 → Int32 → Int32 → Mm → Option (Int32 × Mm)} {n p t : Nat} {r x v3 g : Int32} (h : RM S R) (ht : t < 600) (hp : p ≤ 52) (h30 : S 30 t ≠ 0) (h3 : S 30 t ≤ 3) : f_X4_scratch_69 K (n + 1) 0 r x v3 (nI t) (nI p) g (nI 0) R = f_X4_scratch_180 K 0 r x v3 (nI t) g R := by
  have := mny_le p
  rw [f_X4_scratch_69, m_many hp]
  simp only [ob_s]
  rw [if_neg (fun z => by have := (i_le_n (by omega) (by omega)).mp z; omega), RM_ref h 23]
  simp only [ob_s]
  rw [ix_n (by omega) (by omega), nI_cl (by omega), RM_I h 30, if_neg (fun z => h30 ((nI_z (by omega)).mp z))]
theorem m_69s {S : SV} {R : Mm} {K : Nat → Int32 → Int32 → Int32 → Int32 → Mm → Option (Int32 × Mm)} {n p t r x k : Nat} {v3 g : Int32} (h : RM S R) (g1 : GA S) (hr : 1 ≤ r ∧ r ≤ 12) (ht : t < 600) (hp : p ≤ 52) (hx : x < 25) (hk : k < mny p) (h30 : S 30 t = 0) (hro : ro S p k ≤ 12) (h28 : S 28 (3 * t + k) ≤ 24) : f_X4_scratch_69 K (n + 1) 0 (nI r) (nI x) v3 (nI t) (nI p) g (nI k) R = if ro S p k = r ∧ S 28 (3 * t + k) = x then (if p = 52 ∧ (S 12 r ≠ 0 ∧ S 13 (25 * r + S 12 r) = 0) then f_X4_scratch_69 K n 0 (nI r) (nI x) v3 (nI t) (nI p) g (nI (k + 1)) (sI R 28 0 (3 * t + k) (nI (S 12 r))) else f_X4_scratch_69 K n 0 (nI r) (nI x) v3 (nI t) (nI p) (1 : Int32) (nI (k + 1)) R) else f_X4_scratch_69 K n 0 (nI r) (nI x) v3 (nI t) (nI p) g (nI (k + 1)) R := by
  have hm := mny_le p
  have h12 := g1.2.2.1 r
  have hl := GA_10 g1 r
  rw [f_X4_scratch_69, m_many hp]
  simp only [ob_s]
  rw [if_neg (fun z => by have := (i_le_n (by omega) (by omega)).mp z; omega), RM_ref h 23]
  simp only [ob_s]
  rw [ix_n (by omega) (by omega), nI_cl (by omega), RM_I h 30, if_pos ((nI_z (by omega)).mpr h30), m_raceOf h hp (by omega)]
  simp only [ob_s, lt_e]
  rw [nI_1]
  by_cases c1 : ro S p k = r
  · rw [if_pos ((nI_e (by omega) (by omega)).mpr c1), RM_ref h 21]
    simp only [ob_s]
    rw [e3j, ix_n (by omega) (by omega), nI_cl (n := 3 * t + k) (by omega), RM_I h 28]
    by_cases c2 : S 28 (3 * t + k) = x
    · rw [if_pos ((nI_e (by omega) (by omega)).mpr c2), if_pos (c := ro S p k = r ∧ S 28 (3 * t + k) = x) ⟨c1, c2⟩]
      by_cases c3 : p = 52
      · rw [if_pos ((nI_52 (by omega)).mpr c3), RM_ref h 2]
        simp only [ob_s]
        rw [ix_n (by omega) (by omega), nI_cl (by omega), RM_I h 12]
        by_cases c4 : S 12 r = 0
        · rw [if_pos ((nI_le0 (by omega)).mpr c4), if_neg (c := p = 52 ∧ (S 12 r ≠ 0 ∧ S 13 (25 * r + S 12 r) = 0)) (fun z => z.2.1 c4)]
        · rw [if_neg (fun z => c4 ((nI_le0 (by omega)).mp z)), ix_n (by omega) (by omega), m_runs h g1 hr.2]
          simp only [ob_s, b1_if]
          have e : rns S r (nI (S 12 r)) ↔ S 13 (25 * r + S 12 r) = 0 := by
            show (1 ≤ (nI (S 12 r)).toInt ∧ (nI (S 12 r)).toInt ≤ (S 10 r : Int)) ∧ S 13 (25 * r + (nI (S 12 r)).toNatClampNeg) = 0 ↔ _
            rw [nI_tI (by omega), nI_cl (by omega)]
            exact ⟨fun z => z.2, fun z => ⟨⟨by omega, by omega⟩, z⟩⟩
          by_cases c5 : S 13 (25 * r + S 12 r) = 0
          · rw [if_pos (e.mpr c5), ix_n (by omega) (by omega), ix_n (by omega) (by omega), if_pos (c := p = 52 ∧ (S 12 r ≠ 0 ∧ S 13 (25 * r + S 12 r) = 0)) ⟨c3, c4, c5⟩]
          · rw [if_neg (fun z => c5 (e.mp z)), if_neg (c := p = 52 ∧ (S 12 r ≠ 0 ∧ S 13 (25 * r + S 12 r) = 0)) (fun z => c5 z.2.2)]
      · rw [if_neg (fun z => c3 ((nI_52 (by omega)).mp z)), if_neg (c := p = 52 ∧ (S 12 r ≠ 0 ∧ S 13 (25 * r + S 12 r) = 0)) (fun z => c3 z.1)]
    · rw [if_neg (fun z => c2 ((nI_e (by omega) (by omega)).mp z)), if_neg (c := ro S p k = r ∧ S 28 (3 * t + k) = x) (fun z => c2 z.2)]
  · rw [if_neg (fun z => c1 ((nI_e (by omega) (by omega)).mp z)), if_neg (c := ro S p k = r ∧ S 28 (3 * t + k) = x) (fun z => c1 z.1)]
/-- one ticket -/
theorem m_69 {S : SV} {R : Mm} {K : Nat → Int32 → Int32 → Int32 → Int32 → Mm → Option (Int32 × Mm)} {kk t r x : Nat} {v3 : Int32} {P P' : Nat → Bool} (g1 : GA S) (g2 : GP S) (g3 : GT S kk) (gs : ∀ P, GA (scr S r x P)) (h : RM (scr S r x P) R) (hr : 1 ≤ r ∧ r ≤ 12) (hx : x < 25) (hs13 : S 13 (25 * r + x) = 0) (ht : t < S 0 19) (hP : P t = false) (hP' : ∀ i, P' i = true ↔ (P i = true ∨ i = t)) : ∃ R1, f_X4_scratch_69 K FU 0 (nI r) (nI x) v3 (nI t) (nI (S 27 t)) (0 : Int32) (0 : Int32) R = f_X4_scratch_180 K 0 (nI r) (nI x) v3 (nI t) (if gos S r x t then 1 else 0) R1 ∧ (gos S r x t → RM (scr S r x P) R1) ∧ (¬ gos S r x t → RM (scr S r x P') R1) := by
  have hT := GT_T g3
  have hg := GT_t g3 ht
  have hpt := GT_p g3 g2 ht
  have hm := mny_le (S 27 t)
  have hro := fun j => ro_le g1 g2 hg.1 j
  have hPt : ¬ P t = true := by rw [hP]; exact Bool.false_ne_true
  have e30 : scr S r x P 30 t = S 30 t := by rw [scr_30, if_neg (fun z => hPt z.1)]
  have e28 : ∀ j, j < 3 → scr S r x P 28 (3 * t + j) = S 28 (3 * t + j) := fun j hj => by rw [scr_28j hj, if_neg (fun z => hPt z.1)]
  have n24 := fun j hj => GT_n g3 g1 ht (j := j) hj
  have h12 := g1.2.2.1 r
  have hl := GA_10 g1 r
  by_cases s0 : S 30 t = 0
  · have s0' : scr S r x P 30 t = 0 := by rw [e30]; exact s0
    have step : ∀ n k v6, k < mny (S 27 t) → f_X4_scratch_69 K (n + 1) 0 (nI r) (nI x) v3 (nI t) (nI (S 27 t)) v6 (nI k) R = if ro S (S 27 t) k = r ∧ S 28 (3 * t + k) = x then (if S 27 t = 52 ∧ (S 12 r ≠ 0 ∧ scr S r x P 13 (25 * r + S 12 r) = 0) then f_X4_scratch_69 K n 0 (nI r) (nI x) v3 (nI t) (nI (S 27 t)) v6 (nI (k + 1)) (sI R 28 0 (3 * t + k) (nI (S 12 r))) else f_X4_scratch_69 K n 0 (nI r) (nI x) v3 (nI t) (nI (S 27 t)) (1 : Int32) (nI (k + 1)) R) else f_X4_scratch_69 K n 0 (nI r) (nI x) v3 (nI t) (nI (S 27 t)) v6 (nI (k + 1)) R := fun n k v6 hk => by
      have := m_69s (K := K) (n := n) (v3 := v3) (g := v6) h (gs P) hr (by omega) hpt hx hk s0' (hro k) (by rw [e28 k (by omega)]; exact n24 k (by omega))
      rw [e28 k (by omega)] at this
      exact this
    have emsb : (S 12 r ≠ 0 ∧ scr S r x P 13 (25 * r + S 12 r) = 0) ↔ msb S r x := by
      rw [scr_13]
      by_cases e : S 12 r = x
      · rw [if_pos (by rw [e])]
        exact ⟨fun z => by omega, fun z => absurd e z.2.1⟩
      · rw [if_neg (by omega)]
        exact ⟨fun z => ⟨z.1, e, z.2⟩, fun z => ⟨z.1, z.2.2⟩⟩
    by_cases p52 : S 27 t = 52
    · have m2 : mny (S 27 t) = 2 := by rw [p52]; rfl
      have hne := (g2.2.2.1 (by rw [← p52]; exact hg.1)).2.2
      have r0 : ro S (S 27 t) 0 = S 0 17 := by rw [p52]; rfl
      have r1 : ro S (S 27 t) 1 = S 0 18 := by rw [p52]; rfl
      by_cases c0 : ro S (S 27 t) 0 = r ∧ S 28 (3 * t + 0) = x
      · have nm : nm1 S r x t 0 := ⟨by omega, c0.1, c0.2⟩
        have nd : nmd S r x t := ⟨s0, Or.inl nm⟩
        have c1 : ¬ (ro S (S 27 t) 1 = r ∧ S 28 (3 * t + 1) = x) := fun z => by have := z.1; have := c0.1; omega
        by_cases cm : msb S r x
        · have ng : ¬ gos S r x t := fun z => z.2 ⟨p52, cm⟩
          have mv : mvd S r x t 0 := ⟨s0, p52, cm, nm⟩
          have h1 : RM (up (scr S r x P) 28 (3 * t + 0) (S 12 r)) (sI R 28 0 (3 * t + 0) (nI (S 12 r))) := RM_sI h (by omega)
          have ee := scr_mv hP hP' hne (by omega) mv
          refine ⟨sI R 28 0 (3 * t + 0) (nI (S 12 r)), ?_, fun z => absurd z ng, fun _ => by rw [ee]; exact h1⟩
          rw [if_neg ng]
          refine (step 999 0 0 (by omega)).trans ?_
          rw [if_pos c0, if_pos ⟨p52, emsb.mpr cm⟩]
          have h1' := h1
          rw [← ee] at h1'
          have := m_69s (K := K) (n := 998) (t := t) (k := 0 + 1) (v3 := v3) (g := 0) h1' (gs P') hr (by omega) hpt hx (by omega) (by rw [ee, up_n (by omega)]; exact s0') (hro 1) (by rw [ee, up_n (by omega), e28 1 (by omega)]; exact n24 1 (by omega))
          rw [if_neg (fun z => by have z1 : ro S (S 27 t) 1 = r := z.1; have := c0.1; omega)] at this
          refine this.trans ?_
          exact m_69e hpt (by omega) (by omega)
        · have gg : gos S r x t := ⟨nd, fun z => cm z.2⟩
          refine ⟨R, ?_, fun _ => h, fun z => absurd gg z⟩
          rw [if_pos gg]
          refine (step 999 0 0 (by omega)).trans ?_
          rw [if_pos c0, if_neg (fun z => cm (emsb.mp z.2))]
          refine (step 998 1 1 (by omega)).trans ?_
          rw [if_neg c1]
          exact m_69e hpt (by omega) (by omega)
      · by_cases c1 : ro S (S 27 t) 1 = r ∧ S 28 (3 * t + 1) = x
        · have nm : nm1 S r x t 1 := ⟨by omega, c1.1, c1.2⟩
          have nd : nmd S r x t := ⟨s0, Or.inr (Or.inl nm)⟩
          by_cases cm : msb S r x
          · have ng : ¬ gos S r x t := fun z => z.2 ⟨p52, cm⟩
            have mv : mvd S r x t 1 := ⟨s0, p52, cm, nm⟩
            have h1 : RM (up (scr S r x P) 28 (3 * t + 1) (S 12 r)) (sI R 28 0 (3 * t + 1) (nI (S 12 r))) := RM_sI h (by omega)
            have ee := scr_mv hP hP' hne (by omega) mv
            refine ⟨sI R 28 0 (3 * t + 1) (nI (S 12 r)), ?_, fun z => absurd z ng, fun _ => by rw [ee]; exact h1⟩
            rw [if_neg ng]
            refine (step 999 0 0 (by omega)).trans ?_
            rw [if_neg c0]
            refine (step 998 1 0 (by omega)).trans ?_
            rw [if_pos c1, if_pos ⟨p52, emsb.mpr cm⟩]
            exact m_69e hpt (by omega) (by omega)
          · have gg : gos S r x t := ⟨nd, fun z => cm z.2⟩
            refine ⟨R, ?_, fun _ => h, fun z => absurd gg z⟩
            rw [if_pos gg]
            refine (step 999 0 0 (by omega)).trans ?_
            rw [if_neg c0]
            refine (step 998 1 0 (by omega)).trans ?_
            rw [if_pos c1, if_neg (fun z => cm (emsb.mp z.2))]
            exact m_69e hpt (by omega) (by omega)
        · have nn : ¬ nmd S r x t := by
            rintro ⟨-, z | z | z⟩
            · exact c0 z.2
            · exact c1 z.2
            · have := z.1; omega
          have ng : ¬ gos S r x t := fun z => nn z.1
          refine ⟨R, ?_, fun z => absurd z ng, fun _ => by rw [scr_no hP' nn]; exact h⟩
          rw [if_neg ng]
          refine (step 999 0 0 (by omega)).trans ?_
          rw [if_neg c0]
          refine (step 998 1 0 (by omega)).trans ?_
          rw [if_neg c1]
          exact m_69e hpt (by omega) (by omega)
    · have step2 : ∀ n k v6, k < mny (S 27 t) → f_X4_scratch_69 K (n + 1) 0 (nI r) (nI x) v3 (nI t) (nI (S 27 t)) v6 (nI k) R = f_X4_scratch_69 K n 0 (nI r) (nI x) v3 (nI t) (nI (S 27 t)) (if ro S (S 27 t) k = r ∧ S 28 (3 * t + k) = x then 1 else v6) (nI (k + 1)) R := fun n k v6 hk => by
        rw [step n k v6 hk, if_neg (c := S 27 t = 52 ∧ (S 12 r ≠ 0 ∧ scr S r x P 13 (25 * r + S 12 r) = 0)) (fun z => p52 z.1)]
        by_cases c : ro S (S 27 t) k = r ∧ S 28 (3 * t + k) = x
        · rw [if_pos c, if_pos c]
        · rw [if_neg c, if_neg c]
      have eg : gos S r x t ↔ nmd S r x t := ⟨fun z => z.1, fun z => ⟨z, fun w => p52 w.1⟩⟩
      refine ⟨R, ?_, fun _ => h, fun z => by rw [scr_no hP' (fun w => z (eg.mpr w))]; exact h⟩
      have hmm : mny (S 27 t) = 1 ∨ mny (S 27 t) = 2 ∨ mny (S 27 t) = 3 := by omega
      have fin : ∀ v6 : Int32, (v6 = if gos S r x t then 1 else 0) → f_X4_scratch_69 K 997 0 (nI r) (nI x) v3 (nI t) (nI (S 27 t)) v6 (nI 3) R = f_X4_scratch_180 K 0 (nI r) (nI x) v3 (nI t) (if gos S r x t then 1 else 0) R := fun v6 e => by
        rw [← e]; exact m_69e (n := 996) hpt (by omega) (by omega)
      rcases hmm with m | m | m
      · refine (step2 999 0 0 (by omega)).trans ?_
        refine (m_69e (n := 998) hpt (by omega) (by omega)).trans ?_
        refine congrArg (fun v => f_X4_scratch_180 K 0 (nI r) (nI x) v3 (nI t) v R) ?_
        by_cases c0 : ro S (S 27 t) 0 = r ∧ S 28 (3 * t + 0) = x
        · rw [if_pos c0, if_pos (c := gos S r x t) (eg.mpr ⟨s0, Or.inl ⟨by omega, c0.1, c0.2⟩⟩)]
        · rw [if_neg c0, if_neg (c := gos S r x t)]
          rintro ⟨⟨-, z | z | z⟩, -⟩
          · exact c0 z.2
          · have := z.1; omega
          · have := z.1; omega
      · refine (step2 999 0 0 (by omega)).trans ?_
        refine (step2 998 1 _ (by omega)).trans ?_
        refine (m_69e (n := 997) hpt (by omega) (by omega)).trans ?_
        refine congrArg (fun v => f_X4_scratch_180 K 0 (nI r) (nI x) v3 (nI t) v R) ?_
        by_cases c1 : ro S (S 27 t) 1 = r ∧ S 28 (3 * t + 1) = x
        · rw [if_pos c1, if_pos (c := gos S r x t) (eg.mpr ⟨s0, Or.inr (Or.inl ⟨by omega, c1.1, c1.2⟩)⟩)]
        · rw [if_neg c1]
          by_cases c0 : ro S (S 27 t) 0 = r ∧ S 28 (3 * t + 0) = x
          · rw [if_pos c0, if_pos (c := gos S r x t) (eg.mpr ⟨s0, Or.inl ⟨by omega, c0.1, c0.2⟩⟩)]
          · rw [if_neg c0, if_neg (c := gos S r x t)]
            rintro ⟨⟨-, z | z | z⟩, -⟩
            · exact c0 z.2
            · exact c1 z.2
            · have := z.1; omega
      · refine (step2 999 0 0 (by omega)).trans ?_
        refine (step2 998 1 _ (by omega)).trans ?_
        refine (step2 997 2 _ (by omega)).trans ?_
        refine (m_69e (n := 996) hpt (by omega) (by omega)).trans ?_
        refine congrArg (fun v => f_X4_scratch_180 K 0 (nI r) (nI x) v3 (nI t) v R) ?_
        by_cases c2 : ro S (S 27 t) 2 = r ∧ S 28 (3 * t + 2) = x
        · rw [if_pos c2, if_pos (c := gos S r x t) (eg.mpr ⟨s0, Or.inr (Or.inr ⟨by omega, c2.1, c2.2⟩)⟩)]
        · rw [if_neg c2]
          by_cases c1 : ro S (S 27 t) 1 = r ∧ S 28 (3 * t + 1) = x
          · rw [if_pos c1, if_pos (c := gos S r x t) (eg.mpr ⟨s0, Or.inr (Or.inl ⟨by omega, c1.1, c1.2⟩)⟩)]
          · rw [if_neg c1]
            by_cases c0 : ro S (S 27 t) 0 = r ∧ S 28 (3 * t + 0) = x
            · rw [if_pos c0, if_pos (c := gos S r x t) (eg.mpr ⟨s0, Or.inl ⟨by omega, c0.1, c0.2⟩⟩)]
            · rw [if_neg c0, if_neg (c := gos S r x t)]
              rintro ⟨⟨-, z | z | z⟩, -⟩
              · exact c0 z.2
              · exact c1 z.2
              · exact c2 z.2
  · have nn : ¬ nmd S r x t := fun z => s0 z.1
    have ng : ¬ gos S r x t := fun z => nn z.1
    refine ⟨R, ?_, fun z => absurd z ng, fun _ => by rw [scr_no hP' nn]; exact h⟩
    rw [if_neg ng]
    exact m_69z (n := 999) h (by omega) hpt (by rw [e30]; exact s0) (by rw [e30]; exact hg.2.2.2)
/-- all of them -/
theorem m_scrL {S : SV} {R : Mm} {kk r x : Nat} (g1 : GA S) (g2 : GP S) (g3 : GT S kk) (gs : ∀ P, GA (scr S r x P)) (h : RM (scr S r x (fun _ => false)) R) (hr : 1 ≤ r ∧ r ≤ 12) (hx : x < 25) (hs13 : S 13 (25 * r + x) = 0) : ∃ R', f_X4_scratch_45 FU 0 (nI r) (nI x) (0 : Int32) (0 : Int32) R = some (nI (cnt S r x (fun t => decide (t < S 0 19))), R') ∧ RM (scr S r x (fun t => decide (t < S 0 19))) R' := by
  have hT := GT_T g3
  have key : ∀ n j R, j ≤ S 0 19 → S 0 19 < j + n → RM (scr S r x (fun t => decide (t < j))) R → ∃ R', f_X4_scratch_45 n 0 (nI r) (nI x) (nI (cnt S r x (fun t => decide (t < j)))) (nI j) R = some (nI (cnt S r x (fun t => decide (t < S 0 19))), R') ∧ RM (scr S r x (fun t => decide (t < S 0 19))) R' := by
    intro n
    induction n with
    | zero => intro j R h1 h2; omega
    | succ n ih =>
      intro j R h1 h2 hR
      have e19 : scr S r x (fun t => decide (t < j)) 0 19 = S 0 19 := rfl
      have e27 : scr S r x (fun t => decide (t < j)) 27 j = S 27 j := rfl
      rw [f_X4_scratch_45, RM_T hR, e19]
      by_cases q : j = S 0 19
      · rw [if_pos ((i_le_n (by omega) (by omega)).mpr (by omega)), q]
        exact ⟨R, rfl, by rw [← q]; exact hR⟩
      · have hj : j < S 0 19 := by omega
        have hg := GT_t g3 hj
        have hpt := GT_p g3 g2 hj
        rw [if_neg (fun z => by have := (i_le_n (by omega) (by omega)).mp z; omega), RM_ref hR 20]
        simp only [ob_s, lt_e]
        rw [ix_n (by omega) (by omega), nI_cl (by omega), RM_I hR 27, e27]
        have hP : (fun t => decide (t < j)) j = false := decide_eq_false (Nat.lt_irrefl j)
        have hP' : ∀ i, (fun t => decide (t < j + 1)) i = true ↔ ((fun t => decide (t < j)) i = true ∨ i = j) := fun i => by
          show decide (i < j + 1) = true ↔ (decide (i < j) = true ∨ i = j)
          rw [decide_eq_true_iff, decide_eq_true_iff]; omega
        obtain ⟨R1, x1, x2, x3⟩ := m_69 (K := f_X4_scratch_45 n) (v3 := nI (cnt S r x (fun t => decide (t < j)))) g1 g2 g3 gs hR hr hx hs13 hj hP hP'
        rw [x1]
        unfold f_X4_scratch_180
        simp only [lt_e]
        rw [nI_1]
        by_cases gg : gos S r x j
        · rw [if_pos gg, if_neg (by decide)]
          obtain ⟨R2, y1, y2⟩ := m_refunds (t := j) (x2 gg) (by omega) hpt hg.2.2.1 (g2.2.1 _ hg.1).2.2.2.2.1
          rw [y1]
          simp only [ob_s]
          rw [nI_1, ← cnt_go hP hP' hj gg]
          refine ih (j + 1) R2 (by omega) (by omega) ?_
          rw [scr_go hP hP' hj gg]
          exact y2
        · rw [if_neg gg, if_pos rfl, ← cnt_no hP' gg]
          exact ih (j + 1) R1 (by omega) (by omega) (x3 gg)
  have e0 : cnt S r x (fun t => decide (t < 0)) = 0 := sm_zero (fun t _ => if_neg (fun z => absurd (of_decide_eq_true z.1) (Nat.not_lt_zero t)))
  have hf : (fun t : Nat => decide (t < 0)) = (fun _ => false) := by funext t; exact decide_eq_false (Nat.not_lt_zero t)
  have := key FU 0 R (by omega) (by show S 0 19 < 0 + 1000; omega) (by rw [hf]; exact h)
  rw [e0] at this
  exact this
