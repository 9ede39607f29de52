/-! ===== tickets that change: what stays; the call cancel ===== -/
theorem sm_upd {n t c : Nat} {f g : Nat → Nat} (ht : t < n) (h0 : ∀ i, i < n → i ≠ t → g i = f i) (h1 : g t = f t + c) : sm n g = sm n f + c := by
  induction n with
  | zero => omega
  | succ n ih =>
    simp only [sm]
    by_cases q : t = n
    · subst q
      rw [h1, sm_congr (fun i hi => h0 i (by omega) (by omega))]; omega
    · rw [ih (by omega) (fun i hi hn => h0 i (by omega) hn), h0 n (by omega) (by omega)]; omega
theorem uo_congr {S S' : SV} {p : Nat} {a b c : Int32} (hT : S' 0 19 = S 0 19) (h27 : ∀ t, t < S 0 19 → S' 27 t = S 27 t) (h : ∀ t, t < S 0 19 → S 27 t = p → S' 29 t = S 29 t ∧ S' 30 t = S 30 t ∧ S' 28 (3 * t) = S 28 (3 * t) ∧ S' 28 (3 * t + 1) = S 28 (3 * t + 1) ∧ S' 28 (3 * t + 2) = S 28 (3 * t + 2)) : uo S' p a b c = uo S p a b c := by
  unfold uo
  rw [hT]
  refine sm_congr (fun t ht => ?_)
  by_cases q : S 27 t = p
  · obtain ⟨e1, e2, e3, e4, e5⟩ := h t ht q
    have : (cntT S' t ∧ sameT S' t p a b c) ↔ (cntT S t ∧ sameT S t p a b c) := by
      unfold cntT sameT
      rw [e2, e3, e4, e5, h27 t ht]
    by_cases w : cntT S t ∧ sameT S t p a b c
    · rw [if_pos w, if_pos (this.mpr w), e1]
    · rw [if_neg w, if_neg (fun z => w (this.mp z))]
  · rw [if_neg (fun z => q (by rw [← h27 t ht]; exact z.2.1)), if_neg (fun z => q z.2.1)]
theorem RCd_congr {S S' : SV} {C C' : Mm} {p : Nat} (h : RCd S C p) (h8 : mJ C' 7 p 8 = mJ C 7 p 8) (h9 : mJ C' 7 p 9 = mJ C 7 p 9) (h18 : S' 18 p = S 18 p) (h17 : S' 17 p = S 17 p) (h26 : S' 26 p = S 26 p) (hT : S' 0 19 = S 0 19) (h27 : ∀ t, t < S 0 19 → S' 27 t = S 27 t) (ht : S 18 p = 1 → ∀ t, t < S 0 19 → S 27 t = p → S' 29 t = S 29 t ∧ S' 30 t = S 30 t ∧ S' 28 (3 * t) = S 28 (3 * t) ∧ S' 28 (3 * t + 1) = S 28 (3 * t + 1) ∧ S' 28 (3 * t + 2) = S 28 (3 * t + 2) ∧ S' 31 t = S 31 t) (hw : S 18 p = 1 → ∀ t, t < S 0 19 → S 27 t = p → (wns S' p (S 28 (3 * t)) (S 28 (3 * t + 1)) (S 28 (3 * t + 2)) ↔ wns S p (S 28 (3 * t)) (S 28 (3 * t + 1)) (S 28 (3 * t + 2)))) : RCd S' C' p := by
  obtain ⟨d1, d2⟩ := h
  refine ⟨fun z => by rw [h8]; exact d1 (by rw [← h18]; exact z), fun z => ?_⟩
  have z' : S 18 p = 1 := by rw [← h18]; exact z
  obtain ⟨N, W, y1, y2, y3, y4, y5⟩ := d2 z'
  refine ⟨N, W, y1, y2, by rw [h8]; exact y3, by rw [h9]; exact y4, fun t hlt h2 hc => ?_⟩
  rw [hT] at hlt
  rw [h27 t hlt] at h2
  obtain ⟨e1, e2, e3, e4, e5, e6⟩ := ht z' t hlt h2
  have hc' : cntT S t := by unfold cntT at hc ⊢; rw [e2] at hc; exact hc
  have h5 := y5 t hlt h2 hc'
  have ew : wnT S' t ↔ wnT S t := by
    unfold wnT
    rw [h27 t hlt, h2, e3, e4, e5]
    exact hw z' t hlt h2
  have eu : uoT S' t = uoT S t := by
    unfold uoT
    rw [h27 t hlt, e3, e4, e5, h2]
    exact uo_congr hT h27 (fun t' ht' hp' => by
      obtain ⟨f1, f2, f3, f4, f5, -⟩ := ht z' t' ht' hp'
      exact ⟨f1, f2, f3, f4, f5⟩)
  rw [e6, h17, h26, eu, h5]
  by_cases w : wnT S t
  · rw [if_pos w, if_pos (ew.mpr w)]
  · rw [if_neg w, if_neg (fun z => w (ew.mp z))]
abbrev opn (S : SV) (p : Nat) : Prop := S 11 (ro S p 0) = 0 ∧ S 11 (ro S p 1) = 0
theorem c_isOpen {S : SV} {C : Mm} {p : Nat} {EE : Nat → Prop} (h : RCx EE S C) (g1 : GA S) {DD : Nat → Prop} {ZZ : Prop} (g2 : GPx DD ZZ S) (hp : S 15 p = 1) : f_X0_isOpen p C = some (b1 (opn S p)) := by
  have hpp := (h.2.2.1 p (by omega)).1
  have r0 := h.2.1 _ (ro_p g1 g2 hp 0)
  have r1 := h.2.1 _ (ro_p g1 g2 hp 1)
  have l0 := (g1.2.1 (ro S p 0)).1
  have l1 := (g1.2.1 (ro S p 1)).1
  unfold f_X0_isOpen
  rw [hpp.2.1, hpp.2.2.1]
  simp only [ob_s]
  rw [r0.2.2.2.2.1, r1.2.2.2.2.1]
  by_cases q0 : S 11 (ro S p 0) = 0
  · rw [if_pos ((nI_z (by omega)).mpr q0)]
    by_cases q1 : S 11 (ro S p 1) = 0
    · rw [if_pos ((nI_z (by omega)).mpr q1), b1_t ⟨q0, q1⟩]
    · rw [if_neg (fun z => q1 ((nI_z (by omega)).mp z)), b1_f (fun z => q1 z.2)]
  · rw [if_neg (fun z => q0 ((nI_z (by omega)).mp z)), b1_f (fun z => q0 z.1)]
theorem m_isOpen {S : SV} {R : Mm} {p : Nat} (h : RM S R) (g1 : GA S) {DD : Nat → Prop} {ZZ : Prop} (g2 : GPx DD ZZ S) (hp : S 15 p = 1) : f_X4_isOpen 0 (nI p) R = some (b1 (opn S p)) := by
  have p1 := (g2.2.1 p hp).1
  have r0 := ro_le g1 g2 hp 0
  have r1 := ro_le g1 g2 hp 1
  have l0 := (g1.2.1 (ro S p 0)).1
  have l1 := (g1.2.1 (ro S p 1)).1
  unfold f_X4_isOpen
  rw [show (0 : Int32) = nI 0 from rfl, show (1 : Int32) = nI 1 from rfl, m_raceOf h p1 (by omega), m_raceOf h p1 (by omega), RM_ref h 1]
  simp only [ob_s]
  rw [ix_n (by omega) (by omega), ix_n (by omega) (by omega), nI_cl (by omega), nI_cl (by omega), RM_I h 11, RM_I h 11]
  by_cases q0 : S 11 (ro S p 0) = 0
  · rw [if_pos (congrArg nI q0)]
    by_cases q1 : S 11 (ro S p 1) = 0
    · rw [if_pos (congrArg nI q1), b1_t ⟨q0, q1⟩]; rfl
    · rw [if_neg (fun z => q1 ((nI_e (by omega) (by omega)).mp z)), b1_f (fun z => q1 z.2)]; rfl
  · rw [if_neg (fun z => q0 ((nI_e (by omega) (by omega)).mp z)), b1_f (fun z => q0 z.1)]; rfl
theorem opn_18 {S : SV} {p : Nat} (g2 : GP S) (hp : S 15 p = 1) (h : opn S p) : S 18 p = 0 := by
  obtain ⟨-, -, -, -, -, -, -, a8⟩ := g2.2.1 p hp
  exact a8.mpr (fun z => by have := h.1; omega)
/-- the house: one ticket's state -/
theorem RC_st {S : SV} {C : Mm} {t v x : Nat} (h : RC S C) (hu : S 18 (S 27 t) = 0) : RC (up (up S 30 t v) 0 25 x) (sI C 8 t 6 (nI v)) := by
  obtain ⟨h1, h2, h3, h4, h5⟩ := h
  refine ⟨h1, h2, fun p hp => ⟨(h3 p hp).1, ?_⟩, fun t' ht' => ?_, h5⟩
  · by_cases q : S 27 t = p
    · obtain ⟨d1, d2⟩ := (h3 p hp).2
      refine ⟨d1, fun z => ?_⟩
      have z' : S 18 p = 1 := z
      rw [q] at hu
      omega
    · refine RCd_congr (S := S) (C := C) (h3 p hp).2 rfl rfl rfl rfl rfl rfl (fun _ _ => rfl) (fun _ t' _ hp' => ⟨rfl, ?_, rfl, rfl, rfl, rfl⟩) (fun _ _ _ _ => Iff.rfl)
      show up S 30 t v 30 t' = S 30 t'
      rw [up_n]
      rintro ⟨-, e⟩
      subst e
      exact q hp'
  · obtain ⟨k0, k1, k2, k3, k4, k5, k6⟩ := h4 t' ht'
    refine ⟨k0, k1, ?_, ?_, ?_, ?_, ?_⟩
    · rw [rd_I, if_neg (by omega)]; exact k2
    · rw [rd_I, if_neg (by omega)]; exact k3
    · rw [rd_I, if_neg (by omega)]; exact k4
    · rw [rd_I, if_neg (by omega)]; exact k5
    · rw [rd_I]
      show _ = nI (up S 30 t v 30 t')
      by_cases e : t' = t
      · subst e; rw [if_pos ⟨rfl, rfl, rfl⟩, up_s]
      · rw [if_neg (fun z => e z.2.1), up_n (fun z => e z.2)]; exact k6
/-- one ticket's money goes back -/
theorem GT_back {S : SV} {k t v x : Nat} (g : GT S k) (hv : v = 1 ∨ v = 2) : GT (up (up S 30 t v) 0 25 x) k := by
  obtain ⟨t1, t2, t3, t4, t5, t6⟩ := g
  have key : ∀ t', up S 30 t v 30 t' = S 30 t' ∨ (t' = t ∧ up S 30 t v 30 t' = v) := fun t' => by
    by_cases e : t' = t
    · subst e; exact Or.inr ⟨rfl, up_s⟩
    · exact Or.inl (up_n (fun z => e z.2))
  refine ⟨t1, t2, fun t' ht' => ?_, t4, fun t' ht' h3 => ?_, fun t' ht' h2 => ?_⟩
  · obtain ⟨a1, a2, a3, a4, a5, a6⟩ := t3 t' ht'
    refine ⟨a1, a2, a3, ?_, fun j hj => ?_, a6⟩
    · show up S 30 t v 30 t' ≤ 3
      rcases key t' with e | ⟨-, e⟩
      · rw [e]; exact a4
      · rw [e]; omega
    · have h5 := a5 j hj
      show (if j < mny (S 27 t') then 1 ≤ S 28 (3 * t' + j) ∧ S 28 (3 * t' + j) ≤ S 10 (ro S (S 27 t') j) ∧ ((up S 30 t v 30 t' = 0 ∨ up S 30 t v 30 t' = 3) → S 13 (25 * ro S (S 27 t') j + S 28 (3 * t' + j)) = 0) else S 28 (3 * t' + j) = 0)
      by_cases q : j < mny (S 27 t')
      · rw [if_pos q] at h5 ⊢
        refine ⟨h5.1, h5.2.1, fun z => h5.2.2 ?_⟩
        rcases key t' with e | ⟨-, e⟩
        · rw [e] at z; exact z
        · rw [e] at z; omega
      · rw [if_neg q] at h5 ⊢
        exact h5
  · have h3' : up S 30 t v 30 t' = 3 := h3
    rcases key t' with e | ⟨-, e⟩
    · rw [e] at h3'; exact t5 t' ht' h3'
    · omega
  · show ¬ (up S 30 t v 30 t' = 0 ∨ up S 30 t v 30 t' = 3)
    rcases key t' with e | ⟨-, e⟩
    · rw [e]; exact t6 t' ht' h2
    · omega
theorem GM_back {S : SV} {t v : Nat} (g : GM S) (ht : t < S 0 19) (h0 : S 30 t = 0) (hv : v = 1 ∨ v = 2) : GM (up (up S 30 t v) 0 25 (S 0 25 + cost S t)) := by
  obtain ⟨m1, m2, m3⟩ := g
  refine ⟨?_, m2, m3⟩
  rw [up_s]
  show S 0 25 + cost S t = sm (S 0 19) (fun t' => if up S 30 t v 30 t' = 1 ∨ up S 30 t v 30 t' = 2 then cost S t' else 0)
  rw [m1]
  refine (sm_upd ht (fun i _ hi => ?_) ?_).symm
  · show (if up S 30 t v 30 i = 1 ∨ up S 30 t v 30 i = 2 then cost S i else 0) = _
    rw [up_n (fun z => hi z.2)]
  · show (if up S 30 t v 30 t = 1 ∨ up S 30 t v 30 t = 2 then cost S t else 0) = (if S 30 t = 1 ∨ S 30 t = 2 then cost S t else 0) + cost S t
    rw [up_s, if_pos hv, if_neg (by omega), Nat.zero_add]
theorem s_cancel : S_cancel Inv := by
  intro k C R v hk hI
  obtain ⟨S, hR, hC, g1, g2, g3, g4, g5⟩ := hI
  have stay : ∃ (r : Int32) (C' R' : Mm), some ((0 : Int32), C) = some (r, C') ∧ some ((0 : Int32), R) = some (r, R') ∧ Inv (k + 1) C' R' := ⟨0, C, R, rfl, rfl, Inv_st hR hC g1 g2 g3 hk g4 g5⟩
  unfold f_X3_cancel f_X4_cancel
  rw [c_ticketNumbered hC g3, m_inT hR g3]
  simp only [ob_s, b1_if]
  cases ht : tOf S v with
  | none => rw [on_n, if_neg (fun z => z rfl)]; exact stay
  | some t =>
    obtain ⟨e1, e2⟩ := tOf_s ht
    have hT := GT_T g3
    have hct := hC.2.2.2.1 t e2
    have hg := GT_t g3 e2
    have hpt := GT_p g3 g2 e2
    rw [on_s, if_pos (fun z => by cases z), e1, hct.1, hct.2.2.2.2.2.2, RM_ref hR 20, RM_ref hR 23]
    simp only [ob_s, lt_e]
    rw [ix_n (by omega) (by omega), ix_n (by omega) (by omega), ix_n (by omega) (by omega), nI_cl (by omega), RM_I hR 27, RM_I hR 30, c_isOpen hC g1 g2 hg.1, m_isOpen hR g1 g2 hg.1]
    simp only [ob_s, b1_if]
    by_cases q : S 30 t = 0
    · rw [if_pos ((nI_z (by omega)).mpr q), if_pos ((nI_z (by omega)).mpr q)]
      by_cases q2 : opn S (S 27 t)
      · rw [if_pos q2, if_pos q2]
        have hR1 := RM_sI hR (s := 30) (i := t) (v := 1) (by omega)
        have g3' : GT (up S 30 t 1) k := GT_back (x := S 0 25) g3 (Or.inl rfl) |> fun h => by
          have e : up (up S 30 t 1) 0 25 (S 0 25) = up S 30 t 1 := by
            funext s i
            by_cases w : s = 0 ∧ i = 25
            · obtain ⟨rfl, rfl⟩ := w; rw [up_s]; rfl
            · rw [up_n w]
          rw [e] at h; exact h
        have hc1 : f_X4_cost 0 (nI t) (sI R 30 0 t (1 : Int32)) = some (lN (cost S t)) := m_cost (S := up S 30 t 1) hR1 g3' g2 e2
        rw [hc1]
        simp only [ob_s]
        rw [show mJ (sI R 30 0 t (1 : Int32)) 0 0 25 = lN (S 0 25) from RM_back (R := R) hR, lN_add]
        refine ⟨1, _, _, rfl, rfl, up (up S 30 t 1) 0 25 (S 0 25 + cost S t), RM_s0J hR1 (Or.inl rfl), RC_st hC (opn_18 g2 hg.1 q2), g1, g2, GT_s (GT_back g3 (Or.inl rfl)) hk, GM_back g4 e2 q (Or.inl rfl), g5⟩
      · rw [if_neg q2, if_neg q2]; exact stay
    · rw [if_neg (fun z => q ((nI_z (by omega)).mp z)), if_neg (fun z => q ((nI_z (by omega)).mp z))]; exact stay
