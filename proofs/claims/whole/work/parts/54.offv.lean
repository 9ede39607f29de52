/-! ===== official: a pool that is void: its tickets go back ===== -/
abbrev vq (S : SV) (p : Nat) (P : Nat → Bool) (t : Nat) : Prop := P t = true ∧ S 27 t = p ∧ S 30 t = 0
def vdt (S : SV) (p : Nat) (P : Nat → Bool) : SV := fun s i =>
  if s = 30 ∧ vq S p P i then 2 else
  if s = 0 ∧ i = 25 then S 0 25 + sm (S 0 19) (fun t => if vq S p P t then cost S t else 0) else S s i
theorem vdt_30 {S : SV} {p : Nat} {P : Nat → Bool} (i : Nat) : vdt S p P 30 i = if vq S p P i then 2 else S 30 i := by
  unfold vdt
  by_cases h : vq S p P i
  · rw [if_pos ⟨rfl, h⟩, if_pos h]
  · rw [if_neg (fun z => h z.2), if_neg (fun z => absurd z.1 (by decide)), if_neg h]
theorem vdt_25 {S : SV} {p : Nat} {P : Nat → Bool} : vdt S p P 0 25 = S 0 25 + sm (S 0 19) (fun t => if vq S p P t then cost S t else 0) := by
  unfold vdt
  rw [if_neg (fun z => absurd z.1 (by decide)), if_pos ⟨rfl, rfl⟩]
theorem vdt_o {S : SV} {p s i : Nat} {P : Nat → Bool} (h30 : s ≠ 30) (h0 : ¬ (s = 0 ∧ i = 25)) : vdt S p P s i = S s i := by
  unfold vdt
  rw [if_neg (fun z => h30 z.1), if_neg h0]
theorem vdt_eq {S S1 : SV} {p : Nat} {P : Nat → Bool} (h30 : ∀ i, S1 30 i = vdt S p P 30 i) (h25 : S1 0 25 = vdt S p P 0 25) (ho : ∀ s i, s ≠ 30 → ¬ (s = 0 ∧ i = 25) → S1 s i = S s i) : vdt S p P = S1 := by
  funext s i
  by_cases e2 : s = 30
  · subst e2; exact (h30 i).symm
  · by_cases e4 : s = 0 ∧ i = 25
    · obtain ⟨rfl, rfl⟩ := e4; exact h25.symm
    · rw [vdt_o e2 e4, ho s i e2 e4]
theorem vdt_congr {S : SV} {p : Nat} {P P' : Nat → Bool} (h : ∀ t, S 27 t = p → S 30 t = 0 → (P t = true ↔ P' t = true)) : vdt S p P = vdt S p P' := by
  have e : ∀ t, vq S p P t ↔ vq S p P' t := fun t => ⟨fun z => ⟨(h t z.2.1 z.2.2).mp z.1, z.2⟩, fun z => ⟨(h t z.2.1 z.2.2).mpr z.1, z.2⟩⟩
  refine vdt_eq (fun i => ?_) ?_ (fun s i a b => vdt_o a b)
  · rw [vdt_30, vdt_30]
    by_cases w : vq S p P i
    · rw [if_pos w, if_pos ((e i).mp w)]
    · rw [if_neg w, if_neg (fun z => w ((e i).mpr z))]
  · rw [vdt_25, vdt_25]
    refine congrArg (S 0 25 + ·) (sm_congr (fun i _ => ?_))
    by_cases w : vq S p P i
    · rw [if_pos w, if_pos ((e i).mp w)]
    · rw [if_neg w, if_neg (fun z => w ((e i).mpr z))]
theorem vdt_0 {S : SV} {p : Nat} {P : Nat → Bool} (h : ∀ t, ¬ vq S p P t) : vdt S p P = S := by
  refine vdt_eq (fun i => ?_) ?_ (fun s i a b => rfl)
  · rw [vdt_30, if_neg (h i)]
  · rw [vdt_25, sm_zero (fun t _ => if_neg (h t)), Nat.add_zero]
theorem vdt_go {S : SV} {p t : Nat} {P P' : Nat → Bool} (hP : P t = false) (hP' : ∀ i, P' i = true ↔ (P i = true ∨ i = t)) (ht : t < S 0 19) (h27 : S 27 t = p) (h30 : S 30 t = 0) : vdt S p P' = up (up (vdt S p P) 30 t 2) 0 25 (vdt S p P 0 25 + cost S t) := by
  have hPt : ¬ P t = true := by rw [hP]; exact Bool.false_ne_true
  refine vdt_eq (fun i => ?_) ?_ (fun s i b d => ?_)
  · rw [up_n (by omega), vdt_30]
    by_cases e : i = t
    · rw [e, up_s, if_pos ⟨(hP' t).mpr (Or.inr rfl), h27, h30⟩]
    · rw [up_n (fun z => e z.2), vdt_30]
      by_cases w : vq S p P i
      · rw [if_pos w, if_pos ⟨(hP' i).mpr (Or.inl w.1), w.2⟩]
      · rw [if_neg w, if_neg (fun z => w ⟨((hP' i).mp z.1).resolve_right e, z.2⟩)]
  · rw [up_s, vdt_25, vdt_25, Nat.add_assoc]
    refine congrArg (S 0 25 + ·) (sm_upd ht (fun i _ e => ?_) ?_).symm
    · by_cases w : vq S p P i
      · rw [if_pos w, if_pos ⟨(hP' i).mpr (Or.inl w.1), w.2⟩]
      · rw [if_neg w, if_neg (fun z => w ⟨((hP' i).mp z.1).resolve_right e, z.2⟩)]
    · rw [if_pos ⟨(hP' t).mpr (Or.inr rfl), h27, h30⟩, if_neg (fun z => hPt z.1), Nat.zero_add]
  · rw [up_n d, up_n (fun z => b z.1), vdt_o b d]
theorem vdt_no {S : SV} {p t : Nat} {P P' : Nat → Bool} (hP' : ∀ i, P' i = true ↔ (P i = true ∨ i = t)) (hn : ¬ (S 27 t = p ∧ S 30 t = 0)) : vdt S p P' = vdt S p P := vdt_congr (fun i h1 h2 => by
  have e : i ≠ t := fun z => hn (by rw [← z]; exact ⟨h1, h2⟩)
  exact ⟨fun z => ((hP' i).mp z).resolve_right e, fun z => (hP' i).mpr (Or.inl z)⟩)
/-- all that were sold -/
def Pall (S : SV) : Nat → Bool := fun t => decide (t < S 0 19)
theorem Pall_i {S : SV} {t : Nat} : Pall S t = true ↔ t < S 0 19 := decide_eq_true_iff
/-- the model's loop -/
theorem m_vdL {S : SV} {k p : Nat} {DD : Nat → Prop} {ZZ : Prop} (g2 : GPx DD ZZ S) {TT : Prop} (g : GTx TT S k) (hp : p ≤ 52) : ∀ n j M, j ≤ S 0 19 → S 0 19 < j + n → RM (vdt S p (fun t => decide (t < j))) M → ∃ R', f_X4_settles_42 n 0 (nI p) (nI j) M = some ((1 : Int32), R') ∧ RM (vdt S p (Pall S)) R' := by
  have hT := GT_T g
  intro n
  induction n with
  | zero => intro j M h1 h2; omega
  | succ n ih =>
    intro j M h1 h2 hM
    have hT0 : mI M 0 0 19 = nI (S 0 19) := (RM_T hM).trans rfl
    rw [f_X4_settles_42, hT0]
    by_cases q : j = S 0 19
    · rw [if_pos ((i_le_n (by omega) (by omega)).mpr (by omega))]
      refine ⟨M, rfl, ?_⟩
      rw [q] at hM
      exact hM
    · have hj : j < S 0 19 := by omega
      have hg := GT_t g hj
      have hpt := GT_p g g2 hj
      have h17 := (g2.2.1 _ hg.1).2.2.2.2.1
      have hP' : ∀ i, (fun t => decide (t < j + 1)) i = true ↔ ((fun t => decide (t < j)) i = true ∨ i = j) := fun i => by
        show decide (i < j + 1) = true ↔ (decide (i < j) = true ∨ i = j)
        rw [decide_eq_true_iff, decide_eq_true_iff]
        omega
      have hP : (fun t => decide (t < j)) j = false := decide_eq_false (by omega)
      have hPt : ¬ (fun t => decide (t < j)) j = true := by rw [hP]; exact Bool.false_ne_true
      have e27 : mI M 27 0 j = nI (S 27 j) := (RM_I hM 27 j).trans rfl
      have e30 : mI M 30 0 j = nI (S 30 j) := by
        have h := RM_I hM 30 j
        rw [vdt_30, if_neg (fun z => hPt z.1)] at h
        exact h
      rw [if_neg (fun z => by have := (i_le_n (by omega) (by omega)).mp z; omega), RM_ref hM 20, RM_ref hM 23]
      simp only [ob_s, lt_e]
      rw [ix_n (by omega) (by omega), ix_n (by omega) (by omega), nI_cl (by omega), e27, e30, nI_1]
      have skip : ¬ (S 27 j = p ∧ S 30 j = 0) → ∃ R', f_X4_settles_42 n 0 (nI p) (nI (j + 1)) M = some ((1 : Int32), R') ∧ RM (vdt S p (Pall S)) R' := fun nn => by
        refine ih (j + 1) M (by omega) (by omega) ?_
        rw [vdt_no hP' nn]
        exact hM
      by_cases q1 : S 27 j = p
      · rw [if_pos ((nI_e (by omega) (by omega)).mpr q1)]
        by_cases q2 : S 30 j = 0
        · rw [if_pos ((nI_z (by omega)).mpr q2)]
          obtain ⟨R1, x1, x2⟩ := m_refunds hM (t := j) (by omega) hpt hg.2.2.1 h17
          rw [x1, ob_s]
          refine ih (j + 1) R1 (by omega) (by omega) ?_
          rw [vdt_go hP hP' hj q1 q2]
          exact x2
        · rw [if_neg (fun z => q2 ((nI_z (by omega)).mp z))]
          exact skip (fun z => q2 z.2)
      · rw [if_neg (fun z => q1 ((nI_e (by omega) (by omega)).mp z))]
        exact skip (fun z => q1 z.1)
/-- the house's -/
theorem c_vdL {S : SV} {k p : Nat} {TT : Prop} (g : GTx TT S k) (hu : S 18 p = 0) : ∀ j n C, j ≤ S 0 19 → j < n → RC (vdt S p (PP S (fun _ => false) p j)) C → ∃ C', f_X0_refundAll_5 n (lastT (S 27) p j) C = some C' ∧ RC (vdt S p (Pall S)) C' ∧ (∀ i, mJ C' 7 i = mJ C 7 i) := by
  have hT := GT_T g
  intro j
  induction j with
  | zero =>
    intro n C h1 h2 hC
    obtain ⟨n', rfl⟩ : ∃ n', n = n' + 1 := ⟨n - 1, by omega⟩
    rw [f_X0_refundAll_5]
    refine ⟨C, rfl, ?_, fun _ => rfl⟩
    have e : vdt S p (Pall S) = vdt S p (PP S (fun _ => false) p 0) := by
      refine vdt_eq (fun i => ?_) ?_ (fun s i a b => vdt_o a b)
      · rw [vdt_30, vdt_30]
        by_cases hi : i < S 0 19
        · by_cases w : vq S p (Pall S) i
          · rw [if_pos (c := vq S p (Pall S) i) w, if_pos (c := vq S p (PP S (fun _ => false) p 0) i) ⟨PP_iff.mpr (Or.inr ⟨hi, w.2.1, Nat.zero_le _⟩), w.2⟩]
          · rw [if_neg (c := vq S p (Pall S) i) w, if_neg (c := vq S p (PP S (fun _ => false) p 0) i) (fun z => w ⟨Pall_i.mpr hi, z.2⟩)]
        · rw [if_neg (c := vq S p (Pall S) i) (fun z => hi (Pall_i.mp z.1)), if_neg (c := vq S p (PP S (fun _ => false) p 0) i)]
          intro z
          rcases PP_iff.mp z.1 with w | w
          · cases w
          · exact hi w.1
      · rw [vdt_25, vdt_25]
        refine congrArg (S 0 25 + ·) (sm_congr (fun i hi => ?_))
        by_cases w : vq S p (Pall S) i
        · rw [if_pos (c := vq S p (Pall S) i) w, if_pos (c := vq S p (PP S (fun _ => false) p 0) i) ⟨PP_iff.mpr (Or.inr ⟨hi, w.2.1, Nat.zero_le _⟩), w.2⟩]
        · rw [if_neg (c := vq S p (Pall S) i) w, if_neg (c := vq S p (PP S (fun _ => false) p 0) i) (fun z => w ⟨Pall_i.mpr hi, z.2⟩)]
    rw [e]
    exact hC
  | succ j ih =>
    intro n C h1 h2 hC
    have hj : j < S 0 19 := by omega
    by_cases q : S 27 j = p
    · obtain ⟨n', rfl⟩ : ∃ n', n = n' + 1 := ⟨n - 1, by omega⟩
      have hP := PP_f (S := S) (base := fun _ => false) (p := p) (j := j) rfl
      have hPt : ¬ PP S (fun _ => false) p (j + 1) j = true := by rw [hP]; exact Bool.false_ne_true
      have hP' := PP_a (base := fun _ => false) hj q
      have hg := GT_t g hj
      obtain ⟨-, k1, -, -, -, -, k6⟩ := hC.2.2.2.1 j (show j < S 0 19 from hj)
      rw [vdt_30, if_neg (fun z => hPt z.1)] at k6
      have k1' : mR C 8 j 1 = lastT (S 27) p j := k1.trans (by
        show lastT (S 27) (S 27 j) j = _
        rw [q])
      rw [c_chain q, f_X0_refundAll_5, on_s, k6, k1']
      simp only [lt_e]
      by_cases q2 : S 30 j = 0
      · rw [if_pos ((nI_z (by omega)).mpr q2), rd_RI, k1']
        have h2' : RC (vdt S p (PP S (fun _ => false) p j)) (sI C 8 j 6 (2 : Int32)) := by
          rw [vdt_go hP hP' hj q q2]
          exact RC_st (t := j) (v := 2) hC (show S 18 (S 27 j) = 0 by rw [q]; exact hu)
        obtain ⟨C', x1, x2, x3⟩ := ih n' (sI C 8 j 6 (2 : Int32)) (by omega) (by omega) h2'
        exact ⟨C', x1, x2, x3⟩
      · rw [if_neg (fun z => q2 ((nI_z (by omega)).mp z))]
        refine ih n' C (by omega) (by omega) ?_
        rw [vdt_no hP' (fun z => q2 z.2)]
        exact hC
    · rw [c_chainN q]
      refine ih n C (by omega) (by omega) ?_
      rw [← PP_sk q]
      exact hC
theorem RCx_fin {EE : Nat → Prop} {S : SV} {C : Mm} (h : RCx EE S C) (hd : ∀ p, S 15 p ≠ 0 → RCd S C p) : RC S C := ⟨h.1, h.2.1, fun p hp => ⟨(h.2.2.1 p hp).1, hd p hp⟩, h.2.2.2.1, h.2.2.2.2⟩
theorem RC_vd {S : SV} {C : Mm} {p : Nat} (h : RC S C) : RC (up S 18 p 2) (sI C 7 p 6 (nI 2)) := by
  refine RCx_fin (RCx_I h (Or.inl ⟨rfl, rfl⟩)) (fun q hq => ?_)
  by_cases e : q = p
  · subst e
    refine ⟨fun z => ?_, fun z => ?_⟩
    · rw [up_s] at z; omega
    · rw [up_s] at z; omega
  · exact RCd_congr (S := S) (C := C) (h.2.2.1 q hq).2 rfl rfl (up_n (fun z => e z.2)) rfl rfl rfl (fun _ _ => rfl) (fun _ _ _ _ => ⟨rfl, rfl, rfl, rfl, rfl, rfl⟩) (fun _ _ _ _ => Iff.rfl)
/-- between two pools -/
abbrev ZQ (S : SV) : Prop := ∀ p, S 18 p = 0 → S 19 p = 0 ∧ S 20 p = 0 ∧ S 21 p = 0 ∧ S 22 p = 0 ∧ S 23 p = 0 ∧ S 25 p = 0 ∧ S 26 p = 0
def GQ (S : SV) : Prop := GPx (fun p => S 18 p ≠ 0) (ZQ S) S
def GMb (B : Nat) (S : SV) : Prop := S 0 25 = sm (S 0 19) (fun t => if S 30 t = 1 ∨ S 30 t = 2 then cost S t else 0) ∧ (∀ p, S 24 p ≤ B) ∧ S 0 26 ≤ B ∧ (∀ p, S 26 p ≤ 512)
def vdS (S : SV) (p : Nat) : SV := up (vdt S p (Pall S)) 18 p 2
theorem vdS_eq {S : SV} {p : Nat} : vdt (up S 18 p 2) p (Pall S) = vdS S p := by
  refine vdt_eq (fun i => ?_) ?_ (fun s i a b => ?_)
  · rfl
  · rfl
  · unfold vdS
    by_cases e : s = 18 ∧ i = p
    · obtain ⟨rfl, rfl⟩ := e
      rw [up_s, up_s]
    · rw [up_n e, up_n e, vdt_o a b]
theorem vd_inv {S : SV} {k p B : Nat} (g1 : GA S) (g2 : GQ S) (g3 : GT S k) (g4 : GMb B S) (g5 : GO S) (hp : S 15 p = 1) (hu : S 18 p = 0) : GA (vdS S p) ∧ GQ (vdS S p) ∧ GT (vdS S p) k ∧ GMb B (vdS S p) ∧ GO (vdS S p) := by
  have s18 : ∀ q, q ≠ p → vdS S p 18 q = S 18 q := fun q hq => (up_n (fun z => hq z.2) : up (vdt S p (Pall S)) 18 p 2 18 q = _)
  have s18p : vdS S p 18 p = 2 := up_s
  have s30 : ∀ t, vdS S p 30 t = if vq S p (Pall S) t then 2 else S 30 t := fun t => vdt_30 t
  have s30o : ∀ t, (vdS S p 30 t = 0 ∨ vdS S p 30 t = 3) → ¬ vq S p (Pall S) t ∧ vdS S p 30 t = S 30 t := fun t z => by
    rw [s30] at z ⊢
    by_cases w : vq S p (Pall S) t
    · rw [if_pos w] at z; omega
    · rw [if_neg w]; exact ⟨w, rfl⟩
  refine ⟨g1, ?_, ?_, ?_, g5⟩
  · refine ⟨g2.1, fun q hq => ?_, g2.2.2.1, g2.2.2.2.1, fun q hq => ?_, fun q hq => ?_⟩
    · obtain ⟨a1, a2, a3, a4, a5, a6, a7, -⟩ := g2.2.1 q hq
      refine ⟨a1, a2, a3, a4, a5, a6, ?_, ?_⟩
      · by_cases e : q = p
        · rw [e, s18p]; omega
        · rw [s18 q e]; exact a7
      · exact ⟨fun z => fun w => w z, fun z => Decidable.byContradiction z⟩
    · have hq' : S 15 q = 0 := hq
      have e : q ≠ p := fun e => by rw [e] at hq'; omega
      rw [s18 q e]
      exact g2.2.2.2.2.1 q hq
    · by_cases e : q = p
      · rw [e, s18p] at hq; omega
      · rw [s18 q e] at hq
        exact g2.2.2.2.2.2 q hq
  · obtain ⟨t1, t2, t3, t4, t5, t6⟩ := g3
    refine ⟨t1, t2, fun t ht => ?_, fun t ht => ?_, fun t ht h3 => ?_, fun t ht h2 hc => ?_⟩
    · obtain ⟨a1, a2, a3, a4, a5, a6⟩ := t3 t ht
      refine ⟨a1, a2, a3, ?_, fun j hj => ?_, a6⟩
      · rw [s30]; split
        · omega
        · exact a4
      · have h5 := a5 j hj
        show (if j < mny (S 27 t) then 1 ≤ S 28 (3 * t + j) ∧ S 28 (3 * t + j) ≤ S 10 (ro S (S 27 t) j) ∧ ((vdS S p 30 t = 0 ∨ vdS S p 30 t = 3) → S 13 (25 * ro S (S 27 t) j + S 28 (3 * t + j)) = 0) else S 28 (3 * t + j) = 0)
        by_cases q : j < mny (S 27 t)
        · rw [if_pos q] at h5 ⊢
          refine ⟨h5.1, h5.2.1, fun z => h5.2.2 ?_⟩
          have := (s30o t z).2
          rw [this] at z
          exact z
        · rw [if_neg q] at h5 ⊢
          exact h5
    · refine t4 t ?_
      rcases ht with h | h
      · exact Or.inl h
      · have h' : vdS S p 18 (S 27 t) = 0 := h
        by_cases e : S 27 t = p
        · rw [e, s18p] at h'; omega
        · rw [s18 _ e] at h'; exact Or.inr h'
    · have h3' := (s30o t (Or.inr h3)).2
      have h0 := t5 t ht (h3'.symm.trans h3)
      show vdS S p 18 (S 27 t) = 1
      by_cases e : S 27 t = p
      · rw [e] at h0; omega
      · rw [s18 _ e]; exact h0
    · obtain ⟨nv, e30⟩ := s30o t hc
      have hc' : cntT S t := by
        have hc2 : vdS S p 30 t = 0 ∨ vdS S p 30 t = 3 := hc
        rw [e30] at hc2; exact hc2
      have h2' : vdS S p 18 (S 27 t) = 2 := h2
      by_cases e : S 27 t = p
      · rcases hc' with h0 | h0
        · exact nv ⟨Pall_i.mpr ht, e, h0⟩
        · have := t5 t ht h0
          rw [e] at this; omega
      · rw [s18 _ e] at h2'
        exact t6 t ht h2' hc'
  · obtain ⟨m1, m2, m3⟩ := g4
    refine ⟨?_, m2, m3⟩
    have e25 : vdS S p 0 25 = S 0 25 + sm (S 0 19) (fun t => if vq S p (Pall S) t then cost S t else 0) := vdt_25
    rw [e25, m1, ← sm_add]
    refine sm_congr (fun t ht => ?_)
    show _ = if vdS S p 30 t = 1 ∨ vdS S p 30 t = 2 then cost S t else 0
    rw [s30]
    by_cases w : vq S p (Pall S) t
    · rw [if_pos w, if_pos w, if_neg (by have := w.2.2; omega), if_pos (Or.inr rfl), Nat.zero_add]
    · rw [if_neg w, if_neg w, Nat.add_zero]
