/-! ===== a runner is scratched: the house's loops; the call scratch ===== -/
theorem rng_out {S : SV} {r x : Nat} (hx : 1 ≤ x ∧ x ≤ S 10 r) (h13 : S 13 (25 * r + x) = 0) : rng S r = rng (up S 13 (25 * r + x) 1) r + 1 := by
  have e : rng (up S 13 (25 * r + x) 1) r = sm (S 10 r) (fun n => if up S 13 (25 * r + x) 1 13 (25 * r + (n + 1)) = 0 then 1 else 0) := rfl
  rw [e]
  unfold rng
  refine sm_upd (t := x - 1) (by omega) (fun i hi e => ?_) ?_
  · rw [up_n (by omega)]
  · rw [show x - 1 + 1 = x by omega, h13, up_s]; rfl
theorem rng_oth {S : SV} {r r' x : Nat} (g1 : GA S) (hx : x < 25) (hne : r' ≠ r) (hx0 : 1 ≤ x) : rng (up S 13 (25 * r + x) 1) r' = rng S r' := by
  have hl := GA_10 g1 r'
  have e : rng (up S 13 (25 * r + x) 1) r' = sm (S 10 r') (fun n => if up S 13 (25 * r + x) 1 13 (25 * r' + (n + 1)) = 0 then 1 else 0) := rfl
  rw [e]
  unfold rng
  refine sm_congr (fun i hi => ?_)
  rw [up_n (by omega)]
theorem RC_out {S : SV} {C : Mm} {k r x : Nat} (hC : RC S C) (g1 : GA S) (g2 : GP S) (g3 : GT S k) (hr : S 10 r ≠ 0) (h11 : S 11 r = 0) (hx : 1 ≤ x ∧ x ≤ S 10 r) (h13 : S 13 (25 * r + x) = 0) : RC (up S 13 (25 * r + x) 1) (sI (sI C 5 r x (-1)) 4 r 5 (nI (rng S r - 1))) := by
  obtain ⟨h1, h2, h3, h4, h5⟩ := hC
  have hl := GA_10 g1
  have hlr := hl r
  have e1 := rng_out hx h13
  refine ⟨h1, fun r' hr' => ?_, fun p hp => ⟨(h3 p hp).1, ?_⟩, h4, h5⟩
  · obtain ⟨k1, k2, k3, k4, k5, k6, k7, k8, k9⟩ := h2 r' hr'
    refine ⟨?_, ?_, k3, k4, ?_, ?_, ?_, fun m hm => ?_, k9⟩
    · rw [rd_I, if_neg (by omega), rd_I, if_neg (by omega)]; exact k1
    · rw [rd_I, if_neg (by omega), rd_I, if_neg (by omega)]; exact k2
    · rw [rd_I, if_neg (by omega), rd_I, if_neg (by omega)]; exact k5
    · rw [rd_I]
      by_cases e : r' = r
      · subst e
        rw [if_pos ⟨rfl, rfl, rfl⟩, e1]; rfl
      · rw [if_neg (fun z => e z.2.1), rd_I, if_neg (by omega), rng_oth g1 (by omega) e hx.1]; exact k6
    · rw [rd_I, if_neg (by omega), rd_I, if_neg (by omega)]; exact k7
    · rw [rd_I, if_neg (by omega), rd_I]
      show _ = if up S 13 (25 * r + x) 1 13 (25 * r' + m) = 0 then nI (S 14 (25 * r' + m)) else -1
      by_cases e : r' = r ∧ m = x
      · obtain ⟨rfl, rfl⟩ := e
        rw [if_pos ⟨rfl, rfl, rfl⟩, up_s]; rfl
      · rw [if_neg (fun z => e z.2), up_n (by omega)]
        exact k8 m hm
  · have hp1 : S 15 p = 1 := by have := g2.1 p; have hp' : S 15 p ≠ 0 := hp; omega
    refine RCd_congr (S := S) (C := C) (h3 p hp).2 rfl rfl rfl rfl rfl rfl (fun _ _ => rfl) (fun _ _ _ _ => ⟨rfl, rfl, rfl, rfl, rfl, rfl⟩) (fun hs t ht hpt => ?_)
    have ho := GP_off g2 hp1 (by omega)
    have n1 := GT_n g3 g1 ht (j := 0) (by omega)
    have n2 := GT_n g3 g1 ht (j := 1) (by omega)
    have n3 := GT_n g3 g1 ht (j := 2) (by omega)
    refine wns_congr (fun _ => rfl) (fun _ _ _ => rfl) (rng_oth g1 (by omega) (fun z => ?_) hx.1) n1 n2 n3
    have := ho.1
    rw [z] at this
    omega
theorem RC_mv {S : SV} {C : Mm} {t v j : Nat} (h : RC S C) (hj : j < 3) (hu : S 18 (S 27 t) = 0) : RC (up S 28 (3 * t + j) v) (sI C 8 t (3 + j) (nI v)) := by
  obtain ⟨h1, h2, h3, h4, h5⟩ := h
  refine ⟨h1, h2, fun p hp => ⟨(h3 p hp).1, ?_⟩, fun t' ht' => ?_, h5⟩
  · by_cases q : S 27 t = p
    · obtain ⟨d1, d2⟩ := (h3 p hp).2
      refine ⟨d1, fun z => ?_⟩
      have z' : S 18 p = 1 := z
      rw [q] at hu
      omega
    · refine RCd_congr (S := S) (C := C) (h3 p hp).2 rfl rfl rfl rfl rfl rfl (fun _ _ => rfl) (fun _ t' _ hp' => ?_) (fun _ _ _ _ => Iff.rfl)
      have ne : t' ≠ t := fun e => q (by rw [← e]; exact hp')
      refine ⟨rfl, rfl, ?_, ?_, ?_, rfl⟩
      · rw [up_n (by omega)]
      · rw [up_n (by omega)]
      · rw [up_n (by omega)]
  · obtain ⟨k0, k1, k2, k3, k4, k5, k6⟩ := h4 t' ht'
    refine ⟨k0, k1, ?_, ?_, ?_, ?_, ?_⟩
    · rw [rd_I, if_neg (by omega)]; exact k2
    · rw [rd_I]
      by_cases e : t' = t ∧ j = 0
      · obtain ⟨rfl, rfl⟩ := e
        rw [if_pos ⟨rfl, rfl, rfl⟩]
        exact congrArg nI (up_s (S := S)).symm
      · rw [if_neg (by omega), up_n (by omega)]; exact k3
    · rw [rd_I]
      by_cases e : t' = t ∧ j = 1
      · obtain ⟨rfl, rfl⟩ := e
        rw [if_pos ⟨rfl, rfl, rfl⟩, up_s]
      · rw [if_neg (by omega), up_n (by omega)]; exact k4
    · rw [rd_I]
      by_cases e : t' = t ∧ j = 2
      · obtain ⟨rfl, rfl⟩ := e
        rw [if_pos ⟨rfl, rfl, rfl⟩, up_s]
      · rw [if_neg (by omega), up_n (by omega)]; exact k5
    · rw [rd_I, if_neg (by omega)]; exact k6
/-- those that were gone through -/
def PP (S : SV) (base : Nat → Bool) (p j : Nat) : Nat → Bool := fun t => base t || (decide (t < S 0 19) && (decide (S 27 t = p) && decide (j ≤ t)))
theorem PP_iff {S : SV} {base : Nat → Bool} {p j t : Nat} : PP S base p j t = true ↔ (base t = true ∨ (t < S 0 19 ∧ S 27 t = p ∧ j ≤ t)) := by
  unfold PP
  rw [Bool.or_eq_true, Bool.and_eq_true, Bool.and_eq_true, decide_eq_true_iff, decide_eq_true_iff, decide_eq_true_iff]
theorem PP_eq {P P' : Nat → Bool} (h : ∀ t, P t = true ↔ P' t = true) : P = P' := funext (fun t => Bool.eq_iff_iff.mpr (h t))
theorem PP_sk {S : SV} {base : Nat → Bool} {p j : Nat} (h : S 27 j ≠ p) : PP S base p (j + 1) = PP S base p j := PP_eq (fun t => by
  rw [PP_iff, PP_iff]
  constructor
  · rintro (w | ⟨a, b, c⟩)
    · exact Or.inl w
    · exact Or.inr ⟨a, b, by omega⟩
  · rintro (w | ⟨a, b, c⟩)
    · exact Or.inl w
    · have : t ≠ j := fun e => h (by rw [← e]; exact b)
      exact Or.inr ⟨a, b, by omega⟩)
theorem PP_f {S : SV} {base : Nat → Bool} {p j : Nat} (hb : base j = false) : PP S base p (j + 1) j = false := by
  refine Bool.eq_false_iff.mpr (fun z => ?_)
  rcases PP_iff.mp z with w | ⟨a, b, c⟩
  · rw [hb] at w; cases w
  · omega
theorem PP_a {S : SV} {base : Nat → Bool} {p j : Nat} (hj : j < S 0 19) (h : S 27 j = p) (i : Nat) : PP S base p j i = true ↔ (PP S base p (j + 1) i = true ∨ i = j) := by
  rw [PP_iff, PP_iff]
  constructor
  · rintro (w | ⟨a, b, c⟩)
    · exact Or.inl (Or.inl w)
    · by_cases e : i = j
      · exact Or.inr e
      · exact Or.inl (Or.inr ⟨a, b, by omega⟩)
  · rintro ((w | ⟨a, b, c⟩) | e)
    · exact Or.inl w
    · exact Or.inr ⟨a, b, by omega⟩
    · subst e; exact Or.inr ⟨hj, h, Nat.le_refl _⟩
theorem nmd_plain {S : SV} {k r x t : Nat} (g3 : GT S k) (ht : t < S 0 19) (p52 : S 27 t ≠ 52) (hr : S 27 t / 4 = r) (hx : 1 ≤ x) : nmd S r x t ↔ S 30 t = 0 ∧ (S 28 (3 * t) = x ∨ S 28 (3 * t + 1) = x ∨ S 28 (3 * t + 2) = x) := by
  have a5 := (g3.2.2.1 t ht).2.2.2.2.1
  have hro : ∀ j, ro S (S 27 t) j = r := fun j => by unfold ro; rw [if_neg p52]; exact hr
  have key : ∀ j, j < 3 → S 28 (3 * t + j) = x → nm1 S r x t j := fun j hj e => by
    refine ⟨Decidable.byContradiction (fun w => ?_), hro j, e⟩
    have := a5 j hj
    rw [if_neg w] at this
    omega
  constructor
  · rintro ⟨h0, z | z | z⟩
    · exact ⟨h0, Or.inl z.2.2⟩
    · exact ⟨h0, Or.inr (Or.inl z.2.2)⟩
    · exact ⟨h0, Or.inr (Or.inr z.2.2)⟩
  · rintro ⟨h0, z | z | z⟩
    · exact ⟨h0, Or.inl (key 0 (by omega) z)⟩
    · exact ⟨h0, Or.inr (Or.inl (key 1 (by omega) z))⟩
    · exact ⟨h0, Or.inr (Or.inr (key 2 (by omega) z))⟩
theorem scr_27 {S : SV} {r x : Nat} {P : Nat → Bool} : scr S r x P 27 = S 27 := funext (fun _ => rfl)
theorem c_refN {S : SV} {k r x p : Nat} {base : Nat → Bool} (g1 : GA S) (g3 : GT S k) (hp52 : p ≠ 52) (hpr : p / 4 = r) (hx : 1 ≤ x ∧ x < 25) (hu : S 18 p = 0) (hb : ∀ t, S 27 t = p → base t = false) : ∀ j n acc C, j ≤ S 0 19 → j < n → RC (scr S r x (PP S base p j)) C → ∃ C' acc', f_X0_refundNaming_7 n (nI x) (nI acc) (lastT (S 27) p j) C = some (nI acc', C') ∧ RC (scr S r x (PP S base p 0)) C' ∧ acc' + cnt S r x (PP S base p j) = acc + cnt S r x (PP S base p 0) := by
  have hT := GT_T g3
  intro j
  induction j with
  | zero =>
    intro n acc C h1 h2 hC
    obtain ⟨n', rfl⟩ : ∃ n', n = n' + 1 := ⟨n - 1, by omega⟩
    rw [f_X0_refundNaming_7]
    exact ⟨C, acc, rfl, hC, rfl⟩
  | succ j ih =>
    intro n acc C h1 h2 hC
    have hj : j < S 0 19 := by omega
    by_cases q : S 27 j = p
    · obtain ⟨n', rfl⟩ : ∃ n', n = n' + 1 := ⟨n - 1, by omega⟩
      have hP := PP_f (S := S) (base := base) (p := p) (j := j) (hb j q)
      have hPt : ¬ PP S base p (j + 1) j = true := by rw [hP]; exact Bool.false_ne_true
      have hP' := PP_a (base := base) hj q
      have hg := GT_t g3 hj
      obtain ⟨-, k1, -, k3, k4, k5, k6⟩ := hC.2.2.2.1 j (show j < scr S r x (PP S base p (j + 1)) 0 19 from hj)
      rw [scr_30, if_neg (fun z => hPt z.1)] at k6
      have k3' : mI C 8 j 3 = nI (S 28 (3 * j)) := by
        rw [k3]
        have := scr_28j (S := S) (r := r) (n := x) (t := j) (P := PP S base p (j + 1)) (j := 0) (by omega)
        rw [if_neg (fun z => hPt z.1)] at this
        exact congrArg nI this
      rw [scr_28j (by omega), if_neg (fun z => hPt z.1)] at k4 k5
      rw [scr_27, q] at k1
      have n1 : S 28 (3 * j) ≤ 24 := GT_n g3 g1 hj (j := 0) (by omega)
      have n2 := GT_n g3 g1 hj (j := 1) (by omega)
      have n3 := GT_n g3 g1 hj (j := 2) (by omega)
      have en : nmd S r x j ↔ _ := nmd_plain g3 hj (show S 27 j ≠ 52 by rw [q]; exact hp52) (show S 27 j / 4 = r by rw [q]; exact hpr) hx.1
      have eg : gos S r x j ↔ nmd S r x j := ⟨fun z => z.1, fun z => ⟨z, fun w => hp52 (by rw [← q]; exact w.1)⟩⟩
      rw [c_chain q, f_X0_refundNaming_7, on_s, k6, k3', k4, k5, k1]
      have skip : ¬ nmd S r x j → ∃ C' acc', f_X0_refundNaming_7 n' (nI x) (nI acc) (lastT (S 27) p j) C = some (nI acc', C') ∧ RC (scr S r x (PP S base p 0)) C' ∧ acc' + cnt S r x (PP S base p (j + 1)) = acc + cnt S r x (PP S base p 0) := fun nn => by
        rw [← cnt_no hP' (fun z => nn z.1)]
        exact ih n' acc C (by omega) (by omega) (by rw [scr_no hP' nn]; exact hC)
      have go : nmd S r x j → ∃ C' acc', f_X0_refundNaming_42 (f_X0_refundNaming_7 n') (nI x) (nI acc) j C = some (nI acc', C') ∧ RC (scr S r x (PP S base p 0)) C' ∧ acc' + cnt S r x (PP S base p (j + 1)) = acc + cnt S r x (PP S base p 0) := fun nd => by
        have gg := eg.mpr nd
        have h2' : RC (scr S r x (PP S base p j)) (sI C 8 j 6 (2 : Int32)) := by
          rw [scr_go hP hP' hj gg]
          exact RC_st (t := j) (v := 2) hC (show S 18 (S 27 j) = 0 by rw [q]; exact hu)
        unfold f_X0_refundNaming_42
        simp only [lt_e]
        rw [rd_RI, k1, nI_1]
        obtain ⟨C', acc', x1, x2, x3⟩ := ih n' (acc + 1) (sI C 8 j 6 (2 : Int32)) (by omega) (by omega) h2'
        refine ⟨C', acc', x1, x2, ?_⟩
        have := cnt_go hP hP' hj gg
        omega
      by_cases s0 : S 30 j = 0
      · rw [if_pos ((nI_z (by omega)).mpr s0)]
        by_cases c0 : S 28 (3 * j) = x
        · rw [if_pos ((nI_e (by omega) (by omega)).mpr c0)]
          exact go (en.mpr ⟨s0, Or.inl c0⟩)
        · rw [if_neg (fun z => c0 ((nI_e (by omega) (by omega)).mp z))]
          by_cases c1 : S 28 (3 * j + 1) = x
          · rw [if_pos ((nI_e (by omega) (by omega)).mpr c1)]
            exact go (en.mpr ⟨s0, Or.inr (Or.inl c1)⟩)
          · rw [if_neg (fun z => c1 ((nI_e (by omega) (by omega)).mp z))]
            by_cases c2 : S 28 (3 * j + 2) = x
            · rw [if_pos ((nI_e (by omega) (by omega)).mpr c2)]
              exact go (en.mpr ⟨s0, Or.inr (Or.inr c2)⟩)
            · rw [if_neg (fun z => c2 ((nI_e (by omega) (by omega)).mp z))]
              exact skip (fun z => by
                rcases (en.mp z).2 with w | w | w
                · exact c0 w
                · exact c1 w
                · exact c2 w)
      · rw [if_neg (fun z => s0 ((nI_z (by omega)).mp z))]
        exact skip (fun z => s0 z.1)
    · rw [c_chainN q, PP_sk q]
      rw [PP_sk q] at hC
      exact ih n acc C (by omega) (by omega) hC
theorem c_movL {S : SV} {k r x : Nat} {base : Nat → Bool} (g1 : GA S) (g2 : GP S) (g3 : GT S k) (gs : ∀ P, GA (scr S r x P)) (hr : S 10 r ≠ 0) (hx : 1 ≤ x ∧ x < 25) (hp : S 15 52 = 1) (hu : S 18 52 = 0) (hb : ∀ t, S 27 t = 52 → base t = false) : ∀ j n acc C, j ≤ S 0 19 → j < n → RC (scr S r x (PP S base 52 j)) C → ∃ C' acc', f_X0_moveLegs_8 n 52 r (nI x) (nI acc) (lastT (S 27) 52 j) C = some (nI acc', C') ∧ RC (scr S r x (PP S base 52 0)) C' ∧ acc' + cnt S r x (PP S base 52 j) = acc + cnt S r x (PP S base 52 0) := by
  have hT := GT_T g3
  have hne := (g2.2.2.1 hp).2.2
  have h12 := g1.2.2.1 r
  have hl := GA_10 g1 r
  intro j
  induction j with
  | zero =>
    intro n acc C h1 h2 hC
    obtain ⟨n', rfl⟩ : ∃ n', n = n' + 1 := ⟨n - 1, by omega⟩
    rw [f_X0_moveLegs_8]
    exact ⟨C, acc, rfl, hC, rfl⟩
  | succ j ih =>
    intro n acc C h1 h2 hC
    have hj : j < S 0 19 := by omega
    by_cases q : S 27 j = 52
    · obtain ⟨n', rfl⟩ : ∃ n', n = n' + 1 := ⟨n - 1, by omega⟩
      have hP := PP_f (S := S) (base := base) (p := 52) (j := j) (hb j q)
      have hPt : ¬ PP S base 52 (j + 1) j = true := by rw [hP]; exact Bool.false_ne_true
      have hP' := PP_a (base := base) hj q
      have hg := GT_t g3 hj
      obtain ⟨-, k1, -, k3, k4, k5, k6⟩ := hC.2.2.2.1 j (show j < scr S r x (PP S base 52 (j + 1)) 0 19 from hj)
      have hrr := hC.2.1 r hr
      have k12 : mI C 4 r 6 = nI (S 12 r) := hrr.2.2.2.2.2.2.1
      have hpp := (hC.2.2.1 52 (show S 15 52 ≠ 0 by omega)).1
      have p1 : mR C 7 52 1 = some (S 0 17) := hpp.2.1
      have p2 : mR C 7 52 2 = some (S 0 18) := hpp.2.2.1
      rw [scr_30, if_neg (fun z => hPt z.1)] at k6
      have k3' : mI C 8 j 3 = nI (S 28 (3 * j)) := by
        rw [k3]
        have := scr_28j (S := S) (r := r) (n := x) (t := j) (P := PP S base 52 (j + 1)) (j := 0) (by omega)
        rw [if_neg (fun z => hPt z.1)] at this
        exact congrArg nI this
      rw [scr_28j (by omega), if_neg (fun z => hPt z.1)] at k4
      rw [scr_27, q] at k1
      have n1 : S 28 (3 * j) ≤ 24 := GT_n g3 g1 hj (j := 0) (by omega)
      have n2 := GT_n g3 g1 hj (j := 1) (by omega)
      have mm : mny (S 27 j) = 2 := by rw [q]; rfl
      have r0 : ro S (S 27 j) 0 = S 0 17 := by rw [q]; rfl
      have r1 : ro S (S 27 j) 1 = S 0 18 := by rw [q]; rfl
      have skip : ¬ nmd S r x j → ∃ C' acc', f_X0_moveLegs_8 n' 52 r (nI x) (nI acc) (lastT (S 27) 52 j) C = some (nI acc', C') ∧ RC (scr S r x (PP S base 52 0)) C' ∧ acc' + cnt S r x (PP S base 52 (j + 1)) = acc + cnt S r x (PP S base 52 0) := fun nn => by
        rw [← cnt_no hP' (fun z => nn z.1)]
        exact ih n' acc C (by omega) (by omega) (by rw [scr_no hP' nn]; exact hC)
      have e59 : f_X0_moveLegs_8 (n' + 1) 52 r (nI x) (nI acc) (some j) C = f_X0_moveLegs_59 (f_X0_moveLegs_8 n') 52 r (nI x) (nI acc) j (if S 0 17 = r ∧ S 28 (3 * j) = x then 1 else 0) (if S 0 18 = r ∧ S 28 (3 * j + 1) = x then 1 else 0) C := by
        have e35 : ∀ w, f_X0_moveLegs_35 (f_X0_moveLegs_8 n') 52 r (nI x) (nI acc) j w C = f_X0_moveLegs_59 (f_X0_moveLegs_8 n') 52 r (nI x) (nI acc) j w (if S 0 18 = r ∧ S 28 (3 * j + 1) = x then 1 else 0) C := fun w => by
          unfold f_X0_moveLegs_35 f_X0_moveLegs_58
          rw [p2, k4]
          by_cases a1 : S 0 18 = r
          · rw [if_pos (congrArg some a1.symm)]
            by_cases a2 : S 28 (3 * j + 1) = x
            · rw [if_pos ((nI_e (by omega) (by omega)).mpr a2), if_pos (c := S 0 18 = r ∧ S 28 (3 * j + 1) = x) ⟨a1, a2⟩]
            · rw [if_neg (fun z => a2 ((nI_e (by omega) (by omega)).mp z)), if_neg (c := S 0 18 = r ∧ S 28 (3 * j + 1) = x) (fun z => a2 z.2)]
          · rw [if_neg (fun z => a1 (Option.some.inj z).symm), if_neg (c := S 0 18 = r ∧ S 28 (3 * j + 1) = x) (fun z => a1 z.1)]
        rw [f_X0_moveLegs_8, on_s, p1, k3']
        unfold f_X0_moveLegs_34
        rw [e35, e35]
        by_cases a1 : S 0 17 = r
        · rw [if_pos (congrArg some a1.symm)]
          by_cases a2 : S 28 (3 * j) = x
          · rw [if_pos ((nI_e (by omega) (by omega)).mpr a2), if_pos (c := S 0 17 = r ∧ S 28 (3 * j) = x) ⟨a1, a2⟩]
          · rw [if_neg (fun z => a2 ((nI_e (by omega) (by omega)).mp z)), if_neg (c := S 0 17 = r ∧ S 28 (3 * j) = x) (fun z => a2 z.2)]
        · rw [if_neg (fun z => a1 (Option.some.inj z).symm), if_neg (c := S 0 17 = r ∧ S 28 (3 * j) = x) (fun z => a1 z.1)]
      rw [c_chain q, e59]
      unfold f_X0_moveLegs_59
      rw [k6, k1]
      by_cases s0 : S 30 j = 0
      · rw [if_pos ((nI_z (by omega)).mpr s0)]
        have emsb : rns (scr S r x (PP S base 52 (j + 1))) r (nI (S 12 r)) ↔ msb S r x := by
          show (1 ≤ (nI (S 12 r)).toInt ∧ (nI (S 12 r)).toInt ≤ (S 10 r : Int)) ∧ scr S r x (PP S base 52 (j + 1)) 13 (25 * r + (nI (S 12 r)).toNatClampNeg) = 0 ↔ _
          rw [nI_tI (by omega), nI_cl (by omega), scr_13]
          by_cases e : S 12 r = x
          · rw [if_pos (by rw [e])]
            exact ⟨fun z => by omega, fun z => absurd e z.2.1⟩
          · rw [if_neg (by omega)]
            exact ⟨fun z => ⟨by omega, e, z.2⟩, fun z => ⟨⟨by omega, by omega⟩, z.2.2⟩⟩
        have act : ∀ (i : Nat) (v5 : Int32), i < 2 → ((v5 = 0 ∧ i = 1) ∨ (v5 ≠ 0 ∧ i = 0)) → nm1 S r x j i → ∃ C' acc', f_X0_moveLegs_82 (f_X0_moveLegs_8 n') 52 r (nI x) (nI acc) j v5 C = some (nI acc', C') ∧ RC (scr S r x (PP S base 52 0)) C' ∧ acc' + cnt S r x (PP S base 52 (j + 1)) = acc + cnt S r x (PP S base 52 0) := fun i v5 hi hv nm => by
          have nd : nmd S r x j := by
            have : i = 0 ∨ i = 1 := by omega
            rcases this with rfl | rfl
            · exact ⟨s0, Or.inl nm⟩
            · exact ⟨s0, Or.inr (Or.inl nm)⟩
          unfold f_X0_moveLegs_82
          rw [k12, c_isRunning hrr (gs _)]
          simp only [ob_s, b1_if, lt_e]
          by_cases cm : msb S r x
          · rw [if_pos (emsb.mpr cm)]
            have mv : mvd S r x j i := ⟨s0, q, cm, nm⟩
            have ng : ¬ gos S r x j := fun z => z.2 ⟨q, cm⟩
            have h2' : RC (scr S r x (PP S base 52 j)) (sI C 8 j (3 + i) (nI (S 12 r))) := by
              rw [scr_mv hP hP' hne (by omega) mv]
              exact RC_mv hC (by omega) (show S 18 (S 27 j) = 0 by rw [q]; exact hu)
            rw [← cnt_no hP' ng]
            rcases hv with ⟨rfl, rfl⟩ | ⟨hv, rfl⟩
            · rw [if_pos rfl, rd_RI, k1]
              exact ih n' acc _ (by omega) (by omega) h2'
            · rw [if_neg hv, rd_RI, k1]
              exact ih n' acc _ (by omega) (by omega) h2'
          · rw [if_neg (fun z => cm (emsb.mp z)), rd_RI, k1, nI_1]
            have gg : gos S r x j := ⟨nd, fun z => cm z.2⟩
            have h2' : RC (scr S r x (PP S base 52 j)) (sI C 8 j 6 (2 : Int32)) := by
              rw [scr_go hP hP' hj gg]
              exact RC_st (t := j) (v := 2) hC (show S 18 (S 27 j) = 0 by rw [q]; exact hu)
            obtain ⟨C', acc', x1, x2, x3⟩ := ih n' (acc + 1) (sI C 8 j 6 (2 : Int32)) (by omega) (by omega) h2'
            refine ⟨C', acc', x1, x2, ?_⟩
            have := cnt_go hP hP' hj gg
            omega
        by_cases c0 : S 0 17 = r ∧ S 28 (3 * j) = x
        · rw [if_pos c0, if_neg (show ¬ (1 : Int32) = 0 from by decide)]
          exact act 0 1 (by omega) (Or.inr ⟨by decide, rfl⟩) ⟨by omega, r0.trans c0.1, c0.2⟩
        · rw [if_neg c0, if_pos rfl]
          by_cases c1 : S 0 18 = r ∧ S 28 (3 * j + 1) = x
          · rw [if_pos c1, if_neg (show ¬ (1 : Int32) = 0 from by decide)]
            exact act 1 0 (by omega) (Or.inl ⟨rfl, rfl⟩) ⟨by omega, r1.trans c1.1, c1.2⟩
          · rw [if_neg c1, if_pos rfl]
            refine skip ?_
            rintro ⟨-, z | z | z⟩
            · exact c0 ⟨r0.symm.trans z.2.1, z.2.2⟩
            · exact c1 ⟨r1.symm.trans z.2.1, z.2.2⟩
            · have := z.1; omega
      · rw [if_neg (fun z => s0 ((nI_z (by omega)).mp z))]
        exact skip (fun z => s0 z.1)
    · rw [c_chainN q, PP_sk q]
      rw [PP_sk q] at hC
      exact ih n acc C (by omega) (by omega) hC
