/-! ===== official: a pool that is settled: its books ===== -/
def stl (S : SV) (p d k e u b h o : Nat) (f : Nat → Nat) : SV := fun s i =>
  if s = 31 then f i else
  if s = 18 then (if i = p then d else S 18 i) else
  if s = 26 then (if i = p then k else S 26 i) else
  if s = 19 then (if i = p then e else S 19 i) else
  if s = 20 then (if i = p then u else S 20 i) else
  if s = 21 then (if i = p then b else S 21 i) else
  if s = 22 then (if i = p then h else S 22 i) else
  if s = 23 then (if i = p then o else S 23 i) else S s i
theorem stl_0 {S : SV} {p : Nat} : stl S p (S 18 p) (S 26 p) (S 19 p) (S 20 p) (S 21 p) (S 22 p) (S 23 p) (S 31) = S := by
  funext s i
  unfold stl
  split
  · rename_i e; rw [e]
  · split
    · rename_i e; rw [e]; split
      · rename_i e2; rw [e2]
      · rfl
    · split
      · rename_i e; rw [e]; split
        · rename_i e2; rw [e2]
        · rfl
      · split
        · rename_i e; rw [e]; split
          · rename_i e2; rw [e2]
          · rfl
        · split
          · rename_i e; rw [e]; split
            · rename_i e2; rw [e2]
            · rfl
          · split
            · rename_i e; rw [e]; split
              · rename_i e2; rw [e2]
              · rfl
            · split
              · rename_i e; rw [e]; split
                · rename_i e2; rw [e2]
                · rfl
              · split
                · rename_i e; rw [e]; split
                  · rename_i e2; rw [e2]
                  · rfl
                · rfl
theorem stl_18 {S : SV} {p d k e u b h o v : Nat} {f : Nat → Nat} : up (stl S p d k e u b h o f) 18 p v = stl S p v k e u b h o f := by
  funext s i
  unfold up stl
  by_cases c : s = 18
  · subst c; by_cases q : i = p <;> simp [q]
  · simp [c]
theorem stl_26 {S : SV} {p d k e u b h o v : Nat} {f : Nat → Nat} : up (stl S p d k e u b h o f) 26 p v = stl S p d v e u b h o f := by
  funext s i
  unfold up stl
  by_cases c : s = 26
  · subst c; by_cases q : i = p <;> simp [q]
  · simp [c]
theorem stl_19 {S : SV} {p d k e u b h o v : Nat} {f : Nat → Nat} : up (stl S p d k e u b h o f) 19 p v = stl S p d k v u b h o f := by
  funext s i
  unfold up stl
  by_cases c : s = 19
  · subst c; by_cases q : i = p <;> simp [q]
  · simp [c]
theorem stl_20 {S : SV} {p d k e u b h o v : Nat} {f : Nat → Nat} : up (stl S p d k e u b h o f) 20 p v = stl S p d k e v b h o f := by
  funext s i
  unfold up stl
  by_cases c : s = 20
  · subst c; by_cases q : i = p <;> simp [q]
  · simp [c]
theorem stl_21 {S : SV} {p d k e u b h o v : Nat} {f : Nat → Nat} : up (stl S p d k e u b h o f) 21 p v = stl S p d k e u v h o f := by
  funext s i
  unfold up stl
  by_cases c : s = 21
  · subst c; by_cases q : i = p <;> simp [q]
  · simp [c]
theorem stl_22 {S : SV} {p d k e u b h o v : Nat} {f : Nat → Nat} : up (stl S p d k e u b h o f) 22 p v = stl S p d k e u b v o f := by
  funext s i
  unfold up stl
  by_cases c : s = 22
  · subst c; by_cases q : i = p <;> simp [q]
  · simp [c]
theorem stl_23 {S : SV} {p d k e u b h o v : Nat} {f : Nat → Nat} : up (stl S p d k e u b h o f) 23 p v = stl S p d k e u b h v f := by
  funext s i
  unfold up stl
  by_cases c : s = 23
  · subst c; by_cases q : i = p <;> simp [q]
  · simp [c]
theorem stl_31 {S : SV} {p d k e u b h o t v : Nat} {f : Nat → Nat} : up (stl S p d k e u b h o f) 31 t v = stl S p d k e u b h o (fun i => if i = t then v else f i) := by
  funext s i
  unfold up stl
  by_cases c : s = 31
  · subst c; by_cases q : i = t <;> simp [q]
  · simp [c]
/-- the books of the pool itself, before it -/
abbrev Z0 (S : SV) (p : Nat) : Prop := S 18 p = 0 ∧ S 26 p = 0 ∧ S 19 p = 0 ∧ S 20 p = 0 ∧ S 21 p = 0 ∧ S 22 p = 0 ∧ S 23 p = 0
theorem stl_z {S : SV} {p : Nat} (h : Z0 S p) : S = stl S p 0 0 0 0 0 0 0 (S 31) := by
  obtain ⟨h1, h2, h3, h4, h5, h6, h7⟩ := h
  have e := stl_0 (S := S) (p := p)
  rw [h1, h2, h3, h4, h5, h6, h7] at e
  exact e.symm
theorem Z0_of {S : SV} {p : Nat} (g2 : GQ S) (hu : S 18 p = 0) : Z0 S p := by
  obtain ⟨a1, a2, a3, a4, a5, a6, a7⟩ := g2.2.2.2.2.2 p hu
  exact ⟨hu, a7, a1, a2, a3, a4, a5⟩
theorem stl_GP {S : SV} {p d k e u b h o : Nat} {f : Nat → Nat} {DD : Nat → Prop} {ZZ : Prop} (g2 : GPx DD ZZ S) (hp : S 15 p = 1) (hd : d ≤ 2) : GPx (fun q => stl S p d k e u b h o f 18 q ≠ 0) True (stl S p d k e u b h o f) := by
  refine ⟨g2.1, fun q hq => ?_, g2.2.2.1, g2.2.2.2.1, fun q hq => ?_, trivial⟩
  · obtain ⟨a1, a2, a3, a4, a5, a6, a7, -⟩ := g2.2.1 q hq
    refine ⟨a1, a2, a3, a4, a5, a6, ?_, ⟨fun z => fun w => w z, fun z => Decidable.byContradiction z⟩⟩
    show (if q = p then d else S 18 q) ≤ 2
    split
    · exact hd
    · exact a7
  · have hq' : S 15 q = 0 := hq
    have e : q ≠ p := fun e => by rw [e] at hq'; omega
    show (if q = p then d else S 18 q) = 0 ∧ S 24 q = 0
    rw [if_neg e]
    exact g2.2.2.2.2.1 q hq
theorem stl_inv {S : SV} {kk p B k e u b h o : Nat} {f : Nat → Nat} (g1 : GA S) (g2 : GQ S) (g3 : GT S kk) (g4 : GMb B S) (g5 : GO S) (hp : S 15 p = 1) (hu : S 18 p = 0) (hk : k ≤ 512) (hf : ∀ t, (S 0 19 ≤ t ∨ S 27 t ≠ p) → f t = S 31 t) : GA (stl S p 1 k e u b h o f) ∧ GQ (stl S p 1 k e u b h o f) ∧ GT (stl S p 1 k e u b h o f) kk ∧ GMb B (stl S p 1 k e u b h o f) ∧ GO (stl S p 1 k e u b h o f) := by
  have s18 : ∀ q, q ≠ p → stl S p 1 k e u b h o f 18 q = S 18 q := fun q hq => if_neg hq
  have s18p : stl S p 1 k e u b h o f 18 p = 1 := if_pos rfl
  refine ⟨g1, ?_, ?_, ?_, g5⟩
  · obtain ⟨x1, x2, x3, x4, x5, -⟩ := stl_GP (k := k) (e := e) (u := u) (b := b) (h := h) (o := o) (f := f) g2 hp (show 1 ≤ 2 by omega)
    refine ⟨x1, x2, x3, x4, x5, fun q hq => ?_⟩
    by_cases e : q = p
    · rw [e, s18p] at hq; omega
    · rw [s18 q e] at hq
      have := g2.2.2.2.2.2 q hq
      show (if q = p then _ else S 19 q) = 0 ∧ (if q = p then _ else S 20 q) = 0 ∧ (if q = p then _ else S 21 q) = 0 ∧ (if q = p then _ else S 22 q) = 0 ∧ (if q = p then _ else S 23 q) = 0 ∧ S 25 q = 0 ∧ (if q = p then _ else S 26 q) = 0
      rw [if_neg e, if_neg e, if_neg e, if_neg e, if_neg e, if_neg e]
      exact this
  · obtain ⟨t1, t2, t3, t4, t5, t6⟩ := g3
    refine ⟨t1, t2, t3, fun t ht => ?_, fun t ht h3 => ?_, fun t ht h2 => ?_⟩
    · show f t = 0
      rcases ht with w | w
      · rw [hf t (Or.inl w)]; exact t4 t (Or.inl w)
      · have w' : stl S p 1 k e u b h o f 18 (S 27 t) = 0 := w
        by_cases e : S 27 t = p
        · rw [e, s18p] at w'; omega
        · rw [s18 _ e] at w'
          rw [hf t (Or.inr e)]; exact t4 t (Or.inr w')
    · show stl S p 1 k e u b h o f 18 (S 27 t) = 1
      have h0 := t5 t ht h3
      by_cases e : S 27 t = p
      · rw [e, s18p]
      · rw [s18 _ e]; exact h0
    · have h2' : stl S p 1 k e u b h o f 18 (S 27 t) = 2 := h2
      by_cases e : S 27 t = p
      · rw [e, s18p] at h2'; omega
      · rw [s18 _ e] at h2'
        exact t6 t ht h2'
  · obtain ⟨m1, m2, m3, m4⟩ := g4
    refine ⟨m1, m2, m3, fun q => ?_⟩
    show (if q = p then k else S 26 q) ≤ 512
    split
    · exact hk
    · exact m4 q
theorem RC_stl {S : SV} {C C' : Mm} {p N W k e u b h o : Nat} {f : Nat → Nat} {EE : Nat → Prop} (hC : RC S C) (h' : RCx EE (stl S p 1 k e u b h o f) C') (h8 : mJ C' 7 p 8 = lN W) (h9 : mJ C' 7 p 9 = lN N) (hN : N < 2 ^ 50) (hW : W < 2 ^ 30) (hq : ∀ q, q ≠ p → mJ C' 7 q 8 = mJ C 7 q 8 ∧ mJ C' 7 q 9 = mJ C 7 q 9) (hf : ∀ t, t < S 0 19 → S 27 t = p → cntT S t → f t = if wnT S t then dvd (kd p) (S 17 p) N k W (uoT S t) else 0) (hf' : ∀ t, S 27 t ≠ p → f t = S 31 t) : RC (stl S p 1 k e u b h o f) C' := by
  refine RCx_fin h' (fun q hq0 => ?_)
  by_cases c : q = p
  · subst c
    have s18p : stl S q 1 k e u b h o f 18 q = 1 := if_pos rfl
    have s26p : stl S q 1 k e u b h o f 26 q = k := if_pos rfl
    refine ⟨fun z => by rw [s18p] at z; omega, fun _ => ⟨N, W, hN, hW, h8, h9, fun t ht h27 hc => ?_⟩⟩
    rw [s26p]
    exact hf t ht h27 hc
  · obtain ⟨e8, e9⟩ := hq q c
    have s18 : stl S p 1 k e u b h o f 18 q = S 18 q := if_neg c
    have s26 : stl S p 1 k e u b h o f 26 q = S 26 q := if_neg c
    exact RCd_congr (S := S) (C := C) (hC.2.2.1 q hq0).2 e8 e9 s18 rfl s26 rfl (fun _ _ => rfl) (fun _ t _ h27 => ⟨rfl, rfl, rfl, rfl, rfl, hf' t (by rw [h27]; exact c)⟩) (fun _ _ _ _ => Iff.rfl)
/-- no winners: no units on them -/
theorem wk_0 {S : SV} {kk p : Nat} (g1 : GA S) {TT : Prop} (g : GTx TT S kk) (h : wk S p = 0) : ∀ t, t < S 0 19 → ¬ win S p t := fun t ht w => by
  have := wk_pos g1 g ht w
  omega
theorem wu_0 {S : SV} {kk p : Nat} (g1 : GA S) {TT : Prop} (g : GTx TT S kk) (h : wk S p = 0) : wu S p = 0 := sm_zero (fun t ht => if_neg (wk_0 g1 g h t ht))
theorem net_le2 {S : SV} {kk p B : Nat} {TT : Prop} (g : GTx TT S kk) (h17 : S 17 p ≤ 1000) (h24 : S 24 p ≤ B) : net S p ≤ 512000000 + B := by
  have := stake_le g h17
  unfold net
  omega
/-- what a winner's dividend is, and what is due -/
abbrev dvW (S : SV) (p t : Nat) : Nat := dvd (kd p) (S 17 p) (net S p) (wk S p) (wu S p) (uoT S t)
def f31 (S : SV) (p j : Nat) : Nat → Nat := fun i => if i < j ∧ win S p i then dvW S p i else S 31 i
def dueN (S : SV) (p j : Nat) : Nat := sm j (fun t => if win S p t then S 29 t * dvW S p t else 0)
theorem f31_s {S : SV} {p j : Nat} (h : win S p j) : f31 S p (j + 1) = fun i => if i = j then dvW S p j else f31 S p j i := by
  funext i
  unfold f31
  by_cases e : i = j
  · rw [if_pos e, e, if_pos ⟨by omega, h⟩]
  · rw [if_neg e]
    by_cases w : i < j ∧ win S p i
    · rw [if_pos w, if_pos ⟨by omega, w.2⟩]
    · rw [if_neg w, if_neg (fun z => w ⟨by omega, z.2⟩)]
theorem f31_n {S : SV} {p j : Nat} (h : ¬ win S p j) : f31 S p (j + 1) = f31 S p j := by
  funext i
  unfold f31
  by_cases w : i < j ∧ win S p i
  · rw [if_pos w, if_pos ⟨by omega, w.2⟩]
  · rw [if_neg w, if_neg]
    intro z
    by_cases e : i = j
    · rw [e] at z; exact h z.2
    · exact w ⟨by omega, z.2⟩
theorem f31_0 {S : SV} {p : Nat} : f31 S p 0 = S 31 := funext (fun i => if_neg (fun z => absurd z.1 (Nat.not_lt_zero i)))
theorem due_dueS {S : SV} {p : Nat} : dueN S p (S 0 19) = dueS S p (net S p) (wk S p) (wu S p) := rfl
theorem m_unitsAs {S : SV} {R : Mm} {k t : Nat} (h : RM S R) (g1 : GA S) {DD : Nat → Prop} {ZZ : Prop} (g2 : GPx DD ZZ S) {TT : Prop} (g : GTx TT S k) (ht : t < S 0 19) : f_X4_unitsAs 0 (nI t) R = some (nI (uoT S t)) := by
  have hT := GT_T g
  have hpt := GT_p g g2 ht
  unfold f_X4_unitsAs
  rw [RM_ref h 20, RM_ref h 21]
  simp only [ob_s]
  rw [e31, e32, e3, ix_n (by omega) (by omega), ix_n (by omega) (by omega), ix_n (by omega) (by omega), ix_n (by omega) (by omega), nI_cl (by omega), nI_cl (by omega), nI_cl (by omega), nI_cl (by omega), RM_I h 27, RM_I h 28, RM_I h 28, RM_I h 28, m_unitsOn h g g1 g2 hpt]
  simp only [ob_s]
/-- the model's loop over the winning tickets -/
theorem m_283 {S : SV} {M : Mm} {p e b h o kk : Nat} {f : Nat → Nat} {N D : Nat} (hM : RM (stl S p 1 kk e D b h o f) M) (hp : p ≤ 52) (h30 : mJ M 0 0 30 = lN N) (hN : N < 2 ^ 60) (hD : D < 2 ^ 60) : ∃ R', f_X4_settles_283 0 (nI p) (lN (D - N)) (nI p) (mR M 0 0 12) M = some ((1 : Int32), R') ∧ RM (stl S p 1 kk e D (N - D) (D - N) o f) R' := by
  have hM1 : RM (stl S p 1 kk e D b (D - N) o f) (sJ M 22 0 p (lN (D - N))) := by
    rw [← stl_22 (h := h)]
    exact RM_sJ hM (by omega)
  have hM2 : RM (stl S p 1 kk e D (N - D) (D - N) o f) (sJ (sJ M 22 0 p (lN (D - N))) 21 0 p (lN (N - D))) := by
    rw [← stl_21 (b := b)]
    exact RM_sJ hM1 (by omega)
  have e20 : mJ (sJ M 22 0 p (lN (D - N))) 20 0 p = lN D := by
    rw [RM_J hM1 20]
    exact congrArg lN (if_pos rfl)
  have e30 : mJ (sJ M 22 0 p (lN (D - N))) 0 0 30 = lN N := by
    rw [rd_J, if_neg (by omega)]; exact h30
  unfold f_X4_settles_283
  rw [RM_ref hM 12]
  simp only [ob_s, lt_e]
  rw [ix_n (by omega) (by omega), nI_cl (by omega), RM_ref hM1 10, RM_ref hM1 11]
  simp only [ob_s]
  have hc : lg_cmp (lN D) (lN N) ≤ 0 ↔ D ≤ N := by rw [lg_cmp_le, L_le (by omega) (by omega)]
  rw [ix_n (by omega) (by omega), e20, e30]
  by_cases q : D ≤ N
  · rw [if_pos (hc.mpr q), ix_n (by omega) (by omega), ix_n (by omega) (by omega), L_sub q]
    exact ⟨_, rfl, hM2⟩
  · rw [if_neg (fun z => q (hc.mp z)), ix_n (by omega) (by omega)]
    have e0 : N - D = 0 := by omega
    rw [e0] at hM2
    refine ⟨_, rfl, ?_⟩
    rw [e0]
    exact hM2
theorem m_159 {S : SV} {k p e b h o : Nat} (g1 : GA S) {DD : Nat → Prop} {ZZ : Prop} (g2 : GPx DD ZZ S) {TT : Prop} (g : GTx TT S k) (hp : S 15 p = 1) (ho : GOr S (ro S p 0)) (hk0 : wk S p ≠ 0) (hN : net S p < 2 ^ 50) (hD : dueN S p (S 0 19) < 2 ^ 60) : ∀ n j M, j ≤ S 0 19 → S 0 19 < j + n → RM (stl S p 1 (wk S p) e (dueN S p j) b h o (f31 S p j)) M → mI M 0 0 28 = nI (wk S p) → mI M 0 0 29 = nI (wu S p) → mJ M 0 0 30 = lN (net S p) → ∃ R', f_X4_settles_159 n 0 (nI p) (nI j) M = some ((1 : Int32), R') ∧ RM (stl S p 1 (wk S p) e (dueN S p (S 0 19)) (net S p - dueN S p (S 0 19)) (dueN S p (S 0 19) - net S p) o (f31 S p (S 0 19))) R' := by
  have hT := GT_T g
  have hwk := wk_le g p
  have hwu := wu_le g p
  obtain ⟨p1, -, -, -, a5, -⟩ := g2.2.1 p hp
  intro n
  induction n with
  | zero => intro j M h1 h2; omega
  | succ n ih =>
    intro j M h1 h2 hM h28 h29 h30
    have hT0 : mI M 0 0 19 = nI (S 0 19) := (RM_T hM).trans rfl
    rw [f_X4_settles_159, hT0]
    by_cases q : j = S 0 19
    · subst q
      rw [if_pos ((i_le_n (by omega) (by omega)).mpr (by omega)), RM_ref hM 10]
      simp only [ob_s]
      have e20 : mJ M 20 0 p = lN (dueN S p (S 0 19)) := by
        rw [RM_J hM 20]
        exact congrArg lN (if_pos rfl)
      rw [ix_n (by omega) (by omega), ix_n (by omega) (by omega), nI_cl (by omega), e20, h30]
      have hh := m_283 hM p1 h30 (by omega) hD
      have hc : lg_cmp (lN (dueN S p (S 0 19))) (lN (net S p)) ≤ 0 ↔ dueN S p (S 0 19) ≤ net S p := by rw [lg_cmp_le, L_le (by omega) (by omega)]
      by_cases q2 : dueN S p (S 0 19) ≤ net S p
      · rw [if_pos (hc.mpr q2)]
        have e0 : dueN S p (S 0 19) - net S p = 0 := by omega
        rw [e0] at hh ⊢
        exact hh
      · rw [if_neg (fun z => q2 (hc.mp z)), L_sub (by omega)]
        exact hh
    · have hj : j < S 0 19 := by omega
      have hg := GT_t g hj
      have hpt := GT_p g g2 hj
      have gj : GTx TT (stl S p 1 (wk S p) e (dueN S p j) b h o (f31 S p j)) k := g
      have g1j : GA (stl S p 1 (wk S p) e (dueN S p j) b h o (f31 S p j)) := g1
      have g2j := stl_GP (k := wk S p) (e := e) (u := dueN S p j) (b := b) (h := h) (o := o) (f := f31 S p j) g2 hp (show 1 ≤ 2 by omega)
      have e27 : mI M 27 0 j = nI (S 27 j) := (RM_I hM 27 j).trans rfl
      rw [if_neg (fun z => by have := (i_le_n (by omega) (by omega)).mp z; omega), RM_ref hM 20]
      simp only [ob_s, lt_e]
      rw [ix_n (by omega) (by omega), nI_cl (by omega), e27, nI_1]
      have skip : ¬ win S p j → ∃ R', f_X4_settles_159 n 0 (nI p) (nI (j + 1)) M = some ((1 : Int32), R') ∧ RM (stl S p 1 (wk S p) e (dueN S p (S 0 19)) (net S p - dueN S p (S 0 19)) (dueN S p (S 0 19) - net S p) o (f31 S p (S 0 19))) R' := fun nn => by
        refine ih (j + 1) M (by omega) (by omega) ?_ h28 h29 h30
        rw [f31_n nn, show dueN S p (j + 1) = dueN S p j from by
          show dueN S p j + (if win S p j then S 29 j * dvW S p j else 0) = _
          rw [if_neg nn, Nat.add_zero]]
        exact hM
      by_cases q1 : S 27 j = p
      · rw [if_pos ((nI_e (by omega) (by omega)).mpr q1)]
        have ec : f_X4_counts 0 (nI j) M = some (b1 (cntT S j)) := (m_counts hM (by omega) hg.2.2.2).trans rfl
        rw [ec]
        simp only [ob_s, b1_if]
        by_cases q2 : cntT S j
        · rw [if_pos q2]
          have eh : f_X4_holds 0 (nI j) M = some (b1 (wnT S j)) := (m_holds hM g1j g2j gj hj (show GOr S (ro S (S 27 j) 0) by rw [q1]; exact ho)).trans rfl
          rw [eh]
          simp only [ob_s, b1_if]
          by_cases q3 : wnT S j
          · have hw : win S p j := ⟨q1, q2, q3⟩
            have eu : f_X4_unitsAs 0 (nI j) M = some (nI (uoT S j)) := (m_unitsAs hM g1j g2j gj hj).trans rfl
            have u1 : 1 ≤ uoT S j := uo_pos hj hg.2.1 q2 same_self
            have u2 : uoT S j ≤ 512000 := uo_le g _ _ _ _
            have ed : f_X4_dividendOf 0 (nI p) (nI (uoT S j)) M = some (lN (dvW S p j)) := (m_dividendOf hM p1 a5 hN (by omega) (by omega) (by omega) (by omega) (by omega) h28 h29 h30).trans rfl
            rw [if_pos q3, eu]
            simp only [ob_s]
            rw [ed]
            simp only [ob_s]
            rw [RM_ref hM 24]
            simp only [ob_s]
            have hM1 : RM (up (stl S p 1 (wk S p) e (dueN S p j) b h o (f31 S p j)) 31 j (dvW S p j)) (sJ M 31 0 j (lN (dvW S p j))) := RM_sJ hM (by omega)
            have e20 : mJ (sJ M 31 0 j (lN (dvW S p j))) 20 0 p = lN (dueN S p j) := by
              rw [RM_J hM1 20]
              exact congrArg lN (if_pos rfl)
            have e31' : mJ (sJ M 31 0 j (lN (dvW S p j))) 31 0 j = lN (dvW S p j) := by
              rw [rd_J, if_pos ⟨rfl, rfl, rfl⟩]
            have e29 : mI (sJ M 31 0 j (lN (dvW S p j))) 29 0 j = nI (S 29 j) := (RM_I hM1 29 j).trans rfl
            rw [ix_n (by omega) (by omega), RM_ref hM1 10, RM_ref hM1 24, RM_ref hM1 22]
            simp only [ob_s]
            rw [ix_n (by omega) (by omega), ix_n (by omega) (by omega), ix_n (by omega) (by omega), ix_n (by omega) (by omega), nI_cl (by omega), e20, e31', e29, nI_i2l (by omega), lN_mul, lN_add]
            have hM2 : RM (stl S p 1 (wk S p) e (dueN S p (j + 1)) b h o (f31 S p (j + 1))) (sJ (sJ M 31 0 j (lN (dvW S p j))) 20 0 p (lN (dueN S p j + dvW S p j * S 29 j))) := by
              have := RM_sJ hM1 (s := 20) (i := p) (v := dueN S p j + dvW S p j * S 29 j) (by omega)
              rw [stl_31, stl_20] at this
              rw [f31_s hw, show dueN S p (j + 1) = dueN S p j + dvW S p j * S 29 j from by
                show dueN S p j + (if win S p j then S 29 j * dvW S p j else 0) = _
                rw [if_pos hw, Nat.mul_comm]]
              exact this
            refine ih (j + 1) _ (by omega) (by omega) hM2 ?_ ?_ ?_
            · rw [rd_IJ, rd_IJ]; exact h28
            · rw [rd_IJ, rd_IJ]; exact h29
            · rw [rd_J, if_neg (by omega), rd_J, if_neg (by omega)]; exact h30
          · rw [if_neg q3]
            exact skip (fun z => q3 z.2.2)
        · rw [if_neg q2]
          exact skip (fun z => q2 z.2.1)
      · rw [if_neg (fun z => q1 ((nI_e (by omega) (by omega)).mp z))]
        exact skip (fun z => q1 z.1)
