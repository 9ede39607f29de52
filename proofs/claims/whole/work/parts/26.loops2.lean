/-! ===== loops over the tickets that only read ===== -/
/-- what holds of a ticket, for short -/
theorem GT_t {S : SV} {k t : Nat} {TT : Prop} (g : GTx TT S k) (ht : t < S 0 19) : S 15 (S 27 t) = 1 ∧ 1 ≤ S 29 t ∧ S 29 t ≤ 1000 ∧ S 30 t ≤ 3 := by
  obtain ⟨a, b, c, d, -⟩ := g.2.2.1 t ht
  exact ⟨a, b, c, d⟩
theorem GT_p {S : SV} {k t : Nat} {TT : Prop} (g : GTx TT S k) {DD : Nat → Prop} {ZZ : Prop} (gp : GPx DD ZZ S) (ht : t < S 0 19) : S 27 t ≤ 52 := (gp.2.1 _ (GT_t g ht).1).1
theorem GT_T {S : SV} {k : Nat} {TT : Prop} (g : GTx TT S k) : S 0 19 ≤ 512 := Nat.le_trans g.1 g.2.1
theorem mny_le (p : Nat) : 1 ≤ mny p ∧ mny p ≤ 3 := by
  unfold mny
  split
  · omega
  · split <;> omega
theorem i_lt_3 {n : Nat} (h : n < 2 ^ 31) : nI n < (3 : Int32) ↔ n < 3 := nI_ltI (b := 3) h (by omega)
theorem i_lt_2 {n : Nat} (h : n < 2 ^ 31) : nI n < (2 : Int32) ↔ n < 2 := nI_ltI (b := 2) h (by omega)
theorem GT_n {S : SV} {k t j : Nat} {TT : Prop} (g : GTx TT S k) (ga : GA S) (ht : t < S 0 19) (hj : j < 3) : S 28 (3 * t + j) ≤ 24 := by
  have h := (g.2.2.1 t ht).2.2.2.2.1 j hj
  by_cases q : j < mny (S 27 t)
  · rw [if_pos q] at h
    have := GA_10 ga (ro S (S 27 t) j)
    omega
  · rw [if_neg q] at h
    omega
theorem m_isSame {S : SV} {R : Mm} {k t p : Nat} (h : RM S R) {TT : Prop} (g : GTx TT S k) (ga : GA S) {DD : Nat → Prop} {ZZ : Prop} (gp : GPx DD ZZ S) (ht : t < S 0 19) (hp : p ≤ 52) (a b c : Int32) : f_X4_isSame 0 (nI t) (nI p) a b c R = some (b1 (sameT S t p a b c)) := by
  have hT := GT_T g
  have n1 := GT_n g ga ht (j := 0) (by omega)
  have n2 := GT_n g ga ht (j := 1) (by omega)
  have n3 := GT_n g ga ht (j := 2) (by omega)
  have hpt := GT_p g gp ht
  unfold f_X4_isSame
  rw [RM_ref h 21, RM_ref h 20]
  simp only [ob_s, lt_e]
  rw [e31, e3, ix_n (by omega) (by omega), ix_n (by omega) (by omega), ix_n (by omega) (by omega), nI_cl (by omega), nI_cl (by omega), nI_cl (by omega), RM_I h 28, RM_I h 28, RM_I h 27]
  have hm := mny_le p
  have last : f_X4_isSame_78 R 0 (nI t) (nI p) c = some (b1 (mny p < 3 ∨ nI (S 28 (3 * t + 2)) = c)) := by
    unfold f_X4_isSame_78
    rw [m_many hp, ob_s]
    by_cases q : mny p < 3
    · rw [if_pos ((i_lt_3 (by omega)).mpr q), b1_t (Or.inl q)]
    · rw [if_neg (fun z => q ((i_lt_3 (by omega)).mp z)), RM_ref h 21, ob_s, e32, ix_n (by omega) (by omega), nI_cl (by omega), RM_I h 28]
      by_cases q2 : nI (S 28 (3 * t + 2)) = c
      · rw [if_pos q2, b1_t (Or.inr q2)]
      · rw [if_neg q2, b1_f (by rintro (z | z); exact q z; exact q2 z)]
  have rest : f_X4_isSame_57 R 0 (nI t) (nI p) a b c (nI (S 28 (3 * t))) (nI (S 28 (3 * t + 1))) = some (b1 (nI (S 28 (3 * t)) = a ∧ (mny p < 2 ∨ nI (S 28 (3 * t + 1)) = b) ∧ (mny p < 3 ∨ nI (S 28 (3 * t + 2)) = c))) := by
    unfold f_X4_isSame_57
    by_cases q : nI (S 28 (3 * t)) = a
    · rw [if_pos q, m_many hp, ob_s, last]
      by_cases q2 : mny p < 2
      · rw [if_pos ((i_lt_2 (by omega)).mpr q2)]
        exact congrArg some (b1_congr ⟨fun z => ⟨q, Or.inl q2, z⟩, fun z => z.2.2⟩)
      · rw [if_neg (fun z => q2 ((i_lt_2 (by omega)).mp z))]
        by_cases q3 : nI (S 28 (3 * t + 1)) = b
        · rw [if_pos q3]
          exact congrArg some (b1_congr ⟨fun z => ⟨q, Or.inr q3, z⟩, fun z => z.2.2⟩)
        · rw [if_neg q3, b1_f (fun z => by rcases z.2.1 with w | w; exact q2 w; exact q3 w)]
    · rw [if_neg q, b1_f (fun z => q z.1)]
  by_cases q : S 27 t = p
  · rw [if_pos ((nI_e (by omega) (by omega)).mpr q), m_kindOf hp, ob_s, rest]
    have hk := kd_le p
    by_cases q2 : kd p = 2
    · rw [if_pos ((nI_2e (by omega)).mpr q2)]
      by_cases q3 : nI (S 28 (3 * t)) = b ∧ nI (S 28 (3 * t + 1)) = a
      · rw [if_pos q3.1, if_pos q3.2, b1_t ⟨q, Or.inl ⟨q2, q3.1, q3.2⟩⟩]
      · have e : b1 (sameT S t p a b c) = b1 (nI (S 28 (3 * t)) = a ∧ (mny p < 2 ∨ nI (S 28 (3 * t + 1)) = b) ∧ (mny p < 3 ∨ nI (S 28 (3 * t + 2)) = c)) := b1_congr ⟨fun z => z.2.resolve_left (fun w => q3 w.2), fun z => ⟨q, Or.inr z⟩⟩
        rw [e]
        by_cases w : nI (S 28 (3 * t)) = b
        · rw [if_pos w, if_neg (fun z => q3 ⟨w, z⟩)]
        · rw [if_neg w]
    · rw [if_neg (fun z => q2 ((nI_2e (by omega)).mp z))]
      exact congrArg some (b1_congr ⟨fun z => ⟨q, Or.inr z⟩, fun z => z.2.resolve_left (fun w => q2 w.1)⟩)
  · rw [if_neg (fun z => q ((nI_e (by omega) (by omega)).mp z)), b1_f (fun z => q z.1)]
theorem sm_if_le {n : Nat} {f : Nat → Nat} {P : Nat → Prop} [DecidablePred P] (h : ∀ i, i < n → f i ≤ 1000) (hn : n ≤ 512) : sm n (fun t => if P t then f t else 0) ≤ 512000 := by
  have := sm_bound (n := n) (c := 1000) (f := fun t => if P t then f t else 0) (fun i hi => by
    show (if P i then f i else 0) ≤ 1000
    split
    · exact h i hi
    · omega)
  omega
theorem uo_le {S : SV} {k : Nat} {TT : Prop} (g : GTx TT S k) (p : Nat) (a b c : Int32) : uo S p a b c ≤ 512000 := by
  unfold uo
  exact sm_if_le (fun i hi => (GT_t g hi).2.2.1) (GT_T g)
theorem nI_i2l {n : Nat} (h : n < 2 ^ 31) : (nI n).toInt64 = lN n := nI_l h
theorem c_chain {S : SV} {p t : Nat} (h : S 27 t = p) : lastT (S 27) p (t + 1) = some t := by simp [lastT, h]
theorem c_chainN {S : SV} {p t : Nat} (h : ¬ S 27 t = p) : lastT (S 27) p (t + 1) = lastT (S 27) p t := by simp [lastT, h]
theorem m_unitsOn {S : SV} {R : Mm} {k p : Nat} (h : RM S R) {TT : Prop} (g : GTx TT S k) (ga : GA S) {DD : Nat → Prop} {ZZ : Prop} (gp : GPx DD ZZ S) (hp : p ≤ 52) (a b c : Int32) : f_X4_unitsOn 0 (nI p) a b c R = some (nI (uo S p a b c)) := by
  have hT := GT_T g
  have key : ∀ n j, j ≤ S 0 19 → S 0 19 < j + n → f_X4_unitsOn_6 R n 0 (nI p) a b c (nI (sm j (fun t => if cntT S t ∧ sameT S t p a b c then S 29 t else 0))) (nI j) = some (nI (uo S p a b c)) := by
    intro n
    induction n with
    | zero => intro j h1 h2; omega
    | succ n ih =>
      intro j h1 h2
      rw [f_X4_unitsOn_6, RM_T h]
      by_cases q : j = S 0 19
      · rw [if_pos ((i_le_n (by omega) (by omega)).mpr (by omega)), q]; rfl
      · have hj : j < S 0 19 := by omega
        rw [if_neg (fun z => by have := (i_le_n (by omega) (by omega)).mp z; omega), m_counts h (by omega) (GT_t g hj).2.2.2]
        simp only [ob_s, lt_e, b1_if]
        have key2 := ih (j + 1) (by omega) (by omega)
        simp only [sm] at key2
        by_cases q1 : cntT S j
        · rw [if_pos q1, m_isSame h g ga gp hj hp]
          simp only [ob_s, b1_if]
          by_cases q2 : sameT S j p a b c
          · rw [if_pos q2, RM_ref h 22]
            simp only [ob_s]
            rw [ix_n (by omega) (by omega), nI_cl (by omega), RM_I h 29, nI_add, nI_1]
            rw [if_pos ⟨q1, q2⟩] at key2
            exact key2
          · rw [if_neg q2, nI_a0, nI_1]
            rw [if_neg (fun z => q2 z.2)] at key2
            exact key2
        · rw [if_neg q1, nI_a0, nI_1]
          rw [if_neg (fun z => q1 z.1)] at key2
          exact key2
  unfold f_X4_unitsOn
  exact key FU 0 (by omega) (by show S 0 19 < 0 + 1000; omega)
theorem c_unitsOn {S : SV} {C : Mm} {k p : Nat} {EE : Nat → Prop} (h : RCx EE S C) {TT : Prop} (g : GTx TT S k) (hp : S 15 p = 1) (a b c : Int32) : f_X0_unitsOn p a b c C = some (lN (uo S p a b c)) := by
  have hT := GT_T g
  have hpp := (h.2.2.1 p (by omega)).1
  have key : ∀ t n acc, t ≤ S 0 19 → t < n → f_X0_unitsOn_9 C n p a b c (lN acc) (lastT (S 27) p t) = some (lN (acc + sm t (fun t => if cntT S t ∧ sameT S t p a b c then S 29 t else 0))) := by
    intro t
    induction t with
    | zero =>
      intro n acc h1 h2
      obtain ⟨n', rfl⟩ : ∃ n', n = n' + 1 := ⟨n - 1, by omega⟩
      rw [f_X0_unitsOn_9]
      rfl
    | succ t ih =>
      intro n acc h1 h2
      have ht : t < S 0 19 := by omega
      simp only [sm]
      by_cases q : S 27 t = p
      · obtain ⟨n', rfl⟩ : ∃ n', n = n' + 1 := ⟨n - 1, by omega⟩
        have hct := h.2.2.2.1 t ht
        have hg := GT_t g ht
        rw [c_chain q, f_X0_unitsOn_9, on_s, c_isLive hct hg.2.2.2]
        simp only [ob_s, b1_if, lt_e]
        rw [show mR C 8 t 1 = lastT (S 27) p t from by rw [hct.2.1, q]]
        by_cases q1 : cntT S t
        · rw [if_pos q1, c_isNamed hct hpp q]
          simp only [ob_s, b1_if]
          by_cases q2 : sameT S t p a b c
          · rw [if_pos q2, hct.2.2.1, nI_i2l (by omega), lN_add, ih n' _ (by omega) (by omega), if_pos ⟨q1, q2⟩]
            congr 2; omega
          · rw [if_neg q2, ih n' _ (by omega) (by omega), if_neg (fun z => q2 z.2), Nat.add_zero]
        · rw [if_neg q1, ih n' _ (by omega) (by omega), if_neg (fun z => q1 z.1), Nat.add_zero]
      · rw [c_chainN q, ih n acc (by omega) (by omega), if_neg (fun z => q z.2.1), Nat.add_zero]
  unfold f_X0_unitsOn
  rw [hpp.2.2.2.2.2.1]
  have := key (S 0 19) FU 0 (by omega) (by show S 0 19 < 1000; omega)
  rw [Nat.zero_add] at this
  exact this
/-- units of a pool's tickets that count -/
def lu (S : SV) (p : Nat) : Nat := sm (S 0 19) (fun t => if S 27 t = p ∧ cntT S t then S 29 t else 0)
theorem lu_le {S : SV} {k : Nat} {TT : Prop} (g : GTx TT S k) (p : Nat) : lu S p ≤ 512000 := by
  unfold lu
  exact sm_if_le (fun i hi => (GT_t g hi).2.2.1) (GT_T g)
theorem c_liveUnits {S : SV} {C : Mm} {k p : Nat} {EE : Nat → Prop} (h : RCx EE S C) {TT : Prop} (g : GTx TT S k) (hp : S 15 p = 1) : f_X0_liveUnits p C = some (lN (lu S p)) := by
  have hT := GT_T g
  have hpp := (h.2.2.1 p (by omega)).1
  have key : ∀ t n acc, t ≤ S 0 19 → t < n → f_X0_liveUnits_7 C n (lN acc) (lastT (S 27) p t) = some (lN (acc + sm t (fun t => if S 27 t = p ∧ cntT S t then S 29 t else 0))) := by
    intro t
    induction t with
    | zero =>
      intro n acc h1 h2
      obtain ⟨n', rfl⟩ : ∃ n', n = n' + 1 := ⟨n - 1, by omega⟩
      rw [f_X0_liveUnits_7]
      rfl
    | succ t ih =>
      intro n acc h1 h2
      have ht : t < S 0 19 := by omega
      simp only [sm]
      by_cases q : S 27 t = p
      · obtain ⟨n', rfl⟩ : ∃ n', n = n' + 1 := ⟨n - 1, by omega⟩
        have hct := h.2.2.2.1 t ht
        have hg := GT_t g ht
        rw [c_chain q, f_X0_liveUnits_7, on_s, c_isLive hct hg.2.2.2]
        simp only [ob_s, b1_if, lt_e]
        rw [show mR C 8 t 1 = lastT (S 27) p t from by rw [hct.2.1, q]]
        by_cases q1 : cntT S t
        · rw [if_pos q1, hct.2.2.1, nI_i2l (by omega), lN_add, ih n' _ (by omega) (by omega), if_pos ⟨q, q1⟩]
          congr 2; omega
        · rw [if_neg q1, ih n' _ (by omega) (by omega), if_neg (fun z => q1 z.2), Nat.add_zero]
      · rw [c_chainN q, ih n acc (by omega) (by omega), if_neg (fun z => q z.1), Nat.add_zero]
  unfold f_X0_liveUnits
  rw [hpp.2.2.2.2.2.1]
  have := key (S 0 19) FU 0 (by omega) (by show S 0 19 < 1000; omega)
  rw [Nat.zero_add] at this
  exact this
theorem m_unitsIn {S : SV} {R : Mm} {k p : Nat} (h : RM S R) {TT : Prop} (g : GTx TT S k) {DD : Nat → Prop} {ZZ : Prop} (gp : GPx DD ZZ S) (hp : p ≤ 52) : f_X4_unitsIn 0 (nI p) R = some (nI (lu S p)) := by
  have hT := GT_T g
  have key : ∀ n j, j ≤ S 0 19 → S 0 19 < j + n → f_X4_unitsIn_4 R n 0 (nI p) (nI (sm j (fun t => if S 27 t = p ∧ cntT S t then S 29 t else 0))) (nI j) = some (nI (lu S p)) := by
    intro n
    induction n with
    | zero => intro j h1 h2; omega
    | succ n ih =>
      intro j h1 h2
      rw [f_X4_unitsIn_4, RM_T h]
      by_cases q : j = S 0 19
      · rw [if_pos ((i_le_n (by omega) (by omega)).mpr (by omega)), q]; rfl
      · have hj : j < S 0 19 := by omega
        have hpt := GT_p g gp hj
        rw [if_neg (fun z => by have := (i_le_n (by omega) (by omega)).mp z; omega), RM_ref h 20]
        simp only [ob_s, lt_e]
        rw [ix_n (by omega) (by omega), nI_cl (by omega), RM_I h 27]
        have key2 := ih (j + 1) (by omega) (by omega)
        simp only [sm] at key2
        by_cases q1 : S 27 j = p
        · rw [if_pos ((nI_e (by omega) (by omega)).mpr q1), m_counts h (by omega) (GT_t g hj).2.2.2]
          simp only [ob_s, b1_if]
          by_cases q2 : cntT S j
          · rw [if_pos q2, RM_ref h 22]
            simp only [ob_s]
            rw [ix_n (by omega) (by omega), RM_I h 29, nI_add, nI_1]
            rw [if_pos ⟨q1, q2⟩] at key2
            exact key2
          · rw [if_neg q2, nI_a0, nI_1]
            rw [if_neg (fun z => q2 z.2)] at key2
            exact key2
        · rw [if_neg (fun z => q1 ((nI_e (by omega) (by omega)).mp z)), nI_a0, nI_1]
          rw [if_neg (fun z => q1 z.1)] at key2
          exact key2
  unfold f_X4_unitsIn
  exact key FU 0 (by omega) (by show S 0 19 < 0 + 1000; omega)
