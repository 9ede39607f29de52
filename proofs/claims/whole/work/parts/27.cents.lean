/-! ===== cents: what tickets cost; the calls sum, ticket, look, count ===== -/
theorem GT_c {S : SV} {k t : Nat} {TT : Prop} (g : GTx TT S k) {DD : Nat → Prop} {ZZ : Prop} (gp : GPx DD ZZ S) (ht : t < S 0 19) : cost S t ≤ 1000000 := by
  have h := GT_t g ht
  have h2 := (gp.2.1 _ h.1).2.2.2.2.1
  unfold cost
  calc S 29 t * S 17 (S 27 t) ≤ 1000 * 1000 := Nat.mul_le_mul h.2.2.1 h2
    _ = 1000000 := rfl
theorem sm_cost {S : SV} {k : Nat} {TT : Prop} (g : GTx TT S k) {DD : Nat → Prop} {ZZ : Prop} (gp : GPx DD ZZ S) {n : Nat} (hn : n ≤ S 0 19) {P : Nat → Prop} [DecidablePred P] : sm n (fun t => if P t then cost S t else 0) ≤ 512000000 := by
  have hT := GT_T g
  have := sm_bound (n := n) (c := 1000000) (f := fun t => if P t then cost S t else 0) (fun i hi => by
    show (if P i then cost S i else 0) ≤ 1000000
    split
    · exact GT_c g gp (by omega)
    · omega)
  omega
theorem c_cost {S : SV} {C : Mm} {k t : Nat} {EE : Nat → Prop} (h : RCx EE S C) {TT : Prop} (g : GTx TT S k) {DD : Nat → Prop} {ZZ : Prop} (gp : GPx DD ZZ S) (ht : t < S 0 19) : f_X2_cost t C = some (lN (cost S t)) := by
  have hc := h.2.2.2.1 t ht
  have hg := GT_t g ht
  have hp := (h.2.2.1 _ (show S 15 (S 27 t) ≠ 0 by omega)).1
  have h17 := (gp.2.1 _ hg.1).2.2.2.2.1
  unfold f_X2_cost
  rw [hc.1, ob_s, hc.2.2.1, hp.2.2.2.2.1, nI_i2l (by omega), nI_i2l (by omega), lN_mul]
  rfl
theorem m_cost {S : SV} {R : Mm} {k t : Nat} (h : RM S R) {TT : Prop} (g : GTx TT S k) {DD : Nat → Prop} {ZZ : Prop} (gp : GPx DD ZZ S) (ht : t < S 0 19) : f_X4_cost 0 (nI t) R = some (lN (cost S t)) := by
  have hg := GT_t g ht
  have hT := GT_T g
  have hpt := GT_p g gp ht
  have h17 := (gp.2.1 _ hg.1).2.2.2.2.1
  unfold f_X4_cost
  rw [RM_ref h 22, RM_ref h 20, RM_ref h 7]
  simp only [ob_s]
  rw [ix_n (by omega) (by omega), ix_n (by omega) (by omega), nI_cl (by omega), RM_I h 27, ix_n (by omega) (by omega), nI_cl (by omega), RM_I h 29, RM_I h 17, nI_i2l (by omega), nI_i2l (by omega), lN_mul]
  rfl
/-- what tickets of a pool cost, that are in a state -/
def cst (S : SV) (p st : Nat) : Nat := sm (S 0 19) (fun t => if S 27 t = p ∧ S 30 t = st then cost S t else 0)
def stk (S : SV) (p : Nat) : Nat := sm (S 0 19) (fun t => if S 27 t = p ∧ S 30 t ≠ 1 then cost S t else 0)
theorem cst_le {S : SV} {k : Nat} {TT : Prop} (g : GTx TT S k) {DD : Nat → Prop} {ZZ : Prop} (gp : GPx DD ZZ S) (p st : Nat) : cst S p st ≤ 512000000 := sm_cost g gp (Nat.le_refl _)
theorem stk_eq {S : SV} {k : Nat} {TT : Prop} (g : GTx TT S k) (p : Nat) : stk S p = lu S p * S 17 p + cst S p 2 := by
  unfold stk lu cst
  rw [← sm_mul, ← sm_add]
  refine sm_congr (fun t ht => ?_)
  have h3 := (GT_t g ht).2.2.2
  by_cases q : S 27 t = p
  · by_cases q1 : S 30 t = 1
    · rw [if_neg (fun z => z.2 q1), if_neg (by omega), if_neg (by omega)]; omega
    · rw [if_pos ⟨q, q1⟩]
      by_cases q2 : S 30 t = 2
      · rw [if_neg (by omega), if_pos ⟨q, q2⟩]; omega
      · rw [if_pos ⟨q, by omega⟩, if_neg (by omega)]
        unfold cost
        rw [q]; omega
  · rw [if_neg (fun z => q z.1), if_neg (fun z => q z.1), if_neg (fun z => q z.1)]; omega
theorem c_centsThatAre {S : SV} {C : Mm} {k p st : Nat} {EE : Nat → Prop} (h : RCx EE S C) {TT : Prop} (g : GTx TT S k) {DD : Nat → Prop} {ZZ : Prop} (gp : GPx DD ZZ S) (hp : S 15 p = 1) (hst : st ≤ 3) : f_X0_centsThatAre p (nI st) C = some (lN (cst S p st)) := by
  have hT := GT_T g
  have hpp := (h.2.2.1 p (by omega)).1
  have key : ∀ t n acc, t ≤ S 0 19 → t < n → f_X0_centsThatAre_8 C n (nI st) (lN acc) (lastT (S 27) p t) = some (lN (acc + sm t (fun t => if S 27 t = p ∧ S 30 t = st then cost S t else 0))) := by
    intro t
    induction t with
    | zero =>
      intro n acc h1 h2
      obtain ⟨n', rfl⟩ : ∃ n', n = n' + 1 := ⟨n - 1, by omega⟩
      rw [f_X0_centsThatAre_8]
      rfl
    | succ t ih =>
      intro n acc h1 h2
      have ht : t < S 0 19 := by omega
      simp only [sm]
      by_cases q : S 27 t = p
      · obtain ⟨n', rfl⟩ : ∃ n', n = n' + 1 := ⟨n - 1, by omega⟩
        have hct := h.2.2.2.1 t ht
        have hg := GT_t g ht
        rw [c_chain q, f_X0_centsThatAre_8, on_s, c_cost h g gp ht, hct.2.2.2.2.2.2]
        simp only [ob_s, lt_e]
        rw [show mR C 8 t 1 = lastT (S 27) p t from by rw [hct.2.1, q]]
        by_cases q1 : S 30 t = st
        · rw [if_pos (congrArg nI q1), lN_add, ih n' _ (by omega) (by omega), if_pos ⟨q, q1⟩]
          congr 2; omega
        · rw [if_neg (fun z => q1 ((nI_e (by omega) (by omega)).mp z)), ih n' _ (by omega) (by omega), if_neg (fun z => q1 z.2), Nat.add_zero]
      · rw [c_chainN q, ih n acc (by omega) (by omega), if_neg (fun z => q z.1), Nat.add_zero]
  unfold f_X0_centsThatAre
  rw [hpp.2.2.2.2.2.1]
  have := key (S 0 19) FU 0 (by omega) (by show S 0 19 < 1000; omega)
  rw [Nat.zero_add] at this
  exact this
theorem c_stakeAtRisk {S : SV} {C : Mm} {k p : Nat} {EE : Nat → Prop} (h : RCx EE S C) {TT : Prop} (g : GTx TT S k) {DD : Nat → Prop} {ZZ : Prop} (gp : GPx DD ZZ S) (hp : S 15 p = 1) : f_X0_stakeAtRisk p C = some (lN (lu S p * S 17 p)) := by
  have hpp := (h.2.2.1 p (by omega)).1
  have h17 := (gp.2.1 _ hp).2.2.2.2.1
  unfold f_X0_stakeAtRisk
  rw [c_liveUnits h g hp, ob_s, hpp.2.2.2.2.1, nI_i2l (by omega), lN_mul, Nat.mul_comm]
theorem c_stakedCents {S : SV} {C : Mm} {k p : Nat} {EE : Nat → Prop} (h : RCx EE S C) {TT : Prop} (g : GTx TT S k) {DD : Nat → Prop} {ZZ : Prop} (gp : GPx DD ZZ S) (hp : S 15 p = 1) : f_X0_stakedCents p C = some (lN (stk S p)) := by
  unfold f_X0_stakedCents
  rw [c_stakeAtRisk h g gp hp, ob_s, show (2 : Int32) = nI 2 from rfl, c_centsThatAre h g gp hp (by omega), ob_s, lN_add, stk_eq g]
theorem m_staked {S : SV} {R : Mm} {k p b : Nat} (h : RM S R) {TT : Prop} (g : GTx TT S k) {DD : Nat → Prop} {ZZ : Prop} (gp : GPx DD ZZ S) (hp : p ≤ 52) (hb : b ≤ 1) : f_X4_staked 0 (nI p) (nI b) R = some (lN (if b = 0 then stk S p else cst S p 2)) := by
  have hT := GT_T g
  have key : ∀ n j, j ≤ S 0 19 → S 0 19 < j + n → f_X4_staked_5 R n 0 (nI p) (nI b) (lN (sm j (fun t => if S 27 t = p ∧ S 30 t ≠ 1 ∧ (b = 0 ∨ S 30 t = 2) then cost S t else 0))) (nI j) = some (lN (sm (S 0 19) (fun t => if S 27 t = p ∧ S 30 t ≠ 1 ∧ (b = 0 ∨ S 30 t = 2) then cost S t else 0))) := by
    intro n
    induction n with
    | zero => intro j h1 h2; omega
    | succ n ih =>
      intro j h1 h2
      rw [f_X4_staked_5, RM_T h]
      by_cases q : j = S 0 19
      · rw [if_pos ((i_le_n (by omega) (by omega)).mpr (by omega)), q]
      · have hj : j < S 0 19 := by omega
        have hg := GT_t g hj
        have hpt := GT_p g gp hj
        rw [if_neg (fun z => by have := (i_le_n (by omega) (by omega)).mp z; omega), RM_ref h 20, RM_ref h 23]
        simp only [ob_s, lt_e, f_X4_staked_52]
        rw [ix_n (by omega) (by omega), ix_n (by omega) (by omega), ix_n (by omega) (by omega), nI_cl (by omega), RM_I h 27, RM_I h 30, m_cost h g gp hj]
        simp only [ob_s]
        have key2 := ih (j + 1) (by omega) (by omega)
        simp only [sm] at key2
        by_cases q1 : S 27 j = p
        · rw [if_pos ((nI_e (by omega) (by omega)).mpr q1)]
          by_cases q2 : S 30 j = 1
          · rw [if_pos ((nI_1e (by omega)).mpr q2), lN_a0, nI_1]
            rw [if_neg (fun z => z.2.1 q2)] at key2
            exact key2
          · rw [if_neg (fun z => q2 ((nI_1e (by omega)).mp z))]
            by_cases q3 : b = 0
            · rw [if_pos ((nI_z (by omega)).mpr q3), lN_add, nI_1]
              rw [if_pos ⟨q1, q2, Or.inl q3⟩] at key2
              exact key2
            · rw [if_neg (fun z => q3 ((nI_z (by omega)).mp z))]
              by_cases q4 : S 30 j = 2
              · rw [if_pos ((nI_2e (by omega)).mpr q4), lN_add, nI_1]
                rw [if_pos ⟨q1, q2, Or.inr q4⟩] at key2
                exact key2
              · rw [if_neg (fun z => q4 ((nI_2e (by omega)).mp z)), lN_a0, nI_1]
                rw [if_neg (by omega)] at key2
                exact key2
        · rw [if_neg (fun z => q1 ((nI_e (by omega) (by omega)).mp z)), lN_a0, nI_1]
          rw [if_neg (fun z => q1 z.1)] at key2
          exact key2
  unfold f_X4_staked
  refine (key FU 0 (by omega) (by show S 0 19 < 0 + 1000; omega)).trans (congrArg (fun x => some (lN x)) ?_)
  by_cases q : b = 0
  · rw [if_pos q]
    refine sm_congr (fun t _ => ?_)
    by_cases w : S 27 t = p ∧ S 30 t ≠ 1
    · rw [if_pos ⟨w.1, w.2, Or.inl q⟩, if_pos w]
    · rw [if_neg (fun z => w ⟨z.1, z.2.1⟩), if_neg w]
  · rw [if_neg q]
    refine sm_congr (fun t _ => ?_)
    by_cases w : S 27 t = p ∧ S 30 t = 2
    · rw [if_pos ⟨w.1, by omega, Or.inr w.2⟩, if_pos w]
    · rw [if_neg (by omega), if_neg w]
theorem m_staked0 {S : SV} {R : Mm} {k p : Nat} (h : RM S R) {TT : Prop} (g : GTx TT S k) {DD : Nat → Prop} {ZZ : Prop} (gp : GPx DD ZZ S) (hp : p ≤ 52) : f_X4_staked 0 (nI p) (0 : Int32) R = some (lN (stk S p)) := m_staked (b := 0) h g gp hp (by omega)
theorem m_staked1 {S : SV} {R : Mm} {k p : Nat} (h : RM S R) {TT : Prop} (g : GTx TT S k) {DD : Nat → Prop} {ZZ : Prop} (gp : GPx DD ZZ S) (hp : p ≤ 52) : f_X4_staked 0 (nI p) (1 : Int32) R = some (lN (cst S p 2)) := m_staked (b := 1) h g gp hp (by omega)
theorem c_refunded {S : SV} {C : Mm} {k p : Nat} {EE : Nat → Prop} (h : RCx EE S C) {TT : Prop} (g : GTx TT S k) {DD : Nat → Prop} {ZZ : Prop} (gp : GPx DD ZZ S) (hp : S 15 p = 1) : f_X0_centsThatAre p (2 : Int32) C = some (lN (cst S p 2)) := c_centsThatAre (st := 2) h g gp hp (by omega)
theorem pI_n {p : Nat} (hp : p ≤ 52) : ¬ nI p = (-1 : Int32) := fun z => by
  have := i_eq.mp z
  rw [nI_tI (by omega)] at this
  have e : (-1 : Int32).toInt = -1 := rfl
  omega
theorem some_ife {α : Type} {P : Prop} [Decidable P] {a b : α} : (if P then some a else some b) = some (if P then a else b) := by split <;> rfl
theorem s_sum : S_sum Inv := by
  intro k C R v w u hk hI
  obtain ⟨S, hR, hC, g1, g2, g3, g4, g5⟩ := hI
  have hI' : Inv (k + 1) C R := ⟨S, hR, hC, g1, g2, GT_s g3 hk, g4, g5⟩
  unfold f_X3_sum f_X4_sum
  rw [c_poolOf hC g1, m_poolOf hR g1 g2]
  simp only [ob_s]
  cases hp : pOf S v w with
  | none => exact ⟨-1, rfl, rfl, hI'⟩
  | some p =>
    obtain ⟨p1, p2, -⟩ := pOf_s g1 g2 hp
    have hpp := (hC.2.2.1 p (by omega)).1
    rw [on_s]
    show ∃ r, _ ∧ (if nI p = (-1 : Int32) then _ else _) = _ ∧ _
    rw [if_neg (pI_n p1)]
    rw [show pI (some p) = nI p from rfl, m_staked0 hR g3 g2 p1, m_staked1 hR g3 g2 p1, m_unitsIn hR g3 g2 p1, RM_ref hR 9, RM_ref hR 10, RM_ref hR 11, RM_ref hR 12, RM_ref hR 13, RM_ref hR 14, RM_ref hR 15, RM_ref hR 16, RM_ref hR 8, c_stakedCents hC g3 g2 p2, c_refunded hC g3 g2 p2, c_liveUnits hC g3 p2]
    simp only [ob_s]
    rw [ix_n (by omega) (by omega), ix_n (by omega) (by omega), ix_n (by omega) (by omega), ix_n (by omega) (by omega), ix_n (by omega) (by omega), ix_n (by omega) (by omega), ix_n (by omega) (by omega), ix_n (by omega) (by omega), ix_n (by omega) (by omega)]
    obtain ⟨-, -, -, -, -, -, h6, h7, h10, h11, h12, h13, h14, h15, h16⟩ := hpp
    have hlu := lu_le g3 p
    rw [nI_cl (by omega), RM_J hR 19, RM_J hR 20, RM_J hR 21, RM_J hR 22, RM_J hR 23, RM_J hR 24, RM_J hR 25, RM_I hR 26, RM_I hR 18, h6, h7, h10, h11, h12, h13, h14, h15, h16, nI_i2l (n := lu S p) (by omega)]
    simp only [some_ife]
    exact ⟨_, rfl, rfl, hI'⟩
