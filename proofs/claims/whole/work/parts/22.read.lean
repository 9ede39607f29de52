/-! ===== what the readers answer ===== -/
theorem nI_le0 {n : Nat} (h : n < 2 ^ 31) : nI n ≤ 0 ↔ n = 0 := by
  rw [i_le, nI_toInt h]; show (n : Int) ≤ 0 ↔ _; omega
theorem nI_z {n : Nat} (h : n < 2 ^ 31) : nI n = 0 ↔ n = 0 := by
  rw [i_eq, nI_toInt h]; show (n : Int) = 0 ↔ _; omega
theorem nI_e {n m : Nat} (h : n < 2 ^ 31) (hm : m < 2 ^ 31) : nI n = nI m ↔ n = m := nI_eq h hm
theorem nI_0lt {n : Nat} (h : n < 2 ^ 31) : 0 < nI n ↔ 0 < n := by
  rw [i_lt, nI_toInt h]; show (0 : Int) < _ ↔ _; omega
theorem nI_tI {n : Nat} (h : n < 2 ^ 31) : (nI n).toInt = (n : Int) := nI_toInt h
abbrev isRn (S : SV) (r : Nat) (v : Int32) : Prop := 1 ≤ v.toInt ∧ v.toInt ≤ (S 10 r : Int)
abbrev rns (S : SV) (r : Nat) (v : Int32) : Prop := isRn S r v ∧ S 13 (25 * r + v.toNatClampNeg) = 0
def tOf (S : SV) (v : Int32) : Option Nat := if 0 ≤ v.toInt ∧ v.toInt < (S 0 19 : Int) then some v.toNatClampNeg else none
def pI (x : Option Nat) : Int32 := match x with
  | none => -1
  | some p => nI p
theorem GA_10 {S : SV} (h : GA S) (r : Nat) : S 10 r ≤ 24 := by
  by_cases h0 : S 10 r = 0
  · omega
  · exact (h.1 r h0).2.2.2
theorem GA_rng {S : SV} (h : GA S) (r : Nat) : rng S r ≤ 24 := by
  have h1 : rng S r ≤ S 10 r * 1 := sm_bound (fun i _ => by show (if _ then 1 else 0) ≤ 1; split <;> omega)
  have := GA_10 h r
  omega
theorem m_isRace {S : SV} {R : Mm} (h : RM S R) (g : GA S) (v : Int32) : f_X4_isRace 0 v R = some (b1 (rOf S v ≠ none)) := by
  unfold f_X4_isRace
  rw [m_in, ob_s, b1_if]
  by_cases hc : (1 : Int32).toInt ≤ v.toInt ∧ v.toInt ≤ (12 : Int32).toInt
  · rw [if_pos hc, RM_ref h 0, ob_s]
    have hc' : 1 ≤ v.toInt ∧ v.toInt ≤ 12 := hc
    obtain ⟨e1, e2⟩ := i_of (x := v) (by omega)
    rw [ix_v (vp_in_iff.mpr (by omega)), RM_I h 10]
    have hl := GA_10 g v.toNatClampNeg
    unfold rOf
    by_cases h0 : S 10 v.toNatClampNeg = 0
    · rw [if_pos ((nI_le0 (by omega)).mpr h0), b1_f (by rw [if_neg (fun z => z.2.2 h0)]; exact fun z => z rfl)]
    · rw [if_neg (fun z => h0 ((nI_le0 (by omega)).mp z)), b1_t (by rw [if_pos ⟨hc'.1, hc'.2, h0⟩]; exact fun z => by cases z)]
  · rw [if_neg hc, b1_f (by unfold rOf; rw [if_neg (fun z => hc ⟨z.1, z.2.1⟩)]; exact fun z => z rfl)]
theorem c_raceNumbered {S : SV} {C : Mm} {EE : Nat → Prop} (h : RCx EE S C) (g : GA S) (v : Int32) : f_X3_raceNumbered 0 v C = some (rOf S v) := by
  obtain ⟨⟨h0, -, -, -, -, hr, -⟩, -⟩ := h
  unfold f_X3_raceNumbered
  rw [h0]
  simp only [ob_s, i_lt]
  unfold rOf
  by_cases h1 : v.toInt < (1 : Int32).toInt
  · have h1' : v.toInt < 1 := h1
    rw [if_pos h1, if_neg (by omega)]
  · have h1' : ¬ v.toInt < 1 := h1
    rw [if_neg h1]
    obtain ⟨e1, e2⟩ := i_of (x := v) (by omega)
    by_cases h2 : v.toInt < (13 : Int32).toInt
    · have h2' : v.toInt < 13 := h2
      rw [if_pos h2, ix_v (vp_in_iff.mpr (by omega)), hr _ (by omega)]
      by_cases h3 : S 10 v.toNatClampNeg = 0
      · rw [if_pos h3, if_neg (fun z => z.2.2 h3)]
      · rw [if_neg h3, if_pos ⟨by omega, by omega, h3⟩]
    · have h2' : ¬ v.toInt < 13 := h2
      rw [if_neg h2, if_neg (by omega)]
theorem c_ticketNumbered {S : SV} {C : Mm} {k : Nat} {EE : Nat → Prop} (h : RCx EE S C) {TT : Prop} (g : GTx TT S k) (v : Int32) : f_X3_ticketNumbered 0 v C = some (tOf S v) := by
  obtain ⟨⟨-, h0, -, -, -, -, ht⟩, -⟩ := h
  obtain ⟨g1, g2, -⟩ := g
  unfold f_X3_ticketNumbered
  rw [h0]
  simp only [ob_s, i_lt]
  unfold tOf
  by_cases h1 : v.toInt < (0 : Int32).toInt
  · have h1' : v.toInt < 0 := h1
    rw [if_pos h1, if_neg (by omega)]
  · have h1' : ¬ v.toInt < 0 := h1
    rw [if_neg h1]
    obtain ⟨e1, e2⟩ := i_of (x := v) (by omega)
    by_cases h2 : v.toInt < (600 : Int32).toInt
    · have h2' : v.toInt < 600 := h2
      rw [if_pos h2, ix_v (vp_in_iff.mpr (by omega)), ht _ (by omega)]
      by_cases h3 : v.toNatClampNeg < S 0 19
      · rw [if_pos h3, if_pos (by omega)]
      · rw [if_neg h3, if_neg (by omega)]
    · have h2' : ¬ v.toInt < 600 := h2
      rw [if_neg h2, if_neg (by omega)]
theorem tOf_s {S : SV} {v : Int32} {t : Nat} (h : tOf S v = some t) : v = nI t ∧ t < S 0 19 := by
  unfold tOf at h
  split at h
  · rename_i hc
    cases h
    obtain ⟨e1, e2⟩ := i_of (x := v) (by omega)
    exact ⟨e1, by omega⟩
  · cases h
/-- the model: is it a ticket -/
theorem m_inT {S : SV} {R : Mm} {k : Nat} (h : RM S R) {TT : Prop} (g : GTx TT S k) (v : Int32) : f_X4_in v (0 : Int32) ((mI R 0 0 19) - (1 : Int32)) R = some (b1 (tOf S v ≠ none)) := by
  obtain ⟨g1, g2, -⟩ := g
  rw [m_in, RM_T h]
  have e : (nI (S 0 19) - (1 : Int32)).toInt = (S 0 19 : Int) - 1 := pk_sub_toInt (a := S 0 19) (b := 1) (by omega) (by omega)
  rw [e]
  refine congrArg some (b1_congr ?_)
  unfold tOf
  have e0 : (0 : Int32).toInt = 0 := rfl
  rw [e0]
  by_cases hc : 0 ≤ v.toInt ∧ v.toInt < (S 0 19 : Int)
  · rw [if_pos hc]
    exact ⟨fun _ => (by intro z; cases z), fun _ => by omega⟩
  · rw [if_neg hc]
    exact ⟨fun z => by omega, fun z => absurd rfl z⟩
theorem c_hasRunner {S : SV} {C : Mm} {r : Nat} (h : RCr S C r) (g : GA S) (v : Int32) : f_X1_hasRunner r v C = some (b1 (isRn S r v)) := by
  obtain ⟨-, h1, -⟩ := h
  unfold f_X1_hasRunner
  rw [h1]
  simp only [i_lt]
  have hl := GA_10 g r
  rw [nI_tI (by omega)]
  by_cases q1 : v.toInt < (1 : Int32).toInt
  · have q1' : v.toInt < 1 := q1
    rw [if_pos q1, b1_f (by omega)]
  · have q1' : ¬ v.toInt < 1 := q1
    rw [if_neg q1]
    by_cases q2 : (S 10 r : Int) < v.toInt
    · rw [if_pos q2, b1_f (by omega)]
    · rw [if_neg q2, b1_t (by omega)]
theorem c_positionOf {S : SV} {C : Mm} {r : Nat} (h : RCr S C r) (v : Int32) (hv : 0 ≤ v.toInt ∧ v.toInt < 25) : f_X1_positionOf r v C = some (if S 13 (25 * r + v.toNatClampNeg) = 0 then nI (S 14 (25 * r + v.toNatClampNeg)) else -1) := by
  obtain ⟨-, -, h2, -, -, -, -, h7, -⟩ := h
  unfold f_X1_positionOf
  rw [h2]
  simp only [ob_s, i_lt]
  obtain ⟨e1, e2⟩ := i_of (x := v) hv.1
  rw [if_neg (by show ¬ v.toInt < 0; omega), if_pos (by show v.toInt < 25; omega), ix_v (vp_in_iff.mpr (by omega)), h7 _ (by omega)]
theorem c_isRunning {S : SV} {C : Mm} {r : Nat} (h : RCr S C r) (g : GA S) (v : Int32) : f_X1_isRunning r v C = some (b1 (rns S r v)) := by
  unfold f_X1_isRunning
  rw [c_hasRunner h g, ob_s, b1_if]
  have hl := GA_10 g r
  by_cases q : isRn S r v
  · rw [if_pos q, c_positionOf h v (by omega), ob_s]
    by_cases h3 : S 13 (25 * r + v.toNatClampNeg) = 0
    · rw [if_pos h3, b1_t ⟨q, h3⟩]
      have := (g.2.2.2.1 (25 * r + v.toNatClampNeg)).2.1
      rw [if_neg]
      rw [i_eq, nI_tI (by omega)]
      show ¬ (_ : Int) = -1
      omega
    · rw [if_neg h3, b1_f (fun z => h3 z.2), if_pos rfl]
  · rw [if_neg q, b1_f (fun z => q z.1)]
theorem m_isRunner {S : SV} {R : Mm} (h : RM S R) (g : GA S) {r : Nat} (hr : r ≤ 12) (v : Int32) : f_X4_isRunner 0 (nI r) v R = some (b1 (isRn S r v)) := by
  unfold f_X4_isRunner
  rw [RM_ref h 0, ob_s, ix_n (by omega) (by omega), nI_cl (by omega), RM_I h 10, m_in, ob_s, zb_b]
  have hl := GA_10 g r
  rw [nI_tI (by omega)]
  rfl
theorem m_runs {S : SV} {R : Mm} (h : RM S R) (g : GA S) {r : Nat} (hr : r ≤ 12) (v : Int32) : f_X4_runs 0 (nI r) v R = some (b1 (rns S r v)) := by
  unfold f_X4_runs
  rw [m_isRunner h g hr, ob_s, b1_if]
  have hl := GA_10 g r
  by_cases q : isRn S r v
  · rw [if_pos q, RM_ref h 3, ob_s]
    obtain ⟨e1, e2⟩ := i_of (x := v) (by omega)
    have e3 : (25 : Int32) * nI r + v = nI (25 * r + v.toNatClampNeg) := by
      rw [show (25 : Int32) = nI 25 from rfl, pk_mul]
      exact (congrArg (nI (25 * r) + ·) e1).trans (nI_add _ _)
    rw [e3, ix_n (by omega) (by omega), nI_cl (by omega), RM_I h 13]
    have := (g.2.2.2.1 (25 * r + v.toNatClampNeg)).1
    by_cases h3 : S 13 (25 * r + v.toNatClampNeg) = 0
    · rw [if_pos ((nI_z (by omega)).mpr h3), b1_t ⟨q, h3⟩]
    · rw [if_neg (fun z => h3 ((nI_z (by omega)).mp z)), b1_f (fun z => h3 z.2)]
  · rw [if_neg q, b1_f (fun z => q z.1)]
theorem nI_52 {n : Nat} (h : n < 2 ^ 31) : nI n = (52 : Int32) ↔ n = 52 := nI_eq (b := 52) h (by omega)
theorem m_kindOf {R : Mm} {p : Nat} (hp : p ≤ 52) : f_X4_kindOf (nI p) R = some (nI (kd p)) := by
  unfold f_X4_kindOf kd
  by_cases q : p = 52
  · subst q; rfl
  · rw [if_neg (fun z => q ((nI_52 (by omega)).mp z)), if_neg q, dv_4]
    exact congrArg some (pk_rem (d := 4) (by omega) (by omega) (by omega))
theorem kd_le (p : Nat) : kd p ≤ 4 := by unfold kd; split <;> omega
theorem m_many {R : Mm} {p : Nat} (hp : p ≤ 52) : f_X4_many (nI p) R = some (nI (mny p)) := by
  unfold f_X4_many
  rw [m_kindOf hp, ob_s]
  unfold mny
  have := kd_le p
  have hk : kd p = 0 ∨ kd p = 1 ∨ kd p = 2 ∨ kd p = 3 ∨ kd p = 4 := by omega
  rcases hk with h | h | h | h | h <;> rw [h] <;> rfl
theorem m_raceOf {S : SV} {R : Mm} (h : RM S R) {p k : Nat} (hp : p ≤ 52) (hk : k < 3) : f_X4_raceOf 0 (nI p) (nI k) R = some (nI (ro S p k)) := by
  unfold f_X4_raceOf ro
  by_cases q : p = 52
  · subst q
    rw [if_pos (show nI 52 = 52 from rfl), if_pos rfl]
    by_cases q2 : k = 0
    · subst q2
      rw [if_pos (show nI 0 = 0 from rfl), if_pos rfl, RM_17 h]
    · rw [if_neg (fun z => q2 ((nI_z (by omega)).mp z)), if_neg q2, RM_18 h]
  · rw [if_neg (fun z => q ((nI_52 (by omega)).mp z)), if_neg q, dv_4]
    exact congrArg some (pk_div (d := 4) (by omega) (by omega) (by omega))
