/-! ===== a dividend in plain numbers ===== -/
theorem L_i {n : Nat} (h : n < 2 ^ 63) : (lN n).toInt = (n : Int) := lg_ofNat_toInt h
theorem L_of {x : Int64} {n : Nat} (h : x.toInt = (n : Int)) (hn : n < 2 ^ 63) : x = lN n := Int64.toInt_inj.mp (h.trans (L_i hn).symm)
theorem L_le {a b : Nat} (ha : a < 2 ^ 63) (hb : b < 2 ^ 63) : lN a ≤ lN b ↔ a ≤ b := by
  rw [Int64.le_iff_toInt_le, L_i ha, L_i hb]; omega
theorem L_sub {a b : Nat} (h : b ≤ a) : lN a - lN b = lN (a - b) := by
  have e : lN (a - b) + lN b = lN a := by rw [lN_add, Nat.sub_add_cancel h]
  rw [← e, Int64.add_sub_cancel]
theorem L_div {a b : Nat} (ha : a < 2 ^ 63) (hb : b < 2 ^ 63) (h0 : 0 < b) : lN a / lN b = lN (a / b) := by
  have hl : a / b ≤ a := Nat.div_le_self a b
  refine L_of ?_ (by omega)
  rw [lg_ldiv_nonneg (by rw [L_i ha]; omega) (by rw [L_i hb]; omega), L_i ha, L_i hb]
  exact (Int.natCast_ediv a b).symm
theorem L_dvl {β : Type} {b : Nat} {K : Option β} (hb : b < 2 ^ 63) (h0 : 0 < b) : dvl (lN b) K = K := by
  refine if_neg (fun z => ?_)
  have := congrArg Int64.toInt z
  rw [L_i hb] at this
  have e : (0 : Int64).toInt = 0 := rfl
  omega
theorem c_tens {x : Nat} {C : Mm} (h : x < 2 ^ 62) : f_X0_wholeTens (lN x) C = some (lN (x / 10 * 10)) := by
  unfold f_X0_wholeTens
  rw [dvl_10]
  have e : (10 : Int64) = lN 10 := rfl
  have h1 : x / 10 * 10 ≤ x := Nat.div_mul_le_self x 10
  rw [e, L_div (by omega) (by omega) (by omega), lN_mul, L_sub h1, L_sub (by omega)]
  exact congrArg (fun w => some (lN w)) (by omega)
theorem c_from {S : SV} {C : Mm} {p N k W u : Nat} (h : RCp S C p) (h1 : S 17 p ≤ 1000) (h2 : S 17 p % 10 = 0) (hN : N < 2 ^ 50) (hk : k < 2 ^ 31) (hW : W < 2 ^ 30) (hu : u < 2 ^ 31) : f_X0_dividendFrom p (lN N) (nI k) (lN W) (lN u) C = some (lN (if k = 0 ∨ u = 0 then 0 else dvd (kd p) (S 17 p) N k W u)) := by
  have kl := kd_le p
  have hUW : S 17 p * W ≤ 1000 * W := Nat.mul_le_mul_right W h1
  unfold f_X0_dividendFrom
  rw [h.1, h.2.2.2.2.1, nI_i2l (by omega), nI_i2l hk]
  have c1 : (1 : Int64) = lN 1 := rfl
  have c2 : nI k < (1 : Int32) ↔ k = 0 := by
    rw [i_lt, nI_tI hk]; show (k : Int) < 1 ↔ _; omega
  rw [c1]
  simp only [lg_cmp_ge]
  by_cases q1 : k = 0
  · rw [if_pos (c2.mpr q1), if_pos (Or.inl q1)]; rfl
  · rw [if_neg (fun z => q1 (c2.mp z))]
    by_cases q2 : u = 0
    · rw [if_neg (fun z => by have := (L_le (by omega) (by omega)).mp z; omega), if_pos (Or.inr q2)]; rfl
    · rw [if_pos ((L_le (by omega) (by omega)).mpr (by omega)), if_neg (c := k = 0 ∨ u = 0) (fun z => z.elim q1 q2)]
      unfold dvd
      by_cases q3 : kd p = 1
      · rw [if_pos ((nI_1e (by omega)).mpr q3), if_neg (c := kd p ≠ 1) (fun z => z q3), if_neg (c := k = 0) q1, lt_e, lN_mul]
        by_cases q4 : N < S 17 p * W
        · rw [if_pos q4, if_neg (fun z => by have := (L_le (by omega) (by omega)).mp z; omega)]
        · have d1 : (N - S 17 p * W) / k ≤ N - S 17 p * W := Nat.div_le_self _ _
          have d2 : (N - S 17 p * W) / k / u ≤ (N - S 17 p * W) / k := Nat.div_le_self _ _
          rw [if_neg q4, if_pos ((L_le (by omega) (by omega)).mpr (by omega)), L_dvl (by omega) (by omega), L_dvl (by omega) (by omega), L_sub (by omega), L_div (by omega) (by omega) (by omega), L_div (by omega) (by omega) (by omega), lN_add, c_tens (by omega), ob_s]
          exact congrArg (fun w => some (lN w)) (by omega)
      · have d1 : N / k ≤ N := Nat.div_le_self _ _
        have d2 : N / k / u ≤ N / k := Nat.div_le_self _ _
        rw [if_neg (fun z => q3 ((nI_1e (by omega)).mp z)), if_pos (c := kd p ≠ 1) q3, L_dvl (by omega) (by omega), L_dvl (by omega) (by omega), L_div (by omega) (by omega) (by omega), L_div (by omega) (by omega) (by omega), c_tens (by omega), ob_s]
