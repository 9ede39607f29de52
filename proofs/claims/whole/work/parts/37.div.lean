/-! ===== a dividend in plain numbers ===== -/
theorem L_i {n : Nat} (h : n < 2 ^ 63) : (lN n).toInt = (n : Int) := lg_ofNat_toInt h
theorem L_of {x : Int64} {n : Nat} (h : x.toInt = (n : Int)) (hn : n < 2 ^ 63) : x = lN n := Int64.toInt_inj.mp (h.trans (L_i hn).symm)
theorem L_le {a b : Nat} (ha : a < 2 ^ 63) (hb : b < 2 ^ 63) : lN a ≤ lN b ↔ a ≤ b := by
  rw [Int64.le_iff_toInt_le, L_i ha, L_i hb]; omega
theorem L_sub {a b : Nat} (h : b ≤ a) : lN a - lN b = lN (a - b) := by
  have e : lN (a - b) + lN b = lN a := by rw [lN_add, Nat.sub_add_cancel h]
  rw [← e, Int64.add_sub_cancel]
theorem L_div {a b : Nat} (ha : a < 2 ^ 63) (hb : b < 2 ^ 63) (h0 : 0 < b) : lN a / lN b = lN (a / b) := by
  have hl : a / b ≤ a := Nat.div_le_self a b
  refine L_of ?_ (by omega)
  rw [lg_ldiv_nonneg (by rw [L_i ha]; omega) (by rw [L_i hb]; omega), L_i ha, L_i hb]
  exact (Int.natCast_ediv a b).symm
theorem L_dvl {β : Type} {b : Nat} {K : Option β} (hb : b < 2 ^ 63) (h0 : 0 < b) : dvl (lN b) K = K := by
  refine if_neg (fun z => ?_)
  have := congrArg Int64.toInt z
  rw [L_i hb] at this
  have e : (0 : Int64).toInt = 0 := rfl
  omega
theorem c_tens {x : Nat} {C : Mm} (h : x < 2 ^ 62) : f_X0_wholeTens (lN x) C = some (lN (x / 10 * 10)) := by
  unfold f_X0_wholeTens
  rw [dvl_10]
  have e : (10 : Int64) = lN 10 := rfl
  have h1 : x / 10 * 10 ≤ x := Nat.div_mul_le_self x 10
  rw [e, L_div (by omega) (by omega) (by omega), lN_mul, L_sub h1, L_sub (by omega)]
  exact congrArg (fun w => some (lN w)) (by omega)
