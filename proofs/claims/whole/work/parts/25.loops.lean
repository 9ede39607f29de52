/-! ===== loops that only read ===== -/
theorem e25 (r n : Nat) : (25 : Int32) * nI r + nI n = nI (25 * r + n) := by
  rw [show (25 : Int32) = nI 25 from rfl, pk_mul, nI_add]
theorem e3 (t : Nat) : (3 : Int32) * nI t = nI (3 * t) := by
  rw [show (3 : Int32) = nI 3 from rfl, pk_mul]
theorem e31 (t : Nat) : (3 : Int32) * nI t + (1 : Int32) = nI (3 * t + 1) := by rw [e3, nI_1]
theorem e32 (t : Nat) : (3 : Int32) * nI t + (2 : Int32) = nI (3 * t + 2) := by
  rw [e3, show (2 : Int32) = nI 2 from rfl, nI_add]
theorem nI_a0 (a : Nat) : nI a + (0 : Int32) = nI a := by
  rw [show (0 : Int32) = nI 0 from rfl, nI_add]; rfl
theorem lN_a0 (a : Nat) : lN a + (0 : Int64) = lN a := by
  rw [show (0 : Int64) = lN 0 from rfl, lN_add]; rfl
theorem i_lt_n {a b : Nat} (ha : a < 2 ^ 31) (hb : b < 2 ^ 31) : nI a < nI b ↔ a < b := nI_ltI ha hb
theorem i_le_n {a b : Nat} (ha : a < 2 ^ 31) (hb : b < 2 ^ 31) : nI a ≤ nI b ↔ a ≤ b := nI_leI ha hb
theorem nI_1e {n : Nat} (h : n < 2 ^ 31) : nI n = (1 : Int32) ↔ n = 1 := nI_eq (b := 1) h (by omega)
theorem nI_2e {n : Nat} (h : n < 2 ^ 31) : nI n = (2 : Int32) ↔ n = 2 := nI_eq (b := 2) h (by omega)
theorem nI_3e {n : Nat} (h : n < 2 ^ 31) : nI n = (3 : Int32) ↔ n = 3 := nI_eq (b := 3) h (by omega)
theorem nI_4e {n : Nat} (h : n < 2 ^ 31) : nI n = (4 : Int32) ↔ n = 4 := nI_eq (b := 4) h (by omega)
def pld (S : SV) (r b : Nat) : Nat := sm (S 10 r) (fun m => if 0 < S 14 (25 * r + (m + 1)) ∧ S 14 (25 * r + (m + 1)) < b then 1 else 0)
theorem sm1 {n : Nat} {P : Nat → Prop} [DecidablePred P] : sm n (fun m => if P m then 1 else 0) ≤ n := by
  have := sm_bound (n := n) (c := 1) (f := fun m => if P m then 1 else 0) (fun i _ => by show (if _ then 1 else 0) ≤ 1; split <;> omega)
  omega
theorem m_running {S : SV} {R : Mm} (h : RM S R) (g : GA S) {r : Nat} (hr : r ≤ 12) : f_X4_running 0 (nI r) R = some (nI (rng S r)) := by
  have hl := GA_10 g r
  have key : ∀ n j, j ≤ S 10 r → S 10 r < j + n → f_X4_running_4 R n 0 (nI r) (nI (sm j (fun m => if S 13 (25 * r + (m + 1)) = 0 then 1 else 0))) (nI (j + 1)) = some (nI (rng S r)) := by
    intro n
    induction n with
    | zero => intro j h1 h2; omega
    | succ n ih =>
      intro j h1 h2
      rw [f_X4_running_4, RM_ref h 0]
      simp only [ob_s, lt_e]
      rw [ix_n (by omega) (by omega), nI_cl (by omega), RM_I h 10]
      by_cases q : j = S 10 r
      · rw [if_pos ((i_lt_n (by omega) (by omega)).mpr (by omega)), q]; rfl
      · rw [if_neg (fun z => by have := (i_lt_n (by omega) (by omega)).mp z; omega), RM_ref h 3]
        simp only [ob_s]
        rw [e25, ix_n (by omega) (by omega), nI_cl (by omega), RM_I h 13]
        have h13 := (g.2.2.2.1 (25 * r + (j + 1))).1
        have key2 := ih (j + 1) (by omega) (by omega)
        simp only [sm] at key2
        by_cases q2 : S 13 (25 * r + (j + 1)) = 0
        · rw [if_pos ((nI_z (by omega)).mpr q2), nI_1, nI_1]
          rw [if_pos q2] at key2
          exact key2
        · rw [if_neg (fun z => q2 ((nI_z (by omega)).mp z)), nI_a0, nI_1]
          rw [if_neg q2] at key2
          exact key2
  unfold f_X4_running
  exact key FU 0 (by omega) (by show S 10 r < 0 + 1000; omega)
theorem m_placed {S : SV} {R : Mm} (h : RM S R) (g : GA S) {r b : Nat} (hr : r ≤ 12) (hb : b < 2 ^ 31) : f_X4_placed 0 (nI r) (nI b) R = some (nI (pld S r b)) := by
  have hl := GA_10 g r
  have key : ∀ n j, j ≤ S 10 r → S 10 r < j + n → f_X4_placed_5 R n 0 (nI r) (nI b) (nI (sm j (fun m => if 0 < S 14 (25 * r + (m + 1)) ∧ S 14 (25 * r + (m + 1)) < b then 1 else 0))) (nI (j + 1)) = some (nI (pld S r b)) := by
    intro n
    induction n with
    | zero => intro j h1 h2; omega
    | succ n ih =>
      intro j h1 h2
      rw [f_X4_placed_5, RM_ref h 0]
      simp only [ob_s, lt_e]
      rw [ix_n (by omega) (by omega), nI_cl (by omega), RM_I h 10]
      by_cases q : j = S 10 r
      · rw [if_pos ((i_lt_n (by omega) (by omega)).mpr (by omega)), q]; rfl
      · rw [if_neg (fun z => by have := (i_lt_n (by omega) (by omega)).mp z; omega), RM_ref h 4]
        simp only [ob_s]
        rw [e25, ix_n (by omega) (by omega), nI_cl (by omega), RM_I h 14]
        have h14 := (g.2.2.2.1 (25 * r + (j + 1))).2.1
        have key2 := ih (j + 1) (by omega) (by omega)
        simp only [sm] at key2
        by_cases q2 : S 14 (25 * r + (j + 1)) = 0
        · rw [if_pos ((nI_le0 (by omega)).mpr q2), nI_a0, nI_1]
          rw [if_neg (by omega)] at key2
          exact key2
        · rw [if_neg (fun z => q2 ((nI_le0 (by omega)).mp z)), ix_n (by omega) (by omega)]
          by_cases q3 : b ≤ S 14 (25 * r + (j + 1))
          · rw [if_pos ((i_le_n (by omega) (by omega)).mpr q3), nI_a0, nI_1]
            rw [if_neg (by omega)] at key2
            exact key2
          · rw [if_neg (fun z => q3 ((i_le_n (by omega) (by omega)).mp z)), nI_1, nI_1]
            rw [if_pos (by omega)] at key2
            exact key2
  unfold f_X4_placed
  exact key FU 0 (by omega) (by show S 10 r < 0 + 1000; omega)
theorem c_isWithin {S : SV} {C : Mm} {r n b : Nat} (h : RCr S C r) (g : GA S) (hn : n < 25) (hb : b < 2 ^ 31) : f_X1_isWithin r (nI n) (nI b) C = some (b1 (wth S r n b)) := by
  unfold f_X1_isWithin
  rw [c_positionOf h _ (by rw [nI_tI (by omega)]; omega), ob_s, nI_cl (by omega)]
  obtain ⟨h13, h14, h15⟩ := g.2.2.2.1 (25 * r + n)
  by_cases q : S 13 (25 * r + n) = 0
  · rw [if_pos q]
    by_cases q2 : S 14 (25 * r + n) = 0
    · rw [if_pos ((nI_le0 (by omega)).mpr q2), b1_f (by omega)]
    · rw [if_neg (fun z => q2 ((nI_le0 (by omega)).mp z))]
      by_cases q3 : b < S 14 (25 * r + n)
      · rw [if_pos ((i_lt_n (by omega) (by omega)).mpr q3), b1_f (by omega)]
      · rw [if_neg (fun z => q3 ((i_lt_n (by omega) (by omega)).mp z)), b1_t (by omega)]
  · rw [if_neg q, if_pos (by decide), b1_f (by have := h15 (by omega); omega)]
theorem c_runnersWithin {S : SV} {C : Mm} {r b : Nat} (h : RCr S C r) (g : GA S) (hb : b + 1 < 2 ^ 31) : f_X1_runnersWithin r (nI b) C = some (nI (pld S r (b + 1))) := by
  have hl := GA_10 g r
  have key : ∀ n j, j ≤ S 10 r → S 10 r < j + n → f_X1_runnersWithin_4 C n r (nI b) (nI (sm j (fun m => if 0 < S 14 (25 * r + (m + 1)) ∧ S 14 (25 * r + (m + 1)) < b + 1 then 1 else 0))) (nI (j + 1)) = some (nI (pld S r (b + 1))) := by
    intro n
    induction n with
    | zero => intro j h1 h2; omega
    | succ n ih =>
      intro j h1 h2
      rw [f_X1_runnersWithin_4, h.2.1]
      by_cases q : j = S 10 r
      · rw [if_pos ((i_lt_n (by omega) (by omega)).mpr (by omega)), q]; rfl
      · rw [if_neg (fun z => by have := (i_lt_n (by omega) (by omega)).mp z; omega), c_isWithin h g (by omega) (by omega)]
        simp only [ob_s, lt_e, b1_if]
        have key2 := ih (j + 1) (by omega) (by omega)
        simp only [sm] at key2
        by_cases q2 : wth S r (j + 1) b
        · rw [if_pos q2, nI_1, nI_1]
          rw [if_pos ⟨q2.1, by omega⟩] at key2
          exact key2
        · rw [if_neg q2, nI_1]
          rw [if_neg (fun z => q2 ⟨z.1, by omega⟩)] at key2
          exact key2
  unfold f_X1_runnersWithin
  exact key FU 0 (by omega) (by show S 10 r < 0 + 1000; omega)
theorem pld_all {S : SV} (g : GA S) (r : Nat) {b : Nat} (hb : 25 ≤ b) : pld S r b = pld S r 25 := by
  unfold pld
  refine sm_congr (fun m _ => ?_)
  have := (g.2.2.2.1 (25 * r + (m + 1))).2.1
  by_cases q : 0 < S 14 (25 * r + (m + 1))
  · rw [if_pos ⟨q, by omega⟩, if_pos ⟨q, by omega⟩]
  · rw [if_neg (fun z => q z.1), if_neg (fun z => q z.1)]
theorem c_placedRunners {S : SV} {C : Mm} {r : Nat} (h : RCr S C r) (g : GA S) : f_X1_placedRunners r C = some (nI (pld S r 25)) := by
  unfold f_X1_placedRunners
  rw [show (24 : Int32) = nI 24 from rfl, c_runnersWithin h g (by omega), ob_s]
theorem c_isLive {S : SV} {C : Mm} {t : Nat} (h : RCt S C t) (g : S 30 t ≤ 3) : f_X2_isLive t C = some (b1 (cntT S t)) := by
  unfold f_X2_isLive
  rw [h.2.2.2.2.2.2]
  by_cases q : S 30 t = 0
  · rw [if_pos ((nI_z (by omega)).mpr q), b1_t (Or.inl q)]
  · rw [if_neg (fun z => q ((nI_z (by omega)).mp z))]
    by_cases q2 : S 30 t = 3
    · rw [if_pos ((nI_3e (by omega)).mpr q2), b1_t (Or.inr q2)]
    · rw [if_neg (fun z => q2 ((nI_3e (by omega)).mp z)), b1_f (by omega)]
theorem m_counts {S : SV} {R : Mm} {t : Nat} (h : RM S R) (ht : t < 600) (g : S 30 t ≤ 3) : f_X4_counts 0 (nI t) R = some (b1 (cntT S t)) := by
  unfold f_X4_counts
  rw [RM_ref h 23]
  simp only [ob_s]
  rw [ix_n (by omega) (by omega), nI_cl (by omega), RM_I h 30, ix_n (by omega) (by omega)]
  by_cases q : S 30 t = 0
  · rw [if_pos ((nI_z (by omega)).mpr q), b1_t (Or.inl q)]
  · rw [if_neg (fun z => q ((nI_z (by omega)).mp z))]
    by_cases q2 : S 30 t = 3
    · rw [if_pos ((nI_3e (by omega)).mpr q2), b1_t (Or.inr q2)]
    · rw [if_neg (fun z => q2 ((nI_3e (by omega)).mp z)), b1_f (by omega)]
theorem some_if {P : Prop} [Decidable P] : (if P then some (1 : Int32) else some (0 : Int32)) = some (b1 P) := by
  by_cases h : P
  · rw [if_pos h, b1_t h]
  · rw [if_neg h, b1_f h]
theorem c_isNamed {S : SV} {C : Mm} {t p : Nat} (h : RCt S C t) (hp : RCp S C p) (ht : S 27 t = p) (a b c : Int32) : f_X0_isNamed p t a b c C = some (b1 (sameT S t p a b c)) := by
  obtain ⟨-, -, -, h3, h4, h5, -⟩ := h
  unfold f_X0_isNamed f_X0_isNamed_48
  rw [h3, h4, h5]
  simp only [lt_e]
  have hk := kd_le p
  have hmm : mny p = if kd p < 2 then 1 else if kd p = 3 then 3 else 2 := rfl
  have hk5 : kd p = 0 ∨ kd p = 1 ∨ kd p = 2 ∨ kd p = 3 ∨ kd p = 4 := by omega
  rcases hk5 with k | k | k | k | k
  · have hm : mny p = 1 := by rw [hmm, k]; rfl
    rw [show mI C 7 p 0 = nI 0 from by rw [hp.1, k], if_neg (show ¬ nI 0 = (2 : Int32) from by decide), if_neg (show ¬ nI 0 = (3 : Int32) from by decide), if_neg (show ¬ nI 0 = (4 : Int32) from by decide), some_if]
    refine congrArg some (b1_congr ⟨fun z => ⟨ht, Or.inr ⟨z, Or.inl (by omega), Or.inl (by omega)⟩⟩, fun z => ?_⟩)
    rcases z.2 with w | w
    · omega
    · exact w.1
  · have hm : mny p = 1 := by rw [hmm, k]; rfl
    rw [show mI C 7 p 0 = nI 1 from by rw [hp.1, k], if_neg (show ¬ nI 1 = (2 : Int32) from by decide), if_neg (show ¬ nI 1 = (3 : Int32) from by decide), if_neg (show ¬ nI 1 = (4 : Int32) from by decide), some_if]
    refine congrArg some (b1_congr ⟨fun z => ⟨ht, Or.inr ⟨z, Or.inl (by omega), Or.inl (by omega)⟩⟩, fun z => ?_⟩)
    rcases z.2 with w | w
    · omega
    · exact w.1
  · have hm : mny p = 2 := by rw [hmm, k]; rfl
    rw [show mI C 7 p 0 = nI 2 from by rw [hp.1, k], if_pos (show nI 2 = (2 : Int32) from rfl)]
    by_cases q1 : nI (S 28 (3 * t)) = a ∧ nI (S 28 (3 * t + 1)) = b
    · rw [if_pos q1.1, if_pos q1.2, b1_t ⟨ht, Or.inr ⟨q1.1, Or.inr q1.2, Or.inl (by omega)⟩⟩]
    · have e1 : (if nI (S 28 (3 * t)) = a then (if nI (S 28 (3 * t + 1)) = b then some (1 : Int32) else (if nI (S 28 (3 * t)) = b then (if nI (S 28 (3 * t + 1)) = a then some (1 : Int32) else some (0 : Int32)) else some (0 : Int32))) else (if nI (S 28 (3 * t)) = b then (if nI (S 28 (3 * t + 1)) = a then some (1 : Int32) else some (0 : Int32)) else some (0 : Int32))) = (if nI (S 28 (3 * t)) = b then (if nI (S 28 (3 * t + 1)) = a then some (1 : Int32) else some (0 : Int32)) else some (0 : Int32)) := by
        by_cases w : nI (S 28 (3 * t)) = a
        · rw [if_pos w, if_neg (fun z => q1 ⟨w, z⟩)]
        · rw [if_neg w]
      rw [e1]
      by_cases q2 : nI (S 28 (3 * t)) = b ∧ nI (S 28 (3 * t + 1)) = a
      · rw [if_pos q2.1, if_pos q2.2, b1_t ⟨ht, Or.inl ⟨k, q2.1, q2.2⟩⟩]
      · rw [b1_f (fun z => by
          rcases z.2 with w | w
          · exact q2 ⟨w.2.1, w.2.2⟩
          · exact q1 ⟨w.1, w.2.1.resolve_left (by omega)⟩)]
        by_cases w : nI (S 28 (3 * t)) = b
        · rw [if_pos w, if_neg (fun z => q2 ⟨w, z⟩)]
        · rw [if_neg w]
  · have hm : mny p = 3 := by rw [hmm, k]; rfl
    rw [show mI C 7 p 0 = nI 3 from by rw [hp.1, k], if_neg (show ¬ nI 3 = (2 : Int32) from by decide), if_pos (show nI 3 = (3 : Int32) from rfl)]
    by_cases w1 : nI (S 28 (3 * t)) = a
    · rw [if_pos w1]
      by_cases w2 : nI (S 28 (3 * t + 1)) = b
      · rw [if_pos w2, some_if]
        refine congrArg some (b1_congr ⟨fun z => ⟨ht, Or.inr ⟨w1, Or.inr w2, Or.inr z⟩⟩, fun z => ?_⟩)
        rcases z.2 with w | w
        · omega
        · exact w.2.2.resolve_left (by omega)
      · rw [if_neg w2, b1_f (fun z => by
          rcases z.2 with w | w
          · omega
          · exact w2 (w.2.1.resolve_left (by omega)))]
    · rw [if_neg w1, b1_f (fun z => by
        rcases z.2 with w | w
        · omega
        · exact w1 w.1)]
  · have hm : mny p = 2 := by rw [hmm, k]; rfl
    rw [show mI C 7 p 0 = nI 4 from by rw [hp.1, k], if_neg (show ¬ nI 4 = (2 : Int32) from by decide), if_neg (show ¬ nI 4 = (3 : Int32) from by decide), if_pos (show nI 4 = (4 : Int32) from rfl)]
    by_cases w1 : nI (S 28 (3 * t)) = a
    · rw [if_pos w1, some_if]
      refine congrArg some (b1_congr ⟨fun z => ⟨ht, Or.inr ⟨w1, Or.inr z, Or.inl (by omega)⟩⟩, fun z => ?_⟩)
      rcases z.2 with w | w
      · omega
      · exact w.2.1.resolve_left (by omega)
    · rw [if_neg w1, b1_f (fun z => by
        rcases z.2 with w | w
        · omega
        · exact w1 w.1)]
