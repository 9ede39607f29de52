/-! ===== odds: the house's reckoning; what wins where positions are supposed ===== -/
theorem rn_I2 {S : SV} {r n : Nat} (g1 : GA S) : rns S r (nI n) → n < 2 ^ 31 → rn S r n := fun h hn => by
  obtain ⟨⟨h1, h2⟩, h3⟩ := h
  rw [nI_tI hn] at h1 h2
  rw [nI_cl hn] at h3
  exact ⟨by omega, by omega, h3⟩
theorem I_rn {S : SV} {r n : Nat} (g1 : GA S) (h : rn S r n) : rns S r (nI n) := by
  have hl := GA_10 g1 r
  obtain ⟨h1, h2, h3⟩ := h
  show (1 ≤ (nI n).toInt ∧ (nI n).toInt ≤ (S 10 r : Int)) ∧ S 13 (25 * r + (nI n).toNatClampNeg) = 0
  rw [nI_tI (by omega), nI_cl (by omega)]
  exact ⟨⟨by omega, by omega⟩, h3⟩
/-- who a ticket that counts names -/
theorem live_rn {S : SV} {k t j : Nat} {TT : Prop} (g : GTx TT S k) (ht : t < S 0 19) (hc : cntT S t) (hj : j < mny (S 27 t)) : rn S (ro S (S 27 t) j) (S 28 (3 * t + j)) := by
  have hm := mny_le (S 27 t)
  have h := (g.2.2.1 t ht).2.2.2.2.1 j (by omega)
  rw [if_pos hj] at h
  exact ⟨h.1, h.2.1, h.2.2 hc⟩
theorem kd_n52 {p : Nat} (h : kd p ≠ 4) : p ≠ 52 := fun e => h (kd_52.mpr e)
theorem ro_n52 {S : SV} {p j : Nat} (h : p ≠ 52) : ro S p j = p / 4 := by unfold ro; rw [if_neg h]
theorem live_ok {S : SV} {k t p : Nat} {a b c : Int32} (g1 : GA S) {TT : Prop} (g : GTx TT S k) (ht : t < S 0 19) (hc : cntT S t) (hs : sameT S t p a b c) : staR S p a b c ∧ ¬ twcR p a b c := by
  have hp := hs.1
  have hm := mny_kd p
  have hl := mny_le p
  have n0 : S 28 (3 * t) ≤ 24 := GT_n g g1 ht (j := 0) (by omega)
  have n1 := GT_n g g1 ht (j := 1) (by omega)
  have n2 := GT_n g g1 ht (j := 2) (by omega)
  have l0 := live_rn (j := 0) g ht hc (by rw [hp]; omega)
  have hd := (g.2.2.1 t ht).2.2.2.2.2
  rw [hp] at l0 hd
  have l1 : 2 ≤ mny p → rn S (ro S p 1) (S 28 (3 * t + 1)) := fun m => by
    have := live_rn (j := 1) g ht hc (by rw [hp]; omega)
    rw [hp] at this
    exact this
  have l2 : 3 ≤ mny p → rn S (ro S p 2) (S 28 (3 * t + 2)) := fun m => by
    have := live_rn (j := 2) g ht hc (by rw [hp]; omega)
    rw [hp] at this
    exact this
  rcases hs.2 with ⟨h2, e1, e2⟩ | ⟨e0, e1, e2⟩
  · have n52 : p ≠ 52 := kd_n52 (by omega)
    have m2 : 2 ≤ mny p := hm.1.mpr (by omega)
    have m3 : ¬ 3 ≤ mny p := fun w => by have := hm.2.mp w; omega
    have er : ro S p 1 = ro S p 0 := (ro_n52 n52).trans (ro_n52 n52).symm
    have l1' := l1 m2
    subst e1 e2
    refine ⟨⟨?_, fun _ => ?_, fun w => absurd w m3⟩, ?_⟩
    · rw [← er]; exact I_rn g1 l1'
    · rw [er]; exact I_rn g1 l0
    · rintro ⟨-, ⟨-, w⟩ | ⟨w, -⟩⟩
      · exact (hd n52).1 m2 ((nI_e (by omega) (by omega)).mp w).symm
      · exact m3 w
  · subst e0
    refine ⟨⟨I_rn g1 l0, fun m2 => ?_, fun m3 => ?_⟩, ?_⟩
    · rw [← e1.resolve_left (by omega)]; exact I_rn g1 (l1 m2)
    · rw [← e2.resolve_left (by omega)]; exact I_rn g1 (l2 m3)
    · rintro ⟨n52, ⟨m2, w⟩ | ⟨m3, w⟩⟩
      · rw [← e1.resolve_left (by omega)] at w
        exact (hd n52).1 m2 ((nI_e (by omega) (by omega)).mp w)
      · rw [← e2.resolve_left (by omega), ← e1.resolve_left (by omega)] at w
        rcases w with w | w
        · exact ((hd n52).2 m3).1 ((nI_e (by omega) (by omega)).mp w)
        · exact ((hd n52).2 m3).2 ((nI_e (by omega) (by omega)).mp w)
theorem sta_has {S : SV} {p : Nat} {a b c : Int32} (h : staR S p a b c) : hasR S p a b c := ⟨h.1.1, fun m => (h.2.1 m).1, fun m => (h.2.2 m).1⟩
/-- who can be first, second, third -/
abbrev cfnI (S : SV) (r : Nat) (a b c : Int32) : Prop := rns S r a ∧ (2 ≤ rng S r → rns S r b ∧ b ≠ a) ∧ (3 ≤ rng S r → rns S r c ∧ c ≠ a ∧ c ≠ b)
theorem c_canFinR {S : SV} {C : Mm} {r : Nat} (h : RCr S C r) (g : GA S) (a b c : Int32) : f_X1_canFinish r a b c C = some (b1 (cfnI S r a b c)) := by
  have hrn := GA_rng g r
  have h5 : mI C 4 r 5 = nI (rng S r) := h.2.2.2.2.2.1
  have l3 : nI (rng S r) < (3 : Int32) ↔ rng S r < 3 := nI_ltI (b := 3) (by omega) (by omega)
  have l1 : nI (rng S r) ≤ (1 : Int32) ↔ rng S r ≤ 1 := nI_leI (b := 1) (by omega) (by omega)
  have e33 : f_X1_canFinish_33 C r a b c = some (b1 (3 ≤ rng S r → rns S r c ∧ c ≠ a ∧ c ≠ b)) := by
    unfold f_X1_canFinish_33
    rw [h5, c_isRunning h g]
    simp only [ob_s, b1_if]
    by_cases q : rng S r < 3
    · rw [if_pos (l3.mpr q), b1_t (fun w => by omega)]
    · rw [if_neg (fun w => q (l3.mp w))]
      by_cases q1 : rns S r c
      · rw [if_pos q1]
        by_cases q2 : c = a
        · rw [if_pos q2, b1_f (fun w => (w (by omega)).2.1 q2)]
        · rw [if_neg q2]
          by_cases q3 : c = b
          · rw [if_pos q3, b1_f (fun w => (w (by omega)).2.2 q3)]
          · rw [if_neg q3, b1_t (fun _ => ⟨q1, q2, q3⟩)]
      · rw [if_neg q1, b1_f (fun w => q1 (w (by omega)).1)]
  unfold f_X1_canFinish
  rw [c_isRunning h g, c_isRunning h g, h5, e33]
  simp only [ob_s, b1_if]
  by_cases q0 : rns S r a
  · rw [if_pos q0]
    by_cases q : rng S r ≤ 1
    · rw [if_pos (l1.mpr q)]
      exact congrArg some (b1_congr ⟨fun w => ⟨q0, fun _ => by omega, w⟩, fun w => w.2.2⟩)
    · rw [if_neg (fun w => q (l1.mp w))]
      by_cases q1 : rns S r b
      · rw [if_pos q1]
        by_cases q2 : b = a
        · rw [if_pos q2, b1_f (fun w => (w.2.1 (by omega)).2 q2)]
        · rw [if_neg q2]
          exact congrArg some (b1_congr ⟨fun w => ⟨q0, fun _ => ⟨q1, q2⟩, w⟩, fun w => w.2.2⟩)
      · rw [if_neg q1, b1_f (fun w => q1 (w.2.1 (by omega)).1)]
  · rw [if_neg q0, b1_f (fun w => q0 w.1)]
abbrev cfp (S : SV) (p : Nat) (a b c : Int32) : Prop := (p ≠ 52 → cfnI S (p / 4) a b c) ∧ (p = 52 → rns S (S 0 17) a ∧ rns S (S 0 18) b)
theorem c_canFin {S : SV} {C : Mm} {p : Nat} (h : RC S C) (g1 : GA S) (g2 : GP S) (hp : S 15 p = 1) (a b c : Int32) : f_X0_canFinish p a b c C = some (b1 (cfp S p a b c)) := by
  have hpp := (h.2.2.1 p (by omega)).1
  have hr0 := h.2.1 _ (ro_p g1 g2 hp 0)
  have hr1 := h.2.1 _ (ro_p g1 g2 hp 1)
  have kl := kd_le p
  unfold f_X0_canFinish
  rw [hpp.1, hpp.2.1, hpp.2.2.1]
  simp only [ob_s]
  by_cases q : p = 52
  · have r0 : ro S p 0 = S 0 17 := by rw [q]; rfl
    have r1 : ro S p 1 = S 0 18 := by rw [q]; rfl
    rw [if_pos ((nI_4e (by omega)).mpr (kd_52.mpr q)), c_isRunning hr0 g1, c_isRunning hr1 g1]
    simp only [ob_s, b1_if]
    rw [r0, r1]
    by_cases q0 : rns S (S 0 17) a
    · rw [if_pos q0]
      by_cases q1 : rns S (S 0 18) b
      · rw [if_pos q1, b1_t ⟨fun w => absurd q w, fun _ => ⟨q0, q1⟩⟩]
      · rw [if_neg q1, b1_f (fun w => q1 (w.2 q).2)]
    · rw [if_neg q0, b1_f (fun w => q0 (w.2 q).1)]
  · have r0 : ro S p 0 = p / 4 := ro_n52 q
    rw [if_neg (fun w => q (kd_52.mp ((nI_4e (by omega)).mp w))), c_canFinR hr0 g1]
    simp only [ob_s]
    rw [zb_b, r0]
    exact congrArg some (b1_congr ⟨fun w => ⟨fun _ => w, fun e => absurd e q⟩, fun w => w.1 q⟩)
def e1u (u : Nat) : Nat := if u = 0 then 0 else 1
/-- what the house says of odds -/
def ifF (S : SV) (p : Nat) (a b c : Int32) : Nat :=
  if uo S p a b c = 0 then 0 else
  if kd p ≠ 1 then dvd (kd p) (S 17 p) (net S p) 1 (uo S p a b c) (uo S p a b c) else
  if lwp S (ro S p 0) < 2 then 0 else
  dvd 1 (S 17 p) (net S p) (1 + e1u (uo S p b 0 0) + (if lwp S (ro S p 0) < 3 then 0 else e1u (uo S p c 0 0))) (uo S p a b c + uo S p b 0 0 + (if lwp S (ro S p 0) < 3 then 0 else uo S p c 0 0)) (uo S p a b c)
theorem cap_le (f : Nat → Nat) : cap f ≤ 2 ^ 43 := by
  have : offN f ≤ 13 := sm1
  unfold cap
  have h : 2 ^ offN f ≤ 2 ^ 13 := Nat.pow_le_pow_right (by decide) this
  have h2 : 2 ^ 30 * (2 ^ offN f - 1) ≤ 2 ^ 30 * 2 ^ 13 := Nat.mul_le_mul_left _ (by omega)
  omega
theorem net_le {S : SV} {k p : Nat} {TT : Prop} (g : GTx TT S k) (h17 : S 17 p ≤ 1000) (h24 : S 24 p ≤ 2 ^ 43) : net S p < 2 ^ 50 := by
  have := stake_le g h17
  unfold net
  omega
theorem c_divFin {S : SV} {C : Mm} {k p : Nat} (h : RC S C) (g1 : GA S) (g2 : GP S) (g : GT S k) (g4 : GM S) (hp : S 15 p = 1) (a b c : Int32) : f_X0_dividendIfFinished p a b c C = some (lN (ifF S p a b c)) := by
  have hpp := (h.2.2.1 p (by omega)).1
  have hr0 := h.2.1 _ (ro_p g1 g2 hp 0)
  obtain ⟨-, -, -, -, a5, a6, -⟩ := g2.2.1 p hp
  have kl := kd_le p
  have hN := net_le g a5 (Nat.le_trans (g4.2.1 p) (cap_le _))
  have hu := uo_le g p a b c
  have hub := uo_le g p b 0 0
  have huc := uo_le g p c 0 0
  have hlw : lwp S (ro S p 0) ≤ 3 := by unfold lwp; split <;> (try split) <;> omega
  have l2 : (2 : Int32) ≤ nI (lwp S (ro S p 0)) ↔ 2 ≤ lwp S (ro S p 0) := nI_leI (a := 2) (by omega) (by omega)
  have l3 : (3 : Int32) ≤ nI (lwp S (ro S p 0)) ↔ 3 ≤ lwp S (ro S p 0) := nI_leI (a := 3) (by omega) (by omega)
  have lz : ∀ u, u ≤ 512000 → (lg_cmp (lN u) (0 : Int64) ≤ 0 ↔ u = 0) := fun u hu => by
    rw [lg_cmp_le, show (0 : Int64) = lN 0 from rfl, L_le (by omega) (by omega)]; omega
  have e113 : ∀ u1 u2 w0 w1, u1 ≤ 512000 → u2 ≤ 512000 → w0 ≤ 1 → w1 ≤ 2 → f_X0_dividendIfFinished_113 C p (lN (uo S p a b c)) (lN u1) (lN u2) (nI w0) (nI w1) = some (lN (if w1 + w0 = 0 ∨ uo S p a b c = 0 then 0 else dvd (kd p) (S 17 p) (net S p) (w1 + w0) (uo S p a b c + u1 + u2) (uo S p a b c))) := fun u1 u2 w0 w1 h1 h2 h3 h4 => by
    unfold f_X0_dividendIfFinished_113
    simp only [lt_e]
    rw [c_netNow h g2 g hp, nI_add, lN_add, lN_add]
    simp only [ob_s]
    rw [c_from hpp a5 a6 hN (by omega) (by omega) (by omega)]
    rfl
  have e100 : ∀ u1 u2 w, u1 ≤ 512000 → u2 ≤ 512000 → ∀ v, v ≤ 1 → w ≤ 1 → f_X0_dividendIfFinished_100 C p (lN (uo S p a b c)) (lN u1) (lN u2) (nI v) (nI w) = some (lN (if w + v + e1u u2 = 0 ∨ uo S p a b c = 0 then 0 else dvd (kd p) (S 17 p) (net S p) (w + v + e1u u2) (uo S p a b c + u1 + u2) (uo S p a b c))) := fun u1 u2 w h1 h2 v hv hw => by
    unfold f_X0_dividendIfFinished_100 e1u
    rw [nI_add]
    by_cases q : u2 = 0
    · rw [if_pos ((lz u2 h2).mpr q), if_pos q]
      exact e113 u1 u2 0 (w + v) h1 h2 (by omega) (by omega)
    · rw [if_neg (fun z => q ((lz u2 h2).mp z)), if_neg q]
      exact e113 u1 u2 1 (w + v) h1 h2 (by omega) (by omega)
  have e88 : ∀ u1 u2 w, u1 ≤ 512000 → u2 ≤ 512000 → w ≤ 1 → f_X0_dividendIfFinished_88 C p (lN (uo S p a b c)) (lN u1) (lN u2) (nI w) = some (lN (if w + e1u u1 + e1u u2 = 0 ∨ uo S p a b c = 0 then 0 else dvd (kd p) (S 17 p) (net S p) (w + e1u u1 + e1u u2) (uo S p a b c + u1 + u2) (uo S p a b c))) := fun u1 u2 w h1 h2 hw => by
    unfold f_X0_dividendIfFinished_88
    by_cases q : u1 = 0
    · rw [if_pos ((lz u1 h1).mpr q), show e1u u1 = 0 from if_pos q]
      exact e100 u1 u2 w h1 h2 0 (by omega) hw
    · rw [if_neg (fun z => q ((lz u1 h1).mp z)), show e1u u1 = 1 from if_neg q]
      exact e100 u1 u2 w h1 h2 1 (by omega) hw
  have e74 : ∀ u1 u2, u1 ≤ 512000 → u2 ≤ 512000 → f_X0_dividendIfFinished_74 C p (lN (uo S p a b c)) (lN u1) (lN u2) = some (lN (if uo S p a b c = 0 then 0 else dvd (kd p) (S 17 p) (net S p) (1 + e1u u1 + e1u u2) (uo S p a b c + u1 + u2) (uo S p a b c))) := fun u1 u2 h1 h2 => by
    unfold f_X0_dividendIfFinished_74
    by_cases q : uo S p a b c = 0
    · rw [if_pos ((lz _ hu).mpr q), if_pos q]
      refine (e88 u1 u2 0 h1 h2 (by omega)).trans ?_
      rw [if_pos (Or.inr q)]
    · rw [if_neg (fun z => q ((lz _ hu).mp z)), if_neg q]
      refine (e88 u1 u2 1 h1 h2 (by omega)).trans ?_
      rw [if_neg (c := 1 + e1u u1 + e1u u2 = 0 ∨ uo S p a b c = 0) (by omega)]
  unfold f_X0_dividendIfFinished
  rw [c_unitsOn h g hp, hpp.1, hpp.2.1]
  simp only [ob_s]
  unfold ifF
  by_cases q : kd p = 1
  · rw [if_pos ((nI_1e (by omega)).mpr q), c_lastWin hr0 g1]
    simp only [ob_s]
    by_cases q2 : 2 ≤ lwp S (ro S p 0)
    · rw [if_pos (l2.mpr q2), c_unitsOn h g hp, c_unitsOn h g hp]
      simp only [ob_s]
      rw [if_neg (c := kd p ≠ 1) (fun w => w q), if_neg (c := lwp S (ro S p 0) < 2) (by omega)]
      by_cases q3 : 3 ≤ lwp S (ro S p 0)
      · rw [if_pos (l3.mpr q3), e74 _ _ hub huc, if_neg (c := lwp S (ro S p 0) < 3) (by omega), if_neg (c := lwp S (ro S p 0) < 3) (by omega), q]
      · rw [if_neg (fun w => q3 (l3.mp w))]
        refine (e74 _ 0 hub (by omega)).trans ?_
        rw [if_pos (c := lwp S (ro S p 0) < 3) (by omega), if_pos (c := lwp S (ro S p 0) < 3) (by omega), q]
        rfl
    · rw [if_neg (fun w => q2 (l2.mp w)), if_neg (c := kd p ≠ 1) (fun w => w q), if_pos (c := lwp S (ro S p 0) < 2) (by omega)]
      split <;> rfl
  · rw [if_neg (fun w => q ((nI_1e (by omega)).mp w)), c_netNow h g2 g hp]
    simp only [ob_s]
    have := c_from (N := net S p) (k := 1) (W := uo S p a b c) (u := uo S p a b c) hpp a5 a6 hN (by omega) (by omega) (by omega)
    have this' : f_X0_dividendFrom p (lN (net S p)) (1 : Int32) (lN (uo S p a b c)) (lN (uo S p a b c)) C = _ := this
    rw [this', if_pos (c := kd p ≠ 1) q]
    simp only [ob_s]
    by_cases q2 : uo S p a b c = 0
    · rw [if_pos (Or.inr q2), if_pos q2]
    · rw [if_neg (c := 1 = 0 ∨ uo S p a b c = 0) (by omega), if_neg q2]
/-- where a, b, c come in first, second, third -/
theorem pos_le {x y z m n : Nat} : pos x y z m n ≤ 3 := by
  unfold pos
  split
  · omega
  · split
    · omega
    · split <;> omega
theorem pos_1 {x y z m n : Nat} : pos x y z m n = 1 ↔ n = x := by
  unfold pos
  by_cases h : n = x
  · rw [if_pos h]; exact ⟨fun _ => h, fun _ => rfl⟩
  · rw [if_neg h]
    refine ⟨fun w => ?_, fun w => absurd w h⟩
    split at w
    · omega
    · split at w <;> omega
theorem pos_2 {x y z m n : Nat} (hy : y ≠ x) : pos x y z m n = 2 ↔ (2 ≤ m ∧ n = y) := by
  unfold pos
  by_cases h : n = x
  · rw [if_pos h]; exact ⟨fun w => by omega, fun w => by omega⟩
  · rw [if_neg h]
    by_cases h2 : 2 ≤ m ∧ n = y
    · rw [if_pos h2]; exact ⟨fun _ => h2, fun _ => rfl⟩
    · rw [if_neg h2]
      refine ⟨fun w => ?_, fun w => absurd w h2⟩
      split at w <;> omega
theorem pos_3 {x y z m n : Nat} (hx : z ≠ x) (hy : 2 ≤ m → z ≠ y) : pos x y z m n = 3 ↔ (3 ≤ m ∧ n = z) := by
  unfold pos
  by_cases h : n = x
  · rw [if_pos h]; exact ⟨fun w => by omega, fun w => by omega⟩
  · rw [if_neg h]
    by_cases h2 : 2 ≤ m ∧ n = y
    · rw [if_pos h2]
      refine ⟨fun w => by omega, fun w => ?_⟩
      have := hy h2.1
      omega
    · rw [if_neg h2]
      by_cases h3 : 3 ≤ m ∧ n = z
      · rw [if_pos h3]; exact ⟨fun _ => h3, fun _ => rfl⟩
      · rw [if_neg h3]; exact ⟨fun w => by omega, fun w => absurd w h3⟩
theorem GOr_sup {S : SV} {r x y z m : Nat} (vx : 1 ≤ x ∧ x ≤ S 10 r) (vy : 2 ≤ m → (1 ≤ y ∧ y ≤ S 10 r) ∧ y ≠ x) (vz : 3 ≤ m → z ≠ x ∧ z ≠ y) (hp : ∀ n, 1 ≤ n → n ≤ S 10 r → S 14 (25 * r + n) = pos x y z m n) : GOr S r := by
  intro n h1 h2 h3
  show S 14 (25 * r + n) = 1 + pld S r (S 14 (25 * r + n))
  rw [hp n h1 h2] at h3 ⊢
  have les_p : ∀ b k, 1 ≤ k → k ≤ S 10 r → (les S r b k ↔ (0 < pos x y z m k ∧ pos x y z m k < b)) := fun b k k1 k2 => by
    show (0 < S 14 (25 * r + k) ∧ S 14 (25 * r + k) < b) ↔ _
    rw [hp k k1 k2]
  have pl := pos_le (x := x) (y := y) (z := z) (m := m) (n := n)
  have hc : pos x y z m n = 1 ∨ pos x y z m n = 2 ∨ pos x y z m n = 3 := by omega
  have ex : pos x y z m x = 1 := pos_1.mpr rfl
  rcases hc with e | e | e
  · rw [e, pld_0 (fun k k1 k2 w => by have := (les_p 1 k k1 k2).mp w; omega)]
  · have hm : 2 ≤ m := by
      unfold pos at e
      split at e
      · omega
      · split at e
        · rename_i w; exact w.1
        · split at e <;> omega
    have hy := (vy hm)
    rw [e]
    have h4 := pld_le1 (S := S) (r := r) (b := 2) (x := x) (fun k k1 k2 w => by
      have w2 := (les_p 2 k k1 k2).mp w
      exact (pos_1 (x := x) (y := y) (z := z) (m := m) (n := k)).mp (by omega))
    have h5 := pld_ge1 (b := 2) vx ((les_p 2 x vx.1 vx.2).mpr (by omega))
    omega
  · have hm : 3 ≤ m := by
      unfold pos at e
      split at e
      · omega
      · split at e
        · omega
        · split at e
          · rename_i w; exact w.1
          · omega
    have hy := (vy (by omega))
    have ey : pos x y z m y = 2 := (pos_2 hy.2).mpr ⟨by omega, rfl⟩
    rw [e]
    have h4 := pld_le2 (S := S) (r := r) (b := 3) (x := x) (y := y) (fun k k1 k2 w => by
      have w2 := (les_p 3 k k1 k2).mp w
      have : pos x y z m k = 1 ∨ pos x y z m k = 2 := by omega
      rcases this with u | u
      · exact Or.inl (pos_1.mp u)
      · exact Or.inr ((pos_2 hy.2).mp u).2)
    have h5 := pld_ge2 (b := 3) vx hy.1 (Ne.symm hy.2) ((les_p 3 x vx.1 vx.2).mpr (by omega)) ((les_p 3 y hy.1.1 hy.1.2).mpr (by omega))
    omega
