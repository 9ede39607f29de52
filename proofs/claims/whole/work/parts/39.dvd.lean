/-! ===== what wins, kind by kind; the call dividend ===== -/
theorem nI_any (b : Int32) : ∃ n, b = nI n ∧ (0 ≤ b.toInt → (n : Int) = b.toInt) := by
  by_cases q : 0 ≤ b.toInt
  · obtain ⟨e1, e2⟩ := i_of q
    exact ⟨_, e1, fun _ => e2⟩
  · refine ⟨b.toBitVec.toNat, ?_, fun z => absurd z q⟩
    apply Int32.toBitVec_inj.mp
    show b.toBitVec = BitVec.ofNat 32 b.toBitVec.toNat
    rw [BitVec.ofNat_toNat, BitVec.setWidth_eq]
theorem wns_0 {S : SV} {p a b c : Nat} (h : kd p = 0) : wns S p a b c ↔ wth S (ro S p 0) a 1 := by
  unfold wns; rw [h]; simp
theorem wns_1 {S : SV} {p a b c : Nat} (h : kd p = 1) : wns S p a b c ↔ wth S (ro S p 0) a (lwp S (ro S p 0)) := by
  unfold wns; rw [h]; simp
theorem wns_2 {S : SV} {p a b c : Nat} (h : kd p = 2) : wns S p a b c ↔ (wth S (ro S p 0) a 2 ∧ wth S (ro S p 0) b 2 ∧ (wth S (ro S p 0) a 1 ∨ wth S (ro S p 0) b 1)) := by
  unfold wns; rw [h]; simp
theorem wns_3 {S : SV} {p a b c : Nat} (h : kd p = 3) : wns S p a b c ↔ (wth S (ro S p 0) a 1 ∧ wth S (ro S p 0) b 2 ∧ wth S (ro S p 0) c 3) := by
  unfold wns; rw [h]; simp
theorem wns_4 {S : SV} {p a b c : Nat} (h : kd p = 4) : wns S p a b c ↔ (wth S (ro S p 0) a 1 ∧ wth S (ro S p 1) b 1) := by
  unfold wns; rw [h]; simp
theorem kd_5 (p : Nat) : kd p = 0 ∨ kd p = 1 ∨ kd p = 2 ∨ kd p = 3 ∨ kd p = 4 := by have := kd_le p; omega
theorem wns_same {S : SV} {t p x y z : Nat} (h : sameT S t p (nI x) (nI y) (nI z)) (hx : x < 25) (hy : 2 ≤ mny p → y < 25) (hz : 3 ≤ mny p → z < 25) (n1 : S 28 (3 * t) ≤ 24) (n2 : S 28 (3 * t + 1) ≤ 24) (n3 : S 28 (3 * t + 2) ≤ 24) : wns S p (S 28 (3 * t)) (S 28 (3 * t + 1)) (S 28 (3 * t + 2)) ↔ wns S p x y z := by
  have hm := mny_kd p
  obtain ⟨-, h⟩ := h
  have hx2 : x < 2 ^ 31 := by omega
  have l1 : S 28 (3 * t) < 2 ^ 31 := by omega
  have l2 : S 28 (3 * t + 1) < 2 ^ 31 := by omega
  have l3 : S 28 (3 * t + 2) < 2 ^ 31 := by omega
  rcases kd_5 p with q | q | q | q | q
  · rw [wns_0 q, wns_0 q]
    rcases h with h | h
    · exact absurd (q.symm.trans h.1) (by decide)
    · rw [(nI_e l1 hx2).mp h.1]
  · rw [wns_1 q, wns_1 q]
    rcases h with h | h
    · exact absurd (q.symm.trans h.1) (by decide)
    · rw [(nI_e l1 hx2).mp h.1]
  · have m2 : 2 ≤ mny p := hm.1.mpr (by rw [q]; decide)
    have hy' := hy m2
    have hy2 : y < 2 ^ 31 := Nat.lt_trans hy' (by decide)
    rw [wns_2 q, wns_2 q]
    rcases h with h | h
    · rw [(nI_e l1 hy2).mp h.2.1, (nI_e l2 hx2).mp h.2.2]
      exact ⟨fun w => ⟨w.2.1, w.1, w.2.2.symm⟩, fun w => ⟨w.2.1, w.1, w.2.2.symm⟩⟩
    · rw [(nI_e l1 hx2).mp h.1, (nI_e l2 hy2).mp (h.2.1.resolve_left (Nat.not_lt.mpr m2))]
  · have m3 : 3 ≤ mny p := hm.2.mpr q
    have m2 : 2 ≤ mny p := Nat.le_trans (by decide) m3
    have hy' := hy m2
    have hz' := hz m3
    have hy2 : y < 2 ^ 31 := Nat.lt_trans hy' (by decide)
    have hz2 : z < 2 ^ 31 := Nat.lt_trans hz' (by decide)
    rw [wns_3 q, wns_3 q]
    rcases h with h | h
    · exact absurd (q.symm.trans h.1) (by decide)
    · rw [(nI_e l1 hx2).mp h.1, (nI_e l2 hy2).mp (h.2.1.resolve_left (Nat.not_lt.mpr m2)), (nI_e l3 hz2).mp (h.2.2.resolve_left (Nat.not_lt.mpr m3))]
  · have m2 : 2 ≤ mny p := hm.1.mpr (by rw [q]; decide)
    have hy' := hy m2
    have hy2 : y < 2 ^ 31 := Nat.lt_trans hy' (by decide)
    rw [wns_4 q, wns_4 q]
    rcases h with h | h
    · exact absurd (q.symm.trans h.1) (by decide)
    · rw [(nI_e l1 hx2).mp h.1, (nI_e l2 hy2).mp (h.2.1.resolve_left (Nat.not_lt.mpr m2))]
theorem uo_same {S : SV} {t p : Nat} {a b c : Int32} (h : sameT S t p a b c) : uoT S t = uo S p a b c := by
  have hp := h.1
  unfold uoT uo
  rw [hp]
  refine sm_congr (fun q _ => ?_)
  have e := same_eq h q
  by_cases w : cntT S q ∧ sameT S q p a b c
  · rw [if_pos w, if_pos ⟨w.1, e.mp w.2⟩]
  · rw [if_neg w, if_neg (fun z => w ⟨z.1, e.mpr z.2⟩)]
theorem uo_pos {S : SV} {t p : Nat} {a b c : Int32} (ht : t < S 0 19) (h29 : 1 ≤ S 29 t) (hc : cntT S t) (h : sameT S t p a b c) : 1 ≤ uo S p a b c := by
  have := sm_ge (f := fun t => if cntT S t ∧ sameT S t p a b c then S 29 t else 0) ht
  rw [if_pos (c := cntT S t ∧ sameT S t p a b c) ⟨hc, h⟩] at this
  exact Nat.le_trans h29 this
theorem c_from0 {C : Mm} {p : Nat} {x w : Int64} {k : Int32} : f_X0_dividendFrom p x k w (lN 0) C = some (lN 0) := by
  unfold f_X0_dividendFrom
  by_cases q : k < 1
  · rw [if_pos q]; rfl
  · rw [if_neg q, if_neg (by decide)]; rfl
/-- what the house reckons for what is named in a pool that is settled -/
def dv0 (S : SV) (p N W x y z : Nat) : Nat := if wns S p x y z then (if S 26 p = 0 ∨ uo S p (nI x) (nI y) (nI z) = 0 then 0 else dvd (kd p) (S 17 p) N (S 26 p) W (uo S p (nI x) (nI y) (nI z))) else 0
theorem c_dividendOf {S : SV} {C : Mm} {k p x y z N W : Nat} (h : RC S C) (g1 : GA S) {DD : Nat → Prop} {ZZ : Prop} (g2 : GPx DD ZZ S) {TT : Prop} (g : GTx TT S k) (hp : S 15 p = 1) (hx : x < 25) (hy : 2 ≤ mny p → y < 25) (hz : 3 ≤ mny p → z < 25) (h26 : S 26 p ≤ 512) (hN : N < 2 ^ 50) (hW : W < 2 ^ 30) (e8 : mJ C 7 p 8 = lN W) (e9 : mJ C 7 p 9 = lN N) : f_X0_dividendOf p (nI x) (nI y) (nI z) C = some (lN (dv0 S p N W x y z)) := by
  have hpp := (h.2.2.1 p (by omega)).1
  obtain ⟨-, -, -, -, a5, a6, -⟩ := g2.2.1 p hp
  have hu := uo_le g p (nI x) (nI y) (nI z)
  have h7 : mI C 7 p 7 = nI (S 26 p) := hpp.2.2.2.2.2.2.2.1
  unfold f_X0_dividendOf dv0
  rw [c_isWon h g1 g2 hp hx hy hz]
  simp only [ob_s, b1_if]
  by_cases q : wns S p x y z
  · rw [if_pos q, if_pos q, c_unitsOn h g hp]
    simp only [ob_s]
    unfold f_X0_dividendOn
    rw [e8, e9, h7, c_from hpp a5 a6 hN (by omega) hW (by omega)]
    rfl
  · rw [if_neg q, if_neg q]; rfl
theorem c_dividendOf0 {S : SV} {C : Mm} {k p x y z : Nat} (h : RC S C) (g1 : GA S) {DD : Nat → Prop} {ZZ : Prop} (g2 : GPx DD ZZ S) {TT : Prop} (g : GTx TT S k) (hp : S 15 p = 1) (hx : x < 25) (hy : 2 ≤ mny p → y < 25) (hz : 3 ≤ mny p → z < 25) (hu : uo S p (nI x) (nI y) (nI z) = 0) : f_X0_dividendOf p (nI x) (nI y) (nI z) C = some (lN 0) := by
  unfold f_X0_dividendOf
  rw [c_isWon h g1 g2 hp hx hy hz]
  simp only [ob_s, b1_if]
  by_cases q : wns S p x y z
  · rw [if_pos q, c_unitsOn h g hp, hu]
    simp only [ob_s]
    unfold f_X0_dividendOn
    rw [c_from0]; rfl
  · rw [if_neg q]; rfl
theorem uo_none {S : SV} {p : Nat} {a b c : Int32} (h : ∀ t, t < S 0 19 → ¬ (cntT S t ∧ sameT S t p a b c)) : uo S p a b c = 0 := sm_zero (fun t ht => if_neg (h t ht))
theorem m_div49 {S : SV} {R : Mm} {k p V : Nat} {a b c : Int32} (h : RM S R) (g1 : GA S) (g2 : GP S) (g : GT S k) (hp : p ≤ 52) (hV : ∀ t, t < S 0 19 → cntT S t → sameT S t p a b c → S 31 t = V) (h0 : (∀ t, t < S 0 19 → ¬ (cntT S t ∧ sameT S t p a b c)) → V = 0) : f_X4_dividend_49 FU 0 a b c (nI p) (0 : Int32) R = some ((lN V).toInt32, R) := by
  have hT := GT_T g
  have key : ∀ n j, j ≤ S 0 19 → S 0 19 < j + n → (∀ t, t < j → ¬ (cntT S t ∧ sameT S t p a b c)) → f_X4_dividend_49 n 0 a b c (nI p) (nI j) R = some ((lN V).toInt32, R) := by
    intro n
    induction n with
    | zero => intro j h1 h2; omega
    | succ n ih =>
      intro j h1 h2 hno
      rw [f_X4_dividend_49, RM_T h]
      by_cases q : j = S 0 19
      · rw [if_pos ((i_le_n (by omega) (by omega)).mpr (by omega)), h0 (by rw [← q]; exact hno)]; rfl
      · have hj : j < S 0 19 := by omega
        rw [if_neg (fun z => by have := (i_le_n (by omega) (by omega)).mp z; omega), m_counts h (by omega) (GT_t g hj).2.2.2]
        simp only [ob_s, lt_e, b1_if]
        have step : ¬ (cntT S j ∧ sameT S j p a b c) → f_X4_dividend_49 n 0 a b c (nI p) (nI j + (1 : Int32)) R = some ((lN V).toInt32, R) := fun hne => by
          rw [nI_1]
          refine ih (j + 1) (by omega) (by omega) (fun t ht => ?_)
          by_cases e : t = j
          · subst e; exact hne
          · exact hno t (by omega)
        by_cases q1 : cntT S j
        · rw [if_pos q1, m_isSame h g g1 g2 hj hp]
          simp only [ob_s, b1_if]
          by_cases q2 : sameT S j p a b c
          · rw [if_pos q2, RM_ref h 24]
            simp only [ob_s]
            rw [ix_n (by omega) (by omega), nI_cl (by omega), RM_J h 31, hV j hj q1 q2]
          · rw [if_neg q2]; exact step (fun z => q2 z.2)
        · rw [if_neg q1]; exact step (fun z => q1 z.1)
  exact key FU 0 (by omega) (by show S 0 19 < 0 + 1000; omega) (fun t ht => absurd ht (Nat.not_lt_zero t))
/-- a ticket that counts has what the house reckons -/
theorem dv0_eq {S : SV} {C : Mm} {k t p x y z N W : Nat} (g1 : GA S) (g : GT S k) (hd : ∀ t, t < S 0 19 → S 27 t = p → cntT S t → S 31 t = if wnT S t then dvd (kd p) (S 17 p) N (S 26 p) W (uoT S t) else 0) (hx : x < 25) (hy : 2 ≤ mny p → y < 25) (hz : 3 ≤ mny p → z < 25) (ht : t < S 0 19) (hc : cntT S t) (hs : sameT S t p (nI x) (nI y) (nI z)) : S 31 t = dv0 S p N W x y z := by
  have e1 := wns_same hs hx hy hz (GT_n g g1 ht (j := 0) (by omega)) (GT_n g g1 ht (j := 1) (by omega)) (GT_n g g1 ht (j := 2) (by omega))
  have e2 := uo_same hs
  have e3 := uo_pos ht (GT_t g ht).2.1 hc hs
  have hp := hs.1
  rw [hd t ht hp hc]
  unfold dv0 wnT
  rw [hp, e2]
  by_cases q : wns S p x y z
  · rw [if_pos q, if_pos (e1.mpr q)]
    by_cases q2 : S 26 p = 0
    · rw [if_pos (Or.inl q2), q2]
      unfold dvd
      by_cases q3 : kd p ≠ 1
      · rw [if_pos q3, Nat.div_zero, Nat.zero_div, Nat.zero_div]
      · rw [if_neg q3, if_pos rfl]
    · rw [if_neg (c := S 26 p = 0 ∨ uo S p (nI x) (nI y) (nI z) = 0) (by omega)]
  · rw [if_neg q, if_neg (fun w => q (e1.mp w))]
theorem hasR_n {S : SV} {p : Nat} {a b c : Int32} (g1 : GA S) (h : hasR S p a b c) : ∃ x y z, a = nI x ∧ b = nI y ∧ c = nI z ∧ x < 25 ∧ (2 ≤ mny p → y < 25) ∧ (3 ≤ mny p → z < 25) := by
  obtain ⟨x, ex, fx⟩ := nI_any a
  obtain ⟨y, ey, fy⟩ := nI_any b
  obtain ⟨z, ez, fz⟩ := nI_any c
  obtain ⟨h1, h2, h3⟩ := h
  have l0 := GA_10 g1 (ro S p 0)
  have l1 := GA_10 g1 (ro S p 1)
  have l2 := GA_10 g1 (ro S p 2)
  refine ⟨x, y, z, ex, ey, ez, ?_, fun m => ?_, fun m => ?_⟩
  · have := h1.1
    have := h1.2
    have := fx (by omega)
    omega
  · have h := h2 m
    have := h.1
    have := h.2
    have := fy (by omega)
    omega
  · have h := h3 m
    have := h.1
    have := h.2
    have := fz (by omega)
    omega
theorem s_dividend : S_dividend Inv := by
  intro k C R v w a b c hk hI
  obtain ⟨S, hR, hC, g1, g2, g3, g4, g5⟩ := hI
  unfold f_X3_dividend f_X4_dividend
  rw [c_poolOf hC g1, m_poolOf hR g1 g2]
  simp only [ob_s]
  cases hp : pOf S v w with
  | none => exact ⟨-1, R, rfl, rfl, Inv_st hR hC g1 g2 g3 hk g4 g5⟩
  | some p =>
    obtain ⟨p1, p2, -⟩ := pOf_s g1 g2 hp
    have hpp := (hC.2.2.1 p (by omega)).1
    have h18 := (g2.2.1 p p2).2.2.2.2.2.2.1
    have h6 : mI C 7 p 6 = nI (S 18 p) := hpp.2.2.2.2.2.2.1
    obtain ⟨R', e1, hR', hn⟩ := m_names hR a b c
    rw [on_s, h6]
    show ∃ r R'', _ ∧ (if nI p = (-1 : Int32) then _ else ob (mR R 0 0 8) fun i47 => ix (nI p) 53 (if mI R 18 i47 (nI p).toNatClampNeg = 0 then (some ((-1 : Int32), R)) else ob (f_X4_names 0 a b c R) fun M54 => ob (f_X4_named 0 (nI p) M54) fun r57 => if 0 ≤ r57 then (f_X4_dividend_49 FU 0 a b c (nI p) (0 : Int32) M54) else (some ((-1 : Int32), M54)))) = _ ∧ _
    rw [if_neg (pI_n p1), RM_ref hR 8]
    simp only [ob_s]
    rw [ix_n (by omega) (by omega), nI_cl (by omega), RM_I hR 18]
    by_cases q : S 18 p = 0
    · rw [if_pos ((nI_z (by omega)).mpr q), if_pos ((nI_z (by omega)).mpr q)]
      exact ⟨-1, R, rfl, rfl, Inv_st hR hC g1 g2 g3 hk g4 g5⟩
    · rw [if_neg (fun z => q ((nI_z (by omega)).mp z)), if_neg (fun z => q ((nI_z (by omega)).mp z)), c_canBeNamed hC g1 g2 p2, e1]
      simp only [ob_s]
      rw [m_named hR' g1 g2 p2 hn]
      simp only [ob_s, b1_if]
      have hI' := Inv_st hR' hC g1 g2 g3 hk g4 g5
      by_cases q1 : hasR S p a b c
      · rw [if_pos q1]
        by_cases q2 : twcR p a b c
        · rw [if_pos q2, if_neg (fun z => z.2 q2), if_neg (by decide)]
          exact ⟨_, _, rfl, rfl, hI'⟩
        · rw [if_neg q2, if_pos ⟨q1, q2⟩, if_pos (by decide)]
          obtain ⟨x, y, z, rfl, rfl, rfl, hx, hy, hz⟩ := hasR_n g1 q1
          by_cases q3 : S 18 p = 1
          · obtain ⟨N, W, y1, y2, y3, y4, y5⟩ := (hC.2.2.1 p (by omega)).2.2 q3
            rw [c_dividendOf hC g1 g2 g3 p2 hx hy hz (g4.2.2.2 p) y1 y2 y3 y4, m_div49 (V := dv0 S p N W x y z) hR' g1 g2 g3 p1 (fun t ht hc hs => dv0_eq (C := C) g1 g3 y5 hx hy hz ht hc hs) (fun hno => ?_)]
            · exact ⟨_, _, rfl, rfl, hI'⟩
            · unfold dv0
              by_cases w : wns S p x y z
              · rw [if_pos w, if_pos (Or.inr (uo_none hno))]
              · rw [if_neg w]
          · have hno : ∀ t, t < S 0 19 → ¬ (cntT S t ∧ sameT S t p (nI x) (nI y) (nI z)) := fun t ht hh => by
              have e := hh.2.1
              exact g3.2.2.2.2.2 t ht (by rw [e]; omega) hh.1
            rw [c_dividendOf0 hC g1 g2 g3 p2 hx hy hz (uo_none hno), m_div49 (V := 0) hR' g1 g2 g3 p1 (fun t ht hc hs => absurd ⟨hc, hs⟩ (hno t ht)) (fun _ => rfl)]
            exact ⟨_, _, rfl, rfl, hI'⟩
      · rw [if_neg q1, if_neg (fun z => q1 z.1), if_neg (by decide)]
        exact ⟨_, _, rfl, rfl, hI'⟩
