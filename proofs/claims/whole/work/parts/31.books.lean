/-! ===== the calls unclaimed, close ===== -/
def sJn : Nat → (Nat → Int64) → Int64
  | 0, _ => 0
  | n + 1, f => sJn n f + f n
theorem pOf_n {S : SV} (g1 : GA S) {DD : Nat → Prop} {ZZ : Prop} (g2 : GPx DD ZZ S) {r j : Nat} (hr : r ≤ 12) (hj : j < 4) : pOf S (nI r) (nI j) = if S 15 (4 * r + j) = 0 then none else some (4 * r + j) := by
  unfold pOf
  rw [if_neg (fun z => by have := (nI_4e (by omega)).mp z; omega)]
  have h15 := g2.1 (4 * r + j)
  by_cases q : S 10 r = 0
  · have e : rOf S (nI r) = none := by
      unfold rOf
      rw [nI_tI (by omega), nI_cl (by omega), if_neg (fun z => z.2.2 q)]
    rw [e, if_pos]
    by_cases z : S 15 (4 * r + j) = 1
    · have := (g2.2.1 _ z).2.1
      rw [show (4 * r + j) / 4 = r by omega] at this
      omega
    · omega
  · have h1 := (g1.1 r q).1
    have e : rOf S (nI r) = some r := by
      unfold rOf
      rw [nI_tI (by omega), nI_cl (by omega), if_pos ⟨by omega, by omega, q⟩]
    rw [e]
    show (if 0 ≤ (nI j).toInt ∧ (nI j).toInt ≤ 3 ∧ S 15 (4 * r + (nI j).toNatClampNeg) ≠ 0 then some (4 * r + (nI j).toNatClampNeg) else none) = _
    rw [nI_tI (by omega), nI_cl (by omega)]
    by_cases q2 : S 15 (4 * r + j) = 0
    · rw [if_pos q2, if_neg (fun z => z.2.2 q2)]
    · rw [if_neg q2, if_pos ⟨by omega, by omega, q2⟩]
def ucl (S : SV) (p : Nat) : Int64 := lN (S 20 p) - lN (S 25 p)
theorem ucl_0 {S : SV} (g2 : GP S) {p : Nat} (h : S 15 p = 0) : ucl S p = 0 := by
  have h1 := (g2.2.2.2.2.1 p h).1
  have h2 := g2.2.2.2.2.2 p h1
  unfold ucl
  rw [h2.2.1, h2.2.2.2.2.2.1]; rfl
theorem c_uclOf {S : SV} {C : Mm} {p : Nat} (h : RC S C) (g2 : GP S) : f_X3_unclaimedOf (if S 15 p = 0 then none else some p) C = some (ucl S p) := by
  unfold f_X3_unclaimedOf
  by_cases q : S 15 p = 0
  · rw [if_pos q, on_n, ucl_0 g2 q]
  · rw [if_neg q, on_s]
    have hp := (h.2.2.1 p q).1
    obtain ⟨-, -, -, -, -, -, -, -, -, h11, -, -, -, -, h16⟩ := hp
    rw [h11, h16]; rfl
theorem low0 {S : SV} (g1 : GA S) {DD : Nat → Prop} {ZZ : Prop} (g2 : GPx DD ZZ S) {p : Nat} (hp : p < 4) : S 15 p = 0 := by
  have h15 := g2.1 p
  by_cases z : S 15 p = 1
  · have h := (g2.2.1 _ z).2.1
    rw [show p / 4 = 0 by omega] at h
    have := h.resolve_left (by omega)
    have := (g1.1 0 this).1
    omega
  · omega
theorem lt_13 {r : Nat} (h : r < 2 ^ 31) : (12 : Int32) < nI r ↔ 12 < r := nI_ltI (a := 12) (by omega) h
theorem lt_4 {r : Nat} (h : r < 2 ^ 31) : (3 : Int32) < nI r ↔ 3 < r := nI_ltI (a := 3) (by omega) h
theorem lt_53 {r : Nat} (h : r < 2 ^ 31) : (52 : Int32) < nI r ↔ 52 < r := nI_ltI (a := 52) (by omega) h
theorem c_unclaimed {S : SV} {C : Mm} (h : RC S C) (g1 : GA S) (g2 : GP S) : f_X3_unclaimed 0 C = some (sJn 53 (ucl S)) := by
  have inner : ∀ (K : Nat → Int64 → Int32 → Option Int64) (n r j : Nat), r ≤ 12 → j ≤ 4 → 4 < j + n → f_X3_unclaimed_13 C K n 0 (sJn (4 * r + j) (ucl S)) (nI r) (nI j) = K 0 (sJn (4 * r + 4) (ucl S)) (nI (r + 1)) := by
    intro K n
    induction n with
    | zero => intro r j h1 h2 h3; omega
    | succ n ih =>
      intro r j h1 h2 h3
      rw [f_X3_unclaimed_13]
      by_cases q : j = 4
      · subst q
        rw [if_pos ((lt_4 (by omega)).mpr (by omega)), lt_e, nI_1]
      · rw [if_neg (fun z => by have := (lt_4 (by omega)).mp z; omega), c_poolOf h g1, pOf_n g1 g2 h1 (by omega)]
        simp only [ob_s, lt_e]
        rw [c_uclOf h g2]
        simp only [ob_s]
        rw [nI_1]
        exact ih r (j + 1) h1 (by omega) (by omega)
  have outer : ∀ n r, 1 ≤ r → r ≤ 13 → 13 < r + n → f_X3_unclaimed_4 C n 0 (sJn (4 * r) (ucl S)) (nI r) = some (sJn 53 (ucl S)) := by
    intro n
    induction n with
    | zero => intro r h1 h2 h3; omega
    | succ n ih =>
      intro r h1 h2 h3
      rw [f_X3_unclaimed_4]
      by_cases q : r = 13
      · subst q
        rw [if_pos ((lt_13 (by omega)).mpr (by omega)), h.1.2.2.2.1, c_uclOf h g2]
        rfl
      · rw [if_neg (fun z => by have := (lt_13 (by omega)).mp z; omega)]
        have := inner (f_X3_unclaimed_4 C n) FU r 0 (by omega) (by omega) (by show 4 < 0 + 1000; omega)
        refine this.trans ?_
        exact ih (r + 1) (by omega) (by omega) (by omega)
  unfold f_X3_unclaimed
  have e0 : sJn 4 (ucl S) = 0 := by
    show (((0 + ucl S 0) + ucl S 1) + ucl S 2) + ucl S 3 = 0
    rw [ucl_0 g2 (low0 g1 g2 (by omega)), ucl_0 g2 (low0 g1 g2 (by omega)), ucl_0 g2 (low0 g1 g2 (by omega)), ucl_0 g2 (low0 g1 g2 (by omega))]; rfl
  have := outer FU 1 (by omega) (by omega) (by show 13 < 1 + 1000; omega)
  rw [show 4 * 1 = 4 from rfl, e0] at this
  exact this
theorem m_unclaimed {S : SV} {R : Mm} (h : RM S R) : f_X4_unclaimed 0 R = some (sJn 53 (ucl S)) := by
  have key : ∀ n p, p ≤ 53 → 53 < p + n → f_X4_unclaimed_4 R n 0 (sJn p (ucl S)) (nI p) = some (sJn 53 (ucl S)) := by
    intro n
    induction n with
    | zero => intro p h1 h2; omega
    | succ n ih =>
      intro p h1 h2
      rw [f_X4_unclaimed_4]
      by_cases q : p = 53
      · subst q
        rw [if_pos ((lt_53 (by omega)).mpr (by omega))]
      · rw [if_neg (fun z => by have := (lt_53 (by omega)).mp z; omega), RM_ref h 10, RM_ref h 15]
        simp only [ob_s, lt_e]
        rw [ix_n (by omega) (by omega), ix_n (by omega) (by omega), nI_cl (by omega), RM_J h 20, RM_J h 25, nI_1]
        exact ih (p + 1) (by omega) (by omega)
  unfold f_X4_unclaimed
  exact key FU 0 (by omega) (by show 53 < 0 + 1000; omega)
theorem s_unclaimed : S_unclaimed Inv := by
  intro k C R hk hI
  obtain ⟨S, hR, hC, g1, g2, g3, g4, g5⟩ := hI
  exact ⟨_, c_unclaimed hC g1 g2, m_unclaimed hR, Inv_st hR hC g1 g2 g3 hk g4 g5⟩
/-- the books of a pool -/
def inn (S : SV) (p : Nat) : Int64 := lN (stk S p) + lN (S 24 p) + lN (S 22 p)
def out (S : SV) (p : Nat) : Int64 := lN (cst S p 2) + lN (S 19 p) + lN (S 20 p) + lN (S 21 p) + lN (S 23 p)
def bcode (p : Nat) : Int32 := nI (100 * (if p = 52 then 13 else p / 4) + kd p + 1)
def fbk (S : SV) : Nat → Nat → Int32
  | 0, _ => 0
  | n + 1, p => if S 15 p ≠ 0 ∧ ¬ lg_cmp (inn S p) (out S p) = 0 then bcode p else fbk S n (p + 1)
theorem c_books {S : SV} {C : Mm} {k p : Nat} (h : RC S C) (g : GT S k) (g2 : GP S) : f_X3_booksAddUp (if S 15 p = 0 then none else some p) C = some (b1 (¬ (S 15 p ≠ 0 ∧ ¬ lg_cmp (inn S p) (out S p) = 0))) := by
  unfold f_X3_booksAddUp
  by_cases q : S 15 p = 0
  · rw [if_pos q, on_n]
    unfold b1
    rw [if_pos (c := ¬ (S 15 p ≠ 0 ∧ ¬ lg_cmp (inn S p) (out S p) = 0)) (fun z => z.1 q)]
  · rw [if_neg q, on_s]
    have hp1 : S 15 p = 1 := by have := g2.1 p; omega
    have hp := (h.2.2.1 p q).1
    obtain ⟨-, -, -, -, -, -, -, -, h10, h11, h12, h13, h14, h15, -⟩ := hp
    unfold f_X0_moneyIn f_X0_moneyOut
    rw [c_stakedCents h g g2 hp1, c_refunded h g g2 hp1, h10, h11, h12, h13, h14, h15]
    simp only [ob_s]
    show (if lg_cmp (inn S p) (out S p) = 0 then some (1 : Int32) else some 0) = _
    rw [some_if]
    exact congrArg some (b1_congr ⟨fun z w => w.2 z, fun z => Decidable.byContradiction (fun w => z ⟨q, w⟩)⟩)
theorem kd_n {r j : Nat} (hr : r ≤ 12) (hj : j < 4) : kd (4 * r + j) = j := by
  unfold kd
  rw [if_neg (by omega)]; omega
theorem c_closeL {S : SV} {C : Mm} {k : Nat} (h : RC S C) (g1 : GA S) (g : GT S k) (g2 : GP S) : f_X3_close_44 C FU 0 (1 : Int32) = some (fbk S 49 4) := by
  have inner : ∀ (K : Nat → Int32 → Option Int32) (n r j : Nat), r ≤ 12 → j ≤ 4 → 4 < j + n → (K 0 (nI (r + 1)) = some (fbk S (53 - (4 * r + 4)) (4 * r + 4))) → f_X3_close_52 C K n 0 (nI r) (nI j) = some (fbk S (53 - (4 * r + j)) (4 * r + j)) := by
    intro K n
    induction n with
    | zero => intro r j h1 h2 h3; omega
    | succ n ih =>
      intro r j h1 h2 h3 hK
      rw [f_X3_close_52]
      by_cases q : j = 4
      · subst q
        rw [if_pos ((lt_4 (by omega)).mpr (by omega)), lt_e, nI_1]
        exact hK
      · rw [if_neg (fun z => by have := (lt_4 (by omega)).mp z; omega), c_poolOf h g1, pOf_n g1 g2 h1 (by omega)]
        simp only [ob_s, lt_e]
        rw [c_books h g g2]
        simp only [ob_s, b1_if]
        rw [show 53 - (4 * r + j) = (53 - (4 * r + (j + 1))) + 1 by omega, fbk, nI_1]
        by_cases q2 : S 15 (4 * r + j) ≠ 0 ∧ ¬ lg_cmp (inn S (4 * r + j)) (out S (4 * r + j)) = 0
        · rw [if_pos q2, if_neg (fun z => z q2)]
          unfold bcode
          rw [if_neg (by omega), kd_n h1 (by omega), show (4 * r + j) / 4 = r by omega, show (100 : Int32) = nI 100 from rfl, pk_mul, nI_add, nI_1]
        · rw [if_neg q2, if_pos q2]
          exact ih r (j + 1) h1 (by omega) (by omega) hK
  have outer : ∀ n r, 1 ≤ r → r ≤ 13 → 13 < r + n → f_X3_close_44 C n 0 (nI r) = some (fbk S (53 - 4 * r) (4 * r)) := by
    intro n
    induction n with
    | zero => intro r h1 h2 h3; omega
    | succ n ih =>
      intro r h1 h2 h3
      rw [f_X3_close_44]
      by_cases q : r = 13
      · subst q
        rw [if_pos ((lt_13 (by omega)).mpr (by omega)), h.1.2.2.2.1, c_books h g g2]
        simp only [ob_s, b1_if]
        show _ = some (fbk S (0 + 1) 52)
        rw [fbk]
        by_cases q2 : S 15 52 ≠ 0 ∧ ¬ lg_cmp (inn S 52) (out S 52) = 0
        · rw [if_pos q2, if_neg (fun z => z q2)]; rfl
        · rw [if_neg q2, if_pos q2]; rfl
      · rw [if_neg (fun z => by have := (lt_13 (by omega)).mp z; omega)]
        exact inner (f_X3_close_44 C n) FU r 0 (by omega) (by omega) (by show 4 < 0 + 1000; omega) (ih (r + 1) (by omega) (by omega) (by omega))
  exact outer FU 1 (by omega) (by omega) (by show 13 < 1 + 1000; omega)
theorem m_closeL {S : SV} {R : Mm} {k : Nat} (h : RM S R) (g1 : GA S) (g : GT S k) (g2 : GP S) (hall : ∀ r, S 10 r ≠ 0 → S 11 r = 2) : f_X4_close_37 R FU 0 (0 : Int32) = some (fbk S 49 4) := by
  have key : ∀ n p, p ≤ 53 → 53 < p + n → f_X4_close_37 R n 0 (nI p) = some (fbk S (53 - p) p) := by
    intro n
    induction n with
    | zero => intro p h1 h2; omega
    | succ n ih =>
      intro p h1 h2
      rw [f_X4_close_37]
      by_cases q : p = 53
      · subst q
        rw [if_pos ((lt_53 (by omega)).mpr (by omega))]; rfl
      · rw [if_neg (fun z => by have := (lt_53 (by omega)).mp z; omega), RM_ref h 5, RM_ref h 8, RM_ref h 14, RM_ref h 12, RM_ref h 9, RM_ref h 10, RM_ref h 11, RM_ref h 13, m_staked0 h g g2 (by omega), m_staked1 h g g2 (by omega)]
        simp only [ob_s, lt_e]
        rw [ix_n (n := 53) (by omega) (by omega), ix_n (n := 53) (by omega) (by omega), ix_n (n := 53) (by omega) (by omega), ix_n (n := 53) (by omega) (by omega), ix_n (n := 53) (by omega) (by omega), ix_n (n := 53) (by omega) (by omega), ix_n (n := 53) (by omega) (by omega), ix_n (n := 53) (by omega) (by omega), nI_cl (by omega), RM_I h 15, RM_I h 18, RM_J h 24, RM_J h 22, RM_J h 19, RM_J h 20, RM_J h 21, RM_J h 23, nI_1]
        have h15 := g2.1 p
        rw [show 53 - p = (53 - (p + 1)) + 1 by omega, fbk]
        by_cases q1 : S 15 p = 0
        · rw [if_pos ((nI_z (by omega)).mpr q1), if_neg (fun z => z.1 q1)]
          exact ih (p + 1) (by omega) (by omega)
        · rw [if_neg (fun z => q1 ((nI_z (by omega)).mp z))]
          have hp1 : S 15 p = 1 := by omega
          obtain ⟨a1, a2, a3, a4, a5, a6, a7, a8⟩ := g2.2.1 p hp1
          have h18 : S 18 p ≠ 0 := fun z => (a8.mp z) ⟨hall _ (ro_p g1 g2 hp1 0), hall _ (ro_p g1 g2 hp1 1)⟩
          rw [if_neg (fun z => h18 ((nI_z (by omega)).mp z))]
          show (if lg_cmp (inn S p) (out S p) = 0 then _ else _) = _
          by_cases q2 : lg_cmp (inn S p) (out S p) = 0
          · rw [if_pos q2, if_neg (fun z => z.2 q2)]
            exact ih (p + 1) (by omega) (by omega)
          · rw [if_neg q2, if_pos (c := S 15 p ≠ 0 ∧ ¬ lg_cmp (inn S p) (out S p) = 0) ⟨q1, q2⟩]
            unfold f_X4_close_144 bcode
            rw [m_kindOf a1]
            simp only [ob_s]
            by_cases q3 : p = 52
            · rw [if_pos ((nI_52 (by omega)).mpr q3), if_pos q3, show (100 : Int32) * (13 : Int32) = nI (100 * 13) from rfl, nI_add, nI_1]
            · rw [if_neg (fun z => q3 ((nI_52 (by omega)).mp z)), if_neg q3, dv_4, show nI p / (4 : Int32) = nI (p / 4) from pk_div (d := 4) (by omega) (by omega) (by omega), show (100 : Int32) = nI 100 from rfl, pk_mul, nI_add, nI_1]
  have := key FU 0 (by omega) (by show 53 < 0 + 1000; omega)
  refine this.trans (congrArg some ?_)
  show fbk S (49 + 1 + 1 + 1 + 1) 0 = _
  rw [fbk, if_neg (fun z => z.1 (low0 g1 g2 (by omega))), fbk, if_neg (fun z => z.1 (low0 g1 g2 (by omega))), fbk, if_neg (fun z => z.1 (low0 g1 g2 (by omega))), fbk, if_neg (fun z => z.1 (low0 g1 g2 (by omega)))]
def allOff (S : SV) (r : Nat) : Prop := ∀ x, r ≤ x → S 10 x ≠ 0 → S 11 x = 2
theorem allOff_sk {S : SV} {r : Nat} (h : S 10 r = 0 ∨ S 11 r = 2) : allOff S (r + 1) ↔ allOff S r := ⟨fun w x hx hz => by
  by_cases y : x = r
  · subst y
    rcases h with h | h
    · exact absurd h hz
    · exact h
  · exact w x (by omega) hz, fun w x hx hz => w x (by omega) hz⟩
theorem s_close : S_close Inv := by
  intro k C R hk hI
  obtain ⟨S, hR, hC, g1, g2, g3, g4, g5⟩ := hI
  have hI' := Inv_st hR hC g1 g2 g3 hk g4 g5
  have hr := hC.1.2.2.2.2.2.1
  have h13 : allOff S 13 := fun x hx hz => by
    have := (g1.1 x hz).2.1
    omega
  have ml : ∀ n r, 1 ≤ r → r ≤ 13 → 13 < r + n → (allOff S r → f_X4_close_2 R n 0 (nI r) = f_X4_close_37 R FU 0 (0 : Int32)) ∧ (¬ allOff S r → f_X4_close_2 R n 0 (nI r) = some (-1)) := by
    intro n
    induction n with
    | zero => intro r h1 h2 h3; omega
    | succ n ih =>
      intro r h1 h2 h3
      rw [f_X4_close_2]
      by_cases q : r = 13
      · subst q
        rw [if_pos (show (13 : Int32) ≤ nI 13 from by decide)]
        exact ⟨fun _ => rfl, fun z => absurd h13 z⟩
      · rw [if_neg (fun z => by have := (i_le_n (a := 13) (by omega) (by omega)).mp z; omega), RM_ref hR 0, RM_ref hR 1]
        simp only [ob_s, lt_e]
        have hl := GA_10 g1 r
        have h11 := (g1.2.1 r).1
        rw [ix_n (by omega) (by omega), ix_n (by omega) (by omega), nI_cl (by omega), RM_I hR 10, RM_I hR 11, nI_1]
        have hh := ih (r + 1) (by omega) (by omega) (by omega)
        by_cases q1 : S 10 r = 0
        · rw [if_pos ((nI_le0 (by omega)).mpr q1), ← allOff_sk (Or.inl q1)]
          exact hh
        · rw [if_neg (fun z => q1 ((nI_le0 (by omega)).mp z))]
          by_cases q2 : S 11 r = 2
          · rw [if_pos ((nI_2e (by omega)).mpr q2), ← allOff_sk (Or.inr q2)]
            exact hh
          · rw [if_neg (fun z => q2 ((nI_2e (by omega)).mp z))]
            exact ⟨fun w => absurd (w r (by omega) q1) q2, fun _ => rfl⟩
  have cl : ∀ n r, r ≤ 13 → 13 < r + n → (allOff S r → f_X3_close_10 C n 0 0 (13 : Int32) (nI r) = f_X3_close_44 C FU 0 (1 : Int32)) ∧ (¬ allOff S r → f_X3_close_10 C n 0 0 (13 : Int32) (nI r) = some (-1)) := by
    intro n
    induction n with
    | zero => intro r h2 h3; omega
    | succ n ih =>
      intro r h2 h3
      rw [f_X3_close_10]
      by_cases q : r = 13
      · subst q
        rw [if_pos (show (13 : Int32) ≤ nI 13 from by decide)]
        exact ⟨fun _ => rfl, fun z => absurd h13 z⟩
      · rw [if_neg (fun z => by have := (i_le_n (a := 13) (by omega) (by omega)).mp z; omega), ix_n (by omega) (by omega), nI_cl (by omega), hr r (by omega)]
        simp only [lt_e]
        have h11 := (g1.2.1 r).1
        rw [nI_1]
        have hh := ih (r + 1) (by omega) (by omega)
        by_cases q1 : S 10 r = 0
        · rw [if_pos q1, on_n, ← allOff_sk (Or.inl q1)]
          exact hh
        · rw [if_neg q1, on_s, (hC.2.1 r q1).2.2.2.2.1]
          by_cases q2 : S 11 r = 2
          · rw [if_pos ((nI_2e (by omega)).mpr q2), ← allOff_sk (Or.inr q2)]
            exact hh
          · rw [if_neg (fun z => q2 ((nI_2e (by omega)).mp z))]
            exact ⟨fun w => absurd (w r (by omega) q1) q2, fun _ => rfl⟩
  unfold f_X3_close f_X4_close
  rw [hC.1.1, ob_s]
  have e1 := cl FU 0 (by omega) (by show 13 < 0 + 1000; omega)
  have e2 := ml FU 1 (by omega) (by omega) (by show 13 < 1 + 1000; omega)
  have e3 : allOff S 0 ↔ allOff S 1 := ⟨fun w x hx hz => w x (by omega) hz, fun w x hx hz => w x ((g1.1 x hz).1) hz⟩
  by_cases w : allOff S 1
  · have e2' := e2.1 w
    rw [m_closeL hR g1 g3 g2 (fun r hz => w r ((g1.1 r hz).1) hz)] at e2'
    have e1' := e1.1 (e3.mpr w)
    rw [c_closeL hC g1 g3 g2] at e1'
    exact ⟨_, e1', e2', hI'⟩
  · exact ⟨_, e1.2 (fun z => w (e3.mp z)), e2.2 w, hI'⟩
