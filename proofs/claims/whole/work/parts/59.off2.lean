/-! ===== official: can it be; the pools one after the other ===== -/
abbrev okn (S : SV) (r n : Nat) : Prop := S 14 (25 * r + n) ≠ 0 → S 14 (25 * r + n) = 1 + pld S r (S 14 (25 * r + n))
abbrev allok (S : SV) (r j : Nat) : Prop := ∀ n, j ≤ n → n ≤ S 10 r → okn S r n
abbrev rgt (S : SV) (r : Nat) : Prop := (3 ≤ pld S r 25 ∨ rng S r ≤ pld S r 25) ∧ allok S r 1
theorem pld_24 {S : SV} (g : GA S) (r b : Nat) : pld S r b ≤ 24 := by
  have h : pld S r b ≤ S 10 r := sm1
  have := GA_10 g r
  omega
theorem allok_s {S : SV} {r j : Nat} (h : okn S r j) : allok S r (j + 1) ↔ allok S r j :=
  ⟨fun w n h1 h2 => by
    by_cases e : n = j
    · subst e; exact h
    · exact w n (by omega) h2, fun w n h1 h2 => w n (by omega) h2⟩
theorem c_res19 {S : SV} {C : Mm} {r : Nat} (h : RCr S C r) (g : GA S) : ∀ n j, 1 ≤ j → j ≤ S 10 r + 1 → S 10 r + 1 < j + n → (allok S r j → f_X1_hasResult_19 C n r (nI j) = some 1) ∧ (¬ allok S r j → f_X1_hasResult_19 C n r (nI j) = some 0) := by
  have hl := GA_10 g r
  intro n
  induction n with
  | zero => intro j h1 h2 h3; omega
  | succ n ih =>
    intro j h1 h2 h3
    rw [f_X1_hasResult_19, h.2.1]
    by_cases q : j = S 10 r + 1
    · rw [if_pos ((i_lt_n (by omega) (by omega)).mpr (by omega))]
      exact ⟨fun _ => rfl, fun w => absurd (fun n a b => by omega) w⟩
    · obtain ⟨a13, a14, a15⟩ := g.2.2.2.1 (25 * r + j)
      have hp := pld_24 g r (S 14 (25 * r + j))
      have nx := ih (j + 1) (by omega) (by omega) (by omega)
      rw [if_neg (fun z => by have := (i_lt_n (by omega) (by omega)).mp z; omega), c_positionOf h _ (by rw [nI_tI (by omega)]; omega), nI_cl (by omega)]
      simp only [ob_s, lt_e]
      rw [nI_1]
      have skip : S 14 (25 * r + j) = 0 → (allok S r j → f_X1_hasResult_19 C n r (nI (j + 1)) = some 1) ∧ (¬ allok S r j → f_X1_hasResult_19 C n r (nI (j + 1)) = some 0) := fun h0 => by
        rw [← allok_s (fun z => absurd h0 z)]
        exact nx
      by_cases q1 : S 13 (25 * r + j) = 0
      · rw [if_pos q1]
        by_cases q2 : S 14 (25 * r + j) = 0
        · rw [if_pos ((nI_le0 (by omega)).mpr q2)]
          exact skip q2
        · have e1 : nI (S 14 (25 * r + j)) - (1 : Int32) = nI (S 14 (25 * r + j) - 1) := pk_sub (b := 1) (by omega)
          rw [if_neg (fun z => q2 ((nI_le0 (by omega)).mp z)), e1, c_runnersWithin h g (by omega), show S 14 (25 * r + j) - 1 + 1 = S 14 (25 * r + j) by omega]
          simp only [ob_s]
          rw [nI_1]
          by_cases q3 : S 14 (25 * r + j) = pld S r (S 14 (25 * r + j)) + 1
          · rw [if_pos ((nI_e (by omega) (by omega)).mpr q3), ← allok_s (fun _ => by omega)]
            exact nx
          · rw [if_neg (fun z => q3 ((nI_e (by omega) (by omega)).mp z))]
            exact ⟨fun w => absurd (w j (Nat.le_refl _) (by omega) q2) (by omega), fun _ => rfl⟩
      · rw [if_neg q1, if_pos (by decide)]
        exact skip (a15 (by omega))
theorem m_res26 {S : SV} {R : Mm} {r : Nat} (h : RM S R) (g : GA S) (hr : r ≤ 12) : ∀ n j, 1 ≤ j → j ≤ S 10 r + 1 → S 10 r + 1 < j + n → (allok S r j → f_X4_isRight_26 R n 0 (nI r) (nI j) = some 1) ∧ (¬ allok S r j → f_X4_isRight_26 R n 0 (nI r) (nI j) = some 0) := by
  have hl := GA_10 g r
  intro n
  induction n with
  | zero => intro j h1 h2 h3; omega
  | succ n ih =>
    intro j h1 h2 h3
    rw [f_X4_isRight_26, RM_ref h 0]
    simp only [ob_s]
    rw [ix_n (by omega) (by omega), nI_cl (by omega), RM_I h 10]
    by_cases q : j = S 10 r + 1
    · rw [if_pos ((i_lt_n (by omega) (by omega)).mpr (by omega))]
      exact ⟨fun _ => rfl, fun w => absurd (fun n a b => by omega) w⟩
    · obtain ⟨a13, a14, a15⟩ := g.2.2.2.1 (25 * r + j)
      have hp := pld_24 g r (S 14 (25 * r + j))
      have nx := ih (j + 1) (by omega) (by omega) (by omega)
      rw [if_neg (fun z => by have := (i_lt_n (by omega) (by omega)).mp z; omega), RM_ref h 4]
      simp only [ob_s, lt_e]
      rw [e25, ix_n (by omega) (by omega), nI_cl (by omega), RM_I h 14, nI_1]
      by_cases q2 : S 14 (25 * r + j) = 0
      · rw [if_pos ((nI_le0 (by omega)).mpr q2), ← allok_s (fun z => absurd q2 z)]
        exact nx
      · rw [if_neg (fun z => q2 ((nI_le0 (by omega)).mp z)), m_placed h g hr (by omega)]
        simp only [ob_s]
        rw [show (1 : Int32) + nI (pld S r (S 14 (25 * r + j))) = nI (1 + pld S r (S 14 (25 * r + j))) from nI_add 1 _]
        by_cases q3 : S 14 (25 * r + j) = 1 + pld S r (S 14 (25 * r + j))
        · rw [if_pos ((nI_e (by omega) (by omega)).mpr q3), ← allok_s (fun _ => q3)]
          exact nx
        · rw [if_neg (fun z => q3 ((nI_e (by omega) (by omega)).mp z))]
          exact ⟨fun w => absurd (w j (Nat.le_refl _) (by omega) q2) q3, fun _ => rfl⟩
theorem res2 {S : SV} {C R : Mm} {r : Nat} (hR : RM S R) (h : RCr S C r) (g : GA S) (hr : r ≤ 12) : (rgt S r → f_X1_hasResult r C = some 1 ∧ f_X4_isRight 0 (nI r) R = some 1) ∧ (¬ rgt S r → f_X1_hasResult r C = some 0 ∧ f_X4_isRight 0 (nI r) R = some 0) := by
  have hl := GA_10 g r
  have hrn := GA_rng g r
  have hp := pld_24 g r 25
  have c1 := c_res19 h g FU 1 (by omega) (by omega) (by show S 10 r + 1 < 1 + 1000; omega)
  have m1 := m_res26 hR g hr FU 1 (by omega) (by omega) (by show S 10 r + 1 < 1 + 1000; omega)
  have l3 : (3 : Int32) ≤ nI (pld S r 25) ↔ 3 ≤ pld S r 25 := nI_leI (a := 3) (by omega) (by omega)
  have em : f_X4_isRight 0 (nI r) R = if 3 ≤ pld S r 25 ∨ rng S r ≤ pld S r 25 then f_X4_isRight_26 R FU 0 (nI r) (nI 1) else some 0 := by
    unfold f_X4_isRight
    rw [show (100 : Int32) = nI 100 from rfl, m_placed hR g hr (by omega), pld_all g r (show 25 ≤ 100 by omega), m_running hR g hr]
    simp only [ob_s]
    by_cases q1 : 3 ≤ pld S r 25
    · rw [if_pos (l3.mpr q1), if_pos (Or.inl q1)]; rfl
    · rw [if_neg (fun z => q1 (l3.mp z))]
      by_cases q2 : rng S r ≤ pld S r 25
      · rw [if_pos ((i_le_n (by omega) (by omega)).mpr q2), if_pos (Or.inr q2)]; rfl
      · rw [if_neg (fun z => q2 ((i_le_n (by omega) (by omega)).mp z)), if_neg (fun z => z.elim q1 q2)]
  have ec : f_X1_hasResult r C = if 3 ≤ pld S r 25 ∨ rng S r ≤ pld S r 25 then f_X1_hasResult_19 C FU r (nI 1) else some 0 := by
    unfold f_X1_hasResult
    rw [c_placedRunners h g, h.2.2.2.2.2.1]
    simp only [ob_s]
    by_cases q0 : rng S r < 3
    · rw [if_pos (c := nI (rng S r) < (3 : Int32)) ((i_lt_3 (by omega)).mpr q0)]
      by_cases q2 : rng S r ≤ pld S r 25
      · rw [if_pos ((i_le_n (by omega) (by omega)).mpr q2), if_pos (Or.inr q2)]; rfl
      · rw [if_neg (fun z => q2 ((i_le_n (by omega) (by omega)).mp z)), if_neg (by omega)]
    · rw [if_neg (c := nI (rng S r) < (3 : Int32)) (fun z => q0 ((i_lt_3 (by omega)).mp z))]
      by_cases q1 : 3 ≤ pld S r 25
      · rw [if_pos (l3.mpr q1), if_pos (Or.inl q1)]; rfl
      · rw [if_neg (fun z => q1 (l3.mp z)), if_neg (by omega)]
  rw [em, ec]
  constructor
  · intro w
    rw [if_pos w.1, if_pos w.1]
    exact ⟨c1.1 w.2, m1.1 w.2⟩
  · intro w
    by_cases q : 3 ≤ pld S r 25 ∨ rng S r ≤ pld S r 25
    · rw [if_pos q, if_pos q]
      exact ⟨c1.2 (fun z => w ⟨q, z⟩), m1.2 (fun z => w ⟨q, z⟩)⟩
    · rw [if_neg q, if_neg q]
      exact ⟨rfl, rfl⟩
/-- the day between two pools of a race that is made OFFICIAL -/
def LI (S1 : SV) (r k κ B : Nat) (S : SV) (C R : Mm) : Prop := RM S R ∧ RC S C ∧ GA S ∧ GQ S ∧ GT S k ∧ GMb B S ∧ GO S ∧ KP S1 S ∧ (∀ q, q < 4 * r ∨ 4 * r + κ ≤ q → S 18 q = S1 18 q) ∧ (∀ q, 4 * r ≤ q → q < 4 * r + κ → S 15 q = 1 → S 18 q ≠ 0)
abbrev both (S : SV) (q : Nat) : Prop := S 11 (ro S q 0) = 2 ∧ S 11 (ro S q 1) = 2
theorem m_set0 {S : SV} {R : Mm} {p : Nat} (h : RM S R) (hp : p ≤ 52) (h0 : S 15 p = 0) : f_X4_settles 0 (nI p) R = some ((0 : Int32), R) := by
  unfold f_X4_settles
  rw [RM_ref h 5]
  simp only [ob_s]
  rw [ix_n (by omega) (by omega), nI_cl (by omega), RM_I h 15, h0, if_pos (show nI 0 = 0 from rfl)]
theorem e4j (r j : Nat) : (4 : Int32) * nI r + nI j = nI (4 * r + j) := by
  rw [show (4 : Int32) = nI 4 from rfl, pk_mul]
  exact nI_add _ _
theorem KP_11 {S S' : SV} (h : KP S S') : S' 11 = S 11 := h.1 11 (by omega)
theorem KP_15 {S S' : SV} (h : KP S S') : S' 15 = S 15 := h.1 15 (by omega)
theorem KP_10 {S S' : SV} (h : KP S S') : S' 10 = S 10 := h.1 10 (by omega)
theorem KP_ro {S S' : SV} (h : KP S S') (q j : Nat) : ro S' q j = ro S q j := by unfold ro; rw [h.2.1, h.2.2.1]
abbrev OFE (S1 : SV) (r k B : Nat) (E1 E2 : Option (Int32 × Mm)) : Prop := ∃ (v : Int32) (S' : SV) (C' R' : Mm), E1 = some (v, C') ∧ E2 = some (v, R') ∧ RM S' R' ∧ RC S' C' ∧ GA S' ∧ GQ S' ∧ GT S' k ∧ GMb B S' ∧ GO S' ∧ KP S1 S' ∧ (∀ q, S' 15 q = 1 → (S' 18 q = 0 ↔ ¬ both S' q))
/-- what is asked of the day as the race becomes OFFICIAL -/
abbrev HS (S1 : SV) (r : Nat) : Prop := S1 11 r = 2 ∧ (∀ q, S1 15 q = 1 → q ≠ 52 → q / 4 ≠ r → (S1 18 q = 0 ↔ ¬ both S1 q)) ∧ (S1 15 52 = 1 → ¬ (r = S1 0 17 ∨ r = S1 0 18) → (S1 18 52 = 0 ↔ ¬ both S1 52)) ∧ (S1 15 52 = 1 → (r = S1 0 17 ∨ r = S1 0 18) → S1 18 52 = 0) ∧ (∀ q, 4 * r ≤ q → q < 4 * r + 4 → S1 18 q = 0)
theorem off_ft {S1 S' : SV} {r : Nat} (hs : HS S1 r) (hr : 1 ≤ r ∧ r ≤ 12) (kp : KP S1 S') (g2 : GQ S') (h1 : ∀ q, q ≠ 52 → q < 4 * r ∨ 4 * r + 4 ≤ q → S' 18 q = S1 18 q) (h2 : ∀ q, 4 * r ≤ q → q < 4 * r + 4 → S' 15 q = 1 → S' 18 q ≠ 0) (h52 : S' 15 52 = 1 → (S' 18 52 = 0 ↔ ¬ both S1 52)) : ∀ q, S' 15 q = 1 → (S' 18 q = 0 ↔ ¬ both S' q) := by
  intro q hq
  have eb : both S' q ↔ both S1 q := by
    unfold both
    rw [KP_ro kp, KP_ro kp, KP_11 kp]
  have hq1 : S1 15 q = 1 := by rw [← KP_15 kp]; exact hq
  rw [eb]
  by_cases e : q = 52
  · subst e
    exact h52 hq
  · by_cases e2 : q / 4 = r
    · have h := h2 q (by omega) (by omega) hq
      have b : both S1 q := by
        unfold both
        rw [ro_n52 e, ro_n52 e, e2]
        exact ⟨hs.1, hs.1⟩
      exact ⟨fun z => absurd z h, fun z => absurd b z⟩
    · rw [h1 q e (by omega)]
      exact hs.2.1 q hq1 e e2
theorem off_end {S1 S : SV} {C R : Mm} {r k a B : Nat} (hs : HS S1 r) (hr : 1 ≤ r ∧ r ≤ 12) (hB : B ≤ 2 ^ 43) (h : LI S1 r k 4 B S C R) : OFE S1 r k B (ob (f_X3_settleIfDecided 0 (mR C 1 0 3) C) fun (r62, M63) => some ((nI a + r62), M63)) (ob (mR R 0 0 5) fun i86 => ix (52 : Int32) 53 (if (mI R 15 i86 ((52 : Int32)).toNatClampNeg) = 0 then (some (nI a, R)) else (if nI r = (mI R 0 0 17) then (f_X4_official_88 0 (nI a) R) else (if nI r = (mI R 0 0 18) then (f_X4_official_88 0 (nI a) R) else (some (nI a, R)))))) := by
  obtain ⟨hR, hC, g1, g2, g3, g4, g5, kp, t1, t2⟩ := h
  have l17 := g2.2.2.2.1.1
  have l18 := g2.2.2.2.1.2
  have e17 := kp.2.1
  have e18 := kp.2.2.1
  have e52 : mR C 1 0 3 = if S 15 52 = 0 then none else some 52 := hC.1.2.2.2.1
  have x52 : S 18 52 = S1 18 52 := t1 52 (by omega)
  have l15 := g2.1 52
  rw [e52, RM_ref hR 5]
  simp only [ob_s]
  rw [ix_52, cl_52, RM_I hR 15, RM_17 hR, RM_18 hR]
  by_cases q0 : S 15 52 = 0
  · rw [if_pos q0, if_pos ((nI_z (by omega)).mpr q0)]
    unfold f_X3_settleIfDecided
    rw [on_n]
    refine ⟨nI a, S, C, R, ?_, rfl, hR, hC, g1, g2, g3, g4, g5, kp, off_ft hs hr kp g2 (fun q _ hq => t1 q hq) t2 (fun z => by omega)⟩
    simp only [ob_s]
    rw [nI_a0]
  · have hp : S 15 52 = 1 := by omega
    have hp1 : S1 15 52 = 1 := by rw [← KP_15 kp]; exact hp
    have h18 := (g2.2.1 52 hp).2.2.2.2.2.2.1
    rw [if_neg q0, if_neg (fun z => q0 ((nI_z (by omega)).mp z))]
    have eb : both S 52 ↔ both S1 52 := by
      unfold both
      rw [KP_ro kp, KP_ro kp, KP_11 kp]
    have E88 : f_X4_official_88 0 (nI a) R = if both S 52 then (ob (f_X4_settles 0 (52 : Int32) R) fun (r105, M106) => lt (nI a + r105) fun x108 => some (x108, M106)) else some (nI a, R) := by
      have n17 := (g1.2.1 (S 0 17)).1
      have n18 := (g1.2.1 (S 0 18)).1
      unfold f_X4_official_88
      rw [RM_ref hR 1, RM_17 hR, RM_18 hR]
      simp only [ob_s]
      rw [ix_n (by omega) (by omega), ix_n (by omega) (by omega), nI_cl (by omega), nI_cl (by omega), RM_I hR 11, RM_I hR 11]
      by_cases b0 : S 11 (S 0 17) = 2
      · rw [if_pos ((nI_2e (by omega)).mpr b0)]
        by_cases b1 : S 11 (S 0 18) = 2
        · rw [if_pos ((nI_2e (by omega)).mpr b1), if_pos (c := both S 52) ⟨b0, b1⟩]
        · rw [if_neg (fun z => b1 ((nI_2e (by omega)).mp z)), if_neg (c := both S 52) (fun z => b1 z.2)]
      · rw [if_neg (fun z => b0 ((nI_2e (by omega)).mp z)), if_neg (c := both S 52) (fun z => b0 z.1)]
    have EM : (if nI r = nI (S 0 17) then (f_X4_official_88 0 (nI a) R) else (if nI r = nI (S 0 18) then (f_X4_official_88 0 (nI a) R) else (some (nI a, R)))) = if r = S 0 17 ∨ r = S 0 18 then f_X4_official_88 0 (nI a) R else some (nI a, R) := by
      by_cases c0 : r = S 0 17
      · rw [if_pos (congrArg nI c0), if_pos (Or.inl c0)]
      · rw [if_neg (fun z => c0 ((nI_e (by omega) (by omega)).mp z))]
        by_cases c1 : r = S 0 18
        · rw [if_pos (congrArg nI c1), if_pos (Or.inr c1)]
        · rw [if_neg (fun z => c1 ((nI_e (by omega) (by omega)).mp z)), if_neg (fun z => z.elim c0 c1)]
    rw [EM]
    have stay : ¬ (S 18 52 = 0 ∧ both S 52) → ((r = S 0 17 ∨ r = S 0 18) → ¬ both S 52) → OFE S1 r k B (ob (f_X3_settleIfDecided 0 (some 52) C) fun (r62, M63) => some ((nI a + r62), M63)) (some (nI a, R)) := fun w w2 => by
      unfold f_X3_settleIfDecided
      rw [on_s, c_isDecided hC g1 g2 hp, b1_f w]
      simp only [ob_s]
      rw [if_pos trivial]
      refine ⟨nI a, S, C, R, ?_, rfl, hR, hC, g1, g2, g3, g4, g5, kp, off_ft hs hr kp g2 (fun q _ hq => t1 q hq) t2 (fun _ => ?_)⟩
      · simp only [ob_s]
        rw [nI_a0]
      · rw [x52]
        by_cases c : r = S 0 17 ∨ r = S 0 18
        · have c' : r = S1 0 17 ∨ r = S1 0 18 := by rw [← e17, ← e18]; exact c
          have nb := w2 c
          exact ⟨fun _ z => nb (eb.mpr z), fun _ => hs.2.2.2.1 hp1 c'⟩
        · have c' : ¬ (r = S1 0 17 ∨ r = S1 0 18) := by rw [← e17, ← e18]; exact c
          exact hs.2.2.1 hp1 c'
    by_cases c : r = S 0 17 ∨ r = S 0 18
    · have c' : r = S1 0 17 ∨ r = S1 0 18 := by rw [← e17, ← e18]; exact c
      have u0 : S 18 52 = 0 := x52.trans (hs.2.2.2.1 hp1 c')
      rw [if_pos c, E88]
      by_cases b : both S 52
      · rw [if_pos b]
        obtain ⟨S', C', R', y1, y2, y3, y4, y5, y6, y7, y8, y9, y10, y11, y12⟩ := settle1 hR hC g1 g2 g3 g4 hB g5 hp u0 b.1 b.2
        rw [show (52 : Int32) = nI 52 from rfl, y1, y2]
        simp only [ob_s, lt_e]
        have kp' := KP_t kp y10
        refine ⟨_, S', C', R', rfl, rfl, y3, y4, y5, y6, y7, y8, y9, kp', off_ft hs hr kp' y6 (fun q hq h => (y12 q hq).trans (t1 q h)) (fun q h1 h2 h3 => ?_) (fun _ => ⟨fun z => absurd z y11, fun z => absurd (eb.mp b) z⟩)⟩
        rw [y12 q (by omega)]
        exact t2 q h1 h2 (by rw [← KP_15 y10]; exact h3)
      · rw [if_neg b]
        exact stay (fun z => b z.2) (fun _ => b)
    · rw [if_neg c]
      refine stay (fun z => ?_) (fun w => absurd w c)
      have c' : ¬ (r = S1 0 17 ∨ r = S1 0 18) := by rw [← e17, ← e18]; exact c
      have z1 := z.1
      rw [x52] at z1
      exact (hs.2.2.1 hp1 c').mp z1 (eb.mp z.2)
theorem off_loop {S1 : SV} {r k B : Nat} (hs : HS S1 r) (h10 : S1 10 r ≠ 0) (hr : 1 ≤ r ∧ r ≤ 12) (hB : 2 * B + 2 ^ 30 ≤ 2 ^ 43) : ∀ n κ a S C R, κ ≤ 4 → 4 < κ + n → LI S1 r k κ (if κ = 4 then 2 * B + 2 ^ 30 else B) S C R → OFE S1 r k (2 * B + 2 ^ 30) (f_X3_official_48 n 0 (nI a) r (4 : Int32) (nI κ) C) (f_X4_official_39 n 0 (nI r) (nI a) (nI κ) R) := by
  intro n
  induction n with
  | zero => intro κ a S C R h1 h2; omega
  | succ n ih =>
    intro κ a S C R h1 h2 hL
    rw [f_X3_official_48, f_X4_official_39]
    have l4 : (4 : Int32) ≤ nI κ ↔ 4 ≤ κ := nI_leI (a := 4) (by omega) (by omega)
    by_cases q : κ = 4
    · subst q
      rw [if_pos (l4.mpr (by omega)), if_pos (l4.mpr (by omega))]
      rw [if_pos rfl] at hL
      exact off_end hs hr hB hL
    · have hκ : κ < 4 := by omega
      rw [if_neg (fun z => by have := l4.mp z; omega), if_neg (fun z => by have := l4.mp z; omega)]
      rw [if_neg q] at hL
      obtain ⟨hR, hC, g1, g2, g3, g4, g5, kp, t1, t2⟩ := hL
      have h10' : S 10 r ≠ 0 := by rw [KP_10 kp]; exact h10
      have h6 : mR C 6 r κ = if S 15 (4 * r + κ) = 0 then none else some (4 * r + κ) := (hC.2.1 r h10').2.2.2.2.2.2.2.2 κ hκ
      have l15 := g2.1 (4 * r + κ)
      rw [ix_n (by omega) (by omega), nI_cl (by omega), h6, e4j]
      by_cases q0 : S 15 (4 * r + κ) = 0
      · rw [if_pos q0, m_set0 hR (by omega) q0]
        unfold f_X3_settleIfDecided
        rw [on_n]
        simp only [ob_s, lt_e]
        rw [nI_a0, nI_1]
        refine ih (κ + 1) a S C R (by omega) (by omega) ⟨hR, hC, g1, g2, g3, GMb_le g4 (by split <;> omega), g5, kp, fun q hq => t1 q (by omega), fun q h1 h2 h3 => ?_⟩
        by_cases e : q = 4 * r + κ
        · rw [e] at h3; omega
        · exact t2 q h1 (by omega) h3
      · have hp : S 15 (4 * r + κ) = 1 := by omega
        have n52 : 4 * r + κ ≠ 52 := by omega
        have e11 : S 11 r = 2 := by rw [KP_11 kp]; exact hs.1
        have o0 : ∀ j, S 11 (ro S (4 * r + κ) j) = 2 := fun j => by
          rw [ro_n52 n52, show (4 * r + κ) / 4 = r by omega]; exact e11
        have u0 : S 18 (4 * r + κ) = 0 := (t1 _ (by omega)).trans (hs.2.2.2.2 _ (by omega) (by omega))
        obtain ⟨S', C', R', y1, y2, y3, y4, y5, y6, y7, y8, y9, y10, y11, y12⟩ := settle1 hR hC g1 g2 g3 g4 (by omega) g5 hp u0 (o0 0) (o0 1)
        rw [if_neg q0, y1, y2]
        simp only [ob_s, lt_e]
        rw [nI_1, nI_1]
        rw [kd_n hr.2 hκ] at y8
        refine ih (κ + 1) (a + 1) S' C' R' (by omega) (by omega) ⟨y3, y4, y5, y6, y7, GMb_le y8 (by split <;> split <;> omega), y9, KP_t kp y10, fun q hq => (y12 q (by omega)).trans (t1 q (by omega)), fun q h1 h2 h3 => ?_⟩
        by_cases e : q = 4 * r + κ
        · rw [e]; exact y11
        · rw [y12 q e]
          exact t2 q h1 (by omega) (by rw [← KP_15 y10]; exact h3)
