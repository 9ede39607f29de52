/-! ===== who can have come in ahead of all others ===== -/
theorem sm_le1 {n i : Nat} {f : Nat → Nat} (h : ∀ m, m < n → m ≠ i → f m = 0) : sm n f ≤ f i := by
  induction n with
  | zero => exact Nat.zero_le _
  | succ n ih =>
    simp only [sm]
    by_cases q : n = i
    · subst q
      rw [sm_zero (fun m hm => h m (by omega) (by omega)), Nat.zero_add]
      exact Nat.le_refl _
    · rw [h n (by omega) q, Nat.add_zero]
      exact ih (fun m hm => h m (by omega))
theorem sm_le2 {n i j : Nat} {f : Nat → Nat} (h : ∀ m, m < n → m ≠ i → m ≠ j → f m = 0) : sm n f ≤ f i + f j := by
  induction n with
  | zero => exact Nat.zero_le _
  | succ n ih =>
    simp only [sm]
    by_cases q : n = i
    · subst q
      have := sm_le1 (n := n) (i := j) (f := f) (fun m hm hj => h m (by omega) (by omega) hj)
      omega
    · by_cases q2 : n = j
      · subst q2
        have := sm_le1 (n := n) (i := i) (f := f) (fun m hm hi => h m (by omega) hi (by omega))
        omega
      · rw [h n (by omega) q q2, Nat.add_zero]
        exact ih (fun m hm => h m (by omega))
theorem sm_ge2 {n i j : Nat} {f : Nat → Nat} (hi : i < n) (hj : j < n) (h : i ≠ j) : f i + f j ≤ sm n f := by
  induction n with
  | zero => omega
  | succ n ih =>
    simp only [sm]
    by_cases q : n = i
    · subst q
      have := sm_ge (f := f) (show j < n by omega)
      omega
    · by_cases q2 : n = j
      · subst q2
        have := sm_ge (f := f) (show i < n by omega)
        omega
      · have := ih (by omega) (by omega)
        omega
theorem sm_ge3 {n i j k : Nat} {f : Nat → Nat} (hi : i < n) (hj : j < n) (hk : k < n) (h1 : i ≠ j) (h2 : i ≠ k) (h3 : j ≠ k) : f i + f j + f k ≤ sm n f := by
  induction n with
  | zero => omega
  | succ n ih =>
    simp only [sm]
    by_cases q : n = i
    · subst q
      have := sm_ge2 (f := f) (show j < n by omega) (show k < n by omega) h3
      omega
    · by_cases q2 : n = j
      · subst q2
        have := sm_ge2 (f := f) (show i < n by omega) (show k < n by omega) h2
        omega
      · by_cases q3 : n = k
        · subst q3
          have := sm_ge2 (f := f) (show i < n by omega) (show j < n by omega) h1
          omega
        · have := ih (by omega) (by omega) (by omega)
          omega
/-- a runner with a lesser position than b -/
abbrev les (S : SV) (r b m : Nat) : Prop := 0 < S 14 (25 * r + m) ∧ S 14 (25 * r + m) < b
theorem pld_0 {S : SV} {r b : Nat} (h : ∀ m, 1 ≤ m → m ≤ S 10 r → ¬ les S r b m) : pld S r b = 0 := sm_zero (fun m hm => if_neg (h (m + 1) (by omega) (by omega)))
theorem pld_le1 {S : SV} {r b x : Nat} (h : ∀ m, 1 ≤ m → m ≤ S 10 r → les S r b m → m = x) : pld S r b ≤ 1 := by
  unfold pld
  refine Nat.le_trans (sm_le1 (i := x - 1) (fun m hm hne => if_neg (fun z => ?_))) ?_
  · have := h (m + 1) (by omega) (by omega) z
    omega
  · show (if _ then 1 else 0) ≤ 1
    split <;> omega
theorem pld_le2 {S : SV} {r b x y : Nat} (h : ∀ m, 1 ≤ m → m ≤ S 10 r → les S r b m → m = x ∨ m = y) : pld S r b ≤ 2 := by
  unfold pld
  refine Nat.le_trans (sm_le2 (i := x - 1) (j := y - 1) (fun m hm hne hne2 => if_neg (fun z => ?_))) ?_
  · have := h (m + 1) (by omega) (by omega) z
    omega
  · show (if _ then 1 else 0) + (if _ then 1 else 0) ≤ 2
    split <;> split <;> omega
theorem pld_ge1 {S : SV} {r b x : Nat} (vx : 1 ≤ x ∧ x ≤ S 10 r) (hx : les S r b x) : 1 ≤ pld S r b := by
  have h := sm_ge (f := fun m => if 0 < S 14 (25 * r + (m + 1)) ∧ S 14 (25 * r + (m + 1)) < b then 1 else 0) (show x - 1 < S 10 r by omega)
  rw [show x - 1 + 1 = x by omega, if_pos (c := les S r b x) hx] at h
  exact h
theorem pld_ge2 {S : SV} {r b x y : Nat} (vx : 1 ≤ x ∧ x ≤ S 10 r) (vy : 1 ≤ y ∧ y ≤ S 10 r) (hne : x ≠ y) (hx : les S r b x) (hy : les S r b y) : 2 ≤ pld S r b := by
  have h := sm_ge2 (f := fun m => if 0 < S 14 (25 * r + (m + 1)) ∧ S 14 (25 * r + (m + 1)) < b then 1 else 0) (show x - 1 < S 10 r by omega) (show y - 1 < S 10 r by omega) (by omega)
  rw [show x - 1 + 1 = x by omega, show y - 1 + 1 = y by omega, if_pos (c := les S r b x) hx, if_pos (c := les S r b y) hy] at h
  exact h
theorem pld_ge3 {S : SV} {r b x y z : Nat} (vx : 1 ≤ x ∧ x ≤ S 10 r) (vy : 1 ≤ y ∧ y ≤ S 10 r) (vz : 1 ≤ z ∧ z ≤ S 10 r) (h1 : x ≠ y) (h2 : x ≠ z) (h3 : y ≠ z) (hx : les S r b x) (hy : les S r b y) (hz : les S r b z) : 3 ≤ pld S r b := by
  have h := sm_ge3 (f := fun m => if 0 < S 14 (25 * r + (m + 1)) ∧ S 14 (25 * r + (m + 1)) < b then 1 else 0) (show x - 1 < S 10 r by omega) (show y - 1 < S 10 r by omega) (show z - 1 < S 10 r by omega) (by omega) (by omega) (by omega)
  rw [show x - 1 + 1 = x by omega, show y - 1 + 1 = y by omega, show z - 1 + 1 = z by omega, if_pos (c := les S r b x) hx, if_pos (c := les S r b y) hy, if_pos (c := les S r b z) hz] at h
  exact h
/-- one that stands in the way of who is named in place k -/
abbrev bdd (S : SV) (r k : Nat) (a b : Int32) (q m : Nat) : Prop := les S r q m ∧ ¬ (0 < k ∧ nI m = a) ∧ ¬ (1 < k ∧ nI m = b)
abbrev okk (S : SV) (r k : Nat) (a b : Int32) (x : Nat) : Prop := S 14 (25 * r + x) ≠ 0 ∧ ∀ m, 1 ≤ m → m ≤ S 10 r → ¬ bdd S r k a b (S 14 (25 * r + x)) m
theorem m_ahead57 {S : SV} {R : Mm} {r k q : Nat} (h : RM S R) (g1 : GA S) (hr : r ≤ 12) (hk : k < 3) (hq : q ≤ 24) (v2 a b v5 : Int32) (K : Nat → Int32 → Int32 → Int32 → Int32 → Int32 → Int32 → Option Int32) : ∀ n j, 1 ≤ j → j ≤ S 10 r + 1 → S 10 r + 1 < j + n → ((∀ m, j ≤ m → m ≤ S 10 r → ¬ bdd S r k a b q m) → f_X4_ahead_57 R K n 0 (nI r) v2 a b v5 (nI k) (nI q) (nI j) = K 0 (nI r) v2 a b v5 (nI (k + 1))) ∧ (¬ (∀ m, j ≤ m → m ≤ S 10 r → ¬ bdd S r k a b q m) → f_X4_ahead_57 R K n 0 (nI r) v2 a b v5 (nI k) (nI q) (nI j) = some 0) := by
  have hl := GA_10 g1 r
  intro n
  induction n with
  | zero => intro j h0 h1 h2; omega
  | succ n ih =>
    intro j h0 h1 h2
    rw [f_X4_ahead_57, RM_ref h 0]
    simp only [ob_s, lt_e]
    rw [ix_n (by omega) (by omega), nI_cl (by omega), RM_I h 10]
    by_cases e : j = S 10 r + 1
    · rw [if_pos ((i_lt_n (by omega) (by omega)).mpr (by omega)), nI_1]
      exact ⟨fun _ => rfl, fun z => absurd (fun m h3 h4 => absurd h4 (by omega)) z⟩
    · rw [if_neg (fun z => by have := (i_lt_n (by omega) (by omega)).mp z; omega), RM_ref h 4]
      simp only [ob_s]
      rw [e25, ix_n (by omega) (by omega), nI_cl (by omega), RM_I h 14]
      have hp := (g1.2.2.2.1 (25 * r + j)).2.1
      obtain ⟨i1, i2⟩ := ih (j + 1) (by omega) (by omega) (by omega)
      have w0 : f_X4_ahead_111 R K (f_X4_ahead_57 R K n) 0 (nI r) v2 a b v5 (nI k) (nI q) (nI j) (nI (S 14 (25 * r + j))) (0 : Int32) = if les S r q j then some 0 else f_X4_ahead_57 R K n 0 (nI r) v2 a b v5 (nI k) (nI q) (nI (j + 1)) := by
        unfold f_X4_ahead_111
        simp only [lt_e]
        rw [nI_1]
        by_cases c1 : S 14 (25 * r + j) = 0
        · rw [if_pos ((nI_le0 (by omega)).mpr c1), if_neg (fun z => by omega)]
        · rw [if_neg (fun z => c1 ((nI_le0 (by omega)).mp z))]
          by_cases c2 : q ≤ S 14 (25 * r + j)
          · rw [if_pos ((i_le_n (by omega) (by omega)).mpr c2), if_neg (fun z => by omega)]
          · rw [if_neg (fun z => c2 ((i_le_n (by omega) (by omega)).mp z)), if_pos trivial, if_pos ⟨by omega, by omega⟩]
      have w1 : f_X4_ahead_111 R K (f_X4_ahead_57 R K n) 0 (nI r) v2 a b v5 (nI k) (nI q) (nI j) (nI (S 14 (25 * r + j))) (1 : Int32) = f_X4_ahead_57 R K n 0 (nI r) v2 a b v5 (nI k) (nI q) (nI (j + 1)) := by
        unfold f_X4_ahead_111
        simp only [lt_e]
        rw [nI_1]
        by_cases c1 : S 14 (25 * r + j) = 0
        · rw [if_pos ((nI_le0 (by omega)).mpr c1)]
        · rw [if_neg (fun z => c1 ((nI_le0 (by omega)).mp z))]
          by_cases c2 : q ≤ S 14 (25 * r + j)
          · rw [if_pos ((i_le_n (by omega) (by omega)).mpr c2)]
          · rw [if_neg (fun z => c2 ((i_le_n (by omega) (by omega)).mp z)), if_neg (by decide)]
      have w93 : f_X4_ahead_93 R K (f_X4_ahead_57 R K n) 0 (nI r) v2 a b v5 (nI k) (nI q) (nI j) (nI (S 14 (25 * r + j))) = if les S r q j ∧ ¬ (1 < k ∧ nI j = b) then some 0 else f_X4_ahead_57 R K n 0 (nI r) v2 a b v5 (nI k) (nI q) (nI (j + 1)) := by
        unfold f_X4_ahead_93 f_X4_ahead_110 f_X4_ahead_106
        rw [w0, w1]
        have l1 : nI k ≤ (1 : Int32) ↔ k ≤ 1 := nI_leI (b := 1) (by omega) (by omega)
        by_cases c1 : k ≤ 1
        · rw [if_pos (l1.mpr c1)]
          by_cases c2 : les S r q j
          · rw [if_pos c2, if_pos (c := les S r q j ∧ ¬ (1 < k ∧ nI j = b)) ⟨c2, fun z => by omega⟩]
          · rw [if_neg c2, if_neg (c := les S r q j ∧ ¬ (1 < k ∧ nI j = b)) (fun z => c2 z.1)]
        · rw [if_neg (fun z => c1 (l1.mp z))]
          by_cases c3 : nI j = b
          · rw [if_pos c3, if_neg (c := les S r q j ∧ ¬ (1 < k ∧ nI j = b)) (fun z => z.2 ⟨by omega, c3⟩)]
          · rw [if_neg c3]
            by_cases c2 : les S r q j
            · rw [if_pos c2, if_pos (c := les S r q j ∧ ¬ (1 < k ∧ nI j = b)) ⟨c2, fun z => c3 z.2⟩]
            · rw [if_neg c2, if_neg (c := les S r q j ∧ ¬ (1 < k ∧ nI j = b)) (fun z => c2 z.1)]
      have w106 : f_X4_ahead_106 R K (f_X4_ahead_57 R K n) 0 (nI r) v2 a b v5 (nI k) (nI q) (nI j) (nI (S 14 (25 * r + j))) = f_X4_ahead_57 R K n 0 (nI r) v2 a b v5 (nI k) (nI q) (nI (j + 1)) := w1
      rw [w93, w106]
      have fin : (if nI k ≤ 0 then (if les S r q j ∧ ¬ (1 < k ∧ nI j = b) then some 0 else f_X4_ahead_57 R K n 0 (nI r) v2 a b v5 (nI k) (nI q) (nI (j + 1))) else if nI j = a then f_X4_ahead_57 R K n 0 (nI r) v2 a b v5 (nI k) (nI q) (nI (j + 1)) else if les S r q j ∧ ¬ (1 < k ∧ nI j = b) then some 0 else f_X4_ahead_57 R K n 0 (nI r) v2 a b v5 (nI k) (nI q) (nI (j + 1))) = if bdd S r k a b q j then some 0 else f_X4_ahead_57 R K n 0 (nI r) v2 a b v5 (nI k) (nI q) (nI (j + 1)) := by
        by_cases c1 : k = 0
        · rw [if_pos ((nI_le0 (by omega)).mpr c1)]
          by_cases c2 : les S r q j ∧ ¬ (1 < k ∧ nI j = b)
          · rw [if_pos c2, if_pos (c := bdd S r k a b q j) ⟨c2.1, fun z => by omega, c2.2⟩]
          · rw [if_neg c2, if_neg (c := bdd S r k a b q j) (fun z => c2 ⟨z.1, z.2.2⟩)]
        · rw [if_neg (fun z => c1 ((nI_le0 (by omega)).mp z))]
          by_cases c3 : nI j = a
          · rw [if_pos c3, if_neg (c := bdd S r k a b q j) (fun z => z.2.1 ⟨by omega, c3⟩)]
          · rw [if_neg c3]
            by_cases c2 : les S r q j ∧ ¬ (1 < k ∧ nI j = b)
            · rw [if_pos c2, if_pos (c := bdd S r k a b q j) ⟨c2.1, fun z => c3 z.2, c2.2⟩]
            · rw [if_neg c2, if_neg (c := bdd S r k a b q j) (fun z => c2 ⟨z.1, z.2.2⟩)]
      rw [fin]
      by_cases c : bdd S r k a b q j
      · rw [if_pos c]
        exact ⟨fun z => absurd c (z j (Nat.le_refl j) (by omega)), fun _ => rfl⟩
      · rw [if_neg c]
        refine ⟨fun z => i1 (fun m h3 h4 => z m (by omega) h4), fun z => i2 (fun w => z (fun m h3 h4 => ?_))⟩
        by_cases e2 : m = j
        · rw [e2]; exact c
        · exact w m (by omega) h4
theorem m_ahead31 {S : SV} {R : Mm} {r k x : Nat} (h : RM S R) (g1 : GA S) (hr : r ≤ 12) (hk : k < 3) (hx : x ≤ 24) (v2 a b v5 : Int32) (K : Nat → Int32 → Int32 → Int32 → Int32 → Int32 → Int32 → Option Int32) : (okk S r k a b x → f_X4_ahead_31 R K 0 (nI r) v2 a b v5 (nI k) (nI x) = K 0 (nI r) v2 a b v5 (nI (k + 1))) ∧ (¬ okk S r k a b x → f_X4_ahead_31 R K 0 (nI r) v2 a b v5 (nI k) (nI x) = some 0) := by
  have hp := (g1.2.2.2.1 (25 * r + x)).2.1
  have hl := GA_10 g1 r
  unfold f_X4_ahead_31
  rw [RM_ref h 4]
  simp only [ob_s, lt_e]
  rw [e25, ix_n (by omega) (by omega), nI_cl (by omega), RM_I h 14]
  obtain ⟨i1, i2⟩ := m_ahead57 (q := S 14 (25 * r + x)) h g1 hr hk hp v2 a b v5 K FU 1 (by omega) (by omega) (by show S 10 r + 1 < 1 + 1000; omega)
  by_cases c : S 14 (25 * r + x) = 0
  · rw [if_pos ((nI_z (by omega)).mpr c)]
    exact ⟨fun z => absurd c z.1, fun _ => rfl⟩
  · rw [if_neg (fun z => c ((nI_z (by omega)).mp z))]
    exact ⟨fun z => i1 z.2, fun z => i2 (fun w => z ⟨c, w⟩)⟩
theorem m_ahead2 {S : SV} {R : Mm} {r x y : Nat} (h : RM S R) (g1 : GA S) (hr : r ≤ 12) (hx : x ≤ 24) (hy : y ≤ 24) (c : Int32) : ((okk S r 0 (nI x) (nI y) x ∧ okk S r 1 (nI x) (nI y) y) → f_X4_ahead 0 (nI r) (2 : Int32) (nI x) (nI y) c R = some 1) ∧ (¬ (okk S r 0 (nI x) (nI y) x ∧ okk S r 1 (nI x) (nI y) y) → f_X4_ahead 0 (nI r) (2 : Int32) (nI x) (nI y) c R = some 0) := by
  have s2 : ∀ n, f_X4_ahead_3 R (n + 1) 0 (nI r) (2 : Int32) (nI x) (nI y) c (nI 2) = some 1 := fun n => by
    rw [f_X4_ahead_3, if_pos (show (2 : Int32) ≤ nI 2 from by decide)]
  have s1 : ∀ n, f_X4_ahead_3 R (n + 1) 0 (nI r) (2 : Int32) (nI x) (nI y) c (nI 1) = f_X4_ahead_31 R (f_X4_ahead_3 R n) 0 (nI r) (2 : Int32) (nI x) (nI y) c (nI 1) (nI y) := fun n => by
    rw [f_X4_ahead_3, if_neg (show ¬ (2 : Int32) ≤ nI 1 from by decide), if_neg (show ¬ nI 1 = 0 from by decide), if_pos (show nI 1 = 1 from rfl)]
  have s0 : ∀ n, f_X4_ahead_3 R (n + 1) 0 (nI r) (2 : Int32) (nI x) (nI y) c (nI 0) = f_X4_ahead_31 R (f_X4_ahead_3 R n) 0 (nI r) (2 : Int32) (nI x) (nI y) c (nI 0) (nI x) := fun n => by
    rw [f_X4_ahead_3, if_neg (show ¬ (2 : Int32) ≤ nI 0 from by decide), if_pos (show nI 0 = 0 from rfl)]
  unfold f_X4_ahead
  have e : f_X4_ahead_3 R FU 0 (nI r) (2 : Int32) (nI x) (nI y) c (0 : Int32) = f_X4_ahead_31 R (f_X4_ahead_3 R 999) 0 (nI r) (2 : Int32) (nI x) (nI y) c (nI 0) (nI x) := s0 999
  rw [e]
  obtain ⟨a1, a2⟩ := m_ahead31 (k := 0) h g1 hr (by omega) hx (2 : Int32) (nI x) (nI y) c (f_X4_ahead_3 R 999)
  obtain ⟨b1', b2'⟩ := m_ahead31 (k := 1) h g1 hr (by omega) hy (2 : Int32) (nI x) (nI y) c (f_X4_ahead_3 R 998)
  refine ⟨fun z => ?_, fun z => ?_⟩
  · rw [a1 z.1]
    refine (s1 998).trans ?_
    rw [b1' z.2]
    exact s2 997
  · by_cases w : okk S r 0 (nI x) (nI y) x
    · rw [a1 w]
      refine (s1 998).trans ?_
      exact b2' (fun u => z ⟨w, u⟩)
    · exact a2 w
theorem m_ahead3 {S : SV} {R : Mm} {r x y z : Nat} (h : RM S R) (g1 : GA S) (hr : r ≤ 12) (hx : x ≤ 24) (hy : y ≤ 24) (hz : z ≤ 24) : ((okk S r 0 (nI x) (nI y) x ∧ okk S r 1 (nI x) (nI y) y ∧ okk S r 2 (nI x) (nI y) z) → f_X4_ahead 0 (nI r) (3 : Int32) (nI x) (nI y) (nI z) R = some 1) ∧ (¬ (okk S r 0 (nI x) (nI y) x ∧ okk S r 1 (nI x) (nI y) y ∧ okk S r 2 (nI x) (nI y) z) → f_X4_ahead 0 (nI r) (3 : Int32) (nI x) (nI y) (nI z) R = some 0) := by
  have s3 : ∀ n, f_X4_ahead_3 R (n + 1) 0 (nI r) (3 : Int32) (nI x) (nI y) (nI z) (nI 3) = some 1 := fun n => by
    rw [f_X4_ahead_3, if_pos (show (3 : Int32) ≤ nI 3 from by decide)]
  have s2 : ∀ n, f_X4_ahead_3 R (n + 1) 0 (nI r) (3 : Int32) (nI x) (nI y) (nI z) (nI 2) = f_X4_ahead_31 R (f_X4_ahead_3 R n) 0 (nI r) (3 : Int32) (nI x) (nI y) (nI z) (nI 2) (nI z) := fun n => by
    rw [f_X4_ahead_3, if_neg (show ¬ (3 : Int32) ≤ nI 2 from by decide), if_neg (show ¬ nI 2 = 0 from by decide), if_neg (show ¬ nI 2 = 1 from by decide)]
  have s1 : ∀ n, f_X4_ahead_3 R (n + 1) 0 (nI r) (3 : Int32) (nI x) (nI y) (nI z) (nI 1) = f_X4_ahead_31 R (f_X4_ahead_3 R n) 0 (nI r) (3 : Int32) (nI x) (nI y) (nI z) (nI 1) (nI y) := fun n => by
    rw [f_X4_ahead_3, if_neg (show ¬ (3 : Int32) ≤ nI 1 from by decide), if_neg (show ¬ nI 1 = 0 from by decide), if_pos (show nI 1 = 1 from rfl)]
  have s0 : ∀ n, f_X4_ahead_3 R (n + 1) 0 (nI r) (3 : Int32) (nI x) (nI y) (nI z) (nI 0) = f_X4_ahead_31 R (f_X4_ahead_3 R n) 0 (nI r) (3 : Int32) (nI x) (nI y) (nI z) (nI 0) (nI x) := fun n => by
    rw [f_X4_ahead_3, if_neg (show ¬ (3 : Int32) ≤ nI 0 from by decide), if_pos (show nI 0 = 0 from rfl)]
  unfold f_X4_ahead
  have e : f_X4_ahead_3 R FU 0 (nI r) (3 : Int32) (nI x) (nI y) (nI z) (0 : Int32) = f_X4_ahead_31 R (f_X4_ahead_3 R 999) 0 (nI r) (3 : Int32) (nI x) (nI y) (nI z) (nI 0) (nI x) := s0 999
  rw [e]
  obtain ⟨a1, a2⟩ := m_ahead31 (k := 0) h g1 hr (by omega) hx (3 : Int32) (nI x) (nI y) (nI z) (f_X4_ahead_3 R 999)
  obtain ⟨b1', b2'⟩ := m_ahead31 (k := 1) h g1 hr (by omega) hy (3 : Int32) (nI x) (nI y) (nI z) (f_X4_ahead_3 R 998)
  obtain ⟨c1, c2⟩ := m_ahead31 (k := 2) h g1 hr (by omega) hz (3 : Int32) (nI x) (nI y) (nI z) (f_X4_ahead_3 R 997)
  refine ⟨fun u => ?_, fun u => ?_⟩
  · rw [a1 u.1]
    refine (s1 998).trans ?_
    rw [b1' u.2.1]
    refine (s2 997).trans ?_
    rw [c1 u.2.2]
    exact s3 996
  · by_cases w : okk S r 0 (nI x) (nI y) x
    · rw [a1 w]
      refine (s1 998).trans ?_
      by_cases w2 : okk S r 1 (nI x) (nI y) y
      · rw [b1' w2]
        refine (s2 997).trans ?_
        exact c2 (fun w3 => u ⟨w, w2, w3⟩)
      · exact b2' w2
    · exact a2 w
/-- where positions are right: who is ahead is within the place -/
theorem ok_0 {S : SV} {r x : Nat} {a b : Int32} (ho : GOr S r) (vx : 1 ≤ x ∧ x ≤ S 10 r) : okk S r 0 a b x ↔ wth S r x 1 := by
  have hx : S 14 (25 * r + x) ≠ 0 → S 14 (25 * r + x) = 1 + pld S r (S 14 (25 * r + x)) := ho x vx.1 vx.2
  constructor
  · rintro ⟨h1, h2⟩
    have e := hx h1
    rw [pld_0 (fun m h3 h4 z => h2 m h3 h4 ⟨z, fun w => absurd w.1 (by decide), fun w => absurd w.1 (by decide)⟩)] at e
    exact ⟨by omega, by omega⟩
  · rintro ⟨h1, h2⟩
    refine ⟨by omega, fun m h3 h4 z => ?_⟩
    have := z.1.1
    have := z.1.2
    omega
theorem ok_1 {S : SV} {r x y : Nat} {b : Int32} (g1 : GA S) (ho : GOr S r) (vx : 1 ≤ x ∧ x ≤ S 10 r) (vy : 1 ≤ y ∧ y ≤ S 10 r) (hne : x ≠ y) (h1 : wth S r x 1) : okk S r 1 (nI x) b y ↔ wth S r y 2 := by
  have hl := GA_10 g1 r
  have hy : S 14 (25 * r + y) ≠ 0 → S 14 (25 * r + y) = 1 + pld S r (S 14 (25 * r + y)) := ho y vy.1 vy.2
  constructor
  · rintro ⟨h2, h3⟩
    have e := hy h2
    have := pld_le1 (S := S) (r := r) (b := S 14 (25 * r + y)) (x := x) (fun m h4 h5 z => Decidable.byContradiction (fun w => h3 m h4 h5 ⟨z, fun u => w ((nI_e (by omega) (by omega)).mp u.2), fun u => absurd u.1 (by decide)⟩))
    exact ⟨by omega, by omega⟩
  · rintro ⟨h2, h3⟩
    have e := hy (by omega)
    refine ⟨by omega, fun m h4 h5 z => ?_⟩
    obtain ⟨⟨z1, z2⟩, z3, -⟩ := z
    have hm : x ≠ m := fun w => z3 ⟨by omega, by rw [w]⟩
    have := pld_ge2 (b := S 14 (25 * r + y)) vx ⟨h4, h5⟩ hm ⟨h1.1, by have := h1.2; omega⟩ ⟨z1, z2⟩
    omega
theorem ok_2 {S : SV} {r x y z : Nat} (g1 : GA S) (ho : GOr S r) (vx : 1 ≤ x ∧ x ≤ S 10 r) (vy : 1 ≤ y ∧ y ≤ S 10 r) (vz : 1 ≤ z ∧ z ≤ S 10 r) (hxy : x ≠ y) (hxz : x ≠ z) (hyz : y ≠ z) (h1 : wth S r x 1) (h2 : wth S r y 2) : okk S r 2 (nI x) (nI y) z ↔ wth S r z 3 := by
  have hl := GA_10 g1 r
  have hz : S 14 (25 * r + z) ≠ 0 → S 14 (25 * r + z) = 1 + pld S r (S 14 (25 * r + z)) := ho z vz.1 vz.2
  constructor
  · rintro ⟨h3, h4⟩
    have e := hz h3
    have := pld_le2 (S := S) (r := r) (b := S 14 (25 * r + z)) (x := x) (y := y) (fun m h5 h6 w => Decidable.byContradiction (fun u => h4 m h5 h6 ⟨w, fun v => u (Or.inl ((nI_e (by omega) (by omega)).mp v.2)), fun v => u (Or.inr ((nI_e (by omega) (by omega)).mp v.2))⟩))
    exact ⟨by omega, by omega⟩
  · rintro ⟨h3, h4⟩
    have e := hz (by omega)
    refine ⟨by omega, fun m h5 h6 w => ?_⟩
    obtain ⟨⟨z1, z2⟩, z3, z4⟩ := w
    have hm : x ≠ m := fun w => z3 ⟨by omega, by rw [w]⟩
    have hm2 : y ≠ m := fun w => z4 ⟨by omega, by rw [w]⟩
    have lx : les S r (S 14 (25 * r + z)) x := ⟨h1.1, by have := h1.2; omega⟩
    have e2 := pld_ge2 (b := S 14 (25 * r + z)) vx ⟨h5, h6⟩ hm lx ⟨z1, z2⟩
    have ly : les S r (S 14 (25 * r + z)) y := ⟨h2.1, by have := h2.2; omega⟩
    have e3 := pld_ge3 (b := S 14 (25 * r + z)) vx vy ⟨h5, h6⟩ hxy hm hm2 lx ly ⟨z1, z2⟩
    omega
