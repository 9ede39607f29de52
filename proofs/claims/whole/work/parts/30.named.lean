/-! ===== what can be named in a pool; the call units ===== -/
abbrev hasR (S : SV) (p : Nat) (a b c : Int32) : Prop := isRn S (ro S p 0) a ∧ (2 ≤ mny p → isRn S (ro S p 1) b) ∧ (3 ≤ mny p → isRn S (ro S p 2) c)
abbrev staR (S : SV) (p : Nat) (a b c : Int32) : Prop := rns S (ro S p 0) a ∧ (2 ≤ mny p → rns S (ro S p 1) b) ∧ (3 ≤ mny p → rns S (ro S p 2) c)
abbrev twcR (p : Nat) (a b c : Int32) : Prop := p ≠ 52 ∧ ((2 ≤ mny p ∧ a = b) ∨ (3 ≤ mny p ∧ (a = c ∨ b = c)))
theorem ro_le {S : SV} {p : Nat} (g1 : GA S) {DD : Nat → Prop} {ZZ : Prop} (g2 : GPx DD ZZ S) (hp : S 15 p = 1) (j : Nat) : ro S p j ≤ 12 := (g1.1 _ (ro_p g1 g2 hp j)).2.1
theorem ro_2 {S : SV} {p : Nat} (h : 3 ≤ mny p) : ro S p 2 = ro S p 0 := by
  unfold ro
  by_cases q : p = 52
  · subst q
    have : mny 52 = 2 := rfl
    omega
  · rw [if_neg q, if_neg q]
theorem mny_kd (p : Nat) : (2 ≤ mny p ↔ ¬ kd p < 2) ∧ (3 ≤ mny p ↔ kd p = 3) := by
  unfold mny
  split
  · omega
  · split <;> omega
theorem c_namesSecond {S : SV} {C : Mm} {p : Nat} (h : RCp S C p) : f_X0_namesSecond p C = some (b1 (2 ≤ mny p)) := by
  unfold f_X0_namesSecond
  have hk := kd_le p
  have hm := (mny_kd p).1
  rw [h.1]
  by_cases q : kd p < 2
  · rw [if_pos ((i_lt_2 (by omega)).mpr q), b1_f (by omega)]
  · rw [if_neg (fun z => q ((i_lt_2 (by omega)).mp z)), b1_t (by omega)]
theorem c_namesThird {S : SV} {C : Mm} {p : Nat} (h : RCp S C p) : f_X0_namesThird p C = some (b1 (3 ≤ mny p)) := by
  unfold f_X0_namesThird
  have hk := kd_le p
  have hm := (mny_kd p).2
  rw [h.1]
  by_cases q : kd p = 3
  · rw [if_pos ((nI_3e (by omega)).mpr q), b1_t (by omega)]
  · rw [if_neg (fun z => q ((nI_3e (by omega)).mp z)), b1_f (by omega)]
theorem c_hasRunners {S : SV} {C : Mm} {p : Nat} {EE : Nat → Prop} (h : RCx EE S C) (g1 : GA S) {DD : Nat → Prop} {ZZ : Prop} (g2 : GPx DD ZZ S) (hp : S 15 p = 1) (a b c : Int32) : f_X0_hasRunners p a b c C = some (b1 (hasR S p a b c)) := by
  have hpp := (h.2.2.1 p (by omega)).1
  have r0 := h.2.1 _ (ro_p g1 g2 hp 0)
  have r1 := h.2.1 _ (ro_p g1 g2 hp 1)
  have third : f_X0_hasRunners_29 C p c = some (b1 (3 ≤ mny p → isRn S (ro S p 2) c)) := by
    unfold f_X0_hasRunners_29
    rw [c_namesThird hpp, hpp.2.1]
    simp only [ob_s, b1_if]
    rw [c_hasRunner r0 g1]
    simp only [ob_s, b1_if]
    by_cases q : 3 ≤ mny p
    · rw [if_pos q, some_if, ro_2 q]
      exact congrArg some (b1_congr ⟨fun z _ => z, fun z => z q⟩)
    · rw [if_neg q, b1_t (fun z => absurd z q)]
  unfold f_X0_hasRunners
  rw [hpp.2.1, hpp.2.2.1]
  simp only [ob_s]
  rw [c_hasRunner r0 g1, c_namesSecond hpp]
  simp only [ob_s, b1_if]
  rw [third, c_hasRunner r1 g1]
  simp only [ob_s, b1_if]
  by_cases q : isRn S (ro S p 0) a
  · rw [if_pos q]
    by_cases q2 : 2 ≤ mny p
    · rw [if_pos q2]
      by_cases q3 : isRn S (ro S p 1) b
      · rw [if_pos q3]
        exact congrArg some (b1_congr ⟨fun z => ⟨q, fun _ => q3, z⟩, fun z => z.2.2⟩)
      · rw [if_neg q3, b1_f (fun z => q3 (z.2.1 q2))]
    · rw [if_neg q2]
      exact congrArg some (b1_congr ⟨fun z => ⟨q, fun w => absurd w q2, z⟩, fun z => z.2.2⟩)
  · rw [if_neg q, b1_f (fun z => q z.1)]
theorem c_haveStart {S : SV} {C : Mm} {p : Nat} {EE : Nat → Prop} (h : RCx EE S C) (g1 : GA S) {DD : Nat → Prop} {ZZ : Prop} (g2 : GPx DD ZZ S) (hp : S 15 p = 1) (a b c : Int32) : f_X0_haveStart p a b c C = some (b1 (staR S p a b c)) := by
  have hpp := (h.2.2.1 p (by omega)).1
  have r0 := h.2.1 _ (ro_p g1 g2 hp 0)
  have r1 := h.2.1 _ (ro_p g1 g2 hp 1)
  have third : f_X0_haveStart_29 C p c = some (b1 (3 ≤ mny p → rns S (ro S p 2) c)) := by
    unfold f_X0_haveStart_29
    rw [c_namesThird hpp, hpp.2.1]
    simp only [ob_s, b1_if]
    rw [c_isRunning r0 g1]
    simp only [ob_s, b1_if]
    by_cases q : 3 ≤ mny p
    · rw [if_pos q, some_if, ro_2 q]
      exact congrArg some (b1_congr ⟨fun z _ => z, fun z => z q⟩)
    · rw [if_neg q, b1_t (fun z => absurd z q)]
  unfold f_X0_haveStart
  rw [hpp.2.1, hpp.2.2.1]
  simp only [ob_s]
  rw [c_isRunning r0 g1, c_namesSecond hpp]
  simp only [ob_s, b1_if]
  rw [third, c_isRunning r1 g1]
  simp only [ob_s, b1_if]
  by_cases q : rns S (ro S p 0) a
  · rw [if_pos q]
    by_cases q2 : 2 ≤ mny p
    · rw [if_pos q2]
      by_cases q3 : rns S (ro S p 1) b
      · rw [if_pos q3]
        exact congrArg some (b1_congr ⟨fun z => ⟨q, fun _ => q3, z⟩, fun z => z.2.2⟩)
      · rw [if_neg q3, b1_f (fun z => q3 (z.2.1 q2))]
    · rw [if_neg q2]
      exact congrArg some (b1_congr ⟨fun z => ⟨q, fun w => absurd w q2, z⟩, fun z => z.2.2⟩)
  · rw [if_neg q, b1_f (fun z => q z.1)]
theorem c_namesOneTwice {S : SV} {C : Mm} {p : Nat} (h : RCp S C p) (a b c : Int32) : f_X0_namesOneTwice p a b c C = some (b1 (twcR p a b c)) := by
  unfold f_X0_namesOneTwice
  have hk := kd_le p
  rw [c_namesSecond h, c_namesThird h, h.1]
  simp only [ob_s, b1_if]
  by_cases q : kd p = 4
  · rw [if_pos ((nI_4e (by omega)).mpr q), b1_f (fun z => z.1 (kd_52.mp q))]
  · have q' : p ≠ 52 := fun z => q (kd_52.mpr z)
    rw [if_neg (fun z => q ((nI_4e (by omega)).mp z))]
    by_cases q2 : 2 ≤ mny p
    · rw [if_pos q2]
      by_cases w1 : a = b
      · rw [if_pos w1, b1_t ⟨q', Or.inl ⟨q2, w1⟩⟩]
      · rw [if_neg w1]
        by_cases q3 : 3 ≤ mny p
        · rw [if_pos q3]
          by_cases w2 : a = c
          · rw [if_pos w2, b1_t ⟨q', Or.inr ⟨q3, Or.inl w2⟩⟩]
          · rw [if_neg w2]
            by_cases w3 : b = c
            · rw [if_pos w3, b1_t ⟨q', Or.inr ⟨q3, Or.inr w3⟩⟩]
            · rw [if_neg w3, b1_f]
              rintro ⟨-, z | z⟩
              · exact w1 z.2
              · rcases z.2 with y | y
                · exact w2 y
                · exact w3 y
        · rw [if_neg q3, b1_f]
          rintro ⟨-, z | z⟩
          · exact w1 z.2
          · exact q3 z.1
    · rw [if_neg q2, b1_f]
      rintro ⟨-, z | z⟩
      · exact q2 z.1
      · omega
theorem c_canBeNamed {S : SV} {C : Mm} {p : Nat} {EE : Nat → Prop} (h : RCx EE S C) (g1 : GA S) {DD : Nat → Prop} {ZZ : Prop} (g2 : GPx DD ZZ S) (hp : S 15 p = 1) (a b c : Int32) : f_X0_canBeNamed p a b c C = some (b1 (hasR S p a b c ∧ ¬ twcR p a b c)) := by
  unfold f_X0_canBeNamed
  rw [c_hasRunners h g1 g2 hp, c_namesOneTwice (h.2.2.1 p (by omega)).1]
  simp only [ob_s, b1_if]
  by_cases q : hasR S p a b c
  · rw [if_pos q]
    by_cases q2 : twcR p a b c
    · rw [if_pos q2, b1_f (fun z => z.2 q2)]
    · rw [if_neg q2, b1_t ⟨q, q2⟩]
  · rw [if_neg q, b1_f (fun z => q z.1)]
/-- the model keeps what is named -/
abbrev NMD (R : Mm) (a b c : Int32) : Prop := mI R 32 0 0 = a ∧ mI R 32 0 1 = b ∧ mI R 32 0 2 = c
theorem m_names {S : SV} {R : Mm} (h : RM S R) (a b c : Int32) : ∃ R', f_X4_names 0 a b c R = some R' ∧ RM S R' ∧ NMD R' a b c := by
  unfold f_X4_names
  rw [RM_ref h 27]
  simp only [ob_s, lt_e]
  rw [ix_v (x := 0) (n := 3) (show vp_in (nI 0) 3 from vp_in_nI (by omega) (by omega))]
  have h1 := RM_scI h (s := 32) (k := (0 : Int32).toNatClampNeg) (v := a) (Or.inl rfl)
  rw [RM_ref h1 27]
  simp only [ob_s]
  rw [ix_v (x := 1) (n := 3) (show vp_in (nI 1) 3 from vp_in_nI (by omega) (by omega))]
  have h2 := RM_scI h1 (s := 32) (k := (1 : Int32).toNatClampNeg) (v := b) (Or.inl rfl)
  rw [RM_ref h2 27]
  simp only [ob_s]
  rw [ix_v (x := 2) (n := 3) (show vp_in (nI 2) 3 from vp_in_nI (by omega) (by omega))]
  have h3 := RM_scI h2 (s := 32) (k := (2 : Int32).toNatClampNeg) (v := c) (Or.inl rfl)
  exact ⟨_, rfl, h3, rfl, rfl, rfl⟩
theorem m_named {S : SV} {R : Mm} {p : Nat} {a b c : Int32} (h : RM S R) (g1 : GA S) {DD : Nat → Prop} {ZZ : Prop} (g2 : GPx DD ZZ S) (hp : S 15 p = 1) (hn : NMD R a b c) : f_X4_named 0 (nI p) R = some (if hasR S p a b c then (if twcR p a b c then -6 else 0) else -4) := by
  have p1 := (g2.2.1 p hp).1
  obtain ⟨n0, n1, n2⟩ := hn
  have hm := mny_le p
  have hr := fun j => ro_le g1 g2 hp j
  have s56 : ∀ (K : Nat → Int32 → Int32 → Int32 → Option Int32) (n k i : Nat), k ≤ 3 → i ≤ 2 → f_X4_named_56 R K (n + 1) 0 (nI p) (nI (mny p)) (nI k) (nI i) = if k ≤ i then K 0 (nI p) (nI (mny p)) (nI (k + 1)) else if k ≤ 2 then (if mI R 32 0 i = mI R 32 0 k then some (-6 : Int32) else f_X4_named_56 R K n 0 (nI p) (nI (mny p)) (nI k) (nI (i + 1))) else f_X4_named_56 R K (n + 1) 0 (nI p) (nI (mny p)) (nI k) (nI i) := by
    intro K n k i hk hi
    by_cases q : k ≤ i
    · rw [if_pos q, f_X4_named_56, if_pos ((i_le_n (by omega) (by omega)).mpr q), lt_e, nI_1]
    · rw [if_neg q]
      by_cases q2 : k ≤ 2
      · rw [if_pos q2, f_X4_named_56, if_neg (fun z => q ((i_le_n (by omega) (by omega)).mp z)), RM_ref h 27]
        simp only [ob_s, lt_e]
        rw [ix_n (by omega) (by omega), ix_n (by omega) (by omega), nI_cl (by omega), nI_cl (by omega), nI_1]
      · rw [if_neg q2]
  have s42 : ∀ n k : Nat, k ≤ 3 → f_X4_named_42 R (n + 1) 0 (nI p) (nI (mny p)) (nI k) = if mny p ≤ k then some (0 : Int32) else if p = 52 then some (0 : Int32) else f_X4_named_56 R (f_X4_named_42 R n) FU 0 (nI p) (nI (mny p)) (nI k) (nI 0) := by
    intro n k hk
    rw [f_X4_named_42]
    by_cases q : mny p ≤ k
    · rw [if_pos q, if_pos ((i_le_n (by omega) (by omega)).mpr q)]
    · rw [if_neg q, if_neg (fun z => q ((i_le_n (by omega) (by omega)).mp z))]
      by_cases q2 : p = 52
      · rw [if_pos q2, if_pos ((nI_52 (by omega)).mpr q2)]
      · rw [if_neg q2, if_neg (fun z => q2 ((nI_52 (by omega)).mp z))]; rfl
  have v42 : f_X4_named_42 R FU 0 (nI p) (nI (mny p)) (nI 0) = some (if twcR p a b c then (-6 : Int32) else 0) := by
    show f_X4_named_42 R (996 + 1 + 1 + 1 + 1) 0 (nI p) (nI (mny p)) (nI 0) = _
    rw [s42 _ 0 (by omega), if_neg (by omega)]
    by_cases q : p = 52
    · rw [if_pos q, if_neg (fun z => z.1 q)]
    · rw [if_neg q, show FU = 999 + 1 from rfl, s56 _ 999 0 0 (by omega) (by omega), if_pos (by omega), s42 _ 1 (by omega)]
      by_cases m1 : mny p ≤ 1
      · rw [if_pos m1, if_neg]
        rintro ⟨-, z | z⟩ <;> omega
      · rw [if_neg m1, if_neg q, show FU = 998 + 1 + 1 from rfl, s56 _ (998 + 1) 1 0 (by omega) (by omega), if_neg (by omega), if_pos (by omega), n0, n1]
        by_cases w1 : a = b
        · rw [if_pos w1, if_pos ⟨q, Or.inl ⟨by omega, w1⟩⟩]
        · rw [if_neg w1, s56 _ 998 1 1 (by omega) (by omega), if_pos (by omega), s42 _ 2 (by omega)]
          by_cases m2 : mny p ≤ 2
          · rw [if_pos m2, if_neg]
            rintro ⟨-, z | z⟩
            · exact w1 z.2
            · omega
          · rw [if_neg m2, if_neg q, show FU = 997 + 1 + 1 + 1 from rfl, s56 _ (997 + 1 + 1) 2 0 (by omega) (by omega), if_neg (by omega), if_pos (by omega), n0, n2]
            by_cases w2 : a = c
            · rw [if_pos w2, if_pos ⟨q, Or.inr ⟨by omega, Or.inl w2⟩⟩]
            · rw [if_neg w2, s56 _ (997 + 1) 2 1 (by omega) (by omega), if_neg (by omega), if_pos (by omega), n1, n2]
              by_cases w3 : b = c
              · rw [if_pos w3, if_pos ⟨q, Or.inr ⟨by omega, Or.inr w3⟩⟩]
              · rw [if_neg w3, s56 _ 997 2 2 (by omega) (by omega), if_pos (by omega), s42 _ 3 (by omega), if_pos (by omega), if_neg]
                rintro ⟨-, z | z⟩
                · exact w1 z.2
                · rcases z.2 with y | y
                  · exact w2 y
                  · exact w3 y
  have s7 : ∀ n j : Nat, j < mny p → f_X4_named_7 R (n + 1) 0 (nI p) (nI (mny p)) (nI j) = if isRn S (ro S p j) (mI R 32 0 j) then f_X4_named_7 R n 0 (nI p) (nI (mny p)) (nI (j + 1)) else some (-4 : Int32) := by
    intro n j hj
    rw [f_X4_named_7, if_neg (fun z => by have := (i_le_n (by omega) (by omega)).mp z; omega), m_raceOf h p1 (by omega), RM_ref h 27]
    simp only [ob_s, lt_e]
    rw [ix_n (by omega) (by omega), m_isRunner h g1 (hr j), nI_cl (by omega), nI_1]
    simp only [ob_s, b1_if]
  have e7 : ∀ n : Nat, f_X4_named_7 R (n + 1) 0 (nI p) (nI (mny p)) (nI (mny p)) = f_X4_named_42 R FU 0 (nI p) (nI (mny p)) (nI 0) := by
    intro n
    rw [f_X4_named_7, if_pos ((i_le_n (by omega) (by omega)).mpr (by omega))]; rfl
  unfold f_X4_named
  rw [m_many p1, ob_s]
  show f_X4_named_7 R (996 + 1 + 1 + 1 + 1) 0 (nI p) (nI (mny p)) (nI 0) = _
  rw [s7 _ 0 (by omega), n0]
  by_cases w0 : isRn S (ro S p 0) a
  · rw [if_pos w0]
    by_cases m1 : mny p = 1
    · rw [show nI (0 + 1) = nI (mny p) from by rw [m1], e7, v42, if_pos (c := hasR S p a b c) ⟨w0, fun z => by omega, fun z => by omega⟩]
    · rw [s7 _ 1 (by omega), n1]
      by_cases w1 : isRn S (ro S p 1) b
      · rw [if_pos w1]
        by_cases m2 : mny p = 2
        · rw [show nI (1 + 1) = nI (mny p) from by rw [m2], e7, v42, if_pos (c := hasR S p a b c) ⟨w0, fun _ => w1, fun z => by omega⟩]
        · rw [s7 _ 2 (by omega), n2]
          by_cases w2 : isRn S (ro S p 2) c
          · rw [if_pos w2, show nI (2 + 1) = nI (mny p) from by rw [show mny p = 3 by omega], e7, v42, if_pos (c := hasR S p a b c) ⟨w0, fun _ => w1, fun _ => w2⟩]
          · rw [if_neg w2, if_neg (c := hasR S p a b c) (fun z => w2 (z.2.2 (by omega)))]
      · rw [if_neg w1, if_neg (c := hasR S p a b c) (fun z => w1 (z.2.1 (by omega)))]
  · rw [if_neg w0, if_neg (c := hasR S p a b c) (fun z => w0 z.1)]
theorem s_units : S_units Inv := by
  intro k C R v w a b c hk hI
  obtain ⟨S, hR, hC, g1, g2, g3, g4, g5⟩ := hI
  unfold f_X3_units f_X4_units
  rw [c_poolOf hC g1, m_poolOf hR g1 g2]
  simp only [ob_s]
  cases hp : pOf S v w with
  | none => exact ⟨-1, R, rfl, rfl, Inv_st hR hC g1 g2 g3 hk g4 g5⟩
  | some p =>
    obtain ⟨p1, p2, -⟩ := pOf_s g1 g2 hp
    obtain ⟨R', e1, hR', hn⟩ := m_names hR a b c
    rw [on_s, c_canBeNamed hC g1 g2 p2]
    show ∃ r R'', _ ∧ (if nI p = (-1 : Int32) then _ else ob (f_X4_names 0 a b c R) fun M26 => ob (f_X4_named 0 (nI p) M26) fun r29 => if 0 ≤ r29 then (ob (f_X4_unitsOn 0 (nI p) a b c M26) fun r34 => some (r34, M26)) else (some ((-1 : Int32), M26))) = _ ∧ _
    rw [if_neg (pI_n p1), e1]
    simp only [ob_s]
    rw [m_named hR' g1 g2 p2 hn]
    simp only [ob_s, b1_if]
    have hI' := Inv_st hR' hC g1 g2 g3 hk g4 g5
    by_cases q : hasR S p a b c
    · rw [if_pos q]
      by_cases q2 : twcR p a b c
      · rw [if_pos q2, if_neg (fun z => z.2 q2), if_neg (by decide)]
        exact ⟨_, _, rfl, rfl, hI'⟩
      · rw [if_neg q2, if_pos ⟨q, q2⟩, if_pos (by decide), c_unitsOn hC g3 p2, m_unitsOn hR' g3 g1 g2 p1]
        simp only [ob_s]
        refine ⟨_, _, rfl, ?_, hI'⟩
        rw [lN_i]
    · rw [if_neg q, if_neg (fun z => q z.1), if_neg (by decide)]
      exact ⟨_, _, rfl, rfl, hI'⟩
