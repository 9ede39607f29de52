/-! ===== the call sell ===== -/
theorem e3j (t j : Nat) : (3 : Int32) * nI t + nI j = nI (3 * t + j) := by
  rw [show (3 : Int32) = nI 3 from rfl, pk_mul]; exact nI_add _ _
theorem lastT_congr {f g : Nat → Nat} {p : Nat} : ∀ t, (∀ i, i < t → f i = g i) → lastT f p t = lastT g p t := by
  intro t
  induction t with
  | zero => intro _; rfl
  | succ t ih =>
    intro h
    simp only [lastT]
    rw [h t (by omega), ih (fun i hi => h i (by omega))]
abbrev nmS (S : SV) (t p x y z u : Nat) : SV := up (up (up (up (up (up (up S 27 t p) 28 (3 * t) x) 28 (3 * t + 1) y) 28 (3 * t + 2) z) 29 t u) 30 t 0) 0 19 (t + 1)
theorem m_155 {S : SV} {R : Mm} {p t u x y z : Nat} (h : RM S R) (hp : p ≤ 52) (ht : S 0 19 = t) (ht' : t < 600) (hx : mI R 32 0 0 = nI x) (hy : (if mny p ≤ 1 then 0 else mI R 32 0 1) = nI y) (hz : (if mny p ≤ 2 then 0 else mI R 32 0 2) = nI z) : ∃ R', f_X4_sell_155 FU 0 (nI u) (nI p) (nI t) (nI 0) R = some (nI t, R') ∧ RM (up (up (up (up (up (up S 28 (3 * t) x) 28 (3 * t + 1) y) 28 (3 * t + 2) z) 29 t u) 30 t 0) 0 19 (t + 1)) R' := by
  have hm := mny_le p
  have hm1 : 1 ≤ mny p := by unfold mny; split <;> (try split) <;> omega
  have st : ∀ (n j : Nat) (S : SV) (M : Mm), j < 3 → RM S M → f_X4_sell_155 (n + 1) 0 (nI u) (nI p) (nI t) (nI j) M = f_X4_sell_155 n 0 (nI u) (nI p) (nI t) (nI (j + 1)) (sI M 28 0 (3 * t + j) (if mny p ≤ j then 0 else mI M 32 0 j)) := by
    intro n j S M hj h
    rw [f_X4_sell_155, if_neg (fun z => by have := (i_le_n (a := 3) (by omega) (by omega)).mp z; omega), m_many hp, ob_s, RM_ref h 21, RM_ref h 27, e3j]
    simp only [ob_s, lt_e]
    rw [ix_n (by omega) (by omega), ix_n (by omega) (by omega), ix_n (by omega) (by omega), nI_cl (by omega), nI_cl (by omega), nI_1]
    by_cases q : mny p ≤ j
    · rw [if_pos q, if_pos ((i_le_n (by omega) (by omega)).mpr q)]
    · rw [if_neg q, if_neg (fun z => q ((i_le_n (by omega) (by omega)).mp z))]
  show ∃ R', f_X4_sell_155 (996 + 1 + 1 + 1 + 1) 0 (nI u) (nI p) (nI t) (nI 0) R = some (nI t, R') ∧ _
  have a1 := RM_sI (s := 28) (i := 3 * t) (v := x) h (by omega)
  have a2 := RM_sI (s := 28) (i := 3 * t + 1) (v := y) a1 (by omega)
  have a3 := RM_sI (s := 28) (i := 3 * t + 2) (v := z) a2 (by omega)
  have a4 := RM_sI (s := 29) (i := t) (v := u) a3 (by omega)
  have a5 := RM_sI (s := 30) (i := t) (v := 0) a4 (by omega)
  have a6 := RM_s0 (k := 19) (v := t + 1) a5 (by omega)
  refine ⟨_, ?_, a6⟩
  have b0 : f_X4_sell_155 (996 + 1 + 1 + 1 + 1) 0 (nI u) (nI p) (nI t) (nI 0) R = f_X4_sell_155 (996 + 1 + 1 + 1) 0 (nI u) (nI p) (nI t) (nI 1) (sI R 28 0 (3 * t) (nI x)) := by
    have := st (996 + 1 + 1 + 1) 0 S R (by omega) h
    rw [if_neg (by omega), hx] at this
    exact this
  have b1' : f_X4_sell_155 (996 + 1 + 1 + 1) 0 (nI u) (nI p) (nI t) (nI 1) (sI R 28 0 (3 * t) (nI x)) = f_X4_sell_155 (996 + 1 + 1) 0 (nI u) (nI p) (nI t) (nI 2) (sI (sI R 28 0 (3 * t) (nI x)) 28 0 (3 * t + 1) (nI y)) := by
    have := st (996 + 1 + 1) 1 _ _ (by omega) a1
    rw [rd_I, if_neg (c := 32 = 28 ∧ 0 = 0 ∧ 1 = 3 * t) (by omega), hy] at this
    exact this
  have b2' : f_X4_sell_155 (996 + 1 + 1) 0 (nI u) (nI p) (nI t) (nI 2) (sI (sI R 28 0 (3 * t) (nI x)) 28 0 (3 * t + 1) (nI y)) = f_X4_sell_155 (996 + 1) 0 (nI u) (nI p) (nI t) (nI 3) (sI (sI (sI R 28 0 (3 * t) (nI x)) 28 0 (3 * t + 1) (nI y)) 28 0 (3 * t + 2) (nI z)) := by
    have := st (996 + 1) 2 _ _ (by omega) a2
    rw [rd_I, if_neg (c := 32 = 28 ∧ 0 = 0 ∧ 2 = 3 * t + 1) (by omega), rd_I, if_neg (c := 32 = 28 ∧ 0 = 0 ∧ 2 = 3 * t) (by omega), hz] at this
    exact this
  rw [b0, b1', b2', f_X4_sell_155, if_pos (c := (3 : Int32) ≤ nI 3) (by decide), RM_ref a3 22]
  simp only [ob_s, lt_e]
  rw [ix_n (by omega) (by omega), nI_cl (by omega), RM_ref a4 23]
  simp only [ob_s]
  rw [ix_n (by omega) (by omega)]
  have e : mI (sI (sI (sI (sI (sI R 28 0 (3 * t) (nI x)) 28 0 (3 * t + 1) (nI y)) 28 0 (3 * t + 2) (nI z)) 29 0 t (nI u)) 30 0 t (nI 0)) 0 0 19 + 1 = nI (t + 1) := by
    rw [RM_T a5, up_n (by omega), up_n (by omega), up_n (by omega), up_n (by omega), up_n (by omega), ht]; exact nI_1 t
  exact congrArg (fun w => some (nI t, sI _ 0 0 19 w)) e
theorem m_73 {S : SV} {R : Mm} {p t u : Nat} {a b c v8 : Int32} (h : RM S R) (g1 : GA S) (g2 : GP S) (hp : S 15 p = 1) (hn : NMD R a b c) (ht : S 0 19 = t) (ht' : t ≤ 512) : f_X4_sell_73 FU 0 (nI u) (nI p) v8 (nI 0) R = if staR S p a b c then (if v8 = -6 then some ((-6 : Int32), R) else f_X4_sell_155 FU 0 (nI u) (nI p) (nI t) (nI 0) (sI R 27 0 t (nI p))) else some ((-5 : Int32), R) := by
  have p1 := (g2.2.1 p hp).1
  obtain ⟨n0, n1, n2⟩ := hn
  have hm := mny_le p
  have hm1 : 1 ≤ mny p := by unfold mny; split <;> (try split) <;> omega
  have hr := fun j => ro_le g1 g2 hp j
  have st : ∀ n j : Nat, j < mny p → f_X4_sell_73 (n + 1) 0 (nI u) (nI p) v8 (nI j) R = if rns S (ro S p j) (mI R 32 0 j) then f_X4_sell_73 n 0 (nI u) (nI p) v8 (nI (j + 1)) R else some ((-5 : Int32), R) := by
    intro n j hj
    rw [f_X4_sell_73, m_many p1, ob_s, if_neg (fun z => by have := (i_le_n (by omega) (by omega)).mp z; omega), m_raceOf h p1 (by omega), RM_ref h 27]
    simp only [ob_s, lt_e]
    rw [ix_n (by omega) (by omega), m_runs h g1 (hr j), nI_cl (by omega), nI_1]
    simp only [ob_s, b1_if]
  have en : ∀ n : Nat, f_X4_sell_73 (n + 1) 0 (nI u) (nI p) v8 (nI (mny p)) R = if v8 = -6 then some ((-6 : Int32), R) else f_X4_sell_155 FU 0 (nI u) (nI p) (nI t) (nI 0) (sI R 27 0 t (nI p)) := by
    intro n
    rw [f_X4_sell_73, m_many p1, ob_s, if_pos ((i_le_n (by omega) (by omega)).mpr (by omega)), RM_T h, ht, RM_ref h 20]
    simp only [ob_s, lt_e]
    rw [ix_n (by omega) (by omega), nI_cl (by omega), if_neg (c := nI t = 600) (fun z => by have := (nI_e (m := 600) (by omega) (by omega)).mp z; omega)]; rfl
  show f_X4_sell_73 (996 + 1 + 1 + 1 + 1) 0 (nI u) (nI p) v8 (nI 0) R = _
  rw [st _ 0 (by omega), n0]
  by_cases w0 : rns S (ro S p 0) a
  · rw [if_pos w0]
    by_cases m1 : mny p = 1
    · rw [show nI (0 + 1) = nI (mny p) from by rw [m1], en, if_pos (c := staR S p a b c) ⟨w0, fun z => by omega, fun z => by omega⟩]
    · rw [st _ 1 (by omega), n1]
      by_cases w1 : rns S (ro S p 1) b
      · rw [if_pos w1]
        by_cases m2 : mny p = 2
        · rw [show nI (1 + 1) = nI (mny p) from by rw [m2], en, if_pos (c := staR S p a b c) ⟨w0, fun _ => w1, fun z => by omega⟩]
        · rw [st _ 2 (by omega), n2]
          by_cases w2 : rns S (ro S p 2) c
          · rw [if_pos w2, show nI (2 + 1) = nI (mny p) from by rw [show mny p = 3 by omega], en, if_pos (c := staR S p a b c) ⟨w0, fun _ => w1, fun _ => w2⟩]
          · rw [if_neg w2, if_neg (c := staR S p a b c) (fun z => w2 (z.2.2 (by omega)))]
      · rw [if_neg w1, if_neg (c := staR S p a b c) (fun z => w1 (z.2.1 (by omega)))]
  · rw [if_neg w0, if_neg (c := staR S p a b c) (fun z => w0 z.1)]
/-- the house's new ticket -/
def tkM (C : Mm) (t p : Nat) (l : Option Nat) (x y z u : Int32) : Mm := sR (sI (sI (sI (sI (sR (sR (nA C 8 t) 8 t 0 (some p)) 8 t 1 l) 8 t 3 x) 8 t 4 y) 8 t 5 z) 8 t 2 u) 7 p 5 (some t)
theorem c_issue {S : SV} {C : Mm} {t p : Nat} {a b c u : Int32} (h : RC S C) (hT : S 0 19 = t) (ht : t ≤ 512) (hp : S 15 p ≠ 0) : f_X0_issueTicket p a b c u C = some (some t, tkM C t p (lastT (S 27) p t) a (if 2 ≤ mny p then b else 0) (if 3 ≤ mny p then c else 0) u) := by
  have hpp := (h.2.2.1 p hp).1
  have hk := hpp.1
  have h5 := hpp.2.2.2.2.2.1
  unfold f_X0_issueTicket
  rw [h.1.2.2.1, hT, nI_cl (by omega), nw_f (h.2.2.2.2.2.2 t (by omega))]
  have e0 : mI (nA C 8 t) 7 p 0 = mI C 7 p 0 := by rw [rn_I, if_neg (by omega)]
  have n1 : f_X0_namesSecond p (nA C 8 t) = some (b1 (2 ≤ mny p)) := by
    have : f_X0_namesSecond p (nA C 8 t) = f_X0_namesSecond p C := by unfold f_X0_namesSecond; rw [e0]
    rw [this, c_namesSecond hpp]
  have n2 : f_X0_namesThird p (nA C 8 t) = some (b1 (3 ≤ mny p)) := by
    have : f_X0_namesThird p (nA C 8 t) = f_X0_namesThird p C := by unfold f_X0_namesThird; rw [e0]
    rw [this, c_namesThird hpp]
  have l5 : mR (nA C 8 t) 7 p 5 = lastT (S 27) p t := by rw [rn_R, if_neg (by omega), h5, hT]
  simp only [lt_e]
  rw [n1, n2, l5]
  unfold f_X2_init tkM
  simp only [ob_s, lt_e, b1_if]
  by_cases q1 : 2 ≤ mny p
  · rw [if_pos q1, if_pos q1]
    by_cases q2 : 3 ≤ mny p
    · rw [if_pos q2, if_pos q2, rd_R, if_pos ⟨rfl, rfl, rfl⟩]
    · rw [if_neg q2, if_neg q2, rd_R, if_pos ⟨rfl, rfl, rfl⟩]
  · rw [if_neg q1, if_neg q1]
    by_cases q2 : 3 ≤ mny p
    · rw [if_pos q2, if_pos q2, rd_R, if_pos ⟨rfl, rfl, rfl⟩]
    · rw [if_neg q2, if_neg q2, rd_R, if_pos ⟨rfl, rfl, rfl⟩]
