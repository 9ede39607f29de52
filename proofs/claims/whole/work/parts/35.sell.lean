/-! ===== the call sell ===== -/
theorem e3j (t j : Nat) : (3 : Int32) * nI t + nI j = nI (3 * t + j) := by
  rw [show (3 : Int32) = nI 3 from rfl, pk_mul]; exact nI_add _ _
theorem lastT_congr {f g : Nat → Nat} {p : Nat} : ∀ t, (∀ i, i < t → f i = g i) → lastT f p t = lastT g p t := by
  intro t
  induction t with
  | zero => intro _; rfl
  | succ t ih =>
    intro h
    simp only [lastT]
    rw [h t (by omega), ih (fun i hi => h i (by omega))]
abbrev nmS (S : SV) (t p x y z u : Nat) : SV := up (up (up (up (up (up (up S 27 t p) 28 (3 * t) x) 28 (3 * t + 1) y) 28 (3 * t + 2) z) 29 t u) 30 t 0) 0 19 (t + 1)
theorem m_155 {S : SV} {R : Mm} {p t u x y z : Nat} (h : RM S R) (hp : p ≤ 52) (ht : S 0 19 = t) (ht' : t < 600) (hx : mI R 32 0 0 = nI x) (hy : (if mny p ≤ 1 then 0 else mI R 32 0 1) = nI y) (hz : (if mny p ≤ 2 then 0 else mI R 32 0 2) = nI z) : ∃ R', f_X4_sell_155 FU 0 (nI u) (nI p) (nI t) (nI 0) R = some (nI t, R') ∧ RM (up (up (up (up (up (up S 28 (3 * t) x) 28 (3 * t + 1) y) 28 (3 * t + 2) z) 29 t u) 30 t 0) 0 19 (t + 1)) R' := by
  have hm := mny_le p
  have hm1 : 1 ≤ mny p := by unfold mny; split <;> (try split) <;> omega
  have st : ∀ (n j : Nat) (S : SV) (M : Mm), j < 3 → RM S M → f_X4_sell_155 (n + 1) 0 (nI u) (nI p) (nI t) (nI j) M = f_X4_sell_155 n 0 (nI u) (nI p) (nI t) (nI (j + 1)) (sI M 28 0 (3 * t + j) (if mny p ≤ j then 0 else mI M 32 0 j)) := by
    intro n j S M hj h
    rw [f_X4_sell_155, if_neg (fun z => by have := (i_le_n (a := 3) (by omega) (by omega)).mp z; omega), m_many hp, ob_s, RM_ref h 21, RM_ref h 27, e3j]
    simp only [ob_s, lt_e]
    rw [ix_n (by omega) (by omega), ix_n (by omega) (by omega), ix_n (by omega) (by omega), nI_cl (by omega), nI_cl (by omega), nI_1]
    by_cases q : mny p ≤ j
    · rw [if_pos q, if_pos ((i_le_n (by omega) (by omega)).mpr q)]
    · rw [if_neg q, if_neg (fun z => q ((i_le_n (by omega) (by omega)).mp z))]
  show ∃ R', f_X4_sell_155 (996 + 1 + 1 + 1 + 1) 0 (nI u) (nI p) (nI t) (nI 0) R = some (nI t, R') ∧ _
  have a1 := RM_sI (s := 28) (i := 3 * t) (v := x) h (by omega)
  have a2 := RM_sI (s := 28) (i := 3 * t + 1) (v := y) a1 (by omega)
  have a3 := RM_sI (s := 28) (i := 3 * t + 2) (v := z) a2 (by omega)
  have a4 := RM_sI (s := 29) (i := t) (v := u) a3 (by omega)
  have a5 := RM_sI (s := 30) (i := t) (v := 0) a4 (by omega)
  have a6 := RM_s0 (k := 19) (v := t + 1) a5 (by omega)
  refine ⟨_, ?_, a6⟩
  have b0 : f_X4_sell_155 (996 + 1 + 1 + 1 + 1) 0 (nI u) (nI p) (nI t) (nI 0) R = f_X4_sell_155 (996 + 1 + 1 + 1) 0 (nI u) (nI p) (nI t) (nI 1) (sI R 28 0 (3 * t) (nI x)) := by
    have := st (996 + 1 + 1 + 1) 0 S R (by omega) h
    rw [if_neg (by omega), hx] at this
    exact this
  have b1' : f_X4_sell_155 (996 + 1 + 1 + 1) 0 (nI u) (nI p) (nI t) (nI 1) (sI R 28 0 (3 * t) (nI x)) = f_X4_sell_155 (996 + 1 + 1) 0 (nI u) (nI p) (nI t) (nI 2) (sI (sI R 28 0 (3 * t) (nI x)) 28 0 (3 * t + 1) (nI y)) := by
    have := st (996 + 1 + 1) 1 _ _ (by omega) a1
    rw [rd_I, if_neg (c := 32 = 28 ∧ 0 = 0 ∧ 1 = 3 * t) (by omega), hy] at this
    exact this
  have b2' : f_X4_sell_155 (996 + 1 + 1) 0 (nI u) (nI p) (nI t) (nI 2) (sI (sI R 28 0 (3 * t) (nI x)) 28 0 (3 * t + 1) (nI y)) = f_X4_sell_155 (996 + 1) 0 (nI u) (nI p) (nI t) (nI 3) (sI (sI (sI R 28 0 (3 * t) (nI x)) 28 0 (3 * t + 1) (nI y)) 28 0 (3 * t + 2) (nI z)) := by
    have := st (996 + 1) 2 _ _ (by omega) a2
    rw [rd_I, if_neg (c := 32 = 28 ∧ 0 = 0 ∧ 2 = 3 * t + 1) (by omega), rd_I, if_neg (c := 32 = 28 ∧ 0 = 0 ∧ 2 = 3 * t) (by omega), hz] at this
    exact this
  rw [b0, b1', b2', f_X4_sell_155, if_pos (c := (3 : Int32) ≤ nI 3) (by decide), RM_ref a3 22]
  simp only [ob_s, lt_e]
  rw [ix_n (by omega) (by omega), nI_cl (by omega), RM_ref a4 23]
  simp only [ob_s]
  rw [ix_n (by omega) (by omega)]
  have e : mI (sI (sI (sI (sI (sI R 28 0 (3 * t) (nI x)) 28 0 (3 * t + 1) (nI y)) 28 0 (3 * t + 2) (nI z)) 29 0 t (nI u)) 30 0 t (nI 0)) 0 0 19 + 1 = nI (t + 1) := by
    rw [RM_T a5, up_n (by omega), up_n (by omega), up_n (by omega), up_n (by omega), up_n (by omega), ht]; exact nI_1 t
  exact congrArg (fun w => some (nI t, sI _ 0 0 19 w)) e
theorem m_73 {S : SV} {R : Mm} {p t u : Nat} {a b c v8 : Int32} (h : RM S R) (g1 : GA S) (g2 : GP S) (hp : S 15 p = 1) (hn : NMD R a b c) (ht : S 0 19 = t) (ht' : t ≤ 512) : f_X4_sell_73 FU 0 (nI u) (nI p) v8 (nI 0) R = if staR S p a b c then (if v8 = -6 then some ((-6 : Int32), R) else f_X4_sell_155 FU 0 (nI u) (nI p) (nI t) (nI 0) (sI R 27 0 t (nI p))) else some ((-5 : Int32), R) := by
  have p1 := (g2.2.1 p hp).1
  obtain ⟨n0, n1, n2⟩ := hn
  have hm := mny_le p
  have hm1 : 1 ≤ mny p := by unfold mny; split <;> (try split) <;> omega
  have hr := fun j => ro_le g1 g2 hp j
  have st : ∀ n j : Nat, j < mny p → f_X4_sell_73 (n + 1) 0 (nI u) (nI p) v8 (nI j) R = if rns S (ro S p j) (mI R 32 0 j) then f_X4_sell_73 n 0 (nI u) (nI p) v8 (nI (j + 1)) R else some ((-5 : Int32), R) := by
    intro n j hj
    rw [f_X4_sell_73, m_many p1, ob_s, if_neg (fun z => by have := (i_le_n (by omega) (by omega)).mp z; omega), m_raceOf h p1 (by omega), RM_ref h 27]
    simp only [ob_s, lt_e]
    rw [ix_n (by omega) (by omega), m_runs h g1 (hr j), nI_cl (by omega), nI_1]
    simp only [ob_s, b1_if]
  have en : ∀ n : Nat, f_X4_sell_73 (n + 1) 0 (nI u) (nI p) v8 (nI (mny p)) R = if v8 = -6 then some ((-6 : Int32), R) else f_X4_sell_155 FU 0 (nI u) (nI p) (nI t) (nI 0) (sI R 27 0 t (nI p)) := by
    intro n
    rw [f_X4_sell_73, m_many p1, ob_s, if_pos ((i_le_n (by omega) (by omega)).mpr (by omega)), RM_T h, ht, RM_ref h 20]
    simp only [ob_s, lt_e]
    rw [ix_n (by omega) (by omega), nI_cl (by omega), if_neg (c := nI t = 600) (fun z => by have := (nI_e (m := 600) (by omega) (by omega)).mp z; omega)]; rfl
  show f_X4_sell_73 (996 + 1 + 1 + 1 + 1) 0 (nI u) (nI p) v8 (nI 0) R = _
  rw [st _ 0 (by omega), n0]
  by_cases w0 : rns S (ro S p 0) a
  · rw [if_pos w0]
    by_cases m1 : mny p = 1
    · rw [show nI (0 + 1) = nI (mny p) from by rw [m1], en, if_pos (c := staR S p a b c) ⟨w0, fun z => by omega, fun z => by omega⟩]
    · rw [st _ 1 (by omega), n1]
      by_cases w1 : rns S (ro S p 1) b
      · rw [if_pos w1]
        by_cases m2 : mny p = 2
        · rw [show nI (1 + 1) = nI (mny p) from by rw [m2], en, if_pos (c := staR S p a b c) ⟨w0, fun _ => w1, fun z => by omega⟩]
        · rw [st _ 2 (by omega), n2]
          by_cases w2 : rns S (ro S p 2) c
          · rw [if_pos w2, show nI (2 + 1) = nI (mny p) from by rw [show mny p = 3 by omega], en, if_pos (c := staR S p a b c) ⟨w0, fun _ => w1, fun _ => w2⟩]
          · rw [if_neg w2, if_neg (c := staR S p a b c) (fun z => w2 (z.2.2 (by omega)))]
      · rw [if_neg w1, if_neg (c := staR S p a b c) (fun z => w1 (z.2.1 (by omega)))]
  · rw [if_neg w0, if_neg (c := staR S p a b c) (fun z => w0 z.1)]
/-- the house's new ticket -/
def tkM (C : Mm) (t p : Nat) (l : Option Nat) (x y z u : Int32) : Mm := sR (sI (sI (sI (sI (sR (sR (nA C 8 t) 8 t 0 (some p)) 8 t 1 l) 8 t 3 x) 8 t 4 y) 8 t 5 z) 8 t 2 u) 7 p 5 (some t)
theorem c_issue {S : SV} {C : Mm} {t p : Nat} {a b c u : Int32} (h : RC S C) (hT : S 0 19 = t) (ht : t ≤ 512) (hp : S 15 p ≠ 0) : f_X0_issueTicket p a b c u C = some (some t, tkM C t p (lastT (S 27) p t) a (if 2 ≤ mny p then b else 0) (if 3 ≤ mny p then c else 0) u) := by
  have hpp := (h.2.2.1 p hp).1
  have hk := hpp.1
  have h5 := hpp.2.2.2.2.2.1
  unfold f_X0_issueTicket
  rw [h.1.2.2.1, hT, nI_cl (by omega), nw_f (h.2.2.2.2.2.2 t (by omega))]
  have e0 : mI (nA C 8 t) 7 p 0 = mI C 7 p 0 := by rw [rn_I, if_neg (by omega)]
  have n1 : f_X0_namesSecond p (nA C 8 t) = some (b1 (2 ≤ mny p)) := by
    have : f_X0_namesSecond p (nA C 8 t) = f_X0_namesSecond p C := by unfold f_X0_namesSecond; rw [e0]
    rw [this, c_namesSecond hpp]
  have n2 : f_X0_namesThird p (nA C 8 t) = some (b1 (3 ≤ mny p)) := by
    have : f_X0_namesThird p (nA C 8 t) = f_X0_namesThird p C := by unfold f_X0_namesThird; rw [e0]
    rw [this, c_namesThird hpp]
  have l5 : mR (nA C 8 t) 7 p 5 = lastT (S 27) p t := by rw [rn_R, if_neg (by omega), h5, hT]
  simp only [lt_e]
  rw [n1, n2, l5]
  unfold f_X2_init tkM
  simp only [ob_s, lt_e, b1_if]
  by_cases q1 : 2 ≤ mny p
  · rw [if_pos q1, if_pos q1]
    by_cases q2 : 3 ≤ mny p
    · rw [if_pos q2, if_pos q2, rd_R, if_pos ⟨rfl, rfl, rfl⟩]
    · rw [if_neg q2, if_neg q2, rd_R, if_pos ⟨rfl, rfl, rfl⟩]
  · rw [if_neg q1, if_neg q1]
    by_cases q2 : 3 ≤ mny p
    · rw [if_pos q2, if_pos q2, rd_R, if_pos ⟨rfl, rfl, rfl⟩]
    · rw [if_neg q2, if_neg q2, rd_R, if_pos ⟨rfl, rfl, rfl⟩]
theorem nm_o {S : SV} {t p x y z u s i : Nat} (h : ¬ ((s = 27 ∨ s = 29 ∨ s = 30) ∧ i = t) ∧ ¬ (s = 28 ∧ 3 * t ≤ i ∧ i ≤ 3 * t + 2) ∧ ¬ (s = 0 ∧ i = 19)) : nmS S t p x y z u s i = S s i := by
  unfold nmS
  rw [up_n (by omega), up_n (by omega), up_n (by omega), up_n (by omega), up_n (by omega), up_n (by omega), up_n (by omega)]
theorem nm_27 {S : SV} {t p x y z u : Nat} : nmS S t p x y z u 27 t = p := by
  unfold nmS
  rw [up_n (by omega), up_n (by omega), up_n (by omega), up_n (by omega), up_n (by omega), up_n (by omega), up_s]
theorem nm_28 {S : SV} {t p x y z u : Nat} : nmS S t p x y z u 28 (3 * t) = x ∧ nmS S t p x y z u 28 (3 * t + 1) = y ∧ nmS S t p x y z u 28 (3 * t + 2) = z := by
  unfold nmS
  refine ⟨?_, ?_, ?_⟩
  · rw [up_n (by omega), up_n (by omega), up_n (by omega), up_n (by omega), up_n (by omega), up_s]
  · rw [up_n (by omega), up_n (by omega), up_n (by omega), up_n (by omega), up_s]
  · rw [up_n (by omega), up_n (by omega), up_n (by omega), up_s]
theorem nm_29 {S : SV} {t p x y z u : Nat} : nmS S t p x y z u 29 t = u ∧ nmS S t p x y z u 30 t = 0 ∧ nmS S t p x y z u 0 19 = t + 1 := by
  unfold nmS
  refine ⟨?_, ?_, ?_⟩
  · rw [up_n (by omega), up_n (by omega), up_s]
  · rw [up_n (by omega), up_s]
  · rw [up_s]
abbrev tkN (C : Mm) (t p : Nat) (l : Option Nat) (x y z u : Int32) (w : Int32) : Mm := sI (sR (tkM C t p l x y z u) 3 0 t (some t)) 1 0 2 w
theorem tk_I {C : Mm} {t p : Nat} {l : Option Nat} {x y z u w : Int32} {s i j : Nat} (h : ¬ (s = 8 ∧ i = t) ∧ ¬ (s = 1 ∧ i = 0 ∧ j = 2)) : mI (tkN C t p l x y z u w) s i j = mI C s i j := by
  unfold tkN tkM
  rw [rd_I, if_neg h.2, rd_IR, rd_IR, rd_I, if_neg (by omega), rd_I, if_neg (by omega), rd_I, if_neg (by omega), rd_I, if_neg (by omega), rd_IR, rd_IR, rn_I, if_neg h.1]
theorem tk_J {C : Mm} {t p : Nat} {l : Option Nat} {x y z u w : Int32} {s i j : Nat} (h : ¬ (s = 8 ∧ i = t)) : mJ (tkN C t p l x y z u w) s i j = mJ C s i j := by
  unfold tkN tkM
  rw [rd_JI, rd_JR, rd_JR, rd_JI, rd_JI, rd_JI, rd_JI, rd_JR, rd_JR, rn_J, if_neg h]
theorem tk_A {C : Mm} {t p : Nat} {l : Option Nat} {x y z u w : Int32} {s i : Nat} (h : ¬ (s = 8 ∧ i = t)) : mA (tkN C t p l x y z u w) s i = mA C s i := by
  unfold tkN tkM
  rw [rd_AI, rd_AR, rd_AR, rd_AI, rd_AI, rd_AI, rd_AI, rd_AR, rd_AR, rn_A, if_neg h]
theorem tk_R {C : Mm} {t p : Nat} {l : Option Nat} {x y z u w : Int32} {s i j : Nat} (h : ¬ (s = 8 ∧ i = t) ∧ ¬ (s = 3 ∧ i = 0 ∧ j = t) ∧ ¬ (s = 7 ∧ i = p ∧ j = 5)) : mR (tkN C t p l x y z u w) s i j = mR C s i j := by
  unfold tkN tkM
  rw [rd_RI, rd_R, if_neg h.2.1, rd_R, if_neg h.2.2, rd_RI, rd_RI, rd_RI, rd_RI, rd_R, if_neg (by omega), rd_R, if_neg (by omega), rn_R, if_neg h.1]
theorem new_ticket {S : SV} {k : Nat} {C R' : Mm} {p t x y z u : Nat} (hC : RC S C) (g1 : GA S) (g2 : GP S) (g3 : GT S k) (hk : k < 512) (g4 : GM S) (g5 : GO S) (hT : S 0 19 = t) (hp : S 15 p = 1) (h18 : S 18 p = 0) (hu : 1 ≤ u ∧ u ≤ 1000)
    (hx : 1 ≤ x ∧ x ≤ S 10 (ro S p 0) ∧ S 13 (25 * ro S p 0 + x) = 0) (hy : if 1 < mny p then 1 ≤ y ∧ y ≤ S 10 (ro S p 1) ∧ S 13 (25 * ro S p 1 + y) = 0 else y = 0) (hz : if 2 < mny p then 1 ≤ z ∧ z ≤ S 10 (ro S p 2) ∧ S 13 (25 * ro S p 2 + z) = 0 else z = 0)
    (hd : p ≠ 52 → (2 ≤ mny p → x ≠ y) ∧ (3 ≤ mny p → x ≠ z ∧ y ≠ z)) (hR : RM (nmS S t p x y z u) R') : Inv (k + 1) (tkN C t p (lastT (S 27) p t) (nI x) (nI y) (nI z) (nI u) (nI (t + 1))) R' := by
  have tk : t ≤ k := by have := g3.1; omega
  have hm := mny_le p
  obtain ⟨n28a, n28b, n28c⟩ := nm_28 (S := S) (t := t) (p := p) (x := x) (y := y) (z := z) (u := u)
  obtain ⟨n29, n30, n19⟩ := nm_29 (S := S) (t := t) (p := p) (x := x) (y := y) (z := z) (u := u)
  have n27 := nm_27 (S := S) (t := t) (p := p) (x := x) (y := y) (z := z) (u := u)
  have o := fun s i h => nm_o (S := S) (t := t) (p := p) (x := x) (y := y) (z := z) (u := u) (s := s) (i := i) h
  generalize nmS S t p x y z u = S' at hR n28a n28b n28c n29 n30 n19 n27 o
  have es : ∀ s, s ≠ 0 → s ≠ 27 → s ≠ 28 → s ≠ 29 → s ≠ 30 → S' s = S s := fun s a b c d e => funext (fun i => o s i (by omega))
  have e10 := es 10 (by omega) (by omega) (by omega) (by omega) (by omega)
  have e11 := es 11 (by omega) (by omega) (by omega) (by omega) (by omega)
  have e12 := es 12 (by omega) (by omega) (by omega) (by omega) (by omega)
  have e13 := es 13 (by omega) (by omega) (by omega) (by omega) (by omega)
  have e14 := es 14 (by omega) (by omega) (by omega) (by omega) (by omega)
  have e15 := es 15 (by omega) (by omega) (by omega) (by omega) (by omega)
  have e16 := es 16 (by omega) (by omega) (by omega) (by omega) (by omega)
  have e17 := es 17 (by omega) (by omega) (by omega) (by omega) (by omega)
  have e18 := es 18 (by omega) (by omega) (by omega) (by omega) (by omega)
  have x19 := es 19 (by omega) (by omega) (by omega) (by omega) (by omega)
  have x20 := es 20 (by omega) (by omega) (by omega) (by omega) (by omega)
  have x21 := es 21 (by omega) (by omega) (by omega) (by omega) (by omega)
  have x22 := es 22 (by omega) (by omega) (by omega) (by omega) (by omega)
  have x23 := es 23 (by omega) (by omega) (by omega) (by omega) (by omega)
  have x24 := es 24 (by omega) (by omega) (by omega) (by omega) (by omega)
  have x25 := es 25 (by omega) (by omega) (by omega) (by omega) (by omega)
  have x26 := es 26 (by omega) (by omega) (by omega) (by omega) (by omega)
  have x31 := es 31 (by omega) (by omega) (by omega) (by omega) (by omega)
  have z17 : S' 0 17 = S 0 17 := o 0 17 (by omega)
  have z18 : S' 0 18 = S 0 18 := o 0 18 (by omega)
  have z25 : S' 0 25 = S 0 25 := o 0 25 (by omega)
  have z26 : S' 0 26 = S 0 26 := o 0 26 (by omega)
  have ero : ∀ q j, ro S' q j = ro S q j := fun q j => by unfold ro; rw [z17, z18]
  have b27 : ∀ i, i < t → S' 27 i = S 27 i := fun i hi => o 27 i (by omega)
  have b29 : ∀ i, i < t → S' 29 i = S 29 i := fun i hi => o 29 i (by omega)
  have b30 : ∀ i, i < t → S' 30 i = S 30 i := fun i hi => o 30 i (by omega)
  have b28 : ∀ i, i < t → S' 28 (3 * i) = S 28 (3 * i) ∧ S' 28 (3 * i + 1) = S 28 (3 * i + 1) ∧ S' 28 (3 * i + 2) = S 28 (3 * i + 2) := fun i hi => ⟨o 28 _ (by omega), o 28 _ (by omega), o 28 _ (by omega)⟩
  have lst : ∀ q i, i ≤ t → lastT (S' 27) q i = lastT (S 27) q i := fun q i hi => lastT_congr i (fun i' hi' => b27 i' (by omega))
  have euo : ∀ q a b c, q ≠ p → uo S' q a b c = uo S q a b c := fun q a b c hq => by
    unfold uo
    rw [n19, hT]
    simp only [sm]
    rw [if_neg (fun w => hq (by rw [← n27]; exact w.2.1.symm)), Nat.add_zero]
    refine sm_congr (fun i hi => ?_)
    obtain ⟨w1, w2, w3⟩ := b28 i hi
    unfold sameT cntT
    rw [b27 i hi, b29 i hi, b30 i hi, w1, w2, w3]
  have ewn : ∀ q a b c, wns S' q a b c ↔ wns S q a b c := fun q a b c => by
    unfold wns lwp rng wth
    rw [ero, ero, e10, e13, e14]
  obtain ⟨⟨h1, h2, h3, h4, h5, h6, h7⟩, hr, hpp, ht, ha⟩ := hC
  obtain ⟨t1, t2, t3, t4, t5, t6⟩ := g3
  refine ⟨S', hR, ⟨⟨?_, ?_, ?_, ?_, ?_, fun r hr' => ?_, fun i hi => ?_⟩, fun r hr' => ?_, fun q hq => ?_, fun i hi => ?_, ?_⟩, ?_, ?_, ?_, ?_, ?_⟩
  · rw [tk_R (by omega)]; exact h1
  · rw [tk_R (by omega)]; exact h2
  · unfold tkN
    rw [rd_I, if_pos ⟨rfl, rfl, rfl⟩, n19]
  · rw [tk_R (by omega), e15]; exact h4
  · rw [tk_J (by omega), z26]; exact h5
  · rw [tk_R (by omega), e10]; exact h6 r hr'
  · rw [n19]
    by_cases e : i = t
    · subst e
      rw [rd_RI, rd_R, if_pos ⟨rfl, rfl, rfl⟩, if_pos (by omega)]
    · rw [tk_R (by omega), h7 i hi]
      by_cases e2 : i < S 0 19
      · rw [if_pos e2, if_pos (by omega)]
      · rw [if_neg e2, if_neg (by omega)]
  · rw [e10] at hr'
    obtain ⟨k1, k2, k3, k4, k5, k6, k7, k8, k9⟩ := hr r hr'
    refine ⟨?_, ?_, ?_, ?_, ?_, ?_, ?_, fun m hm => ?_, fun j hj => ?_⟩
    · rw [tk_I (by omega)]; exact k1
    · rw [tk_I (by omega), e10]; exact k2
    · rw [tk_R (by omega)]; exact k3
    · rw [tk_R (by omega)]; exact k4
    · rw [tk_I (by omega), e11]; exact k5
    · unfold rng; rw [tk_I (by omega), e10, e13]; exact k6
    · rw [tk_I (by omega), e12]; exact k7
    · rw [tk_I (by omega), e13, e14]; exact k8 m hm
    · rw [tk_R (by omega), e15]; exact k9 j hj
  · rw [e15] at hq
    obtain ⟨⟨r1, r2, r3, r4, r5, r6, r7, r8, r9, r10, r11, r12, r13, r14, r15⟩, d1, d2⟩ := hpp q hq
    refine ⟨⟨?_, ?_, ?_, ?_, ?_, ?_, ?_, ?_, ?_, ?_, ?_, ?_, ?_, ?_, ?_⟩, fun w => ?_, fun w => ?_⟩
    · rw [tk_I (by omega)]; exact r1
    · rw [tk_R (by omega), ero]; exact r2
    · rw [tk_R (by omega), ero]; exact r3
    · rw [tk_I (by omega), e16]; exact r4
    · rw [tk_I (by omega), e17]; exact r5
    · rw [n19]
      by_cases e : q = p
      · subst e
        unfold tkN tkM
        rw [c_chain n27, rd_RI, rd_R, if_neg (by omega)]
        rw [rd_R, if_pos ⟨rfl, rfl, rfl⟩]
      · rw [c_chainN (fun w => e (by rw [← w, n27])), lst q t (Nat.le_refl t), tk_R (by omega), r6, hT]
    · rw [tk_I (by omega), e18]; exact r7
    · rw [tk_I (by omega), x26]; exact r8
    · rw [tk_J (by omega), x19]; exact r9
    · rw [tk_J (by omega), x20]; exact r10
    · rw [tk_J (by omega), x21]; exact r11
    · rw [tk_J (by omega), x22]; exact r12
    · rw [tk_J (by omega), x24]; exact r13
    · rw [tk_J (by omega), x23]; exact r14
    · rw [tk_J (by omega), x25]; exact r15
    · rw [tk_J (by omega)]; rw [e18] at w; exact d1 w
    · rw [e18] at w
      obtain ⟨N, W, w1, w2, w3, w4, w5⟩ := d2 w
      have hqp : q ≠ p := fun e => by rw [e, h18] at w; cases w
      refine ⟨N, W, w1, w2, by rw [tk_J (by omega)]; exact w3, by rw [tk_J (by omega)]; exact w4, fun i hi h27 hc => ?_⟩
      rw [n19] at hi
      have hit : i ≠ t := fun e => by rw [e, n27] at h27; exact hqp h27.symm
      have hi' : i < t := by omega
      rw [b27 i hi'] at h27
      obtain ⟨v1, v2, v3⟩ := b28 i hi'
      have := w5 i (by omega) h27 (by unfold cntT at hc ⊢; rw [b30 i hi'] at hc; exact hc)
      rw [x31, this, e17, x26]
      unfold wnT uoT
      rw [b27 i hi', v1, v2, v3, euo _ _ _ _ (by rw [h27]; exact hqp)]
      by_cases c : wns S (S 27 i) (S 28 (3 * i)) (S 28 (3 * i + 1)) (S 28 (3 * i + 2))
      · rw [if_pos c, if_pos ((ewn _ _ _ _).mpr c)]
      · rw [if_neg c, if_neg (fun y => c ((ewn _ _ _ _).mp y))]
  · rw [n19] at hi
    by_cases e : i = t
    · subst e
      unfold tkN tkM
      refine ⟨?_, ?_, ?_, ?_, ?_, ?_, ?_⟩
      · rw [n27, rd_RI, rd_R, if_neg (by omega), rd_R, if_neg (by omega), rd_RI, rd_RI, rd_RI, rd_RI, rd_R, if_neg (by omega), rd_R, if_pos ⟨rfl, rfl, rfl⟩]
      · rw [n27, lst p i (Nat.le_refl i), rd_RI, rd_R, if_neg (by omega), rd_R, if_neg (by omega), rd_RI, rd_RI, rd_RI, rd_RI, rd_R, if_pos ⟨rfl, rfl, rfl⟩]
      · rw [n29, rd_I, if_neg (by omega), rd_IR, rd_IR, rd_I, if_pos ⟨rfl, rfl, rfl⟩]
      · rw [n28a, rd_I, if_neg (by omega), rd_IR, rd_IR, rd_I, if_neg (by omega), rd_I, if_neg (by omega), rd_I, if_neg (by omega), rd_I, if_pos ⟨rfl, rfl, rfl⟩]
      · rw [n28b, rd_I, if_neg (by omega), rd_IR, rd_IR, rd_I, if_neg (by omega), rd_I, if_neg (by omega), rd_I, if_pos ⟨rfl, rfl, rfl⟩]
      · rw [n28c, rd_I, if_neg (by omega), rd_IR, rd_IR, rd_I, if_neg (by omega), rd_I, if_pos ⟨rfl, rfl, rfl⟩]
      · rw [n30, rd_I, if_neg (by omega), rd_IR, rd_IR, rd_I, if_neg (by omega), rd_I, if_neg (by omega), rd_I, if_neg (by omega), rd_I, if_neg (by omega), rd_IR, rd_IR, rn_I, if_pos ⟨rfl, rfl⟩]; rfl
    · have hi' : i < t := by omega
      obtain ⟨k1, k2, k3, k4, k5, k6, k7⟩ := ht i (by omega)
      obtain ⟨v1, v2, v3⟩ := b28 i hi'
      refine ⟨?_, ?_, ?_, ?_, ?_, ?_, ?_⟩
      · rw [tk_R (by omega), b27 i hi']; exact k1
      · rw [tk_R (by omega), b27 i hi', lst _ i (by omega)]; exact k2
      · rw [tk_I (by omega), b29 i hi']; exact k3
      · rw [tk_I (by omega), v1]; exact k4
      · rw [tk_I (by omega), v2]; exact k5
      · rw [tk_I (by omega), v3]; exact k6
      · rw [tk_I (by omega), b30 i hi']; exact k7
  · obtain ⟨a1, a2, a3⟩ := ha
    refine ⟨fun r hr' => ?_, fun q hq => ?_, fun i hi => ?_⟩
    · rw [e10] at hr'
      rw [tk_A (by omega), tk_A (by omega), tk_A (by omega)]; exact a1 r hr'
    · rw [e15] at hq
      rw [tk_A (by omega)]; exact a2 q hq
    · rw [n19] at hi
      rw [tk_A (by omega)]; exact a3 i (by omega)
  · unfold GA; rw [e10, e11, e12, e13, e14]; exact g1
  · unfold GP GPx; simp only [ero, e10, e11, e15, e16, e17, e18, x19, x20, x21, x22, x23, x24, x25, x26, z17, z18]; exact g2
  · refine ⟨by omega, by omega, fun i hi => ?_, fun i hi => ?_, fun i hi h3 => ?_, fun i hi h2' => ?_⟩
    · rw [n19] at hi
      by_cases e : i = t
      · subst e
        rw [n27, e15, n29, n30, n28a, n28b, n28c, e10, e13]
        refine ⟨hp, hu.1, hu.2, by omega, fun j hj => ?_, hd⟩
        rw [ero]
        have hj' : j = 0 ∨ j = 1 ∨ j = 2 := by omega
        rcases hj' with rfl | rfl | rfl
        · rw [if_pos (by omega), show S' 28 (3 * i + 0) = x from n28a]
          exact ⟨hx.1, hx.2.1, fun _ => hx.2.2⟩
        · rw [n28b]
          by_cases q : 1 < mny p
          · rw [if_pos q] at hy ⊢; exact ⟨hy.1, hy.2.1, fun _ => hy.2.2⟩
          · rw [if_neg q] at hy ⊢; exact hy
        · rw [n28c]
          by_cases q : 2 < mny p
          · rw [if_pos q] at hz ⊢; exact ⟨hz.1, hz.2.1, fun _ => hz.2.2⟩
          · rw [if_neg q] at hz ⊢; exact hz
      · have hi' : i < t := by omega
        obtain ⟨v1, v2, v3⟩ := b28 i hi'
        obtain ⟨u1, u2, u3, u4, u5, u6⟩ := t3 i (by omega)
        rw [e15, b27 i hi', b29 i hi', b30 i hi', v1, v2, v3, e10, e13]
        refine ⟨u1, u2, u3, u4, fun j hj => ?_, u6⟩
        have w := u5 j hj
        rw [ero, o 28 (3 * i + j) (by omega)]
        by_cases q : j < mny (S 27 i)
        · rw [if_pos q] at w ⊢
          exact ⟨w.1, w.2.1, fun c => w.2.2 (by unfold cntT at c ⊢; rw [b30 i hi'] at c; exact c)⟩
        · rw [if_neg q] at w ⊢; exact w
    · rw [x31]
      rw [n19, e18] at hi
      by_cases e : i < t
      · rw [b27 i e] at hi
        exact t4 i (by omega)
      · exact t4 i (Or.inl (by omega))
    · rw [n19] at hi
      by_cases e : i = t
      · subst e; rw [n30] at h3; cases h3
      · have hi' : i < t := by omega
        rw [b30 i hi'] at h3
        rw [e18, b27 i hi']; exact t5 i (by omega) h3
    · rw [n19] at hi
      by_cases e : i = t
      · subst e; rw [n27, e18, h18] at h2'; cases h2'
      · have hi' : i < t := by omega
        rw [e18, b27 i hi'] at h2'
        unfold cntT
        rw [b30 i hi']; exact t6 i (by omega) h2'
  · refine ⟨?_, ?_, ?_⟩
    · rw [z25, n19, g4.1, hT]
      simp only [sm]
      rw [if_neg (by omega), Nat.add_zero]
      refine sm_congr (fun i hi => ?_)
      unfold cost
      rw [b27 i hi, b29 i hi, b30 i hi, e17]
    · rw [e11, x24]; exact g4.2.1
    · rw [e11, z26, x26]; exact g4.2.2
  · unfold GO GOr; rw [e10, e11, e14]; exact g5
theorem s_sell : S_sell Inv := by
  intro k C R v w a b c u hk hI
  obtain ⟨S, hR, hC, g1, g2, g3, g4, g5⟩ := hI
  have stay : ∀ (x : Int32) (R' : Mm), RM S R' → ∃ (r : Int32) (C' R'' : Mm), some (x, C) = some (r, C') ∧ some (x, R') = some (r, R'') ∧ Inv (k + 1) C' R'' := fun x R' h => ⟨x, C, R', rfl, rfl, Inv_st h hC g1 g2 g3 hk g4 g5⟩
  unfold f_X3_sell f_X4_sell
  rw [c_poolOf hC g1, m_poolOf hR g1 g2, m_in, hC.1.2.2.1, hC.1.2.1]
  simp only [ob_s, lt_e, b1_if]
  cases hpo : pOf S v w with
  | none => rw [on_n, if_pos (c := pI none = -1) rfl]; exact stay _ _ hR
  | some p =>
    obtain ⟨p1, hp, -⟩ := pOf_s g1 g2 hpo
    have hl := GT_T g3
    rw [on_s, if_neg (c := pI (some p) = -1) (fun z => by have z' : nI p = -1 := z; have := congrArg Int32.toInt z'; rw [nI_tI (by omega)] at this; have e : (-1 : Int32).toInt = -1 := rfl; omega)]
    rw [show pI (some p) = nI p from rfl]
    simp only [i_lt, i_le]
    by_cases q1 : (1 : Int32).toInt ≤ u.toInt ∧ u.toInt ≤ (1000 : Int32).toInt
    · have q1' : 1 ≤ u.toInt ∧ u.toInt ≤ 1000 := q1
      rw [if_pos q1, if_neg (show ¬ u.toInt < (1 : Int32).toInt from by show ¬ u.toInt < 1; omega), if_pos q1.2, c_isOpen hC g1 g2 hp, m_isOpen hR g1 g2 hp]
      simp only [ob_s, b1_if]
      obtain ⟨R1, y1, y2, y3⟩ := m_names hR a b c
      by_cases q2 : opn S p
      · rw [if_pos q2, if_pos q2, c_hasRunners hC g1 g2 hp, y1]
        simp only [ob_s, b1_if]
        rw [m_named y2 g1 g2 hp y3]
        simp only [ob_s]
        by_cases q3 : hasR S p a b c
        · rw [if_pos (c := hasR S p a b c) q3, if_pos (c := hasR S p a b c) q3]
          rw [if_neg (c := (if twcR p a b c then (-6 : Int32) else 0) = -4) (by split <;> decide), c_haveStart hC g1 g2 hp]
          simp only [ob_s, b1_if]
          obtain ⟨f1, f2⟩ := i_of (x := u) (by omega)
          generalize u.toNatClampNeg = un at f1 f2
          subst f1
          have h73 : f_X4_sell_73 FU 0 (nI un) (nI p) (if twcR p a b c then (-6 : Int32) else 0) (0 : Int32) R1 = _ := m_73 y2 g1 g2 hp y3 rfl hl
          rw [h73]
          by_cases q4 : staR S p a b c
          · rw [if_pos (c := staR S p a b c) q4, if_pos (c := staR S p a b c) q4, c_namesOneTwice (hC.2.2.1 p (by omega)).1]
            simp only [ob_s, b1_if]
            by_cases q5 : twcR p a b c
            · rw [if_pos (c := twcR p a b c) q5, if_pos (c := twcR p a b c) q5, if_pos rfl]; exact stay _ _ y2
            · rw [if_neg (c := twcR p a b c) q5, if_neg (c := twcR p a b c) q5]
              rw [if_neg (c := (0 : Int32) = -6) (by decide), if_neg (show ¬ (nI (S 0 19)).toInt < (0 : Int32).toInt from by rw [nI_tI (by omega)]; show ¬ (S 0 19 : Int) < 0; omega), if_pos (show (nI (S 0 19)).toInt < (600 : Int32).toInt from by rw [nI_tI (by omega)]; show (S 0 19 : Int) < 600; omega)]
              rw [c_issue hC rfl hl (by omega)]
              simp only [ob_s]
              have hm := mny_le p
              have h3 : ∀ j, S 10 (ro S p j) ≤ 24 := fun j => GA_10 g1 _
              obtain ⟨w0, w1, w2⟩ := q4
              have hh0 := h3 0
              have hh1 := h3 1
              have hh2 := h3 2
              obtain ⟨a1, a2⟩ := i_of (x := a) (by omega)
              have hb : ∃ y : Nat, (if 2 ≤ mny p then b else 0) = nI y ∧ (if 1 < mny p then 1 ≤ y ∧ y ≤ S 10 (ro S p 1) ∧ S 13 (25 * ro S p 1 + y) = 0 else y = 0) ∧ (2 ≤ mny p → b = nI y) := by
                by_cases q : 2 ≤ mny p
                · obtain ⟨b1', b2'⟩ := w1 q
                  obtain ⟨e1, e2⟩ := i_of (x := b) (by omega)
                  refine ⟨b.toNatClampNeg, by rw [if_pos q]; exact e1, ?_, fun _ => e1⟩
                  rw [if_pos (show 1 < mny p from q)]
                  exact ⟨by omega, by omega, b2'⟩
                · exact ⟨0, by rw [if_neg q]; rfl, by rw [if_neg (show ¬ 1 < mny p from q)], fun z => absurd z q⟩
              have hc : ∃ y : Nat, (if 3 ≤ mny p then c else 0) = nI y ∧ (if 2 < mny p then 1 ≤ y ∧ y ≤ S 10 (ro S p 2) ∧ S 13 (25 * ro S p 2 + y) = 0 else y = 0) ∧ (3 ≤ mny p → c = nI y) := by
                by_cases q : 3 ≤ mny p
                · obtain ⟨b1', b2'⟩ := w2 q
                  obtain ⟨e1, e2⟩ := i_of (x := c) (by omega)
                  refine ⟨c.toNatClampNeg, by rw [if_pos q]; exact e1, ?_, fun _ => e1⟩
                  rw [if_pos (show 2 < mny p from q)]
                  exact ⟨by omega, by omega, b2'⟩
                · exact ⟨0, by rw [if_neg q]; rfl, by rw [if_neg (show ¬ 2 < mny p from q)], fun z => absurd z q⟩
              obtain ⟨y, hb1, hb2, hb3⟩ := hb
              obtain ⟨z, hc1, hc2, hc3⟩ := hc
              have hax := w0.2
              have hax1 := w0.1
              generalize a.toNatClampNeg = x at a1 a2 hax
              have r27 := RM_sI (s := 27) (i := S 0 19) (v := p) y2 (by omega)
              have cy : (if mny p ≤ 1 then 0 else mI (sI R1 27 0 (S 0 19) (nI p)) 32 0 1) = nI y := by
                rw [rd_I, if_neg (c := 32 = 27 ∧ 0 = 0 ∧ 1 = S 0 19) (by omega), y3.2.1, ← hb1]
                by_cases q : 2 ≤ mny p
                · rw [if_pos q, if_neg (by omega)]
                · rw [if_neg q, if_pos (by omega)]
              have cz : (if mny p ≤ 2 then 0 else mI (sI R1 27 0 (S 0 19) (nI p)) 32 0 2) = nI z := by
                rw [rd_I, if_neg (c := 32 = 27 ∧ 0 = 0 ∧ 2 = S 0 19) (by omega), y3.2.2, ← hc1]
                by_cases q : 3 ≤ mny p
                · rw [if_pos q, if_neg (by omega)]
                · rw [if_neg q, if_pos (by omega)]
              have cx : mI (sI R1 27 0 (S 0 19) (nI p)) 32 0 0 = nI x := by
                rw [rd_I, if_neg (c := 32 = 27 ∧ 0 = 0 ∧ 0 = S 0 19) (by omega), y3.1, a1]
              obtain ⟨R2, v1, v2⟩ := m_155 (u := un) r27 p1 (up_n (by omega)) (by omega) cx cy cz
              rw [v1, ix_n (by omega) (by omega), nI_cl (by omega), nI_1, hb1, hc1, a1]
              refine ⟨nI (S 0 19), _, R2, rfl, rfl, new_ticket hC g1 g2 g3 hk g4 g5 rfl hp (opn_18 g2 hp q2) ?_ ⟨by omega, by omega, hax⟩ hb2 hc2 (fun hne => ⟨fun hm2 e => q5 ⟨hne, Or.inl ⟨hm2, ?_⟩⟩, fun hm3 => ⟨fun e => q5 ⟨hne, Or.inr ⟨hm3, Or.inl ?_⟩⟩, fun e => q5 ⟨hne, Or.inr ⟨hm3, Or.inr ?_⟩⟩⟩⟩) v2⟩
              · omega
              · rw [a1, hb3 hm2, e]
              · rw [a1, hc3 hm3, e]
              · rw [hb3 (by omega), hc3 hm3, e]
          · rw [if_neg (c := staR S p a b c) q4, if_neg (c := staR S p a b c) q4]; exact stay _ _ y2
        · rw [if_neg (c := hasR S p a b c) q3, if_neg (c := hasR S p a b c) q3]
          rw [if_pos rfl]; exact stay _ _ y2
      · rw [if_neg q2, if_neg q2]; exact stay _ _ hR
    · rw [if_neg q1]
      have q1' : ¬ (1 ≤ u.toInt ∧ u.toInt ≤ 1000) := q1
      by_cases q2 : u.toInt < (1 : Int32).toInt
      · rw [if_pos q2]; exact stay _ _ hR
      · have q2' : ¬ u.toInt < 1 := q2
        rw [if_neg q2, if_neg (show ¬ u.toInt ≤ (1000 : Int32).toInt from fun z => q1' ⟨by omega, z⟩)]; exact stay _ _ hR
