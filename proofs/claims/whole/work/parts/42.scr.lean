/-! ===== a runner is scratched: what becomes of each ticket ===== -/
abbrev nm1 (S : SV) (r n t j : Nat) : Prop := j < mny (S 27 t) ∧ ro S (S 27 t) j = r ∧ S 28 (3 * t + j) = n
abbrev nmd (S : SV) (r n t : Nat) : Prop := S 30 t = 0 ∧ (nm1 S r n t 0 ∨ nm1 S r n t 1 ∨ nm1 S r n t 2)
abbrev msb (S : SV) (r n : Nat) : Prop := S 12 r ≠ 0 ∧ S 12 r ≠ n ∧ S 13 (25 * r + S 12 r) = 0
abbrev gos (S : SV) (r n t : Nat) : Prop := nmd S r n t ∧ ¬ (S 27 t = 52 ∧ msb S r n)
abbrev mvd (S : SV) (r n t j : Nat) : Prop := S 30 t = 0 ∧ S 27 t = 52 ∧ msb S r n ∧ nm1 S r n t j
def scr (S : SV) (r n : Nat) (P : Nat → Bool) : SV := fun s i =>
  if s = 13 ∧ i = 25 * r + n then 1 else
  if s = 30 ∧ P i = true ∧ gos S r n i then 2 else
  if s = 28 ∧ P (i / 3) = true ∧ mvd S r n (i / 3) (i % 3) then S 12 r else
  if s = 0 ∧ i = 25 then S 0 25 + sm (S 0 19) (fun t => if P t = true ∧ gos S r n t then cost S t else 0) else S s i
theorem scr_13 {S : SV} {r n : Nat} {P : Nat → Bool} (i : Nat) : scr S r n P 13 i = if i = 25 * r + n then 1 else S 13 i := by
  unfold scr
  by_cases h : i = 25 * r + n
  · rw [if_pos ⟨rfl, h⟩, if_pos h]
  · rw [if_neg (fun z => h z.2), if_neg (fun z => absurd z.1 (by decide)), if_neg (fun z => absurd z.1 (by decide)), if_neg (fun z => absurd z.1 (by decide)), if_neg h]
theorem scr_30 {S : SV} {r n : Nat} {P : Nat → Bool} (i : Nat) : scr S r n P 30 i = if P i = true ∧ gos S r n i then 2 else S 30 i := by
  unfold scr
  rw [if_neg (fun z => absurd z.1 (by decide))]
  by_cases h : P i = true ∧ gos S r n i
  · rw [if_pos ⟨rfl, h⟩, if_pos h]
  · rw [if_neg (fun z => h z.2), if_neg (fun z => absurd z.1 (by decide)), if_neg (fun z => absurd z.1 (by decide)), if_neg h]
theorem scr_28 {S : SV} {r n : Nat} {P : Nat → Bool} (i : Nat) : scr S r n P 28 i = if P (i / 3) = true ∧ mvd S r n (i / 3) (i % 3) then S 12 r else S 28 i := by
  unfold scr
  rw [if_neg (fun z => absurd z.1 (by decide)), if_neg (fun z => absurd z.1 (by decide))]
  by_cases h : P (i / 3) = true ∧ mvd S r n (i / 3) (i % 3)
  · rw [if_pos ⟨rfl, h⟩, if_pos h]
  · rw [if_neg (fun z => h z.2), if_neg (fun z => absurd z.1 (by decide)), if_neg h]
theorem scr_28j {S : SV} {r n t j : Nat} {P : Nat → Bool} (hj : j < 3) : scr S r n P 28 (3 * t + j) = if P t = true ∧ mvd S r n t j then S 12 r else S 28 (3 * t + j) := by
  rw [scr_28, show (3 * t + j) / 3 = t by omega, show (3 * t + j) % 3 = j by omega]
theorem scr_25 {S : SV} {r n : Nat} {P : Nat → Bool} : scr S r n P 0 25 = S 0 25 + sm (S 0 19) (fun t => if P t = true ∧ gos S r n t then cost S t else 0) := by
  unfold scr
  rw [if_neg (fun z => absurd z.1 (by decide)), if_neg (fun z => absurd z.1 (by decide)), if_neg (fun z => absurd z.1 (by decide)), if_pos ⟨rfl, rfl⟩]
theorem scr_o {S : SV} {r n s i : Nat} {P : Nat → Bool} (h13 : s ≠ 13) (h30 : s ≠ 30) (h28 : s ≠ 28) (h0 : ¬ (s = 0 ∧ i = 25)) : scr S r n P s i = S s i := by
  unfold scr
  rw [if_neg (fun z => h13 z.1), if_neg (fun z => h30 z.1), if_neg (fun z => h28 z.1), if_neg h0]
theorem scr_eq {S S1 : SV} {r n : Nat} {P : Nat → Bool} (h13 : ∀ i, S1 13 i = scr S r n P 13 i) (h30 : ∀ i, S1 30 i = scr S r n P 30 i) (h28 : ∀ i, S1 28 i = scr S r n P 28 i) (h25 : S1 0 25 = scr S r n P 0 25) (ho : ∀ s i, s ≠ 13 → s ≠ 30 → s ≠ 28 → ¬ (s = 0 ∧ i = 25) → S1 s i = S s i) : scr S r n P = S1 := by
  funext s i
  by_cases e1 : s = 13
  · subst e1; exact (h13 i).symm
  · by_cases e2 : s = 30
    · subst e2; exact (h30 i).symm
    · by_cases e3 : s = 28
      · subst e3; exact (h28 i).symm
      · by_cases e4 : s = 0 ∧ i = 25
        · obtain ⟨rfl, rfl⟩ := e4; exact h25.symm
        · rw [scr_o e1 e2 e3 e4, ho s i e1 e2 e3 e4]
theorem mvd_nmd {S : SV} {r n t j : Nat} (hj : j < 3) (h : mvd S r n t j) : nmd S r n t := by
  obtain ⟨h1, -, -, h2⟩ := h
  refine ⟨h1, ?_⟩
  have : j = 0 ∨ j = 1 ∨ j = 2 := by omega
  rcases this with rfl | rfl | rfl
  · exact Or.inl h2
  · exact Or.inr (Or.inl h2)
  · exact Or.inr (Or.inr h2)
theorem scr_congr {S : SV} {r n : Nat} {P P' : Nat → Bool} (h : ∀ t, nmd S r n t → P t = P' t) : scr S r n P = scr S r n P' := by
  have e1 : ∀ i, (P i = true ∧ gos S r n i) ↔ (P' i = true ∧ gos S r n i) := fun i => ⟨fun z => ⟨by rw [← h i z.2.1]; exact z.1, z.2⟩, fun z => ⟨by rw [h i z.2.1]; exact z.1, z.2⟩⟩
  have e2 : ∀ i, (P (i / 3) = true ∧ mvd S r n (i / 3) (i % 3)) ↔ (P' (i / 3) = true ∧ mvd S r n (i / 3) (i % 3)) := fun i => ⟨fun z => ⟨by rw [← h (i / 3) (mvd_nmd (Nat.mod_lt i (by decide)) z.2)]; exact z.1, z.2⟩, fun z => ⟨by rw [h (i / 3) (mvd_nmd (Nat.mod_lt i (by decide)) z.2)]; exact z.1, z.2⟩⟩
  refine scr_eq (fun i => ?_) (fun i => ?_) (fun i => ?_) ?_ (fun s i a b c d => scr_o a b c d)
  · rw [scr_13, scr_13]
  · rw [scr_30, scr_30]
    by_cases w : P i = true ∧ gos S r n i
    · rw [if_pos w, if_pos ((e1 i).mp w)]
    · rw [if_neg w, if_neg (fun z => w ((e1 i).mpr z))]
  · rw [scr_28, scr_28]
    by_cases w : P (i / 3) = true ∧ mvd S r n (i / 3) (i % 3)
    · rw [if_pos w, if_pos ((e2 i).mp w)]
    · rw [if_neg w, if_neg (fun z => w ((e2 i).mpr z))]
  · rw [scr_25, scr_25]
    refine congrArg (S 0 25 + ·) (sm_congr (fun i _ => ?_))
    by_cases w : P i = true ∧ gos S r n i
    · rw [if_pos w, if_pos ((e1 i).mp w)]
    · rw [if_neg w, if_neg (fun z => w ((e1 i).mpr z))]
theorem scr_0 {S : SV} {r n : Nat} : scr S r n (fun _ => false) = up S 13 (25 * r + n) 1 := by
  refine scr_eq (fun i => ?_) (fun i => ?_) (fun i => ?_) ?_ (fun s i a b c d => up_n (fun z => a z.1))
  · rw [scr_13]
    by_cases e : i = 25 * r + n
    · rw [if_pos e, e, up_s]
    · rw [if_neg e, up_n (fun z => e z.2)]
  · rw [scr_30, if_neg (fun z => by cases z.1), up_n (by omega)]
  · rw [scr_28, if_neg (fun z => by cases z.1), up_n (by omega)]
  · rw [scr_25, sm_zero (fun i _ => if_neg (fun z => by cases z.1)), up_n (by omega)]; rfl
/-- one more ticket -/
theorem scr_go {S : SV} {r n t : Nat} {P P' : Nat → Bool} (hP : P t = false) (hP' : ∀ i, P' i = true ↔ (P i = true ∨ i = t)) (ht : t < S 0 19) (hg : gos S r n t) : scr S r n P' = up (up (scr S r n P) 30 t 2) 0 25 (scr S r n P 0 25 + cost S t) := by
  have hPt : ¬ P t = true := by rw [hP]; exact Bool.false_ne_true
  refine scr_eq (fun i => ?_) (fun i => ?_) (fun i => ?_) ?_ (fun s i a b c d => ?_)
  · rw [up_n (by omega), up_n (by omega), scr_13, scr_13]
  · rw [up_n (by omega), scr_30]
    by_cases e : i = t
    · rw [e, up_s, if_pos ⟨(hP' t).mpr (Or.inr rfl), hg⟩]
    · rw [up_n (fun z => e z.2), scr_30]
      by_cases w : P i = true ∧ gos S r n i
      · rw [if_pos w, if_pos ⟨(hP' i).mpr (Or.inl w.1), w.2⟩]
      · rw [if_neg w, if_neg (fun z => w ⟨((hP' i).mp z.1).resolve_right e, z.2⟩)]
  · rw [up_n (by omega), up_n (by omega), scr_28, scr_28]
    by_cases w : P (i / 3) = true ∧ mvd S r n (i / 3) (i % 3)
    · rw [if_pos w, if_pos ⟨(hP' _).mpr (Or.inl w.1), w.2⟩]
    · rw [if_neg w, if_neg]
      intro z
      by_cases e : i / 3 = t
      · rw [e] at z
        exact hg.2 ⟨z.2.2.1, z.2.2.2.1⟩
      · exact w ⟨((hP' _).mp z.1).resolve_right e, z.2⟩
  · rw [up_s, scr_25, scr_25, Nat.add_assoc]
    refine congrArg (S 0 25 + ·) (sm_upd ht (fun i _ e => ?_) ?_).symm
    · by_cases w : P i = true ∧ gos S r n i
      · rw [if_pos w, if_pos ⟨(hP' i).mpr (Or.inl w.1), w.2⟩]
      · rw [if_neg w, if_neg (fun z => w ⟨((hP' i).mp z.1).resolve_right e, z.2⟩)]
    · rw [if_pos ⟨(hP' t).mpr (Or.inr rfl), hg⟩, if_neg (fun z => hPt z.1), Nat.zero_add]
  · rw [up_n d, up_n (fun z => b z.1), scr_o a b c d]
theorem mvd_one {S : SV} {r n t j j' : Nat} (hne : S 0 17 ≠ S 0 18) (h : mvd S r n t j) (h' : mvd S r n t j') : j = j' := by
  obtain ⟨-, p52, -, a1, a2, -⟩ := h
  obtain ⟨-, -, -, c1, c2, -⟩ := h'
  rw [p52] at a1 a2 c1 c2
  have m : mny 52 = 2 := rfl
  rw [m] at a1 c1
  unfold ro at a2 c2
  rw [if_pos rfl] at a2 c2
  by_cases e : j = 0
  · by_cases e' : j' = 0
    · rw [e, e']
    · rw [if_pos e] at a2; rw [if_neg e'] at c2; omega
  · by_cases e' : j' = 0
    · rw [if_neg e] at a2; rw [if_pos e'] at c2; omega
    · omega
theorem scr_mv {S : SV} {r n t j : Nat} {P P' : Nat → Bool} (hP : P t = false) (hP' : ∀ i, P' i = true ↔ (P i = true ∨ i = t)) (hne : S 0 17 ≠ S 0 18) (hj : j < 3) (hm : mvd S r n t j) : scr S r n P' = up (scr S r n P) 28 (3 * t + j) (S 12 r) := by
  have hPt : ¬ P t = true := by rw [hP]; exact Bool.false_ne_true
  have ng : ¬ gos S r n t := fun z => z.2 ⟨hm.2.1, hm.2.2.1⟩
  have eg : ∀ i, (P' i = true ∧ gos S r n i) ↔ (P i = true ∧ gos S r n i) := fun i => by
    constructor
    · intro z
      by_cases e : i = t
      · rw [e] at z; exact absurd z.2 ng
      · exact ⟨((hP' i).mp z.1).resolve_right e, z.2⟩
    · exact fun z => ⟨(hP' i).mpr (Or.inl z.1), z.2⟩
  refine scr_eq (fun i => ?_) (fun i => ?_) (fun i => ?_) ?_ (fun s i a b c d => ?_)
  · rw [up_n (by omega), scr_13, scr_13]
  · rw [up_n (by omega), scr_30, scr_30]
    by_cases w : P i = true ∧ gos S r n i
    · rw [if_pos w, if_pos ((eg i).mpr w)]
    · rw [if_neg w, if_neg (fun z => w ((eg i).mp z))]
  · by_cases e : i = 3 * t + j
    · rw [e, up_s, scr_28j hj, if_pos ⟨(hP' t).mpr (Or.inr rfl), hm⟩]
    · rw [up_n (fun z => e z.2), scr_28, scr_28]
      by_cases w : P (i / 3) = true ∧ mvd S r n (i / 3) (i % 3)
      · rw [if_pos w, if_pos ⟨(hP' _).mpr (Or.inl w.1), w.2⟩]
      · rw [if_neg w, if_neg]
        intro z
        by_cases e2 : i / 3 = t
        · rw [e2] at z
          have := mvd_one hne hm z.2
          omega
        · exact w ⟨((hP' _).mp z.1).resolve_right e2, z.2⟩
  · rw [up_n (by omega), scr_25, scr_25]
    refine congrArg (S 0 25 + ·) (sm_congr (fun i _ => ?_))
    by_cases w : P i = true ∧ gos S r n i
    · rw [if_pos w, if_pos ((eg i).mpr w)]
    · rw [if_neg w, if_neg (fun z => w ((eg i).mp z))]
  · rw [up_n (fun z => c z.1), scr_o a b c d]
theorem scr_no {S : SV} {r n t : Nat} {P P' : Nat → Bool} (hP' : ∀ i, P' i = true ↔ (P i = true ∨ i = t)) (hn : ¬ nmd S r n t) : scr S r n P' = scr S r n P := scr_congr (fun i hi => by
  have e : i ≠ t := fun z => hn (by rw [← z]; exact hi)
  have := hP' i
  by_cases w : P i = true
  · rw [w]; exact this.mpr (Or.inl w)
  · have w2 : ¬ P' i = true := fun z => (this.mp z).elim w e
    rw [Bool.eq_false_iff.mpr w, Bool.eq_false_iff.mpr w2])
/-- how many go -/
def cnt (S : SV) (r n : Nat) (P : Nat → Bool) : Nat := sm (S 0 19) (fun t => if P t = true ∧ gos S r n t then 1 else 0)
theorem cnt_congr {S : SV} {r n : Nat} {P P' : Nat → Bool} (h : ∀ t, t < S 0 19 → nmd S r n t → P t = P' t) : cnt S r n P = cnt S r n P' := sm_congr (fun t ht => by
  by_cases w : nmd S r n t
  · rw [h t ht w]
  · rw [if_neg (fun z => w z.2.1), if_neg (fun z => w z.2.1)])
theorem cnt_go {S : SV} {r n t : Nat} {P P' : Nat → Bool} (hP : P t = false) (hP' : ∀ i, P' i = true ↔ (P i = true ∨ i = t)) (ht : t < S 0 19) (hg : gos S r n t) : cnt S r n P' = cnt S r n P + 1 := by
  have hPt : ¬ P t = true := by rw [hP]; exact Bool.false_ne_true
  refine sm_upd ht (fun i _ e => ?_) ?_
  · by_cases w : P i = true ∧ gos S r n i
    · rw [if_pos w, if_pos ⟨(hP' i).mpr (Or.inl w.1), w.2⟩]
    · rw [if_neg w, if_neg (fun z => w ⟨((hP' i).mp z.1).resolve_right e, z.2⟩)]
  · rw [if_pos ⟨(hP' t).mpr (Or.inr rfl), hg⟩, if_neg (fun z => hPt z.1)]
theorem cnt_no {S : SV} {r n t : Nat} {P P' : Nat → Bool} (hP' : ∀ i, P' i = true ↔ (P i = true ∨ i = t)) (hn : ¬ gos S r n t) : cnt S r n P' = cnt S r n P := sm_congr (fun i _ => by
  by_cases e : i = t
  · rw [e, if_neg (fun z => hn z.2), if_neg (fun z => hn z.2)]
  · by_cases w : P i = true ∧ gos S r n i
    · rw [if_pos w, if_pos ⟨(hP' i).mpr (Or.inl w.1), w.2⟩]
    · rw [if_neg w, if_neg (fun z => w ⟨((hP' i).mp z.1).resolve_right e, z.2⟩)])
theorem GA_scr {S : SV} {r n : Nat} {P : Nat → Bool} (g1 : GA S) (g5 : GO S) (hr : S 10 r ≠ 0) (h11 : S 11 r = 0) (hn : n < 25) : GA (scr S r n P) := by
  refine ⟨g1.1, g1.2.1, g1.2.2.1, fun x => ?_, fun r' m h0 hm => ?_⟩
  · obtain ⟨a1, a2, a3⟩ := g1.2.2.2.1 x
    show scr S r n P 13 x ≤ 1 ∧ S 14 x ≤ 24 ∧ (scr S r n P 13 x = 1 → S 14 x = 0)
    rw [scr_13]
    by_cases e : x = 25 * r + n
    · rw [if_pos e, e]
      exact ⟨Nat.le_refl 1, by rw [← e]; exact a2, fun _ => g5.2 r n h11 hn⟩
    · rw [if_neg e]; exact ⟨a1, a2, a3⟩
  · have h0' : S 10 r' = 0 := h0
    obtain ⟨a1, a2⟩ := g1.2.2.2.2 r' m h0' hm
    refine ⟨?_, a2⟩
    rw [scr_13, if_neg]
    · exact a1
    · intro e
      have : r' = r := by omega
      exact hr (by rw [← this]; exact h0')
/-- the whole day after it -/
theorem scr_inv {S : SV} {k r n : Nat} {P : Nat → Bool} (g1 : GA S) (g2 : GP S) (g3 : GT S k) (g4 : GM S) (g5 : GO S) (hr : S 10 r ≠ 0) (h11 : S 11 r = 0) (hn : n < 25) (hP : ∀ t, t < S 0 19 → P t = true) : GA (scr S r n P) ∧ GP (scr S r n P) ∧ GT (scr S r n P) k ∧ GM (scr S r n P) ∧ GO (scr S r n P) := by
  have hl := GA_10 g1
  refine ⟨GA_scr g1 g5 hr h11 hn, g2, ?_, ?_, g5⟩
  · obtain ⟨t1, t2, t3, t4, t5, t6⟩ := g3
    have s30 : ∀ t, scr S r n P 30 t = 2 ∨ scr S r n P 30 t = S 30 t := fun t => by
      rw [scr_30]; split
      · exact Or.inl rfl
      · exact Or.inr rfl
    refine ⟨t1, t2, fun t ht => ?_, t4, fun t ht h3 => ?_, fun t ht h2 hc => ?_⟩
    · obtain ⟨a1, a2, a3, a4, a5, a6⟩ := t3 t ht
      refine ⟨a1, a2, a3, ?_, fun j hj => ?_, fun hp52 => ?_⟩
      · rcases s30 t with e | e <;> rw [e]
        · omega
        · exact a4
      · have h5 := a5 j hj
        show if j < mny (S 27 t) then 1 ≤ scr S r n P 28 (3 * t + j) ∧ scr S r n P 28 (3 * t + j) ≤ S 10 (ro S (S 27 t) j) ∧ ((scr S r n P 30 t = 0 ∨ scr S r n P 30 t = 3) → scr S r n P 13 (25 * ro S (S 27 t) j + scr S r n P 28 (3 * t + j)) = 0) else scr S r n P 28 (3 * t + j) = 0
        rw [scr_28j hj]
        by_cases q : j < mny (S 27 t)
        · rw [if_pos q] at h5 ⊢
          by_cases w : P t = true ∧ mvd S r n t j
          · rw [if_pos w]
            obtain ⟨-, -, p52, ⟨m1, m2, m3⟩, n1, n2, n3⟩ := w
            rw [n2]
            refine ⟨by omega, g1.2.2.1 r, fun _ => ?_⟩
            rw [scr_13, if_neg (by omega)]
            exact m3
          · rw [if_neg w]
            refine ⟨h5.1, h5.2.1, fun hc => ?_⟩
            have hlr := hl (ro S (S 27 t) j)
            have hc0 : S 30 t = 0 ∨ S 30 t = 3 := by
              rcases s30 t with e | e
              · rw [e] at hc; omega
              · rw [e] at hc; exact hc
            rw [scr_13, if_neg]
            · exact h5.2.2 hc0
            · intro e
              have er : ro S (S 27 t) j = r := by omega
              have en : S 28 (3 * t + j) = n := by omega
              have hp := hP t ht
              rcases hc0 with h0 | h0
              · have nd : nmd S r n t := by
                  refine ⟨h0, ?_⟩
                  have : j = 0 ∨ j = 1 ∨ j = 2 := by omega
                  rcases this with rfl | rfl | rfl
                  · exact Or.inl ⟨q, er, en⟩
                  · exact Or.inr (Or.inl ⟨q, er, en⟩)
                  · exact Or.inr (Or.inr ⟨q, er, en⟩)
                by_cases hb : S 27 t = 52 ∧ msb S r n
                · exact w ⟨hp, h0, hb.1, hb.2, q, er, en⟩
                · rw [scr_30, if_pos ⟨hp, nd, hb⟩] at hc
                  omega
              · have h18 := t5 t ht h0
                have ho := GP_off g2 a1 (by omega)
                have : S 11 (ro S (S 27 t) j) = 2 := by
                  rcases ro_j (S := S) (p := S 27 t) (j := j) with e2 | e2
                  · rw [e2]; exact ho.1
                  · rw [e2]; exact ho.2
                rw [er] at this
                omega
        · rw [if_neg q] at h5 ⊢
          rw [if_neg (fun w => q w.2.2.2.2.1)]
          exact h5
      · have hp52' : S 27 t ≠ 52 := hp52
        have e0 : scr S r n P 28 (3 * t) = S 28 (3 * t) := by
          have := scr_28j (S := S) (r := r) (n := n) (t := t) (P := P) (j := 0) (by omega)
          rw [if_neg (fun w => hp52' w.2.2.1)] at this
          exact this
        have e1 : scr S r n P 28 (3 * t + 1) = S 28 (3 * t + 1) := by
          rw [scr_28j (by omega), if_neg (fun w => hp52' w.2.2.1)]
        have e2 : scr S r n P 28 (3 * t + 2) = S 28 (3 * t + 2) := by
          rw [scr_28j (by omega), if_neg (fun w => hp52' w.2.2.1)]
        rw [e0, e1, e2]
        exact a6 hp52'
    · have h3' : scr S r n P 30 t = 3 := h3
      rcases s30 t with e | e
      · rw [e] at h3'; omega
      · rw [e] at h3'; exact t5 t ht h3'
    · have hc' : scr S r n P 30 t = 0 ∨ scr S r n P 30 t = 3 := hc
      rcases s30 t with e | e
      · rw [e] at hc'; omega
      · rw [e] at hc'; exact t6 t ht h2 hc'
  · obtain ⟨m1, m2, m3⟩ := g4
    refine ⟨?_, m2, m3⟩
    rw [scr_25, m1, ← sm_add]
    refine sm_congr (fun t ht => ?_)
    show _ = if scr S r n P 30 t = 1 ∨ scr S r n P 30 t = 2 then cost S t else 0
    rw [scr_30]
    by_cases w : P t = true ∧ gos S r n t
    · rw [if_pos w, if_pos w, if_neg (by have := w.2.1.1; omega), if_pos (Or.inr rfl), Nat.zero_add]
    · rw [if_neg w, if_neg w, Nat.add_zero]
