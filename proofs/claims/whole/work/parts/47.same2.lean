/-! ===== tickets that name the same: counts and sums ===== -/
theorem sm_comm {n m : Nat} {f : Nat → Nat → Nat} : sm n (fun i => sm m (fun j => f i j)) = sm m (fun j => sm n (fun i => f i j)) := by
  induction n with
  | zero => exact (sm_zero (fun _ _ => rfl)).symm
  | succ n ih =>
    simp only [sm]
    rw [ih, ← sm_add]
theorem first_ex {S : SV} {p : Nat} {a b c : Int32} : ∀ t, cntT S t → sameT S t p a b c → ∃ f, f ≤ t ∧ cntT S f ∧ sameT S f p a b c ∧ frs S f := by
  intro t
  induction t using Nat.strongRecOn with
  | _ t ih =>
    intro hc hs
    by_cases h : frs S t
    · exact ⟨t, Nat.le_refl _, hc, hs, h⟩
    · obtain ⟨q, hq, hcq, hsq⟩ : ∃ q, q < t ∧ cntT S q ∧ sameTT S q t := Classical.byContradiction (fun w => h (frs_iff.mpr (fun q hq z => w ⟨q, hq, z⟩)))
      have hp := hs.1
      unfold sameTT at hsq
      rw [hp] at hsq
      obtain ⟨f, h1, h2⟩ := ih q hq hcq ((same_eq hs q).mpr hsq)
      exact ⟨f, by omega, h2⟩
theorem first_lt {S : SV} {p f f' : Nat} {a b c : Int32} (hc : cntT S f) (hs : sameT S f p a b c) (hs' : sameT S f' p a b c) (h' : frs S f') : ¬ f < f' := fun hl => by
  have hp := hs'.1
  refine frs_iff.mp h' f hl ⟨hc, ?_⟩
  unfold sameTT
  rw [hp]
  exact (same_eq hs' f).mp hs
theorem first_one {S : SV} {p f f' : Nat} {a b c : Int32} (hc : cntT S f) (hc' : cntT S f') (hs : sameT S f p a b c) (hs' : sameT S f' p a b c) (h : frs S f) (h' : frs S f') : f = f' := by
  have h1 := first_lt hc hs hs' h'
  have h2 := first_lt hc' hs' hs h
  omega
/-- whether there are units on what is named -/
def grp (S : SV) (p : Nat) (a b c : Int32) : Nat := sm (S 0 19) (fun t => if cntT S t ∧ sameT S t p a b c ∧ frs S t then 1 else 0)
theorem uo_0 {S : SV} {k : Nat} {TT : Prop} (g : GTx TT S k) {p : Nat} {a b c : Int32} (h : uo S p a b c = 0) : ∀ t, t < S 0 19 → ¬ (cntT S t ∧ sameT S t p a b c) := fun t ht z => by
  have := uo_pos ht (GT_t g ht).2.1 z.1 z.2
  omega
theorem uo_ex {S : SV} {p : Nat} {a b c : Int32} (h : uo S p a b c ≠ 0) : ∃ t, t < S 0 19 ∧ cntT S t ∧ sameT S t p a b c := by
  unfold uo at h
  obtain ⟨t, ht, hf⟩ := sm_pos (Nat.pos_of_ne_zero h)
  refine ⟨t, ht, ?_⟩
  by_cases w : cntT S t ∧ sameT S t p a b c
  · exact w
  · rw [if_neg w] at hf; omega
theorem grp_eq {S : SV} {k : Nat} {TT : Prop} (g : GTx TT S k) {p : Nat} {a b c : Int32} : grp S p a b c = if uo S p a b c = 0 then 0 else 1 := by
  unfold grp
  by_cases h : uo S p a b c = 0
  · rw [if_pos h]
    exact sm_zero (fun t ht => if_neg (fun z => uo_0 g h t ht ⟨z.1, z.2.1⟩))
  · rw [if_neg h]
    obtain ⟨t, ht, hc, hs⟩ := uo_ex h
    obtain ⟨f, f1, f2, f3, f4⟩ := first_ex t hc hs
    have hf : f < S 0 19 := by omega
    have e : (if cntT S f ∧ sameT S f p a b c ∧ frs S f then 1 else 0) = 1 := if_pos ⟨f2, f3, f4⟩
    have up1 := sm_le1 (n := S 0 19) (i := f) (f := fun t => if cntT S t ∧ sameT S t p a b c ∧ frs S t then 1 else 0) (fun m hm hne => if_neg (fun z => hne (first_one z.1 f2 z.2.1 f3 z.2.2 f4)))
    have lo := sm_ge (f := fun t => if cntT S t ∧ sameT S t p a b c ∧ frs S t then 1 else 0) hf
    rw [e] at up1 lo
    omega
theorem wk_one {S : SV} {p : Nat} {a b c : Int32} (h : ∀ t, t < S 0 19 → cntT S t → S 27 t = p → (wnT S t ↔ sameT S t p a b c)) : wk S p = grp S p a b c ∧ wu S p = uo S p a b c := by
  refine ⟨sm_congr (fun t ht => ?_), sm_congr (fun t ht => ?_)⟩
  · by_cases w : cntT S t ∧ sameT S t p a b c ∧ frs S t
    · rw [if_pos w, if_pos ⟨⟨w.2.1.1, w.1, (h t ht w.1 w.2.1.1).mpr w.2.1⟩, w.2.2⟩]
    · rw [if_neg w, if_neg (fun z => w ⟨z.1.2.1, (h t ht z.1.2.1 z.1.1).mp z.1.2.2, z.2⟩)]
  · by_cases w : cntT S t ∧ sameT S t p a b c
    · rw [if_pos w, if_pos ⟨w.2.1, w.1, (h t ht w.1 w.2.1).mpr w.2⟩]
    · rw [if_neg w, if_neg (fun z => w ⟨z.2.1, (h t ht z.2.1 z.1).mp z.2.2⟩)]
theorem wk_two {S : SV} {p : Nat} {a b c a' b' c' : Int32} (h : ∀ t, t < S 0 19 → cntT S t → S 27 t = p → (wnT S t ↔ (sameT S t p a b c ∨ sameT S t p a' b' c'))) (hx : ∀ t, sameT S t p a b c → ¬ sameT S t p a' b' c') : wk S p = grp S p a b c + grp S p a' b' c' ∧ wu S p = uo S p a b c + uo S p a' b' c' := by
  unfold grp uo
  rw [← sm_add, ← sm_add]
  refine ⟨sm_congr (fun t ht => ?_), sm_congr (fun t ht => ?_)⟩
  · by_cases w : cntT S t ∧ sameT S t p a b c ∧ frs S t
    · rw [if_pos w, if_pos ⟨⟨w.2.1.1, w.1, (h t ht w.1 w.2.1.1).mpr (Or.inl w.2.1)⟩, w.2.2⟩, if_neg (fun z => hx t w.2.1 z.2.1)]
    · rw [if_neg w]
      by_cases w' : cntT S t ∧ sameT S t p a' b' c' ∧ frs S t
      · rw [if_pos w', if_pos ⟨⟨w'.2.1.1, w'.1, (h t ht w'.1 w'.2.1.1).mpr (Or.inr w'.2.1)⟩, w'.2.2⟩]
      · rw [if_neg w', if_neg]
        intro z
        rcases (h t ht z.1.2.1 z.1.1).mp z.1.2.2 with u | u
        · exact w ⟨z.1.2.1, u, z.2⟩
        · exact w' ⟨z.1.2.1, u, z.2⟩
  · by_cases w : cntT S t ∧ sameT S t p a b c
    · rw [if_pos w, if_pos ⟨w.2.1, w.1, (h t ht w.1 w.2.1).mpr (Or.inl w.2)⟩, if_neg (fun z => hx t w.2 z.2), Nat.add_zero]
    · rw [if_neg w]
      by_cases w' : cntT S t ∧ sameT S t p a' b' c'
      · rw [if_pos w', if_pos ⟨w'.2.1, w'.1, (h t ht w'.1 w'.2.1).mpr (Or.inr w'.2)⟩, Nat.zero_add]
      · rw [if_neg w', if_neg]
        intro z
        rcases (h t ht z.2.1 z.1).mp z.2.2 with u | u
        · exact w ⟨z.2.1, u⟩
        · exact w' ⟨z.2.1, u⟩
theorem wk_three {S : SV} {p : Nat} {a b c a' b' c' a2 b2 c2 : Int32} (h : ∀ t, t < S 0 19 → cntT S t → S 27 t = p → (wnT S t ↔ (sameT S t p a b c ∨ sameT S t p a' b' c' ∨ sameT S t p a2 b2 c2))) (hx : ∀ t, sameT S t p a b c → ¬ sameT S t p a' b' c' ∧ ¬ sameT S t p a2 b2 c2) (hy : ∀ t, sameT S t p a' b' c' → ¬ sameT S t p a2 b2 c2) : wk S p = grp S p a b c + grp S p a' b' c' + grp S p a2 b2 c2 ∧ wu S p = uo S p a b c + uo S p a' b' c' + uo S p a2 b2 c2 := by
  unfold grp uo
  rw [← sm_add, ← sm_add, ← sm_add, ← sm_add]
  refine ⟨sm_congr (fun t ht => ?_), sm_congr (fun t ht => ?_)⟩
  · by_cases w : cntT S t ∧ sameT S t p a b c ∧ frs S t
    · rw [if_pos w, if_pos ⟨⟨w.2.1.1, w.1, (h t ht w.1 w.2.1.1).mpr (Or.inl w.2.1)⟩, w.2.2⟩, if_neg (fun z => (hx t w.2.1).1 z.2.1), if_neg (fun z => (hx t w.2.1).2 z.2.1)]
    · rw [if_neg w]
      by_cases w' : cntT S t ∧ sameT S t p a' b' c' ∧ frs S t
      · rw [if_pos w', if_pos ⟨⟨w'.2.1.1, w'.1, (h t ht w'.1 w'.2.1.1).mpr (Or.inr (Or.inl w'.2.1))⟩, w'.2.2⟩, if_neg (fun z => hy t w'.2.1 z.2.1)]
      · rw [if_neg w']
        by_cases w2 : cntT S t ∧ sameT S t p a2 b2 c2 ∧ frs S t
        · rw [if_pos w2, if_pos ⟨⟨w2.2.1.1, w2.1, (h t ht w2.1 w2.2.1.1).mpr (Or.inr (Or.inr w2.2.1))⟩, w2.2.2⟩]
        · rw [if_neg w2, if_neg]
          intro z
          rcases (h t ht z.1.2.1 z.1.1).mp z.1.2.2 with u | u | u
          · exact w ⟨z.1.2.1, u, z.2⟩
          · exact w' ⟨z.1.2.1, u, z.2⟩
          · exact w2 ⟨z.1.2.1, u, z.2⟩
  · by_cases w : cntT S t ∧ sameT S t p a b c
    · rw [if_pos w, if_pos ⟨w.2.1, w.1, (h t ht w.1 w.2.1).mpr (Or.inl w.2)⟩, if_neg (fun z => (hx t w.2).1 z.2), if_neg (fun z => (hx t w.2).2 z.2)]; rfl
    · rw [if_neg w]
      by_cases w' : cntT S t ∧ sameT S t p a' b' c'
      · rw [if_pos w', if_pos ⟨w'.2.1, w'.1, (h t ht w'.1 w'.2.1).mpr (Or.inr (Or.inl w'.2))⟩, if_neg (fun z => hy t w'.2 z.2), Nat.zero_add]; rfl
      · rw [if_neg w']
        by_cases w2 : cntT S t ∧ sameT S t p a2 b2 c2
        · rw [if_pos w2, if_pos ⟨w2.2.1, w2.1, (h t ht w2.1 w2.2.1).mpr (Or.inr (Or.inr w2.2))⟩]; simp
        · rw [if_neg w2, if_neg]
          intro z
          rcases (h t ht z.2.1 z.1).mp z.2.2 with u | u | u
          · exact w ⟨z.2.1, u⟩
          · exact w' ⟨z.2.1, u⟩
          · exact w2 ⟨z.2.1, u⟩
/-- what those that name the same win in all -/
theorem wn_same {S : SV} {k t f : Nat} (g1 : GA S) {TT : Prop} (g : GTx TT S k) (ht : t < S 0 19) (hf : f < S 0 19) (h : sameTT S t f) : wnT S t ↔ wnT S f := by
  have n1 : S 28 (3 * t) ≤ 24 := GT_n g g1 ht (j := 0) (by omega)
  have n2 := GT_n g g1 ht (j := 1) (by omega)
  have n3 := GT_n g g1 ht (j := 2) (by omega)
  have m1 : S 28 (3 * f) ≤ 24 := GT_n g g1 hf (j := 0) (by omega)
  have m2 := GT_n g g1 hf (j := 1) (by omega)
  have m3 := GT_n g g1 hf (j := 2) (by omega)
  have e := h.1
  have := wns_same h (by omega) (fun _ => by omega) (fun _ => by omega) n1 n2 n3
  unfold wnT
  rw [e]
  exact this
theorem class_sum {S : SV} {k p Q : Nat} {gg : Nat → Nat} (g1 : GA S) {TT : Prop} (g : GTx TT S k) (hg : ∀ u, 1 ≤ u → u * gg u ≤ Q) : sm (S 0 19) (fun t => if win S p t then S 29 t * gg (uoT S t) else 0) ≤ wk S p * Q := by
  have s1 : sm (S 0 19) (fun t => if win S p t then S 29 t * gg (uoT S t) else 0) ≤ sm (S 0 19) (fun t => sm (S 0 19) (fun f => if (win S p f ∧ frs S f) ∧ (cntT S t ∧ sameTT S t f) then S 29 t * gg (uoT S f) else 0)) := by
    refine sm_le (fun t ht => ?_)
    by_cases w : win S p t
    · rw [if_pos w]
      obtain ⟨w1, w2, w3⟩ := w
      obtain ⟨f, f1, f2, f3, f4⟩ := first_ex t w2 (same_self (S := S) (t := t))
      have hf : f < S 0 19 := by omega
      have hfp : S 27 f = p := by rw [f3.1]; exact w1
      have htf : sameTT S t f := by
        unfold sameTT
        rw [f3.1]
        exact (same_eq f3 t).mp same_self
      have hwf : wnT S f := (wn_same g1 g ht hf htf).mp w3
      have hu : uoT S f = uoT S t := uo_same f3
      refine Nat.le_trans ?_ (sm_ge (f := fun f => if (win S p f ∧ frs S f) ∧ (cntT S t ∧ sameTT S t f) then S 29 t * gg (uoT S f) else 0) hf)
      show _ ≤ if (win S p f ∧ frs S f) ∧ (cntT S t ∧ sameTT S t f) then S 29 t * gg (uoT S f) else 0
      rw [if_pos (c := (win S p f ∧ frs S f) ∧ (cntT S t ∧ sameTT S t f)) ⟨⟨⟨hfp, f2, hwf⟩, f4⟩, w2, htf⟩, hu]
      exact Nat.le_refl _
    · rw [if_neg w]; exact Nat.zero_le _
  refine Nat.le_trans s1 ?_
  rw [sm_comm]
  have s2 : sm (S 0 19) (fun f => sm (S 0 19) (fun t => if (win S p f ∧ frs S f) ∧ (cntT S t ∧ sameTT S t f) then S 29 t * gg (uoT S f) else 0)) ≤ sm (S 0 19) (fun f => (if win S p f ∧ frs S f then 1 else 0) * Q) := by
    refine sm_le (fun f hf => ?_)
    by_cases w : win S p f ∧ frs S f
    · rw [if_pos w, Nat.one_mul]
      have e : sm (S 0 19) (fun t => if (win S p f ∧ frs S f) ∧ (cntT S t ∧ sameTT S t f) then S 29 t * gg (uoT S f) else 0) = uoT S f * gg (uoT S f) := by
        unfold uoT
        rw [show uo S (S 27 f) (nI (S 28 (3 * f))) (nI (S 28 (3 * f + 1))) (nI (S 28 (3 * f + 2))) = sm (S 0 19) (fun t => if cntT S t ∧ sameTT S t f then S 29 t else 0) from rfl, ← sm_mul]
        refine sm_congr (fun t _ => ?_)
        by_cases v : cntT S t ∧ sameTT S t f
        · rw [if_pos v, if_pos ⟨w, v⟩]
        · rw [if_neg v, if_neg (fun z => v z.2), Nat.zero_mul]
      rw [e]
      exact hg _ (uo_pos hf (GT_t g hf).2.1 w.1.2.1 same_self)
    · rw [if_neg w, Nat.zero_mul]
      exact Nat.le_of_eq (sm_zero (fun t _ => if_neg (fun z => w z.1)))
  refine Nat.le_trans s2 ?_
  rw [sm_mul]
  exact Nat.le_refl _
/-- due to the winners -/
def dueS (S : SV) (p N k W : Nat) : Nat := sm (S 0 19) (fun t => if win S p t then S 29 t * dvd (kd p) (S 17 p) N k W (uoT S t) else 0)
theorem share_le {Q k u : Nat} (hu : 1 ≤ u) : u * (Q / k / u / 10 * 10) ≤ Q / k := by
  have h1 : Q / k / u / 10 * 10 ≤ Q / k / u := Nat.div_mul_le_self _ _
  calc u * (Q / k / u / 10 * 10) ≤ u * (Q / k / u) := Nat.mul_le_mul_left _ h1
    _ ≤ Q / k := Nat.mul_div_le _ _
theorem due_le {S : SV} {kk p N W : Nat} (g1 : GA S) {TT : Prop} (g : GTx TT S kk) (h1 : kd p ≠ 1) : dueS S p N (wk S p) W ≤ N := by
  have e : dueS S p N (wk S p) W = sm (S 0 19) (fun t => if win S p t then S 29 t * (fun u => N / wk S p / u / 10 * 10) (uoT S t) else 0) := by
    unfold dueS dvd
    refine sm_congr (fun t _ => ?_)
    rw [if_pos h1]
  rw [e]
  refine Nat.le_trans (class_sum (Q := N / wk S p) g1 g (fun u hu => share_le hu)) ?_
  exact Nat.mul_div_le _ _
theorem due_place {S : SV} {kk p N : Nat} (g1 : GA S) {TT : Prop} (g : GTx TT S kk) (h1 : kd p = 1) (hk : wk S p ≠ 0) : (N < S 17 p * wu S p → dueS S p N (wk S p) (wu S p) = S 17 p * wu S p) ∧ (S 17 p * wu S p ≤ N → dueS S p N (wk S p) (wu S p) ≤ N) := by
  have ew : sm (S 0 19) (fun t => if win S p t then S 29 t * S 17 p else 0) = S 17 p * wu S p := by
    rw [Nat.mul_comm]
    unfold wu wun
    rw [← sm_mul]
    refine sm_congr (fun t _ => ?_)
    by_cases w : win S p t
    · rw [if_pos w, if_pos w]
    · rw [if_neg w, if_neg w, Nat.zero_mul]
  constructor
  · intro hN
    rw [← ew]
    unfold dueS dvd
    refine sm_congr (fun t _ => ?_)
    rw [if_neg (c := kd p ≠ 1) (fun z => z h1), if_neg (c := wk S p = 0) hk, if_pos (c := N < S 17 p * wu S p) hN]
  · intro hN
    have e : dueS S p N (wk S p) (wu S p) = sm (S 0 19) (fun t => if win S p t then S 29 t * S 17 p else 0) + sm (S 0 19) (fun t => if win S p t then S 29 t * ((N - S 17 p * wu S p) / wk S p / uoT S t / 10 * 10) else 0) := by
      rw [← sm_add]
      unfold dueS dvd
      refine sm_congr (fun t _ => ?_)
      rw [if_neg (c := kd p ≠ 1) (fun z => z h1), if_neg (c := wk S p = 0) hk, if_neg (c := N < S 17 p * wu S p) (Nat.not_lt.mpr hN)]
      by_cases w : win S p t
      · rw [if_pos w, if_pos w, if_pos w, Nat.mul_add]
      · rw [if_neg w, if_neg w, if_neg w]
    have h2 := class_sum (p := p) (gg := fun u => (N - S 17 p * wu S p) / wk S p / u / 10 * 10) (Q := (N - S 17 p * wu S p) / wk S p) g1 g (fun u hu => share_le hu)
    have h3 : wk S p * ((N - S 17 p * wu S p) / wk S p) ≤ N - S 17 p * wu S p := Nat.mul_div_le _ _
    rw [e, ew]
    omega
