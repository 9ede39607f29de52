/-! ===== positions that are supposed ===== -/
def w14 (S : SV) (f : Nat → Nat) : SV := fun s i => if s = 14 then f i else S s i
theorem w14_self {S : SV} : w14 S (S 14) = S := by
  funext s i
  unfold w14
  by_cases e : s = 14
  · rw [if_pos e, e]
  · rw [if_neg e]
theorem w14_up {S : SV} {f : Nat → Nat} {i v : Nat} : up (w14 S f) 14 i v = w14 S (fun q => if q = i then v else f q) := by
  funext s q
  unfold up w14
  by_cases e : s = 14
  · subst e
    by_cases e2 : q = i
    · rw [if_pos ⟨rfl, e2⟩, if_pos rfl]; dsimp only; rw [if_pos e2]
    · rw [if_neg (fun z => e2 z.2), if_pos rfl, if_pos rfl]; dsimp only; rw [if_neg e2]
  · rw [if_neg (fun z => e z.1), if_neg e, if_neg e]
def GF (S : SV) (f : Nat → Nat) : Prop := (∀ x, f x ≤ 24 ∧ (S 13 x = 1 → f x = 0)) ∧ (∀ r n, S 10 r = 0 → n < 25 → f (25 * r + n) = 0)
theorem GF_S {S : SV} (g1 : GA S) : GF S (S 14) := ⟨fun x => (g1.2.2.2.1 x).2, fun r n h0 hn => (g1.2.2.2.2 r n h0 hn).2⟩
theorem GA_w14 {S : SV} {f : Nat → Nat} (g1 : GA S) (g : GF S f) : GA (w14 S f) := ⟨g1.1, g1.2.1, g1.2.2.1, fun x => ⟨(g1.2.2.2.1 x).1, g.1 x⟩, fun r n h0 hn => ⟨(g1.2.2.2.2 r n h0 hn).1, g.2 r n h0 hn⟩⟩
theorem GF_up {S : SV} {f : Nat → Nat} (g : GF S f) {r n v : Nat} (hr : S 10 r ≠ 0) (hn : n < 25) (h13 : S 13 (25 * r + n) = 0) (hv : v ≤ 24) : GF S (fun q => if q = 25 * r + n then v else f q) := by
  refine ⟨fun x => ?_, fun r' n' h0 hn' => ?_⟩
  · show (if x = 25 * r + n then v else f x) ≤ 24 ∧ (S 13 x = 1 → (if x = 25 * r + n then v else f x) = 0)
    by_cases e : x = 25 * r + n
    · rw [if_pos e]
      exact ⟨hv, fun z => by rw [e, h13] at z; cases z⟩
    · rw [if_neg e]; exact g.1 x
  · show (if 25 * r' + n' = 25 * r + n then v else f (25 * r' + n')) = 0
    rw [if_neg]
    · exact g.2 r' n' h0 hn'
    · intro e
      have : r' = r := by omega
      rw [this] at h0
      exact hr h0
theorem GF_0 {S : SV} {f : Nat → Nat} {a b : Nat} (g : GF S f) : GF S (fun q => if a ≤ q ∧ q < b then 0 else f q) := by
  refine ⟨fun x => ?_, fun r n h0 hn => ?_⟩
  · show (if a ≤ x ∧ x < b then 0 else f x) ≤ 24 ∧ (S 13 x = 1 → (if a ≤ x ∧ x < b then 0 else f x) = 0)
    by_cases e : a ≤ x ∧ x < b
    · rw [if_pos e]; exact ⟨Nat.zero_le _, fun _ => rfl⟩
    · rw [if_neg e]; exact g.1 x
  · show (if a ≤ 25 * r + n ∧ 25 * r + n < b then 0 else f (25 * r + n)) = 0
    by_cases e : a ≤ 25 * r + n ∧ 25 * r + n < b
    · rw [if_pos e]
    · rw [if_neg e]; exact g.2 r n h0 hn
theorem m_sup17 {S : SV} {r p q : Nat} {f : Nat → Nat} (g1 : GA S) (hr : r ≤ 12) (K : Nat → Int32 → Int32 → Mm → Option Mm) : ∀ n j M, 1 ≤ j → j ≤ S 10 r + 1 → S 10 r + 1 < j + n → RM (w14 S (fun i => if 25 * r + 1 ≤ i ∧ i < 25 * r + j then 0 else f i)) M → ∃ M', f_X4_supposes_17 K n 0 (nI p) (nI q) (nI r) (nI j) M = K 0 (nI p) (nI (q + 1)) M' ∧ RM (w14 S (fun i => if 25 * r + 1 ≤ i ∧ i < 25 * r + (S 10 r + 1) then 0 else f i)) M' ∧ (∀ s i k, s ≠ 14 → mI M' s i k = mI M s i k) := by
  have hl := GA_10 g1 r
  intro n
  induction n with
  | zero => intro j M h0 h1 h2; omega
  | succ n ih =>
    intro j M h0 h1 h2 hM
    rw [f_X4_supposes_17, RM_ref hM 0]
    simp only [ob_s, lt_e]
    rw [ix_n (by omega) (by omega), nI_cl (by omega), RM_I hM 10, show w14 S (fun i => if 25 * r + 1 ≤ i ∧ i < 25 * r + j then 0 else f i) 10 r = S 10 r from rfl]
    by_cases e : j = S 10 r + 1
    · rw [if_pos ((i_lt_n (by omega) (by omega)).mpr (by omega)), nI_1]
      exact ⟨M, rfl, by rw [← e]; exact hM, fun _ _ _ _ => rfl⟩
    · rw [if_neg (fun z => by have := (i_lt_n (by omega) (by omega)).mp z; omega), RM_ref hM 4]
      simp only [ob_s]
      rw [e25, ix_n (by omega) (by omega), nI_cl (by omega), nI_1]
      have h14 : RM (w14 S (fun i => if 25 * r + 1 ≤ i ∧ i < 25 * r + (j + 1) then 0 else f i)) (sI M 14 0 (25 * r + j) (0 : Int32)) := by
        have := RM_sI (s := 14) (i := 25 * r + j) (v := 0) hM (by omega)
        rw [w14_up] at this
        refine RM_ext this (fun s i => ?_)
        unfold w14
        by_cases e14 : s = 14
        · rw [if_pos e14, if_pos e14]
          dsimp only
          by_cases c : i = 25 * r + j
          · rw [if_pos c, if_pos (by omega)]
          · rw [if_neg c]
            by_cases c2 : 25 * r + 1 ≤ i ∧ i < 25 * r + j
            · rw [if_pos c2, if_pos (by omega)]
            · rw [if_neg c2, if_neg (by omega)]
        · rw [if_neg e14, if_neg e14]
      obtain ⟨M', x1, x2, x3⟩ := ih (j + 1) _ (by omega) (by omega) (by omega) h14
      refine ⟨M', x1, x2, fun s i k hs => ?_⟩
      rw [x3 s i k hs, rd_I, if_neg (fun z => hs z.1)]
abbrev rn (S : SV) (r n : Nat) : Prop := 1 ≤ n ∧ n ≤ S 10 r ∧ S 13 (25 * r + n) = 0
/-- the positions of those that are named, as far as so many run -/
def pos (x y z m n : Nat) : Nat := if n = x then 1 else if 2 ≤ m ∧ n = y then 2 else if 3 ≤ m ∧ n = z then 3 else 0
/-- what holds of a day with supposed positions f -/
def SUP (S : SV) (p x y z : Nat) (f : Nat → Nat) : Prop := (∀ i, 325 ≤ i → f i = S 14 i) ∧ GF S f ∧ (p ≠ 52 → ∀ n, 1 ≤ n → n ≤ S 10 (p / 4) → f (25 * (p / 4) + n) = pos x y z (rng S (p / 4)) n) ∧ (p = 52 → (∀ n, 1 ≤ n → n ≤ S 10 (S 0 17) → f (25 * S 0 17 + n) = if n = x then 1 else 0) ∧ (∀ n, 1 ≤ n → n ≤ S 10 (S 0 18) → f (25 * S 0 18 + n) = if n = y then 1 else 0))
abbrev cfnN (S : SV) (p x y z : Nat) : Prop := (p ≠ 52 → rn S (p / 4) x ∧ (2 ≤ rng S (p / 4) → rn S (p / 4) y ∧ y ≠ x) ∧ (3 ≤ rng S (p / 4) → rn S (p / 4) z ∧ z ≠ x ∧ z ≠ y)) ∧ (p = 52 → rn S (S 0 17) x ∧ rn S (S 0 18) y)
theorem rng_1 {S : SV} {r x : Nat} (h : rn S r x) : 1 ≤ rng S r := by
  have h2 := sm_ge (f := fun n => if S 13 (25 * r + (n + 1)) = 0 then 1 else 0) (show x - 1 < S 10 r by have := h.1; have := h.2.1; omega)
  rw [show x - 1 + 1 = x by have := h.1; omega, if_pos h.2.2] at h2
  exact h2
theorem rng_2 {S : SV} {r x y : Nat} (h : rn S r x) (h' : rn S r y) (hne : x ≠ y) : 2 ≤ rng S r := by
  have a1 := h.1
  have a2 := h'.1
  have b1' := h.2.1
  have b2' := h'.2.1
  have h2 := sm_ge2 (f := fun n => if S 13 (25 * r + (n + 1)) = 0 then 1 else 0) (show x - 1 < S 10 r by omega) (show y - 1 < S 10 r by omega) (by omega)
  rw [show x - 1 + 1 = x by omega, show y - 1 + 1 = y by omega, if_pos h.2.2, if_pos h'.2.2] at h2
  exact h2
theorem rng_3 {S : SV} {r x y z : Nat} (h : rn S r x) (h' : rn S r y) (h3 : rn S r z) (hne : x ≠ y) (hn2 : x ≠ z) (hn3 : y ≠ z) : 3 ≤ rng S r := by
  have a1 := h.1
  have a2 := h'.1
  have a3 := h3.1
  have b1' := h.2.1
  have b2' := h'.2.1
  have b3' := h3.2.1
  have h2 := sm_ge3 (f := fun n => if S 13 (25 * r + (n + 1)) = 0 then 1 else 0) (show x - 1 < S 10 r by omega) (show y - 1 < S 10 r by omega) (show z - 1 < S 10 r by omega) (by omega) (by omega) (by omega)
  rw [show x - 1 + 1 = x by omega, show y - 1 + 1 = y by omega, show z - 1 + 1 = z by omega, if_pos h.2.2, if_pos h'.2.2, if_pos h3.2.2] at h2
  exact h2
theorem m_supp {S : SV} {R : Mm} {p x y z : Nat} (h : RM S R) (g1 : GA S) (g2 : GP S) (hp : S 15 p = 1) (hn : NMD R (nI x) (nI y) (nI z)) (hc : cfnN S p x y z) : ∃ R' f, f_X4_supposes 0 (nI p) R = some R' ∧ RM (w14 S f) R' ∧ SUP S p x y z f ∧ (∀ s i k, s ≠ 14 → mI R' s i k = mI R s i k) := by
  have p1 := (g2.2.1 p hp).1
  have hr0 := ro_le g1 g2 hp 0
  have hr1 := ro_le g1 g2 hp 1
  have hl0 := GA_10 g1 (ro S p 0)
  have hl1 := GA_10 g1 (ro S p 1)
  have hs0 := ro_p g1 g2 hp 0
  have hs1 := ro_p g1 g2 hp 1
  have eR : RM (w14 S (fun i => if 25 * ro S p 0 + 1 ≤ i ∧ i < 25 * ro S p 0 + 1 then 0 else S 14 i)) R := by
    refine RM_ext h (fun s i => ?_)
    unfold w14
    by_cases e : s = 14
    · rw [if_pos e]; dsimp only; rw [if_neg (by omega), e]
    · rw [if_neg e]
  obtain ⟨M1, x1, x2, x3⟩ := m_sup17 (p := p) (q := 0) (f := S 14) g1 hr0 (f_X4_supposes_2 999) FU 1 R (by omega) (by omega) (by show S 10 (ro S p 0) + 1 < 1 + 1000; omega) eR
  have eM : RM (w14 S (fun i => if 25 * ro S p 1 + 1 ≤ i ∧ i < 25 * ro S p 1 + 1 then 0 else (if 25 * ro S p 0 + 1 ≤ i ∧ i < 25 * ro S p 0 + (S 10 (ro S p 0) + 1) then 0 else S 14 i))) M1 := by
    refine RM_ext x2 (fun s i => ?_)
    unfold w14
    by_cases e : s = 14
    · rw [if_pos e, if_pos e]; dsimp only; rw [if_neg (c := 25 * ro S p 1 + 1 ≤ i ∧ i < 25 * ro S p 1 + 1) (by omega)]
    · rw [if_neg e, if_neg e]
  obtain ⟨M2, y1, y2, y3⟩ := m_sup17 (p := p) (q := 1) (f := fun i => if 25 * ro S p 0 + 1 ≤ i ∧ i < 25 * ro S p 0 + (S 10 (ro S p 0) + 1) then 0 else S 14 i) g1 hr1 (f_X4_supposes_2 998) FU 1 M1 (by omega) (by omega) (by show S 10 (ro S p 1) + 1 < 1 + 1000; omega) eM
  have e0 : f_X4_raceOf 0 (nI p) (nI 0) R = some (nI (ro S p 0)) := m_raceOf (k := 0) h p1 (by omega)
  have e1 : f_X4_raceOf 0 (nI p) (nI 1) M1 = some (nI (ro S p 1)) := m_raceOf (k := 1) x2 p1 (by omega)
  have st0 : f_X4_supposes 0 (nI p) R = f_X4_supposes_2 999 0 (nI p) (nI 1) M1 := by
    unfold f_X4_supposes
    show f_X4_supposes_2 (999 + 1) 0 (nI p) (nI 0) R = _
    rw [f_X4_supposes_2, if_neg (by decide), e0]
    simp only [ob_s]
    exact x1
  have st1 : f_X4_supposes_2 999 0 (nI p) (nI 1) M1 = f_X4_supposes_2 998 0 (nI p) (nI 2) M2 := by
    show f_X4_supposes_2 (998 + 1) 0 (nI p) (nI 1) M1 = _
    rw [f_X4_supposes_2, if_neg (by decide), e1]
    simp only [ob_s]
    exact y1
  have fr : ∀ s i k, s ≠ 14 → mI M2 s i k = mI R s i k := fun s i k hs => by rw [y3 s i k hs, x3 s i k hs]
  have f32 : mI M2 32 0 0 = nI x ∧ mI M2 32 0 1 = nI y ∧ mI M2 32 0 2 = nI z := ⟨(fr 32 0 0 (by omega)).trans hn.1, (fr 32 0 1 (by omega)).trans hn.2.1, (fr 32 0 2 (by omega)).trans hn.2.2⟩
  have gF : GF S (fun i => if 25 * ro S p 1 + 1 ≤ i ∧ i < 25 * ro S p 1 + (S 10 (ro S p 1) + 1) then 0 else (if 25 * ro S p 0 + 1 ≤ i ∧ i < 25 * ro S p 0 + (S 10 (ro S p 0) + 1) then 0 else S 14 i)) := GF_0 (GF_0 (GF_S g1))
  generalize hF : (fun i => if 25 * ro S p 1 + 1 ≤ i ∧ i < 25 * ro S p 1 + (S 10 (ro S p 1) + 1) then 0 else (if 25 * ro S p 0 + 1 ≤ i ∧ i < 25 * ro S p 0 + (S 10 (ro S p 0) + 1) then 0 else S 14 i)) = F at y2 gF
  have Fhi : ∀ i, 325 ≤ i → F i = S 14 i := fun i hi => by
    rw [← hF]
    show (if _ then 0 else if _ then 0 else S 14 i) = _
    rw [if_neg (by omega), if_neg (by omega)]
  have F0 : ∀ n, 1 ≤ n → n ≤ S 10 (ro S p 0) → F (25 * ro S p 0 + n) = 0 := fun n h1 h2 => by
    rw [← hF]
    show (if 25 * ro S p 1 + 1 ≤ 25 * ro S p 0 + n ∧ 25 * ro S p 0 + n < 25 * ro S p 1 + (S 10 (ro S p 1) + 1) then 0 else if 25 * ro S p 0 + 1 ≤ 25 * ro S p 0 + n ∧ 25 * ro S p 0 + n < 25 * ro S p 0 + (S 10 (ro S p 0) + 1) then 0 else S 14 (25 * ro S p 0 + n)) = 0
    rw [if_pos (c := 25 * ro S p 0 + 1 ≤ 25 * ro S p 0 + n ∧ 25 * ro S p 0 + n < 25 * ro S p 0 + (S 10 (ro S p 0) + 1)) (by omega)]
    split <;> rfl
  have F1 : ∀ n, 1 ≤ n → n ≤ S 10 (ro S p 1) → F (25 * ro S p 1 + n) = 0 := fun n h1 h2 => by
    rw [← hF]
    show (if 25 * ro S p 1 + 1 ≤ 25 * ro S p 1 + n ∧ 25 * ro S p 1 + n < 25 * ro S p 1 + (S 10 (ro S p 1) + 1) then 0 else _) = 0
    rw [if_pos (by omega)]
  rw [st0, st1]
  show ∃ R' f, f_X4_supposes_2 (997 + 1) 0 (nI p) (nI 2) M2 = some R' ∧ _
  rw [f_X4_supposes_2, if_pos (show (2 : Int32) ≤ nI 2 from by decide)]
  by_cases q : p = 52
  · obtain ⟨c1, c2⟩ := hc.2 q
    obtain ⟨a1, a2, a3⟩ := c1
    obtain ⟨d1, d2, d3⟩ := c2
    have r0 : ro S p 0 = S 0 17 := by rw [q]; rfl
    have r1 : ro S p 1 = S 0 18 := by rw [q]; rfl
    rw [r0] at F0 hl0 hr0 hs0
    rw [r1] at F1 hl1 hr1 hs1
    have hne := (g2.2.2.1 (by rw [← q]; exact hp)).2.2
    rw [if_pos ((nI_52 (by omega)).mpr q), RM_ref y2 27, RM_ref y2 4]
    simp only [ob_s, lt_e]
    rw [ix_v (x := 0) (n := 3) (show vp_in (nI 0) 3 from vp_in_nI (by omega) (by omega)), RM_17 y2, show w14 S F 0 17 = S 0 17 from rfl, show (0 : Int32).toNatClampNeg = 0 from rfl]
    rw [f32.1, e25, ix_n (by omega) (by omega), nI_cl (by omega)]
    have h1 := RM_sI (s := 14) (i := 25 * S 0 17 + x) (v := 1) y2 (by omega)
    rw [w14_up] at h1
    have h1' : RM (w14 S (fun q => if q = 25 * S 0 17 + x then 1 else F q)) (sI M2 14 0 (25 * S 0 17 + x) (1 : Int32)) := h1
    rw [RM_ref h1' 27, RM_ref h1' 4]
    simp only [ob_s]
    rw [ix_v (x := 1) (n := 3) (show vp_in (nI 1) 3 from vp_in_nI (by omega) (by omega)), RM_18 h1', show w14 S (fun q => if q = 25 * S 0 17 + x then 1 else F q) 0 18 = S 0 18 from rfl, show (1 : Int32).toNatClampNeg = 1 from rfl]
    rw [show mI (sI M2 14 0 (25 * S 0 17 + x) (1 : Int32)) 32 0 1 = nI y from f32.2.1, e25, ix_n (by omega) (by omega), nI_cl (by omega)]
    have h2 := RM_sI (s := 14) (i := 25 * S 0 18 + y) (v := 1) h1' (by omega)
    rw [w14_up] at h2
    have h2' : RM (w14 S (fun q => if q = 25 * S 0 18 + y then 1 else (if q = 25 * S 0 17 + x then 1 else F q))) (sI (sI M2 14 0 (25 * S 0 17 + x) (1 : Int32)) 14 0 (25 * S 0 18 + y) (1 : Int32)) := h2
    refine ⟨_, _, rfl, h2', ⟨fun i hi => ?_, ?_, fun w => absurd q w, fun _ => ⟨fun n n1 n2 => ?_, fun n n1 n2 => ?_⟩⟩, fun s i k hs => ?_⟩
    · show (if i = 25 * S 0 18 + y then 1 else (if i = 25 * S 0 17 + x then 1 else F i)) = _
      rw [if_neg (by omega), if_neg (by omega)]; exact Fhi i hi
    · exact GF_up (GF_up gF hs0 (by omega) a3 (by omega)) hs1 (by omega) d3 (by omega)
    · show (if 25 * S 0 17 + n = 25 * S 0 18 + y then 1 else (if 25 * S 0 17 + n = 25 * S 0 17 + x then 1 else F (25 * S 0 17 + n))) = _
      rw [if_neg (by omega)]
      by_cases e : n = x
      · rw [if_pos (by omega), if_pos e]
      · rw [if_neg (by omega), if_neg e]; exact F0 n n1 n2
    · show (if 25 * S 0 18 + n = 25 * S 0 18 + y then 1 else (if 25 * S 0 18 + n = 25 * S 0 17 + x then 1 else F (25 * S 0 18 + n))) = _
      by_cases e : n = y
      · rw [if_pos (by omega), if_pos e]
      · rw [if_neg (by omega), if_neg (by omega), if_neg e]; exact F1 n n1 n2
    · rw [rd_I, if_neg (fun w => hs w.1), rd_I, if_neg (fun w => hs w.1)]; exact fr s i k hs
  · obtain ⟨⟨a1, a2, a3⟩, c2, c3⟩ := hc.1 q
    have r0 : ro S p 0 = p / 4 := by unfold ro; rw [if_neg q]
    rw [r0] at F0 hl0 hr0 hs0
    have hm1 := rng_1 (S := S) (r := p / 4) (x := x) ⟨a1, a2, a3⟩
    have hrn := GA_rng g1 (p / 4)
    rw [if_neg (fun w => q ((nI_52 (by omega)).mp w)), dv_4]
    simp only [lt_e]
    rw [show nI p / (4 : Int32) = nI (p / 4) from pk_div (d := 4) (by omega) (by omega) (by omega), m_running y2 (GA_w14 g1 gF) hr0, show rng (w14 S F) (p / 4) = rng S (p / 4) from rfl]
    simp only [ob_s]
    -- the loop over what is named
    have st : ∀ n m i M G w, i < m → m ≤ 3 → RM (w14 S G) M → mI M 32 0 i = nI w → w < 25 → f_X4_supposes_126 (n + 1) 0 (nI (p / 4)) (nI m) (nI i) M = f_X4_supposes_126 n 0 (nI (p / 4)) (nI m) (nI (i + 1)) (sI M 14 0 (25 * (p / 4) + w) (nI (i + 1))) := fun n m i M G w him hm hM hw hw2 => by
      rw [f_X4_supposes_126, if_neg (fun z => by have := (i_le_n (by omega) (by omega)).mp z; omega), RM_ref hM 27, RM_ref hM 4]
      simp only [ob_s, lt_e]
      rw [ix_n (by omega) (by omega), nI_cl (by omega), hw, e25, ix_n (by omega) (by omega), nI_cl (by omega), nI_1]
    have en : ∀ n m M, m ≤ 3 → f_X4_supposes_126 (n + 1) 0 (nI (p / 4)) (nI m) (nI m) M = some M := fun n m M hm => by
      rw [f_X4_supposes_126, if_pos ((i_le_n (by omega) (by omega)).mpr (Nat.le_refl _))]
    have hA := RM_sI (s := 14) (i := 25 * (p / 4) + x) (v := 1) y2 (by omega)
    rw [w14_up] at hA
    have gA := GF_up (v := 1) gF hs0 (show x < 25 by omega) a3 (by omega)
    have fA : ∀ s i k, s ≠ 14 → mI (sI M2 14 0 (25 * (p / 4) + x) (nI 1)) s i k = mI R s i k := fun s i k hs => by
      rw [rd_I, if_neg (fun w => hs w.1)]; exact fr s i k hs
    have l3 : (3 : Int32) ≤ nI (rng S (p / 4)) ↔ 3 ≤ rng S (p / 4) := nI_leI (a := 3) (by omega) (by omega)
    by_cases m1 : rng S (p / 4) = 1
    · rw [if_neg (fun w => by have := l3.mp w; omega), m1]
      refine ⟨_, _, (st 999 1 0 M2 F x (by omega) (by omega) y2 f32.1 (by omega)).trans (en 998 1 _ (by omega)), hA, ⟨fun i hi => ?_, gA, fun _ n n1 n2 => ?_, fun w => absurd w q⟩, fA⟩
      · show (if i = 25 * (p / 4) + x then 1 else F i) = _
        rw [if_neg (by omega)]; exact Fhi i hi
      · show (if 25 * (p / 4) + n = 25 * (p / 4) + x then 1 else F (25 * (p / 4) + n)) = _
        unfold pos
        by_cases e : n = x
        · rw [if_pos (by omega), if_pos e]
        · rw [if_neg (by omega), if_neg e, m1, if_neg (by omega), if_neg (by omega)]; exact F0 n n1 n2
    · obtain ⟨⟨d1, d2, d3⟩, d4⟩ := c2 (by omega)
      have hB := RM_sI (s := 14) (i := 25 * (p / 4) + y) (v := 2) hA (by omega)
      rw [w14_up] at hB
      have gB := GF_up (v := 2) gA hs0 (show y < 25 by omega) d3 (by omega)
      have fB : ∀ s i k, s ≠ 14 → mI (sI (sI M2 14 0 (25 * (p / 4) + x) (nI 1)) 14 0 (25 * (p / 4) + y) (nI 2)) s i k = mI R s i k := fun s i k hs => by
        rw [rd_I, if_neg (fun w => hs w.1)]; exact fA s i k hs
      by_cases m2 : rng S (p / 4) = 2
      · rw [if_neg (fun w => by have := l3.mp w; omega), m2]
        refine ⟨_, _, (st 999 2 0 M2 F x (by omega) (by omega) y2 f32.1 (by omega)).trans ((st 998 2 1 _ _ y (by omega) (by omega) hA ((fA 32 0 1 (by omega)).trans hn.2.1) (by omega)).trans (en 997 2 _ (by omega))), hB, ⟨fun i hi => ?_, gB, fun _ n n1 n2 => ?_, fun w => absurd w q⟩, fB⟩
        · show (if i = 25 * (p / 4) + y then 2 else (if i = 25 * (p / 4) + x then 1 else F i)) = _
          rw [if_neg (by omega), if_neg (by omega)]; exact Fhi i hi
        · show (if 25 * (p / 4) + n = 25 * (p / 4) + y then 2 else (if 25 * (p / 4) + n = 25 * (p / 4) + x then 1 else F (25 * (p / 4) + n))) = _
          unfold pos
          by_cases e2 : n = y
          · rw [if_pos (by omega), if_neg (by omega), if_pos (by omega)]
          · rw [if_neg (by omega)]
            by_cases e : n = x
            · rw [if_pos (by omega), if_pos e]
            · rw [if_neg (by omega), if_neg e, m2, if_neg (by omega), if_neg (by omega)]; exact F0 n n1 n2
      · obtain ⟨⟨u1, u2, u3⟩, u4, u5⟩ := c3 (by omega)
        have hCc := RM_sI (s := 14) (i := 25 * (p / 4) + z) (v := 3) hB (by omega)
        rw [w14_up] at hCc
        have gC := GF_up (v := 3) gB hs0 (show z < 25 by omega) u3 (by omega)
        have fC : ∀ s i k, s ≠ 14 → mI (sI (sI (sI M2 14 0 (25 * (p / 4) + x) (nI 1)) 14 0 (25 * (p / 4) + y) (nI 2)) 14 0 (25 * (p / 4) + z) (nI 3)) s i k = mI R s i k := fun s i k hs => by
          rw [rd_I, if_neg (fun w => hs w.1)]; exact fB s i k hs
        rw [if_pos (l3.mpr (by omega))]
        refine ⟨_, _, (st 999 3 0 M2 F x (by omega) (by omega) y2 f32.1 (by omega)).trans ((st 998 3 1 _ _ y (by omega) (by omega) hA ((fA 32 0 1 (by omega)).trans hn.2.1) (by omega)).trans ((st 997 3 2 _ _ z (by omega) (by omega) hB ((fB 32 0 2 (by omega)).trans hn.2.2) (by omega)).trans (en 996 3 _ (by omega)))), hCc, ⟨fun i hi => ?_, gC, fun _ n n1 n2 => ?_, fun w => absurd w q⟩, fC⟩
        · show (if i = 25 * (p / 4) + z then 3 else (if i = 25 * (p / 4) + y then 2 else (if i = 25 * (p / 4) + x then 1 else F i))) = _
          rw [if_neg (by omega), if_neg (by omega), if_neg (by omega)]; exact Fhi i hi
        · show (if 25 * (p / 4) + n = 25 * (p / 4) + z then 3 else (if 25 * (p / 4) + n = 25 * (p / 4) + y then 2 else (if 25 * (p / 4) + n = 25 * (p / 4) + x then 1 else F (25 * (p / 4) + n)))) = _
          unfold pos
          by_cases e3 : n = z
          · rw [if_pos (by omega), if_neg (by omega), if_neg (by omega), if_pos (by omega)]
          · rw [if_neg (by omega)]
            by_cases e2 : n = y
            · rw [if_pos (by omega), if_neg (by omega), if_pos (by omega)]
            · rw [if_neg (by omega)]
              by_cases e : n = x
              · rw [if_pos (by omega), if_pos e]
              · rw [if_neg (by omega), if_neg e, if_neg (by omega), if_neg (by omega)]; exact F0 n n1 n2
