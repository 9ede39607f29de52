/-! ===== STAGE B, base: evaluating the pure functions; numbers ===== -/
theorem ob_s {α β : Type} (v : α) (k : α → Option β) : ob (some v) k = k v := rfl
theorem ob_no {α β : Type} (k : α → Option β) : ob (none : Option α) k = none := rfl
theorem lt_e {α β : Type} (v : α) (k : α → Option β) : lt v k = k v := rfl
theorem on_n {α β : Type} (a : β) (k : α → β) : on (none : Option α) a k = a := rfl
theorem on_s {α β : Type} (i : α) (a : β) (k : α → β) : on (some i) a k = k i := rfl
theorem nw_f {β : Type} {b : Bool} {K : Option β} (h : b = false) : nw b K = K := by subst h; rfl
theorem ix_v {β : Type} {x : Int32} {n : Nat} {K : Option β} (h : vp_in x n) : ix x n K = K := if_neg h
theorem ix_n {β : Type} {k n : Nat} {K : Option β} (h : k < n) (hn : n < 2 ^ 31) : ix (nI k) n K = K := ix_v (vp_in_nI h hn)
theorem ix_52 {β : Type} {K : Option β} : ix (52 : Int32) 53 K = K := ix_n (k := 52) (by omega) (by omega)
theorem cl_52 : (52 : Int32).toNatClampNeg = 52 := rfl
theorem dv_4 {β : Type} {K : Option β} : dv (4 : Int32) K = K := if_neg (by decide)
theorem dv_10 {β : Type} {K : Option β} : dv (10 : Int32) K = K := if_neg (by decide)
theorem dvl_10 {β : Type} {K : Option β} : dvl (10 : Int64) K = K := if_neg (by decide)
theorem dvl_1000 {β : Type} {K : Option β} : dvl (1000 : Int64) K = K := if_neg (by decide)
theorem zb_0 {β : Type} {K : Option β} : zb (0 : Int32) K = K := if_pos (Or.inl rfl)
theorem zb_1 {β : Type} {K : Option β} : zb (1 : Int32) K = K := if_pos (Or.inr rfl)
/-- one or nought -/
def b1 (P : Prop) [Decidable P] : Int32 := if P then 1 else 0
theorem b1_t {P : Prop} [Decidable P] (h : P) : b1 P = 1 := if_pos h
theorem b1_f {P : Prop} [Decidable P] (h : ¬ P) : b1 P = 0 := if_neg h
theorem zb_b {β : Type} {P : Prop} [Decidable P] {K : Option β} : zb (b1 P) K = K := by
  by_cases h : P
  · rw [b1_t h, zb_1]
  · rw [b1_f h, zb_0]
theorem b1_0 {P : Prop} [Decidable P] : (b1 P = 0) ↔ ¬ P := by
  by_cases h : P
  · rw [b1_t h]; exact ⟨fun z => absurd z (by decide), fun z => absurd h z⟩
  · rw [b1_f h]; exact ⟨fun _ => h, fun _ => rfl⟩
theorem b1_if {α : Type} {P : Prop} [Decidable P] {a b : α} : (if b1 P = 0 then a else b) = if P then b else a := by
  by_cases h : P
  · rw [if_pos h, if_neg (by rw [b1_0]; exact fun z => z h)]
  · rw [if_neg h, if_pos (b1_0.mpr h)]
theorem b1_congr {P Q : Prop} [Decidable P] [Decidable Q] (h : P ↔ Q) : b1 P = b1 Q := by
  by_cases hp : P
  · rw [b1_t hp, b1_t (h.mp hp)]
  · rw [b1_f hp, b1_f (fun q => hp (h.mpr q))]
theorem i_lt {x y : Int32} : x < y ↔ x.toInt < y.toInt := Int32.lt_iff_toInt_lt
theorem i_le {x y : Int32} : x ≤ y ↔ x.toInt ≤ y.toInt := Int32.le_iff_toInt_le
theorem i_eq {x y : Int32} : x = y ↔ x.toInt = y.toInt := ⟨fun h => by rw [h], fun h => Int32.toInt_inj.mp h⟩
theorem nI_cl {n : Nat} (h : n < 2 ^ 31) : (nI n).toNatClampNeg = n := nI_clamp h
theorem i_of {x : Int32} (h : 0 ≤ x.toInt) : x = nI x.toNatClampNeg ∧ (x.toNatClampNeg : Int) = x.toInt := by
  obtain ⟨j, hj, rfl⟩ := nI_of (x := x) (by rw [i_lt]; show ¬ x.toInt < 0; omega)
  rw [nI_cl hj]
  exact ⟨rfl, (nI_toInt hj).symm⟩
theorem m_in (v lo hi : Int32) (R : Mm) : f_X4_in v lo hi R = some (b1 (lo.toInt ≤ v.toInt ∧ v.toInt ≤ hi.toInt)) := by
  unfold f_X4_in
  simp only [i_lt]
  by_cases h1 : v.toInt < lo.toInt
  · rw [if_pos h1, b1_f (by omega)]
  · rw [if_neg h1]
    by_cases h2 : hi.toInt < v.toInt
    · rw [if_pos h2, b1_f (by omega)]
    · rw [if_neg h2, b1_t (by omega)]
/-! ===== the day in plain numbers: S sort place ===== -/
abbrev SV : Type := Nat → Nat → Nat
def up (S : SV) (s i v : Nat) : SV := fun s' i' => if s' = s ∧ i' = i then v else S s' i'
def sm : Nat → (Nat → Nat) → Nat
  | 0, _ => 0
  | n + 1, f => sm n f + f n
theorem up_s {S : SV} {s i v : Nat} : up S s i v s i = v := if_pos ⟨rfl, rfl⟩
theorem up_n {S : SV} {s i v s' i' : Nat} (h : ¬ (s' = s ∧ i' = i)) : up S s i v s' i' = S s' i' := if_neg h
theorem sm_congr {n : Nat} {f g : Nat → Nat} (h : ∀ i, i < n → f i = g i) : sm n f = sm n g := by
  induction n with
  | zero => rfl
  | succ n ih => simp only [sm]; rw [ih (fun i hi => h i (by omega)), h n (by omega)]
theorem sm_le {n : Nat} {f g : Nat → Nat} (h : ∀ i, i < n → f i ≤ g i) : sm n f ≤ sm n g := by
  induction n with
  | zero => exact Nat.le_refl _
  | succ n ih => simp only [sm]; exact Nat.add_le_add (ih (fun i hi => h i (by omega))) (h n (by omega))
theorem sm_const {n c : Nat} : sm n (fun _ => c) = n * c := by
  induction n with
  | zero => simp [sm]
  | succ n ih => simp only [sm]; rw [ih, Nat.succ_mul]
theorem sm_bound {n c : Nat} {f : Nat → Nat} (h : ∀ i, i < n → f i ≤ c) : sm n f ≤ n * c := by
  rw [← sm_const]; exact sm_le h
theorem sm_mul {n c : Nat} {f : Nat → Nat} : sm n (fun i => f i * c) = sm n f * c := by
  induction n with
  | zero => simp [sm]
  | succ n ih => simp only [sm]; rw [ih, Nat.add_mul]
theorem sm_add {n : Nat} {f g : Nat → Nat} : sm n (fun i => f i + g i) = sm n f + sm n g := by
  induction n with
  | zero => rfl
  | succ n ih => simp only [sm]; rw [ih]; omega
theorem sm_zero {n : Nat} {f : Nat → Nat} (h : ∀ i, i < n → f i = 0) : sm n f = 0 := by
  induction n with
  | zero => rfl
  | succ n ih => simp only [sm]; rw [ih (fun i hi => h i (by omega)), h n (by omega)]
theorem sm_pos {n : Nat} {f : Nat → Nat} (h : 0 < sm n f) : ∃ i, i < n ∧ 0 < f i := by
  induction n with
  | zero => simp [sm] at h
  | succ n ih =>
    simp only [sm] at h
    by_cases h0 : 0 < f n
    · exact ⟨n, by omega, h0⟩
    · obtain ⟨i, hi, hf⟩ := ih (by omega)
      exact ⟨i, by omega, hf⟩
theorem sm_ge {n i : Nat} {f : Nat → Nat} (h : i < n) : f i ≤ sm n f := by
  induction n with
  | zero => omega
  | succ n ih =>
    simp only [sm]
    by_cases hi : i = n
    · subst hi; omega
    · have := ih (by omega); omega
theorem sm_mono {n m : Nat} {f : Nat → Nat} (h : n ≤ m) : sm n f ≤ sm m f := by
  induction m with
  | zero => have : n = 0 := by omega
            subst this; exact Nat.le_refl _
  | succ m ih =>
    by_cases hm : n = m + 1
    · subst hm; exact Nat.le_refl _
    · have := ih (by omega); simp only [sm]; omega
/-- of what kind a pool is; how many a ticket of it names; the race of each -/
def kd (p : Nat) : Nat := if p = 52 then 4 else p % 4
def mny (p : Nat) : Nat := if kd p < 2 then 1 else if kd p = 3 then 3 else 2
def ro (S : SV) (p k : Nat) : Nat := if p = 52 then (if k = 0 then S 0 17 else S 0 18) else p / 4
/-- a race that was told; a pool that is there: by what a call names -/
def rOf (S : SV) (v : Int32) : Option Nat := if 1 ≤ v.toInt ∧ v.toInt ≤ 12 ∧ S 10 v.toNatClampNeg ≠ 0 then some v.toNatClampNeg else none
def pOf (S : SV) (v w : Int32) : Option Nat := if w = 4 then (if S 15 52 = 0 then none else some 52) else match rOf S v with
  | none => none
  | some r => if 0 ≤ w.toInt ∧ w.toInt ≤ 3 ∧ S 15 (4 * r + w.toNatClampNeg) ≠ 0 then some (4 * r + w.toNatClampNeg) else none
theorem rOf_s {S : SV} {v : Int32} {r : Nat} (h : rOf S v = some r) : v = nI r ∧ 1 ≤ r ∧ r ≤ 12 ∧ S 10 r ≠ 0 := by
  unfold rOf at h
  split at h
  · rename_i hc
    cases h
    obtain ⟨e1, e2⟩ := i_of (x := v) (by omega)
    exact ⟨e1, by omega, by omega, hc.2.2⟩
  · cases h
/-- the model's memory, in plain numbers -/
def RM (S : SV) (R : Mm) : Prop :=
  (∀ k, k ≤ 16 ∨ (20 ≤ k ∧ k ≤ 24) ∨ k = 27 ∨ k = 31 → mR R 0 0 k = some 0) ∧
  (∀ s i, (10 ≤ s ∧ s ≤ 18) ∨ (26 ≤ s ∧ s ≤ 30) → mI R s 0 i = nI (S s i)) ∧
  (∀ s i, (19 ≤ s ∧ s ≤ 25) ∨ s = 31 → mJ R s 0 i = lN (S s i)) ∧
  (mI R 0 0 17 = nI (S 0 17) ∧ mI R 0 0 18 = nI (S 0 18) ∧ mI R 0 0 19 = nI (S 0 19) ∧ mJ R 0 0 25 = lN (S 0 25) ∧ mJ R 0 0 26 = lN (S 0 26))
theorem RM_ref {S : SV} {R : Mm} (h : RM S R) (k : Nat) (hk : k ≤ 16 ∨ (20 ≤ k ∧ k ≤ 24) ∨ k = 27 ∨ k = 31 := by omega) : mR R 0 0 k = some 0 := h.1 k hk
theorem RM_I {S : SV} {R : Mm} (h : RM S R) (s i : Nat) (hs : (10 ≤ s ∧ s ≤ 18) ∨ (26 ≤ s ∧ s ≤ 30) := by omega) : mI R s 0 i = nI (S s i) := h.2.1 s i hs
theorem RM_J {S : SV} {R : Mm} (h : RM S R) (s i : Nat) (hs : (19 ≤ s ∧ s ≤ 25) ∨ s = 31 := by omega) : mJ R s 0 i = lN (S s i) := h.2.2.1 s i hs
theorem RM_17 {S : SV} {R : Mm} (h : RM S R) : mI R 0 0 17 = nI (S 0 17) := h.2.2.2.1
theorem RM_18 {S : SV} {R : Mm} (h : RM S R) : mI R 0 0 18 = nI (S 0 18) := h.2.2.2.2.1
theorem RM_T {S : SV} {R : Mm} (h : RM S R) : mI R 0 0 19 = nI (S 0 19) := h.2.2.2.2.2.1
theorem RM_back {S : SV} {R : Mm} (h : RM S R) : mJ R 0 0 25 = lN (S 0 25) := h.2.2.2.2.2.2.1
theorem RM_end {S : SV} {R : Mm} (h : RM S R) : mJ R 0 0 26 = lN (S 0 26) := h.2.2.2.2.2.2.2
theorem rd_I {M : Mm} {s i k s' i' k' : Nat} {v : Int32} : mI (sI M s i k v) s' i' k' = if s' = s ∧ i' = i ∧ k' = k then v else mI M s' i' k' := rfl
theorem rd_J {M : Mm} {s i k s' i' k' : Nat} {v : Int64} : mJ (sJ M s i k v) s' i' k' = if s' = s ∧ i' = i ∧ k' = k then v else mJ M s' i' k' := rfl
theorem rd_R {M : Mm} {s i k s' i' k' : Nat} {v : Option Nat} : mR (sR M s i k v) s' i' k' = if s' = s ∧ i' = i ∧ k' = k then v else mR M s' i' k' := rfl
theorem rd_JI {M : Mm} {s i k : Nat} {v : Int32} : mJ (sI M s i k v) = mJ M := rfl
theorem rd_RI {M : Mm} {s i k : Nat} {v : Int32} : mR (sI M s i k v) = mR M := rfl
theorem rd_AI {M : Mm} {s i k : Nat} {v : Int32} : mA (sI M s i k v) = mA M := rfl
theorem rd_IJ {M : Mm} {s i k : Nat} {v : Int64} : mI (sJ M s i k v) = mI M := rfl
theorem rd_RJ {M : Mm} {s i k : Nat} {v : Int64} : mR (sJ M s i k v) = mR M := rfl
theorem rd_AJ {M : Mm} {s i k : Nat} {v : Int64} : mA (sJ M s i k v) = mA M := rfl
theorem rd_IR {M : Mm} {s i k : Nat} {v : Option Nat} : mI (sR M s i k v) = mI M := rfl
theorem rd_JR {M : Mm} {s i k : Nat} {v : Option Nat} : mJ (sR M s i k v) = mJ M := rfl
theorem rd_AR {M : Mm} {s i k : Nat} {v : Option Nat} : mA (sR M s i k v) = mA M := rfl
/-- the model's writes -/
theorem RM_sI {S : SV} {R : Mm} (h : RM S R) {s i v : Nat} (hs : (10 ≤ s ∧ s ≤ 18) ∨ (26 ≤ s ∧ s ≤ 30)) : RM (up S s i v) (sI R s 0 i (nI v)) := by
  obtain ⟨h1, h2, h3, h4, h5, h6, h7, h8⟩ := h
  refine ⟨h1, fun s' i' hs' => ?_, fun s' i' hs' => ?_, ?_, ?_, ?_, ?_, ?_⟩
  · rw [rd_I]
    by_cases q : s' = s ∧ i' = i
    · obtain ⟨rfl, rfl⟩ := q
      rw [if_pos ⟨rfl, rfl, rfl⟩, up_s]
    · rw [if_neg (fun z => q ⟨z.1, z.2.2⟩), up_n q]
      exact h2 s' i' hs'
  · rw [rd_JI, up_n (by omega)]; exact h3 s' i' hs'
  · rw [rd_I, if_neg (by omega), up_n (by omega)]; exact h4
  · rw [rd_I, if_neg (by omega), up_n (by omega)]; exact h5
  · rw [rd_I, if_neg (by omega), up_n (by omega)]; exact h6
  · rw [rd_JI, up_n (by omega)]; exact h7
  · rw [rd_JI, up_n (by omega)]; exact h8
theorem RM_sJ {S : SV} {R : Mm} (h : RM S R) {s i v : Nat} (hs : (19 ≤ s ∧ s ≤ 25) ∨ s = 31) : RM (up S s i v) (sJ R s 0 i (lN v)) := by
  obtain ⟨h1, h2, h3, h4, h5, h6, h7, h8⟩ := h
  refine ⟨h1, fun s' i' hs' => ?_, fun s' i' hs' => ?_, ?_, ?_, ?_, ?_, ?_⟩
  · rw [rd_IJ, up_n (by omega)]; exact h2 s' i' hs'
  · rw [rd_J]
    by_cases q : s' = s ∧ i' = i
    · obtain ⟨rfl, rfl⟩ := q
      rw [if_pos ⟨rfl, rfl, rfl⟩, up_s]
    · rw [if_neg (fun z => q ⟨z.1, z.2.2⟩), up_n q]
      exact h3 s' i' hs'
  · rw [rd_IJ, up_n (by omega)]; exact h4
  · rw [rd_IJ, up_n (by omega)]; exact h5
  · rw [rd_IJ, up_n (by omega)]; exact h6
  · rw [rd_J, if_neg (by omega), up_n (by omega)]; exact h7
  · rw [rd_J, if_neg (by omega), up_n (by omega)]; exact h8
theorem RM_s0 {S : SV} {R : Mm} (h : RM S R) {k v : Nat} (hk : k = 17 ∨ k = 18 ∨ k = 19) : RM (up S 0 k v) (sI R 0 0 k (nI v)) := by
  obtain ⟨h1, h2, h3, h4, h5, h6, h7, h8⟩ := h
  refine ⟨h1, fun s' i' hs' => ?_, fun s' i' hs' => ?_, ?_, ?_, ?_, ?_, ?_⟩
  · rw [rd_I, if_neg (by omega), up_n (by omega)]; exact h2 s' i' hs'
  · rw [rd_JI, up_n (by omega)]; exact h3 s' i' hs'
  · rw [rd_I]; by_cases q : k = 17
    · subst q; rw [if_pos ⟨rfl, rfl, rfl⟩, up_s]
    · rw [if_neg (by omega), up_n (by omega)]; exact h4
  · rw [rd_I]; by_cases q : k = 18
    · subst q; rw [if_pos ⟨rfl, rfl, rfl⟩, up_s]
    · rw [if_neg (by omega), up_n (by omega)]; exact h5
  · rw [rd_I]; by_cases q : k = 19
    · subst q; rw [if_pos ⟨rfl, rfl, rfl⟩, up_s]
    · rw [if_neg (by omega), up_n (by omega)]; exact h6
  · rw [rd_JI, up_n (by omega)]; exact h7
  · rw [rd_JI, up_n (by omega)]; exact h8
theorem RM_s0J {S : SV} {R : Mm} (h : RM S R) {k v : Nat} (hk : k = 25 ∨ k = 26) : RM (up S 0 k v) (sJ R 0 0 k (lN v)) := by
  obtain ⟨h1, h2, h3, h4, h5, h6, h7, h8⟩ := h
  refine ⟨h1, fun s' i' hs' => ?_, fun s' i' hs' => ?_, ?_, ?_, ?_, ?_, ?_⟩
  · rw [rd_IJ, up_n (by omega)]; exact h2 s' i' hs'
  · rw [rd_J, if_neg (by omega), up_n (by omega)]; exact h3 s' i' hs'
  · rw [rd_IJ, up_n (by omega)]; exact h4
  · rw [rd_IJ, up_n (by omega)]; exact h5
  · rw [rd_IJ, up_n (by omega)]; exact h6
  · rw [rd_J]; by_cases q : k = 25
    · subst q; rw [if_pos ⟨rfl, rfl, rfl⟩, up_s]
    · rw [if_neg (by omega), up_n (by omega)]; exact h7
  · rw [rd_J]; by_cases q : k = 26
    · subst q; rw [if_pos ⟨rfl, rfl, rfl⟩, up_s]
    · rw [if_neg (by omega), up_n (by omega)]; exact h8
/-- its scratch: what is named, the kept positions, what it reckons -/
theorem RM_scI {S : SV} {R : Mm} (h : RM S R) {s k : Nat} {v : Int32} (hs : s = 32 ∨ s = 33 ∨ (s = 0 ∧ (k = 28 ∨ k = 29))) : RM S (sI R s 0 k v) := by
  obtain ⟨h1, h2, h3, h4, h5, h6, h7, h8⟩ := h
  exact ⟨h1, fun s' i' hs' => by rw [rd_I, if_neg (by omega)]; exact h2 s' i' hs', h3, by rw [rd_I, if_neg (by omega)]; exact h4, by rw [rd_I, if_neg (by omega)]; exact h5, by rw [rd_I, if_neg (by omega)]; exact h6, h7, h8⟩
theorem RM_scJ {S : SV} {R : Mm} (h : RM S R) {v : Int64} : RM S (sJ R 0 0 30 v) := by
  obtain ⟨h1, h2, h3, h4, h5, h6, h7, h8⟩ := h
  exact ⟨h1, h2, fun s' i' hs' => by rw [rd_J, if_neg (by omega)]; exact h3 s' i' hs', h4, h5, h6, by rw [rd_J, if_neg (by omega)]; exact h7, by rw [rd_J, if_neg (by omega)]; exact h8⟩
theorem RM_ext {S S' : SV} {R : Mm} (h : RM S R) (e : ∀ s i, S' s i = S s i) : RM S' R := by
  have : S' = S := by funext s i; exact e s i
  rw [this]; exact h
