/-! ===== A WORLD WITH NAMED CELLS: a cell is (sort, number); what it holds is told by three functions; where it lies by 'ad' ===== -/
abbrev Mm : Type := (Nat → Nat → Nat → Int32) × (Nat → Nat → Nat → Int64) × (Nat → Nat → Nat → Option Nat) × (Nat → Nat → Bool)
def mI (M : Mm) (s i k : Nat) : Int32 := M.1 s i k
def mJ (M : Mm) (s i k : Nat) : Int64 := M.2.1 s i k
def mR (M : Mm) (s i k : Nat) : Option Nat := M.2.2.1 s i k
def mA (M : Mm) (s i : Nat) : Bool := M.2.2.2 s i
def sI (M : Mm) (s i k : Nat) (v : Int32) : Mm := (fun s' i' k' => if s' = s ∧ i' = i ∧ k' = k then v else M.1 s' i' k', M.2)
def sJ (M : Mm) (s i k : Nat) (v : Int64) : Mm := (M.1, fun s' i' k' => if s' = s ∧ i' = i ∧ k' = k then v else M.2.1 s' i' k', M.2.2)
def sR (M : Mm) (s i k : Nat) (v : Option Nat) : Mm := (M.1, M.2.1, fun s' i' k' => if s' = s ∧ i' = i ∧ k' = k then v else M.2.2.1 s' i' k', M.2.2.2)
/-- a new cell: all zero -/
def nA (M : Mm) (s i : Nat) : Mm := (fun s' i' k' => if s' = s ∧ i' = i then 0 else M.1 s' i' k', fun s' i' k' => if s' = s ∧ i' = i then 0 else M.2.1 s' i' k', fun s' i' k' => if s' = s ∧ i' = i then none else M.2.2.1 s' i' k', fun s' i' => if s' = s ∧ i' = i then true else M.2.2.2 s' i')
/-- what is computed: a value or nothing (the machine would throw, or the count of rounds is spent) -/
def ob {α β : Type} (x : Option α) (k : α → Option β) : Option β := x.bind k
def lt {α β : Type} (x : α) (k : α → Option β) : Option β := k x
def ix {β : Type} (x : Int32) (n : Nat) (k : Option β) : Option β := if x < 0 ∨ n ≤ x.toNatClampNeg then none else k
def zb {β : Type} (v : Int32) (k : Option β) : Option β := if v = 0 ∨ v = 1 then k else none
def on {α β : Type} (x : Option α) (a : β) (k : α → β) : β := match x with
  | none => a
  | some i => k i
def dv {β : Type} (y : Int32) (k : Option β) : Option β := if y = 0 then none else k
def dvl {β : Type} (y : Int64) (k : Option β) : Option β := if y = 0 then none else k
def nw {β : Type} (b : Bool) (k : Option β) : Option β := if b = true then none else k
theorem ob_some {α β : Type} {x : Option α} {k : α → Option β} {o : β} (h : ob x k = some o) : ∃ v, x = some v ∧ k v = some o := Option.bind_eq_some_iff.mp h
theorem lt_some {α β : Type} {x : α} {k : α → Option β} {o : β} (h : lt x k = some o) : ∃ v, v = x ∧ k v = some o := ⟨x, rfl, h⟩
theorem ix_some {β : Type} {x : Int32} {n : Nat} {k : Option β} {o : β} (h : ix x n k = some o) : vp_in x n ∧ k = some o := by
  unfold ix at h
  split at h
  · cases h
  · exact ⟨by assumption, h⟩
theorem zb_some {β : Type} {v : Int32} {k : Option β} {o : β} (h : zb v k = some o) : (v = 0 ∨ v = 1) ∧ k = some o := by
  unfold zb at h
  split at h
  · exact ⟨by assumption, h⟩
  · cases h
theorem on_c {α β : Type} {x : Option α} {a o : β} {k : α → β} (h : on x a k = o) : (x = none ∧ a = o) ∨ ∃ i, x = some i ∧ k i = o := by
  cases x with
  | none => exact Or.inl ⟨rfl, h⟩
  | some i => exact Or.inr ⟨i, rfl, h⟩
theorem dv_some {β : Type} {y : Int32} {k : Option β} {o : β} (h : dv y k = some o) : ¬ y = 0 ∧ k = some o := by
  unfold dv at h
  split at h
  · cases h
  · exact ⟨by assumption, h⟩
theorem dvl_some {β : Type} {y : Int64} {k : Option β} {o : β} (h : dvl y k = some o) : ¬ y = 0 ∧ k = some o := by
  unfold dvl at h
  split at h
  · cases h
  · exact ⟨by assumption, h⟩
theorem nw_some {β : Type} {b : Bool} {k : Option β} {o : β} (h : nw b k = some o) : b = false ∧ k = some o := by
  unfold nw at h
  cases b
  · exact ⟨rfl, h⟩
  · cases h
theorem if_t {α : Type} {c : Prop} [Decidable c] {a b o : α} (h : (if c then a else b) = o) (hc : c) : a = o := by rwa [if_pos hc] at h
theorem if_f {α : Type} {c : Prop} [Decidable c] {a b o : α} (h : (if c then a else b) = o) (hc : ¬ c) : b = o := by rwa [if_neg hc] at h
/-- the sorts: 0 the model; 1 the house; 2 its races; 3 its tickets; 4 a race; 5 its positions; 6 its pools; 7 a pool; 8 a ticket; 10 .. 33 the model's arrays. Codes of what a place holds: 0 an int, 1 a long, 2 + s a reference to the sort s -/
def ds : Nat → (Nat × List Nat) ⊕ (Nat × Nat × Nat)
  | 0 => .inl (4, [12, 13, 14, 15, 16, 17, 18, 19, 20, 21, 22, 23, 24, 25, 26, 27, 28, 0, 0, 0, 29, 30, 31, 32, 33, 1, 1, 34, 0, 0, 1, 35])
  | 1 => .inl (3, [4, 5, 0, 9, 1])
  | 2 => .inr (3, 13, 6)
  | 3 => .inr (4, 600, 10)
  | 4 => .inl (1, [0, 0, 7, 8, 0, 0, 0])
  | 5 => .inr (0, 25, 0)
  | 6 => .inr (5, 4, 9)
  | 7 => .inl (0, [0, 6, 6, 0, 0, 10, 0, 0, 1, 1, 1, 1, 1, 1, 1, 1, 1])
  | 8 => .inl (2, [9, 10, 0, 0, 0, 0, 0])
  | 10 => .inr (0, 13, 0)
  | 11 => .inr (0, 13, 0)
  | 12 => .inr (0, 13, 0)
  | 13 => .inr (2, 325, 0)
  | 14 => .inr (0, 325, 0)
  | 15 => .inr (2, 53, 0)
  | 16 => .inr (0, 53, 0)
  | 17 => .inr (0, 53, 0)
  | 18 => .inr (0, 53, 0)
  | 19 => .inr (1, 53, 1)
  | 20 => .inr (1, 53, 1)
  | 21 => .inr (1, 53, 1)
  | 22 => .inr (1, 53, 1)
  | 23 => .inr (1, 53, 1)
  | 24 => .inr (1, 53, 1)
  | 25 => .inr (1, 53, 1)
  | 26 => .inr (0, 53, 0)
  | 27 => .inr (0, 600, 0)
  | 28 => .inr (0, 1800, 0)
  | 29 => .inr (0, 600, 0)
  | 30 => .inr (0, 600, 0)
  | 31 => .inr (1, 600, 1)
  | 32 => .inr (0, 3, 0)
  | 33 => .inr (0, 325, 0)
  | _ => .inr (0, 0, 0)
def rso (s k : Nat) : Nat := match ds s with
  | .inl (_, cs) => cs.getD k 0 - 2
  | .inr (_, _, ec) => ec - 2
def slV (ad : Nat → Nat → Nat) (M : Mm) (s i k c : Nat) : Value := if c = 0 then .int (mI M s i k) else if c = 1 then .long (mJ M s i k) else va_rf ((mR M s i k).map (ad (c - 2)))
def obV (ad : Nat → Nat → Nat) (M : Mm) (s i : Nat) (cs : List Nat) : List Value := cs.mapIdx (fun k c => slV ad M s i k c)
def arV (ad : Nat → Nat → Nat) (M : Mm) (s i n c : Nat) : vp_A := (n, if c = 0 then .inl (fun k => mI M s i k) else if c = 1 then .inr (.inl (fun k => mJ M s i k)) else .inr (.inr (.inr (.inr (fun k => (mR M s i k).map (ad (c - 2)))))))
def ceE (cy : Nat → ClassId) (ad : Nat → Nat → Nat) (M : Mm) (s i : Nat) : va_E := match ds s with
  | .inl (ci, cs) => .inr (ci, obV ad M s i cs)
  | .inr (an, n, c) => .inl (cy an, arV ad M s i n c)
def WFm (M : Mm) : Prop := ∀ s i k j : Nat, mA M s i = true → mR M s i k = some j → mA M (rso s k) j = true
def HP (D : va_G) (cy : Nat → ClassId) (A : Nat → Prop) (ad : Nat → Nat → Nat) (M : Mm) (H : Heap) : Prop :=
  (∀ s i : Nat, mA M s i = true → va_at D vwCl (ad s i, ceE cy ad M s i) H) ∧ (∀ s i s' i' : Nat, mA M s i = true → mA M s' i' = true → ad s i = ad s' i' → s = s' ∧ i = i') ∧ WFm M ∧ ∀ s i : Nat, mA M s i = true → A (ad s i)
def AA (ad : Nat → Nat → Nat) (M : Mm) (sz : Nat) : Nat → Prop := fun q => (∃ s i : Nat, mA M s i = true ∧ ad s i = q) ∨ sz ≤ q
def tysOf (cy : Nat → ClassId) : List (ClassId × FieldType) := [(cy 0, .int), (cy 1, .long), (cy 2, .boolean), (cy 3, .object RX1), (cy 4, .object RX2), (cy 5, .object RX0)]
theorem ceE_ob {cy : Nat → ClassId} {ad : Nat → Nat → Nat} {M : Mm} {s i ci : Nat} {cs : List Nat} (h : ds s = .inl (ci, cs)) : ceE cy ad M s i = .inr (ci, obV ad M s i cs) := by unfold ceE; rw [h]
theorem ceE_ar {cy : Nat → ClassId} {ad : Nat → Nat → Nat} {M : Mm} {s i an n c : Nat} (h : ds s = .inr (an, n, c)) : ceE cy ad M s i = .inl (cy an, arV ad M s i n c) := by unfold ceE; rw [h]
theorem obV_at {ad : Nat → Nat → Nat} {M : Mm} {s i k c : Nat} {cs : List Nat} (h : cs[k]? = some c) : (obV ad M s i cs)[k]? = some (slV ad M s i k c) := by simp [obV, h]
theorem obV_len {ad : Nat → Nat → Nat} {M : Mm} {s i : Nat} {cs : List Nat} : (obV ad M s i cs).length = cs.length := by simp [obV]
/-- what a write must do -/
def WrO (cy : Nat → ClassId) (ad : Nat → Nat → Nat) (M M' : Mm) (s i : Nat) : Prop := (∀ s' i' : Nat, ¬ (s' = s ∧ i' = i) → ceE cy ad M' s' i' = ceE cy ad M s' i') ∧ (∀ s' i' : Nat, mA M' s' i' = mA M s' i') ∧ (WFm M → WFm M')
theorem ceE_congr {cy : Nat → ClassId} {ad : Nat → Nat → Nat} {M M' : Mm} {s i : Nat} (h1 : ∀ k, mI M' s i k = mI M s i k) (h2 : ∀ k, mJ M' s i k = mJ M s i k) (h3 : ∀ k, mR M' s i k = mR M s i k) : ceE cy ad M' s i = ceE cy ad M s i := by
  unfold ceE
  cases ds s with
  | inl x =>
    obtain ⟨ci, cs⟩ := x
    simp only [obV]
    congr 3
    funext k c
    simp [slV, h1, h2, h3]
  | inr x =>
    obtain ⟨an, n, c⟩ := x
    simp only [arV, h1, h2, h3]
theorem wrI {cy : Nat → ClassId} {ad : Nat → Nat → Nat} (M : Mm) (s i k : Nat) (v : Int32) : WrO cy ad M (sI M s i k v) s i := by
  refine ⟨fun s' i' h => ceE_congr (fun k' => ?_) (fun _ => rfl) (fun _ => rfl), fun _ _ => rfl, fun h => h⟩
  show (if s' = s ∧ i' = i ∧ k' = k then v else M.1 s' i' k') = _
  rw [if_neg (fun q => h ⟨q.1, q.2.1⟩)]
  rfl
theorem wrJ {cy : Nat → ClassId} {ad : Nat → Nat → Nat} (M : Mm) (s i k : Nat) (v : Int64) : WrO cy ad M (sJ M s i k v) s i := by
  refine ⟨fun s' i' h => ceE_congr (fun _ => rfl) (fun k' => ?_) (fun _ => rfl), fun _ _ => rfl, fun h => h⟩
  show (if s' = s ∧ i' = i ∧ k' = k then v else M.2.1 s' i' k') = _
  rw [if_neg (fun q => h ⟨q.1, q.2.1⟩)]
  rfl
theorem wrR {cy : Nat → ClassId} {ad : Nat → Nat → Nat} (M : Mm) (s i k : Nat) (v : Option Nat) (hv : ∀ j, v = some j → mA M (rso s k) j = true) : WrO cy ad M (sR M s i k v) s i := by
  refine ⟨fun s' i' h => ceE_congr (fun _ => rfl) (fun _ => rfl) (fun k' => ?_), fun _ _ => rfl, fun h s' i' k' j ha hr => ?_⟩
  · show (if s' = s ∧ i' = i ∧ k' = k then v else M.2.2.1 s' i' k') = _
    rw [if_neg (fun q => h ⟨q.1, q.2.1⟩)]
    rfl
  · have hr' : (if s' = s ∧ i' = i ∧ k' = k then v else M.2.2.1 s' i' k') = some j := hr
    by_cases q : s' = s ∧ i' = i ∧ k' = k
    · rw [if_pos q] at hr'
      obtain ⟨rfl, rfl, rfl⟩ := q
      exact hv j hr'
    · rw [if_neg q] at hr'
      exact h s' i' k' j ha hr'
theorem obI {ad : Nat → Nat → Nat} (M : Mm) {s i k : Nat} {cs : List Nat} (v : Int32) (hc : cs[k]? = some 0) : obV ad (sI M s i k v) s i cs = (obV ad M s i cs).set k (.int v) := by
  apply List.ext_getElem?
  intro j
  rw [List.getElem?_set]
  simp only [obV, List.getElem?_mapIdx, List.length_mapIdx]
  have hl : k < cs.length := (List.getElem?_eq_some_iff.mp hc).1
  by_cases hj : k = j
  · subst hj
    rw [if_pos rfl, if_pos hl, hc]
    simp [slV, mI, sI]
  · rw [if_neg hj]
    congr 1
    funext c
    simp [slV, mI, mJ, mR, sI, Ne.symm hj]
theorem obJ {ad : Nat → Nat → Nat} (M : Mm) {s i k : Nat} {cs : List Nat} (v : Int64) (hc : cs[k]? = some 1) : obV ad (sJ M s i k v) s i cs = (obV ad M s i cs).set k (.long v) := by
  apply List.ext_getElem?
  intro j
  rw [List.getElem?_set]
  simp only [obV, List.getElem?_mapIdx, List.length_mapIdx]
  have hl : k < cs.length := (List.getElem?_eq_some_iff.mp hc).1
  by_cases hj : k = j
  · subst hj
    rw [if_pos rfl, if_pos hl, hc]
    simp [slV, mJ, sJ]
  · rw [if_neg hj]
    congr 1
    funext c
    simp [slV, mI, mJ, mR, sJ, Ne.symm hj]
theorem obR {ad : Nat → Nat → Nat} (M : Mm) {s i k c : Nat} {cs : List Nat} (v : Option Nat) (hc : cs[k]? = some (c + 2)) : obV ad (sR M s i k v) s i cs = (obV ad M s i cs).set k (va_rf (v.map (ad c))) := by
  apply List.ext_getElem?
  intro j
  rw [List.getElem?_set]
  simp only [obV, List.getElem?_mapIdx, List.length_mapIdx]
  have hl : k < cs.length := (List.getElem?_eq_some_iff.mp hc).1
  by_cases hj : k = j
  · subst hj
    rw [if_pos rfl, if_pos hl, hc]
    simp [slV, mR, sR]
  · rw [if_neg hj]
    congr 1
    funext c
    simp [slV, mI, mJ, mR, sR, Ne.symm hj]
theorem hp_wr {D : va_G} {cy : Nat → ClassId} {A : Nat → Prop} {ad : Nat → Nat → Nat} {M M' : Mm} {H H1 : Heap} {s i : Nat} (h : HP D cy A ad M H) (ha : mA M s i = true) (hw : WrO cy ad M M' s i) (he : va_at D vwCl (ad s i, ceE cy ad M' s i) H1) (oq : ∀ q : Nat, q ≠ ad s i → H1[q]? = H[q]?) : HP D cy A ad M' H1 := by
  obtain ⟨h1, h2, h3, h4⟩ := h
  obtain ⟨w1, w2, w3⟩ := hw
  refine ⟨fun s' i' ha' => ?_, fun s1 i1 s2 i2 a1 a2 => h2 s1 i1 s2 i2 (by rw [← w2]; exact a1) (by rw [← w2]; exact a2), w3 h3, fun s' i' ha' => h4 s' i' (by rw [← w2]; exact ha')⟩
  rw [w2] at ha'
  by_cases q : s' = s ∧ i' = i
  · obtain ⟨rfl, rfl⟩ := q
    exact he
  · rw [w1 s' i' q]
    refine (h1 s' i' ha').kept (oq _ (fun z => ?_))
    exact q (h2 s' i' s i ha' ha z)
theorem hp_mono {D : va_G} {cy : Nat → ClassId} {A A' : Nat → Prop} {ad : Nat → Nat → Nat} {M : Mm} {H : Heap} (h : HP D cy A ad M H) (hA : ∀ q, A q → A' q) : HP D cy A' ad M H := ⟨h.1, h.2.1, h.2.2.1, fun s i ha => hA _ (h.2.2.2 s i ha)⟩
theorem hp_self {D : va_G} {cy : Nat → ClassId} {A : Nat → Prop} {ad : Nat → Nat → Nat} {M : Mm} {H : Heap} {sz : Nat} (h : HP D cy A ad M H) : HP D cy (AA ad M sz) ad M H := ⟨h.1, h.2.1, h.2.2.1, fun s i ha => Or.inl ⟨s, i, ha, rfl⟩⟩
theorem hp_lt {D : va_G} {cy : Nat → ClassId} {A : Nat → Prop} {ad : Nat → Nat → Nat} {M : Mm} {H : Heap} (h : HP D cy A ad M H) {s i : Nat} (ha : mA M s i = true) : ad s i < H.size := (h.1 s i ha).lt
theorem hp_wf {D : va_G} {cy : Nat → ClassId} {A : Nat → Prop} {ad : Nat → Nat → Nat} {M : Mm} {H : Heap} (h : HP D cy A ad M H) {s i k j : Nat} (ha : mA M s i = true) (hr : mR M s i k = some j) : mA M (rso s k) j = true := h.2.2.1 s i k j ha hr
theorem hp_inj {D : va_G} {cy : Nat → ClassId} {A : Nat → Prop} {ad : Nat → Nat → Nat} {M : Mm} {H : Heap} (h : HP D cy A ad M H) {s i j : Nat} (hi : mA M s i = true) (hj : mA M s j = true) : (some i).map (ad s) = (some j).map (ad s) ↔ i = j :=
  ⟨fun e => (h.2.1 s i s j hi hj (Option.some.inj e)).2, fun e => by rw [e]⟩
theorem hp_one {D : va_G} {cy : Nat → ClassId} {A : Nat → Prop} {ad : Nat → Nat → Nat} {M : Mm} {H : Heap} (h : HP D cy A ad M H) {s i : Nat} (ha : mA M s i = true) : va_P D vwCl [(ad s i, ceE cy ad M s i)] H := by
  intro k q hk
  cases k with
  | zero => cases hk; exact h.1 s i ha
  | succ k => simp at hk
/-- a world is kept where its cells are -/
theorem hp_kept {D : va_G} {cy : Nat → ClassId} {A : Nat → Prop} {ad : Nat → Nat → Nat} {M : Mm} {H H1 : Heap} (h : HP D cy A ad M H) (hq : ∀ s i, mA M s i = true → H1[ad s i]? = H[ad s i]?) : HP D cy A ad M H1 := ⟨fun s i ha => (h.1 s i ha).kept (hq s i ha), h.2⟩
