/-! ===== NEW CELLS IN A WORLD WITH NAMED CELLS ===== -/
def upA (ad : Nat → Nat → Nat) (s i q : Nat) : Nat → Nat → Nat := fun s' i' => if s' = s ∧ i' = i then q else ad s' i'
def Agr (M : Mm) (ad ad' : Nat → Nat → Nat) : Prop := ∀ s i : Nat, mA M s i = true → ad' s i = ad s i
theorem agr_t {M M' : Mm} {ad ad' ad2 : Nat → Nat → Nat} (h1 : Agr M ad ad') (hk : Keep M M') (h2 : Agr M' ad' ad2) : Agr M ad ad2 := fun s i h => (h2 s i (hk s i h)).trans (h1 s i h)
theorem agr_rf {M : Mm} {ad : Nat → Nat → Nat} : Agr M ad ad := fun _ _ _ => rfl
theorem agr_map {M : Mm} {ad ad' : Nat → Nat → Nat} (h : Agr M ad ad') {s : Nat} {r : Option Nat} (hr : ∀ j : Nat, r = some j → mA M s j = true) : r.map (ad' s) = r.map (ad s) := by
  cases r with
  | none => rfl
  | some j => exact congrArg some (h s j (hr j rfl))
theorem keep_nA {M M' : Mm} {s i : Nat} (e : M' = nA M s i) : Keep M M' := by
  subst e
  intro s' i' h
  show (if s' = s ∧ i' = i then true else M.2.2.2 s' i') = true
  split
  · rfl
  · exact h
theorem nA_at {M M' : Mm} {s i : Nat} (e : M' = nA M s i) : mA M' s i = true := by
  subst e
  show (if s = s ∧ i = i then true else M.2.2.2 s i) = true
  rw [if_pos ⟨rfl, rfl⟩]
theorem ceE_ad {cy : Nat → ClassId} {ad ad' : Nat → Nat → Nat} {M : Mm} {s i : Nat} (h : ∀ k j : Nat, mR M s i k = some j → ad' (rso s k) j = ad (rso s k) j) : ceE cy ad' M s i = ceE cy ad M s i := by
  unfold ceE
  cases hd : ds s with
  | inl x =>
    obtain ⟨ci, cs⟩ := x
    simp only [Sum.inr.injEq, Prod.mk.injEq, true_and]
    apply List.ext_getElem?
    intro k
    simp only [obV, List.getElem?_mapIdx]
    cases hc : cs[k]? with
    | none => rfl
    | some c =>
      simp only [Option.map_some, Option.some.injEq]
      unfold slV
      split
      · rfl
      · split
        · rfl
        · have hr : rso s k = c - 2 := by unfold rso; rw [hd]; simp [List.getD, hc]
          congr 1
          cases hm : mR M s i k with
          | none => rfl
          | some j =>
            have := h k j hm
            rw [hr] at this
            exact congrArg some this
  | inr x =>
    obtain ⟨an, n, c⟩ := x
    simp only [Sum.inl.injEq, Prod.mk.injEq, true_and]
    unfold arV
    simp only [Prod.mk.injEq, true_and]
    split
    · rfl
    · split
      · rfl
      · congr 4
        funext k
        have hr : rso s k = c - 2 := by unfold rso; rw [hd]
        cases hm : mR M s i k with
        | none => rfl
        | some j =>
          have := h k j hm
          rw [hr] at this
          exact congrArg some this
theorem nA_ne {cy : Nat → ClassId} {ad : Nat → Nat → Nat} {M : Mm} {s i s' i' : Nat} (h : ¬ (s' = s ∧ i' = i)) : ceE cy ad (nA M s i) s' i' = ceE cy ad M s' i' :=
  ceE_congr (fun k => by show (if s' = s ∧ i' = i then (0 : Int32) else M.1 s' i' k) = _; rw [if_neg h]; rfl) (fun k => by show (if s' = s ∧ i' = i then (0 : Int64) else M.2.1 s' i' k) = _; rw [if_neg h]; rfl) (fun k => by show (if s' = s ∧ i' = i then (none : Option Nat) else M.2.2.1 s' i' k) = _; rw [if_neg h]; rfl)
theorem hp_born {D : va_G} {cy : Nat → ClassId} {A : Nat → Prop} {ad : Nat → Nat → Nat} {M : Mm} {H H1 : Heap} {s i : Nat} (hP : HP D cy A ad M H) (hf : mA M s i = false) (hA : A H.size) (hn : va_at D vwCl (H.size, ceE cy (upA ad s i H.size) (nA M s i) s i) H1) (ho : ∀ q : Nat, q < H.size → H1[q]? = H[q]?) : HP D cy A (upA ad s i H.size) (nA M s i) H1 ∧ Agr M ad (upA ad s i H.size) := by
  have hne : ∀ s' i' : Nat, mA M s' i' = true → ¬ (s' = s ∧ i' = i) := fun s' i' ha q => by
    obtain ⟨rfl, rfl⟩ := q
    rw [hf] at ha
    cases ha
  have hag : Agr M ad (upA ad s i H.size) := fun s' i' ha => if_neg (hne s' i' ha)
  have hold : ∀ s' i' : Nat, mA (nA M s i) s' i' = true → (s' = s ∧ i' = i) ∨ mA M s' i' = true := fun s' i' ha => by
    have ha' : (if s' = s ∧ i' = i then true else M.2.2.2 s' i') = true := ha
    by_cases q : s' = s ∧ i' = i
    · exact Or.inl q
    · rw [if_neg q] at ha'
      exact Or.inr ha'
  have hself : upA ad s i H.size s i = H.size := if_pos ⟨rfl, rfl⟩
  refine ⟨⟨fun s' i' ha => ?_, fun s1 i1 s2 i2 a1 a2 he => ?_, fun s' i' k j ha hr => ?_, fun s' i' ha => ?_⟩, hag⟩
  · rcases hold s' i' ha with ⟨rfl, rfl⟩ | h
    · rw [hself]
      exact hn
    · rw [hag s' i' h, nA_ne (hne s' i' h), ceE_ad (fun k j hm => hag _ _ (hP.2.2.1 s' i' k j h hm))]
      exact (hP.1 s' i' h).kept (ho _ (hP.1 s' i' h).lt)
  · rcases hold s1 i1 a1 with ⟨rfl, rfl⟩ | h1 <;> rcases hold s2 i2 a2 with ⟨rfl, rfl⟩ | h2
    · exact ⟨rfl, rfl⟩
    · rw [hself, hag s2 i2 h2] at he
      have := hp_lt hP h2
      omega
    · rw [hself, hag s1 i1 h1] at he
      have := hp_lt hP h1
      omega
    · rw [hag s1 i1 h1, hag s2 i2 h2] at he
      exact hP.2.1 s1 i1 s2 i2 h1 h2 he
  · have hr' : (if s' = s ∧ i' = i then none else M.2.2.1 s' i' k) = some j := hr
    by_cases q : s' = s ∧ i' = i
    · rw [if_pos q] at hr'
      cases hr'
    · rw [if_neg q] at hr'
      rcases hold s' i' ha with h | h
      · exact absurd h q
      · exact keep_nA rfl _ _ (hP.2.2.1 s' i' k j h hr')
  · rcases hold s' i' ha with ⟨rfl, rfl⟩ | h
    · rw [hself]
      exact hA
    · rw [hag s' i' h]
      exact hP.2.2.2 s' i' h
def zeV (cs : List Nat) : List Value := cs.map (fun c => if c = 0 then .int 0 else if c = 1 then .long 0 else .null)
theorem obV_nA {ad : Nat → Nat → Nat} {M : Mm} {s i : Nat} {cs : List Nat} : obV ad (nA M s i) s i cs = zeV cs := by
  apply List.ext_getElem?
  intro k
  simp only [obV, zeV, List.getElem?_mapIdx, List.getElem?_map]
  cases cs[k]? with
  | none => rfl
  | some c => simp [slV, mI, mJ, mR, nA, va_rf]
/-- contracts of methods that make cells -/
def POSa (D : va_G) (cy : Nat → ClassId) (ad : Nat → Nat → Nat) (M : Mm) (sz : Nat) (u : Mm × (Nat → Nat → Nat)) (t : State) : Prop := HP D cy (AA ad M sz) u.2 u.1 t.heap ∧ Keep M u.1 ∧ Agr M ad u.2
def QIa (D : va_G) (cy : Nat → ClassId) (ad : Nat → Nat → Nat) (M : Mm) (sz : Nat) (r0 : Int32) (M' : Mm) : Array Value → State → Outcome → State → Prop := va_Qi (fun (r : Int32) (u : Mm × (Nat → Nat → Nat)) => r = r0 ∧ u.1 = M') (POSa D cy ad M sz) (AA ad M sz)
def QVa (D : va_G) (cy : Nat → ClassId) (ad : Nat → Nat → Nat) (M : Mm) (sz : Nat) (M' : Mm) : Array Value → State → Outcome → State → Prop := va_Qv (fun (u : Mm × (Nat → Nat → Nat)) => u.1 = M') (POSa D cy ad M sz) (AA ad M sz)
def QRa (D : va_G) (cy : Nat → ClassId) (ad : Nat → Nat → Nat) (M : Mm) (sz : Nat) (t : Nat) (r0 : Option Nat) (M' : Mm) : Array Value → State → Outcome → State → Prop := va_Qq (fun (r : Option Nat) (u : Mm × (Nat → Nat → Nat)) => r = r0.map (u.2 t) ∧ u.1 = M' ∧ ∀ j : Nat, r0 = some j → mA M' t j = true) (POSa D cy ad M sz) (AA ad M sz)
section HPA
variable {p : Program} {l : Launch} {e : Env} {R : Room} {s : State} {m : MethodId} {args : Array Value} {below : List Frame} {meth : Method} {c : Code} {H : Heap} {locs : List Loc} {cells slots mc ms : Nat} {Q : State → Prop}
variable {cc : ByteArray} {pc : Nat} {ls : Array Slot} {rest st0 : List Value} {a : Array Value} {D : va_G} {cy : Nat → ClassId} {A : Nat → Prop} {ad ad1 : Nat → Nat → Nat} {M M' : Mm} {H0 : Heap} {s0 i : Nat}
theorem hp_new (hx : p.tables.exec = Jvm.exec) (hb : c.code = cc) {own C : String} {T : u_T} {N ci index : Nat} (hts : ∀ w ∈ BW, w.before args s = true) (hin : ∀ w ∈ u_ws C T N, w ∈ BW) (ty : Nat → FieldType) (hty : ∀ k, k < N → parseFieldDescriptor (T k).2.2.1 = some (ty k)) (hown : s.vm.findClass own = some m.cls) (hcl : (Cond.classLink own index C).before args s = true) (hinst : (Cond.instantiable C N).before args s = true) (hini : (Cond.initialized C).before args s = true)
    (hK : va_K D vwCl (tysOf cy) s) (hP : HP D cy A ad M H) (hS : va_S A H0 H locs) (hA : ∀ q, H0.size ≤ q → A q) (hf : mA M s0 i = false) {cs : List Nat} (hds : ds s0 = .inl (ci, cs)) (hc : vwCl[ci]? = some (C, T, N)) (hfs : ∀ j, j < N → defaultValue (ty j) = vp_V (zeV cs) j) (eM : M' = nA M s0 i) (hcells : cells + 1 ≤ R.cells) (hslots : slots + N ≤ R.slots) (hdg : decode cc pc = .ok (.new index, 3))
    (kk : ∀ (ad' : Nat → Nat → Nat) (H1 : Heap), HP D cy A ad' M' H1 → Agr M ad ad' → va_S A H0 H1 locs → W p l e R s m args below meth c H1 locs (cells + 1) (slots + N) Q (F0 m (pc + 3) ls (.ref (ad' s0 i) :: rest))) : W p l e R s m args below meth c H locs cells slots Q (F0 m pc ls rest) := by
  subst eM
  have hKn := hK.1 ci _ hc
  refine W.newcK hx hb hown hcl hinst hini rfl hdg hcells hslots hKn.2.1 rfl fun H1 kC hkC e1 z1 o1 => ?_
  have hn : va_at D vwCl (H.size, ceE cy (upA ad s0 i H.size) (nA M s0 i) s0 i) H1 := by
    rw [ceE_ob hds, obV_nA]
    exact ⟨_, hc, (u_born ty hts hin hKn hkC e1 hty).to hfs⟩
  obtain ⟨g1, g2⟩ := hp_born hP hf (hA _ hS.1) hn o1
  have k2 := kk _ H1 g1 g2 ⟨Nat.le_trans hS.1 (by omega), fun x h1 h2 => (o1 x (Nat.lt_of_lt_of_le h1 hS.1)).trans (hS.2.1 x h1 h2), hS.2.2⟩
  rw [show upA ad s0 i H.size s0 i = H.size from if_pos ⟨rfl, rfl⟩] at k2
  exact k2
theorem hp_newA (hx : p.tables.exec = Jvm.exec) (hb : c.code = cc) {atype : ArrayType} (harr : (Cond.arrayClass (newarray.typeOf atype)).before args s = true) {ty : FieldType} (hty : newarray.typeOf atype = ty) (hnr : ∀ C, ty ≠ .object C) (hK : va_K D vwCl (tysOf cy) s) (hP : HP D cy A ad M H) (hS : va_S A H0 H locs) (hA : ∀ q, H0.size ≤ q → A q) (hf : mA M s0 i = false) {an N' cd : Nat} (hds : ds s0 = .inr (an, N', cd)) (hta : (tysOf cy)[an]? = some (cy an, ty)) (hz : ∀ (cA : ClassId), vp_cell cA (arV (upA ad s0 i H.size) (nA M s0 i) s0 i N' cd) = arrV cA N' (fun _ => defaultValue ty)) (eM : M' = nA M s0 i)
    {n : Int32} (hn : ¬ n < 0) (hN : n.toNatClampNeg = N') (hbytes : N' * componentBytes ty ≤ 536870912) (hcells : cells + 1 ≤ R.cells) (hslots : slots + N' ≤ R.slots) (hdg : decode cc pc = .ok (.newarray atype, 2))
    (kk : ∀ (ad' : Nat → Nat → Nat) (H1 : Heap), HP D cy A ad' M' H1 → Agr M ad ad' → va_S A H0 H1 locs → W p l e R s m args below meth c H1 locs (cells + 1) (slots + N') Q (F0 m (pc + 2) ls (.ref (ad' s0 i) :: rest))) : W p l e R s m args below meth c H locs cells slots Q (F0 m pc ls (.int n :: rest)) := by
  subst eM; subst hty
  refine va_newaK hx hb harr rfl hdg rfl hn hN hbytes hcells hslots rfl fun H1 cA e1 z1 o1 hAr hNm => ?_
  have hcy : cA = cy an := by
    have h2 := (hK.2 an _ hta).2
    unfold va_RA at h2
    split at h2
    · rename_i C heq
      exact absurd heq (hnr C)
    · exact Option.some.inj (hNm.symm.trans h2)
  subst hcy
  have hn' : va_at D vwCl (H.size, ceE cy (upA ad s0 i H.size) (nA M s0 i) s0 i) H1 := by
    rw [ceE_ar hds]
    exact e1.trans (congrArg some (hz _).symm)
  obtain ⟨g1, g2⟩ := hp_born hP hf (hA _ hS.1) hn' o1
  have k2 := kk _ H1 g1 g2 ⟨Nat.le_trans hS.1 (by omega), fun x h1 h2 => (o1 x (Nat.lt_of_lt_of_le h1 hS.1)).trans (hS.2.1 x h1 h2), hS.2.2⟩
  rw [show upA ad s0 i H.size s0 i = H.size from if_pos ⟨rfl, rfl⟩] at k2
  exact k2
theorem arV_z0 {N' : Nat} (cA : ClassId) : vp_cell cA (arV ad1 (nA M s0 i) s0 i N' 0) = arrV cA N' (fun _ => .int 0) := by
  show vp_cell cA (N', .inl _) = _
  rw [vp_cell_i]
  congr 1
  funext k
  simp [mI, nA]
theorem arV_z1 {N' : Nat} (cA : ClassId) : vp_cell cA (arV ad1 (nA M s0 i) s0 i N' 1) = arrV cA N' (fun _ => .long 0) := by
  show vp_cell cA (N', .inr (.inl _)) = _
  rw [vp_cell_l]
  congr 1
  funext k
  simp [mJ, nA]
theorem arV_zr {N' t : Nat} (cA : ClassId) : vp_cell cA (arV ad1 (nA M s0 i) s0 i N' (t + 2)) = arrV cA N' (fun _ => .null) := by
  show vp_cell cA (N', .inr (.inr (.inr (.inr _)))) = _
  rw [vp_cell_q]
  congr 1
  funext k
  simp [mR, nA, va_rf]
theorem hp_newQ (hx : p.tables.exec = Jvm.exec) (hb : c.code = cc) {own C : String} {index : Nat} (hown : s.vm.findClass own = some m.cls) (hcl : (Cond.classLink own index C).before args s = true) (hover : va_AO C s) (hK : va_K D vwCl (tysOf cy) s) (hP : HP D cy A ad M H) (hS : va_S A H0 H locs) (hA : ∀ q, H0.size ≤ q → A q) (hf : mA M s0 i = false) {an N' t : Nat} (hds : ds s0 = .inr (an, N', t + 2)) (hta : (tysOf cy)[an]? = some (cy an, .object C)) (eM : M' = nA M s0 i)
    {n : Int32} (hn : ¬ n < 0) (hN : n.toNatClampNeg = N') (hbytes : N' * 4 ≤ 536870912) (hcells : cells + 1 ≤ R.cells) (hslots : slots + N' ≤ R.slots) (hdg : decode cc pc = .ok (.anewarray index, 3))
    (kk : ∀ (ad' : Nat → Nat → Nat) (H1 : Heap), HP D cy A ad' M' H1 → Agr M ad ad' → va_S A H0 H1 locs → W p l e R s m args below meth c H1 locs (cells + 1) (slots + N') Q (F0 m (pc + 3) ls (.ref (ad' s0 i) :: rest))) : W p l e R s m args below meth c H locs cells slots Q (F0 m pc ls (.int n :: rest)) := by
  subst hN; subst eM
  refine W.anew hx hb hown hcl (va_AO.use hover) rfl hdg rfl hn hbytes hcells hslots fun cA kA comp f1 f2 f3 f4 => ?_
  have hcy : cA = cy an := by
    obtain ⟨kA', comp', -, -, -, h4⟩ := (hK.2 an _ hta).2
    exact Option.some.inj (f1.symm.trans h4)
  subst hcy
  generalize hH1 : H.push ({ cls := cy an, slots := Array.replicate n.toNatClampNeg .null, vm := .none } : Cell) = H1
  have z1 : H1.size = H.size + 1 := by rw [← hH1, Array.size_push]
  have e1 : H1[H.size]? = some (arrV (cy an) n.toNatClampNeg (fun _ => .null)) := by rw [← hH1, Array.getElem?_push_size, ← arrV_new]
  have o1 : ∀ q : Nat, q < H.size → H1[q]? = H[q]? := fun q hq => by rw [← hH1, Array.getElem?_push, if_neg (Nat.ne_of_lt hq)]
  have hn' : va_at D vwCl (H.size, ceE cy (upA ad s0 i H.size) (nA M s0 i) s0 i) H1 := by
    rw [ceE_ar hds]
    exact e1.trans (congrArg some (arV_zr _).symm)
  obtain ⟨g1, g2⟩ := hp_born hP hf (hA _ hS.1) hn' o1
  have k2 := kk _ H1 g1 g2 ⟨Nat.le_trans hS.1 (by omega), fun x h1 h2 => (o1 x (Nat.lt_of_lt_of_le h1 hS.1)).trans (hS.2.1 x h1 h2), hS.2.2⟩
  rw [show upA ad s0 i H.size s0 i = H.size from if_pos ⟨rfl, rfl⟩] at k2
  exact k2
theorem hp_callia {r0 : Int32} (hr : va_Run p l e R s m args below meth c H locs cells slots mc ms (F0 m pc ls st0) rest (QIa D cy ad M H.size r0 M' a) (AA ad M H.size)) (hP : HP D cy A ad M H) (hS : va_S A s.heap H locs) (hA : ∀ q, s.heap.size ≤ q → A q)
    (kk : ∀ (ad' : Nat → Nat → Nat) (H1 : Heap) (locs1 : List Loc), HP D cy A ad' M' H1 → va_S A s.heap H1 locs1 → Keep M M' → Agr M ad ad' → W p l e R s m args below meth c H1 locs1 (cells + mc) (slots + ms) Q (F0 m (pc + 3) ls (.int r0 :: rest))) : W p l e R s m args below meth c H locs cells slots Q (F0 m pc ls st0) := by
  have hsub := AA_sub hP hS hA
  refine va_calli hr hS (fun q _ h => hsub q h) hsub (fun r u t H1 locs1 ht hvm hw hB hz hk hS1 => ?_)
  obtain ⟨u, ad'⟩ := u
  obtain ⟨rfl, rfl⟩ := hw
  obtain ⟨hB1, hB2, hB3⟩ := hB
  rw [ht] at hB1
  exact kk ad' H1 locs1 (hp_mono hB1 hsub) hS1 hB2 hB3
theorem hp_callva (hr : va_Run p l e R s m args below meth c H locs cells slots mc ms (F0 m pc ls st0) rest (QVa D cy ad M H.size M' a) (AA ad M H.size)) (hP : HP D cy A ad M H) (hS : va_S A s.heap H locs) (hA : ∀ q, s.heap.size ≤ q → A q)
    (kk : ∀ (ad' : Nat → Nat → Nat) (H1 : Heap) (locs1 : List Loc), HP D cy A ad' M' H1 → va_S A s.heap H1 locs1 → Keep M M' → Agr M ad ad' → W p l e R s m args below meth c H1 locs1 (cells + mc) (slots + ms) Q (F0 m (pc + 3) ls rest)) : W p l e R s m args below meth c H locs cells slots Q (F0 m pc ls st0) := by
  have hsub := AA_sub hP hS hA
  refine va_callv hr hS (fun q _ h => hsub q h) hsub (fun u t H1 locs1 ht hvm hw hB hz hk hS1 => ?_)
  obtain ⟨u, ad'⟩ := u
  subst hw
  obtain ⟨hB1, hB2, hB3⟩ := hB
  rw [ht] at hB1
  exact kk ad' H1 locs1 (hp_mono hB1 hsub) hS1 hB2 hB3
theorem hp_callqa {t0 : Nat} {r0 : Option Nat} (hr : va_Run p l e R s m args below meth c H locs cells slots mc ms (F0 m pc ls st0) rest (QRa D cy ad M H.size t0 r0 M' a) (AA ad M H.size)) (hP : HP D cy A ad M H) (hS : va_S A s.heap H locs) (hA : ∀ q, s.heap.size ≤ q → A q)
    (kk : ∀ (ad' : Nat → Nat → Nat) (H1 : Heap) (locs1 : List Loc), HP D cy A ad' M' H1 → va_S A s.heap H1 locs1 → Keep M M' → Agr M ad ad' → (∀ j : Nat, r0 = some j → mA M' t0 j = true) → W p l e R s m args below meth c H1 locs1 (cells + mc) (slots + ms) Q (F0 m (pc + 3) ls (va_rf (r0.map (ad' t0)) :: rest))) : W p l e R s m args below meth c H locs cells slots Q (F0 m pc ls st0) := by
  have hsub := AA_sub hP hS hA
  refine va_callq hr hS (fun q _ h => hsub q h) hsub (fun r u t H1 locs1 ht hvm hw hB hz hk hS1 => ?_)
  obtain ⟨u, ad'⟩ := u
  obtain ⟨rfl, rfl, hal⟩ := hw
  obtain ⟨hB1, hB2, hB3⟩ := hB
  rw [ht] at hB1
  exact kk ad' H1 locs1 (hp_mono hB1 hsub) hS1 hB2 hB3 hal
theorem hp_ireta {M0 : Mm} {r0 v : Int32} (hx : p.tables.exec = Jvm.exec) (hb : c.code = cc) (hr : meth.sig.returnType = some .int) (hlocks : meth.locks = false) (hv : v = r0) (hM : M = M') (hP : HP D cy (AA ad M0 s.heap.size) ad1 M H) (hS : va_S (AA ad M0 s.heap.size) s.heap H locs) (hk : Keep M0 M) (hg : Agr M0 ad ad1) (hdg : decode cc pc = .ok (.ireturn, 1)) : W p l e R s m args below meth c H locs cells slots (MQ below (QIa D cy ad M0 s.heap.size r0 M') args s cells slots (AA ad M0 s.heap.size)) (F0 m pc ls [.int v]) := by
  subst hv; subst hM
  exact W.iret hx hb hr (fun t ht _ => ⟨⟨_, (M, ad1), rfl, ⟨rfl, rfl⟩, by rw [ht]; exact hP, hk, hg⟩, hS.F ht⟩) hS.2.2 hdg hlocks
theorem hp_zreta {M0 : Mm} {r0 v : Int32} (hx : p.tables.exec = Jvm.exec) (hb : c.code = cc) (hr : meth.sig.returnType = some .boolean) (hlocks : meth.locks = false) (hz : v = 0 ∨ v = 1) (hv : v = r0) (hM : M = M') (hP : HP D cy (AA ad M0 s.heap.size) ad1 M H) (hS : va_S (AA ad M0 s.heap.size) s.heap H locs) (hk : Keep M0 M) (hg : Agr M0 ad ad1) (hdg : decode cc pc = .ok (.ireturn, 1)) : W p l e R s m args below meth c H locs cells slots (MQ below (QIa D cy ad M0 s.heap.size r0 M') args s cells slots (AA ad M0 s.heap.size)) (F0 m pc ls [.int v]) := by
  subst hv; subst hM
  have hn : narrow .boolean (.int v) = .int v := by rcases hz with rfl | rfl <;> rfl
  exact W.zret hx hb hr hn (fun t ht _ => ⟨⟨_, (M, ad1), rfl, ⟨rfl, rfl⟩, by rw [ht]; exact hP, hk, hg⟩, hS.F ht⟩) hS.2.2 hdg hlocks
theorem hp_vreta {M0 : Mm} (hx : p.tables.exec = Jvm.exec) (hb : c.code = cc) (hr : meth.sig.returnType = none) (hlocks : meth.locks = false) (hM : M = M') (hP : HP D cy (AA ad M0 s.heap.size) ad1 M H) (hS : va_S (AA ad M0 s.heap.size) s.heap H locs) (hk : Keep M0 M) (hg : Agr M0 ad ad1) (hdg : decode cc pc = .ok (.return_, 1)) : W p l e R s m args below meth c H locs cells slots (MQ below (QVa D cy ad M0 s.heap.size M') args s cells slots (AA ad M0 s.heap.size)) (F0 m pc ls []) := by
  subst hM
  exact W.vret hx hb hr (fun t ht _ => ⟨⟨(M, ad1), rfl, rfl, by rw [ht]; exact hP, hk, hg⟩, hS.F ht⟩) hS.2.2 hdg hlocks
theorem hp_areta {M0 : Mm} {C : String} {t0 : Nat} {r0 v : Option Nat} (hx : p.tables.exec = Jvm.exec) (hb : c.code = cc) (hr : meth.sig.returnType = some (.object C)) (hlocks : meth.locks = false) (hal : ∀ j : Nat, v = some j → mA M t0 j = true) (hv : v = r0) (hM : M = M') (hP : HP D cy (AA ad M0 s.heap.size) ad1 M H) (hS : va_S (AA ad M0 s.heap.size) s.heap H locs) (hk : Keep M0 M) (hg : Agr M0 ad ad1) (hdg : decode cc pc = .ok (.areturn, 1)) : W p l e R s m args below meth c H locs cells slots (MQ below (QRa D cy ad M0 s.heap.size t0 r0 M') args s cells slots (AA ad M0 s.heap.size)) (F0 m pc ls [va_rf (v.map (ad1 t0))]) := by
  subst hv; subst hM
  have hz : va_rf (v.map (ad1 t0)) = .null ∨ ∃ a, va_rf (v.map (ad1 t0)) = .ref a := by
    cases v with
    | none => exact Or.inl rfl
    | some x => exact Or.inr ⟨_, rfl⟩
  exact W.aret hx hb hr (Or.inl ⟨C, rfl⟩) hz (fun t ht _ => ⟨⟨_, (M, ad1), rfl, ⟨rfl, rfl, hal⟩, by rw [ht]; exact hP, hk, hg⟩, hS.F ht⟩) hS.2.2 hdg hlocks
theorem hp_putF {ty0 : Nat → FieldType} (hx : p.tables.exec = Jvm.exec) (hb : c.code = cc) {own ref C : String} {T : u_T} {N ci index : Nat} (hts : ∀ w ∈ BW, w.before args s = true) (hin : ∀ w ∈ u_ws C T N, w ∈ BW) (hty : ∀ k, k < N → parseFieldDescriptor (T k).2.2.1 = some (ty0 k)) (hnm : ∀ a, a < N → ∀ b, b < N → a ≠ b → (T a).2.1 ≠ (T b).2.1) (hown : s.vm.findClass own = some m.cls) (hK : va_K D vwCl (tysOf cy) s) (hP : HP D cy A ad M H) (hS : va_S A H0 H locs) (ha : mA M s0 i = true) {cs : List Nat} (hds : ds s0 = .inl (ci, cs)) (hc : vwCl[ci]? = some (C, T, N)) (k : Nat) (hk : k < N) (hlink : (Cond.fieldLink own index ref (T k).2.1 (T k).2.2.1).before args s = true) (href : (T k).1 = ref) (hin2 : meth.name = "<init>") (hfin : (T k).2.2.2 = true) (hdecl : (T k).1 = own) {ty : FieldType} {v : Value} (hd : parseFieldDescriptor (T k).2.2.1 = some ty) (hn : narrow ty v = v) (hfit : fits ty v = true) (hl : k < cs.length)
    (hw : WrO cy ad M M' s0 i) (hob : obV ad M' s0 i cs = (obV ad M s0 i cs).set k v) (hdg : decode cc pc = .ok (.putfield index, 3))
    (kk : ∀ (H1 : Heap) (locs1 : List Loc), HP D cy A ad M' H1 → va_S A H0 H1 locs1 → W p l e R s m args below meth c H1 locs1 cells slots Q (F0 m (pc + 3) ls rest)) : W p l e R s m args below meth c H locs cells slots Q (F0 m pc ls (v :: .ref (ad s0 i) :: rest)) := by
  subst href
  have hap := va_apart (own := own) hts hin ty0 hty hnm hK hc
  have h0 := hP.1 s0 i ha
  rw [ceE_ob hds] at h0
  obtain ⟨r, h1, cell, q1, q2, q3, q4⟩ := h0
  have hr : r = (C, T, N) := Option.some.inj (h1.symm.trans hc)
  subst hr
  obtain ⟨hSl, hfc, kC, hkC, hkind⟩ := hK.1 ci _ hc
  obtain ⟨cf, kf, fi, f, hi, hsl⟩ := hSl k hk
  have hlay := hts _ (hin _ (u_in_lay hk))
  unfold u_lay at hlay
  rw [if_pos hfin] at hlay
  have hst := (u_facts hfc hkC (u_lays hts hin hk) hi).1
  have hcf : m.cls = cf := by
    obtain ⟨_, _, c', _, _, _, -, -, hf', -, -, -, hown2, -⟩ := Cond.laysFinal_spec hlay
    have e1 : c' = cf := by have := hi.symm.trans hf'; simp at this; exact this.1.symm
    rw [hdecl] at hown2
    rw [← e1]; exact Option.some.inj (hown.symm.trans hown2)
  have h6 := u_fits hfc hkC hkind (Or.inr hlay) hi hd hn hfit
  refine W.putFinK hx hb hown hlink hi hst hcf hin2 (by rw [q2]; exact h6) q1 q3 (by rw [hsl]; exact k2_hasslot (q4 k hk)) rfl rfl hdg fun H' e1 e2 e3 => ?_
  rw [hsl] at e1 ⊢
  refine kk H' _ (hp_wr hP ha hw ?_ e3) (hS.put e2 e3 (hP.2.2.2 s0 i ha))
  rw [ceE_ob hds, hob]
  exact ⟨_, hc, t_OB.to (V := updV (vp_V (obV ad M s0 i cs)) k v) ⟨_, e1, q2, q3, t_set q4 hap hk v⟩ (fun j _ => vp_updV_set (by rw [obV_len]; exact hl) v j)⟩
theorem pI7F (hx : p.tables.exec = Jvm.exec) (hb : c.code = cc) (hts : ∀ w ∈ BW, w.before args s = true) {own : String} (hown : s.vm.findClass own = some m.cls) (hK : va_K D vwCl (tysOf cy) s) (hP : HP D cy A ad M H) (hS : va_S A H0 H locs) (ha : mA M 7 i = true) (k : Nat) (hk : k < 17) {index : Nat} (hlink : (Cond.fieldLink own index (TX0 k).1 (TX0 k).2.1 (TX0 k).2.2.1).before args s = true) (hin : meth.name = "<init>") (hfin : (TX0 k).2.2.2 = true) (hdecl : (TX0 k).1 = own) {v : Int32} (hct : tyX0 k = .int) (hcd : cs7[k]? = some (0)) (eM : M' = sI M 7 i k v) (hdg : decode cc pc = .ok (.putfield index, 3))
    (kk : ∀ (H1 : Heap) (locs1 : List Loc), HP D cy A ad M' H1 → va_S A H0 H1 locs1 → W p l e R s m args below meth c H1 locs1 cells slots Q (F0 m (pc + 3) ls rest)) : W p l e R s m args below meth c H locs cells slots Q (F0 m pc ls (.int v :: .ref (ad 7 i) :: rest)) :=
  hp_putF (ty0 := tyX0) hx hb hts inB0 tyX0_ok nmX0 hown hK hP hS ha ds_7 rfl k hk hlink rfl hin hfin hdecl (ty := .int) (by rw [tyX0_ok k hk, hct]) rfl rfl hk (by rw [eM]; exact wrI M 7 i k v) (by rw [eM]; exact obI M v hcd) hdg kk
theorem pR7F (hx : p.tables.exec = Jvm.exec) (hb : c.code = cc) (hts : ∀ w ∈ BW, w.before args s = true) {own : String} (hown : s.vm.findClass own = some m.cls) (hK : va_K D vwCl (tysOf cy) s) (hP : HP D cy A ad M H) (hS : va_S A H0 H locs) (ha : mA M 7 i = true) (k : Nat) (hk : k < 17) {index : Nat} (hlink : (Cond.fieldLink own index (TX0 k).1 (TX0 k).2.1 (TX0 k).2.2.1).before args s = true) (hin : meth.name = "<init>") (hfin : (TX0 k).2.2.2 = true) (hdecl : (TX0 k).1 = own) {v : Option Nat} {t : Nat} {ty : FieldType} (hct : tyX0 k = ty) (hrt : (∃ C, ty = .object C) ∨ ∃ C, ty = .array C) (hv : ∀ j, v = some j → mA M (rso 7 k) j = true) (hcd : cs7[k]? = some (t + 2)) (eM : M' = sR M 7 i k v) (hdg : decode cc pc = .ok (.putfield index, 3))
    (kk : ∀ (H1 : Heap) (locs1 : List Loc), HP D cy A ad M' H1 → va_S A H0 H1 locs1 → W p l e R s m args below meth c H1 locs1 cells slots Q (F0 m (pc + 3) ls rest)) : W p l e R s m args below meth c H locs cells slots Q (F0 m pc ls (va_rf (v.map (ad t)) :: .ref (ad 7 i) :: rest)) :=
  hp_putF (ty0 := tyX0) hx hb hts inB0 tyX0_ok nmX0 hown hK hP hS ha ds_7 rfl k hk hlink rfl hin hfin hdecl (ty := ty) (by rw [tyX0_ok k hk, hct]) (by rcases hrt with ⟨C, rfl⟩ | ⟨C, rfl⟩ <;> cases v <;> rfl) (by rcases hrt with ⟨C, rfl⟩ | ⟨C, rfl⟩ <;> cases v <;> rfl) hk (by rw [eM]; exact wrR M 7 i k v hv) (by rw [eM]; exact obR M v hcd) hdg kk
theorem pI4F (hx : p.tables.exec = Jvm.exec) (hb : c.code = cc) (hts : ∀ w ∈ BW, w.before args s = true) {own : String} (hown : s.vm.findClass own = some m.cls) (hK : va_K D vwCl (tysOf cy) s) (hP : HP D cy A ad M H) (hS : va_S A H0 H locs) (ha : mA M 4 i = true) (k : Nat) (hk : k < 7) {index : Nat} (hlink : (Cond.fieldLink own index (TX1 k).1 (TX1 k).2.1 (TX1 k).2.2.1).before args s = true) (hin : meth.name = "<init>") (hfin : (TX1 k).2.2.2 = true) (hdecl : (TX1 k).1 = own) {v : Int32} (hct : tyX1 k = .int) (hcd : cs4[k]? = some (0)) (eM : M' = sI M 4 i k v) (hdg : decode cc pc = .ok (.putfield index, 3))
    (kk : ∀ (H1 : Heap) (locs1 : List Loc), HP D cy A ad M' H1 → va_S A H0 H1 locs1 → W p l e R s m args below meth c H1 locs1 cells slots Q (F0 m (pc + 3) ls rest)) : W p l e R s m args below meth c H locs cells slots Q (F0 m pc ls (.int v :: .ref (ad 4 i) :: rest)) :=
  hp_putF (ty0 := tyX1) hx hb hts inB1 tyX1_ok nmX1 hown hK hP hS ha ds_4 rfl k hk hlink rfl hin hfin hdecl (ty := .int) (by rw [tyX1_ok k hk, hct]) rfl rfl hk (by rw [eM]; exact wrI M 4 i k v) (by rw [eM]; exact obI M v hcd) hdg kk
theorem pR4F (hx : p.tables.exec = Jvm.exec) (hb : c.code = cc) (hts : ∀ w ∈ BW, w.before args s = true) {own : String} (hown : s.vm.findClass own = some m.cls) (hK : va_K D vwCl (tysOf cy) s) (hP : HP D cy A ad M H) (hS : va_S A H0 H locs) (ha : mA M 4 i = true) (k : Nat) (hk : k < 7) {index : Nat} (hlink : (Cond.fieldLink own index (TX1 k).1 (TX1 k).2.1 (TX1 k).2.2.1).before args s = true) (hin : meth.name = "<init>") (hfin : (TX1 k).2.2.2 = true) (hdecl : (TX1 k).1 = own) {v : Option Nat} {t : Nat} {ty : FieldType} (hct : tyX1 k = ty) (hrt : (∃ C, ty = .object C) ∨ ∃ C, ty = .array C) (hv : ∀ j, v = some j → mA M (rso 4 k) j = true) (hcd : cs4[k]? = some (t + 2)) (eM : M' = sR M 4 i k v) (hdg : decode cc pc = .ok (.putfield index, 3))
    (kk : ∀ (H1 : Heap) (locs1 : List Loc), HP D cy A ad M' H1 → va_S A H0 H1 locs1 → W p l e R s m args below meth c H1 locs1 cells slots Q (F0 m (pc + 3) ls rest)) : W p l e R s m args below meth c H locs cells slots Q (F0 m pc ls (va_rf (v.map (ad t)) :: .ref (ad 4 i) :: rest)) :=
  hp_putF (ty0 := tyX1) hx hb hts inB1 tyX1_ok nmX1 hown hK hP hS ha ds_4 rfl k hk hlink rfl hin hfin hdecl (ty := ty) (by rw [tyX1_ok k hk, hct]) (by rcases hrt with ⟨C, rfl⟩ | ⟨C, rfl⟩ <;> cases v <;> rfl) (by rcases hrt with ⟨C, rfl⟩ | ⟨C, rfl⟩ <;> cases v <;> rfl) hk (by rw [eM]; exact wrR M 4 i k v hv) (by rw [eM]; exact obR M v hcd) hdg kk
theorem pI8F (hx : p.tables.exec = Jvm.exec) (hb : c.code = cc) (hts : ∀ w ∈ BW, w.before args s = true) {own : String} (hown : s.vm.findClass own = some m.cls) (hK : va_K D vwCl (tysOf cy) s) (hP : HP D cy A ad M H) (hS : va_S A H0 H locs) (ha : mA M 8 i = true) (k : Nat) (hk : k < 7) {index : Nat} (hlink : (Cond.fieldLink own index (TX2 k).1 (TX2 k).2.1 (TX2 k).2.2.1).before args s = true) (hin : meth.name = "<init>") (hfin : (TX2 k).2.2.2 = true) (hdecl : (TX2 k).1 = own) {v : Int32} (hct : tyX2 k = .int) (hcd : cs8[k]? = some (0)) (eM : M' = sI M 8 i k v) (hdg : decode cc pc = .ok (.putfield index, 3))
    (kk : ∀ (H1 : Heap) (locs1 : List Loc), HP D cy A ad M' H1 → va_S A H0 H1 locs1 → W p l e R s m args below meth c H1 locs1 cells slots Q (F0 m (pc + 3) ls rest)) : W p l e R s m args below meth c H locs cells slots Q (F0 m pc ls (.int v :: .ref (ad 8 i) :: rest)) :=
  hp_putF (ty0 := tyX2) hx hb hts inB2 tyX2_ok nmX2 hown hK hP hS ha ds_8 rfl k hk hlink rfl hin hfin hdecl (ty := .int) (by rw [tyX2_ok k hk, hct]) rfl rfl hk (by rw [eM]; exact wrI M 8 i k v) (by rw [eM]; exact obI M v hcd) hdg kk
theorem pR8F (hx : p.tables.exec = Jvm.exec) (hb : c.code = cc) (hts : ∀ w ∈ BW, w.before args s = true) {own : String} (hown : s.vm.findClass own = some m.cls) (hK : va_K D vwCl (tysOf cy) s) (hP : HP D cy A ad M H) (hS : va_S A H0 H locs) (ha : mA M 8 i = true) (k : Nat) (hk : k < 7) {index : Nat} (hlink : (Cond.fieldLink own index (TX2 k).1 (TX2 k).2.1 (TX2 k).2.2.1).before args s = true) (hin : meth.name = "<init>") (hfin : (TX2 k).2.2.2 = true) (hdecl : (TX2 k).1 = own) {v : Option Nat} {t : Nat} {ty : FieldType} (hct : tyX2 k = ty) (hrt : (∃ C, ty = .object C) ∨ ∃ C, ty = .array C) (hv : ∀ j, v = some j → mA M (rso 8 k) j = true) (hcd : cs8[k]? = some (t + 2)) (eM : M' = sR M 8 i k v) (hdg : decode cc pc = .ok (.putfield index, 3))
    (kk : ∀ (H1 : Heap) (locs1 : List Loc), HP D cy A ad M' H1 → va_S A H0 H1 locs1 → W p l e R s m args below meth c H1 locs1 cells slots Q (F0 m (pc + 3) ls rest)) : W p l e R s m args below meth c H locs cells slots Q (F0 m pc ls (va_rf (v.map (ad t)) :: .ref (ad 8 i) :: rest)) :=
  hp_putF (ty0 := tyX2) hx hb hts inB2 tyX2_ok nmX2 hown hK hP hS ha ds_8 rfl k hk hlink rfl hin hfin hdecl (ty := ty) (by rw [tyX2_ok k hk, hct]) (by rcases hrt with ⟨C, rfl⟩ | ⟨C, rfl⟩ <;> cases v <;> rfl) (by rcases hrt with ⟨C, rfl⟩ | ⟨C, rfl⟩ <;> cases v <;> rfl) hk (by rw [eM]; exact wrR M 8 i k v hv) (by rw [eM]; exact obR M v hcd) hdg kk
theorem pI1F (hx : p.tables.exec = Jvm.exec) (hb : c.code = cc) (hts : ∀ w ∈ BW, w.before args s = true) {own : String} (hown : s.vm.findClass own = some m.cls) (hK : va_K D vwCl (tysOf cy) s) (hP : HP D cy A ad M H) (hS : va_S A H0 H locs) (ha : mA M 1 i = true) (k : Nat) (hk : k < 5) {index : Nat} (hlink : (Cond.fieldLink own index (TX3 k).1 (TX3 k).2.1 (TX3 k).2.2.1).before args s = true) (hin : meth.name = "<init>") (hfin : (TX3 k).2.2.2 = true) (hdecl : (TX3 k).1 = own) {v : Int32} (hct : tyX3 k = .int) (hcd : cs1[k]? = some (0)) (eM : M' = sI M 1 i k v) (hdg : decode cc pc = .ok (.putfield index, 3))
    (kk : ∀ (H1 : Heap) (locs1 : List Loc), HP D cy A ad M' H1 → va_S A H0 H1 locs1 → W p l e R s m args below meth c H1 locs1 cells slots Q (F0 m (pc + 3) ls rest)) : W p l e R s m args below meth c H locs cells slots Q (F0 m pc ls (.int v :: .ref (ad 1 i) :: rest)) :=
  hp_putF (ty0 := tyX3) hx hb hts inB3 tyX3_ok nmX3 hown hK hP hS ha ds_1 rfl k hk hlink rfl hin hfin hdecl (ty := .int) (by rw [tyX3_ok k hk, hct]) rfl rfl hk (by rw [eM]; exact wrI M 1 i k v) (by rw [eM]; exact obI M v hcd) hdg kk
theorem pR1F (hx : p.tables.exec = Jvm.exec) (hb : c.code = cc) (hts : ∀ w ∈ BW, w.before args s = true) {own : String} (hown : s.vm.findClass own = some m.cls) (hK : va_K D vwCl (tysOf cy) s) (hP : HP D cy A ad M H) (hS : va_S A H0 H locs) (ha : mA M 1 i = true) (k : Nat) (hk : k < 5) {index : Nat} (hlink : (Cond.fieldLink own index (TX3 k).1 (TX3 k).2.1 (TX3 k).2.2.1).before args s = true) (hin : meth.name = "<init>") (hfin : (TX3 k).2.2.2 = true) (hdecl : (TX3 k).1 = own) {v : Option Nat} {t : Nat} {ty : FieldType} (hct : tyX3 k = ty) (hrt : (∃ C, ty = .object C) ∨ ∃ C, ty = .array C) (hv : ∀ j, v = some j → mA M (rso 1 k) j = true) (hcd : cs1[k]? = some (t + 2)) (eM : M' = sR M 1 i k v) (hdg : decode cc pc = .ok (.putfield index, 3))
    (kk : ∀ (H1 : Heap) (locs1 : List Loc), HP D cy A ad M' H1 → va_S A H0 H1 locs1 → W p l e R s m args below meth c H1 locs1 cells slots Q (F0 m (pc + 3) ls rest)) : W p l e R s m args below meth c H locs cells slots Q (F0 m pc ls (va_rf (v.map (ad t)) :: .ref (ad 1 i) :: rest)) :=
  hp_putF (ty0 := tyX3) hx hb hts inB3 tyX3_ok nmX3 hown hK hP hS ha ds_1 rfl k hk hlink rfl hin hfin hdecl (ty := ty) (by rw [tyX3_ok k hk, hct]) (by rcases hrt with ⟨C, rfl⟩ | ⟨C, rfl⟩ <;> cases v <;> rfl) (by rcases hrt with ⟨C, rfl⟩ | ⟨C, rfl⟩ <;> cases v <;> rfl) hk (by rw [eM]; exact wrR M 1 i k v hv) (by rw [eM]; exact obR M v hcd) hdg kk
theorem pI0F (hx : p.tables.exec = Jvm.exec) (hb : c.code = cc) (hts : ∀ w ∈ BW, w.before args s = true) {own : String} (hown : s.vm.findClass own = some m.cls) (hK : va_K D vwCl (tysOf cy) s) (hP : HP D cy A ad M H) (hS : va_S A H0 H locs) (ha : mA M 0 i = true) (k : Nat) (hk : k < 32) {index : Nat} (hlink : (Cond.fieldLink own index (TX4 k).1 (TX4 k).2.1 (TX4 k).2.2.1).before args s = true) (hin : meth.name = "<init>") (hfin : (TX4 k).2.2.2 = true) (hdecl : (TX4 k).1 = own) {v : Int32} (hct : tyX4 k = .int) (hcd : cs0[k]? = some (0)) (eM : M' = sI M 0 i k v) (hdg : decode cc pc = .ok (.putfield index, 3))
    (kk : ∀ (H1 : Heap) (locs1 : List Loc), HP D cy A ad M' H1 → va_S A H0 H1 locs1 → W p l e R s m args below meth c H1 locs1 cells slots Q (F0 m (pc + 3) ls rest)) : W p l e R s m args below meth c H locs cells slots Q (F0 m pc ls (.int v :: .ref (ad 0 i) :: rest)) :=
  hp_putF (ty0 := tyX4) hx hb hts inB4 tyX4_ok nmX4 hown hK hP hS ha ds_0 rfl k hk hlink rfl hin hfin hdecl (ty := .int) (by rw [tyX4_ok k hk, hct]) rfl rfl hk (by rw [eM]; exact wrI M 0 i k v) (by rw [eM]; exact obI M v hcd) hdg kk
theorem pR0F (hx : p.tables.exec = Jvm.exec) (hb : c.code = cc) (hts : ∀ w ∈ BW, w.before args s = true) {own : String} (hown : s.vm.findClass own = some m.cls) (hK : va_K D vwCl (tysOf cy) s) (hP : HP D cy A ad M H) (hS : va_S A H0 H locs) (ha : mA M 0 i = true) (k : Nat) (hk : k < 32) {index : Nat} (hlink : (Cond.fieldLink own index (TX4 k).1 (TX4 k).2.1 (TX4 k).2.2.1).before args s = true) (hin : meth.name = "<init>") (hfin : (TX4 k).2.2.2 = true) (hdecl : (TX4 k).1 = own) {v : Option Nat} {t : Nat} {ty : FieldType} (hct : tyX4 k = ty) (hrt : (∃ C, ty = .object C) ∨ ∃ C, ty = .array C) (hv : ∀ j, v = some j → mA M (rso 0 k) j = true) (hcd : cs0[k]? = some (t + 2)) (eM : M' = sR M 0 i k v) (hdg : decode cc pc = .ok (.putfield index, 3))
    (kk : ∀ (H1 : Heap) (locs1 : List Loc), HP D cy A ad M' H1 → va_S A H0 H1 locs1 → W p l e R s m args below meth c H1 locs1 cells slots Q (F0 m (pc + 3) ls rest)) : W p l e R s m args below meth c H locs cells slots Q (F0 m pc ls (va_rf (v.map (ad t)) :: .ref (ad 0 i) :: rest)) :=
  hp_putF (ty0 := tyX4) hx hb hts inB4 tyX4_ok nmX4 hown hK hP hS ha ds_0 rfl k hk hlink rfl hin hfin hdecl (ty := ty) (by rw [tyX4_ok k hk, hct]) (by rcases hrt with ⟨C, rfl⟩ | ⟨C, rfl⟩ <;> cases v <;> rfl) (by rcases hrt with ⟨C, rfl⟩ | ⟨C, rfl⟩ <;> cases v <;> rfl) hk (by rw [eM]; exact wrR M 0 i k v hv) (by rw [eM]; exact obR M v hcd) hdg kk
end HPA
