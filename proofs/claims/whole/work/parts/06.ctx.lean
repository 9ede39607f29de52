/-! ===== CONTRACTS OVER A WORLD WITH NAMED CELLS ===== -/
/-- what stands at a method's start -/
def PRE (D : va_G) (cy : Nat → ClassId) (ad : Nat → Nat → Nat) (M : Mm) (sz : Nat) (U : State) : Prop := U.heap.size = sz ∧ HP D cy (fun _ => True) ad M U.heap ∧ va_K D vwCl (tysOf cy) U ∧ NW U
def Keep (M M' : Mm) : Prop := ∀ s i : Nat, mA M s i = true → mA M' s i = true
/-- what stands behind it -/
def POS (D : va_G) (cy : Nat → ClassId) (ad : Nat → Nat → Nat) (M : Mm) (sz : Nat) (u : Mm) (t : State) : Prop := HP D cy (AA ad M sz) ad u t.heap ∧ Keep M u
def QI (D : va_G) (cy : Nat → ClassId) (ad : Nat → Nat → Nat) (M : Mm) (sz : Nat) (r0 : Int32) (M' : Mm) : Array Value → State → Outcome → State → Prop := va_Qi (fun (r : Int32) (u : Mm) => r = r0 ∧ u = M') (POS D cy ad M sz) (AA ad M sz)
def QJ (D : va_G) (cy : Nat → ClassId) (ad : Nat → Nat → Nat) (M : Mm) (sz : Nat) (r0 : Int64) (M' : Mm) : Array Value → State → Outcome → State → Prop := va_Ql (fun (r : Int64) (u : Mm) => r = r0 ∧ u = M') (POS D cy ad M sz) (AA ad M sz)
def QR (D : va_G) (cy : Nat → ClassId) (ad : Nat → Nat → Nat) (M : Mm) (sz : Nat) (t : Nat) (r0 : Option Nat) (M' : Mm) : Array Value → State → Outcome → State → Prop := va_Qq (fun (r : Option Nat) (u : Mm) => r = r0.map (ad t) ∧ u = M' ∧ ∀ j : Nat, r0 = some j → mA M' t j = true) (POS D cy ad M sz) (AA ad M sz)
def QV (D : va_G) (cy : Nat → ClassId) (ad : Nat → Nat → Nat) (M : Mm) (sz : Nat) (M' : Mm) : Array Value → State → Outcome → State → Prop := va_Qv (fun (u : Mm) => u = M') (POS D cy ad M sz) (AA ad M sz)
theorem pre_blind {D : va_G} {cy : Nat → ClassId} {ad : Nat → Nat → Nat} {M : Mm} {sz : Nat} {av : List Value} : FrameBlind (va_Pc av (PRE D cy ad M sz)) := fun a U g mk h => ⟨h.1, h.2.1, h.2.2.1, va_K.moved (u := U) (U := U.calling g mk a) (Vm.Alike.refl U.vm) h.2.2.2.1, NW.same rfl h.2.2.2.2⟩
theorem pre_at {D : va_G} {cy : Nat → ClassId} {A : Nat → Prop} {ad : Nat → Nat → Nat} {M : Mm} {H : Heap} {s : State} (hP : HP D cy A ad M H) (hK : va_K D vwCl (tysOf cy) s) (hN : NW s) {U : State} (hU : U.heap = H) (hW : s.WarmedH U.vm) : PRE D cy ad M H.size U :=
  ⟨by rw [hU], by rw [hU]; exact hp_mono hP (fun _ _ => trivial), va_K.moved hW.alike hK, NW.warm hW hN⟩
theorem pre_S {D : va_G} {cy : Nat → ClassId} {A : Nat → Prop} {ad : Nat → Nat → Nat} {M : Mm} {H : Heap} {s : State} {As : List Value} (hP : HP D cy A ad M H) (hK : va_K D vwCl (tysOf cy) s) (hN : NW s) : PreS s H (va_Pc As (PRE D cy ad M H.size)) As :=
  ⟨pre_blind, fun U hU hW => ⟨rfl, pre_at hP hK hN hU hW⟩⟩
theorem pre_V {D : va_G} {cy : Nat → ClassId} {A : Nat → Prop} {ad : Nat → Nat → Nat} {M : Mm} {H : Heap} {s : State} {As : List Value} {s0 i ci : Nat} {cs : List Nat} {q : vw_C} (hP : HP D cy A ad M H) (hK : va_K D vwCl (tysOf cy) s) (hN : NW s) (ha : mA M s0 i = true) (hds : ds s0 = .inl (ci, cs)) (hc : vwCl[ci]? = some q) : PreV s H q.1 (ad s0 i) (va_Pc (.ref (ad s0 i) :: As) (PRE D cy ad M H.size)) As :=
  ⟨pre_blind, va_recv hK (hp_one hP ha) hc (q0 := 0) (fs := obV ad M s0 i cs) (by rw [ceE_ob hds]; rfl), fun U hU hW => ⟨rfl, pre_at hP hK hN hU hW⟩⟩
theorem AA_sub {D : va_G} {cy : Nat → ClassId} {A : Nat → Prop} {ad : Nat → Nat → Nat} {M : Mm} {H H0 : Heap} {locs : List Loc} (hP : HP D cy A ad M H) (hS : va_S A H0 H locs) (hA : ∀ q, H0.size ≤ q → A q) : ∀ q, AA ad M H.size q → A q := fun q h => by
  rcases h with ⟨s, i, ha, rfl⟩ | h
  · exact hP.2.2.2 s i ha
  · exact hA q (Nat.le_trans hS.1 h)
theorem keep_rf {M : Mm} : Keep M M := fun _ _ h => h
theorem gd0 {y : MethodName} {b : ByteArray} {n : Nat} {r : Option FieldType} (h : Cond.code y b n r ∈ BW) : GoodIn BW (Cond.code y b n r :: BW) := fun w hw => by
  rcases List.mem_cons.mp hw with rfl | hw
  · exact ⟨h, BW_good _ h⟩
  · exact ⟨hw, BW_good _ hw⟩
theorem gdV {own C : String} {idx : Nat} {y : MethodName} {b : ByteArray} {n : Nat} {r : Option FieldType} (h1 : Cond.methodLink own idx y ∈ BW) (h2 : Cond.instanceMethod y ∈ BW) (h3 : Cond.selects C y y ∈ BW) (h4 : Cond.initialized C ∈ BW) (h : Cond.code y b n r ∈ BW) : GoodIn BW (wsV own idx C y (Cond.code y b n r :: BW)) := fun w hw => by
  rcases List.mem_append.mp hw with hw | hw
  · simp only [List.mem_cons, List.not_mem_nil, or_false] at hw
    rcases hw with rfl | rfl | rfl | rfl
    · exact ⟨h1, BW_good _ h1⟩
    · exact ⟨h2, BW_good _ h2⟩
    · exact ⟨h3, BW_good _ h3⟩
    · exact ⟨h4, BW_good _ h4⟩
  · exact gd0 h w hw
theorem gdS {own : String} {idx : Nat} {y : MethodName} {b : ByteArray} {n : Nat} {r : Option FieldType} (h1 : Cond.methodLink own idx y ∈ BW) (h2 : Cond.static y ∈ BW) (h4 : Cond.initialized y.cls ∈ BW) (h : Cond.code y b n r ∈ BW) : GoodIn BW (va_wsS own idx y (Cond.code y b n r :: BW)) := fun w hw => by
  rcases List.mem_append.mp hw with hw | hw
  · simp only [List.mem_cons, List.not_mem_nil, or_false] at hw
    rcases hw with rfl | rfl | rfl
    · exact ⟨h1, BW_good _ h1⟩
    · exact ⟨h2, BW_good _ h2⟩
    · exact ⟨h4, BW_good _ h4⟩
  · exact gd0 h w hw
theorem hp_inj2 {D : va_G} {cy : Nat → ClassId} {A : Nat → Prop} {ad : Nat → Nat → Nat} {M : Mm} {H : Heap} {s : Nat} {x y : Option Nat} (hP : HP D cy A ad M H) (hx : ∀ j : Nat, x = some j → mA M s j = true) (hy : ∀ j : Nat, y = some j → mA M s j = true) : x.map (ad s) = y.map (ad s) ↔ x = y := by
  constructor
  · intro h
    cases x with
    | none => cases y with
      | none => rfl
      | some j => cases h
    | some i => cases y with
      | none => cases h
      | some j => exact congrArg some ((hp_inj hP (hx i rfl) (hy j rfl)).mp h)
  · intro h
    rw [h]
/-- what a walk stands on -/
def Cx (own : String) (cc : ByteArray) (nL : Nat) (ret : Option FieldType) (D : va_G) (cy : Nat → ClassId) (A : Nat → Prop) (p : Program) (s : State) (m : MethodId) (args : Array Value) (meth : Method) (c : Code) : Prop :=
  p.tables.exec = Jvm.exec ∧ c.code = cc ∧ meth.sig.returnType = ret ∧ c.maxLocals = nL ∧ s.vm.findClass own = some m.cls ∧ (∀ w ∈ BW, w.before args s = true) ∧ meth.locks = false ∧ va_K D vwCl (tysOf cy) s ∧ NW s ∧ ∀ q : Nat, s.heap.size ≤ q → A q
section HPC
variable {p : Program} {l : Launch} {e : Env} {R : Room} {s : State} {m : MethodId} {args : Array Value} {below : List Frame} {meth : Method} {c : Code} {H : Heap} {locs : List Loc} {cells slots : Nat} {Q : State → Prop}
variable {cc : ByteArray} {pc : Nat} {ls : Array Slot} {rest st0 : List Value} {a : Array Value} {D : va_G} {cy : Nat → ClassId} {A : Nat → Prop} {ad : Nat → Nat → Nat} {M M' : Mm}
theorem W_topI {x y : Int32} (h : y = x) (k : W p l e R s m args below meth c H locs cells slots Q (F0 m pc ls (.int y :: rest))) : W p l e R s m args below meth c H locs cells slots Q (F0 m pc ls (.int x :: rest)) := h ▸ k
theorem W_topJ {x y : Int64} (h : y = x) (k : W p l e R s m args below meth c H locs cells slots Q (F0 m pc ls (.long y :: rest))) : W p l e R s m args below meth c H locs cells slots Q (F0 m pc ls (.long x :: rest)) := h ▸ k
theorem W_top {x y : Value} (h : y = x) (k : W p l e R s m args below meth c H locs cells slots Q (F0 m pc ls (y :: rest))) : W p l e R s m args below meth c H locs cells slots Q (F0 m pc ls (x :: rest)) := h ▸ k
theorem hp_calli {r0 : Int32} (hr : va_Run p l e R s m args below meth c H locs cells slots 0 0 (F0 m pc ls st0) rest (QI D cy ad M H.size r0 M' a) (AA ad M H.size)) (hP : HP D cy A ad M H) (hS : va_S A s.heap H locs) (hA : ∀ q, s.heap.size ≤ q → A q)
    (kk : ∀ (H1 : Heap) (locs1 : List Loc), HP D cy A ad M' H1 → va_S A s.heap H1 locs1 → Keep M M' → W p l e R s m args below meth c H1 locs1 cells slots Q (F0 m (pc + 3) ls (.int r0 :: rest))) : W p l e R s m args below meth c H locs cells slots Q (F0 m pc ls st0) := by
  have hsub := AA_sub hP hS hA
  refine va_calli hr hS (fun q _ h => hsub q h) hsub (fun r u t H1 locs1 ht hvm hw hB hz hk hS1 => ?_)
  obtain ⟨rfl, rfl⟩ := hw
  obtain ⟨hB1, hB2⟩ := hB
  rw [ht] at hB1
  exact kk H1 locs1 (hp_mono hB1 hsub) hS1 hB2
theorem hp_calll {r0 : Int64} (hr : va_Run p l e R s m args below meth c H locs cells slots 0 0 (F0 m pc ls st0) rest (QJ D cy ad M H.size r0 M' a) (AA ad M H.size)) (hP : HP D cy A ad M H) (hS : va_S A s.heap H locs) (hA : ∀ q, s.heap.size ≤ q → A q)
    (kk : ∀ (H1 : Heap) (locs1 : List Loc), HP D cy A ad M' H1 → va_S A s.heap H1 locs1 → Keep M M' → W p l e R s m args below meth c H1 locs1 cells slots Q (F0 m (pc + 3) ls (.long r0 :: rest))) : W p l e R s m args below meth c H locs cells slots Q (F0 m pc ls st0) := by
  have hsub := AA_sub hP hS hA
  refine va_calll hr hS (fun q _ h => hsub q h) hsub (fun r u t H1 locs1 ht hvm hw hB hz hk hS1 => ?_)
  obtain ⟨rfl, rfl⟩ := hw
  obtain ⟨hB1, hB2⟩ := hB
  rw [ht] at hB1
  exact kk H1 locs1 (hp_mono hB1 hsub) hS1 hB2
theorem hp_callq {t0 : Nat} {r0 : Option Nat} (hr : va_Run p l e R s m args below meth c H locs cells slots 0 0 (F0 m pc ls st0) rest (QR D cy ad M H.size t0 r0 M' a) (AA ad M H.size)) (hP : HP D cy A ad M H) (hS : va_S A s.heap H locs) (hA : ∀ q, s.heap.size ≤ q → A q)
    (kk : ∀ (H1 : Heap) (locs1 : List Loc), HP D cy A ad M' H1 → va_S A s.heap H1 locs1 → Keep M M' → (∀ j : Nat, r0 = some j → mA M' t0 j = true) → W p l e R s m args below meth c H1 locs1 cells slots Q (F0 m (pc + 3) ls (va_rf (r0.map (ad t0)) :: rest))) : W p l e R s m args below meth c H locs cells slots Q (F0 m pc ls st0) := by
  have hsub := AA_sub hP hS hA
  refine va_callq hr hS (fun q _ h => hsub q h) hsub (fun r u t H1 locs1 ht hvm hw hB hz hk hS1 => ?_)
  obtain ⟨rfl, rfl, hal⟩ := hw
  obtain ⟨hB1, hB2⟩ := hB
  rw [ht] at hB1
  exact kk H1 locs1 (hp_mono hB1 hsub) hS1 hB2 hal
theorem hp_callv (hr : va_Run p l e R s m args below meth c H locs cells slots 0 0 (F0 m pc ls st0) rest (QV D cy ad M H.size M' a) (AA ad M H.size)) (hP : HP D cy A ad M H) (hS : va_S A s.heap H locs) (hA : ∀ q, s.heap.size ≤ q → A q)
    (kk : ∀ (H1 : Heap) (locs1 : List Loc), HP D cy A ad M' H1 → va_S A s.heap H1 locs1 → Keep M M' → W p l e R s m args below meth c H1 locs1 cells slots Q (F0 m (pc + 3) ls rest)) : W p l e R s m args below meth c H locs cells slots Q (F0 m pc ls st0) := by
  have hsub := AA_sub hP hS hA
  refine va_callv hr hS (fun q _ h => hsub q h) hsub (fun u t H1 locs1 ht hvm hw hB hz hk hS1 => ?_)
  subst hw
  obtain ⟨hB1, hB2⟩ := hB
  rw [ht] at hB1
  exact kk H1 locs1 (hp_mono hB1 hsub) hS1 hB2
theorem hp_iret {M0 : Mm} {r0 v : Int32} (hx : p.tables.exec = Jvm.exec) (hb : c.code = cc) (hr : meth.sig.returnType = some .int) (hlocks : meth.locks = false) (hv : v = r0) (hM : M = M') (hP : HP D cy (AA ad M0 s.heap.size) ad M H) (hS : va_S (AA ad M0 s.heap.size) s.heap H locs) (hk : Keep M0 M) (hdg : decode cc pc = .ok (.ireturn, 1)) : W p l e R s m args below meth c H locs cells slots (MQ below (QI D cy ad M0 s.heap.size r0 M') args s cells slots (AA ad M0 s.heap.size)) (F0 m pc ls [.int v]) := by
  subst hv; subst hM
  exact W.iret hx hb hr (fun t ht _ => ⟨⟨_, _, rfl, ⟨rfl, rfl⟩, by rw [ht]; exact hP, hk⟩, hS.F ht⟩) hS.2.2 hdg hlocks
theorem hp_zret {M0 : Mm} {r0 v : Int32} (hx : p.tables.exec = Jvm.exec) (hb : c.code = cc) (hr : meth.sig.returnType = some .boolean) (hlocks : meth.locks = false) (hz : v = 0 ∨ v = 1) (hv : v = r0) (hM : M = M') (hP : HP D cy (AA ad M0 s.heap.size) ad M H) (hS : va_S (AA ad M0 s.heap.size) s.heap H locs) (hk : Keep M0 M) (hdg : decode cc pc = .ok (.ireturn, 1)) : W p l e R s m args below meth c H locs cells slots (MQ below (QI D cy ad M0 s.heap.size r0 M') args s cells slots (AA ad M0 s.heap.size)) (F0 m pc ls [.int v]) := by
  subst hv; subst hM
  have hn : narrow .boolean (.int v) = .int v := by rcases hz with rfl | rfl <;> rfl
  exact W.zret hx hb hr hn (fun t ht _ => ⟨⟨_, _, rfl, ⟨rfl, rfl⟩, by rw [ht]; exact hP, hk⟩, hS.F ht⟩) hS.2.2 hdg hlocks
theorem hp_lret {M0 : Mm} {r0 v : Int64} (hx : p.tables.exec = Jvm.exec) (hb : c.code = cc) (hr : meth.sig.returnType = some .long) (hlocks : meth.locks = false) (hv : v = r0) (hM : M = M') (hP : HP D cy (AA ad M0 s.heap.size) ad M H) (hS : va_S (AA ad M0 s.heap.size) s.heap H locs) (hk : Keep M0 M) (hdg : decode cc pc = .ok (.lreturn, 1)) : W p l e R s m args below meth c H locs cells slots (MQ below (QJ D cy ad M0 s.heap.size r0 M') args s cells slots (AA ad M0 s.heap.size)) (F0 m pc ls [.long v]) := by
  subst hv; subst hM
  exact W.lret hx hb hr (fun t ht _ => ⟨⟨_, _, rfl, ⟨rfl, rfl⟩, by rw [ht]; exact hP, hk⟩, hS.F ht⟩) hS.2.2 hdg hlocks
theorem hp_vret {M0 : Mm} (hx : p.tables.exec = Jvm.exec) (hb : c.code = cc) (hr : meth.sig.returnType = none) (hlocks : meth.locks = false) (hM : M = M') (hP : HP D cy (AA ad M0 s.heap.size) ad M H) (hS : va_S (AA ad M0 s.heap.size) s.heap H locs) (hk : Keep M0 M) (hdg : decode cc pc = .ok (.return_, 1)) : W p l e R s m args below meth c H locs cells slots (MQ below (QV D cy ad M0 s.heap.size M') args s cells slots (AA ad M0 s.heap.size)) (F0 m pc ls []) := by
  subst hM
  exact W.vret hx hb hr (fun t ht _ => ⟨⟨_, rfl, rfl, by rw [ht]; exact hP, hk⟩, hS.F ht⟩) hS.2.2 hdg hlocks
theorem hp_aret {M0 : Mm} {C : String} {t0 : Nat} {r0 v : Option Nat} (hx : p.tables.exec = Jvm.exec) (hb : c.code = cc) (hr : meth.sig.returnType = some (.object C)) (hlocks : meth.locks = false) (hal : ∀ j : Nat, v = some j → mA M t0 j = true) (hv : v = r0) (hM : M = M') (hP : HP D cy (AA ad M0 s.heap.size) ad M H) (hS : va_S (AA ad M0 s.heap.size) s.heap H locs) (hk : Keep M0 M) (hdg : decode cc pc = .ok (.areturn, 1)) : W p l e R s m args below meth c H locs cells slots (MQ below (QR D cy ad M0 s.heap.size t0 r0 M') args s cells slots (AA ad M0 s.heap.size)) (F0 m pc ls [va_rf (v.map (ad t0))]) := by
  subst hv; subst hM
  have hz : va_rf (v.map (ad t0)) = .null ∨ ∃ a, va_rf (v.map (ad t0)) = .ref a := by
    cases v with
    | none => exact Or.inl rfl
    | some x => exact Or.inr ⟨_, rfl⟩
  exact W.aret hx hb hr (Or.inl ⟨C, rfl⟩) hz (fun t ht _ => ⟨⟨_, _, rfl, ⟨rfl, rfl, hal⟩, by rw [ht]; exact hP, hk⟩, hS.F ht⟩) hS.2.2 hdg hlocks
theorem hp_aload_n (hx : p.tables.exec = Jvm.exec) (hb : c.code = cc) {k : Fin 4} {i : Nat} {r : Option Nat} (hdg : decode cc pc = .ok (.aload_n k, 1)) (hi : (k : Nat) = i) (hl : ls[i]? = some (.val (va_rf r)))
    (kk : W p l e R s m args below meth c H locs cells slots Q (F0 m (pc + 1) ls (va_rf r :: rest))) : W p l e R s m args below meth c H locs cells slots Q (F0 m pc ls rest) := by
  cases r with
  | none => exact lv_aload_nN hx hb hdg hi hl kk
  | some x => exact lv_aload_n hx hb hdg hi hl kk
theorem hp_aload (hx : p.tables.exec = Jvm.exec) (hb : c.code = cc) {i : Nat} {r : Option Nat} (hdg : decode cc pc = .ok (.aload i, 2)) (hl : ls[i]? = some (.val (va_rf r)))
    (kk : W p l e R s m args below meth c H locs cells slots Q (F0 m (pc + 2) ls (va_rf r :: rest))) : W p l e R s m args below meth c H locs cells slots Q (F0 m pc ls rest) := by
  cases r with
  | none => exact lv_aloadN hx hb hdg hl kk
  | some x => exact lv_aload hx hb hdg hl kk
theorem hp_astore_n (hx : p.tables.exec = Jvm.exec) (hb : c.code = cc) {k : Fin 4} {i nL : Nat} {r : Option Nat} {lv lv' : List (Nat × Value)} (hdg : decode cc pc = .ok (.astore_n k, 1)) (hi : (k : Nat) = i) (h : lv_has ls nL lv) (hn : i < nL) (hl : (i, va_rf r) :: lv.filter (fun q => !(q.1 == i) && !(q.1 + 1 == i && q.2.category == 2)) = lv')
    (kk : ∀ ls' : Array Slot, lv_has ls' nL lv' → W p l e R s m args below meth c H locs cells slots Q (F0 m (pc + 1) ls' rest)) : W p l e R s m args below meth c H locs cells slots Q (F0 m pc ls (va_rf r :: rest)) := by
  cases r with
  | none => exact lv_astore_nN hx hb hdg hi h hn hl kk
  | some x => exact lv_astore_n hx hb hdg hi h hn hl kk
theorem hp_astore (hx : p.tables.exec = Jvm.exec) (hb : c.code = cc) {i nL : Nat} {r : Option Nat} {lv lv' : List (Nat × Value)} (hdg : decode cc pc = .ok (.astore i, 2)) (h : lv_has ls nL lv) (hn : i < nL) (hl : (i, va_rf r) :: lv.filter (fun q => !(q.1 == i) && !(q.1 + 1 == i && q.2.category == 2)) = lv')
    (kk : ∀ ls' : Array Slot, lv_has ls' nL lv' → W p l e R s m args below meth c H locs cells slots Q (F0 m (pc + 2) ls' rest)) : W p l e R s m args below meth c H locs cells slots Q (F0 m pc ls (va_rf r :: rest)) := by
  cases r with
  | none => exact lv_astoreN hx hb hdg h hn hl kk
  | some x => exact lv_astore hx hb hdg h hn hl kk
/-- a switch: what lies outside -/
theorem sw_out {x : Int32} {lo hi : Int} (h : ∀ n : Nat, (n : Int) ≤ hi - lo → ¬ x = Int32.ofInt (lo + n)) : x.toInt < lo ∨ hi < x.toInt := by
  by_cases h1 : x.toInt < lo
  · exact Or.inl h1
  · by_cases h2 : hi < x.toInt
    · exact Or.inr h2
    · refine absurd ?_ (h (x.toInt - lo).toNat (by omega))
      have : lo + ((x.toInt - lo).toNat : Int) = x.toInt := by omega
      rw [this, Int32.ofInt_toInt]
end HPC
