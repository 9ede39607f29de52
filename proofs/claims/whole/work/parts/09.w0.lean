/-! ===== walks of Pool: by program out of the bytecode ===== -/

def f_X0_isOf (v0 : Nat) (v1 : Nat) (M0 : Mm) : Option Int32 :=
  if (mR M0 7 v0 1) = (some v1) then (some (1 : Int32)) else (if (mR M0 7 v0 2) = (some v1) then (some (1 : Int32)) else (some (0 : Int32)))
set_option maxRecDepth 100000 in
set_option maxHeartbeats 4000000 in
theorem ok_X0_isOf (l : Launch) (D : va_G) (cy : Nat → ClassId) (ad : Nat → Nat → Nat) (M0 : Mm) (sz : Nat) (v0 : Nat) (v1 : Nat) (r0 : Int32) (a0 : mA M0 7 v0 = true) (a1 : mA M0 4 v1 = true) (hf : f_X0_isOf v0 v1 M0 = some r0) : Met l yX0_isOf (Cond.code yX0_isOf cX0_isOf 2 (some .boolean) :: BW) { frames := 0, cells := 0, slots := 0, locals := 0 } (va_Pc [.ref (ad 7 v0), .ref (ad 4 v1)] (PRE D cy ad M0 sz)) (QI D cy ad M0 sz r0 M0) 0 0 (AA ad M0 sz) := by
  refine Met.ofW (cc := cX0_isOf) (maxL := 2) (ret := (some .boolean)) (by decide) rfl ?_
  intro p e s m args below meth c s₁ B hml hv
  obtain ⟨rfl, rfl, hP0, hK, hN⟩ := hv
  have hx := B.exec
  have hb := B.bytes
  have hr := B.returns
  have hts0 := atoms_spec (ws := (Cond.code yX0_isOf cX0_isOf 2 (some .boolean) :: BW)) B.pre
  have hts : ∀ w ∈ BW, w.before ([.ref (ad 7 v0), .ref (ad 4 v1)] : List Value).toArray s = true := fun w h => hts0 w (List.mem_cons_of_mem _ h)
  have hown : s.vm.findClass RX0 = some m.cls := findClass_of_methodNamed B.named
  have hlocks := B.notSynchronized
  have hA : ∀ q : Nat, s.heap.size ≤ q → AA ad M0 s.heap.size q := fun q h => Or.inr h
  have C : Cx RX0 cX0_isOf 2 (some .boolean) D cy (AA ad M0 s.heap.size) p s m ([.ref (ad 7 v0), .ref (ad 4 v1)] : List Value).toArray meth c := ⟨hx, hb, hr, hml, hown, hts, hlocks, hK, hN, hA⟩
  have hP := hp_self (sz := s.heap.size) hP0
  have hS : va_S (AA ad M0 s.heap.size) s.heap s.heap [] := va_S.rf
  have hl := lv_entry ([.ref (ad 7 v0), .ref (ad 4 v1)]) (n := 2) (Nat.le_of_ble_eq_true rfl)
  rw [lg_entry_eq]
  generalize (lg_sl ([.ref (ad 7 v0), .ref (ad 4 v1)]) ++ List.replicate (2 - (lg_sl ([.ref (ad 7 v0), .ref (ad 4 v1)])).length) Slot.unset).toArray = ls at hl ⊢
  have hl : lv_has ls 2 [(0, .ref (ad 7 v0)), (1, .ref (ad 4 v1))] := hl
  unfold f_X0_isOf at hf
  refine lv_aload_n hx hb dX0_isOf_0 rfl (lv_at hl 0 rfl) ?_
  have h5 : ∀ j : Nat, (mR M0 7 v0 1) = some j → mA M0 4 j = true := fun j hj => hp_wf hP a0 hj
  refine gf7 (v := va_rf (((mR M0 7 v0 1)).map (ad 4))) hx hb hts hown hK hP a0 1 (by decide) (hts _ q178) rfl rfl dX0_isOf_1 ?_
  refine lv_aload_n hx hb dX0_isOf_4 rfl (lv_at hl 1 rfl) ?_
  refine lv_acmp_eq (rx := ((mR M0 7 v0 1)).map (ad 4)) (ry := ((some v1)).map (ad 4)) (tgt := 16) hx hb dX0_isOf_5 (by decide) (fun c6 => ?_) (fun c6 => ?_)
  · have c6 := (hp_inj2 hP h5 (fun j hj => by cases hj; exact a1)).mp c6
    have hf := if_t hf c6
    refine lv_iconst (v := (1 : Int32)) hx hb dX0_isOf_16 (by decide) ?_
    refine lv_goto (tgt := 21) hx hb dX0_isOf_17 (by decide) ?_
    exact hp_zret hx hb hr hlocks (Or.inr rfl) (Option.some.inj hf) rfl hP hS keep_rf dX0_isOf_21
  · have c6 := fun z => c6 ((hp_inj2 hP h5 (fun j hj => by cases hj; exact a1)).mpr z)
    have hf := if_f hf c6
    refine lv_aload_n hx hb dX0_isOf_8 rfl (lv_at hl 0 rfl) ?_
    have h7 : ∀ j : Nat, (mR M0 7 v0 2) = some j → mA M0 4 j = true := fun j hj => hp_wf hP a0 hj
    refine gf7 (v := va_rf (((mR M0 7 v0 2)).map (ad 4))) hx hb hts hown hK hP a0 2 (by decide) (hts _ q180) rfl rfl dX0_isOf_9 ?_
    refine lv_aload_n hx hb dX0_isOf_12 rfl (lv_at hl 1 rfl) ?_
    refine lv_acmp_ne (rx := ((mR M0 7 v0 2)).map (ad 4)) (ry := ((some v1)).map (ad 4)) (tgt := 20) hx hb dX0_isOf_13 (by decide) (fun c8 => ?_) (fun c8 => ?_)
    · have c8 := fun z => c8 ((hp_inj2 hP h7 (fun j hj => by cases hj; exact a1)).mpr z)
      have hf := if_f hf c8
      refine lv_iconst (v := (0 : Int32)) hx hb dX0_isOf_20 (by decide) ?_
      exact hp_zret hx hb hr hlocks (Or.inl rfl) (Option.some.inj hf) rfl hP hS keep_rf dX0_isOf_21
    · have c8 := (hp_inj2 hP h7 (fun j hj => by cases hj; exact a1)).mp c8
      have hf := if_t hf c8
      refine lv_iconst (v := (1 : Int32)) hx hb dX0_isOf_16 (by decide) ?_
      refine lv_goto (tgt := 21) hx hb dX0_isOf_17 (by decide) ?_
      exact hp_zret hx hb hr hlocks (Or.inr rfl) (Option.some.inj hf) rfl hP hS keep_rf dX0_isOf_21

def f_X0_isOpen (v0 : Nat) (M0 : Mm) : Option Int32 :=
  ob (mR M0 7 v0 1) fun i12 => if (mI M0 4 i12 4) = 0 then (ob (mR M0 7 v0 2) fun i17 => if (mI M0 4 i17 4) = 0 then (some (1 : Int32)) else (some (0 : Int32))) else (some (0 : Int32))
set_option maxRecDepth 100000 in
set_option maxHeartbeats 4000000 in
theorem ok_X0_isOpen (l : Launch) (D : va_G) (cy : Nat → ClassId) (ad : Nat → Nat → Nat) (M0 : Mm) (sz : Nat) (v0 : Nat) (r0 : Int32) (a0 : mA M0 7 v0 = true) (hf : f_X0_isOpen v0 M0 = some r0) : Met l yX0_isOpen (Cond.code yX0_isOpen cX0_isOpen 1 (some .boolean) :: BW) { frames := 0, cells := 0, slots := 0, locals := 0 } (va_Pc [.ref (ad 7 v0)] (PRE D cy ad M0 sz)) (QI D cy ad M0 sz r0 M0) 0 0 (AA ad M0 sz) := by
  refine Met.ofW (cc := cX0_isOpen) (maxL := 1) (ret := (some .boolean)) (by decide) rfl ?_
  intro p e s m args below meth c s₁ B hml hv
  obtain ⟨rfl, rfl, hP0, hK, hN⟩ := hv
  have hx := B.exec
  have hb := B.bytes
  have hr := B.returns
  have hts0 := atoms_spec (ws := (Cond.code yX0_isOpen cX0_isOpen 1 (some .boolean) :: BW)) B.pre
  have hts : ∀ w ∈ BW, w.before ([.ref (ad 7 v0)] : List Value).toArray s = true := fun w h => hts0 w (List.mem_cons_of_mem _ h)
  have hown : s.vm.findClass RX0 = some m.cls := findClass_of_methodNamed B.named
  have hlocks := B.notSynchronized
  have hA : ∀ q : Nat, s.heap.size ≤ q → AA ad M0 s.heap.size q := fun q h => Or.inr h
  have C : Cx RX0 cX0_isOpen 1 (some .boolean) D cy (AA ad M0 s.heap.size) p s m ([.ref (ad 7 v0)] : List Value).toArray meth c := ⟨hx, hb, hr, hml, hown, hts, hlocks, hK, hN, hA⟩
  have hP := hp_self (sz := s.heap.size) hP0
  have hS : va_S (AA ad M0 s.heap.size) s.heap s.heap [] := va_S.rf
  have hl := lv_entry ([.ref (ad 7 v0)]) (n := 1) (Nat.le_of_ble_eq_true rfl)
  rw [lg_entry_eq]
  generalize (lg_sl ([.ref (ad 7 v0)]) ++ List.replicate (1 - (lg_sl ([.ref (ad 7 v0)])).length) Slot.unset).toArray = ls at hl ⊢
  have hl : lv_has ls 1 [(0, .ref (ad 7 v0))] := hl
  unfold f_X0_isOpen at hf
  refine lv_aload_n hx hb dX0_isOpen_0 rfl (lv_at hl 0 rfl) ?_
  have h11 : ∀ j : Nat, (mR M0 7 v0 1) = some j → mA M0 4 j = true := fun j hj => hp_wf hP a0 hj
  refine gf7 (v := va_rf (((mR M0 7 v0 1)).map (ad 4))) hx hb hts hown hK hP a0 1 (by decide) (hts _ q178) rfl rfl dX0_isOpen_1 ?_
  obtain ⟨i12, e13, hf⟩ := ob_some hf
  have h14 : mA M0 4 i12 = true := h11 i12 e13
  refine W_stk (st := [va_rf (((mR M0 7 v0 1)).map (ad 4))]) (st' := [.ref (ad 4 i12)]) (by first | (rw [e13]; done) | (rw [e13]; rfl)) ?_
  refine gf4N (v := .int (mI M0 4 i12 4)) hx hb hts hown hK hP h14 4 (by decide) (va_Nw.use rfl (hN.1 (RX0, 28, "ToteHouse$Race", "state", "I", RX3) (List.mem_of_getElem? (i := 3) rfl))) rfl rfl dX0_isOpen_4 ?_
  refine lv_if_ne (tgt := 24) hx hb dX0_isOpen_7 (by decide) (fun c15 => ?_) (fun c15 => ?_)
  · have hf := if_f hf c15
    refine lv_iconst (v := (0 : Int32)) hx hb dX0_isOpen_24 (by decide) ?_
    exact hp_zret hx hb hr hlocks (Or.inl rfl) (Option.some.inj hf) rfl hP hS keep_rf dX0_isOpen_25
  · have hf := if_t hf c15
    refine lv_aload_n hx hb dX0_isOpen_10 rfl (lv_at hl 0 rfl) ?_
    have h16 : ∀ j : Nat, (mR M0 7 v0 2) = some j → mA M0 4 j = true := fun j hj => hp_wf hP a0 hj
    refine gf7 (v := va_rf (((mR M0 7 v0 2)).map (ad 4))) hx hb hts hown hK hP a0 2 (by decide) (hts _ q180) rfl rfl dX0_isOpen_11 ?_
    obtain ⟨i17, e18, hf⟩ := ob_some hf
    have h19 : mA M0 4 i17 = true := h16 i17 e18
    refine W_stk (st := [va_rf (((mR M0 7 v0 2)).map (ad 4))]) (st' := [.ref (ad 4 i17)]) (by first | (rw [e18]; done) | (rw [e18]; rfl)) ?_
    refine gf4N (v := .int (mI M0 4 i17 4)) hx hb hts hown hK hP h19 4 (by decide) (va_Nw.use rfl (hN.1 (RX0, 28, "ToteHouse$Race", "state", "I", RX3) (List.mem_of_getElem? (i := 3) rfl))) rfl rfl dX0_isOpen_14 ?_
    refine lv_if_ne (tgt := 24) hx hb dX0_isOpen_17 (by decide) (fun c20 => ?_) (fun c20 => ?_)
    · have hf := if_f hf c20
      refine lv_iconst (v := (0 : Int32)) hx hb dX0_isOpen_24 (by decide) ?_
      exact hp_zret hx hb hr hlocks (Or.inl rfl) (Option.some.inj hf) rfl hP hS keep_rf dX0_isOpen_25
    · have hf := if_t hf c20
      refine lv_iconst (v := (1 : Int32)) hx hb dX0_isOpen_20 (by decide) ?_
      refine lv_goto (tgt := 25) hx hb dX0_isOpen_21 (by decide) ?_
      exact hp_zret hx hb hr hlocks (Or.inr rfl) (Option.some.inj hf) rfl hP hS keep_rf dX0_isOpen_25

def f_X0_namesSecond (v0 : Nat) (M0 : Mm) : Option Int32 :=
  if (mI M0 7 v0 0) < (2 : Int32) then (some (0 : Int32)) else (some (1 : Int32))
set_option maxRecDepth 100000 in
set_option maxHeartbeats 4000000 in
theorem ok_X0_namesSecond (l : Launch) (D : va_G) (cy : Nat → ClassId) (ad : Nat → Nat → Nat) (M0 : Mm) (sz : Nat) (v0 : Nat) (r0 : Int32) (a0 : mA M0 7 v0 = true) (hf : f_X0_namesSecond v0 M0 = some r0) : Met l yX0_namesSecond (Cond.code yX0_namesSecond cX0_namesSecond 1 (some .boolean) :: BW) { frames := 0, cells := 0, slots := 0, locals := 0 } (va_Pc [.ref (ad 7 v0)] (PRE D cy ad M0 sz)) (QI D cy ad M0 sz r0 M0) 0 0 (AA ad M0 sz) := by
  refine Met.ofW (cc := cX0_namesSecond) (maxL := 1) (ret := (some .boolean)) (by decide) rfl ?_
  intro p e s m args below meth c s₁ B hml hv
  obtain ⟨rfl, rfl, hP0, hK, hN⟩ := hv
  have hx := B.exec
  have hb := B.bytes
  have hr := B.returns
  have hts0 := atoms_spec (ws := (Cond.code yX0_namesSecond cX0_namesSecond 1 (some .boolean) :: BW)) B.pre
  have hts : ∀ w ∈ BW, w.before ([.ref (ad 7 v0)] : List Value).toArray s = true := fun w h => hts0 w (List.mem_cons_of_mem _ h)
  have hown : s.vm.findClass RX0 = some m.cls := findClass_of_methodNamed B.named
  have hlocks := B.notSynchronized
  have hA : ∀ q : Nat, s.heap.size ≤ q → AA ad M0 s.heap.size q := fun q h => Or.inr h
  have C : Cx RX0 cX0_namesSecond 1 (some .boolean) D cy (AA ad M0 s.heap.size) p s m ([.ref (ad 7 v0)] : List Value).toArray meth c := ⟨hx, hb, hr, hml, hown, hts, hlocks, hK, hN, hA⟩
  have hP := hp_self (sz := s.heap.size) hP0
  have hS : va_S (AA ad M0 s.heap.size) s.heap s.heap [] := va_S.rf
  have hl := lv_entry ([.ref (ad 7 v0)]) (n := 1) (Nat.le_of_ble_eq_true rfl)
  rw [lg_entry_eq]
  generalize (lg_sl ([.ref (ad 7 v0)]) ++ List.replicate (1 - (lg_sl ([.ref (ad 7 v0)])).length) Slot.unset).toArray = ls at hl ⊢
  have hl : lv_has ls 1 [(0, .ref (ad 7 v0))] := hl
  unfold f_X0_namesSecond at hf
  refine lv_aload_n hx hb dX0_namesSecond_0 rfl (lv_at hl 0 rfl) ?_
  refine gf7 (v := .int (mI M0 7 v0 0)) hx hb hts hown hK hP a0 0 (by decide) (hts _ q176) rfl rfl dX0_namesSecond_1 ?_
  refine lv_iconst (v := (2 : Int32)) hx hb dX0_namesSecond_4 (by decide) ?_
  refine lv_icmp_lt (tgt := 12) hx hb dX0_namesSecond_5 (by decide) (fun c2 => ?_) (fun c2 => ?_)
  · have hf := if_t hf c2
    refine lv_iconst (v := (0 : Int32)) hx hb dX0_namesSecond_12 (by decide) ?_
    exact hp_zret hx hb hr hlocks (Or.inl rfl) (Option.some.inj hf) rfl hP hS keep_rf dX0_namesSecond_13
  · have hf := if_f hf c2
    refine lv_iconst (v := (1 : Int32)) hx hb dX0_namesSecond_8 (by decide) ?_
    refine lv_goto (tgt := 13) hx hb dX0_namesSecond_9 (by decide) ?_
    exact hp_zret hx hb hr hlocks (Or.inr rfl) (Option.some.inj hf) rfl hP hS keep_rf dX0_namesSecond_13

def f_X0_namesThird (v0 : Nat) (M0 : Mm) : Option Int32 :=
  if (mI M0 7 v0 0) = (3 : Int32) then (some (1 : Int32)) else (some (0 : Int32))
set_option maxRecDepth 100000 in
set_option maxHeartbeats 4000000 in
theorem ok_X0_namesThird (l : Launch) (D : va_G) (cy : Nat → ClassId) (ad : Nat → Nat → Nat) (M0 : Mm) (sz : Nat) (v0 : Nat) (r0 : Int32) (a0 : mA M0 7 v0 = true) (hf : f_X0_namesThird v0 M0 = some r0) : Met l yX0_namesThird (Cond.code yX0_namesThird cX0_namesThird 1 (some .boolean) :: BW) { frames := 0, cells := 0, slots := 0, locals := 0 } (va_Pc [.ref (ad 7 v0)] (PRE D cy ad M0 sz)) (QI D cy ad M0 sz r0 M0) 0 0 (AA ad M0 sz) := by
  refine Met.ofW (cc := cX0_namesThird) (maxL := 1) (ret := (some .boolean)) (by decide) rfl ?_
  intro p e s m args below meth c s₁ B hml hv
  obtain ⟨rfl, rfl, hP0, hK, hN⟩ := hv
  have hx := B.exec
  have hb := B.bytes
  have hr := B.returns
  have hts0 := atoms_spec (ws := (Cond.code yX0_namesThird cX0_namesThird 1 (some .boolean) :: BW)) B.pre
  have hts : ∀ w ∈ BW, w.before ([.ref (ad 7 v0)] : List Value).toArray s = true := fun w h => hts0 w (List.mem_cons_of_mem _ h)
  have hown : s.vm.findClass RX0 = some m.cls := findClass_of_methodNamed B.named
  have hlocks := B.notSynchronized
  have hA : ∀ q : Nat, s.heap.size ≤ q → AA ad M0 s.heap.size q := fun q h => Or.inr h
  have C : Cx RX0 cX0_namesThird 1 (some .boolean) D cy (AA ad M0 s.heap.size) p s m ([.ref (ad 7 v0)] : List Value).toArray meth c := ⟨hx, hb, hr, hml, hown, hts, hlocks, hK, hN, hA⟩
  have hP := hp_self (sz := s.heap.size) hP0
  have hS : va_S (AA ad M0 s.heap.size) s.heap s.heap [] := va_S.rf
  have hl := lv_entry ([.ref (ad 7 v0)]) (n := 1) (Nat.le_of_ble_eq_true rfl)
  rw [lg_entry_eq]
  generalize (lg_sl ([.ref (ad 7 v0)]) ++ List.replicate (1 - (lg_sl ([.ref (ad 7 v0)])).length) Slot.unset).toArray = ls at hl ⊢
  have hl : lv_has ls 1 [(0, .ref (ad 7 v0))] := hl
  unfold f_X0_namesThird at hf
  refine lv_aload_n hx hb dX0_namesThird_0 rfl (lv_at hl 0 rfl) ?_
  refine gf7 (v := .int (mI M0 7 v0 0)) hx hb hts hown hK hP a0 0 (by decide) (hts _ q176) rfl rfl dX0_namesThird_1 ?_
  refine lv_iconst (v := (3 : Int32)) hx hb dX0_namesThird_4 (by decide) ?_
  refine lv_icmp_ne (tgt := 12) hx hb dX0_namesThird_5 (by decide) (fun c2 => ?_) (fun c2 => ?_)
  · have hf := if_f hf c2
    refine lv_iconst (v := (0 : Int32)) hx hb dX0_namesThird_12 (by decide) ?_
    exact hp_zret hx hb hr hlocks (Or.inl rfl) (Option.some.inj hf) rfl hP hS keep_rf dX0_namesThird_13
  · have hf := if_t hf c2
    refine lv_iconst (v := (1 : Int32)) hx hb dX0_namesThird_8 (by decide) ?_
    refine lv_goto (tgt := 13) hx hb dX0_namesThird_9 (by decide) ?_
    exact hp_zret hx hb hr hlocks (Or.inr rfl) (Option.some.inj hf) rfl hP hS keep_rf dX0_namesThird_13
def f_X0_hasRunners_29 (M0 : Mm) (v0 : Nat) (v3 : Int32) : Option Int32 :=
  ob (f_X0_namesThird v0 M0) fun r53 => if r53 = 0 then (some (1 : Int32)) else (ob (mR M0 7 v0 1) fun i58 => ob (f_X1_hasRunner i58 v3 M0) fun r62 => if r62 = 0 then (some (0 : Int32)) else (some (1 : Int32)))
def f_X0_hasRunners (v0 : Nat) (v1 : Int32) (v2 : Int32) (v3 : Int32) (M0 : Mm) : Option Int32 :=
  ob (mR M0 7 v0 1) fun i39 => ob (f_X1_hasRunner i39 v1 M0) fun r43 => if r43 = 0 then (some (0 : Int32)) else (ob (f_X0_namesSecond v0 M0) fun r48 => if r48 = 0 then (f_X0_hasRunners_29 M0 v0 v3) else (ob (mR M0 7 v0 2) fun i67 => ob (f_X1_hasRunner i67 v2 M0) fun r71 => if r71 = 0 then (some (0 : Int32)) else (f_X0_hasRunners_29 M0 v0 v3)))
set_option maxRecDepth 100000 in
set_option maxHeartbeats 4000000 in
theorem t_X0_hasRunners_29 {p : Program} {l : Launch} {e : Env} {s : State} {m : MethodId} {args : Array Value} {below : List Frame} {meth : Method} {c : Code} {D : va_G} {cy : Nat → ClassId} {ad : Nat → Nat → Nat} {M0 : Mm} {r0 : Int32} (C : Cx RX0 cX0_hasRunners 4 (some .boolean) D cy (AA ad M0 s.heap.size) p s m args meth c) : ∀ (v0 : Nat) (v3 : Int32) (H : Heap) (locs : List Loc) (ls : Array Slot), (mA M0 7 v0 = true) → f_X0_hasRunners_29 M0 v0 v3 = some r0 → HP D cy (AA ad M0 s.heap.size) ad M0 H → va_S (AA ad M0 s.heap.size) s.heap H locs → lv_has ls 4 [(0, .ref (ad 7 v0)), (3, .int v3)] → W p l e { frames := 1, cells := 0, slots := 0, locals := 21 } s m args below meth c H locs 0 0 (MQ below (QI D cy ad M0 s.heap.size r0 M0) args s 0 0 (AA ad M0 s.heap.size)) (F0 m 29 ls []) := by
  obtain ⟨hx, hb, hr, hml, hown, hts, hlocks, hK, hN, hA⟩ := id C
  intro v0 v3 H locs ls a0 hf hP hS hl
  unfold f_X0_hasRunners_29 at hf
  refine lv_aload_n hx hb dX0_hasRunners_29 rfl (lv_at hl 0 rfl) ?_
  obtain ⟨r53, e52, hf⟩ := ob_some hf
  refine hp_calli (va_runV (As := []) (rest := []) ⟨hx, hb, hml, hown, hts⟩ (ok_X0_namesThird l D cy ad M0 _ v0 r53 a0 e52) (cwV 0 hts (gdV q284 q286 q9 q88 q287) rfl rfl rfl (by decide +kernel) ⟨Nat.le_of_ble_eq_true rfl, Nat.le_of_ble_eq_true rfl⟩) (pre_V hP hK hN a0 ds_7 rfl) rfl rfl hl.1 rfl (lv_room (Nat.le_of_ble_eq_true rfl)) dX0_hasRunners_30 ⟨Nat.le_of_ble_eq_true rfl, Nat.le_of_ble_eq_true rfl⟩) hP hS hA (fun H locs hP hS _ => ?_)
  refine lv_if_eq (tgt := 47) hx hb dX0_hasRunners_33 (by decide) (fun c56 => ?_) (fun c56 => ?_)
  · have hf := if_t hf c56
    refine lv_iconst (v := (1 : Int32)) hx hb dX0_hasRunners_47 (by decide) ?_
    refine lv_goto (tgt := 52) hx hb dX0_hasRunners_48 (by decide) ?_
    exact hp_zret hx hb hr hlocks (Or.inr rfl) (Option.some.inj hf) rfl hP hS keep_rf dX0_hasRunners_52
  · have hf := if_f hf c56
    refine lv_aload_n hx hb dX0_hasRunners_36 rfl (lv_at hl 0 rfl) ?_
    have h57 : ∀ j : Nat, (mR M0 7 v0 1) = some j → mA M0 4 j = true := fun j hj => hp_wf hP a0 hj
    refine gf7 (v := va_rf (((mR M0 7 v0 1)).map (ad 4))) hx hb hts hown hK hP a0 1 (by decide) (hts _ q178) rfl rfl dX0_hasRunners_37 ?_
    refine lv_iload_n hx hb dX0_hasRunners_40 rfl (lv_at hl 1 rfl) ?_
    obtain ⟨i58, e59, hf⟩ := ob_some hf
    have h60 : mA M0 4 i58 = true := h57 i58 e59
    refine W_stk (st := [.int v3, va_rf (((mR M0 7 v0 1)).map (ad 4))]) (st' := [.int v3, .ref (ad 4 i58)]) (by first | (rw [e59]; done) | (rw [e59]; rfl)) ?_
    obtain ⟨r62, e61, hf⟩ := ob_some hf
    refine hp_calli (va_runVN (As := [.int v3]) (rest := []) ⟨hx, hb, hml, hown, hts⟩ (ok_X1_hasRunner l D cy ad M0 _ i58 v3 r62 h60 e61) ⟨va_cnB 1 hts (gd0 q258) rfl rfl rfl (hN.2.1 (RX0, 34, yX1_hasRunner, RX3) (List.mem_of_getElem? (i := 6) rfl)) (hts _ q87) (by decide +kernel) ⟨Nat.le_of_ble_eq_true rfl, Nat.le_of_ble_eq_true rfl⟩, hts _ q257, hts _ q3⟩ (pre_V hP hK hN h60 ds_4 rfl) rfl rfl hl.1 rfl (lv_room (Nat.le_of_ble_eq_true rfl)) dX0_hasRunners_41 ⟨Nat.le_of_ble_eq_true rfl, Nat.le_of_ble_eq_true rfl⟩) hP hS hA (fun H locs hP hS _ => ?_)
    refine lv_if_eq (tgt := 51) hx hb dX0_hasRunners_44 (by decide) (fun c65 => ?_) (fun c65 => ?_)
    · have hf := if_t hf c65
      refine lv_iconst (v := (0 : Int32)) hx hb dX0_hasRunners_51 (by decide) ?_
      exact hp_zret hx hb hr hlocks (Or.inl rfl) (Option.some.inj hf) rfl hP hS keep_rf dX0_hasRunners_52
    · have hf := if_f hf c65
      refine lv_iconst (v := (1 : Int32)) hx hb dX0_hasRunners_47 (by decide) ?_
      refine lv_goto (tgt := 52) hx hb dX0_hasRunners_48 (by decide) ?_
      exact hp_zret hx hb hr hlocks (Or.inr rfl) (Option.some.inj hf) rfl hP hS keep_rf dX0_hasRunners_52
set_option maxRecDepth 100000 in
set_option maxHeartbeats 4000000 in
theorem ok_X0_hasRunners (l : Launch) (D : va_G) (cy : Nat → ClassId) (ad : Nat → Nat → Nat) (M0 : Mm) (sz : Nat) (v0 : Nat) (v1 : Int32) (v2 : Int32) (v3 : Int32) (r0 : Int32) (a0 : mA M0 7 v0 = true) (hf : f_X0_hasRunners v0 v1 v2 v3 M0 = some r0) : Met l yX0_hasRunners (Cond.code yX0_hasRunners cX0_hasRunners 4 (some .boolean) :: BW) { frames := 1, cells := 0, slots := 0, locals := 21 } (va_Pc [.ref (ad 7 v0), .int v1, .int v2, .int v3] (PRE D cy ad M0 sz)) (QI D cy ad M0 sz r0 M0) 0 0 (AA ad M0 sz) := by
  refine Met.ofW (cc := cX0_hasRunners) (maxL := 4) (ret := (some .boolean)) (by decide) rfl ?_
  intro p e s m args below meth c s₁ B hml hv
  obtain ⟨rfl, rfl, hP0, hK, hN⟩ := hv
  have hx := B.exec
  have hb := B.bytes
  have hr := B.returns
  have hts0 := atoms_spec (ws := (Cond.code yX0_hasRunners cX0_hasRunners 4 (some .boolean) :: BW)) B.pre
  have hts : ∀ w ∈ BW, w.before ([.ref (ad 7 v0), .int v1, .int v2, .int v3] : List Value).toArray s = true := fun w h => hts0 w (List.mem_cons_of_mem _ h)
  have hown : s.vm.findClass RX0 = some m.cls := findClass_of_methodNamed B.named
  have hlocks := B.notSynchronized
  have hA : ∀ q : Nat, s.heap.size ≤ q → AA ad M0 s.heap.size q := fun q h => Or.inr h
  have C : Cx RX0 cX0_hasRunners 4 (some .boolean) D cy (AA ad M0 s.heap.size) p s m ([.ref (ad 7 v0), .int v1, .int v2, .int v3] : List Value).toArray meth c := ⟨hx, hb, hr, hml, hown, hts, hlocks, hK, hN, hA⟩
  have hP := hp_self (sz := s.heap.size) hP0
  have hS : va_S (AA ad M0 s.heap.size) s.heap s.heap [] := va_S.rf
  have hl := lv_entry ([.ref (ad 7 v0), .int v1, .int v2, .int v3]) (n := 4) (Nat.le_of_ble_eq_true rfl)
  rw [lg_entry_eq]
  generalize (lg_sl ([.ref (ad 7 v0), .int v1, .int v2, .int v3]) ++ List.replicate (4 - (lg_sl ([.ref (ad 7 v0), .int v1, .int v2, .int v3])).length) Slot.unset).toArray = ls at hl ⊢
  have hl : lv_has ls 4 [(0, .ref (ad 7 v0)), (1, .int v1), (2, .int v2), (3, .int v3)] := hl
  unfold f_X0_hasRunners at hf
  refine lv_aload_n hx hb dX0_hasRunners_0 rfl (lv_at hl 0 rfl) ?_
  have h38 : ∀ j : Nat, (mR M0 7 v0 1) = some j → mA M0 4 j = true := fun j hj => hp_wf hP a0 hj
  refine gf7 (v := va_rf (((mR M0 7 v0 1)).map (ad 4))) hx hb hts hown hK hP a0 1 (by decide) (hts _ q178) rfl rfl dX0_hasRunners_1 ?_
  refine lv_iload_n hx hb dX0_hasRunners_4 rfl (lv_at hl 1 rfl) ?_
  obtain ⟨i39, e40, hf⟩ := ob_some hf
  have h41 : mA M0 4 i39 = true := h38 i39 e40
  refine W_stk (st := [.int v1, va_rf (((mR M0 7 v0 1)).map (ad 4))]) (st' := [.int v1, .ref (ad 4 i39)]) (by first | (rw [e40]; done) | (rw [e40]; rfl)) ?_
  obtain ⟨r43, e42, hf⟩ := ob_some hf
  refine hp_calli (va_runVN (As := [.int v1]) (rest := []) ⟨hx, hb, hml, hown, hts⟩ (ok_X1_hasRunner l D cy ad M0 _ i39 v1 r43 h41 e42) ⟨va_cnB 1 hts (gd0 q258) rfl rfl rfl (hN.2.1 (RX0, 34, yX1_hasRunner, RX3) (List.mem_of_getElem? (i := 6) rfl)) (hts _ q87) (by decide +kernel) ⟨Nat.le_of_ble_eq_true rfl, Nat.le_of_ble_eq_true rfl⟩, hts _ q257, hts _ q3⟩ (pre_V hP hK hN h41 ds_4 rfl) rfl rfl hl.1 rfl (lv_room (Nat.le_of_ble_eq_true rfl)) dX0_hasRunners_5 ⟨Nat.le_of_ble_eq_true rfl, Nat.le_of_ble_eq_true rfl⟩) hP hS hA (fun H locs hP hS _ => ?_)
  refine lv_if_eq (tgt := 51) hx hb dX0_hasRunners_8 (by decide) (fun c46 => ?_) (fun c46 => ?_)
  · have hf := if_t hf c46
    refine lv_iconst (v := (0 : Int32)) hx hb dX0_hasRunners_51 (by decide) ?_
    exact hp_zret hx hb hr hlocks (Or.inl rfl) (Option.some.inj hf) rfl hP hS keep_rf dX0_hasRunners_52
  · have hf := if_f hf c46
    refine lv_aload_n hx hb dX0_hasRunners_11 rfl (lv_at hl 0 rfl) ?_
    obtain ⟨r48, e47, hf⟩ := ob_some hf
    refine hp_calli (va_runV (As := []) (rest := []) ⟨hx, hb, hml, hown, hts⟩ (ok_X0_namesSecond l D cy ad M0 _ v0 r48 a0 e47) (cwV 0 hts (gdV q280 q282 q8 q88 q283) rfl rfl rfl (by decide +kernel) ⟨Nat.le_of_ble_eq_true rfl, Nat.le_of_ble_eq_true rfl⟩) (pre_V hP hK hN a0 ds_7 rfl) rfl rfl hl.1 rfl (lv_room (Nat.le_of_ble_eq_true rfl)) dX0_hasRunners_12 ⟨Nat.le_of_ble_eq_true rfl, Nat.le_of_ble_eq_true rfl⟩) hP hS hA (fun H locs hP hS _ => ?_)
    refine lv_if_eq (tgt := 29) hx hb dX0_hasRunners_15 (by decide) (fun c51 => ?_) (fun c51 => ?_)
    · have hf := if_t hf c51
      exact t_X0_hasRunners_29 C v0 v3 _ _ _ a0 hf hP hS (lv_sub hl [0, 3] rfl)
    · have hf := if_f hf c51
      refine lv_aload_n hx hb dX0_hasRunners_18 rfl (lv_at hl 0 rfl) ?_
      have h66 : ∀ j : Nat, (mR M0 7 v0 2) = some j → mA M0 4 j = true := fun j hj => hp_wf hP a0 hj
      refine gf7 (v := va_rf (((mR M0 7 v0 2)).map (ad 4))) hx hb hts hown hK hP a0 2 (by decide) (hts _ q180) rfl rfl dX0_hasRunners_19 ?_
      refine lv_iload_n hx hb dX0_hasRunners_22 rfl (lv_at hl 2 rfl) ?_
      obtain ⟨i67, e68, hf⟩ := ob_some hf
      have h69 : mA M0 4 i67 = true := h66 i67 e68
      refine W_stk (st := [.int v2, va_rf (((mR M0 7 v0 2)).map (ad 4))]) (st' := [.int v2, .ref (ad 4 i67)]) (by first | (rw [e68]; done) | (rw [e68]; rfl)) ?_
      obtain ⟨r71, e70, hf⟩ := ob_some hf
      refine hp_calli (va_runVN (As := [.int v2]) (rest := []) ⟨hx, hb, hml, hown, hts⟩ (ok_X1_hasRunner l D cy ad M0 _ i67 v2 r71 h69 e70) ⟨va_cnB 1 hts (gd0 q258) rfl rfl rfl (hN.2.1 (RX0, 34, yX1_hasRunner, RX3) (List.mem_of_getElem? (i := 6) rfl)) (hts _ q87) (by decide +kernel) ⟨Nat.le_of_ble_eq_true rfl, Nat.le_of_ble_eq_true rfl⟩, hts _ q257, hts _ q3⟩ (pre_V hP hK hN h69 ds_4 rfl) rfl rfl hl.1 rfl (lv_room (Nat.le_of_ble_eq_true rfl)) dX0_hasRunners_23 ⟨Nat.le_of_ble_eq_true rfl, Nat.le_of_ble_eq_true rfl⟩) hP hS hA (fun H locs hP hS _ => ?_)
      refine lv_if_eq (tgt := 51) hx hb dX0_hasRunners_26 (by decide) (fun c74 => ?_) (fun c74 => ?_)
      · have hf := if_t hf c74
        refine lv_iconst (v := (0 : Int32)) hx hb dX0_hasRunners_51 (by decide) ?_
        exact hp_zret hx hb hr hlocks (Or.inl rfl) (Option.some.inj hf) rfl hP hS keep_rf dX0_hasRunners_52
      · have hf := if_f hf c74
        exact t_X0_hasRunners_29 C v0 v3 _ _ _ a0 hf hP hS (lv_sub hl [0, 3] rfl)
def f_X0_haveStart_29 (M0 : Mm) (v0 : Nat) (v3 : Int32) : Option Int32 :=
  ob (f_X0_namesThird v0 M0) fun r53 => if r53 = 0 then (some (1 : Int32)) else (ob (mR M0 7 v0 1) fun i58 => ob (f_X1_isRunning i58 v3 M0) fun r62 => if r62 = 0 then (some (0 : Int32)) else (some (1 : Int32)))
def f_X0_haveStart (v0 : Nat) (v1 : Int32) (v2 : Int32) (v3 : Int32) (M0 : Mm) : Option Int32 :=
  ob (mR M0 7 v0 1) fun i39 => ob (f_X1_isRunning i39 v1 M0) fun r43 => if r43 = 0 then (some (0 : Int32)) else (ob (f_X0_namesSecond v0 M0) fun r48 => if r48 = 0 then (f_X0_haveStart_29 M0 v0 v3) else (ob (mR M0 7 v0 2) fun i67 => ob (f_X1_isRunning i67 v2 M0) fun r71 => if r71 = 0 then (some (0 : Int32)) else (f_X0_haveStart_29 M0 v0 v3)))
set_option maxRecDepth 100000 in
set_option maxHeartbeats 4000000 in
theorem t_X0_haveStart_29 {p : Program} {l : Launch} {e : Env} {s : State} {m : MethodId} {args : Array Value} {below : List Frame} {meth : Method} {c : Code} {D : va_G} {cy : Nat → ClassId} {ad : Nat → Nat → Nat} {M0 : Mm} {r0 : Int32} (C : Cx RX0 cX0_haveStart 4 (some .boolean) D cy (AA ad M0 s.heap.size) p s m args meth c) : ∀ (v0 : Nat) (v3 : Int32) (H : Heap) (locs : List Loc) (ls : Array Slot), (mA M0 7 v0 = true) → f_X0_haveStart_29 M0 v0 v3 = some r0 → HP D cy (AA ad M0 s.heap.size) ad M0 H → va_S (AA ad M0 s.heap.size) s.heap H locs → lv_has ls 4 [(0, .ref (ad 7 v0)), (3, .int v3)] → W p l e { frames := 2, cells := 0, slots := 0, locals := 42 } s m args below meth c H locs 0 0 (MQ below (QI D cy ad M0 s.heap.size r0 M0) args s 0 0 (AA ad M0 s.heap.size)) (F0 m 29 ls []) := by
  obtain ⟨hx, hb, hr, hml, hown, hts, hlocks, hK, hN, hA⟩ := id C
  intro v0 v3 H locs ls a0 hf hP hS hl
  unfold f_X0_haveStart_29 at hf
  refine lv_aload_n hx hb dX0_haveStart_29 rfl (lv_at hl 0 rfl) ?_
  obtain ⟨r53, e52, hf⟩ := ob_some hf
  refine hp_calli (va_runV (As := []) (rest := []) ⟨hx, hb, hml, hown, hts⟩ (ok_X0_namesThird l D cy ad M0 _ v0 r53 a0 e52) (cwV 0 hts (gdV q284 q286 q9 q88 q287) rfl rfl rfl (by decide +kernel) ⟨Nat.le_of_ble_eq_true rfl, Nat.le_of_ble_eq_true rfl⟩) (pre_V hP hK hN a0 ds_7 rfl) rfl rfl hl.1 rfl (lv_room (Nat.le_of_ble_eq_true rfl)) dX0_haveStart_30 ⟨Nat.le_of_ble_eq_true rfl, Nat.le_of_ble_eq_true rfl⟩) hP hS hA (fun H locs hP hS _ => ?_)
  refine lv_if_eq (tgt := 47) hx hb dX0_haveStart_33 (by decide) (fun c56 => ?_) (fun c56 => ?_)
  · have hf := if_t hf c56
    refine lv_iconst (v := (1 : Int32)) hx hb dX0_haveStart_47 (by decide) ?_
    refine lv_goto (tgt := 52) hx hb dX0_haveStart_48 (by decide) ?_
    exact hp_zret hx hb hr hlocks (Or.inr rfl) (Option.some.inj hf) rfl hP hS keep_rf dX0_haveStart_52
  · have hf := if_f hf c56
    refine lv_aload_n hx hb dX0_haveStart_36 rfl (lv_at hl 0 rfl) ?_
    have h57 : ∀ j : Nat, (mR M0 7 v0 1) = some j → mA M0 4 j = true := fun j hj => hp_wf hP a0 hj
    refine gf7 (v := va_rf (((mR M0 7 v0 1)).map (ad 4))) hx hb hts hown hK hP a0 1 (by decide) (hts _ q178) rfl rfl dX0_haveStart_37 ?_
    refine lv_iload_n hx hb dX0_haveStart_40 rfl (lv_at hl 1 rfl) ?_
    obtain ⟨i58, e59, hf⟩ := ob_some hf
    have h60 : mA M0 4 i58 = true := h57 i58 e59
    refine W_stk (st := [.int v3, va_rf (((mR M0 7 v0 1)).map (ad 4))]) (st' := [.int v3, .ref (ad 4 i58)]) (by first | (rw [e59]; done) | (rw [e59]; rfl)) ?_
    obtain ⟨r62, e61, hf⟩ := ob_some hf
    refine hp_calli (va_runVN (As := [.int v3]) (rest := []) ⟨hx, hb, hml, hown, hts⟩ (ok_X1_isRunning l D cy ad M0 _ i58 v3 r62 h60 e61) ⟨va_cnB 1 hts (gd0 q254) rfl rfl rfl (hN.2.1 (RX0, 45, yX1_isRunning, RX3) (List.mem_of_getElem? (i := 8) rfl)) (hts _ q87) (by decide +kernel) ⟨Nat.le_of_ble_eq_true rfl, Nat.le_of_ble_eq_true rfl⟩, hts _ q253, hts _ q2⟩ (pre_V hP hK hN h60 ds_4 rfl) rfl rfl hl.1 rfl (lv_room (Nat.le_of_ble_eq_true rfl)) dX0_haveStart_41 ⟨Nat.le_of_ble_eq_true rfl, Nat.le_of_ble_eq_true rfl⟩) hP hS hA (fun H locs hP hS _ => ?_)
    refine lv_if_eq (tgt := 51) hx hb dX0_haveStart_44 (by decide) (fun c65 => ?_) (fun c65 => ?_)
    · have hf := if_t hf c65
      refine lv_iconst (v := (0 : Int32)) hx hb dX0_haveStart_51 (by decide) ?_
      exact hp_zret hx hb hr hlocks (Or.inl rfl) (Option.some.inj hf) rfl hP hS keep_rf dX0_haveStart_52
    · have hf := if_f hf c65
      refine lv_iconst (v := (1 : Int32)) hx hb dX0_haveStart_47 (by decide) ?_
      refine lv_goto (tgt := 52) hx hb dX0_haveStart_48 (by decide) ?_
      exact hp_zret hx hb hr hlocks (Or.inr rfl) (Option.some.inj hf) rfl hP hS keep_rf dX0_haveStart_52
set_option maxRecDepth 100000 in
set_option maxHeartbeats 4000000 in
theorem ok_X0_haveStart (l : Launch) (D : va_G) (cy : Nat → ClassId) (ad : Nat → Nat → Nat) (M0 : Mm) (sz : Nat) (v0 : Nat) (v1 : Int32) (v2 : Int32) (v3 : Int32) (r0 : Int32) (a0 : mA M0 7 v0 = true) (hf : f_X0_haveStart v0 v1 v2 v3 M0 = some r0) : Met l yX0_haveStart (Cond.code yX0_haveStart cX0_haveStart 4 (some .boolean) :: BW) { frames := 2, cells := 0, slots := 0, locals := 42 } (va_Pc [.ref (ad 7 v0), .int v1, .int v2, .int v3] (PRE D cy ad M0 sz)) (QI D cy ad M0 sz r0 M0) 0 0 (AA ad M0 sz) := by
  refine Met.ofW (cc := cX0_haveStart) (maxL := 4) (ret := (some .boolean)) (by decide) rfl ?_
  intro p e s m args below meth c s₁ B hml hv
  obtain ⟨rfl, rfl, hP0, hK, hN⟩ := hv
  have hx := B.exec
  have hb := B.bytes
  have hr := B.returns
  have hts0 := atoms_spec (ws := (Cond.code yX0_haveStart cX0_haveStart 4 (some .boolean) :: BW)) B.pre
  have hts : ∀ w ∈ BW, w.before ([.ref (ad 7 v0), .int v1, .int v2, .int v3] : List Value).toArray s = true := fun w h => hts0 w (List.mem_cons_of_mem _ h)
  have hown : s.vm.findClass RX0 = some m.cls := findClass_of_methodNamed B.named
  have hlocks := B.notSynchronized
  have hA : ∀ q : Nat, s.heap.size ≤ q → AA ad M0 s.heap.size q := fun q h => Or.inr h
  have C : Cx RX0 cX0_haveStart 4 (some .boolean) D cy (AA ad M0 s.heap.size) p s m ([.ref (ad 7 v0), .int v1, .int v2, .int v3] : List Value).toArray meth c := ⟨hx, hb, hr, hml, hown, hts, hlocks, hK, hN, hA⟩
  have hP := hp_self (sz := s.heap.size) hP0
  have hS : va_S (AA ad M0 s.heap.size) s.heap s.heap [] := va_S.rf
  have hl := lv_entry ([.ref (ad 7 v0), .int v1, .int v2, .int v3]) (n := 4) (Nat.le_of_ble_eq_true rfl)
  rw [lg_entry_eq]
  generalize (lg_sl ([.ref (ad 7 v0), .int v1, .int v2, .int v3]) ++ List.replicate (4 - (lg_sl ([.ref (ad 7 v0), .int v1, .int v2, .int v3])).length) Slot.unset).toArray = ls at hl ⊢
  have hl : lv_has ls 4 [(0, .ref (ad 7 v0)), (1, .int v1), (2, .int v2), (3, .int v3)] := hl
  unfold f_X0_haveStart at hf
  refine lv_aload_n hx hb dX0_haveStart_0 rfl (lv_at hl 0 rfl) ?_
  have h38 : ∀ j : Nat, (mR M0 7 v0 1) = some j → mA M0 4 j = true := fun j hj => hp_wf hP a0 hj
  refine gf7 (v := va_rf (((mR M0 7 v0 1)).map (ad 4))) hx hb hts hown hK hP a0 1 (by decide) (hts _ q178) rfl rfl dX0_haveStart_1 ?_
  refine lv_iload_n hx hb dX0_haveStart_4 rfl (lv_at hl 1 rfl) ?_
  obtain ⟨i39, e40, hf⟩ := ob_some hf
  have h41 : mA M0 4 i39 = true := h38 i39 e40
  refine W_stk (st := [.int v1, va_rf (((mR M0 7 v0 1)).map (ad 4))]) (st' := [.int v1, .ref (ad 4 i39)]) (by first | (rw [e40]; done) | (rw [e40]; rfl)) ?_
  obtain ⟨r43, e42, hf⟩ := ob_some hf
  refine hp_calli (va_runVN (As := [.int v1]) (rest := []) ⟨hx, hb, hml, hown, hts⟩ (ok_X1_isRunning l D cy ad M0 _ i39 v1 r43 h41 e42) ⟨va_cnB 1 hts (gd0 q254) rfl rfl rfl (hN.2.1 (RX0, 45, yX1_isRunning, RX3) (List.mem_of_getElem? (i := 8) rfl)) (hts _ q87) (by decide +kernel) ⟨Nat.le_of_ble_eq_true rfl, Nat.le_of_ble_eq_true rfl⟩, hts _ q253, hts _ q2⟩ (pre_V hP hK hN h41 ds_4 rfl) rfl rfl hl.1 rfl (lv_room (Nat.le_of_ble_eq_true rfl)) dX0_haveStart_5 ⟨Nat.le_of_ble_eq_true rfl, Nat.le_of_ble_eq_true rfl⟩) hP hS hA (fun H locs hP hS _ => ?_)
  refine lv_if_eq (tgt := 51) hx hb dX0_haveStart_8 (by decide) (fun c46 => ?_) (fun c46 => ?_)
  · have hf := if_t hf c46
    refine lv_iconst (v := (0 : Int32)) hx hb dX0_haveStart_51 (by decide) ?_
    exact hp_zret hx hb hr hlocks (Or.inl rfl) (Option.some.inj hf) rfl hP hS keep_rf dX0_haveStart_52
  · have hf := if_f hf c46
    refine lv_aload_n hx hb dX0_haveStart_11 rfl (lv_at hl 0 rfl) ?_
    obtain ⟨r48, e47, hf⟩ := ob_some hf
    refine hp_calli (va_runV (As := []) (rest := []) ⟨hx, hb, hml, hown, hts⟩ (ok_X0_namesSecond l D cy ad M0 _ v0 r48 a0 e47) (cwV 0 hts (gdV q280 q282 q8 q88 q283) rfl rfl rfl (by decide +kernel) ⟨Nat.le_of_ble_eq_true rfl, Nat.le_of_ble_eq_true rfl⟩) (pre_V hP hK hN a0 ds_7 rfl) rfl rfl hl.1 rfl (lv_room (Nat.le_of_ble_eq_true rfl)) dX0_haveStart_12 ⟨Nat.le_of_ble_eq_true rfl, Nat.le_of_ble_eq_true rfl⟩) hP hS hA (fun H locs hP hS _ => ?_)
    refine lv_if_eq (tgt := 29) hx hb dX0_haveStart_15 (by decide) (fun c51 => ?_) (fun c51 => ?_)
    · have hf := if_t hf c51
      exact t_X0_haveStart_29 C v0 v3 _ _ _ a0 hf hP hS (lv_sub hl [0, 3] rfl)
    · have hf := if_f hf c51
      refine lv_aload_n hx hb dX0_haveStart_18 rfl (lv_at hl 0 rfl) ?_
      have h66 : ∀ j : Nat, (mR M0 7 v0 2) = some j → mA M0 4 j = true := fun j hj => hp_wf hP a0 hj
      refine gf7 (v := va_rf (((mR M0 7 v0 2)).map (ad 4))) hx hb hts hown hK hP a0 2 (by decide) (hts _ q180) rfl rfl dX0_haveStart_19 ?_
      refine lv_iload_n hx hb dX0_haveStart_22 rfl (lv_at hl 2 rfl) ?_
      obtain ⟨i67, e68, hf⟩ := ob_some hf
      have h69 : mA M0 4 i67 = true := h66 i67 e68
      refine W_stk (st := [.int v2, va_rf (((mR M0 7 v0 2)).map (ad 4))]) (st' := [.int v2, .ref (ad 4 i67)]) (by first | (rw [e68]; done) | (rw [e68]; rfl)) ?_
      obtain ⟨r71, e70, hf⟩ := ob_some hf
      refine hp_calli (va_runVN (As := [.int v2]) (rest := []) ⟨hx, hb, hml, hown, hts⟩ (ok_X1_isRunning l D cy ad M0 _ i67 v2 r71 h69 e70) ⟨va_cnB 1 hts (gd0 q254) rfl rfl rfl (hN.2.1 (RX0, 45, yX1_isRunning, RX3) (List.mem_of_getElem? (i := 8) rfl)) (hts _ q87) (by decide +kernel) ⟨Nat.le_of_ble_eq_true rfl, Nat.le_of_ble_eq_true rfl⟩, hts _ q253, hts _ q2⟩ (pre_V hP hK hN h69 ds_4 rfl) rfl rfl hl.1 rfl (lv_room (Nat.le_of_ble_eq_true rfl)) dX0_haveStart_23 ⟨Nat.le_of_ble_eq_true rfl, Nat.le_of_ble_eq_true rfl⟩) hP hS hA (fun H locs hP hS _ => ?_)
      refine lv_if_eq (tgt := 51) hx hb dX0_haveStart_26 (by decide) (fun c74 => ?_) (fun c74 => ?_)
      · have hf := if_t hf c74
        refine lv_iconst (v := (0 : Int32)) hx hb dX0_haveStart_51 (by decide) ?_
        exact hp_zret hx hb hr hlocks (Or.inl rfl) (Option.some.inj hf) rfl hP hS keep_rf dX0_haveStart_52
      · have hf := if_f hf c74
        exact t_X0_haveStart_29 C v0 v3 _ _ _ a0 hf hP hS (lv_sub hl [0, 3] rfl)

def f_X0_namesOneTwice (v0 : Nat) (v1 : Int32) (v2 : Int32) (v3 : Int32) (M0 : Mm) : Option Int32 :=
  if (mI M0 7 v0 0) = (4 : Int32) then (some (0 : Int32)) else (ob (f_X0_namesSecond v0 M0) fun r17 => if r17 = 0 then (some (0 : Int32)) else (if v1 = v2 then (some (1 : Int32)) else (ob (f_X0_namesThird v0 M0) fun r23 => if r23 = 0 then (some (0 : Int32)) else (if v1 = v3 then (some (1 : Int32)) else (if v2 = v3 then (some (1 : Int32)) else (some (0 : Int32)))))))
set_option maxRecDepth 100000 in
set_option maxHeartbeats 4000000 in
theorem ok_X0_namesOneTwice (l : Launch) (D : va_G) (cy : Nat → ClassId) (ad : Nat → Nat → Nat) (M0 : Mm) (sz : Nat) (v0 : Nat) (v1 : Int32) (v2 : Int32) (v3 : Int32) (r0 : Int32) (a0 : mA M0 7 v0 = true) (hf : f_X0_namesOneTwice v0 v1 v2 v3 M0 = some r0) : Met l yX0_namesOneTwice (Cond.code yX0_namesOneTwice cX0_namesOneTwice 4 (some .boolean) :: BW) { frames := 1, cells := 0, slots := 0, locals := 20 } (va_Pc [.ref (ad 7 v0), .int v1, .int v2, .int v3] (PRE D cy ad M0 sz)) (QI D cy ad M0 sz r0 M0) 0 0 (AA ad M0 sz) := by
  refine Met.ofW (cc := cX0_namesOneTwice) (maxL := 4) (ret := (some .boolean)) (by decide) rfl ?_
  intro p e s m args below meth c s₁ B hml hv
  obtain ⟨rfl, rfl, hP0, hK, hN⟩ := hv
  have hx := B.exec
  have hb := B.bytes
  have hr := B.returns
  have hts0 := atoms_spec (ws := (Cond.code yX0_namesOneTwice cX0_namesOneTwice 4 (some .boolean) :: BW)) B.pre
  have hts : ∀ w ∈ BW, w.before ([.ref (ad 7 v0), .int v1, .int v2, .int v3] : List Value).toArray s = true := fun w h => hts0 w (List.mem_cons_of_mem _ h)
  have hown : s.vm.findClass RX0 = some m.cls := findClass_of_methodNamed B.named
  have hlocks := B.notSynchronized
  have hA : ∀ q : Nat, s.heap.size ≤ q → AA ad M0 s.heap.size q := fun q h => Or.inr h
  have C : Cx RX0 cX0_namesOneTwice 4 (some .boolean) D cy (AA ad M0 s.heap.size) p s m ([.ref (ad 7 v0), .int v1, .int v2, .int v3] : List Value).toArray meth c := ⟨hx, hb, hr, hml, hown, hts, hlocks, hK, hN, hA⟩
  have hP := hp_self (sz := s.heap.size) hP0
  have hS : va_S (AA ad M0 s.heap.size) s.heap s.heap [] := va_S.rf
  have hl := lv_entry ([.ref (ad 7 v0), .int v1, .int v2, .int v3]) (n := 4) (Nat.le_of_ble_eq_true rfl)
  rw [lg_entry_eq]
  generalize (lg_sl ([.ref (ad 7 v0), .int v1, .int v2, .int v3]) ++ List.replicate (4 - (lg_sl ([.ref (ad 7 v0), .int v1, .int v2, .int v3])).length) Slot.unset).toArray = ls at hl ⊢
  have hl : lv_has ls 4 [(0, .ref (ad 7 v0)), (1, .int v1), (2, .int v2), (3, .int v3)] := hl
  unfold f_X0_namesOneTwice at hf
  refine lv_aload_n hx hb dX0_namesOneTwice_0 rfl (lv_at hl 0 rfl) ?_
  refine gf7 (v := .int (mI M0 7 v0 0)) hx hb hts hown hK hP a0 0 (by decide) (hts _ q176) rfl rfl dX0_namesOneTwice_1 ?_
  refine lv_iconst (v := (4 : Int32)) hx hb dX0_namesOneTwice_4 (by decide) ?_
  refine lv_icmp_eq (tgt := 15) hx hb dX0_namesOneTwice_5 (by decide) (fun c15 => ?_) (fun c15 => ?_)
  · have hf := if_t hf c15
    refine lv_iconst (v := (0 : Int32)) hx hb dX0_namesOneTwice_15 (by decide) ?_
    exact hp_zret hx hb hr hlocks (Or.inl rfl) (Option.some.inj hf) rfl hP hS keep_rf dX0_namesOneTwice_16
  · have hf := if_f hf c15
    refine lv_aload_n hx hb dX0_namesOneTwice_8 rfl (lv_at hl 0 rfl) ?_
    obtain ⟨r17, e16, hf⟩ := ob_some hf
    refine hp_calli (va_runV (As := []) (rest := []) ⟨hx, hb, hml, hown, hts⟩ (ok_X0_namesSecond l D cy ad M0 _ v0 r17 a0 e16) (cwV 0 hts (gdV q280 q282 q8 q88 q283) rfl rfl rfl (by decide +kernel) ⟨Nat.le_of_ble_eq_true rfl, Nat.le_of_ble_eq_true rfl⟩) (pre_V hP hK hN a0 ds_7 rfl) rfl rfl hl.1 rfl (lv_room (Nat.le_of_ble_eq_true rfl)) dX0_namesOneTwice_9 ⟨Nat.le_of_ble_eq_true rfl, Nat.le_of_ble_eq_true rfl⟩) hP hS hA (fun H locs hP hS _ => ?_)
    refine lv_if_ne (tgt := 17) hx hb dX0_namesOneTwice_12 (by decide) (fun c20 => ?_) (fun c20 => ?_)
    · have hf := if_f hf c20
      refine lv_iload_n hx hb dX0_namesOneTwice_17 rfl (lv_at hl 1 rfl) ?_
      refine lv_iload_n hx hb dX0_namesOneTwice_18 rfl (lv_at hl 2 rfl) ?_
      refine lv_icmp_eq (tgt := 39) hx hb dX0_namesOneTwice_19 (by decide) (fun c21 => ?_) (fun c21 => ?_)
      · have hf := if_t hf c21
        refine lv_iconst (v := (1 : Int32)) hx hb dX0_namesOneTwice_39 (by decide) ?_
        refine lv_goto (tgt := 44) hx hb dX0_namesOneTwice_40 (by decide) ?_
        exact hp_zret hx hb hr hlocks (Or.inr rfl) (Option.some.inj hf) rfl hP hS keep_rf dX0_namesOneTwice_44
      · have hf := if_f hf c21
        refine lv_aload_n hx hb dX0_namesOneTwice_22 rfl (lv_at hl 0 rfl) ?_
        obtain ⟨r23, e22, hf⟩ := ob_some hf
        refine hp_calli (va_runV (As := []) (rest := []) ⟨hx, hb, hml, hown, hts⟩ (ok_X0_namesThird l D cy ad M0 _ v0 r23 a0 e22) (cwV 0 hts (gdV q284 q286 q9 q88 q287) rfl rfl rfl (by decide +kernel) ⟨Nat.le_of_ble_eq_true rfl, Nat.le_of_ble_eq_true rfl⟩) (pre_V hP hK hN a0 ds_7 rfl) rfl rfl hl.1 rfl (lv_room (Nat.le_of_ble_eq_true rfl)) dX0_namesOneTwice_23 ⟨Nat.le_of_ble_eq_true rfl, Nat.le_of_ble_eq_true rfl⟩) hP hS hA (fun H locs hP hS _ => ?_)
        refine lv_if_eq (tgt := 43) hx hb dX0_namesOneTwice_26 (by decide) (fun c26 => ?_) (fun c26 => ?_)
        · have hf := if_t hf c26
          refine lv_iconst (v := (0 : Int32)) hx hb dX0_namesOneTwice_43 (by decide) ?_
          exact hp_zret hx hb hr hlocks (Or.inl rfl) (Option.some.inj hf) rfl hP hS keep_rf dX0_namesOneTwice_44
        · have hf := if_f hf c26
          refine lv_iload_n hx hb dX0_namesOneTwice_29 rfl (lv_at hl 1 rfl) ?_
          refine lv_iload_n hx hb dX0_namesOneTwice_30 rfl (lv_at hl 3 rfl) ?_
          refine lv_icmp_eq (tgt := 39) hx hb dX0_namesOneTwice_31 (by decide) (fun c27 => ?_) (fun c27 => ?_)
          · have hf := if_t hf c27
            refine lv_iconst (v := (1 : Int32)) hx hb dX0_namesOneTwice_39 (by decide) ?_
            refine lv_goto (tgt := 44) hx hb dX0_namesOneTwice_40 (by decide) ?_
            exact hp_zret hx hb hr hlocks (Or.inr rfl) (Option.some.inj hf) rfl hP hS keep_rf dX0_namesOneTwice_44
          · have hf := if_f hf c27
            refine lv_iload_n hx hb dX0_namesOneTwice_34 rfl (lv_at hl 2 rfl) ?_
            refine lv_iload_n hx hb dX0_namesOneTwice_35 rfl (lv_at hl 3 rfl) ?_
            refine lv_icmp_ne (tgt := 43) hx hb dX0_namesOneTwice_36 (by decide) (fun c28 => ?_) (fun c28 => ?_)
            · have hf := if_f hf c28
              refine lv_iconst (v := (0 : Int32)) hx hb dX0_namesOneTwice_43 (by decide) ?_
              exact hp_zret hx hb hr hlocks (Or.inl rfl) (Option.some.inj hf) rfl hP hS keep_rf dX0_namesOneTwice_44
            · have hf := if_t hf c28
              refine lv_iconst (v := (1 : Int32)) hx hb dX0_namesOneTwice_39 (by decide) ?_
              refine lv_goto (tgt := 44) hx hb dX0_namesOneTwice_40 (by decide) ?_
              exact hp_zret hx hb hr hlocks (Or.inr rfl) (Option.some.inj hf) rfl hP hS keep_rf dX0_namesOneTwice_44
    · have hf := if_t hf c20
      refine lv_iconst (v := (0 : Int32)) hx hb dX0_namesOneTwice_15 (by decide) ?_
      exact hp_zret hx hb hr hlocks (Or.inl rfl) (Option.some.inj hf) rfl hP hS keep_rf dX0_namesOneTwice_16

def f_X0_canBeNamed (v0 : Nat) (v1 : Int32) (v2 : Int32) (v3 : Int32) (M0 : Mm) : Option Int32 :=
  ob (f_X0_hasRunners v0 v1 v2 v3 M0) fun r12 => if r12 = 0 then (some (0 : Int32)) else (ob (f_X0_namesOneTwice v0 v1 v2 v3 M0) fun r17 => if r17 = 0 then (some (1 : Int32)) else (some (0 : Int32)))
set_option maxRecDepth 100000 in
set_option maxHeartbeats 4000000 in
theorem ok_X0_canBeNamed (l : Launch) (D : va_G) (cy : Nat → ClassId) (ad : Nat → Nat → Nat) (M0 : Mm) (sz : Nat) (v0 : Nat) (v1 : Int32) (v2 : Int32) (v3 : Int32) (r0 : Int32) (a0 : mA M0 7 v0 = true) (hf : f_X0_canBeNamed v0 v1 v2 v3 M0 = some r0) : Met l yX0_canBeNamed (Cond.code yX0_canBeNamed cX0_canBeNamed 4 (some .boolean) :: BW) { frames := 2, cells := 0, slots := 0, locals := 44 } (va_Pc [.ref (ad 7 v0), .int v1, .int v2, .int v3] (PRE D cy ad M0 sz)) (QI D cy ad M0 sz r0 M0) 0 0 (AA ad M0 sz) := by
  refine Met.ofW (cc := cX0_canBeNamed) (maxL := 4) (ret := (some .boolean)) (by decide) rfl ?_
  intro p e s m args below meth c s₁ B hml hv
  obtain ⟨rfl, rfl, hP0, hK, hN⟩ := hv
  have hx := B.exec
  have hb := B.bytes
  have hr := B.returns
  have hts0 := atoms_spec (ws := (Cond.code yX0_canBeNamed cX0_canBeNamed 4 (some .boolean) :: BW)) B.pre
  have hts : ∀ w ∈ BW, w.before ([.ref (ad 7 v0), .int v1, .int v2, .int v3] : List Value).toArray s = true := fun w h => hts0 w (List.mem_cons_of_mem _ h)
  have hown : s.vm.findClass RX0 = some m.cls := findClass_of_methodNamed B.named
  have hlocks := B.notSynchronized
  have hA : ∀ q : Nat, s.heap.size ≤ q → AA ad M0 s.heap.size q := fun q h => Or.inr h
  have C : Cx RX0 cX0_canBeNamed 4 (some .boolean) D cy (AA ad M0 s.heap.size) p s m ([.ref (ad 7 v0), .int v1, .int v2, .int v3] : List Value).toArray meth c := ⟨hx, hb, hr, hml, hown, hts, hlocks, hK, hN, hA⟩
  have hP := hp_self (sz := s.heap.size) hP0
  have hS : va_S (AA ad M0 s.heap.size) s.heap s.heap [] := va_S.rf
  have hl := lv_entry ([.ref (ad 7 v0), .int v1, .int v2, .int v3]) (n := 4) (Nat.le_of_ble_eq_true rfl)
  rw [lg_entry_eq]
  generalize (lg_sl ([.ref (ad 7 v0), .int v1, .int v2, .int v3]) ++ List.replicate (4 - (lg_sl ([.ref (ad 7 v0), .int v1, .int v2, .int v3])).length) Slot.unset).toArray = ls at hl ⊢
  have hl : lv_has ls 4 [(0, .ref (ad 7 v0)), (1, .int v1), (2, .int v2), (3, .int v3)] := hl
  unfold f_X0_canBeNamed at hf
  refine lv_aload_n hx hb dX0_canBeNamed_0 rfl (lv_at hl 0 rfl) ?_
  refine lv_iload_n hx hb dX0_canBeNamed_1 rfl (lv_at hl 1 rfl) ?_
  refine lv_iload_n hx hb dX0_canBeNamed_2 rfl (lv_at hl 2 rfl) ?_
  refine lv_iload_n hx hb dX0_canBeNamed_3 rfl (lv_at hl 3 rfl) ?_
  obtain ⟨r12, e11, hf⟩ := ob_some hf
  refine hp_calli (va_runV (As := [.int v1, .int v2, .int v3]) (rest := []) ⟨hx, hb, hml, hown, hts⟩ (ok_X0_hasRunners l D cy ad M0 _ v0 v1 v2 v3 r12 a0 e11) (cwV 3 hts (gdV q361 q277 q7 q88 q278) rfl rfl rfl (by decide +kernel) ⟨Nat.le_of_ble_eq_true rfl, Nat.le_of_ble_eq_true rfl⟩) (pre_V hP hK hN a0 ds_7 rfl) rfl rfl hl.1 rfl (lv_room (Nat.le_of_ble_eq_true rfl)) dX0_canBeNamed_4 ⟨Nat.le_of_ble_eq_true rfl, Nat.le_of_ble_eq_true rfl⟩) hP hS hA (fun H locs hP hS _ => ?_)
  refine lv_if_eq (tgt := 24) hx hb dX0_canBeNamed_7 (by decide) (fun c15 => ?_) (fun c15 => ?_)
  · have hf := if_t hf c15
    refine lv_iconst (v := (0 : Int32)) hx hb dX0_canBeNamed_24 (by decide) ?_
    exact hp_zret hx hb hr hlocks (Or.inl rfl) (Option.some.inj hf) rfl hP hS keep_rf dX0_canBeNamed_25
  · have hf := if_f hf c15
    refine lv_aload_n hx hb dX0_canBeNamed_10 rfl (lv_at hl 0 rfl) ?_
    refine lv_iload_n hx hb dX0_canBeNamed_11 rfl (lv_at hl 1 rfl) ?_
    refine lv_iload_n hx hb dX0_canBeNamed_12 rfl (lv_at hl 2 rfl) ?_
    refine lv_iload_n hx hb dX0_canBeNamed_13 rfl (lv_at hl 3 rfl) ?_
    obtain ⟨r17, e16, hf⟩ := ob_some hf
    refine hp_calli (va_runV (As := [.int v1, .int v2, .int v3]) (rest := []) ⟨hx, hb, hml, hown, hts⟩ (ok_X0_namesOneTwice l D cy ad M0 _ v0 v1 v2 v3 r17 a0 e16) (cwV 3 hts (gdV q362 q295 q11 q88 q296) rfl rfl rfl (by decide +kernel) ⟨Nat.le_of_ble_eq_true rfl, Nat.le_of_ble_eq_true rfl⟩) (pre_V hP hK hN a0 ds_7 rfl) rfl rfl hl.1 rfl (lv_room (Nat.le_of_ble_eq_true rfl)) dX0_canBeNamed_14 ⟨Nat.le_of_ble_eq_true rfl, Nat.le_of_ble_eq_true rfl⟩) hP hS hA (fun H locs hP hS _ => ?_)
    refine lv_if_ne (tgt := 24) hx hb dX0_canBeNamed_17 (by decide) (fun c20 => ?_) (fun c20 => ?_)
    · have hf := if_f hf c20
      refine lv_iconst (v := (0 : Int32)) hx hb dX0_canBeNamed_24 (by decide) ?_
      exact hp_zret hx hb hr hlocks (Or.inl rfl) (Option.some.inj hf) rfl hP hS keep_rf dX0_canBeNamed_25
    · have hf := if_t hf c20
      refine lv_iconst (v := (1 : Int32)) hx hb dX0_canBeNamed_20 (by decide) ?_
      refine lv_goto (tgt := 25) hx hb dX0_canBeNamed_21 (by decide) ?_
      exact hp_zret hx hb hr hlocks (Or.inr rfl) (Option.some.inj hf) rfl hP hS keep_rf dX0_canBeNamed_25
def f_X0_isNamed_48 (M0 : Mm) (v1 : Nat) (v2 : Int32) (v3 : Int32) : Option Int32 :=
  if (mI M0 8 v1 3) = v3 then (if (mI M0 8 v1 4) = v2 then (some (1 : Int32)) else (some (0 : Int32))) else (some (0 : Int32))
def f_X0_isNamed (v0 : Nat) (v1 : Nat) (v2 : Int32) (v3 : Int32) (v4 : Int32) (M0 : Mm) : Option Int32 :=
  lt (mI M0 7 v0 0) fun x16 => if x16 = (2 : Int32) then (if (mI M0 8 v1 3) = v2 then (if (mI M0 8 v1 4) = v3 then (some (1 : Int32)) else (f_X0_isNamed_48 M0 v1 v2 v3)) else (f_X0_isNamed_48 M0 v1 v2 v3)) else (if x16 = (3 : Int32) then (if (mI M0 8 v1 3) = v2 then (if (mI M0 8 v1 4) = v3 then (if (mI M0 8 v1 5) = v4 then (some (1 : Int32)) else (some (0 : Int32))) else (some (0 : Int32))) else (some (0 : Int32))) else (if x16 = (4 : Int32) then (if (mI M0 8 v1 3) = v2 then (if (mI M0 8 v1 4) = v3 then (some (1 : Int32)) else (some (0 : Int32))) else (some (0 : Int32))) else (if (mI M0 8 v1 3) = v2 then (some (1 : Int32)) else (some (0 : Int32)))))
set_option maxRecDepth 100000 in
set_option maxHeartbeats 4000000 in
theorem t_X0_isNamed_48 {p : Program} {l : Launch} {e : Env} {s : State} {m : MethodId} {args : Array Value} {below : List Frame} {meth : Method} {c : Code} {D : va_G} {cy : Nat → ClassId} {ad : Nat → Nat → Nat} {M0 : Mm} {r0 : Int32} (C : Cx RX0 cX0_isNamed 5 (some .boolean) D cy (AA ad M0 s.heap.size) p s m args meth c) : ∀ (v1 : Nat) (v2 : Int32) (v3 : Int32) (H : Heap) (locs : List Loc) (ls : Array Slot), (mA M0 8 v1 = true) → f_X0_isNamed_48 M0 v1 v2 v3 = some r0 → HP D cy (AA ad M0 s.heap.size) ad M0 H → va_S (AA ad M0 s.heap.size) s.heap H locs → lv_has ls 5 [(1, .ref (ad 8 v1)), (2, .int v2), (3, .int v3)] → W p l e { frames := 0, cells := 0, slots := 0, locals := 0 } s m args below meth c H locs 0 0 (MQ below (QI D cy ad M0 s.heap.size r0 M0) args s 0 0 (AA ad M0 s.heap.size)) (F0 m 48 ls []) := by
  obtain ⟨hx, hb, hr, hml, hown, hts, hlocks, hK, hN, hA⟩ := id C
  intro v1 v2 v3 H locs ls a1 hf hP hS hl
  unfold f_X0_isNamed_48 at hf
  refine lv_aload_n hx hb dX0_isNamed_48 rfl (lv_at hl 0 rfl) ?_
  refine gf8N (v := .int (mI M0 8 v1 3)) hx hb hts hown hK hP a1 3 (by decide) (va_Nw.use rfl (hN.1 (RX0, 58, "ToteHouse$Ticket", "a", "I", RX3) (List.mem_of_getElem? (i := 25) rfl))) rfl rfl dX0_isNamed_49 ?_
  refine lv_iload_n hx hb dX0_isNamed_52 rfl (lv_at hl 2 rfl) ?_
  refine lv_icmp_ne (tgt := 68) hx hb dX0_isNamed_53 (by decide) (fun c20 => ?_) (fun c20 => ?_)
  · have hf := if_f hf c20
    refine lv_iconst (v := (0 : Int32)) hx hb dX0_isNamed_68 (by decide) ?_
    exact hp_zret hx hb hr hlocks (Or.inl rfl) (Option.some.inj hf) rfl hP hS keep_rf dX0_isNamed_69
  · have hf := if_t hf c20
    refine lv_aload_n hx hb dX0_isNamed_56 rfl (lv_at hl 0 rfl) ?_
    refine gf8N (v := .int (mI M0 8 v1 4)) hx hb hts hown hK hP a1 4 (by decide) (va_Nw.use rfl (hN.1 (RX0, 63, "ToteHouse$Ticket", "b", "I", RX3) (List.mem_of_getElem? (i := 27) rfl))) rfl rfl dX0_isNamed_57 ?_
    refine lv_iload_n hx hb dX0_isNamed_60 rfl (lv_at hl 1 rfl) ?_
    refine lv_icmp_ne (tgt := 68) hx hb dX0_isNamed_61 (by decide) (fun c21 => ?_) (fun c21 => ?_)
    · have hf := if_f hf c21
      refine lv_iconst (v := (0 : Int32)) hx hb dX0_isNamed_68 (by decide) ?_
      exact hp_zret hx hb hr hlocks (Or.inl rfl) (Option.some.inj hf) rfl hP hS keep_rf dX0_isNamed_69
    · have hf := if_t hf c21
      refine lv_iconst (v := (1 : Int32)) hx hb dX0_isNamed_64 (by decide) ?_
      refine lv_goto (tgt := 69) hx hb dX0_isNamed_65 (by decide) ?_
      exact hp_zret hx hb hr hlocks (Or.inr rfl) (Option.some.inj hf) rfl hP hS keep_rf dX0_isNamed_69
set_option maxRecDepth 100000 in
set_option maxHeartbeats 4000000 in
theorem ok_X0_isNamed (l : Launch) (D : va_G) (cy : Nat → ClassId) (ad : Nat → Nat → Nat) (M0 : Mm) (sz : Nat) (v0 : Nat) (v1 : Nat) (v2 : Int32) (v3 : Int32) (v4 : Int32) (r0 : Int32) (a0 : mA M0 7 v0 = true) (a1 : mA M0 8 v1 = true) (hf : f_X0_isNamed v0 v1 v2 v3 v4 M0 = some r0) : Met l yX0_isNamed (Cond.code yX0_isNamed cX0_isNamed 5 (some .boolean) :: BW) { frames := 0, cells := 0, slots := 0, locals := 0 } (va_Pc [.ref (ad 7 v0), .ref (ad 8 v1), .int v2, .int v3, .int v4] (PRE D cy ad M0 sz)) (QI D cy ad M0 sz r0 M0) 0 0 (AA ad M0 sz) := by
  refine Met.ofW (cc := cX0_isNamed) (maxL := 5) (ret := (some .boolean)) (by decide) rfl ?_
  intro p e s m args below meth c s₁ B hml hv
  obtain ⟨rfl, rfl, hP0, hK, hN⟩ := hv
  have hx := B.exec
  have hb := B.bytes
  have hr := B.returns
  have hts0 := atoms_spec (ws := (Cond.code yX0_isNamed cX0_isNamed 5 (some .boolean) :: BW)) B.pre
  have hts : ∀ w ∈ BW, w.before ([.ref (ad 7 v0), .ref (ad 8 v1), .int v2, .int v3, .int v4] : List Value).toArray s = true := fun w h => hts0 w (List.mem_cons_of_mem _ h)
  have hown : s.vm.findClass RX0 = some m.cls := findClass_of_methodNamed B.named
  have hlocks := B.notSynchronized
  have hA : ∀ q : Nat, s.heap.size ≤ q → AA ad M0 s.heap.size q := fun q h => Or.inr h
  have C : Cx RX0 cX0_isNamed 5 (some .boolean) D cy (AA ad M0 s.heap.size) p s m ([.ref (ad 7 v0), .ref (ad 8 v1), .int v2, .int v3, .int v4] : List Value).toArray meth c := ⟨hx, hb, hr, hml, hown, hts, hlocks, hK, hN, hA⟩
  have hP := hp_self (sz := s.heap.size) hP0
  have hS : va_S (AA ad M0 s.heap.size) s.heap s.heap [] := va_S.rf
  have hl := lv_entry ([.ref (ad 7 v0), .ref (ad 8 v1), .int v2, .int v3, .int v4]) (n := 5) (Nat.le_of_ble_eq_true rfl)
  rw [lg_entry_eq]
  generalize (lg_sl ([.ref (ad 7 v0), .ref (ad 8 v1), .int v2, .int v3, .int v4]) ++ List.replicate (5 - (lg_sl ([.ref (ad 7 v0), .ref (ad 8 v1), .int v2, .int v3, .int v4])).length) Slot.unset).toArray = ls at hl ⊢
  have hl : lv_has ls 5 [(0, .ref (ad 7 v0)), (1, .ref (ad 8 v1)), (2, .int v2), (3, .int v3), (4, .int v4)] := hl
  unfold f_X0_isNamed at hf
  refine lv_aload_n hx hb dX0_isNamed_0 rfl (lv_at hl 0 rfl) ?_
  refine gf7 (v := .int (mI M0 7 v0 0)) hx hb hts hown hK hP a0 0 (by decide) (hts _ q176) rfl rfl dX0_isNamed_1 ?_
  obtain ⟨x16, e17, hf⟩ := lt_some hf
  refine W_topI e17 ?_
  by_cases c18 : x16 = (2 : Int32)
  · have hf := if_t hf c18
    refine W_topI c18.symm ?_
    refine lv_tableIn (x := (2 : Int32)) (off := 28) (tgt := 32) hx hb dX0_isNamed_4 (by decide) (by decide) (by decide) (by decide) ?_
    refine lv_aload_n hx hb dX0_isNamed_32 rfl (lv_at hl 1 rfl) ?_
    refine gf8N (v := .int (mI M0 8 v1 3)) hx hb hts hown hK hP a1 3 (by decide) (va_Nw.use rfl (hN.1 (RX0, 58, "ToteHouse$Ticket", "a", "I", RX3) (List.mem_of_getElem? (i := 25) rfl))) rfl rfl dX0_isNamed_33 ?_
    refine lv_iload_n hx hb dX0_isNamed_36 rfl (lv_at hl 2 rfl) ?_
    refine lv_icmp_ne (tgt := 48) hx hb dX0_isNamed_37 (by decide) (fun c19 => ?_) (fun c19 => ?_)
    · have hf := if_f hf c19
      exact t_X0_isNamed_48 C v1 v2 v3 _ _ _ a1 hf hP hS (lv_sub hl [1, 2, 3] rfl)
    · have hf := if_t hf c19
      refine lv_aload_n hx hb dX0_isNamed_40 rfl (lv_at hl 1 rfl) ?_
      refine gf8N (v := .int (mI M0 8 v1 4)) hx hb hts hown hK hP a1 4 (by decide) (va_Nw.use rfl (hN.1 (RX0, 63, "ToteHouse$Ticket", "b", "I", RX3) (List.mem_of_getElem? (i := 27) rfl))) rfl rfl dX0_isNamed_41 ?_
      refine lv_iload_n hx hb dX0_isNamed_44 rfl (lv_at hl 3 rfl) ?_
      refine lv_icmp_eq (tgt := 64) hx hb dX0_isNamed_45 (by decide) (fun c22 => ?_) (fun c22 => ?_)
      · have hf := if_t hf c22
        refine lv_iconst (v := (1 : Int32)) hx hb dX0_isNamed_64 (by decide) ?_
        refine lv_goto (tgt := 69) hx hb dX0_isNamed_65 (by decide) ?_
        exact hp_zret hx hb hr hlocks (Or.inr rfl) (Option.some.inj hf) rfl hP hS keep_rf dX0_isNamed_69
      · have hf := if_f hf c22
        exact t_X0_isNamed_48 C v1 v2 v3 _ _ _ a1 hf hP hS (lv_sub hl [1, 2, 3] rfl)
  have hf := if_f hf c18
  by_cases c23 : x16 = (3 : Int32)
  · have hf := if_t hf c23
    refine W_topI c23.symm ?_
    refine lv_tableIn (x := (3 : Int32)) (off := 66) (tgt := 70) hx hb dX0_isNamed_4 (by decide) (by decide) (by decide) (by decide) ?_
    refine lv_aload_n hx hb dX0_isNamed_70 rfl (lv_at hl 1 rfl) ?_
    refine gf8N (v := .int (mI M0 8 v1 3)) hx hb hts hown hK hP a1 3 (by decide) (va_Nw.use rfl (hN.1 (RX0, 58, "ToteHouse$Ticket", "a", "I", RX3) (List.mem_of_getElem? (i := 25) rfl))) rfl rfl dX0_isNamed_71 ?_
    refine lv_iload_n hx hb dX0_isNamed_74 rfl (lv_at hl 2 rfl) ?_
    refine lv_icmp_ne (tgt := 99) hx hb dX0_isNamed_75 (by decide) (fun c24 => ?_) (fun c24 => ?_)
    · have hf := if_f hf c24
      refine lv_iconst (v := (0 : Int32)) hx hb dX0_isNamed_99 (by decide) ?_
      exact hp_zret hx hb hr hlocks (Or.inl rfl) (Option.some.inj hf) rfl hP hS keep_rf dX0_isNamed_100
    · have hf := if_t hf c24
      refine lv_aload_n hx hb dX0_isNamed_78 rfl (lv_at hl 1 rfl) ?_
      refine gf8N (v := .int (mI M0 8 v1 4)) hx hb hts hown hK hP a1 4 (by decide) (va_Nw.use rfl (hN.1 (RX0, 63, "ToteHouse$Ticket", "b", "I", RX3) (List.mem_of_getElem? (i := 27) rfl))) rfl rfl dX0_isNamed_79 ?_
      refine lv_iload_n hx hb dX0_isNamed_82 rfl (lv_at hl 3 rfl) ?_
      refine lv_icmp_ne (tgt := 99) hx hb dX0_isNamed_83 (by decide) (fun c25 => ?_) (fun c25 => ?_)
      · have hf := if_f hf c25
        refine lv_iconst (v := (0 : Int32)) hx hb dX0_isNamed_99 (by decide) ?_
        exact hp_zret hx hb hr hlocks (Or.inl rfl) (Option.some.inj hf) rfl hP hS keep_rf dX0_isNamed_100
      · have hf := if_t hf c25
        refine lv_aload_n hx hb dX0_isNamed_86 rfl (lv_at hl 1 rfl) ?_
        refine gf8N (v := .int (mI M0 8 v1 5)) hx hb hts hown hK hP a1 5 (by decide) (va_Nw.use rfl (hN.1 (RX0, 66, "ToteHouse$Ticket", "c", "I", RX3) (List.mem_of_getElem? (i := 29) rfl))) rfl rfl dX0_isNamed_87 ?_
        refine lv_iload hx hb dX0_isNamed_90 (lv_at hl 4 rfl) ?_
        refine lv_icmp_ne (tgt := 99) hx hb dX0_isNamed_92 (by decide) (fun c26 => ?_) (fun c26 => ?_)
        · have hf := if_f hf c26
          refine lv_iconst (v := (0 : Int32)) hx hb dX0_isNamed_99 (by decide) ?_
          exact hp_zret hx hb hr hlocks (Or.inl rfl) (Option.some.inj hf) rfl hP hS keep_rf dX0_isNamed_100
        · have hf := if_t hf c26
          refine lv_iconst (v := (1 : Int32)) hx hb dX0_isNamed_95 (by decide) ?_
          refine lv_goto (tgt := 100) hx hb dX0_isNamed_96 (by decide) ?_
          exact hp_zret hx hb hr hlocks (Or.inr rfl) (Option.some.inj hf) rfl hP hS keep_rf dX0_isNamed_100
  have hf := if_f hf c23
  by_cases c27 : x16 = (4 : Int32)
  · have hf := if_t hf c27
    refine W_topI c27.symm ?_
    refine lv_tableIn (x := (4 : Int32)) (off := 97) (tgt := 101) hx hb dX0_isNamed_4 (by decide) (by decide) (by decide) (by decide) ?_
    refine lv_aload_n hx hb dX0_isNamed_101 rfl (lv_at hl 1 rfl) ?_
    refine gf8N (v := .int (mI M0 8 v1 3)) hx hb hts hown hK hP a1 3 (by decide) (va_Nw.use rfl (hN.1 (RX0, 58, "ToteHouse$Ticket", "a", "I", RX3) (List.mem_of_getElem? (i := 25) rfl))) rfl rfl dX0_isNamed_102 ?_
    refine lv_iload_n hx hb dX0_isNamed_105 rfl (lv_at hl 2 rfl) ?_
    refine lv_icmp_ne (tgt := 121) hx hb dX0_isNamed_106 (by decide) (fun c28 => ?_) (fun c28 => ?_)
    · have hf := if_f hf c28
      refine lv_iconst (v := (0 : Int32)) hx hb dX0_isNamed_121 (by decide) ?_
      exact hp_zret hx hb hr hlocks (Or.inl rfl) (Option.some.inj hf) rfl hP hS keep_rf dX0_isNamed_122
    · have hf := if_t hf c28
      refine lv_aload_n hx hb dX0_isNamed_109 rfl (lv_at hl 1 rfl) ?_
      refine gf8N (v := .int (mI M0 8 v1 4)) hx hb hts hown hK hP a1 4 (by decide) (va_Nw.use rfl (hN.1 (RX0, 63, "ToteHouse$Ticket", "b", "I", RX3) (List.mem_of_getElem? (i := 27) rfl))) rfl rfl dX0_isNamed_110 ?_
      refine lv_iload_n hx hb dX0_isNamed_113 rfl (lv_at hl 3 rfl) ?_
      refine lv_icmp_ne (tgt := 121) hx hb dX0_isNamed_114 (by decide) (fun c29 => ?_) (fun c29 => ?_)
      · have hf := if_f hf c29
        refine lv_iconst (v := (0 : Int32)) hx hb dX0_isNamed_121 (by decide) ?_
        exact hp_zret hx hb hr hlocks (Or.inl rfl) (Option.some.inj hf) rfl hP hS keep_rf dX0_isNamed_122
      · have hf := if_t hf c29
        refine lv_iconst (v := (1 : Int32)) hx hb dX0_isNamed_117 (by decide) ?_
        refine lv_goto (tgt := 122) hx hb dX0_isNamed_118 (by decide) ?_
        exact hp_zret hx hb hr hlocks (Or.inr rfl) (Option.some.inj hf) rfl hP hS keep_rf dX0_isNamed_122
  have hf := if_f hf c27
  have hsw : ∀ n : Nat, (n : Int) ≤ (4) - (2) → ¬ x16 = Int32.ofInt ((2) + (n : Int)) := by
    intro n hn
    have hn2 : n = 0 ∨ n = 1 ∨ n = 2 := by omega
    rcases hn2 with rfl | rfl | rfl
    · exact fun z => c18 (z.trans (by decide))
    · exact fun z => c23 (z.trans (by decide))
    · exact fun z => c27 (z.trans (by decide))
  refine lv_tableOut (tgt := 123) hx hb dX0_isNamed_4 (sw_out hsw) (by decide) ?_
  refine lv_aload_n hx hb dX0_isNamed_123 rfl (lv_at hl 1 rfl) ?_
  refine gf8N (v := .int (mI M0 8 v1 3)) hx hb hts hown hK hP a1 3 (by decide) (va_Nw.use rfl (hN.1 (RX0, 58, "ToteHouse$Ticket", "a", "I", RX3) (List.mem_of_getElem? (i := 25) rfl))) rfl rfl dX0_isNamed_124 ?_
  refine lv_iload_n hx hb dX0_isNamed_127 rfl (lv_at hl 2 rfl) ?_
  refine lv_icmp_ne (tgt := 135) hx hb dX0_isNamed_128 (by decide) (fun c30 => ?_) (fun c30 => ?_)
  · have hf := if_f hf c30
    refine lv_iconst (v := (0 : Int32)) hx hb dX0_isNamed_135 (by decide) ?_
    exact hp_zret hx hb hr hlocks (Or.inl rfl) (Option.some.inj hf) rfl hP hS keep_rf dX0_isNamed_136
  · have hf := if_t hf c30
    refine lv_iconst (v := (1 : Int32)) hx hb dX0_isNamed_131 (by decide) ?_
    refine lv_goto (tgt := 136) hx hb dX0_isNamed_132 (by decide) ?_
    exact hp_zret hx hb hr hlocks (Or.inr rfl) (Option.some.inj hf) rfl hP hS keep_rf dX0_isNamed_136
def f_X0_unitsOn_9 (M0 : Mm) : Nat → Nat → Int32 → Int32 → Int32 → Int64 → Option Nat → Option Int64
  | 0, _, _, _, _, _, _ => none
  | n + 1, v0, v1, v2, v3, v4, v6 => on v6 (some v4) fun i22 => ob (f_X2_isLive i22 M0) fun r25 => if r25 = 0 then (f_X0_unitsOn_9 M0 n v0 v1 v2 v3 v4 (mR M0 8 i22 1)) else (ob (f_X0_isNamed v0 i22 v1 v2 v3 M0) fun r31 => if r31 = 0 then (f_X0_unitsOn_9 M0 n v0 v1 v2 v3 v4 (mR M0 8 i22 1)) else (lt (v4 + (((mI M0 8 i22 2)).toInt64)) fun x36 => f_X0_unitsOn_9 M0 n v0 v1 v2 v3 x36 (mR M0 8 i22 1)))
def f_X0_unitsOn (v0 : Nat) (v1 : Int32) (v2 : Int32) (v3 : Int32) (M0 : Mm) : Option Int64 :=
  f_X0_unitsOn_9 M0 FU v0 v1 v2 v3 (0 : Int64) (mR M0 7 v0 5)
set_option maxRecDepth 100000 in
set_option maxHeartbeats 4000000 in
theorem t_X0_unitsOn_9 {p : Program} {l : Launch} {e : Env} {s : State} {m : MethodId} {args : Array Value} {below : List Frame} {meth : Method} {c : Code} {D : va_G} {cy : Nat → ClassId} {ad : Nat → Nat → Nat} {M0 : Mm} {r0 : Int64} (C : Cx RX0 cX0_unitsOn 7 (some .long) D cy (AA ad M0 s.heap.size) p s m args meth c) : ∀ (n : Nat), ∀ (v0 : Nat) (v1 : Int32) (v2 : Int32) (v3 : Int32) (v4 : Int64) (v6 : Option Nat) (H : Heap) (locs : List Loc) (ls : Array Slot), (mA M0 7 v0 = true) → (∀ j : Nat, v6 = some j → mA M0 8 j = true) → f_X0_unitsOn_9 M0 n v0 v1 v2 v3 v4 v6 = some r0 → HP D cy (AA ad M0 s.heap.size) ad M0 H → va_S (AA ad M0 s.heap.size) s.heap H locs → lv_has ls 7 [(0, .ref (ad 7 v0)), (1, .int v1), (2, .int v2), (3, .int v3), (4, .long v4), (6, va_rf (v6.map (ad 8)))] → W p l e { frames := 1, cells := 0, slots := 0, locals := 24 } s m args below meth c H locs 0 0 (MQ below (QJ D cy ad M0 s.heap.size r0 M0) args s 0 0 (AA ad M0 s.heap.size)) (F0 m 9 ls []) := by
  obtain ⟨hx, hb, hr, hml, hown, hts, hlocks, hK, hN, hA⟩ := id C
  intro n
  induction n with
  | zero =>
    intro v0 v1 v2 v3 v4 v6 H locs ls a0 a6 hf hP hS hl
    simp [f_X0_unitsOn_9] at hf
  | succ n ih =>
    intro v0 v1 v2 v3 v4 v6 H locs ls a0 a6 hf hP hS hl
    rw [f_X0_unitsOn_9] at hf
    refine hp_aload (r := (v6).map (ad 8)) hx hb dX0_unitsOn_9 (lv_at hl 5 rfl) ?_
    rcases on_c hf with ⟨e21, hf⟩ | ⟨i22, e21, hf⟩
    · refine W_top (y := .null) (by rw [e21]; rfl) ?_
      refine lv_ifnullN (tgt := 55) hx hb dX0_unitsOn_11 (by decide) ?_
      refine lv_lload hx hb dX0_unitsOn_55 (lv_at hl 4 rfl) ?_
      exact hp_lret hx hb hr hlocks (Option.some.inj hf) rfl hP hS keep_rf dX0_unitsOn_57
    · have h23 : mA M0 8 i22 = true := a6 i22 e21
      rw [e21] at hl
      have hl : lv_has ls 7 [(0, .ref (ad 7 v0)), (1, .int v1), (2, .int v2), (3, .int v3), (4, .long v4), (6, .ref (ad 8 i22))] := hl
      refine W_stk (st := [va_rf ((v6).map (ad 8))]) (st' := [.ref (ad 8 i22)]) (by first | (rw [e21]; done) | (rw [e21]; rfl)) ?_
      refine lv_ifnull hx hb dX0_unitsOn_11 ?_
      refine lv_aload hx hb dX0_unitsOn_14 (lv_at hl 5 rfl) ?_
      obtain ⟨r25, e24, hf⟩ := ob_some hf
      refine hp_calli (va_runVN (As := []) (rest := []) ⟨hx, hb, hml, hown, hts⟩ (ok_X2_isLive l D cy ad M0 _ i22 r25 h23 e24) ⟨va_cnB 0 hts (gd0 q370) rfl rfl rfl (hN.2.1 (RX0, 91, yX2_isLive, RX3) (List.mem_of_getElem? (i := 14) rfl)) (hts _ q89) (by decide +kernel) ⟨Nat.le_of_ble_eq_true rfl, Nat.le_of_ble_eq_true rfl⟩, hts _ q369, hts _ q16⟩ (pre_V hP hK hN h23 ds_8 rfl) rfl rfl hl.1 rfl (lv_room (Nat.le_of_ble_eq_true rfl)) dX0_unitsOn_16 ⟨Nat.le_of_ble_eq_true rfl, Nat.le_of_ble_eq_true rfl⟩) hP hS hA (fun H locs hP hS _ => ?_)
      refine lv_if_eq (tgt := 45) hx hb dX0_unitsOn_19 (by decide) (fun c28 => ?_) (fun c28 => ?_)
      · have hf := if_t hf c28
        refine lv_aload hx hb dX0_unitsOn_45 (lv_at hl 5 rfl) ?_
        have h29 : ∀ j : Nat, (mR M0 8 i22 1) = some j → mA M0 8 j = true := fun j hj => hp_wf hP h23 hj
        refine gf8N (v := va_rf (((mR M0 8 i22 1)).map (ad 8))) hx hb hts hown hK hP h23 1 (by decide) (va_Nw.use rfl (hN.1 (RX0, 85, "ToteHouse$Ticket", "earlier", "LToteHouse$Ticket;", RX3) (List.mem_of_getElem? (i := 21) rfl))) rfl rfl dX0_unitsOn_47 ?_
        refine hp_astore (r := ((mR M0 8 i22 1)).map (ad 8)) (lv' := [(6, va_rf (((mR M0 8 i22 1)).map (ad 8))), (0, .ref (ad 7 v0)), (1, .int v1), (2, .int v2), (3, .int v3), (4, .long v4)]) hx hb dX0_unitsOn_50 hl (by decide) rfl (fun ls hl => ?_)
        refine lv_goto (tgt := 9) hx hb dX0_unitsOn_52 (by decide) ?_
        exact ih v0 v1 v2 v3 v4 (mR M0 8 i22 1) _ _ _ a0 h29 hf hP hS (lv_sub hl [1, 2, 3, 4, 5, 0] rfl)
      · have hf := if_f hf c28
        refine lv_aload_n hx hb dX0_unitsOn_22 rfl (lv_at hl 0 rfl) ?_
        refine lv_aload hx hb dX0_unitsOn_23 (lv_at hl 5 rfl) ?_
        refine lv_iload_n hx hb dX0_unitsOn_25 rfl (lv_at hl 1 rfl) ?_
        refine lv_iload_n hx hb dX0_unitsOn_26 rfl (lv_at hl 2 rfl) ?_
        refine lv_iload_n hx hb dX0_unitsOn_27 rfl (lv_at hl 3 rfl) ?_
        obtain ⟨r31, e30, hf⟩ := ob_some hf
        refine hp_calli (va_runV (As := [.ref (ad 8 i22), .int v1, .int v2, .int v3]) (rest := []) ⟨hx, hb, hml, hown, hts⟩ (ok_X0_isNamed l D cy ad M0 _ v0 i22 v1 v2 v3 r31 a0 h23 e30) (cwV 4 hts (gdV q371 q373 q17 q88 q374) rfl rfl rfl (by decide +kernel) ⟨Nat.le_of_ble_eq_true rfl, Nat.le_of_ble_eq_true rfl⟩) (pre_V hP hK hN a0 ds_7 rfl) rfl rfl hl.1 rfl (lv_room (Nat.le_of_ble_eq_true rfl)) dX0_unitsOn_28 ⟨Nat.le_of_ble_eq_true rfl, Nat.le_of_ble_eq_true rfl⟩) hP hS hA (fun H locs hP hS _ => ?_)
        refine lv_if_eq (tgt := 45) hx hb dX0_unitsOn_31 (by decide) (fun c34 => ?_) (fun c34 => ?_)
        · have hf := if_t hf c34
          refine lv_aload hx hb dX0_unitsOn_45 (lv_at hl 5 rfl) ?_
          have h35 : ∀ j : Nat, (mR M0 8 i22 1) = some j → mA M0 8 j = true := fun j hj => hp_wf hP h23 hj
          refine gf8N (v := va_rf (((mR M0 8 i22 1)).map (ad 8))) hx hb hts hown hK hP h23 1 (by decide) (va_Nw.use rfl (hN.1 (RX0, 85, "ToteHouse$Ticket", "earlier", "LToteHouse$Ticket;", RX3) (List.mem_of_getElem? (i := 21) rfl))) rfl rfl dX0_unitsOn_47 ?_
          refine hp_astore (r := ((mR M0 8 i22 1)).map (ad 8)) (lv' := [(6, va_rf (((mR M0 8 i22 1)).map (ad 8))), (0, .ref (ad 7 v0)), (1, .int v1), (2, .int v2), (3, .int v3), (4, .long v4)]) hx hb dX0_unitsOn_50 hl (by decide) rfl (fun ls hl => ?_)
          refine lv_goto (tgt := 9) hx hb dX0_unitsOn_52 (by decide) ?_
          exact ih v0 v1 v2 v3 v4 (mR M0 8 i22 1) _ _ _ a0 h35 hf hP hS (lv_sub hl [1, 2, 3, 4, 5, 0] rfl)
        · have hf := if_f hf c34
          refine lv_lload hx hb dX0_unitsOn_34 (lv_at hl 4 rfl) ?_
          refine lv_aload hx hb dX0_unitsOn_36 (lv_at hl 5 rfl) ?_
          refine gf8N (v := .int (mI M0 8 i22 2)) hx hb hts hown hK hP h23 2 (by decide) (va_Nw.use rfl (hN.1 (RX0, 98, "ToteHouse$Ticket", "units", "I", RX3) (List.mem_of_getElem? (i := 23) rfl))) rfl rfl dX0_unitsOn_38 ?_
          refine lv_i2l hx hb dX0_unitsOn_41 rfl ?_
          refine lv_ladd hx hb dX0_unitsOn_42 ?_
          obtain ⟨x36, e37, hf⟩ := lt_some hf
          refine W_topJ e37 ?_
          refine lv_lstore (lv' := [(4, .long x36), (0, .ref (ad 7 v0)), (1, .int v1), (2, .int v2), (3, .int v3), (6, .ref (ad 8 i22))]) hx hb dX0_unitsOn_43 hl (by decide) rfl (fun ls hl => ?_)
          refine lv_aload hx hb dX0_unitsOn_45 (lv_at hl 5 rfl) ?_
          have h38 : ∀ j : Nat, (mR M0 8 i22 1) = some j → mA M0 8 j = true := fun j hj => hp_wf hP h23 hj
          refine gf8N (v := va_rf (((mR M0 8 i22 1)).map (ad 8))) hx hb hts hown hK hP h23 1 (by decide) (va_Nw.use rfl (hN.1 (RX0, 85, "ToteHouse$Ticket", "earlier", "LToteHouse$Ticket;", RX3) (List.mem_of_getElem? (i := 21) rfl))) rfl rfl dX0_unitsOn_47 ?_
          refine hp_astore (r := ((mR M0 8 i22 1)).map (ad 8)) (lv' := [(6, va_rf (((mR M0 8 i22 1)).map (ad 8))), (4, .long x36), (0, .ref (ad 7 v0)), (1, .int v1), (2, .int v2), (3, .int v3)]) hx hb dX0_unitsOn_50 hl (by decide) rfl (fun ls hl => ?_)
          refine lv_goto (tgt := 9) hx hb dX0_unitsOn_52 (by decide) ?_
          exact ih v0 v1 v2 v3 x36 (mR M0 8 i22 1) _ _ _ a0 h38 hf hP hS (lv_sub hl [2, 3, 4, 5, 1, 0] rfl)
set_option maxRecDepth 100000 in
set_option maxHeartbeats 4000000 in
theorem ok_X0_unitsOn (l : Launch) (D : va_G) (cy : Nat → ClassId) (ad : Nat → Nat → Nat) (M0 : Mm) (sz : Nat) (v0 : Nat) (v1 : Int32) (v2 : Int32) (v3 : Int32) (r0 : Int64) (a0 : mA M0 7 v0 = true) (hf : f_X0_unitsOn v0 v1 v2 v3 M0 = some r0) : Met l yX0_unitsOn (Cond.code yX0_unitsOn cX0_unitsOn 7 (some .long) :: BW) { frames := 1, cells := 0, slots := 0, locals := 24 } (va_Pc [.ref (ad 7 v0), .int v1, .int v2, .int v3] (PRE D cy ad M0 sz)) (QJ D cy ad M0 sz r0 M0) 0 0 (AA ad M0 sz) := by
  refine Met.ofW (cc := cX0_unitsOn) (maxL := 7) (ret := (some .long)) (by decide) rfl ?_
  intro p e s m args below meth c s₁ B hml hv
  obtain ⟨rfl, rfl, hP0, hK, hN⟩ := hv
  have hx := B.exec
  have hb := B.bytes
  have hr := B.returns
  have hts0 := atoms_spec (ws := (Cond.code yX0_unitsOn cX0_unitsOn 7 (some .long) :: BW)) B.pre
  have hts : ∀ w ∈ BW, w.before ([.ref (ad 7 v0), .int v1, .int v2, .int v3] : List Value).toArray s = true := fun w h => hts0 w (List.mem_cons_of_mem _ h)
  have hown : s.vm.findClass RX0 = some m.cls := findClass_of_methodNamed B.named
  have hlocks := B.notSynchronized
  have hA : ∀ q : Nat, s.heap.size ≤ q → AA ad M0 s.heap.size q := fun q h => Or.inr h
  have C : Cx RX0 cX0_unitsOn 7 (some .long) D cy (AA ad M0 s.heap.size) p s m ([.ref (ad 7 v0), .int v1, .int v2, .int v3] : List Value).toArray meth c := ⟨hx, hb, hr, hml, hown, hts, hlocks, hK, hN, hA⟩
  have hP := hp_self (sz := s.heap.size) hP0
  have hS : va_S (AA ad M0 s.heap.size) s.heap s.heap [] := va_S.rf
  have hl := lv_entry ([.ref (ad 7 v0), .int v1, .int v2, .int v3]) (n := 7) (Nat.le_of_ble_eq_true rfl)
  rw [lg_entry_eq]
  generalize (lg_sl ([.ref (ad 7 v0), .int v1, .int v2, .int v3]) ++ List.replicate (7 - (lg_sl ([.ref (ad 7 v0), .int v1, .int v2, .int v3])).length) Slot.unset).toArray = ls at hl ⊢
  have hl : lv_has ls 7 [(0, .ref (ad 7 v0)), (1, .int v1), (2, .int v2), (3, .int v3)] := hl
  unfold f_X0_unitsOn at hf
  refine lv_lconst (v := (0 : Int64)) hx hb dX0_unitsOn_0 (by decide) ?_
  refine lv_lstore (lv' := [(4, .long (0 : Int64)), (0, .ref (ad 7 v0)), (1, .int v1), (2, .int v2), (3, .int v3)]) hx hb dX0_unitsOn_1 hl (by decide) rfl (fun ls hl => ?_)
  refine lv_aload_n hx hb dX0_unitsOn_3 rfl (lv_at hl 1 rfl) ?_
  have h20 : ∀ j : Nat, (mR M0 7 v0 5) = some j → mA M0 8 j = true := fun j hj => hp_wf hP a0 hj
  refine gf7 (v := va_rf (((mR M0 7 v0 5)).map (ad 8))) hx hb hts hown hK hP a0 5 (by decide) (hts _ q184) rfl rfl dX0_unitsOn_4 ?_
  refine hp_astore (r := ((mR M0 7 v0 5)).map (ad 8)) (lv' := [(6, va_rf (((mR M0 7 v0 5)).map (ad 8))), (4, .long (0 : Int64)), (0, .ref (ad 7 v0)), (1, .int v1), (2, .int v2), (3, .int v3)]) hx hb dX0_unitsOn_7 hl (by decide) rfl (fun ls hl => ?_)
  exact t_X0_unitsOn_9 C FU v0 v1 v2 v3 (0 : Int64) (mR M0 7 v0 5) _ _ _ a0 h20 hf hP hS (lv_sub hl [2, 3, 4, 5, 1, 0] rfl)
def f_X0_refundNaming_42 (k7 : Int32 → Int32 → Option Nat → Mm → Option (Int32 × Mm)) (v1 : Int32) (v2 : Int32) (v3 : Nat) (M : Mm) : Option (Int32 × Mm) :=
  lt (sI M 8 v3 6 (2 : Int32)) fun M24 => lt (v2 + (1 : Int32)) fun x27 => k7 v1 x27 (mR M24 8 v3 1) M24
def f_X0_refundNaming_7 : Nat → Int32 → Int32 → Option Nat → Mm → Option (Int32 × Mm)
  | 0, _, _, _, _ => none
  | n + 1, v1, v2, v3, M => on v3 (some (v2, M)) fun i19 => if (mI M 8 i19 6) = 0 then (if (mI M 8 i19 3) = v1 then (f_X0_refundNaming_42 (f_X0_refundNaming_7 n) v1 v2 i19 M) else (if (mI M 8 i19 4) = v1 then (f_X0_refundNaming_42 (f_X0_refundNaming_7 n) v1 v2 i19 M) else (if (mI M 8 i19 5) = v1 then (f_X0_refundNaming_42 (f_X0_refundNaming_7 n) v1 v2 i19 M) else (f_X0_refundNaming_7 n v1 v2 (mR M 8 i19 1) M)))) else (f_X0_refundNaming_7 n v1 v2 (mR M 8 i19 1) M)
def f_X0_refundNaming (v0 : Nat) (v1 : Int32) (M0 : Mm) : Option (Int32 × Mm) :=
  f_X0_refundNaming_7 FU v1 (0 : Int32) (mR M0 7 v0 5) M0
set_option maxRecDepth 100000 in
set_option maxHeartbeats 4000000 in
theorem t_X0_refundNaming_42 {p : Program} {l : Launch} {e : Env} {s : State} {m : MethodId} {args : Array Value} {below : List Frame} {meth : Method} {c : Code} {D : va_G} {cy : Nat → ClassId} {ad : Nat → Nat → Nat} {M0 : Mm} {r0 : Int32} {M' : Mm} (C : Cx RX0 cX0_refundNaming 4 (some .int) D cy (AA ad M0 s.heap.size) p s m args meth c) (k7 : Int32 → Int32 → Option Nat → Mm → Option (Int32 × Mm)) (hk7 : ∀ (v1 : Int32) (v2 : Int32) (v3 : Option Nat) (M : Mm) (H : Heap) (locs : List Loc) (ls : Array Slot), (∀ j : Nat, v3 = some j → mA M 8 j = true) → Keep M0 M → k7 v1 v2 v3 M = some (r0, M') → HP D cy (AA ad M0 s.heap.size) ad M H → va_S (AA ad M0 s.heap.size) s.heap H locs → lv_has ls 4 [(1, .int v1), (2, .int v2), (3, va_rf (v3.map (ad 8)))] → W p l e { frames := 0, cells := 0, slots := 0, locals := 0 } s m args below meth c H locs 0 0 (MQ below (QI D cy ad M0 s.heap.size r0 M') args s 0 0 (AA ad M0 s.heap.size)) (F0 m 7 ls [])) : ∀ (v1 : Int32) (v2 : Int32) (v3 : Nat) (M : Mm) (H : Heap) (locs : List Loc) (ls : Array Slot), (mA M 8 v3 = true) → Keep M0 M → f_X0_refundNaming_42 k7 v1 v2 v3 M = some (r0, M') → HP D cy (AA ad M0 s.heap.size) ad M H → va_S (AA ad M0 s.heap.size) s.heap H locs → lv_has ls 4 [(1, .int v1), (2, .int v2), (3, .ref (ad 8 v3))] → W p l e { frames := 0, cells := 0, slots := 0, locals := 0 } s m args below meth c H locs 0 0 (MQ below (QI D cy ad M0 s.heap.size r0 M') args s 0 0 (AA ad M0 s.heap.size)) (F0 m 42 ls []) := by
  obtain ⟨hx, hb, hr, hml, hown, hts, hlocks, hK, hN, hA⟩ := id C
  intro v1 v2 v3 M H locs ls a3 hk hf hP hS hl
  unfold f_X0_refundNaming_42 at hf
  refine lv_aload_n hx hb dX0_refundNaming_42 rfl (lv_at hl 2 rfl) ?_
  refine lv_iconst (v := (2 : Int32)) hx hb dX0_refundNaming_43 (by decide) ?_
  obtain ⟨M24, e25, hf⟩ := lt_some hf
  have hk26 : Keep M M24 := keI e25
  refine pI8N (v := (2 : Int32)) hx hb hts hown hK hP hS a3 6 (by decide) (va_Nw.use rfl (hN.1 (RX0, 84, "ToteHouse$Ticket", "state", "I", RX3) (List.mem_of_getElem? (i := 31) rfl))) rfl rfl rfl e25 dX0_refundNaming_44 (fun H locs hP hS => ?_)
  obtain ⟨x27, e28, hf⟩ := lt_some hf
  refine lv_iinc (v := x27) (lv' := [(2, .int x27), (1, .int v1), (3, .ref (ad 8 v3))]) hx hb dX0_refundNaming_47 hl (k := 1) rfl (by rw [e28]; rfl) (by decide) rfl (fun ls hl => ?_)
  refine lv_aload_n hx hb dX0_refundNaming_50 rfl (lv_at hl 2 rfl) ?_
  have h29 : ∀ j : Nat, (mR M24 8 v3 1) = some j → mA M24 8 j = true := fun j hj => hp_wf hP (hk26 _ _ a3) hj
  refine gf8N (v := va_rf (((mR M24 8 v3 1)).map (ad 8))) hx hb hts hown hK hP (hk26 _ _ a3) 1 (by decide) (va_Nw.use rfl (hN.1 (RX0, 85, "ToteHouse$Ticket", "earlier", "LToteHouse$Ticket;", RX3) (List.mem_of_getElem? (i := 21) rfl))) rfl rfl dX0_refundNaming_51 ?_
  refine hp_astore_n (r := ((mR M24 8 v3 1)).map (ad 8)) (lv' := [(3, va_rf (((mR M24 8 v3 1)).map (ad 8))), (2, .int x27), (1, .int v1)]) hx hb dX0_refundNaming_54 rfl hl (by decide) rfl (fun ls hl => ?_)
  refine lv_goto (tgt := 7) hx hb dX0_refundNaming_55 (by decide) ?_
  exact hk7 v1 x27 (mR M24 8 v3 1) M24 _ _ _ h29 (kt hk hk26) hf hP hS (lv_sub hl [2, 1, 0] rfl)
set_option maxRecDepth 100000 in
set_option maxHeartbeats 4000000 in
theorem t_X0_refundNaming_7 {p : Program} {l : Launch} {e : Env} {s : State} {m : MethodId} {args : Array Value} {below : List Frame} {meth : Method} {c : Code} {D : va_G} {cy : Nat → ClassId} {ad : Nat → Nat → Nat} {M0 : Mm} {r0 : Int32} {M' : Mm} (C : Cx RX0 cX0_refundNaming 4 (some .int) D cy (AA ad M0 s.heap.size) p s m args meth c) : ∀ (n : Nat), ∀ (v1 : Int32) (v2 : Int32) (v3 : Option Nat) (M : Mm) (H : Heap) (locs : List Loc) (ls : Array Slot), (∀ j : Nat, v3 = some j → mA M 8 j = true) → Keep M0 M → f_X0_refundNaming_7 n v1 v2 v3 M = some (r0, M') → HP D cy (AA ad M0 s.heap.size) ad M H → va_S (AA ad M0 s.heap.size) s.heap H locs → lv_has ls 4 [(1, .int v1), (2, .int v2), (3, va_rf (v3.map (ad 8)))] → W p l e { frames := 0, cells := 0, slots := 0, locals := 0 } s m args below meth c H locs 0 0 (MQ below (QI D cy ad M0 s.heap.size r0 M') args s 0 0 (AA ad M0 s.heap.size)) (F0 m 7 ls []) := by
  obtain ⟨hx, hb, hr, hml, hown, hts, hlocks, hK, hN, hA⟩ := id C
  intro n
  induction n with
  | zero =>
    intro v1 v2 v3 M H locs ls a3 hk hf hP hS hl
    simp [f_X0_refundNaming_7] at hf
  | succ n ih =>
    intro v1 v2 v3 M H locs ls a3 hk hf hP hS hl
    rw [f_X0_refundNaming_7] at hf
    refine hp_aload_n (r := (v3).map (ad 8)) hx hb dX0_refundNaming_7 rfl (lv_at hl 2 rfl) ?_
    rcases on_c hf with ⟨e18, hf⟩ | ⟨i19, e18, hf⟩
    · refine W_top (y := .null) (by rw [e18]; rfl) ?_
      refine lv_ifnullN (tgt := 58) hx hb dX0_refundNaming_8 (by decide) ?_
      refine lv_iload_n hx hb dX0_refundNaming_58 rfl (lv_at hl 1 rfl) ?_
      exact hp_iret hx hb hr hlocks (congrArg Prod.fst (Option.some.inj hf)) (congrArg Prod.snd (Option.some.inj hf)) hP hS hk dX0_refundNaming_59
    · have h20 : mA M 8 i19 = true := a3 i19 e18
      rw [e18] at hl
      have hl : lv_has ls 4 [(1, .int v1), (2, .int v2), (3, .ref (ad 8 i19))] := hl
      refine W_stk (st := [va_rf ((v3).map (ad 8))]) (st' := [.ref (ad 8 i19)]) (by first | (rw [e18]; done) | (rw [e18]; rfl)) ?_
      refine lv_ifnull hx hb dX0_refundNaming_8 ?_
      refine lv_aload_n hx hb dX0_refundNaming_11 rfl (lv_at hl 2 rfl) ?_
      refine gf8N (v := .int (mI M 8 i19 6)) hx hb hts hown hK hP h20 6 (by decide) (va_Nw.use rfl (hN.1 (RX0, 84, "ToteHouse$Ticket", "state", "I", RX3) (List.mem_of_getElem? (i := 31) rfl))) rfl rfl dX0_refundNaming_12 ?_
      refine lv_if_ne (tgt := 50) hx hb dX0_refundNaming_15 (by decide) (fun c21 => ?_) (fun c21 => ?_)
      · have hf := if_f hf c21
        refine lv_aload_n hx hb dX0_refundNaming_50 rfl (lv_at hl 2 rfl) ?_
        have h22 : ∀ j : Nat, (mR M 8 i19 1) = some j → mA M 8 j = true := fun j hj => hp_wf hP h20 hj
        refine gf8N (v := va_rf (((mR M 8 i19 1)).map (ad 8))) hx hb hts hown hK hP h20 1 (by decide) (va_Nw.use rfl (hN.1 (RX0, 85, "ToteHouse$Ticket", "earlier", "LToteHouse$Ticket;", RX3) (List.mem_of_getElem? (i := 21) rfl))) rfl rfl dX0_refundNaming_51 ?_
        refine hp_astore_n (r := ((mR M 8 i19 1)).map (ad 8)) (lv' := [(3, va_rf (((mR M 8 i19 1)).map (ad 8))), (1, .int v1), (2, .int v2)]) hx hb dX0_refundNaming_54 rfl hl (by decide) rfl (fun ls hl => ?_)
        refine lv_goto (tgt := 7) hx hb dX0_refundNaming_55 (by decide) ?_
        exact ih v1 v2 (mR M 8 i19 1) M _ _ _ h22 hk hf hP hS (lv_sub hl [1, 2, 0] rfl)
      · have hf := if_t hf c21
        refine lv_aload_n hx hb dX0_refundNaming_18 rfl (lv_at hl 2 rfl) ?_
        refine gf8N (v := .int (mI M 8 i19 3)) hx hb hts hown hK hP h20 3 (by decide) (va_Nw.use rfl (hN.1 (RX0, 58, "ToteHouse$Ticket", "a", "I", RX3) (List.mem_of_getElem? (i := 25) rfl))) rfl rfl dX0_refundNaming_19 ?_
        refine lv_iload_n hx hb dX0_refundNaming_22 rfl (lv_at hl 0 rfl) ?_
        refine lv_icmp_eq (tgt := 42) hx hb dX0_refundNaming_23 (by decide) (fun c23 => ?_) (fun c23 => ?_)
        · have hf := if_t hf c23
          exact t_X0_refundNaming_42 C (f_X0_refundNaming_7 n) ih v1 v2 i19 M _ _ _ h20 hk hf hP hS (lv_sub hl [0, 1, 2] rfl)
        · have hf := if_f hf c23
          refine lv_aload_n hx hb dX0_refundNaming_26 rfl (lv_at hl 2 rfl) ?_
          refine gf8N (v := .int (mI M 8 i19 4)) hx hb hts hown hK hP h20 4 (by decide) (va_Nw.use rfl (hN.1 (RX0, 63, "ToteHouse$Ticket", "b", "I", RX3) (List.mem_of_getElem? (i := 27) rfl))) rfl rfl dX0_refundNaming_27 ?_
          refine lv_iload_n hx hb dX0_refundNaming_30 rfl (lv_at hl 0 rfl) ?_
          refine lv_icmp_eq (tgt := 42) hx hb dX0_refundNaming_31 (by decide) (fun c30 => ?_) (fun c30 => ?_)
          · have hf := if_t hf c30
            exact t_X0_refundNaming_42 C (f_X0_refundNaming_7 n) ih v1 v2 i19 M _ _ _ h20 hk hf hP hS (lv_sub hl [0, 1, 2] rfl)
          · have hf := if_f hf c30
            refine lv_aload_n hx hb dX0_refundNaming_34 rfl (lv_at hl 2 rfl) ?_
            refine gf8N (v := .int (mI M 8 i19 5)) hx hb hts hown hK hP h20 5 (by decide) (va_Nw.use rfl (hN.1 (RX0, 66, "ToteHouse$Ticket", "c", "I", RX3) (List.mem_of_getElem? (i := 29) rfl))) rfl rfl dX0_refundNaming_35 ?_
            refine lv_iload_n hx hb dX0_refundNaming_38 rfl (lv_at hl 0 rfl) ?_
            refine lv_icmp_ne (tgt := 50) hx hb dX0_refundNaming_39 (by decide) (fun c31 => ?_) (fun c31 => ?_)
            · have hf := if_f hf c31
              refine lv_aload_n hx hb dX0_refundNaming_50 rfl (lv_at hl 2 rfl) ?_
              have h32 : ∀ j : Nat, (mR M 8 i19 1) = some j → mA M 8 j = true := fun j hj => hp_wf hP h20 hj
              refine gf8N (v := va_rf (((mR M 8 i19 1)).map (ad 8))) hx hb hts hown hK hP h20 1 (by decide) (va_Nw.use rfl (hN.1 (RX0, 85, "ToteHouse$Ticket", "earlier", "LToteHouse$Ticket;", RX3) (List.mem_of_getElem? (i := 21) rfl))) rfl rfl dX0_refundNaming_51 ?_
              refine hp_astore_n (r := ((mR M 8 i19 1)).map (ad 8)) (lv' := [(3, va_rf (((mR M 8 i19 1)).map (ad 8))), (1, .int v1), (2, .int v2)]) hx hb dX0_refundNaming_54 rfl hl (by decide) rfl (fun ls hl => ?_)
              refine lv_goto (tgt := 7) hx hb dX0_refundNaming_55 (by decide) ?_
              exact ih v1 v2 (mR M 8 i19 1) M _ _ _ h32 hk hf hP hS (lv_sub hl [1, 2, 0] rfl)
            · have hf := if_t hf c31
              exact t_X0_refundNaming_42 C (f_X0_refundNaming_7 n) ih v1 v2 i19 M _ _ _ h20 hk hf hP hS (lv_sub hl [0, 1, 2] rfl)
set_option maxRecDepth 100000 in
set_option maxHeartbeats 4000000 in
theorem ok_X0_refundNaming (l : Launch) (D : va_G) (cy : Nat → ClassId) (ad : Nat → Nat → Nat) (M0 : Mm) (sz : Nat) (v0 : Nat) (v1 : Int32) (r0 : Int32) (M' : Mm) (a0 : mA M0 7 v0 = true) (hf : f_X0_refundNaming v0 v1 M0 = some (r0, M')) : Met l yX0_refundNaming (Cond.code yX0_refundNaming cX0_refundNaming 4 (some .int) :: BW) { frames := 0, cells := 0, slots := 0, locals := 0 } (va_Pc [.ref (ad 7 v0), .int v1] (PRE D cy ad M0 sz)) (QI D cy ad M0 sz r0 M') 0 0 (AA ad M0 sz) := by
  refine Met.ofW (cc := cX0_refundNaming) (maxL := 4) (ret := (some .int)) (by decide) rfl ?_
  intro p e s m args below meth c s₁ B hml hv
  obtain ⟨rfl, rfl, hP0, hK, hN⟩ := hv
  have hx := B.exec
  have hb := B.bytes
  have hr := B.returns
  have hts0 := atoms_spec (ws := (Cond.code yX0_refundNaming cX0_refundNaming 4 (some .int) :: BW)) B.pre
  have hts : ∀ w ∈ BW, w.before ([.ref (ad 7 v0), .int v1] : List Value).toArray s = true := fun w h => hts0 w (List.mem_cons_of_mem _ h)
  have hown : s.vm.findClass RX0 = some m.cls := findClass_of_methodNamed B.named
  have hlocks := B.notSynchronized
  have hA : ∀ q : Nat, s.heap.size ≤ q → AA ad M0 s.heap.size q := fun q h => Or.inr h
  have C : Cx RX0 cX0_refundNaming 4 (some .int) D cy (AA ad M0 s.heap.size) p s m ([.ref (ad 7 v0), .int v1] : List Value).toArray meth c := ⟨hx, hb, hr, hml, hown, hts, hlocks, hK, hN, hA⟩
  have hP := hp_self (sz := s.heap.size) hP0
  have hS : va_S (AA ad M0 s.heap.size) s.heap s.heap [] := va_S.rf
  have hl := lv_entry ([.ref (ad 7 v0), .int v1]) (n := 4) (Nat.le_of_ble_eq_true rfl)
  rw [lg_entry_eq]
  generalize (lg_sl ([.ref (ad 7 v0), .int v1]) ++ List.replicate (4 - (lg_sl ([.ref (ad 7 v0), .int v1])).length) Slot.unset).toArray = ls at hl ⊢
  have hl : lv_has ls 4 [(0, .ref (ad 7 v0)), (1, .int v1)] := hl
  unfold f_X0_refundNaming at hf
  refine lv_iconst (v := (0 : Int32)) hx hb dX0_refundNaming_0 (by decide) ?_
  refine lv_istore_n (lv' := [(2, .int (0 : Int32)), (0, .ref (ad 7 v0)), (1, .int v1)]) hx hb dX0_refundNaming_1 rfl hl (by decide) rfl (fun ls hl => ?_)
  refine lv_aload_n hx hb dX0_refundNaming_2 rfl (lv_at hl 1 rfl) ?_
  have h17 : ∀ j : Nat, (mR M0 7 v0 5) = some j → mA M0 8 j = true := fun j hj => hp_wf hP a0 hj
  refine gf7 (v := va_rf (((mR M0 7 v0 5)).map (ad 8))) hx hb hts hown hK hP a0 5 (by decide) (hts _ q184) rfl rfl dX0_refundNaming_3 ?_
  refine hp_astore_n (r := ((mR M0 7 v0 5)).map (ad 8)) (lv' := [(3, va_rf (((mR M0 7 v0 5)).map (ad 8))), (2, .int (0 : Int32)), (0, .ref (ad 7 v0)), (1, .int v1)]) hx hb dX0_refundNaming_6 rfl hl (by decide) rfl (fun ls hl => ?_)
  exact t_X0_refundNaming_7 C FU v1 (0 : Int32) (mR M0 7 v0 5) M0 _ _ _ h17 keep_rf hf hP hS (lv_sub hl [3, 1, 0] rfl)
def f_X0_moveLegs_82 (k8 : Nat → Nat → Int32 → Int32 → Option Nat → Mm → Option (Int32 × Mm)) (v0 : Nat) (v1 : Nat) (v2 : Int32) (v3 : Int32) (v4 : Nat) (v5 : Int32) (M : Mm) : Option (Int32 × Mm) :=
  ob (f_X1_isRunning v1 (mI M 4 v1 6) M) fun r48 => if r48 = 0 then (lt (sI M 8 v4 6 (2 : Int32)) fun M61 => lt (v3 + (1 : Int32)) fun x64 => k8 v0 v1 v2 x64 (mR M61 8 v4 1) M61) else (if v5 = 0 then (lt (sI M 8 v4 4 (mI M 4 v1 6)) fun M53 => k8 v0 v1 v2 v3 (mR M53 8 v4 1) M53) else (lt (sI M 8 v4 3 (mI M 4 v1 6)) fun M57 => k8 v0 v1 v2 v3 (mR M57 8 v4 1) M57))
def f_X0_moveLegs_59 (k8 : Nat → Nat → Int32 → Int32 → Option Nat → Mm → Option (Int32 × Mm)) (v0 : Nat) (v1 : Nat) (v2 : Int32) (v3 : Int32) (v4 : Nat) (v5 : Int32) (w0 : Int32) (M : Mm) : Option (Int32 × Mm) :=
  if (mI M 8 v4 6) = 0 then (if v5 = 0 then (if w0 = 0 then (k8 v0 v1 v2 v3 (mR M 8 v4 1) M) else (f_X0_moveLegs_82 k8 v0 v1 v2 v3 v4 v5 M)) else (f_X0_moveLegs_82 k8 v0 v1 v2 v3 v4 v5 M)) else (k8 v0 v1 v2 v3 (mR M 8 v4 1) M)
def f_X0_moveLegs_58 (k8 : Nat → Nat → Int32 → Int32 → Option Nat → Mm → Option (Int32 × Mm)) (v0 : Nat) (v1 : Nat) (v2 : Int32) (v3 : Int32) (v4 : Nat) (v5 : Int32) (M : Mm) : Option (Int32 × Mm) :=
  f_X0_moveLegs_59 k8 v0 v1 v2 v3 v4 v5 (0 : Int32) M
def f_X0_moveLegs_35 (k8 : Nat → Nat → Int32 → Int32 → Option Nat → Mm → Option (Int32 × Mm)) (v0 : Nat) (v1 : Nat) (v2 : Int32) (v3 : Int32) (v4 : Nat) (w0 : Int32) (M : Mm) : Option (Int32 × Mm) :=
  if (some v1) = (mR M 7 v0 2) then (if (mI M 8 v4 4) = v2 then (f_X0_moveLegs_59 k8 v0 v1 v2 v3 v4 w0 (1 : Int32) M) else (f_X0_moveLegs_58 k8 v0 v1 v2 v3 v4 w0 M)) else (f_X0_moveLegs_58 k8 v0 v1 v2 v3 v4 w0 M)
def f_X0_moveLegs_34 (k8 : Nat → Nat → Int32 → Int32 → Option Nat → Mm → Option (Int32 × Mm)) (v0 : Nat) (v1 : Nat) (v2 : Int32) (v3 : Int32) (v4 : Nat) (M : Mm) : Option (Int32 × Mm) :=
  f_X0_moveLegs_35 k8 v0 v1 v2 v3 v4 (0 : Int32) M
def f_X0_moveLegs_8 : Nat → Nat → Nat → Int32 → Int32 → Option Nat → Mm → Option (Int32 × Mm)
  | 0, _, _, _, _, _, _ => none
  | n + 1, v0, v1, v2, v3, v4, M => on v4 (some (v3, M)) fun i38 => if (some v1) = (mR M 7 v0 1) then (if (mI M 8 i38 3) = v2 then (f_X0_moveLegs_35 (f_X0_moveLegs_8 n) v0 v1 v2 v3 i38 (1 : Int32) M) else (f_X0_moveLegs_34 (f_X0_moveLegs_8 n) v0 v1 v2 v3 i38 M)) else (f_X0_moveLegs_34 (f_X0_moveLegs_8 n) v0 v1 v2 v3 i38 M)
def f_X0_moveLegs (v0 : Nat) (v1 : Nat) (v2 : Int32) (M0 : Mm) : Option (Int32 × Mm) :=
  f_X0_moveLegs_8 FU v0 v1 v2 (0 : Int32) (mR M0 7 v0 5) M0
set_option maxRecDepth 100000 in
set_option maxHeartbeats 4000000 in
theorem t_X0_moveLegs_82 {p : Program} {l : Launch} {e : Env} {s : State} {m : MethodId} {args : Array Value} {below : List Frame} {meth : Method} {c : Code} {D : va_G} {cy : Nat → ClassId} {ad : Nat → Nat → Nat} {M0 : Mm} {r0 : Int32} {M' : Mm} (C : Cx RX0 cX0_moveLegs 7 (some .int) D cy (AA ad M0 s.heap.size) p s m args meth c) (k8 : Nat → Nat → Int32 → Int32 → Option Nat → Mm → Option (Int32 × Mm)) (hk8 : ∀ (v0 : Nat) (v1 : Nat) (v2 : Int32) (v3 : Int32) (v4 : Option Nat) (M : Mm) (H : Heap) (locs : List Loc) (ls : Array Slot), (mA M 7 v0 = true) → (mA M 4 v1 = true) → (∀ j : Nat, v4 = some j → mA M 8 j = true) → Keep M0 M → k8 v0 v1 v2 v3 v4 M = some (r0, M') → HP D cy (AA ad M0 s.heap.size) ad M H → va_S (AA ad M0 s.heap.size) s.heap H locs → lv_has ls 7 [(0, .ref (ad 7 v0)), (1, .ref (ad 4 v1)), (2, .int v2), (3, .int v3), (4, va_rf (v4.map (ad 8)))] → W p l e { frames := 2, cells := 0, slots := 0, locals := 42 } s m args below meth c H locs 0 0 (MQ below (QI D cy ad M0 s.heap.size r0 M') args s 0 0 (AA ad M0 s.heap.size)) (F0 m 8 ls [])) : ∀ (v0 : Nat) (v1 : Nat) (v2 : Int32) (v3 : Int32) (v4 : Nat) (v5 : Int32) (M : Mm) (H : Heap) (locs : List Loc) (ls : Array Slot), (mA M 7 v0 = true) → (mA M 4 v1 = true) → (mA M 8 v4 = true) → Keep M0 M → f_X0_moveLegs_82 k8 v0 v1 v2 v3 v4 v5 M = some (r0, M') → HP D cy (AA ad M0 s.heap.size) ad M H → va_S (AA ad M0 s.heap.size) s.heap H locs → lv_has ls 7 [(0, .ref (ad 7 v0)), (1, .ref (ad 4 v1)), (2, .int v2), (3, .int v3), (4, .ref (ad 8 v4)), (5, .int v5)] → W p l e { frames := 2, cells := 0, slots := 0, locals := 42 } s m args below meth c H locs 0 0 (MQ below (QI D cy ad M0 s.heap.size r0 M') args s 0 0 (AA ad M0 s.heap.size)) (F0 m 82 ls []) := by
  obtain ⟨hx, hb, hr, hml, hown, hts, hlocks, hK, hN, hA⟩ := id C
  intro v0 v1 v2 v3 v4 v5 M H locs ls a0 a1 a4 hk hf hP hS hl
  unfold f_X0_moveLegs_82 at hf
  refine lv_aload_n hx hb dX0_moveLegs_82 rfl (lv_at hl 1 rfl) ?_
  refine lv_aload_n hx hb dX0_moveLegs_83 rfl (lv_at hl 1 rfl) ?_
  refine gf4N (v := .int (mI M 4 v1 6)) hx hb hts hown hK hP a1 6 (by decide) (va_Nw.use rfl (hN.1 (RX0, 88, "ToteHouse$Race", "substituteRunner", "I", RX3) (List.mem_of_getElem? (i := 7) rfl))) rfl rfl dX0_moveLegs_84 ?_
  obtain ⟨r48, e47, hf⟩ := ob_some hf
  refine hp_calli (va_runVN (As := [.int (mI M 4 v1 6)]) (rest := []) ⟨hx, hb, hml, hown, hts⟩ (ok_X1_isRunning l D cy ad M _ v1 (mI M 4 v1 6) r48 a1 e47) ⟨va_cnB 1 hts (gd0 q254) rfl rfl rfl (hN.2.1 (RX0, 45, yX1_isRunning, RX3) (List.mem_of_getElem? (i := 8) rfl)) (hts _ q87) (by decide +kernel) ⟨Nat.le_of_ble_eq_true rfl, Nat.le_of_ble_eq_true rfl⟩, hts _ q253, hts _ q2⟩ (pre_V hP hK hN a1 ds_4 rfl) rfl rfl hl.1 rfl (lv_room (Nat.le_of_ble_eq_true rfl)) dX0_moveLegs_87 ⟨Nat.le_of_ble_eq_true rfl, Nat.le_of_ble_eq_true rfl⟩) hP hS hA (fun H locs hP hS _ => ?_)
  refine lv_if_ne (tgt := 105) hx hb dX0_moveLegs_90 (by decide) (fun c51 => ?_) (fun c51 => ?_)
  · have hf := if_f hf c51
    refine lv_iload hx hb dX0_moveLegs_105 (lv_at hl 5 rfl) ?_
    refine lv_if_eq (tgt := 122) hx hb dX0_moveLegs_107 (by decide) (fun c52 => ?_) (fun c52 => ?_)
    · have hf := if_t hf c52
      refine lv_aload hx hb dX0_moveLegs_122 (lv_at hl 4 rfl) ?_
      refine lv_aload_n hx hb dX0_moveLegs_124 rfl (lv_at hl 1 rfl) ?_
      refine gf4N (v := .int (mI M 4 v1 6)) hx hb hts hown hK hP a1 6 (by decide) (va_Nw.use rfl (hN.1 (RX0, 88, "ToteHouse$Race", "substituteRunner", "I", RX3) (List.mem_of_getElem? (i := 7) rfl))) rfl rfl dX0_moveLegs_125 ?_
      obtain ⟨M53, e54, hf⟩ := lt_some hf
      have hk55 : Keep M M53 := keI e54
      refine pI8N (v := (mI M 4 v1 6)) hx hb hts hown hK hP hS a4 4 (by decide) (va_Nw.use rfl (hN.1 (RX0, 63, "ToteHouse$Ticket", "b", "I", RX3) (List.mem_of_getElem? (i := 27) rfl))) rfl rfl rfl e54 dX0_moveLegs_128 (fun H locs hP hS => ?_)
      refine lv_aload hx hb dX0_moveLegs_131 (lv_at hl 4 rfl) ?_
      have h56 : ∀ j : Nat, (mR M53 8 v4 1) = some j → mA M53 8 j = true := fun j hj => hp_wf hP (hk55 _ _ a4) hj
      refine gf8N (v := va_rf (((mR M53 8 v4 1)).map (ad 8))) hx hb hts hown hK hP (hk55 _ _ a4) 1 (by decide) (va_Nw.use rfl (hN.1 (RX0, 85, "ToteHouse$Ticket", "earlier", "LToteHouse$Ticket;", RX3) (List.mem_of_getElem? (i := 21) rfl))) rfl rfl dX0_moveLegs_133 ?_
      refine hp_astore (r := ((mR M53 8 v4 1)).map (ad 8)) (lv' := [(4, va_rf (((mR M53 8 v4 1)).map (ad 8))), (0, .ref (ad 7 v0)), (1, .ref (ad 4 v1)), (2, .int v2), (3, .int v3), (5, .int v5)]) hx hb dX0_moveLegs_136 hl (by decide) rfl (fun ls hl => ?_)
      refine lv_goto (tgt := 8) hx hb dX0_moveLegs_138 (by decide) ?_
      exact hk8 v0 v1 v2 v3 (mR M53 8 v4 1) M53 _ _ _ (hk55 _ _ a0) (hk55 _ _ a1) h56 (kt hk hk55) hf hP hS (lv_sub hl [1, 2, 3, 4, 0] rfl)
    · have hf := if_f hf c52
      refine lv_aload hx hb dX0_moveLegs_110 (lv_at hl 4 rfl) ?_
      refine lv_aload_n hx hb dX0_moveLegs_112 rfl (lv_at hl 1 rfl) ?_
      refine gf4N (v := .int (mI M 4 v1 6)) hx hb hts hown hK hP a1 6 (by decide) (va_Nw.use rfl (hN.1 (RX0, 88, "ToteHouse$Race", "substituteRunner", "I", RX3) (List.mem_of_getElem? (i := 7) rfl))) rfl rfl dX0_moveLegs_113 ?_
      obtain ⟨M57, e58, hf⟩ := lt_some hf
      have hk59 : Keep M M57 := keI e58
      refine pI8N (v := (mI M 4 v1 6)) hx hb hts hown hK hP hS a4 3 (by decide) (va_Nw.use rfl (hN.1 (RX0, 58, "ToteHouse$Ticket", "a", "I", RX3) (List.mem_of_getElem? (i := 25) rfl))) rfl rfl rfl e58 dX0_moveLegs_116 (fun H locs hP hS => ?_)
      refine lv_goto (tgt := 131) hx hb dX0_moveLegs_119 (by decide) ?_
      refine lv_aload hx hb dX0_moveLegs_131 (lv_at hl 4 rfl) ?_
      have h60 : ∀ j : Nat, (mR M57 8 v4 1) = some j → mA M57 8 j = true := fun j hj => hp_wf hP (hk59 _ _ a4) hj
      refine gf8N (v := va_rf (((mR M57 8 v4 1)).map (ad 8))) hx hb hts hown hK hP (hk59 _ _ a4) 1 (by decide) (va_Nw.use rfl (hN.1 (RX0, 85, "ToteHouse$Ticket", "earlier", "LToteHouse$Ticket;", RX3) (List.mem_of_getElem? (i := 21) rfl))) rfl rfl dX0_moveLegs_133 ?_
      refine hp_astore (r := ((mR M57 8 v4 1)).map (ad 8)) (lv' := [(4, va_rf (((mR M57 8 v4 1)).map (ad 8))), (0, .ref (ad 7 v0)), (1, .ref (ad 4 v1)), (2, .int v2), (3, .int v3), (5, .int v5)]) hx hb dX0_moveLegs_136 hl (by decide) rfl (fun ls hl => ?_)
      refine lv_goto (tgt := 8) hx hb dX0_moveLegs_138 (by decide) ?_
      exact hk8 v0 v1 v2 v3 (mR M57 8 v4 1) M57 _ _ _ (hk59 _ _ a0) (hk59 _ _ a1) h60 (kt hk hk59) hf hP hS (lv_sub hl [1, 2, 3, 4, 0] rfl)
  · have hf := if_t hf c51
    refine lv_aload hx hb dX0_moveLegs_93 (lv_at hl 4 rfl) ?_
    refine lv_iconst (v := (2 : Int32)) hx hb dX0_moveLegs_95 (by decide) ?_
    obtain ⟨M61, e62, hf⟩ := lt_some hf
    have hk63 : Keep M M61 := keI e62
    refine pI8N (v := (2 : Int32)) hx hb hts hown hK hP hS a4 6 (by decide) (va_Nw.use rfl (hN.1 (RX0, 84, "ToteHouse$Ticket", "state", "I", RX3) (List.mem_of_getElem? (i := 31) rfl))) rfl rfl rfl e62 dX0_moveLegs_96 (fun H locs hP hS => ?_)
    obtain ⟨x64, e65, hf⟩ := lt_some hf
    refine lv_iinc (v := x64) (lv' := [(3, .int x64), (0, .ref (ad 7 v0)), (1, .ref (ad 4 v1)), (2, .int v2), (4, .ref (ad 8 v4)), (5, .int v5)]) hx hb dX0_moveLegs_99 hl (k := 3) rfl (by rw [e65]; rfl) (by decide) rfl (fun ls hl => ?_)
    refine lv_goto (tgt := 131) hx hb dX0_moveLegs_102 (by decide) ?_
    refine lv_aload hx hb dX0_moveLegs_131 (lv_at hl 4 rfl) ?_
    have h66 : ∀ j : Nat, (mR M61 8 v4 1) = some j → mA M61 8 j = true := fun j hj => hp_wf hP (hk63 _ _ a4) hj
    refine gf8N (v := va_rf (((mR M61 8 v4 1)).map (ad 8))) hx hb hts hown hK hP (hk63 _ _ a4) 1 (by decide) (va_Nw.use rfl (hN.1 (RX0, 85, "ToteHouse$Ticket", "earlier", "LToteHouse$Ticket;", RX3) (List.mem_of_getElem? (i := 21) rfl))) rfl rfl dX0_moveLegs_133 ?_
    refine hp_astore (r := ((mR M61 8 v4 1)).map (ad 8)) (lv' := [(4, va_rf (((mR M61 8 v4 1)).map (ad 8))), (3, .int x64), (0, .ref (ad 7 v0)), (1, .ref (ad 4 v1)), (2, .int v2), (5, .int v5)]) hx hb dX0_moveLegs_136 hl (by decide) rfl (fun ls hl => ?_)
    refine lv_goto (tgt := 8) hx hb dX0_moveLegs_138 (by decide) ?_
    exact hk8 v0 v1 v2 x64 (mR M61 8 v4 1) M61 _ _ _ (hk63 _ _ a0) (hk63 _ _ a1) h66 (kt hk hk63) hf hP hS (lv_sub hl [2, 3, 4, 1, 0] rfl)
set_option maxRecDepth 100000 in
set_option maxHeartbeats 4000000 in
theorem t_X0_moveLegs_59 {p : Program} {l : Launch} {e : Env} {s : State} {m : MethodId} {args : Array Value} {below : List Frame} {meth : Method} {c : Code} {D : va_G} {cy : Nat → ClassId} {ad : Nat → Nat → Nat} {M0 : Mm} {r0 : Int32} {M' : Mm} (C : Cx RX0 cX0_moveLegs 7 (some .int) D cy (AA ad M0 s.heap.size) p s m args meth c) (k8 : Nat → Nat → Int32 → Int32 → Option Nat → Mm → Option (Int32 × Mm)) (hk8 : ∀ (v0 : Nat) (v1 : Nat) (v2 : Int32) (v3 : Int32) (v4 : Option Nat) (M : Mm) (H : Heap) (locs : List Loc) (ls : Array Slot), (mA M 7 v0 = true) → (mA M 4 v1 = true) → (∀ j : Nat, v4 = some j → mA M 8 j = true) → Keep M0 M → k8 v0 v1 v2 v3 v4 M = some (r0, M') → HP D cy (AA ad M0 s.heap.size) ad M H → va_S (AA ad M0 s.heap.size) s.heap H locs → lv_has ls 7 [(0, .ref (ad 7 v0)), (1, .ref (ad 4 v1)), (2, .int v2), (3, .int v3), (4, va_rf (v4.map (ad 8)))] → W p l e { frames := 2, cells := 0, slots := 0, locals := 42 } s m args below meth c H locs 0 0 (MQ below (QI D cy ad M0 s.heap.size r0 M') args s 0 0 (AA ad M0 s.heap.size)) (F0 m 8 ls [])) : ∀ (v0 : Nat) (v1 : Nat) (v2 : Int32) (v3 : Int32) (v4 : Nat) (v5 : Int32) (w0 : Int32) (M : Mm) (H : Heap) (locs : List Loc) (ls : Array Slot), (mA M 7 v0 = true) → (mA M 4 v1 = true) → (mA M 8 v4 = true) → Keep M0 M → f_X0_moveLegs_59 k8 v0 v1 v2 v3 v4 v5 w0 M = some (r0, M') → HP D cy (AA ad M0 s.heap.size) ad M H → va_S (AA ad M0 s.heap.size) s.heap H locs → lv_has ls 7 [(0, .ref (ad 7 v0)), (1, .ref (ad 4 v1)), (2, .int v2), (3, .int v3), (4, .ref (ad 8 v4)), (5, .int v5)] → W p l e { frames := 2, cells := 0, slots := 0, locals := 42 } s m args below meth c H locs 0 0 (MQ below (QI D cy ad M0 s.heap.size r0 M') args s 0 0 (AA ad M0 s.heap.size)) (F0 m 59 ls [.int w0]) := by
  obtain ⟨hx, hb, hr, hml, hown, hts, hlocks, hK, hN, hA⟩ := id C
  intro v0 v1 v2 v3 v4 v5 w0 M H locs ls a0 a1 a4 hk hf hP hS hl
  unfold f_X0_moveLegs_59 at hf
  refine lv_istore (lv' := [(6, .int w0), (0, .ref (ad 7 v0)), (1, .ref (ad 4 v1)), (2, .int v2), (3, .int v3), (4, .ref (ad 8 v4)), (5, .int v5)]) hx hb dX0_moveLegs_59 hl (by decide) rfl (fun ls hl => ?_)
  refine lv_aload hx hb dX0_moveLegs_61 (lv_at hl 5 rfl) ?_
  refine gf8N (v := .int (mI M 8 v4 6)) hx hb hts hown hK hP a4 6 (by decide) (va_Nw.use rfl (hN.1 (RX0, 84, "ToteHouse$Ticket", "state", "I", RX3) (List.mem_of_getElem? (i := 31) rfl))) rfl rfl dX0_moveLegs_63 ?_
  refine lv_if_ne (tgt := 131) hx hb dX0_moveLegs_66 (by decide) (fun c44 => ?_) (fun c44 => ?_)
  · have hf := if_f hf c44
    refine lv_aload hx hb dX0_moveLegs_131 (lv_at hl 5 rfl) ?_
    have h45 : ∀ j : Nat, (mR M 8 v4 1) = some j → mA M 8 j = true := fun j hj => hp_wf hP a4 hj
    refine gf8N (v := va_rf (((mR M 8 v4 1)).map (ad 8))) hx hb hts hown hK hP a4 1 (by decide) (va_Nw.use rfl (hN.1 (RX0, 85, "ToteHouse$Ticket", "earlier", "LToteHouse$Ticket;", RX3) (List.mem_of_getElem? (i := 21) rfl))) rfl rfl dX0_moveLegs_133 ?_
    refine hp_astore (r := ((mR M 8 v4 1)).map (ad 8)) (lv' := [(4, va_rf (((mR M 8 v4 1)).map (ad 8))), (6, .int w0), (0, .ref (ad 7 v0)), (1, .ref (ad 4 v1)), (2, .int v2), (3, .int v3), (5, .int v5)]) hx hb dX0_moveLegs_136 hl (by decide) rfl (fun ls hl => ?_)
    refine lv_goto (tgt := 8) hx hb dX0_moveLegs_138 (by decide) ?_
    exact hk8 v0 v1 v2 v3 (mR M 8 v4 1) M _ _ _ a0 a1 h45 hk hf hP hS (lv_sub hl [2, 3, 4, 5, 0] rfl)
  · have hf := if_t hf c44
    refine lv_iload hx hb dX0_moveLegs_69 (lv_at hl 6 rfl) ?_
    refine lv_if_ne (tgt := 82) hx hb dX0_moveLegs_71 (by decide) (fun c46 => ?_) (fun c46 => ?_)
    · have hf := if_f hf c46
      exact t_X0_moveLegs_82 C k8 hk8 v0 v1 v2 v3 v4 v5 M _ _ _ a0 a1 a4 hk hf hP hS (lv_sub hl [1, 2, 3, 4, 5, 6] rfl)
    · have hf := if_t hf c46
      refine lv_iload hx hb dX0_moveLegs_74 (lv_at hl 0 rfl) ?_
      refine lv_if_ne (tgt := 82) hx hb dX0_moveLegs_76 (by decide) (fun c67 => ?_) (fun c67 => ?_)
      · have hf := if_f hf c67
        exact t_X0_moveLegs_82 C k8 hk8 v0 v1 v2 v3 v4 v5 M _ _ _ a0 a1 a4 hk hf hP hS (lv_sub hl [1, 2, 3, 4, 5, 6] rfl)
      · have hf := if_t hf c67
        refine lv_goto (tgt := 131) hx hb dX0_moveLegs_79 (by decide) ?_
        refine lv_aload hx hb dX0_moveLegs_131 (lv_at hl 5 rfl) ?_
        have h68 : ∀ j : Nat, (mR M 8 v4 1) = some j → mA M 8 j = true := fun j hj => hp_wf hP a4 hj
        refine gf8N (v := va_rf (((mR M 8 v4 1)).map (ad 8))) hx hb hts hown hK hP a4 1 (by decide) (va_Nw.use rfl (hN.1 (RX0, 85, "ToteHouse$Ticket", "earlier", "LToteHouse$Ticket;", RX3) (List.mem_of_getElem? (i := 21) rfl))) rfl rfl dX0_moveLegs_133 ?_
        refine hp_astore (r := ((mR M 8 v4 1)).map (ad 8)) (lv' := [(4, va_rf (((mR M 8 v4 1)).map (ad 8))), (6, .int w0), (0, .ref (ad 7 v0)), (1, .ref (ad 4 v1)), (2, .int v2), (3, .int v3), (5, .int v5)]) hx hb dX0_moveLegs_136 hl (by decide) rfl (fun ls hl => ?_)
        refine lv_goto (tgt := 8) hx hb dX0_moveLegs_138 (by decide) ?_
        exact hk8 v0 v1 v2 v3 (mR M 8 v4 1) M _ _ _ a0 a1 h68 hk hf hP hS (lv_sub hl [2, 3, 4, 5, 0] rfl)
set_option maxRecDepth 100000 in
set_option maxHeartbeats 4000000 in
theorem t_X0_moveLegs_58 {p : Program} {l : Launch} {e : Env} {s : State} {m : MethodId} {args : Array Value} {below : List Frame} {meth : Method} {c : Code} {D : va_G} {cy : Nat → ClassId} {ad : Nat → Nat → Nat} {M0 : Mm} {r0 : Int32} {M' : Mm} (C : Cx RX0 cX0_moveLegs 7 (some .int) D cy (AA ad M0 s.heap.size) p s m args meth c) (k8 : Nat → Nat → Int32 → Int32 → Option Nat → Mm → Option (Int32 × Mm)) (hk8 : ∀ (v0 : Nat) (v1 : Nat) (v2 : Int32) (v3 : Int32) (v4 : Option Nat) (M : Mm) (H : Heap) (locs : List Loc) (ls : Array Slot), (mA M 7 v0 = true) → (mA M 4 v1 = true) → (∀ j : Nat, v4 = some j → mA M 8 j = true) → Keep M0 M → k8 v0 v1 v2 v3 v4 M = some (r0, M') → HP D cy (AA ad M0 s.heap.size) ad M H → va_S (AA ad M0 s.heap.size) s.heap H locs → lv_has ls 7 [(0, .ref (ad 7 v0)), (1, .ref (ad 4 v1)), (2, .int v2), (3, .int v3), (4, va_rf (v4.map (ad 8)))] → W p l e { frames := 2, cells := 0, slots := 0, locals := 42 } s m args below meth c H locs 0 0 (MQ below (QI D cy ad M0 s.heap.size r0 M') args s 0 0 (AA ad M0 s.heap.size)) (F0 m 8 ls [])) : ∀ (v0 : Nat) (v1 : Nat) (v2 : Int32) (v3 : Int32) (v4 : Nat) (v5 : Int32) (M : Mm) (H : Heap) (locs : List Loc) (ls : Array Slot), (mA M 7 v0 = true) → (mA M 4 v1 = true) → (mA M 8 v4 = true) → Keep M0 M → f_X0_moveLegs_58 k8 v0 v1 v2 v3 v4 v5 M = some (r0, M') → HP D cy (AA ad M0 s.heap.size) ad M H → va_S (AA ad M0 s.heap.size) s.heap H locs → lv_has ls 7 [(0, .ref (ad 7 v0)), (1, .ref (ad 4 v1)), (2, .int v2), (3, .int v3), (4, .ref (ad 8 v4)), (5, .int v5)] → W p l e { frames := 2, cells := 0, slots := 0, locals := 42 } s m args below meth c H locs 0 0 (MQ below (QI D cy ad M0 s.heap.size r0 M') args s 0 0 (AA ad M0 s.heap.size)) (F0 m 58 ls []) := by
  obtain ⟨hx, hb, hr, hml, hown, hts, hlocks, hK, hN, hA⟩ := id C
  intro v0 v1 v2 v3 v4 v5 M H locs ls a0 a1 a4 hk hf hP hS hl
  unfold f_X0_moveLegs_58 at hf
  refine lv_iconst (v := (0 : Int32)) hx hb dX0_moveLegs_58 (by decide) ?_
  exact t_X0_moveLegs_59 C k8 hk8 v0 v1 v2 v3 v4 v5 (0 : Int32) M _ _ _ a0 a1 a4 hk hf hP hS (lv_sub hl [0, 1, 2, 3, 4, 5] rfl)
set_option maxRecDepth 100000 in
set_option maxHeartbeats 4000000 in
theorem t_X0_moveLegs_35 {p : Program} {l : Launch} {e : Env} {s : State} {m : MethodId} {args : Array Value} {below : List Frame} {meth : Method} {c : Code} {D : va_G} {cy : Nat → ClassId} {ad : Nat → Nat → Nat} {M0 : Mm} {r0 : Int32} {M' : Mm} (C : Cx RX0 cX0_moveLegs 7 (some .int) D cy (AA ad M0 s.heap.size) p s m args meth c) (k8 : Nat → Nat → Int32 → Int32 → Option Nat → Mm → Option (Int32 × Mm)) (hk8 : ∀ (v0 : Nat) (v1 : Nat) (v2 : Int32) (v3 : Int32) (v4 : Option Nat) (M : Mm) (H : Heap) (locs : List Loc) (ls : Array Slot), (mA M 7 v0 = true) → (mA M 4 v1 = true) → (∀ j : Nat, v4 = some j → mA M 8 j = true) → Keep M0 M → k8 v0 v1 v2 v3 v4 M = some (r0, M') → HP D cy (AA ad M0 s.heap.size) ad M H → va_S (AA ad M0 s.heap.size) s.heap H locs → lv_has ls 7 [(0, .ref (ad 7 v0)), (1, .ref (ad 4 v1)), (2, .int v2), (3, .int v3), (4, va_rf (v4.map (ad 8)))] → W p l e { frames := 2, cells := 0, slots := 0, locals := 42 } s m args below meth c H locs 0 0 (MQ below (QI D cy ad M0 s.heap.size r0 M') args s 0 0 (AA ad M0 s.heap.size)) (F0 m 8 ls [])) : ∀ (v0 : Nat) (v1 : Nat) (v2 : Int32) (v3 : Int32) (v4 : Nat) (w0 : Int32) (M : Mm) (H : Heap) (locs : List Loc) (ls : Array Slot), (mA M 7 v0 = true) → (mA M 4 v1 = true) → (mA M 8 v4 = true) → Keep M0 M → f_X0_moveLegs_35 k8 v0 v1 v2 v3 v4 w0 M = some (r0, M') → HP D cy (AA ad M0 s.heap.size) ad M H → va_S (AA ad M0 s.heap.size) s.heap H locs → lv_has ls 7 [(0, .ref (ad 7 v0)), (1, .ref (ad 4 v1)), (2, .int v2), (3, .int v3), (4, .ref (ad 8 v4))] → W p l e { frames := 2, cells := 0, slots := 0, locals := 42 } s m args below meth c H locs 0 0 (MQ below (QI D cy ad M0 s.heap.size r0 M') args s 0 0 (AA ad M0 s.heap.size)) (F0 m 35 ls [.int w0]) := by
  obtain ⟨hx, hb, hr, hml, hown, hts, hlocks, hK, hN, hA⟩ := id C
  intro v0 v1 v2 v3 v4 w0 M H locs ls a0 a1 a4 hk hf hP hS hl
  unfold f_X0_moveLegs_35 at hf
  refine lv_istore (lv' := [(5, .int w0), (0, .ref (ad 7 v0)), (1, .ref (ad 4 v1)), (2, .int v2), (3, .int v3), (4, .ref (ad 8 v4))]) hx hb dX0_moveLegs_35 hl (by decide) rfl (fun ls hl => ?_)
  refine lv_aload_n hx hb dX0_moveLegs_37 rfl (lv_at hl 2 rfl) ?_
  refine lv_aload_n hx hb dX0_moveLegs_38 rfl (lv_at hl 1 rfl) ?_
  have h42 : ∀ j : Nat, (mR M 7 v0 2) = some j → mA M 4 j = true := fun j hj => hp_wf hP a0 hj
  refine gf7 (v := va_rf (((mR M 7 v0 2)).map (ad 4))) hx hb hts hown hK hP a0 2 (by decide) (hts _ q180) rfl rfl dX0_moveLegs_39 ?_
  refine lv_acmp_ne (rx := ((some v1)).map (ad 4)) (ry := ((mR M 7 v0 2)).map (ad 4)) (tgt := 58) hx hb dX0_moveLegs_42 (by decide) (fun c43 => ?_) (fun c43 => ?_)
  · have c43 := fun z => c43 ((hp_inj2 hP (fun j hj => by cases hj; exact a1) h42).mpr z)
    have hf := if_f hf c43
    exact t_X0_moveLegs_58 C k8 hk8 v0 v1 v2 v3 v4 w0 M _ _ _ a0 a1 a4 hk hf hP hS (lv_sub hl [1, 2, 3, 4, 5, 0] rfl)
  · have c43 := (hp_inj2 hP (fun j hj => by cases hj; exact a1) h42).mp c43
    have hf := if_t hf c43
    refine lv_aload hx hb dX0_moveLegs_45 (lv_at hl 5 rfl) ?_
    refine gf8N (v := .int (mI M 8 v4 4)) hx hb hts hown hK hP a4 4 (by decide) (va_Nw.use rfl (hN.1 (RX0, 63, "ToteHouse$Ticket", "b", "I", RX3) (List.mem_of_getElem? (i := 27) rfl))) rfl rfl dX0_moveLegs_47 ?_
    refine lv_iload_n hx hb dX0_moveLegs_50 rfl (lv_at hl 3 rfl) ?_
    refine lv_icmp_ne (tgt := 58) hx hb dX0_moveLegs_51 (by decide) (fun c69 => ?_) (fun c69 => ?_)
    · have hf := if_f hf c69
      exact t_X0_moveLegs_58 C k8 hk8 v0 v1 v2 v3 v4 w0 M _ _ _ a0 a1 a4 hk hf hP hS (lv_sub hl [1, 2, 3, 4, 5, 0] rfl)
    · have hf := if_t hf c69
      refine lv_iconst (v := (1 : Int32)) hx hb dX0_moveLegs_54 (by decide) ?_
      refine lv_goto (tgt := 59) hx hb dX0_moveLegs_55 (by decide) ?_
      exact t_X0_moveLegs_59 C k8 hk8 v0 v1 v2 v3 v4 w0 (1 : Int32) M _ _ _ a0 a1 a4 hk hf hP hS (lv_sub hl [1, 2, 3, 4, 5, 0] rfl)
set_option maxRecDepth 100000 in
set_option maxHeartbeats 4000000 in
theorem t_X0_moveLegs_34 {p : Program} {l : Launch} {e : Env} {s : State} {m : MethodId} {args : Array Value} {below : List Frame} {meth : Method} {c : Code} {D : va_G} {cy : Nat → ClassId} {ad : Nat → Nat → Nat} {M0 : Mm} {r0 : Int32} {M' : Mm} (C : Cx RX0 cX0_moveLegs 7 (some .int) D cy (AA ad M0 s.heap.size) p s m args meth c) (k8 : Nat → Nat → Int32 → Int32 → Option Nat → Mm → Option (Int32 × Mm)) (hk8 : ∀ (v0 : Nat) (v1 : Nat) (v2 : Int32) (v3 : Int32) (v4 : Option Nat) (M : Mm) (H : Heap) (locs : List Loc) (ls : Array Slot), (mA M 7 v0 = true) → (mA M 4 v1 = true) → (∀ j : Nat, v4 = some j → mA M 8 j = true) → Keep M0 M → k8 v0 v1 v2 v3 v4 M = some (r0, M') → HP D cy (AA ad M0 s.heap.size) ad M H → va_S (AA ad M0 s.heap.size) s.heap H locs → lv_has ls 7 [(0, .ref (ad 7 v0)), (1, .ref (ad 4 v1)), (2, .int v2), (3, .int v3), (4, va_rf (v4.map (ad 8)))] → W p l e { frames := 2, cells := 0, slots := 0, locals := 42 } s m args below meth c H locs 0 0 (MQ below (QI D cy ad M0 s.heap.size r0 M') args s 0 0 (AA ad M0 s.heap.size)) (F0 m 8 ls [])) : ∀ (v0 : Nat) (v1 : Nat) (v2 : Int32) (v3 : Int32) (v4 : Nat) (M : Mm) (H : Heap) (locs : List Loc) (ls : Array Slot), (mA M 7 v0 = true) → (mA M 4 v1 = true) → (mA M 8 v4 = true) → Keep M0 M → f_X0_moveLegs_34 k8 v0 v1 v2 v3 v4 M = some (r0, M') → HP D cy (AA ad M0 s.heap.size) ad M H → va_S (AA ad M0 s.heap.size) s.heap H locs → lv_has ls 7 [(0, .ref (ad 7 v0)), (1, .ref (ad 4 v1)), (2, .int v2), (3, .int v3), (4, .ref (ad 8 v4))] → W p l e { frames := 2, cells := 0, slots := 0, locals := 42 } s m args below meth c H locs 0 0 (MQ below (QI D cy ad M0 s.heap.size r0 M') args s 0 0 (AA ad M0 s.heap.size)) (F0 m 34 ls []) := by
  obtain ⟨hx, hb, hr, hml, hown, hts, hlocks, hK, hN, hA⟩ := id C
  intro v0 v1 v2 v3 v4 M H locs ls a0 a1 a4 hk hf hP hS hl
  unfold f_X0_moveLegs_34 at hf
  refine lv_iconst (v := (0 : Int32)) hx hb dX0_moveLegs_34 (by decide) ?_
  exact t_X0_moveLegs_35 C k8 hk8 v0 v1 v2 v3 v4 (0 : Int32) M _ _ _ a0 a1 a4 hk hf hP hS (lv_sub hl [0, 1, 2, 3, 4] rfl)
set_option maxRecDepth 100000 in
set_option maxHeartbeats 4000000 in
theorem t_X0_moveLegs_8 {p : Program} {l : Launch} {e : Env} {s : State} {m : MethodId} {args : Array Value} {below : List Frame} {meth : Method} {c : Code} {D : va_G} {cy : Nat → ClassId} {ad : Nat → Nat → Nat} {M0 : Mm} {r0 : Int32} {M' : Mm} (C : Cx RX0 cX0_moveLegs 7 (some .int) D cy (AA ad M0 s.heap.size) p s m args meth c) : ∀ (n : Nat), ∀ (v0 : Nat) (v1 : Nat) (v2 : Int32) (v3 : Int32) (v4 : Option Nat) (M : Mm) (H : Heap) (locs : List Loc) (ls : Array Slot), (mA M 7 v0 = true) → (mA M 4 v1 = true) → (∀ j : Nat, v4 = some j → mA M 8 j = true) → Keep M0 M → f_X0_moveLegs_8 n v0 v1 v2 v3 v4 M = some (r0, M') → HP D cy (AA ad M0 s.heap.size) ad M H → va_S (AA ad M0 s.heap.size) s.heap H locs → lv_has ls 7 [(0, .ref (ad 7 v0)), (1, .ref (ad 4 v1)), (2, .int v2), (3, .int v3), (4, va_rf (v4.map (ad 8)))] → W p l e { frames := 2, cells := 0, slots := 0, locals := 42 } s m args below meth c H locs 0 0 (MQ below (QI D cy ad M0 s.heap.size r0 M') args s 0 0 (AA ad M0 s.heap.size)) (F0 m 8 ls []) := by
  obtain ⟨hx, hb, hr, hml, hown, hts, hlocks, hK, hN, hA⟩ := id C
  intro n
  induction n with
  | zero =>
    intro v0 v1 v2 v3 v4 M H locs ls a0 a1 a4 hk hf hP hS hl
    simp [f_X0_moveLegs_8] at hf
  | succ n ih =>
    intro v0 v1 v2 v3 v4 M H locs ls a0 a1 a4 hk hf hP hS hl
    rw [f_X0_moveLegs_8] at hf
    refine hp_aload (r := (v4).map (ad 8)) hx hb dX0_moveLegs_8 (lv_at hl 4 rfl) ?_
    rcases on_c hf with ⟨e37, hf⟩ | ⟨i38, e37, hf⟩
    · refine W_top (y := .null) (by rw [e37]; rfl) ?_
      refine lv_ifnullN (tgt := 141) hx hb dX0_moveLegs_10 (by decide) ?_
      refine lv_iload_n hx hb dX0_moveLegs_141 rfl (lv_at hl 3 rfl) ?_
      exact hp_iret hx hb hr hlocks (congrArg Prod.fst (Option.some.inj hf)) (congrArg Prod.snd (Option.some.inj hf)) hP hS hk dX0_moveLegs_142
    · have h39 : mA M 8 i38 = true := a4 i38 e37
      rw [e37] at hl
      have hl : lv_has ls 7 [(0, .ref (ad 7 v0)), (1, .ref (ad 4 v1)), (2, .int v2), (3, .int v3), (4, .ref (ad 8 i38))] := hl
      refine W_stk (st := [va_rf ((v4).map (ad 8))]) (st' := [.ref (ad 8 i38)]) (by first | (rw [e37]; done) | (rw [e37]; rfl)) ?_
      refine lv_ifnull hx hb dX0_moveLegs_10 ?_
      refine lv_aload_n hx hb dX0_moveLegs_13 rfl (lv_at hl 1 rfl) ?_
      refine lv_aload_n hx hb dX0_moveLegs_14 rfl (lv_at hl 0 rfl) ?_
      have h40 : ∀ j : Nat, (mR M 7 v0 1) = some j → mA M 4 j = true := fun j hj => hp_wf hP a0 hj
      refine gf7 (v := va_rf (((mR M 7 v0 1)).map (ad 4))) hx hb hts hown hK hP a0 1 (by decide) (hts _ q178) rfl rfl dX0_moveLegs_15 ?_
      refine lv_acmp_ne (rx := ((some v1)).map (ad 4)) (ry := ((mR M 7 v0 1)).map (ad 4)) (tgt := 34) hx hb dX0_moveLegs_18 (by decide) (fun c41 => ?_) (fun c41 => ?_)
      · have c41 := fun z => c41 ((hp_inj2 hP (fun j hj => by cases hj; exact a1) h40).mpr z)
        have hf := if_f hf c41
        exact t_X0_moveLegs_34 C (f_X0_moveLegs_8 n) ih v0 v1 v2 v3 i38 M _ _ _ a0 a1 h39 hk hf hP hS (lv_sub hl [0, 1, 2, 3, 4] rfl)
      · have c41 := (hp_inj2 hP (fun j hj => by cases hj; exact a1) h40).mp c41
        have hf := if_t hf c41
        refine lv_aload hx hb dX0_moveLegs_21 (lv_at hl 4 rfl) ?_
        refine gf8N (v := .int (mI M 8 i38 3)) hx hb hts hown hK hP h39 3 (by decide) (va_Nw.use rfl (hN.1 (RX0, 58, "ToteHouse$Ticket", "a", "I", RX3) (List.mem_of_getElem? (i := 25) rfl))) rfl rfl dX0_moveLegs_23 ?_
        refine lv_iload_n hx hb dX0_moveLegs_26 rfl (lv_at hl 2 rfl) ?_
        refine lv_icmp_ne (tgt := 34) hx hb dX0_moveLegs_27 (by decide) (fun c70 => ?_) (fun c70 => ?_)
        · have hf := if_f hf c70
          exact t_X0_moveLegs_34 C (f_X0_moveLegs_8 n) ih v0 v1 v2 v3 i38 M _ _ _ a0 a1 h39 hk hf hP hS (lv_sub hl [0, 1, 2, 3, 4] rfl)
        · have hf := if_t hf c70
          refine lv_iconst (v := (1 : Int32)) hx hb dX0_moveLegs_30 (by decide) ?_
          refine lv_goto (tgt := 35) hx hb dX0_moveLegs_31 (by decide) ?_
          exact t_X0_moveLegs_35 C (f_X0_moveLegs_8 n) ih v0 v1 v2 v3 i38 (1 : Int32) M _ _ _ a0 a1 h39 hk hf hP hS (lv_sub hl [0, 1, 2, 3, 4] rfl)
set_option maxRecDepth 100000 in
set_option maxHeartbeats 4000000 in
theorem ok_X0_moveLegs (l : Launch) (D : va_G) (cy : Nat → ClassId) (ad : Nat → Nat → Nat) (M0 : Mm) (sz : Nat) (v0 : Nat) (v1 : Nat) (v2 : Int32) (r0 : Int32) (M' : Mm) (a0 : mA M0 7 v0 = true) (a1 : mA M0 4 v1 = true) (hf : f_X0_moveLegs v0 v1 v2 M0 = some (r0, M')) : Met l yX0_moveLegs (Cond.code yX0_moveLegs cX0_moveLegs 7 (some .int) :: BW) { frames := 2, cells := 0, slots := 0, locals := 42 } (va_Pc [.ref (ad 7 v0), .ref (ad 4 v1), .int v2] (PRE D cy ad M0 sz)) (QI D cy ad M0 sz r0 M') 0 0 (AA ad M0 sz) := by
  refine Met.ofW (cc := cX0_moveLegs) (maxL := 7) (ret := (some .int)) (by decide) rfl ?_
  intro p e s m args below meth c s₁ B hml hv
  obtain ⟨rfl, rfl, hP0, hK, hN⟩ := hv
  have hx := B.exec
  have hb := B.bytes
  have hr := B.returns
  have hts0 := atoms_spec (ws := (Cond.code yX0_moveLegs cX0_moveLegs 7 (some .int) :: BW)) B.pre
  have hts : ∀ w ∈ BW, w.before ([.ref (ad 7 v0), .ref (ad 4 v1), .int v2] : List Value).toArray s = true := fun w h => hts0 w (List.mem_cons_of_mem _ h)
  have hown : s.vm.findClass RX0 = some m.cls := findClass_of_methodNamed B.named
  have hlocks := B.notSynchronized
  have hA : ∀ q : Nat, s.heap.size ≤ q → AA ad M0 s.heap.size q := fun q h => Or.inr h
  have C : Cx RX0 cX0_moveLegs 7 (some .int) D cy (AA ad M0 s.heap.size) p s m ([.ref (ad 7 v0), .ref (ad 4 v1), .int v2] : List Value).toArray meth c := ⟨hx, hb, hr, hml, hown, hts, hlocks, hK, hN, hA⟩
  have hP := hp_self (sz := s.heap.size) hP0
  have hS : va_S (AA ad M0 s.heap.size) s.heap s.heap [] := va_S.rf
  have hl := lv_entry ([.ref (ad 7 v0), .ref (ad 4 v1), .int v2]) (n := 7) (Nat.le_of_ble_eq_true rfl)
  rw [lg_entry_eq]
  generalize (lg_sl ([.ref (ad 7 v0), .ref (ad 4 v1), .int v2]) ++ List.replicate (7 - (lg_sl ([.ref (ad 7 v0), .ref (ad 4 v1), .int v2])).length) Slot.unset).toArray = ls at hl ⊢
  have hl : lv_has ls 7 [(0, .ref (ad 7 v0)), (1, .ref (ad 4 v1)), (2, .int v2)] := hl
  unfold f_X0_moveLegs at hf
  refine lv_iconst (v := (0 : Int32)) hx hb dX0_moveLegs_0 (by decide) ?_
  refine lv_istore_n (lv' := [(3, .int (0 : Int32)), (0, .ref (ad 7 v0)), (1, .ref (ad 4 v1)), (2, .int v2)]) hx hb dX0_moveLegs_1 rfl hl (by decide) rfl (fun ls hl => ?_)
  refine lv_aload_n hx hb dX0_moveLegs_2 rfl (lv_at hl 1 rfl) ?_
  have h36 : ∀ j : Nat, (mR M0 7 v0 5) = some j → mA M0 8 j = true := fun j hj => hp_wf hP a0 hj
  refine gf7 (v := va_rf (((mR M0 7 v0 5)).map (ad 8))) hx hb hts hown hK hP a0 5 (by decide) (hts _ q184) rfl rfl dX0_moveLegs_3 ?_
  refine hp_astore (r := ((mR M0 7 v0 5)).map (ad 8)) (lv' := [(4, va_rf (((mR M0 7 v0 5)).map (ad 8))), (3, .int (0 : Int32)), (0, .ref (ad 7 v0)), (1, .ref (ad 4 v1)), (2, .int v2)]) hx hb dX0_moveLegs_6 hl (by decide) rfl (fun ls hl => ?_)
  exact t_X0_moveLegs_8 C FU v0 v1 v2 (0 : Int32) (mR M0 7 v0 5) M0 _ _ _ a0 a1 h36 keep_rf hf hP hS (lv_sub hl [2, 3, 4, 1, 0] rfl)

def f_X0_isDecided (v0 : Nat) (M0 : Mm) : Option Int32 :=
  if (mI M0 7 v0 6) = 0 then (ob (mR M0 7 v0 1) fun i14 => if (mI M0 4 i14 4) = (2 : Int32) then (ob (mR M0 7 v0 2) fun i19 => if (mI M0 4 i19 4) = (2 : Int32) then (some (1 : Int32)) else (some (0 : Int32))) else (some (0 : Int32))) else (some (0 : Int32))
set_option maxRecDepth 100000 in
set_option maxHeartbeats 4000000 in
theorem ok_X0_isDecided (l : Launch) (D : va_G) (cy : Nat → ClassId) (ad : Nat → Nat → Nat) (M0 : Mm) (sz : Nat) (v0 : Nat) (r0 : Int32) (a0 : mA M0 7 v0 = true) (hf : f_X0_isDecided v0 M0 = some r0) : Met l yX0_isDecided (Cond.code yX0_isDecided cX0_isDecided 1 (some .boolean) :: BW) { frames := 0, cells := 0, slots := 0, locals := 0 } (va_Pc [.ref (ad 7 v0)] (PRE D cy ad M0 sz)) (QI D cy ad M0 sz r0 M0) 0 0 (AA ad M0 sz) := by
  refine Met.ofW (cc := cX0_isDecided) (maxL := 1) (ret := (some .boolean)) (by decide) rfl ?_
  intro p e s m args below meth c s₁ B hml hv
  obtain ⟨rfl, rfl, hP0, hK, hN⟩ := hv
  have hx := B.exec
  have hb := B.bytes
  have hr := B.returns
  have hts0 := atoms_spec (ws := (Cond.code yX0_isDecided cX0_isDecided 1 (some .boolean) :: BW)) B.pre
  have hts : ∀ w ∈ BW, w.before ([.ref (ad 7 v0)] : List Value).toArray s = true := fun w h => hts0 w (List.mem_cons_of_mem _ h)
  have hown : s.vm.findClass RX0 = some m.cls := findClass_of_methodNamed B.named
  have hlocks := B.notSynchronized
  have hA : ∀ q : Nat, s.heap.size ≤ q → AA ad M0 s.heap.size q := fun q h => Or.inr h
  have C : Cx RX0 cX0_isDecided 1 (some .boolean) D cy (AA ad M0 s.heap.size) p s m ([.ref (ad 7 v0)] : List Value).toArray meth c := ⟨hx, hb, hr, hml, hown, hts, hlocks, hK, hN, hA⟩
  have hP := hp_self (sz := s.heap.size) hP0
  have hS : va_S (AA ad M0 s.heap.size) s.heap s.heap [] := va_S.rf
  have hl := lv_entry ([.ref (ad 7 v0)]) (n := 1) (Nat.le_of_ble_eq_true rfl)
  rw [lg_entry_eq]
  generalize (lg_sl ([.ref (ad 7 v0)]) ++ List.replicate (1 - (lg_sl ([.ref (ad 7 v0)])).length) Slot.unset).toArray = ls at hl ⊢
  have hl : lv_has ls 1 [(0, .ref (ad 7 v0))] := hl
  unfold f_X0_isDecided at hf
  refine lv_aload_n hx hb dX0_isDecided_0 rfl (lv_at hl 0 rfl) ?_
  refine gf7 (v := .int (mI M0 7 v0 6)) hx hb hts hown hK hP a0 6 (by decide) (hts _ q185) rfl rfl dX0_isDecided_1 ?_
  refine lv_if_ne (tgt := 33) hx hb dX0_isDecided_4 (by decide) (fun c12 => ?_) (fun c12 => ?_)
  · have hf := if_f hf c12
    refine lv_iconst (v := (0 : Int32)) hx hb dX0_isDecided_33 (by decide) ?_
    exact hp_zret hx hb hr hlocks (Or.inl rfl) (Option.some.inj hf) rfl hP hS keep_rf dX0_isDecided_34
  · have hf := if_t hf c12
    refine lv_aload_n hx hb dX0_isDecided_7 rfl (lv_at hl 0 rfl) ?_
    have h13 : ∀ j : Nat, (mR M0 7 v0 1) = some j → mA M0 4 j = true := fun j hj => hp_wf hP a0 hj
    refine gf7 (v := va_rf (((mR M0 7 v0 1)).map (ad 4))) hx hb hts hown hK hP a0 1 (by decide) (hts _ q178) rfl rfl dX0_isDecided_8 ?_
    obtain ⟨i14, e15, hf⟩ := ob_some hf
    have h16 : mA M0 4 i14 = true := h13 i14 e15
    refine W_stk (st := [va_rf (((mR M0 7 v0 1)).map (ad 4))]) (st' := [.ref (ad 4 i14)]) (by first | (rw [e15]; done) | (rw [e15]; rfl)) ?_
    refine gf4N (v := .int (mI M0 4 i14 4)) hx hb hts hown hK hP h16 4 (by decide) (va_Nw.use rfl (hN.1 (RX0, 28, "ToteHouse$Race", "state", "I", RX3) (List.mem_of_getElem? (i := 3) rfl))) rfl rfl dX0_isDecided_11 ?_
    refine lv_iconst (v := (2 : Int32)) hx hb dX0_isDecided_14 (by decide) ?_
    refine lv_icmp_ne (tgt := 33) hx hb dX0_isDecided_15 (by decide) (fun c17 => ?_) (fun c17 => ?_)
    · have hf := if_f hf c17
      refine lv_iconst (v := (0 : Int32)) hx hb dX0_isDecided_33 (by decide) ?_
      exact hp_zret hx hb hr hlocks (Or.inl rfl) (Option.some.inj hf) rfl hP hS keep_rf dX0_isDecided_34
    · have hf := if_t hf c17
      refine lv_aload_n hx hb dX0_isDecided_18 rfl (lv_at hl 0 rfl) ?_
      have h18 : ∀ j : Nat, (mR M0 7 v0 2) = some j → mA M0 4 j = true := fun j hj => hp_wf hP a0 hj
      refine gf7 (v := va_rf (((mR M0 7 v0 2)).map (ad 4))) hx hb hts hown hK hP a0 2 (by decide) (hts _ q180) rfl rfl dX0_isDecided_19 ?_
      obtain ⟨i19, e20, hf⟩ := ob_some hf
      have h21 : mA M0 4 i19 = true := h18 i19 e20
      refine W_stk (st := [va_rf (((mR M0 7 v0 2)).map (ad 4))]) (st' := [.ref (ad 4 i19)]) (by first | (rw [e20]; done) | (rw [e20]; rfl)) ?_
      refine gf4N (v := .int (mI M0 4 i19 4)) hx hb hts hown hK hP h21 4 (by decide) (va_Nw.use rfl (hN.1 (RX0, 28, "ToteHouse$Race", "state", "I", RX3) (List.mem_of_getElem? (i := 3) rfl))) rfl rfl dX0_isDecided_22 ?_
      refine lv_iconst (v := (2 : Int32)) hx hb dX0_isDecided_25 (by decide) ?_
      refine lv_icmp_ne (tgt := 33) hx hb dX0_isDecided_26 (by decide) (fun c22 => ?_) (fun c22 => ?_)
      · have hf := if_f hf c22
        refine lv_iconst (v := (0 : Int32)) hx hb dX0_isDecided_33 (by decide) ?_
        exact hp_zret hx hb hr hlocks (Or.inl rfl) (Option.some.inj hf) rfl hP hS keep_rf dX0_isDecided_34
      · have hf := if_t hf c22
        refine lv_iconst (v := (1 : Int32)) hx hb dX0_isDecided_29 (by decide) ?_
        refine lv_goto (tgt := 34) hx hb dX0_isDecided_30 (by decide) ?_
        exact hp_zret hx hb hr hlocks (Or.inr rfl) (Option.some.inj hf) rfl hP hS keep_rf dX0_isDecided_34

def f_X0_isWon (v0 : Nat) (v1 : Int32) (v2 : Int32) (v3 : Int32) (M0 : Mm) : Option Int32 :=
  lt (mI M0 7 v0 0) fun x111 => if x111 = (0 : Int32) then (ob (mR M0 7 v0 1) fun i115 => ob (f_X1_isWithin i115 v1 (1 : Int32) M0) fun r119 => zb r119 (some r119)) else (if x111 = (1 : Int32) then (ob (mR M0 7 v0 1) fun i126 => ob (f_X1_lastWinningPlace i126 M0) fun r130 => ob (f_X1_isWithin i126 v1 r130 M0) fun r134 => zb r134 (some r134)) else (if x111 = (2 : Int32) then (ob (mR M0 7 v0 1) fun i140 => ob (f_X1_isWithin i140 v1 (2 : Int32) M0) fun r144 => if r144 = 0 then (some (0 : Int32)) else (ob (mR M0 7 v0 1) fun i149 => ob (f_X1_isWithin i149 v2 (2 : Int32) M0) fun r153 => if r153 = 0 then (some (0 : Int32)) else (ob (mR M0 7 v0 1) fun i158 => ob (f_X1_isWithin i158 v1 (1 : Int32) M0) fun r162 => if r162 = 0 then (ob (mR M0 7 v0 1) fun i167 => ob (f_X1_isWithin i167 v2 (1 : Int32) M0) fun r171 => if r171 = 0 then (some (0 : Int32)) else (some (1 : Int32))) else (some (1 : Int32))))) else (if x111 = (3 : Int32) then (ob (mR M0 7 v0 1) fun i177 => ob (f_X1_isWithin i177 v1 (1 : Int32) M0) fun r181 => if r181 = 0 then (some (0 : Int32)) else (ob (mR M0 7 v0 1) fun i186 => ob (f_X1_isWithin i186 v2 (2 : Int32) M0) fun r190 => if r190 = 0 then (some (0 : Int32)) else (ob (mR M0 7 v0 1) fun i195 => ob (f_X1_isWithin i195 v3 (3 : Int32) M0) fun r199 => if r199 = 0 then (some (0 : Int32)) else (some (1 : Int32))))) else (ob (mR M0 7 v0 1) fun i204 => ob (f_X1_isWithin i204 v1 (1 : Int32) M0) fun r208 => if r208 = 0 then (some (0 : Int32)) else (ob (mR M0 7 v0 2) fun i213 => ob (f_X1_isWithin i213 v2 (1 : Int32) M0) fun r217 => if r217 = 0 then (some (0 : Int32)) else (some (1 : Int32)))))))
set_option maxRecDepth 100000 in
set_option maxHeartbeats 4000000 in
theorem ok_X0_isWon (l : Launch) (D : va_G) (cy : Nat → ClassId) (ad : Nat → Nat → Nat) (M0 : Mm) (sz : Nat) (v0 : Nat) (v1 : Int32) (v2 : Int32) (v3 : Int32) (r0 : Int32) (a0 : mA M0 7 v0 = true) (hf : f_X0_isWon v0 v1 v2 v3 M0 = some r0) : Met l yX0_isWon (Cond.code yX0_isWon cX0_isWon 4 (some .boolean) :: BW) { frames := 2, cells := 0, slots := 0, locals := 44 } (va_Pc [.ref (ad 7 v0), .int v1, .int v2, .int v3] (PRE D cy ad M0 sz)) (QI D cy ad M0 sz r0 M0) 0 0 (AA ad M0 sz) := by
  refine Met.ofW (cc := cX0_isWon) (maxL := 4) (ret := (some .boolean)) (by decide) rfl ?_
  intro p e s m args below meth c s₁ B hml hv
  obtain ⟨rfl, rfl, hP0, hK, hN⟩ := hv
  have hx := B.exec
  have hb := B.bytes
  have hr := B.returns
  have hts0 := atoms_spec (ws := (Cond.code yX0_isWon cX0_isWon 4 (some .boolean) :: BW)) B.pre
  have hts : ∀ w ∈ BW, w.before ([.ref (ad 7 v0), .int v1, .int v2, .int v3] : List Value).toArray s = true := fun w h => hts0 w (List.mem_cons_of_mem _ h)
  have hown : s.vm.findClass RX0 = some m.cls := findClass_of_methodNamed B.named
  have hlocks := B.notSynchronized
  have hA : ∀ q : Nat, s.heap.size ≤ q → AA ad M0 s.heap.size q := fun q h => Or.inr h
  have C : Cx RX0 cX0_isWon 4 (some .boolean) D cy (AA ad M0 s.heap.size) p s m ([.ref (ad 7 v0), .int v1, .int v2, .int v3] : List Value).toArray meth c := ⟨hx, hb, hr, hml, hown, hts, hlocks, hK, hN, hA⟩
  have hP := hp_self (sz := s.heap.size) hP0
  have hS : va_S (AA ad M0 s.heap.size) s.heap s.heap [] := va_S.rf
  have hl := lv_entry ([.ref (ad 7 v0), .int v1, .int v2, .int v3]) (n := 4) (Nat.le_of_ble_eq_true rfl)
  rw [lg_entry_eq]
  generalize (lg_sl ([.ref (ad 7 v0), .int v1, .int v2, .int v3]) ++ List.replicate (4 - (lg_sl ([.ref (ad 7 v0), .int v1, .int v2, .int v3])).length) Slot.unset).toArray = ls at hl ⊢
  have hl : lv_has ls 4 [(0, .ref (ad 7 v0)), (1, .int v1), (2, .int v2), (3, .int v3)] := hl
  unfold f_X0_isWon at hf
  refine lv_aload_n hx hb dX0_isWon_0 rfl (lv_at hl 0 rfl) ?_
  refine gf7 (v := .int (mI M0 7 v0 0)) hx hb hts hown hK hP a0 0 (by decide) (hts _ q176) rfl rfl dX0_isWon_1 ?_
  obtain ⟨x111, e112, hf⟩ := lt_some hf
  refine W_topI e112 ?_
  by_cases c113 : x111 = (0 : Int32)
  · have hf := if_t hf c113
    refine W_topI c113.symm ?_
    refine lv_tableIn (x := (0 : Int32)) (off := 32) (tgt := 36) hx hb dX0_isWon_4 (by decide) (by decide) (by decide) (by decide) ?_
    refine lv_aload_n hx hb dX0_isWon_36 rfl (lv_at hl 0 rfl) ?_
    have h114 : ∀ j : Nat, (mR M0 7 v0 1) = some j → mA M0 4 j = true := fun j hj => hp_wf hP a0 hj
    refine gf7 (v := va_rf (((mR M0 7 v0 1)).map (ad 4))) hx hb hts hown hK hP a0 1 (by decide) (hts _ q178) rfl rfl dX0_isWon_37 ?_
    refine lv_iload_n hx hb dX0_isWon_40 rfl (lv_at hl 1 rfl) ?_
    refine lv_iconst (v := (1 : Int32)) hx hb dX0_isWon_41 (by decide) ?_
    obtain ⟨i115, e116, hf⟩ := ob_some hf
    have h117 : mA M0 4 i115 = true := h114 i115 e116
    refine W_stk (st := [.int (1 : Int32), .int v1, va_rf (((mR M0 7 v0 1)).map (ad 4))]) (st' := [.int (1 : Int32), .int v1, .ref (ad 4 i115)]) (by first | (rw [e116]; done) | (rw [e116]; rfl)) ?_
    obtain ⟨r119, e118, hf⟩ := ob_some hf
    refine hp_calli (va_runVN (As := [.int v1, .int (1 : Int32)]) (rest := []) ⟨hx, hb, hml, hown, hts⟩ (ok_X1_isWithin l D cy ad M0 _ i115 v1 (1 : Int32) r119 h117 e118) ⟨va_cnB 2 hts (gd0 q440) rfl rfl rfl (hN.2.1 (RX0, 69, yX1_isWithin, RX3) (List.mem_of_getElem? (i := 23) rfl)) (hts _ q87) (by decide +kernel) ⟨Nat.le_of_ble_eq_true rfl, Nat.le_of_ble_eq_true rfl⟩, hts _ q439, hts _ q28⟩ (pre_V hP hK hN h117 ds_4 rfl) rfl rfl hl.1 rfl (lv_room (Nat.le_of_ble_eq_true rfl)) dX0_isWon_42 ⟨Nat.le_of_ble_eq_true rfl, Nat.le_of_ble_eq_true rfl⟩) hP hS hA (fun H locs hP hS _ => ?_)
    obtain ⟨h122, hf⟩ := zb_some hf
    exact hp_zret hx hb hr hlocks h122 (Option.some.inj hf) rfl hP hS keep_rf dX0_isWon_45
  have hf := if_f hf c113
  by_cases c123 : x111 = (1 : Int32)
  · have hf := if_t hf c123
    refine W_topI c123.symm ?_
    refine lv_tableIn (x := (1 : Int32)) (off := 42) (tgt := 46) hx hb dX0_isWon_4 (by decide) (by decide) (by decide) (by decide) ?_
    refine lv_aload_n hx hb dX0_isWon_46 rfl (lv_at hl 0 rfl) ?_
    have h124 : ∀ j : Nat, (mR M0 7 v0 1) = some j → mA M0 4 j = true := fun j hj => hp_wf hP a0 hj
    refine gf7 (v := va_rf (((mR M0 7 v0 1)).map (ad 4))) hx hb hts hown hK hP a0 1 (by decide) (hts _ q178) rfl rfl dX0_isWon_47 ?_
    refine lv_iload_n hx hb dX0_isWon_50 rfl (lv_at hl 1 rfl) ?_
    refine lv_aload_n hx hb dX0_isWon_51 rfl (lv_at hl 0 rfl) ?_
    have h125 : ∀ j : Nat, (mR M0 7 v0 1) = some j → mA M0 4 j = true := fun j hj => hp_wf hP a0 hj
    refine gf7 (v := va_rf (((mR M0 7 v0 1)).map (ad 4))) hx hb hts hown hK hP a0 1 (by decide) (hts _ q178) rfl rfl dX0_isWon_52 ?_
    obtain ⟨i126, e127, hf⟩ := ob_some hf
    have h128 : mA M0 4 i126 = true := h125 i126 e127
    refine W_stk (st := [va_rf (((mR M0 7 v0 1)).map (ad 4)), .int v1, va_rf (((mR M0 7 v0 1)).map (ad 4))]) (st' := [.ref (ad 4 i126), .int v1, .ref (ad 4 i126)]) (by first | (rw [e127]; done) | (rw [e127]; rfl)) ?_
    obtain ⟨r130, e129, hf⟩ := ob_some hf
    refine hp_calli (va_runVN (As := []) (rest := [.int v1, .ref (ad 4 i126)]) ⟨hx, hb, hml, hown, hts⟩ (ok_X1_lastWinningPlace l D cy ad M0 _ i126 r130 h128 e129) ⟨va_cnB 0 hts (gd0 q468) rfl rfl rfl (hN.2.1 (RX0, 73, yX1_lastWinningPlace, RX3) (List.mem_of_getElem? (i := 24) rfl)) (hts _ q87) (by decide +kernel) ⟨Nat.le_of_ble_eq_true rfl, Nat.le_of_ble_eq_true rfl⟩, hts _ q467, hts _ q34⟩ (pre_V hP hK hN h128 ds_4 rfl) rfl rfl hl.1 rfl (lv_room (Nat.le_of_ble_eq_true rfl)) dX0_isWon_55 ⟨Nat.le_of_ble_eq_true rfl, Nat.le_of_ble_eq_true rfl⟩) hP hS hA (fun H locs hP hS _ => ?_)
    obtain ⟨r134, e133, hf⟩ := ob_some hf
    refine hp_calli (va_runVN (As := [.int v1, .int r130]) (rest := []) ⟨hx, hb, hml, hown, hts⟩ (ok_X1_isWithin l D cy ad M0 _ i126 v1 r130 r134 h128 e133) ⟨va_cnB 2 hts (gd0 q440) rfl rfl rfl (hN.2.1 (RX0, 69, yX1_isWithin, RX3) (List.mem_of_getElem? (i := 23) rfl)) (hts _ q87) (by decide +kernel) ⟨Nat.le_of_ble_eq_true rfl, Nat.le_of_ble_eq_true rfl⟩, hts _ q439, hts _ q28⟩ (pre_V hP hK hN h128 ds_4 rfl) rfl rfl hl.1 rfl (lv_room (Nat.le_of_ble_eq_true rfl)) dX0_isWon_58 ⟨Nat.le_of_ble_eq_true rfl, Nat.le_of_ble_eq_true rfl⟩) hP hS hA (fun H locs hP hS _ => ?_)
    obtain ⟨h137, hf⟩ := zb_some hf
    exact hp_zret hx hb hr hlocks h137 (Option.some.inj hf) rfl hP hS keep_rf dX0_isWon_61
  have hf := if_f hf c123
  by_cases c138 : x111 = (2 : Int32)
  · have hf := if_t hf c138
    refine W_topI c138.symm ?_
    refine lv_tableIn (x := (2 : Int32)) (off := 58) (tgt := 62) hx hb dX0_isWon_4 (by decide) (by decide) (by decide) (by decide) ?_
    refine lv_aload_n hx hb dX0_isWon_62 rfl (lv_at hl 0 rfl) ?_
    have h139 : ∀ j : Nat, (mR M0 7 v0 1) = some j → mA M0 4 j = true := fun j hj => hp_wf hP a0 hj
    refine gf7 (v := va_rf (((mR M0 7 v0 1)).map (ad 4))) hx hb hts hown hK hP a0 1 (by decide) (hts _ q178) rfl rfl dX0_isWon_63 ?_
    refine lv_iload_n hx hb dX0_isWon_66 rfl (lv_at hl 1 rfl) ?_
    refine lv_iconst (v := (2 : Int32)) hx hb dX0_isWon_67 (by decide) ?_
    obtain ⟨i140, e141, hf⟩ := ob_some hf
    have h142 : mA M0 4 i140 = true := h139 i140 e141
    refine W_stk (st := [.int (2 : Int32), .int v1, va_rf (((mR M0 7 v0 1)).map (ad 4))]) (st' := [.int (2 : Int32), .int v1, .ref (ad 4 i140)]) (by first | (rw [e141]; done) | (rw [e141]; rfl)) ?_
    obtain ⟨r144, e143, hf⟩ := ob_some hf
    refine hp_calli (va_runVN (As := [.int v1, .int (2 : Int32)]) (rest := []) ⟨hx, hb, hml, hown, hts⟩ (ok_X1_isWithin l D cy ad M0 _ i140 v1 (2 : Int32) r144 h142 e143) ⟨va_cnB 2 hts (gd0 q440) rfl rfl rfl (hN.2.1 (RX0, 69, yX1_isWithin, RX3) (List.mem_of_getElem? (i := 23) rfl)) (hts _ q87) (by decide +kernel) ⟨Nat.le_of_ble_eq_true rfl, Nat.le_of_ble_eq_true rfl⟩, hts _ q439, hts _ q28⟩ (pre_V hP hK hN h142 ds_4 rfl) rfl rfl hl.1 rfl (lv_room (Nat.le_of_ble_eq_true rfl)) dX0_isWon_68 ⟨Nat.le_of_ble_eq_true rfl, Nat.le_of_ble_eq_true rfl⟩) hP hS hA (fun H locs hP hS _ => ?_)
    refine lv_if_eq (tgt := 114) hx hb dX0_isWon_71 (by decide) (fun c147 => ?_) (fun c147 => ?_)
    · have hf := if_t hf c147
      refine lv_iconst (v := (0 : Int32)) hx hb dX0_isWon_114 (by decide) ?_
      exact hp_zret hx hb hr hlocks (Or.inl rfl) (Option.some.inj hf) rfl hP hS keep_rf dX0_isWon_115
    · have hf := if_f hf c147
      refine lv_aload_n hx hb dX0_isWon_74 rfl (lv_at hl 0 rfl) ?_
      have h148 : ∀ j : Nat, (mR M0 7 v0 1) = some j → mA M0 4 j = true := fun j hj => hp_wf hP a0 hj
      refine gf7 (v := va_rf (((mR M0 7 v0 1)).map (ad 4))) hx hb hts hown hK hP a0 1 (by decide) (hts _ q178) rfl rfl dX0_isWon_75 ?_
      refine lv_iload_n hx hb dX0_isWon_78 rfl (lv_at hl 2 rfl) ?_
      refine lv_iconst (v := (2 : Int32)) hx hb dX0_isWon_79 (by decide) ?_
      obtain ⟨i149, e150, hf⟩ := ob_some hf
      have h151 : mA M0 4 i149 = true := h148 i149 e150
      refine W_stk (st := [.int (2 : Int32), .int v2, va_rf (((mR M0 7 v0 1)).map (ad 4))]) (st' := [.int (2 : Int32), .int v2, .ref (ad 4 i149)]) (by first | (rw [e150]; done) | (rw [e150]; rfl)) ?_
      obtain ⟨r153, e152, hf⟩ := ob_some hf
      refine hp_calli (va_runVN (As := [.int v2, .int (2 : Int32)]) (rest := []) ⟨hx, hb, hml, hown, hts⟩ (ok_X1_isWithin l D cy ad M0 _ i149 v2 (2 : Int32) r153 h151 e152) ⟨va_cnB 2 hts (gd0 q440) rfl rfl rfl (hN.2.1 (RX0, 69, yX1_isWithin, RX3) (List.mem_of_getElem? (i := 23) rfl)) (hts _ q87) (by decide +kernel) ⟨Nat.le_of_ble_eq_true rfl, Nat.le_of_ble_eq_true rfl⟩, hts _ q439, hts _ q28⟩ (pre_V hP hK hN h151 ds_4 rfl) rfl rfl hl.1 rfl (lv_room (Nat.le_of_ble_eq_true rfl)) dX0_isWon_80 ⟨Nat.le_of_ble_eq_true rfl, Nat.le_of_ble_eq_true rfl⟩) hP hS hA (fun H locs hP hS _ => ?_)
      refine lv_if_eq (tgt := 114) hx hb dX0_isWon_83 (by decide) (fun c156 => ?_) (fun c156 => ?_)
      · have hf := if_t hf c156
        refine lv_iconst (v := (0 : Int32)) hx hb dX0_isWon_114 (by decide) ?_
        exact hp_zret hx hb hr hlocks (Or.inl rfl) (Option.some.inj hf) rfl hP hS keep_rf dX0_isWon_115
      · have hf := if_f hf c156
        refine lv_aload_n hx hb dX0_isWon_86 rfl (lv_at hl 0 rfl) ?_
        have h157 : ∀ j : Nat, (mR M0 7 v0 1) = some j → mA M0 4 j = true := fun j hj => hp_wf hP a0 hj
        refine gf7 (v := va_rf (((mR M0 7 v0 1)).map (ad 4))) hx hb hts hown hK hP a0 1 (by decide) (hts _ q178) rfl rfl dX0_isWon_87 ?_
        refine lv_iload_n hx hb dX0_isWon_90 rfl (lv_at hl 1 rfl) ?_
        refine lv_iconst (v := (1 : Int32)) hx hb dX0_isWon_91 (by decide) ?_
        obtain ⟨i158, e159, hf⟩ := ob_some hf
        have h160 : mA M0 4 i158 = true := h157 i158 e159
        refine W_stk (st := [.int (1 : Int32), .int v1, va_rf (((mR M0 7 v0 1)).map (ad 4))]) (st' := [.int (1 : Int32), .int v1, .ref (ad 4 i158)]) (by first | (rw [e159]; done) | (rw [e159]; rfl)) ?_
        obtain ⟨r162, e161, hf⟩ := ob_some hf
        refine hp_calli (va_runVN (As := [.int v1, .int (1 : Int32)]) (rest := []) ⟨hx, hb, hml, hown, hts⟩ (ok_X1_isWithin l D cy ad M0 _ i158 v1 (1 : Int32) r162 h160 e161) ⟨va_cnB 2 hts (gd0 q440) rfl rfl rfl (hN.2.1 (RX0, 69, yX1_isWithin, RX3) (List.mem_of_getElem? (i := 23) rfl)) (hts _ q87) (by decide +kernel) ⟨Nat.le_of_ble_eq_true rfl, Nat.le_of_ble_eq_true rfl⟩, hts _ q439, hts _ q28⟩ (pre_V hP hK hN h160 ds_4 rfl) rfl rfl hl.1 rfl (lv_room (Nat.le_of_ble_eq_true rfl)) dX0_isWon_92 ⟨Nat.le_of_ble_eq_true rfl, Nat.le_of_ble_eq_true rfl⟩) hP hS hA (fun H locs hP hS _ => ?_)
        refine lv_if_ne (tgt := 110) hx hb dX0_isWon_95 (by decide) (fun c165 => ?_) (fun c165 => ?_)
        · have hf := if_f hf c165
          refine lv_iconst (v := (1 : Int32)) hx hb dX0_isWon_110 (by decide) ?_
          refine lv_goto (tgt := 115) hx hb dX0_isWon_111 (by decide) ?_
          exact hp_zret hx hb hr hlocks (Or.inr rfl) (Option.some.inj hf) rfl hP hS keep_rf dX0_isWon_115
        · have hf := if_t hf c165
          refine lv_aload_n hx hb dX0_isWon_98 rfl (lv_at hl 0 rfl) ?_
          have h166 : ∀ j : Nat, (mR M0 7 v0 1) = some j → mA M0 4 j = true := fun j hj => hp_wf hP a0 hj
          refine gf7 (v := va_rf (((mR M0 7 v0 1)).map (ad 4))) hx hb hts hown hK hP a0 1 (by decide) (hts _ q178) rfl rfl dX0_isWon_99 ?_
          refine lv_iload_n hx hb dX0_isWon_102 rfl (lv_at hl 2 rfl) ?_
          refine lv_iconst (v := (1 : Int32)) hx hb dX0_isWon_103 (by decide) ?_
          obtain ⟨i167, e168, hf⟩ := ob_some hf
          have h169 : mA M0 4 i167 = true := h166 i167 e168
          refine W_stk (st := [.int (1 : Int32), .int v2, va_rf (((mR M0 7 v0 1)).map (ad 4))]) (st' := [.int (1 : Int32), .int v2, .ref (ad 4 i167)]) (by first | (rw [e168]; done) | (rw [e168]; rfl)) ?_
          obtain ⟨r171, e170, hf⟩ := ob_some hf
          refine hp_calli (va_runVN (As := [.int v2, .int (1 : Int32)]) (rest := []) ⟨hx, hb, hml, hown, hts⟩ (ok_X1_isWithin l D cy ad M0 _ i167 v2 (1 : Int32) r171 h169 e170) ⟨va_cnB 2 hts (gd0 q440) rfl rfl rfl (hN.2.1 (RX0, 69, yX1_isWithin, RX3) (List.mem_of_getElem? (i := 23) rfl)) (hts _ q87) (by decide +kernel) ⟨Nat.le_of_ble_eq_true rfl, Nat.le_of_ble_eq_true rfl⟩, hts _ q439, hts _ q28⟩ (pre_V hP hK hN h169 ds_4 rfl) rfl rfl hl.1 rfl (lv_room (Nat.le_of_ble_eq_true rfl)) dX0_isWon_104 ⟨Nat.le_of_ble_eq_true rfl, Nat.le_of_ble_eq_true rfl⟩) hP hS hA (fun H locs hP hS _ => ?_)
          refine lv_if_eq (tgt := 114) hx hb dX0_isWon_107 (by decide) (fun c174 => ?_) (fun c174 => ?_)
          · have hf := if_t hf c174
            refine lv_iconst (v := (0 : Int32)) hx hb dX0_isWon_114 (by decide) ?_
            exact hp_zret hx hb hr hlocks (Or.inl rfl) (Option.some.inj hf) rfl hP hS keep_rf dX0_isWon_115
          · have hf := if_f hf c174
            refine lv_iconst (v := (1 : Int32)) hx hb dX0_isWon_110 (by decide) ?_
            refine lv_goto (tgt := 115) hx hb dX0_isWon_111 (by decide) ?_
            exact hp_zret hx hb hr hlocks (Or.inr rfl) (Option.some.inj hf) rfl hP hS keep_rf dX0_isWon_115
  have hf := if_f hf c138
  by_cases c175 : x111 = (3 : Int32)
  · have hf := if_t hf c175
    refine W_topI c175.symm ?_
    refine lv_tableIn (x := (3 : Int32)) (off := 112) (tgt := 116) hx hb dX0_isWon_4 (by decide) (by decide) (by decide) (by decide) ?_
    refine lv_aload_n hx hb dX0_isWon_116 rfl (lv_at hl 0 rfl) ?_
    have h176 : ∀ j : Nat, (mR M0 7 v0 1) = some j → mA M0 4 j = true := fun j hj => hp_wf hP a0 hj
    refine gf7 (v := va_rf (((mR M0 7 v0 1)).map (ad 4))) hx hb hts hown hK hP a0 1 (by decide) (hts _ q178) rfl rfl dX0_isWon_117 ?_
    refine lv_iload_n hx hb dX0_isWon_120 rfl (lv_at hl 1 rfl) ?_
    refine lv_iconst (v := (1 : Int32)) hx hb dX0_isWon_121 (by decide) ?_
    obtain ⟨i177, e178, hf⟩ := ob_some hf
    have h179 : mA M0 4 i177 = true := h176 i177 e178
    refine W_stk (st := [.int (1 : Int32), .int v1, va_rf (((mR M0 7 v0 1)).map (ad 4))]) (st' := [.int (1 : Int32), .int v1, .ref (ad 4 i177)]) (by first | (rw [e178]; done) | (rw [e178]; rfl)) ?_
    obtain ⟨r181, e180, hf⟩ := ob_some hf
    refine hp_calli (va_runVN (As := [.int v1, .int (1 : Int32)]) (rest := []) ⟨hx, hb, hml, hown, hts⟩ (ok_X1_isWithin l D cy ad M0 _ i177 v1 (1 : Int32) r181 h179 e180) ⟨va_cnB 2 hts (gd0 q440) rfl rfl rfl (hN.2.1 (RX0, 69, yX1_isWithin, RX3) (List.mem_of_getElem? (i := 23) rfl)) (hts _ q87) (by decide +kernel) ⟨Nat.le_of_ble_eq_true rfl, Nat.le_of_ble_eq_true rfl⟩, hts _ q439, hts _ q28⟩ (pre_V hP hK hN h179 ds_4 rfl) rfl rfl hl.1 rfl (lv_room (Nat.le_of_ble_eq_true rfl)) dX0_isWon_122 ⟨Nat.le_of_ble_eq_true rfl, Nat.le_of_ble_eq_true rfl⟩) hP hS hA (fun H locs hP hS _ => ?_)
    refine lv_if_eq (tgt := 156) hx hb dX0_isWon_125 (by decide) (fun c184 => ?_) (fun c184 => ?_)
    · have hf := if_t hf c184
      refine lv_iconst (v := (0 : Int32)) hx hb dX0_isWon_156 (by decide) ?_
      exact hp_zret hx hb hr hlocks (Or.inl rfl) (Option.some.inj hf) rfl hP hS keep_rf dX0_isWon_157
    · have hf := if_f hf c184
      refine lv_aload_n hx hb dX0_isWon_128 rfl (lv_at hl 0 rfl) ?_
      have h185 : ∀ j : Nat, (mR M0 7 v0 1) = some j → mA M0 4 j = true := fun j hj => hp_wf hP a0 hj
      refine gf7 (v := va_rf (((mR M0 7 v0 1)).map (ad 4))) hx hb hts hown hK hP a0 1 (by decide) (hts _ q178) rfl rfl dX0_isWon_129 ?_
      refine lv_iload_n hx hb dX0_isWon_132 rfl (lv_at hl 2 rfl) ?_
      refine lv_iconst (v := (2 : Int32)) hx hb dX0_isWon_133 (by decide) ?_
      obtain ⟨i186, e187, hf⟩ := ob_some hf
      have h188 : mA M0 4 i186 = true := h185 i186 e187
      refine W_stk (st := [.int (2 : Int32), .int v2, va_rf (((mR M0 7 v0 1)).map (ad 4))]) (st' := [.int (2 : Int32), .int v2, .ref (ad 4 i186)]) (by first | (rw [e187]; done) | (rw [e187]; rfl)) ?_
      obtain ⟨r190, e189, hf⟩ := ob_some hf
      refine hp_calli (va_runVN (As := [.int v2, .int (2 : Int32)]) (rest := []) ⟨hx, hb, hml, hown, hts⟩ (ok_X1_isWithin l D cy ad M0 _ i186 v2 (2 : Int32) r190 h188 e189) ⟨va_cnB 2 hts (gd0 q440) rfl rfl rfl (hN.2.1 (RX0, 69, yX1_isWithin, RX3) (List.mem_of_getElem? (i := 23) rfl)) (hts _ q87) (by decide +kernel) ⟨Nat.le_of_ble_eq_true rfl, Nat.le_of_ble_eq_true rfl⟩, hts _ q439, hts _ q28⟩ (pre_V hP hK hN h188 ds_4 rfl) rfl rfl hl.1 rfl (lv_room (Nat.le_of_ble_eq_true rfl)) dX0_isWon_134 ⟨Nat.le_of_ble_eq_true rfl, Nat.le_of_ble_eq_true rfl⟩) hP hS hA (fun H locs hP hS _ => ?_)
      refine lv_if_eq (tgt := 156) hx hb dX0_isWon_137 (by decide) (fun c193 => ?_) (fun c193 => ?_)
      · have hf := if_t hf c193
        refine lv_iconst (v := (0 : Int32)) hx hb dX0_isWon_156 (by decide) ?_
        exact hp_zret hx hb hr hlocks (Or.inl rfl) (Option.some.inj hf) rfl hP hS keep_rf dX0_isWon_157
      · have hf := if_f hf c193
        refine lv_aload_n hx hb dX0_isWon_140 rfl (lv_at hl 0 rfl) ?_
        have h194 : ∀ j : Nat, (mR M0 7 v0 1) = some j → mA M0 4 j = true := fun j hj => hp_wf hP a0 hj
        refine gf7 (v := va_rf (((mR M0 7 v0 1)).map (ad 4))) hx hb hts hown hK hP a0 1 (by decide) (hts _ q178) rfl rfl dX0_isWon_141 ?_
        refine lv_iload_n hx hb dX0_isWon_144 rfl (lv_at hl 3 rfl) ?_
        refine lv_iconst (v := (3 : Int32)) hx hb dX0_isWon_145 (by decide) ?_
        obtain ⟨i195, e196, hf⟩ := ob_some hf
        have h197 : mA M0 4 i195 = true := h194 i195 e196
        refine W_stk (st := [.int (3 : Int32), .int v3, va_rf (((mR M0 7 v0 1)).map (ad 4))]) (st' := [.int (3 : Int32), .int v3, .ref (ad 4 i195)]) (by first | (rw [e196]; done) | (rw [e196]; rfl)) ?_
        obtain ⟨r199, e198, hf⟩ := ob_some hf
        refine hp_calli (va_runVN (As := [.int v3, .int (3 : Int32)]) (rest := []) ⟨hx, hb, hml, hown, hts⟩ (ok_X1_isWithin l D cy ad M0 _ i195 v3 (3 : Int32) r199 h197 e198) ⟨va_cnB 2 hts (gd0 q440) rfl rfl rfl (hN.2.1 (RX0, 69, yX1_isWithin, RX3) (List.mem_of_getElem? (i := 23) rfl)) (hts _ q87) (by decide +kernel) ⟨Nat.le_of_ble_eq_true rfl, Nat.le_of_ble_eq_true rfl⟩, hts _ q439, hts _ q28⟩ (pre_V hP hK hN h197 ds_4 rfl) rfl rfl hl.1 rfl (lv_room (Nat.le_of_ble_eq_true rfl)) dX0_isWon_146 ⟨Nat.le_of_ble_eq_true rfl, Nat.le_of_ble_eq_true rfl⟩) hP hS hA (fun H locs hP hS _ => ?_)
        refine lv_if_eq (tgt := 156) hx hb dX0_isWon_149 (by decide) (fun c202 => ?_) (fun c202 => ?_)
        · have hf := if_t hf c202
          refine lv_iconst (v := (0 : Int32)) hx hb dX0_isWon_156 (by decide) ?_
          exact hp_zret hx hb hr hlocks (Or.inl rfl) (Option.some.inj hf) rfl hP hS keep_rf dX0_isWon_157
        · have hf := if_f hf c202
          refine lv_iconst (v := (1 : Int32)) hx hb dX0_isWon_152 (by decide) ?_
          refine lv_goto (tgt := 157) hx hb dX0_isWon_153 (by decide) ?_
          exact hp_zret hx hb hr hlocks (Or.inr rfl) (Option.some.inj hf) rfl hP hS keep_rf dX0_isWon_157
  have hf := if_f hf c175
  have hsw : ∀ n : Nat, (n : Int) ≤ (3) - (0) → ¬ x111 = Int32.ofInt ((0) + (n : Int)) := by
    intro n hn
    have hn2 : n = 0 ∨ n = 1 ∨ n = 2 ∨ n = 3 := by omega
    rcases hn2 with rfl | rfl | rfl | rfl
    · exact fun z => c113 (z.trans (by decide))
    · exact fun z => c123 (z.trans (by decide))
    · exact fun z => c138 (z.trans (by decide))
    · exact fun z => c175 (z.trans (by decide))
  refine lv_tableOut (tgt := 158) hx hb dX0_isWon_4 (sw_out hsw) (by decide) ?_
  refine lv_aload_n hx hb dX0_isWon_158 rfl (lv_at hl 0 rfl) ?_
  have h203 : ∀ j : Nat, (mR M0 7 v0 1) = some j → mA M0 4 j = true := fun j hj => hp_wf hP a0 hj
  refine gf7 (v := va_rf (((mR M0 7 v0 1)).map (ad 4))) hx hb hts hown hK hP a0 1 (by decide) (hts _ q178) rfl rfl dX0_isWon_159 ?_
  refine lv_iload_n hx hb dX0_isWon_162 rfl (lv_at hl 1 rfl) ?_
  refine lv_iconst (v := (1 : Int32)) hx hb dX0_isWon_163 (by decide) ?_
  obtain ⟨i204, e205, hf⟩ := ob_some hf
  have h206 : mA M0 4 i204 = true := h203 i204 e205
  refine W_stk (st := [.int (1 : Int32), .int v1, va_rf (((mR M0 7 v0 1)).map (ad 4))]) (st' := [.int (1 : Int32), .int v1, .ref (ad 4 i204)]) (by first | (rw [e205]; done) | (rw [e205]; rfl)) ?_
  obtain ⟨r208, e207, hf⟩ := ob_some hf
  refine hp_calli (va_runVN (As := [.int v1, .int (1 : Int32)]) (rest := []) ⟨hx, hb, hml, hown, hts⟩ (ok_X1_isWithin l D cy ad M0 _ i204 v1 (1 : Int32) r208 h206 e207) ⟨va_cnB 2 hts (gd0 q440) rfl rfl rfl (hN.2.1 (RX0, 69, yX1_isWithin, RX3) (List.mem_of_getElem? (i := 23) rfl)) (hts _ q87) (by decide +kernel) ⟨Nat.le_of_ble_eq_true rfl, Nat.le_of_ble_eq_true rfl⟩, hts _ q439, hts _ q28⟩ (pre_V hP hK hN h206 ds_4 rfl) rfl rfl hl.1 rfl (lv_room (Nat.le_of_ble_eq_true rfl)) dX0_isWon_164 ⟨Nat.le_of_ble_eq_true rfl, Nat.le_of_ble_eq_true rfl⟩) hP hS hA (fun H locs hP hS _ => ?_)
  refine lv_if_eq (tgt := 186) hx hb dX0_isWon_167 (by decide) (fun c211 => ?_) (fun c211 => ?_)
  · have hf := if_t hf c211
    refine lv_iconst (v := (0 : Int32)) hx hb dX0_isWon_186 (by decide) ?_
    exact hp_zret hx hb hr hlocks (Or.inl rfl) (Option.some.inj hf) rfl hP hS keep_rf dX0_isWon_187
  · have hf := if_f hf c211
    refine lv_aload_n hx hb dX0_isWon_170 rfl (lv_at hl 0 rfl) ?_
    have h212 : ∀ j : Nat, (mR M0 7 v0 2) = some j → mA M0 4 j = true := fun j hj => hp_wf hP a0 hj
    refine gf7 (v := va_rf (((mR M0 7 v0 2)).map (ad 4))) hx hb hts hown hK hP a0 2 (by decide) (hts _ q180) rfl rfl dX0_isWon_171 ?_
    refine lv_iload_n hx hb dX0_isWon_174 rfl (lv_at hl 2 rfl) ?_
    refine lv_iconst (v := (1 : Int32)) hx hb dX0_isWon_175 (by decide) ?_
    obtain ⟨i213, e214, hf⟩ := ob_some hf
    have h215 : mA M0 4 i213 = true := h212 i213 e214
    refine W_stk (st := [.int (1 : Int32), .int v2, va_rf (((mR M0 7 v0 2)).map (ad 4))]) (st' := [.int (1 : Int32), .int v2, .ref (ad 4 i213)]) (by first | (rw [e214]; done) | (rw [e214]; rfl)) ?_
    obtain ⟨r217, e216, hf⟩ := ob_some hf
    refine hp_calli (va_runVN (As := [.int v2, .int (1 : Int32)]) (rest := []) ⟨hx, hb, hml, hown, hts⟩ (ok_X1_isWithin l D cy ad M0 _ i213 v2 (1 : Int32) r217 h215 e216) ⟨va_cnB 2 hts (gd0 q440) rfl rfl rfl (hN.2.1 (RX0, 69, yX1_isWithin, RX3) (List.mem_of_getElem? (i := 23) rfl)) (hts _ q87) (by decide +kernel) ⟨Nat.le_of_ble_eq_true rfl, Nat.le_of_ble_eq_true rfl⟩, hts _ q439, hts _ q28⟩ (pre_V hP hK hN h215 ds_4 rfl) rfl rfl hl.1 rfl (lv_room (Nat.le_of_ble_eq_true rfl)) dX0_isWon_176 ⟨Nat.le_of_ble_eq_true rfl, Nat.le_of_ble_eq_true rfl⟩) hP hS hA (fun H locs hP hS _ => ?_)
    refine lv_if_eq (tgt := 186) hx hb dX0_isWon_179 (by decide) (fun c220 => ?_) (fun c220 => ?_)
    · have hf := if_t hf c220
      refine lv_iconst (v := (0 : Int32)) hx hb dX0_isWon_186 (by decide) ?_
      exact hp_zret hx hb hr hlocks (Or.inl rfl) (Option.some.inj hf) rfl hP hS keep_rf dX0_isWon_187
    · have hf := if_f hf c220
      refine lv_iconst (v := (1 : Int32)) hx hb dX0_isWon_182 (by decide) ?_
      refine lv_goto (tgt := 187) hx hb dX0_isWon_183 (by decide) ?_
      exact hp_zret hx hb hr hlocks (Or.inr rfl) (Option.some.inj hf) rfl hP hS keep_rf dX0_isWon_187
def f_X0_isOldestOfItsNames_5 (M0 : Mm) : Nat → Nat → Nat → Option Nat → Option Int32
  | 0, _, _, _ => none
  | n + 1, v0, v1, v2 => on v2 (some (1 : Int32)) fun i19 => ob (f_X2_isLive i19 M0) fun r22 => if r22 = 0 then (f_X0_isOldestOfItsNames_5 M0 n v0 v1 (mR M0 8 i19 1)) else (ob (f_X0_isNamed v0 i19 (mI M0 8 v1 3) (mI M0 8 v1 4) (mI M0 8 v1 5) M0) fun r28 => if r28 = 0 then (f_X0_isOldestOfItsNames_5 M0 n v0 v1 (mR M0 8 i19 1)) else (some (0 : Int32)))
def f_X0_isOldestOfItsNames (v0 : Nat) (v1 : Nat) (M0 : Mm) : Option Int32 :=
  f_X0_isOldestOfItsNames_5 M0 FU v0 v1 (mR M0 8 v1 1)
set_option maxRecDepth 100000 in
set_option maxHeartbeats 4000000 in
theorem t_X0_isOldestOfItsNames_5 {p : Program} {l : Launch} {e : Env} {s : State} {m : MethodId} {args : Array Value} {below : List Frame} {meth : Method} {c : Code} {D : va_G} {cy : Nat → ClassId} {ad : Nat → Nat → Nat} {M0 : Mm} {r0 : Int32} (C : Cx RX0 cX0_isOldestOfItsNames 3 (some .boolean) D cy (AA ad M0 s.heap.size) p s m args meth c) : ∀ (n : Nat), ∀ (v0 : Nat) (v1 : Nat) (v2 : Option Nat) (H : Heap) (locs : List Loc) (ls : Array Slot), (mA M0 7 v0 = true) → (mA M0 8 v1 = true) → (∀ j : Nat, v2 = some j → mA M0 8 j = true) → f_X0_isOldestOfItsNames_5 M0 n v0 v1 v2 = some r0 → HP D cy (AA ad M0 s.heap.size) ad M0 H → va_S (AA ad M0 s.heap.size) s.heap H locs → lv_has ls 3 [(0, .ref (ad 7 v0)), (1, .ref (ad 8 v1)), (2, va_rf (v2.map (ad 8)))] → W p l e { frames := 1, cells := 0, slots := 0, locals := 24 } s m args below meth c H locs 0 0 (MQ below (QI D cy ad M0 s.heap.size r0 M0) args s 0 0 (AA ad M0 s.heap.size)) (F0 m 5 ls []) := by
  obtain ⟨hx, hb, hr, hml, hown, hts, hlocks, hK, hN, hA⟩ := id C
  intro n
  induction n with
  | zero =>
    intro v0 v1 v2 H locs ls a0 a1 a2 hf hP hS hl
    simp [f_X0_isOldestOfItsNames_5] at hf
  | succ n ih =>
    intro v0 v1 v2 H locs ls a0 a1 a2 hf hP hS hl
    rw [f_X0_isOldestOfItsNames_5] at hf
    refine hp_aload_n (r := (v2).map (ad 8)) hx hb dX0_isOldestOfItsNames_5 rfl (lv_at hl 2 rfl) ?_
    rcases on_c hf with ⟨e18, hf⟩ | ⟨i19, e18, hf⟩
    · refine W_top (y := .null) (by rw [e18]; rfl) ?_
      refine lv_ifnullN (tgt := 46) hx hb dX0_isOldestOfItsNames_6 (by decide) ?_
      refine lv_iconst (v := (1 : Int32)) hx hb dX0_isOldestOfItsNames_46 (by decide) ?_
      exact hp_zret hx hb hr hlocks (Or.inr rfl) (Option.some.inj hf) rfl hP hS keep_rf dX0_isOldestOfItsNames_47
    · have h20 : mA M0 8 i19 = true := a2 i19 e18
      rw [e18] at hl
      have hl : lv_has ls 3 [(0, .ref (ad 7 v0)), (1, .ref (ad 8 v1)), (2, .ref (ad 8 i19))] := hl
      refine W_stk (st := [va_rf ((v2).map (ad 8))]) (st' := [.ref (ad 8 i19)]) (by first | (rw [e18]; done) | (rw [e18]; rfl)) ?_
      refine lv_ifnull hx hb dX0_isOldestOfItsNames_6 ?_
      refine lv_aload_n hx hb dX0_isOldestOfItsNames_9 rfl (lv_at hl 2 rfl) ?_
      obtain ⟨r22, e21, hf⟩ := ob_some hf
      refine hp_calli (va_runVN (As := []) (rest := []) ⟨hx, hb, hml, hown, hts⟩ (ok_X2_isLive l D cy ad M0 _ i19 r22 h20 e21) ⟨va_cnB 0 hts (gd0 q370) rfl rfl rfl (hN.2.1 (RX0, 91, yX2_isLive, RX3) (List.mem_of_getElem? (i := 14) rfl)) (hts _ q89) (by decide +kernel) ⟨Nat.le_of_ble_eq_true rfl, Nat.le_of_ble_eq_true rfl⟩, hts _ q369, hts _ q16⟩ (pre_V hP hK hN h20 ds_8 rfl) rfl rfl hl.1 rfl (lv_room (Nat.le_of_ble_eq_true rfl)) dX0_isOldestOfItsNames_10 ⟨Nat.le_of_ble_eq_true rfl, Nat.le_of_ble_eq_true rfl⟩) hP hS hA (fun H locs hP hS _ => ?_)
      refine lv_if_eq (tgt := 38) hx hb dX0_isOldestOfItsNames_13 (by decide) (fun c25 => ?_) (fun c25 => ?_)
      · have hf := if_t hf c25
        refine lv_aload_n hx hb dX0_isOldestOfItsNames_38 rfl (lv_at hl 2 rfl) ?_
        have h26 : ∀ j : Nat, (mR M0 8 i19 1) = some j → mA M0 8 j = true := fun j hj => hp_wf hP h20 hj
        refine gf8N (v := va_rf (((mR M0 8 i19 1)).map (ad 8))) hx hb hts hown hK hP h20 1 (by decide) (va_Nw.use rfl (hN.1 (RX0, 85, "ToteHouse$Ticket", "earlier", "LToteHouse$Ticket;", RX3) (List.mem_of_getElem? (i := 21) rfl))) rfl rfl dX0_isOldestOfItsNames_39 ?_
        refine hp_astore_n (r := ((mR M0 8 i19 1)).map (ad 8)) (lv' := [(2, va_rf (((mR M0 8 i19 1)).map (ad 8))), (0, .ref (ad 7 v0)), (1, .ref (ad 8 v1))]) hx hb dX0_isOldestOfItsNames_42 rfl hl (by decide) rfl (fun ls hl => ?_)
        refine lv_goto (tgt := 5) hx hb dX0_isOldestOfItsNames_43 (by decide) ?_
        exact ih v0 v1 (mR M0 8 i19 1) _ _ _ a0 a1 h26 hf hP hS (lv_sub hl [1, 2, 0] rfl)
      · have hf := if_f hf c25
        refine lv_aload_n hx hb dX0_isOldestOfItsNames_16 rfl (lv_at hl 0 rfl) ?_
        refine lv_aload_n hx hb dX0_isOldestOfItsNames_17 rfl (lv_at hl 2 rfl) ?_
        refine lv_aload_n hx hb dX0_isOldestOfItsNames_18 rfl (lv_at hl 1 rfl) ?_
        refine gf8N (v := .int (mI M0 8 v1 3)) hx hb hts hown hK hP a1 3 (by decide) (va_Nw.use rfl (hN.1 (RX0, 58, "ToteHouse$Ticket", "a", "I", RX3) (List.mem_of_getElem? (i := 25) rfl))) rfl rfl dX0_isOldestOfItsNames_19 ?_
        refine lv_aload_n hx hb dX0_isOldestOfItsNames_22 rfl (lv_at hl 1 rfl) ?_
        refine gf8N (v := .int (mI M0 8 v1 4)) hx hb hts hown hK hP a1 4 (by decide) (va_Nw.use rfl (hN.1 (RX0, 63, "ToteHouse$Ticket", "b", "I", RX3) (List.mem_of_getElem? (i := 27) rfl))) rfl rfl dX0_isOldestOfItsNames_23 ?_
        refine lv_aload_n hx hb dX0_isOldestOfItsNames_26 rfl (lv_at hl 1 rfl) ?_
        refine gf8N (v := .int (mI M0 8 v1 5)) hx hb hts hown hK hP a1 5 (by decide) (va_Nw.use rfl (hN.1 (RX0, 66, "ToteHouse$Ticket", "c", "I", RX3) (List.mem_of_getElem? (i := 29) rfl))) rfl rfl dX0_isOldestOfItsNames_27 ?_
        obtain ⟨r28, e27, hf⟩ := ob_some hf
        refine hp_calli (va_runV (As := [.ref (ad 8 i19), .int (mI M0 8 v1 3), .int (mI M0 8 v1 4), .int (mI M0 8 v1 5)]) (rest := []) ⟨hx, hb, hml, hown, hts⟩ (ok_X0_isNamed l D cy ad M0 _ v0 i19 (mI M0 8 v1 3) (mI M0 8 v1 4) (mI M0 8 v1 5) r28 a0 h20 e27) (cwV 4 hts (gdV q371 q373 q17 q88 q374) rfl rfl rfl (by decide +kernel) ⟨Nat.le_of_ble_eq_true rfl, Nat.le_of_ble_eq_true rfl⟩) (pre_V hP hK hN a0 ds_7 rfl) rfl rfl hl.1 rfl (lv_room (Nat.le_of_ble_eq_true rfl)) dX0_isOldestOfItsNames_30 ⟨Nat.le_of_ble_eq_true rfl, Nat.le_of_ble_eq_true rfl⟩) hP hS hA (fun H locs hP hS _ => ?_)
        refine lv_if_eq (tgt := 38) hx hb dX0_isOldestOfItsNames_33 (by decide) (fun c31 => ?_) (fun c31 => ?_)
        · have hf := if_t hf c31
          refine lv_aload_n hx hb dX0_isOldestOfItsNames_38 rfl (lv_at hl 2 rfl) ?_
          have h32 : ∀ j : Nat, (mR M0 8 i19 1) = some j → mA M0 8 j = true := fun j hj => hp_wf hP h20 hj
          refine gf8N (v := va_rf (((mR M0 8 i19 1)).map (ad 8))) hx hb hts hown hK hP h20 1 (by decide) (va_Nw.use rfl (hN.1 (RX0, 85, "ToteHouse$Ticket", "earlier", "LToteHouse$Ticket;", RX3) (List.mem_of_getElem? (i := 21) rfl))) rfl rfl dX0_isOldestOfItsNames_39 ?_
          refine hp_astore_n (r := ((mR M0 8 i19 1)).map (ad 8)) (lv' := [(2, va_rf (((mR M0 8 i19 1)).map (ad 8))), (0, .ref (ad 7 v0)), (1, .ref (ad 8 v1))]) hx hb dX0_isOldestOfItsNames_42 rfl hl (by decide) rfl (fun ls hl => ?_)
          refine lv_goto (tgt := 5) hx hb dX0_isOldestOfItsNames_43 (by decide) ?_
          exact ih v0 v1 (mR M0 8 i19 1) _ _ _ a0 a1 h32 hf hP hS (lv_sub hl [1, 2, 0] rfl)
        · have hf := if_f hf c31
          refine lv_iconst (v := (0 : Int32)) hx hb dX0_isOldestOfItsNames_36 (by decide) ?_
          exact hp_zret hx hb hr hlocks (Or.inl rfl) (Option.some.inj hf) rfl hP hS keep_rf dX0_isOldestOfItsNames_37
set_option maxRecDepth 100000 in
set_option maxHeartbeats 4000000 in
theorem ok_X0_isOldestOfItsNames (l : Launch) (D : va_G) (cy : Nat → ClassId) (ad : Nat → Nat → Nat) (M0 : Mm) (sz : Nat) (v0 : Nat) (v1 : Nat) (r0 : Int32) (a0 : mA M0 7 v0 = true) (a1 : mA M0 8 v1 = true) (hf : f_X0_isOldestOfItsNames v0 v1 M0 = some r0) : Met l yX0_isOldestOfItsNames (Cond.code yX0_isOldestOfItsNames cX0_isOldestOfItsNames 3 (some .boolean) :: BW) { frames := 1, cells := 0, slots := 0, locals := 24 } (va_Pc [.ref (ad 7 v0), .ref (ad 8 v1)] (PRE D cy ad M0 sz)) (QI D cy ad M0 sz r0 M0) 0 0 (AA ad M0 sz) := by
  refine Met.ofW (cc := cX0_isOldestOfItsNames) (maxL := 3) (ret := (some .boolean)) (by decide) rfl ?_
  intro p e s m args below meth c s₁ B hml hv
  obtain ⟨rfl, rfl, hP0, hK, hN⟩ := hv
  have hx := B.exec
  have hb := B.bytes
  have hr := B.returns
  have hts0 := atoms_spec (ws := (Cond.code yX0_isOldestOfItsNames cX0_isOldestOfItsNames 3 (some .boolean) :: BW)) B.pre
  have hts : ∀ w ∈ BW, w.before ([.ref (ad 7 v0), .ref (ad 8 v1)] : List Value).toArray s = true := fun w h => hts0 w (List.mem_cons_of_mem _ h)
  have hown : s.vm.findClass RX0 = some m.cls := findClass_of_methodNamed B.named
  have hlocks := B.notSynchronized
  have hA : ∀ q : Nat, s.heap.size ≤ q → AA ad M0 s.heap.size q := fun q h => Or.inr h
  have C : Cx RX0 cX0_isOldestOfItsNames 3 (some .boolean) D cy (AA ad M0 s.heap.size) p s m ([.ref (ad 7 v0), .ref (ad 8 v1)] : List Value).toArray meth c := ⟨hx, hb, hr, hml, hown, hts, hlocks, hK, hN, hA⟩
  have hP := hp_self (sz := s.heap.size) hP0
  have hS : va_S (AA ad M0 s.heap.size) s.heap s.heap [] := va_S.rf
  have hl := lv_entry ([.ref (ad 7 v0), .ref (ad 8 v1)]) (n := 3) (Nat.le_of_ble_eq_true rfl)
  rw [lg_entry_eq]
  generalize (lg_sl ([.ref (ad 7 v0), .ref (ad 8 v1)]) ++ List.replicate (3 - (lg_sl ([.ref (ad 7 v0), .ref (ad 8 v1)])).length) Slot.unset).toArray = ls at hl ⊢
  have hl : lv_has ls 3 [(0, .ref (ad 7 v0)), (1, .ref (ad 8 v1))] := hl
  unfold f_X0_isOldestOfItsNames at hf
  refine lv_aload_n hx hb dX0_isOldestOfItsNames_0 rfl (lv_at hl 1 rfl) ?_
  have h17 : ∀ j : Nat, (mR M0 8 v1 1) = some j → mA M0 8 j = true := fun j hj => hp_wf hP a1 hj
  refine gf8N (v := va_rf (((mR M0 8 v1 1)).map (ad 8))) hx hb hts hown hK hP a1 1 (by decide) (va_Nw.use rfl (hN.1 (RX0, 85, "ToteHouse$Ticket", "earlier", "LToteHouse$Ticket;", RX3) (List.mem_of_getElem? (i := 21) rfl))) rfl rfl dX0_isOldestOfItsNames_1 ?_
  refine hp_astore_n (r := ((mR M0 8 v1 1)).map (ad 8)) (lv' := [(2, va_rf (((mR M0 8 v1 1)).map (ad 8))), (0, .ref (ad 7 v0)), (1, .ref (ad 8 v1))]) hx hb dX0_isOldestOfItsNames_4 rfl hl (by decide) rfl (fun ls hl => ?_)
  exact t_X0_isOldestOfItsNames_5 C FU v0 v1 (mR M0 8 v1 1) _ _ _ a0 a1 h17 hf hP hS (lv_sub hl [1, 2, 0] rfl)
def f_X0_findWinners_5 : Nat → Nat → Option Nat → Mm → Option Mm
  | 0, _, _, _ => none
  | n + 1, v0, v1, M => on v1 (some M) fun i32 => ob (f_X2_isLive i32 M) fun r35 => if r35 = 0 then (f_X0_findWinners_5 n v0 (mR M 8 i32 1) M) else (ob (f_X0_isWon v0 (mI M 8 i32 3) (mI M 8 i32 4) (mI M 8 i32 5) M) fun r41 => if r41 = 0 then (f_X0_findWinners_5 n v0 (mR M 8 i32 1) M) else (lt (sJ M 7 v0 8 ((mJ M 7 v0 8) + (((mI M 8 i32 2)).toInt64))) fun M46 => ob (f_X0_isOldestOfItsNames v0 i32 M46) fun r50 => if r50 = 0 then (f_X0_findWinners_5 n v0 (mR M46 8 i32 1) M46) else (lt (sI M46 7 v0 7 ((mI M46 7 v0 7) + (1 : Int32))) fun M55 => f_X0_findWinners_5 n v0 (mR M55 8 i32 1) M55)))
def f_X0_findWinners (v0 : Nat) (M0 : Mm) : Option Mm :=
  f_X0_findWinners_5 FU v0 (mR M0 7 v0 5) M0
set_option maxRecDepth 100000 in
set_option maxHeartbeats 4000000 in
theorem t_X0_findWinners_5 {p : Program} {l : Launch} {e : Env} {s : State} {m : MethodId} {args : Array Value} {below : List Frame} {meth : Method} {c : Code} {D : va_G} {cy : Nat → ClassId} {ad : Nat → Nat → Nat} {M0 : Mm} {M' : Mm} (C : Cx RX0 cX0_findWinners 2 none D cy (AA ad M0 s.heap.size) p s m args meth c) : ∀ (n : Nat), ∀ (v0 : Nat) (v1 : Option Nat) (M : Mm) (H : Heap) (locs : List Loc) (ls : Array Slot), (mA M 7 v0 = true) → (∀ j : Nat, v1 = some j → mA M 8 j = true) → Keep M0 M → f_X0_findWinners_5 n v0 v1 M = some M' → HP D cy (AA ad M0 s.heap.size) ad M H → va_S (AA ad M0 s.heap.size) s.heap H locs → lv_has ls 2 [(0, .ref (ad 7 v0)), (1, va_rf (v1.map (ad 8)))] → W p l e { frames := 3, cells := 0, slots := 0, locals := 67 } s m args below meth c H locs 0 0 (MQ below (QV D cy ad M0 s.heap.size M') args s 0 0 (AA ad M0 s.heap.size)) (F0 m 5 ls []) := by
  obtain ⟨hx, hb, hr, hml, hown, hts, hlocks, hK, hN, hA⟩ := id C
  intro n
  induction n with
  | zero =>
    intro v0 v1 M H locs ls a0 a1 hk hf hP hS hl
    simp [f_X0_findWinners_5] at hf
  | succ n ih =>
    intro v0 v1 M H locs ls a0 a1 hk hf hP hS hl
    rw [f_X0_findWinners_5] at hf
    refine hp_aload_n (r := (v1).map (ad 8)) hx hb dX0_findWinners_5 rfl (lv_at hl 1 rfl) ?_
    rcases on_c hf with ⟨e31, hf⟩ | ⟨i32, e31, hf⟩
    · refine W_top (y := .null) (by rw [e31]; rfl) ?_
      refine lv_ifnullN (tgt := 75) hx hb dX0_findWinners_6 (by decide) ?_
      exact hp_vret hx hb hr hlocks (Option.some.inj hf) hP hS hk dX0_findWinners_75
    · have h33 : mA M 8 i32 = true := a1 i32 e31
      rw [e31] at hl
      have hl : lv_has ls 2 [(0, .ref (ad 7 v0)), (1, .ref (ad 8 i32))] := hl
      refine W_stk (st := [va_rf ((v1).map (ad 8))]) (st' := [.ref (ad 8 i32)]) (by first | (rw [e31]; done) | (rw [e31]; rfl)) ?_
      refine lv_ifnull hx hb dX0_findWinners_6 ?_
      refine lv_aload_n hx hb dX0_findWinners_9 rfl (lv_at hl 1 rfl) ?_
      obtain ⟨r35, e34, hf⟩ := ob_some hf
      refine hp_calli (va_runVN (As := []) (rest := []) ⟨hx, hb, hml, hown, hts⟩ (ok_X2_isLive l D cy ad M _ i32 r35 h33 e34) ⟨va_cnB 0 hts (gd0 q370) rfl rfl rfl (hN.2.1 (RX0, 91, yX2_isLive, RX3) (List.mem_of_getElem? (i := 14) rfl)) (hts _ q89) (by decide +kernel) ⟨Nat.le_of_ble_eq_true rfl, Nat.le_of_ble_eq_true rfl⟩, hts _ q369, hts _ q16⟩ (pre_V hP hK hN h33 ds_8 rfl) rfl rfl hl.1 rfl (lv_room (Nat.le_of_ble_eq_true rfl)) dX0_findWinners_10 ⟨Nat.le_of_ble_eq_true rfl, Nat.le_of_ble_eq_true rfl⟩) hP hS hA (fun H locs hP hS _ => ?_)
      refine lv_if_eq (tgt := 67) hx hb dX0_findWinners_13 (by decide) (fun c38 => ?_) (fun c38 => ?_)
      · have hf := if_t hf c38
        refine lv_aload_n hx hb dX0_findWinners_67 rfl (lv_at hl 1 rfl) ?_
        have h39 : ∀ j : Nat, (mR M 8 i32 1) = some j → mA M 8 j = true := fun j hj => hp_wf hP h33 hj
        refine gf8N (v := va_rf (((mR M 8 i32 1)).map (ad 8))) hx hb hts hown hK hP h33 1 (by decide) (va_Nw.use rfl (hN.1 (RX0, 85, "ToteHouse$Ticket", "earlier", "LToteHouse$Ticket;", RX3) (List.mem_of_getElem? (i := 21) rfl))) rfl rfl dX0_findWinners_68 ?_
        refine hp_astore_n (r := ((mR M 8 i32 1)).map (ad 8)) (lv' := [(1, va_rf (((mR M 8 i32 1)).map (ad 8))), (0, .ref (ad 7 v0))]) hx hb dX0_findWinners_71 rfl hl (by decide) rfl (fun ls hl => ?_)
        refine lv_goto (tgt := 5) hx hb dX0_findWinners_72 (by decide) ?_
        exact ih v0 (mR M 8 i32 1) M _ _ _ a0 h39 hk hf hP hS (lv_sub hl [1, 0] rfl)
      · have hf := if_f hf c38
        refine lv_aload_n hx hb dX0_findWinners_16 rfl (lv_at hl 0 rfl) ?_
        refine lv_aload_n hx hb dX0_findWinners_17 rfl (lv_at hl 1 rfl) ?_
        refine gf8N (v := .int (mI M 8 i32 3)) hx hb hts hown hK hP h33 3 (by decide) (va_Nw.use rfl (hN.1 (RX0, 58, "ToteHouse$Ticket", "a", "I", RX3) (List.mem_of_getElem? (i := 25) rfl))) rfl rfl dX0_findWinners_18 ?_
        refine lv_aload_n hx hb dX0_findWinners_21 rfl (lv_at hl 1 rfl) ?_
        refine gf8N (v := .int (mI M 8 i32 4)) hx hb hts hown hK hP h33 4 (by decide) (va_Nw.use rfl (hN.1 (RX0, 63, "ToteHouse$Ticket", "b", "I", RX3) (List.mem_of_getElem? (i := 27) rfl))) rfl rfl dX0_findWinners_22 ?_
        refine lv_aload_n hx hb dX0_findWinners_25 rfl (lv_at hl 1 rfl) ?_
        refine gf8N (v := .int (mI M 8 i32 5)) hx hb hts hown hK hP h33 5 (by decide) (va_Nw.use rfl (hN.1 (RX0, 66, "ToteHouse$Ticket", "c", "I", RX3) (List.mem_of_getElem? (i := 29) rfl))) rfl rfl dX0_findWinners_26 ?_
        obtain ⟨r41, e40, hf⟩ := ob_some hf
        refine hp_calli (va_runV (As := [.int (mI M 8 i32 3), .int (mI M 8 i32 4), .int (mI M 8 i32 5)]) (rest := []) ⟨hx, hb, hml, hown, hts⟩ (ok_X0_isWon l D cy ad M _ v0 (mI M 8 i32 3) (mI M 8 i32 4) (mI M 8 i32 5) r41 a0 e40) (cwV 3 hts (gdV q460 q462 q33 q88 q463) rfl rfl rfl (by decide +kernel) ⟨Nat.le_of_ble_eq_true rfl, Nat.le_of_ble_eq_true rfl⟩) (pre_V hP hK hN a0 ds_7 rfl) rfl rfl hl.1 rfl (lv_room (Nat.le_of_ble_eq_true rfl)) dX0_findWinners_29 ⟨Nat.le_of_ble_eq_true rfl, Nat.le_of_ble_eq_true rfl⟩) hP hS hA (fun H locs hP hS _ => ?_)
        refine lv_if_eq (tgt := 67) hx hb dX0_findWinners_32 (by decide) (fun c44 => ?_) (fun c44 => ?_)
        · have hf := if_t hf c44
          refine lv_aload_n hx hb dX0_findWinners_67 rfl (lv_at hl 1 rfl) ?_
          have h45 : ∀ j : Nat, (mR M 8 i32 1) = some j → mA M 8 j = true := fun j hj => hp_wf hP h33 hj
          refine gf8N (v := va_rf (((mR M 8 i32 1)).map (ad 8))) hx hb hts hown hK hP h33 1 (by decide) (va_Nw.use rfl (hN.1 (RX0, 85, "ToteHouse$Ticket", "earlier", "LToteHouse$Ticket;", RX3) (List.mem_of_getElem? (i := 21) rfl))) rfl rfl dX0_findWinners_68 ?_
          refine hp_astore_n (r := ((mR M 8 i32 1)).map (ad 8)) (lv' := [(1, va_rf (((mR M 8 i32 1)).map (ad 8))), (0, .ref (ad 7 v0))]) hx hb dX0_findWinners_71 rfl hl (by decide) rfl (fun ls hl => ?_)
          refine lv_goto (tgt := 5) hx hb dX0_findWinners_72 (by decide) ?_
          exact ih v0 (mR M 8 i32 1) M _ _ _ a0 h45 hk hf hP hS (lv_sub hl [1, 0] rfl)
        · have hf := if_f hf c44
          refine lv_aload_n hx hb dX0_findWinners_35 rfl (lv_at hl 0 rfl) ?_
          refine lv_dup hx hb dX0_findWinners_36 rfl ?_
          refine gf7 (v := .long (mJ M 7 v0 8)) hx hb hts hown hK hP a0 8 (by decide) (hts _ q189) rfl rfl dX0_findWinners_37 ?_
          refine lv_aload_n hx hb dX0_findWinners_40 rfl (lv_at hl 1 rfl) ?_
          refine gf8N (v := .int (mI M 8 i32 2)) hx hb hts hown hK hP h33 2 (by decide) (va_Nw.use rfl (hN.1 (RX0, 98, "ToteHouse$Ticket", "units", "I", RX3) (List.mem_of_getElem? (i := 23) rfl))) rfl rfl dX0_findWinners_41 ?_
          refine lv_i2l hx hb dX0_findWinners_44 rfl ?_
          refine lv_ladd hx hb dX0_findWinners_45 ?_
          obtain ⟨M46, e47, hf⟩ := lt_some hf
          have hk48 : Keep M M46 := keJ e47
          refine pJ7 (v := ((mJ M 7 v0 8) + (((mI M 8 i32 2)).toInt64))) hx hb hts hown hK hP hS a0 8 (by decide) (hts _ q189) rfl rfl rfl e47 dX0_findWinners_46 (fun H locs hP hS => ?_)
          refine lv_aload_n hx hb dX0_findWinners_49 rfl (lv_at hl 0 rfl) ?_
          refine lv_aload_n hx hb dX0_findWinners_50 rfl (lv_at hl 1 rfl) ?_
          obtain ⟨r50, e49, hf⟩ := ob_some hf
          refine hp_calli (va_runV (As := [.ref (ad 8 i32)]) (rest := []) ⟨hx, hb, hml, hown, hts⟩ (ok_X0_isOldestOfItsNames l D cy ad M46 _ v0 i32 r50 (hk48 _ _ a0) (hk48 _ _ h33) e49) (cwV 1 hts (gdV q469 q471 q35 q88 q472) rfl rfl rfl (by decide +kernel) ⟨Nat.le_of_ble_eq_true rfl, Nat.le_of_ble_eq_true rfl⟩) (pre_V hP hK hN (hk48 _ _ a0) ds_7 rfl) rfl rfl hl.1 rfl (lv_room (Nat.le_of_ble_eq_true rfl)) dX0_findWinners_51 ⟨Nat.le_of_ble_eq_true rfl, Nat.le_of_ble_eq_true rfl⟩) hP hS hA (fun H locs hP hS _ => ?_)
          refine lv_if_eq (tgt := 67) hx hb dX0_findWinners_54 (by decide) (fun c53 => ?_) (fun c53 => ?_)
          · have hf := if_t hf c53
            refine lv_aload_n hx hb dX0_findWinners_67 rfl (lv_at hl 1 rfl) ?_
            have h54 : ∀ j : Nat, (mR M46 8 i32 1) = some j → mA M46 8 j = true := fun j hj => hp_wf hP (hk48 _ _ h33) hj
            refine gf8N (v := va_rf (((mR M46 8 i32 1)).map (ad 8))) hx hb hts hown hK hP (hk48 _ _ h33) 1 (by decide) (va_Nw.use rfl (hN.1 (RX0, 85, "ToteHouse$Ticket", "earlier", "LToteHouse$Ticket;", RX3) (List.mem_of_getElem? (i := 21) rfl))) rfl rfl dX0_findWinners_68 ?_
            refine hp_astore_n (r := ((mR M46 8 i32 1)).map (ad 8)) (lv' := [(1, va_rf (((mR M46 8 i32 1)).map (ad 8))), (0, .ref (ad 7 v0))]) hx hb dX0_findWinners_71 rfl hl (by decide) rfl (fun ls hl => ?_)
            refine lv_goto (tgt := 5) hx hb dX0_findWinners_72 (by decide) ?_
            exact ih v0 (mR M46 8 i32 1) M46 _ _ _ (hk48 _ _ a0) h54 (kt hk hk48) hf hP hS (lv_sub hl [1, 0] rfl)
          · have hf := if_f hf c53
            refine lv_aload_n hx hb dX0_findWinners_57 rfl (lv_at hl 0 rfl) ?_
            refine lv_dup hx hb dX0_findWinners_58 rfl ?_
            refine gf7 (v := .int (mI M46 7 v0 7)) hx hb hts hown hK hP (hk48 _ _ a0) 7 (by decide) (hts _ q188) rfl rfl dX0_findWinners_59 ?_
            refine lv_iconst (v := (1 : Int32)) hx hb dX0_findWinners_62 (by decide) ?_
            refine lv_iadd hx hb dX0_findWinners_63 ?_
            obtain ⟨M55, e56, hf⟩ := lt_some hf
            have hk57 : Keep M46 M55 := keI e56
            refine pI7 (v := ((mI M46 7 v0 7) + (1 : Int32))) hx hb hts hown hK hP hS (hk48 _ _ a0) 7 (by decide) (hts _ q188) rfl rfl rfl e56 dX0_findWinners_64 (fun H locs hP hS => ?_)
            refine lv_aload_n hx hb dX0_findWinners_67 rfl (lv_at hl 1 rfl) ?_
            have h58 : ∀ j : Nat, (mR M55 8 i32 1) = some j → mA M55 8 j = true := fun j hj => hp_wf hP (hk57 _ _ (hk48 _ _ h33)) hj
            refine gf8N (v := va_rf (((mR M55 8 i32 1)).map (ad 8))) hx hb hts hown hK hP (hk57 _ _ (hk48 _ _ h33)) 1 (by decide) (va_Nw.use rfl (hN.1 (RX0, 85, "ToteHouse$Ticket", "earlier", "LToteHouse$Ticket;", RX3) (List.mem_of_getElem? (i := 21) rfl))) rfl rfl dX0_findWinners_68 ?_
            refine hp_astore_n (r := ((mR M55 8 i32 1)).map (ad 8)) (lv' := [(1, va_rf (((mR M55 8 i32 1)).map (ad 8))), (0, .ref (ad 7 v0))]) hx hb dX0_findWinners_71 rfl hl (by decide) rfl (fun ls hl => ?_)
            refine lv_goto (tgt := 5) hx hb dX0_findWinners_72 (by decide) ?_
            exact ih v0 (mR M55 8 i32 1) M55 _ _ _ (hk57 _ _ (hk48 _ _ a0)) h58 (kt (kt hk hk48) hk57) hf hP hS (lv_sub hl [1, 0] rfl)
set_option maxRecDepth 100000 in
set_option maxHeartbeats 4000000 in
theorem ok_X0_findWinners (l : Launch) (D : va_G) (cy : Nat → ClassId) (ad : Nat → Nat → Nat) (M0 : Mm) (sz : Nat) (v0 : Nat) (M' : Mm) (a0 : mA M0 7 v0 = true) (hf : f_X0_findWinners v0 M0 = some M') : Met l yX0_findWinners (Cond.code yX0_findWinners cX0_findWinners 2 none :: BW) { frames := 3, cells := 0, slots := 0, locals := 67 } (va_Pc [.ref (ad 7 v0)] (PRE D cy ad M0 sz)) (QV D cy ad M0 sz M') 0 0 (AA ad M0 sz) := by
  refine Met.ofW (cc := cX0_findWinners) (maxL := 2) (ret := none) (by decide) rfl ?_
  intro p e s m args below meth c s₁ B hml hv
  obtain ⟨rfl, rfl, hP0, hK, hN⟩ := hv
  have hx := B.exec
  have hb := B.bytes
  have hr := B.returns
  have hts0 := atoms_spec (ws := (Cond.code yX0_findWinners cX0_findWinners 2 none :: BW)) B.pre
  have hts : ∀ w ∈ BW, w.before ([.ref (ad 7 v0)] : List Value).toArray s = true := fun w h => hts0 w (List.mem_cons_of_mem _ h)
  have hown : s.vm.findClass RX0 = some m.cls := findClass_of_methodNamed B.named
  have hlocks := B.notSynchronized
  have hA : ∀ q : Nat, s.heap.size ≤ q → AA ad M0 s.heap.size q := fun q h => Or.inr h
  have C : Cx RX0 cX0_findWinners 2 none D cy (AA ad M0 s.heap.size) p s m ([.ref (ad 7 v0)] : List Value).toArray meth c := ⟨hx, hb, hr, hml, hown, hts, hlocks, hK, hN, hA⟩
  have hP := hp_self (sz := s.heap.size) hP0
  have hS : va_S (AA ad M0 s.heap.size) s.heap s.heap [] := va_S.rf
  have hl := lv_entry ([.ref (ad 7 v0)]) (n := 2) (Nat.le_of_ble_eq_true rfl)
  rw [lg_entry_eq]
  generalize (lg_sl ([.ref (ad 7 v0)]) ++ List.replicate (2 - (lg_sl ([.ref (ad 7 v0)])).length) Slot.unset).toArray = ls at hl ⊢
  have hl : lv_has ls 2 [(0, .ref (ad 7 v0))] := hl
  unfold f_X0_findWinners at hf
  refine lv_aload_n hx hb dX0_findWinners_0 rfl (lv_at hl 0 rfl) ?_
  have h30 : ∀ j : Nat, (mR M0 7 v0 5) = some j → mA M0 8 j = true := fun j hj => hp_wf hP a0 hj
  refine gf7 (v := va_rf (((mR M0 7 v0 5)).map (ad 8))) hx hb hts hown hK hP a0 5 (by decide) (hts _ q184) rfl rfl dX0_findWinners_1 ?_
  refine hp_astore_n (r := ((mR M0 7 v0 5)).map (ad 8)) (lv' := [(1, va_rf (((mR M0 7 v0 5)).map (ad 8))), (0, .ref (ad 7 v0))]) hx hb dX0_findWinners_4 rfl hl (by decide) rfl (fun ls hl => ?_)
  exact t_X0_findWinners_5 C FU v0 (mR M0 7 v0 5) M0 _ _ _ a0 h30 keep_rf hf hP hS (lv_sub hl [1, 0] rfl)
def f_X0_refundAll_5 : Nat → Option Nat → Mm → Option Mm
  | 0, _, _ => none
  | n + 1, v1, M => on v1 (some M) fun i13 => if (mI M 8 i13 6) = 0 then (lt (sI M 8 i13 6 (2 : Int32)) fun M17 => f_X0_refundAll_5 n (mR M17 8 i13 1) M17) else (f_X0_refundAll_5 n (mR M 8 i13 1) M)
def f_X0_refundAll (v0 : Nat) (M0 : Mm) : Option Mm :=
  f_X0_refundAll_5 FU (mR M0 7 v0 5) M0
set_option maxRecDepth 100000 in
set_option maxHeartbeats 4000000 in
theorem t_X0_refundAll_5 {p : Program} {l : Launch} {e : Env} {s : State} {m : MethodId} {args : Array Value} {below : List Frame} {meth : Method} {c : Code} {D : va_G} {cy : Nat → ClassId} {ad : Nat → Nat → Nat} {M0 : Mm} {M' : Mm} (C : Cx RX0 cX0_refundAll 2 none D cy (AA ad M0 s.heap.size) p s m args meth c) : ∀ (n : Nat), ∀ (v1 : Option Nat) (M : Mm) (H : Heap) (locs : List Loc) (ls : Array Slot), (∀ j : Nat, v1 = some j → mA M 8 j = true) → Keep M0 M → f_X0_refundAll_5 n v1 M = some M' → HP D cy (AA ad M0 s.heap.size) ad M H → va_S (AA ad M0 s.heap.size) s.heap H locs → lv_has ls 2 [(1, va_rf (v1.map (ad 8)))] → W p l e { frames := 0, cells := 0, slots := 0, locals := 0 } s m args below meth c H locs 0 0 (MQ below (QV D cy ad M0 s.heap.size M') args s 0 0 (AA ad M0 s.heap.size)) (F0 m 5 ls []) := by
  obtain ⟨hx, hb, hr, hml, hown, hts, hlocks, hK, hN, hA⟩ := id C
  intro n
  induction n with
  | zero =>
    intro v1 M H locs ls a1 hk hf hP hS hl
    simp [f_X0_refundAll_5] at hf
  | succ n ih =>
    intro v1 M H locs ls a1 hk hf hP hS hl
    rw [f_X0_refundAll_5] at hf
    refine hp_aload_n (r := (v1).map (ad 8)) hx hb dX0_refundAll_5 rfl (lv_at hl 0 rfl) ?_
    rcases on_c hf with ⟨e12, hf⟩ | ⟨i13, e12, hf⟩
    · refine W_top (y := .null) (by rw [e12]; rfl) ?_
      refine lv_ifnullN (tgt := 29) hx hb dX0_refundAll_6 (by decide) ?_
      exact hp_vret hx hb hr hlocks (Option.some.inj hf) hP hS hk dX0_refundAll_29
    · have h14 : mA M 8 i13 = true := a1 i13 e12
      rw [e12] at hl
      have hl : lv_has ls 2 [(1, .ref (ad 8 i13))] := hl
      refine W_stk (st := [va_rf ((v1).map (ad 8))]) (st' := [.ref (ad 8 i13)]) (by first | (rw [e12]; done) | (rw [e12]; rfl)) ?_
      refine lv_ifnull hx hb dX0_refundAll_6 ?_
      refine lv_aload_n hx hb dX0_refundAll_9 rfl (lv_at hl 0 rfl) ?_
      refine gf8N (v := .int (mI M 8 i13 6)) hx hb hts hown hK hP h14 6 (by decide) (va_Nw.use rfl (hN.1 (RX0, 84, "ToteHouse$Ticket", "state", "I", RX3) (List.mem_of_getElem? (i := 31) rfl))) rfl rfl dX0_refundAll_10 ?_
      refine lv_if_ne (tgt := 21) hx hb dX0_refundAll_13 (by decide) (fun c15 => ?_) (fun c15 => ?_)
      · have hf := if_f hf c15
        refine lv_aload_n hx hb dX0_refundAll_21 rfl (lv_at hl 0 rfl) ?_
        have h16 : ∀ j : Nat, (mR M 8 i13 1) = some j → mA M 8 j = true := fun j hj => hp_wf hP h14 hj
        refine gf8N (v := va_rf (((mR M 8 i13 1)).map (ad 8))) hx hb hts hown hK hP h14 1 (by decide) (va_Nw.use rfl (hN.1 (RX0, 85, "ToteHouse$Ticket", "earlier", "LToteHouse$Ticket;", RX3) (List.mem_of_getElem? (i := 21) rfl))) rfl rfl dX0_refundAll_22 ?_
        refine hp_astore_n (r := ((mR M 8 i13 1)).map (ad 8)) (lv' := [(1, va_rf (((mR M 8 i13 1)).map (ad 8)))]) hx hb dX0_refundAll_25 rfl hl (by decide) rfl (fun ls hl => ?_)
        refine lv_goto (tgt := 5) hx hb dX0_refundAll_26 (by decide) ?_
        exact ih (mR M 8 i13 1) M _ _ _ h16 hk hf hP hS (lv_sub hl [0] rfl)
      · have hf := if_t hf c15
        refine lv_aload_n hx hb dX0_refundAll_16 rfl (lv_at hl 0 rfl) ?_
        refine lv_iconst (v := (2 : Int32)) hx hb dX0_refundAll_17 (by decide) ?_
        obtain ⟨M17, e18, hf⟩ := lt_some hf
        have hk19 : Keep M M17 := keI e18
        refine pI8N (v := (2 : Int32)) hx hb hts hown hK hP hS h14 6 (by decide) (va_Nw.use rfl (hN.1 (RX0, 84, "ToteHouse$Ticket", "state", "I", RX3) (List.mem_of_getElem? (i := 31) rfl))) rfl rfl rfl e18 dX0_refundAll_18 (fun H locs hP hS => ?_)
        refine lv_aload_n hx hb dX0_refundAll_21 rfl (lv_at hl 0 rfl) ?_
        have h20 : ∀ j : Nat, (mR M17 8 i13 1) = some j → mA M17 8 j = true := fun j hj => hp_wf hP (hk19 _ _ h14) hj
        refine gf8N (v := va_rf (((mR M17 8 i13 1)).map (ad 8))) hx hb hts hown hK hP (hk19 _ _ h14) 1 (by decide) (va_Nw.use rfl (hN.1 (RX0, 85, "ToteHouse$Ticket", "earlier", "LToteHouse$Ticket;", RX3) (List.mem_of_getElem? (i := 21) rfl))) rfl rfl dX0_refundAll_22 ?_
        refine hp_astore_n (r := ((mR M17 8 i13 1)).map (ad 8)) (lv' := [(1, va_rf (((mR M17 8 i13 1)).map (ad 8)))]) hx hb dX0_refundAll_25 rfl hl (by decide) rfl (fun ls hl => ?_)
        refine lv_goto (tgt := 5) hx hb dX0_refundAll_26 (by decide) ?_
        exact ih (mR M17 8 i13 1) M17 _ _ _ h20 (kt hk hk19) hf hP hS (lv_sub hl [0] rfl)
set_option maxRecDepth 100000 in
set_option maxHeartbeats 4000000 in
theorem ok_X0_refundAll (l : Launch) (D : va_G) (cy : Nat → ClassId) (ad : Nat → Nat → Nat) (M0 : Mm) (sz : Nat) (v0 : Nat) (M' : Mm) (a0 : mA M0 7 v0 = true) (hf : f_X0_refundAll v0 M0 = some M') : Met l yX0_refundAll (Cond.code yX0_refundAll cX0_refundAll 2 none :: BW) { frames := 0, cells := 0, slots := 0, locals := 0 } (va_Pc [.ref (ad 7 v0)] (PRE D cy ad M0 sz)) (QV D cy ad M0 sz M') 0 0 (AA ad M0 sz) := by
  refine Met.ofW (cc := cX0_refundAll) (maxL := 2) (ret := none) (by decide) rfl ?_
  intro p e s m args below meth c s₁ B hml hv
  obtain ⟨rfl, rfl, hP0, hK, hN⟩ := hv
  have hx := B.exec
  have hb := B.bytes
  have hr := B.returns
  have hts0 := atoms_spec (ws := (Cond.code yX0_refundAll cX0_refundAll 2 none :: BW)) B.pre
  have hts : ∀ w ∈ BW, w.before ([.ref (ad 7 v0)] : List Value).toArray s = true := fun w h => hts0 w (List.mem_cons_of_mem _ h)
  have hown : s.vm.findClass RX0 = some m.cls := findClass_of_methodNamed B.named
  have hlocks := B.notSynchronized
  have hA : ∀ q : Nat, s.heap.size ≤ q → AA ad M0 s.heap.size q := fun q h => Or.inr h
  have C : Cx RX0 cX0_refundAll 2 none D cy (AA ad M0 s.heap.size) p s m ([.ref (ad 7 v0)] : List Value).toArray meth c := ⟨hx, hb, hr, hml, hown, hts, hlocks, hK, hN, hA⟩
  have hP := hp_self (sz := s.heap.size) hP0
  have hS : va_S (AA ad M0 s.heap.size) s.heap s.heap [] := va_S.rf
  have hl := lv_entry ([.ref (ad 7 v0)]) (n := 2) (Nat.le_of_ble_eq_true rfl)
  rw [lg_entry_eq]
  generalize (lg_sl ([.ref (ad 7 v0)]) ++ List.replicate (2 - (lg_sl ([.ref (ad 7 v0)])).length) Slot.unset).toArray = ls at hl ⊢
  have hl : lv_has ls 2 [(0, .ref (ad 7 v0))] := hl
  unfold f_X0_refundAll at hf
  refine lv_aload_n hx hb dX0_refundAll_0 rfl (lv_at hl 0 rfl) ?_
  have h11 : ∀ j : Nat, (mR M0 7 v0 5) = some j → mA M0 8 j = true := fun j hj => hp_wf hP a0 hj
  refine gf7 (v := va_rf (((mR M0 7 v0 5)).map (ad 8))) hx hb hts hown hK hP a0 5 (by decide) (hts _ q184) rfl rfl dX0_refundAll_1 ?_
  refine hp_astore_n (r := ((mR M0 7 v0 5)).map (ad 8)) (lv' := [(1, va_rf (((mR M0 7 v0 5)).map (ad 8))), (0, .ref (ad 7 v0))]) hx hb dX0_refundAll_4 rfl hl (by decide) rfl (fun ls hl => ?_)
  exact t_X0_refundAll_5 C FU (mR M0 7 v0 5) M0 _ _ _ h11 keep_rf hf hP hS (lv_sub hl [0] rfl)
def f_X0_liveUnits_7 (M0 : Mm) : Nat → Int64 → Option Nat → Option Int64
  | 0, _, _ => none
  | n + 1, v1, v3 => on v3 (some v1) fun i16 => ob (f_X2_isLive i16 M0) fun r19 => if r19 = 0 then (f_X0_liveUnits_7 M0 n v1 (mR M0 8 i16 1)) else (lt (v1 + (((mI M0 8 i16 2)).toInt64)) fun x24 => f_X0_liveUnits_7 M0 n x24 (mR M0 8 i16 1))
def f_X0_liveUnits (v0 : Nat) (M0 : Mm) : Option Int64 :=
  f_X0_liveUnits_7 M0 FU (0 : Int64) (mR M0 7 v0 5)
set_option maxRecDepth 100000 in
set_option maxHeartbeats 4000000 in
theorem t_X0_liveUnits_7 {p : Program} {l : Launch} {e : Env} {s : State} {m : MethodId} {args : Array Value} {below : List Frame} {meth : Method} {c : Code} {D : va_G} {cy : Nat → ClassId} {ad : Nat → Nat → Nat} {M0 : Mm} {r0 : Int64} (C : Cx RX0 cX0_liveUnits 4 (some .long) D cy (AA ad M0 s.heap.size) p s m args meth c) : ∀ (n : Nat), ∀ (v1 : Int64) (v3 : Option Nat) (H : Heap) (locs : List Loc) (ls : Array Slot), (∀ j : Nat, v3 = some j → mA M0 8 j = true) → f_X0_liveUnits_7 M0 n v1 v3 = some r0 → HP D cy (AA ad M0 s.heap.size) ad M0 H → va_S (AA ad M0 s.heap.size) s.heap H locs → lv_has ls 4 [(1, .long v1), (3, va_rf (v3.map (ad 8)))] → W p l e { frames := 1, cells := 0, slots := 0, locals := 20 } s m args below meth c H locs 0 0 (MQ below (QJ D cy ad M0 s.heap.size r0 M0) args s 0 0 (AA ad M0 s.heap.size)) (F0 m 7 ls []) := by
  obtain ⟨hx, hb, hr, hml, hown, hts, hlocks, hK, hN, hA⟩ := id C
  intro n
  induction n with
  | zero =>
    intro v1 v3 H locs ls a3 hf hP hS hl
    simp [f_X0_liveUnits_7] at hf
  | succ n ih =>
    intro v1 v3 H locs ls a3 hf hP hS hl
    rw [f_X0_liveUnits_7] at hf
    refine hp_aload_n (r := (v3).map (ad 8)) hx hb dX0_liveUnits_7 rfl (lv_at hl 1 rfl) ?_
    rcases on_c hf with ⟨e15, hf⟩ | ⟨i16, e15, hf⟩
    · refine W_top (y := .null) (by rw [e15]; rfl) ?_
      refine lv_ifnullN (tgt := 34) hx hb dX0_liveUnits_8 (by decide) ?_
      refine lv_lload_n hx hb dX0_liveUnits_34 rfl (lv_at hl 0 rfl) ?_
      exact hp_lret hx hb hr hlocks (Option.some.inj hf) rfl hP hS keep_rf dX0_liveUnits_35
    · have h17 : mA M0 8 i16 = true := a3 i16 e15
      rw [e15] at hl
      have hl : lv_has ls 4 [(1, .long v1), (3, .ref (ad 8 i16))] := hl
      refine W_stk (st := [va_rf ((v3).map (ad 8))]) (st' := [.ref (ad 8 i16)]) (by first | (rw [e15]; done) | (rw [e15]; rfl)) ?_
      refine lv_ifnull hx hb dX0_liveUnits_8 ?_
      refine lv_aload_n hx hb dX0_liveUnits_11 rfl (lv_at hl 1 rfl) ?_
      obtain ⟨r19, e18, hf⟩ := ob_some hf
      refine hp_calli (va_runVN (As := []) (rest := []) ⟨hx, hb, hml, hown, hts⟩ (ok_X2_isLive l D cy ad M0 _ i16 r19 h17 e18) ⟨va_cnB 0 hts (gd0 q370) rfl rfl rfl (hN.2.1 (RX0, 91, yX2_isLive, RX3) (List.mem_of_getElem? (i := 14) rfl)) (hts _ q89) (by decide +kernel) ⟨Nat.le_of_ble_eq_true rfl, Nat.le_of_ble_eq_true rfl⟩, hts _ q369, hts _ q16⟩ (pre_V hP hK hN h17 ds_8 rfl) rfl rfl hl.1 rfl (lv_room (Nat.le_of_ble_eq_true rfl)) dX0_liveUnits_12 ⟨Nat.le_of_ble_eq_true rfl, Nat.le_of_ble_eq_true rfl⟩) hP hS hA (fun H locs hP hS _ => ?_)
      refine lv_if_eq (tgt := 26) hx hb dX0_liveUnits_15 (by decide) (fun c22 => ?_) (fun c22 => ?_)
      · have hf := if_t hf c22
        refine lv_aload_n hx hb dX0_liveUnits_26 rfl (lv_at hl 1 rfl) ?_
        have h23 : ∀ j : Nat, (mR M0 8 i16 1) = some j → mA M0 8 j = true := fun j hj => hp_wf hP h17 hj
        refine gf8N (v := va_rf (((mR M0 8 i16 1)).map (ad 8))) hx hb hts hown hK hP h17 1 (by decide) (va_Nw.use rfl (hN.1 (RX0, 85, "ToteHouse$Ticket", "earlier", "LToteHouse$Ticket;", RX3) (List.mem_of_getElem? (i := 21) rfl))) rfl rfl dX0_liveUnits_27 ?_
        refine hp_astore_n (r := ((mR M0 8 i16 1)).map (ad 8)) (lv' := [(3, va_rf (((mR M0 8 i16 1)).map (ad 8))), (1, .long v1)]) hx hb dX0_liveUnits_30 rfl hl (by decide) rfl (fun ls hl => ?_)
        refine lv_goto (tgt := 7) hx hb dX0_liveUnits_31 (by decide) ?_
        exact ih v1 (mR M0 8 i16 1) _ _ _ h23 hf hP hS (lv_sub hl [1, 0] rfl)
      · have hf := if_f hf c22
        refine lv_lload_n hx hb dX0_liveUnits_18 rfl (lv_at hl 0 rfl) ?_
        refine lv_aload_n hx hb dX0_liveUnits_19 rfl (lv_at hl 1 rfl) ?_
        refine gf8N (v := .int (mI M0 8 i16 2)) hx hb hts hown hK hP h17 2 (by decide) (va_Nw.use rfl (hN.1 (RX0, 98, "ToteHouse$Ticket", "units", "I", RX3) (List.mem_of_getElem? (i := 23) rfl))) rfl rfl dX0_liveUnits_20 ?_
        refine lv_i2l hx hb dX0_liveUnits_23 rfl ?_
        refine lv_ladd hx hb dX0_liveUnits_24 ?_
        obtain ⟨x24, e25, hf⟩ := lt_some hf
        refine W_topJ e25 ?_
        refine lv_lstore_n (lv' := [(1, .long x24), (3, .ref (ad 8 i16))]) hx hb dX0_liveUnits_25 rfl hl (by decide) rfl (fun ls hl => ?_)
        refine lv_aload_n hx hb dX0_liveUnits_26 rfl (lv_at hl 1 rfl) ?_
        have h26 : ∀ j : Nat, (mR M0 8 i16 1) = some j → mA M0 8 j = true := fun j hj => hp_wf hP h17 hj
        refine gf8N (v := va_rf (((mR M0 8 i16 1)).map (ad 8))) hx hb hts hown hK hP h17 1 (by decide) (va_Nw.use rfl (hN.1 (RX0, 85, "ToteHouse$Ticket", "earlier", "LToteHouse$Ticket;", RX3) (List.mem_of_getElem? (i := 21) rfl))) rfl rfl dX0_liveUnits_27 ?_
        refine hp_astore_n (r := ((mR M0 8 i16 1)).map (ad 8)) (lv' := [(3, va_rf (((mR M0 8 i16 1)).map (ad 8))), (1, .long x24)]) hx hb dX0_liveUnits_30 rfl hl (by decide) rfl (fun ls hl => ?_)
        refine lv_goto (tgt := 7) hx hb dX0_liveUnits_31 (by decide) ?_
        exact ih x24 (mR M0 8 i16 1) _ _ _ h26 hf hP hS (lv_sub hl [1, 0] rfl)
set_option maxRecDepth 100000 in
set_option maxHeartbeats 4000000 in
theorem ok_X0_liveUnits (l : Launch) (D : va_G) (cy : Nat → ClassId) (ad : Nat → Nat → Nat) (M0 : Mm) (sz : Nat) (v0 : Nat) (r0 : Int64) (a0 : mA M0 7 v0 = true) (hf : f_X0_liveUnits v0 M0 = some r0) : Met l yX0_liveUnits (Cond.code yX0_liveUnits cX0_liveUnits 4 (some .long) :: BW) { frames := 1, cells := 0, slots := 0, locals := 20 } (va_Pc [.ref (ad 7 v0)] (PRE D cy ad M0 sz)) (QJ D cy ad M0 sz r0 M0) 0 0 (AA ad M0 sz) := by
  refine Met.ofW (cc := cX0_liveUnits) (maxL := 4) (ret := (some .long)) (by decide) rfl ?_
  intro p e s m args below meth c s₁ B hml hv
  obtain ⟨rfl, rfl, hP0, hK, hN⟩ := hv
  have hx := B.exec
  have hb := B.bytes
  have hr := B.returns
  have hts0 := atoms_spec (ws := (Cond.code yX0_liveUnits cX0_liveUnits 4 (some .long) :: BW)) B.pre
  have hts : ∀ w ∈ BW, w.before ([.ref (ad 7 v0)] : List Value).toArray s = true := fun w h => hts0 w (List.mem_cons_of_mem _ h)
  have hown : s.vm.findClass RX0 = some m.cls := findClass_of_methodNamed B.named
  have hlocks := B.notSynchronized
  have hA : ∀ q : Nat, s.heap.size ≤ q → AA ad M0 s.heap.size q := fun q h => Or.inr h
  have C : Cx RX0 cX0_liveUnits 4 (some .long) D cy (AA ad M0 s.heap.size) p s m ([.ref (ad 7 v0)] : List Value).toArray meth c := ⟨hx, hb, hr, hml, hown, hts, hlocks, hK, hN, hA⟩
  have hP := hp_self (sz := s.heap.size) hP0
  have hS : va_S (AA ad M0 s.heap.size) s.heap s.heap [] := va_S.rf
  have hl := lv_entry ([.ref (ad 7 v0)]) (n := 4) (Nat.le_of_ble_eq_true rfl)
  rw [lg_entry_eq]
  generalize (lg_sl ([.ref (ad 7 v0)]) ++ List.replicate (4 - (lg_sl ([.ref (ad 7 v0)])).length) Slot.unset).toArray = ls at hl ⊢
  have hl : lv_has ls 4 [(0, .ref (ad 7 v0))] := hl
  unfold f_X0_liveUnits at hf
  refine lv_lconst (v := (0 : Int64)) hx hb dX0_liveUnits_0 (by decide) ?_
  refine lv_lstore_n (lv' := [(1, .long (0 : Int64)), (0, .ref (ad 7 v0))]) hx hb dX0_liveUnits_1 rfl hl (by decide) rfl (fun ls hl => ?_)
  refine lv_aload_n hx hb dX0_liveUnits_2 rfl (lv_at hl 1 rfl) ?_
  have h14 : ∀ j : Nat, (mR M0 7 v0 5) = some j → mA M0 8 j = true := fun j hj => hp_wf hP a0 hj
  refine gf7 (v := va_rf (((mR M0 7 v0 5)).map (ad 8))) hx hb hts hown hK hP a0 5 (by decide) (hts _ q184) rfl rfl dX0_liveUnits_3 ?_
  refine hp_astore_n (r := ((mR M0 7 v0 5)).map (ad 8)) (lv' := [(3, va_rf (((mR M0 7 v0 5)).map (ad 8))), (1, .long (0 : Int64)), (0, .ref (ad 7 v0))]) hx hb dX0_liveUnits_6 rfl hl (by decide) rfl (fun ls hl => ?_)
  exact t_X0_liveUnits_7 C FU (0 : Int64) (mR M0 7 v0 5) _ _ _ h14 hf hP hS (lv_sub hl [1, 0] rfl)

def f_X0_stakeAtRisk (v0 : Nat) (M0 : Mm) : Option Int64 :=
  ob (f_X0_liveUnits v0 M0) fun r6 => some ((((mI M0 7 v0 4)).toInt64) * r6)
set_option maxRecDepth 100000 in
set_option maxHeartbeats 4000000 in
theorem ok_X0_stakeAtRisk (l : Launch) (D : va_G) (cy : Nat → ClassId) (ad : Nat → Nat → Nat) (M0 : Mm) (sz : Nat) (v0 : Nat) (r0 : Int64) (a0 : mA M0 7 v0 = true) (hf : f_X0_stakeAtRisk v0 M0 = some r0) : Met l yX0_stakeAtRisk (Cond.code yX0_stakeAtRisk cX0_stakeAtRisk 1 (some .long) :: BW) { frames := 2, cells := 0, slots := 0, locals := 43 } (va_Pc [.ref (ad 7 v0)] (PRE D cy ad M0 sz)) (QJ D cy ad M0 sz r0 M0) 0 0 (AA ad M0 sz) := by
  refine Met.ofW (cc := cX0_stakeAtRisk) (maxL := 1) (ret := (some .long)) (by decide) rfl ?_
  intro p e s m args below meth c s₁ B hml hv
  obtain ⟨rfl, rfl, hP0, hK, hN⟩ := hv
  have hx := B.exec
  have hb := B.bytes
  have hr := B.returns
  have hts0 := atoms_spec (ws := (Cond.code yX0_stakeAtRisk cX0_stakeAtRisk 1 (some .long) :: BW)) B.pre
  have hts : ∀ w ∈ BW, w.before ([.ref (ad 7 v0)] : List Value).toArray s = true := fun w h => hts0 w (List.mem_cons_of_mem _ h)
  have hown : s.vm.findClass RX0 = some m.cls := findClass_of_methodNamed B.named
  have hlocks := B.notSynchronized
  have hA : ∀ q : Nat, s.heap.size ≤ q → AA ad M0 s.heap.size q := fun q h => Or.inr h
  have C : Cx RX0 cX0_stakeAtRisk 1 (some .long) D cy (AA ad M0 s.heap.size) p s m ([.ref (ad 7 v0)] : List Value).toArray meth c := ⟨hx, hb, hr, hml, hown, hts, hlocks, hK, hN, hA⟩
  have hP := hp_self (sz := s.heap.size) hP0
  have hS : va_S (AA ad M0 s.heap.size) s.heap s.heap [] := va_S.rf
  have hl := lv_entry ([.ref (ad 7 v0)]) (n := 1) (Nat.le_of_ble_eq_true rfl)
  rw [lg_entry_eq]
  generalize (lg_sl ([.ref (ad 7 v0)]) ++ List.replicate (1 - (lg_sl ([.ref (ad 7 v0)])).length) Slot.unset).toArray = ls at hl ⊢
  have hl : lv_has ls 1 [(0, .ref (ad 7 v0))] := hl
  unfold f_X0_stakeAtRisk at hf
  refine lv_aload_n hx hb dX0_stakeAtRisk_0 rfl (lv_at hl 0 rfl) ?_
  refine gf7 (v := .int (mI M0 7 v0 4)) hx hb hts hown hK hP a0 4 (by decide) (hts _ q182) rfl rfl dX0_stakeAtRisk_1 ?_
  refine lv_i2l hx hb dX0_stakeAtRisk_4 rfl ?_
  refine lv_aload_n hx hb dX0_stakeAtRisk_5 rfl (lv_at hl 0 rfl) ?_
  obtain ⟨r6, e5, hf⟩ := ob_some hf
  refine hp_calll (va_runV (As := []) (rest := [.long (((mI M0 7 v0 4)).toInt64)]) ⟨hx, hb, hml, hown, hts⟩ (ok_X0_liveUnits l D cy ad M0 _ v0 r6 a0 e5) (cwV 0 hts (gdV q485 q487 q39 q88 q488) rfl rfl rfl (by decide +kernel) ⟨Nat.le_of_ble_eq_true rfl, Nat.le_of_ble_eq_true rfl⟩) (pre_V hP hK hN a0 ds_7 rfl) rfl rfl hl.1 rfl (lv_room (Nat.le_of_ble_eq_true rfl)) dX0_stakeAtRisk_6 ⟨Nat.le_of_ble_eq_true rfl, Nat.le_of_ble_eq_true rfl⟩) hP hS hA (fun H locs hP hS _ => ?_)
  refine lv_lmul hx hb dX0_stakeAtRisk_9 ?_
  exact hp_lret hx hb hr hlocks (Option.some.inj hf) rfl hP hS keep_rf dX0_stakeAtRisk_10

def f_X0_deductionNow (v0 : Nat) (M0 : Mm) : Option Int64 :=
  ob (f_X0_stakeAtRisk v0 M0) fun r7 => dvl (1000 : Int64) (some ((r7 * (((mI M0 7 v0 3)).toInt64)) / (1000 : Int64)))
set_option maxRecDepth 100000 in
set_option maxHeartbeats 4000000 in
theorem ok_X0_deductionNow (l : Launch) (D : va_G) (cy : Nat → ClassId) (ad : Nat → Nat → Nat) (M0 : Mm) (sz : Nat) (v0 : Nat) (r0 : Int64) (a0 : mA M0 7 v0 = true) (hf : f_X0_deductionNow v0 M0 = some r0) : Met l yX0_deductionNow (Cond.code yX0_deductionNow cX0_deductionNow 1 (some .long) :: BW) { frames := 3, cells := 0, slots := 0, locals := 63 } (va_Pc [.ref (ad 7 v0)] (PRE D cy ad M0 sz)) (QJ D cy ad M0 sz r0 M0) 0 0 (AA ad M0 sz) := by
  refine Met.ofW (cc := cX0_deductionNow) (maxL := 1) (ret := (some .long)) (by decide) rfl ?_
  intro p e s m args below meth c s₁ B hml hv
  obtain ⟨rfl, rfl, hP0, hK, hN⟩ := hv
  have hx := B.exec
  have hb := B.bytes
  have hr := B.returns
  have hts0 := atoms_spec (ws := (Cond.code yX0_deductionNow cX0_deductionNow 1 (some .long) :: BW)) B.pre
  have hts : ∀ w ∈ BW, w.before ([.ref (ad 7 v0)] : List Value).toArray s = true := fun w h => hts0 w (List.mem_cons_of_mem _ h)
  have hown : s.vm.findClass RX0 = some m.cls := findClass_of_methodNamed B.named
  have hlocks := B.notSynchronized
  have hA : ∀ q : Nat, s.heap.size ≤ q → AA ad M0 s.heap.size q := fun q h => Or.inr h
  have C : Cx RX0 cX0_deductionNow 1 (some .long) D cy (AA ad M0 s.heap.size) p s m ([.ref (ad 7 v0)] : List Value).toArray meth c := ⟨hx, hb, hr, hml, hown, hts, hlocks, hK, hN, hA⟩
  have hP := hp_self (sz := s.heap.size) hP0
  have hS : va_S (AA ad M0 s.heap.size) s.heap s.heap [] := va_S.rf
  have hl := lv_entry ([.ref (ad 7 v0)]) (n := 1) (Nat.le_of_ble_eq_true rfl)
  rw [lg_entry_eq]
  generalize (lg_sl ([.ref (ad 7 v0)]) ++ List.replicate (1 - (lg_sl ([.ref (ad 7 v0)])).length) Slot.unset).toArray = ls at hl ⊢
  have hl : lv_has ls 1 [(0, .ref (ad 7 v0))] := hl
  unfold f_X0_deductionNow at hf
  refine lv_aload_n hx hb dX0_deductionNow_0 rfl (lv_at hl 0 rfl) ?_
  obtain ⟨r7, e6, hf⟩ := ob_some hf
  refine hp_calll (va_runV (As := []) (rest := []) ⟨hx, hb, hml, hown, hts⟩ (ok_X0_stakeAtRisk l D cy ad M0 _ v0 r7 a0 e6) (cwV 0 hts (gdV q481 q483 q38 q88 q484) rfl rfl rfl (by decide +kernel) ⟨Nat.le_of_ble_eq_true rfl, Nat.le_of_ble_eq_true rfl⟩) (pre_V hP hK hN a0 ds_7 rfl) rfl rfl hl.1 rfl (lv_room (Nat.le_of_ble_eq_true rfl)) dX0_deductionNow_1 ⟨Nat.le_of_ble_eq_true rfl, Nat.le_of_ble_eq_true rfl⟩) hP hS hA (fun H locs hP hS _ => ?_)
  refine lv_aload_n hx hb dX0_deductionNow_4 rfl (lv_at hl 0 rfl) ?_
  refine gf7 (v := .int (mI M0 7 v0 3)) hx hb hts hown hK hP a0 3 (by decide) (hts _ q181) rfl rfl dX0_deductionNow_5 ?_
  refine lv_i2l hx hb dX0_deductionNow_8 rfl ?_
  refine lv_lmul hx hb dX0_deductionNow_9 ?_
  refine lv_ldc2 (v := (1000 : Int64)) hx hb hown (hts _ q489) dX0_deductionNow_10 ?_
  obtain ⟨h10, hf⟩ := dvl_some hf
  refine lv_ldiv hx hb dX0_deductionNow_13 h10 ?_
  exact hp_lret hx hb hr hlocks (Option.some.inj hf) rfl hP hS keep_rf dX0_deductionNow_14

def f_X0_netNow (v0 : Nat) (M0 : Mm) : Option Int64 :=
  ob (f_X0_stakeAtRisk v0 M0) fun r10 => ob (f_X0_deductionNow v0 M0) fun r14 => some ((r10 - r14) + (mJ M0 7 v0 14))
set_option maxRecDepth 100000 in
set_option maxHeartbeats 4000000 in
theorem ok_X0_netNow (l : Launch) (D : va_G) (cy : Nat → ClassId) (ad : Nat → Nat → Nat) (M0 : Mm) (sz : Nat) (v0 : Nat) (r0 : Int64) (a0 : mA M0 7 v0 = true) (hf : f_X0_netNow v0 M0 = some r0) : Met l yX0_netNow (Cond.code yX0_netNow cX0_netNow 1 (some .long) :: BW) { frames := 4, cells := 0, slots := 0, locals := 83 } (va_Pc [.ref (ad 7 v0)] (PRE D cy ad M0 sz)) (QJ D cy ad M0 sz r0 M0) 0 0 (AA ad M0 sz) := by
  refine Met.ofW (cc := cX0_netNow) (maxL := 1) (ret := (some .long)) (by decide) rfl ?_
  intro p e s m args below meth c s₁ B hml hv
  obtain ⟨rfl, rfl, hP0, hK, hN⟩ := hv
  have hx := B.exec
  have hb := B.bytes
  have hr := B.returns
  have hts0 := atoms_spec (ws := (Cond.code yX0_netNow cX0_netNow 1 (some .long) :: BW)) B.pre
  have hts : ∀ w ∈ BW, w.before ([.ref (ad 7 v0)] : List Value).toArray s = true := fun w h => hts0 w (List.mem_cons_of_mem _ h)
  have hown : s.vm.findClass RX0 = some m.cls := findClass_of_methodNamed B.named
  have hlocks := B.notSynchronized
  have hA : ∀ q : Nat, s.heap.size ≤ q → AA ad M0 s.heap.size q := fun q h => Or.inr h
  have C : Cx RX0 cX0_netNow 1 (some .long) D cy (AA ad M0 s.heap.size) p s m ([.ref (ad 7 v0)] : List Value).toArray meth c := ⟨hx, hb, hr, hml, hown, hts, hlocks, hK, hN, hA⟩
  have hP := hp_self (sz := s.heap.size) hP0
  have hS : va_S (AA ad M0 s.heap.size) s.heap s.heap [] := va_S.rf
  have hl := lv_entry ([.ref (ad 7 v0)]) (n := 1) (Nat.le_of_ble_eq_true rfl)
  rw [lg_entry_eq]
  generalize (lg_sl ([.ref (ad 7 v0)]) ++ List.replicate (1 - (lg_sl ([.ref (ad 7 v0)])).length) Slot.unset).toArray = ls at hl ⊢
  have hl : lv_has ls 1 [(0, .ref (ad 7 v0))] := hl
  unfold f_X0_netNow at hf
  refine lv_aload_n hx hb dX0_netNow_0 rfl (lv_at hl 0 rfl) ?_
  obtain ⟨r10, e9, hf⟩ := ob_some hf
  refine hp_calll (va_runV (As := []) (rest := []) ⟨hx, hb, hml, hown, hts⟩ (ok_X0_stakeAtRisk l D cy ad M0 _ v0 r10 a0 e9) (cwV 0 hts (gdV q481 q483 q38 q88 q484) rfl rfl rfl (by decide +kernel) ⟨Nat.le_of_ble_eq_true rfl, Nat.le_of_ble_eq_true rfl⟩) (pre_V hP hK hN a0 ds_7 rfl) rfl rfl hl.1 rfl (lv_room (Nat.le_of_ble_eq_true rfl)) dX0_netNow_1 ⟨Nat.le_of_ble_eq_true rfl, Nat.le_of_ble_eq_true rfl⟩) hP hS hA (fun H locs hP hS _ => ?_)
  refine lv_aload_n hx hb dX0_netNow_4 rfl (lv_at hl 0 rfl) ?_
  obtain ⟨r14, e13, hf⟩ := ob_some hf
  refine hp_calll (va_runV (As := []) (rest := [.long r10]) ⟨hx, hb, hml, hown, hts⟩ (ok_X0_deductionNow l D cy ad M0 _ v0 r14 a0 e13) (cwV 0 hts (gdV q477 q479 q37 q88 q480) rfl rfl rfl (by decide +kernel) ⟨Nat.le_of_ble_eq_true rfl, Nat.le_of_ble_eq_true rfl⟩) (pre_V hP hK hN a0 ds_7 rfl) rfl rfl hl.1 rfl (lv_room (Nat.le_of_ble_eq_true rfl)) dX0_netNow_5 ⟨Nat.le_of_ble_eq_true rfl, Nat.le_of_ble_eq_true rfl⟩) hP hS hA (fun H locs hP hS _ => ?_)
  refine lv_lsub hx hb dX0_netNow_8 ?_
  refine lv_aload_n hx hb dX0_netNow_9 rfl (lv_at hl 0 rfl) ?_
  refine gf7 (v := .long (mJ M0 7 v0 14)) hx hb hts hown hK hP a0 14 (by decide) (hts _ q200) rfl rfl dX0_netNow_10 ?_
  refine lv_ladd hx hb dX0_netNow_13 ?_
  exact hp_lret hx hb hr hlocks (Option.some.inj hf) rfl hP hS keep_rf dX0_netNow_14

def f_X0_wholeTens (v0 : Int64) (M0 : Mm) : Option Int64 :=
  dvl (10 : Int64) (some (v0 - (v0 - v0 / (10 : Int64) * (10 : Int64))))
set_option maxRecDepth 100000 in
set_option maxHeartbeats 4000000 in
theorem ok_X0_wholeTens (l : Launch) (D : va_G) (cy : Nat → ClassId) (ad : Nat → Nat → Nat) (M0 : Mm) (sz : Nat) (v0 : Int64) (r0 : Int64) (hf : f_X0_wholeTens v0 M0 = some r0) : Met l yX0_wholeTens (Cond.code yX0_wholeTens cX0_wholeTens 2 (some .long) :: BW) { frames := 0, cells := 0, slots := 0, locals := 0 } (va_Pc [.long v0] (PRE D cy ad M0 sz)) (QJ D cy ad M0 sz r0 M0) 0 0 (AA ad M0 sz) := by
  refine Met.ofW (cc := cX0_wholeTens) (maxL := 2) (ret := (some .long)) (by decide) rfl ?_
  intro p e s m args below meth c s₁ B hml hv
  obtain ⟨rfl, rfl, hP0, hK, hN⟩ := hv
  have hx := B.exec
  have hb := B.bytes
  have hr := B.returns
  have hts0 := atoms_spec (ws := (Cond.code yX0_wholeTens cX0_wholeTens 2 (some .long) :: BW)) B.pre
  have hts : ∀ w ∈ BW, w.before ([.long v0] : List Value).toArray s = true := fun w h => hts0 w (List.mem_cons_of_mem _ h)
  have hown : s.vm.findClass RX0 = some m.cls := findClass_of_methodNamed B.named
  have hlocks := B.notSynchronized
  have hA : ∀ q : Nat, s.heap.size ≤ q → AA ad M0 s.heap.size q := fun q h => Or.inr h
  have C : Cx RX0 cX0_wholeTens 2 (some .long) D cy (AA ad M0 s.heap.size) p s m ([.long v0] : List Value).toArray meth c := ⟨hx, hb, hr, hml, hown, hts, hlocks, hK, hN, hA⟩
  have hP := hp_self (sz := s.heap.size) hP0
  have hS : va_S (AA ad M0 s.heap.size) s.heap s.heap [] := va_S.rf
  have hl := lv_entry ([.long v0]) (n := 2) (Nat.le_of_ble_eq_true rfl)
  rw [lg_entry_eq]
  generalize (lg_sl ([.long v0]) ++ List.replicate (2 - (lg_sl ([.long v0])).length) Slot.unset).toArray = ls at hl ⊢
  have hl : lv_has ls 2 [(0, .long v0)] := hl
  unfold f_X0_wholeTens at hf
  refine lv_lload_n hx hb dX0_wholeTens_0 rfl (lv_at hl 0 rfl) ?_
  refine lv_lload_n hx hb dX0_wholeTens_1 rfl (lv_at hl 0 rfl) ?_
  refine lv_ldc2 (v := (10 : Int64)) hx hb hown (hts _ q513) dX0_wholeTens_2 ?_
  obtain ⟨h2, hf⟩ := dvl_some hf
  refine lv_lrem hx hb dX0_wholeTens_5 h2 ?_
  refine lv_lsub hx hb dX0_wholeTens_6 ?_
  exact hp_lret hx hb hr hlocks (Option.some.inj hf) rfl hP hS keep_rf dX0_wholeTens_7

def f_X0_dividendFrom (v0 : Nat) (v1 : Int64) (v3 : Int32) (v4 : Int64) (v6 : Int64) (M0 : Mm) : Option Int64 :=
  if v3 < (1 : Int32) then (some (0 : Int64)) else (if 0 ≤ (lg_cmp v6 (1 : Int64)) then (if (mI M0 7 v0 0) = (1 : Int32) then (lt ((((mI M0 7 v0 4)).toInt64) * v4) fun x22 => if 0 ≤ (lg_cmp v1 x22) then (dvl (v3.toInt64) (dvl v6 (ob (f_X0_wholeTens ((((mI M0 7 v0 4)).toInt64) + (((v1 - x22) / (v3.toInt64)) / v6)) M0) fun r28 => some r28))) else (some (((mI M0 7 v0 4)).toInt64))) else (dvl (v3.toInt64) (dvl v6 (ob (f_X0_wholeTens ((v1 / (v3.toInt64)) / v6) M0) fun r34 => some r34)))) else (some (0 : Int64)))
set_option maxRecDepth 100000 in
set_option maxHeartbeats 4000000 in
theorem ok_X0_dividendFrom (l : Launch) (D : va_G) (cy : Nat → ClassId) (ad : Nat → Nat → Nat) (M0 : Mm) (sz : Nat) (v0 : Nat) (v1 : Int64) (v3 : Int32) (v4 : Int64) (v6 : Int64) (r0 : Int64) (a0 : mA M0 7 v0 = true) (hf : f_X0_dividendFrom v0 v1 v3 v4 v6 M0 = some r0) : Met l yX0_dividendFrom (Cond.code yX0_dividendFrom cX0_dividendFrom 10 (some .long) :: BW) { frames := 1, cells := 0, slots := 0, locals := 21 } (va_Pc [.ref (ad 7 v0), .long v1, .int v3, .long v4, .long v6] (PRE D cy ad M0 sz)) (QJ D cy ad M0 sz r0 M0) 0 0 (AA ad M0 sz) := by
  refine Met.ofW (cc := cX0_dividendFrom) (maxL := 10) (ret := (some .long)) (by decide) rfl ?_
  intro p e s m args below meth c s₁ B hml hv
  obtain ⟨rfl, rfl, hP0, hK, hN⟩ := hv
  have hx := B.exec
  have hb := B.bytes
  have hr := B.returns
  have hts0 := atoms_spec (ws := (Cond.code yX0_dividendFrom cX0_dividendFrom 10 (some .long) :: BW)) B.pre
  have hts : ∀ w ∈ BW, w.before ([.ref (ad 7 v0), .long v1, .int v3, .long v4, .long v6] : List Value).toArray s = true := fun w h => hts0 w (List.mem_cons_of_mem _ h)
  have hown : s.vm.findClass RX0 = some m.cls := findClass_of_methodNamed B.named
  have hlocks := B.notSynchronized
  have hA : ∀ q : Nat, s.heap.size ≤ q → AA ad M0 s.heap.size q := fun q h => Or.inr h
  have C : Cx RX0 cX0_dividendFrom 10 (some .long) D cy (AA ad M0 s.heap.size) p s m ([.ref (ad 7 v0), .long v1, .int v3, .long v4, .long v6] : List Value).toArray meth c := ⟨hx, hb, hr, hml, hown, hts, hlocks, hK, hN, hA⟩
  have hP := hp_self (sz := s.heap.size) hP0
  have hS : va_S (AA ad M0 s.heap.size) s.heap s.heap [] := va_S.rf
  have hl := lv_entry ([.ref (ad 7 v0), .long v1, .int v3, .long v4, .long v6]) (n := 10) (Nat.le_of_ble_eq_true rfl)
  rw [lg_entry_eq]
  generalize (lg_sl ([.ref (ad 7 v0), .long v1, .int v3, .long v4, .long v6]) ++ List.replicate (10 - (lg_sl ([.ref (ad 7 v0), .long v1, .int v3, .long v4, .long v6])).length) Slot.unset).toArray = ls at hl ⊢
  have hl : lv_has ls 10 [(0, .ref (ad 7 v0)), (1, .long v1), (3, .int v3), (4, .long v4), (6, .long v6)] := hl
  unfold f_X0_dividendFrom at hf
  refine lv_iload_n hx hb dX0_dividendFrom_0 rfl (lv_at hl 2 rfl) ?_
  refine lv_iconst (v := (1 : Int32)) hx hb dX0_dividendFrom_1 (by decide) ?_
  refine lv_icmp_lt (tgt := 12) hx hb dX0_dividendFrom_2 (by decide) (fun c19 => ?_) (fun c19 => ?_)
  · have hf := if_t hf c19
    refine lv_lconst (v := (0 : Int64)) hx hb dX0_dividendFrom_12 (by decide) ?_
    exact hp_lret hx hb hr hlocks (Option.some.inj hf) rfl hP hS keep_rf dX0_dividendFrom_13
  · have hf := if_f hf c19
    refine lv_lload hx hb dX0_dividendFrom_5 (lv_at hl 4 rfl) ?_
    refine lv_lconst (v := (1 : Int64)) hx hb dX0_dividendFrom_7 (by decide) ?_
    refine W.lcmp hx hb dX0_dividendFrom_8 ?_
    refine lv_if_ge (tgt := 14) hx hb dX0_dividendFrom_9 (by decide) (fun c20 => ?_) (fun c20 => ?_)
    · have hf := if_t hf c20
      refine lv_aload_n hx hb dX0_dividendFrom_14 rfl (lv_at hl 0 rfl) ?_
      refine gf7 (v := .int (mI M0 7 v0 0)) hx hb hts hown hK hP a0 0 (by decide) (hts _ q176) rfl rfl dX0_dividendFrom_15 ?_
      refine lv_iconst (v := (1 : Int32)) hx hb dX0_dividendFrom_18 (by decide) ?_
      refine lv_icmp_eq (tgt := 33) hx hb dX0_dividendFrom_19 (by decide) (fun c21 => ?_) (fun c21 => ?_)
      · have hf := if_t hf c21
        refine lv_aload_n hx hb dX0_dividendFrom_33 rfl (lv_at hl 0 rfl) ?_
        refine gf7 (v := .int (mI M0 7 v0 4)) hx hb hts hown hK hP a0 4 (by decide) (hts _ q182) rfl rfl dX0_dividendFrom_34 ?_
        refine lv_i2l hx hb dX0_dividendFrom_37 rfl ?_
        refine lv_lload hx hb dX0_dividendFrom_38 (lv_at hl 3 rfl) ?_
        refine lv_lmul hx hb dX0_dividendFrom_40 ?_
        obtain ⟨x22, e23, hf⟩ := lt_some hf
        refine W_topJ e23 ?_
        refine lv_lstore (lv' := [(8, .long x22), (0, .ref (ad 7 v0)), (1, .long v1), (3, .int v3), (4, .long v4), (6, .long v6)]) hx hb dX0_dividendFrom_41 hl (by decide) rfl (fun ls hl => ?_)
        refine lv_lload_n hx hb dX0_dividendFrom_43 rfl (lv_at hl 2 rfl) ?_
        refine lv_lload hx hb dX0_dividendFrom_44 (lv_at hl 0 rfl) ?_
        refine W.lcmp hx hb dX0_dividendFrom_46 ?_
        refine lv_if_ge (tgt := 56) hx hb dX0_dividendFrom_47 (by decide) (fun c24 => ?_) (fun c24 => ?_)
        · have hf := if_t hf c24
          refine lv_aload_n hx hb dX0_dividendFrom_56 rfl (lv_at hl 1 rfl) ?_
          refine gf7 (v := .int (mI M0 7 v0 4)) hx hb hts hown hK hP a0 4 (by decide) (hts _ q182) rfl rfl dX0_dividendFrom_57 ?_
          refine lv_i2l hx hb dX0_dividendFrom_60 rfl ?_
          refine lv_lload_n hx hb dX0_dividendFrom_61 rfl (lv_at hl 2 rfl) ?_
          refine lv_lload hx hb dX0_dividendFrom_62 (lv_at hl 0 rfl) ?_
          refine lv_lsub hx hb dX0_dividendFrom_64 ?_
          refine lv_iload_n hx hb dX0_dividendFrom_65 rfl (lv_at hl 3 rfl) ?_
          refine lv_i2l hx hb dX0_dividendFrom_66 rfl ?_
          obtain ⟨h25, hf⟩ := dvl_some hf
          refine lv_ldiv hx hb dX0_dividendFrom_67 h25 ?_
          refine lv_lload hx hb dX0_dividendFrom_68 (lv_at hl 5 rfl) ?_
          obtain ⟨h26, hf⟩ := dvl_some hf
          refine lv_ldiv hx hb dX0_dividendFrom_70 h26 ?_
          refine lv_ladd hx hb dX0_dividendFrom_71 ?_
          obtain ⟨r28, e27, hf⟩ := ob_some hf
          refine hp_calll (va_runS (As := [.long ((((mI M0 7 v0 4)).toInt64) + (((v1 - x22) / (v3.toInt64)) / v6))]) (rest := []) ⟨hx, hb, hml, hown, hts⟩ (ok_X0_wholeTens l D cy ad M0 _ ((((mI M0 7 v0 4)).toInt64) + (((v1 - x22) / (v3.toInt64)) / v6)) r28  e27) (va_cwS 1 hts (gdS q510 q511 q88 q512) rfl rfl rfl (by decide +kernel) ⟨Nat.le_of_ble_eq_true rfl, Nat.le_of_ble_eq_true rfl⟩) (pre_S hP hK hN) rfl rfl hl.1 rfl (lv_room (Nat.le_of_ble_eq_true rfl)) dX0_dividendFrom_72 ⟨Nat.le_of_ble_eq_true rfl, Nat.le_of_ble_eq_true rfl⟩) hP hS hA (fun H locs hP hS _ => ?_)
          exact hp_lret hx hb hr hlocks (Option.some.inj hf) rfl hP hS keep_rf dX0_dividendFrom_75
        · have hf := if_f hf c24
          refine lv_aload_n hx hb dX0_dividendFrom_50 rfl (lv_at hl 1 rfl) ?_
          refine gf7 (v := .int (mI M0 7 v0 4)) hx hb hts hown hK hP a0 4 (by decide) (hts _ q182) rfl rfl dX0_dividendFrom_51 ?_
          refine lv_i2l hx hb dX0_dividendFrom_54 rfl ?_
          exact hp_lret hx hb hr hlocks (Option.some.inj hf) rfl hP hS keep_rf dX0_dividendFrom_55
      · have hf := if_f hf c21
        refine lv_lload_n hx hb dX0_dividendFrom_22 rfl (lv_at hl 1 rfl) ?_
        refine lv_iload_n hx hb dX0_dividendFrom_23 rfl (lv_at hl 2 rfl) ?_
        refine lv_i2l hx hb dX0_dividendFrom_24 rfl ?_
        obtain ⟨h31, hf⟩ := dvl_some hf
        refine lv_ldiv hx hb dX0_dividendFrom_25 h31 ?_
        refine lv_lload hx hb dX0_dividendFrom_26 (lv_at hl 4 rfl) ?_
        obtain ⟨h32, hf⟩ := dvl_some hf
        refine lv_ldiv hx hb dX0_dividendFrom_28 h32 ?_
        obtain ⟨r34, e33, hf⟩ := ob_some hf
        refine hp_calll (va_runS (As := [.long ((v1 / (v3.toInt64)) / v6)]) (rest := []) ⟨hx, hb, hml, hown, hts⟩ (ok_X0_wholeTens l D cy ad M0 _ ((v1 / (v3.toInt64)) / v6) r34  e33) (va_cwS 1 hts (gdS q510 q511 q88 q512) rfl rfl rfl (by decide +kernel) ⟨Nat.le_of_ble_eq_true rfl, Nat.le_of_ble_eq_true rfl⟩) (pre_S hP hK hN) rfl rfl hl.1 rfl (lv_room (Nat.le_of_ble_eq_true rfl)) dX0_dividendFrom_29 ⟨Nat.le_of_ble_eq_true rfl, Nat.le_of_ble_eq_true rfl⟩) hP hS hA (fun H locs hP hS _ => ?_)
        exact hp_lret hx hb hr hlocks (Option.some.inj hf) rfl hP hS keep_rf dX0_dividendFrom_32
    · have hf := if_f hf c20
      refine lv_lconst (v := (0 : Int64)) hx hb dX0_dividendFrom_12 (by decide) ?_
      exact hp_lret hx hb hr hlocks (Option.some.inj hf) rfl hP hS keep_rf dX0_dividendFrom_13

def f_X0_dividendOn (v0 : Nat) (v1 : Int64) (M0 : Mm) : Option Int64 :=
  ob (f_X0_dividendFrom v0 (mJ M0 7 v0 9) (mI M0 7 v0 7) (mJ M0 7 v0 8) v1 M0) fun r6 => some r6
set_option maxRecDepth 100000 in
set_option maxHeartbeats 4000000 in
theorem ok_X0_dividendOn (l : Launch) (D : va_G) (cy : Nat → ClassId) (ad : Nat → Nat → Nat) (M0 : Mm) (sz : Nat) (v0 : Nat) (v1 : Int64) (r0 : Int64) (a0 : mA M0 7 v0 = true) (hf : f_X0_dividendOn v0 v1 M0 = some r0) : Met l yX0_dividendOn (Cond.code yX0_dividendOn cX0_dividendOn 3 (some .long) :: BW) { frames := 2, cells := 0, slots := 0, locals := 50 } (va_Pc [.ref (ad 7 v0), .long v1] (PRE D cy ad M0 sz)) (QJ D cy ad M0 sz r0 M0) 0 0 (AA ad M0 sz) := by
  refine Met.ofW (cc := cX0_dividendOn) (maxL := 3) (ret := (some .long)) (by decide) rfl ?_
  intro p e s m args below meth c s₁ B hml hv
  obtain ⟨rfl, rfl, hP0, hK, hN⟩ := hv
  have hx := B.exec
  have hb := B.bytes
  have hr := B.returns
  have hts0 := atoms_spec (ws := (Cond.code yX0_dividendOn cX0_dividendOn 3 (some .long) :: BW)) B.pre
  have hts : ∀ w ∈ BW, w.before ([.ref (ad 7 v0), .long v1] : List Value).toArray s = true := fun w h => hts0 w (List.mem_cons_of_mem _ h)
  have hown : s.vm.findClass RX0 = some m.cls := findClass_of_methodNamed B.named
  have hlocks := B.notSynchronized
  have hA : ∀ q : Nat, s.heap.size ≤ q → AA ad M0 s.heap.size q := fun q h => Or.inr h
  have C : Cx RX0 cX0_dividendOn 3 (some .long) D cy (AA ad M0 s.heap.size) p s m ([.ref (ad 7 v0), .long v1] : List Value).toArray meth c := ⟨hx, hb, hr, hml, hown, hts, hlocks, hK, hN, hA⟩
  have hP := hp_self (sz := s.heap.size) hP0
  have hS : va_S (AA ad M0 s.heap.size) s.heap s.heap [] := va_S.rf
  have hl := lv_entry ([.ref (ad 7 v0), .long v1]) (n := 3) (Nat.le_of_ble_eq_true rfl)
  rw [lg_entry_eq]
  generalize (lg_sl ([.ref (ad 7 v0), .long v1]) ++ List.replicate (3 - (lg_sl ([.ref (ad 7 v0), .long v1])).length) Slot.unset).toArray = ls at hl ⊢
  have hl : lv_has ls 3 [(0, .ref (ad 7 v0)), (1, .long v1)] := hl
  unfold f_X0_dividendOn at hf
  refine lv_aload_n hx hb dX0_dividendOn_0 rfl (lv_at hl 0 rfl) ?_
  refine lv_aload_n hx hb dX0_dividendOn_1 rfl (lv_at hl 0 rfl) ?_
  refine gf7 (v := .long (mJ M0 7 v0 9)) hx hb hts hown hK hP a0 9 (by decide) (hts _ q190) rfl rfl dX0_dividendOn_2 ?_
  refine lv_aload_n hx hb dX0_dividendOn_5 rfl (lv_at hl 0 rfl) ?_
  refine gf7 (v := .int (mI M0 7 v0 7)) hx hb hts hown hK hP a0 7 (by decide) (hts _ q188) rfl rfl dX0_dividendOn_6 ?_
  refine lv_aload_n hx hb dX0_dividendOn_9 rfl (lv_at hl 0 rfl) ?_
  refine gf7 (v := .long (mJ M0 7 v0 8)) hx hb hts hown hK hP a0 8 (by decide) (hts _ q189) rfl rfl dX0_dividendOn_10 ?_
  refine lv_lload_n hx hb dX0_dividendOn_13 rfl (lv_at hl 1 rfl) ?_
  obtain ⟨r6, e5, hf⟩ := ob_some hf
  refine hp_calll (va_runV (As := [.long (mJ M0 7 v0 9), .int (mI M0 7 v0 7), .long (mJ M0 7 v0 8), .long v1]) (rest := []) ⟨hx, hb, hml, hown, hts⟩ (ok_X0_dividendFrom l D cy ad M0 _ v0 (mJ M0 7 v0 9) (mI M0 7 v0 7) (mJ M0 7 v0 8) v1 r6 a0 e5) (cwV 4 hts (gdV q506 q508 q43 q88 q509) rfl rfl rfl (by decide +kernel) ⟨Nat.le_of_ble_eq_true rfl, Nat.le_of_ble_eq_true rfl⟩) (pre_V hP hK hN a0 ds_7 rfl) rfl rfl hl.1 rfl (lv_room (Nat.le_of_ble_eq_true rfl)) dX0_dividendOn_14 ⟨Nat.le_of_ble_eq_true rfl, Nat.le_of_ble_eq_true rfl⟩) hP hS hA (fun H locs hP hS _ => ?_)
  exact hp_lret hx hb hr hlocks (Option.some.inj hf) rfl hP hS keep_rf dX0_dividendOn_17
def f_X0_dueToWinners_7 (M0 : Mm) : Nat → Nat → Int64 → Option Nat → Option Int64
  | 0, _, _, _ => none
  | n + 1, v0, v1, v3 => on v3 (some v1) fun i30 => ob (f_X2_isLive i30 M0) fun r33 => if r33 = 0 then (f_X0_dueToWinners_7 M0 n v0 v1 (mR M0 8 i30 1)) else (ob (f_X0_isWon v0 (mI M0 8 i30 3) (mI M0 8 i30 4) (mI M0 8 i30 5) M0) fun r39 => if r39 = 0 then (f_X0_dueToWinners_7 M0 n v0 v1 (mR M0 8 i30 1)) else (ob (f_X0_unitsOn v0 (mI M0 8 i30 3) (mI M0 8 i30 4) (mI M0 8 i30 5) M0) fun r45 => ob (f_X0_dividendOn v0 r45 M0) fun r49 => lt (v1 + ((((mI M0 8 i30 2)).toInt64) * r49)) fun x52 => f_X0_dueToWinners_7 M0 n v0 x52 (mR M0 8 i30 1)))
def f_X0_dueToWinners (v0 : Nat) (M0 : Mm) : Option Int64 :=
  f_X0_dueToWinners_7 M0 FU v0 (0 : Int64) (mR M0 7 v0 5)
set_option maxRecDepth 100000 in
set_option maxHeartbeats 4000000 in
theorem t_X0_dueToWinners_7 {p : Program} {l : Launch} {e : Env} {s : State} {m : MethodId} {args : Array Value} {below : List Frame} {meth : Method} {c : Code} {D : va_G} {cy : Nat → ClassId} {ad : Nat → Nat → Nat} {M0 : Mm} {r0 : Int64} (C : Cx RX0 cX0_dueToWinners 4 (some .long) D cy (AA ad M0 s.heap.size) p s m args meth c) : ∀ (n : Nat), ∀ (v0 : Nat) (v1 : Int64) (v3 : Option Nat) (H : Heap) (locs : List Loc) (ls : Array Slot), (mA M0 7 v0 = true) → (∀ j : Nat, v3 = some j → mA M0 8 j = true) → f_X0_dueToWinners_7 M0 n v0 v1 v3 = some r0 → HP D cy (AA ad M0 s.heap.size) ad M0 H → va_S (AA ad M0 s.heap.size) s.heap H locs → lv_has ls 4 [(0, .ref (ad 7 v0)), (1, .long v1), (3, va_rf (v3.map (ad 8)))] → W p l e { frames := 3, cells := 0, slots := 0, locals := 72 } s m args below meth c H locs 0 0 (MQ below (QJ D cy ad M0 s.heap.size r0 M0) args s 0 0 (AA ad M0 s.heap.size)) (F0 m 7 ls []) := by
  obtain ⟨hx, hb, hr, hml, hown, hts, hlocks, hK, hN, hA⟩ := id C
  intro n
  induction n with
  | zero =>
    intro v0 v1 v3 H locs ls a0 a3 hf hP hS hl
    simp [f_X0_dueToWinners_7] at hf
  | succ n ih =>
    intro v0 v1 v3 H locs ls a0 a3 hf hP hS hl
    rw [f_X0_dueToWinners_7] at hf
    refine hp_aload_n (r := (v3).map (ad 8)) hx hb dX0_dueToWinners_7 rfl (lv_at hl 2 rfl) ?_
    rcases on_c hf with ⟨e29, hf⟩ | ⟨i30, e29, hf⟩
    · refine W_top (y := .null) (by rw [e29]; rfl) ?_
      refine lv_ifnullN (tgt := 74) hx hb dX0_dueToWinners_8 (by decide) ?_
      refine lv_lload_n hx hb dX0_dueToWinners_74 rfl (lv_at hl 1 rfl) ?_
      exact hp_lret hx hb hr hlocks (Option.some.inj hf) rfl hP hS keep_rf dX0_dueToWinners_75
    · have h31 : mA M0 8 i30 = true := a3 i30 e29
      rw [e29] at hl
      have hl : lv_has ls 4 [(0, .ref (ad 7 v0)), (1, .long v1), (3, .ref (ad 8 i30))] := hl
      refine W_stk (st := [va_rf ((v3).map (ad 8))]) (st' := [.ref (ad 8 i30)]) (by first | (rw [e29]; done) | (rw [e29]; rfl)) ?_
      refine lv_ifnull hx hb dX0_dueToWinners_8 ?_
      refine lv_aload_n hx hb dX0_dueToWinners_11 rfl (lv_at hl 2 rfl) ?_
      obtain ⟨r33, e32, hf⟩ := ob_some hf
      refine hp_calli (va_runVN (As := []) (rest := []) ⟨hx, hb, hml, hown, hts⟩ (ok_X2_isLive l D cy ad M0 _ i30 r33 h31 e32) ⟨va_cnB 0 hts (gd0 q370) rfl rfl rfl (hN.2.1 (RX0, 91, yX2_isLive, RX3) (List.mem_of_getElem? (i := 14) rfl)) (hts _ q89) (by decide +kernel) ⟨Nat.le_of_ble_eq_true rfl, Nat.le_of_ble_eq_true rfl⟩, hts _ q369, hts _ q16⟩ (pre_V hP hK hN h31 ds_8 rfl) rfl rfl hl.1 rfl (lv_room (Nat.le_of_ble_eq_true rfl)) dX0_dueToWinners_12 ⟨Nat.le_of_ble_eq_true rfl, Nat.le_of_ble_eq_true rfl⟩) hP hS hA (fun H locs hP hS _ => ?_)
      refine lv_if_eq (tgt := 66) hx hb dX0_dueToWinners_15 (by decide) (fun c36 => ?_) (fun c36 => ?_)
      · have hf := if_t hf c36
        refine lv_aload_n hx hb dX0_dueToWinners_66 rfl (lv_at hl 2 rfl) ?_
        have h37 : ∀ j : Nat, (mR M0 8 i30 1) = some j → mA M0 8 j = true := fun j hj => hp_wf hP h31 hj
        refine gf8N (v := va_rf (((mR M0 8 i30 1)).map (ad 8))) hx hb hts hown hK hP h31 1 (by decide) (va_Nw.use rfl (hN.1 (RX0, 85, "ToteHouse$Ticket", "earlier", "LToteHouse$Ticket;", RX3) (List.mem_of_getElem? (i := 21) rfl))) rfl rfl dX0_dueToWinners_67 ?_
        refine hp_astore_n (r := ((mR M0 8 i30 1)).map (ad 8)) (lv' := [(3, va_rf (((mR M0 8 i30 1)).map (ad 8))), (0, .ref (ad 7 v0)), (1, .long v1)]) hx hb dX0_dueToWinners_70 rfl hl (by decide) rfl (fun ls hl => ?_)
        refine lv_goto (tgt := 7) hx hb dX0_dueToWinners_71 (by decide) ?_
        exact ih v0 v1 (mR M0 8 i30 1) _ _ _ a0 h37 hf hP hS (lv_sub hl [1, 2, 0] rfl)
      · have hf := if_f hf c36
        refine lv_aload_n hx hb dX0_dueToWinners_18 rfl (lv_at hl 0 rfl) ?_
        refine lv_aload_n hx hb dX0_dueToWinners_19 rfl (lv_at hl 2 rfl) ?_
        refine gf8N (v := .int (mI M0 8 i30 3)) hx hb hts hown hK hP h31 3 (by decide) (va_Nw.use rfl (hN.1 (RX0, 58, "ToteHouse$Ticket", "a", "I", RX3) (List.mem_of_getElem? (i := 25) rfl))) rfl rfl dX0_dueToWinners_20 ?_
        refine lv_aload_n hx hb dX0_dueToWinners_23 rfl (lv_at hl 2 rfl) ?_
        refine gf8N (v := .int (mI M0 8 i30 4)) hx hb hts hown hK hP h31 4 (by decide) (va_Nw.use rfl (hN.1 (RX0, 63, "ToteHouse$Ticket", "b", "I", RX3) (List.mem_of_getElem? (i := 27) rfl))) rfl rfl dX0_dueToWinners_24 ?_
        refine lv_aload_n hx hb dX0_dueToWinners_27 rfl (lv_at hl 2 rfl) ?_
        refine gf8N (v := .int (mI M0 8 i30 5)) hx hb hts hown hK hP h31 5 (by decide) (va_Nw.use rfl (hN.1 (RX0, 66, "ToteHouse$Ticket", "c", "I", RX3) (List.mem_of_getElem? (i := 29) rfl))) rfl rfl dX0_dueToWinners_28 ?_
        obtain ⟨r39, e38, hf⟩ := ob_some hf
        refine hp_calli (va_runV (As := [.int (mI M0 8 i30 3), .int (mI M0 8 i30 4), .int (mI M0 8 i30 5)]) (rest := []) ⟨hx, hb, hml, hown, hts⟩ (ok_X0_isWon l D cy ad M0 _ v0 (mI M0 8 i30 3) (mI M0 8 i30 4) (mI M0 8 i30 5) r39 a0 e38) (cwV 3 hts (gdV q460 q462 q33 q88 q463) rfl rfl rfl (by decide +kernel) ⟨Nat.le_of_ble_eq_true rfl, Nat.le_of_ble_eq_true rfl⟩) (pre_V hP hK hN a0 ds_7 rfl) rfl rfl hl.1 rfl (lv_room (Nat.le_of_ble_eq_true rfl)) dX0_dueToWinners_31 ⟨Nat.le_of_ble_eq_true rfl, Nat.le_of_ble_eq_true rfl⟩) hP hS hA (fun H locs hP hS _ => ?_)
        refine lv_if_eq (tgt := 66) hx hb dX0_dueToWinners_34 (by decide) (fun c42 => ?_) (fun c42 => ?_)
        · have hf := if_t hf c42
          refine lv_aload_n hx hb dX0_dueToWinners_66 rfl (lv_at hl 2 rfl) ?_
          have h43 : ∀ j : Nat, (mR M0 8 i30 1) = some j → mA M0 8 j = true := fun j hj => hp_wf hP h31 hj
          refine gf8N (v := va_rf (((mR M0 8 i30 1)).map (ad 8))) hx hb hts hown hK hP h31 1 (by decide) (va_Nw.use rfl (hN.1 (RX0, 85, "ToteHouse$Ticket", "earlier", "LToteHouse$Ticket;", RX3) (List.mem_of_getElem? (i := 21) rfl))) rfl rfl dX0_dueToWinners_67 ?_
          refine hp_astore_n (r := ((mR M0 8 i30 1)).map (ad 8)) (lv' := [(3, va_rf (((mR M0 8 i30 1)).map (ad 8))), (0, .ref (ad 7 v0)), (1, .long v1)]) hx hb dX0_dueToWinners_70 rfl hl (by decide) rfl (fun ls hl => ?_)
          refine lv_goto (tgt := 7) hx hb dX0_dueToWinners_71 (by decide) ?_
          exact ih v0 v1 (mR M0 8 i30 1) _ _ _ a0 h43 hf hP hS (lv_sub hl [1, 2, 0] rfl)
        · have hf := if_f hf c42
          refine lv_lload_n hx hb dX0_dueToWinners_37 rfl (lv_at hl 1 rfl) ?_
          refine lv_aload_n hx hb dX0_dueToWinners_38 rfl (lv_at hl 2 rfl) ?_
          refine gf8N (v := .int (mI M0 8 i30 2)) hx hb hts hown hK hP h31 2 (by decide) (va_Nw.use rfl (hN.1 (RX0, 98, "ToteHouse$Ticket", "units", "I", RX3) (List.mem_of_getElem? (i := 23) rfl))) rfl rfl dX0_dueToWinners_39 ?_
          refine lv_i2l hx hb dX0_dueToWinners_42 rfl ?_
          refine lv_aload_n hx hb dX0_dueToWinners_43 rfl (lv_at hl 0 rfl) ?_
          refine lv_aload_n hx hb dX0_dueToWinners_44 rfl (lv_at hl 0 rfl) ?_
          refine lv_aload_n hx hb dX0_dueToWinners_45 rfl (lv_at hl 2 rfl) ?_
          refine gf8N (v := .int (mI M0 8 i30 3)) hx hb hts hown hK hP h31 3 (by decide) (va_Nw.use rfl (hN.1 (RX0, 58, "ToteHouse$Ticket", "a", "I", RX3) (List.mem_of_getElem? (i := 25) rfl))) rfl rfl dX0_dueToWinners_46 ?_
          refine lv_aload_n hx hb dX0_dueToWinners_49 rfl (lv_at hl 2 rfl) ?_
          refine gf8N (v := .int (mI M0 8 i30 4)) hx hb hts hown hK hP h31 4 (by decide) (va_Nw.use rfl (hN.1 (RX0, 63, "ToteHouse$Ticket", "b", "I", RX3) (List.mem_of_getElem? (i := 27) rfl))) rfl rfl dX0_dueToWinners_50 ?_
          refine lv_aload_n hx hb dX0_dueToWinners_53 rfl (lv_at hl 2 rfl) ?_
          refine gf8N (v := .int (mI M0 8 i30 5)) hx hb hts hown hK hP h31 5 (by decide) (va_Nw.use rfl (hN.1 (RX0, 66, "ToteHouse$Ticket", "c", "I", RX3) (List.mem_of_getElem? (i := 29) rfl))) rfl rfl dX0_dueToWinners_54 ?_
          obtain ⟨r45, e44, hf⟩ := ob_some hf
          refine hp_calll (va_runV (As := [.int (mI M0 8 i30 3), .int (mI M0 8 i30 4), .int (mI M0 8 i30 5)]) (rest := [.ref (ad 7 v0), .long (((mI M0 8 i30 2)).toInt64), .long v1]) ⟨hx, hb, hml, hown, hts⟩ (ok_X0_unitsOn l D cy ad M0 _ v0 (mI M0 8 i30 3) (mI M0 8 i30 4) (mI M0 8 i30 5) r45 a0 e44) (cwV 3 hts (gdV q501 q365 q15 q88 q366) rfl rfl rfl (by decide +kernel) ⟨Nat.le_of_ble_eq_true rfl, Nat.le_of_ble_eq_true rfl⟩) (pre_V hP hK hN a0 ds_7 rfl) rfl rfl hl.1 rfl (lv_room (Nat.le_of_ble_eq_true rfl)) dX0_dueToWinners_57 ⟨Nat.le_of_ble_eq_true rfl, Nat.le_of_ble_eq_true rfl⟩) hP hS hA (fun H locs hP hS _ => ?_)
          obtain ⟨r49, e48, hf⟩ := ob_some hf
          refine hp_calll (va_runV (As := [.long r45]) (rest := [.long (((mI M0 8 i30 2)).toInt64), .long v1]) ⟨hx, hb, hml, hown, hts⟩ (ok_X0_dividendOn l D cy ad M0 _ v0 r45 r49 a0 e48) (cwV 1 hts (gdV q502 q504 q42 q88 q505) rfl rfl rfl (by decide +kernel) ⟨Nat.le_of_ble_eq_true rfl, Nat.le_of_ble_eq_true rfl⟩) (pre_V hP hK hN a0 ds_7 rfl) rfl rfl hl.1 rfl (lv_room (Nat.le_of_ble_eq_true rfl)) dX0_dueToWinners_60 ⟨Nat.le_of_ble_eq_true rfl, Nat.le_of_ble_eq_true rfl⟩) hP hS hA (fun H locs hP hS _ => ?_)
          refine lv_lmul hx hb dX0_dueToWinners_63 ?_
          refine lv_ladd hx hb dX0_dueToWinners_64 ?_
          obtain ⟨x52, e53, hf⟩ := lt_some hf
          refine W_topJ e53 ?_
          refine lv_lstore_n (lv' := [(1, .long x52), (0, .ref (ad 7 v0)), (3, .ref (ad 8 i30))]) hx hb dX0_dueToWinners_65 rfl hl (by decide) rfl (fun ls hl => ?_)
          refine lv_aload_n hx hb dX0_dueToWinners_66 rfl (lv_at hl 2 rfl) ?_
          have h54 : ∀ j : Nat, (mR M0 8 i30 1) = some j → mA M0 8 j = true := fun j hj => hp_wf hP h31 hj
          refine gf8N (v := va_rf (((mR M0 8 i30 1)).map (ad 8))) hx hb hts hown hK hP h31 1 (by decide) (va_Nw.use rfl (hN.1 (RX0, 85, "ToteHouse$Ticket", "earlier", "LToteHouse$Ticket;", RX3) (List.mem_of_getElem? (i := 21) rfl))) rfl rfl dX0_dueToWinners_67 ?_
          refine hp_astore_n (r := ((mR M0 8 i30 1)).map (ad 8)) (lv' := [(3, va_rf (((mR M0 8 i30 1)).map (ad 8))), (1, .long x52), (0, .ref (ad 7 v0))]) hx hb dX0_dueToWinners_70 rfl hl (by decide) rfl (fun ls hl => ?_)
          refine lv_goto (tgt := 7) hx hb dX0_dueToWinners_71 (by decide) ?_
          exact ih v0 x52 (mR M0 8 i30 1) _ _ _ a0 h54 hf hP hS (lv_sub hl [2, 1, 0] rfl)
set_option maxRecDepth 100000 in
set_option maxHeartbeats 4000000 in
theorem ok_X0_dueToWinners (l : Launch) (D : va_G) (cy : Nat → ClassId) (ad : Nat → Nat → Nat) (M0 : Mm) (sz : Nat) (v0 : Nat) (r0 : Int64) (a0 : mA M0 7 v0 = true) (hf : f_X0_dueToWinners v0 M0 = some r0) : Met l yX0_dueToWinners (Cond.code yX0_dueToWinners cX0_dueToWinners 4 (some .long) :: BW) { frames := 3, cells := 0, slots := 0, locals := 72 } (va_Pc [.ref (ad 7 v0)] (PRE D cy ad M0 sz)) (QJ D cy ad M0 sz r0 M0) 0 0 (AA ad M0 sz) := by
  refine Met.ofW (cc := cX0_dueToWinners) (maxL := 4) (ret := (some .long)) (by decide) rfl ?_
  intro p e s m args below meth c s₁ B hml hv
  obtain ⟨rfl, rfl, hP0, hK, hN⟩ := hv
  have hx := B.exec
  have hb := B.bytes
  have hr := B.returns
  have hts0 := atoms_spec (ws := (Cond.code yX0_dueToWinners cX0_dueToWinners 4 (some .long) :: BW)) B.pre
  have hts : ∀ w ∈ BW, w.before ([.ref (ad 7 v0)] : List Value).toArray s = true := fun w h => hts0 w (List.mem_cons_of_mem _ h)
  have hown : s.vm.findClass RX0 = some m.cls := findClass_of_methodNamed B.named
  have hlocks := B.notSynchronized
  have hA : ∀ q : Nat, s.heap.size ≤ q → AA ad M0 s.heap.size q := fun q h => Or.inr h
  have C : Cx RX0 cX0_dueToWinners 4 (some .long) D cy (AA ad M0 s.heap.size) p s m ([.ref (ad 7 v0)] : List Value).toArray meth c := ⟨hx, hb, hr, hml, hown, hts, hlocks, hK, hN, hA⟩
  have hP := hp_self (sz := s.heap.size) hP0
  have hS : va_S (AA ad M0 s.heap.size) s.heap s.heap [] := va_S.rf
  have hl := lv_entry ([.ref (ad 7 v0)]) (n := 4) (Nat.le_of_ble_eq_true rfl)
  rw [lg_entry_eq]
  generalize (lg_sl ([.ref (ad 7 v0)]) ++ List.replicate (4 - (lg_sl ([.ref (ad 7 v0)])).length) Slot.unset).toArray = ls at hl ⊢
  have hl : lv_has ls 4 [(0, .ref (ad 7 v0))] := hl
  unfold f_X0_dueToWinners at hf
  refine lv_lconst (v := (0 : Int64)) hx hb dX0_dueToWinners_0 (by decide) ?_
  refine lv_lstore_n (lv' := [(1, .long (0 : Int64)), (0, .ref (ad 7 v0))]) hx hb dX0_dueToWinners_1 rfl hl (by decide) rfl (fun ls hl => ?_)
  refine lv_aload_n hx hb dX0_dueToWinners_2 rfl (lv_at hl 1 rfl) ?_
  have h28 : ∀ j : Nat, (mR M0 7 v0 5) = some j → mA M0 8 j = true := fun j hj => hp_wf hP a0 hj
  refine gf7 (v := va_rf (((mR M0 7 v0 5)).map (ad 8))) hx hb hts hown hK hP a0 5 (by decide) (hts _ q184) rfl rfl dX0_dueToWinners_3 ?_
  refine hp_astore_n (r := ((mR M0 7 v0 5)).map (ad 8)) (lv' := [(3, va_rf (((mR M0 7 v0 5)).map (ad 8))), (1, .long (0 : Int64)), (0, .ref (ad 7 v0))]) hx hb dX0_dueToWinners_6 rfl hl (by decide) rfl (fun ls hl => ?_)
  exact t_X0_dueToWinners_7 C FU v0 (0 : Int64) (mR M0 7 v0 5) _ _ _ a0 h28 hf hP hS (lv_sub hl [2, 1, 0] rfl)
def f_X0_settle_97 (v0 : Nat) (M : Mm) : Option Mm :=
  ob (f_X0_dueToWinners v0 M) fun r74 => lt (sJ M 7 v0 11 r74) fun M77 => lt (sJ M77 7 v0 12 (((mJ M77 7 v0 9) + (mJ M77 7 v0 13)) - (mJ M77 7 v0 11))) fun M80 => some M80
def f_X0_settle_29 (v0 : Nat) (M : Mm) : Option Mm :=
  ob (f_X0_deductionNow v0 M) fun r55 => lt (sJ M 7 v0 10 r55) fun M58 => ob (f_X0_netNow v0 M58) fun r62 => lt (sJ M58 7 v0 9 r62) fun M65 => lt (sI M65 7 v0 6 (1 : Int32)) fun M68 => if (mI M68 7 v0 7) = 0 then (lt (sJ M68 7 v0 15 (mJ M68 7 v0 9)) fun M86 => some M86) else (if (mI M68 7 v0 0) = (1 : Int32) then (lt (sJ M68 7 v0 13 (if (((((mI M68 7 v0 4)).toInt64) * (mJ M68 7 v0 8)) - (mJ M68 7 v0 9)) < (0 : Int64) then (0 : Int64) else (((((mI M68 7 v0 4)).toInt64) * (mJ M68 7 v0 8)) - (mJ M68 7 v0 9)))) fun M83 => f_X0_settle_97 v0 M83) else (f_X0_settle_97 v0 M68))
def f_X0_settle (v0 : Nat) (M0 : Mm) : Option Mm :=
  ob (f_X0_findWinners v0 M0) fun M51 => if (mI M51 7 v0 7) = 0 then (if (mI M51 7 v0 0) = (3 : Int32) then (f_X0_settle_29 v0 M51) else (ob (f_X0_refundAll v0 M51) fun M92 => lt (sI M92 7 v0 6 (2 : Int32)) fun M94 => some M94)) else (f_X0_settle_29 v0 M51)
set_option maxRecDepth 100000 in
set_option maxHeartbeats 4000000 in
theorem t_X0_settle_97 {p : Program} {l : Launch} {e : Env} {s : State} {m : MethodId} {args : Array Value} {below : List Frame} {meth : Method} {c : Code} {D : va_G} {cy : Nat → ClassId} {ad : Nat → Nat → Nat} {M0 : Mm} {M' : Mm} (C : Cx RX0 cX0_settle 1 none D cy (AA ad M0 s.heap.size) p s m args meth c) : ∀ (v0 : Nat) (M : Mm) (H : Heap) (locs : List Loc) (ls : Array Slot), (mA M 7 v0 = true) → Keep M0 M → f_X0_settle_97 v0 M = some M' → HP D cy (AA ad M0 s.heap.size) ad M H → va_S (AA ad M0 s.heap.size) s.heap H locs → lv_has ls 1 [(0, .ref (ad 7 v0))] → W p l e { frames := 5, cells := 0, slots := 0, locals := 103 } s m args below meth c H locs 0 0 (MQ below (QV D cy ad M0 s.heap.size M') args s 0 0 (AA ad M0 s.heap.size)) (F0 m 97 ls []) := by
  obtain ⟨hx, hb, hr, hml, hown, hts, hlocks, hK, hN, hA⟩ := id C
  intro v0 M H locs ls a0 hk hf hP hS hl
  unfold f_X0_settle_97 at hf
  refine lv_aload_n hx hb dX0_settle_97 rfl (lv_at hl 0 rfl) ?_
  refine lv_aload_n hx hb dX0_settle_98 rfl (lv_at hl 0 rfl) ?_
  obtain ⟨r74, e73, hf⟩ := ob_some hf
  refine hp_calll (va_runV (As := []) (rest := [.ref (ad 7 v0)]) ⟨hx, hb, hml, hown, hts⟩ (ok_X0_dueToWinners l D cy ad M _ v0 r74 a0 e73) (cwV 0 hts (gdV q497 q499 q41 q88 q500) rfl rfl rfl (by decide +kernel) ⟨Nat.le_of_ble_eq_true rfl, Nat.le_of_ble_eq_true rfl⟩) (pre_V hP hK hN a0 ds_7 rfl) rfl rfl hl.1 rfl (lv_room (Nat.le_of_ble_eq_true rfl)) dX0_settle_99 ⟨Nat.le_of_ble_eq_true rfl, Nat.le_of_ble_eq_true rfl⟩) hP hS hA (fun H locs hP hS _ => ?_)
  obtain ⟨M77, e78, hf⟩ := lt_some hf
  have hk79 : Keep M M77 := keJ e78
  refine pJ7 (v := r74) hx hb hts hown hK hP hS a0 11 (by decide) (hts _ q194) rfl rfl rfl e78 dX0_settle_102 (fun H locs hP hS => ?_)
  refine lv_aload_n hx hb dX0_settle_105 rfl (lv_at hl 0 rfl) ?_
  refine lv_aload_n hx hb dX0_settle_106 rfl (lv_at hl 0 rfl) ?_
  refine gf7 (v := .long (mJ M77 7 v0 9)) hx hb hts hown hK hP (hk79 _ _ a0) 9 (by decide) (hts _ q190) rfl rfl dX0_settle_107 ?_
  refine lv_aload_n hx hb dX0_settle_110 rfl (lv_at hl 0 rfl) ?_
  refine gf7 (v := .long (mJ M77 7 v0 13)) hx hb hts hown hK hP (hk79 _ _ a0) 13 (by decide) (hts _ q198) rfl rfl dX0_settle_111 ?_
  refine lv_ladd hx hb dX0_settle_114 ?_
  refine lv_aload_n hx hb dX0_settle_115 rfl (lv_at hl 0 rfl) ?_
  refine gf7 (v := .long (mJ M77 7 v0 11)) hx hb hts hown hK hP (hk79 _ _ a0) 11 (by decide) (hts _ q194) rfl rfl dX0_settle_116 ?_
  refine lv_lsub hx hb dX0_settle_119 ?_
  obtain ⟨M80, e81, hf⟩ := lt_some hf
  have hk82 : Keep M77 M80 := keJ e81
  refine pJ7 (v := (((mJ M77 7 v0 9) + (mJ M77 7 v0 13)) - (mJ M77 7 v0 11))) hx hb hts hown hK hP hS (hk79 _ _ a0) 12 (by decide) (hts _ q196) rfl rfl rfl e81 dX0_settle_120 (fun H locs hP hS => ?_)
  exact hp_vret hx hb hr hlocks (Option.some.inj hf) hP hS (kt (kt hk hk79) hk82) dX0_settle_123
set_option maxRecDepth 100000 in
set_option maxHeartbeats 4000000 in
theorem t_X0_settle_29 {p : Program} {l : Launch} {e : Env} {s : State} {m : MethodId} {args : Array Value} {below : List Frame} {meth : Method} {c : Code} {D : va_G} {cy : Nat → ClassId} {ad : Nat → Nat → Nat} {M0 : Mm} {M' : Mm} (C : Cx RX0 cX0_settle 1 none D cy (AA ad M0 s.heap.size) p s m args meth c) : ∀ (v0 : Nat) (M : Mm) (H : Heap) (locs : List Loc) (ls : Array Slot), (mA M 7 v0 = true) → Keep M0 M → f_X0_settle_29 v0 M = some M' → HP D cy (AA ad M0 s.heap.size) ad M H → va_S (AA ad M0 s.heap.size) s.heap H locs → lv_has ls 1 [(0, .ref (ad 7 v0))] → W p l e { frames := 5, cells := 0, slots := 0, locals := 103 } s m args below meth c H locs 0 0 (MQ below (QV D cy ad M0 s.heap.size M') args s 0 0 (AA ad M0 s.heap.size)) (F0 m 29 ls []) := by
  obtain ⟨hx, hb, hr, hml, hown, hts, hlocks, hK, hN, hA⟩ := id C
  intro v0 M H locs ls a0 hk hf hP hS hl
  unfold f_X0_settle_29 at hf
  refine lv_aload_n hx hb dX0_settle_29 rfl (lv_at hl 0 rfl) ?_
  refine lv_aload_n hx hb dX0_settle_30 rfl (lv_at hl 0 rfl) ?_
  obtain ⟨r55, e54, hf⟩ := ob_some hf
  refine hp_calll (va_runV (As := []) (rest := [.ref (ad 7 v0)]) ⟨hx, hb, hml, hown, hts⟩ (ok_X0_deductionNow l D cy ad M _ v0 r55 a0 e54) (cwV 0 hts (gdV q477 q479 q37 q88 q480) rfl rfl rfl (by decide +kernel) ⟨Nat.le_of_ble_eq_true rfl, Nat.le_of_ble_eq_true rfl⟩) (pre_V hP hK hN a0 ds_7 rfl) rfl rfl hl.1 rfl (lv_room (Nat.le_of_ble_eq_true rfl)) dX0_settle_31 ⟨Nat.le_of_ble_eq_true rfl, Nat.le_of_ble_eq_true rfl⟩) hP hS hA (fun H locs hP hS _ => ?_)
  obtain ⟨M58, e59, hf⟩ := lt_some hf
  have hk60 : Keep M M58 := keJ e59
  refine pJ7 (v := r55) hx hb hts hown hK hP hS a0 10 (by decide) (hts _ q192) rfl rfl rfl e59 dX0_settle_34 (fun H locs hP hS => ?_)
  refine lv_aload_n hx hb dX0_settle_37 rfl (lv_at hl 0 rfl) ?_
  refine lv_aload_n hx hb dX0_settle_38 rfl (lv_at hl 0 rfl) ?_
  obtain ⟨r62, e61, hf⟩ := ob_some hf
  refine hp_calll (va_runV (As := []) (rest := [.ref (ad 7 v0)]) ⟨hx, hb, hml, hown, hts⟩ (ok_X0_netNow l D cy ad M58 _ v0 r62 (hk60 _ _ a0) e61) (cwV 0 hts (gdV q490 q492 q40 q88 q493) rfl rfl rfl (by decide +kernel) ⟨Nat.le_of_ble_eq_true rfl, Nat.le_of_ble_eq_true rfl⟩) (pre_V hP hK hN (hk60 _ _ a0) ds_7 rfl) rfl rfl hl.1 rfl (lv_room (Nat.le_of_ble_eq_true rfl)) dX0_settle_39 ⟨Nat.le_of_ble_eq_true rfl, Nat.le_of_ble_eq_true rfl⟩) hP hS hA (fun H locs hP hS _ => ?_)
  obtain ⟨M65, e66, hf⟩ := lt_some hf
  have hk67 : Keep M58 M65 := keJ e66
  refine pJ7 (v := r62) hx hb hts hown hK hP hS (hk60 _ _ a0) 9 (by decide) (hts _ q190) rfl rfl rfl e66 dX0_settle_42 (fun H locs hP hS => ?_)
  refine lv_aload_n hx hb dX0_settle_45 rfl (lv_at hl 0 rfl) ?_
  refine lv_iconst (v := (1 : Int32)) hx hb dX0_settle_46 (by decide) ?_
  obtain ⟨M68, e69, hf⟩ := lt_some hf
  have hk70 : Keep M65 M68 := keI e69
  refine pI7 (v := (1 : Int32)) hx hb hts hown hK hP hS (hk67 _ _ (hk60 _ _ a0)) 6 (by decide) (hts _ q185) rfl rfl rfl e69 dX0_settle_47 (fun H locs hP hS => ?_)
  refine lv_aload_n hx hb dX0_settle_50 rfl (lv_at hl 0 rfl) ?_
  refine gf7 (v := .int (mI M68 7 v0 7)) hx hb hts hown hK hP (hk70 _ _ (hk67 _ _ (hk60 _ _ a0))) 7 (by decide) (hts _ q188) rfl rfl dX0_settle_51 ?_
  refine lv_if_ne (tgt := 66) hx hb dX0_settle_54 (by decide) (fun c71 => ?_) (fun c71 => ?_)
  · have hf := if_f hf c71
    refine lv_aload_n hx hb dX0_settle_66 rfl (lv_at hl 0 rfl) ?_
    refine gf7 (v := .int (mI M68 7 v0 0)) hx hb hts hown hK hP (hk70 _ _ (hk67 _ _ (hk60 _ _ a0))) 0 (by decide) (hts _ q176) rfl rfl dX0_settle_67 ?_
    refine lv_iconst (v := (1 : Int32)) hx hb dX0_settle_70 (by decide) ?_
    refine lv_icmp_ne (tgt := 97) hx hb dX0_settle_71 (by decide) (fun c72 => ?_) (fun c72 => ?_)
    · have hf := if_f hf c72
      exact t_X0_settle_97 C v0 M68 _ _ _ (hk70 _ _ (hk67 _ _ (hk60 _ _ a0))) (kt (kt (kt hk hk60) hk67) hk70) hf hP hS (lv_sub hl [0] rfl)
    · have hf := if_t hf c72
      refine lv_aload_n hx hb dX0_settle_74 rfl (lv_at hl 0 rfl) ?_
      refine lv_lconst (v := (0 : Int64)) hx hb dX0_settle_75 (by decide) ?_
      refine lv_aload_n hx hb dX0_settle_76 rfl (lv_at hl 0 rfl) ?_
      refine gf7 (v := .int (mI M68 7 v0 4)) hx hb hts hown hK hP (hk70 _ _ (hk67 _ _ (hk60 _ _ a0))) 4 (by decide) (hts _ q182) rfl rfl dX0_settle_77 ?_
      refine lv_i2l hx hb dX0_settle_80 rfl ?_
      refine lv_aload_n hx hb dX0_settle_81 rfl (lv_at hl 0 rfl) ?_
      refine gf7 (v := .long (mJ M68 7 v0 8)) hx hb hts hown hK hP (hk70 _ _ (hk67 _ _ (hk60 _ _ a0))) 8 (by decide) (hts _ q189) rfl rfl dX0_settle_82 ?_
      refine lv_lmul hx hb dX0_settle_85 ?_
      refine lv_aload_n hx hb dX0_settle_86 rfl (lv_at hl 0 rfl) ?_
      refine gf7 (v := .long (mJ M68 7 v0 9)) hx hb hts hown hK hP (hk70 _ _ (hk67 _ _ (hk60 _ _ a0))) 9 (by decide) (hts _ q190) rfl rfl dX0_settle_87 ?_
      refine lv_lsub hx hb dX0_settle_90 ?_
      refine va_mmax_long (x := (0 : Int64)) (y := (((((mI M68 7 v0 4)).toInt64) * (mJ M68 7 v0 8)) - (mJ M68 7 v0 9))) hx hb (hml.trans hl.1.symm) hown (hts _ q494) (hts _ q495) (hts _ q90) (hts _ q496) (Nat.le_of_ble_eq_true rfl) (Nat.le_of_ble_eq_true rfl) (Nat.zero_le _) (Nat.zero_le _) dX0_settle_91 ?_
      obtain ⟨M83, e84, hf⟩ := lt_some hf
      have hk85 : Keep M68 M83 := keJ e84
      refine pJ7 (v := (if (((((mI M68 7 v0 4)).toInt64) * (mJ M68 7 v0 8)) - (mJ M68 7 v0 9)) < (0 : Int64) then (0 : Int64) else (((((mI M68 7 v0 4)).toInt64) * (mJ M68 7 v0 8)) - (mJ M68 7 v0 9)))) hx hb hts hown hK hP hS (hk70 _ _ (hk67 _ _ (hk60 _ _ a0))) 13 (by decide) (hts _ q198) rfl rfl rfl e84 dX0_settle_94 (fun H locs hP hS => ?_)
      exact t_X0_settle_97 C v0 M83 _ _ _ (hk85 _ _ (hk70 _ _ (hk67 _ _ (hk60 _ _ a0)))) (kt (kt (kt (kt hk hk60) hk67) hk70) hk85) hf hP hS (lv_sub hl [0] rfl)
  · have hf := if_t hf c71
    refine lv_aload_n hx hb dX0_settle_57 rfl (lv_at hl 0 rfl) ?_
    refine lv_aload_n hx hb dX0_settle_58 rfl (lv_at hl 0 rfl) ?_
    refine gf7 (v := .long (mJ M68 7 v0 9)) hx hb hts hown hK hP (hk70 _ _ (hk67 _ _ (hk60 _ _ a0))) 9 (by decide) (hts _ q190) rfl rfl dX0_settle_59 ?_
    obtain ⟨M86, e87, hf⟩ := lt_some hf
    have hk88 : Keep M68 M86 := keJ e87
    refine pJ7 (v := (mJ M68 7 v0 9)) hx hb hts hown hK hP hS (hk70 _ _ (hk67 _ _ (hk60 _ _ a0))) 15 (by decide) (hts _ q202) rfl rfl rfl e87 dX0_settle_62 (fun H locs hP hS => ?_)
    exact hp_vret hx hb hr hlocks (Option.some.inj hf) hP hS (kt (kt (kt (kt hk hk60) hk67) hk70) hk88) dX0_settle_65
set_option maxRecDepth 100000 in
set_option maxHeartbeats 4000000 in
theorem ok_X0_settle (l : Launch) (D : va_G) (cy : Nat → ClassId) (ad : Nat → Nat → Nat) (M0 : Mm) (sz : Nat) (v0 : Nat) (M' : Mm) (a0 : mA M0 7 v0 = true) (hf : f_X0_settle v0 M0 = some M') : Met l yX0_settle (Cond.code yX0_settle cX0_settle 1 none :: BW) { frames := 5, cells := 0, slots := 0, locals := 103 } (va_Pc [.ref (ad 7 v0)] (PRE D cy ad M0 sz)) (QV D cy ad M0 sz M') 0 0 (AA ad M0 sz) := by
  refine Met.ofW (cc := cX0_settle) (maxL := 1) (ret := none) (by decide) rfl ?_
  intro p e s m args below meth c s₁ B hml hv
  obtain ⟨rfl, rfl, hP0, hK, hN⟩ := hv
  have hx := B.exec
  have hb := B.bytes
  have hr := B.returns
  have hts0 := atoms_spec (ws := (Cond.code yX0_settle cX0_settle 1 none :: BW)) B.pre
  have hts : ∀ w ∈ BW, w.before ([.ref (ad 7 v0)] : List Value).toArray s = true := fun w h => hts0 w (List.mem_cons_of_mem _ h)
  have hown : s.vm.findClass RX0 = some m.cls := findClass_of_methodNamed B.named
  have hlocks := B.notSynchronized
  have hA : ∀ q : Nat, s.heap.size ≤ q → AA ad M0 s.heap.size q := fun q h => Or.inr h
  have C : Cx RX0 cX0_settle 1 none D cy (AA ad M0 s.heap.size) p s m ([.ref (ad 7 v0)] : List Value).toArray meth c := ⟨hx, hb, hr, hml, hown, hts, hlocks, hK, hN, hA⟩
  have hP := hp_self (sz := s.heap.size) hP0
  have hS : va_S (AA ad M0 s.heap.size) s.heap s.heap [] := va_S.rf
  have hl := lv_entry ([.ref (ad 7 v0)]) (n := 1) (Nat.le_of_ble_eq_true rfl)
  rw [lg_entry_eq]
  generalize (lg_sl ([.ref (ad 7 v0)]) ++ List.replicate (1 - (lg_sl ([.ref (ad 7 v0)])).length) Slot.unset).toArray = ls at hl ⊢
  have hl : lv_has ls 1 [(0, .ref (ad 7 v0))] := hl
  unfold f_X0_settle at hf
  refine lv_aload_n hx hb dX0_settle_0 rfl (lv_at hl 0 rfl) ?_
  obtain ⟨M51, e49, hf⟩ := ob_some hf
  refine hp_callv (va_runV (As := []) (rest := []) ⟨hx, hb, hml, hown, hts⟩ (ok_X0_findWinners l D cy ad M0 _ v0 M51 a0 e49) (cwV 0 hts (gdV q456 q458 q32 q88 q459) rfl rfl rfl (by decide +kernel) ⟨Nat.le_of_ble_eq_true rfl, Nat.le_of_ble_eq_true rfl⟩) (pre_V hP hK hN a0 ds_7 rfl) rfl rfl hl.1 rfl (lv_room (Nat.le_of_ble_eq_true rfl)) dX0_settle_1 ⟨Nat.le_of_ble_eq_true rfl, Nat.le_of_ble_eq_true rfl⟩) hP hS hA (fun H locs hP hS hk52 => ?_)
  refine lv_aload_n hx hb dX0_settle_4 rfl (lv_at hl 0 rfl) ?_
  refine gf7 (v := .int (mI M51 7 v0 7)) hx hb hts hown hK hP (hk52 _ _ a0) 7 (by decide) (hts _ q188) rfl rfl dX0_settle_5 ?_
  refine lv_if_ne (tgt := 29) hx hb dX0_settle_8 (by decide) (fun c53 => ?_) (fun c53 => ?_)
  · have hf := if_f hf c53
    exact t_X0_settle_29 C v0 M51 _ _ _ (hk52 _ _ a0) (kt keep_rf hk52) hf hP hS (lv_sub hl [0] rfl)
  · have hf := if_t hf c53
    refine lv_aload_n hx hb dX0_settle_11 rfl (lv_at hl 0 rfl) ?_
    refine gf7 (v := .int (mI M51 7 v0 0)) hx hb hts hown hK hP (hk52 _ _ a0) 0 (by decide) (hts _ q176) rfl rfl dX0_settle_12 ?_
    refine lv_iconst (v := (3 : Int32)) hx hb dX0_settle_15 (by decide) ?_
    refine lv_icmp_eq (tgt := 29) hx hb dX0_settle_16 (by decide) (fun c89 => ?_) (fun c89 => ?_)
    · have hf := if_t hf c89
      exact t_X0_settle_29 C v0 M51 _ _ _ (hk52 _ _ a0) (kt keep_rf hk52) hf hP hS (lv_sub hl [0] rfl)
    · have hf := if_f hf c89
      refine lv_aload_n hx hb dX0_settle_19 rfl (lv_at hl 0 rfl) ?_
      obtain ⟨M92, e90, hf⟩ := ob_some hf
      refine hp_callv (va_runV (As := []) (rest := []) ⟨hx, hb, hml, hown, hts⟩ (ok_X0_refundAll l D cy ad M51 _ v0 M92 (hk52 _ _ a0) e90) (cwV 0 hts (gdV q473 q475 q36 q88 q476) rfl rfl rfl (by decide +kernel) ⟨Nat.le_of_ble_eq_true rfl, Nat.le_of_ble_eq_true rfl⟩) (pre_V hP hK hN (hk52 _ _ a0) ds_7 rfl) rfl rfl hl.1 rfl (lv_room (Nat.le_of_ble_eq_true rfl)) dX0_settle_20 ⟨Nat.le_of_ble_eq_true rfl, Nat.le_of_ble_eq_true rfl⟩) hP hS hA (fun H locs hP hS hk93 => ?_)
      refine lv_aload_n hx hb dX0_settle_23 rfl (lv_at hl 0 rfl) ?_
      refine lv_iconst (v := (2 : Int32)) hx hb dX0_settle_24 (by decide) ?_
      obtain ⟨M94, e95, hf⟩ := lt_some hf
      have hk96 : Keep M92 M94 := keI e95
      refine pI7 (v := (2 : Int32)) hx hb hts hown hK hP hS (hk93 _ _ (hk52 _ _ a0)) 6 (by decide) (hts _ q185) rfl rfl rfl e95 dX0_settle_25 (fun H locs hP hS => ?_)
      exact hp_vret hx hb hr hlocks (Option.some.inj hf) hP hS (kt (kt (kt keep_rf hk52) hk93) hk96) dX0_settle_28

def f_X0_canFinish (v0 : Nat) (v1 : Int32) (v2 : Int32) (v3 : Int32) (M0 : Mm) : Option Int32 :=
  if (mI M0 7 v0 0) = (4 : Int32) then (ob (mR M0 7 v0 1) fun i40 => ob (f_X1_isRunning i40 v1 M0) fun r44 => if r44 = 0 then (some (0 : Int32)) else (ob (mR M0 7 v0 2) fun i49 => ob (f_X1_isRunning i49 v2 M0) fun r53 => if r53 = 0 then (some (0 : Int32)) else (some (1 : Int32)))) else (ob (mR M0 7 v0 1) fun i31 => ob (f_X1_canFinish i31 v1 v2 v3 M0) fun r35 => zb r35 (some r35))
set_option maxRecDepth 100000 in
set_option maxHeartbeats 4000000 in
theorem ok_X0_canFinish (l : Launch) (D : va_G) (cy : Nat → ClassId) (ad : Nat → Nat → Nat) (M0 : Mm) (sz : Nat) (v0 : Nat) (v1 : Int32) (v2 : Int32) (v3 : Int32) (r0 : Int32) (a0 : mA M0 7 v0 = true) (hf : f_X0_canFinish v0 v1 v2 v3 M0 = some r0) : Met l yX0_canFinish (Cond.code yX0_canFinish cX0_canFinish 4 (some .boolean) :: BW) { frames := 3, cells := 0, slots := 0, locals := 65 } (va_Pc [.ref (ad 7 v0), .int v1, .int v2, .int v3] (PRE D cy ad M0 sz)) (QI D cy ad M0 sz r0 M0) 0 0 (AA ad M0 sz) := by
  refine Met.ofW (cc := cX0_canFinish) (maxL := 4) (ret := (some .boolean)) (by decide) rfl ?_
  intro p e s m args below meth c s₁ B hml hv
  obtain ⟨rfl, rfl, hP0, hK, hN⟩ := hv
  have hx := B.exec
  have hb := B.bytes
  have hr := B.returns
  have hts0 := atoms_spec (ws := (Cond.code yX0_canFinish cX0_canFinish 4 (some .boolean) :: BW)) B.pre
  have hts : ∀ w ∈ BW, w.before ([.ref (ad 7 v0), .int v1, .int v2, .int v3] : List Value).toArray s = true := fun w h => hts0 w (List.mem_cons_of_mem _ h)
  have hown : s.vm.findClass RX0 = some m.cls := findClass_of_methodNamed B.named
  have hlocks := B.notSynchronized
  have hA : ∀ q : Nat, s.heap.size ≤ q → AA ad M0 s.heap.size q := fun q h => Or.inr h
  have C : Cx RX0 cX0_canFinish 4 (some .boolean) D cy (AA ad M0 s.heap.size) p s m ([.ref (ad 7 v0), .int v1, .int v2, .int v3] : List Value).toArray meth c := ⟨hx, hb, hr, hml, hown, hts, hlocks, hK, hN, hA⟩
  have hP := hp_self (sz := s.heap.size) hP0
  have hS : va_S (AA ad M0 s.heap.size) s.heap s.heap [] := va_S.rf
  have hl := lv_entry ([.ref (ad 7 v0), .int v1, .int v2, .int v3]) (n := 4) (Nat.le_of_ble_eq_true rfl)
  rw [lg_entry_eq]
  generalize (lg_sl ([.ref (ad 7 v0), .int v1, .int v2, .int v3]) ++ List.replicate (4 - (lg_sl ([.ref (ad 7 v0), .int v1, .int v2, .int v3])).length) Slot.unset).toArray = ls at hl ⊢
  have hl : lv_has ls 4 [(0, .ref (ad 7 v0)), (1, .int v1), (2, .int v2), (3, .int v3)] := hl
  unfold f_X0_canFinish at hf
  refine lv_aload_n hx hb dX0_canFinish_0 rfl (lv_at hl 0 rfl) ?_
  refine gf7 (v := .int (mI M0 7 v0 0)) hx hb hts hown hK hP a0 0 (by decide) (hts _ q176) rfl rfl dX0_canFinish_1 ?_
  refine lv_iconst (v := (4 : Int32)) hx hb dX0_canFinish_4 (by decide) ?_
  refine lv_icmp_ne (tgt := 36) hx hb dX0_canFinish_5 (by decide) (fun c29 => ?_) (fun c29 => ?_)
  · have hf := if_f hf c29
    refine lv_aload_n hx hb dX0_canFinish_36 rfl (lv_at hl 0 rfl) ?_
    have h30 : ∀ j : Nat, (mR M0 7 v0 1) = some j → mA M0 4 j = true := fun j hj => hp_wf hP a0 hj
    refine gf7 (v := va_rf (((mR M0 7 v0 1)).map (ad 4))) hx hb hts hown hK hP a0 1 (by decide) (hts _ q178) rfl rfl dX0_canFinish_37 ?_
    refine lv_iload_n hx hb dX0_canFinish_40 rfl (lv_at hl 1 rfl) ?_
    refine lv_iload_n hx hb dX0_canFinish_41 rfl (lv_at hl 2 rfl) ?_
    refine lv_iload_n hx hb dX0_canFinish_42 rfl (lv_at hl 3 rfl) ?_
    obtain ⟨i31, e32, hf⟩ := ob_some hf
    have h33 : mA M0 4 i31 = true := h30 i31 e32
    refine W_stk (st := [.int v3, .int v2, .int v1, va_rf (((mR M0 7 v0 1)).map (ad 4))]) (st' := [.int v3, .int v2, .int v1, .ref (ad 4 i31)]) (by first | (rw [e32]; done) | (rw [e32]; rfl)) ?_
    obtain ⟨r35, e34, hf⟩ := ob_some hf
    refine hp_calli (va_runVN (As := [.int v1, .int v2, .int v3]) (rest := []) ⟨hx, hb, hml, hown, hts⟩ (ok_X1_canFinish l D cy ad M0 _ i31 v1 v2 v3 r35 h33 e34) ⟨va_cnB 3 hts (gd0 q536) rfl rfl rfl (hN.2.1 (RX0, 55, yX1_canFinish, RX3) (List.mem_of_getElem? (i := 29) rfl)) (hts _ q87) (by decide +kernel) ⟨Nat.le_of_ble_eq_true rfl, Nat.le_of_ble_eq_true rfl⟩, hts _ q535, hts _ q46⟩ (pre_V hP hK hN h33 ds_4 rfl) rfl rfl hl.1 rfl (lv_room (Nat.le_of_ble_eq_true rfl)) dX0_canFinish_43 ⟨Nat.le_of_ble_eq_true rfl, Nat.le_of_ble_eq_true rfl⟩) hP hS hA (fun H locs hP hS _ => ?_)
    obtain ⟨h38, hf⟩ := zb_some hf
    exact hp_zret hx hb hr hlocks h38 (Option.some.inj hf) rfl hP hS keep_rf dX0_canFinish_46
  · have hf := if_t hf c29
    refine lv_aload_n hx hb dX0_canFinish_8 rfl (lv_at hl 0 rfl) ?_
    have h39 : ∀ j : Nat, (mR M0 7 v0 1) = some j → mA M0 4 j = true := fun j hj => hp_wf hP a0 hj
    refine gf7 (v := va_rf (((mR M0 7 v0 1)).map (ad 4))) hx hb hts hown hK hP a0 1 (by decide) (hts _ q178) rfl rfl dX0_canFinish_9 ?_
    refine lv_iload_n hx hb dX0_canFinish_12 rfl (lv_at hl 1 rfl) ?_
    obtain ⟨i40, e41, hf⟩ := ob_some hf
    have h42 : mA M0 4 i40 = true := h39 i40 e41
    refine W_stk (st := [.int v1, va_rf (((mR M0 7 v0 1)).map (ad 4))]) (st' := [.int v1, .ref (ad 4 i40)]) (by first | (rw [e41]; done) | (rw [e41]; rfl)) ?_
    obtain ⟨r44, e43, hf⟩ := ob_some hf
    refine hp_calli (va_runVN (As := [.int v1]) (rest := []) ⟨hx, hb, hml, hown, hts⟩ (ok_X1_isRunning l D cy ad M0 _ i40 v1 r44 h42 e43) ⟨va_cnB 1 hts (gd0 q254) rfl rfl rfl (hN.2.1 (RX0, 45, yX1_isRunning, RX3) (List.mem_of_getElem? (i := 8) rfl)) (hts _ q87) (by decide +kernel) ⟨Nat.le_of_ble_eq_true rfl, Nat.le_of_ble_eq_true rfl⟩, hts _ q253, hts _ q2⟩ (pre_V hP hK hN h42 ds_4 rfl) rfl rfl hl.1 rfl (lv_room (Nat.le_of_ble_eq_true rfl)) dX0_canFinish_13 ⟨Nat.le_of_ble_eq_true rfl, Nat.le_of_ble_eq_true rfl⟩) hP hS hA (fun H locs hP hS _ => ?_)
    refine lv_if_eq (tgt := 34) hx hb dX0_canFinish_16 (by decide) (fun c47 => ?_) (fun c47 => ?_)
    · have hf := if_t hf c47
      refine lv_iconst (v := (0 : Int32)) hx hb dX0_canFinish_34 (by decide) ?_
      exact hp_zret hx hb hr hlocks (Or.inl rfl) (Option.some.inj hf) rfl hP hS keep_rf dX0_canFinish_35
    · have hf := if_f hf c47
      refine lv_aload_n hx hb dX0_canFinish_19 rfl (lv_at hl 0 rfl) ?_
      have h48 : ∀ j : Nat, (mR M0 7 v0 2) = some j → mA M0 4 j = true := fun j hj => hp_wf hP a0 hj
      refine gf7 (v := va_rf (((mR M0 7 v0 2)).map (ad 4))) hx hb hts hown hK hP a0 2 (by decide) (hts _ q180) rfl rfl dX0_canFinish_20 ?_
      refine lv_iload_n hx hb dX0_canFinish_23 rfl (lv_at hl 2 rfl) ?_
      obtain ⟨i49, e50, hf⟩ := ob_some hf
      have h51 : mA M0 4 i49 = true := h48 i49 e50
      refine W_stk (st := [.int v2, va_rf (((mR M0 7 v0 2)).map (ad 4))]) (st' := [.int v2, .ref (ad 4 i49)]) (by first | (rw [e50]; done) | (rw [e50]; rfl)) ?_
      obtain ⟨r53, e52, hf⟩ := ob_some hf
      refine hp_calli (va_runVN (As := [.int v2]) (rest := []) ⟨hx, hb, hml, hown, hts⟩ (ok_X1_isRunning l D cy ad M0 _ i49 v2 r53 h51 e52) ⟨va_cnB 1 hts (gd0 q254) rfl rfl rfl (hN.2.1 (RX0, 45, yX1_isRunning, RX3) (List.mem_of_getElem? (i := 8) rfl)) (hts _ q87) (by decide +kernel) ⟨Nat.le_of_ble_eq_true rfl, Nat.le_of_ble_eq_true rfl⟩, hts _ q253, hts _ q2⟩ (pre_V hP hK hN h51 ds_4 rfl) rfl rfl hl.1 rfl (lv_room (Nat.le_of_ble_eq_true rfl)) dX0_canFinish_24 ⟨Nat.le_of_ble_eq_true rfl, Nat.le_of_ble_eq_true rfl⟩) hP hS hA (fun H locs hP hS _ => ?_)
      refine lv_if_eq (tgt := 34) hx hb dX0_canFinish_27 (by decide) (fun c56 => ?_) (fun c56 => ?_)
      · have hf := if_t hf c56
        refine lv_iconst (v := (0 : Int32)) hx hb dX0_canFinish_34 (by decide) ?_
        exact hp_zret hx hb hr hlocks (Or.inl rfl) (Option.some.inj hf) rfl hP hS keep_rf dX0_canFinish_35
      · have hf := if_f hf c56
        refine lv_iconst (v := (1 : Int32)) hx hb dX0_canFinish_30 (by decide) ?_
        refine lv_goto (tgt := 35) hx hb dX0_canFinish_31 (by decide) ?_
        exact hp_zret hx hb hr hlocks (Or.inr rfl) (Option.some.inj hf) rfl hP hS keep_rf dX0_canFinish_35
def f_X0_dividendIfFinished_113 (M0 : Mm) (v0 : Nat) (v4 : Int64) (v7 : Int64) (v9 : Int64) (w0 : Int32) (w1 : Int32) : Option Int64 :=
  lt (w1 + w0) fun x71 => ob (f_X0_netNow v0 M0) fun r74 => ob (f_X0_dividendFrom v0 r74 x71 ((v4 + v7) + v9) v4 M0) fun r78 => some r78
def f_X0_dividendIfFinished_100 (M0 : Mm) (v0 : Nat) (v4 : Int64) (v7 : Int64) (v9 : Int64) (w0 : Int32) (w1 : Int32) : Option Int64 :=
  if (lg_cmp v9 (0 : Int64)) ≤ 0 then (f_X0_dividendIfFinished_113 M0 v0 v4 v7 v9 (0 : Int32) (w1 + w0)) else (f_X0_dividendIfFinished_113 M0 v0 v4 v7 v9 (1 : Int32) (w1 + w0))
def f_X0_dividendIfFinished_88 (M0 : Mm) (v0 : Nat) (v4 : Int64) (v7 : Int64) (v9 : Int64) (w0 : Int32) : Option Int64 :=
  if (lg_cmp v7 (0 : Int64)) ≤ 0 then (f_X0_dividendIfFinished_100 M0 v0 v4 v7 v9 (0 : Int32) w0) else (f_X0_dividendIfFinished_100 M0 v0 v4 v7 v9 (1 : Int32) w0)
def f_X0_dividendIfFinished_74 (M0 : Mm) (v0 : Nat) (v4 : Int64) (v7 : Int64) (w0 : Int64) : Option Int64 :=
  if (lg_cmp v4 (0 : Int64)) ≤ 0 then (f_X0_dividendIfFinished_88 M0 v0 v4 v7 w0 (0 : Int32)) else (f_X0_dividendIfFinished_88 M0 v0 v4 v7 w0 (1 : Int32))
def f_X0_dividendIfFinished (v0 : Nat) (v1 : Int32) (v2 : Int32) (v3 : Int32) (M0 : Mm) : Option Int64 :=
  ob (f_X0_unitsOn v0 v1 v2 v3 M0) fun r46 => if (mI M0 7 v0 0) = (1 : Int32) then (ob (mR M0 7 v0 1) fun i51 => ob (f_X1_lastWinningPlace i51 M0) fun r55 => if (2 : Int32) ≤ r55 then (ob (f_X0_unitsOn v0 v2 (0 : Int32) (0 : Int32) M0) fun r60 => if (3 : Int32) ≤ r55 then (ob (f_X0_unitsOn v0 v3 (0 : Int32) (0 : Int32) M0) fun r65 => f_X0_dividendIfFinished_74 M0 v0 r46 r60 r65) else (f_X0_dividendIfFinished_74 M0 v0 r46 r60 (0 : Int64))) else (some (0 : Int64))) else (ob (f_X0_netNow v0 M0) fun r82 => ob (f_X0_dividendFrom v0 r82 (1 : Int32) r46 r46 M0) fun r86 => some r86)
set_option maxRecDepth 100000 in
set_option maxHeartbeats 4000000 in
theorem t_X0_dividendIfFinished_113 {p : Program} {l : Launch} {e : Env} {s : State} {m : MethodId} {args : Array Value} {below : List Frame} {meth : Method} {c : Code} {D : va_G} {cy : Nat → ClassId} {ad : Nat → Nat → Nat} {M0 : Mm} {r0 : Int64} (C : Cx RX0 cX0_dividendIfFinished 12 (some .long) D cy (AA ad M0 s.heap.size) p s m args meth c) : ∀ (v0 : Nat) (v4 : Int64) (v7 : Int64) (v9 : Int64) (w0 : Int32) (w1 : Int32) (H : Heap) (locs : List Loc) (ls : Array Slot), (mA M0 7 v0 = true) → f_X0_dividendIfFinished_113 M0 v0 v4 v7 v9 w0 w1 = some r0 → HP D cy (AA ad M0 s.heap.size) ad M0 H → va_S (AA ad M0 s.heap.size) s.heap H locs → lv_has ls 12 [(0, .ref (ad 7 v0)), (4, .long v4), (7, .long v7), (9, .long v9)] → W p l e { frames := 5, cells := 0, slots := 0, locals := 103 } s m args below meth c H locs 0 0 (MQ below (QJ D cy ad M0 s.heap.size r0 M0) args s 0 0 (AA ad M0 s.heap.size)) (F0 m 113 ls [.int w0, .int w1]) := by
  obtain ⟨hx, hb, hr, hml, hown, hts, hlocks, hK, hN, hA⟩ := id C
  intro v0 v4 v7 v9 w0 w1 H locs ls a0 hf hP hS hl
  unfold f_X0_dividendIfFinished_113 at hf
  refine lv_iadd hx hb dX0_dividendIfFinished_113 ?_
  obtain ⟨x71, e72, hf⟩ := lt_some hf
  refine W_topI e72 ?_
  refine lv_istore (lv' := [(11, .int x71), (0, .ref (ad 7 v0)), (4, .long v4), (7, .long v7), (9, .long v9)]) hx hb dX0_dividendIfFinished_114 hl (by decide) rfl (fun ls hl => ?_)
  refine lv_aload_n hx hb dX0_dividendIfFinished_116 rfl (lv_at hl 1 rfl) ?_
  refine lv_aload_n hx hb dX0_dividendIfFinished_117 rfl (lv_at hl 1 rfl) ?_
  obtain ⟨r74, e73, hf⟩ := ob_some hf
  refine hp_calll (va_runV (As := []) (rest := [.ref (ad 7 v0)]) ⟨hx, hb, hml, hown, hts⟩ (ok_X0_netNow l D cy ad M0 _ v0 r74 a0 e73) (cwV 0 hts (gdV q490 q492 q40 q88 q493) rfl rfl rfl (by decide +kernel) ⟨Nat.le_of_ble_eq_true rfl, Nat.le_of_ble_eq_true rfl⟩) (pre_V hP hK hN a0 ds_7 rfl) rfl rfl hl.1 rfl (lv_room (Nat.le_of_ble_eq_true rfl)) dX0_dividendIfFinished_118 ⟨Nat.le_of_ble_eq_true rfl, Nat.le_of_ble_eq_true rfl⟩) hP hS hA (fun H locs hP hS _ => ?_)
  refine lv_iload hx hb dX0_dividendIfFinished_121 (lv_at hl 0 rfl) ?_
  refine lv_lload hx hb dX0_dividendIfFinished_123 (lv_at hl 2 rfl) ?_
  refine lv_lload hx hb dX0_dividendIfFinished_125 (lv_at hl 3 rfl) ?_
  refine lv_ladd hx hb dX0_dividendIfFinished_127 ?_
  refine lv_lload hx hb dX0_dividendIfFinished_128 (lv_at hl 4 rfl) ?_
  refine lv_ladd hx hb dX0_dividendIfFinished_130 ?_
  refine lv_lload hx hb dX0_dividendIfFinished_131 (lv_at hl 2 rfl) ?_
  obtain ⟨r78, e77, hf⟩ := ob_some hf
  refine hp_calll (va_runV (As := [.long r74, .int x71, .long ((v4 + v7) + v9), .long v4]) (rest := []) ⟨hx, hb, hml, hown, hts⟩ (ok_X0_dividendFrom l D cy ad M0 _ v0 r74 x71 ((v4 + v7) + v9) v4 r78 a0 e77) (cwV 4 hts (gdV q506 q508 q43 q88 q509) rfl rfl rfl (by decide +kernel) ⟨Nat.le_of_ble_eq_true rfl, Nat.le_of_ble_eq_true rfl⟩) (pre_V hP hK hN a0 ds_7 rfl) rfl rfl hl.1 rfl (lv_room (Nat.le_of_ble_eq_true rfl)) dX0_dividendIfFinished_133 ⟨Nat.le_of_ble_eq_true rfl, Nat.le_of_ble_eq_true rfl⟩) hP hS hA (fun H locs hP hS _ => ?_)
  exact hp_lret hx hb hr hlocks (Option.some.inj hf) rfl hP hS keep_rf dX0_dividendIfFinished_136
set_option maxRecDepth 100000 in
set_option maxHeartbeats 4000000 in
theorem t_X0_dividendIfFinished_100 {p : Program} {l : Launch} {e : Env} {s : State} {m : MethodId} {args : Array Value} {below : List Frame} {meth : Method} {c : Code} {D : va_G} {cy : Nat → ClassId} {ad : Nat → Nat → Nat} {M0 : Mm} {r0 : Int64} (C : Cx RX0 cX0_dividendIfFinished 12 (some .long) D cy (AA ad M0 s.heap.size) p s m args meth c) : ∀ (v0 : Nat) (v4 : Int64) (v7 : Int64) (v9 : Int64) (w0 : Int32) (w1 : Int32) (H : Heap) (locs : List Loc) (ls : Array Slot), (mA M0 7 v0 = true) → f_X0_dividendIfFinished_100 M0 v0 v4 v7 v9 w0 w1 = some r0 → HP D cy (AA ad M0 s.heap.size) ad M0 H → va_S (AA ad M0 s.heap.size) s.heap H locs → lv_has ls 12 [(0, .ref (ad 7 v0)), (4, .long v4), (7, .long v7), (9, .long v9)] → W p l e { frames := 5, cells := 0, slots := 0, locals := 103 } s m args below meth c H locs 0 0 (MQ below (QJ D cy ad M0 s.heap.size r0 M0) args s 0 0 (AA ad M0 s.heap.size)) (F0 m 100 ls [.int w0, .int w1]) := by
  obtain ⟨hx, hb, hr, hml, hown, hts, hlocks, hK, hN, hA⟩ := id C
  intro v0 v4 v7 v9 w0 w1 H locs ls a0 hf hP hS hl
  unfold f_X0_dividendIfFinished_100 at hf
  refine lv_iadd hx hb dX0_dividendIfFinished_100 ?_
  refine lv_lload hx hb dX0_dividendIfFinished_101 (lv_at hl 3 rfl) ?_
  refine lv_lconst (v := (0 : Int64)) hx hb dX0_dividendIfFinished_103 (by decide) ?_
  refine W.lcmp hx hb dX0_dividendIfFinished_104 ?_
  refine lv_if_le (tgt := 112) hx hb dX0_dividendIfFinished_105 (by decide) (fun c70 => ?_) (fun c70 => ?_)
  · have hf := if_t hf c70
    refine lv_iconst (v := (0 : Int32)) hx hb dX0_dividendIfFinished_112 (by decide) ?_
    exact t_X0_dividendIfFinished_113 C v0 v4 v7 v9 (0 : Int32) (w1 + w0) _ _ _ a0 hf hP hS (lv_sub hl [0, 1, 2, 3] rfl)
  · have hf := if_f hf c70
    refine lv_iconst (v := (1 : Int32)) hx hb dX0_dividendIfFinished_108 (by decide) ?_
    refine lv_goto (tgt := 113) hx hb dX0_dividendIfFinished_109 (by decide) ?_
    exact t_X0_dividendIfFinished_113 C v0 v4 v7 v9 (1 : Int32) (w1 + w0) _ _ _ a0 hf hP hS (lv_sub hl [0, 1, 2, 3] rfl)
set_option maxRecDepth 100000 in
set_option maxHeartbeats 4000000 in
theorem t_X0_dividendIfFinished_88 {p : Program} {l : Launch} {e : Env} {s : State} {m : MethodId} {args : Array Value} {below : List Frame} {meth : Method} {c : Code} {D : va_G} {cy : Nat → ClassId} {ad : Nat → Nat → Nat} {M0 : Mm} {r0 : Int64} (C : Cx RX0 cX0_dividendIfFinished 12 (some .long) D cy (AA ad M0 s.heap.size) p s m args meth c) : ∀ (v0 : Nat) (v4 : Int64) (v7 : Int64) (v9 : Int64) (w0 : Int32) (H : Heap) (locs : List Loc) (ls : Array Slot), (mA M0 7 v0 = true) → f_X0_dividendIfFinished_88 M0 v0 v4 v7 v9 w0 = some r0 → HP D cy (AA ad M0 s.heap.size) ad M0 H → va_S (AA ad M0 s.heap.size) s.heap H locs → lv_has ls 12 [(0, .ref (ad 7 v0)), (4, .long v4), (7, .long v7), (9, .long v9)] → W p l e { frames := 5, cells := 0, slots := 0, locals := 103 } s m args below meth c H locs 0 0 (MQ below (QJ D cy ad M0 s.heap.size r0 M0) args s 0 0 (AA ad M0 s.heap.size)) (F0 m 88 ls [.int w0]) := by
  obtain ⟨hx, hb, hr, hml, hown, hts, hlocks, hK, hN, hA⟩ := id C
  intro v0 v4 v7 v9 w0 H locs ls a0 hf hP hS hl
  unfold f_X0_dividendIfFinished_88 at hf
  refine lv_lload hx hb dX0_dividendIfFinished_88 (lv_at hl 2 rfl) ?_
  refine lv_lconst (v := (0 : Int64)) hx hb dX0_dividendIfFinished_90 (by decide) ?_
  refine W.lcmp hx hb dX0_dividendIfFinished_91 ?_
  refine lv_if_le (tgt := 99) hx hb dX0_dividendIfFinished_92 (by decide) (fun c69 => ?_) (fun c69 => ?_)
  · have hf := if_t hf c69
    refine lv_iconst (v := (0 : Int32)) hx hb dX0_dividendIfFinished_99 (by decide) ?_
    exact t_X0_dividendIfFinished_100 C v0 v4 v7 v9 (0 : Int32) w0 _ _ _ a0 hf hP hS (lv_sub hl [0, 1, 2, 3] rfl)
  · have hf := if_f hf c69
    refine lv_iconst (v := (1 : Int32)) hx hb dX0_dividendIfFinished_95 (by decide) ?_
    refine lv_goto (tgt := 100) hx hb dX0_dividendIfFinished_96 (by decide) ?_
    exact t_X0_dividendIfFinished_100 C v0 v4 v7 v9 (1 : Int32) w0 _ _ _ a0 hf hP hS (lv_sub hl [0, 1, 2, 3] rfl)
set_option maxRecDepth 100000 in
set_option maxHeartbeats 4000000 in
theorem t_X0_dividendIfFinished_74 {p : Program} {l : Launch} {e : Env} {s : State} {m : MethodId} {args : Array Value} {below : List Frame} {meth : Method} {c : Code} {D : va_G} {cy : Nat → ClassId} {ad : Nat → Nat → Nat} {M0 : Mm} {r0 : Int64} (C : Cx RX0 cX0_dividendIfFinished 12 (some .long) D cy (AA ad M0 s.heap.size) p s m args meth c) : ∀ (v0 : Nat) (v4 : Int64) (v7 : Int64) (w0 : Int64) (H : Heap) (locs : List Loc) (ls : Array Slot), (mA M0 7 v0 = true) → f_X0_dividendIfFinished_74 M0 v0 v4 v7 w0 = some r0 → HP D cy (AA ad M0 s.heap.size) ad M0 H → va_S (AA ad M0 s.heap.size) s.heap H locs → lv_has ls 12 [(0, .ref (ad 7 v0)), (4, .long v4), (7, .long v7)] → W p l e { frames := 5, cells := 0, slots := 0, locals := 103 } s m args below meth c H locs 0 0 (MQ below (QJ D cy ad M0 s.heap.size r0 M0) args s 0 0 (AA ad M0 s.heap.size)) (F0 m 74 ls [.long w0]) := by
  obtain ⟨hx, hb, hr, hml, hown, hts, hlocks, hK, hN, hA⟩ := id C
  intro v0 v4 v7 w0 H locs ls a0 hf hP hS hl
  unfold f_X0_dividendIfFinished_74 at hf
  refine lv_lstore (lv' := [(9, .long w0), (0, .ref (ad 7 v0)), (4, .long v4), (7, .long v7)]) hx hb dX0_dividendIfFinished_74 hl (by decide) rfl (fun ls hl => ?_)
  refine lv_lload hx hb dX0_dividendIfFinished_76 (lv_at hl 2 rfl) ?_
  refine lv_lconst (v := (0 : Int64)) hx hb dX0_dividendIfFinished_78 (by decide) ?_
  refine W.lcmp hx hb dX0_dividendIfFinished_79 ?_
  refine lv_if_le (tgt := 87) hx hb dX0_dividendIfFinished_80 (by decide) (fun c68 => ?_) (fun c68 => ?_)
  · have hf := if_t hf c68
    refine lv_iconst (v := (0 : Int32)) hx hb dX0_dividendIfFinished_87 (by decide) ?_
    exact t_X0_dividendIfFinished_88 C v0 v4 v7 w0 (0 : Int32) _ _ _ a0 hf hP hS (lv_sub hl [1, 2, 3, 0] rfl)
  · have hf := if_f hf c68
    refine lv_iconst (v := (1 : Int32)) hx hb dX0_dividendIfFinished_83 (by decide) ?_
    refine lv_goto (tgt := 88) hx hb dX0_dividendIfFinished_84 (by decide) ?_
    exact t_X0_dividendIfFinished_88 C v0 v4 v7 w0 (1 : Int32) _ _ _ a0 hf hP hS (lv_sub hl [1, 2, 3, 0] rfl)
set_option maxRecDepth 100000 in
set_option maxHeartbeats 4000000 in
theorem ok_X0_dividendIfFinished (l : Launch) (D : va_G) (cy : Nat → ClassId) (ad : Nat → Nat → Nat) (M0 : Mm) (sz : Nat) (v0 : Nat) (v1 : Int32) (v2 : Int32) (v3 : Int32) (r0 : Int64) (a0 : mA M0 7 v0 = true) (hf : f_X0_dividendIfFinished v0 v1 v2 v3 M0 = some r0) : Met l yX0_dividendIfFinished (Cond.code yX0_dividendIfFinished cX0_dividendIfFinished 12 (some .long) :: BW) { frames := 5, cells := 0, slots := 0, locals := 103 } (va_Pc [.ref (ad 7 v0), .int v1, .int v2, .int v3] (PRE D cy ad M0 sz)) (QJ D cy ad M0 sz r0 M0) 0 0 (AA ad M0 sz) := by
  refine Met.ofW (cc := cX0_dividendIfFinished) (maxL := 12) (ret := (some .long)) (by decide) rfl ?_
  intro p e s m args below meth c s₁ B hml hv
  obtain ⟨rfl, rfl, hP0, hK, hN⟩ := hv
  have hx := B.exec
  have hb := B.bytes
  have hr := B.returns
  have hts0 := atoms_spec (ws := (Cond.code yX0_dividendIfFinished cX0_dividendIfFinished 12 (some .long) :: BW)) B.pre
  have hts : ∀ w ∈ BW, w.before ([.ref (ad 7 v0), .int v1, .int v2, .int v3] : List Value).toArray s = true := fun w h => hts0 w (List.mem_cons_of_mem _ h)
  have hown : s.vm.findClass RX0 = some m.cls := findClass_of_methodNamed B.named
  have hlocks := B.notSynchronized
  have hA : ∀ q : Nat, s.heap.size ≤ q → AA ad M0 s.heap.size q := fun q h => Or.inr h
  have C : Cx RX0 cX0_dividendIfFinished 12 (some .long) D cy (AA ad M0 s.heap.size) p s m ([.ref (ad 7 v0), .int v1, .int v2, .int v3] : List Value).toArray meth c := ⟨hx, hb, hr, hml, hown, hts, hlocks, hK, hN, hA⟩
  have hP := hp_self (sz := s.heap.size) hP0
  have hS : va_S (AA ad M0 s.heap.size) s.heap s.heap [] := va_S.rf
  have hl := lv_entry ([.ref (ad 7 v0), .int v1, .int v2, .int v3]) (n := 12) (Nat.le_of_ble_eq_true rfl)
  rw [lg_entry_eq]
  generalize (lg_sl ([.ref (ad 7 v0), .int v1, .int v2, .int v3]) ++ List.replicate (12 - (lg_sl ([.ref (ad 7 v0), .int v1, .int v2, .int v3])).length) Slot.unset).toArray = ls at hl ⊢
  have hl : lv_has ls 12 [(0, .ref (ad 7 v0)), (1, .int v1), (2, .int v2), (3, .int v3)] := hl
  unfold f_X0_dividendIfFinished at hf
  refine lv_aload_n hx hb dX0_dividendIfFinished_0 rfl (lv_at hl 0 rfl) ?_
  refine lv_iload_n hx hb dX0_dividendIfFinished_1 rfl (lv_at hl 1 rfl) ?_
  refine lv_iload_n hx hb dX0_dividendIfFinished_2 rfl (lv_at hl 2 rfl) ?_
  refine lv_iload_n hx hb dX0_dividendIfFinished_3 rfl (lv_at hl 3 rfl) ?_
  obtain ⟨r46, e45, hf⟩ := ob_some hf
  refine hp_calll (va_runV (As := [.int v1, .int v2, .int v3]) (rest := []) ⟨hx, hb, hml, hown, hts⟩ (ok_X0_unitsOn l D cy ad M0 _ v0 v1 v2 v3 r46 a0 e45) (cwV 3 hts (gdV q501 q365 q15 q88 q366) rfl rfl rfl (by decide +kernel) ⟨Nat.le_of_ble_eq_true rfl, Nat.le_of_ble_eq_true rfl⟩) (pre_V hP hK hN a0 ds_7 rfl) rfl rfl hl.1 rfl (lv_room (Nat.le_of_ble_eq_true rfl)) dX0_dividendIfFinished_4 ⟨Nat.le_of_ble_eq_true rfl, Nat.le_of_ble_eq_true rfl⟩) hP hS hA (fun H locs hP hS _ => ?_)
  refine lv_lstore (lv' := [(4, .long r46), (0, .ref (ad 7 v0)), (1, .int v1), (2, .int v2), (3, .int v3)]) hx hb dX0_dividendIfFinished_7 hl (by decide) rfl (fun ls hl => ?_)
  refine lv_aload_n hx hb dX0_dividendIfFinished_9 rfl (lv_at hl 1 rfl) ?_
  refine gf7 (v := .int (mI M0 7 v0 0)) hx hb hts hown hK hP a0 0 (by decide) (hts _ q176) rfl rfl dX0_dividendIfFinished_10 ?_
  refine lv_iconst (v := (1 : Int32)) hx hb dX0_dividendIfFinished_13 (by decide) ?_
  refine lv_icmp_eq (tgt := 31) hx hb dX0_dividendIfFinished_14 (by decide) (fun c49 => ?_) (fun c49 => ?_)
  · have hf := if_t hf c49
    refine lv_aload_n hx hb dX0_dividendIfFinished_31 rfl (lv_at hl 1 rfl) ?_
    have h50 : ∀ j : Nat, (mR M0 7 v0 1) = some j → mA M0 4 j = true := fun j hj => hp_wf hP a0 hj
    refine gf7 (v := va_rf (((mR M0 7 v0 1)).map (ad 4))) hx hb hts hown hK hP a0 1 (by decide) (hts _ q178) rfl rfl dX0_dividendIfFinished_32 ?_
    obtain ⟨i51, e52, hf⟩ := ob_some hf
    have h53 : mA M0 4 i51 = true := h50 i51 e52
    refine W_stk (st := [va_rf (((mR M0 7 v0 1)).map (ad 4))]) (st' := [.ref (ad 4 i51)]) (by first | (rw [e52]; done) | (rw [e52]; rfl)) ?_
    obtain ⟨r55, e54, hf⟩ := ob_some hf
    refine hp_calli (va_runVN (As := []) (rest := []) ⟨hx, hb, hml, hown, hts⟩ (ok_X1_lastWinningPlace l D cy ad M0 _ i51 r55 h53 e54) ⟨va_cnB 0 hts (gd0 q468) rfl rfl rfl (hN.2.1 (RX0, 73, yX1_lastWinningPlace, RX3) (List.mem_of_getElem? (i := 24) rfl)) (hts _ q87) (by decide +kernel) ⟨Nat.le_of_ble_eq_true rfl, Nat.le_of_ble_eq_true rfl⟩, hts _ q467, hts _ q34⟩ (pre_V hP hK hN h53 ds_4 rfl) rfl rfl hl.1 rfl (lv_room (Nat.le_of_ble_eq_true rfl)) dX0_dividendIfFinished_35 ⟨Nat.le_of_ble_eq_true rfl, Nat.le_of_ble_eq_true rfl⟩) hP hS hA (fun H locs hP hS _ => ?_)
    refine lv_istore (lv' := [(6, .int r55), (4, .long r46), (0, .ref (ad 7 v0)), (1, .int v1), (2, .int v2), (3, .int v3)]) hx hb dX0_dividendIfFinished_38 hl (by decide) rfl (fun ls hl => ?_)
    refine lv_iload hx hb dX0_dividendIfFinished_40 (lv_at hl 0 rfl) ?_
    refine lv_iconst (v := (2 : Int32)) hx hb dX0_dividendIfFinished_42 (by decide) ?_
    refine lv_icmp_ge (tgt := 48) hx hb dX0_dividendIfFinished_43 (by decide) (fun c58 => ?_) (fun c58 => ?_)
    · have hf := if_t hf c58
      refine lv_aload_n hx hb dX0_dividendIfFinished_48 rfl (lv_at hl 2 rfl) ?_
      refine lv_iload_n hx hb dX0_dividendIfFinished_49 rfl (lv_at hl 4 rfl) ?_
      refine lv_iconst (v := (0 : Int32)) hx hb dX0_dividendIfFinished_50 (by decide) ?_
      refine lv_iconst (v := (0 : Int32)) hx hb dX0_dividendIfFinished_51 (by decide) ?_
      obtain ⟨r60, e59, hf⟩ := ob_some hf
      refine hp_calll (va_runV (As := [.int v2, .int (0 : Int32), .int (0 : Int32)]) (rest := []) ⟨hx, hb, hml, hown, hts⟩ (ok_X0_unitsOn l D cy ad M0 _ v0 v2 (0 : Int32) (0 : Int32) r60 a0 e59) (cwV 3 hts (gdV q501 q365 q15 q88 q366) rfl rfl rfl (by decide +kernel) ⟨Nat.le_of_ble_eq_true rfl, Nat.le_of_ble_eq_true rfl⟩) (pre_V hP hK hN a0 ds_7 rfl) rfl rfl hl.1 rfl (lv_room (Nat.le_of_ble_eq_true rfl)) dX0_dividendIfFinished_52 ⟨Nat.le_of_ble_eq_true rfl, Nat.le_of_ble_eq_true rfl⟩) hP hS hA (fun H locs hP hS _ => ?_)
      refine lv_lstore (lv' := [(7, .long r60), (6, .int r55), (4, .long r46), (0, .ref (ad 7 v0)), (1, .int v1), (2, .int v2), (3, .int v3)]) hx hb dX0_dividendIfFinished_55 hl (by decide) rfl (fun ls hl => ?_)
      refine lv_iload hx hb dX0_dividendIfFinished_57 (lv_at hl 1 rfl) ?_
      refine lv_iconst (v := (3 : Int32)) hx hb dX0_dividendIfFinished_59 (by decide) ?_
      refine lv_icmp_ge (tgt := 67) hx hb dX0_dividendIfFinished_60 (by decide) (fun c63 => ?_) (fun c63 => ?_)
      · have hf := if_t hf c63
        refine lv_aload_n hx hb dX0_dividendIfFinished_67 rfl (lv_at hl 3 rfl) ?_
        refine lv_iload_n hx hb dX0_dividendIfFinished_68 rfl (lv_at hl 6 rfl) ?_
        refine lv_iconst (v := (0 : Int32)) hx hb dX0_dividendIfFinished_69 (by decide) ?_
        refine lv_iconst (v := (0 : Int32)) hx hb dX0_dividendIfFinished_70 (by decide) ?_
        obtain ⟨r65, e64, hf⟩ := ob_some hf
        refine hp_calll (va_runV (As := [.int v3, .int (0 : Int32), .int (0 : Int32)]) (rest := []) ⟨hx, hb, hml, hown, hts⟩ (ok_X0_unitsOn l D cy ad M0 _ v0 v3 (0 : Int32) (0 : Int32) r65 a0 e64) (cwV 3 hts (gdV q501 q365 q15 q88 q366) rfl rfl rfl (by decide +kernel) ⟨Nat.le_of_ble_eq_true rfl, Nat.le_of_ble_eq_true rfl⟩) (pre_V hP hK hN a0 ds_7 rfl) rfl rfl hl.1 rfl (lv_room (Nat.le_of_ble_eq_true rfl)) dX0_dividendIfFinished_71 ⟨Nat.le_of_ble_eq_true rfl, Nat.le_of_ble_eq_true rfl⟩) hP hS hA (fun H locs hP hS _ => ?_)
        exact t_X0_dividendIfFinished_74 C v0 r46 r60 r65 _ _ _ a0 hf hP hS (lv_sub hl [3, 2, 0] rfl)
      · have hf := if_f hf c63
        refine lv_lconst (v := (0 : Int64)) hx hb dX0_dividendIfFinished_63 (by decide) ?_
        refine lv_goto (tgt := 74) hx hb dX0_dividendIfFinished_64 (by decide) ?_
        exact t_X0_dividendIfFinished_74 C v0 r46 r60 (0 : Int64) _ _ _ a0 hf hP hS (lv_sub hl [3, 2, 0] rfl)
    · have hf := if_f hf c58
      refine lv_lconst (v := (0 : Int64)) hx hb dX0_dividendIfFinished_46 (by decide) ?_
      exact hp_lret hx hb hr hlocks (Option.some.inj hf) rfl hP hS keep_rf dX0_dividendIfFinished_47
  · have hf := if_f hf c49
    refine lv_aload_n hx hb dX0_dividendIfFinished_17 rfl (lv_at hl 1 rfl) ?_
    refine lv_aload_n hx hb dX0_dividendIfFinished_18 rfl (lv_at hl 1 rfl) ?_
    obtain ⟨r82, e81, hf⟩ := ob_some hf
    refine hp_calll (va_runV (As := []) (rest := [.ref (ad 7 v0)]) ⟨hx, hb, hml, hown, hts⟩ (ok_X0_netNow l D cy ad M0 _ v0 r82 a0 e81) (cwV 0 hts (gdV q490 q492 q40 q88 q493) rfl rfl rfl (by decide +kernel) ⟨Nat.le_of_ble_eq_true rfl, Nat.le_of_ble_eq_true rfl⟩) (pre_V hP hK hN a0 ds_7 rfl) rfl rfl hl.1 rfl (lv_room (Nat.le_of_ble_eq_true rfl)) dX0_dividendIfFinished_19 ⟨Nat.le_of_ble_eq_true rfl, Nat.le_of_ble_eq_true rfl⟩) hP hS hA (fun H locs hP hS _ => ?_)
    refine lv_iconst (v := (1 : Int32)) hx hb dX0_dividendIfFinished_22 (by decide) ?_
    refine lv_lload hx hb dX0_dividendIfFinished_23 (lv_at hl 0 rfl) ?_
    refine lv_lload hx hb dX0_dividendIfFinished_25 (lv_at hl 0 rfl) ?_
    obtain ⟨r86, e85, hf⟩ := ob_some hf
    refine hp_calll (va_runV (As := [.long r82, .int (1 : Int32), .long r46, .long r46]) (rest := []) ⟨hx, hb, hml, hown, hts⟩ (ok_X0_dividendFrom l D cy ad M0 _ v0 r82 (1 : Int32) r46 r46 r86 a0 e85) (cwV 4 hts (gdV q506 q508 q43 q88 q509) rfl rfl rfl (by decide +kernel) ⟨Nat.le_of_ble_eq_true rfl, Nat.le_of_ble_eq_true rfl⟩) (pre_V hP hK hN a0 ds_7 rfl) rfl rfl hl.1 rfl (lv_room (Nat.le_of_ble_eq_true rfl)) dX0_dividendIfFinished_27 ⟨Nat.le_of_ble_eq_true rfl, Nat.le_of_ble_eq_true rfl⟩) hP hS hA (fun H locs hP hS _ => ?_)
    exact hp_lret hx hb hr hlocks (Option.some.inj hf) rfl hP hS keep_rf dX0_dividendIfFinished_30

def f_X0_dividendOf (v0 : Nat) (v1 : Int32) (v2 : Int32) (v3 : Int32) (M0 : Mm) : Option Int64 :=
  ob (f_X0_isWon v0 v1 v2 v3 M0) fun r15 => if r15 = 0 then (some (0 : Int64)) else (ob (f_X0_unitsOn v0 v1 v2 v3 M0) fun r20 => ob (f_X0_dividendOn v0 r20 M0) fun r24 => some r24)
set_option maxRecDepth 100000 in
set_option maxHeartbeats 4000000 in
theorem ok_X0_dividendOf (l : Launch) (D : va_G) (cy : Nat → ClassId) (ad : Nat → Nat → Nat) (M0 : Mm) (sz : Nat) (v0 : Nat) (v1 : Int32) (v2 : Int32) (v3 : Int32) (r0 : Int64) (a0 : mA M0 7 v0 = true) (hf : f_X0_dividendOf v0 v1 v2 v3 M0 = some r0) : Met l yX0_dividendOf (Cond.code yX0_dividendOf cX0_dividendOf 4 (some .long) :: BW) { frames := 3, cells := 0, slots := 0, locals := 72 } (va_Pc [.ref (ad 7 v0), .int v1, .int v2, .int v3] (PRE D cy ad M0 sz)) (QJ D cy ad M0 sz r0 M0) 0 0 (AA ad M0 sz) := by
  refine Met.ofW (cc := cX0_dividendOf) (maxL := 4) (ret := (some .long)) (by decide) rfl ?_
  intro p e s m args below meth c s₁ B hml hv
  obtain ⟨rfl, rfl, hP0, hK, hN⟩ := hv
  have hx := B.exec
  have hb := B.bytes
  have hr := B.returns
  have hts0 := atoms_spec (ws := (Cond.code yX0_dividendOf cX0_dividendOf 4 (some .long) :: BW)) B.pre
  have hts : ∀ w ∈ BW, w.before ([.ref (ad 7 v0), .int v1, .int v2, .int v3] : List Value).toArray s = true := fun w h => hts0 w (List.mem_cons_of_mem _ h)
  have hown : s.vm.findClass RX0 = some m.cls := findClass_of_methodNamed B.named
  have hlocks := B.notSynchronized
  have hA : ∀ q : Nat, s.heap.size ≤ q → AA ad M0 s.heap.size q := fun q h => Or.inr h
  have C : Cx RX0 cX0_dividendOf 4 (some .long) D cy (AA ad M0 s.heap.size) p s m ([.ref (ad 7 v0), .int v1, .int v2, .int v3] : List Value).toArray meth c := ⟨hx, hb, hr, hml, hown, hts, hlocks, hK, hN, hA⟩
  have hP := hp_self (sz := s.heap.size) hP0
  have hS : va_S (AA ad M0 s.heap.size) s.heap s.heap [] := va_S.rf
  have hl := lv_entry ([.ref (ad 7 v0), .int v1, .int v2, .int v3]) (n := 4) (Nat.le_of_ble_eq_true rfl)
  rw [lg_entry_eq]
  generalize (lg_sl ([.ref (ad 7 v0), .int v1, .int v2, .int v3]) ++ List.replicate (4 - (lg_sl ([.ref (ad 7 v0), .int v1, .int v2, .int v3])).length) Slot.unset).toArray = ls at hl ⊢
  have hl : lv_has ls 4 [(0, .ref (ad 7 v0)), (1, .int v1), (2, .int v2), (3, .int v3)] := hl
  unfold f_X0_dividendOf at hf
  refine lv_aload_n hx hb dX0_dividendOf_0 rfl (lv_at hl 0 rfl) ?_
  refine lv_iload_n hx hb dX0_dividendOf_1 rfl (lv_at hl 1 rfl) ?_
  refine lv_iload_n hx hb dX0_dividendOf_2 rfl (lv_at hl 2 rfl) ?_
  refine lv_iload_n hx hb dX0_dividendOf_3 rfl (lv_at hl 3 rfl) ?_
  obtain ⟨r15, e14, hf⟩ := ob_some hf
  refine hp_calli (va_runV (As := [.int v1, .int v2, .int v3]) (rest := []) ⟨hx, hb, hml, hown, hts⟩ (ok_X0_isWon l D cy ad M0 _ v0 v1 v2 v3 r15 a0 e14) (cwV 3 hts (gdV q460 q462 q33 q88 q463) rfl rfl rfl (by decide +kernel) ⟨Nat.le_of_ble_eq_true rfl, Nat.le_of_ble_eq_true rfl⟩) (pre_V hP hK hN a0 ds_7 rfl) rfl rfl hl.1 rfl (lv_room (Nat.le_of_ble_eq_true rfl)) dX0_dividendOf_4 ⟨Nat.le_of_ble_eq_true rfl, Nat.le_of_ble_eq_true rfl⟩) hP hS hA (fun H locs hP hS _ => ?_)
  refine lv_if_eq (tgt := 24) hx hb dX0_dividendOf_7 (by decide) (fun c18 => ?_) (fun c18 => ?_)
  · have hf := if_t hf c18
    refine lv_lconst (v := (0 : Int64)) hx hb dX0_dividendOf_24 (by decide) ?_
    exact hp_lret hx hb hr hlocks (Option.some.inj hf) rfl hP hS keep_rf dX0_dividendOf_25
  · have hf := if_f hf c18
    refine lv_aload_n hx hb dX0_dividendOf_10 rfl (lv_at hl 0 rfl) ?_
    refine lv_aload_n hx hb dX0_dividendOf_11 rfl (lv_at hl 0 rfl) ?_
    refine lv_iload_n hx hb dX0_dividendOf_12 rfl (lv_at hl 1 rfl) ?_
    refine lv_iload_n hx hb dX0_dividendOf_13 rfl (lv_at hl 2 rfl) ?_
    refine lv_iload_n hx hb dX0_dividendOf_14 rfl (lv_at hl 3 rfl) ?_
    obtain ⟨r20, e19, hf⟩ := ob_some hf
    refine hp_calll (va_runV (As := [.int v1, .int v2, .int v3]) (rest := [.ref (ad 7 v0)]) ⟨hx, hb, hml, hown, hts⟩ (ok_X0_unitsOn l D cy ad M0 _ v0 v1 v2 v3 r20 a0 e19) (cwV 3 hts (gdV q501 q365 q15 q88 q366) rfl rfl rfl (by decide +kernel) ⟨Nat.le_of_ble_eq_true rfl, Nat.le_of_ble_eq_true rfl⟩) (pre_V hP hK hN a0 ds_7 rfl) rfl rfl hl.1 rfl (lv_room (Nat.le_of_ble_eq_true rfl)) dX0_dividendOf_15 ⟨Nat.le_of_ble_eq_true rfl, Nat.le_of_ble_eq_true rfl⟩) hP hS hA (fun H locs hP hS _ => ?_)
    obtain ⟨r24, e23, hf⟩ := ob_some hf
    refine hp_calll (va_runV (As := [.long r20]) (rest := []) ⟨hx, hb, hml, hown, hts⟩ (ok_X0_dividendOn l D cy ad M0 _ v0 r20 r24 a0 e23) (cwV 1 hts (gdV q502 q504 q42 q88 q505) rfl rfl rfl (by decide +kernel) ⟨Nat.le_of_ble_eq_true rfl, Nat.le_of_ble_eq_true rfl⟩) (pre_V hP hK hN a0 ds_7 rfl) rfl rfl hl.1 rfl (lv_room (Nat.le_of_ble_eq_true rfl)) dX0_dividendOf_18 ⟨Nat.le_of_ble_eq_true rfl, Nat.le_of_ble_eq_true rfl⟩) hP hS hA (fun H locs hP hS _ => ?_)
    refine lv_goto (tgt := 25) hx hb dX0_dividendOf_21 (by decide) ?_
    exact hp_lret hx hb hr hlocks (Option.some.inj hf) rfl hP hS keep_rf dX0_dividendOf_25
def f_X0_centsThatAre_8 (M0 : Mm) : Nat → Int32 → Int64 → Option Nat → Option Int64
  | 0, _, _, _ => none
  | n + 1, v1, v2, v4 => on v4 (some v2) fun i16 => if (mI M0 8 i16 6) = v1 then (ob (f_X2_cost i16 M0) fun r21 => lt (v2 + r21) fun x24 => f_X0_centsThatAre_8 M0 n v1 x24 (mR M0 8 i16 1)) else (f_X0_centsThatAre_8 M0 n v1 v2 (mR M0 8 i16 1))
def f_X0_centsThatAre (v0 : Nat) (v1 : Int32) (M0 : Mm) : Option Int64 :=
  f_X0_centsThatAre_8 M0 FU v1 (0 : Int64) (mR M0 7 v0 5)
set_option maxRecDepth 100000 in
set_option maxHeartbeats 4000000 in
theorem t_X0_centsThatAre_8 {p : Program} {l : Launch} {e : Env} {s : State} {m : MethodId} {args : Array Value} {below : List Frame} {meth : Method} {c : Code} {D : va_G} {cy : Nat → ClassId} {ad : Nat → Nat → Nat} {M0 : Mm} {r0 : Int64} (C : Cx RX0 cX0_centsThatAre 5 (some .long) D cy (AA ad M0 s.heap.size) p s m args meth c) : ∀ (n : Nat), ∀ (v1 : Int32) (v2 : Int64) (v4 : Option Nat) (H : Heap) (locs : List Loc) (ls : Array Slot), (∀ j : Nat, v4 = some j → mA M0 8 j = true) → f_X0_centsThatAre_8 M0 n v1 v2 v4 = some r0 → HP D cy (AA ad M0 s.heap.size) ad M0 H → va_S (AA ad M0 s.heap.size) s.heap H locs → lv_has ls 5 [(1, .int v1), (2, .long v2), (4, va_rf (v4.map (ad 8)))] → W p l e { frames := 1, cells := 0, slots := 0, locals := 20 } s m args below meth c H locs 0 0 (MQ below (QJ D cy ad M0 s.heap.size r0 M0) args s 0 0 (AA ad M0 s.heap.size)) (F0 m 8 ls []) := by
  obtain ⟨hx, hb, hr, hml, hown, hts, hlocks, hK, hN, hA⟩ := id C
  intro n
  induction n with
  | zero =>
    intro v1 v2 v4 H locs ls a4 hf hP hS hl
    simp [f_X0_centsThatAre_8] at hf
  | succ n ih =>
    intro v1 v2 v4 H locs ls a4 hf hP hS hl
    rw [f_X0_centsThatAre_8] at hf
    refine hp_aload (r := (v4).map (ad 8)) hx hb dX0_centsThatAre_8 (lv_at hl 2 rfl) ?_
    rcases on_c hf with ⟨e15, hf⟩ | ⟨i16, e15, hf⟩
    · refine W_top (y := .null) (by rw [e15]; rfl) ?_
      refine lv_ifnullN (tgt := 40) hx hb dX0_centsThatAre_10 (by decide) ?_
      refine lv_lload_n hx hb dX0_centsThatAre_40 rfl (lv_at hl 1 rfl) ?_
      exact hp_lret hx hb hr hlocks (Option.some.inj hf) rfl hP hS keep_rf dX0_centsThatAre_41
    · have h17 : mA M0 8 i16 = true := a4 i16 e15
      rw [e15] at hl
      have hl : lv_has ls 5 [(1, .int v1), (2, .long v2), (4, .ref (ad 8 i16))] := hl
      refine W_stk (st := [va_rf ((v4).map (ad 8))]) (st' := [.ref (ad 8 i16)]) (by first | (rw [e15]; done) | (rw [e15]; rfl)) ?_
      refine lv_ifnull hx hb dX0_centsThatAre_10 ?_
      refine lv_aload hx hb dX0_centsThatAre_13 (lv_at hl 2 rfl) ?_
      refine gf8N (v := .int (mI M0 8 i16 6)) hx hb hts hown hK hP h17 6 (by decide) (va_Nw.use rfl (hN.1 (RX0, 84, "ToteHouse$Ticket", "state", "I", RX3) (List.mem_of_getElem? (i := 31) rfl))) rfl rfl dX0_centsThatAre_15 ?_
      refine lv_iload_n hx hb dX0_centsThatAre_18 rfl (lv_at hl 0 rfl) ?_
      refine lv_icmp_ne (tgt := 30) hx hb dX0_centsThatAre_19 (by decide) (fun c18 => ?_) (fun c18 => ?_)
      · have hf := if_f hf c18
        refine lv_aload hx hb dX0_centsThatAre_30 (lv_at hl 2 rfl) ?_
        have h19 : ∀ j : Nat, (mR M0 8 i16 1) = some j → mA M0 8 j = true := fun j hj => hp_wf hP h17 hj
        refine gf8N (v := va_rf (((mR M0 8 i16 1)).map (ad 8))) hx hb hts hown hK hP h17 1 (by decide) (va_Nw.use rfl (hN.1 (RX0, 85, "ToteHouse$Ticket", "earlier", "LToteHouse$Ticket;", RX3) (List.mem_of_getElem? (i := 21) rfl))) rfl rfl dX0_centsThatAre_32 ?_
        refine hp_astore (r := ((mR M0 8 i16 1)).map (ad 8)) (lv' := [(4, va_rf (((mR M0 8 i16 1)).map (ad 8))), (1, .int v1), (2, .long v2)]) hx hb dX0_centsThatAre_35 hl (by decide) rfl (fun ls hl => ?_)
        refine lv_goto (tgt := 8) hx hb dX0_centsThatAre_37 (by decide) ?_
        exact ih v1 v2 (mR M0 8 i16 1) _ _ _ h19 hf hP hS (lv_sub hl [1, 2, 0] rfl)
      · have hf := if_t hf c18
        refine lv_lload_n hx hb dX0_centsThatAre_22 rfl (lv_at hl 1 rfl) ?_
        refine lv_aload hx hb dX0_centsThatAre_23 (lv_at hl 2 rfl) ?_
        obtain ⟨r21, e20, hf⟩ := ob_some hf
        refine hp_calll (va_runVN (As := []) (rest := [.long v2]) ⟨hx, hb, hml, hown, hts⟩ (ok_X2_cost l D cy ad M0 _ i16 r21 h17 e20) ⟨va_cnB 0 hts (gd0 q390) rfl rfl rfl (hN.2.1 (RX0, 101, yX2_cost, RX3) (List.mem_of_getElem? (i := 34) rfl)) (hts _ q89) (by decide +kernel) ⟨Nat.le_of_ble_eq_true rfl, Nat.le_of_ble_eq_true rfl⟩, hts _ q389, hts _ q20⟩ (pre_V hP hK hN h17 ds_8 rfl) rfl rfl hl.1 rfl (lv_room (Nat.le_of_ble_eq_true rfl)) dX0_centsThatAre_25 ⟨Nat.le_of_ble_eq_true rfl, Nat.le_of_ble_eq_true rfl⟩) hP hS hA (fun H locs hP hS _ => ?_)
        refine lv_ladd hx hb dX0_centsThatAre_28 ?_
        obtain ⟨x24, e25, hf⟩ := lt_some hf
        refine W_topJ e25 ?_
        refine lv_lstore_n (lv' := [(2, .long x24), (1, .int v1), (4, .ref (ad 8 i16))]) hx hb dX0_centsThatAre_29 rfl hl (by decide) rfl (fun ls hl => ?_)
        refine lv_aload hx hb dX0_centsThatAre_30 (lv_at hl 2 rfl) ?_
        have h26 : ∀ j : Nat, (mR M0 8 i16 1) = some j → mA M0 8 j = true := fun j hj => hp_wf hP h17 hj
        refine gf8N (v := va_rf (((mR M0 8 i16 1)).map (ad 8))) hx hb hts hown hK hP h17 1 (by decide) (va_Nw.use rfl (hN.1 (RX0, 85, "ToteHouse$Ticket", "earlier", "LToteHouse$Ticket;", RX3) (List.mem_of_getElem? (i := 21) rfl))) rfl rfl dX0_centsThatAre_32 ?_
        refine hp_astore (r := ((mR M0 8 i16 1)).map (ad 8)) (lv' := [(4, va_rf (((mR M0 8 i16 1)).map (ad 8))), (2, .long x24), (1, .int v1)]) hx hb dX0_centsThatAre_35 hl (by decide) rfl (fun ls hl => ?_)
        refine lv_goto (tgt := 8) hx hb dX0_centsThatAre_37 (by decide) ?_
        exact ih v1 x24 (mR M0 8 i16 1) _ _ _ h26 hf hP hS (lv_sub hl [2, 1, 0] rfl)
set_option maxRecDepth 100000 in
set_option maxHeartbeats 4000000 in
theorem ok_X0_centsThatAre (l : Launch) (D : va_G) (cy : Nat → ClassId) (ad : Nat → Nat → Nat) (M0 : Mm) (sz : Nat) (v0 : Nat) (v1 : Int32) (r0 : Int64) (a0 : mA M0 7 v0 = true) (hf : f_X0_centsThatAre v0 v1 M0 = some r0) : Met l yX0_centsThatAre (Cond.code yX0_centsThatAre cX0_centsThatAre 5 (some .long) :: BW) { frames := 1, cells := 0, slots := 0, locals := 20 } (va_Pc [.ref (ad 7 v0), .int v1] (PRE D cy ad M0 sz)) (QJ D cy ad M0 sz r0 M0) 0 0 (AA ad M0 sz) := by
  refine Met.ofW (cc := cX0_centsThatAre) (maxL := 5) (ret := (some .long)) (by decide) rfl ?_
  intro p e s m args below meth c s₁ B hml hv
  obtain ⟨rfl, rfl, hP0, hK, hN⟩ := hv
  have hx := B.exec
  have hb := B.bytes
  have hr := B.returns
  have hts0 := atoms_spec (ws := (Cond.code yX0_centsThatAre cX0_centsThatAre 5 (some .long) :: BW)) B.pre
  have hts : ∀ w ∈ BW, w.before ([.ref (ad 7 v0), .int v1] : List Value).toArray s = true := fun w h => hts0 w (List.mem_cons_of_mem _ h)
  have hown : s.vm.findClass RX0 = some m.cls := findClass_of_methodNamed B.named
  have hlocks := B.notSynchronized
  have hA : ∀ q : Nat, s.heap.size ≤ q → AA ad M0 s.heap.size q := fun q h => Or.inr h
  have C : Cx RX0 cX0_centsThatAre 5 (some .long) D cy (AA ad M0 s.heap.size) p s m ([.ref (ad 7 v0), .int v1] : List Value).toArray meth c := ⟨hx, hb, hr, hml, hown, hts, hlocks, hK, hN, hA⟩
  have hP := hp_self (sz := s.heap.size) hP0
  have hS : va_S (AA ad M0 s.heap.size) s.heap s.heap [] := va_S.rf
  have hl := lv_entry ([.ref (ad 7 v0), .int v1]) (n := 5) (Nat.le_of_ble_eq_true rfl)
  rw [lg_entry_eq]
  generalize (lg_sl ([.ref (ad 7 v0), .int v1]) ++ List.replicate (5 - (lg_sl ([.ref (ad 7 v0), .int v1])).length) Slot.unset).toArray = ls at hl ⊢
  have hl : lv_has ls 5 [(0, .ref (ad 7 v0)), (1, .int v1)] := hl
  unfold f_X0_centsThatAre at hf
  refine lv_lconst (v := (0 : Int64)) hx hb dX0_centsThatAre_0 (by decide) ?_
  refine lv_lstore_n (lv' := [(2, .long (0 : Int64)), (0, .ref (ad 7 v0)), (1, .int v1)]) hx hb dX0_centsThatAre_1 rfl hl (by decide) rfl (fun ls hl => ?_)
  refine lv_aload_n hx hb dX0_centsThatAre_2 rfl (lv_at hl 1 rfl) ?_
  have h14 : ∀ j : Nat, (mR M0 7 v0 5) = some j → mA M0 8 j = true := fun j hj => hp_wf hP a0 hj
  refine gf7 (v := va_rf (((mR M0 7 v0 5)).map (ad 8))) hx hb hts hown hK hP a0 5 (by decide) (hts _ q184) rfl rfl dX0_centsThatAre_3 ?_
  refine hp_astore (r := ((mR M0 7 v0 5)).map (ad 8)) (lv' := [(4, va_rf (((mR M0 7 v0 5)).map (ad 8))), (2, .long (0 : Int64)), (0, .ref (ad 7 v0)), (1, .int v1)]) hx hb dX0_centsThatAre_6 hl (by decide) rfl (fun ls hl => ?_)
  exact t_X0_centsThatAre_8 C FU v1 (0 : Int64) (mR M0 7 v0 5) _ _ _ h14 hf hP hS (lv_sub hl [3, 1, 0] rfl)

def f_X0_stakedCents (v0 : Nat) (M0 : Mm) : Option Int64 :=
  ob (f_X0_stakeAtRisk v0 M0) fun r10 => ob (f_X0_centsThatAre v0 (2 : Int32) M0) fun r14 => some (r10 + r14)
set_option maxRecDepth 100000 in
set_option maxHeartbeats 4000000 in
theorem ok_X0_stakedCents (l : Launch) (D : va_G) (cy : Nat → ClassId) (ad : Nat → Nat → Nat) (M0 : Mm) (sz : Nat) (v0 : Nat) (r0 : Int64) (a0 : mA M0 7 v0 = true) (hf : f_X0_stakedCents v0 M0 = some r0) : Met l yX0_stakedCents (Cond.code yX0_stakedCents cX0_stakedCents 1 (some .long) :: BW) { frames := 3, cells := 0, slots := 0, locals := 63 } (va_Pc [.ref (ad 7 v0)] (PRE D cy ad M0 sz)) (QJ D cy ad M0 sz r0 M0) 0 0 (AA ad M0 sz) := by
  refine Met.ofW (cc := cX0_stakedCents) (maxL := 1) (ret := (some .long)) (by decide) rfl ?_
  intro p e s m args below meth c s₁ B hml hv
  obtain ⟨rfl, rfl, hP0, hK, hN⟩ := hv
  have hx := B.exec
  have hb := B.bytes
  have hr := B.returns
  have hts0 := atoms_spec (ws := (Cond.code yX0_stakedCents cX0_stakedCents 1 (some .long) :: BW)) B.pre
  have hts : ∀ w ∈ BW, w.before ([.ref (ad 7 v0)] : List Value).toArray s = true := fun w h => hts0 w (List.mem_cons_of_mem _ h)
  have hown : s.vm.findClass RX0 = some m.cls := findClass_of_methodNamed B.named
  have hlocks := B.notSynchronized
  have hA : ∀ q : Nat, s.heap.size ≤ q → AA ad M0 s.heap.size q := fun q h => Or.inr h
  have C : Cx RX0 cX0_stakedCents 1 (some .long) D cy (AA ad M0 s.heap.size) p s m ([.ref (ad 7 v0)] : List Value).toArray meth c := ⟨hx, hb, hr, hml, hown, hts, hlocks, hK, hN, hA⟩
  have hP := hp_self (sz := s.heap.size) hP0
  have hS : va_S (AA ad M0 s.heap.size) s.heap s.heap [] := va_S.rf
  have hl := lv_entry ([.ref (ad 7 v0)]) (n := 1) (Nat.le_of_ble_eq_true rfl)
  rw [lg_entry_eq]
  generalize (lg_sl ([.ref (ad 7 v0)]) ++ List.replicate (1 - (lg_sl ([.ref (ad 7 v0)])).length) Slot.unset).toArray = ls at hl ⊢
  have hl : lv_has ls 1 [(0, .ref (ad 7 v0))] := hl
  unfold f_X0_stakedCents at hf
  refine lv_aload_n hx hb dX0_stakedCents_0 rfl (lv_at hl 0 rfl) ?_
  obtain ⟨r10, e9, hf⟩ := ob_some hf
  refine hp_calll (va_runV (As := []) (rest := []) ⟨hx, hb, hml, hown, hts⟩ (ok_X0_stakeAtRisk l D cy ad M0 _ v0 r10 a0 e9) (cwV 0 hts (gdV q481 q483 q38 q88 q484) rfl rfl rfl (by decide +kernel) ⟨Nat.le_of_ble_eq_true rfl, Nat.le_of_ble_eq_true rfl⟩) (pre_V hP hK hN a0 ds_7 rfl) rfl rfl hl.1 rfl (lv_room (Nat.le_of_ble_eq_true rfl)) dX0_stakedCents_1 ⟨Nat.le_of_ble_eq_true rfl, Nat.le_of_ble_eq_true rfl⟩) hP hS hA (fun H locs hP hS _ => ?_)
  refine lv_aload_n hx hb dX0_stakedCents_4 rfl (lv_at hl 0 rfl) ?_
  refine lv_iconst (v := (2 : Int32)) hx hb dX0_stakedCents_5 (by decide) ?_
  obtain ⟨r14, e13, hf⟩ := ob_some hf
  refine hp_calll (va_runV (As := [.int (2 : Int32)]) (rest := [.long r10]) ⟨hx, hb, hml, hown, hts⟩ (ok_X0_centsThatAre l D cy ad M0 _ v0 (2 : Int32) r14 a0 e13) (cwV 1 hts (gdV q565 q567 q50 q88 q568) rfl rfl rfl (by decide +kernel) ⟨Nat.le_of_ble_eq_true rfl, Nat.le_of_ble_eq_true rfl⟩) (pre_V hP hK hN a0 ds_7 rfl) rfl rfl hl.1 rfl (lv_room (Nat.le_of_ble_eq_true rfl)) dX0_stakedCents_6 ⟨Nat.le_of_ble_eq_true rfl, Nat.le_of_ble_eq_true rfl⟩) hP hS hA (fun H locs hP hS _ => ?_)
  refine lv_ladd hx hb dX0_stakedCents_9 ?_
  exact hp_lret hx hb hr hlocks (Option.some.inj hf) rfl hP hS keep_rf dX0_stakedCents_10

def f_X0_moneyIn (v0 : Nat) (M0 : Mm) : Option Int64 :=
  ob (f_X0_stakedCents v0 M0) fun r6 => some ((r6 + (mJ M0 7 v0 14)) + (mJ M0 7 v0 13))
set_option maxRecDepth 100000 in
set_option maxHeartbeats 4000000 in
theorem ok_X0_moneyIn (l : Launch) (D : va_G) (cy : Nat → ClassId) (ad : Nat → Nat → Nat) (M0 : Mm) (sz : Nat) (v0 : Nat) (r0 : Int64) (a0 : mA M0 7 v0 = true) (hf : f_X0_moneyIn v0 M0 = some r0) : Met l yX0_moneyIn (Cond.code yX0_moneyIn cX0_moneyIn 1 (some .long) :: BW) { frames := 4, cells := 0, slots := 0, locals := 83 } (va_Pc [.ref (ad 7 v0)] (PRE D cy ad M0 sz)) (QJ D cy ad M0 sz r0 M0) 0 0 (AA ad M0 sz) := by
  refine Met.ofW (cc := cX0_moneyIn) (maxL := 1) (ret := (some .long)) (by decide) rfl ?_
  intro p e s m args below meth c s₁ B hml hv
  obtain ⟨rfl, rfl, hP0, hK, hN⟩ := hv
  have hx := B.exec
  have hb := B.bytes
  have hr := B.returns
  have hts0 := atoms_spec (ws := (Cond.code yX0_moneyIn cX0_moneyIn 1 (some .long) :: BW)) B.pre
  have hts : ∀ w ∈ BW, w.before ([.ref (ad 7 v0)] : List Value).toArray s = true := fun w h => hts0 w (List.mem_cons_of_mem _ h)
  have hown : s.vm.findClass RX0 = some m.cls := findClass_of_methodNamed B.named
  have hlocks := B.notSynchronized
  have hA : ∀ q : Nat, s.heap.size ≤ q → AA ad M0 s.heap.size q := fun q h => Or.inr h
  have C : Cx RX0 cX0_moneyIn 1 (some .long) D cy (AA ad M0 s.heap.size) p s m ([.ref (ad 7 v0)] : List Value).toArray meth c := ⟨hx, hb, hr, hml, hown, hts, hlocks, hK, hN, hA⟩
  have hP := hp_self (sz := s.heap.size) hP0
  have hS : va_S (AA ad M0 s.heap.size) s.heap s.heap [] := va_S.rf
  have hl := lv_entry ([.ref (ad 7 v0)]) (n := 1) (Nat.le_of_ble_eq_true rfl)
  rw [lg_entry_eq]
  generalize (lg_sl ([.ref (ad 7 v0)]) ++ List.replicate (1 - (lg_sl ([.ref (ad 7 v0)])).length) Slot.unset).toArray = ls at hl ⊢
  have hl : lv_has ls 1 [(0, .ref (ad 7 v0))] := hl
  unfold f_X0_moneyIn at hf
  refine lv_aload_n hx hb dX0_moneyIn_0 rfl (lv_at hl 0 rfl) ?_
  obtain ⟨r6, e5, hf⟩ := ob_some hf
  refine hp_calll (va_runV (As := []) (rest := []) ⟨hx, hb, hml, hown, hts⟩ (ok_X0_stakedCents l D cy ad M0 _ v0 r6 a0 e5) (cwV 0 hts (gdV q594 q563 q49 q88 q564) rfl rfl rfl (by decide +kernel) ⟨Nat.le_of_ble_eq_true rfl, Nat.le_of_ble_eq_true rfl⟩) (pre_V hP hK hN a0 ds_7 rfl) rfl rfl hl.1 rfl (lv_room (Nat.le_of_ble_eq_true rfl)) dX0_moneyIn_1 ⟨Nat.le_of_ble_eq_true rfl, Nat.le_of_ble_eq_true rfl⟩) hP hS hA (fun H locs hP hS _ => ?_)
  refine lv_aload_n hx hb dX0_moneyIn_4 rfl (lv_at hl 0 rfl) ?_
  refine gf7 (v := .long (mJ M0 7 v0 14)) hx hb hts hown hK hP a0 14 (by decide) (hts _ q200) rfl rfl dX0_moneyIn_5 ?_
  refine lv_ladd hx hb dX0_moneyIn_8 ?_
  refine lv_aload_n hx hb dX0_moneyIn_9 rfl (lv_at hl 0 rfl) ?_
  refine gf7 (v := .long (mJ M0 7 v0 13)) hx hb hts hown hK hP a0 13 (by decide) (hts _ q198) rfl rfl dX0_moneyIn_10 ?_
  refine lv_ladd hx hb dX0_moneyIn_13 ?_
  exact hp_lret hx hb hr hlocks (Option.some.inj hf) rfl hP hS keep_rf dX0_moneyIn_14

def f_X0_moneyOut (v0 : Nat) (M0 : Mm) : Option Int64 :=
  ob (f_X0_centsThatAre v0 (2 : Int32) M0) fun r6 => some ((((r6 + (mJ M0 7 v0 10)) + (mJ M0 7 v0 11)) + (mJ M0 7 v0 12)) + (mJ M0 7 v0 15))
set_option maxRecDepth 100000 in
set_option maxHeartbeats 4000000 in
theorem ok_X0_moneyOut (l : Launch) (D : va_G) (cy : Nat → ClassId) (ad : Nat → Nat → Nat) (M0 : Mm) (sz : Nat) (v0 : Nat) (r0 : Int64) (a0 : mA M0 7 v0 = true) (hf : f_X0_moneyOut v0 M0 = some r0) : Met l yX0_moneyOut (Cond.code yX0_moneyOut cX0_moneyOut 1 (some .long) :: BW) { frames := 2, cells := 0, slots := 0, locals := 44 } (va_Pc [.ref (ad 7 v0)] (PRE D cy ad M0 sz)) (QJ D cy ad M0 sz r0 M0) 0 0 (AA ad M0 sz) := by
  refine Met.ofW (cc := cX0_moneyOut) (maxL := 1) (ret := (some .long)) (by decide) rfl ?_
  intro p e s m args below meth c s₁ B hml hv
  obtain ⟨rfl, rfl, hP0, hK, hN⟩ := hv
  have hx := B.exec
  have hb := B.bytes
  have hr := B.returns
  have hts0 := atoms_spec (ws := (Cond.code yX0_moneyOut cX0_moneyOut 1 (some .long) :: BW)) B.pre
  have hts : ∀ w ∈ BW, w.before ([.ref (ad 7 v0)] : List Value).toArray s = true := fun w h => hts0 w (List.mem_cons_of_mem _ h)
  have hown : s.vm.findClass RX0 = some m.cls := findClass_of_methodNamed B.named
  have hlocks := B.notSynchronized
  have hA : ∀ q : Nat, s.heap.size ≤ q → AA ad M0 s.heap.size q := fun q h => Or.inr h
  have C : Cx RX0 cX0_moneyOut 1 (some .long) D cy (AA ad M0 s.heap.size) p s m ([.ref (ad 7 v0)] : List Value).toArray meth c := ⟨hx, hb, hr, hml, hown, hts, hlocks, hK, hN, hA⟩
  have hP := hp_self (sz := s.heap.size) hP0
  have hS : va_S (AA ad M0 s.heap.size) s.heap s.heap [] := va_S.rf
  have hl := lv_entry ([.ref (ad 7 v0)]) (n := 1) (Nat.le_of_ble_eq_true rfl)
  rw [lg_entry_eq]
  generalize (lg_sl ([.ref (ad 7 v0)]) ++ List.replicate (1 - (lg_sl ([.ref (ad 7 v0)])).length) Slot.unset).toArray = ls at hl ⊢
  have hl : lv_has ls 1 [(0, .ref (ad 7 v0))] := hl
  unfold f_X0_moneyOut at hf
  refine lv_aload_n hx hb dX0_moneyOut_0 rfl (lv_at hl 0 rfl) ?_
  refine lv_iconst (v := (2 : Int32)) hx hb dX0_moneyOut_1 (by decide) ?_
  obtain ⟨r6, e5, hf⟩ := ob_some hf
  refine hp_calll (va_runV (As := [.int (2 : Int32)]) (rest := []) ⟨hx, hb, hml, hown, hts⟩ (ok_X0_centsThatAre l D cy ad M0 _ v0 (2 : Int32) r6 a0 e5) (cwV 1 hts (gdV q565 q567 q50 q88 q568) rfl rfl rfl (by decide +kernel) ⟨Nat.le_of_ble_eq_true rfl, Nat.le_of_ble_eq_true rfl⟩) (pre_V hP hK hN a0 ds_7 rfl) rfl rfl hl.1 rfl (lv_room (Nat.le_of_ble_eq_true rfl)) dX0_moneyOut_2 ⟨Nat.le_of_ble_eq_true rfl, Nat.le_of_ble_eq_true rfl⟩) hP hS hA (fun H locs hP hS _ => ?_)
  refine lv_aload_n hx hb dX0_moneyOut_5 rfl (lv_at hl 0 rfl) ?_
  refine gf7 (v := .long (mJ M0 7 v0 10)) hx hb hts hown hK hP a0 10 (by decide) (hts _ q192) rfl rfl dX0_moneyOut_6 ?_
  refine lv_ladd hx hb dX0_moneyOut_9 ?_
  refine lv_aload_n hx hb dX0_moneyOut_10 rfl (lv_at hl 0 rfl) ?_
  refine gf7 (v := .long (mJ M0 7 v0 11)) hx hb hts hown hK hP a0 11 (by decide) (hts _ q194) rfl rfl dX0_moneyOut_11 ?_
  refine lv_ladd hx hb dX0_moneyOut_14 ?_
  refine lv_aload_n hx hb dX0_moneyOut_15 rfl (lv_at hl 0 rfl) ?_
  refine gf7 (v := .long (mJ M0 7 v0 12)) hx hb hts hown hK hP a0 12 (by decide) (hts _ q196) rfl rfl dX0_moneyOut_16 ?_
  refine lv_ladd hx hb dX0_moneyOut_19 ?_
  refine lv_aload_n hx hb dX0_moneyOut_20 rfl (lv_at hl 0 rfl) ?_
  refine gf7 (v := .long (mJ M0 7 v0 15)) hx hb hts hown hK hP a0 15 (by decide) (hts _ q202) rfl rfl dX0_moneyOut_21 ?_
  refine lv_ladd hx hb dX0_moneyOut_24 ?_
  exact hp_lret hx hb hr hlocks (Option.some.inj hf) rfl hP hS keep_rf dX0_moneyOut_25
