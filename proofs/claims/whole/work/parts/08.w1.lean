/-! ===== walks of Race and Ticket: by program out of the bytecode ===== -/

def f_X1_hasRunner (v0 : Nat) (v1 : Int32) (M0 : Mm) : Option Int32 :=
  if v1 < (1 : Int32) then (some (0 : Int32)) else (if (mI M0 4 v0 1) < v1 then (some (0 : Int32)) else (some (1 : Int32)))
set_option maxRecDepth 100000 in
set_option maxHeartbeats 4000000 in
theorem ok_X1_hasRunner (l : Launch) (D : va_G) (cy : Nat → ClassId) (ad : Nat → Nat → Nat) (M0 : Mm) (sz : Nat) (v0 : Nat) (v1 : Int32) (r0 : Int32) (a0 : mA M0 4 v0 = true) (hf : f_X1_hasRunner v0 v1 M0 = some r0) : Met l yX1_hasRunner (Cond.code yX1_hasRunner cX1_hasRunner 2 (some .boolean) :: BW) { frames := 0, cells := 0, slots := 0, locals := 0 } (va_Pc [.ref (ad 4 v0), .int v1] (PRE D cy ad M0 sz)) (QI D cy ad M0 sz r0 M0) 0 0 (AA ad M0 sz) := by
  refine Met.ofW (cc := cX1_hasRunner) (maxL := 2) (ret := (some .boolean)) (by decide) rfl ?_
  intro p e s m args below meth c s₁ B hml hv
  obtain ⟨rfl, rfl, hP0, hK, hN⟩ := hv
  have hx := B.exec
  have hb := B.bytes
  have hr := B.returns
  have hts0 := atoms_spec (ws := (Cond.code yX1_hasRunner cX1_hasRunner 2 (some .boolean) :: BW)) B.pre
  have hts : ∀ w ∈ BW, w.before ([.ref (ad 4 v0), .int v1] : List Value).toArray s = true := fun w h => hts0 w (List.mem_cons_of_mem _ h)
  have hown : s.vm.findClass RX1 = some m.cls := findClass_of_methodNamed B.named
  have hlocks := B.notSynchronized
  have hA : ∀ q : Nat, s.heap.size ≤ q → AA ad M0 s.heap.size q := fun q h => Or.inr h
  have C : Cx RX1 cX1_hasRunner 2 (some .boolean) D cy (AA ad M0 s.heap.size) p s m ([.ref (ad 4 v0), .int v1] : List Value).toArray meth c := ⟨hx, hb, hr, hml, hown, hts, hlocks, hK, hN, hA⟩
  have hP := hp_self (sz := s.heap.size) hP0
  have hS : va_S (AA ad M0 s.heap.size) s.heap s.heap [] := va_S.rf
  have hl := lv_entry ([.ref (ad 4 v0), .int v1]) (n := 2) (Nat.le_of_ble_eq_true rfl)
  rw [lg_entry_eq]
  generalize (lg_sl ([.ref (ad 4 v0), .int v1]) ++ List.replicate (2 - (lg_sl ([.ref (ad 4 v0), .int v1])).length) Slot.unset).toArray = ls at hl ⊢
  have hl : lv_has ls 2 [(0, .ref (ad 4 v0)), (1, .int v1)] := hl
  unfold f_X1_hasRunner at hf
  refine lv_iload_n hx hb dX1_hasRunner_0 rfl (lv_at hl 1 rfl) ?_
  refine lv_iconst (v := (1 : Int32)) hx hb dX1_hasRunner_1 (by decide) ?_
  refine lv_icmp_lt (tgt := 17) hx hb dX1_hasRunner_2 (by decide) (fun c3 => ?_) (fun c3 => ?_)
  · have hf := if_t hf c3
    refine lv_iconst (v := (0 : Int32)) hx hb dX1_hasRunner_17 (by decide) ?_
    exact hp_zret hx hb hr hlocks (Or.inl rfl) (Option.some.inj hf) rfl hP hS keep_rf dX1_hasRunner_18
  · have hf := if_f hf c3
    refine lv_iload_n hx hb dX1_hasRunner_5 rfl (lv_at hl 1 rfl) ?_
    refine lv_aload_n hx hb dX1_hasRunner_6 rfl (lv_at hl 0 rfl) ?_
    refine gf4 (v := .int (mI M0 4 v0 1)) hx hb hts hown hK hP a0 1 (by decide) (hts _ q132) rfl rfl dX1_hasRunner_7 ?_
    refine lv_icmp_gt (tgt := 17) hx hb dX1_hasRunner_10 (by decide) (fun c4 => ?_) (fun c4 => ?_)
    · have hf := if_t hf c4
      refine lv_iconst (v := (0 : Int32)) hx hb dX1_hasRunner_17 (by decide) ?_
      exact hp_zret hx hb hr hlocks (Or.inl rfl) (Option.some.inj hf) rfl hP hS keep_rf dX1_hasRunner_18
    · have hf := if_f hf c4
      refine lv_iconst (v := (1 : Int32)) hx hb dX1_hasRunner_13 (by decide) ?_
      refine lv_goto (tgt := 18) hx hb dX1_hasRunner_14 (by decide) ?_
      exact hp_zret hx hb hr hlocks (Or.inr rfl) (Option.some.inj hf) rfl hP hS keep_rf dX1_hasRunner_18

def f_X1_positionOf (v0 : Nat) (v1 : Int32) (M0 : Mm) : Option Int32 :=
  if v1 < 0 then (some (0 : Int32)) else (ob (mR M0 4 v0 2) fun i14 => if v1 < (25 : Int32) then (ob (mR M0 4 v0 2) fun i19 => ix v1 25 (some (mI M0 5 i19 (v1).toNatClampNeg))) else (some (0 : Int32)))
set_option maxRecDepth 100000 in
set_option maxHeartbeats 4000000 in
theorem ok_X1_positionOf (l : Launch) (D : va_G) (cy : Nat → ClassId) (ad : Nat → Nat → Nat) (M0 : Mm) (sz : Nat) (v0 : Nat) (v1 : Int32) (r0 : Int32) (a0 : mA M0 4 v0 = true) (hf : f_X1_positionOf v0 v1 M0 = some r0) : Met l yX1_positionOf (Cond.code yX1_positionOf cX1_positionOf 2 (some .int) :: BW) { frames := 0, cells := 0, slots := 0, locals := 0 } (va_Pc [.ref (ad 4 v0), .int v1] (PRE D cy ad M0 sz)) (QI D cy ad M0 sz r0 M0) 0 0 (AA ad M0 sz) := by
  refine Met.ofW (cc := cX1_positionOf) (maxL := 2) (ret := (some .int)) (by decide) rfl ?_
  intro p e s m args below meth c s₁ B hml hv
  obtain ⟨rfl, rfl, hP0, hK, hN⟩ := hv
  have hx := B.exec
  have hb := B.bytes
  have hr := B.returns
  have hts0 := atoms_spec (ws := (Cond.code yX1_positionOf cX1_positionOf 2 (some .int) :: BW)) B.pre
  have hts : ∀ w ∈ BW, w.before ([.ref (ad 4 v0), .int v1] : List Value).toArray s = true := fun w h => hts0 w (List.mem_cons_of_mem _ h)
  have hown : s.vm.findClass RX1 = some m.cls := findClass_of_methodNamed B.named
  have hlocks := B.notSynchronized
  have hA : ∀ q : Nat, s.heap.size ≤ q → AA ad M0 s.heap.size q := fun q h => Or.inr h
  have C : Cx RX1 cX1_positionOf 2 (some .int) D cy (AA ad M0 s.heap.size) p s m ([.ref (ad 4 v0), .int v1] : List Value).toArray meth c := ⟨hx, hb, hr, hml, hown, hts, hlocks, hK, hN, hA⟩
  have hP := hp_self (sz := s.heap.size) hP0
  have hS : va_S (AA ad M0 s.heap.size) s.heap s.heap [] := va_S.rf
  have hl := lv_entry ([.ref (ad 4 v0), .int v1]) (n := 2) (Nat.le_of_ble_eq_true rfl)
  rw [lg_entry_eq]
  generalize (lg_sl ([.ref (ad 4 v0), .int v1]) ++ List.replicate (2 - (lg_sl ([.ref (ad 4 v0), .int v1])).length) Slot.unset).toArray = ls at hl ⊢
  have hl : lv_has ls 2 [(0, .ref (ad 4 v0)), (1, .int v1)] := hl
  unfold f_X1_positionOf at hf
  refine lv_iload_n hx hb dX1_positionOf_0 rfl (lv_at hl 1 rfl) ?_
  refine lv_if_lt (tgt := 13) hx hb dX1_positionOf_1 (by decide) (fun c12 => ?_) (fun c12 => ?_)
  · have hf := if_t hf c12
    refine lv_iconst (v := (0 : Int32)) hx hb dX1_positionOf_13 (by decide) ?_
    refine lv_goto (tgt := 23) hx hb dX1_positionOf_14 (by decide) ?_
    exact hp_iret hx hb hr hlocks (Option.some.inj hf) rfl hP hS keep_rf dX1_positionOf_23
  · have hf := if_f hf c12
    refine lv_iload_n hx hb dX1_positionOf_4 rfl (lv_at hl 1 rfl) ?_
    refine lv_aload_n hx hb dX1_positionOf_5 rfl (lv_at hl 0 rfl) ?_
    have h13 : ∀ j : Nat, (mR M0 4 v0 2) = some j → mA M0 5 j = true := fun j hj => hp_wf hP a0 hj
    refine gf4 (v := va_rf (((mR M0 4 v0 2)).map (ad 5))) hx hb hts hown hK hP a0 2 (by decide) (hts _ q134) rfl rfl dX1_positionOf_6 ?_
    obtain ⟨i14, e15, hf⟩ := ob_some hf
    have h16 : mA M0 5 i14 = true := h13 i14 e15
    refine W_stk (st := [va_rf (((mR M0 4 v0 2)).map (ad 5)), .int v1]) (st' := [.ref (ad 5 i14), .int v1]) (by first | (rw [e15]; done) | (rw [e15]; rfl)) ?_
    refine hp_alen (v := (25 : Int32)) hx hb hK hP h16 rfl rfl (by decide) dX1_positionOf_9 ?_
    refine lv_icmp_lt (tgt := 17) hx hb dX1_positionOf_10 (by decide) (fun c17 => ?_) (fun c17 => ?_)
    · have hf := if_t hf c17
      refine lv_aload_n hx hb dX1_positionOf_17 rfl (lv_at hl 0 rfl) ?_
      have h18 : ∀ j : Nat, (mR M0 4 v0 2) = some j → mA M0 5 j = true := fun j hj => hp_wf hP a0 hj
      refine gf4 (v := va_rf (((mR M0 4 v0 2)).map (ad 5))) hx hb hts hown hK hP a0 2 (by decide) (hts _ q134) rfl rfl dX1_positionOf_18 ?_
      refine lv_iload_n hx hb dX1_positionOf_21 rfl (lv_at hl 1 rfl) ?_
      obtain ⟨i19, e20, hf⟩ := ob_some hf
      have h21 : mA M0 5 i19 = true := h18 i19 e20
      refine W_stk (st := [.int v1, va_rf (((mR M0 4 v0 2)).map (ad 5))]) (st' := [.int v1, .ref (ad 5 i19)]) (by first | (rw [e20]; done) | (rw [e20]; rfl)) ?_
      obtain ⟨h22, hf⟩ := ix_some hf
      refine hp_iald hx hb hK hP h21 rfl h22 dX1_positionOf_22 ?_
      exact hp_iret hx hb hr hlocks (Option.some.inj hf) rfl hP hS keep_rf dX1_positionOf_23
    · have hf := if_f hf c17
      refine lv_iconst (v := (0 : Int32)) hx hb dX1_positionOf_13 (by decide) ?_
      refine lv_goto (tgt := 23) hx hb dX1_positionOf_14 (by decide) ?_
      exact hp_iret hx hb hr hlocks (Option.some.inj hf) rfl hP hS keep_rf dX1_positionOf_23

def f_X1_isRunning (v0 : Nat) (v1 : Int32) (M0 : Mm) : Option Int32 :=
  ob (f_X1_hasRunner v0 v1 M0) fun r12 => if r12 = 0 then (some (0 : Int32)) else (ob (f_X1_positionOf v0 v1 M0) fun r17 => if r17 = (-1 : Int32) then (some (0 : Int32)) else (some (1 : Int32)))
set_option maxRecDepth 100000 in
set_option maxHeartbeats 4000000 in
theorem ok_X1_isRunning (l : Launch) (D : va_G) (cy : Nat → ClassId) (ad : Nat → Nat → Nat) (M0 : Mm) (sz : Nat) (v0 : Nat) (v1 : Int32) (r0 : Int32) (a0 : mA M0 4 v0 = true) (hf : f_X1_isRunning v0 v1 M0 = some r0) : Met l yX1_isRunning (Cond.code yX1_isRunning cX1_isRunning 2 (some .boolean) :: BW) { frames := 1, cells := 0, slots := 0, locals := 21 } (va_Pc [.ref (ad 4 v0), .int v1] (PRE D cy ad M0 sz)) (QI D cy ad M0 sz r0 M0) 0 0 (AA ad M0 sz) := by
  refine Met.ofW (cc := cX1_isRunning) (maxL := 2) (ret := (some .boolean)) (by decide) rfl ?_
  intro p e s m args below meth c s₁ B hml hv
  obtain ⟨rfl, rfl, hP0, hK, hN⟩ := hv
  have hx := B.exec
  have hb := B.bytes
  have hr := B.returns
  have hts0 := atoms_spec (ws := (Cond.code yX1_isRunning cX1_isRunning 2 (some .boolean) :: BW)) B.pre
  have hts : ∀ w ∈ BW, w.before ([.ref (ad 4 v0), .int v1] : List Value).toArray s = true := fun w h => hts0 w (List.mem_cons_of_mem _ h)
  have hown : s.vm.findClass RX1 = some m.cls := findClass_of_methodNamed B.named
  have hlocks := B.notSynchronized
  have hA : ∀ q : Nat, s.heap.size ≤ q → AA ad M0 s.heap.size q := fun q h => Or.inr h
  have C : Cx RX1 cX1_isRunning 2 (some .boolean) D cy (AA ad M0 s.heap.size) p s m ([.ref (ad 4 v0), .int v1] : List Value).toArray meth c := ⟨hx, hb, hr, hml, hown, hts, hlocks, hK, hN, hA⟩
  have hP := hp_self (sz := s.heap.size) hP0
  have hS : va_S (AA ad M0 s.heap.size) s.heap s.heap [] := va_S.rf
  have hl := lv_entry ([.ref (ad 4 v0), .int v1]) (n := 2) (Nat.le_of_ble_eq_true rfl)
  rw [lg_entry_eq]
  generalize (lg_sl ([.ref (ad 4 v0), .int v1]) ++ List.replicate (2 - (lg_sl ([.ref (ad 4 v0), .int v1])).length) Slot.unset).toArray = ls at hl ⊢
  have hl : lv_has ls 2 [(0, .ref (ad 4 v0)), (1, .int v1)] := hl
  unfold f_X1_isRunning at hf
  refine lv_aload_n hx hb dX1_isRunning_0 rfl (lv_at hl 0 rfl) ?_
  refine lv_iload_n hx hb dX1_isRunning_1 rfl (lv_at hl 1 rfl) ?_
  obtain ⟨r12, e11, hf⟩ := ob_some hf
  refine hp_calli (va_runV (As := [.int v1]) (rest := []) ⟨hx, hb, hml, hown, hts⟩ (ok_X1_hasRunner l D cy ad M0 _ v0 v1 r12 a0 e11) (cwV 1 hts (gdV q255 q257 q3 q87 q258) rfl rfl rfl (by decide +kernel) ⟨Nat.le_of_ble_eq_true rfl, Nat.le_of_ble_eq_true rfl⟩) (pre_V hP hK hN a0 ds_4 rfl) rfl rfl hl.1 rfl (lv_room (Nat.le_of_ble_eq_true rfl)) dX1_isRunning_2 ⟨Nat.le_of_ble_eq_true rfl, Nat.le_of_ble_eq_true rfl⟩) hP hS hA (fun H locs hP hS _ => ?_)
  refine lv_if_eq (tgt := 21) hx hb dX1_isRunning_5 (by decide) (fun c15 => ?_) (fun c15 => ?_)
  · have hf := if_t hf c15
    refine lv_iconst (v := (0 : Int32)) hx hb dX1_isRunning_21 (by decide) ?_
    exact hp_zret hx hb hr hlocks (Or.inl rfl) (Option.some.inj hf) rfl hP hS keep_rf dX1_isRunning_22
  · have hf := if_f hf c15
    refine lv_aload_n hx hb dX1_isRunning_8 rfl (lv_at hl 0 rfl) ?_
    refine lv_iload_n hx hb dX1_isRunning_9 rfl (lv_at hl 1 rfl) ?_
    obtain ⟨r17, e16, hf⟩ := ob_some hf
    refine hp_calli (va_runV (As := [.int v1]) (rest := []) ⟨hx, hb, hml, hown, hts⟩ (ok_X1_positionOf l D cy ad M0 _ v0 v1 r17 a0 e16) (cwV 1 hts (gdV q259 q261 q4 q87 q262) rfl rfl rfl (by decide +kernel) ⟨Nat.le_of_ble_eq_true rfl, Nat.le_of_ble_eq_true rfl⟩) (pre_V hP hK hN a0 ds_4 rfl) rfl rfl hl.1 rfl (lv_room (Nat.le_of_ble_eq_true rfl)) dX1_isRunning_10 ⟨Nat.le_of_ble_eq_true rfl, Nat.le_of_ble_eq_true rfl⟩) hP hS hA (fun H locs hP hS _ => ?_)
    refine lv_iconst (v := (-1 : Int32)) hx hb dX1_isRunning_13 (by decide) ?_
    refine lv_icmp_eq (tgt := 21) hx hb dX1_isRunning_14 (by decide) (fun c20 => ?_) (fun c20 => ?_)
    · have hf := if_t hf c20
      refine lv_iconst (v := (0 : Int32)) hx hb dX1_isRunning_21 (by decide) ?_
      exact hp_zret hx hb hr hlocks (Or.inl rfl) (Option.some.inj hf) rfl hP hS keep_rf dX1_isRunning_22
    · have hf := if_f hf c20
      refine lv_iconst (v := (1 : Int32)) hx hb dX1_isRunning_17 (by decide) ?_
      refine lv_goto (tgt := 22) hx hb dX1_isRunning_18 (by decide) ?_
      exact hp_zret hx hb hr hlocks (Or.inr rfl) (Option.some.inj hf) rfl hP hS keep_rf dX1_isRunning_22

def f_X2_isLive (v0 : Nat) (M0 : Mm) : Option Int32 :=
  if (mI M0 8 v0 6) = 0 then (some (1 : Int32)) else (if (mI M0 8 v0 6) = (3 : Int32) then (some (1 : Int32)) else (some (0 : Int32)))
set_option maxRecDepth 100000 in
set_option maxHeartbeats 4000000 in
theorem ok_X2_isLive (l : Launch) (D : va_G) (cy : Nat → ClassId) (ad : Nat → Nat → Nat) (M0 : Mm) (sz : Nat) (v0 : Nat) (r0 : Int32) (a0 : mA M0 8 v0 = true) (hf : f_X2_isLive v0 M0 = some r0) : Met l yX2_isLive (Cond.code yX2_isLive cX2_isLive 1 (some .boolean) :: BW) { frames := 0, cells := 0, slots := 0, locals := 0 } (va_Pc [.ref (ad 8 v0)] (PRE D cy ad M0 sz)) (QI D cy ad M0 sz r0 M0) 0 0 (AA ad M0 sz) := by
  refine Met.ofW (cc := cX2_isLive) (maxL := 1) (ret := (some .boolean)) (by decide) rfl ?_
  intro p e s m args below meth c s₁ B hml hv
  obtain ⟨rfl, rfl, hP0, hK, hN⟩ := hv
  have hx := B.exec
  have hb := B.bytes
  have hr := B.returns
  have hts0 := atoms_spec (ws := (Cond.code yX2_isLive cX2_isLive 1 (some .boolean) :: BW)) B.pre
  have hts : ∀ w ∈ BW, w.before ([.ref (ad 8 v0)] : List Value).toArray s = true := fun w h => hts0 w (List.mem_cons_of_mem _ h)
  have hown : s.vm.findClass RX2 = some m.cls := findClass_of_methodNamed B.named
  have hlocks := B.notSynchronized
  have hA : ∀ q : Nat, s.heap.size ≤ q → AA ad M0 s.heap.size q := fun q h => Or.inr h
  have C : Cx RX2 cX2_isLive 1 (some .boolean) D cy (AA ad M0 s.heap.size) p s m ([.ref (ad 8 v0)] : List Value).toArray meth c := ⟨hx, hb, hr, hml, hown, hts, hlocks, hK, hN, hA⟩
  have hP := hp_self (sz := s.heap.size) hP0
  have hS : va_S (AA ad M0 s.heap.size) s.heap s.heap [] := va_S.rf
  have hl := lv_entry ([.ref (ad 8 v0)]) (n := 1) (Nat.le_of_ble_eq_true rfl)
  rw [lg_entry_eq]
  generalize (lg_sl ([.ref (ad 8 v0)]) ++ List.replicate (1 - (lg_sl ([.ref (ad 8 v0)])).length) Slot.unset).toArray = ls at hl ⊢
  have hl : lv_has ls 1 [(0, .ref (ad 8 v0))] := hl
  unfold f_X2_isLive at hf
  refine lv_aload_n hx hb dX2_isLive_0 rfl (lv_at hl 0 rfl) ?_
  refine gf8 (v := .int (mI M0 8 v0 6)) hx hb hts hown hK hP a0 6 (by decide) (hts _ q323) rfl rfl dX2_isLive_1 ?_
  refine lv_if_eq (tgt := 15) hx hb dX2_isLive_4 (by decide) (fun c3 => ?_) (fun c3 => ?_)
  · have hf := if_t hf c3
    refine lv_iconst (v := (1 : Int32)) hx hb dX2_isLive_15 (by decide) ?_
    refine lv_goto (tgt := 20) hx hb dX2_isLive_16 (by decide) ?_
    exact hp_zret hx hb hr hlocks (Or.inr rfl) (Option.some.inj hf) rfl hP hS keep_rf dX2_isLive_20
  · have hf := if_f hf c3
    refine lv_aload_n hx hb dX2_isLive_7 rfl (lv_at hl 0 rfl) ?_
    refine gf8 (v := .int (mI M0 8 v0 6)) hx hb hts hown hK hP a0 6 (by decide) (hts _ q323) rfl rfl dX2_isLive_8 ?_
    refine lv_iconst (v := (3 : Int32)) hx hb dX2_isLive_11 (by decide) ?_
    refine lv_icmp_ne (tgt := 19) hx hb dX2_isLive_12 (by decide) (fun c4 => ?_) (fun c4 => ?_)
    · have hf := if_f hf c4
      refine lv_iconst (v := (0 : Int32)) hx hb dX2_isLive_19 (by decide) ?_
      exact hp_zret hx hb hr hlocks (Or.inl rfl) (Option.some.inj hf) rfl hP hS keep_rf dX2_isLive_20
    · have hf := if_t hf c4
      refine lv_iconst (v := (1 : Int32)) hx hb dX2_isLive_15 (by decide) ?_
      refine lv_goto (tgt := 20) hx hb dX2_isLive_16 (by decide) ?_
      exact hp_zret hx hb hr hlocks (Or.inr rfl) (Option.some.inj hf) rfl hP hS keep_rf dX2_isLive_20

def f_X2_cost (v0 : Nat) (M0 : Mm) : Option Int64 :=
  ob (mR M0 8 v0 0) fun i6 => some ((((mI M0 8 v0 2)).toInt64) * (((mI M0 7 i6 4)).toInt64))
set_option maxRecDepth 100000 in
set_option maxHeartbeats 4000000 in
theorem ok_X2_cost (l : Launch) (D : va_G) (cy : Nat → ClassId) (ad : Nat → Nat → Nat) (M0 : Mm) (sz : Nat) (v0 : Nat) (r0 : Int64) (a0 : mA M0 8 v0 = true) (hf : f_X2_cost v0 M0 = some r0) : Met l yX2_cost (Cond.code yX2_cost cX2_cost 1 (some .long) :: BW) { frames := 0, cells := 0, slots := 0, locals := 0 } (va_Pc [.ref (ad 8 v0)] (PRE D cy ad M0 sz)) (QJ D cy ad M0 sz r0 M0) 0 0 (AA ad M0 sz) := by
  refine Met.ofW (cc := cX2_cost) (maxL := 1) (ret := (some .long)) (by decide) rfl ?_
  intro p e s m args below meth c s₁ B hml hv
  obtain ⟨rfl, rfl, hP0, hK, hN⟩ := hv
  have hx := B.exec
  have hb := B.bytes
  have hr := B.returns
  have hts0 := atoms_spec (ws := (Cond.code yX2_cost cX2_cost 1 (some .long) :: BW)) B.pre
  have hts : ∀ w ∈ BW, w.before ([.ref (ad 8 v0)] : List Value).toArray s = true := fun w h => hts0 w (List.mem_cons_of_mem _ h)
  have hown : s.vm.findClass RX2 = some m.cls := findClass_of_methodNamed B.named
  have hlocks := B.notSynchronized
  have hA : ∀ q : Nat, s.heap.size ≤ q → AA ad M0 s.heap.size q := fun q h => Or.inr h
  have C : Cx RX2 cX2_cost 1 (some .long) D cy (AA ad M0 s.heap.size) p s m ([.ref (ad 8 v0)] : List Value).toArray meth c := ⟨hx, hb, hr, hml, hown, hts, hlocks, hK, hN, hA⟩
  have hP := hp_self (sz := s.heap.size) hP0
  have hS : va_S (AA ad M0 s.heap.size) s.heap s.heap [] := va_S.rf
  have hl := lv_entry ([.ref (ad 8 v0)]) (n := 1) (Nat.le_of_ble_eq_true rfl)
  rw [lg_entry_eq]
  generalize (lg_sl ([.ref (ad 8 v0)]) ++ List.replicate (1 - (lg_sl ([.ref (ad 8 v0)])).length) Slot.unset).toArray = ls at hl ⊢
  have hl : lv_has ls 1 [(0, .ref (ad 8 v0))] := hl
  unfold f_X2_cost at hf
  refine lv_aload_n hx hb dX2_cost_0 rfl (lv_at hl 0 rfl) ?_
  refine gf8 (v := .int (mI M0 8 v0 2)) hx hb hts hown hK hP a0 2 (by decide) (hts _ q311) rfl rfl dX2_cost_1 ?_
  refine lv_i2l hx hb dX2_cost_4 rfl ?_
  refine lv_aload_n hx hb dX2_cost_5 rfl (lv_at hl 0 rfl) ?_
  have h5 : ∀ j : Nat, (mR M0 8 v0 0) = some j → mA M0 7 j = true := fun j hj => hp_wf hP a0 hj
  refine gf8 (v := va_rf (((mR M0 8 v0 0)).map (ad 7))) hx hb hts hown hK hP a0 0 (by decide) (hts _ q307) rfl rfl dX2_cost_6 ?_
  obtain ⟨i6, e7, hf⟩ := ob_some hf
  have h8 : mA M0 7 i6 = true := h5 i6 e7
  refine W_stk (st := [va_rf (((mR M0 8 v0 0)).map (ad 7)), .long (((mI M0 8 v0 2)).toInt64)]) (st' := [.ref (ad 7 i6), .long (((mI M0 8 v0 2)).toInt64)]) (by first | (rw [e7]; done) | (rw [e7]; rfl)) ?_
  refine gf7N (v := .int (mI M0 7 i6 4)) hx hb hts hown hK hP h8 4 (by decide) (va_Nw.use rfl (hN.1 (RX2, 35, "ToteHouse$Pool", "unit", "I", RX3) (List.mem_of_getElem? (i := 10) rfl))) rfl rfl dX2_cost_9 ?_
  refine lv_i2l hx hb dX2_cost_12 rfl ?_
  refine lv_lmul hx hb dX2_cost_13 ?_
  exact hp_lret hx hb hr hlocks (Option.some.inj hf) rfl hP hS keep_rf dX2_cost_14

def f_X1_putAt (v0 : Nat) (v1 : Int32) (v2 : Int32) (M0 : Mm) : Option Mm :=
  if v1 < 0 then (some M0) else (ob (mR M0 4 v0 2) fun i17 => if (25 : Int32) ≤ v1 then (some M0) else (ob (mR M0 4 v0 2) fun i22 => ix v1 25 (lt (sI M0 5 i22 (v1).toNatClampNeg v2) fun M26 => some M26)))
set_option maxRecDepth 100000 in
set_option maxHeartbeats 4000000 in
theorem ok_X1_putAt (l : Launch) (D : va_G) (cy : Nat → ClassId) (ad : Nat → Nat → Nat) (M0 : Mm) (sz : Nat) (v0 : Nat) (v1 : Int32) (v2 : Int32) (M' : Mm) (a0 : mA M0 4 v0 = true) (hf : f_X1_putAt v0 v1 v2 M0 = some M') : Met l yX1_putAt (Cond.code yX1_putAt cX1_putAt 3 none :: BW) { frames := 0, cells := 0, slots := 0, locals := 0 } (va_Pc [.ref (ad 4 v0), .int v1, .int v2] (PRE D cy ad M0 sz)) (QV D cy ad M0 sz M') 0 0 (AA ad M0 sz) := by
  refine Met.ofW (cc := cX1_putAt) (maxL := 3) (ret := none) (by decide) rfl ?_
  intro p e s m args below meth c s₁ B hml hv
  obtain ⟨rfl, rfl, hP0, hK, hN⟩ := hv
  have hx := B.exec
  have hb := B.bytes
  have hr := B.returns
  have hts0 := atoms_spec (ws := (Cond.code yX1_putAt cX1_putAt 3 none :: BW)) B.pre
  have hts : ∀ w ∈ BW, w.before ([.ref (ad 4 v0), .int v1, .int v2] : List Value).toArray s = true := fun w h => hts0 w (List.mem_cons_of_mem _ h)
  have hown : s.vm.findClass RX1 = some m.cls := findClass_of_methodNamed B.named
  have hlocks := B.notSynchronized
  have hA : ∀ q : Nat, s.heap.size ≤ q → AA ad M0 s.heap.size q := fun q h => Or.inr h
  have C : Cx RX1 cX1_putAt 3 none D cy (AA ad M0 s.heap.size) p s m ([.ref (ad 4 v0), .int v1, .int v2] : List Value).toArray meth c := ⟨hx, hb, hr, hml, hown, hts, hlocks, hK, hN, hA⟩
  have hP := hp_self (sz := s.heap.size) hP0
  have hS : va_S (AA ad M0 s.heap.size) s.heap s.heap [] := va_S.rf
  have hl := lv_entry ([.ref (ad 4 v0), .int v1, .int v2]) (n := 3) (Nat.le_of_ble_eq_true rfl)
  rw [lg_entry_eq]
  generalize (lg_sl ([.ref (ad 4 v0), .int v1, .int v2]) ++ List.replicate (3 - (lg_sl ([.ref (ad 4 v0), .int v1, .int v2])).length) Slot.unset).toArray = ls at hl ⊢
  have hl : lv_has ls 3 [(0, .ref (ad 4 v0)), (1, .int v1), (2, .int v2)] := hl
  unfold f_X1_putAt at hf
  refine lv_iload_n hx hb dX1_putAt_0 rfl (lv_at hl 1 rfl) ?_
  refine lv_if_lt (tgt := 20) hx hb dX1_putAt_1 (by decide) (fun c15 => ?_) (fun c15 => ?_)
  · have hf := if_t hf c15
    exact hp_vret hx hb hr hlocks (Option.some.inj hf) hP hS keep_rf dX1_putAt_20
  · have hf := if_f hf c15
    refine lv_iload_n hx hb dX1_putAt_4 rfl (lv_at hl 1 rfl) ?_
    refine lv_aload_n hx hb dX1_putAt_5 rfl (lv_at hl 0 rfl) ?_
    have h16 : ∀ j : Nat, (mR M0 4 v0 2) = some j → mA M0 5 j = true := fun j hj => hp_wf hP a0 hj
    refine gf4 (v := va_rf (((mR M0 4 v0 2)).map (ad 5))) hx hb hts hown hK hP a0 2 (by decide) (hts _ q134) rfl rfl dX1_putAt_6 ?_
    obtain ⟨i17, e18, hf⟩ := ob_some hf
    have h19 : mA M0 5 i17 = true := h16 i17 e18
    refine W_stk (st := [va_rf (((mR M0 4 v0 2)).map (ad 5)), .int v1]) (st' := [.ref (ad 5 i17), .int v1]) (by first | (rw [e18]; done) | (rw [e18]; rfl)) ?_
    refine hp_alen (v := (25 : Int32)) hx hb hK hP h19 rfl rfl (by decide) dX1_putAt_9 ?_
    refine lv_icmp_ge (tgt := 20) hx hb dX1_putAt_10 (by decide) (fun c20 => ?_) (fun c20 => ?_)
    · have hf := if_t hf c20
      exact hp_vret hx hb hr hlocks (Option.some.inj hf) hP hS keep_rf dX1_putAt_20
    · have hf := if_f hf c20
      refine lv_aload_n hx hb dX1_putAt_13 rfl (lv_at hl 0 rfl) ?_
      have h21 : ∀ j : Nat, (mR M0 4 v0 2) = some j → mA M0 5 j = true := fun j hj => hp_wf hP a0 hj
      refine gf4 (v := va_rf (((mR M0 4 v0 2)).map (ad 5))) hx hb hts hown hK hP a0 2 (by decide) (hts _ q134) rfl rfl dX1_putAt_14 ?_
      refine lv_iload_n hx hb dX1_putAt_17 rfl (lv_at hl 1 rfl) ?_
      refine lv_iload_n hx hb dX1_putAt_18 rfl (lv_at hl 2 rfl) ?_
      obtain ⟨i22, e23, hf⟩ := ob_some hf
      have h24 : mA M0 5 i22 = true := h21 i22 e23
      refine W_stk (st := [.int v2, .int v1, va_rf (((mR M0 4 v0 2)).map (ad 5))]) (st' := [.int v2, .int v1, .ref (ad 5 i22)]) (by first | (rw [e23]; done) | (rw [e23]; rfl)) ?_
      obtain ⟨h25, hf⟩ := ix_some hf
      obtain ⟨M26, e27, hf⟩ := lt_some hf
      have hk28 : Keep M0 M26 := keI e27
      refine hp_iast hx hb hK hP hS h24 rfl h25 dX1_putAt_19 (fun H locs hP hS => ?_)
      rw [← e27] at hP
      exact hp_vret hx hb hr hlocks (Option.some.inj hf) hP hS (kt keep_rf hk28) dX1_putAt_20

def f_X1_withdraw (v0 : Nat) (v1 : Int32) (M0 : Mm) : Option Mm :=
  ob (f_X1_putAt v0 v1 (-1 : Int32) M0) fun M10 => lt (sI M10 4 v0 5 ((mI M10 4 v0 5) - (1 : Int32))) fun M12 => some M12
set_option maxRecDepth 100000 in
set_option maxHeartbeats 4000000 in
theorem ok_X1_withdraw (l : Launch) (D : va_G) (cy : Nat → ClassId) (ad : Nat → Nat → Nat) (M0 : Mm) (sz : Nat) (v0 : Nat) (v1 : Int32) (M' : Mm) (a0 : mA M0 4 v0 = true) (hf : f_X1_withdraw v0 v1 M0 = some M') : Met l yX1_withdraw (Cond.code yX1_withdraw cX1_withdraw 2 none :: BW) { frames := 1, cells := 0, slots := 0, locals := 22 } (va_Pc [.ref (ad 4 v0), .int v1] (PRE D cy ad M0 sz)) (QV D cy ad M0 sz M') 0 0 (AA ad M0 sz) := by
  refine Met.ofW (cc := cX1_withdraw) (maxL := 2) (ret := none) (by decide) rfl ?_
  intro p e s m args below meth c s₁ B hml hv
  obtain ⟨rfl, rfl, hP0, hK, hN⟩ := hv
  have hx := B.exec
  have hb := B.bytes
  have hr := B.returns
  have hts0 := atoms_spec (ws := (Cond.code yX1_withdraw cX1_withdraw 2 none :: BW)) B.pre
  have hts : ∀ w ∈ BW, w.before ([.ref (ad 4 v0), .int v1] : List Value).toArray s = true := fun w h => hts0 w (List.mem_cons_of_mem _ h)
  have hown : s.vm.findClass RX1 = some m.cls := findClass_of_methodNamed B.named
  have hlocks := B.notSynchronized
  have hA : ∀ q : Nat, s.heap.size ≤ q → AA ad M0 s.heap.size q := fun q h => Or.inr h
  have C : Cx RX1 cX1_withdraw 2 none D cy (AA ad M0 s.heap.size) p s m ([.ref (ad 4 v0), .int v1] : List Value).toArray meth c := ⟨hx, hb, hr, hml, hown, hts, hlocks, hK, hN, hA⟩
  have hP := hp_self (sz := s.heap.size) hP0
  have hS : va_S (AA ad M0 s.heap.size) s.heap s.heap [] := va_S.rf
  have hl := lv_entry ([.ref (ad 4 v0), .int v1]) (n := 2) (Nat.le_of_ble_eq_true rfl)
  rw [lg_entry_eq]
  generalize (lg_sl ([.ref (ad 4 v0), .int v1]) ++ List.replicate (2 - (lg_sl ([.ref (ad 4 v0), .int v1])).length) Slot.unset).toArray = ls at hl ⊢
  have hl : lv_has ls 2 [(0, .ref (ad 4 v0)), (1, .int v1)] := hl
  unfold f_X1_withdraw at hf
  refine lv_aload_n hx hb dX1_withdraw_0 rfl (lv_at hl 0 rfl) ?_
  refine lv_iload_n hx hb dX1_withdraw_1 rfl (lv_at hl 1 rfl) ?_
  refine lv_iconst (v := (-1 : Int32)) hx hb dX1_withdraw_2 (by decide) ?_
  obtain ⟨M10, e8, hf⟩ := ob_some hf
  refine hp_callv (va_runV (As := [.int v1, .int (-1 : Int32)]) (rest := []) ⟨hx, hb, hml, hown, hts⟩ (ok_X1_putAt l D cy ad M0 _ v0 v1 (-1 : Int32) M10 a0 e8) (cwV 2 hts (gdV q400 q402 q22 q87 q403) rfl rfl rfl (by decide +kernel) ⟨Nat.le_of_ble_eq_true rfl, Nat.le_of_ble_eq_true rfl⟩) (pre_V hP hK hN a0 ds_4 rfl) rfl rfl hl.1 rfl (lv_room (Nat.le_of_ble_eq_true rfl)) dX1_withdraw_3 ⟨Nat.le_of_ble_eq_true rfl, Nat.le_of_ble_eq_true rfl⟩) hP hS hA (fun H locs hP hS hk11 => ?_)
  refine lv_aload_n hx hb dX1_withdraw_6 rfl (lv_at hl 0 rfl) ?_
  refine lv_dup hx hb dX1_withdraw_7 rfl ?_
  refine gf4 (v := .int (mI M10 4 v0 5)) hx hb hts hown hK hP (hk11 _ _ a0) 5 (by decide) (hts _ q139) rfl rfl dX1_withdraw_8 ?_
  refine lv_iconst (v := (1 : Int32)) hx hb dX1_withdraw_11 (by decide) ?_
  refine lv_isub hx hb dX1_withdraw_12 ?_
  obtain ⟨M12, e13, hf⟩ := lt_some hf
  have hk14 : Keep M10 M12 := keI e13
  refine pI4 (v := ((mI M10 4 v0 5) - (1 : Int32))) hx hb hts hown hK hP hS (hk11 _ _ a0) 5 (by decide) (hts _ q139) rfl rfl rfl e13 dX1_withdraw_13 (fun H locs hP hS => ?_)
  exact hp_vret hx hb hr hlocks (Option.some.inj hf) hP hS (kt (kt keep_rf hk11) hk14) dX1_withdraw_16

def f_X1_isWithin (v0 : Nat) (v1 : Int32) (v2 : Int32) (M0 : Mm) : Option Int32 :=
  ob (f_X1_positionOf v0 v1 M0) fun r8 => if r8 ≤ 0 then (some (0 : Int32)) else (if v2 < r8 then (some (0 : Int32)) else (some (1 : Int32)))
set_option maxRecDepth 100000 in
set_option maxHeartbeats 4000000 in
theorem ok_X1_isWithin (l : Launch) (D : va_G) (cy : Nat → ClassId) (ad : Nat → Nat → Nat) (M0 : Mm) (sz : Nat) (v0 : Nat) (v1 : Int32) (v2 : Int32) (r0 : Int32) (a0 : mA M0 4 v0 = true) (hf : f_X1_isWithin v0 v1 v2 M0 = some r0) : Met l yX1_isWithin (Cond.code yX1_isWithin cX1_isWithin 4 (some .boolean) :: BW) { frames := 1, cells := 0, slots := 0, locals := 21 } (va_Pc [.ref (ad 4 v0), .int v1, .int v2] (PRE D cy ad M0 sz)) (QI D cy ad M0 sz r0 M0) 0 0 (AA ad M0 sz) := by
  refine Met.ofW (cc := cX1_isWithin) (maxL := 4) (ret := (some .boolean)) (by decide) rfl ?_
  intro p e s m args below meth c s₁ B hml hv
  obtain ⟨rfl, rfl, hP0, hK, hN⟩ := hv
  have hx := B.exec
  have hb := B.bytes
  have hr := B.returns
  have hts0 := atoms_spec (ws := (Cond.code yX1_isWithin cX1_isWithin 4 (some .boolean) :: BW)) B.pre
  have hts : ∀ w ∈ BW, w.before ([.ref (ad 4 v0), .int v1, .int v2] : List Value).toArray s = true := fun w h => hts0 w (List.mem_cons_of_mem _ h)
  have hown : s.vm.findClass RX1 = some m.cls := findClass_of_methodNamed B.named
  have hlocks := B.notSynchronized
  have hA : ∀ q : Nat, s.heap.size ≤ q → AA ad M0 s.heap.size q := fun q h => Or.inr h
  have C : Cx RX1 cX1_isWithin 4 (some .boolean) D cy (AA ad M0 s.heap.size) p s m ([.ref (ad 4 v0), .int v1, .int v2] : List Value).toArray meth c := ⟨hx, hb, hr, hml, hown, hts, hlocks, hK, hN, hA⟩
  have hP := hp_self (sz := s.heap.size) hP0
  have hS : va_S (AA ad M0 s.heap.size) s.heap s.heap [] := va_S.rf
  have hl := lv_entry ([.ref (ad 4 v0), .int v1, .int v2]) (n := 4) (Nat.le_of_ble_eq_true rfl)
  rw [lg_entry_eq]
  generalize (lg_sl ([.ref (ad 4 v0), .int v1, .int v2]) ++ List.replicate (4 - (lg_sl ([.ref (ad 4 v0), .int v1, .int v2])).length) Slot.unset).toArray = ls at hl ⊢
  have hl : lv_has ls 4 [(0, .ref (ad 4 v0)), (1, .int v1), (2, .int v2)] := hl
  unfold f_X1_isWithin at hf
  refine lv_aload_n hx hb dX1_isWithin_0 rfl (lv_at hl 0 rfl) ?_
  refine lv_iload_n hx hb dX1_isWithin_1 rfl (lv_at hl 1 rfl) ?_
  obtain ⟨r8, e7, hf⟩ := ob_some hf
  refine hp_calli (va_runV (As := [.int v1]) (rest := []) ⟨hx, hb, hml, hown, hts⟩ (ok_X1_positionOf l D cy ad M0 _ v0 v1 r8 a0 e7) (cwV 1 hts (gdV q259 q261 q4 q87 q262) rfl rfl rfl (by decide +kernel) ⟨Nat.le_of_ble_eq_true rfl, Nat.le_of_ble_eq_true rfl⟩) (pre_V hP hK hN a0 ds_4 rfl) rfl rfl hl.1 rfl (lv_room (Nat.le_of_ble_eq_true rfl)) dX1_isWithin_2 ⟨Nat.le_of_ble_eq_true rfl, Nat.le_of_ble_eq_true rfl⟩) hP hS hA (fun H locs hP hS _ => ?_)
  refine lv_istore_n (lv' := [(3, .int r8), (0, .ref (ad 4 v0)), (1, .int v1), (2, .int v2)]) hx hb dX1_isWithin_5 rfl hl (by decide) rfl (fun ls hl => ?_)
  refine lv_iload_n hx hb dX1_isWithin_6 rfl (lv_at hl 0 rfl) ?_
  refine lv_if_le (tgt := 19) hx hb dX1_isWithin_7 (by decide) (fun c11 => ?_) (fun c11 => ?_)
  · have hf := if_t hf c11
    refine lv_iconst (v := (0 : Int32)) hx hb dX1_isWithin_19 (by decide) ?_
    exact hp_zret hx hb hr hlocks (Or.inl rfl) (Option.some.inj hf) rfl hP hS keep_rf dX1_isWithin_20
  · have hf := if_f hf c11
    refine lv_iload_n hx hb dX1_isWithin_10 rfl (lv_at hl 0 rfl) ?_
    refine lv_iload_n hx hb dX1_isWithin_11 rfl (lv_at hl 3 rfl) ?_
    refine lv_icmp_gt (tgt := 19) hx hb dX1_isWithin_12 (by decide) (fun c12 => ?_) (fun c12 => ?_)
    · have hf := if_t hf c12
      refine lv_iconst (v := (0 : Int32)) hx hb dX1_isWithin_19 (by decide) ?_
      exact hp_zret hx hb hr hlocks (Or.inl rfl) (Option.some.inj hf) rfl hP hS keep_rf dX1_isWithin_20
    · have hf := if_f hf c12
      refine lv_iconst (v := (1 : Int32)) hx hb dX1_isWithin_15 (by decide) ?_
      refine lv_goto (tgt := 20) hx hb dX1_isWithin_16 (by decide) ?_
      exact hp_zret hx hb hr hlocks (Or.inr rfl) (Option.some.inj hf) rfl hP hS keep_rf dX1_isWithin_20
def f_X1_runnersWithin_4 (M0 : Mm) : Nat → Nat → Int32 → Int32 → Int32 → Option Int32
  | 0, _, _, _, _ => none
  | n + 1, v0, v1, v2, v3 => if (mI M0 4 v0 1) < v3 then (some v2) else (ob (f_X1_isWithin v0 v3 v1 M0) fun r15 => if r15 = 0 then (lt (v3 + (1 : Int32)) fun x19 => f_X1_runnersWithin_4 M0 n v0 v1 v2 x19) else (lt (v2 + (1 : Int32)) fun x21 => lt (v3 + (1 : Int32)) fun x23 => f_X1_runnersWithin_4 M0 n v0 v1 x21 x23))
def f_X1_runnersWithin (v0 : Nat) (v1 : Int32) (M0 : Mm) : Option Int32 :=
  f_X1_runnersWithin_4 M0 FU v0 v1 (0 : Int32) (1 : Int32)
set_option maxRecDepth 100000 in
set_option maxHeartbeats 4000000 in
theorem t_X1_runnersWithin_4 {p : Program} {l : Launch} {e : Env} {s : State} {m : MethodId} {args : Array Value} {below : List Frame} {meth : Method} {c : Code} {D : va_G} {cy : Nat → ClassId} {ad : Nat → Nat → Nat} {M0 : Mm} {r0 : Int32} (C : Cx RX1 cX1_runnersWithin 4 (some .int) D cy (AA ad M0 s.heap.size) p s m args meth c) : ∀ (n : Nat), ∀ (v0 : Nat) (v1 : Int32) (v2 : Int32) (v3 : Int32) (H : Heap) (locs : List Loc) (ls : Array Slot), (mA M0 4 v0 = true) → f_X1_runnersWithin_4 M0 n v0 v1 v2 v3 = some r0 → HP D cy (AA ad M0 s.heap.size) ad M0 H → va_S (AA ad M0 s.heap.size) s.heap H locs → lv_has ls 4 [(0, .ref (ad 4 v0)), (1, .int v1), (2, .int v2), (3, .int v3)] → W p l e { frames := 2, cells := 0, slots := 0, locals := 44 } s m args below meth c H locs 0 0 (MQ below (QI D cy ad M0 s.heap.size r0 M0) args s 0 0 (AA ad M0 s.heap.size)) (F0 m 4 ls []) := by
  obtain ⟨hx, hb, hr, hml, hown, hts, hlocks, hK, hN, hA⟩ := id C
  intro n
  induction n with
  | zero =>
    intro v0 v1 v2 v3 H locs ls a0 hf hP hS hl
    simp [f_X1_runnersWithin_4] at hf
  | succ n ih =>
    intro v0 v1 v2 v3 H locs ls a0 hf hP hS hl
    rw [f_X1_runnersWithin_4] at hf
    refine lv_iload_n hx hb dX1_runnersWithin_4 rfl (lv_at hl 3 rfl) ?_
    refine lv_aload_n hx hb dX1_runnersWithin_5 rfl (lv_at hl 0 rfl) ?_
    refine gf4 (v := .int (mI M0 4 v0 1)) hx hb hts hown hK hP a0 1 (by decide) (hts _ q132) rfl rfl dX1_runnersWithin_6 ?_
    refine lv_icmp_gt (tgt := 30) hx hb dX1_runnersWithin_9 (by decide) (fun c13 => ?_) (fun c13 => ?_)
    · have hf := if_t hf c13
      refine lv_iload_n hx hb dX1_runnersWithin_30 rfl (lv_at hl 2 rfl) ?_
      exact hp_iret hx hb hr hlocks (Option.some.inj hf) rfl hP hS keep_rf dX1_runnersWithin_31
    · have hf := if_f hf c13
      refine lv_aload_n hx hb dX1_runnersWithin_12 rfl (lv_at hl 0 rfl) ?_
      refine lv_iload_n hx hb dX1_runnersWithin_13 rfl (lv_at hl 3 rfl) ?_
      refine lv_iload_n hx hb dX1_runnersWithin_14 rfl (lv_at hl 1 rfl) ?_
      obtain ⟨r15, e14, hf⟩ := ob_some hf
      refine hp_calli (va_runV (As := [.int v3, .int v1]) (rest := []) ⟨hx, hb, hml, hown, hts⟩ (ok_X1_isWithin l D cy ad M0 _ v0 v3 v1 r15 a0 e14) (cwV 2 hts (gdV q437 q439 q28 q87 q440) rfl rfl rfl (by decide +kernel) ⟨Nat.le_of_ble_eq_true rfl, Nat.le_of_ble_eq_true rfl⟩) (pre_V hP hK hN a0 ds_4 rfl) rfl rfl hl.1 rfl (lv_room (Nat.le_of_ble_eq_true rfl)) dX1_runnersWithin_15 ⟨Nat.le_of_ble_eq_true rfl, Nat.le_of_ble_eq_true rfl⟩) hP hS hA (fun H locs hP hS _ => ?_)
      refine lv_if_eq (tgt := 24) hx hb dX1_runnersWithin_18 (by decide) (fun c18 => ?_) (fun c18 => ?_)
      · have hf := if_t hf c18
        obtain ⟨x19, e20, hf⟩ := lt_some hf
        refine lv_iinc (v := x19) (lv' := [(3, .int x19), (0, .ref (ad 4 v0)), (1, .int v1), (2, .int v2)]) hx hb dX1_runnersWithin_24 hl (k := 3) rfl (by rw [e20]; rfl) (by decide) rfl (fun ls hl => ?_)
        refine lv_goto (tgt := 4) hx hb dX1_runnersWithin_27 (by decide) ?_
        exact ih v0 v1 v2 x19 _ _ _ a0 hf hP hS (lv_sub hl [1, 2, 3, 0] rfl)
      · have hf := if_f hf c18
        obtain ⟨x21, e22, hf⟩ := lt_some hf
        refine lv_iinc (v := x21) (lv' := [(2, .int x21), (0, .ref (ad 4 v0)), (1, .int v1), (3, .int v3)]) hx hb dX1_runnersWithin_21 hl (k := 2) rfl (by rw [e22]; rfl) (by decide) rfl (fun ls hl => ?_)
        obtain ⟨x23, e24, hf⟩ := lt_some hf
        refine lv_iinc (v := x23) (lv' := [(3, .int x23), (2, .int x21), (0, .ref (ad 4 v0)), (1, .int v1)]) hx hb dX1_runnersWithin_24 hl (k := 3) rfl (by rw [e24]; rfl) (by decide) rfl (fun ls hl => ?_)
        refine lv_goto (tgt := 4) hx hb dX1_runnersWithin_27 (by decide) ?_
        exact ih v0 v1 x21 x23 _ _ _ a0 hf hP hS (lv_sub hl [2, 3, 1, 0] rfl)
set_option maxRecDepth 100000 in
set_option maxHeartbeats 4000000 in
theorem ok_X1_runnersWithin (l : Launch) (D : va_G) (cy : Nat → ClassId) (ad : Nat → Nat → Nat) (M0 : Mm) (sz : Nat) (v0 : Nat) (v1 : Int32) (r0 : Int32) (a0 : mA M0 4 v0 = true) (hf : f_X1_runnersWithin v0 v1 M0 = some r0) : Met l yX1_runnersWithin (Cond.code yX1_runnersWithin cX1_runnersWithin 4 (some .int) :: BW) { frames := 2, cells := 0, slots := 0, locals := 44 } (va_Pc [.ref (ad 4 v0), .int v1] (PRE D cy ad M0 sz)) (QI D cy ad M0 sz r0 M0) 0 0 (AA ad M0 sz) := by
  refine Met.ofW (cc := cX1_runnersWithin) (maxL := 4) (ret := (some .int)) (by decide) rfl ?_
  intro p e s m args below meth c s₁ B hml hv
  obtain ⟨rfl, rfl, hP0, hK, hN⟩ := hv
  have hx := B.exec
  have hb := B.bytes
  have hr := B.returns
  have hts0 := atoms_spec (ws := (Cond.code yX1_runnersWithin cX1_runnersWithin 4 (some .int) :: BW)) B.pre
  have hts : ∀ w ∈ BW, w.before ([.ref (ad 4 v0), .int v1] : List Value).toArray s = true := fun w h => hts0 w (List.mem_cons_of_mem _ h)
  have hown : s.vm.findClass RX1 = some m.cls := findClass_of_methodNamed B.named
  have hlocks := B.notSynchronized
  have hA : ∀ q : Nat, s.heap.size ≤ q → AA ad M0 s.heap.size q := fun q h => Or.inr h
  have C : Cx RX1 cX1_runnersWithin 4 (some .int) D cy (AA ad M0 s.heap.size) p s m ([.ref (ad 4 v0), .int v1] : List Value).toArray meth c := ⟨hx, hb, hr, hml, hown, hts, hlocks, hK, hN, hA⟩
  have hP := hp_self (sz := s.heap.size) hP0
  have hS : va_S (AA ad M0 s.heap.size) s.heap s.heap [] := va_S.rf
  have hl := lv_entry ([.ref (ad 4 v0), .int v1]) (n := 4) (Nat.le_of_ble_eq_true rfl)
  rw [lg_entry_eq]
  generalize (lg_sl ([.ref (ad 4 v0), .int v1]) ++ List.replicate (4 - (lg_sl ([.ref (ad 4 v0), .int v1])).length) Slot.unset).toArray = ls at hl ⊢
  have hl : lv_has ls 4 [(0, .ref (ad 4 v0)), (1, .int v1)] := hl
  unfold f_X1_runnersWithin at hf
  refine lv_iconst (v := (0 : Int32)) hx hb dX1_runnersWithin_0 (by decide) ?_
  refine lv_istore_n (lv' := [(2, .int (0 : Int32)), (0, .ref (ad 4 v0)), (1, .int v1)]) hx hb dX1_runnersWithin_1 rfl hl (by decide) rfl (fun ls hl => ?_)
  refine lv_iconst (v := (1 : Int32)) hx hb dX1_runnersWithin_2 (by decide) ?_
  refine lv_istore_n (lv' := [(3, .int (1 : Int32)), (2, .int (0 : Int32)), (0, .ref (ad 4 v0)), (1, .int v1)]) hx hb dX1_runnersWithin_3 rfl hl (by decide) rfl (fun ls hl => ?_)
  exact t_X1_runnersWithin_4 C FU v0 v1 (0 : Int32) (1 : Int32) _ _ _ a0 hf hP hS (lv_sub hl [2, 3, 1, 0] rfl)

def f_X1_placedRunners (v0 : Nat) (M0 : Mm) : Option Int32 :=
  ob (f_X1_runnersWithin v0 (24 : Int32) M0) fun r6 => some r6
set_option maxRecDepth 100000 in
set_option maxHeartbeats 4000000 in
theorem ok_X1_placedRunners (l : Launch) (D : va_G) (cy : Nat → ClassId) (ad : Nat → Nat → Nat) (M0 : Mm) (sz : Nat) (v0 : Nat) (r0 : Int32) (a0 : mA M0 4 v0 = true) (hf : f_X1_placedRunners v0 M0 = some r0) : Met l yX1_placedRunners (Cond.code yX1_placedRunners cX1_placedRunners 1 (some .int) :: BW) { frames := 3, cells := 0, slots := 0, locals := 67 } (va_Pc [.ref (ad 4 v0)] (PRE D cy ad M0 sz)) (QI D cy ad M0 sz r0 M0) 0 0 (AA ad M0 sz) := by
  refine Met.ofW (cc := cX1_placedRunners) (maxL := 1) (ret := (some .int)) (by decide) rfl ?_
  intro p e s m args below meth c s₁ B hml hv
  obtain ⟨rfl, rfl, hP0, hK, hN⟩ := hv
  have hx := B.exec
  have hb := B.bytes
  have hr := B.returns
  have hts0 := atoms_spec (ws := (Cond.code yX1_placedRunners cX1_placedRunners 1 (some .int) :: BW)) B.pre
  have hts : ∀ w ∈ BW, w.before ([.ref (ad 4 v0)] : List Value).toArray s = true := fun w h => hts0 w (List.mem_cons_of_mem _ h)
  have hown : s.vm.findClass RX1 = some m.cls := findClass_of_methodNamed B.named
  have hlocks := B.notSynchronized
  have hA : ∀ q : Nat, s.heap.size ≤ q → AA ad M0 s.heap.size q := fun q h => Or.inr h
  have C : Cx RX1 cX1_placedRunners 1 (some .int) D cy (AA ad M0 s.heap.size) p s m ([.ref (ad 4 v0)] : List Value).toArray meth c := ⟨hx, hb, hr, hml, hown, hts, hlocks, hK, hN, hA⟩
  have hP := hp_self (sz := s.heap.size) hP0
  have hS : va_S (AA ad M0 s.heap.size) s.heap s.heap [] := va_S.rf
  have hl := lv_entry ([.ref (ad 4 v0)]) (n := 1) (Nat.le_of_ble_eq_true rfl)
  rw [lg_entry_eq]
  generalize (lg_sl ([.ref (ad 4 v0)]) ++ List.replicate (1 - (lg_sl ([.ref (ad 4 v0)])).length) Slot.unset).toArray = ls at hl ⊢
  have hl : lv_has ls 1 [(0, .ref (ad 4 v0))] := hl
  unfold f_X1_placedRunners at hf
  refine lv_aload_n hx hb dX1_placedRunners_0 rfl (lv_at hl 0 rfl) ?_
  refine lv_bipush (v := (24 : Int32)) hx hb dX1_placedRunners_1 (by decide) ?_
  obtain ⟨r6, e5, hf⟩ := ob_some hf
  refine hp_calli (va_runV (As := [.int (24 : Int32)]) (rest := []) ⟨hx, hb, hml, hown, hts⟩ (ok_X1_runnersWithin l D cy ad M0 _ v0 (24 : Int32) r6 a0 e5) (cwV 1 hts (gdV q433 q435 q27 q87 q436) rfl rfl rfl (by decide +kernel) ⟨Nat.le_of_ble_eq_true rfl, Nat.le_of_ble_eq_true rfl⟩) (pre_V hP hK hN a0 ds_4 rfl) rfl rfl hl.1 rfl (lv_room (Nat.le_of_ble_eq_true rfl)) dX1_placedRunners_3 ⟨Nat.le_of_ble_eq_true rfl, Nat.le_of_ble_eq_true rfl⟩) hP hS hA (fun H locs hP hS _ => ?_)
  exact hp_iret hx hb hr hlocks (Option.some.inj hf) rfl hP hS keep_rf dX1_placedRunners_6
def f_X1_hasResult_19 (M0 : Mm) : Nat → Nat → Int32 → Option Int32
  | 0, _, _ => none
  | n + 1, v0, v1 => if (mI M0 4 v0 1) < v1 then (some (1 : Int32)) else (ob (f_X1_positionOf v0 v1 M0) fun r28 => if r28 ≤ 0 then (lt (v1 + (1 : Int32)) fun x32 => f_X1_hasResult_19 M0 n v0 x32) else (ob (f_X1_runnersWithin v0 (r28 - (1 : Int32)) M0) fun r35 => if r28 = (r35 + (1 : Int32)) then (lt (v1 + (1 : Int32)) fun x39 => f_X1_hasResult_19 M0 n v0 x39) else (some (0 : Int32))))
def f_X1_hasResult (v0 : Nat) (M0 : Mm) : Option Int32 :=
  ob (f_X1_placedRunners v0 M0) fun r22 => if (if (mI M0 4 v0 5) < (3 : Int32) then (mI M0 4 v0 5) else (3 : Int32)) ≤ r22 then (f_X1_hasResult_19 M0 FU v0 (1 : Int32)) else (some (0 : Int32))
set_option maxRecDepth 100000 in
set_option maxHeartbeats 4000000 in
theorem t_X1_hasResult_19 {p : Program} {l : Launch} {e : Env} {s : State} {m : MethodId} {args : Array Value} {below : List Frame} {meth : Method} {c : Code} {D : va_G} {cy : Nat → ClassId} {ad : Nat → Nat → Nat} {M0 : Mm} {r0 : Int32} (C : Cx RX1 cX1_hasResult 3 (some .boolean) D cy (AA ad M0 s.heap.size) p s m args meth c) : ∀ (n : Nat), ∀ (v0 : Nat) (v1 : Int32) (H : Heap) (locs : List Loc) (ls : Array Slot), (mA M0 4 v0 = true) → f_X1_hasResult_19 M0 n v0 v1 = some r0 → HP D cy (AA ad M0 s.heap.size) ad M0 H → va_S (AA ad M0 s.heap.size) s.heap H locs → lv_has ls 3 [(0, .ref (ad 4 v0)), (1, .int v1)] → W p l e { frames := 4, cells := 0, slots := 0, locals := 87 } s m args below meth c H locs 0 0 (MQ below (QI D cy ad M0 s.heap.size r0 M0) args s 0 0 (AA ad M0 s.heap.size)) (F0 m 19 ls []) := by
  obtain ⟨hx, hb, hr, hml, hown, hts, hlocks, hK, hN, hA⟩ := id C
  intro n
  induction n with
  | zero =>
    intro v0 v1 H locs ls a0 hf hP hS hl
    simp [f_X1_hasResult_19] at hf
  | succ n ih =>
    intro v0 v1 H locs ls a0 hf hP hS hl
    rw [f_X1_hasResult_19] at hf
    refine lv_iload_n hx hb dX1_hasResult_19 rfl (lv_at hl 1 rfl) ?_
    refine lv_aload_n hx hb dX1_hasResult_20 rfl (lv_at hl 0 rfl) ?_
    refine gf4 (v := .int (mI M0 4 v0 1)) hx hb hts hown hK hP a0 1 (by decide) (hts _ q132) rfl rfl dX1_hasResult_21 ?_
    refine lv_icmp_gt (tgt := 58) hx hb dX1_hasResult_24 (by decide) (fun c26 => ?_) (fun c26 => ?_)
    · have hf := if_t hf c26
      refine lv_iconst (v := (1 : Int32)) hx hb dX1_hasResult_58 (by decide) ?_
      exact hp_zret hx hb hr hlocks (Or.inr rfl) (Option.some.inj hf) rfl hP hS keep_rf dX1_hasResult_59
    · have hf := if_f hf c26
      refine lv_aload_n hx hb dX1_hasResult_27 rfl (lv_at hl 0 rfl) ?_
      refine lv_iload_n hx hb dX1_hasResult_28 rfl (lv_at hl 1 rfl) ?_
      obtain ⟨r28, e27, hf⟩ := ob_some hf
      refine hp_calli (va_runV (As := [.int v1]) (rest := []) ⟨hx, hb, hml, hown, hts⟩ (ok_X1_positionOf l D cy ad M0 _ v0 v1 r28 a0 e27) (cwV 1 hts (gdV q259 q261 q4 q87 q262) rfl rfl rfl (by decide +kernel) ⟨Nat.le_of_ble_eq_true rfl, Nat.le_of_ble_eq_true rfl⟩) (pre_V hP hK hN a0 ds_4 rfl) rfl rfl hl.1 rfl (lv_room (Nat.le_of_ble_eq_true rfl)) dX1_hasResult_29 ⟨Nat.le_of_ble_eq_true rfl, Nat.le_of_ble_eq_true rfl⟩) hP hS hA (fun H locs hP hS _ => ?_)
      refine lv_istore_n (lv' := [(2, .int r28), (0, .ref (ad 4 v0)), (1, .int v1)]) hx hb dX1_hasResult_32 rfl hl (by decide) rfl (fun ls hl => ?_)
      refine lv_iload_n hx hb dX1_hasResult_33 rfl (lv_at hl 0 rfl) ?_
      refine lv_if_le (tgt := 52) hx hb dX1_hasResult_34 (by decide) (fun c31 => ?_) (fun c31 => ?_)
      · have hf := if_t hf c31
        obtain ⟨x32, e33, hf⟩ := lt_some hf
        refine lv_iinc (v := x32) (lv' := [(1, .int x32), (2, .int r28), (0, .ref (ad 4 v0))]) hx hb dX1_hasResult_52 hl (k := 2) rfl (by rw [e33]; rfl) (by decide) rfl (fun ls hl => ?_)
        refine lv_goto (tgt := 19) hx hb dX1_hasResult_55 (by decide) ?_
        exact ih v0 x32 _ _ _ a0 hf hP hS (lv_sub hl [2, 0] rfl)
      · have hf := if_f hf c31
        refine lv_iload_n hx hb dX1_hasResult_37 rfl (lv_at hl 0 rfl) ?_
        refine lv_aload_n hx hb dX1_hasResult_38 rfl (lv_at hl 1 rfl) ?_
        refine lv_iload_n hx hb dX1_hasResult_39 rfl (lv_at hl 0 rfl) ?_
        refine lv_iconst (v := (1 : Int32)) hx hb dX1_hasResult_40 (by decide) ?_
        refine lv_isub hx hb dX1_hasResult_41 ?_
        obtain ⟨r35, e34, hf⟩ := ob_some hf
        refine hp_calli (va_runV (As := [.int (r28 - (1 : Int32))]) (rest := [.int r28]) ⟨hx, hb, hml, hown, hts⟩ (ok_X1_runnersWithin l D cy ad M0 _ v0 (r28 - (1 : Int32)) r35 a0 e34) (cwV 1 hts (gdV q433 q435 q27 q87 q436) rfl rfl rfl (by decide +kernel) ⟨Nat.le_of_ble_eq_true rfl, Nat.le_of_ble_eq_true rfl⟩) (pre_V hP hK hN a0 ds_4 rfl) rfl rfl hl.1 rfl (lv_room (Nat.le_of_ble_eq_true rfl)) dX1_hasResult_42 ⟨Nat.le_of_ble_eq_true rfl, Nat.le_of_ble_eq_true rfl⟩) hP hS hA (fun H locs hP hS _ => ?_)
        refine lv_iconst (v := (1 : Int32)) hx hb dX1_hasResult_45 (by decide) ?_
        refine lv_iadd hx hb dX1_hasResult_46 ?_
        refine lv_icmp_eq (tgt := 52) hx hb dX1_hasResult_47 (by decide) (fun c38 => ?_) (fun c38 => ?_)
        · have hf := if_t hf c38
          obtain ⟨x39, e40, hf⟩ := lt_some hf
          refine lv_iinc (v := x39) (lv' := [(1, .int x39), (2, .int r28), (0, .ref (ad 4 v0))]) hx hb dX1_hasResult_52 hl (k := 2) rfl (by rw [e40]; rfl) (by decide) rfl (fun ls hl => ?_)
          refine lv_goto (tgt := 19) hx hb dX1_hasResult_55 (by decide) ?_
          exact ih v0 x39 _ _ _ a0 hf hP hS (lv_sub hl [2, 0] rfl)
        · have hf := if_f hf c38
          refine lv_iconst (v := (0 : Int32)) hx hb dX1_hasResult_50 (by decide) ?_
          exact hp_zret hx hb hr hlocks (Or.inl rfl) (Option.some.inj hf) rfl hP hS keep_rf dX1_hasResult_51
set_option maxRecDepth 100000 in
set_option maxHeartbeats 4000000 in
theorem ok_X1_hasResult (l : Launch) (D : va_G) (cy : Nat → ClassId) (ad : Nat → Nat → Nat) (M0 : Mm) (sz : Nat) (v0 : Nat) (r0 : Int32) (a0 : mA M0 4 v0 = true) (hf : f_X1_hasResult v0 M0 = some r0) : Met l yX1_hasResult (Cond.code yX1_hasResult cX1_hasResult 3 (some .boolean) :: BW) { frames := 4, cells := 0, slots := 0, locals := 87 } (va_Pc [.ref (ad 4 v0)] (PRE D cy ad M0 sz)) (QI D cy ad M0 sz r0 M0) 0 0 (AA ad M0 sz) := by
  refine Met.ofW (cc := cX1_hasResult) (maxL := 3) (ret := (some .boolean)) (by decide) rfl ?_
  intro p e s m args below meth c s₁ B hml hv
  obtain ⟨rfl, rfl, hP0, hK, hN⟩ := hv
  have hx := B.exec
  have hb := B.bytes
  have hr := B.returns
  have hts0 := atoms_spec (ws := (Cond.code yX1_hasResult cX1_hasResult 3 (some .boolean) :: BW)) B.pre
  have hts : ∀ w ∈ BW, w.before ([.ref (ad 4 v0)] : List Value).toArray s = true := fun w h => hts0 w (List.mem_cons_of_mem _ h)
  have hown : s.vm.findClass RX1 = some m.cls := findClass_of_methodNamed B.named
  have hlocks := B.notSynchronized
  have hA : ∀ q : Nat, s.heap.size ≤ q → AA ad M0 s.heap.size q := fun q h => Or.inr h
  have C : Cx RX1 cX1_hasResult 3 (some .boolean) D cy (AA ad M0 s.heap.size) p s m ([.ref (ad 4 v0)] : List Value).toArray meth c := ⟨hx, hb, hr, hml, hown, hts, hlocks, hK, hN, hA⟩
  have hP := hp_self (sz := s.heap.size) hP0
  have hS : va_S (AA ad M0 s.heap.size) s.heap s.heap [] := va_S.rf
  have hl := lv_entry ([.ref (ad 4 v0)]) (n := 3) (Nat.le_of_ble_eq_true rfl)
  rw [lg_entry_eq]
  generalize (lg_sl ([.ref (ad 4 v0)]) ++ List.replicate (3 - (lg_sl ([.ref (ad 4 v0)])).length) Slot.unset).toArray = ls at hl ⊢
  have hl : lv_has ls 3 [(0, .ref (ad 4 v0))] := hl
  unfold f_X1_hasResult at hf
  refine lv_aload_n hx hb dX1_hasResult_0 rfl (lv_at hl 0 rfl) ?_
  obtain ⟨r22, e21, hf⟩ := ob_some hf
  refine hp_calli (va_runV (As := []) (rest := []) ⟨hx, hb, hml, hown, hts⟩ (ok_X1_placedRunners l D cy ad M0 _ v0 r22 a0 e21) (cwV 0 hts (gdV q429 q431 q26 q87 q432) rfl rfl rfl (by decide +kernel) ⟨Nat.le_of_ble_eq_true rfl, Nat.le_of_ble_eq_true rfl⟩) (pre_V hP hK hN a0 ds_4 rfl) rfl rfl hl.1 rfl (lv_room (Nat.le_of_ble_eq_true rfl)) dX1_hasResult_1 ⟨Nat.le_of_ble_eq_true rfl, Nat.le_of_ble_eq_true rfl⟩) hP hS hA (fun H locs hP hS _ => ?_)
  refine lv_iconst (v := (3 : Int32)) hx hb dX1_hasResult_4 (by decide) ?_
  refine lv_aload_n hx hb dX1_hasResult_5 rfl (lv_at hl 0 rfl) ?_
  refine gf4 (v := .int (mI M0 4 v0 5)) hx hb hts hown hK hP a0 5 (by decide) (hts _ q139) rfl rfl dX1_hasResult_6 ?_
  refine va_mmin (x := (3 : Int32)) (y := (mI M0 4 v0 5)) hx hb (hml.trans hl.1.symm) hown (hts _ q441) (hts _ q442) (hts _ q90) (hts _ q443) (Nat.le_of_ble_eq_true rfl) (Nat.le_of_ble_eq_true rfl) (Nat.zero_le _) (Nat.zero_le _) dX1_hasResult_9 ?_
  refine lv_icmp_ge (tgt := 17) hx hb dX1_hasResult_12 (by decide) (fun c25 => ?_) (fun c25 => ?_)
  · have hf := if_t hf c25
    refine lv_iconst (v := (1 : Int32)) hx hb dX1_hasResult_17 (by decide) ?_
    refine lv_istore_n (lv' := [(1, .int (1 : Int32)), (0, .ref (ad 4 v0))]) hx hb dX1_hasResult_18 rfl hl (by decide) rfl (fun ls hl => ?_)
    exact t_X1_hasResult_19 C FU v0 (1 : Int32) _ _ _ a0 hf hP hS (lv_sub hl [1, 0] rfl)
  · have hf := if_f hf c25
    refine lv_iconst (v := (0 : Int32)) hx hb dX1_hasResult_15 (by decide) ?_
    exact hp_zret hx hb hr hlocks (Or.inl rfl) (Option.some.inj hf) rfl hP hS keep_rf dX1_hasResult_16

def f_X1_lastWinningPlace (v0 : Nat) (M0 : Mm) : Option Int32 :=
  if (mI M0 4 v0 5) < (8 : Int32) then (if (mI M0 4 v0 5) < (5 : Int32) then (some (0 : Int32)) else (some (2 : Int32))) else (some (3 : Int32))
set_option maxRecDepth 100000 in
set_option maxHeartbeats 4000000 in
theorem ok_X1_lastWinningPlace (l : Launch) (D : va_G) (cy : Nat → ClassId) (ad : Nat → Nat → Nat) (M0 : Mm) (sz : Nat) (v0 : Nat) (r0 : Int32) (a0 : mA M0 4 v0 = true) (hf : f_X1_lastWinningPlace v0 M0 = some r0) : Met l yX1_lastWinningPlace (Cond.code yX1_lastWinningPlace cX1_lastWinningPlace 1 (some .int) :: BW) { frames := 0, cells := 0, slots := 0, locals := 0 } (va_Pc [.ref (ad 4 v0)] (PRE D cy ad M0 sz)) (QI D cy ad M0 sz r0 M0) 0 0 (AA ad M0 sz) := by
  refine Met.ofW (cc := cX1_lastWinningPlace) (maxL := 1) (ret := (some .int)) (by decide) rfl ?_
  intro p e s m args below meth c s₁ B hml hv
  obtain ⟨rfl, rfl, hP0, hK, hN⟩ := hv
  have hx := B.exec
  have hb := B.bytes
  have hr := B.returns
  have hts0 := atoms_spec (ws := (Cond.code yX1_lastWinningPlace cX1_lastWinningPlace 1 (some .int) :: BW)) B.pre
  have hts : ∀ w ∈ BW, w.before ([.ref (ad 4 v0)] : List Value).toArray s = true := fun w h => hts0 w (List.mem_cons_of_mem _ h)
  have hown : s.vm.findClass RX1 = some m.cls := findClass_of_methodNamed B.named
  have hlocks := B.notSynchronized
  have hA : ∀ q : Nat, s.heap.size ≤ q → AA ad M0 s.heap.size q := fun q h => Or.inr h
  have C : Cx RX1 cX1_lastWinningPlace 1 (some .int) D cy (AA ad M0 s.heap.size) p s m ([.ref (ad 4 v0)] : List Value).toArray meth c := ⟨hx, hb, hr, hml, hown, hts, hlocks, hK, hN, hA⟩
  have hP := hp_self (sz := s.heap.size) hP0
  have hS : va_S (AA ad M0 s.heap.size) s.heap s.heap [] := va_S.rf
  have hl := lv_entry ([.ref (ad 4 v0)]) (n := 1) (Nat.le_of_ble_eq_true rfl)
  rw [lg_entry_eq]
  generalize (lg_sl ([.ref (ad 4 v0)]) ++ List.replicate (1 - (lg_sl ([.ref (ad 4 v0)])).length) Slot.unset).toArray = ls at hl ⊢
  have hl : lv_has ls 1 [(0, .ref (ad 4 v0))] := hl
  unfold f_X1_lastWinningPlace at hf
  refine lv_aload_n hx hb dX1_lastWinningPlace_0 rfl (lv_at hl 0 rfl) ?_
  refine gf4 (v := .int (mI M0 4 v0 5)) hx hb hts hown hK hP a0 5 (by decide) (hts _ q139) rfl rfl dX1_lastWinningPlace_1 ?_
  refine lv_bipush (v := (8 : Int32)) hx hb dX1_lastWinningPlace_4 (by decide) ?_
  refine lv_icmp_lt (tgt := 13) hx hb dX1_lastWinningPlace_6 (by decide) (fun c3 => ?_) (fun c3 => ?_)
  · have hf := if_t hf c3
    refine lv_aload_n hx hb dX1_lastWinningPlace_13 rfl (lv_at hl 0 rfl) ?_
    refine gf4 (v := .int (mI M0 4 v0 5)) hx hb hts hown hK hP a0 5 (by decide) (hts _ q139) rfl rfl dX1_lastWinningPlace_14 ?_
    refine lv_iconst (v := (5 : Int32)) hx hb dX1_lastWinningPlace_17 (by decide) ?_
    refine lv_icmp_lt (tgt := 25) hx hb dX1_lastWinningPlace_18 (by decide) (fun c4 => ?_) (fun c4 => ?_)
    · have hf := if_t hf c4
      refine lv_iconst (v := (0 : Int32)) hx hb dX1_lastWinningPlace_25 (by decide) ?_
      exact hp_iret hx hb hr hlocks (Option.some.inj hf) rfl hP hS keep_rf dX1_lastWinningPlace_26
    · have hf := if_f hf c4
      refine lv_iconst (v := (2 : Int32)) hx hb dX1_lastWinningPlace_21 (by decide) ?_
      refine lv_goto (tgt := 26) hx hb dX1_lastWinningPlace_22 (by decide) ?_
      exact hp_iret hx hb hr hlocks (Option.some.inj hf) rfl hP hS keep_rf dX1_lastWinningPlace_26
  · have hf := if_f hf c3
    refine lv_iconst (v := (3 : Int32)) hx hb dX1_lastWinningPlace_9 (by decide) ?_
    refine lv_goto (tgt := 26) hx hb dX1_lastWinningPlace_10 (by decide) ?_
    exact hp_iret hx hb hr hlocks (Option.some.inj hf) rfl hP hS keep_rf dX1_lastWinningPlace_26
def f_X1_canFinish_33 (M0 : Mm) (v0 : Nat) (v1 : Int32) (v2 : Int32) (v3 : Int32) : Option Int32 :=
  if (mI M0 4 v0 5) < (3 : Int32) then (some (1 : Int32)) else (ob (f_X1_isRunning v0 v3 M0) fun r29 => if r29 = 0 then (some (0 : Int32)) else (if v3 = v1 then (some (0 : Int32)) else (if v3 = v2 then (some (0 : Int32)) else (some (1 : Int32)))))
def f_X1_canFinish (v0 : Nat) (v1 : Int32) (v2 : Int32) (v3 : Int32) (M0 : Mm) : Option Int32 :=
  ob (f_X1_isRunning v0 v1 M0) fun r22 => if r22 = 0 then (some (0 : Int32)) else (if (mI M0 4 v0 5) ≤ (1 : Int32) then (f_X1_canFinish_33 M0 v0 v1 v2 v3) else (ob (f_X1_isRunning v0 v2 M0) fun r36 => if r36 = 0 then (some (0 : Int32)) else (if v2 = v1 then (some (0 : Int32)) else (f_X1_canFinish_33 M0 v0 v1 v2 v3))))
set_option maxRecDepth 100000 in
set_option maxHeartbeats 4000000 in
theorem t_X1_canFinish_33 {p : Program} {l : Launch} {e : Env} {s : State} {m : MethodId} {args : Array Value} {below : List Frame} {meth : Method} {c : Code} {D : va_G} {cy : Nat → ClassId} {ad : Nat → Nat → Nat} {M0 : Mm} {r0 : Int32} (C : Cx RX1 cX1_canFinish 4 (some .boolean) D cy (AA ad M0 s.heap.size) p s m args meth c) : ∀ (v0 : Nat) (v1 : Int32) (v2 : Int32) (v3 : Int32) (H : Heap) (locs : List Loc) (ls : Array Slot), (mA M0 4 v0 = true) → f_X1_canFinish_33 M0 v0 v1 v2 v3 = some r0 → HP D cy (AA ad M0 s.heap.size) ad M0 H → va_S (AA ad M0 s.heap.size) s.heap H locs → lv_has ls 4 [(0, .ref (ad 4 v0)), (1, .int v1), (2, .int v2), (3, .int v3)] → W p l e { frames := 2, cells := 0, slots := 0, locals := 42 } s m args below meth c H locs 0 0 (MQ below (QI D cy ad M0 s.heap.size r0 M0) args s 0 0 (AA ad M0 s.heap.size)) (F0 m 33 ls []) := by
  obtain ⟨hx, hb, hr, hml, hown, hts, hlocks, hK, hN, hA⟩ := id C
  intro v0 v1 v2 v3 H locs ls a0 hf hP hS hl
  unfold f_X1_canFinish_33 at hf
  refine lv_aload_n hx hb dX1_canFinish_33 rfl (lv_at hl 0 rfl) ?_
  refine gf4 (v := .int (mI M0 4 v0 5)) hx hb hts hown hK hP a0 5 (by decide) (hts _ q139) rfl rfl dX1_canFinish_34 ?_
  refine lv_iconst (v := (3 : Int32)) hx hb dX1_canFinish_37 (by decide) ?_
  refine lv_icmp_lt (tgt := 59) hx hb dX1_canFinish_38 (by decide) (fun c27 => ?_) (fun c27 => ?_)
  · have hf := if_t hf c27
    refine lv_iconst (v := (1 : Int32)) hx hb dX1_canFinish_59 (by decide) ?_
    refine lv_goto (tgt := 64) hx hb dX1_canFinish_60 (by decide) ?_
    exact hp_zret hx hb hr hlocks (Or.inr rfl) (Option.some.inj hf) rfl hP hS keep_rf dX1_canFinish_64
  · have hf := if_f hf c27
    refine lv_aload_n hx hb dX1_canFinish_41 rfl (lv_at hl 0 rfl) ?_
    refine lv_iload_n hx hb dX1_canFinish_42 rfl (lv_at hl 3 rfl) ?_
    obtain ⟨r29, e28, hf⟩ := ob_some hf
    refine hp_calli (va_runV (As := [.int v3]) (rest := []) ⟨hx, hb, hml, hown, hts⟩ (ok_X1_isRunning l D cy ad M0 _ v0 v3 r29 a0 e28) (cwV 1 hts (gdV q537 q253 q2 q87 q254) rfl rfl rfl (by decide +kernel) ⟨Nat.le_of_ble_eq_true rfl, Nat.le_of_ble_eq_true rfl⟩) (pre_V hP hK hN a0 ds_4 rfl) rfl rfl hl.1 rfl (lv_room (Nat.le_of_ble_eq_true rfl)) dX1_canFinish_43 ⟨Nat.le_of_ble_eq_true rfl, Nat.le_of_ble_eq_true rfl⟩) hP hS hA (fun H locs hP hS _ => ?_)
    refine lv_if_eq (tgt := 63) hx hb dX1_canFinish_46 (by decide) (fun c32 => ?_) (fun c32 => ?_)
    · have hf := if_t hf c32
      refine lv_iconst (v := (0 : Int32)) hx hb dX1_canFinish_63 (by decide) ?_
      exact hp_zret hx hb hr hlocks (Or.inl rfl) (Option.some.inj hf) rfl hP hS keep_rf dX1_canFinish_64
    · have hf := if_f hf c32
      refine lv_iload_n hx hb dX1_canFinish_49 rfl (lv_at hl 3 rfl) ?_
      refine lv_iload_n hx hb dX1_canFinish_50 rfl (lv_at hl 1 rfl) ?_
      refine lv_icmp_eq (tgt := 63) hx hb dX1_canFinish_51 (by decide) (fun c33 => ?_) (fun c33 => ?_)
      · have hf := if_t hf c33
        refine lv_iconst (v := (0 : Int32)) hx hb dX1_canFinish_63 (by decide) ?_
        exact hp_zret hx hb hr hlocks (Or.inl rfl) (Option.some.inj hf) rfl hP hS keep_rf dX1_canFinish_64
      · have hf := if_f hf c33
        refine lv_iload_n hx hb dX1_canFinish_54 rfl (lv_at hl 3 rfl) ?_
        refine lv_iload_n hx hb dX1_canFinish_55 rfl (lv_at hl 2 rfl) ?_
        refine lv_icmp_eq (tgt := 63) hx hb dX1_canFinish_56 (by decide) (fun c34 => ?_) (fun c34 => ?_)
        · have hf := if_t hf c34
          refine lv_iconst (v := (0 : Int32)) hx hb dX1_canFinish_63 (by decide) ?_
          exact hp_zret hx hb hr hlocks (Or.inl rfl) (Option.some.inj hf) rfl hP hS keep_rf dX1_canFinish_64
        · have hf := if_f hf c34
          refine lv_iconst (v := (1 : Int32)) hx hb dX1_canFinish_59 (by decide) ?_
          refine lv_goto (tgt := 64) hx hb dX1_canFinish_60 (by decide) ?_
          exact hp_zret hx hb hr hlocks (Or.inr rfl) (Option.some.inj hf) rfl hP hS keep_rf dX1_canFinish_64
set_option maxRecDepth 100000 in
set_option maxHeartbeats 4000000 in
theorem ok_X1_canFinish (l : Launch) (D : va_G) (cy : Nat → ClassId) (ad : Nat → Nat → Nat) (M0 : Mm) (sz : Nat) (v0 : Nat) (v1 : Int32) (v2 : Int32) (v3 : Int32) (r0 : Int32) (a0 : mA M0 4 v0 = true) (hf : f_X1_canFinish v0 v1 v2 v3 M0 = some r0) : Met l yX1_canFinish (Cond.code yX1_canFinish cX1_canFinish 4 (some .boolean) :: BW) { frames := 2, cells := 0, slots := 0, locals := 42 } (va_Pc [.ref (ad 4 v0), .int v1, .int v2, .int v3] (PRE D cy ad M0 sz)) (QI D cy ad M0 sz r0 M0) 0 0 (AA ad M0 sz) := by
  refine Met.ofW (cc := cX1_canFinish) (maxL := 4) (ret := (some .boolean)) (by decide) rfl ?_
  intro p e s m args below meth c s₁ B hml hv
  obtain ⟨rfl, rfl, hP0, hK, hN⟩ := hv
  have hx := B.exec
  have hb := B.bytes
  have hr := B.returns
  have hts0 := atoms_spec (ws := (Cond.code yX1_canFinish cX1_canFinish 4 (some .boolean) :: BW)) B.pre
  have hts : ∀ w ∈ BW, w.before ([.ref (ad 4 v0), .int v1, .int v2, .int v3] : List Value).toArray s = true := fun w h => hts0 w (List.mem_cons_of_mem _ h)
  have hown : s.vm.findClass RX1 = some m.cls := findClass_of_methodNamed B.named
  have hlocks := B.notSynchronized
  have hA : ∀ q : Nat, s.heap.size ≤ q → AA ad M0 s.heap.size q := fun q h => Or.inr h
  have C : Cx RX1 cX1_canFinish 4 (some .boolean) D cy (AA ad M0 s.heap.size) p s m ([.ref (ad 4 v0), .int v1, .int v2, .int v3] : List Value).toArray meth c := ⟨hx, hb, hr, hml, hown, hts, hlocks, hK, hN, hA⟩
  have hP := hp_self (sz := s.heap.size) hP0
  have hS : va_S (AA ad M0 s.heap.size) s.heap s.heap [] := va_S.rf
  have hl := lv_entry ([.ref (ad 4 v0), .int v1, .int v2, .int v3]) (n := 4) (Nat.le_of_ble_eq_true rfl)
  rw [lg_entry_eq]
  generalize (lg_sl ([.ref (ad 4 v0), .int v1, .int v2, .int v3]) ++ List.replicate (4 - (lg_sl ([.ref (ad 4 v0), .int v1, .int v2, .int v3])).length) Slot.unset).toArray = ls at hl ⊢
  have hl : lv_has ls 4 [(0, .ref (ad 4 v0)), (1, .int v1), (2, .int v2), (3, .int v3)] := hl
  unfold f_X1_canFinish at hf
  refine lv_aload_n hx hb dX1_canFinish_0 rfl (lv_at hl 0 rfl) ?_
  refine lv_iload_n hx hb dX1_canFinish_1 rfl (lv_at hl 1 rfl) ?_
  obtain ⟨r22, e21, hf⟩ := ob_some hf
  refine hp_calli (va_runV (As := [.int v1]) (rest := []) ⟨hx, hb, hml, hown, hts⟩ (ok_X1_isRunning l D cy ad M0 _ v0 v1 r22 a0 e21) (cwV 1 hts (gdV q537 q253 q2 q87 q254) rfl rfl rfl (by decide +kernel) ⟨Nat.le_of_ble_eq_true rfl, Nat.le_of_ble_eq_true rfl⟩) (pre_V hP hK hN a0 ds_4 rfl) rfl rfl hl.1 rfl (lv_room (Nat.le_of_ble_eq_true rfl)) dX1_canFinish_2 ⟨Nat.le_of_ble_eq_true rfl, Nat.le_of_ble_eq_true rfl⟩) hP hS hA (fun H locs hP hS _ => ?_)
  refine lv_if_ne (tgt := 10) hx hb dX1_canFinish_5 (by decide) (fun c25 => ?_) (fun c25 => ?_)
  · have hf := if_f hf c25
    refine lv_aload_n hx hb dX1_canFinish_10 rfl (lv_at hl 0 rfl) ?_
    refine gf4 (v := .int (mI M0 4 v0 5)) hx hb hts hown hK hP a0 5 (by decide) (hts _ q139) rfl rfl dX1_canFinish_11 ?_
    refine lv_iconst (v := (1 : Int32)) hx hb dX1_canFinish_14 (by decide) ?_
    refine lv_icmp_le (tgt := 33) hx hb dX1_canFinish_15 (by decide) (fun c26 => ?_) (fun c26 => ?_)
    · have hf := if_t hf c26
      exact t_X1_canFinish_33 C v0 v1 v2 v3 _ _ _ a0 hf hP hS (lv_sub hl [0, 1, 2, 3] rfl)
    · have hf := if_f hf c26
      refine lv_aload_n hx hb dX1_canFinish_18 rfl (lv_at hl 0 rfl) ?_
      refine lv_iload_n hx hb dX1_canFinish_19 rfl (lv_at hl 2 rfl) ?_
      obtain ⟨r36, e35, hf⟩ := ob_some hf
      refine hp_calli (va_runV (As := [.int v2]) (rest := []) ⟨hx, hb, hml, hown, hts⟩ (ok_X1_isRunning l D cy ad M0 _ v0 v2 r36 a0 e35) (cwV 1 hts (gdV q537 q253 q2 q87 q254) rfl rfl rfl (by decide +kernel) ⟨Nat.le_of_ble_eq_true rfl, Nat.le_of_ble_eq_true rfl⟩) (pre_V hP hK hN a0 ds_4 rfl) rfl rfl hl.1 rfl (lv_room (Nat.le_of_ble_eq_true rfl)) dX1_canFinish_20 ⟨Nat.le_of_ble_eq_true rfl, Nat.le_of_ble_eq_true rfl⟩) hP hS hA (fun H locs hP hS _ => ?_)
      refine lv_if_eq (tgt := 31) hx hb dX1_canFinish_23 (by decide) (fun c39 => ?_) (fun c39 => ?_)
      · have hf := if_t hf c39
        refine lv_iconst (v := (0 : Int32)) hx hb dX1_canFinish_31 (by decide) ?_
        exact hp_zret hx hb hr hlocks (Or.inl rfl) (Option.some.inj hf) rfl hP hS keep_rf dX1_canFinish_32
      · have hf := if_f hf c39
        refine lv_iload_n hx hb dX1_canFinish_26 rfl (lv_at hl 2 rfl) ?_
        refine lv_iload_n hx hb dX1_canFinish_27 rfl (lv_at hl 1 rfl) ?_
        refine lv_icmp_ne (tgt := 33) hx hb dX1_canFinish_28 (by decide) (fun c40 => ?_) (fun c40 => ?_)
        · have hf := if_f hf c40
          exact t_X1_canFinish_33 C v0 v1 v2 v3 _ _ _ a0 hf hP hS (lv_sub hl [0, 1, 2, 3] rfl)
        · have hf := if_t hf c40
          refine lv_iconst (v := (0 : Int32)) hx hb dX1_canFinish_31 (by decide) ?_
          exact hp_zret hx hb hr hlocks (Or.inl rfl) (Option.some.inj hf) rfl hP hS keep_rf dX1_canFinish_32
  · have hf := if_t hf c25
    refine lv_iconst (v := (0 : Int32)) hx hb dX1_canFinish_8 (by decide) ?_
    exact hp_zret hx hb hr hlocks (Or.inl rfl) (Option.some.inj hf) rfl hP hS keep_rf dX1_canFinish_9
