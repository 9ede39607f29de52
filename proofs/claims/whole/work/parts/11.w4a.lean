/-! ===== walks of the model, 1: by program out of the bytecode ===== -/

def f_X4_in (v0 : Int32) (v1 : Int32) (v2 : Int32) (M0 : Mm) : Option Int32 :=
  if v0 < v1 then (some (0 : Int32)) else (if v2 < v0 then (some (0 : Int32)) else (some (1 : Int32)))
set_option maxRecDepth 100000 in
set_option maxHeartbeats 4000000 in
theorem ok_X4_in (l : Launch) (D : va_G) (cy : Nat → ClassId) (ad : Nat → Nat → Nat) (M0 : Mm) (sz : Nat) (v0 : Int32) (v1 : Int32) (v2 : Int32) (r0 : Int32) (hf : f_X4_in v0 v1 v2 M0 = some r0) : Met l yX4_in (Cond.code yX4_in cX4_in 3 (some .boolean) :: BW) { frames := 0, cells := 0, slots := 0, locals := 0 } (va_Pc [.int v0, .int v1, .int v2] (PRE D cy ad M0 sz)) (QI D cy ad M0 sz r0 M0) 0 0 (AA ad M0 sz) := by
  refine Met.ofW (cc := cX4_in) (maxL := 3) (ret := (some .boolean)) (by decide) rfl ?_
  intro p e s m args below meth c s₁ B hml hv
  obtain ⟨rfl, rfl, hP0, hK, hN⟩ := hv
  have hx := B.exec
  have hb := B.bytes
  have hr := B.returns
  have hts0 := atoms_spec (ws := (Cond.code yX4_in cX4_in 3 (some .boolean) :: BW)) B.pre
  have hts : ∀ w ∈ BW, w.before ([.int v0, .int v1, .int v2] : List Value).toArray s = true := fun w h => hts0 w (List.mem_cons_of_mem _ h)
  have hown : s.vm.findClass RX4 = some m.cls := findClass_of_methodNamed B.named
  have hlocks := B.notSynchronized
  have hA : ∀ q : Nat, s.heap.size ≤ q → AA ad M0 s.heap.size q := fun q h => Or.inr h
  have C : Cx RX4 cX4_in 3 (some .boolean) D cy (AA ad M0 s.heap.size) p s m ([.int v0, .int v1, .int v2] : List Value).toArray meth c := ⟨hx, hb, hr, hml, hown, hts, hlocks, hK, hN, hA⟩
  have hP := hp_self (sz := s.heap.size) hP0
  have hS : va_S (AA ad M0 s.heap.size) s.heap s.heap [] := va_S.rf
  have hl := lv_entry ([.int v0, .int v1, .int v2]) (n := 3) (Nat.le_of_ble_eq_true rfl)
  rw [lg_entry_eq]
  generalize (lg_sl ([.int v0, .int v1, .int v2]) ++ List.replicate (3 - (lg_sl ([.int v0, .int v1, .int v2])).length) Slot.unset).toArray = ls at hl ⊢
  have hl : lv_has ls 3 [(0, .int v0), (1, .int v1), (2, .int v2)] := hl
  unfold f_X4_in at hf
  refine lv_iload_n hx hb dX4_in_0 rfl (lv_at hl 0 rfl) ?_
  refine lv_iload_n hx hb dX4_in_1 rfl (lv_at hl 1 rfl) ?_
  refine lv_icmp_lt (tgt := 14) hx hb dX4_in_2 (by decide) (fun c3 => ?_) (fun c3 => ?_)
  · have hf := if_t hf c3
    refine lv_iconst (v := (0 : Int32)) hx hb dX4_in_14 (by decide) ?_
    exact hp_zret hx hb hr hlocks (Or.inl rfl) (Option.some.inj hf) rfl hP hS keep_rf dX4_in_15
  · have hf := if_f hf c3
    refine lv_iload_n hx hb dX4_in_5 rfl (lv_at hl 0 rfl) ?_
    refine lv_iload_n hx hb dX4_in_6 rfl (lv_at hl 2 rfl) ?_
    refine lv_icmp_gt (tgt := 14) hx hb dX4_in_7 (by decide) (fun c4 => ?_) (fun c4 => ?_)
    · have hf := if_t hf c4
      refine lv_iconst (v := (0 : Int32)) hx hb dX4_in_14 (by decide) ?_
      exact hp_zret hx hb hr hlocks (Or.inl rfl) (Option.some.inj hf) rfl hP hS keep_rf dX4_in_15
    · have hf := if_f hf c4
      refine lv_iconst (v := (1 : Int32)) hx hb dX4_in_10 (by decide) ?_
      refine lv_goto (tgt := 15) hx hb dX4_in_11 (by decide) ?_
      exact hp_zret hx hb hr hlocks (Or.inr rfl) (Option.some.inj hf) rfl hP hS keep_rf dX4_in_15

def f_X4_isRace (v0 : Nat) (v1 : Int32) (M0 : Mm) : Option Int32 :=
  ob (f_X4_in v1 (1 : Int32) (12 : Int32) M0) fun r13 => if r13 = 0 then (some (0 : Int32)) else (ob (mR M0 0 v0 0) fun i18 => ix v1 13 (if (mI M0 10 i18 (v1).toNatClampNeg) ≤ 0 then (some (0 : Int32)) else (some (1 : Int32))))
set_option maxRecDepth 100000 in
set_option maxHeartbeats 4000000 in
theorem ok_X4_isRace (l : Launch) (D : va_G) (cy : Nat → ClassId) (ad : Nat → Nat → Nat) (M0 : Mm) (sz : Nat) (v0 : Nat) (v1 : Int32) (r0 : Int32) (a0 : mA M0 0 v0 = true) (hf : f_X4_isRace v0 v1 M0 = some r0) : Met l yX4_isRace (Cond.code yX4_isRace cX4_isRace 2 (some .boolean) :: BW) { frames := 1, cells := 0, slots := 0, locals := 22 } (va_Pc [.ref (ad 0 v0), .int v1] (PRE D cy ad M0 sz)) (QI D cy ad M0 sz r0 M0) 0 0 (AA ad M0 sz) := by
  refine Met.ofW (cc := cX4_isRace) (maxL := 2) (ret := (some .boolean)) (by decide) rfl ?_
  intro p e s m args below meth c s₁ B hml hv
  obtain ⟨rfl, rfl, hP0, hK, hN⟩ := hv
  have hx := B.exec
  have hb := B.bytes
  have hr := B.returns
  have hts0 := atoms_spec (ws := (Cond.code yX4_isRace cX4_isRace 2 (some .boolean) :: BW)) B.pre
  have hts : ∀ w ∈ BW, w.before ([.ref (ad 0 v0), .int v1] : List Value).toArray s = true := fun w h => hts0 w (List.mem_cons_of_mem _ h)
  have hown : s.vm.findClass RX4 = some m.cls := findClass_of_methodNamed B.named
  have hlocks := B.notSynchronized
  have hA : ∀ q : Nat, s.heap.size ≤ q → AA ad M0 s.heap.size q := fun q h => Or.inr h
  have C : Cx RX4 cX4_isRace 2 (some .boolean) D cy (AA ad M0 s.heap.size) p s m ([.ref (ad 0 v0), .int v1] : List Value).toArray meth c := ⟨hx, hb, hr, hml, hown, hts, hlocks, hK, hN, hA⟩
  have hP := hp_self (sz := s.heap.size) hP0
  have hS : va_S (AA ad M0 s.heap.size) s.heap s.heap [] := va_S.rf
  have hl := lv_entry ([.ref (ad 0 v0), .int v1]) (n := 2) (Nat.le_of_ble_eq_true rfl)
  rw [lg_entry_eq]
  generalize (lg_sl ([.ref (ad 0 v0), .int v1]) ++ List.replicate (2 - (lg_sl ([.ref (ad 0 v0), .int v1])).length) Slot.unset).toArray = ls at hl ⊢
  have hl : lv_has ls 2 [(0, .ref (ad 0 v0)), (1, .int v1)] := hl
  unfold f_X4_isRace at hf
  refine lv_iload_n hx hb dX4_isRace_0 rfl (lv_at hl 1 rfl) ?_
  refine lv_iconst (v := (1 : Int32)) hx hb dX4_isRace_1 (by decide) ?_
  refine lv_bipush (v := (12 : Int32)) hx hb dX4_isRace_2 (by decide) ?_
  obtain ⟨r13, e12, hf⟩ := ob_some hf
  refine hp_calli (va_runS (As := [.int v1, .int (1 : Int32), .int (12 : Int32)]) (rest := []) ⟨hx, hb, hml, hown, hts⟩ (ok_X4_in l D cy ad M0 _ v1 (1 : Int32) (12 : Int32) r13  e12) (va_cwS 3 hts (gdS q708 q709 q86 q710) rfl rfl rfl (by decide +kernel) ⟨Nat.le_of_ble_eq_true rfl, Nat.le_of_ble_eq_true rfl⟩) (pre_S hP hK hN) rfl rfl hl.1 rfl (lv_room (Nat.le_of_ble_eq_true rfl)) dX4_isRace_4 ⟨Nat.le_of_ble_eq_true rfl, Nat.le_of_ble_eq_true rfl⟩) hP hS hA (fun H locs hP hS _ => ?_)
  refine lv_if_eq (tgt := 23) hx hb dX4_isRace_7 (by decide) (fun c16 => ?_) (fun c16 => ?_)
  · have hf := if_t hf c16
    refine lv_iconst (v := (0 : Int32)) hx hb dX4_isRace_23 (by decide) ?_
    exact hp_zret hx hb hr hlocks (Or.inl rfl) (Option.some.inj hf) rfl hP hS keep_rf dX4_isRace_24
  · have hf := if_f hf c16
    refine lv_aload_n hx hb dX4_isRace_10 rfl (lv_at hl 0 rfl) ?_
    have h17 : ∀ j : Nat, (mR M0 0 v0 0) = some j → mA M0 10 j = true := fun j hj => hp_wf hP a0 hj
    refine gf0 (v := va_rf (((mR M0 0 v0 0)).map (ad 10))) hx hb hts hown hK hP a0 0 (by decide) (hts _ q605) rfl rfl dX4_isRace_11 ?_
    refine lv_iload_n hx hb dX4_isRace_14 rfl (lv_at hl 1 rfl) ?_
    obtain ⟨i18, e19, hf⟩ := ob_some hf
    have h20 : mA M0 10 i18 = true := h17 i18 e19
    refine W_stk (st := [.int v1, va_rf (((mR M0 0 v0 0)).map (ad 10))]) (st' := [.int v1, .ref (ad 10 i18)]) (by first | (rw [e19]; done) | (rw [e19]; rfl)) ?_
    obtain ⟨h21, hf⟩ := ix_some hf
    refine hp_iald hx hb hK hP h20 rfl h21 dX4_isRace_15 ?_
    refine lv_if_le (tgt := 23) hx hb dX4_isRace_16 (by decide) (fun c22 => ?_) (fun c22 => ?_)
    · have hf := if_t hf c22
      refine lv_iconst (v := (0 : Int32)) hx hb dX4_isRace_23 (by decide) ?_
      exact hp_zret hx hb hr hlocks (Or.inl rfl) (Option.some.inj hf) rfl hP hS keep_rf dX4_isRace_24
    · have hf := if_f hf c22
      refine lv_iconst (v := (1 : Int32)) hx hb dX4_isRace_19 (by decide) ?_
      refine lv_goto (tgt := 24) hx hb dX4_isRace_20 (by decide) ?_
      exact hp_zret hx hb hr hlocks (Or.inr rfl) (Option.some.inj hf) rfl hP hS keep_rf dX4_isRace_24

def f_X4_isRunner (v0 : Nat) (v1 : Int32) (v2 : Int32) (M0 : Mm) : Option Int32 :=
  ob (mR M0 0 v0 0) fun i12 => ix v1 13 (ob (f_X4_in v2 (1 : Int32) (mI M0 10 i12 (v1).toNatClampNeg) M0) fun r17 => zb r17 (some r17))
set_option maxRecDepth 100000 in
set_option maxHeartbeats 4000000 in
theorem ok_X4_isRunner (l : Launch) (D : va_G) (cy : Nat → ClassId) (ad : Nat → Nat → Nat) (M0 : Mm) (sz : Nat) (v0 : Nat) (v1 : Int32) (v2 : Int32) (r0 : Int32) (a0 : mA M0 0 v0 = true) (hf : f_X4_isRunner v0 v1 v2 M0 = some r0) : Met l yX4_isRunner (Cond.code yX4_isRunner cX4_isRunner 3 (some .boolean) :: BW) { frames := 1, cells := 0, slots := 0, locals := 22 } (va_Pc [.ref (ad 0 v0), .int v1, .int v2] (PRE D cy ad M0 sz)) (QI D cy ad M0 sz r0 M0) 0 0 (AA ad M0 sz) := by
  refine Met.ofW (cc := cX4_isRunner) (maxL := 3) (ret := (some .boolean)) (by decide) rfl ?_
  intro p e s m args below meth c s₁ B hml hv
  obtain ⟨rfl, rfl, hP0, hK, hN⟩ := hv
  have hx := B.exec
  have hb := B.bytes
  have hr := B.returns
  have hts0 := atoms_spec (ws := (Cond.code yX4_isRunner cX4_isRunner 3 (some .boolean) :: BW)) B.pre
  have hts : ∀ w ∈ BW, w.before ([.ref (ad 0 v0), .int v1, .int v2] : List Value).toArray s = true := fun w h => hts0 w (List.mem_cons_of_mem _ h)
  have hown : s.vm.findClass RX4 = some m.cls := findClass_of_methodNamed B.named
  have hlocks := B.notSynchronized
  have hA : ∀ q : Nat, s.heap.size ≤ q → AA ad M0 s.heap.size q := fun q h => Or.inr h
  have C : Cx RX4 cX4_isRunner 3 (some .boolean) D cy (AA ad M0 s.heap.size) p s m ([.ref (ad 0 v0), .int v1, .int v2] : List Value).toArray meth c := ⟨hx, hb, hr, hml, hown, hts, hlocks, hK, hN, hA⟩
  have hP := hp_self (sz := s.heap.size) hP0
  have hS : va_S (AA ad M0 s.heap.size) s.heap s.heap [] := va_S.rf
  have hl := lv_entry ([.ref (ad 0 v0), .int v1, .int v2]) (n := 3) (Nat.le_of_ble_eq_true rfl)
  rw [lg_entry_eq]
  generalize (lg_sl ([.ref (ad 0 v0), .int v1, .int v2]) ++ List.replicate (3 - (lg_sl ([.ref (ad 0 v0), .int v1, .int v2])).length) Slot.unset).toArray = ls at hl ⊢
  have hl : lv_has ls 3 [(0, .ref (ad 0 v0)), (1, .int v1), (2, .int v2)] := hl
  unfold f_X4_isRunner at hf
  refine lv_iload_n hx hb dX4_isRunner_0 rfl (lv_at hl 2 rfl) ?_
  refine lv_iconst (v := (1 : Int32)) hx hb dX4_isRunner_1 (by decide) ?_
  refine lv_aload_n hx hb dX4_isRunner_2 rfl (lv_at hl 0 rfl) ?_
  have h11 : ∀ j : Nat, (mR M0 0 v0 0) = some j → mA M0 10 j = true := fun j hj => hp_wf hP a0 hj
  refine gf0 (v := va_rf (((mR M0 0 v0 0)).map (ad 10))) hx hb hts hown hK hP a0 0 (by decide) (hts _ q605) rfl rfl dX4_isRunner_3 ?_
  refine lv_iload_n hx hb dX4_isRunner_6 rfl (lv_at hl 1 rfl) ?_
  obtain ⟨i12, e13, hf⟩ := ob_some hf
  have h14 : mA M0 10 i12 = true := h11 i12 e13
  refine W_stk (st := [.int v1, va_rf (((mR M0 0 v0 0)).map (ad 10)), .int (1 : Int32), .int v2]) (st' := [.int v1, .ref (ad 10 i12), .int (1 : Int32), .int v2]) (by first | (rw [e13]; done) | (rw [e13]; rfl)) ?_
  obtain ⟨h15, hf⟩ := ix_some hf
  refine hp_iald hx hb hK hP h14 rfl h15 dX4_isRunner_7 ?_
  obtain ⟨r17, e16, hf⟩ := ob_some hf
  refine hp_calli (va_runS (As := [.int v2, .int (1 : Int32), .int (mI M0 10 i12 (v1).toNatClampNeg)]) (rest := []) ⟨hx, hb, hml, hown, hts⟩ (ok_X4_in l D cy ad M0 _ v2 (1 : Int32) (mI M0 10 i12 (v1).toNatClampNeg) r17  e16) (va_cwS 3 hts (gdS q708 q709 q86 q710) rfl rfl rfl (by decide +kernel) ⟨Nat.le_of_ble_eq_true rfl, Nat.le_of_ble_eq_true rfl⟩) (pre_S hP hK hN) rfl rfl hl.1 rfl (lv_room (Nat.le_of_ble_eq_true rfl)) dX4_isRunner_8 ⟨Nat.le_of_ble_eq_true rfl, Nat.le_of_ble_eq_true rfl⟩) hP hS hA (fun H locs hP hS _ => ?_)
  obtain ⟨h20, hf⟩ := zb_some hf
  exact hp_zret hx hb hr hlocks h20 (Option.some.inj hf) rfl hP hS keep_rf dX4_isRunner_11

def f_X4_runs (v0 : Nat) (v1 : Int32) (v2 : Int32) (M0 : Mm) : Option Int32 :=
  ob (f_X4_isRunner v0 v1 v2 M0) fun r13 => if r13 = 0 then (some (0 : Int32)) else (ob (mR M0 0 v0 3) fun i18 => ix (((25 : Int32) * v1) + v2) 325 (if (mI M0 13 i18 ((((25 : Int32) * v1) + v2)).toNatClampNeg) = 0 then (some (1 : Int32)) else (some (0 : Int32))))
set_option maxRecDepth 100000 in
set_option maxHeartbeats 4000000 in
theorem ok_X4_runs (l : Launch) (D : va_G) (cy : Nat → ClassId) (ad : Nat → Nat → Nat) (M0 : Mm) (sz : Nat) (v0 : Nat) (v1 : Int32) (v2 : Int32) (r0 : Int32) (a0 : mA M0 0 v0 = true) (hf : f_X4_runs v0 v1 v2 M0 = some r0) : Met l yX4_runs (Cond.code yX4_runs cX4_runs 3 (some .boolean) :: BW) { frames := 2, cells := 0, slots := 0, locals := 44 } (va_Pc [.ref (ad 0 v0), .int v1, .int v2] (PRE D cy ad M0 sz)) (QI D cy ad M0 sz r0 M0) 0 0 (AA ad M0 sz) := by
  refine Met.ofW (cc := cX4_runs) (maxL := 3) (ret := (some .boolean)) (by decide) rfl ?_
  intro p e s m args below meth c s₁ B hml hv
  obtain ⟨rfl, rfl, hP0, hK, hN⟩ := hv
  have hx := B.exec
  have hb := B.bytes
  have hr := B.returns
  have hts0 := atoms_spec (ws := (Cond.code yX4_runs cX4_runs 3 (some .boolean) :: BW)) B.pre
  have hts : ∀ w ∈ BW, w.before ([.ref (ad 0 v0), .int v1, .int v2] : List Value).toArray s = true := fun w h => hts0 w (List.mem_cons_of_mem _ h)
  have hown : s.vm.findClass RX4 = some m.cls := findClass_of_methodNamed B.named
  have hlocks := B.notSynchronized
  have hA : ∀ q : Nat, s.heap.size ≤ q → AA ad M0 s.heap.size q := fun q h => Or.inr h
  have C : Cx RX4 cX4_runs 3 (some .boolean) D cy (AA ad M0 s.heap.size) p s m ([.ref (ad 0 v0), .int v1, .int v2] : List Value).toArray meth c := ⟨hx, hb, hr, hml, hown, hts, hlocks, hK, hN, hA⟩
  have hP := hp_self (sz := s.heap.size) hP0
  have hS : va_S (AA ad M0 s.heap.size) s.heap s.heap [] := va_S.rf
  have hl := lv_entry ([.ref (ad 0 v0), .int v1, .int v2]) (n := 3) (Nat.le_of_ble_eq_true rfl)
  rw [lg_entry_eq]
  generalize (lg_sl ([.ref (ad 0 v0), .int v1, .int v2]) ++ List.replicate (3 - (lg_sl ([.ref (ad 0 v0), .int v1, .int v2])).length) Slot.unset).toArray = ls at hl ⊢
  have hl : lv_has ls 3 [(0, .ref (ad 0 v0)), (1, .int v1), (2, .int v2)] := hl
  unfold f_X4_runs at hf
  refine lv_aload_n hx hb dX4_runs_0 rfl (lv_at hl 0 rfl) ?_
  refine lv_iload_n hx hb dX4_runs_1 rfl (lv_at hl 1 rfl) ?_
  refine lv_iload_n hx hb dX4_runs_2 rfl (lv_at hl 2 rfl) ?_
  obtain ⟨r13, e12, hf⟩ := ob_some hf
  refine hp_calli (va_runV (As := [.int v1, .int v2]) (rest := []) ⟨hx, hb, hml, hown, hts⟩ (ok_X4_isRunner l D cy ad M0 _ v0 v1 v2 r13 a0 e12) (cwV 2 hts (gdV q738 q740 q56 q86 q741) rfl rfl rfl (by decide +kernel) ⟨Nat.le_of_ble_eq_true rfl, Nat.le_of_ble_eq_true rfl⟩) (pre_V hP hK hN a0 ds_0 rfl) rfl rfl hl.1 rfl (lv_room (Nat.le_of_ble_eq_true rfl)) dX4_runs_3 ⟨Nat.le_of_ble_eq_true rfl, Nat.le_of_ble_eq_true rfl⟩) hP hS hA (fun H locs hP hS _ => ?_)
  refine lv_if_eq (tgt := 27) hx hb dX4_runs_6 (by decide) (fun c16 => ?_) (fun c16 => ?_)
  · have hf := if_t hf c16
    refine lv_iconst (v := (0 : Int32)) hx hb dX4_runs_27 (by decide) ?_
    exact hp_zret hx hb hr hlocks (Or.inl rfl) (Option.some.inj hf) rfl hP hS keep_rf dX4_runs_28
  · have hf := if_f hf c16
    refine lv_aload_n hx hb dX4_runs_9 rfl (lv_at hl 0 rfl) ?_
    have h17 : ∀ j : Nat, (mR M0 0 v0 3) = some j → mA M0 13 j = true := fun j hj => hp_wf hP a0 hj
    refine gf0 (v := va_rf (((mR M0 0 v0 3)).map (ad 13))) hx hb hts hown hK hP a0 3 (by decide) (hts _ q608) rfl rfl dX4_runs_10 ?_
    refine lv_bipush (v := (25 : Int32)) hx hb dX4_runs_13 (by decide) ?_
    refine lv_iload_n hx hb dX4_runs_15 rfl (lv_at hl 1 rfl) ?_
    refine lv_imul hx hb dX4_runs_16 ?_
    refine lv_iload_n hx hb dX4_runs_17 rfl (lv_at hl 2 rfl) ?_
    refine lv_iadd hx hb dX4_runs_18 ?_
    obtain ⟨i18, e19, hf⟩ := ob_some hf
    have h20 : mA M0 13 i18 = true := h17 i18 e19
    refine W_stk (st := [.int (((25 : Int32) * v1) + v2), va_rf (((mR M0 0 v0 3)).map (ad 13))]) (st' := [.int (((25 : Int32) * v1) + v2), .ref (ad 13 i18)]) (by first | (rw [e19]; done) | (rw [e19]; rfl)) ?_
    obtain ⟨h21, hf⟩ := ix_some hf
    refine hp_zald hx hb hK hP h20 rfl h21 dX4_runs_19 ?_
    refine lv_if_ne (tgt := 27) hx hb dX4_runs_20 (by decide) (fun c22 => ?_) (fun c22 => ?_)
    · have hf := if_f hf c22
      refine lv_iconst (v := (0 : Int32)) hx hb dX4_runs_27 (by decide) ?_
      exact hp_zret hx hb hr hlocks (Or.inl rfl) (Option.some.inj hf) rfl hP hS keep_rf dX4_runs_28
    · have hf := if_t hf c22
      refine lv_iconst (v := (1 : Int32)) hx hb dX4_runs_23 (by decide) ?_
      refine lv_goto (tgt := 28) hx hb dX4_runs_24 (by decide) ?_
      exact hp_zret hx hb hr hlocks (Or.inr rfl) (Option.some.inj hf) rfl hP hS keep_rf dX4_runs_28
def f_X4_running_4 (M0 : Mm) : Nat → Nat → Int32 → Int32 → Int32 → Option Int32
  | 0, _, _, _, _ => none
  | n + 1, v0, v1, v2, v3 => ob (mR M0 0 v0 0) fun i22 => ix v1 13 (if (mI M0 10 i22 (v1).toNatClampNeg) < v3 then (some v2) else (ob (mR M0 0 v0 3) fun i28 => ix (((25 : Int32) * v1) + v3) 325 (if (mI M0 13 i28 ((((25 : Int32) * v1) + v3)).toNatClampNeg) = 0 then (lt (v2 + (1 : Int32)) fun x33 => lt (v3 + (1 : Int32)) fun x35 => f_X4_running_4 M0 n v0 v1 x33 x35) else (lt (v2 + (0 : Int32)) fun x37 => lt (v3 + (1 : Int32)) fun x39 => f_X4_running_4 M0 n v0 v1 x37 x39))))
def f_X4_running (v0 : Nat) (v1 : Int32) (M0 : Mm) : Option Int32 :=
  f_X4_running_4 M0 FU v0 v1 (0 : Int32) (1 : Int32)
set_option maxRecDepth 100000 in
set_option maxHeartbeats 4000000 in
theorem t_X4_running_4 {p : Program} {l : Launch} {e : Env} {s : State} {m : MethodId} {args : Array Value} {below : List Frame} {meth : Method} {c : Code} {D : va_G} {cy : Nat → ClassId} {ad : Nat → Nat → Nat} {M0 : Mm} {r0 : Int32} (C : Cx RX4 cX4_running 4 (some .int) D cy (AA ad M0 s.heap.size) p s m args meth c) : ∀ (n : Nat), ∀ (v0 : Nat) (v1 : Int32) (v2 : Int32) (v3 : Int32) (H : Heap) (locs : List Loc) (ls : Array Slot), (mA M0 0 v0 = true) → f_X4_running_4 M0 n v0 v1 v2 v3 = some r0 → HP D cy (AA ad M0 s.heap.size) ad M0 H → va_S (AA ad M0 s.heap.size) s.heap H locs → lv_has ls 4 [(0, .ref (ad 0 v0)), (1, .int v1), (2, .int v2), (3, .int v3)] → W p l e { frames := 0, cells := 0, slots := 0, locals := 0 } s m args below meth c H locs 0 0 (MQ below (QI D cy ad M0 s.heap.size r0 M0) args s 0 0 (AA ad M0 s.heap.size)) (F0 m 4 ls []) := by
  obtain ⟨hx, hb, hr, hml, hown, hts, hlocks, hK, hN, hA⟩ := id C
  intro n
  induction n with
  | zero =>
    intro v0 v1 v2 v3 H locs ls a0 hf hP hS hl
    simp [f_X4_running_4] at hf
  | succ n ih =>
    intro v0 v1 v2 v3 H locs ls a0 hf hP hS hl
    rw [f_X4_running_4] at hf
    refine lv_iload_n hx hb dX4_running_4 rfl (lv_at hl 3 rfl) ?_
    refine lv_aload_n hx hb dX4_running_5 rfl (lv_at hl 0 rfl) ?_
    have h21 : ∀ j : Nat, (mR M0 0 v0 0) = some j → mA M0 10 j = true := fun j hj => hp_wf hP a0 hj
    refine gf0 (v := va_rf (((mR M0 0 v0 0)).map (ad 10))) hx hb hts hown hK hP a0 0 (by decide) (hts _ q605) rfl rfl dX4_running_6 ?_
    refine lv_iload_n hx hb dX4_running_9 rfl (lv_at hl 1 rfl) ?_
    obtain ⟨i22, e23, hf⟩ := ob_some hf
    have h24 : mA M0 10 i22 = true := h21 i22 e23
    refine W_stk (st := [.int v1, va_rf (((mR M0 0 v0 0)).map (ad 10)), .int v3]) (st' := [.int v1, .ref (ad 10 i22), .int v3]) (by first | (rw [e23]; done) | (rw [e23]; rfl)) ?_
    obtain ⟨h25, hf⟩ := ix_some hf
    refine hp_iald hx hb hK hP h24 rfl h25 dX4_running_10 ?_
    refine lv_icmp_gt (tgt := 42) hx hb dX4_running_11 (by decide) (fun c26 => ?_) (fun c26 => ?_)
    · have hf := if_t hf c26
      refine lv_iload_n hx hb dX4_running_42 rfl (lv_at hl 2 rfl) ?_
      exact hp_iret hx hb hr hlocks (Option.some.inj hf) rfl hP hS keep_rf dX4_running_43
    · have hf := if_f hf c26
      refine lv_iload_n hx hb dX4_running_14 rfl (lv_at hl 2 rfl) ?_
      refine lv_aload_n hx hb dX4_running_15 rfl (lv_at hl 0 rfl) ?_
      have h27 : ∀ j : Nat, (mR M0 0 v0 3) = some j → mA M0 13 j = true := fun j hj => hp_wf hP a0 hj
      refine gf0 (v := va_rf (((mR M0 0 v0 3)).map (ad 13))) hx hb hts hown hK hP a0 3 (by decide) (hts _ q608) rfl rfl dX4_running_16 ?_
      refine lv_bipush (v := (25 : Int32)) hx hb dX4_running_19 (by decide) ?_
      refine lv_iload_n hx hb dX4_running_21 rfl (lv_at hl 1 rfl) ?_
      refine lv_imul hx hb dX4_running_22 ?_
      refine lv_iload_n hx hb dX4_running_23 rfl (lv_at hl 3 rfl) ?_
      refine lv_iadd hx hb dX4_running_24 ?_
      obtain ⟨i28, e29, hf⟩ := ob_some hf
      have h30 : mA M0 13 i28 = true := h27 i28 e29
      refine W_stk (st := [.int (((25 : Int32) * v1) + v3), va_rf (((mR M0 0 v0 3)).map (ad 13)), .int v2]) (st' := [.int (((25 : Int32) * v1) + v3), .ref (ad 13 i28), .int v2]) (by first | (rw [e29]; done) | (rw [e29]; rfl)) ?_
      obtain ⟨h31, hf⟩ := ix_some hf
      refine hp_zald hx hb hK hP h30 rfl h31 dX4_running_25 ?_
      refine lv_if_eq (tgt := 33) hx hb dX4_running_26 (by decide) (fun c32 => ?_) (fun c32 => ?_)
      · have hf := if_t hf c32
        refine lv_iconst (v := (1 : Int32)) hx hb dX4_running_33 (by decide) ?_
        refine lv_iadd hx hb dX4_running_34 ?_
        obtain ⟨x33, e34, hf⟩ := lt_some hf
        refine W_topI e34 ?_
        refine lv_istore_n (lv' := [(2, .int x33), (0, .ref (ad 0 v0)), (1, .int v1), (3, .int v3)]) hx hb dX4_running_35 rfl hl (by decide) rfl (fun ls hl => ?_)
        obtain ⟨x35, e36, hf⟩ := lt_some hf
        refine lv_iinc (v := x35) (lv' := [(3, .int x35), (2, .int x33), (0, .ref (ad 0 v0)), (1, .int v1)]) hx hb dX4_running_36 hl (k := 3) rfl (by rw [e36]; rfl) (by decide) rfl (fun ls hl => ?_)
        refine lv_goto (tgt := 4) hx hb dX4_running_39 (by decide) ?_
        exact ih v0 v1 x33 x35 _ _ _ a0 hf hP hS (lv_sub hl [2, 3, 1, 0] rfl)
      · have hf := if_f hf c32
        refine lv_iconst (v := (0 : Int32)) hx hb dX4_running_29 (by decide) ?_
        refine lv_goto (tgt := 34) hx hb dX4_running_30 (by decide) ?_
        refine lv_iadd hx hb dX4_running_34 ?_
        obtain ⟨x37, e38, hf⟩ := lt_some hf
        refine W_topI e38 ?_
        refine lv_istore_n (lv' := [(2, .int x37), (0, .ref (ad 0 v0)), (1, .int v1), (3, .int v3)]) hx hb dX4_running_35 rfl hl (by decide) rfl (fun ls hl => ?_)
        obtain ⟨x39, e40, hf⟩ := lt_some hf
        refine lv_iinc (v := x39) (lv' := [(3, .int x39), (2, .int x37), (0, .ref (ad 0 v0)), (1, .int v1)]) hx hb dX4_running_36 hl (k := 3) rfl (by rw [e40]; rfl) (by decide) rfl (fun ls hl => ?_)
        refine lv_goto (tgt := 4) hx hb dX4_running_39 (by decide) ?_
        exact ih v0 v1 x37 x39 _ _ _ a0 hf hP hS (lv_sub hl [2, 3, 1, 0] rfl)
set_option maxRecDepth 100000 in
set_option maxHeartbeats 4000000 in
theorem ok_X4_running (l : Launch) (D : va_G) (cy : Nat → ClassId) (ad : Nat → Nat → Nat) (M0 : Mm) (sz : Nat) (v0 : Nat) (v1 : Int32) (r0 : Int32) (a0 : mA M0 0 v0 = true) (hf : f_X4_running v0 v1 M0 = some r0) : Met l yX4_running (Cond.code yX4_running cX4_running 4 (some .int) :: BW) { frames := 0, cells := 0, slots := 0, locals := 0 } (va_Pc [.ref (ad 0 v0), .int v1] (PRE D cy ad M0 sz)) (QI D cy ad M0 sz r0 M0) 0 0 (AA ad M0 sz) := by
  refine Met.ofW (cc := cX4_running) (maxL := 4) (ret := (some .int)) (by decide) rfl ?_
  intro p e s m args below meth c s₁ B hml hv
  obtain ⟨rfl, rfl, hP0, hK, hN⟩ := hv
  have hx := B.exec
  have hb := B.bytes
  have hr := B.returns
  have hts0 := atoms_spec (ws := (Cond.code yX4_running cX4_running 4 (some .int) :: BW)) B.pre
  have hts : ∀ w ∈ BW, w.before ([.ref (ad 0 v0), .int v1] : List Value).toArray s = true := fun w h => hts0 w (List.mem_cons_of_mem _ h)
  have hown : s.vm.findClass RX4 = some m.cls := findClass_of_methodNamed B.named
  have hlocks := B.notSynchronized
  have hA : ∀ q : Nat, s.heap.size ≤ q → AA ad M0 s.heap.size q := fun q h => Or.inr h
  have C : Cx RX4 cX4_running 4 (some .int) D cy (AA ad M0 s.heap.size) p s m ([.ref (ad 0 v0), .int v1] : List Value).toArray meth c := ⟨hx, hb, hr, hml, hown, hts, hlocks, hK, hN, hA⟩
  have hP := hp_self (sz := s.heap.size) hP0
  have hS : va_S (AA ad M0 s.heap.size) s.heap s.heap [] := va_S.rf
  have hl := lv_entry ([.ref (ad 0 v0), .int v1]) (n := 4) (Nat.le_of_ble_eq_true rfl)
  rw [lg_entry_eq]
  generalize (lg_sl ([.ref (ad 0 v0), .int v1]) ++ List.replicate (4 - (lg_sl ([.ref (ad 0 v0), .int v1])).length) Slot.unset).toArray = ls at hl ⊢
  have hl : lv_has ls 4 [(0, .ref (ad 0 v0)), (1, .int v1)] := hl
  unfold f_X4_running at hf
  refine lv_iconst (v := (0 : Int32)) hx hb dX4_running_0 (by decide) ?_
  refine lv_istore_n (lv' := [(2, .int (0 : Int32)), (0, .ref (ad 0 v0)), (1, .int v1)]) hx hb dX4_running_1 rfl hl (by decide) rfl (fun ls hl => ?_)
  refine lv_iconst (v := (1 : Int32)) hx hb dX4_running_2 (by decide) ?_
  refine lv_istore_n (lv' := [(3, .int (1 : Int32)), (2, .int (0 : Int32)), (0, .ref (ad 0 v0)), (1, .int v1)]) hx hb dX4_running_3 rfl hl (by decide) rfl (fun ls hl => ?_)
  exact t_X4_running_4 C FU v0 v1 (0 : Int32) (1 : Int32) _ _ _ a0 hf hP hS (lv_sub hl [2, 3, 1, 0] rfl)

def f_X4_poolOf (v0 : Nat) (v1 : Int32) (v2 : Int32) (M0 : Mm) : Option Int32 :=
  if v2 = (4 : Int32) then (ob (mR M0 0 v0 5) fun i42 => ix (52 : Int32) 53 (if (mI M0 15 i42 ((52 : Int32)).toNatClampNeg) = 0 then (some (-1 : Int32)) else (some (52 : Int32)))) else (ob (f_X4_isRace v0 v1 M0) fun r26 => if r26 = 0 then (some (-1 : Int32)) else (ob (f_X4_in v2 (0 : Int32) (3 : Int32) M0) fun r31 => if r31 = 0 then (some (-1 : Int32)) else (ob (mR M0 0 v0 5) fun i36 => ix (((4 : Int32) * v1) + v2) 53 (if (mI M0 15 i36 ((((4 : Int32) * v1) + v2)).toNatClampNeg) = 0 then (some (-1 : Int32)) else (some (((4 : Int32) * v1) + v2))))))
set_option maxRecDepth 100000 in
set_option maxHeartbeats 4000000 in
theorem ok_X4_poolOf (l : Launch) (D : va_G) (cy : Nat → ClassId) (ad : Nat → Nat → Nat) (M0 : Mm) (sz : Nat) (v0 : Nat) (v1 : Int32) (v2 : Int32) (r0 : Int32) (a0 : mA M0 0 v0 = true) (hf : f_X4_poolOf v0 v1 v2 M0 = some r0) : Met l yX4_poolOf (Cond.code yX4_poolOf cX4_poolOf 3 (some .int) :: BW) { frames := 2, cells := 0, slots := 0, locals := 43 } (va_Pc [.ref (ad 0 v0), .int v1, .int v2] (PRE D cy ad M0 sz)) (QI D cy ad M0 sz r0 M0) 0 0 (AA ad M0 sz) := by
  refine Met.ofW (cc := cX4_poolOf) (maxL := 3) (ret := (some .int)) (by decide) rfl ?_
  intro p e s m args below meth c s₁ B hml hv
  obtain ⟨rfl, rfl, hP0, hK, hN⟩ := hv
  have hx := B.exec
  have hb := B.bytes
  have hr := B.returns
  have hts0 := atoms_spec (ws := (Cond.code yX4_poolOf cX4_poolOf 3 (some .int) :: BW)) B.pre
  have hts : ∀ w ∈ BW, w.before ([.ref (ad 0 v0), .int v1, .int v2] : List Value).toArray s = true := fun w h => hts0 w (List.mem_cons_of_mem _ h)
  have hown : s.vm.findClass RX4 = some m.cls := findClass_of_methodNamed B.named
  have hlocks := B.notSynchronized
  have hA : ∀ q : Nat, s.heap.size ≤ q → AA ad M0 s.heap.size q := fun q h => Or.inr h
  have C : Cx RX4 cX4_poolOf 3 (some .int) D cy (AA ad M0 s.heap.size) p s m ([.ref (ad 0 v0), .int v1, .int v2] : List Value).toArray meth c := ⟨hx, hb, hr, hml, hown, hts, hlocks, hK, hN, hA⟩
  have hP := hp_self (sz := s.heap.size) hP0
  have hS : va_S (AA ad M0 s.heap.size) s.heap s.heap [] := va_S.rf
  have hl := lv_entry ([.ref (ad 0 v0), .int v1, .int v2]) (n := 3) (Nat.le_of_ble_eq_true rfl)
  rw [lg_entry_eq]
  generalize (lg_sl ([.ref (ad 0 v0), .int v1, .int v2]) ++ List.replicate (3 - (lg_sl ([.ref (ad 0 v0), .int v1, .int v2])).length) Slot.unset).toArray = ls at hl ⊢
  have hl : lv_has ls 3 [(0, .ref (ad 0 v0)), (1, .int v1), (2, .int v2)] := hl
  unfold f_X4_poolOf at hf
  refine lv_iload_n hx hb dX4_poolOf_0 rfl (lv_at hl 2 rfl) ?_
  refine lv_iconst (v := (4 : Int32)) hx hb dX4_poolOf_1 (by decide) ?_
  refine lv_icmp_ne (tgt := 22) hx hb dX4_poolOf_2 (by decide) (fun c24 => ?_) (fun c24 => ?_)
  · have hf := if_f hf c24
    refine lv_aload_n hx hb dX4_poolOf_22 rfl (lv_at hl 0 rfl) ?_
    refine lv_iload_n hx hb dX4_poolOf_23 rfl (lv_at hl 1 rfl) ?_
    obtain ⟨r26, e25, hf⟩ := ob_some hf
    refine hp_calli (va_runV (As := [.int v1]) (rest := []) ⟨hx, hb, hml, hown, hts⟩ (ok_X4_isRace l D cy ad M0 _ v0 v1 r26 a0 e25) (cwV 1 hts (gdV q715 q717 q53 q86 q718) rfl rfl rfl (by decide +kernel) ⟨Nat.le_of_ble_eq_true rfl, Nat.le_of_ble_eq_true rfl⟩) (pre_V hP hK hN a0 ds_0 rfl) rfl rfl hl.1 rfl (lv_room (Nat.le_of_ble_eq_true rfl)) dX4_poolOf_24 ⟨Nat.le_of_ble_eq_true rfl, Nat.le_of_ble_eq_true rfl⟩) hP hS hA (fun H locs hP hS _ => ?_)
    refine lv_if_eq (tgt := 60) hx hb dX4_poolOf_27 (by decide) (fun c29 => ?_) (fun c29 => ?_)
    · have hf := if_t hf c29
      refine lv_iconst (v := (-1 : Int32)) hx hb dX4_poolOf_60 (by decide) ?_
      exact hp_iret hx hb hr hlocks (Option.some.inj hf) rfl hP hS keep_rf dX4_poolOf_61
    · have hf := if_f hf c29
      refine lv_iload_n hx hb dX4_poolOf_30 rfl (lv_at hl 2 rfl) ?_
      refine lv_iconst (v := (0 : Int32)) hx hb dX4_poolOf_31 (by decide) ?_
      refine lv_iconst (v := (3 : Int32)) hx hb dX4_poolOf_32 (by decide) ?_
      obtain ⟨r31, e30, hf⟩ := ob_some hf
      refine hp_calli (va_runS (As := [.int v2, .int (0 : Int32), .int (3 : Int32)]) (rest := []) ⟨hx, hb, hml, hown, hts⟩ (ok_X4_in l D cy ad M0 _ v2 (0 : Int32) (3 : Int32) r31  e30) (va_cwS 3 hts (gdS q708 q709 q86 q710) rfl rfl rfl (by decide +kernel) ⟨Nat.le_of_ble_eq_true rfl, Nat.le_of_ble_eq_true rfl⟩) (pre_S hP hK hN) rfl rfl hl.1 rfl (lv_room (Nat.le_of_ble_eq_true rfl)) dX4_poolOf_33 ⟨Nat.le_of_ble_eq_true rfl, Nat.le_of_ble_eq_true rfl⟩) hP hS hA (fun H locs hP hS _ => ?_)
      refine lv_if_eq (tgt := 60) hx hb dX4_poolOf_36 (by decide) (fun c34 => ?_) (fun c34 => ?_)
      · have hf := if_t hf c34
        refine lv_iconst (v := (-1 : Int32)) hx hb dX4_poolOf_60 (by decide) ?_
        exact hp_iret hx hb hr hlocks (Option.some.inj hf) rfl hP hS keep_rf dX4_poolOf_61
      · have hf := if_f hf c34
        refine lv_aload_n hx hb dX4_poolOf_39 rfl (lv_at hl 0 rfl) ?_
        have h35 : ∀ j : Nat, (mR M0 0 v0 5) = some j → mA M0 15 j = true := fun j hj => hp_wf hP a0 hj
        refine gf0 (v := va_rf (((mR M0 0 v0 5)).map (ad 15))) hx hb hts hown hK hP a0 5 (by decide) (hts _ q610) rfl rfl dX4_poolOf_40 ?_
        refine lv_iconst (v := (4 : Int32)) hx hb dX4_poolOf_43 (by decide) ?_
        refine lv_iload_n hx hb dX4_poolOf_44 rfl (lv_at hl 1 rfl) ?_
        refine lv_imul hx hb dX4_poolOf_45 ?_
        refine lv_iload_n hx hb dX4_poolOf_46 rfl (lv_at hl 2 rfl) ?_
        refine lv_iadd hx hb dX4_poolOf_47 ?_
        obtain ⟨i36, e37, hf⟩ := ob_some hf
        have h38 : mA M0 15 i36 = true := h35 i36 e37
        refine W_stk (st := [.int (((4 : Int32) * v1) + v2), va_rf (((mR M0 0 v0 5)).map (ad 15))]) (st' := [.int (((4 : Int32) * v1) + v2), .ref (ad 15 i36)]) (by first | (rw [e37]; done) | (rw [e37]; rfl)) ?_
        obtain ⟨h39, hf⟩ := ix_some hf
        refine hp_zald hx hb hK hP h38 rfl h39 dX4_poolOf_48 ?_
        refine lv_if_eq (tgt := 60) hx hb dX4_poolOf_49 (by decide) (fun c40 => ?_) (fun c40 => ?_)
        · have hf := if_t hf c40
          refine lv_iconst (v := (-1 : Int32)) hx hb dX4_poolOf_60 (by decide) ?_
          exact hp_iret hx hb hr hlocks (Option.some.inj hf) rfl hP hS keep_rf dX4_poolOf_61
        · have hf := if_f hf c40
          refine lv_iconst (v := (4 : Int32)) hx hb dX4_poolOf_52 (by decide) ?_
          refine lv_iload_n hx hb dX4_poolOf_53 rfl (lv_at hl 1 rfl) ?_
          refine lv_imul hx hb dX4_poolOf_54 ?_
          refine lv_iload_n hx hb dX4_poolOf_55 rfl (lv_at hl 2 rfl) ?_
          refine lv_iadd hx hb dX4_poolOf_56 ?_
          refine lv_goto (tgt := 61) hx hb dX4_poolOf_57 (by decide) ?_
          exact hp_iret hx hb hr hlocks (Option.some.inj hf) rfl hP hS keep_rf dX4_poolOf_61
  · have hf := if_t hf c24
    refine lv_aload_n hx hb dX4_poolOf_5 rfl (lv_at hl 0 rfl) ?_
    have h41 : ∀ j : Nat, (mR M0 0 v0 5) = some j → mA M0 15 j = true := fun j hj => hp_wf hP a0 hj
    refine gf0 (v := va_rf (((mR M0 0 v0 5)).map (ad 15))) hx hb hts hown hK hP a0 5 (by decide) (hts _ q610) rfl rfl dX4_poolOf_6 ?_
    refine lv_bipush (v := (52 : Int32)) hx hb dX4_poolOf_9 (by decide) ?_
    obtain ⟨i42, e43, hf⟩ := ob_some hf
    have h44 : mA M0 15 i42 = true := h41 i42 e43
    refine W_stk (st := [.int (52 : Int32), va_rf (((mR M0 0 v0 5)).map (ad 15))]) (st' := [.int (52 : Int32), .ref (ad 15 i42)]) (by first | (rw [e43]; done) | (rw [e43]; rfl)) ?_
    obtain ⟨h45, hf⟩ := ix_some hf
    refine hp_zald hx hb hK hP h44 rfl h45 dX4_poolOf_11 ?_
    refine lv_if_eq (tgt := 20) hx hb dX4_poolOf_12 (by decide) (fun c46 => ?_) (fun c46 => ?_)
    · have hf := if_t hf c46
      refine lv_iconst (v := (-1 : Int32)) hx hb dX4_poolOf_20 (by decide) ?_
      exact hp_iret hx hb hr hlocks (Option.some.inj hf) rfl hP hS keep_rf dX4_poolOf_21
    · have hf := if_f hf c46
      refine lv_bipush (v := (52 : Int32)) hx hb dX4_poolOf_15 (by decide) ?_
      refine lv_goto (tgt := 21) hx hb dX4_poolOf_17 (by decide) ?_
      exact hp_iret hx hb hr hlocks (Option.some.inj hf) rfl hP hS keep_rf dX4_poolOf_21

def f_X4_kindOf (v0 : Int32) (M0 : Mm) : Option Int32 :=
  if v0 = (52 : Int32) then (some (4 : Int32)) else (dv (4 : Int32) (some (v0 - v0 / (4 : Int32) * (4 : Int32))))
set_option maxRecDepth 100000 in
set_option maxHeartbeats 4000000 in
theorem ok_X4_kindOf (l : Launch) (D : va_G) (cy : Nat → ClassId) (ad : Nat → Nat → Nat) (M0 : Mm) (sz : Nat) (v0 : Int32) (r0 : Int32) (hf : f_X4_kindOf v0 M0 = some r0) : Met l yX4_kindOf (Cond.code yX4_kindOf cX4_kindOf 1 (some .int) :: BW) { frames := 0, cells := 0, slots := 0, locals := 0 } (va_Pc [.int v0] (PRE D cy ad M0 sz)) (QI D cy ad M0 sz r0 M0) 0 0 (AA ad M0 sz) := by
  refine Met.ofW (cc := cX4_kindOf) (maxL := 1) (ret := (some .int)) (by decide) rfl ?_
  intro p e s m args below meth c s₁ B hml hv
  obtain ⟨rfl, rfl, hP0, hK, hN⟩ := hv
  have hx := B.exec
  have hb := B.bytes
  have hr := B.returns
  have hts0 := atoms_spec (ws := (Cond.code yX4_kindOf cX4_kindOf 1 (some .int) :: BW)) B.pre
  have hts : ∀ w ∈ BW, w.before ([.int v0] : List Value).toArray s = true := fun w h => hts0 w (List.mem_cons_of_mem _ h)
  have hown : s.vm.findClass RX4 = some m.cls := findClass_of_methodNamed B.named
  have hlocks := B.notSynchronized
  have hA : ∀ q : Nat, s.heap.size ≤ q → AA ad M0 s.heap.size q := fun q h => Or.inr h
  have C : Cx RX4 cX4_kindOf 1 (some .int) D cy (AA ad M0 s.heap.size) p s m ([.int v0] : List Value).toArray meth c := ⟨hx, hb, hr, hml, hown, hts, hlocks, hK, hN, hA⟩
  have hP := hp_self (sz := s.heap.size) hP0
  have hS : va_S (AA ad M0 s.heap.size) s.heap s.heap [] := va_S.rf
  have hl := lv_entry ([.int v0]) (n := 1) (Nat.le_of_ble_eq_true rfl)
  rw [lg_entry_eq]
  generalize (lg_sl ([.int v0]) ++ List.replicate (1 - (lg_sl ([.int v0])).length) Slot.unset).toArray = ls at hl ⊢
  have hl : lv_has ls 1 [(0, .int v0)] := hl
  unfold f_X4_kindOf at hf
  refine lv_iload_n hx hb dX4_kindOf_0 rfl (lv_at hl 0 rfl) ?_
  refine lv_bipush (v := (52 : Int32)) hx hb dX4_kindOf_1 (by decide) ?_
  refine lv_icmp_ne (tgt := 10) hx hb dX4_kindOf_3 (by decide) (fun c3 => ?_) (fun c3 => ?_)
  · have hf := if_f hf c3
    refine lv_iload_n hx hb dX4_kindOf_10 rfl (lv_at hl 0 rfl) ?_
    refine lv_iconst (v := (4 : Int32)) hx hb dX4_kindOf_11 (by decide) ?_
    obtain ⟨h4, hf⟩ := dv_some hf
    refine lv_irem hx hb dX4_kindOf_12 h4 ?_
    exact hp_iret hx hb hr hlocks (Option.some.inj hf) rfl hP hS keep_rf dX4_kindOf_13
  · have hf := if_t hf c3
    refine lv_iconst (v := (4 : Int32)) hx hb dX4_kindOf_6 (by decide) ?_
    refine lv_goto (tgt := 13) hx hb dX4_kindOf_7 (by decide) ?_
    exact hp_iret hx hb hr hlocks (Option.some.inj hf) rfl hP hS keep_rf dX4_kindOf_13

def f_X4_many (v0 : Int32) (M0 : Mm) : Option Int32 :=
  ob (f_X4_kindOf v0 M0) fun r8 => if (2 : Int32) ≤ r8 then (if r8 = (3 : Int32) then (some (3 : Int32)) else (some (2 : Int32))) else (some (1 : Int32))
set_option maxRecDepth 100000 in
set_option maxHeartbeats 4000000 in
theorem ok_X4_many (l : Launch) (D : va_G) (cy : Nat → ClassId) (ad : Nat → Nat → Nat) (M0 : Mm) (sz : Nat) (v0 : Int32) (r0 : Int32) (hf : f_X4_many v0 M0 = some r0) : Met l yX4_many (Cond.code yX4_many cX4_many 2 (some .int) :: BW) { frames := 1, cells := 0, slots := 0, locals := 20 } (va_Pc [.int v0] (PRE D cy ad M0 sz)) (QI D cy ad M0 sz r0 M0) 0 0 (AA ad M0 sz) := by
  refine Met.ofW (cc := cX4_many) (maxL := 2) (ret := (some .int)) (by decide) rfl ?_
  intro p e s m args below meth c s₁ B hml hv
  obtain ⟨rfl, rfl, hP0, hK, hN⟩ := hv
  have hx := B.exec
  have hb := B.bytes
  have hr := B.returns
  have hts0 := atoms_spec (ws := (Cond.code yX4_many cX4_many 2 (some .int) :: BW)) B.pre
  have hts : ∀ w ∈ BW, w.before ([.int v0] : List Value).toArray s = true := fun w h => hts0 w (List.mem_cons_of_mem _ h)
  have hown : s.vm.findClass RX4 = some m.cls := findClass_of_methodNamed B.named
  have hlocks := B.notSynchronized
  have hA : ∀ q : Nat, s.heap.size ≤ q → AA ad M0 s.heap.size q := fun q h => Or.inr h
  have C : Cx RX4 cX4_many 2 (some .int) D cy (AA ad M0 s.heap.size) p s m ([.int v0] : List Value).toArray meth c := ⟨hx, hb, hr, hml, hown, hts, hlocks, hK, hN, hA⟩
  have hP := hp_self (sz := s.heap.size) hP0
  have hS : va_S (AA ad M0 s.heap.size) s.heap s.heap [] := va_S.rf
  have hl := lv_entry ([.int v0]) (n := 2) (Nat.le_of_ble_eq_true rfl)
  rw [lg_entry_eq]
  generalize (lg_sl ([.int v0]) ++ List.replicate (2 - (lg_sl ([.int v0])).length) Slot.unset).toArray = ls at hl ⊢
  have hl : lv_has ls 2 [(0, .int v0)] := hl
  unfold f_X4_many at hf
  refine lv_iload_n hx hb dX4_many_0 rfl (lv_at hl 0 rfl) ?_
  obtain ⟨r8, e7, hf⟩ := ob_some hf
  refine hp_calli (va_runS (As := [.int v0]) (rest := []) ⟨hx, hb, hml, hown, hts⟩ (ok_X4_kindOf l D cy ad M0 _ v0 r8  e7) (va_cwS 1 hts (gdS q769 q770 q86 q771) rfl rfl rfl (by decide +kernel) ⟨Nat.le_of_ble_eq_true rfl, Nat.le_of_ble_eq_true rfl⟩) (pre_S hP hK hN) rfl rfl hl.1 rfl (lv_room (Nat.le_of_ble_eq_true rfl)) dX4_many_1 ⟨Nat.le_of_ble_eq_true rfl, Nat.le_of_ble_eq_true rfl⟩) hP hS hA (fun H locs hP hS _ => ?_)
  refine lv_istore_n (lv' := [(1, .int r8), (0, .int v0)]) hx hb dX4_many_4 rfl hl (by decide) rfl (fun ls hl => ?_)
  refine lv_iload_n hx hb dX4_many_5 rfl (lv_at hl 0 rfl) ?_
  refine lv_iconst (v := (2 : Int32)) hx hb dX4_many_6 (by decide) ?_
  refine lv_icmp_ge (tgt := 14) hx hb dX4_many_7 (by decide) (fun c11 => ?_) (fun c11 => ?_)
  · have hf := if_t hf c11
    refine lv_iload_n hx hb dX4_many_14 rfl (lv_at hl 0 rfl) ?_
    refine lv_iconst (v := (3 : Int32)) hx hb dX4_many_15 (by decide) ?_
    refine lv_icmp_ne (tgt := 23) hx hb dX4_many_16 (by decide) (fun c12 => ?_) (fun c12 => ?_)
    · have hf := if_f hf c12
      refine lv_iconst (v := (2 : Int32)) hx hb dX4_many_23 (by decide) ?_
      exact hp_iret hx hb hr hlocks (Option.some.inj hf) rfl hP hS keep_rf dX4_many_24
    · have hf := if_t hf c12
      refine lv_iconst (v := (3 : Int32)) hx hb dX4_many_19 (by decide) ?_
      refine lv_goto (tgt := 24) hx hb dX4_many_20 (by decide) ?_
      exact hp_iret hx hb hr hlocks (Option.some.inj hf) rfl hP hS keep_rf dX4_many_24
  · have hf := if_f hf c11
    refine lv_iconst (v := (1 : Int32)) hx hb dX4_many_10 (by decide) ?_
    refine lv_goto (tgt := 24) hx hb dX4_many_11 (by decide) ?_
    exact hp_iret hx hb hr hlocks (Option.some.inj hf) rfl hP hS keep_rf dX4_many_24

def f_X4_raceOf (v0 : Nat) (v1 : Int32) (v2 : Int32) (M0 : Mm) : Option Int32 :=
  if v1 = (52 : Int32) then (if v2 = 0 then (some (mI M0 0 v0 17)) else (some (mI M0 0 v0 18))) else (dv (4 : Int32) (some (v1 / (4 : Int32))))
set_option maxRecDepth 100000 in
set_option maxHeartbeats 4000000 in
theorem ok_X4_raceOf (l : Launch) (D : va_G) (cy : Nat → ClassId) (ad : Nat → Nat → Nat) (M0 : Mm) (sz : Nat) (v0 : Nat) (v1 : Int32) (v2 : Int32) (r0 : Int32) (a0 : mA M0 0 v0 = true) (hf : f_X4_raceOf v0 v1 v2 M0 = some r0) : Met l yX4_raceOf (Cond.code yX4_raceOf cX4_raceOf 3 (some .int) :: BW) { frames := 0, cells := 0, slots := 0, locals := 0 } (va_Pc [.ref (ad 0 v0), .int v1, .int v2] (PRE D cy ad M0 sz)) (QI D cy ad M0 sz r0 M0) 0 0 (AA ad M0 sz) := by
  refine Met.ofW (cc := cX4_raceOf) (maxL := 3) (ret := (some .int)) (by decide) rfl ?_
  intro p e s m args below meth c s₁ B hml hv
  obtain ⟨rfl, rfl, hP0, hK, hN⟩ := hv
  have hx := B.exec
  have hb := B.bytes
  have hr := B.returns
  have hts0 := atoms_spec (ws := (Cond.code yX4_raceOf cX4_raceOf 3 (some .int) :: BW)) B.pre
  have hts : ∀ w ∈ BW, w.before ([.ref (ad 0 v0), .int v1, .int v2] : List Value).toArray s = true := fun w h => hts0 w (List.mem_cons_of_mem _ h)
  have hown : s.vm.findClass RX4 = some m.cls := findClass_of_methodNamed B.named
  have hlocks := B.notSynchronized
  have hA : ∀ q : Nat, s.heap.size ≤ q → AA ad M0 s.heap.size q := fun q h => Or.inr h
  have C : Cx RX4 cX4_raceOf 3 (some .int) D cy (AA ad M0 s.heap.size) p s m ([.ref (ad 0 v0), .int v1, .int v2] : List Value).toArray meth c := ⟨hx, hb, hr, hml, hown, hts, hlocks, hK, hN, hA⟩
  have hP := hp_self (sz := s.heap.size) hP0
  have hS : va_S (AA ad M0 s.heap.size) s.heap s.heap [] := va_S.rf
  have hl := lv_entry ([.ref (ad 0 v0), .int v1, .int v2]) (n := 3) (Nat.le_of_ble_eq_true rfl)
  rw [lg_entry_eq]
  generalize (lg_sl ([.ref (ad 0 v0), .int v1, .int v2]) ++ List.replicate (3 - (lg_sl ([.ref (ad 0 v0), .int v1, .int v2])).length) Slot.unset).toArray = ls at hl ⊢
  have hl : lv_has ls 3 [(0, .ref (ad 0 v0)), (1, .int v1), (2, .int v2)] := hl
  unfold f_X4_raceOf at hf
  refine lv_iload_n hx hb dX4_raceOf_0 rfl (lv_at hl 1 rfl) ?_
  refine lv_bipush (v := (52 : Int32)) hx hb dX4_raceOf_1 (by decide) ?_
  refine lv_icmp_ne (tgt := 24) hx hb dX4_raceOf_3 (by decide) (fun c4 => ?_) (fun c4 => ?_)
  · have hf := if_f hf c4
    refine lv_iload_n hx hb dX4_raceOf_24 rfl (lv_at hl 1 rfl) ?_
    refine lv_iconst (v := (4 : Int32)) hx hb dX4_raceOf_25 (by decide) ?_
    obtain ⟨h5, hf⟩ := dv_some hf
    refine lv_idiv hx hb dX4_raceOf_26 h5 ?_
    exact hp_iret hx hb hr hlocks (Option.some.inj hf) rfl hP hS keep_rf dX4_raceOf_27
  · have hf := if_t hf c4
    refine lv_iload_n hx hb dX4_raceOf_6 rfl (lv_at hl 2 rfl) ?_
    refine lv_if_ne (tgt := 17) hx hb dX4_raceOf_7 (by decide) (fun c6 => ?_) (fun c6 => ?_)
    · have hf := if_f hf c6
      refine lv_aload_n hx hb dX4_raceOf_17 rfl (lv_at hl 0 rfl) ?_
      refine gf0 (v := .int (mI M0 0 v0 18)) hx hb hts hown hK hP a0 18 (by decide) (hts _ q623) rfl rfl dX4_raceOf_18 ?_
      refine lv_goto (tgt := 27) hx hb dX4_raceOf_21 (by decide) ?_
      exact hp_iret hx hb hr hlocks (Option.some.inj hf) rfl hP hS keep_rf dX4_raceOf_27
    · have hf := if_t hf c6
      refine lv_aload_n hx hb dX4_raceOf_10 rfl (lv_at hl 0 rfl) ?_
      refine gf0 (v := .int (mI M0 0 v0 17)) hx hb hts hown hK hP a0 17 (by decide) (hts _ q622) rfl rfl dX4_raceOf_11 ?_
      refine lv_goto (tgt := 27) hx hb dX4_raceOf_14 (by decide) ?_
      exact hp_iret hx hb hr hlocks (Option.some.inj hf) rfl hP hS keep_rf dX4_raceOf_27

def f_X4_race (v0 : Nat) (v1 : Int32) (v2 : Int32) (M0 : Mm) : Option (Int32 × Mm) :=
  if 0 < (mI M0 0 v0 19) then (some ((0 : Int32), M0)) else (ob (f_X4_in v1 (1 : Int32) (12 : Int32) M0) fun r28 => if r28 = 0 then (some ((0 : Int32), M0)) else (ob (f_X4_in v2 (2 : Int32) (24 : Int32) M0) fun r33 => if r33 = 0 then (some ((0 : Int32), M0)) else (ob (mR M0 0 v0 0) fun i38 => ix v1 13 (if (mI M0 10 i38 (v1).toNatClampNeg) ≤ 0 then (ob (mR M0 0 v0 0) fun i44 => ix v1 13 (lt (sI M0 10 i44 (v1).toNatClampNeg v2) fun M48 => some ((1 : Int32), M48))) else (some ((0 : Int32), M0))))))
set_option maxRecDepth 100000 in
set_option maxHeartbeats 4000000 in
theorem ok_X4_race (l : Launch) (D : va_G) (cy : Nat → ClassId) (ad : Nat → Nat → Nat) (M0 : Mm) (sz : Nat) (v0 : Nat) (v1 : Int32) (v2 : Int32) (r0 : Int32) (M' : Mm) (a0 : mA M0 0 v0 = true) (hf : f_X4_race v0 v1 v2 M0 = some (r0, M')) : Met l yX4_race (Cond.code yX4_race cX4_race 3 (some .boolean) :: BW) { frames := 1, cells := 0, slots := 0, locals := 22 } (va_Pc [.ref (ad 0 v0), .int v1, .int v2] (PRE D cy ad M0 sz)) (QI D cy ad M0 sz r0 M') 0 0 (AA ad M0 sz) := by
  refine Met.ofW (cc := cX4_race) (maxL := 3) (ret := (some .boolean)) (by decide) rfl ?_
  intro p e s m args below meth c s₁ B hml hv
  obtain ⟨rfl, rfl, hP0, hK, hN⟩ := hv
  have hx := B.exec
  have hb := B.bytes
  have hr := B.returns
  have hts0 := atoms_spec (ws := (Cond.code yX4_race cX4_race 3 (some .boolean) :: BW)) B.pre
  have hts : ∀ w ∈ BW, w.before ([.ref (ad 0 v0), .int v1, .int v2] : List Value).toArray s = true := fun w h => hts0 w (List.mem_cons_of_mem _ h)
  have hown : s.vm.findClass RX4 = some m.cls := findClass_of_methodNamed B.named
  have hlocks := B.notSynchronized
  have hA : ∀ q : Nat, s.heap.size ≤ q → AA ad M0 s.heap.size q := fun q h => Or.inr h
  have C : Cx RX4 cX4_race 3 (some .boolean) D cy (AA ad M0 s.heap.size) p s m ([.ref (ad 0 v0), .int v1, .int v2] : List Value).toArray meth c := ⟨hx, hb, hr, hml, hown, hts, hlocks, hK, hN, hA⟩
  have hP := hp_self (sz := s.heap.size) hP0
  have hS : va_S (AA ad M0 s.heap.size) s.heap s.heap [] := va_S.rf
  have hl := lv_entry ([.ref (ad 0 v0), .int v1, .int v2]) (n := 3) (Nat.le_of_ble_eq_true rfl)
  rw [lg_entry_eq]
  generalize (lg_sl ([.ref (ad 0 v0), .int v1, .int v2]) ++ List.replicate (3 - (lg_sl ([.ref (ad 0 v0), .int v1, .int v2])).length) Slot.unset).toArray = ls at hl ⊢
  have hl : lv_has ls 3 [(0, .ref (ad 0 v0)), (1, .int v1), (2, .int v2)] := hl
  unfold f_X4_race at hf
  refine lv_aload_n hx hb dX4_race_0 rfl (lv_at hl 0 rfl) ?_
  refine gf0 (v := .int (mI M0 0 v0 19)) hx hb hts hown hK hP a0 19 (by decide) (hts _ q624) rfl rfl dX4_race_1 ?_
  refine lv_if_gt (tgt := 36) hx hb dX4_race_4 (by decide) (fun c26 => ?_) (fun c26 => ?_)
  · have hf := if_t hf c26
    refine lv_iconst (v := (0 : Int32)) hx hb dX4_race_36 (by decide) ?_
    exact hp_zret hx hb hr hlocks (Or.inl rfl) (congrArg Prod.fst (Option.some.inj hf)) (congrArg Prod.snd (Option.some.inj hf)) hP hS keep_rf dX4_race_37
  · have hf := if_f hf c26
    refine lv_iload_n hx hb dX4_race_7 rfl (lv_at hl 1 rfl) ?_
    refine lv_iconst (v := (1 : Int32)) hx hb dX4_race_8 (by decide) ?_
    refine lv_bipush (v := (12 : Int32)) hx hb dX4_race_9 (by decide) ?_
    obtain ⟨r28, e27, hf⟩ := ob_some hf
    refine hp_calli (va_runS (As := [.int v1, .int (1 : Int32), .int (12 : Int32)]) (rest := []) ⟨hx, hb, hml, hown, hts⟩ (ok_X4_in l D cy ad M0 _ v1 (1 : Int32) (12 : Int32) r28  e27) (va_cwS 3 hts (gdS q708 q709 q86 q710) rfl rfl rfl (by decide +kernel) ⟨Nat.le_of_ble_eq_true rfl, Nat.le_of_ble_eq_true rfl⟩) (pre_S hP hK hN) rfl rfl hl.1 rfl (lv_room (Nat.le_of_ble_eq_true rfl)) dX4_race_11 ⟨Nat.le_of_ble_eq_true rfl, Nat.le_of_ble_eq_true rfl⟩) hP hS hA (fun H locs hP hS _ => ?_)
    refine lv_if_eq (tgt := 36) hx hb dX4_race_14 (by decide) (fun c31 => ?_) (fun c31 => ?_)
    · have hf := if_t hf c31
      refine lv_iconst (v := (0 : Int32)) hx hb dX4_race_36 (by decide) ?_
      exact hp_zret hx hb hr hlocks (Or.inl rfl) (congrArg Prod.fst (Option.some.inj hf)) (congrArg Prod.snd (Option.some.inj hf)) hP hS keep_rf dX4_race_37
    · have hf := if_f hf c31
      refine lv_iload_n hx hb dX4_race_17 rfl (lv_at hl 2 rfl) ?_
      refine lv_iconst (v := (2 : Int32)) hx hb dX4_race_18 (by decide) ?_
      refine lv_bipush (v := (24 : Int32)) hx hb dX4_race_19 (by decide) ?_
      obtain ⟨r33, e32, hf⟩ := ob_some hf
      refine hp_calli (va_runS (As := [.int v2, .int (2 : Int32), .int (24 : Int32)]) (rest := []) ⟨hx, hb, hml, hown, hts⟩ (ok_X4_in l D cy ad M0 _ v2 (2 : Int32) (24 : Int32) r33  e32) (va_cwS 3 hts (gdS q708 q709 q86 q710) rfl rfl rfl (by decide +kernel) ⟨Nat.le_of_ble_eq_true rfl, Nat.le_of_ble_eq_true rfl⟩) (pre_S hP hK hN) rfl rfl hl.1 rfl (lv_room (Nat.le_of_ble_eq_true rfl)) dX4_race_21 ⟨Nat.le_of_ble_eq_true rfl, Nat.le_of_ble_eq_true rfl⟩) hP hS hA (fun H locs hP hS _ => ?_)
      refine lv_if_eq (tgt := 36) hx hb dX4_race_24 (by decide) (fun c36 => ?_) (fun c36 => ?_)
      · have hf := if_t hf c36
        refine lv_iconst (v := (0 : Int32)) hx hb dX4_race_36 (by decide) ?_
        exact hp_zret hx hb hr hlocks (Or.inl rfl) (congrArg Prod.fst (Option.some.inj hf)) (congrArg Prod.snd (Option.some.inj hf)) hP hS keep_rf dX4_race_37
      · have hf := if_f hf c36
        refine lv_aload_n hx hb dX4_race_27 rfl (lv_at hl 0 rfl) ?_
        have h37 : ∀ j : Nat, (mR M0 0 v0 0) = some j → mA M0 10 j = true := fun j hj => hp_wf hP a0 hj
        refine gf0 (v := va_rf (((mR M0 0 v0 0)).map (ad 10))) hx hb hts hown hK hP a0 0 (by decide) (hts _ q605) rfl rfl dX4_race_28 ?_
        refine lv_iload_n hx hb dX4_race_31 rfl (lv_at hl 1 rfl) ?_
        obtain ⟨i38, e39, hf⟩ := ob_some hf
        have h40 : mA M0 10 i38 = true := h37 i38 e39
        refine W_stk (st := [.int v1, va_rf (((mR M0 0 v0 0)).map (ad 10))]) (st' := [.int v1, .ref (ad 10 i38)]) (by first | (rw [e39]; done) | (rw [e39]; rfl)) ?_
        obtain ⟨h41, hf⟩ := ix_some hf
        refine hp_iald hx hb hK hP h40 rfl h41 dX4_race_32 ?_
        refine lv_if_le (tgt := 38) hx hb dX4_race_33 (by decide) (fun c42 => ?_) (fun c42 => ?_)
        · have hf := if_t hf c42
          refine lv_aload_n hx hb dX4_race_38 rfl (lv_at hl 0 rfl) ?_
          have h43 : ∀ j : Nat, (mR M0 0 v0 0) = some j → mA M0 10 j = true := fun j hj => hp_wf hP a0 hj
          refine gf0 (v := va_rf (((mR M0 0 v0 0)).map (ad 10))) hx hb hts hown hK hP a0 0 (by decide) (hts _ q605) rfl rfl dX4_race_39 ?_
          refine lv_iload_n hx hb dX4_race_42 rfl (lv_at hl 1 rfl) ?_
          refine lv_iload_n hx hb dX4_race_43 rfl (lv_at hl 2 rfl) ?_
          obtain ⟨i44, e45, hf⟩ := ob_some hf
          have h46 : mA M0 10 i44 = true := h43 i44 e45
          refine W_stk (st := [.int v2, .int v1, va_rf (((mR M0 0 v0 0)).map (ad 10))]) (st' := [.int v2, .int v1, .ref (ad 10 i44)]) (by first | (rw [e45]; done) | (rw [e45]; rfl)) ?_
          obtain ⟨h47, hf⟩ := ix_some hf
          obtain ⟨M48, e49, hf⟩ := lt_some hf
          have hk50 : Keep M0 M48 := keI e49
          refine hp_iast hx hb hK hP hS h46 rfl h47 dX4_race_44 (fun H locs hP hS => ?_)
          rw [← e49] at hP
          refine lv_iconst (v := (1 : Int32)) hx hb dX4_race_45 (by decide) ?_
          exact hp_zret hx hb hr hlocks (Or.inr rfl) (congrArg Prod.fst (Option.some.inj hf)) (congrArg Prod.snd (Option.some.inj hf)) hP hS (kt keep_rf hk50) dX4_race_46
        · have hf := if_f hf c42
          refine lv_iconst (v := (0 : Int32)) hx hb dX4_race_36 (by decide) ?_
          exact hp_zret hx hb hr hlocks (Or.inl rfl) (congrArg Prod.fst (Option.some.inj hf)) (congrArg Prod.snd (Option.some.inj hf)) hP hS keep_rf dX4_race_37

def f_X4_may (v0 : Int32) (v1 : Int32) (M0 : Mm) : Option Int32 :=
  ob (f_X4_in v0 (0 : Int32) (999 : Int32) M0) fun r14 => if r14 = 0 then (some (0 : Int32)) else (ob (f_X4_in v1 (10 : Int32) (1000 : Int32) M0) fun r19 => if r19 = 0 then (some (0 : Int32)) else (dv (10 : Int32) (if (v1 - v1 / (10 : Int32) * (10 : Int32)) = 0 then (some (1 : Int32)) else (some (0 : Int32)))))
set_option maxRecDepth 100000 in
set_option maxHeartbeats 4000000 in
theorem ok_X4_may (l : Launch) (D : va_G) (cy : Nat → ClassId) (ad : Nat → Nat → Nat) (M0 : Mm) (sz : Nat) (v0 : Int32) (v1 : Int32) (r0 : Int32) (hf : f_X4_may v0 v1 M0 = some r0) : Met l yX4_may (Cond.code yX4_may cX4_may 2 (some .boolean) :: BW) { frames := 1, cells := 0, slots := 0, locals := 22 } (va_Pc [.int v0, .int v1] (PRE D cy ad M0 sz)) (QI D cy ad M0 sz r0 M0) 0 0 (AA ad M0 sz) := by
  refine Met.ofW (cc := cX4_may) (maxL := 2) (ret := (some .boolean)) (by decide) rfl ?_
  intro p e s m args below meth c s₁ B hml hv
  obtain ⟨rfl, rfl, hP0, hK, hN⟩ := hv
  have hx := B.exec
  have hb := B.bytes
  have hr := B.returns
  have hts0 := atoms_spec (ws := (Cond.code yX4_may cX4_may 2 (some .boolean) :: BW)) B.pre
  have hts : ∀ w ∈ BW, w.before ([.int v0, .int v1] : List Value).toArray s = true := fun w h => hts0 w (List.mem_cons_of_mem _ h)
  have hown : s.vm.findClass RX4 = some m.cls := findClass_of_methodNamed B.named
  have hlocks := B.notSynchronized
  have hA : ∀ q : Nat, s.heap.size ≤ q → AA ad M0 s.heap.size q := fun q h => Or.inr h
  have C : Cx RX4 cX4_may 2 (some .boolean) D cy (AA ad M0 s.heap.size) p s m ([.int v0, .int v1] : List Value).toArray meth c := ⟨hx, hb, hr, hml, hown, hts, hlocks, hK, hN, hA⟩
  have hP := hp_self (sz := s.heap.size) hP0
  have hS : va_S (AA ad M0 s.heap.size) s.heap s.heap [] := va_S.rf
  have hl := lv_entry ([.int v0, .int v1]) (n := 2) (Nat.le_of_ble_eq_true rfl)
  rw [lg_entry_eq]
  generalize (lg_sl ([.int v0, .int v1]) ++ List.replicate (2 - (lg_sl ([.int v0, .int v1])).length) Slot.unset).toArray = ls at hl ⊢
  have hl : lv_has ls 2 [(0, .int v0), (1, .int v1)] := hl
  unfold f_X4_may at hf
  refine lv_iload_n hx hb dX4_may_0 rfl (lv_at hl 0 rfl) ?_
  refine lv_iconst (v := (0 : Int32)) hx hb dX4_may_1 (by decide) ?_
  refine lv_sipush (v := (999 : Int32)) hx hb dX4_may_2 (by decide) ?_
  obtain ⟨r14, e13, hf⟩ := ob_some hf
  refine hp_calli (va_runS (As := [.int v0, .int (0 : Int32), .int (999 : Int32)]) (rest := []) ⟨hx, hb, hml, hown, hts⟩ (ok_X4_in l D cy ad M0 _ v0 (0 : Int32) (999 : Int32) r14  e13) (va_cwS 3 hts (gdS q708 q709 q86 q710) rfl rfl rfl (by decide +kernel) ⟨Nat.le_of_ble_eq_true rfl, Nat.le_of_ble_eq_true rfl⟩) (pre_S hP hK hN) rfl rfl hl.1 rfl (lv_room (Nat.le_of_ble_eq_true rfl)) dX4_may_5 ⟨Nat.le_of_ble_eq_true rfl, Nat.le_of_ble_eq_true rfl⟩) hP hS hA (fun H locs hP hS _ => ?_)
  refine lv_if_eq (tgt := 34) hx hb dX4_may_8 (by decide) (fun c17 => ?_) (fun c17 => ?_)
  · have hf := if_t hf c17
    refine lv_iconst (v := (0 : Int32)) hx hb dX4_may_34 (by decide) ?_
    exact hp_zret hx hb hr hlocks (Or.inl rfl) (Option.some.inj hf) rfl hP hS keep_rf dX4_may_35
  · have hf := if_f hf c17
    refine lv_iload_n hx hb dX4_may_11 rfl (lv_at hl 1 rfl) ?_
    refine lv_bipush (v := (10 : Int32)) hx hb dX4_may_12 (by decide) ?_
    refine lv_sipush (v := (1000 : Int32)) hx hb dX4_may_14 (by decide) ?_
    obtain ⟨r19, e18, hf⟩ := ob_some hf
    refine hp_calli (va_runS (As := [.int v1, .int (10 : Int32), .int (1000 : Int32)]) (rest := []) ⟨hx, hb, hml, hown, hts⟩ (ok_X4_in l D cy ad M0 _ v1 (10 : Int32) (1000 : Int32) r19  e18) (va_cwS 3 hts (gdS q708 q709 q86 q710) rfl rfl rfl (by decide +kernel) ⟨Nat.le_of_ble_eq_true rfl, Nat.le_of_ble_eq_true rfl⟩) (pre_S hP hK hN) rfl rfl hl.1 rfl (lv_room (Nat.le_of_ble_eq_true rfl)) dX4_may_17 ⟨Nat.le_of_ble_eq_true rfl, Nat.le_of_ble_eq_true rfl⟩) hP hS hA (fun H locs hP hS _ => ?_)
    refine lv_if_eq (tgt := 34) hx hb dX4_may_20 (by decide) (fun c22 => ?_) (fun c22 => ?_)
    · have hf := if_t hf c22
      refine lv_iconst (v := (0 : Int32)) hx hb dX4_may_34 (by decide) ?_
      exact hp_zret hx hb hr hlocks (Or.inl rfl) (Option.some.inj hf) rfl hP hS keep_rf dX4_may_35
    · have hf := if_f hf c22
      refine lv_iload_n hx hb dX4_may_23 rfl (lv_at hl 1 rfl) ?_
      refine lv_bipush (v := (10 : Int32)) hx hb dX4_may_24 (by decide) ?_
      obtain ⟨h23, hf⟩ := dv_some hf
      refine lv_irem hx hb dX4_may_26 h23 ?_
      refine lv_if_ne (tgt := 34) hx hb dX4_may_27 (by decide) (fun c24 => ?_) (fun c24 => ?_)
      · have hf := if_f hf c24
        refine lv_iconst (v := (0 : Int32)) hx hb dX4_may_34 (by decide) ?_
        exact hp_zret hx hb hr hlocks (Or.inl rfl) (Option.some.inj hf) rfl hP hS keep_rf dX4_may_35
      · have hf := if_t hf c24
        refine lv_iconst (v := (1 : Int32)) hx hb dX4_may_30 (by decide) ?_
        refine lv_goto (tgt := 35) hx hb dX4_may_31 (by decide) ?_
        exact hp_zret hx hb hr hlocks (Or.inr rfl) (Option.some.inj hf) rfl hP hS keep_rf dX4_may_35

def f_X4_opens (v0 : Nat) (v1 : Int32) (v2 : Int32) (v3 : Int32) (M0 : Mm) : Option (Int32 × Mm) :=
  ob (mR M0 0 v0 5) fun i26 => ix v1 53 (lt (sI M0 15 i26 (v1).toNatClampNeg (1 : Int32)) fun M30 => ob (mR M30 0 v0 6) fun i34 => ix v1 53 (lt (sI M30 16 i34 (v1).toNatClampNeg v2) fun M38 => ob (mR M38 0 v0 7) fun i42 => ix v1 53 (lt (sI M38 17 i42 (v1).toNatClampNeg v3) fun M46 => some ((1 : Int32), M46))))
set_option maxRecDepth 100000 in
set_option maxHeartbeats 4000000 in
theorem ok_X4_opens (l : Launch) (D : va_G) (cy : Nat → ClassId) (ad : Nat → Nat → Nat) (M0 : Mm) (sz : Nat) (v0 : Nat) (v1 : Int32) (v2 : Int32) (v3 : Int32) (r0 : Int32) (M' : Mm) (a0 : mA M0 0 v0 = true) (hf : f_X4_opens v0 v1 v2 v3 M0 = some (r0, M')) : Met l yX4_opens (Cond.code yX4_opens cX4_opens 4 (some .boolean) :: BW) { frames := 0, cells := 0, slots := 0, locals := 0 } (va_Pc [.ref (ad 0 v0), .int v1, .int v2, .int v3] (PRE D cy ad M0 sz)) (QI D cy ad M0 sz r0 M') 0 0 (AA ad M0 sz) := by
  refine Met.ofW (cc := cX4_opens) (maxL := 4) (ret := (some .boolean)) (by decide) rfl ?_
  intro p e s m args below meth c s₁ B hml hv
  obtain ⟨rfl, rfl, hP0, hK, hN⟩ := hv
  have hx := B.exec
  have hb := B.bytes
  have hr := B.returns
  have hts0 := atoms_spec (ws := (Cond.code yX4_opens cX4_opens 4 (some .boolean) :: BW)) B.pre
  have hts : ∀ w ∈ BW, w.before ([.ref (ad 0 v0), .int v1, .int v2, .int v3] : List Value).toArray s = true := fun w h => hts0 w (List.mem_cons_of_mem _ h)
  have hown : s.vm.findClass RX4 = some m.cls := findClass_of_methodNamed B.named
  have hlocks := B.notSynchronized
  have hA : ∀ q : Nat, s.heap.size ≤ q → AA ad M0 s.heap.size q := fun q h => Or.inr h
  have C : Cx RX4 cX4_opens 4 (some .boolean) D cy (AA ad M0 s.heap.size) p s m ([.ref (ad 0 v0), .int v1, .int v2, .int v3] : List Value).toArray meth c := ⟨hx, hb, hr, hml, hown, hts, hlocks, hK, hN, hA⟩
  have hP := hp_self (sz := s.heap.size) hP0
  have hS : va_S (AA ad M0 s.heap.size) s.heap s.heap [] := va_S.rf
  have hl := lv_entry ([.ref (ad 0 v0), .int v1, .int v2, .int v3]) (n := 4) (Nat.le_of_ble_eq_true rfl)
  rw [lg_entry_eq]
  generalize (lg_sl ([.ref (ad 0 v0), .int v1, .int v2, .int v3]) ++ List.replicate (4 - (lg_sl ([.ref (ad 0 v0), .int v1, .int v2, .int v3])).length) Slot.unset).toArray = ls at hl ⊢
  have hl : lv_has ls 4 [(0, .ref (ad 0 v0)), (1, .int v1), (2, .int v2), (3, .int v3)] := hl
  unfold f_X4_opens at hf
  refine lv_aload_n hx hb dX4_opens_0 rfl (lv_at hl 0 rfl) ?_
  have h25 : ∀ j : Nat, (mR M0 0 v0 5) = some j → mA M0 15 j = true := fun j hj => hp_wf hP a0 hj
  refine gf0 (v := va_rf (((mR M0 0 v0 5)).map (ad 15))) hx hb hts hown hK hP a0 5 (by decide) (hts _ q610) rfl rfl dX4_opens_1 ?_
  refine lv_iload_n hx hb dX4_opens_4 rfl (lv_at hl 1 rfl) ?_
  refine lv_iconst (v := (1 : Int32)) hx hb dX4_opens_5 (by decide) ?_
  obtain ⟨i26, e27, hf⟩ := ob_some hf
  have h28 : mA M0 15 i26 = true := h25 i26 e27
  refine W_stk (st := [.int (1 : Int32), .int v1, va_rf (((mR M0 0 v0 5)).map (ad 15))]) (st' := [.int (1 : Int32), .int v1, .ref (ad 15 i26)]) (by first | (rw [e27]; done) | (rw [e27]; rfl)) ?_
  obtain ⟨h29, hf⟩ := ix_some hf
  obtain ⟨M30, e31, hf⟩ := lt_some hf
  have hk32 : Keep M0 M30 := keI e31
  refine hp_zast hx hb hK hP hS h28 rfl h29 rfl dX4_opens_6 (fun H locs hP hS => ?_)
  rw [← e31] at hP
  refine lv_aload_n hx hb dX4_opens_7 rfl (lv_at hl 0 rfl) ?_
  have h33 : ∀ j : Nat, (mR M30 0 v0 6) = some j → mA M30 16 j = true := fun j hj => hp_wf hP (hk32 _ _ a0) hj
  refine gf0 (v := va_rf (((mR M30 0 v0 6)).map (ad 16))) hx hb hts hown hK hP (hk32 _ _ a0) 6 (by decide) (hts _ q611) rfl rfl dX4_opens_8 ?_
  refine lv_iload_n hx hb dX4_opens_11 rfl (lv_at hl 1 rfl) ?_
  refine lv_iload_n hx hb dX4_opens_12 rfl (lv_at hl 2 rfl) ?_
  obtain ⟨i34, e35, hf⟩ := ob_some hf
  have h36 : mA M30 16 i34 = true := h33 i34 e35
  refine W_stk (st := [.int v2, .int v1, va_rf (((mR M30 0 v0 6)).map (ad 16))]) (st' := [.int v2, .int v1, .ref (ad 16 i34)]) (by first | (rw [e35]; done) | (rw [e35]; rfl)) ?_
  obtain ⟨h37, hf⟩ := ix_some hf
  obtain ⟨M38, e39, hf⟩ := lt_some hf
  have hk40 : Keep M30 M38 := keI e39
  refine hp_iast hx hb hK hP hS h36 rfl h37 dX4_opens_13 (fun H locs hP hS => ?_)
  rw [← e39] at hP
  refine lv_aload_n hx hb dX4_opens_14 rfl (lv_at hl 0 rfl) ?_
  have h41 : ∀ j : Nat, (mR M38 0 v0 7) = some j → mA M38 17 j = true := fun j hj => hp_wf hP (hk40 _ _ (hk32 _ _ a0)) hj
  refine gf0 (v := va_rf (((mR M38 0 v0 7)).map (ad 17))) hx hb hts hown hK hP (hk40 _ _ (hk32 _ _ a0)) 7 (by decide) (hts _ q612) rfl rfl dX4_opens_15 ?_
  refine lv_iload_n hx hb dX4_opens_18 rfl (lv_at hl 1 rfl) ?_
  refine lv_iload_n hx hb dX4_opens_19 rfl (lv_at hl 3 rfl) ?_
  obtain ⟨i42, e43, hf⟩ := ob_some hf
  have h44 : mA M38 17 i42 = true := h41 i42 e43
  refine W_stk (st := [.int v3, .int v1, va_rf (((mR M38 0 v0 7)).map (ad 17))]) (st' := [.int v3, .int v1, .ref (ad 17 i42)]) (by first | (rw [e43]; done) | (rw [e43]; rfl)) ?_
  obtain ⟨h45, hf⟩ := ix_some hf
  obtain ⟨M46, e47, hf⟩ := lt_some hf
  have hk48 : Keep M38 M46 := keI e47
  refine hp_iast hx hb hK hP hS h44 rfl h45 dX4_opens_20 (fun H locs hP hS => ?_)
  rw [← e47] at hP
  refine lv_iconst (v := (1 : Int32)) hx hb dX4_opens_21 (by decide) ?_
  exact hp_zret hx hb hr hlocks (Or.inr rfl) (congrArg Prod.fst (Option.some.inj hf)) (congrArg Prod.snd (Option.some.inj hf)) hP hS (kt (kt (kt keep_rf hk32) hk40) hk48) dX4_opens_22

def f_X4_pool (v0 : Nat) (v1 : Int32) (v2 : Int32) (v3 : Int32) (v4 : Int32) (M0 : Mm) : Option (Int32 × Mm) :=
  if 0 < (mI M0 0 v0 19) then (some ((0 : Int32), M0)) else (ob (f_X4_isRace v0 v1 M0) fun r36 => if r36 = 0 then (some ((0 : Int32), M0)) else (ob (mR M0 0 v0 1) fun i41 => ix v1 13 (if (mI M0 11 i41 (v1).toNatClampNeg) = 0 then (ob (f_X4_in v2 (0 : Int32) (3 : Int32) M0) fun r47 => if r47 = 0 then (some ((0 : Int32), M0)) else (ob (f_X4_may v3 v4 M0) fun r52 => if r52 = 0 then (some ((0 : Int32), M0)) else (ob (mR M0 0 v0 5) fun i57 => ix (((4 : Int32) * v1) + v2) 53 (if (mI M0 15 i57 ((((4 : Int32) * v1) + v2)).toNatClampNeg) = 0 then (ob (f_X4_opens v0 (((4 : Int32) * v1) + v2) v3 v4 M0) fun (r63, M64) => zb r63 (some (r63, M64))) else (some ((0 : Int32), M0)))))) else (some ((0 : Int32), M0)))))
set_option maxRecDepth 100000 in
set_option maxHeartbeats 4000000 in
theorem ok_X4_pool (l : Launch) (D : va_G) (cy : Nat → ClassId) (ad : Nat → Nat → Nat) (M0 : Mm) (sz : Nat) (v0 : Nat) (v1 : Int32) (v2 : Int32) (v3 : Int32) (v4 : Int32) (r0 : Int32) (M' : Mm) (a0 : mA M0 0 v0 = true) (hf : f_X4_pool v0 v1 v2 v3 v4 M0 = some (r0, M')) : Met l yX4_pool (Cond.code yX4_pool cX4_pool 5 (some .boolean) :: BW) { frames := 2, cells := 0, slots := 0, locals := 43 } (va_Pc [.ref (ad 0 v0), .int v1, .int v2, .int v3, .int v4] (PRE D cy ad M0 sz)) (QI D cy ad M0 sz r0 M') 0 0 (AA ad M0 sz) := by
  refine Met.ofW (cc := cX4_pool) (maxL := 5) (ret := (some .boolean)) (by decide) rfl ?_
  intro p e s m args below meth c s₁ B hml hv
  obtain ⟨rfl, rfl, hP0, hK, hN⟩ := hv
  have hx := B.exec
  have hb := B.bytes
  have hr := B.returns
  have hts0 := atoms_spec (ws := (Cond.code yX4_pool cX4_pool 5 (some .boolean) :: BW)) B.pre
  have hts : ∀ w ∈ BW, w.before ([.ref (ad 0 v0), .int v1, .int v2, .int v3, .int v4] : List Value).toArray s = true := fun w h => hts0 w (List.mem_cons_of_mem _ h)
  have hown : s.vm.findClass RX4 = some m.cls := findClass_of_methodNamed B.named
  have hlocks := B.notSynchronized
  have hA : ∀ q : Nat, s.heap.size ≤ q → AA ad M0 s.heap.size q := fun q h => Or.inr h
  have C : Cx RX4 cX4_pool 5 (some .boolean) D cy (AA ad M0 s.heap.size) p s m ([.ref (ad 0 v0), .int v1, .int v2, .int v3, .int v4] : List Value).toArray meth c := ⟨hx, hb, hr, hml, hown, hts, hlocks, hK, hN, hA⟩
  have hP := hp_self (sz := s.heap.size) hP0
  have hS : va_S (AA ad M0 s.heap.size) s.heap s.heap [] := va_S.rf
  have hl := lv_entry ([.ref (ad 0 v0), .int v1, .int v2, .int v3, .int v4]) (n := 5) (Nat.le_of_ble_eq_true rfl)
  rw [lg_entry_eq]
  generalize (lg_sl ([.ref (ad 0 v0), .int v1, .int v2, .int v3, .int v4]) ++ List.replicate (5 - (lg_sl ([.ref (ad 0 v0), .int v1, .int v2, .int v3, .int v4])).length) Slot.unset).toArray = ls at hl ⊢
  have hl : lv_has ls 5 [(0, .ref (ad 0 v0)), (1, .int v1), (2, .int v2), (3, .int v3), (4, .int v4)] := hl
  unfold f_X4_pool at hf
  refine lv_aload_n hx hb dX4_pool_0 rfl (lv_at hl 0 rfl) ?_
  refine gf0 (v := .int (mI M0 0 v0 19)) hx hb hts hown hK hP a0 19 (by decide) (hts _ q624) rfl rfl dX4_pool_1 ?_
  refine lv_if_gt (tgt := 55) hx hb dX4_pool_4 (by decide) (fun c34 => ?_) (fun c34 => ?_)
  · have hf := if_t hf c34
    refine lv_iconst (v := (0 : Int32)) hx hb dX4_pool_55 (by decide) ?_
    exact hp_zret hx hb hr hlocks (Or.inl rfl) (congrArg Prod.fst (Option.some.inj hf)) (congrArg Prod.snd (Option.some.inj hf)) hP hS keep_rf dX4_pool_56
  · have hf := if_f hf c34
    refine lv_aload_n hx hb dX4_pool_7 rfl (lv_at hl 0 rfl) ?_
    refine lv_iload_n hx hb dX4_pool_8 rfl (lv_at hl 1 rfl) ?_
    obtain ⟨r36, e35, hf⟩ := ob_some hf
    refine hp_calli (va_runV (As := [.int v1]) (rest := []) ⟨hx, hb, hml, hown, hts⟩ (ok_X4_isRace l D cy ad M0 _ v0 v1 r36 a0 e35) (cwV 1 hts (gdV q715 q717 q53 q86 q718) rfl rfl rfl (by decide +kernel) ⟨Nat.le_of_ble_eq_true rfl, Nat.le_of_ble_eq_true rfl⟩) (pre_V hP hK hN a0 ds_0 rfl) rfl rfl hl.1 rfl (lv_room (Nat.le_of_ble_eq_true rfl)) dX4_pool_9 ⟨Nat.le_of_ble_eq_true rfl, Nat.le_of_ble_eq_true rfl⟩) hP hS hA (fun H locs hP hS _ => ?_)
    refine lv_if_eq (tgt := 55) hx hb dX4_pool_12 (by decide) (fun c39 => ?_) (fun c39 => ?_)
    · have hf := if_t hf c39
      refine lv_iconst (v := (0 : Int32)) hx hb dX4_pool_55 (by decide) ?_
      exact hp_zret hx hb hr hlocks (Or.inl rfl) (congrArg Prod.fst (Option.some.inj hf)) (congrArg Prod.snd (Option.some.inj hf)) hP hS keep_rf dX4_pool_56
    · have hf := if_f hf c39
      refine lv_aload_n hx hb dX4_pool_15 rfl (lv_at hl 0 rfl) ?_
      have h40 : ∀ j : Nat, (mR M0 0 v0 1) = some j → mA M0 11 j = true := fun j hj => hp_wf hP a0 hj
      refine gf0 (v := va_rf (((mR M0 0 v0 1)).map (ad 11))) hx hb hts hown hK hP a0 1 (by decide) (hts _ q606) rfl rfl dX4_pool_16 ?_
      refine lv_iload_n hx hb dX4_pool_19 rfl (lv_at hl 1 rfl) ?_
      obtain ⟨i41, e42, hf⟩ := ob_some hf
      have h43 : mA M0 11 i41 = true := h40 i41 e42
      refine W_stk (st := [.int v1, va_rf (((mR M0 0 v0 1)).map (ad 11))]) (st' := [.int v1, .ref (ad 11 i41)]) (by first | (rw [e42]; done) | (rw [e42]; rfl)) ?_
      obtain ⟨h44, hf⟩ := ix_some hf
      refine hp_iald hx hb hK hP h43 rfl h44 dX4_pool_20 ?_
      refine lv_if_ne (tgt := 55) hx hb dX4_pool_21 (by decide) (fun c45 => ?_) (fun c45 => ?_)
      · have hf := if_f hf c45
        refine lv_iconst (v := (0 : Int32)) hx hb dX4_pool_55 (by decide) ?_
        exact hp_zret hx hb hr hlocks (Or.inl rfl) (congrArg Prod.fst (Option.some.inj hf)) (congrArg Prod.snd (Option.some.inj hf)) hP hS keep_rf dX4_pool_56
      · have hf := if_t hf c45
        refine lv_iload_n hx hb dX4_pool_24 rfl (lv_at hl 2 rfl) ?_
        refine lv_iconst (v := (0 : Int32)) hx hb dX4_pool_25 (by decide) ?_
        refine lv_iconst (v := (3 : Int32)) hx hb dX4_pool_26 (by decide) ?_
        obtain ⟨r47, e46, hf⟩ := ob_some hf
        refine hp_calli (va_runS (As := [.int v2, .int (0 : Int32), .int (3 : Int32)]) (rest := []) ⟨hx, hb, hml, hown, hts⟩ (ok_X4_in l D cy ad M0 _ v2 (0 : Int32) (3 : Int32) r47  e46) (va_cwS 3 hts (gdS q708 q709 q86 q710) rfl rfl rfl (by decide +kernel) ⟨Nat.le_of_ble_eq_true rfl, Nat.le_of_ble_eq_true rfl⟩) (pre_S hP hK hN) rfl rfl hl.1 rfl (lv_room (Nat.le_of_ble_eq_true rfl)) dX4_pool_27 ⟨Nat.le_of_ble_eq_true rfl, Nat.le_of_ble_eq_true rfl⟩) hP hS hA (fun H locs hP hS _ => ?_)
        refine lv_if_eq (tgt := 55) hx hb dX4_pool_30 (by decide) (fun c50 => ?_) (fun c50 => ?_)
        · have hf := if_t hf c50
          refine lv_iconst (v := (0 : Int32)) hx hb dX4_pool_55 (by decide) ?_
          exact hp_zret hx hb hr hlocks (Or.inl rfl) (congrArg Prod.fst (Option.some.inj hf)) (congrArg Prod.snd (Option.some.inj hf)) hP hS keep_rf dX4_pool_56
        · have hf := if_f hf c50
          refine lv_iload_n hx hb dX4_pool_33 rfl (lv_at hl 3 rfl) ?_
          refine lv_iload hx hb dX4_pool_34 (lv_at hl 4 rfl) ?_
          obtain ⟨r52, e51, hf⟩ := ob_some hf
          refine hp_calli (va_runS (As := [.int v3, .int v4]) (rest := []) ⟨hx, hb, hml, hown, hts⟩ (ok_X4_may l D cy ad M0 _ v3 v4 r52  e51) (va_cwS 2 hts (gdS q719 q720 q86 q721) rfl rfl rfl (by decide +kernel) ⟨Nat.le_of_ble_eq_true rfl, Nat.le_of_ble_eq_true rfl⟩) (pre_S hP hK hN) rfl rfl hl.1 rfl (lv_room (Nat.le_of_ble_eq_true rfl)) dX4_pool_36 ⟨Nat.le_of_ble_eq_true rfl, Nat.le_of_ble_eq_true rfl⟩) hP hS hA (fun H locs hP hS _ => ?_)
          refine lv_if_eq (tgt := 55) hx hb dX4_pool_39 (by decide) (fun c55 => ?_) (fun c55 => ?_)
          · have hf := if_t hf c55
            refine lv_iconst (v := (0 : Int32)) hx hb dX4_pool_55 (by decide) ?_
            exact hp_zret hx hb hr hlocks (Or.inl rfl) (congrArg Prod.fst (Option.some.inj hf)) (congrArg Prod.snd (Option.some.inj hf)) hP hS keep_rf dX4_pool_56
          · have hf := if_f hf c55
            refine lv_aload_n hx hb dX4_pool_42 rfl (lv_at hl 0 rfl) ?_
            have h56 : ∀ j : Nat, (mR M0 0 v0 5) = some j → mA M0 15 j = true := fun j hj => hp_wf hP a0 hj
            refine gf0 (v := va_rf (((mR M0 0 v0 5)).map (ad 15))) hx hb hts hown hK hP a0 5 (by decide) (hts _ q610) rfl rfl dX4_pool_43 ?_
            refine lv_iconst (v := (4 : Int32)) hx hb dX4_pool_46 (by decide) ?_
            refine lv_iload_n hx hb dX4_pool_47 rfl (lv_at hl 1 rfl) ?_
            refine lv_imul hx hb dX4_pool_48 ?_
            refine lv_iload_n hx hb dX4_pool_49 rfl (lv_at hl 2 rfl) ?_
            refine lv_iadd hx hb dX4_pool_50 ?_
            obtain ⟨i57, e58, hf⟩ := ob_some hf
            have h59 : mA M0 15 i57 = true := h56 i57 e58
            refine W_stk (st := [.int (((4 : Int32) * v1) + v2), va_rf (((mR M0 0 v0 5)).map (ad 15))]) (st' := [.int (((4 : Int32) * v1) + v2), .ref (ad 15 i57)]) (by first | (rw [e58]; done) | (rw [e58]; rfl)) ?_
            obtain ⟨h60, hf⟩ := ix_some hf
            refine hp_zald hx hb hK hP h59 rfl h60 dX4_pool_51 ?_
            refine lv_if_eq (tgt := 57) hx hb dX4_pool_52 (by decide) (fun c61 => ?_) (fun c61 => ?_)
            · have hf := if_t hf c61
              refine lv_aload_n hx hb dX4_pool_57 rfl (lv_at hl 0 rfl) ?_
              refine lv_iconst (v := (4 : Int32)) hx hb dX4_pool_58 (by decide) ?_
              refine lv_iload_n hx hb dX4_pool_59 rfl (lv_at hl 1 rfl) ?_
              refine lv_imul hx hb dX4_pool_60 ?_
              refine lv_iload_n hx hb dX4_pool_61 rfl (lv_at hl 2 rfl) ?_
              refine lv_iadd hx hb dX4_pool_62 ?_
              refine lv_iload_n hx hb dX4_pool_63 rfl (lv_at hl 3 rfl) ?_
              refine lv_iload hx hb dX4_pool_64 (lv_at hl 4 rfl) ?_
              obtain ⟨⟨r63, M64⟩, e62, hf⟩ := ob_some hf
              refine hp_calli (va_runV (As := [.int (((4 : Int32) * v1) + v2), .int v3, .int v4]) (rest := []) ⟨hx, hb, hml, hown, hts⟩ (ok_X4_opens l D cy ad M0 _ v0 (((4 : Int32) * v1) + v2) v3 v4 r63 M64 a0 e62) (cwV 3 hts (gdV q722 q724 q54 q86 q725) rfl rfl rfl (by decide +kernel) ⟨Nat.le_of_ble_eq_true rfl, Nat.le_of_ble_eq_true rfl⟩) (pre_V hP hK hN a0 ds_0 rfl) rfl rfl hl.1 rfl (lv_room (Nat.le_of_ble_eq_true rfl)) dX4_pool_66 ⟨Nat.le_of_ble_eq_true rfl, Nat.le_of_ble_eq_true rfl⟩) hP hS hA (fun H locs hP hS hk65 => ?_)
              obtain ⟨h66, hf⟩ := zb_some hf
              exact hp_zret hx hb hr hlocks h66 (congrArg Prod.fst (Option.some.inj hf)) (congrArg Prod.snd (Option.some.inj hf)) hP hS (kt keep_rf hk65) dX4_pool_69
            · have hf := if_f hf c61
              refine lv_iconst (v := (0 : Int32)) hx hb dX4_pool_55 (by decide) ?_
              exact hp_zret hx hb hr hlocks (Or.inl rfl) (congrArg Prod.fst (Option.some.inj hf)) (congrArg Prod.snd (Option.some.inj hf)) hP hS keep_rf dX4_pool_56

def f_X4_pair (v0 : Nat) (v1 : Int32) (v2 : Int32) (v3 : Int32) (v4 : Int32) (M0 : Mm) : Option (Int32 × Mm) :=
  if 0 < (mI M0 0 v0 19) then (some ((0 : Int32), M0)) else (ob (f_X4_isRace v0 v1 M0) fun r49 => if r49 = 0 then (some ((0 : Int32), M0)) else (ob (f_X4_isRace v0 v2 M0) fun r54 => if r54 = 0 then (some ((0 : Int32), M0)) else (if v1 = v2 then (some ((0 : Int32), M0)) else (ob (mR M0 0 v0 1) fun i60 => ix v1 13 (if (mI M0 11 i60 (v1).toNatClampNeg) = 0 then (ob (mR M0 0 v0 1) fun i66 => ix v2 13 (if (mI M0 11 i66 (v2).toNatClampNeg) = 0 then (ob (f_X4_may v3 v4 M0) fun r72 => if r72 = 0 then (some ((0 : Int32), M0)) else (ob (mR M0 0 v0 5) fun i77 => ix (52 : Int32) 53 (if (mI M0 15 i77 ((52 : Int32)).toNatClampNeg) = 0 then (lt (sI M0 0 v0 17 v1) fun M82 => lt (sI M82 0 v0 18 v2) fun M85 => ob (f_X4_opens v0 (52 : Int32) v3 v4 M85) fun (r89, M90) => zb r89 (some (r89, M90))) else (some ((0 : Int32), M0))))) else (some ((0 : Int32), M0)))) else (some ((0 : Int32), M0)))))))
set_option maxRecDepth 100000 in
set_option maxHeartbeats 4000000 in
theorem ok_X4_pair (l : Launch) (D : va_G) (cy : Nat → ClassId) (ad : Nat → Nat → Nat) (M0 : Mm) (sz : Nat) (v0 : Nat) (v1 : Int32) (v2 : Int32) (v3 : Int32) (v4 : Int32) (r0 : Int32) (M' : Mm) (a0 : mA M0 0 v0 = true) (hf : f_X4_pair v0 v1 v2 v3 v4 M0 = some (r0, M')) : Met l yX4_pair (Cond.code yX4_pair cX4_pair 5 (some .boolean) :: BW) { frames := 2, cells := 0, slots := 0, locals := 43 } (va_Pc [.ref (ad 0 v0), .int v1, .int v2, .int v3, .int v4] (PRE D cy ad M0 sz)) (QI D cy ad M0 sz r0 M') 0 0 (AA ad M0 sz) := by
  refine Met.ofW (cc := cX4_pair) (maxL := 5) (ret := (some .boolean)) (by decide) rfl ?_
  intro p e s m args below meth c s₁ B hml hv
  obtain ⟨rfl, rfl, hP0, hK, hN⟩ := hv
  have hx := B.exec
  have hb := B.bytes
  have hr := B.returns
  have hts0 := atoms_spec (ws := (Cond.code yX4_pair cX4_pair 5 (some .boolean) :: BW)) B.pre
  have hts : ∀ w ∈ BW, w.before ([.ref (ad 0 v0), .int v1, .int v2, .int v3, .int v4] : List Value).toArray s = true := fun w h => hts0 w (List.mem_cons_of_mem _ h)
  have hown : s.vm.findClass RX4 = some m.cls := findClass_of_methodNamed B.named
  have hlocks := B.notSynchronized
  have hA : ∀ q : Nat, s.heap.size ≤ q → AA ad M0 s.heap.size q := fun q h => Or.inr h
  have C : Cx RX4 cX4_pair 5 (some .boolean) D cy (AA ad M0 s.heap.size) p s m ([.ref (ad 0 v0), .int v1, .int v2, .int v3, .int v4] : List Value).toArray meth c := ⟨hx, hb, hr, hml, hown, hts, hlocks, hK, hN, hA⟩
  have hP := hp_self (sz := s.heap.size) hP0
  have hS : va_S (AA ad M0 s.heap.size) s.heap s.heap [] := va_S.rf
  have hl := lv_entry ([.ref (ad 0 v0), .int v1, .int v2, .int v3, .int v4]) (n := 5) (Nat.le_of_ble_eq_true rfl)
  rw [lg_entry_eq]
  generalize (lg_sl ([.ref (ad 0 v0), .int v1, .int v2, .int v3, .int v4]) ++ List.replicate (5 - (lg_sl ([.ref (ad 0 v0), .int v1, .int v2, .int v3, .int v4])).length) Slot.unset).toArray = ls at hl ⊢
  have hl : lv_has ls 5 [(0, .ref (ad 0 v0)), (1, .int v1), (2, .int v2), (3, .int v3), (4, .int v4)] := hl
  unfold f_X4_pair at hf
  refine lv_aload_n hx hb dX4_pair_0 rfl (lv_at hl 0 rfl) ?_
  refine gf0 (v := .int (mI M0 0 v0 19)) hx hb hts hown hK hP a0 19 (by decide) (hts _ q624) rfl rfl dX4_pair_1 ?_
  refine lv_if_gt (tgt := 65) hx hb dX4_pair_4 (by decide) (fun c47 => ?_) (fun c47 => ?_)
  · have hf := if_t hf c47
    refine lv_iconst (v := (0 : Int32)) hx hb dX4_pair_65 (by decide) ?_
    exact hp_zret hx hb hr hlocks (Or.inl rfl) (congrArg Prod.fst (Option.some.inj hf)) (congrArg Prod.snd (Option.some.inj hf)) hP hS keep_rf dX4_pair_66
  · have hf := if_f hf c47
    refine lv_aload_n hx hb dX4_pair_7 rfl (lv_at hl 0 rfl) ?_
    refine lv_iload_n hx hb dX4_pair_8 rfl (lv_at hl 1 rfl) ?_
    obtain ⟨r49, e48, hf⟩ := ob_some hf
    refine hp_calli (va_runV (As := [.int v1]) (rest := []) ⟨hx, hb, hml, hown, hts⟩ (ok_X4_isRace l D cy ad M0 _ v0 v1 r49 a0 e48) (cwV 1 hts (gdV q715 q717 q53 q86 q718) rfl rfl rfl (by decide +kernel) ⟨Nat.le_of_ble_eq_true rfl, Nat.le_of_ble_eq_true rfl⟩) (pre_V hP hK hN a0 ds_0 rfl) rfl rfl hl.1 rfl (lv_room (Nat.le_of_ble_eq_true rfl)) dX4_pair_9 ⟨Nat.le_of_ble_eq_true rfl, Nat.le_of_ble_eq_true rfl⟩) hP hS hA (fun H locs hP hS _ => ?_)
    refine lv_if_eq (tgt := 65) hx hb dX4_pair_12 (by decide) (fun c52 => ?_) (fun c52 => ?_)
    · have hf := if_t hf c52
      refine lv_iconst (v := (0 : Int32)) hx hb dX4_pair_65 (by decide) ?_
      exact hp_zret hx hb hr hlocks (Or.inl rfl) (congrArg Prod.fst (Option.some.inj hf)) (congrArg Prod.snd (Option.some.inj hf)) hP hS keep_rf dX4_pair_66
    · have hf := if_f hf c52
      refine lv_aload_n hx hb dX4_pair_15 rfl (lv_at hl 0 rfl) ?_
      refine lv_iload_n hx hb dX4_pair_16 rfl (lv_at hl 2 rfl) ?_
      obtain ⟨r54, e53, hf⟩ := ob_some hf
      refine hp_calli (va_runV (As := [.int v2]) (rest := []) ⟨hx, hb, hml, hown, hts⟩ (ok_X4_isRace l D cy ad M0 _ v0 v2 r54 a0 e53) (cwV 1 hts (gdV q715 q717 q53 q86 q718) rfl rfl rfl (by decide +kernel) ⟨Nat.le_of_ble_eq_true rfl, Nat.le_of_ble_eq_true rfl⟩) (pre_V hP hK hN a0 ds_0 rfl) rfl rfl hl.1 rfl (lv_room (Nat.le_of_ble_eq_true rfl)) dX4_pair_17 ⟨Nat.le_of_ble_eq_true rfl, Nat.le_of_ble_eq_true rfl⟩) hP hS hA (fun H locs hP hS _ => ?_)
      refine lv_if_eq (tgt := 65) hx hb dX4_pair_20 (by decide) (fun c57 => ?_) (fun c57 => ?_)
      · have hf := if_t hf c57
        refine lv_iconst (v := (0 : Int32)) hx hb dX4_pair_65 (by decide) ?_
        exact hp_zret hx hb hr hlocks (Or.inl rfl) (congrArg Prod.fst (Option.some.inj hf)) (congrArg Prod.snd (Option.some.inj hf)) hP hS keep_rf dX4_pair_66
      · have hf := if_f hf c57
        refine lv_iload_n hx hb dX4_pair_23 rfl (lv_at hl 1 rfl) ?_
        refine lv_iload_n hx hb dX4_pair_24 rfl (lv_at hl 2 rfl) ?_
        refine lv_icmp_eq (tgt := 65) hx hb dX4_pair_25 (by decide) (fun c58 => ?_) (fun c58 => ?_)
        · have hf := if_t hf c58
          refine lv_iconst (v := (0 : Int32)) hx hb dX4_pair_65 (by decide) ?_
          exact hp_zret hx hb hr hlocks (Or.inl rfl) (congrArg Prod.fst (Option.some.inj hf)) (congrArg Prod.snd (Option.some.inj hf)) hP hS keep_rf dX4_pair_66
        · have hf := if_f hf c58
          refine lv_aload_n hx hb dX4_pair_28 rfl (lv_at hl 0 rfl) ?_
          have h59 : ∀ j : Nat, (mR M0 0 v0 1) = some j → mA M0 11 j = true := fun j hj => hp_wf hP a0 hj
          refine gf0 (v := va_rf (((mR M0 0 v0 1)).map (ad 11))) hx hb hts hown hK hP a0 1 (by decide) (hts _ q606) rfl rfl dX4_pair_29 ?_
          refine lv_iload_n hx hb dX4_pair_32 rfl (lv_at hl 1 rfl) ?_
          obtain ⟨i60, e61, hf⟩ := ob_some hf
          have h62 : mA M0 11 i60 = true := h59 i60 e61
          refine W_stk (st := [.int v1, va_rf (((mR M0 0 v0 1)).map (ad 11))]) (st' := [.int v1, .ref (ad 11 i60)]) (by first | (rw [e61]; done) | (rw [e61]; rfl)) ?_
          obtain ⟨h63, hf⟩ := ix_some hf
          refine hp_iald hx hb hK hP h62 rfl h63 dX4_pair_33 ?_
          refine lv_if_ne (tgt := 65) hx hb dX4_pair_34 (by decide) (fun c64 => ?_) (fun c64 => ?_)
          · have hf := if_f hf c64
            refine lv_iconst (v := (0 : Int32)) hx hb dX4_pair_65 (by decide) ?_
            exact hp_zret hx hb hr hlocks (Or.inl rfl) (congrArg Prod.fst (Option.some.inj hf)) (congrArg Prod.snd (Option.some.inj hf)) hP hS keep_rf dX4_pair_66
          · have hf := if_t hf c64
            refine lv_aload_n hx hb dX4_pair_37 rfl (lv_at hl 0 rfl) ?_
            have h65 : ∀ j : Nat, (mR M0 0 v0 1) = some j → mA M0 11 j = true := fun j hj => hp_wf hP a0 hj
            refine gf0 (v := va_rf (((mR M0 0 v0 1)).map (ad 11))) hx hb hts hown hK hP a0 1 (by decide) (hts _ q606) rfl rfl dX4_pair_38 ?_
            refine lv_iload_n hx hb dX4_pair_41 rfl (lv_at hl 2 rfl) ?_
            obtain ⟨i66, e67, hf⟩ := ob_some hf
            have h68 : mA M0 11 i66 = true := h65 i66 e67
            refine W_stk (st := [.int v2, va_rf (((mR M0 0 v0 1)).map (ad 11))]) (st' := [.int v2, .ref (ad 11 i66)]) (by first | (rw [e67]; done) | (rw [e67]; rfl)) ?_
            obtain ⟨h69, hf⟩ := ix_some hf
            refine hp_iald hx hb hK hP h68 rfl h69 dX4_pair_42 ?_
            refine lv_if_ne (tgt := 65) hx hb dX4_pair_43 (by decide) (fun c70 => ?_) (fun c70 => ?_)
            · have hf := if_f hf c70
              refine lv_iconst (v := (0 : Int32)) hx hb dX4_pair_65 (by decide) ?_
              exact hp_zret hx hb hr hlocks (Or.inl rfl) (congrArg Prod.fst (Option.some.inj hf)) (congrArg Prod.snd (Option.some.inj hf)) hP hS keep_rf dX4_pair_66
            · have hf := if_t hf c70
              refine lv_iload_n hx hb dX4_pair_46 rfl (lv_at hl 3 rfl) ?_
              refine lv_iload hx hb dX4_pair_47 (lv_at hl 4 rfl) ?_
              obtain ⟨r72, e71, hf⟩ := ob_some hf
              refine hp_calli (va_runS (As := [.int v3, .int v4]) (rest := []) ⟨hx, hb, hml, hown, hts⟩ (ok_X4_may l D cy ad M0 _ v3 v4 r72  e71) (va_cwS 2 hts (gdS q719 q720 q86 q721) rfl rfl rfl (by decide +kernel) ⟨Nat.le_of_ble_eq_true rfl, Nat.le_of_ble_eq_true rfl⟩) (pre_S hP hK hN) rfl rfl hl.1 rfl (lv_room (Nat.le_of_ble_eq_true rfl)) dX4_pair_49 ⟨Nat.le_of_ble_eq_true rfl, Nat.le_of_ble_eq_true rfl⟩) hP hS hA (fun H locs hP hS _ => ?_)
              refine lv_if_eq (tgt := 65) hx hb dX4_pair_52 (by decide) (fun c75 => ?_) (fun c75 => ?_)
              · have hf := if_t hf c75
                refine lv_iconst (v := (0 : Int32)) hx hb dX4_pair_65 (by decide) ?_
                exact hp_zret hx hb hr hlocks (Or.inl rfl) (congrArg Prod.fst (Option.some.inj hf)) (congrArg Prod.snd (Option.some.inj hf)) hP hS keep_rf dX4_pair_66
              · have hf := if_f hf c75
                refine lv_aload_n hx hb dX4_pair_55 rfl (lv_at hl 0 rfl) ?_
                have h76 : ∀ j : Nat, (mR M0 0 v0 5) = some j → mA M0 15 j = true := fun j hj => hp_wf hP a0 hj
                refine gf0 (v := va_rf (((mR M0 0 v0 5)).map (ad 15))) hx hb hts hown hK hP a0 5 (by decide) (hts _ q610) rfl rfl dX4_pair_56 ?_
                refine lv_bipush (v := (52 : Int32)) hx hb dX4_pair_59 (by decide) ?_
                obtain ⟨i77, e78, hf⟩ := ob_some hf
                have h79 : mA M0 15 i77 = true := h76 i77 e78
                refine W_stk (st := [.int (52 : Int32), va_rf (((mR M0 0 v0 5)).map (ad 15))]) (st' := [.int (52 : Int32), .ref (ad 15 i77)]) (by first | (rw [e78]; done) | (rw [e78]; rfl)) ?_
                obtain ⟨h80, hf⟩ := ix_some hf
                refine hp_zald hx hb hK hP h79 rfl h80 dX4_pair_61 ?_
                refine lv_if_eq (tgt := 67) hx hb dX4_pair_62 (by decide) (fun c81 => ?_) (fun c81 => ?_)
                · have hf := if_t hf c81
                  refine lv_aload_n hx hb dX4_pair_67 rfl (lv_at hl 0 rfl) ?_
                  refine lv_iload_n hx hb dX4_pair_68 rfl (lv_at hl 1 rfl) ?_
                  obtain ⟨M82, e83, hf⟩ := lt_some hf
                  have hk84 : Keep M0 M82 := keI e83
                  refine pI0 (v := v1) hx hb hts hown hK hP hS a0 17 (by decide) (hts _ q622) rfl rfl rfl e83 dX4_pair_69 (fun H locs hP hS => ?_)
                  refine lv_aload_n hx hb dX4_pair_72 rfl (lv_at hl 0 rfl) ?_
                  refine lv_iload_n hx hb dX4_pair_73 rfl (lv_at hl 2 rfl) ?_
                  obtain ⟨M85, e86, hf⟩ := lt_some hf
                  have hk87 : Keep M82 M85 := keI e86
                  refine pI0 (v := v2) hx hb hts hown hK hP hS (hk84 _ _ a0) 18 (by decide) (hts _ q623) rfl rfl rfl e86 dX4_pair_74 (fun H locs hP hS => ?_)
                  refine lv_aload_n hx hb dX4_pair_77 rfl (lv_at hl 0 rfl) ?_
                  refine lv_bipush (v := (52 : Int32)) hx hb dX4_pair_78 (by decide) ?_
                  refine lv_iload_n hx hb dX4_pair_80 rfl (lv_at hl 3 rfl) ?_
                  refine lv_iload hx hb dX4_pair_81 (lv_at hl 4 rfl) ?_
                  obtain ⟨⟨r89, M90⟩, e88, hf⟩ := ob_some hf
                  refine hp_calli (va_runV (As := [.int (52 : Int32), .int v3, .int v4]) (rest := []) ⟨hx, hb, hml, hown, hts⟩ (ok_X4_opens l D cy ad M85 _ v0 (52 : Int32) v3 v4 r89 M90 (hk87 _ _ (hk84 _ _ a0)) e88) (cwV 3 hts (gdV q722 q724 q54 q86 q725) rfl rfl rfl (by decide +kernel) ⟨Nat.le_of_ble_eq_true rfl, Nat.le_of_ble_eq_true rfl⟩) (pre_V hP hK hN (hk87 _ _ (hk84 _ _ a0)) ds_0 rfl) rfl rfl hl.1 rfl (lv_room (Nat.le_of_ble_eq_true rfl)) dX4_pair_83 ⟨Nat.le_of_ble_eq_true rfl, Nat.le_of_ble_eq_true rfl⟩) hP hS hA (fun H locs hP hS hk91 => ?_)
                  obtain ⟨h92, hf⟩ := zb_some hf
                  exact hp_zret hx hb hr hlocks h92 (congrArg Prod.fst (Option.some.inj hf)) (congrArg Prod.snd (Option.some.inj hf)) hP hS (kt (kt (kt keep_rf hk84) hk87) hk91) dX4_pair_86
                · have hf := if_f hf c81
                  refine lv_iconst (v := (0 : Int32)) hx hb dX4_pair_65 (by decide) ?_
                  exact hp_zret hx hb hr hlocks (Or.inl rfl) (congrArg Prod.fst (Option.some.inj hf)) (congrArg Prod.snd (Option.some.inj hf)) hP hS keep_rf dX4_pair_66
def f_X4_substitute_33 (v0 : Nat) (v1 : Int32) (v2 : Int32) (M : Mm) : Option (Int32 × Mm) :=
  ob (mR M 0 v0 1) fun i38 => ix v1 13 (if (mI M 11 i38 (v1).toNatClampNeg) = 0 then (ob (f_X4_runs v0 v1 v2 M) fun r44 => if r44 = 0 then (some ((0 : Int32), M)) else (ob (mR M 0 v0 2) fun i49 => ix v1 13 (lt (sI M 12 i49 (v1).toNatClampNeg v2) fun M53 => some ((1 : Int32), M53)))) else (some ((0 : Int32), M)))
def f_X4_substitute (v0 : Nat) (v1 : Int32) (v2 : Int32) (M0 : Mm) : Option (Int32 × Mm) :=
  if 0 < (mI M0 0 v0 19) then (some ((0 : Int32), M0)) else (ob (mR M0 0 v0 5) fun i31 => ix (52 : Int32) 53 (if (mI M0 15 i31 ((52 : Int32)).toNatClampNeg) = 0 then (some ((0 : Int32), M0)) else (if v1 = (mI M0 0 v0 17) then (f_X4_substitute_33 v0 v1 v2 M0) else (if v1 = (mI M0 0 v0 18) then (f_X4_substitute_33 v0 v1 v2 M0) else (some ((0 : Int32), M0))))))
set_option maxRecDepth 100000 in
set_option maxHeartbeats 4000000 in
theorem t_X4_substitute_33 {p : Program} {l : Launch} {e : Env} {s : State} {m : MethodId} {args : Array Value} {below : List Frame} {meth : Method} {c : Code} {D : va_G} {cy : Nat → ClassId} {ad : Nat → Nat → Nat} {M0 : Mm} {r0 : Int32} {M' : Mm} (C : Cx RX4 cX4_substitute 3 (some .boolean) D cy (AA ad M0 s.heap.size) p s m args meth c) : ∀ (v0 : Nat) (v1 : Int32) (v2 : Int32) (M : Mm) (H : Heap) (locs : List Loc) (ls : Array Slot), (mA M 0 v0 = true) → Keep M0 M → f_X4_substitute_33 v0 v1 v2 M = some (r0, M') → HP D cy (AA ad M0 s.heap.size) ad M H → va_S (AA ad M0 s.heap.size) s.heap H locs → lv_has ls 3 [(0, .ref (ad 0 v0)), (1, .int v1), (2, .int v2)] → W p l e { frames := 3, cells := 0, slots := 0, locals := 66 } s m args below meth c H locs 0 0 (MQ below (QI D cy ad M0 s.heap.size r0 M') args s 0 0 (AA ad M0 s.heap.size)) (F0 m 33 ls []) := by
  obtain ⟨hx, hb, hr, hml, hown, hts, hlocks, hK, hN, hA⟩ := id C
  intro v0 v1 v2 M H locs ls a0 hk hf hP hS hl
  unfold f_X4_substitute_33 at hf
  refine lv_aload_n hx hb dX4_substitute_33 rfl (lv_at hl 0 rfl) ?_
  have h37 : ∀ j : Nat, (mR M 0 v0 1) = some j → mA M 11 j = true := fun j hj => hp_wf hP a0 hj
  refine gf0 (v := va_rf (((mR M 0 v0 1)).map (ad 11))) hx hb hts hown hK hP a0 1 (by decide) (hts _ q606) rfl rfl dX4_substitute_34 ?_
  refine lv_iload_n hx hb dX4_substitute_37 rfl (lv_at hl 1 rfl) ?_
  obtain ⟨i38, e39, hf⟩ := ob_some hf
  have h40 : mA M 11 i38 = true := h37 i38 e39
  refine W_stk (st := [.int v1, va_rf (((mR M 0 v0 1)).map (ad 11))]) (st' := [.int v1, .ref (ad 11 i38)]) (by first | (rw [e39]; done) | (rw [e39]; rfl)) ?_
  obtain ⟨h41, hf⟩ := ix_some hf
  refine hp_iald hx hb hK hP h40 rfl h41 dX4_substitute_38 ?_
  refine lv_if_ne (tgt := 51) hx hb dX4_substitute_39 (by decide) (fun c42 => ?_) (fun c42 => ?_)
  · have hf := if_f hf c42
    refine lv_iconst (v := (0 : Int32)) hx hb dX4_substitute_51 (by decide) ?_
    exact hp_zret hx hb hr hlocks (Or.inl rfl) (congrArg Prod.fst (Option.some.inj hf)) (congrArg Prod.snd (Option.some.inj hf)) hP hS hk dX4_substitute_52
  · have hf := if_t hf c42
    refine lv_aload_n hx hb dX4_substitute_42 rfl (lv_at hl 0 rfl) ?_
    refine lv_iload_n hx hb dX4_substitute_43 rfl (lv_at hl 1 rfl) ?_
    refine lv_iload_n hx hb dX4_substitute_44 rfl (lv_at hl 2 rfl) ?_
    obtain ⟨r44, e43, hf⟩ := ob_some hf
    refine hp_calli (va_runV (As := [.int v1, .int v2]) (rest := []) ⟨hx, hb, hml, hown, hts⟩ (ok_X4_runs l D cy ad M _ v0 v1 v2 r44 a0 e43) (cwV 2 hts (gdV q734 q736 q55 q86 q737) rfl rfl rfl (by decide +kernel) ⟨Nat.le_of_ble_eq_true rfl, Nat.le_of_ble_eq_true rfl⟩) (pre_V hP hK hN a0 ds_0 rfl) rfl rfl hl.1 rfl (lv_room (Nat.le_of_ble_eq_true rfl)) dX4_substitute_45 ⟨Nat.le_of_ble_eq_true rfl, Nat.le_of_ble_eq_true rfl⟩) hP hS hA (fun H locs hP hS _ => ?_)
    refine lv_if_ne (tgt := 53) hx hb dX4_substitute_48 (by decide) (fun c47 => ?_) (fun c47 => ?_)
    · have hf := if_f hf c47
      refine lv_aload_n hx hb dX4_substitute_53 rfl (lv_at hl 0 rfl) ?_
      have h48 : ∀ j : Nat, (mR M 0 v0 2) = some j → mA M 12 j = true := fun j hj => hp_wf hP a0 hj
      refine gf0 (v := va_rf (((mR M 0 v0 2)).map (ad 12))) hx hb hts hown hK hP a0 2 (by decide) (hts _ q607) rfl rfl dX4_substitute_54 ?_
      refine lv_iload_n hx hb dX4_substitute_57 rfl (lv_at hl 1 rfl) ?_
      refine lv_iload_n hx hb dX4_substitute_58 rfl (lv_at hl 2 rfl) ?_
      obtain ⟨i49, e50, hf⟩ := ob_some hf
      have h51 : mA M 12 i49 = true := h48 i49 e50
      refine W_stk (st := [.int v2, .int v1, va_rf (((mR M 0 v0 2)).map (ad 12))]) (st' := [.int v2, .int v1, .ref (ad 12 i49)]) (by first | (rw [e50]; done) | (rw [e50]; rfl)) ?_
      obtain ⟨h52, hf⟩ := ix_some hf
      obtain ⟨M53, e54, hf⟩ := lt_some hf
      have hk55 : Keep M M53 := keI e54
      refine hp_iast hx hb hK hP hS h51 rfl h52 dX4_substitute_59 (fun H locs hP hS => ?_)
      rw [← e54] at hP
      refine lv_iconst (v := (1 : Int32)) hx hb dX4_substitute_60 (by decide) ?_
      exact hp_zret hx hb hr hlocks (Or.inr rfl) (congrArg Prod.fst (Option.some.inj hf)) (congrArg Prod.snd (Option.some.inj hf)) hP hS (kt hk hk55) dX4_substitute_61
    · have hf := if_t hf c47
      refine lv_iconst (v := (0 : Int32)) hx hb dX4_substitute_51 (by decide) ?_
      exact hp_zret hx hb hr hlocks (Or.inl rfl) (congrArg Prod.fst (Option.some.inj hf)) (congrArg Prod.snd (Option.some.inj hf)) hP hS hk dX4_substitute_52
set_option maxRecDepth 100000 in
set_option maxHeartbeats 4000000 in
theorem ok_X4_substitute (l : Launch) (D : va_G) (cy : Nat → ClassId) (ad : Nat → Nat → Nat) (M0 : Mm) (sz : Nat) (v0 : Nat) (v1 : Int32) (v2 : Int32) (r0 : Int32) (M' : Mm) (a0 : mA M0 0 v0 = true) (hf : f_X4_substitute v0 v1 v2 M0 = some (r0, M')) : Met l yX4_substitute (Cond.code yX4_substitute cX4_substitute 3 (some .boolean) :: BW) { frames := 3, cells := 0, slots := 0, locals := 66 } (va_Pc [.ref (ad 0 v0), .int v1, .int v2] (PRE D cy ad M0 sz)) (QI D cy ad M0 sz r0 M') 0 0 (AA ad M0 sz) := by
  refine Met.ofW (cc := cX4_substitute) (maxL := 3) (ret := (some .boolean)) (by decide) rfl ?_
  intro p e s m args below meth c s₁ B hml hv
  obtain ⟨rfl, rfl, hP0, hK, hN⟩ := hv
  have hx := B.exec
  have hb := B.bytes
  have hr := B.returns
  have hts0 := atoms_spec (ws := (Cond.code yX4_substitute cX4_substitute 3 (some .boolean) :: BW)) B.pre
  have hts : ∀ w ∈ BW, w.before ([.ref (ad 0 v0), .int v1, .int v2] : List Value).toArray s = true := fun w h => hts0 w (List.mem_cons_of_mem _ h)
  have hown : s.vm.findClass RX4 = some m.cls := findClass_of_methodNamed B.named
  have hlocks := B.notSynchronized
  have hA : ∀ q : Nat, s.heap.size ≤ q → AA ad M0 s.heap.size q := fun q h => Or.inr h
  have C : Cx RX4 cX4_substitute 3 (some .boolean) D cy (AA ad M0 s.heap.size) p s m ([.ref (ad 0 v0), .int v1, .int v2] : List Value).toArray meth c := ⟨hx, hb, hr, hml, hown, hts, hlocks, hK, hN, hA⟩
  have hP := hp_self (sz := s.heap.size) hP0
  have hS : va_S (AA ad M0 s.heap.size) s.heap s.heap [] := va_S.rf
  have hl := lv_entry ([.ref (ad 0 v0), .int v1, .int v2]) (n := 3) (Nat.le_of_ble_eq_true rfl)
  rw [lg_entry_eq]
  generalize (lg_sl ([.ref (ad 0 v0), .int v1, .int v2]) ++ List.replicate (3 - (lg_sl ([.ref (ad 0 v0), .int v1, .int v2])).length) Slot.unset).toArray = ls at hl ⊢
  have hl : lv_has ls 3 [(0, .ref (ad 0 v0)), (1, .int v1), (2, .int v2)] := hl
  unfold f_X4_substitute at hf
  refine lv_aload_n hx hb dX4_substitute_0 rfl (lv_at hl 0 rfl) ?_
  refine gf0 (v := .int (mI M0 0 v0 19)) hx hb hts hown hK hP a0 19 (by decide) (hts _ q624) rfl rfl dX4_substitute_1 ?_
  refine lv_if_gt (tgt := 51) hx hb dX4_substitute_4 (by decide) (fun c29 => ?_) (fun c29 => ?_)
  · have hf := if_t hf c29
    refine lv_iconst (v := (0 : Int32)) hx hb dX4_substitute_51 (by decide) ?_
    exact hp_zret hx hb hr hlocks (Or.inl rfl) (congrArg Prod.fst (Option.some.inj hf)) (congrArg Prod.snd (Option.some.inj hf)) hP hS keep_rf dX4_substitute_52
  · have hf := if_f hf c29
    refine lv_aload_n hx hb dX4_substitute_7 rfl (lv_at hl 0 rfl) ?_
    have h30 : ∀ j : Nat, (mR M0 0 v0 5) = some j → mA M0 15 j = true := fun j hj => hp_wf hP a0 hj
    refine gf0 (v := va_rf (((mR M0 0 v0 5)).map (ad 15))) hx hb hts hown hK hP a0 5 (by decide) (hts _ q610) rfl rfl dX4_substitute_8 ?_
    refine lv_bipush (v := (52 : Int32)) hx hb dX4_substitute_11 (by decide) ?_
    obtain ⟨i31, e32, hf⟩ := ob_some hf
    have h33 : mA M0 15 i31 = true := h30 i31 e32
    refine W_stk (st := [.int (52 : Int32), va_rf (((mR M0 0 v0 5)).map (ad 15))]) (st' := [.int (52 : Int32), .ref (ad 15 i31)]) (by first | (rw [e32]; done) | (rw [e32]; rfl)) ?_
    obtain ⟨h34, hf⟩ := ix_some hf
    refine hp_zald hx hb hK hP h33 rfl h34 dX4_substitute_13 ?_
    refine lv_if_eq (tgt := 51) hx hb dX4_substitute_14 (by decide) (fun c35 => ?_) (fun c35 => ?_)
    · have hf := if_t hf c35
      refine lv_iconst (v := (0 : Int32)) hx hb dX4_substitute_51 (by decide) ?_
      exact hp_zret hx hb hr hlocks (Or.inl rfl) (congrArg Prod.fst (Option.some.inj hf)) (congrArg Prod.snd (Option.some.inj hf)) hP hS keep_rf dX4_substitute_52
    · have hf := if_f hf c35
      refine lv_iload_n hx hb dX4_substitute_17 rfl (lv_at hl 1 rfl) ?_
      refine lv_aload_n hx hb dX4_substitute_18 rfl (lv_at hl 0 rfl) ?_
      refine gf0 (v := .int (mI M0 0 v0 17)) hx hb hts hown hK hP a0 17 (by decide) (hts _ q622) rfl rfl dX4_substitute_19 ?_
      refine lv_icmp_eq (tgt := 33) hx hb dX4_substitute_22 (by decide) (fun c36 => ?_) (fun c36 => ?_)
      · have hf := if_t hf c36
        exact t_X4_substitute_33 C v0 v1 v2 M0 _ _ _ a0 keep_rf hf hP hS (lv_sub hl [0, 1, 2] rfl)
      · have hf := if_f hf c36
        refine lv_iload_n hx hb dX4_substitute_25 rfl (lv_at hl 1 rfl) ?_
        refine lv_aload_n hx hb dX4_substitute_26 rfl (lv_at hl 0 rfl) ?_
        refine gf0 (v := .int (mI M0 0 v0 18)) hx hb hts hown hK hP a0 18 (by decide) (hts _ q623) rfl rfl dX4_substitute_27 ?_
        refine lv_icmp_ne (tgt := 51) hx hb dX4_substitute_30 (by decide) (fun c56 => ?_) (fun c56 => ?_)
        · have hf := if_f hf c56
          refine lv_iconst (v := (0 : Int32)) hx hb dX4_substitute_51 (by decide) ?_
          exact hp_zret hx hb hr hlocks (Or.inl rfl) (congrArg Prod.fst (Option.some.inj hf)) (congrArg Prod.snd (Option.some.inj hf)) hP hS keep_rf dX4_substitute_52
        · have hf := if_t hf c56
          exact t_X4_substitute_33 C v0 v1 v2 M0 _ _ _ a0 keep_rf hf hP hS (lv_sub hl [0, 1, 2] rfl)

def f_X4_names (v0 : Nat) (v1 : Int32) (v2 : Int32) (v3 : Int32) (M0 : Mm) : Option Mm :=
  ob (mR M0 0 v0 27) fun i26 => ix (0 : Int32) 3 (lt (sI M0 32 i26 ((0 : Int32)).toNatClampNeg v1) fun M30 => ob (mR M30 0 v0 27) fun i34 => ix (1 : Int32) 3 (lt (sI M30 32 i34 ((1 : Int32)).toNatClampNeg v2) fun M38 => ob (mR M38 0 v0 27) fun i42 => ix (2 : Int32) 3 (lt (sI M38 32 i42 ((2 : Int32)).toNatClampNeg v3) fun M46 => some M46)))
set_option maxRecDepth 100000 in
set_option maxHeartbeats 4000000 in
theorem ok_X4_names (l : Launch) (D : va_G) (cy : Nat → ClassId) (ad : Nat → Nat → Nat) (M0 : Mm) (sz : Nat) (v0 : Nat) (v1 : Int32) (v2 : Int32) (v3 : Int32) (M' : Mm) (a0 : mA M0 0 v0 = true) (hf : f_X4_names v0 v1 v2 v3 M0 = some M') : Met l yX4_names (Cond.code yX4_names cX4_names 4 none :: BW) { frames := 0, cells := 0, slots := 0, locals := 0 } (va_Pc [.ref (ad 0 v0), .int v1, .int v2, .int v3] (PRE D cy ad M0 sz)) (QV D cy ad M0 sz M') 0 0 (AA ad M0 sz) := by
  refine Met.ofW (cc := cX4_names) (maxL := 4) (ret := none) (by decide) rfl ?_
  intro p e s m args below meth c s₁ B hml hv
  obtain ⟨rfl, rfl, hP0, hK, hN⟩ := hv
  have hx := B.exec
  have hb := B.bytes
  have hr := B.returns
  have hts0 := atoms_spec (ws := (Cond.code yX4_names cX4_names 4 none :: BW)) B.pre
  have hts : ∀ w ∈ BW, w.before ([.ref (ad 0 v0), .int v1, .int v2, .int v3] : List Value).toArray s = true := fun w h => hts0 w (List.mem_cons_of_mem _ h)
  have hown : s.vm.findClass RX4 = some m.cls := findClass_of_methodNamed B.named
  have hlocks := B.notSynchronized
  have hA : ∀ q : Nat, s.heap.size ≤ q → AA ad M0 s.heap.size q := fun q h => Or.inr h
  have C : Cx RX4 cX4_names 4 none D cy (AA ad M0 s.heap.size) p s m ([.ref (ad 0 v0), .int v1, .int v2, .int v3] : List Value).toArray meth c := ⟨hx, hb, hr, hml, hown, hts, hlocks, hK, hN, hA⟩
  have hP := hp_self (sz := s.heap.size) hP0
  have hS : va_S (AA ad M0 s.heap.size) s.heap s.heap [] := va_S.rf
  have hl := lv_entry ([.ref (ad 0 v0), .int v1, .int v2, .int v3]) (n := 4) (Nat.le_of_ble_eq_true rfl)
  rw [lg_entry_eq]
  generalize (lg_sl ([.ref (ad 0 v0), .int v1, .int v2, .int v3]) ++ List.replicate (4 - (lg_sl ([.ref (ad 0 v0), .int v1, .int v2, .int v3])).length) Slot.unset).toArray = ls at hl ⊢
  have hl : lv_has ls 4 [(0, .ref (ad 0 v0)), (1, .int v1), (2, .int v2), (3, .int v3)] := hl
  unfold f_X4_names at hf
  refine lv_aload_n hx hb dX4_names_0 rfl (lv_at hl 0 rfl) ?_
  have h25 : ∀ j : Nat, (mR M0 0 v0 27) = some j → mA M0 32 j = true := fun j hj => hp_wf hP a0 hj
  refine gf0 (v := va_rf (((mR M0 0 v0 27)).map (ad 32))) hx hb hts hown hK hP a0 27 (by decide) (hts _ q632) rfl rfl dX4_names_1 ?_
  refine lv_iconst (v := (0 : Int32)) hx hb dX4_names_4 (by decide) ?_
  refine lv_iload_n hx hb dX4_names_5 rfl (lv_at hl 1 rfl) ?_
  obtain ⟨i26, e27, hf⟩ := ob_some hf
  have h28 : mA M0 32 i26 = true := h25 i26 e27
  refine W_stk (st := [.int v1, .int (0 : Int32), va_rf (((mR M0 0 v0 27)).map (ad 32))]) (st' := [.int v1, .int (0 : Int32), .ref (ad 32 i26)]) (by first | (rw [e27]; done) | (rw [e27]; rfl)) ?_
  obtain ⟨h29, hf⟩ := ix_some hf
  obtain ⟨M30, e31, hf⟩ := lt_some hf
  have hk32 : Keep M0 M30 := keI e31
  refine hp_iast hx hb hK hP hS h28 rfl h29 dX4_names_6 (fun H locs hP hS => ?_)
  rw [← e31] at hP
  refine lv_aload_n hx hb dX4_names_7 rfl (lv_at hl 0 rfl) ?_
  have h33 : ∀ j : Nat, (mR M30 0 v0 27) = some j → mA M30 32 j = true := fun j hj => hp_wf hP (hk32 _ _ a0) hj
  refine gf0 (v := va_rf (((mR M30 0 v0 27)).map (ad 32))) hx hb hts hown hK hP (hk32 _ _ a0) 27 (by decide) (hts _ q632) rfl rfl dX4_names_8 ?_
  refine lv_iconst (v := (1 : Int32)) hx hb dX4_names_11 (by decide) ?_
  refine lv_iload_n hx hb dX4_names_12 rfl (lv_at hl 2 rfl) ?_
  obtain ⟨i34, e35, hf⟩ := ob_some hf
  have h36 : mA M30 32 i34 = true := h33 i34 e35
  refine W_stk (st := [.int v2, .int (1 : Int32), va_rf (((mR M30 0 v0 27)).map (ad 32))]) (st' := [.int v2, .int (1 : Int32), .ref (ad 32 i34)]) (by first | (rw [e35]; done) | (rw [e35]; rfl)) ?_
  obtain ⟨h37, hf⟩ := ix_some hf
  obtain ⟨M38, e39, hf⟩ := lt_some hf
  have hk40 : Keep M30 M38 := keI e39
  refine hp_iast hx hb hK hP hS h36 rfl h37 dX4_names_13 (fun H locs hP hS => ?_)
  rw [← e39] at hP
  refine lv_aload_n hx hb dX4_names_14 rfl (lv_at hl 0 rfl) ?_
  have h41 : ∀ j : Nat, (mR M38 0 v0 27) = some j → mA M38 32 j = true := fun j hj => hp_wf hP (hk40 _ _ (hk32 _ _ a0)) hj
  refine gf0 (v := va_rf (((mR M38 0 v0 27)).map (ad 32))) hx hb hts hown hK hP (hk40 _ _ (hk32 _ _ a0)) 27 (by decide) (hts _ q632) rfl rfl dX4_names_15 ?_
  refine lv_iconst (v := (2 : Int32)) hx hb dX4_names_18 (by decide) ?_
  refine lv_iload_n hx hb dX4_names_19 rfl (lv_at hl 3 rfl) ?_
  obtain ⟨i42, e43, hf⟩ := ob_some hf
  have h44 : mA M38 32 i42 = true := h41 i42 e43
  refine W_stk (st := [.int v3, .int (2 : Int32), va_rf (((mR M38 0 v0 27)).map (ad 32))]) (st' := [.int v3, .int (2 : Int32), .ref (ad 32 i42)]) (by first | (rw [e43]; done) | (rw [e43]; rfl)) ?_
  obtain ⟨h45, hf⟩ := ix_some hf
  obtain ⟨M46, e47, hf⟩ := lt_some hf
  have hk48 : Keep M38 M46 := keI e47
  refine hp_iast hx hb hK hP hS h44 rfl h45 dX4_names_20 (fun H locs hP hS => ?_)
  rw [← e47] at hP
  exact hp_vret hx hb hr hlocks (Option.some.inj hf) hP hS (kt (kt (kt keep_rf hk32) hk40) hk48) dX4_names_21
def f_X4_named_56 (M0 : Mm) (k42 : Nat → Int32 → Int32 → Int32 → Option Int32) : Nat → Nat → Int32 → Int32 → Int32 → Int32 → Option Int32
  | 0, _, _, _, _, _ => none
  | n + 1, v0, v1, v2, v3, v4 => if v3 ≤ v4 then (lt (v3 + (1 : Int32)) fun x48 => k42 v0 v1 v2 x48) else (ob (mR M0 0 v0 27) fun i51 => ix v4 3 (ob (mR M0 0 v0 27) fun i56 => ix v3 3 (if (mI M0 32 i51 (v4).toNatClampNeg) = (mI M0 32 i56 (v3).toNatClampNeg) then (some (-6 : Int32)) else (lt (v4 + (1 : Int32)) fun x61 => f_X4_named_56 M0 k42 n v0 v1 v2 v3 x61))))
def f_X4_named_42 (M0 : Mm) : Nat → Nat → Int32 → Int32 → Int32 → Option Int32
  | 0, _, _, _, _ => none
  | n + 1, v0, v1, v2, v3 => if v2 ≤ v3 then (some (0 : Int32)) else (if v1 = (52 : Int32) then (some (0 : Int32)) else (f_X4_named_56 M0 (f_X4_named_42 M0 n) FU v0 v1 v2 v3 (0 : Int32)))
def f_X4_named_7 (M0 : Mm) : Nat → Nat → Int32 → Int32 → Int32 → Option Int32
  | 0, _, _, _, _ => none
  | n + 1, v0, v1, v2, v3 => if v2 ≤ v3 then (f_X4_named_42 M0 FU v0 v1 v2 (0 : Int32)) else (ob (f_X4_raceOf v0 v1 v3 M0) fun r64 => ob (mR M0 0 v0 27) fun i68 => ix v3 3 (ob (f_X4_isRunner v0 r64 (mI M0 32 i68 (v3).toNatClampNeg) M0) fun r73 => if r73 = 0 then (some (-4 : Int32)) else (lt (v3 + (1 : Int32)) fun x77 => f_X4_named_7 M0 n v0 v1 v2 x77)))
def f_X4_named (v0 : Nat) (v1 : Int32) (M0 : Mm) : Option Int32 :=
  ob (f_X4_many v1 M0) fun r41 => f_X4_named_7 M0 FU v0 v1 r41 (0 : Int32)
set_option maxRecDepth 100000 in
set_option maxHeartbeats 4000000 in
theorem t_X4_named_56 {p : Program} {l : Launch} {e : Env} {s : State} {m : MethodId} {args : Array Value} {below : List Frame} {meth : Method} {c : Code} {D : va_G} {cy : Nat → ClassId} {ad : Nat → Nat → Nat} {M0 : Mm} {r0 : Int32} (C : Cx RX4 cX4_named 5 (some .int) D cy (AA ad M0 s.heap.size) p s m args meth c) (k42 : Nat → Int32 → Int32 → Int32 → Option Int32) (hk42 : ∀ (v0 : Nat) (v1 : Int32) (v2 : Int32) (v3 : Int32) (H : Heap) (locs : List Loc) (ls : Array Slot), (mA M0 0 v0 = true) → k42 v0 v1 v2 v3 = some r0 → HP D cy (AA ad M0 s.heap.size) ad M0 H → va_S (AA ad M0 s.heap.size) s.heap H locs → lv_has ls 5 [(0, .ref (ad 0 v0)), (1, .int v1), (2, .int v2), (3, .int v3)] → W p l e { frames := 2, cells := 0, slots := 0, locals := 44 } s m args below meth c H locs 0 0 (MQ below (QI D cy ad M0 s.heap.size r0 M0) args s 0 0 (AA ad M0 s.heap.size)) (F0 m 42 ls [])) : ∀ (n : Nat), ∀ (v0 : Nat) (v1 : Int32) (v2 : Int32) (v3 : Int32) (v4 : Int32) (H : Heap) (locs : List Loc) (ls : Array Slot), (mA M0 0 v0 = true) → f_X4_named_56 M0 k42 n v0 v1 v2 v3 v4 = some r0 → HP D cy (AA ad M0 s.heap.size) ad M0 H → va_S (AA ad M0 s.heap.size) s.heap H locs → lv_has ls 5 [(0, .ref (ad 0 v0)), (1, .int v1), (2, .int v2), (3, .int v3), (4, .int v4)] → W p l e { frames := 2, cells := 0, slots := 0, locals := 44 } s m args below meth c H locs 0 0 (MQ below (QI D cy ad M0 s.heap.size r0 M0) args s 0 0 (AA ad M0 s.heap.size)) (F0 m 56 ls []) := by
  obtain ⟨hx, hb, hr, hml, hown, hts, hlocks, hK, hN, hA⟩ := id C
  intro n
  induction n with
  | zero =>
    intro v0 v1 v2 v3 v4 H locs ls a0 hf hP hS hl
    simp [f_X4_named_56] at hf
  | succ n ih =>
    intro v0 v1 v2 v3 v4 H locs ls a0 hf hP hS hl
    rw [f_X4_named_56] at hf
    refine lv_iload hx hb dX4_named_56 (lv_at hl 4 rfl) ?_
    refine lv_iload_n hx hb dX4_named_58 rfl (lv_at hl 3 rfl) ?_
    refine lv_icmp_ge (tgt := 87) hx hb dX4_named_59 (by decide) (fun c47 => ?_) (fun c47 => ?_)
    · have hf := if_t hf c47
      obtain ⟨x48, e49, hf⟩ := lt_some hf
      refine lv_iinc (v := x48) (lv' := [(3, .int x48), (0, .ref (ad 0 v0)), (1, .int v1), (2, .int v2), (4, .int v4)]) hx hb dX4_named_87 hl (k := 3) rfl (by rw [e49]; rfl) (by decide) rfl (fun ls hl => ?_)
      refine lv_goto (tgt := 42) hx hb dX4_named_90 (by decide) ?_
      exact hk42 v0 v1 v2 x48 _ _ _ a0 hf hP hS (lv_sub hl [1, 2, 3, 0] rfl)
    · have hf := if_f hf c47
      refine lv_aload_n hx hb dX4_named_62 rfl (lv_at hl 0 rfl) ?_
      have h50 : ∀ j : Nat, (mR M0 0 v0 27) = some j → mA M0 32 j = true := fun j hj => hp_wf hP a0 hj
      refine gf0 (v := va_rf (((mR M0 0 v0 27)).map (ad 32))) hx hb hts hown hK hP a0 27 (by decide) (hts _ q632) rfl rfl dX4_named_63 ?_
      refine lv_iload hx hb dX4_named_66 (lv_at hl 4 rfl) ?_
      obtain ⟨i51, e52, hf⟩ := ob_some hf
      have h53 : mA M0 32 i51 = true := h50 i51 e52
      refine W_stk (st := [.int v4, va_rf (((mR M0 0 v0 27)).map (ad 32))]) (st' := [.int v4, .ref (ad 32 i51)]) (by first | (rw [e52]; done) | (rw [e52]; rfl)) ?_
      obtain ⟨h54, hf⟩ := ix_some hf
      refine hp_iald hx hb hK hP h53 rfl h54 dX4_named_68 ?_
      refine lv_aload_n hx hb dX4_named_69 rfl (lv_at hl 0 rfl) ?_
      have h55 : ∀ j : Nat, (mR M0 0 v0 27) = some j → mA M0 32 j = true := fun j hj => hp_wf hP a0 hj
      refine gf0 (v := va_rf (((mR M0 0 v0 27)).map (ad 32))) hx hb hts hown hK hP a0 27 (by decide) (hts _ q632) rfl rfl dX4_named_70 ?_
      refine lv_iload_n hx hb dX4_named_73 rfl (lv_at hl 3 rfl) ?_
      obtain ⟨i56, e57, hf⟩ := ob_some hf
      have h58 : mA M0 32 i56 = true := h55 i56 e57
      refine W_stk (st := [.int v3, va_rf (((mR M0 0 v0 27)).map (ad 32)), .int (mI M0 32 i51 (v4).toNatClampNeg)]) (st' := [.int v3, .ref (ad 32 i56), .int (mI M0 32 i51 (v4).toNatClampNeg)]) (by first | (rw [e57]; done) | (rw [e57]; rfl)) ?_
      obtain ⟨h59, hf⟩ := ix_some hf
      refine hp_iald hx hb hK hP h58 rfl h59 dX4_named_74 ?_
      refine lv_icmp_ne (tgt := 81) hx hb dX4_named_75 (by decide) (fun c60 => ?_) (fun c60 => ?_)
      · have hf := if_f hf c60
        obtain ⟨x61, e62, hf⟩ := lt_some hf
        refine lv_iinc (v := x61) (lv' := [(4, .int x61), (0, .ref (ad 0 v0)), (1, .int v1), (2, .int v2), (3, .int v3)]) hx hb dX4_named_81 hl (k := 4) rfl (by rw [e62]; rfl) (by decide) rfl (fun ls hl => ?_)
        refine lv_goto (tgt := 56) hx hb dX4_named_84 (by decide) ?_
        exact ih v0 v1 v2 v3 x61 _ _ _ a0 hf hP hS (lv_sub hl [1, 2, 3, 4, 0] rfl)
      · have hf := if_t hf c60
        refine lv_bipush (v := (-6 : Int32)) hx hb dX4_named_78 (by decide) ?_
        exact hp_iret hx hb hr hlocks (Option.some.inj hf) rfl hP hS keep_rf dX4_named_80
set_option maxRecDepth 100000 in
set_option maxHeartbeats 4000000 in
theorem t_X4_named_42 {p : Program} {l : Launch} {e : Env} {s : State} {m : MethodId} {args : Array Value} {below : List Frame} {meth : Method} {c : Code} {D : va_G} {cy : Nat → ClassId} {ad : Nat → Nat → Nat} {M0 : Mm} {r0 : Int32} (C : Cx RX4 cX4_named 5 (some .int) D cy (AA ad M0 s.heap.size) p s m args meth c) : ∀ (n : Nat), ∀ (v0 : Nat) (v1 : Int32) (v2 : Int32) (v3 : Int32) (H : Heap) (locs : List Loc) (ls : Array Slot), (mA M0 0 v0 = true) → f_X4_named_42 M0 n v0 v1 v2 v3 = some r0 → HP D cy (AA ad M0 s.heap.size) ad M0 H → va_S (AA ad M0 s.heap.size) s.heap H locs → lv_has ls 5 [(0, .ref (ad 0 v0)), (1, .int v1), (2, .int v2), (3, .int v3)] → W p l e { frames := 2, cells := 0, slots := 0, locals := 44 } s m args below meth c H locs 0 0 (MQ below (QI D cy ad M0 s.heap.size r0 M0) args s 0 0 (AA ad M0 s.heap.size)) (F0 m 42 ls []) := by
  obtain ⟨hx, hb, hr, hml, hown, hts, hlocks, hK, hN, hA⟩ := id C
  intro n
  induction n with
  | zero =>
    intro v0 v1 v2 v3 H locs ls a0 hf hP hS hl
    simp [f_X4_named_42] at hf
  | succ n ih =>
    intro v0 v1 v2 v3 H locs ls a0 hf hP hS hl
    rw [f_X4_named_42] at hf
    refine lv_iload_n hx hb dX4_named_42 rfl (lv_at hl 3 rfl) ?_
    refine lv_iload_n hx hb dX4_named_43 rfl (lv_at hl 2 rfl) ?_
    refine lv_icmp_ge (tgt := 93) hx hb dX4_named_44 (by decide) (fun c45 => ?_) (fun c45 => ?_)
    · have hf := if_t hf c45
      refine lv_iconst (v := (0 : Int32)) hx hb dX4_named_93 (by decide) ?_
      exact hp_iret hx hb hr hlocks (Option.some.inj hf) rfl hP hS keep_rf dX4_named_94
    · have hf := if_f hf c45
      refine lv_iload_n hx hb dX4_named_47 rfl (lv_at hl 1 rfl) ?_
      refine lv_bipush (v := (52 : Int32)) hx hb dX4_named_48 (by decide) ?_
      refine lv_icmp_eq (tgt := 93) hx hb dX4_named_50 (by decide) (fun c46 => ?_) (fun c46 => ?_)
      · have hf := if_t hf c46
        refine lv_iconst (v := (0 : Int32)) hx hb dX4_named_93 (by decide) ?_
        exact hp_iret hx hb hr hlocks (Option.some.inj hf) rfl hP hS keep_rf dX4_named_94
      · have hf := if_f hf c46
        refine lv_iconst (v := (0 : Int32)) hx hb dX4_named_53 (by decide) ?_
        refine lv_istore (lv' := [(4, .int (0 : Int32)), (0, .ref (ad 0 v0)), (1, .int v1), (2, .int v2), (3, .int v3)]) hx hb dX4_named_54 hl (by decide) rfl (fun ls hl => ?_)
        exact t_X4_named_56 C (f_X4_named_42 M0 n) ih FU v0 v1 v2 v3 (0 : Int32) _ _ _ a0 hf hP hS (lv_sub hl [1, 2, 3, 4, 0] rfl)
set_option maxRecDepth 100000 in
set_option maxHeartbeats 4000000 in
theorem t_X4_named_7 {p : Program} {l : Launch} {e : Env} {s : State} {m : MethodId} {args : Array Value} {below : List Frame} {meth : Method} {c : Code} {D : va_G} {cy : Nat → ClassId} {ad : Nat → Nat → Nat} {M0 : Mm} {r0 : Int32} (C : Cx RX4 cX4_named 5 (some .int) D cy (AA ad M0 s.heap.size) p s m args meth c) : ∀ (n : Nat), ∀ (v0 : Nat) (v1 : Int32) (v2 : Int32) (v3 : Int32) (H : Heap) (locs : List Loc) (ls : Array Slot), (mA M0 0 v0 = true) → f_X4_named_7 M0 n v0 v1 v2 v3 = some r0 → HP D cy (AA ad M0 s.heap.size) ad M0 H → va_S (AA ad M0 s.heap.size) s.heap H locs → lv_has ls 5 [(0, .ref (ad 0 v0)), (1, .int v1), (2, .int v2), (3, .int v3)] → W p l e { frames := 2, cells := 0, slots := 0, locals := 44 } s m args below meth c H locs 0 0 (MQ below (QI D cy ad M0 s.heap.size r0 M0) args s 0 0 (AA ad M0 s.heap.size)) (F0 m 7 ls []) := by
  obtain ⟨hx, hb, hr, hml, hown, hts, hlocks, hK, hN, hA⟩ := id C
  intro n
  induction n with
  | zero =>
    intro v0 v1 v2 v3 H locs ls a0 hf hP hS hl
    simp [f_X4_named_7] at hf
  | succ n ih =>
    intro v0 v1 v2 v3 H locs ls a0 hf hP hS hl
    rw [f_X4_named_7] at hf
    refine lv_iload_n hx hb dX4_named_7 rfl (lv_at hl 3 rfl) ?_
    refine lv_iload_n hx hb dX4_named_8 rfl (lv_at hl 2 rfl) ?_
    refine lv_icmp_ge (tgt := 40) hx hb dX4_named_9 (by decide) (fun c44 => ?_) (fun c44 => ?_)
    · have hf := if_t hf c44
      refine lv_iconst (v := (0 : Int32)) hx hb dX4_named_40 (by decide) ?_
      refine lv_istore_n (lv' := [(3, .int (0 : Int32)), (0, .ref (ad 0 v0)), (1, .int v1), (2, .int v2)]) hx hb dX4_named_41 rfl hl (by decide) rfl (fun ls hl => ?_)
      exact t_X4_named_42 C FU v0 v1 v2 (0 : Int32) _ _ _ a0 hf hP hS (lv_sub hl [1, 2, 3, 0] rfl)
    · have hf := if_f hf c44
      refine lv_aload_n hx hb dX4_named_12 rfl (lv_at hl 0 rfl) ?_
      refine lv_aload_n hx hb dX4_named_13 rfl (lv_at hl 0 rfl) ?_
      refine lv_iload_n hx hb dX4_named_14 rfl (lv_at hl 1 rfl) ?_
      refine lv_iload_n hx hb dX4_named_15 rfl (lv_at hl 3 rfl) ?_
      obtain ⟨r64, e63, hf⟩ := ob_some hf
      refine hp_calli (va_runV (As := [.int v1, .int v3]) (rest := [.ref (ad 0 v0)]) ⟨hx, hb, hml, hown, hts⟩ (ok_X4_raceOf l D cy ad M0 _ v0 v1 v3 r64 a0 e63) (cwV 2 hts (gdV q754 q756 q59 q86 q757) rfl rfl rfl (by decide +kernel) ⟨Nat.le_of_ble_eq_true rfl, Nat.le_of_ble_eq_true rfl⟩) (pre_V hP hK hN a0 ds_0 rfl) rfl rfl hl.1 rfl (lv_room (Nat.le_of_ble_eq_true rfl)) dX4_named_16 ⟨Nat.le_of_ble_eq_true rfl, Nat.le_of_ble_eq_true rfl⟩) hP hS hA (fun H locs hP hS _ => ?_)
      refine lv_aload_n hx hb dX4_named_19 rfl (lv_at hl 0 rfl) ?_
      have h67 : ∀ j : Nat, (mR M0 0 v0 27) = some j → mA M0 32 j = true := fun j hj => hp_wf hP a0 hj
      refine gf0 (v := va_rf (((mR M0 0 v0 27)).map (ad 32))) hx hb hts hown hK hP a0 27 (by decide) (hts _ q632) rfl rfl dX4_named_20 ?_
      refine lv_iload_n hx hb dX4_named_23 rfl (lv_at hl 3 rfl) ?_
      obtain ⟨i68, e69, hf⟩ := ob_some hf
      have h70 : mA M0 32 i68 = true := h67 i68 e69
      refine W_stk (st := [.int v3, va_rf (((mR M0 0 v0 27)).map (ad 32)), .int r64, .ref (ad 0 v0)]) (st' := [.int v3, .ref (ad 32 i68), .int r64, .ref (ad 0 v0)]) (by first | (rw [e69]; done) | (rw [e69]; rfl)) ?_
      obtain ⟨h71, hf⟩ := ix_some hf
      refine hp_iald hx hb hK hP h70 rfl h71 dX4_named_24 ?_
      obtain ⟨r73, e72, hf⟩ := ob_some hf
      refine hp_calli (va_runV (As := [.int r64, .int (mI M0 32 i68 (v3).toNatClampNeg)]) (rest := []) ⟨hx, hb, hml, hown, hts⟩ (ok_X4_isRunner l D cy ad M0 _ v0 r64 (mI M0 32 i68 (v3).toNatClampNeg) r73 a0 e72) (cwV 2 hts (gdV q738 q740 q56 q86 q741) rfl rfl rfl (by decide +kernel) ⟨Nat.le_of_ble_eq_true rfl, Nat.le_of_ble_eq_true rfl⟩) (pre_V hP hK hN a0 ds_0 rfl) rfl rfl hl.1 rfl (lv_room (Nat.le_of_ble_eq_true rfl)) dX4_named_25 ⟨Nat.le_of_ble_eq_true rfl, Nat.le_of_ble_eq_true rfl⟩) hP hS hA (fun H locs hP hS _ => ?_)
      refine lv_if_ne (tgt := 34) hx hb dX4_named_28 (by decide) (fun c76 => ?_) (fun c76 => ?_)
      · have hf := if_f hf c76
        obtain ⟨x77, e78, hf⟩ := lt_some hf
        refine lv_iinc (v := x77) (lv' := [(3, .int x77), (0, .ref (ad 0 v0)), (1, .int v1), (2, .int v2)]) hx hb dX4_named_34 hl (k := 3) rfl (by rw [e78]; rfl) (by decide) rfl (fun ls hl => ?_)
        refine lv_goto (tgt := 7) hx hb dX4_named_37 (by decide) ?_
        exact ih v0 v1 v2 x77 _ _ _ a0 hf hP hS (lv_sub hl [1, 2, 3, 0] rfl)
      · have hf := if_t hf c76
        refine lv_bipush (v := (-4 : Int32)) hx hb dX4_named_31 (by decide) ?_
        exact hp_iret hx hb hr hlocks (Option.some.inj hf) rfl hP hS keep_rf dX4_named_33
set_option maxRecDepth 100000 in
set_option maxHeartbeats 4000000 in
theorem ok_X4_named (l : Launch) (D : va_G) (cy : Nat → ClassId) (ad : Nat → Nat → Nat) (M0 : Mm) (sz : Nat) (v0 : Nat) (v1 : Int32) (r0 : Int32) (a0 : mA M0 0 v0 = true) (hf : f_X4_named v0 v1 M0 = some r0) : Met l yX4_named (Cond.code yX4_named cX4_named 5 (some .int) :: BW) { frames := 2, cells := 0, slots := 0, locals := 44 } (va_Pc [.ref (ad 0 v0), .int v1] (PRE D cy ad M0 sz)) (QI D cy ad M0 sz r0 M0) 0 0 (AA ad M0 sz) := by
  refine Met.ofW (cc := cX4_named) (maxL := 5) (ret := (some .int)) (by decide) rfl ?_
  intro p e s m args below meth c s₁ B hml hv
  obtain ⟨rfl, rfl, hP0, hK, hN⟩ := hv
  have hx := B.exec
  have hb := B.bytes
  have hr := B.returns
  have hts0 := atoms_spec (ws := (Cond.code yX4_named cX4_named 5 (some .int) :: BW)) B.pre
  have hts : ∀ w ∈ BW, w.before ([.ref (ad 0 v0), .int v1] : List Value).toArray s = true := fun w h => hts0 w (List.mem_cons_of_mem _ h)
  have hown : s.vm.findClass RX4 = some m.cls := findClass_of_methodNamed B.named
  have hlocks := B.notSynchronized
  have hA : ∀ q : Nat, s.heap.size ≤ q → AA ad M0 s.heap.size q := fun q h => Or.inr h
  have C : Cx RX4 cX4_named 5 (some .int) D cy (AA ad M0 s.heap.size) p s m ([.ref (ad 0 v0), .int v1] : List Value).toArray meth c := ⟨hx, hb, hr, hml, hown, hts, hlocks, hK, hN, hA⟩
  have hP := hp_self (sz := s.heap.size) hP0
  have hS : va_S (AA ad M0 s.heap.size) s.heap s.heap [] := va_S.rf
  have hl := lv_entry ([.ref (ad 0 v0), .int v1]) (n := 5) (Nat.le_of_ble_eq_true rfl)
  rw [lg_entry_eq]
  generalize (lg_sl ([.ref (ad 0 v0), .int v1]) ++ List.replicate (5 - (lg_sl ([.ref (ad 0 v0), .int v1])).length) Slot.unset).toArray = ls at hl ⊢
  have hl : lv_has ls 5 [(0, .ref (ad 0 v0)), (1, .int v1)] := hl
  unfold f_X4_named at hf
  refine lv_iload_n hx hb dX4_named_0 rfl (lv_at hl 1 rfl) ?_
  obtain ⟨r41, e40, hf⟩ := ob_some hf
  refine hp_calli (va_runS (As := [.int v1]) (rest := []) ⟨hx, hb, hml, hown, hts⟩ (ok_X4_many l D cy ad M0 _ v1 r41  e40) (va_cwS 1 hts (gdS q766 q767 q86 q768) rfl rfl rfl (by decide +kernel) ⟨Nat.le_of_ble_eq_true rfl, Nat.le_of_ble_eq_true rfl⟩) (pre_S hP hK hN) rfl rfl hl.1 rfl (lv_room (Nat.le_of_ble_eq_true rfl)) dX4_named_1 ⟨Nat.le_of_ble_eq_true rfl, Nat.le_of_ble_eq_true rfl⟩) hP hS hA (fun H locs hP hS _ => ?_)
  refine lv_istore_n (lv' := [(2, .int r41), (0, .ref (ad 0 v0)), (1, .int v1)]) hx hb dX4_named_4 rfl hl (by decide) rfl (fun ls hl => ?_)
  refine lv_iconst (v := (0 : Int32)) hx hb dX4_named_5 (by decide) ?_
  refine lv_istore_n (lv' := [(3, .int (0 : Int32)), (2, .int r41), (0, .ref (ad 0 v0)), (1, .int v1)]) hx hb dX4_named_6 rfl hl (by decide) rfl (fun ls hl => ?_)
  exact t_X4_named_7 C FU v0 v1 r41 (0 : Int32) _ _ _ a0 hf hP hS (lv_sub hl [2, 3, 1, 0] rfl)

def f_X4_isOpen (v0 : Nat) (v1 : Int32) (M0 : Mm) : Option Int32 :=
  ob (f_X4_raceOf v0 v1 (0 : Int32) M0) fun r23 => ob (mR M0 0 v0 1) fun i26 => ix r23 13 (if (mI M0 11 i26 (r23).toNatClampNeg) = 0 then (ob (f_X4_raceOf v0 v1 (1 : Int32) M0) fun r33 => ob (mR M0 0 v0 1) fun i36 => ix r33 13 (if (mI M0 11 i36 (r33).toNatClampNeg) = 0 then (some (1 : Int32)) else (some (0 : Int32)))) else (some (0 : Int32)))
set_option maxRecDepth 100000 in
set_option maxHeartbeats 4000000 in
theorem ok_X4_isOpen (l : Launch) (D : va_G) (cy : Nat → ClassId) (ad : Nat → Nat → Nat) (M0 : Mm) (sz : Nat) (v0 : Nat) (v1 : Int32) (r0 : Int32) (a0 : mA M0 0 v0 = true) (hf : f_X4_isOpen v0 v1 M0 = some r0) : Met l yX4_isOpen (Cond.code yX4_isOpen cX4_isOpen 2 (some .boolean) :: BW) { frames := 1, cells := 0, slots := 0, locals := 22 } (va_Pc [.ref (ad 0 v0), .int v1] (PRE D cy ad M0 sz)) (QI D cy ad M0 sz r0 M0) 0 0 (AA ad M0 sz) := by
  refine Met.ofW (cc := cX4_isOpen) (maxL := 2) (ret := (some .boolean)) (by decide) rfl ?_
  intro p e s m args below meth c s₁ B hml hv
  obtain ⟨rfl, rfl, hP0, hK, hN⟩ := hv
  have hx := B.exec
  have hb := B.bytes
  have hr := B.returns
  have hts0 := atoms_spec (ws := (Cond.code yX4_isOpen cX4_isOpen 2 (some .boolean) :: BW)) B.pre
  have hts : ∀ w ∈ BW, w.before ([.ref (ad 0 v0), .int v1] : List Value).toArray s = true := fun w h => hts0 w (List.mem_cons_of_mem _ h)
  have hown : s.vm.findClass RX4 = some m.cls := findClass_of_methodNamed B.named
  have hlocks := B.notSynchronized
  have hA : ∀ q : Nat, s.heap.size ≤ q → AA ad M0 s.heap.size q := fun q h => Or.inr h
  have C : Cx RX4 cX4_isOpen 2 (some .boolean) D cy (AA ad M0 s.heap.size) p s m ([.ref (ad 0 v0), .int v1] : List Value).toArray meth c := ⟨hx, hb, hr, hml, hown, hts, hlocks, hK, hN, hA⟩
  have hP := hp_self (sz := s.heap.size) hP0
  have hS : va_S (AA ad M0 s.heap.size) s.heap s.heap [] := va_S.rf
  have hl := lv_entry ([.ref (ad 0 v0), .int v1]) (n := 2) (Nat.le_of_ble_eq_true rfl)
  rw [lg_entry_eq]
  generalize (lg_sl ([.ref (ad 0 v0), .int v1]) ++ List.replicate (2 - (lg_sl ([.ref (ad 0 v0), .int v1])).length) Slot.unset).toArray = ls at hl ⊢
  have hl : lv_has ls 2 [(0, .ref (ad 0 v0)), (1, .int v1)] := hl
  unfold f_X4_isOpen at hf
  refine lv_aload_n hx hb dX4_isOpen_0 rfl (lv_at hl 0 rfl) ?_
  have h21 : ∀ j : Nat, (mR M0 0 v0 1) = some j → mA M0 11 j = true := fun j hj => hp_wf hP a0 hj
  refine gf0 (v := va_rf (((mR M0 0 v0 1)).map (ad 11))) hx hb hts hown hK hP a0 1 (by decide) (hts _ q606) rfl rfl dX4_isOpen_1 ?_
  refine lv_aload_n hx hb dX4_isOpen_4 rfl (lv_at hl 0 rfl) ?_
  refine lv_iload_n hx hb dX4_isOpen_5 rfl (lv_at hl 1 rfl) ?_
  refine lv_iconst (v := (0 : Int32)) hx hb dX4_isOpen_6 (by decide) ?_
  obtain ⟨r23, e22, hf⟩ := ob_some hf
  refine hp_calli (va_runV (As := [.int v1, .int (0 : Int32)]) (rest := [va_rf (((mR M0 0 v0 1)).map (ad 11))]) ⟨hx, hb, hml, hown, hts⟩ (ok_X4_raceOf l D cy ad M0 _ v0 v1 (0 : Int32) r23 a0 e22) (cwV 2 hts (gdV q754 q756 q59 q86 q757) rfl rfl rfl (by decide +kernel) ⟨Nat.le_of_ble_eq_true rfl, Nat.le_of_ble_eq_true rfl⟩) (pre_V hP hK hN a0 ds_0 rfl) rfl rfl hl.1 rfl (lv_room (by cases (mR M0 0 v0 1) <;> exact Nat.le_of_ble_eq_true rfl)) dX4_isOpen_7 ⟨Nat.le_of_ble_eq_true rfl, Nat.le_of_ble_eq_true rfl⟩) hP hS hA (fun H locs hP hS _ => ?_)
  obtain ⟨i26, e27, hf⟩ := ob_some hf
  have h28 : mA M0 11 i26 = true := h21 i26 e27
  refine W_stk (st := [.int r23, va_rf (((mR M0 0 v0 1)).map (ad 11))]) (st' := [.int r23, .ref (ad 11 i26)]) (by first | (rw [e27]; done) | (rw [e27]; rfl)) ?_
  obtain ⟨h29, hf⟩ := ix_some hf
  refine hp_iald hx hb hK hP h28 rfl h29 dX4_isOpen_10 ?_
  refine lv_if_ne (tgt := 32) hx hb dX4_isOpen_11 (by decide) (fun c30 => ?_) (fun c30 => ?_)
  · have hf := if_f hf c30
    refine lv_iconst (v := (0 : Int32)) hx hb dX4_isOpen_32 (by decide) ?_
    exact hp_zret hx hb hr hlocks (Or.inl rfl) (Option.some.inj hf) rfl hP hS keep_rf dX4_isOpen_33
  · have hf := if_t hf c30
    refine lv_aload_n hx hb dX4_isOpen_14 rfl (lv_at hl 0 rfl) ?_
    have h31 : ∀ j : Nat, (mR M0 0 v0 1) = some j → mA M0 11 j = true := fun j hj => hp_wf hP a0 hj
    refine gf0 (v := va_rf (((mR M0 0 v0 1)).map (ad 11))) hx hb hts hown hK hP a0 1 (by decide) (hts _ q606) rfl rfl dX4_isOpen_15 ?_
    refine lv_aload_n hx hb dX4_isOpen_18 rfl (lv_at hl 0 rfl) ?_
    refine lv_iload_n hx hb dX4_isOpen_19 rfl (lv_at hl 1 rfl) ?_
    refine lv_iconst (v := (1 : Int32)) hx hb dX4_isOpen_20 (by decide) ?_
    obtain ⟨r33, e32, hf⟩ := ob_some hf
    refine hp_calli (va_runV (As := [.int v1, .int (1 : Int32)]) (rest := [va_rf (((mR M0 0 v0 1)).map (ad 11))]) ⟨hx, hb, hml, hown, hts⟩ (ok_X4_raceOf l D cy ad M0 _ v0 v1 (1 : Int32) r33 a0 e32) (cwV 2 hts (gdV q754 q756 q59 q86 q757) rfl rfl rfl (by decide +kernel) ⟨Nat.le_of_ble_eq_true rfl, Nat.le_of_ble_eq_true rfl⟩) (pre_V hP hK hN a0 ds_0 rfl) rfl rfl hl.1 rfl (lv_room (by cases (mR M0 0 v0 1) <;> exact Nat.le_of_ble_eq_true rfl)) dX4_isOpen_21 ⟨Nat.le_of_ble_eq_true rfl, Nat.le_of_ble_eq_true rfl⟩) hP hS hA (fun H locs hP hS _ => ?_)
    obtain ⟨i36, e37, hf⟩ := ob_some hf
    have h38 : mA M0 11 i36 = true := h31 i36 e37
    refine W_stk (st := [.int r33, va_rf (((mR M0 0 v0 1)).map (ad 11))]) (st' := [.int r33, .ref (ad 11 i36)]) (by first | (rw [e37]; done) | (rw [e37]; rfl)) ?_
    obtain ⟨h39, hf⟩ := ix_some hf
    refine hp_iald hx hb hK hP h38 rfl h39 dX4_isOpen_24 ?_
    refine lv_if_ne (tgt := 32) hx hb dX4_isOpen_25 (by decide) (fun c40 => ?_) (fun c40 => ?_)
    · have hf := if_f hf c40
      refine lv_iconst (v := (0 : Int32)) hx hb dX4_isOpen_32 (by decide) ?_
      exact hp_zret hx hb hr hlocks (Or.inl rfl) (Option.some.inj hf) rfl hP hS keep_rf dX4_isOpen_33
    · have hf := if_t hf c40
      refine lv_iconst (v := (1 : Int32)) hx hb dX4_isOpen_28 (by decide) ?_
      refine lv_goto (tgt := 33) hx hb dX4_isOpen_29 (by decide) ?_
      exact hp_zret hx hb hr hlocks (Or.inr rfl) (Option.some.inj hf) rfl hP hS keep_rf dX4_isOpen_33
def f_X4_sell_155 : Nat → Nat → Int32 → Int32 → Int32 → Int32 → Mm → Option (Int32 × Mm)
  | 0, _, _, _, _, _, _ => none
  | n + 1, v0, v6, v7, v9, v10, M => if (3 : Int32) ≤ v10 then (ob (mR M 0 v0 22) fun i150 => ix v9 600 (lt (sI M 29 i150 (v9).toNatClampNeg v6) fun M154 => ob (mR M154 0 v0 23) fun i158 => ix v9 600 (lt (sI M154 30 i158 (v9).toNatClampNeg (0 : Int32)) fun M162 => lt (sI M162 0 v0 19 ((mI M162 0 v0 19) + (1 : Int32))) fun M165 => some (v9, M165)))) else (ob (f_X4_many v7 M) fun r170 => if r170 ≤ v10 then (ob (mR M 0 v0 21) fun i174 => ix (((3 : Int32) * v9) + v10) 1800 (lt (sI M 28 i174 ((((3 : Int32) * v9) + v10)).toNatClampNeg (0 : Int32)) fun M178 => lt (v10 + (1 : Int32)) fun x181 => f_X4_sell_155 n v0 v6 v7 v9 x181 M178)) else (ob (mR M 0 v0 27) fun i184 => ix v10 3 (ob (mR M 0 v0 21) fun i188 => ix (((3 : Int32) * v9) + v10) 1800 (lt (sI M 28 i188 ((((3 : Int32) * v9) + v10)).toNatClampNeg (mI M 32 i184 (v10).toNatClampNeg)) fun M192 => lt (v10 + (1 : Int32)) fun x195 => f_X4_sell_155 n v0 v6 v7 v9 x195 M192))))
def f_X4_sell_73 : Nat → Nat → Int32 → Int32 → Int32 → Int32 → Mm → Option (Int32 × Mm)
  | 0, _, _, _, _, _, _ => none
  | n + 1, v0, v6, v7, v8, v9, M => ob (f_X4_many v7 M) fun r132 => if r132 ≤ v9 then (if v8 = (-6 : Int32) then (some ((-6 : Int32), M)) else (if (mI M 0 v0 19) = (600 : Int32) then (some ((-7 : Int32), M)) else (lt (mI M 0 v0 19) fun x138 => ob (mR M 0 v0 20) fun i141 => ix x138 600 (lt (sI M 27 i141 (x138).toNatClampNeg v7) fun M145 => f_X4_sell_155 FU v0 v6 v7 x138 (0 : Int32) M145)))) else (ob (f_X4_raceOf v0 v7 v9 M) fun r198 => ob (mR M 0 v0 27) fun i202 => ix v9 3 (ob (f_X4_runs v0 r198 (mI M 32 i202 (v9).toNatClampNeg) M) fun r207 => if r207 = 0 then (some ((-5 : Int32), M)) else (lt (v9 + (1 : Int32)) fun x211 => f_X4_sell_73 n v0 v6 v7 v8 x211 M)))
def f_X4_sell (v0 : Nat) (v1 : Int32) (v2 : Int32) (v3 : Int32) (v4 : Int32) (v5 : Int32) (v6 : Int32) (M0 : Mm) : Option (Int32 × Mm) :=
  ob (f_X4_poolOf v0 v1 v2 M0) fun r108 => if r108 = (-1 : Int32) then (some ((-1 : Int32), M0)) else (ob (f_X4_in v6 (1 : Int32) (1000 : Int32) M0) fun r113 => if r113 = 0 then (some ((-2 : Int32), M0)) else (ob (f_X4_isOpen v0 r108 M0) fun r118 => if r118 = 0 then (some ((-3 : Int32), M0)) else (ob (f_X4_names v0 v3 v4 v5 M0) fun M124 => ob (f_X4_named v0 r108 M124) fun r127 => if r127 = (-4 : Int32) then (some ((-4 : Int32), M124)) else (f_X4_sell_73 FU v0 v6 r108 r127 (0 : Int32) M124))))
set_option maxRecDepth 100000 in
set_option maxHeartbeats 4000000 in
theorem t_X4_sell_155 {p : Program} {l : Launch} {e : Env} {s : State} {m : MethodId} {args : Array Value} {below : List Frame} {meth : Method} {c : Code} {D : va_G} {cy : Nat → ClassId} {ad : Nat → Nat → Nat} {M0 : Mm} {r0 : Int32} {M' : Mm} (C : Cx RX4 cX4_sell 11 (some .int) D cy (AA ad M0 s.heap.size) p s m args meth c) : ∀ (n : Nat), ∀ (v0 : Nat) (v6 : Int32) (v7 : Int32) (v9 : Int32) (v10 : Int32) (M : Mm) (H : Heap) (locs : List Loc) (ls : Array Slot), (mA M 0 v0 = true) → Keep M0 M → f_X4_sell_155 n v0 v6 v7 v9 v10 M = some (r0, M') → HP D cy (AA ad M0 s.heap.size) ad M H → va_S (AA ad M0 s.heap.size) s.heap H locs → lv_has ls 11 [(0, .ref (ad 0 v0)), (6, .int v6), (7, .int v7), (9, .int v9), (10, .int v10)] → W p l e { frames := 3, cells := 0, slots := 0, locals := 68 } s m args below meth c H locs 0 0 (MQ below (QI D cy ad M0 s.heap.size r0 M') args s 0 0 (AA ad M0 s.heap.size)) (F0 m 155 ls []) := by
  obtain ⟨hx, hb, hr, hml, hown, hts, hlocks, hK, hN, hA⟩ := id C
  intro n
  induction n with
  | zero =>
    intro v0 v6 v7 v9 v10 M H locs ls a0 hk hf hP hS hl
    simp [f_X4_sell_155] at hf
  | succ n ih =>
    intro v0 v6 v7 v9 v10 M H locs ls a0 hk hf hP hS hl
    rw [f_X4_sell_155] at hf
    refine lv_iload hx hb dX4_sell_155 (lv_at hl 4 rfl) ?_
    refine lv_iconst (v := (3 : Int32)) hx hb dX4_sell_157 (by decide) ?_
    refine lv_icmp_ge (tgt := 200) hx hb dX4_sell_158 (by decide) (fun c148 => ?_) (fun c148 => ?_)
    · have hf := if_t hf c148
      refine lv_aload_n hx hb dX4_sell_200 rfl (lv_at hl 0 rfl) ?_
      have h149 : ∀ j : Nat, (mR M 0 v0 22) = some j → mA M 29 j = true := fun j hj => hp_wf hP a0 hj
      refine gf0 (v := va_rf (((mR M 0 v0 22)).map (ad 29))) hx hb hts hown hK hP a0 22 (by decide) (hts _ q627) rfl rfl dX4_sell_201 ?_
      refine lv_iload hx hb dX4_sell_204 (lv_at hl 3 rfl) ?_
      refine lv_iload hx hb dX4_sell_206 (lv_at hl 1 rfl) ?_
      obtain ⟨i150, e151, hf⟩ := ob_some hf
      have h152 : mA M 29 i150 = true := h149 i150 e151
      refine W_stk (st := [.int v6, .int v9, va_rf (((mR M 0 v0 22)).map (ad 29))]) (st' := [.int v6, .int v9, .ref (ad 29 i150)]) (by first | (rw [e151]; done) | (rw [e151]; rfl)) ?_
      obtain ⟨h153, hf⟩ := ix_some hf
      obtain ⟨M154, e155, hf⟩ := lt_some hf
      have hk156 : Keep M M154 := keI e155
      refine hp_iast hx hb hK hP hS h152 rfl h153 dX4_sell_208 (fun H locs hP hS => ?_)
      rw [← e155] at hP
      refine lv_aload_n hx hb dX4_sell_209 rfl (lv_at hl 0 rfl) ?_
      have h157 : ∀ j : Nat, (mR M154 0 v0 23) = some j → mA M154 30 j = true := fun j hj => hp_wf hP (hk156 _ _ a0) hj
      refine gf0 (v := va_rf (((mR M154 0 v0 23)).map (ad 30))) hx hb hts hown hK hP (hk156 _ _ a0) 23 (by decide) (hts _ q628) rfl rfl dX4_sell_210 ?_
      refine lv_iload hx hb dX4_sell_213 (lv_at hl 3 rfl) ?_
      refine lv_iconst (v := (0 : Int32)) hx hb dX4_sell_215 (by decide) ?_
      obtain ⟨i158, e159, hf⟩ := ob_some hf
      have h160 : mA M154 30 i158 = true := h157 i158 e159
      refine W_stk (st := [.int (0 : Int32), .int v9, va_rf (((mR M154 0 v0 23)).map (ad 30))]) (st' := [.int (0 : Int32), .int v9, .ref (ad 30 i158)]) (by first | (rw [e159]; done) | (rw [e159]; rfl)) ?_
      obtain ⟨h161, hf⟩ := ix_some hf
      obtain ⟨M162, e163, hf⟩ := lt_some hf
      have hk164 : Keep M154 M162 := keI e163
      refine hp_iast hx hb hK hP hS h160 rfl h161 dX4_sell_216 (fun H locs hP hS => ?_)
      rw [← e163] at hP
      refine lv_aload_n hx hb dX4_sell_217 rfl (lv_at hl 0 rfl) ?_
      refine lv_dup hx hb dX4_sell_218 rfl ?_
      refine gf0 (v := .int (mI M162 0 v0 19)) hx hb hts hown hK hP (hk164 _ _ (hk156 _ _ a0)) 19 (by decide) (hts _ q624) rfl rfl dX4_sell_219 ?_
      refine lv_iconst (v := (1 : Int32)) hx hb dX4_sell_222 (by decide) ?_
      refine lv_iadd hx hb dX4_sell_223 ?_
      obtain ⟨M165, e166, hf⟩ := lt_some hf
      have hk167 : Keep M162 M165 := keI e166
      refine pI0 (v := ((mI M162 0 v0 19) + (1 : Int32))) hx hb hts hown hK hP hS (hk164 _ _ (hk156 _ _ a0)) 19 (by decide) (hts _ q624) rfl rfl rfl e166 dX4_sell_224 (fun H locs hP hS => ?_)
      refine lv_iload hx hb dX4_sell_227 (lv_at hl 3 rfl) ?_
      exact hp_iret hx hb hr hlocks (congrArg Prod.fst (Option.some.inj hf)) (congrArg Prod.snd (Option.some.inj hf)) hP hS (kt (kt (kt hk hk156) hk164) hk167) dX4_sell_229
    · have hf := if_f hf c148
      refine lv_aload_n hx hb dX4_sell_161 rfl (lv_at hl 0 rfl) ?_
      have h168 : ∀ j : Nat, (mR M 0 v0 21) = some j → mA M 28 j = true := fun j hj => hp_wf hP a0 hj
      refine gf0 (v := va_rf (((mR M 0 v0 21)).map (ad 28))) hx hb hts hown hK hP a0 21 (by decide) (hts _ q626) rfl rfl dX4_sell_162 ?_
      refine lv_iconst (v := (3 : Int32)) hx hb dX4_sell_165 (by decide) ?_
      refine lv_iload hx hb dX4_sell_166 (lv_at hl 3 rfl) ?_
      refine lv_imul hx hb dX4_sell_168 ?_
      refine lv_iload hx hb dX4_sell_169 (lv_at hl 4 rfl) ?_
      refine lv_iadd hx hb dX4_sell_171 ?_
      refine lv_iload hx hb dX4_sell_172 (lv_at hl 4 rfl) ?_
      refine lv_iload hx hb dX4_sell_174 (lv_at hl 2 rfl) ?_
      obtain ⟨r170, e169, hf⟩ := ob_some hf
      refine hp_calli (va_runS (As := [.int v7]) (rest := [.int v10, .int (((3 : Int32) * v9) + v10), va_rf (((mR M 0 v0 21)).map (ad 28))]) ⟨hx, hb, hml, hown, hts⟩ (ok_X4_many l D cy ad M _ v7 r170  e169) (va_cwS 1 hts (gdS q766 q767 q86 q768) rfl rfl rfl (by decide +kernel) ⟨Nat.le_of_ble_eq_true rfl, Nat.le_of_ble_eq_true rfl⟩) (pre_S hP hK hN) rfl rfl hl.1 rfl (lv_room (by cases (mR M 0 v0 21) <;> exact Nat.le_of_ble_eq_true rfl)) dX4_sell_176 ⟨Nat.le_of_ble_eq_true rfl, Nat.le_of_ble_eq_true rfl⟩) hP hS hA (fun H locs hP hS _ => ?_)
      refine lv_icmp_ge (tgt := 192) hx hb dX4_sell_179 (by decide) (fun c173 => ?_) (fun c173 => ?_)
      · have hf := if_t hf c173
        refine lv_iconst (v := (0 : Int32)) hx hb dX4_sell_192 (by decide) ?_
        obtain ⟨i174, e175, hf⟩ := ob_some hf
        have h176 : mA M 28 i174 = true := h168 i174 e175
        refine W_stk (st := [.int (0 : Int32), .int (((3 : Int32) * v9) + v10), va_rf (((mR M 0 v0 21)).map (ad 28))]) (st' := [.int (0 : Int32), .int (((3 : Int32) * v9) + v10), .ref (ad 28 i174)]) (by first | (rw [e175]; done) | (rw [e175]; rfl)) ?_
        obtain ⟨h177, hf⟩ := ix_some hf
        obtain ⟨M178, e179, hf⟩ := lt_some hf
        have hk180 : Keep M M178 := keI e179
        refine hp_iast hx hb hK hP hS h176 rfl h177 dX4_sell_193 (fun H locs hP hS => ?_)
        rw [← e179] at hP
        obtain ⟨x181, e182, hf⟩ := lt_some hf
        refine lv_iinc (v := x181) (lv' := [(10, .int x181), (0, .ref (ad 0 v0)), (6, .int v6), (7, .int v7), (9, .int v9)]) hx hb dX4_sell_194 hl (k := 4) rfl (by rw [e182]; rfl) (by decide) rfl (fun ls hl => ?_)
        refine lv_goto (tgt := 155) hx hb dX4_sell_197 (by decide) ?_
        exact ih v0 v6 v7 v9 x181 M178 _ _ _ (hk180 _ _ a0) (kt hk hk180) hf hP hS (lv_sub hl [1, 2, 3, 4, 0] rfl)
      · have hf := if_f hf c173
        refine lv_aload_n hx hb dX4_sell_182 rfl (lv_at hl 0 rfl) ?_
        have h183 : ∀ j : Nat, (mR M 0 v0 27) = some j → mA M 32 j = true := fun j hj => hp_wf hP a0 hj
        refine gf0 (v := va_rf (((mR M 0 v0 27)).map (ad 32))) hx hb hts hown hK hP a0 27 (by decide) (hts _ q632) rfl rfl dX4_sell_183 ?_
        refine lv_iload hx hb dX4_sell_186 (lv_at hl 4 rfl) ?_
        obtain ⟨i184, e185, hf⟩ := ob_some hf
        have h186 : mA M 32 i184 = true := h183 i184 e185
        refine W_stk (st := [.int v10, va_rf (((mR M 0 v0 27)).map (ad 32)), .int (((3 : Int32) * v9) + v10), va_rf (((mR M 0 v0 21)).map (ad 28))]) (st' := [.int v10, .ref (ad 32 i184), .int (((3 : Int32) * v9) + v10), va_rf (((mR M 0 v0 21)).map (ad 28))]) (by first | (rw [e185]; done) | (rw [e185]; rfl)) ?_
        obtain ⟨h187, hf⟩ := ix_some hf
        refine hp_iald hx hb hK hP h186 rfl h187 dX4_sell_188 ?_
        refine lv_goto (tgt := 193) hx hb dX4_sell_189 (by decide) ?_
        obtain ⟨i188, e189, hf⟩ := ob_some hf
        have h190 : mA M 28 i188 = true := h168 i188 e189
        refine W_stk (st := [.int (mI M 32 i184 (v10).toNatClampNeg), .int (((3 : Int32) * v9) + v10), va_rf (((mR M 0 v0 21)).map (ad 28))]) (st' := [.int (mI M 32 i184 (v10).toNatClampNeg), .int (((3 : Int32) * v9) + v10), .ref (ad 28 i188)]) (by first | (rw [e189]; done) | (rw [e189]; rfl)) ?_
        obtain ⟨h191, hf⟩ := ix_some hf
        obtain ⟨M192, e193, hf⟩ := lt_some hf
        have hk194 : Keep M M192 := keI e193
        refine hp_iast hx hb hK hP hS h190 rfl h191 dX4_sell_193 (fun H locs hP hS => ?_)
        rw [← e193] at hP
        obtain ⟨x195, e196, hf⟩ := lt_some hf
        refine lv_iinc (v := x195) (lv' := [(10, .int x195), (0, .ref (ad 0 v0)), (6, .int v6), (7, .int v7), (9, .int v9)]) hx hb dX4_sell_194 hl (k := 4) rfl (by rw [e196]; rfl) (by decide) rfl (fun ls hl => ?_)
        refine lv_goto (tgt := 155) hx hb dX4_sell_197 (by decide) ?_
        exact ih v0 v6 v7 v9 x195 M192 _ _ _ (hk194 _ _ a0) (kt hk hk194) hf hP hS (lv_sub hl [1, 2, 3, 4, 0] rfl)
set_option maxRecDepth 100000 in
set_option maxHeartbeats 4000000 in
theorem t_X4_sell_73 {p : Program} {l : Launch} {e : Env} {s : State} {m : MethodId} {args : Array Value} {below : List Frame} {meth : Method} {c : Code} {D : va_G} {cy : Nat → ClassId} {ad : Nat → Nat → Nat} {M0 : Mm} {r0 : Int32} {M' : Mm} (C : Cx RX4 cX4_sell 11 (some .int) D cy (AA ad M0 s.heap.size) p s m args meth c) : ∀ (n : Nat), ∀ (v0 : Nat) (v6 : Int32) (v7 : Int32) (v8 : Int32) (v9 : Int32) (M : Mm) (H : Heap) (locs : List Loc) (ls : Array Slot), (mA M 0 v0 = true) → Keep M0 M → f_X4_sell_73 n v0 v6 v7 v8 v9 M = some (r0, M') → HP D cy (AA ad M0 s.heap.size) ad M H → va_S (AA ad M0 s.heap.size) s.heap H locs → lv_has ls 11 [(0, .ref (ad 0 v0)), (6, .int v6), (7, .int v7), (8, .int v8), (9, .int v9)] → W p l e { frames := 3, cells := 0, slots := 0, locals := 68 } s m args below meth c H locs 0 0 (MQ below (QI D cy ad M0 s.heap.size r0 M') args s 0 0 (AA ad M0 s.heap.size)) (F0 m 73 ls []) := by
  obtain ⟨hx, hb, hr, hml, hown, hts, hlocks, hK, hN, hA⟩ := id C
  intro n
  induction n with
  | zero =>
    intro v0 v6 v7 v8 v9 M H locs ls a0 hk hf hP hS hl
    simp [f_X4_sell_73] at hf
  | succ n ih =>
    intro v0 v6 v7 v8 v9 M H locs ls a0 hk hf hP hS hl
    rw [f_X4_sell_73] at hf
    refine lv_iload hx hb dX4_sell_73 (lv_at hl 4 rfl) ?_
    refine lv_iload hx hb dX4_sell_75 (lv_at hl 2 rfl) ?_
    obtain ⟨r132, e131, hf⟩ := ob_some hf
    refine hp_calli (va_runS (As := [.int v7]) (rest := [.int v9]) ⟨hx, hb, hml, hown, hts⟩ (ok_X4_many l D cy ad M _ v7 r132  e131) (va_cwS 1 hts (gdS q766 q767 q86 q768) rfl rfl rfl (by decide +kernel) ⟨Nat.le_of_ble_eq_true rfl, Nat.le_of_ble_eq_true rfl⟩) (pre_S hP hK hN) rfl rfl hl.1 rfl (lv_room (Nat.le_of_ble_eq_true rfl)) dX4_sell_77 ⟨Nat.le_of_ble_eq_true rfl, Nat.le_of_ble_eq_true rfl⟩) hP hS hA (fun H locs hP hS _ => ?_)
    refine lv_icmp_ge (tgt := 114) hx hb dX4_sell_80 (by decide) (fun c135 => ?_) (fun c135 => ?_)
    · have hf := if_t hf c135
      refine lv_iload hx hb dX4_sell_114 (lv_at hl 3 rfl) ?_
      refine lv_bipush (v := (-6 : Int32)) hx hb dX4_sell_116 (by decide) ?_
      refine lv_icmp_ne (tgt := 124) hx hb dX4_sell_118 (by decide) (fun c136 => ?_) (fun c136 => ?_)
      · have hf := if_f hf c136
        refine lv_aload_n hx hb dX4_sell_124 rfl (lv_at hl 0 rfl) ?_
        refine gf0 (v := .int (mI M 0 v0 19)) hx hb hts hown hK hP a0 19 (by decide) (hts _ q624) rfl rfl dX4_sell_125 ?_
        refine lv_sipush (v := (600 : Int32)) hx hb dX4_sell_128 (by decide) ?_
        refine lv_icmp_ne (tgt := 137) hx hb dX4_sell_131 (by decide) (fun c137 => ?_) (fun c137 => ?_)
        · have hf := if_f hf c137
          refine lv_aload_n hx hb dX4_sell_137 rfl (lv_at hl 0 rfl) ?_
          refine gf0 (v := .int (mI M 0 v0 19)) hx hb hts hown hK hP a0 19 (by decide) (hts _ q624) rfl rfl dX4_sell_138 ?_
          obtain ⟨x138, e139, hf⟩ := lt_some hf
          refine W_topI e139 ?_
          refine lv_istore (lv' := [(9, .int x138), (0, .ref (ad 0 v0)), (6, .int v6), (7, .int v7), (8, .int v8)]) hx hb dX4_sell_141 hl (by decide) rfl (fun ls hl => ?_)
          refine lv_aload_n hx hb dX4_sell_143 rfl (lv_at hl 1 rfl) ?_
          have h140 : ∀ j : Nat, (mR M 0 v0 20) = some j → mA M 27 j = true := fun j hj => hp_wf hP a0 hj
          refine gf0 (v := va_rf (((mR M 0 v0 20)).map (ad 27))) hx hb hts hown hK hP a0 20 (by decide) (hts _ q625) rfl rfl dX4_sell_144 ?_
          refine lv_iload hx hb dX4_sell_147 (lv_at hl 0 rfl) ?_
          refine lv_iload hx hb dX4_sell_149 (lv_at hl 3 rfl) ?_
          obtain ⟨i141, e142, hf⟩ := ob_some hf
          have h143 : mA M 27 i141 = true := h140 i141 e142
          refine W_stk (st := [.int v7, .int x138, va_rf (((mR M 0 v0 20)).map (ad 27))]) (st' := [.int v7, .int x138, .ref (ad 27 i141)]) (by first | (rw [e142]; done) | (rw [e142]; rfl)) ?_
          obtain ⟨h144, hf⟩ := ix_some hf
          obtain ⟨M145, e146, hf⟩ := lt_some hf
          have hk147 : Keep M M145 := keI e146
          refine hp_iast hx hb hK hP hS h143 rfl h144 dX4_sell_151 (fun H locs hP hS => ?_)
          rw [← e146] at hP
          refine lv_iconst (v := (0 : Int32)) hx hb dX4_sell_152 (by decide) ?_
          refine lv_istore (lv' := [(10, .int (0 : Int32)), (9, .int x138), (0, .ref (ad 0 v0)), (6, .int v6), (7, .int v7), (8, .int v8)]) hx hb dX4_sell_153 hl (by decide) rfl (fun ls hl => ?_)
          exact t_X4_sell_155 C FU v0 v6 v7 x138 (0 : Int32) M145 _ _ _ (hk147 _ _ a0) (kt hk hk147) hf hP hS (lv_sub hl [2, 3, 4, 1, 0] rfl)
        · have hf := if_t hf c137
          refine lv_bipush (v := (-7 : Int32)) hx hb dX4_sell_134 (by decide) ?_
          exact hp_iret hx hb hr hlocks (congrArg Prod.fst (Option.some.inj hf)) (congrArg Prod.snd (Option.some.inj hf)) hP hS hk dX4_sell_136
      · have hf := if_t hf c136
        refine lv_bipush (v := (-6 : Int32)) hx hb dX4_sell_121 (by decide) ?_
        exact hp_iret hx hb hr hlocks (congrArg Prod.fst (Option.some.inj hf)) (congrArg Prod.snd (Option.some.inj hf)) hP hS hk dX4_sell_123
    · have hf := if_f hf c135
      refine lv_aload_n hx hb dX4_sell_83 rfl (lv_at hl 0 rfl) ?_
      refine lv_aload_n hx hb dX4_sell_84 rfl (lv_at hl 0 rfl) ?_
      refine lv_iload hx hb dX4_sell_85 (lv_at hl 2 rfl) ?_
      refine lv_iload hx hb dX4_sell_87 (lv_at hl 4 rfl) ?_
      obtain ⟨r198, e197, hf⟩ := ob_some hf
      refine hp_calli (va_runV (As := [.int v7, .int v9]) (rest := [.ref (ad 0 v0)]) ⟨hx, hb, hml, hown, hts⟩ (ok_X4_raceOf l D cy ad M _ v0 v7 v9 r198 a0 e197) (cwV 2 hts (gdV q754 q756 q59 q86 q757) rfl rfl rfl (by decide +kernel) ⟨Nat.le_of_ble_eq_true rfl, Nat.le_of_ble_eq_true rfl⟩) (pre_V hP hK hN a0 ds_0 rfl) rfl rfl hl.1 rfl (lv_room (Nat.le_of_ble_eq_true rfl)) dX4_sell_89 ⟨Nat.le_of_ble_eq_true rfl, Nat.le_of_ble_eq_true rfl⟩) hP hS hA (fun H locs hP hS _ => ?_)
      refine lv_aload_n hx hb dX4_sell_92 rfl (lv_at hl 0 rfl) ?_
      have h201 : ∀ j : Nat, (mR M 0 v0 27) = some j → mA M 32 j = true := fun j hj => hp_wf hP a0 hj
      refine gf0 (v := va_rf (((mR M 0 v0 27)).map (ad 32))) hx hb hts hown hK hP a0 27 (by decide) (hts _ q632) rfl rfl dX4_sell_93 ?_
      refine lv_iload hx hb dX4_sell_96 (lv_at hl 4 rfl) ?_
      obtain ⟨i202, e203, hf⟩ := ob_some hf
      have h204 : mA M 32 i202 = true := h201 i202 e203
      refine W_stk (st := [.int v9, va_rf (((mR M 0 v0 27)).map (ad 32)), .int r198, .ref (ad 0 v0)]) (st' := [.int v9, .ref (ad 32 i202), .int r198, .ref (ad 0 v0)]) (by first | (rw [e203]; done) | (rw [e203]; rfl)) ?_
      obtain ⟨h205, hf⟩ := ix_some hf
      refine hp_iald hx hb hK hP h204 rfl h205 dX4_sell_98 ?_
      obtain ⟨r207, e206, hf⟩ := ob_some hf
      refine hp_calli (va_runV (As := [.int r198, .int (mI M 32 i202 (v9).toNatClampNeg)]) (rest := []) ⟨hx, hb, hml, hown, hts⟩ (ok_X4_runs l D cy ad M _ v0 r198 (mI M 32 i202 (v9).toNatClampNeg) r207 a0 e206) (cwV 2 hts (gdV q734 q736 q55 q86 q737) rfl rfl rfl (by decide +kernel) ⟨Nat.le_of_ble_eq_true rfl, Nat.le_of_ble_eq_true rfl⟩) (pre_V hP hK hN a0 ds_0 rfl) rfl rfl hl.1 rfl (lv_room (Nat.le_of_ble_eq_true rfl)) dX4_sell_99 ⟨Nat.le_of_ble_eq_true rfl, Nat.le_of_ble_eq_true rfl⟩) hP hS hA (fun H locs hP hS _ => ?_)
      refine lv_if_ne (tgt := 108) hx hb dX4_sell_102 (by decide) (fun c210 => ?_) (fun c210 => ?_)
      · have hf := if_f hf c210
        obtain ⟨x211, e212, hf⟩ := lt_some hf
        refine lv_iinc (v := x211) (lv' := [(9, .int x211), (0, .ref (ad 0 v0)), (6, .int v6), (7, .int v7), (8, .int v8)]) hx hb dX4_sell_108 hl (k := 4) rfl (by rw [e212]; rfl) (by decide) rfl (fun ls hl => ?_)
        refine lv_goto (tgt := 73) hx hb dX4_sell_111 (by decide) ?_
        exact ih v0 v6 v7 v8 x211 M _ _ _ a0 hk hf hP hS (lv_sub hl [1, 2, 3, 4, 0] rfl)
      · have hf := if_t hf c210
        refine lv_bipush (v := (-5 : Int32)) hx hb dX4_sell_105 (by decide) ?_
        exact hp_iret hx hb hr hlocks (congrArg Prod.fst (Option.some.inj hf)) (congrArg Prod.snd (Option.some.inj hf)) hP hS hk dX4_sell_107
set_option maxRecDepth 100000 in
set_option maxHeartbeats 4000000 in
theorem ok_X4_sell (l : Launch) (D : va_G) (cy : Nat → ClassId) (ad : Nat → Nat → Nat) (M0 : Mm) (sz : Nat) (v0 : Nat) (v1 : Int32) (v2 : Int32) (v3 : Int32) (v4 : Int32) (v5 : Int32) (v6 : Int32) (r0 : Int32) (M' : Mm) (a0 : mA M0 0 v0 = true) (hf : f_X4_sell v0 v1 v2 v3 v4 v5 v6 M0 = some (r0, M')) : Met l yX4_sell (Cond.code yX4_sell cX4_sell 11 (some .int) :: BW) { frames := 3, cells := 0, slots := 0, locals := 68 } (va_Pc [.ref (ad 0 v0), .int v1, .int v2, .int v3, .int v4, .int v5, .int v6] (PRE D cy ad M0 sz)) (QI D cy ad M0 sz r0 M') 0 0 (AA ad M0 sz) := by
  refine Met.ofW (cc := cX4_sell) (maxL := 11) (ret := (some .int)) (by decide) rfl ?_
  intro p e s m args below meth c s₁ B hml hv
  obtain ⟨rfl, rfl, hP0, hK, hN⟩ := hv
  have hx := B.exec
  have hb := B.bytes
  have hr := B.returns
  have hts0 := atoms_spec (ws := (Cond.code yX4_sell cX4_sell 11 (some .int) :: BW)) B.pre
  have hts : ∀ w ∈ BW, w.before ([.ref (ad 0 v0), .int v1, .int v2, .int v3, .int v4, .int v5, .int v6] : List Value).toArray s = true := fun w h => hts0 w (List.mem_cons_of_mem _ h)
  have hown : s.vm.findClass RX4 = some m.cls := findClass_of_methodNamed B.named
  have hlocks := B.notSynchronized
  have hA : ∀ q : Nat, s.heap.size ≤ q → AA ad M0 s.heap.size q := fun q h => Or.inr h
  have C : Cx RX4 cX4_sell 11 (some .int) D cy (AA ad M0 s.heap.size) p s m ([.ref (ad 0 v0), .int v1, .int v2, .int v3, .int v4, .int v5, .int v6] : List Value).toArray meth c := ⟨hx, hb, hr, hml, hown, hts, hlocks, hK, hN, hA⟩
  have hP := hp_self (sz := s.heap.size) hP0
  have hS : va_S (AA ad M0 s.heap.size) s.heap s.heap [] := va_S.rf
  have hl := lv_entry ([.ref (ad 0 v0), .int v1, .int v2, .int v3, .int v4, .int v5, .int v6]) (n := 11) (Nat.le_of_ble_eq_true rfl)
  rw [lg_entry_eq]
  generalize (lg_sl ([.ref (ad 0 v0), .int v1, .int v2, .int v3, .int v4, .int v5, .int v6]) ++ List.replicate (11 - (lg_sl ([.ref (ad 0 v0), .int v1, .int v2, .int v3, .int v4, .int v5, .int v6])).length) Slot.unset).toArray = ls at hl ⊢
  have hl : lv_has ls 11 [(0, .ref (ad 0 v0)), (1, .int v1), (2, .int v2), (3, .int v3), (4, .int v4), (5, .int v5), (6, .int v6)] := hl
  unfold f_X4_sell at hf
  refine lv_aload_n hx hb dX4_sell_0 rfl (lv_at hl 0 rfl) ?_
  refine lv_iload_n hx hb dX4_sell_1 rfl (lv_at hl 1 rfl) ?_
  refine lv_iload_n hx hb dX4_sell_2 rfl (lv_at hl 2 rfl) ?_
  obtain ⟨r108, e107, hf⟩ := ob_some hf
  refine hp_calli (va_runV (As := [.int v1, .int v2]) (rest := []) ⟨hx, hb, hml, hown, hts⟩ (ok_X4_poolOf l D cy ad M0 _ v0 v1 v2 r108 a0 e107) (cwV 2 hts (gdV q746 q748 q57 q86 q749) rfl rfl rfl (by decide +kernel) ⟨Nat.le_of_ble_eq_true rfl, Nat.le_of_ble_eq_true rfl⟩) (pre_V hP hK hN a0 ds_0 rfl) rfl rfl hl.1 rfl (lv_room (Nat.le_of_ble_eq_true rfl)) dX4_sell_3 ⟨Nat.le_of_ble_eq_true rfl, Nat.le_of_ble_eq_true rfl⟩) hP hS hA (fun H locs hP hS _ => ?_)
  refine lv_istore (lv' := [(7, .int r108), (0, .ref (ad 0 v0)), (1, .int v1), (2, .int v2), (3, .int v3), (4, .int v4), (5, .int v5), (6, .int v6)]) hx hb dX4_sell_6 hl (by decide) rfl (fun ls hl => ?_)
  refine lv_iload hx hb dX4_sell_8 (lv_at hl 0 rfl) ?_
  refine lv_iconst (v := (-1 : Int32)) hx hb dX4_sell_10 (by decide) ?_
  refine lv_icmp_ne (tgt := 16) hx hb dX4_sell_11 (by decide) (fun c111 => ?_) (fun c111 => ?_)
  · have hf := if_f hf c111
    refine lv_iload hx hb dX4_sell_16 (lv_at hl 7 rfl) ?_
    refine lv_iconst (v := (1 : Int32)) hx hb dX4_sell_18 (by decide) ?_
    refine lv_sipush (v := (1000 : Int32)) hx hb dX4_sell_19 (by decide) ?_
    obtain ⟨r113, e112, hf⟩ := ob_some hf
    refine hp_calli (va_runS (As := [.int v6, .int (1 : Int32), .int (1000 : Int32)]) (rest := []) ⟨hx, hb, hml, hown, hts⟩ (ok_X4_in l D cy ad M0 _ v6 (1 : Int32) (1000 : Int32) r113  e112) (va_cwS 3 hts (gdS q708 q709 q86 q710) rfl rfl rfl (by decide +kernel) ⟨Nat.le_of_ble_eq_true rfl, Nat.le_of_ble_eq_true rfl⟩) (pre_S hP hK hN) rfl rfl hl.1 rfl (lv_room (Nat.le_of_ble_eq_true rfl)) dX4_sell_22 ⟨Nat.le_of_ble_eq_true rfl, Nat.le_of_ble_eq_true rfl⟩) hP hS hA (fun H locs hP hS _ => ?_)
    refine lv_if_ne (tgt := 31) hx hb dX4_sell_25 (by decide) (fun c116 => ?_) (fun c116 => ?_)
    · have hf := if_f hf c116
      refine lv_aload_n hx hb dX4_sell_31 rfl (lv_at hl 1 rfl) ?_
      refine lv_iload hx hb dX4_sell_32 (lv_at hl 0 rfl) ?_
      obtain ⟨r118, e117, hf⟩ := ob_some hf
      refine hp_calli (va_runV (As := [.int r108]) (rest := []) ⟨hx, hb, hml, hown, hts⟩ (ok_X4_isOpen l D cy ad M0 _ v0 r108 r118 a0 e117) (cwV 1 hts (gdV q750 q752 q58 q86 q753) rfl rfl rfl (by decide +kernel) ⟨Nat.le_of_ble_eq_true rfl, Nat.le_of_ble_eq_true rfl⟩) (pre_V hP hK hN a0 ds_0 rfl) rfl rfl hl.1 rfl (lv_room (Nat.le_of_ble_eq_true rfl)) dX4_sell_34 ⟨Nat.le_of_ble_eq_true rfl, Nat.le_of_ble_eq_true rfl⟩) hP hS hA (fun H locs hP hS _ => ?_)
      refine lv_if_ne (tgt := 43) hx hb dX4_sell_37 (by decide) (fun c121 => ?_) (fun c121 => ?_)
      · have hf := if_f hf c121
        refine lv_aload_n hx hb dX4_sell_43 rfl (lv_at hl 1 rfl) ?_
        refine lv_iload_n hx hb dX4_sell_44 rfl (lv_at hl 4 rfl) ?_
        refine lv_iload hx hb dX4_sell_45 (lv_at hl 5 rfl) ?_
        refine lv_iload hx hb dX4_sell_47 (lv_at hl 6 rfl) ?_
        obtain ⟨M124, e122, hf⟩ := ob_some hf
        refine hp_callv (va_runV (As := [.int v3, .int v4, .int v5]) (rest := []) ⟨hx, hb, hml, hown, hts⟩ (ok_X4_names l D cy ad M0 _ v0 v3 v4 v5 M124 a0 e122) (cwV 3 hts (gdV q758 q760 q60 q86 q761) rfl rfl rfl (by decide +kernel) ⟨Nat.le_of_ble_eq_true rfl, Nat.le_of_ble_eq_true rfl⟩) (pre_V hP hK hN a0 ds_0 rfl) rfl rfl hl.1 rfl (lv_room (Nat.le_of_ble_eq_true rfl)) dX4_sell_49 ⟨Nat.le_of_ble_eq_true rfl, Nat.le_of_ble_eq_true rfl⟩) hP hS hA (fun H locs hP hS hk125 => ?_)
        refine lv_aload_n hx hb dX4_sell_52 rfl (lv_at hl 1 rfl) ?_
        refine lv_iload hx hb dX4_sell_53 (lv_at hl 0 rfl) ?_
        obtain ⟨r127, e126, hf⟩ := ob_some hf
        refine hp_calli (va_runV (As := [.int r108]) (rest := []) ⟨hx, hb, hml, hown, hts⟩ (ok_X4_named l D cy ad M124 _ v0 r108 r127 (hk125 _ _ a0) e126) (cwV 1 hts (gdV q762 q764 q61 q86 q765) rfl rfl rfl (by decide +kernel) ⟨Nat.le_of_ble_eq_true rfl, Nat.le_of_ble_eq_true rfl⟩) (pre_V hP hK hN (hk125 _ _ a0) ds_0 rfl) rfl rfl hl.1 rfl (lv_room (Nat.le_of_ble_eq_true rfl)) dX4_sell_55 ⟨Nat.le_of_ble_eq_true rfl, Nat.le_of_ble_eq_true rfl⟩) hP hS hA (fun H locs hP hS _ => ?_)
        refine lv_istore (lv' := [(8, .int r127), (7, .int r108), (0, .ref (ad 0 v0)), (1, .int v1), (2, .int v2), (3, .int v3), (4, .int v4), (5, .int v5), (6, .int v6)]) hx hb dX4_sell_58 hl (by decide) rfl (fun ls hl => ?_)
        refine lv_iload hx hb dX4_sell_60 (lv_at hl 0 rfl) ?_
        refine lv_bipush (v := (-4 : Int32)) hx hb dX4_sell_62 (by decide) ?_
        refine lv_icmp_ne (tgt := 70) hx hb dX4_sell_64 (by decide) (fun c130 => ?_) (fun c130 => ?_)
        · have hf := if_f hf c130
          refine lv_iconst (v := (0 : Int32)) hx hb dX4_sell_70 (by decide) ?_
          refine lv_istore (lv' := [(9, .int (0 : Int32)), (8, .int r127), (7, .int r108), (0, .ref (ad 0 v0)), (1, .int v1), (2, .int v2), (3, .int v3), (4, .int v4), (5, .int v5), (6, .int v6)]) hx hb dX4_sell_71 hl (by decide) rfl (fun ls hl => ?_)
          exact t_X4_sell_73 C FU v0 v6 r108 r127 (0 : Int32) M124 _ _ _ (hk125 _ _ a0) (kt keep_rf hk125) hf hP hS (lv_sub hl [3, 9, 2, 1, 0] rfl)
        · have hf := if_t hf c130
          refine lv_bipush (v := (-4 : Int32)) hx hb dX4_sell_67 (by decide) ?_
          exact hp_iret hx hb hr hlocks (congrArg Prod.fst (Option.some.inj hf)) (congrArg Prod.snd (Option.some.inj hf)) hP hS (kt keep_rf hk125) dX4_sell_69
      · have hf := if_t hf c121
        refine lv_bipush (v := (-3 : Int32)) hx hb dX4_sell_40 (by decide) ?_
        exact hp_iret hx hb hr hlocks (congrArg Prod.fst (Option.some.inj hf)) (congrArg Prod.snd (Option.some.inj hf)) hP hS keep_rf dX4_sell_42
    · have hf := if_t hf c116
      refine lv_bipush (v := (-2 : Int32)) hx hb dX4_sell_28 (by decide) ?_
      exact hp_iret hx hb hr hlocks (congrArg Prod.fst (Option.some.inj hf)) (congrArg Prod.snd (Option.some.inj hf)) hP hS keep_rf dX4_sell_30
  · have hf := if_t hf c111
    refine lv_iconst (v := (-1 : Int32)) hx hb dX4_sell_14 (by decide) ?_
    exact hp_iret hx hb hr hlocks (congrArg Prod.fst (Option.some.inj hf)) (congrArg Prod.snd (Option.some.inj hf)) hP hS keep_rf dX4_sell_15

def f_X4_cost (v0 : Nat) (v1 : Int32) (M0 : Mm) : Option Int64 :=
  ob (mR M0 0 v0 22) fun i17 => ix v1 600 (ob (mR M0 0 v0 20) fun i23 => ix v1 600 (ob (mR M0 0 v0 7) fun i27 => ix (mI M0 27 i23 (v1).toNatClampNeg) 53 (some ((((mI M0 29 i17 (v1).toNatClampNeg)).toInt64) * (((mI M0 17 i27 ((mI M0 27 i23 (v1).toNatClampNeg)).toNatClampNeg)).toInt64)))))
set_option maxRecDepth 100000 in
set_option maxHeartbeats 4000000 in
theorem ok_X4_cost (l : Launch) (D : va_G) (cy : Nat → ClassId) (ad : Nat → Nat → Nat) (M0 : Mm) (sz : Nat) (v0 : Nat) (v1 : Int32) (r0 : Int64) (a0 : mA M0 0 v0 = true) (hf : f_X4_cost v0 v1 M0 = some r0) : Met l yX4_cost (Cond.code yX4_cost cX4_cost 2 (some .long) :: BW) { frames := 0, cells := 0, slots := 0, locals := 0 } (va_Pc [.ref (ad 0 v0), .int v1] (PRE D cy ad M0 sz)) (QJ D cy ad M0 sz r0 M0) 0 0 (AA ad M0 sz) := by
  refine Met.ofW (cc := cX4_cost) (maxL := 2) (ret := (some .long)) (by decide) rfl ?_
  intro p e s m args below meth c s₁ B hml hv
  obtain ⟨rfl, rfl, hP0, hK, hN⟩ := hv
  have hx := B.exec
  have hb := B.bytes
  have hr := B.returns
  have hts0 := atoms_spec (ws := (Cond.code yX4_cost cX4_cost 2 (some .long) :: BW)) B.pre
  have hts : ∀ w ∈ BW, w.before ([.ref (ad 0 v0), .int v1] : List Value).toArray s = true := fun w h => hts0 w (List.mem_cons_of_mem _ h)
  have hown : s.vm.findClass RX4 = some m.cls := findClass_of_methodNamed B.named
  have hlocks := B.notSynchronized
  have hA : ∀ q : Nat, s.heap.size ≤ q → AA ad M0 s.heap.size q := fun q h => Or.inr h
  have C : Cx RX4 cX4_cost 2 (some .long) D cy (AA ad M0 s.heap.size) p s m ([.ref (ad 0 v0), .int v1] : List Value).toArray meth c := ⟨hx, hb, hr, hml, hown, hts, hlocks, hK, hN, hA⟩
  have hP := hp_self (sz := s.heap.size) hP0
  have hS : va_S (AA ad M0 s.heap.size) s.heap s.heap [] := va_S.rf
  have hl := lv_entry ([.ref (ad 0 v0), .int v1]) (n := 2) (Nat.le_of_ble_eq_true rfl)
  rw [lg_entry_eq]
  generalize (lg_sl ([.ref (ad 0 v0), .int v1]) ++ List.replicate (2 - (lg_sl ([.ref (ad 0 v0), .int v1])).length) Slot.unset).toArray = ls at hl ⊢
  have hl : lv_has ls 2 [(0, .ref (ad 0 v0)), (1, .int v1)] := hl
  unfold f_X4_cost at hf
  refine lv_aload_n hx hb dX4_cost_0 rfl (lv_at hl 0 rfl) ?_
  have h16 : ∀ j : Nat, (mR M0 0 v0 22) = some j → mA M0 29 j = true := fun j hj => hp_wf hP a0 hj
  refine gf0 (v := va_rf (((mR M0 0 v0 22)).map (ad 29))) hx hb hts hown hK hP a0 22 (by decide) (hts _ q627) rfl rfl dX4_cost_1 ?_
  refine lv_iload_n hx hb dX4_cost_4 rfl (lv_at hl 1 rfl) ?_
  obtain ⟨i17, e18, hf⟩ := ob_some hf
  have h19 : mA M0 29 i17 = true := h16 i17 e18
  refine W_stk (st := [.int v1, va_rf (((mR M0 0 v0 22)).map (ad 29))]) (st' := [.int v1, .ref (ad 29 i17)]) (by first | (rw [e18]; done) | (rw [e18]; rfl)) ?_
  obtain ⟨h20, hf⟩ := ix_some hf
  refine hp_iald hx hb hK hP h19 rfl h20 dX4_cost_5 ?_
  refine lv_i2l hx hb dX4_cost_6 rfl ?_
  refine lv_aload_n hx hb dX4_cost_7 rfl (lv_at hl 0 rfl) ?_
  have h21 : ∀ j : Nat, (mR M0 0 v0 7) = some j → mA M0 17 j = true := fun j hj => hp_wf hP a0 hj
  refine gf0 (v := va_rf (((mR M0 0 v0 7)).map (ad 17))) hx hb hts hown hK hP a0 7 (by decide) (hts _ q612) rfl rfl dX4_cost_8 ?_
  refine lv_aload_n hx hb dX4_cost_11 rfl (lv_at hl 0 rfl) ?_
  have h22 : ∀ j : Nat, (mR M0 0 v0 20) = some j → mA M0 27 j = true := fun j hj => hp_wf hP a0 hj
  refine gf0 (v := va_rf (((mR M0 0 v0 20)).map (ad 27))) hx hb hts hown hK hP a0 20 (by decide) (hts _ q625) rfl rfl dX4_cost_12 ?_
  refine lv_iload_n hx hb dX4_cost_15 rfl (lv_at hl 1 rfl) ?_
  obtain ⟨i23, e24, hf⟩ := ob_some hf
  have h25 : mA M0 27 i23 = true := h22 i23 e24
  refine W_stk (st := [.int v1, va_rf (((mR M0 0 v0 20)).map (ad 27)), va_rf (((mR M0 0 v0 7)).map (ad 17)), .long (((mI M0 29 i17 (v1).toNatClampNeg)).toInt64)]) (st' := [.int v1, .ref (ad 27 i23), va_rf (((mR M0 0 v0 7)).map (ad 17)), .long (((mI M0 29 i17 (v1).toNatClampNeg)).toInt64)]) (by first | (rw [e24]; done) | (rw [e24]; rfl)) ?_
  obtain ⟨h26, hf⟩ := ix_some hf
  refine hp_iald hx hb hK hP h25 rfl h26 dX4_cost_16 ?_
  obtain ⟨i27, e28, hf⟩ := ob_some hf
  have h29 : mA M0 17 i27 = true := h21 i27 e28
  refine W_stk (st := [.int (mI M0 27 i23 (v1).toNatClampNeg), va_rf (((mR M0 0 v0 7)).map (ad 17)), .long (((mI M0 29 i17 (v1).toNatClampNeg)).toInt64)]) (st' := [.int (mI M0 27 i23 (v1).toNatClampNeg), .ref (ad 17 i27), .long (((mI M0 29 i17 (v1).toNatClampNeg)).toInt64)]) (by first | (rw [e28]; done) | (rw [e28]; rfl)) ?_
  obtain ⟨h30, hf⟩ := ix_some hf
  refine hp_iald hx hb hK hP h29 rfl h30 dX4_cost_17 ?_
  refine lv_i2l hx hb dX4_cost_18 rfl ?_
  refine lv_lmul hx hb dX4_cost_19 ?_
  exact hp_lret hx hb hr hlocks (Option.some.inj hf) rfl hP hS keep_rf dX4_cost_20

def f_X4_refunds (v0 : Nat) (v1 : Int32) (M0 : Mm) : Option Mm :=
  ob (mR M0 0 v0 23) fun i17 => ix v1 600 (lt (sI M0 30 i17 (v1).toNatClampNeg (2 : Int32)) fun M21 => ob (f_X4_cost v0 v1 M21) fun r25 => lt (sJ M21 0 v0 25 ((mJ M21 0 v0 25) + r25)) fun M28 => some M28)
set_option maxRecDepth 100000 in
set_option maxHeartbeats 4000000 in
theorem ok_X4_refunds (l : Launch) (D : va_G) (cy : Nat → ClassId) (ad : Nat → Nat → Nat) (M0 : Mm) (sz : Nat) (v0 : Nat) (v1 : Int32) (M' : Mm) (a0 : mA M0 0 v0 = true) (hf : f_X4_refunds v0 v1 M0 = some M') : Met l yX4_refunds (Cond.code yX4_refunds cX4_refunds 2 none :: BW) { frames := 1, cells := 0, slots := 0, locals := 21 } (va_Pc [.ref (ad 0 v0), .int v1] (PRE D cy ad M0 sz)) (QV D cy ad M0 sz M') 0 0 (AA ad M0 sz) := by
  refine Met.ofW (cc := cX4_refunds) (maxL := 2) (ret := none) (by decide) rfl ?_
  intro p e s m args below meth c s₁ B hml hv
  obtain ⟨rfl, rfl, hP0, hK, hN⟩ := hv
  have hx := B.exec
  have hb := B.bytes
  have hr := B.returns
  have hts0 := atoms_spec (ws := (Cond.code yX4_refunds cX4_refunds 2 none :: BW)) B.pre
  have hts : ∀ w ∈ BW, w.before ([.ref (ad 0 v0), .int v1] : List Value).toArray s = true := fun w h => hts0 w (List.mem_cons_of_mem _ h)
  have hown : s.vm.findClass RX4 = some m.cls := findClass_of_methodNamed B.named
  have hlocks := B.notSynchronized
  have hA : ∀ q : Nat, s.heap.size ≤ q → AA ad M0 s.heap.size q := fun q h => Or.inr h
  have C : Cx RX4 cX4_refunds 2 none D cy (AA ad M0 s.heap.size) p s m ([.ref (ad 0 v0), .int v1] : List Value).toArray meth c := ⟨hx, hb, hr, hml, hown, hts, hlocks, hK, hN, hA⟩
  have hP := hp_self (sz := s.heap.size) hP0
  have hS : va_S (AA ad M0 s.heap.size) s.heap s.heap [] := va_S.rf
  have hl := lv_entry ([.ref (ad 0 v0), .int v1]) (n := 2) (Nat.le_of_ble_eq_true rfl)
  rw [lg_entry_eq]
  generalize (lg_sl ([.ref (ad 0 v0), .int v1]) ++ List.replicate (2 - (lg_sl ([.ref (ad 0 v0), .int v1])).length) Slot.unset).toArray = ls at hl ⊢
  have hl : lv_has ls 2 [(0, .ref (ad 0 v0)), (1, .int v1)] := hl
  unfold f_X4_refunds at hf
  refine lv_aload_n hx hb dX4_refunds_0 rfl (lv_at hl 0 rfl) ?_
  have h16 : ∀ j : Nat, (mR M0 0 v0 23) = some j → mA M0 30 j = true := fun j hj => hp_wf hP a0 hj
  refine gf0 (v := va_rf (((mR M0 0 v0 23)).map (ad 30))) hx hb hts hown hK hP a0 23 (by decide) (hts _ q628) rfl rfl dX4_refunds_1 ?_
  refine lv_iload_n hx hb dX4_refunds_4 rfl (lv_at hl 1 rfl) ?_
  refine lv_iconst (v := (2 : Int32)) hx hb dX4_refunds_5 (by decide) ?_
  obtain ⟨i17, e18, hf⟩ := ob_some hf
  have h19 : mA M0 30 i17 = true := h16 i17 e18
  refine W_stk (st := [.int (2 : Int32), .int v1, va_rf (((mR M0 0 v0 23)).map (ad 30))]) (st' := [.int (2 : Int32), .int v1, .ref (ad 30 i17)]) (by first | (rw [e18]; done) | (rw [e18]; rfl)) ?_
  obtain ⟨h20, hf⟩ := ix_some hf
  obtain ⟨M21, e22, hf⟩ := lt_some hf
  have hk23 : Keep M0 M21 := keI e22
  refine hp_iast hx hb hK hP hS h19 rfl h20 dX4_refunds_6 (fun H locs hP hS => ?_)
  rw [← e22] at hP
  refine lv_aload_n hx hb dX4_refunds_7 rfl (lv_at hl 0 rfl) ?_
  refine lv_dup hx hb dX4_refunds_8 rfl ?_
  refine gf0 (v := .long (mJ M21 0 v0 25)) hx hb hts hown hK hP (hk23 _ _ a0) 25 (by decide) (hts _ q630) rfl rfl dX4_refunds_9 ?_
  refine lv_aload_n hx hb dX4_refunds_12 rfl (lv_at hl 0 rfl) ?_
  refine lv_iload_n hx hb dX4_refunds_13 rfl (lv_at hl 1 rfl) ?_
  obtain ⟨r25, e24, hf⟩ := ob_some hf
  refine hp_calll (va_runV (As := [.int v1]) (rest := [.long (mJ M21 0 v0 25), .ref (ad 0 v0)]) ⟨hx, hb, hml, hown, hts⟩ (ok_X4_cost l D cy ad M21 _ v0 v1 r25 (hk23 _ _ a0) e24) (cwV 1 hts (gdV q776 q778 q62 q86 q779) rfl rfl rfl (by decide +kernel) ⟨Nat.le_of_ble_eq_true rfl, Nat.le_of_ble_eq_true rfl⟩) (pre_V hP hK hN (hk23 _ _ a0) ds_0 rfl) rfl rfl hl.1 rfl (lv_room (Nat.le_of_ble_eq_true rfl)) dX4_refunds_14 ⟨Nat.le_of_ble_eq_true rfl, Nat.le_of_ble_eq_true rfl⟩) hP hS hA (fun H locs hP hS _ => ?_)
  refine lv_ladd hx hb dX4_refunds_17 ?_
  obtain ⟨M28, e29, hf⟩ := lt_some hf
  have hk30 : Keep M21 M28 := keJ e29
  refine pJ0 (v := ((mJ M21 0 v0 25) + r25)) hx hb hts hown hK hP hS (hk23 _ _ a0) 25 (by decide) (hts _ q630) rfl rfl rfl e29 dX4_refunds_18 (fun H locs hP hS => ?_)
  exact hp_vret hx hb hr hlocks (Option.some.inj hf) hP hS (kt (kt keep_rf hk23) hk30) dX4_refunds_21

def f_X4_cancel (v0 : Nat) (v1 : Int32) (M0 : Mm) : Option (Int32 × Mm) :=
  ob (f_X4_in v1 (0 : Int32) ((mI M0 0 v0 19) - (1 : Int32)) M0) fun r38 => if r38 = 0 then (some ((0 : Int32), M0)) else (ob (mR M0 0 v0 23) fun i43 => ix v1 600 (if (mI M0 30 i43 (v1).toNatClampNeg) = 0 then (ob (mR M0 0 v0 20) fun i49 => ix v1 600 (ob (f_X4_isOpen v0 (mI M0 27 i49 (v1).toNatClampNeg) M0) fun r54 => if r54 = 0 then (some ((0 : Int32), M0)) else (ob (mR M0 0 v0 23) fun i59 => ix v1 600 (lt (sI M0 30 i59 (v1).toNatClampNeg (1 : Int32)) fun M63 => ob (f_X4_cost v0 v1 M63) fun r67 => lt (sJ M63 0 v0 25 ((mJ M63 0 v0 25) + r67)) fun M70 => some ((1 : Int32), M70))))) else (some ((0 : Int32), M0))))
set_option maxRecDepth 100000 in
set_option maxHeartbeats 4000000 in
theorem ok_X4_cancel (l : Launch) (D : va_G) (cy : Nat → ClassId) (ad : Nat → Nat → Nat) (M0 : Mm) (sz : Nat) (v0 : Nat) (v1 : Int32) (r0 : Int32) (M' : Mm) (a0 : mA M0 0 v0 = true) (hf : f_X4_cancel v0 v1 M0 = some (r0, M')) : Met l yX4_cancel (Cond.code yX4_cancel cX4_cancel 2 (some .boolean) :: BW) { frames := 2, cells := 0, slots := 0, locals := 43 } (va_Pc [.ref (ad 0 v0), .int v1] (PRE D cy ad M0 sz)) (QI D cy ad M0 sz r0 M') 0 0 (AA ad M0 sz) := by
  refine Met.ofW (cc := cX4_cancel) (maxL := 2) (ret := (some .boolean)) (by decide) rfl ?_
  intro p e s m args below meth c s₁ B hml hv
  obtain ⟨rfl, rfl, hP0, hK, hN⟩ := hv
  have hx := B.exec
  have hb := B.bytes
  have hr := B.returns
  have hts0 := atoms_spec (ws := (Cond.code yX4_cancel cX4_cancel 2 (some .boolean) :: BW)) B.pre
  have hts : ∀ w ∈ BW, w.before ([.ref (ad 0 v0), .int v1] : List Value).toArray s = true := fun w h => hts0 w (List.mem_cons_of_mem _ h)
  have hown : s.vm.findClass RX4 = some m.cls := findClass_of_methodNamed B.named
  have hlocks := B.notSynchronized
  have hA : ∀ q : Nat, s.heap.size ≤ q → AA ad M0 s.heap.size q := fun q h => Or.inr h
  have C : Cx RX4 cX4_cancel 2 (some .boolean) D cy (AA ad M0 s.heap.size) p s m ([.ref (ad 0 v0), .int v1] : List Value).toArray meth c := ⟨hx, hb, hr, hml, hown, hts, hlocks, hK, hN, hA⟩
  have hP := hp_self (sz := s.heap.size) hP0
  have hS : va_S (AA ad M0 s.heap.size) s.heap s.heap [] := va_S.rf
  have hl := lv_entry ([.ref (ad 0 v0), .int v1]) (n := 2) (Nat.le_of_ble_eq_true rfl)
  rw [lg_entry_eq]
  generalize (lg_sl ([.ref (ad 0 v0), .int v1]) ++ List.replicate (2 - (lg_sl ([.ref (ad 0 v0), .int v1])).length) Slot.unset).toArray = ls at hl ⊢
  have hl : lv_has ls 2 [(0, .ref (ad 0 v0)), (1, .int v1)] := hl
  unfold f_X4_cancel at hf
  refine lv_iload_n hx hb dX4_cancel_0 rfl (lv_at hl 1 rfl) ?_
  refine lv_iconst (v := (0 : Int32)) hx hb dX4_cancel_1 (by decide) ?_
  refine lv_aload_n hx hb dX4_cancel_2 rfl (lv_at hl 0 rfl) ?_
  refine gf0 (v := .int (mI M0 0 v0 19)) hx hb hts hown hK hP a0 19 (by decide) (hts _ q624) rfl rfl dX4_cancel_3 ?_
  refine lv_iconst (v := (1 : Int32)) hx hb dX4_cancel_6 (by decide) ?_
  refine lv_isub hx hb dX4_cancel_7 ?_
  obtain ⟨r38, e37, hf⟩ := ob_some hf
  refine hp_calli (va_runS (As := [.int v1, .int (0 : Int32), .int ((mI M0 0 v0 19) - (1 : Int32))]) (rest := []) ⟨hx, hb, hml, hown, hts⟩ (ok_X4_in l D cy ad M0 _ v1 (0 : Int32) ((mI M0 0 v0 19) - (1 : Int32)) r38  e37) (va_cwS 3 hts (gdS q708 q709 q86 q710) rfl rfl rfl (by decide +kernel) ⟨Nat.le_of_ble_eq_true rfl, Nat.le_of_ble_eq_true rfl⟩) (pre_S hP hK hN) rfl rfl hl.1 rfl (lv_room (Nat.le_of_ble_eq_true rfl)) dX4_cancel_8 ⟨Nat.le_of_ble_eq_true rfl, Nat.le_of_ble_eq_true rfl⟩) hP hS hA (fun H locs hP hS _ => ?_)
  refine lv_if_eq (tgt := 36) hx hb dX4_cancel_11 (by decide) (fun c41 => ?_) (fun c41 => ?_)
  · have hf := if_t hf c41
    refine lv_iconst (v := (0 : Int32)) hx hb dX4_cancel_36 (by decide) ?_
    exact hp_zret hx hb hr hlocks (Or.inl rfl) (congrArg Prod.fst (Option.some.inj hf)) (congrArg Prod.snd (Option.some.inj hf)) hP hS keep_rf dX4_cancel_37
  · have hf := if_f hf c41
    refine lv_aload_n hx hb dX4_cancel_14 rfl (lv_at hl 0 rfl) ?_
    have h42 : ∀ j : Nat, (mR M0 0 v0 23) = some j → mA M0 30 j = true := fun j hj => hp_wf hP a0 hj
    refine gf0 (v := va_rf (((mR M0 0 v0 23)).map (ad 30))) hx hb hts hown hK hP a0 23 (by decide) (hts _ q628) rfl rfl dX4_cancel_15 ?_
    refine lv_iload_n hx hb dX4_cancel_18 rfl (lv_at hl 1 rfl) ?_
    obtain ⟨i43, e44, hf⟩ := ob_some hf
    have h45 : mA M0 30 i43 = true := h42 i43 e44
    refine W_stk (st := [.int v1, va_rf (((mR M0 0 v0 23)).map (ad 30))]) (st' := [.int v1, .ref (ad 30 i43)]) (by first | (rw [e44]; done) | (rw [e44]; rfl)) ?_
    obtain ⟨h46, hf⟩ := ix_some hf
    refine hp_iald hx hb hK hP h45 rfl h46 dX4_cancel_19 ?_
    refine lv_if_ne (tgt := 36) hx hb dX4_cancel_20 (by decide) (fun c47 => ?_) (fun c47 => ?_)
    · have hf := if_f hf c47
      refine lv_iconst (v := (0 : Int32)) hx hb dX4_cancel_36 (by decide) ?_
      exact hp_zret hx hb hr hlocks (Or.inl rfl) (congrArg Prod.fst (Option.some.inj hf)) (congrArg Prod.snd (Option.some.inj hf)) hP hS keep_rf dX4_cancel_37
    · have hf := if_t hf c47
      refine lv_aload_n hx hb dX4_cancel_23 rfl (lv_at hl 0 rfl) ?_
      refine lv_aload_n hx hb dX4_cancel_24 rfl (lv_at hl 0 rfl) ?_
      have h48 : ∀ j : Nat, (mR M0 0 v0 20) = some j → mA M0 27 j = true := fun j hj => hp_wf hP a0 hj
      refine gf0 (v := va_rf (((mR M0 0 v0 20)).map (ad 27))) hx hb hts hown hK hP a0 20 (by decide) (hts _ q625) rfl rfl dX4_cancel_25 ?_
      refine lv_iload_n hx hb dX4_cancel_28 rfl (lv_at hl 1 rfl) ?_
      obtain ⟨i49, e50, hf⟩ := ob_some hf
      have h51 : mA M0 27 i49 = true := h48 i49 e50
      refine W_stk (st := [.int v1, va_rf (((mR M0 0 v0 20)).map (ad 27)), .ref (ad 0 v0)]) (st' := [.int v1, .ref (ad 27 i49), .ref (ad 0 v0)]) (by first | (rw [e50]; done) | (rw [e50]; rfl)) ?_
      obtain ⟨h52, hf⟩ := ix_some hf
      refine hp_iald hx hb hK hP h51 rfl h52 dX4_cancel_29 ?_
      obtain ⟨r54, e53, hf⟩ := ob_some hf
      refine hp_calli (va_runV (As := [.int (mI M0 27 i49 (v1).toNatClampNeg)]) (rest := []) ⟨hx, hb, hml, hown, hts⟩ (ok_X4_isOpen l D cy ad M0 _ v0 (mI M0 27 i49 (v1).toNatClampNeg) r54 a0 e53) (cwV 1 hts (gdV q750 q752 q58 q86 q753) rfl rfl rfl (by decide +kernel) ⟨Nat.le_of_ble_eq_true rfl, Nat.le_of_ble_eq_true rfl⟩) (pre_V hP hK hN a0 ds_0 rfl) rfl rfl hl.1 rfl (lv_room (Nat.le_of_ble_eq_true rfl)) dX4_cancel_30 ⟨Nat.le_of_ble_eq_true rfl, Nat.le_of_ble_eq_true rfl⟩) hP hS hA (fun H locs hP hS _ => ?_)
      refine lv_if_ne (tgt := 38) hx hb dX4_cancel_33 (by decide) (fun c57 => ?_) (fun c57 => ?_)
      · have hf := if_f hf c57
        refine lv_aload_n hx hb dX4_cancel_38 rfl (lv_at hl 0 rfl) ?_
        have h58 : ∀ j : Nat, (mR M0 0 v0 23) = some j → mA M0 30 j = true := fun j hj => hp_wf hP a0 hj
        refine gf0 (v := va_rf (((mR M0 0 v0 23)).map (ad 30))) hx hb hts hown hK hP a0 23 (by decide) (hts _ q628) rfl rfl dX4_cancel_39 ?_
        refine lv_iload_n hx hb dX4_cancel_42 rfl (lv_at hl 1 rfl) ?_
        refine lv_iconst (v := (1 : Int32)) hx hb dX4_cancel_43 (by decide) ?_
        obtain ⟨i59, e60, hf⟩ := ob_some hf
        have h61 : mA M0 30 i59 = true := h58 i59 e60
        refine W_stk (st := [.int (1 : Int32), .int v1, va_rf (((mR M0 0 v0 23)).map (ad 30))]) (st' := [.int (1 : Int32), .int v1, .ref (ad 30 i59)]) (by first | (rw [e60]; done) | (rw [e60]; rfl)) ?_
        obtain ⟨h62, hf⟩ := ix_some hf
        obtain ⟨M63, e64, hf⟩ := lt_some hf
        have hk65 : Keep M0 M63 := keI e64
        refine hp_iast hx hb hK hP hS h61 rfl h62 dX4_cancel_44 (fun H locs hP hS => ?_)
        rw [← e64] at hP
        refine lv_aload_n hx hb dX4_cancel_45 rfl (lv_at hl 0 rfl) ?_
        refine lv_dup hx hb dX4_cancel_46 rfl ?_
        refine gf0 (v := .long (mJ M63 0 v0 25)) hx hb hts hown hK hP (hk65 _ _ a0) 25 (by decide) (hts _ q630) rfl rfl dX4_cancel_47 ?_
        refine lv_aload_n hx hb dX4_cancel_50 rfl (lv_at hl 0 rfl) ?_
        refine lv_iload_n hx hb dX4_cancel_51 rfl (lv_at hl 1 rfl) ?_
        obtain ⟨r67, e66, hf⟩ := ob_some hf
        refine hp_calll (va_runV (As := [.int v1]) (rest := [.long (mJ M63 0 v0 25), .ref (ad 0 v0)]) ⟨hx, hb, hml, hown, hts⟩ (ok_X4_cost l D cy ad M63 _ v0 v1 r67 (hk65 _ _ a0) e66) (cwV 1 hts (gdV q776 q778 q62 q86 q779) rfl rfl rfl (by decide +kernel) ⟨Nat.le_of_ble_eq_true rfl, Nat.le_of_ble_eq_true rfl⟩) (pre_V hP hK hN (hk65 _ _ a0) ds_0 rfl) rfl rfl hl.1 rfl (lv_room (Nat.le_of_ble_eq_true rfl)) dX4_cancel_52 ⟨Nat.le_of_ble_eq_true rfl, Nat.le_of_ble_eq_true rfl⟩) hP hS hA (fun H locs hP hS _ => ?_)
        refine lv_ladd hx hb dX4_cancel_55 ?_
        obtain ⟨M70, e71, hf⟩ := lt_some hf
        have hk72 : Keep M63 M70 := keJ e71
        refine pJ0 (v := ((mJ M63 0 v0 25) + r67)) hx hb hts hown hK hP hS (hk65 _ _ a0) 25 (by decide) (hts _ q630) rfl rfl rfl e71 dX4_cancel_56 (fun H locs hP hS => ?_)
        refine lv_iconst (v := (1 : Int32)) hx hb dX4_cancel_59 (by decide) ?_
        exact hp_zret hx hb hr hlocks (Or.inr rfl) (congrArg Prod.fst (Option.some.inj hf)) (congrArg Prod.snd (Option.some.inj hf)) hP hS (kt (kt keep_rf hk65) hk72) dX4_cancel_60
      · have hf := if_t hf c57
        refine lv_iconst (v := (0 : Int32)) hx hb dX4_cancel_36 (by decide) ?_
        exact hp_zret hx hb hr hlocks (Or.inl rfl) (congrArg Prod.fst (Option.some.inj hf)) (congrArg Prod.snd (Option.some.inj hf)) hP hS keep_rf dX4_cancel_37
