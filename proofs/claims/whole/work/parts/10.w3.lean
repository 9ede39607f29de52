/-! ===== walks of ToteHouse: by program out of the bytecode ===== -/

def f_X3_raceNumbered (v0 : Nat) (v1 : Int32) (M0 : Mm) : Option (Option Nat) :=
  if v1 < (1 : Int32) then (some (none : Option Nat)) else (ob (mR M0 1 v0 0) fun i15 => if v1 < (13 : Int32) then (ob (mR M0 1 v0 0) fun i20 => ix v1 13 (some (mR M0 2 i20 (v1).toNatClampNeg))) else (some (none : Option Nat)))
set_option maxRecDepth 100000 in
set_option maxHeartbeats 4000000 in
theorem ok_X3_raceNumbered (l : Launch) (D : va_G) (cy : Nat → ClassId) (ad : Nat → Nat → Nat) (M0 : Mm) (sz : Nat) (v0 : Nat) (v1 : Int32) (r0 : Option Nat) (a0 : mA M0 1 v0 = true) (hf : f_X3_raceNumbered v0 v1 M0 = some r0) : Met l yX3_raceNumbered (Cond.code yX3_raceNumbered cX3_raceNumbered 2 (some (.object "ToteHouse$Race")) :: BW) { frames := 0, cells := 0, slots := 0, locals := 0 } (va_Pc [.ref (ad 1 v0), .int v1] (PRE D cy ad M0 sz)) (QR D cy ad M0 sz 4 r0 M0) 0 0 (AA ad M0 sz) := by
  refine Met.ofW (cc := cX3_raceNumbered) (maxL := 2) (ret := (some (.object "ToteHouse$Race"))) (by decide) rfl ?_
  intro p e s m args below meth c s₁ B hml hv
  obtain ⟨rfl, rfl, hP0, hK, hN⟩ := hv
  have hx := B.exec
  have hb := B.bytes
  have hr := B.returns
  have hts0 := atoms_spec (ws := (Cond.code yX3_raceNumbered cX3_raceNumbered 2 (some (.object "ToteHouse$Race")) :: BW)) B.pre
  have hts : ∀ w ∈ BW, w.before ([.ref (ad 1 v0), .int v1] : List Value).toArray s = true := fun w h => hts0 w (List.mem_cons_of_mem _ h)
  have hown : s.vm.findClass RX3 = some m.cls := findClass_of_methodNamed B.named
  have hlocks := B.notSynchronized
  have hA : ∀ q : Nat, s.heap.size ≤ q → AA ad M0 s.heap.size q := fun q h => Or.inr h
  have C : Cx RX3 cX3_raceNumbered 2 (some (.object "ToteHouse$Race")) D cy (AA ad M0 s.heap.size) p s m ([.ref (ad 1 v0), .int v1] : List Value).toArray meth c := ⟨hx, hb, hr, hml, hown, hts, hlocks, hK, hN, hA⟩
  have hP := hp_self (sz := s.heap.size) hP0
  have hS : va_S (AA ad M0 s.heap.size) s.heap s.heap [] := va_S.rf
  have hl := lv_entry ([.ref (ad 1 v0), .int v1]) (n := 2) (Nat.le_of_ble_eq_true rfl)
  rw [lg_entry_eq]
  generalize (lg_sl ([.ref (ad 1 v0), .int v1]) ++ List.replicate (2 - (lg_sl ([.ref (ad 1 v0), .int v1])).length) Slot.unset).toArray = ls at hl ⊢
  have hl : lv_has ls 2 [(0, .ref (ad 1 v0)), (1, .int v1)] := hl
  unfold f_X3_raceNumbered at hf
  refine lv_iload_n hx hb dX3_raceNumbered_0 rfl (lv_at hl 1 rfl) ?_
  refine lv_iconst (v := (1 : Int32)) hx hb dX3_raceNumbered_1 (by decide) ?_
  refine lv_icmp_lt (tgt := 14) hx hb dX3_raceNumbered_2 (by decide) (fun c13 => ?_) (fun c13 => ?_)
  · have hf := if_t hf c13
    refine lv_null hx hb dX3_raceNumbered_14 ?_
    refine lv_goto (tgt := 24) hx hb dX3_raceNumbered_15 (by decide) ?_
    exact hp_aret (t0 := 4) (v := (none : Option Nat)) hx hb hr hlocks (fun j hj => by cases hj) (Option.some.inj hf) rfl hP hS keep_rf dX3_raceNumbered_24
  · have hf := if_f hf c13
    refine lv_iload_n hx hb dX3_raceNumbered_5 rfl (lv_at hl 1 rfl) ?_
    refine lv_aload_n hx hb dX3_raceNumbered_6 rfl (lv_at hl 0 rfl) ?_
    have h14 : ∀ j : Nat, (mR M0 1 v0 0) = some j → mA M0 2 j = true := fun j hj => hp_wf hP a0 hj
    refine gf1 (v := va_rf (((mR M0 1 v0 0)).map (ad 2))) hx hb hts hown hK hP a0 0 (by decide) (hts _ q103) rfl rfl dX3_raceNumbered_7 ?_
    obtain ⟨i15, e16, hf⟩ := ob_some hf
    have h17 : mA M0 2 i15 = true := h14 i15 e16
    refine W_stk (st := [va_rf (((mR M0 1 v0 0)).map (ad 2)), .int v1]) (st' := [.ref (ad 2 i15), .int v1]) (by first | (rw [e16]; done) | (rw [e16]; rfl)) ?_
    refine hp_alen (v := (13 : Int32)) hx hb hK hP h17 rfl rfl (by decide) dX3_raceNumbered_10 ?_
    refine lv_icmp_lt (tgt := 18) hx hb dX3_raceNumbered_11 (by decide) (fun c18 => ?_) (fun c18 => ?_)
    · have hf := if_t hf c18
      refine lv_aload_n hx hb dX3_raceNumbered_18 rfl (lv_at hl 0 rfl) ?_
      have h19 : ∀ j : Nat, (mR M0 1 v0 0) = some j → mA M0 2 j = true := fun j hj => hp_wf hP a0 hj
      refine gf1 (v := va_rf (((mR M0 1 v0 0)).map (ad 2))) hx hb hts hown hK hP a0 0 (by decide) (hts _ q103) rfl rfl dX3_raceNumbered_19 ?_
      refine lv_iload_n hx hb dX3_raceNumbered_22 rfl (lv_at hl 1 rfl) ?_
      obtain ⟨i20, e21, hf⟩ := ob_some hf
      have h22 : mA M0 2 i20 = true := h19 i20 e21
      refine W_stk (st := [.int v1, va_rf (((mR M0 1 v0 0)).map (ad 2))]) (st' := [.int v1, .ref (ad 2 i20)]) (by first | (rw [e21]; done) | (rw [e21]; rfl)) ?_
      obtain ⟨h23, hf⟩ := ix_some hf
      have h24 : ∀ j : Nat, (mR M0 2 i20 (v1).toNatClampNeg) = some j → mA M0 4 j = true := fun j hj => hp_wf hP h22 hj
      refine hp_aald (an := 3) (t := 4) hx hb hK hP h22 rfl rfl h23 dX3_raceNumbered_23 ?_
      exact hp_aret (t0 := 4) (v := (mR M0 2 i20 (v1).toNatClampNeg)) hx hb hr hlocks h24 (Option.some.inj hf) rfl hP hS keep_rf dX3_raceNumbered_24
    · have hf := if_f hf c18
      refine lv_null hx hb dX3_raceNumbered_14 ?_
      refine lv_goto (tgt := 24) hx hb dX3_raceNumbered_15 (by decide) ?_
      exact hp_aret (t0 := 4) (v := (none : Option Nat)) hx hb hr hlocks (fun j hj => by cases hj) (Option.some.inj hf) rfl hP hS keep_rf dX3_raceNumbered_24

def f_X3_areTerms (v0 : Int32) (v1 : Int32) (M0 : Mm) : Option Int32 :=
  if v0 < 0 then (some (0 : Int32)) else (if (999 : Int32) < v0 then (some (0 : Int32)) else (if v1 < (10 : Int32) then (some (0 : Int32)) else (if (1000 : Int32) < v1 then (some (0 : Int32)) else (dv (10 : Int32) (if (v1 - v1 / (10 : Int32) * (10 : Int32)) = 0 then (some (1 : Int32)) else (some (0 : Int32)))))))
set_option maxRecDepth 100000 in
set_option maxHeartbeats 4000000 in
theorem ok_X3_areTerms (l : Launch) (D : va_G) (cy : Nat → ClassId) (ad : Nat → Nat → Nat) (M0 : Mm) (sz : Nat) (v0 : Int32) (v1 : Int32) (r0 : Int32) (hf : f_X3_areTerms v0 v1 M0 = some r0) : Met l yX3_areTerms (Cond.code yX3_areTerms cX3_areTerms 2 (some .boolean) :: BW) { frames := 0, cells := 0, slots := 0, locals := 0 } (va_Pc [.int v0, .int v1] (PRE D cy ad M0 sz)) (QI D cy ad M0 sz r0 M0) 0 0 (AA ad M0 sz) := by
  refine Met.ofW (cc := cX3_areTerms) (maxL := 2) (ret := (some .boolean)) (by decide) rfl ?_
  intro p e s m args below meth c s₁ B hml hv
  obtain ⟨rfl, rfl, hP0, hK, hN⟩ := hv
  have hx := B.exec
  have hb := B.bytes
  have hr := B.returns
  have hts0 := atoms_spec (ws := (Cond.code yX3_areTerms cX3_areTerms 2 (some .boolean) :: BW)) B.pre
  have hts : ∀ w ∈ BW, w.before ([.int v0, .int v1] : List Value).toArray s = true := fun w h => hts0 w (List.mem_cons_of_mem _ h)
  have hown : s.vm.findClass RX3 = some m.cls := findClass_of_methodNamed B.named
  have hlocks := B.notSynchronized
  have hA : ∀ q : Nat, s.heap.size ≤ q → AA ad M0 s.heap.size q := fun q h => Or.inr h
  have C : Cx RX3 cX3_areTerms 2 (some .boolean) D cy (AA ad M0 s.heap.size) p s m ([.int v0, .int v1] : List Value).toArray meth c := ⟨hx, hb, hr, hml, hown, hts, hlocks, hK, hN, hA⟩
  have hP := hp_self (sz := s.heap.size) hP0
  have hS : va_S (AA ad M0 s.heap.size) s.heap s.heap [] := va_S.rf
  have hl := lv_entry ([.int v0, .int v1]) (n := 2) (Nat.le_of_ble_eq_true rfl)
  rw [lg_entry_eq]
  generalize (lg_sl ([.int v0, .int v1]) ++ List.replicate (2 - (lg_sl ([.int v0, .int v1])).length) Slot.unset).toArray = ls at hl ⊢
  have hl : lv_has ls 2 [(0, .int v0), (1, .int v1)] := hl
  unfold f_X3_areTerms at hf
  refine lv_iload_n hx hb dX3_areTerms_0 rfl (lv_at hl 0 rfl) ?_
  refine lv_if_lt (tgt := 35) hx hb dX3_areTerms_1 (by decide) (fun c7 => ?_) (fun c7 => ?_)
  · have hf := if_t hf c7
    refine lv_iconst (v := (0 : Int32)) hx hb dX3_areTerms_35 (by decide) ?_
    exact hp_zret hx hb hr hlocks (Or.inl rfl) (Option.some.inj hf) rfl hP hS keep_rf dX3_areTerms_36
  · have hf := if_f hf c7
    refine lv_iload_n hx hb dX3_areTerms_4 rfl (lv_at hl 0 rfl) ?_
    refine lv_sipush (v := (999 : Int32)) hx hb dX3_areTerms_5 (by decide) ?_
    refine lv_icmp_gt (tgt := 35) hx hb dX3_areTerms_8 (by decide) (fun c8 => ?_) (fun c8 => ?_)
    · have hf := if_t hf c8
      refine lv_iconst (v := (0 : Int32)) hx hb dX3_areTerms_35 (by decide) ?_
      exact hp_zret hx hb hr hlocks (Or.inl rfl) (Option.some.inj hf) rfl hP hS keep_rf dX3_areTerms_36
    · have hf := if_f hf c8
      refine lv_iload_n hx hb dX3_areTerms_11 rfl (lv_at hl 1 rfl) ?_
      refine lv_bipush (v := (10 : Int32)) hx hb dX3_areTerms_12 (by decide) ?_
      refine lv_icmp_lt (tgt := 35) hx hb dX3_areTerms_14 (by decide) (fun c9 => ?_) (fun c9 => ?_)
      · have hf := if_t hf c9
        refine lv_iconst (v := (0 : Int32)) hx hb dX3_areTerms_35 (by decide) ?_
        exact hp_zret hx hb hr hlocks (Or.inl rfl) (Option.some.inj hf) rfl hP hS keep_rf dX3_areTerms_36
      · have hf := if_f hf c9
        refine lv_iload_n hx hb dX3_areTerms_17 rfl (lv_at hl 1 rfl) ?_
        refine lv_sipush (v := (1000 : Int32)) hx hb dX3_areTerms_18 (by decide) ?_
        refine lv_icmp_gt (tgt := 35) hx hb dX3_areTerms_21 (by decide) (fun c10 => ?_) (fun c10 => ?_)
        · have hf := if_t hf c10
          refine lv_iconst (v := (0 : Int32)) hx hb dX3_areTerms_35 (by decide) ?_
          exact hp_zret hx hb hr hlocks (Or.inl rfl) (Option.some.inj hf) rfl hP hS keep_rf dX3_areTerms_36
        · have hf := if_f hf c10
          refine lv_iload_n hx hb dX3_areTerms_24 rfl (lv_at hl 1 rfl) ?_
          refine lv_bipush (v := (10 : Int32)) hx hb dX3_areTerms_25 (by decide) ?_
          obtain ⟨h11, hf⟩ := dv_some hf
          refine lv_irem hx hb dX3_areTerms_27 h11 ?_
          refine lv_if_ne (tgt := 35) hx hb dX3_areTerms_28 (by decide) (fun c12 => ?_) (fun c12 => ?_)
          · have hf := if_f hf c12
            refine lv_iconst (v := (0 : Int32)) hx hb dX3_areTerms_35 (by decide) ?_
            exact hp_zret hx hb hr hlocks (Or.inl rfl) (Option.some.inj hf) rfl hP hS keep_rf dX3_areTerms_36
          · have hf := if_t hf c12
            refine lv_iconst (v := (1 : Int32)) hx hb dX3_areTerms_31 (by decide) ?_
            refine lv_goto (tgt := 36) hx hb dX3_areTerms_32 (by decide) ?_
            exact hp_zret hx hb hr hlocks (Or.inr rfl) (Option.some.inj hf) rfl hP hS keep_rf dX3_areTerms_36

def f_X3_substitute (v0 : Nat) (v1 : Int32) (v2 : Int32) (M0 : Mm) : Option (Int32 × Mm) :=
  ob (f_X3_raceNumbered v0 v1 M0) fun r33 => if 0 < (mI M0 1 v0 2) then (some ((0 : Int32), M0)) else (on r33 (some ((0 : Int32), M0)) fun i39 => on (mR M0 1 v0 3) (some ((0 : Int32), M0)) fun i43 => ob (mR M0 1 v0 3) fun i46 => ob (f_X0_isOf i46 i39 M0) fun r50 => if r50 = 0 then (some ((0 : Int32), M0)) else (if (mI M0 4 i39 4) = 0 then (ob (f_X1_isRunning i39 v2 M0) fun r56 => if r56 = 0 then (some ((0 : Int32), M0)) else (lt (sI M0 4 i39 6 v2) fun M60 => some ((1 : Int32), M60))) else (some ((0 : Int32), M0))))
set_option maxRecDepth 100000 in
set_option maxHeartbeats 4000000 in
theorem ok_X3_substitute (l : Launch) (D : va_G) (cy : Nat → ClassId) (ad : Nat → Nat → Nat) (M0 : Mm) (sz : Nat) (v0 : Nat) (v1 : Int32) (v2 : Int32) (r0 : Int32) (M' : Mm) (a0 : mA M0 1 v0 = true) (hf : f_X3_substitute v0 v1 v2 M0 = some (r0, M')) : Met l yX3_substitute (Cond.code yX3_substitute cX3_substitute 4 (some .boolean) :: BW) { frames := 2, cells := 0, slots := 0, locals := 42 } (va_Pc [.ref (ad 1 v0), .int v1, .int v2] (PRE D cy ad M0 sz)) (QI D cy ad M0 sz r0 M') 0 0 (AA ad M0 sz) := by
  refine Met.ofW (cc := cX3_substitute) (maxL := 4) (ret := (some .boolean)) (by decide) rfl ?_
  intro p e s m args below meth c s₁ B hml hv
  obtain ⟨rfl, rfl, hP0, hK, hN⟩ := hv
  have hx := B.exec
  have hb := B.bytes
  have hr := B.returns
  have hts0 := atoms_spec (ws := (Cond.code yX3_substitute cX3_substitute 4 (some .boolean) :: BW)) B.pre
  have hts : ∀ w ∈ BW, w.before ([.ref (ad 1 v0), .int v1, .int v2] : List Value).toArray s = true := fun w h => hts0 w (List.mem_cons_of_mem _ h)
  have hown : s.vm.findClass RX3 = some m.cls := findClass_of_methodNamed B.named
  have hlocks := B.notSynchronized
  have hA : ∀ q : Nat, s.heap.size ≤ q → AA ad M0 s.heap.size q := fun q h => Or.inr h
  have C : Cx RX3 cX3_substitute 4 (some .boolean) D cy (AA ad M0 s.heap.size) p s m ([.ref (ad 1 v0), .int v1, .int v2] : List Value).toArray meth c := ⟨hx, hb, hr, hml, hown, hts, hlocks, hK, hN, hA⟩
  have hP := hp_self (sz := s.heap.size) hP0
  have hS : va_S (AA ad M0 s.heap.size) s.heap s.heap [] := va_S.rf
  have hl := lv_entry ([.ref (ad 1 v0), .int v1, .int v2]) (n := 4) (Nat.le_of_ble_eq_true rfl)
  rw [lg_entry_eq]
  generalize (lg_sl ([.ref (ad 1 v0), .int v1, .int v2]) ++ List.replicate (4 - (lg_sl ([.ref (ad 1 v0), .int v1, .int v2])).length) Slot.unset).toArray = ls at hl ⊢
  have hl : lv_has ls 4 [(0, .ref (ad 1 v0)), (1, .int v1), (2, .int v2)] := hl
  unfold f_X3_substitute at hf
  refine lv_aload_n hx hb dX3_substitute_0 rfl (lv_at hl 0 rfl) ?_
  refine lv_iload_n hx hb dX3_substitute_1 rfl (lv_at hl 1 rfl) ?_
  obtain ⟨r33, e32, hf⟩ := ob_some hf
  refine hp_callq (va_runV (As := [.int v1]) (rest := []) ⟨hx, hb, hml, hown, hts⟩ (ok_X3_raceNumbered l D cy ad M0 _ v0 v1 r33 a0 e32) (cwV 1 hts (gdV q163 q165 q0 q85 q166) rfl rfl rfl (by decide +kernel) ⟨Nat.le_of_ble_eq_true rfl, Nat.le_of_ble_eq_true rfl⟩) (pre_V hP hK hN a0 ds_1 rfl) rfl rfl hl.1 rfl (lv_room (Nat.le_of_ble_eq_true rfl)) dX3_substitute_2 ⟨Nat.le_of_ble_eq_true rfl, Nat.le_of_ble_eq_true rfl⟩) hP hS hA (fun H locs hP hS _ h36 => ?_)
  refine hp_astore_n (r := (r33).map (ad 4)) (lv' := [(3, va_rf ((r33).map (ad 4))), (0, .ref (ad 1 v0)), (1, .int v1), (2, .int v2)]) hx hb dX3_substitute_5 rfl hl (by decide) rfl (fun ls hl => ?_)
  refine lv_aload_n hx hb dX3_substitute_6 rfl (lv_at hl 1 rfl) ?_
  refine gf1 (v := .int (mI M0 1 v0 2)) hx hb hts hown hK hP a0 2 (by decide) (hts _ q105) rfl rfl dX3_substitute_7 ?_
  refine lv_if_gt (tgt := 50) hx hb dX3_substitute_10 (by decide) (fun c37 => ?_) (fun c37 => ?_)
  · have hf := if_t hf c37
    refine lv_iconst (v := (0 : Int32)) hx hb dX3_substitute_50 (by decide) ?_
    exact hp_zret hx hb hr hlocks (Or.inl rfl) (congrArg Prod.fst (Option.some.inj hf)) (congrArg Prod.snd (Option.some.inj hf)) hP hS keep_rf dX3_substitute_51
  · have hf := if_f hf c37
    refine hp_aload_n (r := (r33).map (ad 4)) hx hb dX3_substitute_13 rfl (lv_at hl 0 rfl) ?_
    rcases on_c hf with ⟨e38, hf⟩ | ⟨i39, e38, hf⟩
    · refine W_top (y := .null) (by rw [e38]; rfl) ?_
      refine lv_ifnullN (tgt := 50) hx hb dX3_substitute_14 (by decide) ?_
      refine lv_iconst (v := (0 : Int32)) hx hb dX3_substitute_50 (by decide) ?_
      exact hp_zret hx hb hr hlocks (Or.inl rfl) (congrArg Prod.fst (Option.some.inj hf)) (congrArg Prod.snd (Option.some.inj hf)) hP hS keep_rf dX3_substitute_51
    · have h40 : mA M0 4 i39 = true := h36 i39 e38
      rw [e38] at hl
      have hl : lv_has ls 4 [(3, .ref (ad 4 i39)), (0, .ref (ad 1 v0)), (1, .int v1), (2, .int v2)] := hl
      refine W_stk (st := [va_rf ((r33).map (ad 4))]) (st' := [.ref (ad 4 i39)]) (by first | (rw [e38]; done) | (rw [e38]; rfl)) ?_
      refine lv_ifnull hx hb dX3_substitute_14 ?_
      refine lv_aload_n hx hb dX3_substitute_17 rfl (lv_at hl 1 rfl) ?_
      have h41 : ∀ j : Nat, (mR M0 1 v0 3) = some j → mA M0 7 j = true := fun j hj => hp_wf hP a0 hj
      refine gf1 (v := va_rf (((mR M0 1 v0 3)).map (ad 7))) hx hb hts hown hK hP a0 3 (by decide) (hts _ q106) rfl rfl dX3_substitute_18 ?_
      rcases on_c hf with ⟨e42, hf⟩ | ⟨i43, e42, hf⟩
      · refine W_top (y := .null) (by rw [e42]; rfl) ?_
        refine lv_ifnullN (tgt := 50) hx hb dX3_substitute_21 (by decide) ?_
        refine lv_iconst (v := (0 : Int32)) hx hb dX3_substitute_50 (by decide) ?_
        exact hp_zret hx hb hr hlocks (Or.inl rfl) (congrArg Prod.fst (Option.some.inj hf)) (congrArg Prod.snd (Option.some.inj hf)) hP hS keep_rf dX3_substitute_51
      · have h44 : mA M0 7 i43 = true := h41 i43 e42
        refine W_stk (st := [va_rf (((mR M0 1 v0 3)).map (ad 7))]) (st' := [.ref (ad 7 i43)]) (by first | (rw [e42]; done) | (rw [e42]; rfl)) ?_
        refine lv_ifnull hx hb dX3_substitute_21 ?_
        refine lv_aload_n hx hb dX3_substitute_24 rfl (lv_at hl 1 rfl) ?_
        have h45 : ∀ j : Nat, (mR M0 1 v0 3) = some j → mA M0 7 j = true := fun j hj => hp_wf hP a0 hj
        refine gf1 (v := va_rf (((mR M0 1 v0 3)).map (ad 7))) hx hb hts hown hK hP a0 3 (by decide) (hts _ q106) rfl rfl dX3_substitute_25 ?_
        refine lv_aload_n hx hb dX3_substitute_28 rfl (lv_at hl 0 rfl) ?_
        obtain ⟨i46, e47, hf⟩ := ob_some hf
        have h48 : mA M0 7 i46 = true := h45 i46 e47
        refine W_stk (st := [.ref (ad 4 i39), va_rf (((mR M0 1 v0 3)).map (ad 7))]) (st' := [.ref (ad 4 i39), .ref (ad 7 i46)]) (by first | (rw [e47]; done) | (rw [e47]; rfl)) ?_
        obtain ⟨r50, e49, hf⟩ := ob_some hf
        refine hp_calli (va_runVN (As := [.ref (ad 4 i39)]) (rest := []) ⟨hx, hb, hml, hown, hts⟩ (ok_X0_isOf l D cy ad M0 _ i46 i39 r50 h48 h40 e49) ⟨va_cnB 1 hts (gd0 q250) rfl rfl rfl (hN.2.1 (RX3, 52, yX0_isOf, RX3) (List.mem_of_getElem? (i := 2) rfl)) (hts _ q88) (by decide +kernel) ⟨Nat.le_of_ble_eq_true rfl, Nat.le_of_ble_eq_true rfl⟩, hts _ q249, hts _ q1⟩ (pre_V hP hK hN h48 ds_7 rfl) rfl rfl hl.1 rfl (lv_room (Nat.le_of_ble_eq_true rfl)) dX3_substitute_29 ⟨Nat.le_of_ble_eq_true rfl, Nat.le_of_ble_eq_true rfl⟩) hP hS hA (fun H locs hP hS _ => ?_)
        refine lv_if_eq (tgt := 50) hx hb dX3_substitute_32 (by decide) (fun c53 => ?_) (fun c53 => ?_)
        · have hf := if_t hf c53
          refine lv_iconst (v := (0 : Int32)) hx hb dX3_substitute_50 (by decide) ?_
          exact hp_zret hx hb hr hlocks (Or.inl rfl) (congrArg Prod.fst (Option.some.inj hf)) (congrArg Prod.snd (Option.some.inj hf)) hP hS keep_rf dX3_substitute_51
        · have hf := if_f hf c53
          refine lv_aload_n hx hb dX3_substitute_35 rfl (lv_at hl 0 rfl) ?_
          refine gf4N (v := .int (mI M0 4 i39 4)) hx hb hts hown hK hP h40 4 (by decide) (va_Nw.use rfl (hN.1 (RX3, 32, "ToteHouse$Race", "state", "I", RX3) (List.mem_of_getElem? (i := 4) rfl))) rfl rfl dX3_substitute_36 ?_
          refine lv_if_ne (tgt := 50) hx hb dX3_substitute_39 (by decide) (fun c54 => ?_) (fun c54 => ?_)
          · have hf := if_f hf c54
            refine lv_iconst (v := (0 : Int32)) hx hb dX3_substitute_50 (by decide) ?_
            exact hp_zret hx hb hr hlocks (Or.inl rfl) (congrArg Prod.fst (Option.some.inj hf)) (congrArg Prod.snd (Option.some.inj hf)) hP hS keep_rf dX3_substitute_51
          · have hf := if_t hf c54
            refine lv_aload_n hx hb dX3_substitute_42 rfl (lv_at hl 0 rfl) ?_
            refine lv_iload_n hx hb dX3_substitute_43 rfl (lv_at hl 3 rfl) ?_
            obtain ⟨r56, e55, hf⟩ := ob_some hf
            refine hp_calli (va_runVN (As := [.int v2]) (rest := []) ⟨hx, hb, hml, hown, hts⟩ (ok_X1_isRunning l D cy ad M0 _ i39 v2 r56 h40 e55) ⟨va_cnB 1 hts (gd0 q254) rfl rfl rfl (hN.2.1 (RX3, 56, yX1_isRunning, RX3) (List.mem_of_getElem? (i := 3) rfl)) (hts _ q87) (by decide +kernel) ⟨Nat.le_of_ble_eq_true rfl, Nat.le_of_ble_eq_true rfl⟩, hts _ q253, hts _ q2⟩ (pre_V hP hK hN h40 ds_4 rfl) rfl rfl hl.1 rfl (lv_room (Nat.le_of_ble_eq_true rfl)) dX3_substitute_44 ⟨Nat.le_of_ble_eq_true rfl, Nat.le_of_ble_eq_true rfl⟩) hP hS hA (fun H locs hP hS _ => ?_)
            refine lv_if_ne (tgt := 52) hx hb dX3_substitute_47 (by decide) (fun c59 => ?_) (fun c59 => ?_)
            · have hf := if_f hf c59
              refine lv_aload_n hx hb dX3_substitute_52 rfl (lv_at hl 0 rfl) ?_
              refine lv_iload_n hx hb dX3_substitute_53 rfl (lv_at hl 3 rfl) ?_
              obtain ⟨M60, e61, hf⟩ := lt_some hf
              have hk62 : Keep M0 M60 := keI e61
              refine pI4N (v := v2) hx hb hts hown hK hP hS h40 6 (by decide) (va_Nw.use rfl (hN.1 (RX3, 60, "ToteHouse$Race", "substituteRunner", "I", RX3) (List.mem_of_getElem? (i := 6) rfl))) rfl rfl rfl e61 dX3_substitute_54 (fun H locs hP hS => ?_)
              refine lv_iconst (v := (1 : Int32)) hx hb dX3_substitute_57 (by decide) ?_
              exact hp_zret hx hb hr hlocks (Or.inr rfl) (congrArg Prod.fst (Option.some.inj hf)) (congrArg Prod.snd (Option.some.inj hf)) hP hS (kt keep_rf hk62) dX3_substitute_58
            · have hf := if_t hf c59
              refine lv_iconst (v := (0 : Int32)) hx hb dX3_substitute_50 (by decide) ?_
              exact hp_zret hx hb hr hlocks (Or.inl rfl) (congrArg Prod.fst (Option.some.inj hf)) (congrArg Prod.snd (Option.some.inj hf)) hP hS keep_rf dX3_substitute_51

def f_X3_poolOf (v0 : Nat) (v1 : Int32) (v2 : Int32) (M0 : Mm) : Option (Option Nat) :=
  if v2 = (4 : Int32) then (some (mR M0 1 v0 3)) else (ob (f_X3_raceNumbered v0 v1 M0) fun r25 => on r25 (some (none : Option Nat)) fun i30 => if v2 < 0 then (some (none : Option Nat)) else (ob (mR M0 4 i30 3) fun i34 => if v2 < (4 : Int32) then (ob (mR M0 4 i30 3) fun i39 => ix v2 4 (some (mR M0 6 i39 (v2).toNatClampNeg))) else (some (none : Option Nat))))
set_option maxRecDepth 100000 in
set_option maxHeartbeats 4000000 in
theorem ok_X3_poolOf (l : Launch) (D : va_G) (cy : Nat → ClassId) (ad : Nat → Nat → Nat) (M0 : Mm) (sz : Nat) (v0 : Nat) (v1 : Int32) (v2 : Int32) (r0 : Option Nat) (a0 : mA M0 1 v0 = true) (hf : f_X3_poolOf v0 v1 v2 M0 = some r0) : Met l yX3_poolOf (Cond.code yX3_poolOf cX3_poolOf 4 (some (.object "ToteHouse$Pool")) :: BW) { frames := 1, cells := 0, slots := 0, locals := 21 } (va_Pc [.ref (ad 1 v0), .int v1, .int v2] (PRE D cy ad M0 sz)) (QR D cy ad M0 sz 7 r0 M0) 0 0 (AA ad M0 sz) := by
  refine Met.ofW (cc := cX3_poolOf) (maxL := 4) (ret := (some (.object "ToteHouse$Pool"))) (by decide) rfl ?_
  intro p e s m args below meth c s₁ B hml hv
  obtain ⟨rfl, rfl, hP0, hK, hN⟩ := hv
  have hx := B.exec
  have hb := B.bytes
  have hr := B.returns
  have hts0 := atoms_spec (ws := (Cond.code yX3_poolOf cX3_poolOf 4 (some (.object "ToteHouse$Pool")) :: BW)) B.pre
  have hts : ∀ w ∈ BW, w.before ([.ref (ad 1 v0), .int v1, .int v2] : List Value).toArray s = true := fun w h => hts0 w (List.mem_cons_of_mem _ h)
  have hown : s.vm.findClass RX3 = some m.cls := findClass_of_methodNamed B.named
  have hlocks := B.notSynchronized
  have hA : ∀ q : Nat, s.heap.size ≤ q → AA ad M0 s.heap.size q := fun q h => Or.inr h
  have C : Cx RX3 cX3_poolOf 4 (some (.object "ToteHouse$Pool")) D cy (AA ad M0 s.heap.size) p s m ([.ref (ad 1 v0), .int v1, .int v2] : List Value).toArray meth c := ⟨hx, hb, hr, hml, hown, hts, hlocks, hK, hN, hA⟩
  have hP := hp_self (sz := s.heap.size) hP0
  have hS : va_S (AA ad M0 s.heap.size) s.heap s.heap [] := va_S.rf
  have hl := lv_entry ([.ref (ad 1 v0), .int v1, .int v2]) (n := 4) (Nat.le_of_ble_eq_true rfl)
  rw [lg_entry_eq]
  generalize (lg_sl ([.ref (ad 1 v0), .int v1, .int v2]) ++ List.replicate (4 - (lg_sl ([.ref (ad 1 v0), .int v1, .int v2])).length) Slot.unset).toArray = ls at hl ⊢
  have hl : lv_has ls 4 [(0, .ref (ad 1 v0)), (1, .int v1), (2, .int v2)] := hl
  unfold f_X3_poolOf at hf
  refine lv_iload_n hx hb dX3_poolOf_0 rfl (lv_at hl 2 rfl) ?_
  refine lv_iconst (v := (4 : Int32)) hx hb dX3_poolOf_1 (by decide) ?_
  refine lv_icmp_ne (tgt := 10) hx hb dX3_poolOf_2 (by decide) (fun c23 => ?_) (fun c23 => ?_)
  · have hf := if_f hf c23
    refine lv_aload_n hx hb dX3_poolOf_10 rfl (lv_at hl 0 rfl) ?_
    refine lv_iload_n hx hb dX3_poolOf_11 rfl (lv_at hl 1 rfl) ?_
    obtain ⟨r25, e24, hf⟩ := ob_some hf
    refine hp_callq (va_runV (As := [.int v1]) (rest := []) ⟨hx, hb, hml, hown, hts⟩ (ok_X3_raceNumbered l D cy ad M0 _ v0 v1 r25 a0 e24) (cwV 1 hts (gdV q163 q165 q0 q85 q166) rfl rfl rfl (by decide +kernel) ⟨Nat.le_of_ble_eq_true rfl, Nat.le_of_ble_eq_true rfl⟩) (pre_V hP hK hN a0 ds_1 rfl) rfl rfl hl.1 rfl (lv_room (Nat.le_of_ble_eq_true rfl)) dX3_poolOf_12 ⟨Nat.le_of_ble_eq_true rfl, Nat.le_of_ble_eq_true rfl⟩) hP hS hA (fun H locs hP hS _ h28 => ?_)
    refine hp_astore_n (r := (r25).map (ad 4)) (lv' := [(3, va_rf ((r25).map (ad 4))), (0, .ref (ad 1 v0)), (1, .int v1), (2, .int v2)]) hx hb dX3_poolOf_15 rfl hl (by decide) rfl (fun ls hl => ?_)
    refine hp_aload_n (r := (r25).map (ad 4)) hx hb dX3_poolOf_16 rfl (lv_at hl 0 rfl) ?_
    rcases on_c hf with ⟨e29, hf⟩ | ⟨i30, e29, hf⟩
    · refine W_top (y := .null) (by rw [e29]; rfl) ?_
      refine lv_ifnullN (tgt := 33) hx hb dX3_poolOf_17 (by decide) ?_
      refine lv_null hx hb dX3_poolOf_33 ?_
      refine lv_goto (tgt := 43) hx hb dX3_poolOf_34 (by decide) ?_
      exact hp_aret (t0 := 7) (v := (none : Option Nat)) hx hb hr hlocks (fun j hj => by cases hj) (Option.some.inj hf) rfl hP hS keep_rf dX3_poolOf_43
    · have h31 : mA M0 4 i30 = true := h28 i30 e29
      rw [e29] at hl
      have hl : lv_has ls 4 [(3, .ref (ad 4 i30)), (0, .ref (ad 1 v0)), (1, .int v1), (2, .int v2)] := hl
      refine W_stk (st := [va_rf ((r25).map (ad 4))]) (st' := [.ref (ad 4 i30)]) (by first | (rw [e29]; done) | (rw [e29]; rfl)) ?_
      refine lv_ifnull hx hb dX3_poolOf_17 ?_
      refine lv_iload_n hx hb dX3_poolOf_20 rfl (lv_at hl 3 rfl) ?_
      refine lv_if_lt (tgt := 33) hx hb dX3_poolOf_21 (by decide) (fun c32 => ?_) (fun c32 => ?_)
      · have hf := if_t hf c32
        refine lv_null hx hb dX3_poolOf_33 ?_
        refine lv_goto (tgt := 43) hx hb dX3_poolOf_34 (by decide) ?_
        exact hp_aret (t0 := 7) (v := (none : Option Nat)) hx hb hr hlocks (fun j hj => by cases hj) (Option.some.inj hf) rfl hP hS keep_rf dX3_poolOf_43
      · have hf := if_f hf c32
        refine lv_iload_n hx hb dX3_poolOf_24 rfl (lv_at hl 3 rfl) ?_
        refine lv_aload_n hx hb dX3_poolOf_25 rfl (lv_at hl 0 rfl) ?_
        have h33 : ∀ j : Nat, (mR M0 4 i30 3) = some j → mA M0 6 j = true := fun j hj => hp_wf hP h31 hj
        refine gf4N (v := va_rf (((mR M0 4 i30 3)).map (ad 6))) hx hb hts hown hK hP h31 3 (by decide) (va_Nw.use rfl (hN.1 (RX3, 39, "ToteHouse$Race", "pools", "[LToteHouse$Pool;", RX3) (List.mem_of_getElem? (i := 2) rfl))) rfl rfl dX3_poolOf_26 ?_
        obtain ⟨i34, e35, hf⟩ := ob_some hf
        have h36 : mA M0 6 i34 = true := h33 i34 e35
        refine W_stk (st := [va_rf (((mR M0 4 i30 3)).map (ad 6)), .int v2]) (st' := [.ref (ad 6 i34), .int v2]) (by first | (rw [e35]; done) | (rw [e35]; rfl)) ?_
        refine hp_alen (v := (4 : Int32)) hx hb hK hP h36 rfl rfl (by decide) dX3_poolOf_29 ?_
        refine lv_icmp_lt (tgt := 37) hx hb dX3_poolOf_30 (by decide) (fun c37 => ?_) (fun c37 => ?_)
        · have hf := if_t hf c37
          refine lv_aload_n hx hb dX3_poolOf_37 rfl (lv_at hl 0 rfl) ?_
          have h38 : ∀ j : Nat, (mR M0 4 i30 3) = some j → mA M0 6 j = true := fun j hj => hp_wf hP h31 hj
          refine gf4N (v := va_rf (((mR M0 4 i30 3)).map (ad 6))) hx hb hts hown hK hP h31 3 (by decide) (va_Nw.use rfl (hN.1 (RX3, 39, "ToteHouse$Race", "pools", "[LToteHouse$Pool;", RX3) (List.mem_of_getElem? (i := 2) rfl))) rfl rfl dX3_poolOf_38 ?_
          refine lv_iload_n hx hb dX3_poolOf_41 rfl (lv_at hl 3 rfl) ?_
          obtain ⟨i39, e40, hf⟩ := ob_some hf
          have h41 : mA M0 6 i39 = true := h38 i39 e40
          refine W_stk (st := [.int v2, va_rf (((mR M0 4 i30 3)).map (ad 6))]) (st' := [.int v2, .ref (ad 6 i39)]) (by first | (rw [e40]; done) | (rw [e40]; rfl)) ?_
          obtain ⟨h42, hf⟩ := ix_some hf
          have h43 : ∀ j : Nat, (mR M0 6 i39 (v2).toNatClampNeg) = some j → mA M0 7 j = true := fun j hj => hp_wf hP h41 hj
          refine hp_aald (an := 5) (t := 7) hx hb hK hP h41 rfl rfl h42 dX3_poolOf_42 ?_
          exact hp_aret (t0 := 7) (v := (mR M0 6 i39 (v2).toNatClampNeg)) hx hb hr hlocks h43 (Option.some.inj hf) rfl hP hS keep_rf dX3_poolOf_43
        · have hf := if_f hf c37
          refine lv_null hx hb dX3_poolOf_33 ?_
          refine lv_goto (tgt := 43) hx hb dX3_poolOf_34 (by decide) ?_
          exact hp_aret (t0 := 7) (v := (none : Option Nat)) hx hb hr hlocks (fun j hj => by cases hj) (Option.some.inj hf) rfl hP hS keep_rf dX3_poolOf_43
  · have hf := if_t hf c23
    refine lv_aload_n hx hb dX3_poolOf_5 rfl (lv_at hl 0 rfl) ?_
    have h44 : ∀ j : Nat, (mR M0 1 v0 3) = some j → mA M0 7 j = true := fun j hj => hp_wf hP a0 hj
    refine gf1 (v := va_rf (((mR M0 1 v0 3)).map (ad 7))) hx hb hts hown hK hP a0 3 (by decide) (hts _ q106) rfl rfl dX3_poolOf_6 ?_
    exact hp_aret (t0 := 7) (v := (mR M0 1 v0 3)) hx hb hr hlocks h44 (Option.some.inj hf) rfl hP hS keep_rf dX3_poolOf_9

def f_X3_ticketNumbered (v0 : Nat) (v1 : Int32) (M0 : Mm) : Option (Option Nat) :=
  if v1 < 0 then (some (none : Option Nat)) else (ob (mR M0 1 v0 1) fun i15 => if v1 < (600 : Int32) then (ob (mR M0 1 v0 1) fun i20 => ix v1 600 (some (mR M0 3 i20 (v1).toNatClampNeg))) else (some (none : Option Nat)))
set_option maxRecDepth 100000 in
set_option maxHeartbeats 4000000 in
theorem ok_X3_ticketNumbered (l : Launch) (D : va_G) (cy : Nat → ClassId) (ad : Nat → Nat → Nat) (M0 : Mm) (sz : Nat) (v0 : Nat) (v1 : Int32) (r0 : Option Nat) (a0 : mA M0 1 v0 = true) (hf : f_X3_ticketNumbered v0 v1 M0 = some r0) : Met l yX3_ticketNumbered (Cond.code yX3_ticketNumbered cX3_ticketNumbered 2 (some (.object "ToteHouse$Ticket")) :: BW) { frames := 0, cells := 0, slots := 0, locals := 0 } (va_Pc [.ref (ad 1 v0), .int v1] (PRE D cy ad M0 sz)) (QR D cy ad M0 sz 8 r0 M0) 0 0 (AA ad M0 sz) := by
  refine Met.ofW (cc := cX3_ticketNumbered) (maxL := 2) (ret := (some (.object "ToteHouse$Ticket"))) (by decide) rfl ?_
  intro p e s m args below meth c s₁ B hml hv
  obtain ⟨rfl, rfl, hP0, hK, hN⟩ := hv
  have hx := B.exec
  have hb := B.bytes
  have hr := B.returns
  have hts0 := atoms_spec (ws := (Cond.code yX3_ticketNumbered cX3_ticketNumbered 2 (some (.object "ToteHouse$Ticket")) :: BW)) B.pre
  have hts : ∀ w ∈ BW, w.before ([.ref (ad 1 v0), .int v1] : List Value).toArray s = true := fun w h => hts0 w (List.mem_cons_of_mem _ h)
  have hown : s.vm.findClass RX3 = some m.cls := findClass_of_methodNamed B.named
  have hlocks := B.notSynchronized
  have hA : ∀ q : Nat, s.heap.size ≤ q → AA ad M0 s.heap.size q := fun q h => Or.inr h
  have C : Cx RX3 cX3_ticketNumbered 2 (some (.object "ToteHouse$Ticket")) D cy (AA ad M0 s.heap.size) p s m ([.ref (ad 1 v0), .int v1] : List Value).toArray meth c := ⟨hx, hb, hr, hml, hown, hts, hlocks, hK, hN, hA⟩
  have hP := hp_self (sz := s.heap.size) hP0
  have hS : va_S (AA ad M0 s.heap.size) s.heap s.heap [] := va_S.rf
  have hl := lv_entry ([.ref (ad 1 v0), .int v1]) (n := 2) (Nat.le_of_ble_eq_true rfl)
  rw [lg_entry_eq]
  generalize (lg_sl ([.ref (ad 1 v0), .int v1]) ++ List.replicate (2 - (lg_sl ([.ref (ad 1 v0), .int v1])).length) Slot.unset).toArray = ls at hl ⊢
  have hl : lv_has ls 2 [(0, .ref (ad 1 v0)), (1, .int v1)] := hl
  unfold f_X3_ticketNumbered at hf
  refine lv_iload_n hx hb dX3_ticketNumbered_0 rfl (lv_at hl 1 rfl) ?_
  refine lv_if_lt (tgt := 13) hx hb dX3_ticketNumbered_1 (by decide) (fun c13 => ?_) (fun c13 => ?_)
  · have hf := if_t hf c13
    refine lv_null hx hb dX3_ticketNumbered_13 ?_
    refine lv_goto (tgt := 23) hx hb dX3_ticketNumbered_14 (by decide) ?_
    exact hp_aret (t0 := 8) (v := (none : Option Nat)) hx hb hr hlocks (fun j hj => by cases hj) (Option.some.inj hf) rfl hP hS keep_rf dX3_ticketNumbered_23
  · have hf := if_f hf c13
    refine lv_iload_n hx hb dX3_ticketNumbered_4 rfl (lv_at hl 1 rfl) ?_
    refine lv_aload_n hx hb dX3_ticketNumbered_5 rfl (lv_at hl 0 rfl) ?_
    have h14 : ∀ j : Nat, (mR M0 1 v0 1) = some j → mA M0 3 j = true := fun j hj => hp_wf hP a0 hj
    refine gf1 (v := va_rf (((mR M0 1 v0 1)).map (ad 3))) hx hb hts hown hK hP a0 1 (by decide) (hts _ q104) rfl rfl dX3_ticketNumbered_6 ?_
    obtain ⟨i15, e16, hf⟩ := ob_some hf
    have h17 : mA M0 3 i15 = true := h14 i15 e16
    refine W_stk (st := [va_rf (((mR M0 1 v0 1)).map (ad 3)), .int v1]) (st' := [.ref (ad 3 i15), .int v1]) (by first | (rw [e16]; done) | (rw [e16]; rfl)) ?_
    refine hp_alen (v := (600 : Int32)) hx hb hK hP h17 rfl rfl (by decide) dX3_ticketNumbered_9 ?_
    refine lv_icmp_lt (tgt := 17) hx hb dX3_ticketNumbered_10 (by decide) (fun c18 => ?_) (fun c18 => ?_)
    · have hf := if_t hf c18
      refine lv_aload_n hx hb dX3_ticketNumbered_17 rfl (lv_at hl 0 rfl) ?_
      have h19 : ∀ j : Nat, (mR M0 1 v0 1) = some j → mA M0 3 j = true := fun j hj => hp_wf hP a0 hj
      refine gf1 (v := va_rf (((mR M0 1 v0 1)).map (ad 3))) hx hb hts hown hK hP a0 1 (by decide) (hts _ q104) rfl rfl dX3_ticketNumbered_18 ?_
      refine lv_iload_n hx hb dX3_ticketNumbered_21 rfl (lv_at hl 1 rfl) ?_
      obtain ⟨i20, e21, hf⟩ := ob_some hf
      have h22 : mA M0 3 i20 = true := h19 i20 e21
      refine W_stk (st := [.int v1, va_rf (((mR M0 1 v0 1)).map (ad 3))]) (st' := [.int v1, .ref (ad 3 i20)]) (by first | (rw [e21]; done) | (rw [e21]; rfl)) ?_
      obtain ⟨h23, hf⟩ := ix_some hf
      have h24 : ∀ j : Nat, (mR M0 3 i20 (v1).toNatClampNeg) = some j → mA M0 8 j = true := fun j hj => hp_wf hP h22 hj
      refine hp_aald (an := 4) (t := 8) hx hb hK hP h22 rfl rfl h23 dX3_ticketNumbered_22 ?_
      exact hp_aret (t0 := 8) (v := (mR M0 3 i20 (v1).toNatClampNeg)) hx hb hr hlocks h24 (Option.some.inj hf) rfl hP hS keep_rf dX3_ticketNumbered_23
    · have hf := if_f hf c18
      refine lv_null hx hb dX3_ticketNumbered_13 ?_
      refine lv_goto (tgt := 23) hx hb dX3_ticketNumbered_14 (by decide) ?_
      exact hp_aret (t0 := 8) (v := (none : Option Nat)) hx hb hr hlocks (fun j hj => by cases hj) (Option.some.inj hf) rfl hP hS keep_rf dX3_ticketNumbered_23

def f_X3_cancel (v0 : Nat) (v1 : Int32) (M0 : Mm) : Option (Int32 × Mm) :=
  ob (f_X3_ticketNumbered v0 v1 M0) fun r23 => on r23 (some ((0 : Int32), M0)) fun i28 => if (mI M0 8 i28 6) = 0 then (ob (mR M0 8 i28 0) fun i32 => ob (f_X0_isOpen i32 M0) fun r36 => if r36 = 0 then (some ((0 : Int32), M0)) else (lt (sI M0 8 i28 6 (1 : Int32)) fun M40 => some ((1 : Int32), M40))) else (some ((0 : Int32), M0))
set_option maxRecDepth 100000 in
set_option maxHeartbeats 4000000 in
theorem ok_X3_cancel (l : Launch) (D : va_G) (cy : Nat → ClassId) (ad : Nat → Nat → Nat) (M0 : Mm) (sz : Nat) (v0 : Nat) (v1 : Int32) (r0 : Int32) (M' : Mm) (a0 : mA M0 1 v0 = true) (hf : f_X3_cancel v0 v1 M0 = some (r0, M')) : Met l yX3_cancel (Cond.code yX3_cancel cX3_cancel 3 (some .boolean) :: BW) { frames := 1, cells := 0, slots := 0, locals := 21 } (va_Pc [.ref (ad 1 v0), .int v1] (PRE D cy ad M0 sz)) (QI D cy ad M0 sz r0 M') 0 0 (AA ad M0 sz) := by
  refine Met.ofW (cc := cX3_cancel) (maxL := 3) (ret := (some .boolean)) (by decide) rfl ?_
  intro p e s m args below meth c s₁ B hml hv
  obtain ⟨rfl, rfl, hP0, hK, hN⟩ := hv
  have hx := B.exec
  have hb := B.bytes
  have hr := B.returns
  have hts0 := atoms_spec (ws := (Cond.code yX3_cancel cX3_cancel 3 (some .boolean) :: BW)) B.pre
  have hts : ∀ w ∈ BW, w.before ([.ref (ad 1 v0), .int v1] : List Value).toArray s = true := fun w h => hts0 w (List.mem_cons_of_mem _ h)
  have hown : s.vm.findClass RX3 = some m.cls := findClass_of_methodNamed B.named
  have hlocks := B.notSynchronized
  have hA : ∀ q : Nat, s.heap.size ≤ q → AA ad M0 s.heap.size q := fun q h => Or.inr h
  have C : Cx RX3 cX3_cancel 3 (some .boolean) D cy (AA ad M0 s.heap.size) p s m ([.ref (ad 1 v0), .int v1] : List Value).toArray meth c := ⟨hx, hb, hr, hml, hown, hts, hlocks, hK, hN, hA⟩
  have hP := hp_self (sz := s.heap.size) hP0
  have hS : va_S (AA ad M0 s.heap.size) s.heap s.heap [] := va_S.rf
  have hl := lv_entry ([.ref (ad 1 v0), .int v1]) (n := 3) (Nat.le_of_ble_eq_true rfl)
  rw [lg_entry_eq]
  generalize (lg_sl ([.ref (ad 1 v0), .int v1]) ++ List.replicate (3 - (lg_sl ([.ref (ad 1 v0), .int v1])).length) Slot.unset).toArray = ls at hl ⊢
  have hl : lv_has ls 3 [(0, .ref (ad 1 v0)), (1, .int v1)] := hl
  unfold f_X3_cancel at hf
  refine lv_aload_n hx hb dX3_cancel_0 rfl (lv_at hl 0 rfl) ?_
  refine lv_iload_n hx hb dX3_cancel_1 rfl (lv_at hl 1 rfl) ?_
  obtain ⟨r23, e22, hf⟩ := ob_some hf
  refine hp_callq (va_runV (As := [.int v1]) (rest := []) ⟨hx, hb, hml, hown, hts⟩ (ok_X3_ticketNumbered l D cy ad M0 _ v0 v1 r23 a0 e22) (cwV 1 hts (gdV q345 q347 q13 q85 q348) rfl rfl rfl (by decide +kernel) ⟨Nat.le_of_ble_eq_true rfl, Nat.le_of_ble_eq_true rfl⟩) (pre_V hP hK hN a0 ds_1 rfl) rfl rfl hl.1 rfl (lv_room (Nat.le_of_ble_eq_true rfl)) dX3_cancel_2 ⟨Nat.le_of_ble_eq_true rfl, Nat.le_of_ble_eq_true rfl⟩) hP hS hA (fun H locs hP hS _ h26 => ?_)
  refine hp_astore_n (r := (r23).map (ad 8)) (lv' := [(2, va_rf ((r23).map (ad 8))), (0, .ref (ad 1 v0)), (1, .int v1)]) hx hb dX3_cancel_5 rfl hl (by decide) rfl (fun ls hl => ?_)
  refine hp_aload_n (r := (r23).map (ad 8)) hx hb dX3_cancel_6 rfl (lv_at hl 0 rfl) ?_
  rcases on_c hf with ⟨e27, hf⟩ | ⟨i28, e27, hf⟩
  · refine W_top (y := .null) (by rw [e27]; rfl) ?_
    refine lv_ifnullN (tgt := 27) hx hb dX3_cancel_7 (by decide) ?_
    refine lv_iconst (v := (0 : Int32)) hx hb dX3_cancel_27 (by decide) ?_
    exact hp_zret hx hb hr hlocks (Or.inl rfl) (congrArg Prod.fst (Option.some.inj hf)) (congrArg Prod.snd (Option.some.inj hf)) hP hS keep_rf dX3_cancel_28
  · have h29 : mA M0 8 i28 = true := h26 i28 e27
    rw [e27] at hl
    have hl : lv_has ls 3 [(2, .ref (ad 8 i28)), (0, .ref (ad 1 v0)), (1, .int v1)] := hl
    refine W_stk (st := [va_rf ((r23).map (ad 8))]) (st' := [.ref (ad 8 i28)]) (by first | (rw [e27]; done) | (rw [e27]; rfl)) ?_
    refine lv_ifnull hx hb dX3_cancel_7 ?_
    refine lv_aload_n hx hb dX3_cancel_10 rfl (lv_at hl 0 rfl) ?_
    refine gf8N (v := .int (mI M0 8 i28 6)) hx hb hts hown hK hP h29 6 (by decide) (va_Nw.use rfl (hN.1 (RX3, 89, "ToteHouse$Ticket", "state", "I", RX3) (List.mem_of_getElem? (i := 30) rfl))) rfl rfl dX3_cancel_11 ?_
    refine lv_if_ne (tgt := 27) hx hb dX3_cancel_14 (by decide) (fun c30 => ?_) (fun c30 => ?_)
    · have hf := if_f hf c30
      refine lv_iconst (v := (0 : Int32)) hx hb dX3_cancel_27 (by decide) ?_
      exact hp_zret hx hb hr hlocks (Or.inl rfl) (congrArg Prod.fst (Option.some.inj hf)) (congrArg Prod.snd (Option.some.inj hf)) hP hS keep_rf dX3_cancel_28
    · have hf := if_t hf c30
      refine lv_aload_n hx hb dX3_cancel_17 rfl (lv_at hl 0 rfl) ?_
      have h31 : ∀ j : Nat, (mR M0 8 i28 0) = some j → mA M0 7 j = true := fun j hj => hp_wf hP h29 hj
      refine gf8N (v := va_rf (((mR M0 8 i28 0)).map (ad 7))) hx hb hts hown hK hP h29 0 (by decide) (va_Nw.use rfl (hN.1 (RX3, 90, "ToteHouse$Ticket", "pool", "LToteHouse$Pool;", RX3) (List.mem_of_getElem? (i := 20) rfl))) rfl rfl dX3_cancel_18 ?_
      obtain ⟨i32, e33, hf⟩ := ob_some hf
      have h34 : mA M0 7 i32 = true := h31 i32 e33
      refine W_stk (st := [va_rf (((mR M0 8 i28 0)).map (ad 7))]) (st' := [.ref (ad 7 i32)]) (by first | (rw [e33]; done) | (rw [e33]; rfl)) ?_
      obtain ⟨r36, e35, hf⟩ := ob_some hf
      refine hp_calli (va_runVN (As := []) (rest := []) ⟨hx, hb, hml, hown, hts⟩ (ok_X0_isOpen l D cy ad M0 _ i32 r36 h34 e35) ⟨va_cnB 0 hts (gd0 q274) rfl rfl rfl (hN.2.1 (RX3, 67, yX0_isOpen, RX3) (List.mem_of_getElem? (i := 4) rfl)) (hts _ q88) (by decide +kernel) ⟨Nat.le_of_ble_eq_true rfl, Nat.le_of_ble_eq_true rfl⟩, hts _ q273, hts _ q6⟩ (pre_V hP hK hN h34 ds_7 rfl) rfl rfl hl.1 rfl (lv_room (Nat.le_of_ble_eq_true rfl)) dX3_cancel_21 ⟨Nat.le_of_ble_eq_true rfl, Nat.le_of_ble_eq_true rfl⟩) hP hS hA (fun H locs hP hS _ => ?_)
      refine lv_if_ne (tgt := 29) hx hb dX3_cancel_24 (by decide) (fun c39 => ?_) (fun c39 => ?_)
      · have hf := if_f hf c39
        refine lv_aload_n hx hb dX3_cancel_29 rfl (lv_at hl 0 rfl) ?_
        refine lv_iconst (v := (1 : Int32)) hx hb dX3_cancel_30 (by decide) ?_
        obtain ⟨M40, e41, hf⟩ := lt_some hf
        have hk42 : Keep M0 M40 := keI e41
        refine pI8N (v := (1 : Int32)) hx hb hts hown hK hP hS h29 6 (by decide) (va_Nw.use rfl (hN.1 (RX3, 89, "ToteHouse$Ticket", "state", "I", RX3) (List.mem_of_getElem? (i := 30) rfl))) rfl rfl rfl e41 dX3_cancel_31 (fun H locs hP hS => ?_)
        refine lv_iconst (v := (1 : Int32)) hx hb dX3_cancel_34 (by decide) ?_
        exact hp_zret hx hb hr hlocks (Or.inr rfl) (congrArg Prod.fst (Option.some.inj hf)) (congrArg Prod.snd (Option.some.inj hf)) hP hS (kt keep_rf hk42) dX3_cancel_35
      · have hf := if_t hf c39
        refine lv_iconst (v := (0 : Int32)) hx hb dX3_cancel_27 (by decide) ?_
        exact hp_zret hx hb hr hlocks (Or.inl rfl) (congrArg Prod.fst (Option.some.inj hf)) (congrArg Prod.snd (Option.some.inj hf)) hP hS keep_rf dX3_cancel_28

def f_X3_ticket (v0 : Nat) (v1 : Int32) (v2 : Int32) (M0 : Mm) : Option Int32 :=
  ob (f_X3_ticketNumbered v0 v1 M0) fun r34 => on r34 (some (-1 : Int32)) fun i39 => if v2 = (0 : Int32) then (ob (mR M0 8 i39 0) fun i43 => if (mI M0 7 i43 0) = (4 : Int32) then (some (0 : Int32)) else (ob (mR M0 8 i39 0) fun i48 => ob (mR M0 7 i48 1) fun i52 => some (mI M0 4 i52 0))) else (if v2 = (1 : Int32) then (ob (mR M0 8 i39 0) fun i57 => some (mI M0 7 i57 0)) else (if v2 = (2 : Int32) then (some (mI M0 8 i39 3)) else (if v2 = (3 : Int32) then (some (mI M0 8 i39 4)) else (if v2 = (4 : Int32) then (some (mI M0 8 i39 5)) else (if v2 = (5 : Int32) then (some (mI M0 8 i39 2)) else (if v2 = (6 : Int32) then (some (mI M0 8 i39 6)) else (some (-1 : Int32))))))))
set_option maxRecDepth 100000 in
set_option maxHeartbeats 4000000 in
theorem ok_X3_ticket (l : Launch) (D : va_G) (cy : Nat → ClassId) (ad : Nat → Nat → Nat) (M0 : Mm) (sz : Nat) (v0 : Nat) (v1 : Int32) (v2 : Int32) (r0 : Int32) (a0 : mA M0 1 v0 = true) (hf : f_X3_ticket v0 v1 v2 M0 = some r0) : Met l yX3_ticket (Cond.code yX3_ticket cX3_ticket 4 (some .int) :: BW) { frames := 1, cells := 0, slots := 0, locals := 21 } (va_Pc [.ref (ad 1 v0), .int v1, .int v2] (PRE D cy ad M0 sz)) (QI D cy ad M0 sz r0 M0) 0 0 (AA ad M0 sz) := by
  refine Met.ofW (cc := cX3_ticket) (maxL := 4) (ret := (some .int)) (by decide) rfl ?_
  intro p e s m args below meth c s₁ B hml hv
  obtain ⟨rfl, rfl, hP0, hK, hN⟩ := hv
  have hx := B.exec
  have hb := B.bytes
  have hr := B.returns
  have hts0 := atoms_spec (ws := (Cond.code yX3_ticket cX3_ticket 4 (some .int) :: BW)) B.pre
  have hts : ∀ w ∈ BW, w.before ([.ref (ad 1 v0), .int v1, .int v2] : List Value).toArray s = true := fun w h => hts0 w (List.mem_cons_of_mem _ h)
  have hown : s.vm.findClass RX3 = some m.cls := findClass_of_methodNamed B.named
  have hlocks := B.notSynchronized
  have hA : ∀ q : Nat, s.heap.size ≤ q → AA ad M0 s.heap.size q := fun q h => Or.inr h
  have C : Cx RX3 cX3_ticket 4 (some .int) D cy (AA ad M0 s.heap.size) p s m ([.ref (ad 1 v0), .int v1, .int v2] : List Value).toArray meth c := ⟨hx, hb, hr, hml, hown, hts, hlocks, hK, hN, hA⟩
  have hP := hp_self (sz := s.heap.size) hP0
  have hS : va_S (AA ad M0 s.heap.size) s.heap s.heap [] := va_S.rf
  have hl := lv_entry ([.ref (ad 1 v0), .int v1, .int v2]) (n := 4) (Nat.le_of_ble_eq_true rfl)
  rw [lg_entry_eq]
  generalize (lg_sl ([.ref (ad 1 v0), .int v1, .int v2]) ++ List.replicate (4 - (lg_sl ([.ref (ad 1 v0), .int v1, .int v2])).length) Slot.unset).toArray = ls at hl ⊢
  have hl : lv_has ls 4 [(0, .ref (ad 1 v0)), (1, .int v1), (2, .int v2)] := hl
  unfold f_X3_ticket at hf
  refine lv_aload_n hx hb dX3_ticket_0 rfl (lv_at hl 0 rfl) ?_
  refine lv_iload_n hx hb dX3_ticket_1 rfl (lv_at hl 1 rfl) ?_
  obtain ⟨r34, e33, hf⟩ := ob_some hf
  refine hp_callq (va_runV (As := [.int v1]) (rest := []) ⟨hx, hb, hml, hown, hts⟩ (ok_X3_ticketNumbered l D cy ad M0 _ v0 v1 r34 a0 e33) (cwV 1 hts (gdV q345 q347 q13 q85 q348) rfl rfl rfl (by decide +kernel) ⟨Nat.le_of_ble_eq_true rfl, Nat.le_of_ble_eq_true rfl⟩) (pre_V hP hK hN a0 ds_1 rfl) rfl rfl hl.1 rfl (lv_room (Nat.le_of_ble_eq_true rfl)) dX3_ticket_2 ⟨Nat.le_of_ble_eq_true rfl, Nat.le_of_ble_eq_true rfl⟩) hP hS hA (fun H locs hP hS _ h37 => ?_)
  refine hp_astore_n (r := (r34).map (ad 8)) (lv' := [(3, va_rf ((r34).map (ad 8))), (0, .ref (ad 1 v0)), (1, .int v1), (2, .int v2)]) hx hb dX3_ticket_5 rfl hl (by decide) rfl (fun ls hl => ?_)
  refine hp_aload_n (r := (r34).map (ad 8)) hx hb dX3_ticket_6 rfl (lv_at hl 0 rfl) ?_
  rcases on_c hf with ⟨e38, hf⟩ | ⟨i39, e38, hf⟩
  · refine W_top (y := .null) (by rw [e38]; rfl) ?_
    refine lv_ifnonnullN hx hb dX3_ticket_7 ?_
    refine lv_iconst (v := (-1 : Int32)) hx hb dX3_ticket_10 (by decide) ?_
    exact hp_iret hx hb hr hlocks (Option.some.inj hf) rfl hP hS keep_rf dX3_ticket_11
  · have h40 : mA M0 8 i39 = true := h37 i39 e38
    rw [e38] at hl
    have hl : lv_has ls 4 [(3, .ref (ad 8 i39)), (0, .ref (ad 1 v0)), (1, .int v1), (2, .int v2)] := hl
    refine W_stk (st := [va_rf ((r34).map (ad 8))]) (st' := [.ref (ad 8 i39)]) (by first | (rw [e38]; done) | (rw [e38]; rfl)) ?_
    refine lv_ifnonnull (tgt := 12) hx hb dX3_ticket_7 (by decide) ?_
    refine lv_iload_n hx hb dX3_ticket_12 rfl (lv_at hl 3 rfl) ?_
    by_cases c41 : v2 = (0 : Int32)
    · have hf := if_t hf c41
      refine W_topI c41.symm ?_
      refine lv_tableIn (x := (0 : Int32)) (off := 43) (tgt := 56) hx hb dX3_ticket_13 (by decide) (by decide) (by decide) (by decide) ?_
      refine lv_aload_n hx hb dX3_ticket_56 rfl (lv_at hl 0 rfl) ?_
      have h42 : ∀ j : Nat, (mR M0 8 i39 0) = some j → mA M0 7 j = true := fun j hj => hp_wf hP h40 hj
      refine gf8N (v := va_rf (((mR M0 8 i39 0)).map (ad 7))) hx hb hts hown hK hP h40 0 (by decide) (va_Nw.use rfl (hN.1 (RX3, 90, "ToteHouse$Ticket", "pool", "LToteHouse$Pool;", RX3) (List.mem_of_getElem? (i := 20) rfl))) rfl rfl dX3_ticket_57 ?_
      obtain ⟨i43, e44, hf⟩ := ob_some hf
      have h45 : mA M0 7 i43 = true := h42 i43 e44
      refine W_stk (st := [va_rf (((mR M0 8 i39 0)).map (ad 7))]) (st' := [.ref (ad 7 i43)]) (by first | (rw [e44]; done) | (rw [e44]; rfl)) ?_
      refine gf7N (v := .int (mI M0 7 i43 0)) hx hb hts hown hK hP h45 0 (by decide) (va_Nw.use rfl (hN.1 (RX3, 93, "ToteHouse$Pool", "kind", "I", RX3) (List.mem_of_getElem? (i := 8) rfl))) rfl rfl dX3_ticket_60 ?_
      refine lv_iconst (v := (4 : Int32)) hx hb dX3_ticket_63 (by decide) ?_
      refine lv_icmp_ne (tgt := 71) hx hb dX3_ticket_64 (by decide) (fun c46 => ?_) (fun c46 => ?_)
      · have hf := if_f hf c46
        refine lv_aload_n hx hb dX3_ticket_71 rfl (lv_at hl 0 rfl) ?_
        have h47 : ∀ j : Nat, (mR M0 8 i39 0) = some j → mA M0 7 j = true := fun j hj => hp_wf hP h40 hj
        refine gf8N (v := va_rf (((mR M0 8 i39 0)).map (ad 7))) hx hb hts hown hK hP h40 0 (by decide) (va_Nw.use rfl (hN.1 (RX3, 90, "ToteHouse$Ticket", "pool", "LToteHouse$Pool;", RX3) (List.mem_of_getElem? (i := 20) rfl))) rfl rfl dX3_ticket_72 ?_
        obtain ⟨i48, e49, hf⟩ := ob_some hf
        have h50 : mA M0 7 i48 = true := h47 i48 e49
        refine W_stk (st := [va_rf (((mR M0 8 i39 0)).map (ad 7))]) (st' := [.ref (ad 7 i48)]) (by first | (rw [e49]; done) | (rw [e49]; rfl)) ?_
        have h51 : ∀ j : Nat, (mR M0 7 i48 1) = some j → mA M0 4 j = true := fun j hj => hp_wf hP h50 hj
        refine gf7N (v := va_rf (((mR M0 7 i48 1)).map (ad 4))) hx hb hts hown hK hP h50 1 (by decide) (va_Nw.use rfl (hN.1 (RX3, 96, "ToteHouse$Pool", "first", "LToteHouse$Race;", RX3) (List.mem_of_getElem? (i := 9) rfl))) rfl rfl dX3_ticket_75 ?_
        obtain ⟨i52, e53, hf⟩ := ob_some hf
        have h54 : mA M0 4 i52 = true := h51 i52 e53
        refine W_stk (st := [va_rf (((mR M0 7 i48 1)).map (ad 4))]) (st' := [.ref (ad 4 i52)]) (by first | (rw [e53]; done) | (rw [e53]; rfl)) ?_
        refine gf4N (v := .int (mI M0 4 i52 0)) hx hb hts hown hK hP h54 0 (by decide) (va_Nw.use rfl (hN.1 (RX3, 100, "ToteHouse$Race", "number", "I", RX3) (List.mem_of_getElem? (i := 0) rfl))) rfl rfl dX3_ticket_78 ?_
        exact hp_iret hx hb hr hlocks (Option.some.inj hf) rfl hP hS keep_rf dX3_ticket_81
      · have hf := if_t hf c46
        refine lv_iconst (v := (0 : Int32)) hx hb dX3_ticket_67 (by decide) ?_
        refine lv_goto (tgt := 81) hx hb dX3_ticket_68 (by decide) ?_
        exact hp_iret hx hb hr hlocks (Option.some.inj hf) rfl hP hS keep_rf dX3_ticket_81
    have hf := if_f hf c41
    by_cases c55 : v2 = (1 : Int32)
    · have hf := if_t hf c55
      refine W_topI c55.symm ?_
      refine lv_tableIn (x := (1 : Int32)) (off := 69) (tgt := 82) hx hb dX3_ticket_13 (by decide) (by decide) (by decide) (by decide) ?_
      refine lv_aload_n hx hb dX3_ticket_82 rfl (lv_at hl 0 rfl) ?_
      have h56 : ∀ j : Nat, (mR M0 8 i39 0) = some j → mA M0 7 j = true := fun j hj => hp_wf hP h40 hj
      refine gf8N (v := va_rf (((mR M0 8 i39 0)).map (ad 7))) hx hb hts hown hK hP h40 0 (by decide) (va_Nw.use rfl (hN.1 (RX3, 90, "ToteHouse$Ticket", "pool", "LToteHouse$Pool;", RX3) (List.mem_of_getElem? (i := 20) rfl))) rfl rfl dX3_ticket_83 ?_
      obtain ⟨i57, e58, hf⟩ := ob_some hf
      have h59 : mA M0 7 i57 = true := h56 i57 e58
      refine W_stk (st := [va_rf (((mR M0 8 i39 0)).map (ad 7))]) (st' := [.ref (ad 7 i57)]) (by first | (rw [e58]; done) | (rw [e58]; rfl)) ?_
      refine gf7N (v := .int (mI M0 7 i57 0)) hx hb hts hown hK hP h59 0 (by decide) (va_Nw.use rfl (hN.1 (RX3, 93, "ToteHouse$Pool", "kind", "I", RX3) (List.mem_of_getElem? (i := 8) rfl))) rfl rfl dX3_ticket_86 ?_
      exact hp_iret hx hb hr hlocks (Option.some.inj hf) rfl hP hS keep_rf dX3_ticket_89
    have hf := if_f hf c55
    by_cases c60 : v2 = (2 : Int32)
    · have hf := if_t hf c60
      refine W_topI c60.symm ?_
      refine lv_tableIn (x := (2 : Int32)) (off := 77) (tgt := 90) hx hb dX3_ticket_13 (by decide) (by decide) (by decide) (by decide) ?_
      refine lv_aload_n hx hb dX3_ticket_90 rfl (lv_at hl 0 rfl) ?_
      refine gf8N (v := .int (mI M0 8 i39 3)) hx hb hts hown hK hP h40 3 (by decide) (va_Nw.use rfl (hN.1 (RX3, 103, "ToteHouse$Ticket", "a", "I", RX3) (List.mem_of_getElem? (i := 24) rfl))) rfl rfl dX3_ticket_91 ?_
      exact hp_iret hx hb hr hlocks (Option.some.inj hf) rfl hP hS keep_rf dX3_ticket_94
    have hf := if_f hf c60
    by_cases c61 : v2 = (3 : Int32)
    · have hf := if_t hf c61
      refine W_topI c61.symm ?_
      refine lv_tableIn (x := (3 : Int32)) (off := 82) (tgt := 95) hx hb dX3_ticket_13 (by decide) (by decide) (by decide) (by decide) ?_
      refine lv_aload_n hx hb dX3_ticket_95 rfl (lv_at hl 0 rfl) ?_
      refine gf8N (v := .int (mI M0 8 i39 4)) hx hb hts hown hK hP h40 4 (by decide) (va_Nw.use rfl (hN.1 (RX3, 106, "ToteHouse$Ticket", "b", "I", RX3) (List.mem_of_getElem? (i := 26) rfl))) rfl rfl dX3_ticket_96 ?_
      exact hp_iret hx hb hr hlocks (Option.some.inj hf) rfl hP hS keep_rf dX3_ticket_99
    have hf := if_f hf c61
    by_cases c62 : v2 = (4 : Int32)
    · have hf := if_t hf c62
      refine W_topI c62.symm ?_
      refine lv_tableIn (x := (4 : Int32)) (off := 87) (tgt := 100) hx hb dX3_ticket_13 (by decide) (by decide) (by decide) (by decide) ?_
      refine lv_aload_n hx hb dX3_ticket_100 rfl (lv_at hl 0 rfl) ?_
      refine gf8N (v := .int (mI M0 8 i39 5)) hx hb hts hown hK hP h40 5 (by decide) (va_Nw.use rfl (hN.1 (RX3, 109, "ToteHouse$Ticket", "c", "I", RX3) (List.mem_of_getElem? (i := 28) rfl))) rfl rfl dX3_ticket_101 ?_
      exact hp_iret hx hb hr hlocks (Option.some.inj hf) rfl hP hS keep_rf dX3_ticket_104
    have hf := if_f hf c62
    by_cases c63 : v2 = (5 : Int32)
    · have hf := if_t hf c63
      refine W_topI c63.symm ?_
      refine lv_tableIn (x := (5 : Int32)) (off := 92) (tgt := 105) hx hb dX3_ticket_13 (by decide) (by decide) (by decide) (by decide) ?_
      refine lv_aload_n hx hb dX3_ticket_105 rfl (lv_at hl 0 rfl) ?_
      refine gf8N (v := .int (mI M0 8 i39 2)) hx hb hts hown hK hP h40 2 (by decide) (va_Nw.use rfl (hN.1 (RX3, 112, "ToteHouse$Ticket", "units", "I", RX3) (List.mem_of_getElem? (i := 22) rfl))) rfl rfl dX3_ticket_106 ?_
      exact hp_iret hx hb hr hlocks (Option.some.inj hf) rfl hP hS keep_rf dX3_ticket_109
    have hf := if_f hf c63
    by_cases c64 : v2 = (6 : Int32)
    · have hf := if_t hf c64
      refine W_topI c64.symm ?_
      refine lv_tableIn (x := (6 : Int32)) (off := 97) (tgt := 110) hx hb dX3_ticket_13 (by decide) (by decide) (by decide) (by decide) ?_
      refine lv_aload_n hx hb dX3_ticket_110 rfl (lv_at hl 0 rfl) ?_
      refine gf8N (v := .int (mI M0 8 i39 6)) hx hb hts hown hK hP h40 6 (by decide) (va_Nw.use rfl (hN.1 (RX3, 89, "ToteHouse$Ticket", "state", "I", RX3) (List.mem_of_getElem? (i := 30) rfl))) rfl rfl dX3_ticket_111 ?_
      exact hp_iret hx hb hr hlocks (Option.some.inj hf) rfl hP hS keep_rf dX3_ticket_114
    have hf := if_f hf c64
    have hsw : ∀ n : Nat, (n : Int) ≤ (6) - (0) → ¬ v2 = Int32.ofInt ((0) + (n : Int)) := by
      intro n hn
      have hn2 : n = 0 ∨ n = 1 ∨ n = 2 ∨ n = 3 ∨ n = 4 ∨ n = 5 ∨ n = 6 := by omega
      rcases hn2 with rfl | rfl | rfl | rfl | rfl | rfl | rfl
      · exact fun z => c41 (z.trans (by decide))
      · exact fun z => c55 (z.trans (by decide))
      · exact fun z => c60 (z.trans (by decide))
      · exact fun z => c61 (z.trans (by decide))
      · exact fun z => c62 (z.trans (by decide))
      · exact fun z => c63 (z.trans (by decide))
      · exact fun z => c64 (z.trans (by decide))
    refine lv_tableOut (tgt := 115) hx hb dX3_ticket_13 (sw_out hsw) (by decide) ?_
    refine lv_iconst (v := (-1 : Int32)) hx hb dX3_ticket_115 (by decide) ?_
    exact hp_iret hx hb hr hlocks (Option.some.inj hf) rfl hP hS keep_rf dX3_ticket_116

def f_X3_units (v0 : Nat) (v1 : Int32) (v2 : Int32) (v3 : Int32) (v4 : Int32) (v5 : Int32) (M0 : Mm) : Option Int32 :=
  ob (f_X3_poolOf v0 v1 v2 M0) fun r19 => on r19 (some (-1 : Int32)) fun i24 => ob (f_X0_canBeNamed i24 v3 v4 v5 M0) fun r27 => if r27 = 0 then (some (-1 : Int32)) else (ob (f_X0_unitsOn i24 v3 v4 v5 M0) fun r32 => some ((r32).toInt32))
set_option maxRecDepth 100000 in
set_option maxHeartbeats 4000000 in
theorem ok_X3_units (l : Launch) (D : va_G) (cy : Nat → ClassId) (ad : Nat → Nat → Nat) (M0 : Mm) (sz : Nat) (v0 : Nat) (v1 : Int32) (v2 : Int32) (v3 : Int32) (v4 : Int32) (v5 : Int32) (r0 : Int32) (a0 : mA M0 1 v0 = true) (hf : f_X3_units v0 v1 v2 v3 v4 v5 M0 = some r0) : Met l yX3_units (Cond.code yX3_units cX3_units 7 (some .int) :: BW) { frames := 3, cells := 0, slots := 0, locals := 67 } (va_Pc [.ref (ad 1 v0), .int v1, .int v2, .int v3, .int v4, .int v5] (PRE D cy ad M0 sz)) (QI D cy ad M0 sz r0 M0) 0 0 (AA ad M0 sz) := by
  refine Met.ofW (cc := cX3_units) (maxL := 7) (ret := (some .int)) (by decide) rfl ?_
  intro p e s m args below meth c s₁ B hml hv
  obtain ⟨rfl, rfl, hP0, hK, hN⟩ := hv
  have hx := B.exec
  have hb := B.bytes
  have hr := B.returns
  have hts0 := atoms_spec (ws := (Cond.code yX3_units cX3_units 7 (some .int) :: BW)) B.pre
  have hts : ∀ w ∈ BW, w.before ([.ref (ad 1 v0), .int v1, .int v2, .int v3, .int v4, .int v5] : List Value).toArray s = true := fun w h => hts0 w (List.mem_cons_of_mem _ h)
  have hown : s.vm.findClass RX3 = some m.cls := findClass_of_methodNamed B.named
  have hlocks := B.notSynchronized
  have hA : ∀ q : Nat, s.heap.size ≤ q → AA ad M0 s.heap.size q := fun q h => Or.inr h
  have C : Cx RX3 cX3_units 7 (some .int) D cy (AA ad M0 s.heap.size) p s m ([.ref (ad 1 v0), .int v1, .int v2, .int v3, .int v4, .int v5] : List Value).toArray meth c := ⟨hx, hb, hr, hml, hown, hts, hlocks, hK, hN, hA⟩
  have hP := hp_self (sz := s.heap.size) hP0
  have hS : va_S (AA ad M0 s.heap.size) s.heap s.heap [] := va_S.rf
  have hl := lv_entry ([.ref (ad 1 v0), .int v1, .int v2, .int v3, .int v4, .int v5]) (n := 7) (Nat.le_of_ble_eq_true rfl)
  rw [lg_entry_eq]
  generalize (lg_sl ([.ref (ad 1 v0), .int v1, .int v2, .int v3, .int v4, .int v5]) ++ List.replicate (7 - (lg_sl ([.ref (ad 1 v0), .int v1, .int v2, .int v3, .int v4, .int v5])).length) Slot.unset).toArray = ls at hl ⊢
  have hl : lv_has ls 7 [(0, .ref (ad 1 v0)), (1, .int v1), (2, .int v2), (3, .int v3), (4, .int v4), (5, .int v5)] := hl
  unfold f_X3_units at hf
  refine lv_aload_n hx hb dX3_units_0 rfl (lv_at hl 0 rfl) ?_
  refine lv_iload_n hx hb dX3_units_1 rfl (lv_at hl 1 rfl) ?_
  refine lv_iload_n hx hb dX3_units_2 rfl (lv_at hl 2 rfl) ?_
  obtain ⟨r19, e18, hf⟩ := ob_some hf
  refine hp_callq (va_runV (As := [.int v1, .int v2]) (rest := []) ⟨hx, hb, hml, hown, hts⟩ (ok_X3_poolOf l D cy ad M0 _ v0 v1 v2 r19 a0 e18) (cwV 2 hts (gdV q267 q269 q5 q85 q270) rfl rfl rfl (by decide +kernel) ⟨Nat.le_of_ble_eq_true rfl, Nat.le_of_ble_eq_true rfl⟩) (pre_V hP hK hN a0 ds_1 rfl) rfl rfl hl.1 rfl (lv_room (Nat.le_of_ble_eq_true rfl)) dX3_units_3 ⟨Nat.le_of_ble_eq_true rfl, Nat.le_of_ble_eq_true rfl⟩) hP hS hA (fun H locs hP hS _ h22 => ?_)
  refine hp_astore (r := (r19).map (ad 7)) (lv' := [(6, va_rf ((r19).map (ad 7))), (0, .ref (ad 1 v0)), (1, .int v1), (2, .int v2), (3, .int v3), (4, .int v4), (5, .int v5)]) hx hb dX3_units_6 hl (by decide) rfl (fun ls hl => ?_)
  refine hp_aload (r := (r19).map (ad 7)) hx hb dX3_units_8 (lv_at hl 0 rfl) ?_
  rcases on_c hf with ⟨e23, hf⟩ | ⟨i24, e23, hf⟩
  · refine W_top (y := .null) (by rw [e23]; rfl) ?_
    refine lv_ifnullN (tgt := 26) hx hb dX3_units_10 (by decide) ?_
    refine lv_iconst (v := (-1 : Int32)) hx hb dX3_units_26 (by decide) ?_
    exact hp_iret hx hb hr hlocks (Option.some.inj hf) rfl hP hS keep_rf dX3_units_27
  · have h25 : mA M0 7 i24 = true := h22 i24 e23
    rw [e23] at hl
    have hl : lv_has ls 7 [(6, .ref (ad 7 i24)), (0, .ref (ad 1 v0)), (1, .int v1), (2, .int v2), (3, .int v3), (4, .int v4), (5, .int v5)] := hl
    refine W_stk (st := [va_rf ((r19).map (ad 7))]) (st' := [.ref (ad 7 i24)]) (by first | (rw [e23]; done) | (rw [e23]; rfl)) ?_
    refine lv_ifnull hx hb dX3_units_10 ?_
    refine lv_aload hx hb dX3_units_13 (lv_at hl 0 rfl) ?_
    refine lv_iload_n hx hb dX3_units_15 rfl (lv_at hl 4 rfl) ?_
    refine lv_iload hx hb dX3_units_16 (lv_at hl 5 rfl) ?_
    refine lv_iload hx hb dX3_units_18 (lv_at hl 6 rfl) ?_
    obtain ⟨r27, e26, hf⟩ := ob_some hf
    refine hp_calli (va_runVN (As := [.int v3, .int v4, .int v5]) (rest := []) ⟨hx, hb, hml, hown, hts⟩ (ok_X0_canBeNamed l D cy ad M0 _ i24 v3 v4 v5 r27 h25 e26) ⟨va_cnB 3 hts (gd0 q360) rfl rfl rfl (hN.2.1 (RX3, 115, yX0_canBeNamed, RX3) (List.mem_of_getElem? (i := 12) rfl)) (hts _ q88) (by decide +kernel) ⟨Nat.le_of_ble_eq_true rfl, Nat.le_of_ble_eq_true rfl⟩, hts _ q359, hts _ q14⟩ (pre_V hP hK hN h25 ds_7 rfl) rfl rfl hl.1 rfl (lv_room (Nat.le_of_ble_eq_true rfl)) dX3_units_20 ⟨Nat.le_of_ble_eq_true rfl, Nat.le_of_ble_eq_true rfl⟩) hP hS hA (fun H locs hP hS _ => ?_)
    refine lv_if_ne (tgt := 28) hx hb dX3_units_23 (by decide) (fun c30 => ?_) (fun c30 => ?_)
    · have hf := if_f hf c30
      refine lv_aload hx hb dX3_units_28 (lv_at hl 0 rfl) ?_
      refine lv_iload_n hx hb dX3_units_30 rfl (lv_at hl 4 rfl) ?_
      refine lv_iload hx hb dX3_units_31 (lv_at hl 5 rfl) ?_
      refine lv_iload hx hb dX3_units_33 (lv_at hl 6 rfl) ?_
      obtain ⟨r32, e31, hf⟩ := ob_some hf
      refine hp_calll (va_runVN (As := [.int v3, .int v4, .int v5]) (rest := []) ⟨hx, hb, hml, hown, hts⟩ (ok_X0_unitsOn l D cy ad M0 _ i24 v3 v4 v5 r32 h25 e31) ⟨va_cnB 3 hts (gd0 q366) rfl rfl rfl (hN.2.1 (RX3, 118, yX0_unitsOn, RX3) (List.mem_of_getElem? (i := 13) rfl)) (hts _ q88) (by decide +kernel) ⟨Nat.le_of_ble_eq_true rfl, Nat.le_of_ble_eq_true rfl⟩, hts _ q365, hts _ q15⟩ (pre_V hP hK hN h25 ds_7 rfl) rfl rfl hl.1 rfl (lv_room (Nat.le_of_ble_eq_true rfl)) dX3_units_35 ⟨Nat.le_of_ble_eq_true rfl, Nat.le_of_ble_eq_true rfl⟩) hP hS hA (fun H locs hP hS _ => ?_)
      refine lv_l2i hx hb dX3_units_38 rfl ?_
      exact hp_iret hx hb hr hlocks (Option.some.inj hf) rfl hP hS keep_rf dX3_units_39
    · have hf := if_t hf c30
      refine lv_iconst (v := (-1 : Int32)) hx hb dX3_units_26 (by decide) ?_
      exact hp_iret hx hb hr hlocks (Option.some.inj hf) rfl hP hS keep_rf dX3_units_27
def f_X3_ticketsThatAre_5 (M0 : Mm) : Nat → Nat → Int32 → Int64 → Int32 → Option Int64
  | 0, _, _, _, _ => none
  | n + 1, v0, v1, v2, v4 => if (mI M0 1 v0 2) ≤ v4 then (some v2) else (ob (f_X3_ticketNumbered v0 v4 M0) fun r21 => on r21 (lt (v4 + (1 : Int32)) fun x28 => f_X3_ticketsThatAre_5 M0 n v0 v1 v2 x28) fun i26 => if (mI M0 8 i26 6) = v1 then (lt (v2 + (1 : Int64)) fun x33 => lt (v4 + (1 : Int32)) fun x35 => f_X3_ticketsThatAre_5 M0 n v0 v1 x33 x35) else (lt (v4 + (1 : Int32)) fun x31 => f_X3_ticketsThatAre_5 M0 n v0 v1 v2 x31))
def f_X3_ticketsThatAre (v0 : Nat) (v1 : Int32) (M0 : Mm) : Option Int64 :=
  f_X3_ticketsThatAre_5 M0 FU v0 v1 (0 : Int64) (0 : Int32)
set_option maxRecDepth 100000 in
set_option maxHeartbeats 4000000 in
theorem t_X3_ticketsThatAre_5 {p : Program} {l : Launch} {e : Env} {s : State} {m : MethodId} {args : Array Value} {below : List Frame} {meth : Method} {c : Code} {D : va_G} {cy : Nat → ClassId} {ad : Nat → Nat → Nat} {M0 : Mm} {r0 : Int64} (C : Cx RX3 cX3_ticketsThatAre 6 (some .long) D cy (AA ad M0 s.heap.size) p s m args meth c) : ∀ (n : Nat), ∀ (v0 : Nat) (v1 : Int32) (v2 : Int64) (v4 : Int32) (H : Heap) (locs : List Loc) (ls : Array Slot), (mA M0 1 v0 = true) → f_X3_ticketsThatAre_5 M0 n v0 v1 v2 v4 = some r0 → HP D cy (AA ad M0 s.heap.size) ad M0 H → va_S (AA ad M0 s.heap.size) s.heap H locs → lv_has ls 6 [(0, .ref (ad 1 v0)), (1, .int v1), (2, .long v2), (4, .int v4)] → W p l e { frames := 1, cells := 0, slots := 0, locals := 21 } s m args below meth c H locs 0 0 (MQ below (QJ D cy ad M0 s.heap.size r0 M0) args s 0 0 (AA ad M0 s.heap.size)) (F0 m 5 ls []) := by
  obtain ⟨hx, hb, hr, hml, hown, hts, hlocks, hK, hN, hA⟩ := id C
  intro n
  induction n with
  | zero =>
    intro v0 v1 v2 v4 H locs ls a0 hf hP hS hl
    simp [f_X3_ticketsThatAre_5] at hf
  | succ n ih =>
    intro v0 v1 v2 v4 H locs ls a0 hf hP hS hl
    rw [f_X3_ticketsThatAre_5] at hf
    refine lv_iload hx hb dX3_ticketsThatAre_5 (lv_at hl 3 rfl) ?_
    refine lv_aload_n hx hb dX3_ticketsThatAre_7 rfl (lv_at hl 0 rfl) ?_
    refine gf1 (v := .int (mI M0 1 v0 2)) hx hb hts hown hK hP a0 2 (by decide) (hts _ q105) rfl rfl dX3_ticketsThatAre_8 ?_
    refine lv_icmp_ge (tgt := 46) hx hb dX3_ticketsThatAre_11 (by decide) (fun c19 => ?_) (fun c19 => ?_)
    · have hf := if_t hf c19
      refine lv_lload_n hx hb dX3_ticketsThatAre_46 rfl (lv_at hl 2 rfl) ?_
      exact hp_lret hx hb hr hlocks (Option.some.inj hf) rfl hP hS keep_rf dX3_ticketsThatAre_47
    · have hf := if_f hf c19
      refine lv_aload_n hx hb dX3_ticketsThatAre_14 rfl (lv_at hl 0 rfl) ?_
      refine lv_iload hx hb dX3_ticketsThatAre_15 (lv_at hl 3 rfl) ?_
      obtain ⟨r21, e20, hf⟩ := ob_some hf
      refine hp_callq (va_runV (As := [.int v4]) (rest := []) ⟨hx, hb, hml, hown, hts⟩ (ok_X3_ticketNumbered l D cy ad M0 _ v0 v4 r21 a0 e20) (cwV 1 hts (gdV q345 q347 q13 q85 q348) rfl rfl rfl (by decide +kernel) ⟨Nat.le_of_ble_eq_true rfl, Nat.le_of_ble_eq_true rfl⟩) (pre_V hP hK hN a0 ds_1 rfl) rfl rfl hl.1 rfl (lv_room (Nat.le_of_ble_eq_true rfl)) dX3_ticketsThatAre_17 ⟨Nat.le_of_ble_eq_true rfl, Nat.le_of_ble_eq_true rfl⟩) hP hS hA (fun H locs hP hS _ h24 => ?_)
      refine hp_astore (r := (r21).map (ad 8)) (lv' := [(5, va_rf ((r21).map (ad 8))), (0, .ref (ad 1 v0)), (1, .int v1), (2, .long v2), (4, .int v4)]) hx hb dX3_ticketsThatAre_20 hl (by decide) rfl (fun ls hl => ?_)
      refine hp_aload (r := (r21).map (ad 8)) hx hb dX3_ticketsThatAre_22 (lv_at hl 0 rfl) ?_
      rcases on_c hf with ⟨e25, hf⟩ | ⟨i26, e25, hf⟩
      · refine W_top (y := .null) (by rw [e25]; rfl) ?_
        refine lv_ifnullN (tgt := 40) hx hb dX3_ticketsThatAre_24 (by decide) ?_
        obtain ⟨x28, e29, hf⟩ := lt_some hf
        refine lv_iinc (v := x28) (lv' := [(4, .int x28), (5, va_rf ((r21).map (ad 8))), (0, .ref (ad 1 v0)), (1, .int v1), (2, .long v2)]) hx hb dX3_ticketsThatAre_40 hl (k := 4) rfl (by rw [e29]; rfl) (by decide) rfl (fun ls hl => ?_)
        refine lv_goto (tgt := 5) hx hb dX3_ticketsThatAre_43 (by decide) ?_
        exact ih v0 v1 v2 x28 _ _ _ a0 hf hP hS (lv_sub hl [2, 3, 4, 0] rfl)
      · have h27 : mA M0 8 i26 = true := h24 i26 e25
        rw [e25] at hl
        have hl : lv_has ls 6 [(5, .ref (ad 8 i26)), (0, .ref (ad 1 v0)), (1, .int v1), (2, .long v2), (4, .int v4)] := hl
        refine W_stk (st := [va_rf ((r21).map (ad 8))]) (st' := [.ref (ad 8 i26)]) (by first | (rw [e25]; done) | (rw [e25]; rfl)) ?_
        refine lv_ifnull hx hb dX3_ticketsThatAre_24 ?_
        refine lv_aload hx hb dX3_ticketsThatAre_27 (lv_at hl 0 rfl) ?_
        refine gf8N (v := .int (mI M0 8 i26 6)) hx hb hts hown hK hP h27 6 (by decide) (va_Nw.use rfl (hN.1 (RX3, 89, "ToteHouse$Ticket", "state", "I", RX3) (List.mem_of_getElem? (i := 30) rfl))) rfl rfl dX3_ticketsThatAre_29 ?_
        refine lv_iload_n hx hb dX3_ticketsThatAre_32 rfl (lv_at hl 2 rfl) ?_
        refine lv_icmp_ne (tgt := 40) hx hb dX3_ticketsThatAre_33 (by decide) (fun c30 => ?_) (fun c30 => ?_)
        · have hf := if_f hf c30
          obtain ⟨x31, e32, hf⟩ := lt_some hf
          refine lv_iinc (v := x31) (lv' := [(4, .int x31), (5, .ref (ad 8 i26)), (0, .ref (ad 1 v0)), (1, .int v1), (2, .long v2)]) hx hb dX3_ticketsThatAre_40 hl (k := 4) rfl (by rw [e32]; rfl) (by decide) rfl (fun ls hl => ?_)
          refine lv_goto (tgt := 5) hx hb dX3_ticketsThatAre_43 (by decide) ?_
          exact ih v0 v1 v2 x31 _ _ _ a0 hf hP hS (lv_sub hl [2, 3, 4, 0] rfl)
        · have hf := if_t hf c30
          refine lv_lload_n hx hb dX3_ticketsThatAre_36 rfl (lv_at hl 3 rfl) ?_
          refine lv_lconst (v := (1 : Int64)) hx hb dX3_ticketsThatAre_37 (by decide) ?_
          refine lv_ladd hx hb dX3_ticketsThatAre_38 ?_
          obtain ⟨x33, e34, hf⟩ := lt_some hf
          refine W_topJ e34 ?_
          refine lv_lstore_n (lv' := [(2, .long x33), (5, .ref (ad 8 i26)), (0, .ref (ad 1 v0)), (1, .int v1), (4, .int v4)]) hx hb dX3_ticketsThatAre_39 rfl hl (by decide) rfl (fun ls hl => ?_)
          obtain ⟨x35, e36, hf⟩ := lt_some hf
          refine lv_iinc (v := x35) (lv' := [(4, .int x35), (2, .long x33), (5, .ref (ad 8 i26)), (0, .ref (ad 1 v0)), (1, .int v1)]) hx hb dX3_ticketsThatAre_40 hl (k := 4) rfl (by rw [e36]; rfl) (by decide) rfl (fun ls hl => ?_)
          refine lv_goto (tgt := 5) hx hb dX3_ticketsThatAre_43 (by decide) ?_
          exact ih v0 v1 x33 x35 _ _ _ a0 hf hP hS (lv_sub hl [3, 4, 1, 0] rfl)
set_option maxRecDepth 100000 in
set_option maxHeartbeats 4000000 in
theorem ok_X3_ticketsThatAre (l : Launch) (D : va_G) (cy : Nat → ClassId) (ad : Nat → Nat → Nat) (M0 : Mm) (sz : Nat) (v0 : Nat) (v1 : Int32) (r0 : Int64) (a0 : mA M0 1 v0 = true) (hf : f_X3_ticketsThatAre v0 v1 M0 = some r0) : Met l yX3_ticketsThatAre (Cond.code yX3_ticketsThatAre cX3_ticketsThatAre 6 (some .long) :: BW) { frames := 1, cells := 0, slots := 0, locals := 21 } (va_Pc [.ref (ad 1 v0), .int v1] (PRE D cy ad M0 sz)) (QJ D cy ad M0 sz r0 M0) 0 0 (AA ad M0 sz) := by
  refine Met.ofW (cc := cX3_ticketsThatAre) (maxL := 6) (ret := (some .long)) (by decide) rfl ?_
  intro p e s m args below meth c s₁ B hml hv
  obtain ⟨rfl, rfl, hP0, hK, hN⟩ := hv
  have hx := B.exec
  have hb := B.bytes
  have hr := B.returns
  have hts0 := atoms_spec (ws := (Cond.code yX3_ticketsThatAre cX3_ticketsThatAre 6 (some .long) :: BW)) B.pre
  have hts : ∀ w ∈ BW, w.before ([.ref (ad 1 v0), .int v1] : List Value).toArray s = true := fun w h => hts0 w (List.mem_cons_of_mem _ h)
  have hown : s.vm.findClass RX3 = some m.cls := findClass_of_methodNamed B.named
  have hlocks := B.notSynchronized
  have hA : ∀ q : Nat, s.heap.size ≤ q → AA ad M0 s.heap.size q := fun q h => Or.inr h
  have C : Cx RX3 cX3_ticketsThatAre 6 (some .long) D cy (AA ad M0 s.heap.size) p s m ([.ref (ad 1 v0), .int v1] : List Value).toArray meth c := ⟨hx, hb, hr, hml, hown, hts, hlocks, hK, hN, hA⟩
  have hP := hp_self (sz := s.heap.size) hP0
  have hS : va_S (AA ad M0 s.heap.size) s.heap s.heap [] := va_S.rf
  have hl := lv_entry ([.ref (ad 1 v0), .int v1]) (n := 6) (Nat.le_of_ble_eq_true rfl)
  rw [lg_entry_eq]
  generalize (lg_sl ([.ref (ad 1 v0), .int v1]) ++ List.replicate (6 - (lg_sl ([.ref (ad 1 v0), .int v1])).length) Slot.unset).toArray = ls at hl ⊢
  have hl : lv_has ls 6 [(0, .ref (ad 1 v0)), (1, .int v1)] := hl
  unfold f_X3_ticketsThatAre at hf
  refine lv_lconst (v := (0 : Int64)) hx hb dX3_ticketsThatAre_0 (by decide) ?_
  refine lv_lstore_n (lv' := [(2, .long (0 : Int64)), (0, .ref (ad 1 v0)), (1, .int v1)]) hx hb dX3_ticketsThatAre_1 rfl hl (by decide) rfl (fun ls hl => ?_)
  refine lv_iconst (v := (0 : Int32)) hx hb dX3_ticketsThatAre_2 (by decide) ?_
  refine lv_istore (lv' := [(4, .int (0 : Int32)), (2, .long (0 : Int64)), (0, .ref (ad 1 v0)), (1, .int v1)]) hx hb dX3_ticketsThatAre_3 hl (by decide) rfl (fun ls hl => ?_)
  exact t_X3_ticketsThatAre_5 C FU v0 v1 (0 : Int64) (0 : Int32) _ _ _ a0 hf hP hS (lv_sub hl [2, 3, 1, 0] rfl)
def f_X3_centsThatWentBack_42 (M0 : Mm) (k4 : Nat → Int64 → Int32 → Option Int64) (v0 : Nat) (v1 : Int64) (v3 : Int32) (v4 : Nat) : Option Int64 :=
  ob (f_X2_cost v4 M0) fun r37 => lt (v1 + r37) fun x40 => lt (v3 + (1 : Int32)) fun x42 => k4 v0 x40 x42
def f_X3_centsThatWentBack_4 (M0 : Mm) : Nat → Nat → Int64 → Int32 → Option Int64
  | 0, _, _, _ => none
  | n + 1, v0, v1, v3 => if (mI M0 1 v0 2) ≤ v3 then (some v1) else (ob (f_X3_ticketNumbered v0 v3 M0) fun r26 => on r26 (lt (v3 + (1 : Int32)) fun x33 => f_X3_centsThatWentBack_4 M0 n v0 v1 x33) fun i31 => if (mI M0 8 i31 6) = (1 : Int32) then (f_X3_centsThatWentBack_42 M0 (f_X3_centsThatWentBack_4 M0 n) v0 v1 v3 i31) else (if (mI M0 8 i31 6) = (2 : Int32) then (f_X3_centsThatWentBack_42 M0 (f_X3_centsThatWentBack_4 M0 n) v0 v1 v3 i31) else (lt (v3 + (1 : Int32)) fun x45 => f_X3_centsThatWentBack_4 M0 n v0 v1 x45)))
def f_X3_centsThatWentBack (v0 : Nat) (M0 : Mm) : Option Int64 :=
  f_X3_centsThatWentBack_4 M0 FU v0 (0 : Int64) (0 : Int32)
set_option maxRecDepth 100000 in
set_option maxHeartbeats 4000000 in
theorem t_X3_centsThatWentBack_42 {p : Program} {l : Launch} {e : Env} {s : State} {m : MethodId} {args : Array Value} {below : List Frame} {meth : Method} {c : Code} {D : va_G} {cy : Nat → ClassId} {ad : Nat → Nat → Nat} {M0 : Mm} {r0 : Int64} (C : Cx RX3 cX3_centsThatWentBack 5 (some .long) D cy (AA ad M0 s.heap.size) p s m args meth c) (k4 : Nat → Int64 → Int32 → Option Int64) (hk4 : ∀ (v0 : Nat) (v1 : Int64) (v3 : Int32) (H : Heap) (locs : List Loc) (ls : Array Slot), (mA M0 1 v0 = true) → k4 v0 v1 v3 = some r0 → HP D cy (AA ad M0 s.heap.size) ad M0 H → va_S (AA ad M0 s.heap.size) s.heap H locs → lv_has ls 5 [(0, .ref (ad 1 v0)), (1, .long v1), (3, .int v3)] → W p l e { frames := 1, cells := 0, slots := 0, locals := 21 } s m args below meth c H locs 0 0 (MQ below (QJ D cy ad M0 s.heap.size r0 M0) args s 0 0 (AA ad M0 s.heap.size)) (F0 m 4 ls [])) : ∀ (v0 : Nat) (v1 : Int64) (v3 : Int32) (v4 : Nat) (H : Heap) (locs : List Loc) (ls : Array Slot), (mA M0 1 v0 = true) → (mA M0 8 v4 = true) → f_X3_centsThatWentBack_42 M0 k4 v0 v1 v3 v4 = some r0 → HP D cy (AA ad M0 s.heap.size) ad M0 H → va_S (AA ad M0 s.heap.size) s.heap H locs → lv_has ls 5 [(0, .ref (ad 1 v0)), (1, .long v1), (3, .int v3), (4, .ref (ad 8 v4))] → W p l e { frames := 1, cells := 0, slots := 0, locals := 21 } s m args below meth c H locs 0 0 (MQ below (QJ D cy ad M0 s.heap.size r0 M0) args s 0 0 (AA ad M0 s.heap.size)) (F0 m 42 ls []) := by
  obtain ⟨hx, hb, hr, hml, hown, hts, hlocks, hK, hN, hA⟩ := id C
  intro v0 v1 v3 v4 H locs ls a0 a4 hf hP hS hl
  unfold f_X3_centsThatWentBack_42 at hf
  refine lv_lload_n hx hb dX3_centsThatWentBack_42 rfl (lv_at hl 1 rfl) ?_
  refine lv_aload hx hb dX3_centsThatWentBack_43 (lv_at hl 3 rfl) ?_
  obtain ⟨r37, e36, hf⟩ := ob_some hf
  refine hp_calll (va_runVN (As := []) (rest := [.long v1]) ⟨hx, hb, hml, hown, hts⟩ (ok_X2_cost l D cy ad M0 _ v4 r37 a4 e36) ⟨va_cnB 0 hts (gd0 q390) rfl rfl rfl (hN.2.1 (RX3, 232, yX2_cost, RX3) (List.mem_of_getElem? (i := 15) rfl)) (hts _ q89) (by decide +kernel) ⟨Nat.le_of_ble_eq_true rfl, Nat.le_of_ble_eq_true rfl⟩, hts _ q389, hts _ q20⟩ (pre_V hP hK hN a4 ds_8 rfl) rfl rfl hl.1 rfl (lv_room (Nat.le_of_ble_eq_true rfl)) dX3_centsThatWentBack_45 ⟨Nat.le_of_ble_eq_true rfl, Nat.le_of_ble_eq_true rfl⟩) hP hS hA (fun H locs hP hS _ => ?_)
  refine lv_ladd hx hb dX3_centsThatWentBack_48 ?_
  obtain ⟨x40, e41, hf⟩ := lt_some hf
  refine W_topJ e41 ?_
  refine lv_lstore_n (lv' := [(1, .long x40), (0, .ref (ad 1 v0)), (3, .int v3), (4, .ref (ad 8 v4))]) hx hb dX3_centsThatWentBack_49 rfl hl (by decide) rfl (fun ls hl => ?_)
  obtain ⟨x42, e43, hf⟩ := lt_some hf
  refine lv_iinc (v := x42) (lv' := [(3, .int x42), (1, .long x40), (0, .ref (ad 1 v0)), (4, .ref (ad 8 v4))]) hx hb dX3_centsThatWentBack_50 hl (k := 2) rfl (by rw [e43]; rfl) (by decide) rfl (fun ls hl => ?_)
  refine lv_goto (tgt := 4) hx hb dX3_centsThatWentBack_53 (by decide) ?_
  exact hk4 v0 x40 x42 _ _ _ a0 hf hP hS (lv_sub hl [2, 1, 0] rfl)
set_option maxRecDepth 100000 in
set_option maxHeartbeats 4000000 in
theorem t_X3_centsThatWentBack_4 {p : Program} {l : Launch} {e : Env} {s : State} {m : MethodId} {args : Array Value} {below : List Frame} {meth : Method} {c : Code} {D : va_G} {cy : Nat → ClassId} {ad : Nat → Nat → Nat} {M0 : Mm} {r0 : Int64} (C : Cx RX3 cX3_centsThatWentBack 5 (some .long) D cy (AA ad M0 s.heap.size) p s m args meth c) : ∀ (n : Nat), ∀ (v0 : Nat) (v1 : Int64) (v3 : Int32) (H : Heap) (locs : List Loc) (ls : Array Slot), (mA M0 1 v0 = true) → f_X3_centsThatWentBack_4 M0 n v0 v1 v3 = some r0 → HP D cy (AA ad M0 s.heap.size) ad M0 H → va_S (AA ad M0 s.heap.size) s.heap H locs → lv_has ls 5 [(0, .ref (ad 1 v0)), (1, .long v1), (3, .int v3)] → W p l e { frames := 1, cells := 0, slots := 0, locals := 21 } s m args below meth c H locs 0 0 (MQ below (QJ D cy ad M0 s.heap.size r0 M0) args s 0 0 (AA ad M0 s.heap.size)) (F0 m 4 ls []) := by
  obtain ⟨hx, hb, hr, hml, hown, hts, hlocks, hK, hN, hA⟩ := id C
  intro n
  induction n with
  | zero =>
    intro v0 v1 v3 H locs ls a0 hf hP hS hl
    simp [f_X3_centsThatWentBack_4] at hf
  | succ n ih =>
    intro v0 v1 v3 H locs ls a0 hf hP hS hl
    rw [f_X3_centsThatWentBack_4] at hf
    refine lv_iload_n hx hb dX3_centsThatWentBack_4 rfl (lv_at hl 2 rfl) ?_
    refine lv_aload_n hx hb dX3_centsThatWentBack_5 rfl (lv_at hl 0 rfl) ?_
    refine gf1 (v := .int (mI M0 1 v0 2)) hx hb hts hown hK hP a0 2 (by decide) (hts _ q105) rfl rfl dX3_centsThatWentBack_6 ?_
    refine lv_icmp_ge (tgt := 56) hx hb dX3_centsThatWentBack_9 (by decide) (fun c24 => ?_) (fun c24 => ?_)
    · have hf := if_t hf c24
      refine lv_lload_n hx hb dX3_centsThatWentBack_56 rfl (lv_at hl 1 rfl) ?_
      exact hp_lret hx hb hr hlocks (Option.some.inj hf) rfl hP hS keep_rf dX3_centsThatWentBack_57
    · have hf := if_f hf c24
      refine lv_aload_n hx hb dX3_centsThatWentBack_12 rfl (lv_at hl 0 rfl) ?_
      refine lv_iload_n hx hb dX3_centsThatWentBack_13 rfl (lv_at hl 2 rfl) ?_
      obtain ⟨r26, e25, hf⟩ := ob_some hf
      refine hp_callq (va_runV (As := [.int v3]) (rest := []) ⟨hx, hb, hml, hown, hts⟩ (ok_X3_ticketNumbered l D cy ad M0 _ v0 v3 r26 a0 e25) (cwV 1 hts (gdV q345 q347 q13 q85 q348) rfl rfl rfl (by decide +kernel) ⟨Nat.le_of_ble_eq_true rfl, Nat.le_of_ble_eq_true rfl⟩) (pre_V hP hK hN a0 ds_1 rfl) rfl rfl hl.1 rfl (lv_room (Nat.le_of_ble_eq_true rfl)) dX3_centsThatWentBack_14 ⟨Nat.le_of_ble_eq_true rfl, Nat.le_of_ble_eq_true rfl⟩) hP hS hA (fun H locs hP hS _ h29 => ?_)
      refine hp_astore (r := (r26).map (ad 8)) (lv' := [(4, va_rf ((r26).map (ad 8))), (0, .ref (ad 1 v0)), (1, .long v1), (3, .int v3)]) hx hb dX3_centsThatWentBack_17 hl (by decide) rfl (fun ls hl => ?_)
      refine hp_aload (r := (r26).map (ad 8)) hx hb dX3_centsThatWentBack_19 (lv_at hl 0 rfl) ?_
      rcases on_c hf with ⟨e30, hf⟩ | ⟨i31, e30, hf⟩
      · refine W_top (y := .null) (by rw [e30]; rfl) ?_
        refine lv_ifnullN (tgt := 50) hx hb dX3_centsThatWentBack_21 (by decide) ?_
        obtain ⟨x33, e34, hf⟩ := lt_some hf
        refine lv_iinc (v := x33) (lv' := [(3, .int x33), (4, va_rf ((r26).map (ad 8))), (0, .ref (ad 1 v0)), (1, .long v1)]) hx hb dX3_centsThatWentBack_50 hl (k := 3) rfl (by rw [e34]; rfl) (by decide) rfl (fun ls hl => ?_)
        refine lv_goto (tgt := 4) hx hb dX3_centsThatWentBack_53 (by decide) ?_
        exact ih v0 v1 x33 _ _ _ a0 hf hP hS (lv_sub hl [2, 3, 0] rfl)
      · have h32 : mA M0 8 i31 = true := h29 i31 e30
        rw [e30] at hl
        have hl : lv_has ls 5 [(4, .ref (ad 8 i31)), (0, .ref (ad 1 v0)), (1, .long v1), (3, .int v3)] := hl
        refine W_stk (st := [va_rf ((r26).map (ad 8))]) (st' := [.ref (ad 8 i31)]) (by first | (rw [e30]; done) | (rw [e30]; rfl)) ?_
        refine lv_ifnull hx hb dX3_centsThatWentBack_21 ?_
        refine lv_aload hx hb dX3_centsThatWentBack_24 (lv_at hl 0 rfl) ?_
        refine gf8N (v := .int (mI M0 8 i31 6)) hx hb hts hown hK hP h32 6 (by decide) (va_Nw.use rfl (hN.1 (RX3, 89, "ToteHouse$Ticket", "state", "I", RX3) (List.mem_of_getElem? (i := 30) rfl))) rfl rfl dX3_centsThatWentBack_26 ?_
        refine lv_iconst (v := (1 : Int32)) hx hb dX3_centsThatWentBack_29 (by decide) ?_
        refine lv_icmp_eq (tgt := 42) hx hb dX3_centsThatWentBack_30 (by decide) (fun c35 => ?_) (fun c35 => ?_)
        · have hf := if_t hf c35
          exact t_X3_centsThatWentBack_42 C (f_X3_centsThatWentBack_4 M0 n) ih v0 v1 v3 i31 _ _ _ a0 h32 hf hP hS (lv_sub hl [1, 2, 3, 0] rfl)
        · have hf := if_f hf c35
          refine lv_aload hx hb dX3_centsThatWentBack_33 (lv_at hl 0 rfl) ?_
          refine gf8N (v := .int (mI M0 8 i31 6)) hx hb hts hown hK hP h32 6 (by decide) (va_Nw.use rfl (hN.1 (RX3, 89, "ToteHouse$Ticket", "state", "I", RX3) (List.mem_of_getElem? (i := 30) rfl))) rfl rfl dX3_centsThatWentBack_35 ?_
          refine lv_iconst (v := (2 : Int32)) hx hb dX3_centsThatWentBack_38 (by decide) ?_
          refine lv_icmp_ne (tgt := 50) hx hb dX3_centsThatWentBack_39 (by decide) (fun c44 => ?_) (fun c44 => ?_)
          · have hf := if_f hf c44
            obtain ⟨x45, e46, hf⟩ := lt_some hf
            refine lv_iinc (v := x45) (lv' := [(3, .int x45), (4, .ref (ad 8 i31)), (0, .ref (ad 1 v0)), (1, .long v1)]) hx hb dX3_centsThatWentBack_50 hl (k := 3) rfl (by rw [e46]; rfl) (by decide) rfl (fun ls hl => ?_)
            refine lv_goto (tgt := 4) hx hb dX3_centsThatWentBack_53 (by decide) ?_
            exact ih v0 v1 x45 _ _ _ a0 hf hP hS (lv_sub hl [2, 3, 0] rfl)
          · have hf := if_t hf c44
            exact t_X3_centsThatWentBack_42 C (f_X3_centsThatWentBack_4 M0 n) ih v0 v1 v3 i31 _ _ _ a0 h32 hf hP hS (lv_sub hl [1, 2, 3, 0] rfl)
set_option maxRecDepth 100000 in
set_option maxHeartbeats 4000000 in
theorem ok_X3_centsThatWentBack (l : Launch) (D : va_G) (cy : Nat → ClassId) (ad : Nat → Nat → Nat) (M0 : Mm) (sz : Nat) (v0 : Nat) (r0 : Int64) (a0 : mA M0 1 v0 = true) (hf : f_X3_centsThatWentBack v0 M0 = some r0) : Met l yX3_centsThatWentBack (Cond.code yX3_centsThatWentBack cX3_centsThatWentBack 5 (some .long) :: BW) { frames := 1, cells := 0, slots := 0, locals := 21 } (va_Pc [.ref (ad 1 v0)] (PRE D cy ad M0 sz)) (QJ D cy ad M0 sz r0 M0) 0 0 (AA ad M0 sz) := by
  refine Met.ofW (cc := cX3_centsThatWentBack) (maxL := 5) (ret := (some .long)) (by decide) rfl ?_
  intro p e s m args below meth c s₁ B hml hv
  obtain ⟨rfl, rfl, hP0, hK, hN⟩ := hv
  have hx := B.exec
  have hb := B.bytes
  have hr := B.returns
  have hts0 := atoms_spec (ws := (Cond.code yX3_centsThatWentBack cX3_centsThatWentBack 5 (some .long) :: BW)) B.pre
  have hts : ∀ w ∈ BW, w.before ([.ref (ad 1 v0)] : List Value).toArray s = true := fun w h => hts0 w (List.mem_cons_of_mem _ h)
  have hown : s.vm.findClass RX3 = some m.cls := findClass_of_methodNamed B.named
  have hlocks := B.notSynchronized
  have hA : ∀ q : Nat, s.heap.size ≤ q → AA ad M0 s.heap.size q := fun q h => Or.inr h
  have C : Cx RX3 cX3_centsThatWentBack 5 (some .long) D cy (AA ad M0 s.heap.size) p s m ([.ref (ad 1 v0)] : List Value).toArray meth c := ⟨hx, hb, hr, hml, hown, hts, hlocks, hK, hN, hA⟩
  have hP := hp_self (sz := s.heap.size) hP0
  have hS : va_S (AA ad M0 s.heap.size) s.heap s.heap [] := va_S.rf
  have hl := lv_entry ([.ref (ad 1 v0)]) (n := 5) (Nat.le_of_ble_eq_true rfl)
  rw [lg_entry_eq]
  generalize (lg_sl ([.ref (ad 1 v0)]) ++ List.replicate (5 - (lg_sl ([.ref (ad 1 v0)])).length) Slot.unset).toArray = ls at hl ⊢
  have hl : lv_has ls 5 [(0, .ref (ad 1 v0))] := hl
  unfold f_X3_centsThatWentBack at hf
  refine lv_lconst (v := (0 : Int64)) hx hb dX3_centsThatWentBack_0 (by decide) ?_
  refine lv_lstore_n (lv' := [(1, .long (0 : Int64)), (0, .ref (ad 1 v0))]) hx hb dX3_centsThatWentBack_1 rfl hl (by decide) rfl (fun ls hl => ?_)
  refine lv_iconst (v := (0 : Int32)) hx hb dX3_centsThatWentBack_2 (by decide) ?_
  refine lv_istore_n (lv' := [(3, .int (0 : Int32)), (1, .long (0 : Int64)), (0, .ref (ad 1 v0))]) hx hb dX3_centsThatWentBack_3 rfl hl (by decide) rfl (fun ls hl => ?_)
  exact t_X3_centsThatWentBack_4 C FU v0 (0 : Int64) (0 : Int32) _ _ _ a0 hf hP hS (lv_sub hl [2, 1, 0] rfl)

def f_X3_count (v0 : Nat) (v1 : Int32) (M0 : Mm) : Option Int64 :=
  if v1 = (0 : Int32) then (some (((mI M0 1 v0 2)).toInt64)) else (if v1 = (1 : Int32) then (ob (f_X3_ticketsThatAre v0 (0 : Int32) M0) fun r30 => some r30) else (if v1 = (2 : Int32) then (ob (f_X3_ticketsThatAre v0 (1 : Int32) M0) fun r35 => some r35) else (if v1 = (3 : Int32) then (ob (f_X3_ticketsThatAre v0 (2 : Int32) M0) fun r40 => some r40) else (if v1 = (4 : Int32) then (ob (f_X3_ticketsThatAre v0 (3 : Int32) M0) fun r45 => some r45) else (if v1 = (5 : Int32) then (ob (f_X3_centsThatWentBack v0 M0) fun r50 => some r50) else (some (-1 : Int64)))))))
set_option maxRecDepth 100000 in
set_option maxHeartbeats 4000000 in
theorem ok_X3_count (l : Launch) (D : va_G) (cy : Nat → ClassId) (ad : Nat → Nat → Nat) (M0 : Mm) (sz : Nat) (v0 : Nat) (v1 : Int32) (r0 : Int64) (a0 : mA M0 1 v0 = true) (hf : f_X3_count v0 v1 M0 = some r0) : Met l yX3_count (Cond.code yX3_count cX3_count 2 (some .long) :: BW) { frames := 2, cells := 0, slots := 0, locals := 46 } (va_Pc [.ref (ad 1 v0), .int v1] (PRE D cy ad M0 sz)) (QJ D cy ad M0 sz r0 M0) 0 0 (AA ad M0 sz) := by
  refine Met.ofW (cc := cX3_count) (maxL := 2) (ret := (some .long)) (by decide) rfl ?_
  intro p e s m args below meth c s₁ B hml hv
  obtain ⟨rfl, rfl, hP0, hK, hN⟩ := hv
  have hx := B.exec
  have hb := B.bytes
  have hr := B.returns
  have hts0 := atoms_spec (ws := (Cond.code yX3_count cX3_count 2 (some .long) :: BW)) B.pre
  have hts : ∀ w ∈ BW, w.before ([.ref (ad 1 v0), .int v1] : List Value).toArray s = true := fun w h => hts0 w (List.mem_cons_of_mem _ h)
  have hown : s.vm.findClass RX3 = some m.cls := findClass_of_methodNamed B.named
  have hlocks := B.notSynchronized
  have hA : ∀ q : Nat, s.heap.size ≤ q → AA ad M0 s.heap.size q := fun q h => Or.inr h
  have C : Cx RX3 cX3_count 2 (some .long) D cy (AA ad M0 s.heap.size) p s m ([.ref (ad 1 v0), .int v1] : List Value).toArray meth c := ⟨hx, hb, hr, hml, hown, hts, hlocks, hK, hN, hA⟩
  have hP := hp_self (sz := s.heap.size) hP0
  have hS : va_S (AA ad M0 s.heap.size) s.heap s.heap [] := va_S.rf
  have hl := lv_entry ([.ref (ad 1 v0), .int v1]) (n := 2) (Nat.le_of_ble_eq_true rfl)
  rw [lg_entry_eq]
  generalize (lg_sl ([.ref (ad 1 v0), .int v1]) ++ List.replicate (2 - (lg_sl ([.ref (ad 1 v0), .int v1])).length) Slot.unset).toArray = ls at hl ⊢
  have hl : lv_has ls 2 [(0, .ref (ad 1 v0)), (1, .int v1)] := hl
  unfold f_X3_count at hf
  refine lv_iload_n hx hb dX3_count_0 rfl (lv_at hl 1 rfl) ?_
  by_cases c27 : v1 = (0 : Int32)
  · have hf := if_t hf c27
    refine W_topI c27.symm ?_
    refine lv_tableIn (x := (0 : Int32)) (off := 39) (tgt := 40) hx hb dX3_count_1 (by decide) (by decide) (by decide) (by decide) ?_
    refine lv_aload_n hx hb dX3_count_40 rfl (lv_at hl 0 rfl) ?_
    refine gf1 (v := .int (mI M0 1 v0 2)) hx hb hts hown hK hP a0 2 (by decide) (hts _ q105) rfl rfl dX3_count_41 ?_
    refine lv_i2l hx hb dX3_count_44 rfl ?_
    exact hp_lret hx hb hr hlocks (Option.some.inj hf) rfl hP hS keep_rf dX3_count_45
  have hf := if_f hf c27
  by_cases c28 : v1 = (1 : Int32)
  · have hf := if_t hf c28
    refine W_topI c28.symm ?_
    refine lv_tableIn (x := (1 : Int32)) (off := 45) (tgt := 46) hx hb dX3_count_1 (by decide) (by decide) (by decide) (by decide) ?_
    refine lv_aload_n hx hb dX3_count_46 rfl (lv_at hl 0 rfl) ?_
    refine lv_iconst (v := (0 : Int32)) hx hb dX3_count_47 (by decide) ?_
    obtain ⟨r30, e29, hf⟩ := ob_some hf
    refine hp_calll (va_runV (As := [.int (0 : Int32)]) (rest := []) ⟨hx, hb, hml, hown, hts⟩ (ok_X3_ticketsThatAre l D cy ad M0 _ v0 (0 : Int32) r30 a0 e29) (cwV 1 hts (gdV q379 q381 q18 q85 q382) rfl rfl rfl (by decide +kernel) ⟨Nat.le_of_ble_eq_true rfl, Nat.le_of_ble_eq_true rfl⟩) (pre_V hP hK hN a0 ds_1 rfl) rfl rfl hl.1 rfl (lv_room (Nat.le_of_ble_eq_true rfl)) dX3_count_48 ⟨Nat.le_of_ble_eq_true rfl, Nat.le_of_ble_eq_true rfl⟩) hP hS hA (fun H locs hP hS _ => ?_)
    exact hp_lret hx hb hr hlocks (Option.some.inj hf) rfl hP hS keep_rf dX3_count_51
  have hf := if_f hf c28
  by_cases c33 : v1 = (2 : Int32)
  · have hf := if_t hf c33
    refine W_topI c33.symm ?_
    refine lv_tableIn (x := (2 : Int32)) (off := 51) (tgt := 52) hx hb dX3_count_1 (by decide) (by decide) (by decide) (by decide) ?_
    refine lv_aload_n hx hb dX3_count_52 rfl (lv_at hl 0 rfl) ?_
    refine lv_iconst (v := (1 : Int32)) hx hb dX3_count_53 (by decide) ?_
    obtain ⟨r35, e34, hf⟩ := ob_some hf
    refine hp_calll (va_runV (As := [.int (1 : Int32)]) (rest := []) ⟨hx, hb, hml, hown, hts⟩ (ok_X3_ticketsThatAre l D cy ad M0 _ v0 (1 : Int32) r35 a0 e34) (cwV 1 hts (gdV q379 q381 q18 q85 q382) rfl rfl rfl (by decide +kernel) ⟨Nat.le_of_ble_eq_true rfl, Nat.le_of_ble_eq_true rfl⟩) (pre_V hP hK hN a0 ds_1 rfl) rfl rfl hl.1 rfl (lv_room (Nat.le_of_ble_eq_true rfl)) dX3_count_54 ⟨Nat.le_of_ble_eq_true rfl, Nat.le_of_ble_eq_true rfl⟩) hP hS hA (fun H locs hP hS _ => ?_)
    exact hp_lret hx hb hr hlocks (Option.some.inj hf) rfl hP hS keep_rf dX3_count_57
  have hf := if_f hf c33
  by_cases c38 : v1 = (3 : Int32)
  · have hf := if_t hf c38
    refine W_topI c38.symm ?_
    refine lv_tableIn (x := (3 : Int32)) (off := 57) (tgt := 58) hx hb dX3_count_1 (by decide) (by decide) (by decide) (by decide) ?_
    refine lv_aload_n hx hb dX3_count_58 rfl (lv_at hl 0 rfl) ?_
    refine lv_iconst (v := (2 : Int32)) hx hb dX3_count_59 (by decide) ?_
    obtain ⟨r40, e39, hf⟩ := ob_some hf
    refine hp_calll (va_runV (As := [.int (2 : Int32)]) (rest := []) ⟨hx, hb, hml, hown, hts⟩ (ok_X3_ticketsThatAre l D cy ad M0 _ v0 (2 : Int32) r40 a0 e39) (cwV 1 hts (gdV q379 q381 q18 q85 q382) rfl rfl rfl (by decide +kernel) ⟨Nat.le_of_ble_eq_true rfl, Nat.le_of_ble_eq_true rfl⟩) (pre_V hP hK hN a0 ds_1 rfl) rfl rfl hl.1 rfl (lv_room (Nat.le_of_ble_eq_true rfl)) dX3_count_60 ⟨Nat.le_of_ble_eq_true rfl, Nat.le_of_ble_eq_true rfl⟩) hP hS hA (fun H locs hP hS _ => ?_)
    exact hp_lret hx hb hr hlocks (Option.some.inj hf) rfl hP hS keep_rf dX3_count_63
  have hf := if_f hf c38
  by_cases c43 : v1 = (4 : Int32)
  · have hf := if_t hf c43
    refine W_topI c43.symm ?_
    refine lv_tableIn (x := (4 : Int32)) (off := 63) (tgt := 64) hx hb dX3_count_1 (by decide) (by decide) (by decide) (by decide) ?_
    refine lv_aload_n hx hb dX3_count_64 rfl (lv_at hl 0 rfl) ?_
    refine lv_iconst (v := (3 : Int32)) hx hb dX3_count_65 (by decide) ?_
    obtain ⟨r45, e44, hf⟩ := ob_some hf
    refine hp_calll (va_runV (As := [.int (3 : Int32)]) (rest := []) ⟨hx, hb, hml, hown, hts⟩ (ok_X3_ticketsThatAre l D cy ad M0 _ v0 (3 : Int32) r45 a0 e44) (cwV 1 hts (gdV q379 q381 q18 q85 q382) rfl rfl rfl (by decide +kernel) ⟨Nat.le_of_ble_eq_true rfl, Nat.le_of_ble_eq_true rfl⟩) (pre_V hP hK hN a0 ds_1 rfl) rfl rfl hl.1 rfl (lv_room (Nat.le_of_ble_eq_true rfl)) dX3_count_66 ⟨Nat.le_of_ble_eq_true rfl, Nat.le_of_ble_eq_true rfl⟩) hP hS hA (fun H locs hP hS _ => ?_)
    exact hp_lret hx hb hr hlocks (Option.some.inj hf) rfl hP hS keep_rf dX3_count_69
  have hf := if_f hf c43
  by_cases c48 : v1 = (5 : Int32)
  · have hf := if_t hf c48
    refine W_topI c48.symm ?_
    refine lv_tableIn (x := (5 : Int32)) (off := 69) (tgt := 70) hx hb dX3_count_1 (by decide) (by decide) (by decide) (by decide) ?_
    refine lv_aload_n hx hb dX3_count_70 rfl (lv_at hl 0 rfl) ?_
    obtain ⟨r50, e49, hf⟩ := ob_some hf
    refine hp_calll (va_runV (As := []) (rest := []) ⟨hx, hb, hml, hown, hts⟩ (ok_X3_centsThatWentBack l D cy ad M0 _ v0 r50 a0 e49) (cwV 0 hts (gdV q383 q385 q19 q85 q386) rfl rfl rfl (by decide +kernel) ⟨Nat.le_of_ble_eq_true rfl, Nat.le_of_ble_eq_true rfl⟩) (pre_V hP hK hN a0 ds_1 rfl) rfl rfl hl.1 rfl (lv_room (Nat.le_of_ble_eq_true rfl)) dX3_count_71 ⟨Nat.le_of_ble_eq_true rfl, Nat.le_of_ble_eq_true rfl⟩) hP hS hA (fun H locs hP hS _ => ?_)
    exact hp_lret hx hb hr hlocks (Option.some.inj hf) rfl hP hS keep_rf dX3_count_74
  have hf := if_f hf c48
  have hsw : ∀ n : Nat, (n : Int) ≤ (5) - (0) → ¬ v1 = Int32.ofInt ((0) + (n : Int)) := by
    intro n hn
    have hn2 : n = 0 ∨ n = 1 ∨ n = 2 ∨ n = 3 ∨ n = 4 ∨ n = 5 := by omega
    rcases hn2 with rfl | rfl | rfl | rfl | rfl | rfl
    · exact fun z => c27 (z.trans (by decide))
    · exact fun z => c28 (z.trans (by decide))
    · exact fun z => c33 (z.trans (by decide))
    · exact fun z => c38 (z.trans (by decide))
    · exact fun z => c43 (z.trans (by decide))
    · exact fun z => c48 (z.trans (by decide))
  refine lv_tableOut (tgt := 75) hx hb dX3_count_1 (sw_out hsw) (by decide) ?_
  refine lv_ldc2 (v := (-1 : Int64)) hx hb hown (hts _ q391) dX3_count_75 ?_
  exact hp_lret hx hb hr hlocks (Option.some.inj hf) rfl hP hS keep_rf dX3_count_78
def f_X3_scratch_49 : Nat → Nat → Int32 → Nat → Int32 → Nat → Int32 → Int32 → Mm → Option (Int32 × Mm)
  | 0, _, _, _, _, _, _, _, _ => none
  | n + 1, v0, v2, v3, v4, v5, v6, v7, M => if v6 ≤ v7 then (on (mR M 1 v0 3) (some (v4, M)) fun i78 => ob (mR M 1 v0 3) fun i81 => ob (f_X0_moveLegs i81 v3 v2 M) fun (r85, M86) => lt (v4 + r85) fun x88 => some (x88, M86)) else (ix v7 4 (on (mR M 6 v5 (v7).toNatClampNeg) (lt (v7 + (1 : Int32)) fun x95 => f_X3_scratch_49 n v0 v2 v3 v4 v5 v6 x95 M) fun i93 => ob (f_X0_refundNaming i93 v2 M) fun (r98, M99) => lt (v4 + r98) fun x101 => lt (v7 + (1 : Int32)) fun x103 => f_X3_scratch_49 n v0 v2 v3 x101 v5 v6 x103 M99))
def f_X3_scratch (v0 : Nat) (v1 : Int32) (v2 : Int32) (M0 : Mm) : Option (Int32 × Mm) :=
  ob (f_X3_raceNumbered v0 v1 M0) fun r54 => on r54 (some ((-1 : Int32), M0)) fun i59 => if (mI M0 4 i59 4) = 0 then (ob (f_X1_isRunning i59 v2 M0) fun r63 => if r63 = 0 then (some ((-1 : Int32), M0)) else (ob (f_X1_withdraw i59 v2 M0) fun M69 => ob (mR M69 4 i59 3) fun i72 => f_X3_scratch_49 FU v0 v2 i59 (0 : Int32) i72 (4 : Int32) (0 : Int32) M69)) else (some ((-1 : Int32), M0))
set_option maxRecDepth 100000 in
set_option maxHeartbeats 4000000 in
theorem t_X3_scratch_49 {p : Program} {l : Launch} {e : Env} {s : State} {m : MethodId} {args : Array Value} {below : List Frame} {meth : Method} {c : Code} {D : va_G} {cy : Nat → ClassId} {ad : Nat → Nat → Nat} {M0 : Mm} {r0 : Int32} {M' : Mm} (C : Cx RX3 cX3_scratch 9 (some .int) D cy (AA ad M0 s.heap.size) p s m args meth c) : ∀ (n : Nat), ∀ (v0 : Nat) (v2 : Int32) (v3 : Nat) (v4 : Int32) (v5 : Nat) (v6 : Int32) (v7 : Int32) (M : Mm) (H : Heap) (locs : List Loc) (ls : Array Slot), (mA M 1 v0 = true) → (mA M 4 v3 = true) → (mA M 6 v5 = true) → Keep M0 M → f_X3_scratch_49 n v0 v2 v3 v4 v5 v6 v7 M = some (r0, M') → HP D cy (AA ad M0 s.heap.size) ad M H → va_S (AA ad M0 s.heap.size) s.heap H locs → lv_has ls 9 [(0, .ref (ad 1 v0)), (2, .int v2), (3, .ref (ad 4 v3)), (4, .int v4), (5, .ref (ad 6 v5)), (6, .int v6), (7, .int v7)] → W p l e { frames := 3, cells := 0, slots := 0, locals := 68 } s m args below meth c H locs 0 0 (MQ below (QI D cy ad M0 s.heap.size r0 M') args s 0 0 (AA ad M0 s.heap.size)) (F0 m 49 ls []) := by
  obtain ⟨hx, hb, hr, hml, hown, hts, hlocks, hK, hN, hA⟩ := id C
  intro n
  induction n with
  | zero =>
    intro v0 v2 v3 v4 v5 v6 v7 M H locs ls a0 a3 a5 hk hf hP hS hl
    simp [f_X3_scratch_49] at hf
  | succ n ih =>
    intro v0 v2 v3 v4 v5 v6 v7 M H locs ls a0 a3 a5 hk hf hP hS hl
    rw [f_X3_scratch_49] at hf
    refine lv_iload hx hb dX3_scratch_49 (lv_at hl 6 rfl) ?_
    refine lv_iload hx hb dX3_scratch_51 (lv_at hl 5 rfl) ?_
    refine lv_icmp_ge (tgt := 85) hx hb dX3_scratch_53 (by decide) (fun c75 => ?_) (fun c75 => ?_)
    · have hf := if_t hf c75
      refine lv_aload_n hx hb dX3_scratch_85 rfl (lv_at hl 0 rfl) ?_
      have h76 : ∀ j : Nat, (mR M 1 v0 3) = some j → mA M 7 j = true := fun j hj => hp_wf hP a0 hj
      refine gf1 (v := va_rf (((mR M 1 v0 3)).map (ad 7))) hx hb hts hown hK hP a0 3 (by decide) (hts _ q106) rfl rfl dX3_scratch_86 ?_
      rcases on_c hf with ⟨e77, hf⟩ | ⟨i78, e77, hf⟩
      · refine W_top (y := .null) (by rw [e77]; rfl) ?_
        refine lv_ifnullN (tgt := 106) hx hb dX3_scratch_89 (by decide) ?_
        refine lv_iload hx hb dX3_scratch_106 (lv_at hl 3 rfl) ?_
        exact hp_iret hx hb hr hlocks (congrArg Prod.fst (Option.some.inj hf)) (congrArg Prod.snd (Option.some.inj hf)) hP hS hk dX3_scratch_108
      · have h79 : mA M 7 i78 = true := h76 i78 e77
        refine W_stk (st := [va_rf (((mR M 1 v0 3)).map (ad 7))]) (st' := [.ref (ad 7 i78)]) (by first | (rw [e77]; done) | (rw [e77]; rfl)) ?_
        refine lv_ifnull hx hb dX3_scratch_89 ?_
        refine lv_iload hx hb dX3_scratch_92 (lv_at hl 3 rfl) ?_
        refine lv_aload_n hx hb dX3_scratch_94 rfl (lv_at hl 0 rfl) ?_
        have h80 : ∀ j : Nat, (mR M 1 v0 3) = some j → mA M 7 j = true := fun j hj => hp_wf hP a0 hj
        refine gf1 (v := va_rf (((mR M 1 v0 3)).map (ad 7))) hx hb hts hown hK hP a0 3 (by decide) (hts _ q106) rfl rfl dX3_scratch_95 ?_
        refine lv_aload_n hx hb dX3_scratch_98 rfl (lv_at hl 2 rfl) ?_
        refine lv_iload_n hx hb dX3_scratch_99 rfl (lv_at hl 1 rfl) ?_
        obtain ⟨i81, e82, hf⟩ := ob_some hf
        have h83 : mA M 7 i81 = true := h80 i81 e82
        refine W_stk (st := [.int v2, .ref (ad 4 v3), va_rf (((mR M 1 v0 3)).map (ad 7)), .int v4]) (st' := [.int v2, .ref (ad 4 v3), .ref (ad 7 i81), .int v4]) (by first | (rw [e82]; done) | (rw [e82]; rfl)) ?_
        obtain ⟨⟨r85, M86⟩, e84, hf⟩ := ob_some hf
        refine hp_calli (va_runVN (As := [.ref (ad 4 v3), .int v2]) (rest := [.int v4]) ⟨hx, hb, hml, hown, hts⟩ (ok_X0_moveLegs l D cy ad M _ i81 v3 v2 r85 M86 h83 a3 e84) ⟨va_cnB 2 hts (gd0 q411) rfl rfl rfl (hN.2.1 (RX3, 140, yX0_moveLegs, RX3) (List.mem_of_getElem? (i := 18) rfl)) (hts _ q88) (by decide +kernel) ⟨Nat.le_of_ble_eq_true rfl, Nat.le_of_ble_eq_true rfl⟩, hts _ q410, hts _ q24⟩ (pre_V hP hK hN h83 ds_7 rfl) rfl rfl hl.1 rfl (lv_room (Nat.le_of_ble_eq_true rfl)) dX3_scratch_100 ⟨Nat.le_of_ble_eq_true rfl, Nat.le_of_ble_eq_true rfl⟩) hP hS hA (fun H locs hP hS hk87 => ?_)
        refine lv_iadd hx hb dX3_scratch_103 ?_
        obtain ⟨x88, e89, hf⟩ := lt_some hf
        refine W_topI e89 ?_
        refine lv_istore (lv' := [(4, .int x88), (0, .ref (ad 1 v0)), (2, .int v2), (3, .ref (ad 4 v3)), (5, .ref (ad 6 v5)), (6, .int v6), (7, .int v7)]) hx hb dX3_scratch_104 hl (by decide) rfl (fun ls hl => ?_)
        refine lv_iload hx hb dX3_scratch_106 (lv_at hl 0 rfl) ?_
        exact hp_iret hx hb hr hlocks (congrArg Prod.fst (Option.some.inj hf)) (congrArg Prod.snd (Option.some.inj hf)) hP hS (kt hk hk87) dX3_scratch_108
    · have hf := if_f hf c75
      refine lv_aload hx hb dX3_scratch_56 (lv_at hl 4 rfl) ?_
      refine lv_iload hx hb dX3_scratch_58 (lv_at hl 6 rfl) ?_
      obtain ⟨h90, hf⟩ := ix_some hf
      have h91 : ∀ j : Nat, (mR M 6 v5 (v7).toNatClampNeg) = some j → mA M 7 j = true := fun j hj => hp_wf hP a5 hj
      refine hp_aald (an := 5) (t := 7) hx hb hK hP a5 rfl rfl h90 dX3_scratch_60 ?_
      refine hp_astore (r := ((mR M 6 v5 (v7).toNatClampNeg)).map (ad 7)) (lv' := [(8, va_rf (((mR M 6 v5 (v7).toNatClampNeg)).map (ad 7))), (0, .ref (ad 1 v0)), (2, .int v2), (3, .ref (ad 4 v3)), (4, .int v4), (5, .ref (ad 6 v5)), (6, .int v6), (7, .int v7)]) hx hb dX3_scratch_61 hl (by decide) rfl (fun ls hl => ?_)
      refine hp_aload (r := ((mR M 6 v5 (v7).toNatClampNeg)).map (ad 7)) hx hb dX3_scratch_63 (lv_at hl 0 rfl) ?_
      rcases on_c hf with ⟨e92, hf⟩ | ⟨i93, e92, hf⟩
      · refine W_top (y := .null) (by rw [e92]; rfl) ?_
        refine lv_ifnullN (tgt := 79) hx hb dX3_scratch_65 (by decide) ?_
        obtain ⟨x95, e96, hf⟩ := lt_some hf
        refine lv_iinc (v := x95) (lv' := [(7, .int x95), (8, va_rf (((mR M 6 v5 (v7).toNatClampNeg)).map (ad 7))), (0, .ref (ad 1 v0)), (2, .int v2), (3, .ref (ad 4 v3)), (4, .int v4), (5, .ref (ad 6 v5)), (6, .int v6)]) hx hb dX3_scratch_79 hl (k := 7) rfl (by rw [e96]; rfl) (by decide) rfl (fun ls hl => ?_)
        refine lv_goto (tgt := 49) hx hb dX3_scratch_82 (by decide) ?_
        exact ih v0 v2 v3 v4 v5 v6 x95 M _ _ _ a0 a3 a5 hk hf hP hS (lv_sub hl [2, 3, 4, 5, 6, 7, 0] rfl)
      · have h94 : mA M 7 i93 = true := h91 i93 e92
        rw [e92] at hl
        have hl : lv_has ls 9 [(8, .ref (ad 7 i93)), (0, .ref (ad 1 v0)), (2, .int v2), (3, .ref (ad 4 v3)), (4, .int v4), (5, .ref (ad 6 v5)), (6, .int v6), (7, .int v7)] := hl
        refine W_stk (st := [va_rf (((mR M 6 v5 (v7).toNatClampNeg)).map (ad 7))]) (st' := [.ref (ad 7 i93)]) (by first | (rw [e92]; done) | (rw [e92]; rfl)) ?_
        refine lv_ifnull hx hb dX3_scratch_65 ?_
        refine lv_iload hx hb dX3_scratch_68 (lv_at hl 4 rfl) ?_
        refine lv_aload hx hb dX3_scratch_70 (lv_at hl 0 rfl) ?_
        refine lv_iload_n hx hb dX3_scratch_72 rfl (lv_at hl 2 rfl) ?_
        obtain ⟨⟨r98, M99⟩, e97, hf⟩ := ob_some hf
        refine hp_calli (va_runVN (As := [.int v2]) (rest := [.int v4]) ⟨hx, hb, hml, hown, hts⟩ (ok_X0_refundNaming l D cy ad M _ i93 v2 r98 M99 h94 e97) ⟨va_cnB 1 hts (gd0 q407) rfl rfl rfl (hN.2.1 (RX3, 136, yX0_refundNaming, RX3) (List.mem_of_getElem? (i := 17) rfl)) (hts _ q88) (by decide +kernel) ⟨Nat.le_of_ble_eq_true rfl, Nat.le_of_ble_eq_true rfl⟩, hts _ q406, hts _ q23⟩ (pre_V hP hK hN h94 ds_7 rfl) rfl rfl hl.1 rfl (lv_room (Nat.le_of_ble_eq_true rfl)) dX3_scratch_73 ⟨Nat.le_of_ble_eq_true rfl, Nat.le_of_ble_eq_true rfl⟩) hP hS hA (fun H locs hP hS hk100 => ?_)
        refine lv_iadd hx hb dX3_scratch_76 ?_
        obtain ⟨x101, e102, hf⟩ := lt_some hf
        refine W_topI e102 ?_
        refine lv_istore (lv' := [(4, .int x101), (8, .ref (ad 7 i93)), (0, .ref (ad 1 v0)), (2, .int v2), (3, .ref (ad 4 v3)), (5, .ref (ad 6 v5)), (6, .int v6), (7, .int v7)]) hx hb dX3_scratch_77 hl (by decide) rfl (fun ls hl => ?_)
        obtain ⟨x103, e104, hf⟩ := lt_some hf
        refine lv_iinc (v := x103) (lv' := [(7, .int x103), (4, .int x101), (8, .ref (ad 7 i93)), (0, .ref (ad 1 v0)), (2, .int v2), (3, .ref (ad 4 v3)), (5, .ref (ad 6 v5)), (6, .int v6)]) hx hb dX3_scratch_79 hl (k := 7) rfl (by rw [e104]; rfl) (by decide) rfl (fun ls hl => ?_)
        refine lv_goto (tgt := 49) hx hb dX3_scratch_82 (by decide) ?_
        exact ih v0 v2 v3 x101 v5 v6 x103 M99 _ _ _ (hk100 _ _ a0) (hk100 _ _ a3) (hk100 _ _ a5) (kt hk hk100) hf hP hS (lv_sub hl [3, 4, 5, 1, 6, 7, 0] rfl)
set_option maxRecDepth 100000 in
set_option maxHeartbeats 4000000 in
theorem ok_X3_scratch (l : Launch) (D : va_G) (cy : Nat → ClassId) (ad : Nat → Nat → Nat) (M0 : Mm) (sz : Nat) (v0 : Nat) (v1 : Int32) (v2 : Int32) (r0 : Int32) (M' : Mm) (a0 : mA M0 1 v0 = true) (hf : f_X3_scratch v0 v1 v2 M0 = some (r0, M')) : Met l yX3_scratch (Cond.code yX3_scratch cX3_scratch 9 (some .int) :: BW) { frames := 3, cells := 0, slots := 0, locals := 68 } (va_Pc [.ref (ad 1 v0), .int v1, .int v2] (PRE D cy ad M0 sz)) (QI D cy ad M0 sz r0 M') 0 0 (AA ad M0 sz) := by
  refine Met.ofW (cc := cX3_scratch) (maxL := 9) (ret := (some .int)) (by decide) rfl ?_
  intro p e s m args below meth c s₁ B hml hv
  obtain ⟨rfl, rfl, hP0, hK, hN⟩ := hv
  have hx := B.exec
  have hb := B.bytes
  have hr := B.returns
  have hts0 := atoms_spec (ws := (Cond.code yX3_scratch cX3_scratch 9 (some .int) :: BW)) B.pre
  have hts : ∀ w ∈ BW, w.before ([.ref (ad 1 v0), .int v1, .int v2] : List Value).toArray s = true := fun w h => hts0 w (List.mem_cons_of_mem _ h)
  have hown : s.vm.findClass RX3 = some m.cls := findClass_of_methodNamed B.named
  have hlocks := B.notSynchronized
  have hA : ∀ q : Nat, s.heap.size ≤ q → AA ad M0 s.heap.size q := fun q h => Or.inr h
  have C : Cx RX3 cX3_scratch 9 (some .int) D cy (AA ad M0 s.heap.size) p s m ([.ref (ad 1 v0), .int v1, .int v2] : List Value).toArray meth c := ⟨hx, hb, hr, hml, hown, hts, hlocks, hK, hN, hA⟩
  have hP := hp_self (sz := s.heap.size) hP0
  have hS : va_S (AA ad M0 s.heap.size) s.heap s.heap [] := va_S.rf
  have hl := lv_entry ([.ref (ad 1 v0), .int v1, .int v2]) (n := 9) (Nat.le_of_ble_eq_true rfl)
  rw [lg_entry_eq]
  generalize (lg_sl ([.ref (ad 1 v0), .int v1, .int v2]) ++ List.replicate (9 - (lg_sl ([.ref (ad 1 v0), .int v1, .int v2])).length) Slot.unset).toArray = ls at hl ⊢
  have hl : lv_has ls 9 [(0, .ref (ad 1 v0)), (1, .int v1), (2, .int v2)] := hl
  unfold f_X3_scratch at hf
  refine lv_aload_n hx hb dX3_scratch_0 rfl (lv_at hl 0 rfl) ?_
  refine lv_iload_n hx hb dX3_scratch_1 rfl (lv_at hl 1 rfl) ?_
  obtain ⟨r54, e53, hf⟩ := ob_some hf
  refine hp_callq (va_runV (As := [.int v1]) (rest := []) ⟨hx, hb, hml, hown, hts⟩ (ok_X3_raceNumbered l D cy ad M0 _ v0 v1 r54 a0 e53) (cwV 1 hts (gdV q163 q165 q0 q85 q166) rfl rfl rfl (by decide +kernel) ⟨Nat.le_of_ble_eq_true rfl, Nat.le_of_ble_eq_true rfl⟩) (pre_V hP hK hN a0 ds_1 rfl) rfl rfl hl.1 rfl (lv_room (Nat.le_of_ble_eq_true rfl)) dX3_scratch_2 ⟨Nat.le_of_ble_eq_true rfl, Nat.le_of_ble_eq_true rfl⟩) hP hS hA (fun H locs hP hS _ h57 => ?_)
  refine hp_astore_n (r := (r54).map (ad 4)) (lv' := [(3, va_rf ((r54).map (ad 4))), (0, .ref (ad 1 v0)), (1, .int v1), (2, .int v2)]) hx hb dX3_scratch_5 rfl hl (by decide) rfl (fun ls hl => ?_)
  refine hp_aload_n (r := (r54).map (ad 4)) hx hb dX3_scratch_6 rfl (lv_at hl 0 rfl) ?_
  rcases on_c hf with ⟨e58, hf⟩ | ⟨i59, e58, hf⟩
  · refine W_top (y := .null) (by rw [e58]; rfl) ?_
    refine lv_ifnullN (tgt := 25) hx hb dX3_scratch_7 (by decide) ?_
    refine lv_iconst (v := (-1 : Int32)) hx hb dX3_scratch_25 (by decide) ?_
    exact hp_iret hx hb hr hlocks (congrArg Prod.fst (Option.some.inj hf)) (congrArg Prod.snd (Option.some.inj hf)) hP hS keep_rf dX3_scratch_26
  · have h60 : mA M0 4 i59 = true := h57 i59 e58
    rw [e58] at hl
    have hl : lv_has ls 9 [(3, .ref (ad 4 i59)), (0, .ref (ad 1 v0)), (1, .int v1), (2, .int v2)] := hl
    refine W_stk (st := [va_rf ((r54).map (ad 4))]) (st' := [.ref (ad 4 i59)]) (by first | (rw [e58]; done) | (rw [e58]; rfl)) ?_
    refine lv_ifnull hx hb dX3_scratch_7 ?_
    refine lv_aload_n hx hb dX3_scratch_10 rfl (lv_at hl 0 rfl) ?_
    refine gf4N (v := .int (mI M0 4 i59 4)) hx hb hts hown hK hP h60 4 (by decide) (va_Nw.use rfl (hN.1 (RX3, 32, "ToteHouse$Race", "state", "I", RX3) (List.mem_of_getElem? (i := 4) rfl))) rfl rfl dX3_scratch_11 ?_
    refine lv_if_ne (tgt := 25) hx hb dX3_scratch_14 (by decide) (fun c61 => ?_) (fun c61 => ?_)
    · have hf := if_f hf c61
      refine lv_iconst (v := (-1 : Int32)) hx hb dX3_scratch_25 (by decide) ?_
      exact hp_iret hx hb hr hlocks (congrArg Prod.fst (Option.some.inj hf)) (congrArg Prod.snd (Option.some.inj hf)) hP hS keep_rf dX3_scratch_26
    · have hf := if_t hf c61
      refine lv_aload_n hx hb dX3_scratch_17 rfl (lv_at hl 0 rfl) ?_
      refine lv_iload_n hx hb dX3_scratch_18 rfl (lv_at hl 3 rfl) ?_
      obtain ⟨r63, e62, hf⟩ := ob_some hf
      refine hp_calli (va_runVN (As := [.int v2]) (rest := []) ⟨hx, hb, hml, hown, hts⟩ (ok_X1_isRunning l D cy ad M0 _ i59 v2 r63 h60 e62) ⟨va_cnB 1 hts (gd0 q254) rfl rfl rfl (hN.2.1 (RX3, 56, yX1_isRunning, RX3) (List.mem_of_getElem? (i := 3) rfl)) (hts _ q87) (by decide +kernel) ⟨Nat.le_of_ble_eq_true rfl, Nat.le_of_ble_eq_true rfl⟩, hts _ q253, hts _ q2⟩ (pre_V hP hK hN h60 ds_4 rfl) rfl rfl hl.1 rfl (lv_room (Nat.le_of_ble_eq_true rfl)) dX3_scratch_19 ⟨Nat.le_of_ble_eq_true rfl, Nat.le_of_ble_eq_true rfl⟩) hP hS hA (fun H locs hP hS _ => ?_)
      refine lv_if_ne (tgt := 27) hx hb dX3_scratch_22 (by decide) (fun c66 => ?_) (fun c66 => ?_)
      · have hf := if_f hf c66
        refine lv_aload_n hx hb dX3_scratch_27 rfl (lv_at hl 0 rfl) ?_
        refine lv_iload_n hx hb dX3_scratch_28 rfl (lv_at hl 3 rfl) ?_
        obtain ⟨M69, e67, hf⟩ := ob_some hf
        refine hp_callv (va_runVN (As := [.int v2]) (rest := []) ⟨hx, hb, hml, hown, hts⟩ (ok_X1_withdraw l D cy ad M0 _ i59 v2 M69 h60 e67) ⟨va_cnB 1 hts (gd0 q399) rfl rfl rfl (hN.2.1 (RX3, 132, yX1_withdraw, RX3) (List.mem_of_getElem? (i := 16) rfl)) (hts _ q87) (by decide +kernel) ⟨Nat.le_of_ble_eq_true rfl, Nat.le_of_ble_eq_true rfl⟩, hts _ q398, hts _ q21⟩ (pre_V hP hK hN h60 ds_4 rfl) rfl rfl hl.1 rfl (lv_room (Nat.le_of_ble_eq_true rfl)) dX3_scratch_29 ⟨Nat.le_of_ble_eq_true rfl, Nat.le_of_ble_eq_true rfl⟩) hP hS hA (fun H locs hP hS hk70 => ?_)
        refine lv_iconst (v := (0 : Int32)) hx hb dX3_scratch_32 (by decide) ?_
        refine lv_istore (lv' := [(4, .int (0 : Int32)), (3, .ref (ad 4 i59)), (0, .ref (ad 1 v0)), (1, .int v1), (2, .int v2)]) hx hb dX3_scratch_33 hl (by decide) rfl (fun ls hl => ?_)
        refine lv_aload_n hx hb dX3_scratch_35 rfl (lv_at hl 1 rfl) ?_
        have h71 : ∀ j : Nat, (mR M69 4 i59 3) = some j → mA M69 6 j = true := fun j hj => hp_wf hP (hk70 _ _ h60) hj
        refine gf4N (v := va_rf (((mR M69 4 i59 3)).map (ad 6))) hx hb hts hown hK hP (hk70 _ _ h60) 3 (by decide) (va_Nw.use rfl (hN.1 (RX3, 39, "ToteHouse$Race", "pools", "[LToteHouse$Pool;", RX3) (List.mem_of_getElem? (i := 2) rfl))) rfl rfl dX3_scratch_36 ?_
        refine hp_astore (r := ((mR M69 4 i59 3)).map (ad 6)) (lv' := [(5, va_rf (((mR M69 4 i59 3)).map (ad 6))), (4, .int (0 : Int32)), (3, .ref (ad 4 i59)), (0, .ref (ad 1 v0)), (1, .int v1), (2, .int v2)]) hx hb dX3_scratch_39 hl (by decide) rfl (fun ls hl => ?_)
        refine hp_aload (r := ((mR M69 4 i59 3)).map (ad 6)) hx hb dX3_scratch_41 (lv_at hl 0 rfl) ?_
        obtain ⟨i72, e73, hf⟩ := ob_some hf
        have h74 : mA M69 6 i72 = true := h71 i72 e73
        rw [e73] at hl
        have hl : lv_has ls 9 [(5, .ref (ad 6 i72)), (4, .int (0 : Int32)), (3, .ref (ad 4 i59)), (0, .ref (ad 1 v0)), (1, .int v1), (2, .int v2)] := hl
        refine W_stk (st := [va_rf (((mR M69 4 i59 3)).map (ad 6))]) (st' := [.ref (ad 6 i72)]) (by first | (rw [e73]; done) | (rw [e73]; rfl)) ?_
        refine hp_alen (v := (4 : Int32)) hx hb hK hP h74 rfl rfl (by decide) dX3_scratch_43 ?_
        refine lv_istore (lv' := [(6, .int (4 : Int32)), (5, .ref (ad 6 i72)), (4, .int (0 : Int32)), (3, .ref (ad 4 i59)), (0, .ref (ad 1 v0)), (1, .int v1), (2, .int v2)]) hx hb dX3_scratch_44 hl (by decide) rfl (fun ls hl => ?_)
        refine lv_iconst (v := (0 : Int32)) hx hb dX3_scratch_46 (by decide) ?_
        refine lv_istore (lv' := [(7, .int (0 : Int32)), (6, .int (4 : Int32)), (5, .ref (ad 6 i72)), (4, .int (0 : Int32)), (3, .ref (ad 4 i59)), (0, .ref (ad 1 v0)), (1, .int v1), (2, .int v2)]) hx hb dX3_scratch_47 hl (by decide) rfl (fun ls hl => ?_)
        exact t_X3_scratch_49 C FU v0 v2 i59 (0 : Int32) i72 (4 : Int32) (0 : Int32) M69 _ _ _ (hk70 _ _ a0) (hk70 _ _ h60) h74 (kt keep_rf hk70) hf hP hS (lv_sub hl [5, 7, 4, 3, 2, 1, 0] rfl)
      · have hf := if_t hf c66
        refine lv_iconst (v := (-1 : Int32)) hx hb dX3_scratch_25 (by decide) ?_
        exact hp_iret hx hb hr hlocks (congrArg Prod.fst (Option.some.inj hf)) (congrArg Prod.snd (Option.some.inj hf)) hP hS keep_rf dX3_scratch_26

def f_X3_off (v0 : Nat) (v1 : Int32) (M0 : Mm) : Option (Int32 × Mm) :=
  ob (f_X3_raceNumbered v0 v1 M0) fun r14 => on r14 (some ((0 : Int32), M0)) fun i19 => if (mI M0 4 i19 4) = 0 then (lt (sI M0 4 i19 4 (1 : Int32)) fun M22 => some ((1 : Int32), M22)) else (some ((0 : Int32), M0))
set_option maxRecDepth 100000 in
set_option maxHeartbeats 4000000 in
theorem ok_X3_off (l : Launch) (D : va_G) (cy : Nat → ClassId) (ad : Nat → Nat → Nat) (M0 : Mm) (sz : Nat) (v0 : Nat) (v1 : Int32) (r0 : Int32) (M' : Mm) (a0 : mA M0 1 v0 = true) (hf : f_X3_off v0 v1 M0 = some (r0, M')) : Met l yX3_off (Cond.code yX3_off cX3_off 3 (some .boolean) :: BW) { frames := 1, cells := 0, slots := 0, locals := 21 } (va_Pc [.ref (ad 1 v0), .int v1] (PRE D cy ad M0 sz)) (QI D cy ad M0 sz r0 M') 0 0 (AA ad M0 sz) := by
  refine Met.ofW (cc := cX3_off) (maxL := 3) (ret := (some .boolean)) (by decide) rfl ?_
  intro p e s m args below meth c s₁ B hml hv
  obtain ⟨rfl, rfl, hP0, hK, hN⟩ := hv
  have hx := B.exec
  have hb := B.bytes
  have hr := B.returns
  have hts0 := atoms_spec (ws := (Cond.code yX3_off cX3_off 3 (some .boolean) :: BW)) B.pre
  have hts : ∀ w ∈ BW, w.before ([.ref (ad 1 v0), .int v1] : List Value).toArray s = true := fun w h => hts0 w (List.mem_cons_of_mem _ h)
  have hown : s.vm.findClass RX3 = some m.cls := findClass_of_methodNamed B.named
  have hlocks := B.notSynchronized
  have hA : ∀ q : Nat, s.heap.size ≤ q → AA ad M0 s.heap.size q := fun q h => Or.inr h
  have C : Cx RX3 cX3_off 3 (some .boolean) D cy (AA ad M0 s.heap.size) p s m ([.ref (ad 1 v0), .int v1] : List Value).toArray meth c := ⟨hx, hb, hr, hml, hown, hts, hlocks, hK, hN, hA⟩
  have hP := hp_self (sz := s.heap.size) hP0
  have hS : va_S (AA ad M0 s.heap.size) s.heap s.heap [] := va_S.rf
  have hl := lv_entry ([.ref (ad 1 v0), .int v1]) (n := 3) (Nat.le_of_ble_eq_true rfl)
  rw [lg_entry_eq]
  generalize (lg_sl ([.ref (ad 1 v0), .int v1]) ++ List.replicate (3 - (lg_sl ([.ref (ad 1 v0), .int v1])).length) Slot.unset).toArray = ls at hl ⊢
  have hl : lv_has ls 3 [(0, .ref (ad 1 v0)), (1, .int v1)] := hl
  unfold f_X3_off at hf
  refine lv_aload_n hx hb dX3_off_0 rfl (lv_at hl 0 rfl) ?_
  refine lv_iload_n hx hb dX3_off_1 rfl (lv_at hl 1 rfl) ?_
  obtain ⟨r14, e13, hf⟩ := ob_some hf
  refine hp_callq (va_runV (As := [.int v1]) (rest := []) ⟨hx, hb, hml, hown, hts⟩ (ok_X3_raceNumbered l D cy ad M0 _ v0 v1 r14 a0 e13) (cwV 1 hts (gdV q163 q165 q0 q85 q166) rfl rfl rfl (by decide +kernel) ⟨Nat.le_of_ble_eq_true rfl, Nat.le_of_ble_eq_true rfl⟩) (pre_V hP hK hN a0 ds_1 rfl) rfl rfl hl.1 rfl (lv_room (Nat.le_of_ble_eq_true rfl)) dX3_off_2 ⟨Nat.le_of_ble_eq_true rfl, Nat.le_of_ble_eq_true rfl⟩) hP hS hA (fun H locs hP hS _ h17 => ?_)
  refine hp_astore_n (r := (r14).map (ad 4)) (lv' := [(2, va_rf ((r14).map (ad 4))), (0, .ref (ad 1 v0)), (1, .int v1)]) hx hb dX3_off_5 rfl hl (by decide) rfl (fun ls hl => ?_)
  refine hp_aload_n (r := (r14).map (ad 4)) hx hb dX3_off_6 rfl (lv_at hl 0 rfl) ?_
  rcases on_c hf with ⟨e18, hf⟩ | ⟨i19, e18, hf⟩
  · refine W_top (y := .null) (by rw [e18]; rfl) ?_
    refine lv_ifnullN (tgt := 17) hx hb dX3_off_7 (by decide) ?_
    refine lv_iconst (v := (0 : Int32)) hx hb dX3_off_17 (by decide) ?_
    exact hp_zret hx hb hr hlocks (Or.inl rfl) (congrArg Prod.fst (Option.some.inj hf)) (congrArg Prod.snd (Option.some.inj hf)) hP hS keep_rf dX3_off_18
  · have h20 : mA M0 4 i19 = true := h17 i19 e18
    rw [e18] at hl
    have hl : lv_has ls 3 [(2, .ref (ad 4 i19)), (0, .ref (ad 1 v0)), (1, .int v1)] := hl
    refine W_stk (st := [va_rf ((r14).map (ad 4))]) (st' := [.ref (ad 4 i19)]) (by first | (rw [e18]; done) | (rw [e18]; rfl)) ?_
    refine lv_ifnull hx hb dX3_off_7 ?_
    refine lv_aload_n hx hb dX3_off_10 rfl (lv_at hl 0 rfl) ?_
    refine gf4N (v := .int (mI M0 4 i19 4)) hx hb hts hown hK hP h20 4 (by decide) (va_Nw.use rfl (hN.1 (RX3, 32, "ToteHouse$Race", "state", "I", RX3) (List.mem_of_getElem? (i := 4) rfl))) rfl rfl dX3_off_11 ?_
    refine lv_if_eq (tgt := 19) hx hb dX3_off_14 (by decide) (fun c21 => ?_) (fun c21 => ?_)
    · have hf := if_t hf c21
      refine lv_aload_n hx hb dX3_off_19 rfl (lv_at hl 0 rfl) ?_
      refine lv_iconst (v := (1 : Int32)) hx hb dX3_off_20 (by decide) ?_
      obtain ⟨M22, e23, hf⟩ := lt_some hf
      have hk24 : Keep M0 M22 := keI e23
      refine pI4N (v := (1 : Int32)) hx hb hts hown hK hP hS h20 4 (by decide) (va_Nw.use rfl (hN.1 (RX3, 32, "ToteHouse$Race", "state", "I", RX3) (List.mem_of_getElem? (i := 4) rfl))) rfl rfl rfl e23 dX3_off_21 (fun H locs hP hS => ?_)
      refine lv_iconst (v := (1 : Int32)) hx hb dX3_off_24 (by decide) ?_
      exact hp_zret hx hb hr hlocks (Or.inr rfl) (congrArg Prod.fst (Option.some.inj hf)) (congrArg Prod.snd (Option.some.inj hf)) hP hS (kt keep_rf hk24) dX3_off_25
    · have hf := if_f hf c21
      refine lv_iconst (v := (0 : Int32)) hx hb dX3_off_17 (by decide) ?_
      exact hp_zret hx hb hr hlocks (Or.inl rfl) (congrArg Prod.fst (Option.some.inj hf)) (congrArg Prod.snd (Option.some.inj hf)) hP hS keep_rf dX3_off_18

def f_X3_place (v0 : Nat) (v1 : Int32) (v2 : Int32) (v3 : Int32) (M0 : Mm) : Option (Int32 × Mm) :=
  ob (f_X3_raceNumbered v0 v1 M0) fun r22 => on r22 (some ((0 : Int32), M0)) fun i27 => if (mI M0 4 i27 4) = (1 : Int32) then (ob (f_X1_isRunning i27 v3 M0) fun r31 => if r31 = 0 then (some ((0 : Int32), M0)) else (if v2 < 0 then (some ((0 : Int32), M0)) else (if v2 ≤ (24 : Int32) then (ob (f_X1_putAt i27 v3 v2 M0) fun M39 => some ((1 : Int32), M39)) else (some ((0 : Int32), M0))))) else (some ((0 : Int32), M0))
set_option maxRecDepth 100000 in
set_option maxHeartbeats 4000000 in
theorem ok_X3_place (l : Launch) (D : va_G) (cy : Nat → ClassId) (ad : Nat → Nat → Nat) (M0 : Mm) (sz : Nat) (v0 : Nat) (v1 : Int32) (v2 : Int32) (v3 : Int32) (r0 : Int32) (M' : Mm) (a0 : mA M0 1 v0 = true) (hf : f_X3_place v0 v1 v2 v3 M0 = some (r0, M')) : Met l yX3_place (Cond.code yX3_place cX3_place 5 (some .boolean) :: BW) { frames := 2, cells := 0, slots := 0, locals := 42 } (va_Pc [.ref (ad 1 v0), .int v1, .int v2, .int v3] (PRE D cy ad M0 sz)) (QI D cy ad M0 sz r0 M') 0 0 (AA ad M0 sz) := by
  refine Met.ofW (cc := cX3_place) (maxL := 5) (ret := (some .boolean)) (by decide) rfl ?_
  intro p e s m args below meth c s₁ B hml hv
  obtain ⟨rfl, rfl, hP0, hK, hN⟩ := hv
  have hx := B.exec
  have hb := B.bytes
  have hr := B.returns
  have hts0 := atoms_spec (ws := (Cond.code yX3_place cX3_place 5 (some .boolean) :: BW)) B.pre
  have hts : ∀ w ∈ BW, w.before ([.ref (ad 1 v0), .int v1, .int v2, .int v3] : List Value).toArray s = true := fun w h => hts0 w (List.mem_cons_of_mem _ h)
  have hown : s.vm.findClass RX3 = some m.cls := findClass_of_methodNamed B.named
  have hlocks := B.notSynchronized
  have hA : ∀ q : Nat, s.heap.size ≤ q → AA ad M0 s.heap.size q := fun q h => Or.inr h
  have C : Cx RX3 cX3_place 5 (some .boolean) D cy (AA ad M0 s.heap.size) p s m ([.ref (ad 1 v0), .int v1, .int v2, .int v3] : List Value).toArray meth c := ⟨hx, hb, hr, hml, hown, hts, hlocks, hK, hN, hA⟩
  have hP := hp_self (sz := s.heap.size) hP0
  have hS : va_S (AA ad M0 s.heap.size) s.heap s.heap [] := va_S.rf
  have hl := lv_entry ([.ref (ad 1 v0), .int v1, .int v2, .int v3]) (n := 5) (Nat.le_of_ble_eq_true rfl)
  rw [lg_entry_eq]
  generalize (lg_sl ([.ref (ad 1 v0), .int v1, .int v2, .int v3]) ++ List.replicate (5 - (lg_sl ([.ref (ad 1 v0), .int v1, .int v2, .int v3])).length) Slot.unset).toArray = ls at hl ⊢
  have hl : lv_has ls 5 [(0, .ref (ad 1 v0)), (1, .int v1), (2, .int v2), (3, .int v3)] := hl
  unfold f_X3_place at hf
  refine lv_aload_n hx hb dX3_place_0 rfl (lv_at hl 0 rfl) ?_
  refine lv_iload_n hx hb dX3_place_1 rfl (lv_at hl 1 rfl) ?_
  obtain ⟨r22, e21, hf⟩ := ob_some hf
  refine hp_callq (va_runV (As := [.int v1]) (rest := []) ⟨hx, hb, hml, hown, hts⟩ (ok_X3_raceNumbered l D cy ad M0 _ v0 v1 r22 a0 e21) (cwV 1 hts (gdV q163 q165 q0 q85 q166) rfl rfl rfl (by decide +kernel) ⟨Nat.le_of_ble_eq_true rfl, Nat.le_of_ble_eq_true rfl⟩) (pre_V hP hK hN a0 ds_1 rfl) rfl rfl hl.1 rfl (lv_room (Nat.le_of_ble_eq_true rfl)) dX3_place_2 ⟨Nat.le_of_ble_eq_true rfl, Nat.le_of_ble_eq_true rfl⟩) hP hS hA (fun H locs hP hS _ h25 => ?_)
  refine hp_astore (r := (r22).map (ad 4)) (lv' := [(4, va_rf ((r22).map (ad 4))), (0, .ref (ad 1 v0)), (1, .int v1), (2, .int v2), (3, .int v3)]) hx hb dX3_place_5 hl (by decide) rfl (fun ls hl => ?_)
  refine hp_aload (r := (r22).map (ad 4)) hx hb dX3_place_7 (lv_at hl 0 rfl) ?_
  rcases on_c hf with ⟨e26, hf⟩ | ⟨i27, e26, hf⟩
  · refine W_top (y := .null) (by rw [e26]; rfl) ?_
    refine lv_ifnullN (tgt := 40) hx hb dX3_place_9 (by decide) ?_
    refine lv_iconst (v := (0 : Int32)) hx hb dX3_place_40 (by decide) ?_
    exact hp_zret hx hb hr hlocks (Or.inl rfl) (congrArg Prod.fst (Option.some.inj hf)) (congrArg Prod.snd (Option.some.inj hf)) hP hS keep_rf dX3_place_41
  · have h28 : mA M0 4 i27 = true := h25 i27 e26
    rw [e26] at hl
    have hl : lv_has ls 5 [(4, .ref (ad 4 i27)), (0, .ref (ad 1 v0)), (1, .int v1), (2, .int v2), (3, .int v3)] := hl
    refine W_stk (st := [va_rf ((r22).map (ad 4))]) (st' := [.ref (ad 4 i27)]) (by first | (rw [e26]; done) | (rw [e26]; rfl)) ?_
    refine lv_ifnull hx hb dX3_place_9 ?_
    refine lv_aload hx hb dX3_place_12 (lv_at hl 0 rfl) ?_
    refine gf4N (v := .int (mI M0 4 i27 4)) hx hb hts hown hK hP h28 4 (by decide) (va_Nw.use rfl (hN.1 (RX3, 32, "ToteHouse$Race", "state", "I", RX3) (List.mem_of_getElem? (i := 4) rfl))) rfl rfl dX3_place_14 ?_
    refine lv_iconst (v := (1 : Int32)) hx hb dX3_place_17 (by decide) ?_
    refine lv_icmp_ne (tgt := 40) hx hb dX3_place_18 (by decide) (fun c29 => ?_) (fun c29 => ?_)
    · have hf := if_f hf c29
      refine lv_iconst (v := (0 : Int32)) hx hb dX3_place_40 (by decide) ?_
      exact hp_zret hx hb hr hlocks (Or.inl rfl) (congrArg Prod.fst (Option.some.inj hf)) (congrArg Prod.snd (Option.some.inj hf)) hP hS keep_rf dX3_place_41
    · have hf := if_t hf c29
      refine lv_aload hx hb dX3_place_21 (lv_at hl 0 rfl) ?_
      refine lv_iload_n hx hb dX3_place_23 rfl (lv_at hl 4 rfl) ?_
      obtain ⟨r31, e30, hf⟩ := ob_some hf
      refine hp_calli (va_runVN (As := [.int v3]) (rest := []) ⟨hx, hb, hml, hown, hts⟩ (ok_X1_isRunning l D cy ad M0 _ i27 v3 r31 h28 e30) ⟨va_cnB 1 hts (gd0 q254) rfl rfl rfl (hN.2.1 (RX3, 56, yX1_isRunning, RX3) (List.mem_of_getElem? (i := 3) rfl)) (hts _ q87) (by decide +kernel) ⟨Nat.le_of_ble_eq_true rfl, Nat.le_of_ble_eq_true rfl⟩, hts _ q253, hts _ q2⟩ (pre_V hP hK hN h28 ds_4 rfl) rfl rfl hl.1 rfl (lv_room (Nat.le_of_ble_eq_true rfl)) dX3_place_24 ⟨Nat.le_of_ble_eq_true rfl, Nat.le_of_ble_eq_true rfl⟩) hP hS hA (fun H locs hP hS _ => ?_)
      refine lv_if_eq (tgt := 40) hx hb dX3_place_27 (by decide) (fun c34 => ?_) (fun c34 => ?_)
      · have hf := if_t hf c34
        refine lv_iconst (v := (0 : Int32)) hx hb dX3_place_40 (by decide) ?_
        exact hp_zret hx hb hr hlocks (Or.inl rfl) (congrArg Prod.fst (Option.some.inj hf)) (congrArg Prod.snd (Option.some.inj hf)) hP hS keep_rf dX3_place_41
      · have hf := if_f hf c34
        refine lv_iload_n hx hb dX3_place_30 rfl (lv_at hl 3 rfl) ?_
        refine lv_if_lt (tgt := 40) hx hb dX3_place_31 (by decide) (fun c35 => ?_) (fun c35 => ?_)
        · have hf := if_t hf c35
          refine lv_iconst (v := (0 : Int32)) hx hb dX3_place_40 (by decide) ?_
          exact hp_zret hx hb hr hlocks (Or.inl rfl) (congrArg Prod.fst (Option.some.inj hf)) (congrArg Prod.snd (Option.some.inj hf)) hP hS keep_rf dX3_place_41
        · have hf := if_f hf c35
          refine lv_iload_n hx hb dX3_place_34 rfl (lv_at hl 3 rfl) ?_
          refine lv_bipush (v := (24 : Int32)) hx hb dX3_place_35 (by decide) ?_
          refine lv_icmp_le (tgt := 42) hx hb dX3_place_37 (by decide) (fun c36 => ?_) (fun c36 => ?_)
          · have hf := if_t hf c36
            refine lv_aload hx hb dX3_place_42 (lv_at hl 0 rfl) ?_
            refine lv_iload_n hx hb dX3_place_44 rfl (lv_at hl 4 rfl) ?_
            refine lv_iload_n hx hb dX3_place_45 rfl (lv_at hl 3 rfl) ?_
            obtain ⟨M39, e37, hf⟩ := ob_some hf
            refine hp_callv (va_runVN (As := [.int v3, .int v2]) (rest := []) ⟨hx, hb, hml, hown, hts⟩ (ok_X1_putAt l D cy ad M0 _ i27 v3 v2 M39 h28 e37) ⟨va_cnB 2 hts (gd0 q403) rfl rfl rfl (hN.2.1 (RX3, 144, yX1_putAt, RX3) (List.mem_of_getElem? (i := 19) rfl)) (hts _ q87) (by decide +kernel) ⟨Nat.le_of_ble_eq_true rfl, Nat.le_of_ble_eq_true rfl⟩, hts _ q402, hts _ q22⟩ (pre_V hP hK hN h28 ds_4 rfl) rfl rfl hl.1 rfl (lv_room (Nat.le_of_ble_eq_true rfl)) dX3_place_46 ⟨Nat.le_of_ble_eq_true rfl, Nat.le_of_ble_eq_true rfl⟩) hP hS hA (fun H locs hP hS hk40 => ?_)
            refine lv_iconst (v := (1 : Int32)) hx hb dX3_place_49 (by decide) ?_
            exact hp_zret hx hb hr hlocks (Or.inr rfl) (congrArg Prod.fst (Option.some.inj hf)) (congrArg Prod.snd (Option.some.inj hf)) hP hS (kt keep_rf hk40) dX3_place_50
          · have hf := if_f hf c36
            refine lv_iconst (v := (0 : Int32)) hx hb dX3_place_40 (by decide) ?_
            exact hp_zret hx hb hr hlocks (Or.inl rfl) (congrArg Prod.fst (Option.some.inj hf)) (congrArg Prod.snd (Option.some.inj hf)) hP hS keep_rf dX3_place_41
def f_X3_carryFrom_5 : Nat → Nat → Int64 → Int32 → Mm → Option Mm
  | 0, _, _, _, _ => none
  | n + 1, v0, v2, v4, M => if (12 : Int32) < v4 then (lt (sJ M 1 v0 4 ((mJ M 1 v0 4) + v2)) fun M36 => some M36) else (ob (f_X3_raceNumbered v0 v4 M) fun r40 => ob (f_X3_poolOf v0 v4 (3 : Int32) M) fun r45 => on r40 (lt (v4 + (1 : Int32)) fun x52 => f_X3_carryFrom_5 n v0 v2 x52 M) fun i50 => on r45 (lt (v4 + (1 : Int32)) fun x57 => f_X3_carryFrom_5 n v0 v2 x57 M) fun i55 => if (mI M 4 i50 4) = (2 : Int32) then (lt (v4 + (1 : Int32)) fun x60 => f_X3_carryFrom_5 n v0 v2 x60 M) else (lt (sJ M 7 i55 14 ((mJ M 7 i55 14) + v2)) fun M62 => some M62))
def f_X3_carryFrom (v0 : Nat) (v1 : Int32) (v2 : Int64) (M0 : Mm) : Option Mm :=
  lt (v1 + (1 : Int32)) fun x33 => f_X3_carryFrom_5 FU v0 v2 x33 M0
set_option maxRecDepth 100000 in
set_option maxHeartbeats 4000000 in
theorem t_X3_carryFrom_5 {p : Program} {l : Launch} {e : Env} {s : State} {m : MethodId} {args : Array Value} {below : List Frame} {meth : Method} {c : Code} {D : va_G} {cy : Nat → ClassId} {ad : Nat → Nat → Nat} {M0 : Mm} {M' : Mm} (C : Cx RX3 cX3_carryFrom 7 none D cy (AA ad M0 s.heap.size) p s m args meth c) : ∀ (n : Nat), ∀ (v0 : Nat) (v2 : Int64) (v4 : Int32) (M : Mm) (H : Heap) (locs : List Loc) (ls : Array Slot), (mA M 1 v0 = true) → Keep M0 M → f_X3_carryFrom_5 n v0 v2 v4 M = some M' → HP D cy (AA ad M0 s.heap.size) ad M H → va_S (AA ad M0 s.heap.size) s.heap H locs → lv_has ls 7 [(0, .ref (ad 1 v0)), (2, .long v2), (4, .int v4)] → W p l e { frames := 2, cells := 0, slots := 0, locals := 44 } s m args below meth c H locs 0 0 (MQ below (QV D cy ad M0 s.heap.size M') args s 0 0 (AA ad M0 s.heap.size)) (F0 m 5 ls []) := by
  obtain ⟨hx, hb, hr, hml, hown, hts, hlocks, hK, hN, hA⟩ := id C
  intro n
  induction n with
  | zero =>
    intro v0 v2 v4 M H locs ls a0 hk hf hP hS hl
    simp [f_X3_carryFrom_5] at hf
  | succ n ih =>
    intro v0 v2 v4 M H locs ls a0 hk hf hP hS hl
    rw [f_X3_carryFrom_5] at hf
    refine lv_iload hx hb dX3_carryFrom_5 (lv_at hl 2 rfl) ?_
    refine lv_bipush (v := (12 : Int32)) hx hb dX3_carryFrom_7 (by decide) ?_
    refine lv_icmp_gt (tgt := 66) hx hb dX3_carryFrom_9 (by decide) (fun c35 => ?_) (fun c35 => ?_)
    · have hf := if_t hf c35
      refine lv_aload_n hx hb dX3_carryFrom_66 rfl (lv_at hl 0 rfl) ?_
      refine lv_dup hx hb dX3_carryFrom_67 rfl ?_
      refine gf1 (v := .long (mJ M 1 v0 4)) hx hb hts hown hK hP a0 4 (by decide) (hts _ q107) rfl rfl dX3_carryFrom_68 ?_
      refine lv_lload_n hx hb dX3_carryFrom_71 rfl (lv_at hl 1 rfl) ?_
      refine lv_ladd hx hb dX3_carryFrom_72 ?_
      obtain ⟨M36, e37, hf⟩ := lt_some hf
      have hk38 : Keep M M36 := keJ e37
      refine pJ1 (v := ((mJ M 1 v0 4) + v2)) hx hb hts hown hK hP hS a0 4 (by decide) (hts _ q107) rfl rfl rfl e37 dX3_carryFrom_73 (fun H locs hP hS => ?_)
      exact hp_vret hx hb hr hlocks (Option.some.inj hf) hP hS (kt hk hk38) dX3_carryFrom_76
    · have hf := if_f hf c35
      refine lv_aload_n hx hb dX3_carryFrom_12 rfl (lv_at hl 0 rfl) ?_
      refine lv_iload hx hb dX3_carryFrom_13 (lv_at hl 2 rfl) ?_
      obtain ⟨r40, e39, hf⟩ := ob_some hf
      refine hp_callq (va_runV (As := [.int v4]) (rest := []) ⟨hx, hb, hml, hown, hts⟩ (ok_X3_raceNumbered l D cy ad M _ v0 v4 r40 a0 e39) (cwV 1 hts (gdV q163 q165 q0 q85 q166) rfl rfl rfl (by decide +kernel) ⟨Nat.le_of_ble_eq_true rfl, Nat.le_of_ble_eq_true rfl⟩) (pre_V hP hK hN a0 ds_1 rfl) rfl rfl hl.1 rfl (lv_room (Nat.le_of_ble_eq_true rfl)) dX3_carryFrom_15 ⟨Nat.le_of_ble_eq_true rfl, Nat.le_of_ble_eq_true rfl⟩) hP hS hA (fun H locs hP hS _ h43 => ?_)
      refine hp_astore (r := (r40).map (ad 4)) (lv' := [(5, va_rf ((r40).map (ad 4))), (0, .ref (ad 1 v0)), (2, .long v2), (4, .int v4)]) hx hb dX3_carryFrom_18 hl (by decide) rfl (fun ls hl => ?_)
      refine lv_aload_n hx hb dX3_carryFrom_20 rfl (lv_at hl 1 rfl) ?_
      refine lv_iload hx hb dX3_carryFrom_21 (lv_at hl 3 rfl) ?_
      refine lv_iconst (v := (3 : Int32)) hx hb dX3_carryFrom_23 (by decide) ?_
      obtain ⟨r45, e44, hf⟩ := ob_some hf
      refine hp_callq (va_runV (As := [.int v4, .int (3 : Int32)]) (rest := []) ⟨hx, hb, hml, hown, hts⟩ (ok_X3_poolOf l D cy ad M _ v0 v4 (3 : Int32) r45 a0 e44) (cwV 2 hts (gdV q267 q269 q5 q85 q270) rfl rfl rfl (by decide +kernel) ⟨Nat.le_of_ble_eq_true rfl, Nat.le_of_ble_eq_true rfl⟩) (pre_V hP hK hN a0 ds_1 rfl) rfl rfl hl.1 rfl (lv_room (Nat.le_of_ble_eq_true rfl)) dX3_carryFrom_24 ⟨Nat.le_of_ble_eq_true rfl, Nat.le_of_ble_eq_true rfl⟩) hP hS hA (fun H locs hP hS _ h48 => ?_)
      refine hp_astore (r := (r45).map (ad 7)) (lv' := [(6, va_rf ((r45).map (ad 7))), (5, va_rf ((r40).map (ad 4))), (0, .ref (ad 1 v0)), (2, .long v2), (4, .int v4)]) hx hb dX3_carryFrom_27 hl (by decide) (by cases r40 <;> rfl) (fun ls hl => ?_)
      refine hp_aload (r := (r40).map (ad 4)) hx hb dX3_carryFrom_29 (lv_at hl 1 rfl) ?_
      rcases on_c hf with ⟨e49, hf⟩ | ⟨i50, e49, hf⟩
      · refine W_top (y := .null) (by rw [e49]; rfl) ?_
        refine lv_ifnullN (tgt := 60) hx hb dX3_carryFrom_31 (by decide) ?_
        obtain ⟨x52, e53, hf⟩ := lt_some hf
        refine lv_iinc (v := x52) (lv' := [(4, .int x52), (6, va_rf ((r45).map (ad 7))), (5, va_rf ((r40).map (ad 4))), (0, .ref (ad 1 v0)), (2, .long v2)]) hx hb dX3_carryFrom_60 hl (k := 4) rfl (by rw [e53]; rfl) (by decide) rfl (fun ls hl => ?_)
        refine lv_goto (tgt := 5) hx hb dX3_carryFrom_63 (by decide) ?_
        exact ih v0 v2 x52 M _ _ _ a0 hk hf hP hS (lv_sub hl [3, 4, 0] rfl)
      · have h51 : mA M 4 i50 = true := h43 i50 e49
        rw [e49] at hl
        have hl : lv_has ls 7 [(6, va_rf ((r45).map (ad 7))), (5, .ref (ad 4 i50)), (0, .ref (ad 1 v0)), (2, .long v2), (4, .int v4)] := hl
        refine W_stk (st := [va_rf ((r40).map (ad 4))]) (st' := [.ref (ad 4 i50)]) (by first | (rw [e49]; done) | (rw [e49]; rfl)) ?_
        refine lv_ifnull hx hb dX3_carryFrom_31 ?_
        refine hp_aload (r := (r45).map (ad 7)) hx hb dX3_carryFrom_34 (lv_at hl 0 rfl) ?_
        rcases on_c hf with ⟨e54, hf⟩ | ⟨i55, e54, hf⟩
        · refine W_top (y := .null) (by rw [e54]; rfl) ?_
          refine lv_ifnullN (tgt := 60) hx hb dX3_carryFrom_36 (by decide) ?_
          obtain ⟨x57, e58, hf⟩ := lt_some hf
          refine lv_iinc (v := x57) (lv' := [(4, .int x57), (6, va_rf ((r45).map (ad 7))), (5, .ref (ad 4 i50)), (0, .ref (ad 1 v0)), (2, .long v2)]) hx hb dX3_carryFrom_60 hl (k := 4) rfl (by rw [e58]; rfl) (by decide) rfl (fun ls hl => ?_)
          refine lv_goto (tgt := 5) hx hb dX3_carryFrom_63 (by decide) ?_
          exact ih v0 v2 x57 M _ _ _ a0 hk hf hP hS (lv_sub hl [3, 4, 0] rfl)
        · have h56 : mA M 7 i55 = true := h48 i55 e54
          rw [e54] at hl
          have hl : lv_has ls 7 [(6, .ref (ad 7 i55)), (5, .ref (ad 4 i50)), (0, .ref (ad 1 v0)), (2, .long v2), (4, .int v4)] := hl
          refine W_stk (st := [va_rf ((r45).map (ad 7))]) (st' := [.ref (ad 7 i55)]) (by first | (rw [e54]; done) | (rw [e54]; rfl)) ?_
          refine lv_ifnull hx hb dX3_carryFrom_36 ?_
          refine lv_aload hx hb dX3_carryFrom_39 (lv_at hl 1 rfl) ?_
          refine gf4N (v := .int (mI M 4 i50 4)) hx hb hts hown hK hP h51 4 (by decide) (va_Nw.use rfl (hN.1 (RX3, 32, "ToteHouse$Race", "state", "I", RX3) (List.mem_of_getElem? (i := 4) rfl))) rfl rfl dX3_carryFrom_41 ?_
          refine lv_iconst (v := (2 : Int32)) hx hb dX3_carryFrom_44 (by decide) ?_
          refine lv_icmp_eq (tgt := 60) hx hb dX3_carryFrom_45 (by decide) (fun c59 => ?_) (fun c59 => ?_)
          · have hf := if_t hf c59
            obtain ⟨x60, e61, hf⟩ := lt_some hf
            refine lv_iinc (v := x60) (lv' := [(4, .int x60), (6, .ref (ad 7 i55)), (5, .ref (ad 4 i50)), (0, .ref (ad 1 v0)), (2, .long v2)]) hx hb dX3_carryFrom_60 hl (k := 4) rfl (by rw [e61]; rfl) (by decide) rfl (fun ls hl => ?_)
            refine lv_goto (tgt := 5) hx hb dX3_carryFrom_63 (by decide) ?_
            exact ih v0 v2 x60 M _ _ _ a0 hk hf hP hS (lv_sub hl [3, 4, 0] rfl)
          · have hf := if_f hf c59
            refine lv_aload hx hb dX3_carryFrom_48 (lv_at hl 0 rfl) ?_
            refine lv_dup hx hb dX3_carryFrom_50 rfl ?_
            refine gf7N (v := .long (mJ M 7 i55 14)) hx hb hts hown hK hP h56 14 (by decide) (va_Nw.use rfl (hN.1 (RX3, 212, "ToteHouse$Pool", "carriedIn", "J", RX3) (List.mem_of_getElem? (i := 17) rfl))) rfl rfl dX3_carryFrom_51 ?_
            refine lv_lload_n hx hb dX3_carryFrom_54 rfl (lv_at hl 3 rfl) ?_
            refine lv_ladd hx hb dX3_carryFrom_55 ?_
            obtain ⟨M62, e63, hf⟩ := lt_some hf
            have hk64 : Keep M M62 := keJ e63
            refine pJ7N (v := ((mJ M 7 i55 14) + v2)) hx hb hts hown hK hP hS h56 14 (by decide) (va_Nw.use rfl (hN.1 (RX3, 212, "ToteHouse$Pool", "carriedIn", "J", RX3) (List.mem_of_getElem? (i := 17) rfl))) rfl rfl rfl e63 dX3_carryFrom_56 (fun H locs hP hS => ?_)
            exact hp_vret hx hb hr hlocks (Option.some.inj hf) hP hS (kt hk hk64) dX3_carryFrom_59
set_option maxRecDepth 100000 in
set_option maxHeartbeats 4000000 in
theorem ok_X3_carryFrom (l : Launch) (D : va_G) (cy : Nat → ClassId) (ad : Nat → Nat → Nat) (M0 : Mm) (sz : Nat) (v0 : Nat) (v1 : Int32) (v2 : Int64) (M' : Mm) (a0 : mA M0 1 v0 = true) (hf : f_X3_carryFrom v0 v1 v2 M0 = some M') : Met l yX3_carryFrom (Cond.code yX3_carryFrom cX3_carryFrom 7 none :: BW) { frames := 2, cells := 0, slots := 0, locals := 44 } (va_Pc [.ref (ad 1 v0), .int v1, .long v2] (PRE D cy ad M0 sz)) (QV D cy ad M0 sz M') 0 0 (AA ad M0 sz) := by
  refine Met.ofW (cc := cX3_carryFrom) (maxL := 7) (ret := none) (by decide) rfl ?_
  intro p e s m args below meth c s₁ B hml hv
  obtain ⟨rfl, rfl, hP0, hK, hN⟩ := hv
  have hx := B.exec
  have hb := B.bytes
  have hr := B.returns
  have hts0 := atoms_spec (ws := (Cond.code yX3_carryFrom cX3_carryFrom 7 none :: BW)) B.pre
  have hts : ∀ w ∈ BW, w.before ([.ref (ad 1 v0), .int v1, .long v2] : List Value).toArray s = true := fun w h => hts0 w (List.mem_cons_of_mem _ h)
  have hown : s.vm.findClass RX3 = some m.cls := findClass_of_methodNamed B.named
  have hlocks := B.notSynchronized
  have hA : ∀ q : Nat, s.heap.size ≤ q → AA ad M0 s.heap.size q := fun q h => Or.inr h
  have C : Cx RX3 cX3_carryFrom 7 none D cy (AA ad M0 s.heap.size) p s m ([.ref (ad 1 v0), .int v1, .long v2] : List Value).toArray meth c := ⟨hx, hb, hr, hml, hown, hts, hlocks, hK, hN, hA⟩
  have hP := hp_self (sz := s.heap.size) hP0
  have hS : va_S (AA ad M0 s.heap.size) s.heap s.heap [] := va_S.rf
  have hl := lv_entry ([.ref (ad 1 v0), .int v1, .long v2]) (n := 7) (Nat.le_of_ble_eq_true rfl)
  rw [lg_entry_eq]
  generalize (lg_sl ([.ref (ad 1 v0), .int v1, .long v2]) ++ List.replicate (7 - (lg_sl ([.ref (ad 1 v0), .int v1, .long v2])).length) Slot.unset).toArray = ls at hl ⊢
  have hl : lv_has ls 7 [(0, .ref (ad 1 v0)), (1, .int v1), (2, .long v2)] := hl
  unfold f_X3_carryFrom at hf
  refine lv_iload_n hx hb dX3_carryFrom_0 rfl (lv_at hl 1 rfl) ?_
  refine lv_iconst (v := (1 : Int32)) hx hb dX3_carryFrom_1 (by decide) ?_
  refine lv_iadd hx hb dX3_carryFrom_2 ?_
  obtain ⟨x33, e34, hf⟩ := lt_some hf
  refine W_topI e34 ?_
  refine lv_istore (lv' := [(4, .int x33), (0, .ref (ad 1 v0)), (1, .int v1), (2, .long v2)]) hx hb dX3_carryFrom_3 hl (by decide) rfl (fun ls hl => ?_)
  exact t_X3_carryFrom_5 C FU v0 v2 x33 M0 _ _ _ a0 keep_rf hf hP hS (lv_sub hl [1, 3, 0] rfl)

def f_X3_settleIfDecided (v0 : Nat) (v1 : Option Nat) (M0 : Mm) : Option (Int32 × Mm) :=
  on v1 (some ((0 : Int32), M0)) fun i23 => ob (f_X0_isDecided i23 M0) fun r26 => if r26 = 0 then (some ((0 : Int32), M0)) else (ob (f_X0_settle i23 M0) fun M32 => if (lg_cmp (mJ M32 7 i23 15) (0 : Int64)) ≤ 0 then (some ((1 : Int32), M32)) else (ob (mR M32 7 i23 1) fun i36 => ob (f_X3_carryFrom v0 (mI M32 4 i36 0) (mJ M32 7 i23 15) M32) fun M41 => some ((1 : Int32), M41)))
set_option maxRecDepth 100000 in
set_option maxHeartbeats 4000000 in
theorem ok_X3_settleIfDecided (l : Launch) (D : va_G) (cy : Nat → ClassId) (ad : Nat → Nat → Nat) (M0 : Mm) (sz : Nat) (v0 : Nat) (v1 : Option Nat) (r0 : Int32) (M' : Mm) (a0 : mA M0 1 v0 = true) (a1 : ∀ j : Nat, v1 = some j → mA M0 7 j = true) (hf : f_X3_settleIfDecided v0 v1 M0 = some (r0, M')) : Met l yX3_settleIfDecided (Cond.code yX3_settleIfDecided cX3_settleIfDecided 2 (some .int) :: BW) { frames := 6, cells := 0, slots := 0, locals := 123 } (va_Pc [.ref (ad 1 v0), va_rf (v1.map (ad 7))] (PRE D cy ad M0 sz)) (QI D cy ad M0 sz r0 M') 0 0 (AA ad M0 sz) := by
  refine Met.ofW (cc := cX3_settleIfDecided) (maxL := 2) (ret := (some .int)) (by decide) rfl ?_
  intro p e s m args below meth c s₁ B hml hv
  obtain ⟨rfl, rfl, hP0, hK, hN⟩ := hv
  have hx := B.exec
  have hb := B.bytes
  have hr := B.returns
  have hts0 := atoms_spec (ws := (Cond.code yX3_settleIfDecided cX3_settleIfDecided 2 (some .int) :: BW)) B.pre
  have hts : ∀ w ∈ BW, w.before ([.ref (ad 1 v0), va_rf (v1.map (ad 7))] : List Value).toArray s = true := fun w h => hts0 w (List.mem_cons_of_mem _ h)
  have hown : s.vm.findClass RX3 = some m.cls := findClass_of_methodNamed B.named
  have hlocks := B.notSynchronized
  have hA : ∀ q : Nat, s.heap.size ≤ q → AA ad M0 s.heap.size q := fun q h => Or.inr h
  have C : Cx RX3 cX3_settleIfDecided 2 (some .int) D cy (AA ad M0 s.heap.size) p s m ([.ref (ad 1 v0), va_rf (v1.map (ad 7))] : List Value).toArray meth c := ⟨hx, hb, hr, hml, hown, hts, hlocks, hK, hN, hA⟩
  have hP := hp_self (sz := s.heap.size) hP0
  have hS : va_S (AA ad M0 s.heap.size) s.heap s.heap [] := va_S.rf
  have hl := lv_entry ([.ref (ad 1 v0), va_rf (v1.map (ad 7))]) (n := 2) ((by cases v1 <;> exact Nat.le_of_ble_eq_true rfl))
  rw [lg_entry_eq]
  generalize (lg_sl ([.ref (ad 1 v0), va_rf (v1.map (ad 7))]) ++ List.replicate (2 - (lg_sl ([.ref (ad 1 v0), va_rf (v1.map (ad 7))])).length) Slot.unset).toArray = ls at hl ⊢
  have hl : lv_has ls 2 [(0, .ref (ad 1 v0)), (1, va_rf (v1.map (ad 7)))] := (by cases v1 <;> exact hl)
  unfold f_X3_settleIfDecided at hf
  refine hp_aload_n (r := (v1).map (ad 7)) hx hb dX3_settleIfDecided_0 rfl (lv_at hl 1 rfl) ?_
  rcases on_c hf with ⟨e22, hf⟩ | ⟨i23, e22, hf⟩
  · refine W_top (y := .null) (by rw [e22]; rfl) ?_
    refine lv_ifnullN (tgt := 11) hx hb dX3_settleIfDecided_1 (by decide) ?_
    refine lv_iconst (v := (0 : Int32)) hx hb dX3_settleIfDecided_11 (by decide) ?_
    exact hp_iret hx hb hr hlocks (congrArg Prod.fst (Option.some.inj hf)) (congrArg Prod.snd (Option.some.inj hf)) hP hS keep_rf dX3_settleIfDecided_12
  · have h24 : mA M0 7 i23 = true := a1 i23 e22
    rw [e22] at hl
    have hl : lv_has ls 2 [(0, .ref (ad 1 v0)), (1, .ref (ad 7 i23))] := hl
    refine W_stk (st := [va_rf ((v1).map (ad 7))]) (st' := [.ref (ad 7 i23)]) (by first | (rw [e22]; done) | (rw [e22]; rfl)) ?_
    refine lv_ifnull hx hb dX3_settleIfDecided_1 ?_
    refine lv_aload_n hx hb dX3_settleIfDecided_4 rfl (lv_at hl 1 rfl) ?_
    obtain ⟨r26, e25, hf⟩ := ob_some hf
    refine hp_calli (va_runVN (As := []) (rest := []) ⟨hx, hb, hml, hown, hts⟩ (ok_X0_isDecided l D cy ad M0 _ i23 r26 h24 e25) ⟨va_cnB 0 hts (gd0 q451) rfl rfl rfl (hN.2.1 (RX3, 235, yX0_isDecided, RX3) (List.mem_of_getElem? (i := 21) rfl)) (hts _ q88) (by decide +kernel) ⟨Nat.le_of_ble_eq_true rfl, Nat.le_of_ble_eq_true rfl⟩, hts _ q450, hts _ q30⟩ (pre_V hP hK hN h24 ds_7 rfl) rfl rfl hl.1 rfl (lv_room (Nat.le_of_ble_eq_true rfl)) dX3_settleIfDecided_5 ⟨Nat.le_of_ble_eq_true rfl, Nat.le_of_ble_eq_true rfl⟩) hP hS hA (fun H locs hP hS _ => ?_)
    refine lv_if_ne (tgt := 13) hx hb dX3_settleIfDecided_8 (by decide) (fun c29 => ?_) (fun c29 => ?_)
    · have hf := if_f hf c29
      refine lv_aload_n hx hb dX3_settleIfDecided_13 rfl (lv_at hl 1 rfl) ?_
      obtain ⟨M32, e30, hf⟩ := ob_some hf
      refine hp_callv (va_runVN (As := []) (rest := []) ⟨hx, hb, hml, hown, hts⟩ (ok_X0_settle l D cy ad M0 _ i23 M32 h24 e30) ⟨va_cnB 0 hts (gd0 q455) rfl rfl rfl (hN.2.1 (RX3, 238, yX0_settle, RX3) (List.mem_of_getElem? (i := 22) rfl)) (hts _ q88) (by decide +kernel) ⟨Nat.le_of_ble_eq_true rfl, Nat.le_of_ble_eq_true rfl⟩, hts _ q454, hts _ q31⟩ (pre_V hP hK hN h24 ds_7 rfl) rfl rfl hl.1 rfl (lv_room (Nat.le_of_ble_eq_true rfl)) dX3_settleIfDecided_14 ⟨Nat.le_of_ble_eq_true rfl, Nat.le_of_ble_eq_true rfl⟩) hP hS hA (fun H locs hP hS hk33 => ?_)
      refine lv_aload_n hx hb dX3_settleIfDecided_17 rfl (lv_at hl 1 rfl) ?_
      refine gf7N (v := .long (mJ M32 7 i23 15)) hx hb hts hown hK hP (hk33 _ _ h24) 15 (by decide) (va_Nw.use rfl (hN.1 (RX3, 209, "ToteHouse$Pool", "carriedOut", "J", RX3) (List.mem_of_getElem? (i := 18) rfl))) rfl rfl dX3_settleIfDecided_18 ?_
      refine lv_lconst (v := (0 : Int64)) hx hb dX3_settleIfDecided_21 (by decide) ?_
      refine W.lcmp hx hb dX3_settleIfDecided_22 ?_
      refine lv_if_le (tgt := 41) hx hb dX3_settleIfDecided_23 (by decide) (fun c34 => ?_) (fun c34 => ?_)
      · have hf := if_t hf c34
        refine lv_iconst (v := (1 : Int32)) hx hb dX3_settleIfDecided_41 (by decide) ?_
        exact hp_iret hx hb hr hlocks (congrArg Prod.fst (Option.some.inj hf)) (congrArg Prod.snd (Option.some.inj hf)) hP hS (kt keep_rf hk33) dX3_settleIfDecided_42
      · have hf := if_f hf c34
        refine lv_aload_n hx hb dX3_settleIfDecided_26 rfl (lv_at hl 0 rfl) ?_
        refine lv_aload_n hx hb dX3_settleIfDecided_27 rfl (lv_at hl 1 rfl) ?_
        have h35 : ∀ j : Nat, (mR M32 7 i23 1) = some j → mA M32 4 j = true := fun j hj => hp_wf hP (hk33 _ _ h24) hj
        refine gf7N (v := va_rf (((mR M32 7 i23 1)).map (ad 4))) hx hb hts hown hK hP (hk33 _ _ h24) 1 (by decide) (va_Nw.use rfl (hN.1 (RX3, 96, "ToteHouse$Pool", "first", "LToteHouse$Race;", RX3) (List.mem_of_getElem? (i := 9) rfl))) rfl rfl dX3_settleIfDecided_28 ?_
        obtain ⟨i36, e37, hf⟩ := ob_some hf
        have h38 : mA M32 4 i36 = true := h35 i36 e37
        refine W_stk (st := [va_rf (((mR M32 7 i23 1)).map (ad 4)), .ref (ad 1 v0)]) (st' := [.ref (ad 4 i36), .ref (ad 1 v0)]) (by first | (rw [e37]; done) | (rw [e37]; rfl)) ?_
        refine gf4N (v := .int (mI M32 4 i36 0)) hx hb hts hown hK hP h38 0 (by decide) (va_Nw.use rfl (hN.1 (RX3, 100, "ToteHouse$Race", "number", "I", RX3) (List.mem_of_getElem? (i := 0) rfl))) rfl rfl dX3_settleIfDecided_31 ?_
        refine lv_aload_n hx hb dX3_settleIfDecided_34 rfl (lv_at hl 1 rfl) ?_
        refine gf7N (v := .long (mJ M32 7 i23 15)) hx hb hts hown hK hP (hk33 _ _ h24) 15 (by decide) (va_Nw.use rfl (hN.1 (RX3, 209, "ToteHouse$Pool", "carriedOut", "J", RX3) (List.mem_of_getElem? (i := 18) rfl))) rfl rfl dX3_settleIfDecided_35 ?_
        obtain ⟨M41, e39, hf⟩ := ob_some hf
        refine hp_callv (va_runV (As := [.int (mI M32 4 i36 0), .long (mJ M32 7 i23 15)]) (rest := []) ⟨hx, hb, hml, hown, hts⟩ (ok_X3_carryFrom l D cy ad M32 _ v0 (mI M32 4 i36 0) (mJ M32 7 i23 15) M41 (hk33 _ _ a0) e39) (cwV 2 hts (gdV q514 q516 q44 q85 q517) rfl rfl rfl (by decide +kernel) ⟨Nat.le_of_ble_eq_true rfl, Nat.le_of_ble_eq_true rfl⟩) (pre_V hP hK hN (hk33 _ _ a0) ds_1 rfl) rfl rfl hl.1 rfl (lv_room (Nat.le_of_ble_eq_true rfl)) dX3_settleIfDecided_38 ⟨Nat.le_of_ble_eq_true rfl, Nat.le_of_ble_eq_true rfl⟩) hP hS hA (fun H locs hP hS hk42 => ?_)
        refine lv_iconst (v := (1 : Int32)) hx hb dX3_settleIfDecided_41 (by decide) ?_
        exact hp_iret hx hb hr hlocks (congrArg Prod.fst (Option.some.inj hf)) (congrArg Prod.snd (Option.some.inj hf)) hP hS (kt (kt keep_rf hk33) hk42) dX3_settleIfDecided_42
    · have hf := if_t hf c29
      refine lv_iconst (v := (0 : Int32)) hx hb dX3_settleIfDecided_11 (by decide) ?_
      exact hp_iret hx hb hr hlocks (congrArg Prod.fst (Option.some.inj hf)) (congrArg Prod.snd (Option.some.inj hf)) hP hS keep_rf dX3_settleIfDecided_12
def f_X3_official_48 : Nat → Nat → Int32 → Nat → Int32 → Int32 → Mm → Option (Int32 × Mm)
  | 0, _, _, _, _, _, _ => none
  | n + 1, v0, v3, v4, v5, v6, M => if v5 ≤ v6 then (ob (f_X3_settleIfDecided v0 (mR M 1 v0 3) M) fun (r62, M63) => some ((v3 + r62), M63)) else (ix v6 4 (ob (f_X3_settleIfDecided v0 (mR M 6 v4 (v6).toNatClampNeg) M) fun (r68, M69) => lt (v3 + r68) fun x71 => lt (v6 + (1 : Int32)) fun x73 => f_X3_official_48 n v0 x71 v4 v5 x73 M69))
def f_X3_official (v0 : Nat) (v1 : Int32) (M0 : Mm) : Option (Int32 × Mm) :=
  ob (f_X3_raceNumbered v0 v1 M0) fun r39 => on r39 (some ((-1 : Int32), M0)) fun i44 => if (mI M0 4 i44 4) = (1 : Int32) then (ob (f_X1_hasResult i44 M0) fun r48 => if r48 = 0 then (some ((-1 : Int32), M0)) else (lt (sI M0 4 i44 4 (2 : Int32)) fun M52 => ob (mR M52 4 i44 3) fun i56 => f_X3_official_48 FU v0 (0 : Int32) i56 (4 : Int32) (0 : Int32) M52)) else (some ((-1 : Int32), M0))
set_option maxRecDepth 100000 in
set_option maxHeartbeats 4000000 in
theorem t_X3_official_48 {p : Program} {l : Launch} {e : Env} {s : State} {m : MethodId} {args : Array Value} {below : List Frame} {meth : Method} {c : Code} {D : va_G} {cy : Nat → ClassId} {ad : Nat → Nat → Nat} {M0 : Mm} {r0 : Int32} {M' : Mm} (C : Cx RX3 cX3_official 8 (some .int) D cy (AA ad M0 s.heap.size) p s m args meth c) : ∀ (n : Nat), ∀ (v0 : Nat) (v3 : Int32) (v4 : Nat) (v5 : Int32) (v6 : Int32) (M : Mm) (H : Heap) (locs : List Loc) (ls : Array Slot), (mA M 1 v0 = true) → (mA M 6 v4 = true) → Keep M0 M → f_X3_official_48 n v0 v3 v4 v5 v6 M = some (r0, M') → HP D cy (AA ad M0 s.heap.size) ad M H → va_S (AA ad M0 s.heap.size) s.heap H locs → lv_has ls 8 [(0, .ref (ad 1 v0)), (3, .int v3), (4, .ref (ad 6 v4)), (5, .int v5), (6, .int v6)] → W p l e { frames := 7, cells := 0, slots := 0, locals := 144 } s m args below meth c H locs 0 0 (MQ below (QI D cy ad M0 s.heap.size r0 M') args s 0 0 (AA ad M0 s.heap.size)) (F0 m 48 ls []) := by
  obtain ⟨hx, hb, hr, hml, hown, hts, hlocks, hK, hN, hA⟩ := id C
  intro n
  induction n with
  | zero =>
    intro v0 v3 v4 v5 v6 M H locs ls a0 a4 hk hf hP hS hl
    simp [f_X3_official_48] at hf
  | succ n ih =>
    intro v0 v3 v4 v5 v6 M H locs ls a0 a4 hk hf hP hS hl
    rw [f_X3_official_48] at hf
    refine lv_iload hx hb dX3_official_48 (lv_at hl 4 rfl) ?_
    refine lv_iload hx hb dX3_official_50 (lv_at hl 3 rfl) ?_
    refine lv_icmp_ge (tgt := 77) hx hb dX3_official_52 (by decide) (fun c59 => ?_) (fun c59 => ?_)
    · have hf := if_t hf c59
      refine lv_iload_n hx hb dX3_official_77 rfl (lv_at hl 1 rfl) ?_
      refine lv_aload_n hx hb dX3_official_78 rfl (lv_at hl 0 rfl) ?_
      refine lv_aload_n hx hb dX3_official_79 rfl (lv_at hl 0 rfl) ?_
      have h60 : ∀ j : Nat, (mR M 1 v0 3) = some j → mA M 7 j = true := fun j hj => hp_wf hP a0 hj
      refine gf1 (v := va_rf (((mR M 1 v0 3)).map (ad 7))) hx hb hts hown hK hP a0 3 (by decide) (hts _ q106) rfl rfl dX3_official_80 ?_
      obtain ⟨⟨r62, M63⟩, e61, hf⟩ := ob_some hf
      refine hp_calli (va_runV (As := [va_rf (((mR M 1 v0 3)).map (ad 7))]) (rest := [.int v3]) ⟨hx, hb, hml, hown, hts⟩ (ok_X3_settleIfDecided l D cy ad M _ v0 (mR M 1 v0 3) r62 M63 a0 h60 e61) (cwV 1 hts (gdV q444 q446 q29 q85 q447) rfl rfl rfl (by decide +kernel) ⟨Nat.le_of_ble_eq_true rfl, Nat.le_of_ble_eq_true rfl⟩) (pre_V hP hK hN a0 ds_1 rfl) rfl rfl hl.1 rfl (lv_room (Nat.le_of_ble_eq_true rfl)) dX3_official_83 ⟨Nat.le_of_ble_eq_true rfl, Nat.le_of_ble_eq_true rfl⟩) hP hS hA (fun H locs hP hS hk64 => ?_)
      refine lv_iadd hx hb dX3_official_86 ?_
      exact hp_iret hx hb hr hlocks (congrArg Prod.fst (Option.some.inj hf)) (congrArg Prod.snd (Option.some.inj hf)) hP hS (kt hk hk64) dX3_official_87
    · have hf := if_f hf c59
      refine lv_aload hx hb dX3_official_55 (lv_at hl 2 rfl) ?_
      refine lv_iload hx hb dX3_official_57 (lv_at hl 4 rfl) ?_
      obtain ⟨h65, hf⟩ := ix_some hf
      have h66 : ∀ j : Nat, (mR M 6 v4 (v6).toNatClampNeg) = some j → mA M 7 j = true := fun j hj => hp_wf hP a4 hj
      refine hp_aald (an := 5) (t := 7) hx hb hK hP a4 rfl rfl h65 dX3_official_59 ?_
      refine hp_astore (r := ((mR M 6 v4 (v6).toNatClampNeg)).map (ad 7)) (lv' := [(7, va_rf (((mR M 6 v4 (v6).toNatClampNeg)).map (ad 7))), (0, .ref (ad 1 v0)), (3, .int v3), (4, .ref (ad 6 v4)), (5, .int v5), (6, .int v6)]) hx hb dX3_official_60 hl (by decide) rfl (fun ls hl => ?_)
      refine lv_iload_n hx hb dX3_official_62 rfl (lv_at hl 2 rfl) ?_
      refine lv_aload_n hx hb dX3_official_63 rfl (lv_at hl 1 rfl) ?_
      refine hp_aload (r := ((mR M 6 v4 (v6).toNatClampNeg)).map (ad 7)) hx hb dX3_official_64 (lv_at hl 0 rfl) ?_
      obtain ⟨⟨r68, M69⟩, e67, hf⟩ := ob_some hf
      refine hp_calli (va_runV (As := [va_rf (((mR M 6 v4 (v6).toNatClampNeg)).map (ad 7))]) (rest := [.int v3]) ⟨hx, hb, hml, hown, hts⟩ (ok_X3_settleIfDecided l D cy ad M _ v0 (mR M 6 v4 (v6).toNatClampNeg) r68 M69 a0 h66 e67) (cwV 1 hts (gdV q444 q446 q29 q85 q447) rfl rfl rfl (by decide +kernel) ⟨Nat.le_of_ble_eq_true rfl, Nat.le_of_ble_eq_true rfl⟩) (pre_V hP hK hN a0 ds_1 rfl) rfl rfl hl.1 rfl (lv_room (Nat.le_of_ble_eq_true rfl)) dX3_official_66 ⟨Nat.le_of_ble_eq_true rfl, Nat.le_of_ble_eq_true rfl⟩) hP hS hA (fun H locs hP hS hk70 => ?_)
      refine lv_iadd hx hb dX3_official_69 ?_
      obtain ⟨x71, e72, hf⟩ := lt_some hf
      refine W_topI e72 ?_
      refine lv_istore_n (lv' := [(3, .int x71), (7, va_rf (((mR M 6 v4 (v6).toNatClampNeg)).map (ad 7))), (0, .ref (ad 1 v0)), (4, .ref (ad 6 v4)), (5, .int v5), (6, .int v6)]) hx hb dX3_official_70 rfl hl (by decide) rfl (fun ls hl => ?_)
      obtain ⟨x73, e74, hf⟩ := lt_some hf
      refine lv_iinc (v := x73) (lv' := [(6, .int x73), (3, .int x71), (7, va_rf (((mR M 6 v4 (v6).toNatClampNeg)).map (ad 7))), (0, .ref (ad 1 v0)), (4, .ref (ad 6 v4)), (5, .int v5)]) hx hb dX3_official_71 hl (k := 5) rfl (by rw [e74]; rfl) (by decide) rfl (fun ls hl => ?_)
      refine lv_goto (tgt := 48) hx hb dX3_official_74 (by decide) ?_
      exact ih v0 x71 v4 v5 x73 M69 _ _ _ (hk70 _ _ a0) (hk70 _ _ a4) (kt hk hk70) hf hP hS (lv_sub hl [3, 1, 4, 5, 0] rfl)
set_option maxRecDepth 100000 in
set_option maxHeartbeats 4000000 in
theorem ok_X3_official (l : Launch) (D : va_G) (cy : Nat → ClassId) (ad : Nat → Nat → Nat) (M0 : Mm) (sz : Nat) (v0 : Nat) (v1 : Int32) (r0 : Int32) (M' : Mm) (a0 : mA M0 1 v0 = true) (hf : f_X3_official v0 v1 M0 = some (r0, M')) : Met l yX3_official (Cond.code yX3_official cX3_official 8 (some .int) :: BW) { frames := 7, cells := 0, slots := 0, locals := 144 } (va_Pc [.ref (ad 1 v0), .int v1] (PRE D cy ad M0 sz)) (QI D cy ad M0 sz r0 M') 0 0 (AA ad M0 sz) := by
  refine Met.ofW (cc := cX3_official) (maxL := 8) (ret := (some .int)) (by decide) rfl ?_
  intro p e s m args below meth c s₁ B hml hv
  obtain ⟨rfl, rfl, hP0, hK, hN⟩ := hv
  have hx := B.exec
  have hb := B.bytes
  have hr := B.returns
  have hts0 := atoms_spec (ws := (Cond.code yX3_official cX3_official 8 (some .int) :: BW)) B.pre
  have hts : ∀ w ∈ BW, w.before ([.ref (ad 1 v0), .int v1] : List Value).toArray s = true := fun w h => hts0 w (List.mem_cons_of_mem _ h)
  have hown : s.vm.findClass RX3 = some m.cls := findClass_of_methodNamed B.named
  have hlocks := B.notSynchronized
  have hA : ∀ q : Nat, s.heap.size ≤ q → AA ad M0 s.heap.size q := fun q h => Or.inr h
  have C : Cx RX3 cX3_official 8 (some .int) D cy (AA ad M0 s.heap.size) p s m ([.ref (ad 1 v0), .int v1] : List Value).toArray meth c := ⟨hx, hb, hr, hml, hown, hts, hlocks, hK, hN, hA⟩
  have hP := hp_self (sz := s.heap.size) hP0
  have hS : va_S (AA ad M0 s.heap.size) s.heap s.heap [] := va_S.rf
  have hl := lv_entry ([.ref (ad 1 v0), .int v1]) (n := 8) (Nat.le_of_ble_eq_true rfl)
  rw [lg_entry_eq]
  generalize (lg_sl ([.ref (ad 1 v0), .int v1]) ++ List.replicate (8 - (lg_sl ([.ref (ad 1 v0), .int v1])).length) Slot.unset).toArray = ls at hl ⊢
  have hl : lv_has ls 8 [(0, .ref (ad 1 v0)), (1, .int v1)] := hl
  unfold f_X3_official at hf
  refine lv_aload_n hx hb dX3_official_0 rfl (lv_at hl 0 rfl) ?_
  refine lv_iload_n hx hb dX3_official_1 rfl (lv_at hl 1 rfl) ?_
  obtain ⟨r39, e38, hf⟩ := ob_some hf
  refine hp_callq (va_runV (As := [.int v1]) (rest := []) ⟨hx, hb, hml, hown, hts⟩ (ok_X3_raceNumbered l D cy ad M0 _ v0 v1 r39 a0 e38) (cwV 1 hts (gdV q163 q165 q0 q85 q166) rfl rfl rfl (by decide +kernel) ⟨Nat.le_of_ble_eq_true rfl, Nat.le_of_ble_eq_true rfl⟩) (pre_V hP hK hN a0 ds_1 rfl) rfl rfl hl.1 rfl (lv_room (Nat.le_of_ble_eq_true rfl)) dX3_official_2 ⟨Nat.le_of_ble_eq_true rfl, Nat.le_of_ble_eq_true rfl⟩) hP hS hA (fun H locs hP hS _ h42 => ?_)
  refine hp_astore_n (r := (r39).map (ad 4)) (lv' := [(2, va_rf ((r39).map (ad 4))), (0, .ref (ad 1 v0)), (1, .int v1)]) hx hb dX3_official_5 rfl hl (by decide) rfl (fun ls hl => ?_)
  refine hp_aload_n (r := (r39).map (ad 4)) hx hb dX3_official_6 rfl (lv_at hl 0 rfl) ?_
  rcases on_c hf with ⟨e43, hf⟩ | ⟨i44, e43, hf⟩
  · refine W_top (y := .null) (by rw [e43]; rfl) ?_
    refine lv_ifnullN (tgt := 25) hx hb dX3_official_7 (by decide) ?_
    refine lv_iconst (v := (-1 : Int32)) hx hb dX3_official_25 (by decide) ?_
    exact hp_iret hx hb hr hlocks (congrArg Prod.fst (Option.some.inj hf)) (congrArg Prod.snd (Option.some.inj hf)) hP hS keep_rf dX3_official_26
  · have h45 : mA M0 4 i44 = true := h42 i44 e43
    rw [e43] at hl
    have hl : lv_has ls 8 [(2, .ref (ad 4 i44)), (0, .ref (ad 1 v0)), (1, .int v1)] := hl
    refine W_stk (st := [va_rf ((r39).map (ad 4))]) (st' := [.ref (ad 4 i44)]) (by first | (rw [e43]; done) | (rw [e43]; rfl)) ?_
    refine lv_ifnull hx hb dX3_official_7 ?_
    refine lv_aload_n hx hb dX3_official_10 rfl (lv_at hl 0 rfl) ?_
    refine gf4N (v := .int (mI M0 4 i44 4)) hx hb hts hown hK hP h45 4 (by decide) (va_Nw.use rfl (hN.1 (RX3, 32, "ToteHouse$Race", "state", "I", RX3) (List.mem_of_getElem? (i := 4) rfl))) rfl rfl dX3_official_11 ?_
    refine lv_iconst (v := (1 : Int32)) hx hb dX3_official_14 (by decide) ?_
    refine lv_icmp_ne (tgt := 25) hx hb dX3_official_15 (by decide) (fun c46 => ?_) (fun c46 => ?_)
    · have hf := if_f hf c46
      refine lv_iconst (v := (-1 : Int32)) hx hb dX3_official_25 (by decide) ?_
      exact hp_iret hx hb hr hlocks (congrArg Prod.fst (Option.some.inj hf)) (congrArg Prod.snd (Option.some.inj hf)) hP hS keep_rf dX3_official_26
    · have hf := if_t hf c46
      refine lv_aload_n hx hb dX3_official_18 rfl (lv_at hl 0 rfl) ?_
      obtain ⟨r48, e47, hf⟩ := ob_some hf
      refine hp_calli (va_runVN (As := []) (rest := []) ⟨hx, hb, hml, hown, hts⟩ (ok_X1_hasResult l D cy ad M0 _ i44 r48 h45 e47) ⟨va_cnB 0 hts (gd0 q428) rfl rfl rfl (hN.2.1 (RX3, 147, yX1_hasResult, RX3) (List.mem_of_getElem? (i := 20) rfl)) (hts _ q87) (by decide +kernel) ⟨Nat.le_of_ble_eq_true rfl, Nat.le_of_ble_eq_true rfl⟩, hts _ q427, hts _ q25⟩ (pre_V hP hK hN h45 ds_4 rfl) rfl rfl hl.1 rfl (lv_room (Nat.le_of_ble_eq_true rfl)) dX3_official_19 ⟨Nat.le_of_ble_eq_true rfl, Nat.le_of_ble_eq_true rfl⟩) hP hS hA (fun H locs hP hS _ => ?_)
      refine lv_if_ne (tgt := 27) hx hb dX3_official_22 (by decide) (fun c51 => ?_) (fun c51 => ?_)
      · have hf := if_f hf c51
        refine lv_aload_n hx hb dX3_official_27 rfl (lv_at hl 0 rfl) ?_
        refine lv_iconst (v := (2 : Int32)) hx hb dX3_official_28 (by decide) ?_
        obtain ⟨M52, e53, hf⟩ := lt_some hf
        have hk54 : Keep M0 M52 := keI e53
        refine pI4N (v := (2 : Int32)) hx hb hts hown hK hP hS h45 4 (by decide) (va_Nw.use rfl (hN.1 (RX3, 32, "ToteHouse$Race", "state", "I", RX3) (List.mem_of_getElem? (i := 4) rfl))) rfl rfl rfl e53 dX3_official_29 (fun H locs hP hS => ?_)
        refine lv_iconst (v := (0 : Int32)) hx hb dX3_official_32 (by decide) ?_
        refine lv_istore_n (lv' := [(3, .int (0 : Int32)), (2, .ref (ad 4 i44)), (0, .ref (ad 1 v0)), (1, .int v1)]) hx hb dX3_official_33 rfl hl (by decide) rfl (fun ls hl => ?_)
        refine lv_aload_n hx hb dX3_official_34 rfl (lv_at hl 1 rfl) ?_
        have h55 : ∀ j : Nat, (mR M52 4 i44 3) = some j → mA M52 6 j = true := fun j hj => hp_wf hP (hk54 _ _ h45) hj
        refine gf4N (v := va_rf (((mR M52 4 i44 3)).map (ad 6))) hx hb hts hown hK hP (hk54 _ _ h45) 3 (by decide) (va_Nw.use rfl (hN.1 (RX3, 39, "ToteHouse$Race", "pools", "[LToteHouse$Pool;", RX3) (List.mem_of_getElem? (i := 2) rfl))) rfl rfl dX3_official_35 ?_
        refine hp_astore (r := ((mR M52 4 i44 3)).map (ad 6)) (lv' := [(4, va_rf (((mR M52 4 i44 3)).map (ad 6))), (3, .int (0 : Int32)), (2, .ref (ad 4 i44)), (0, .ref (ad 1 v0)), (1, .int v1)]) hx hb dX3_official_38 hl (by decide) rfl (fun ls hl => ?_)
        refine hp_aload (r := ((mR M52 4 i44 3)).map (ad 6)) hx hb dX3_official_40 (lv_at hl 0 rfl) ?_
        obtain ⟨i56, e57, hf⟩ := ob_some hf
        have h58 : mA M52 6 i56 = true := h55 i56 e57
        rw [e57] at hl
        have hl : lv_has ls 8 [(4, .ref (ad 6 i56)), (3, .int (0 : Int32)), (2, .ref (ad 4 i44)), (0, .ref (ad 1 v0)), (1, .int v1)] := hl
        refine W_stk (st := [va_rf (((mR M52 4 i44 3)).map (ad 6))]) (st' := [.ref (ad 6 i56)]) (by first | (rw [e57]; done) | (rw [e57]; rfl)) ?_
        refine hp_alen (v := (4 : Int32)) hx hb hK hP h58 rfl rfl (by decide) dX3_official_42 ?_
        refine lv_istore (lv' := [(5, .int (4 : Int32)), (4, .ref (ad 6 i56)), (3, .int (0 : Int32)), (2, .ref (ad 4 i44)), (0, .ref (ad 1 v0)), (1, .int v1)]) hx hb dX3_official_43 hl (by decide) rfl (fun ls hl => ?_)
        refine lv_iconst (v := (0 : Int32)) hx hb dX3_official_45 (by decide) ?_
        refine lv_istore (lv' := [(6, .int (0 : Int32)), (5, .int (4 : Int32)), (4, .ref (ad 6 i56)), (3, .int (0 : Int32)), (2, .ref (ad 4 i44)), (0, .ref (ad 1 v0)), (1, .int v1)]) hx hb dX3_official_46 hl (by decide) rfl (fun ls hl => ?_)
        exact t_X3_official_48 C FU v0 (0 : Int32) i56 (4 : Int32) (0 : Int32) M52 _ _ _ (hk54 _ _ a0) h58 (kt keep_rf hk54) hf hP hS (lv_sub hl [5, 3, 2, 1, 0] rfl)
      · have hf := if_t hf c51
        refine lv_iconst (v := (-1 : Int32)) hx hb dX3_official_25 (by decide) ?_
        exact hp_iret hx hb hr hlocks (congrArg Prod.fst (Option.some.inj hf)) (congrArg Prod.snd (Option.some.inj hf)) hP hS keep_rf dX3_official_26

def f_X3_look (v0 : Nat) (v1 : Int32) (v2 : Int32) (M0 : Mm) : Option Int32 :=
  ob (f_X3_raceNumbered v0 v1 M0) fun r29 => on r29 (some (-2 : Int32)) fun i34 => if v2 = (0 : Int32) then (some (mI M0 4 i34 4)) else (if v2 = (1 : Int32) then (some (mI M0 4 i34 1)) else (if v2 = (2 : Int32) then (some (mI M0 4 i34 5)) else (if v2 = (3 : Int32) then (ob (f_X1_placedRunners i34 M0) fun r41 => some r41) else (if v2 = (4 : Int32) then (some (mI M0 4 i34 6)) else (if v2 ≤ (100 : Int32) then (some (-2 : Int32)) else (ob (f_X1_hasRunner i34 (v2 - (100 : Int32)) M0) fun r47 => if r47 = 0 then (some (-2 : Int32)) else (ob (f_X1_positionOf i34 (v2 - (100 : Int32)) M0) fun r52 => some r52)))))))
set_option maxRecDepth 100000 in
set_option maxHeartbeats 4000000 in
theorem ok_X3_look (l : Launch) (D : va_G) (cy : Nat → ClassId) (ad : Nat → Nat → Nat) (M0 : Mm) (sz : Nat) (v0 : Nat) (v1 : Int32) (v2 : Int32) (r0 : Int32) (a0 : mA M0 1 v0 = true) (hf : f_X3_look v0 v1 v2 M0 = some r0) : Met l yX3_look (Cond.code yX3_look cX3_look 4 (some .int) :: BW) { frames := 4, cells := 0, slots := 0, locals := 87 } (va_Pc [.ref (ad 1 v0), .int v1, .int v2] (PRE D cy ad M0 sz)) (QI D cy ad M0 sz r0 M0) 0 0 (AA ad M0 sz) := by
  refine Met.ofW (cc := cX3_look) (maxL := 4) (ret := (some .int)) (by decide) rfl ?_
  intro p e s m args below meth c s₁ B hml hv
  obtain ⟨rfl, rfl, hP0, hK, hN⟩ := hv
  have hx := B.exec
  have hb := B.bytes
  have hr := B.returns
  have hts0 := atoms_spec (ws := (Cond.code yX3_look cX3_look 4 (some .int) :: BW)) B.pre
  have hts : ∀ w ∈ BW, w.before ([.ref (ad 1 v0), .int v1, .int v2] : List Value).toArray s = true := fun w h => hts0 w (List.mem_cons_of_mem _ h)
  have hown : s.vm.findClass RX3 = some m.cls := findClass_of_methodNamed B.named
  have hlocks := B.notSynchronized
  have hA : ∀ q : Nat, s.heap.size ≤ q → AA ad M0 s.heap.size q := fun q h => Or.inr h
  have C : Cx RX3 cX3_look 4 (some .int) D cy (AA ad M0 s.heap.size) p s m ([.ref (ad 1 v0), .int v1, .int v2] : List Value).toArray meth c := ⟨hx, hb, hr, hml, hown, hts, hlocks, hK, hN, hA⟩
  have hP := hp_self (sz := s.heap.size) hP0
  have hS : va_S (AA ad M0 s.heap.size) s.heap s.heap [] := va_S.rf
  have hl := lv_entry ([.ref (ad 1 v0), .int v1, .int v2]) (n := 4) (Nat.le_of_ble_eq_true rfl)
  rw [lg_entry_eq]
  generalize (lg_sl ([.ref (ad 1 v0), .int v1, .int v2]) ++ List.replicate (4 - (lg_sl ([.ref (ad 1 v0), .int v1, .int v2])).length) Slot.unset).toArray = ls at hl ⊢
  have hl : lv_has ls 4 [(0, .ref (ad 1 v0)), (1, .int v1), (2, .int v2)] := hl
  unfold f_X3_look at hf
  refine lv_aload_n hx hb dX3_look_0 rfl (lv_at hl 0 rfl) ?_
  refine lv_iload_n hx hb dX3_look_1 rfl (lv_at hl 1 rfl) ?_
  obtain ⟨r29, e28, hf⟩ := ob_some hf
  refine hp_callq (va_runV (As := [.int v1]) (rest := []) ⟨hx, hb, hml, hown, hts⟩ (ok_X3_raceNumbered l D cy ad M0 _ v0 v1 r29 a0 e28) (cwV 1 hts (gdV q163 q165 q0 q85 q166) rfl rfl rfl (by decide +kernel) ⟨Nat.le_of_ble_eq_true rfl, Nat.le_of_ble_eq_true rfl⟩) (pre_V hP hK hN a0 ds_1 rfl) rfl rfl hl.1 rfl (lv_room (Nat.le_of_ble_eq_true rfl)) dX3_look_2 ⟨Nat.le_of_ble_eq_true rfl, Nat.le_of_ble_eq_true rfl⟩) hP hS hA (fun H locs hP hS _ h32 => ?_)
  refine hp_astore_n (r := (r29).map (ad 4)) (lv' := [(3, va_rf ((r29).map (ad 4))), (0, .ref (ad 1 v0)), (1, .int v1), (2, .int v2)]) hx hb dX3_look_5 rfl hl (by decide) rfl (fun ls hl => ?_)
  refine hp_aload_n (r := (r29).map (ad 4)) hx hb dX3_look_6 rfl (lv_at hl 0 rfl) ?_
  rcases on_c hf with ⟨e33, hf⟩ | ⟨i34, e33, hf⟩
  · refine W_top (y := .null) (by rw [e33]; rfl) ?_
    refine lv_ifnonnullN hx hb dX3_look_7 ?_
    refine lv_bipush (v := (-2 : Int32)) hx hb dX3_look_10 (by decide) ?_
    exact hp_iret hx hb hr hlocks (Option.some.inj hf) rfl hP hS keep_rf dX3_look_12
  · have h35 : mA M0 4 i34 = true := h32 i34 e33
    rw [e33] at hl
    have hl : lv_has ls 4 [(3, .ref (ad 4 i34)), (0, .ref (ad 1 v0)), (1, .int v1), (2, .int v2)] := hl
    refine W_stk (st := [va_rf ((r29).map (ad 4))]) (st' := [.ref (ad 4 i34)]) (by first | (rw [e33]; done) | (rw [e33]; rfl)) ?_
    refine lv_ifnonnull (tgt := 13) hx hb dX3_look_7 (by decide) ?_
    refine lv_iload_n hx hb dX3_look_13 rfl (lv_at hl 3 rfl) ?_
    by_cases c36 : v2 = (0 : Int32)
    · have hf := if_t hf c36
      refine W_topI c36.symm ?_
      refine lv_tableIn (x := (0 : Int32)) (off := 34) (tgt := 48) hx hb dX3_look_14 (by decide) (by decide) (by decide) (by decide) ?_
      refine lv_aload_n hx hb dX3_look_48 rfl (lv_at hl 0 rfl) ?_
      refine gf4N (v := .int (mI M0 4 i34 4)) hx hb hts hown hK hP h35 4 (by decide) (va_Nw.use rfl (hN.1 (RX3, 32, "ToteHouse$Race", "state", "I", RX3) (List.mem_of_getElem? (i := 4) rfl))) rfl rfl dX3_look_49 ?_
      exact hp_iret hx hb hr hlocks (Option.some.inj hf) rfl hP hS keep_rf dX3_look_52
    have hf := if_f hf c36
    by_cases c37 : v2 = (1 : Int32)
    · have hf := if_t hf c37
      refine W_topI c37.symm ?_
      refine lv_tableIn (x := (1 : Int32)) (off := 39) (tgt := 53) hx hb dX3_look_14 (by decide) (by decide) (by decide) (by decide) ?_
      refine lv_aload_n hx hb dX3_look_53 rfl (lv_at hl 0 rfl) ?_
      refine gf4N (v := .int (mI M0 4 i34 1)) hx hb hts hown hK hP h35 1 (by decide) (va_Nw.use rfl (hN.1 (RX3, 154, "ToteHouse$Race", "runners", "I", RX3) (List.mem_of_getElem? (i := 1) rfl))) rfl rfl dX3_look_54 ?_
      exact hp_iret hx hb hr hlocks (Option.some.inj hf) rfl hP hS keep_rf dX3_look_57
    have hf := if_f hf c37
    by_cases c38 : v2 = (2 : Int32)
    · have hf := if_t hf c38
      refine W_topI c38.symm ?_
      refine lv_tableIn (x := (2 : Int32)) (off := 44) (tgt := 58) hx hb dX3_look_14 (by decide) (by decide) (by decide) (by decide) ?_
      refine lv_aload_n hx hb dX3_look_58 rfl (lv_at hl 0 rfl) ?_
      refine gf4N (v := .int (mI M0 4 i34 5)) hx hb hts hown hK hP h35 5 (by decide) (va_Nw.use rfl (hN.1 (RX3, 157, "ToteHouse$Race", "running", "I", RX3) (List.mem_of_getElem? (i := 5) rfl))) rfl rfl dX3_look_59 ?_
      exact hp_iret hx hb hr hlocks (Option.some.inj hf) rfl hP hS keep_rf dX3_look_62
    have hf := if_f hf c38
    by_cases c39 : v2 = (3 : Int32)
    · have hf := if_t hf c39
      refine W_topI c39.symm ?_
      refine lv_tableIn (x := (3 : Int32)) (off := 49) (tgt := 63) hx hb dX3_look_14 (by decide) (by decide) (by decide) (by decide) ?_
      refine lv_aload_n hx hb dX3_look_63 rfl (lv_at hl 0 rfl) ?_
      obtain ⟨r41, e40, hf⟩ := ob_some hf
      refine hp_calli (va_runVN (As := []) (rest := []) ⟨hx, hb, hml, hown, hts⟩ (ok_X1_placedRunners l D cy ad M0 _ i34 r41 h35 e40) ⟨va_cnB 0 hts (gd0 q432) rfl rfl rfl (hN.2.1 (RX3, 160, yX1_placedRunners, RX3) (List.mem_of_getElem? (i := 25) rfl)) (hts _ q87) (by decide +kernel) ⟨Nat.le_of_ble_eq_true rfl, Nat.le_of_ble_eq_true rfl⟩, hts _ q431, hts _ q26⟩ (pre_V hP hK hN h35 ds_4 rfl) rfl rfl hl.1 rfl (lv_room (Nat.le_of_ble_eq_true rfl)) dX3_look_64 ⟨Nat.le_of_ble_eq_true rfl, Nat.le_of_ble_eq_true rfl⟩) hP hS hA (fun H locs hP hS _ => ?_)
      exact hp_iret hx hb hr hlocks (Option.some.inj hf) rfl hP hS keep_rf dX3_look_67
    have hf := if_f hf c39
    by_cases c44 : v2 = (4 : Int32)
    · have hf := if_t hf c44
      refine W_topI c44.symm ?_
      refine lv_tableIn (x := (4 : Int32)) (off := 54) (tgt := 68) hx hb dX3_look_14 (by decide) (by decide) (by decide) (by decide) ?_
      refine lv_aload_n hx hb dX3_look_68 rfl (lv_at hl 0 rfl) ?_
      refine gf4N (v := .int (mI M0 4 i34 6)) hx hb hts hown hK hP h35 6 (by decide) (va_Nw.use rfl (hN.1 (RX3, 60, "ToteHouse$Race", "substituteRunner", "I", RX3) (List.mem_of_getElem? (i := 6) rfl))) rfl rfl dX3_look_69 ?_
      exact hp_iret hx hb hr hlocks (Option.some.inj hf) rfl hP hS keep_rf dX3_look_72
    have hf := if_f hf c44
    have hsw : ∀ n : Nat, (n : Int) ≤ (4) - (0) → ¬ v2 = Int32.ofInt ((0) + (n : Int)) := by
      intro n hn
      have hn2 : n = 0 ∨ n = 1 ∨ n = 2 ∨ n = 3 ∨ n = 4 := by omega
      rcases hn2 with rfl | rfl | rfl | rfl | rfl
      · exact fun z => c36 (z.trans (by decide))
      · exact fun z => c37 (z.trans (by decide))
      · exact fun z => c38 (z.trans (by decide))
      · exact fun z => c39 (z.trans (by decide))
      · exact fun z => c44 (z.trans (by decide))
    refine lv_tableOut (tgt := 73) hx hb dX3_look_14 (sw_out hsw) (by decide) ?_
    refine lv_iload_n hx hb dX3_look_73 rfl (lv_at hl 3 rfl) ?_
    refine lv_bipush (v := (100 : Int32)) hx hb dX3_look_74 (by decide) ?_
    refine lv_icmp_le (tgt := 99) hx hb dX3_look_76 (by decide) (fun c45 => ?_) (fun c45 => ?_)
    · have hf := if_t hf c45
      refine lv_bipush (v := (-2 : Int32)) hx hb dX3_look_99 (by decide) ?_
      exact hp_iret hx hb hr hlocks (Option.some.inj hf) rfl hP hS keep_rf dX3_look_101
    · have hf := if_f hf c45
      refine lv_aload_n hx hb dX3_look_79 rfl (lv_at hl 0 rfl) ?_
      refine lv_iload_n hx hb dX3_look_80 rfl (lv_at hl 3 rfl) ?_
      refine lv_bipush (v := (100 : Int32)) hx hb dX3_look_81 (by decide) ?_
      refine lv_isub hx hb dX3_look_83 ?_
      obtain ⟨r47, e46, hf⟩ := ob_some hf
      refine hp_calli (va_runVN (As := [.int (v2 - (100 : Int32))]) (rest := []) ⟨hx, hb, hml, hown, hts⟩ (ok_X1_hasRunner l D cy ad M0 _ i34 (v2 - (100 : Int32)) r47 h35 e46) ⟨va_cnB 1 hts (gd0 q258) rfl rfl rfl (hN.2.1 (RX3, 164, yX1_hasRunner, RX3) (List.mem_of_getElem? (i := 26) rfl)) (hts _ q87) (by decide +kernel) ⟨Nat.le_of_ble_eq_true rfl, Nat.le_of_ble_eq_true rfl⟩, hts _ q257, hts _ q3⟩ (pre_V hP hK hN h35 ds_4 rfl) rfl rfl hl.1 rfl (lv_room (Nat.le_of_ble_eq_true rfl)) dX3_look_84 ⟨Nat.le_of_ble_eq_true rfl, Nat.le_of_ble_eq_true rfl⟩) hP hS hA (fun H locs hP hS _ => ?_)
      refine lv_if_eq (tgt := 99) hx hb dX3_look_87 (by decide) (fun c50 => ?_) (fun c50 => ?_)
      · have hf := if_t hf c50
        refine lv_bipush (v := (-2 : Int32)) hx hb dX3_look_99 (by decide) ?_
        exact hp_iret hx hb hr hlocks (Option.some.inj hf) rfl hP hS keep_rf dX3_look_101
      · have hf := if_f hf c50
        refine lv_aload_n hx hb dX3_look_90 rfl (lv_at hl 0 rfl) ?_
        refine lv_iload_n hx hb dX3_look_91 rfl (lv_at hl 3 rfl) ?_
        refine lv_bipush (v := (100 : Int32)) hx hb dX3_look_92 (by decide) ?_
        refine lv_isub hx hb dX3_look_94 ?_
        obtain ⟨r52, e51, hf⟩ := ob_some hf
        refine hp_calli (va_runVN (As := [.int (v2 - (100 : Int32))]) (rest := []) ⟨hx, hb, hml, hown, hts⟩ (ok_X1_positionOf l D cy ad M0 _ i34 (v2 - (100 : Int32)) r52 h35 e51) ⟨va_cnB 1 hts (gd0 q262) rfl rfl rfl (hN.2.1 (RX3, 167, yX1_positionOf, RX3) (List.mem_of_getElem? (i := 27) rfl)) (hts _ q87) (by decide +kernel) ⟨Nat.le_of_ble_eq_true rfl, Nat.le_of_ble_eq_true rfl⟩, hts _ q261, hts _ q4⟩ (pre_V hP hK hN h35 ds_4 rfl) rfl rfl hl.1 rfl (lv_room (Nat.le_of_ble_eq_true rfl)) dX3_look_95 ⟨Nat.le_of_ble_eq_true rfl, Nat.le_of_ble_eq_true rfl⟩) hP hS hA (fun H locs hP hS _ => ?_)
        exact hp_iret hx hb hr hlocks (Option.some.inj hf) rfl hP hS keep_rf dX3_look_98

def f_X3_odds (v0 : Nat) (v1 : Int32) (v2 : Int32) (v3 : Int32) (v4 : Int32) (v5 : Int32) (M0 : Mm) : Option Int32 :=
  ob (f_X3_poolOf v0 v1 v2 M0) fun r20 => on r20 (some (-1 : Int32)) fun i25 => if (mI M0 7 i25 6) = 0 then (ob (f_X0_canFinish i25 v3 v4 v5 M0) fun r29 => if r29 = 0 then (some (-1 : Int32)) else (ob (f_X0_dividendIfFinished i25 v3 v4 v5 M0) fun r34 => some ((r34).toInt32))) else (some (-1 : Int32))
set_option maxRecDepth 100000 in
set_option maxHeartbeats 4000000 in
theorem ok_X3_odds (l : Launch) (D : va_G) (cy : Nat → ClassId) (ad : Nat → Nat → Nat) (M0 : Mm) (sz : Nat) (v0 : Nat) (v1 : Int32) (v2 : Int32) (v3 : Int32) (v4 : Int32) (v5 : Int32) (r0 : Int32) (a0 : mA M0 1 v0 = true) (hf : f_X3_odds v0 v1 v2 v3 v4 v5 M0 = some r0) : Met l yX3_odds (Cond.code yX3_odds cX3_odds 7 (some .int) :: BW) { frames := 6, cells := 0, slots := 0, locals := 134 } (va_Pc [.ref (ad 1 v0), .int v1, .int v2, .int v3, .int v4, .int v5] (PRE D cy ad M0 sz)) (QI D cy ad M0 sz r0 M0) 0 0 (AA ad M0 sz) := by
  refine Met.ofW (cc := cX3_odds) (maxL := 7) (ret := (some .int)) (by decide) rfl ?_
  intro p e s m args below meth c s₁ B hml hv
  obtain ⟨rfl, rfl, hP0, hK, hN⟩ := hv
  have hx := B.exec
  have hb := B.bytes
  have hr := B.returns
  have hts0 := atoms_spec (ws := (Cond.code yX3_odds cX3_odds 7 (some .int) :: BW)) B.pre
  have hts : ∀ w ∈ BW, w.before ([.ref (ad 1 v0), .int v1, .int v2, .int v3, .int v4, .int v5] : List Value).toArray s = true := fun w h => hts0 w (List.mem_cons_of_mem _ h)
  have hown : s.vm.findClass RX3 = some m.cls := findClass_of_methodNamed B.named
  have hlocks := B.notSynchronized
  have hA : ∀ q : Nat, s.heap.size ≤ q → AA ad M0 s.heap.size q := fun q h => Or.inr h
  have C : Cx RX3 cX3_odds 7 (some .int) D cy (AA ad M0 s.heap.size) p s m ([.ref (ad 1 v0), .int v1, .int v2, .int v3, .int v4, .int v5] : List Value).toArray meth c := ⟨hx, hb, hr, hml, hown, hts, hlocks, hK, hN, hA⟩
  have hP := hp_self (sz := s.heap.size) hP0
  have hS : va_S (AA ad M0 s.heap.size) s.heap s.heap [] := va_S.rf
  have hl := lv_entry ([.ref (ad 1 v0), .int v1, .int v2, .int v3, .int v4, .int v5]) (n := 7) (Nat.le_of_ble_eq_true rfl)
  rw [lg_entry_eq]
  generalize (lg_sl ([.ref (ad 1 v0), .int v1, .int v2, .int v3, .int v4, .int v5]) ++ List.replicate (7 - (lg_sl ([.ref (ad 1 v0), .int v1, .int v2, .int v3, .int v4, .int v5])).length) Slot.unset).toArray = ls at hl ⊢
  have hl : lv_has ls 7 [(0, .ref (ad 1 v0)), (1, .int v1), (2, .int v2), (3, .int v3), (4, .int v4), (5, .int v5)] := hl
  unfold f_X3_odds at hf
  refine lv_aload_n hx hb dX3_odds_0 rfl (lv_at hl 0 rfl) ?_
  refine lv_iload_n hx hb dX3_odds_1 rfl (lv_at hl 1 rfl) ?_
  refine lv_iload_n hx hb dX3_odds_2 rfl (lv_at hl 2 rfl) ?_
  obtain ⟨r20, e19, hf⟩ := ob_some hf
  refine hp_callq (va_runV (As := [.int v1, .int v2]) (rest := []) ⟨hx, hb, hml, hown, hts⟩ (ok_X3_poolOf l D cy ad M0 _ v0 v1 v2 r20 a0 e19) (cwV 2 hts (gdV q267 q269 q5 q85 q270) rfl rfl rfl (by decide +kernel) ⟨Nat.le_of_ble_eq_true rfl, Nat.le_of_ble_eq_true rfl⟩) (pre_V hP hK hN a0 ds_1 rfl) rfl rfl hl.1 rfl (lv_room (Nat.le_of_ble_eq_true rfl)) dX3_odds_3 ⟨Nat.le_of_ble_eq_true rfl, Nat.le_of_ble_eq_true rfl⟩) hP hS hA (fun H locs hP hS _ h23 => ?_)
  refine hp_astore (r := (r20).map (ad 7)) (lv' := [(6, va_rf ((r20).map (ad 7))), (0, .ref (ad 1 v0)), (1, .int v1), (2, .int v2), (3, .int v3), (4, .int v4), (5, .int v5)]) hx hb dX3_odds_6 hl (by decide) rfl (fun ls hl => ?_)
  refine hp_aload (r := (r20).map (ad 7)) hx hb dX3_odds_8 (lv_at hl 0 rfl) ?_
  rcases on_c hf with ⟨e24, hf⟩ | ⟨i25, e24, hf⟩
  · refine W_top (y := .null) (by rw [e24]; rfl) ?_
    refine lv_ifnullN (tgt := 34) hx hb dX3_odds_10 (by decide) ?_
    refine lv_iconst (v := (-1 : Int32)) hx hb dX3_odds_34 (by decide) ?_
    exact hp_iret hx hb hr hlocks (Option.some.inj hf) rfl hP hS keep_rf dX3_odds_35
  · have h26 : mA M0 7 i25 = true := h23 i25 e24
    rw [e24] at hl
    have hl : lv_has ls 7 [(6, .ref (ad 7 i25)), (0, .ref (ad 1 v0)), (1, .int v1), (2, .int v2), (3, .int v3), (4, .int v4), (5, .int v5)] := hl
    refine W_stk (st := [va_rf ((r20).map (ad 7))]) (st' := [.ref (ad 7 i25)]) (by first | (rw [e24]; done) | (rw [e24]; rfl)) ?_
    refine lv_ifnull hx hb dX3_odds_10 ?_
    refine lv_aload hx hb dX3_odds_13 (lv_at hl 0 rfl) ?_
    refine gf7N (v := .int (mI M0 7 i25 6)) hx hb hts hown hK hP h26 6 (by decide) (va_Nw.use rfl (hN.1 (RX3, 170, "ToteHouse$Pool", "state", "I", RX3) (List.mem_of_getElem? (i := 11) rfl))) rfl rfl dX3_odds_15 ?_
    refine lv_if_ne (tgt := 34) hx hb dX3_odds_18 (by decide) (fun c27 => ?_) (fun c27 => ?_)
    · have hf := if_f hf c27
      refine lv_iconst (v := (-1 : Int32)) hx hb dX3_odds_34 (by decide) ?_
      exact hp_iret hx hb hr hlocks (Option.some.inj hf) rfl hP hS keep_rf dX3_odds_35
    · have hf := if_t hf c27
      refine lv_aload hx hb dX3_odds_21 (lv_at hl 0 rfl) ?_
      refine lv_iload_n hx hb dX3_odds_23 rfl (lv_at hl 4 rfl) ?_
      refine lv_iload hx hb dX3_odds_24 (lv_at hl 5 rfl) ?_
      refine lv_iload hx hb dX3_odds_26 (lv_at hl 6 rfl) ?_
      obtain ⟨r29, e28, hf⟩ := ob_some hf
      refine hp_calli (va_runVN (As := [.int v3, .int v4, .int v5]) (rest := []) ⟨hx, hb, hml, hown, hts⟩ (ok_X0_canFinish l D cy ad M0 _ i25 v3 v4 v5 r29 h26 e28) ⟨va_cnB 3 hts (gd0 q532) rfl rfl rfl (hN.2.1 (RX3, 171, yX0_canFinish, RX3) (List.mem_of_getElem? (i := 28) rfl)) (hts _ q88) (by decide +kernel) ⟨Nat.le_of_ble_eq_true rfl, Nat.le_of_ble_eq_true rfl⟩, hts _ q531, hts _ q45⟩ (pre_V hP hK hN h26 ds_7 rfl) rfl rfl hl.1 rfl (lv_room (Nat.le_of_ble_eq_true rfl)) dX3_odds_28 ⟨Nat.le_of_ble_eq_true rfl, Nat.le_of_ble_eq_true rfl⟩) hP hS hA (fun H locs hP hS _ => ?_)
      refine lv_if_ne (tgt := 36) hx hb dX3_odds_31 (by decide) (fun c32 => ?_) (fun c32 => ?_)
      · have hf := if_f hf c32
        refine lv_aload hx hb dX3_odds_36 (lv_at hl 0 rfl) ?_
        refine lv_iload_n hx hb dX3_odds_38 rfl (lv_at hl 4 rfl) ?_
        refine lv_iload hx hb dX3_odds_39 (lv_at hl 5 rfl) ?_
        refine lv_iload hx hb dX3_odds_41 (lv_at hl 6 rfl) ?_
        obtain ⟨r34, e33, hf⟩ := ob_some hf
        refine hp_calll (va_runVN (As := [.int v3, .int v4, .int v5]) (rest := []) ⟨hx, hb, hml, hown, hts⟩ (ok_X0_dividendIfFinished l D cy ad M0 _ i25 v3 v4 v5 r34 h26 e33) ⟨va_cnB 3 hts (gd0 q541) rfl rfl rfl (hN.2.1 (RX3, 174, yX0_dividendIfFinished, RX3) (List.mem_of_getElem? (i := 30) rfl)) (hts _ q88) (by decide +kernel) ⟨Nat.le_of_ble_eq_true rfl, Nat.le_of_ble_eq_true rfl⟩, hts _ q540, hts _ q47⟩ (pre_V hP hK hN h26 ds_7 rfl) rfl rfl hl.1 rfl (lv_room (Nat.le_of_ble_eq_true rfl)) dX3_odds_43 ⟨Nat.le_of_ble_eq_true rfl, Nat.le_of_ble_eq_true rfl⟩) hP hS hA (fun H locs hP hS _ => ?_)
        refine lv_l2i hx hb dX3_odds_46 rfl ?_
        exact hp_iret hx hb hr hlocks (Option.some.inj hf) rfl hP hS keep_rf dX3_odds_47
      · have hf := if_t hf c32
        refine lv_iconst (v := (-1 : Int32)) hx hb dX3_odds_34 (by decide) ?_
        exact hp_iret hx hb hr hlocks (Option.some.inj hf) rfl hP hS keep_rf dX3_odds_35

def f_X3_dividend (v0 : Nat) (v1 : Int32) (v2 : Int32) (v3 : Int32) (v4 : Int32) (v5 : Int32) (M0 : Mm) : Option Int32 :=
  ob (f_X3_poolOf v0 v1 v2 M0) fun r20 => on r20 (some (-1 : Int32)) fun i25 => if (mI M0 7 i25 6) = 0 then (some (-1 : Int32)) else (ob (f_X0_canBeNamed i25 v3 v4 v5 M0) fun r29 => if r29 = 0 then (some (-1 : Int32)) else (ob (f_X0_dividendOf i25 v3 v4 v5 M0) fun r34 => some ((r34).toInt32)))
set_option maxRecDepth 100000 in
set_option maxHeartbeats 4000000 in
theorem ok_X3_dividend (l : Launch) (D : va_G) (cy : Nat → ClassId) (ad : Nat → Nat → Nat) (M0 : Mm) (sz : Nat) (v0 : Nat) (v1 : Int32) (v2 : Int32) (v3 : Int32) (v4 : Int32) (v5 : Int32) (r0 : Int32) (a0 : mA M0 1 v0 = true) (hf : f_X3_dividend v0 v1 v2 v3 v4 v5 M0 = some r0) : Met l yX3_dividend (Cond.code yX3_dividend cX3_dividend 7 (some .int) :: BW) { frames := 4, cells := 0, slots := 0, locals := 95 } (va_Pc [.ref (ad 1 v0), .int v1, .int v2, .int v3, .int v4, .int v5] (PRE D cy ad M0 sz)) (QI D cy ad M0 sz r0 M0) 0 0 (AA ad M0 sz) := by
  refine Met.ofW (cc := cX3_dividend) (maxL := 7) (ret := (some .int)) (by decide) rfl ?_
  intro p e s m args below meth c s₁ B hml hv
  obtain ⟨rfl, rfl, hP0, hK, hN⟩ := hv
  have hx := B.exec
  have hb := B.bytes
  have hr := B.returns
  have hts0 := atoms_spec (ws := (Cond.code yX3_dividend cX3_dividend 7 (some .int) :: BW)) B.pre
  have hts : ∀ w ∈ BW, w.before ([.ref (ad 1 v0), .int v1, .int v2, .int v3, .int v4, .int v5] : List Value).toArray s = true := fun w h => hts0 w (List.mem_cons_of_mem _ h)
  have hown : s.vm.findClass RX3 = some m.cls := findClass_of_methodNamed B.named
  have hlocks := B.notSynchronized
  have hA : ∀ q : Nat, s.heap.size ≤ q → AA ad M0 s.heap.size q := fun q h => Or.inr h
  have C : Cx RX3 cX3_dividend 7 (some .int) D cy (AA ad M0 s.heap.size) p s m ([.ref (ad 1 v0), .int v1, .int v2, .int v3, .int v4, .int v5] : List Value).toArray meth c := ⟨hx, hb, hr, hml, hown, hts, hlocks, hK, hN, hA⟩
  have hP := hp_self (sz := s.heap.size) hP0
  have hS : va_S (AA ad M0 s.heap.size) s.heap s.heap [] := va_S.rf
  have hl := lv_entry ([.ref (ad 1 v0), .int v1, .int v2, .int v3, .int v4, .int v5]) (n := 7) (Nat.le_of_ble_eq_true rfl)
  rw [lg_entry_eq]
  generalize (lg_sl ([.ref (ad 1 v0), .int v1, .int v2, .int v3, .int v4, .int v5]) ++ List.replicate (7 - (lg_sl ([.ref (ad 1 v0), .int v1, .int v2, .int v3, .int v4, .int v5])).length) Slot.unset).toArray = ls at hl ⊢
  have hl : lv_has ls 7 [(0, .ref (ad 1 v0)), (1, .int v1), (2, .int v2), (3, .int v3), (4, .int v4), (5, .int v5)] := hl
  unfold f_X3_dividend at hf
  refine lv_aload_n hx hb dX3_dividend_0 rfl (lv_at hl 0 rfl) ?_
  refine lv_iload_n hx hb dX3_dividend_1 rfl (lv_at hl 1 rfl) ?_
  refine lv_iload_n hx hb dX3_dividend_2 rfl (lv_at hl 2 rfl) ?_
  obtain ⟨r20, e19, hf⟩ := ob_some hf
  refine hp_callq (va_runV (As := [.int v1, .int v2]) (rest := []) ⟨hx, hb, hml, hown, hts⟩ (ok_X3_poolOf l D cy ad M0 _ v0 v1 v2 r20 a0 e19) (cwV 2 hts (gdV q267 q269 q5 q85 q270) rfl rfl rfl (by decide +kernel) ⟨Nat.le_of_ble_eq_true rfl, Nat.le_of_ble_eq_true rfl⟩) (pre_V hP hK hN a0 ds_1 rfl) rfl rfl hl.1 rfl (lv_room (Nat.le_of_ble_eq_true rfl)) dX3_dividend_3 ⟨Nat.le_of_ble_eq_true rfl, Nat.le_of_ble_eq_true rfl⟩) hP hS hA (fun H locs hP hS _ h23 => ?_)
  refine hp_astore (r := (r20).map (ad 7)) (lv' := [(6, va_rf ((r20).map (ad 7))), (0, .ref (ad 1 v0)), (1, .int v1), (2, .int v2), (3, .int v3), (4, .int v4), (5, .int v5)]) hx hb dX3_dividend_6 hl (by decide) rfl (fun ls hl => ?_)
  refine hp_aload (r := (r20).map (ad 7)) hx hb dX3_dividend_8 (lv_at hl 0 rfl) ?_
  rcases on_c hf with ⟨e24, hf⟩ | ⟨i25, e24, hf⟩
  · refine W_top (y := .null) (by rw [e24]; rfl) ?_
    refine lv_ifnullN (tgt := 34) hx hb dX3_dividend_10 (by decide) ?_
    refine lv_iconst (v := (-1 : Int32)) hx hb dX3_dividend_34 (by decide) ?_
    exact hp_iret hx hb hr hlocks (Option.some.inj hf) rfl hP hS keep_rf dX3_dividend_35
  · have h26 : mA M0 7 i25 = true := h23 i25 e24
    rw [e24] at hl
    have hl : lv_has ls 7 [(6, .ref (ad 7 i25)), (0, .ref (ad 1 v0)), (1, .int v1), (2, .int v2), (3, .int v3), (4, .int v4), (5, .int v5)] := hl
    refine W_stk (st := [va_rf ((r20).map (ad 7))]) (st' := [.ref (ad 7 i25)]) (by first | (rw [e24]; done) | (rw [e24]; rfl)) ?_
    refine lv_ifnull hx hb dX3_dividend_10 ?_
    refine lv_aload hx hb dX3_dividend_13 (lv_at hl 0 rfl) ?_
    refine gf7N (v := .int (mI M0 7 i25 6)) hx hb hts hown hK hP h26 6 (by decide) (va_Nw.use rfl (hN.1 (RX3, 170, "ToteHouse$Pool", "state", "I", RX3) (List.mem_of_getElem? (i := 11) rfl))) rfl rfl dX3_dividend_15 ?_
    refine lv_if_eq (tgt := 34) hx hb dX3_dividend_18 (by decide) (fun c27 => ?_) (fun c27 => ?_)
    · have hf := if_t hf c27
      refine lv_iconst (v := (-1 : Int32)) hx hb dX3_dividend_34 (by decide) ?_
      exact hp_iret hx hb hr hlocks (Option.some.inj hf) rfl hP hS keep_rf dX3_dividend_35
    · have hf := if_f hf c27
      refine lv_aload hx hb dX3_dividend_21 (lv_at hl 0 rfl) ?_
      refine lv_iload_n hx hb dX3_dividend_23 rfl (lv_at hl 4 rfl) ?_
      refine lv_iload hx hb dX3_dividend_24 (lv_at hl 5 rfl) ?_
      refine lv_iload hx hb dX3_dividend_26 (lv_at hl 6 rfl) ?_
      obtain ⟨r29, e28, hf⟩ := ob_some hf
      refine hp_calli (va_runVN (As := [.int v3, .int v4, .int v5]) (rest := []) ⟨hx, hb, hml, hown, hts⟩ (ok_X0_canBeNamed l D cy ad M0 _ i25 v3 v4 v5 r29 h26 e28) ⟨va_cnB 3 hts (gd0 q360) rfl rfl rfl (hN.2.1 (RX3, 115, yX0_canBeNamed, RX3) (List.mem_of_getElem? (i := 12) rfl)) (hts _ q88) (by decide +kernel) ⟨Nat.le_of_ble_eq_true rfl, Nat.le_of_ble_eq_true rfl⟩, hts _ q359, hts _ q14⟩ (pre_V hP hK hN h26 ds_7 rfl) rfl rfl hl.1 rfl (lv_room (Nat.le_of_ble_eq_true rfl)) dX3_dividend_28 ⟨Nat.le_of_ble_eq_true rfl, Nat.le_of_ble_eq_true rfl⟩) hP hS hA (fun H locs hP hS _ => ?_)
      refine lv_if_ne (tgt := 36) hx hb dX3_dividend_31 (by decide) (fun c32 => ?_) (fun c32 => ?_)
      · have hf := if_f hf c32
        refine lv_aload hx hb dX3_dividend_36 (lv_at hl 0 rfl) ?_
        refine lv_iload_n hx hb dX3_dividend_38 rfl (lv_at hl 4 rfl) ?_
        refine lv_iload hx hb dX3_dividend_39 (lv_at hl 5 rfl) ?_
        refine lv_iload hx hb dX3_dividend_41 (lv_at hl 6 rfl) ?_
        obtain ⟨r34, e33, hf⟩ := ob_some hf
        refine hp_calll (va_runVN (As := [.int v3, .int v4, .int v5]) (rest := []) ⟨hx, hb, hml, hown, hts⟩ (ok_X0_dividendOf l D cy ad M0 _ i25 v3 v4 v5 r34 h26 e33) ⟨va_cnB 3 hts (gd0 q549) rfl rfl rfl (hN.2.1 (RX3, 177, yX0_dividendOf, RX3) (List.mem_of_getElem? (i := 31) rfl)) (hts _ q88) (by decide +kernel) ⟨Nat.le_of_ble_eq_true rfl, Nat.le_of_ble_eq_true rfl⟩, hts _ q548, hts _ q48⟩ (pre_V hP hK hN h26 ds_7 rfl) rfl rfl hl.1 rfl (lv_room (Nat.le_of_ble_eq_true rfl)) dX3_dividend_43 ⟨Nat.le_of_ble_eq_true rfl, Nat.le_of_ble_eq_true rfl⟩) hP hS hA (fun H locs hP hS _ => ?_)
        refine lv_l2i hx hb dX3_dividend_46 rfl ?_
        exact hp_iret hx hb hr hlocks (Option.some.inj hf) rfl hP hS keep_rf dX3_dividend_47
      · have hf := if_t hf c32
        refine lv_iconst (v := (-1 : Int32)) hx hb dX3_dividend_34 (by decide) ?_
        exact hp_iret hx hb hr hlocks (Option.some.inj hf) rfl hP hS keep_rf dX3_dividend_35

def f_X3_pay (v0 : Nat) (v1 : Int32) (M0 : Mm) : Option (Int64 × Mm) :=
  ob (f_X3_ticketNumbered v0 v1 M0) fun r35 => on r35 (some ((-3 : Int64), M0)) fun i40 => if (mI M0 8 i40 6) = (1 : Int32) then (some ((-3 : Int64), M0)) else (if (mI M0 8 i40 6) = (2 : Int32) then (some ((0 : Int64), M0)) else (if (mI M0 8 i40 6) = (3 : Int32) then (some ((-1 : Int64), M0)) else (ob (mR M0 8 i40 0) fun i46 => if (mI M0 7 i46 6) = 0 then (some ((-2 : Int64), M0)) else (ob (f_X0_isWon i46 (mI M0 8 i40 3) (mI M0 8 i40 4) (mI M0 8 i40 5) M0) fun r51 => if r51 = 0 then (some ((0 : Int64), M0)) else (ob (f_X0_dividendOf i46 (mI M0 8 i40 3) (mI M0 8 i40 4) (mI M0 8 i40 5) M0) fun r56 => lt ((((mI M0 8 i40 2)).toInt64) * r56) fun x59 => lt (sI M0 8 i40 6 (3 : Int32)) fun M61 => lt (sJ M61 7 i46 16 ((mJ M61 7 i46 16) + x59)) fun M64 => some (x59, M64))))))
set_option maxRecDepth 100000 in
set_option maxHeartbeats 4000000 in
theorem ok_X3_pay (l : Launch) (D : va_G) (cy : Nat → ClassId) (ad : Nat → Nat → Nat) (M0 : Mm) (sz : Nat) (v0 : Nat) (v1 : Int32) (r0 : Int64) (M' : Mm) (a0 : mA M0 1 v0 = true) (hf : f_X3_pay v0 v1 M0 = some (r0, M')) : Met l yX3_pay (Cond.code yX3_pay cX3_pay 6 (some .long) :: BW) { frames := 4, cells := 0, slots := 0, locals := 95 } (va_Pc [.ref (ad 1 v0), .int v1] (PRE D cy ad M0 sz)) (QJ D cy ad M0 sz r0 M') 0 0 (AA ad M0 sz) := by
  refine Met.ofW (cc := cX3_pay) (maxL := 6) (ret := (some .long)) (by decide) rfl ?_
  intro p e s m args below meth c s₁ B hml hv
  obtain ⟨rfl, rfl, hP0, hK, hN⟩ := hv
  have hx := B.exec
  have hb := B.bytes
  have hr := B.returns
  have hts0 := atoms_spec (ws := (Cond.code yX3_pay cX3_pay 6 (some .long) :: BW)) B.pre
  have hts : ∀ w ∈ BW, w.before ([.ref (ad 1 v0), .int v1] : List Value).toArray s = true := fun w h => hts0 w (List.mem_cons_of_mem _ h)
  have hown : s.vm.findClass RX3 = some m.cls := findClass_of_methodNamed B.named
  have hlocks := B.notSynchronized
  have hA : ∀ q : Nat, s.heap.size ≤ q → AA ad M0 s.heap.size q := fun q h => Or.inr h
  have C : Cx RX3 cX3_pay 6 (some .long) D cy (AA ad M0 s.heap.size) p s m ([.ref (ad 1 v0), .int v1] : List Value).toArray meth c := ⟨hx, hb, hr, hml, hown, hts, hlocks, hK, hN, hA⟩
  have hP := hp_self (sz := s.heap.size) hP0
  have hS : va_S (AA ad M0 s.heap.size) s.heap s.heap [] := va_S.rf
  have hl := lv_entry ([.ref (ad 1 v0), .int v1]) (n := 6) (Nat.le_of_ble_eq_true rfl)
  rw [lg_entry_eq]
  generalize (lg_sl ([.ref (ad 1 v0), .int v1]) ++ List.replicate (6 - (lg_sl ([.ref (ad 1 v0), .int v1])).length) Slot.unset).toArray = ls at hl ⊢
  have hl : lv_has ls 6 [(0, .ref (ad 1 v0)), (1, .int v1)] := hl
  unfold f_X3_pay at hf
  refine lv_aload_n hx hb dX3_pay_0 rfl (lv_at hl 0 rfl) ?_
  refine lv_iload_n hx hb dX3_pay_1 rfl (lv_at hl 1 rfl) ?_
  obtain ⟨r35, e34, hf⟩ := ob_some hf
  refine hp_callq (va_runV (As := [.int v1]) (rest := []) ⟨hx, hb, hml, hown, hts⟩ (ok_X3_ticketNumbered l D cy ad M0 _ v0 v1 r35 a0 e34) (cwV 1 hts (gdV q345 q347 q13 q85 q348) rfl rfl rfl (by decide +kernel) ⟨Nat.le_of_ble_eq_true rfl, Nat.le_of_ble_eq_true rfl⟩) (pre_V hP hK hN a0 ds_1 rfl) rfl rfl hl.1 rfl (lv_room (Nat.le_of_ble_eq_true rfl)) dX3_pay_2 ⟨Nat.le_of_ble_eq_true rfl, Nat.le_of_ble_eq_true rfl⟩) hP hS hA (fun H locs hP hS _ h38 => ?_)
  refine hp_astore_n (r := (r35).map (ad 8)) (lv' := [(2, va_rf ((r35).map (ad 8))), (0, .ref (ad 1 v0)), (1, .int v1)]) hx hb dX3_pay_5 rfl hl (by decide) rfl (fun ls hl => ?_)
  refine hp_aload_n (r := (r35).map (ad 8)) hx hb dX3_pay_6 rfl (lv_at hl 0 rfl) ?_
  rcases on_c hf with ⟨e39, hf⟩ | ⟨i40, e39, hf⟩
  · refine W_top (y := .null) (by rw [e39]; rfl) ?_
    refine lv_ifnullN (tgt := 18) hx hb dX3_pay_7 (by decide) ?_
    refine lv_ldc2 (v := (-3 : Int64)) hx hb hown (hts _ q554) dX3_pay_18 ?_
    exact hp_lret hx hb hr hlocks (congrArg Prod.fst (Option.some.inj hf)) (congrArg Prod.snd (Option.some.inj hf)) hP hS keep_rf dX3_pay_21
  · have h41 : mA M0 8 i40 = true := h38 i40 e39
    rw [e39] at hl
    have hl : lv_has ls 6 [(2, .ref (ad 8 i40)), (0, .ref (ad 1 v0)), (1, .int v1)] := hl
    refine W_stk (st := [va_rf ((r35).map (ad 8))]) (st' := [.ref (ad 8 i40)]) (by first | (rw [e39]; done) | (rw [e39]; rfl)) ?_
    refine lv_ifnull hx hb dX3_pay_7 ?_
    refine lv_aload_n hx hb dX3_pay_10 rfl (lv_at hl 0 rfl) ?_
    refine gf8N (v := .int (mI M0 8 i40 6)) hx hb hts hown hK hP h41 6 (by decide) (va_Nw.use rfl (hN.1 (RX3, 89, "ToteHouse$Ticket", "state", "I", RX3) (List.mem_of_getElem? (i := 30) rfl))) rfl rfl dX3_pay_11 ?_
    refine lv_iconst (v := (1 : Int32)) hx hb dX3_pay_14 (by decide) ?_
    refine lv_icmp_ne (tgt := 22) hx hb dX3_pay_15 (by decide) (fun c42 => ?_) (fun c42 => ?_)
    · have hf := if_f hf c42
      refine lv_aload_n hx hb dX3_pay_22 rfl (lv_at hl 0 rfl) ?_
      refine gf8N (v := .int (mI M0 8 i40 6)) hx hb hts hown hK hP h41 6 (by decide) (va_Nw.use rfl (hN.1 (RX3, 89, "ToteHouse$Ticket", "state", "I", RX3) (List.mem_of_getElem? (i := 30) rfl))) rfl rfl dX3_pay_23 ?_
      refine lv_iconst (v := (2 : Int32)) hx hb dX3_pay_26 (by decide) ?_
      refine lv_icmp_ne (tgt := 32) hx hb dX3_pay_27 (by decide) (fun c43 => ?_) (fun c43 => ?_)
      · have hf := if_f hf c43
        refine lv_aload_n hx hb dX3_pay_32 rfl (lv_at hl 0 rfl) ?_
        refine gf8N (v := .int (mI M0 8 i40 6)) hx hb hts hown hK hP h41 6 (by decide) (va_Nw.use rfl (hN.1 (RX3, 89, "ToteHouse$Ticket", "state", "I", RX3) (List.mem_of_getElem? (i := 30) rfl))) rfl rfl dX3_pay_33 ?_
        refine lv_iconst (v := (3 : Int32)) hx hb dX3_pay_36 (by decide) ?_
        refine lv_icmp_ne (tgt := 44) hx hb dX3_pay_37 (by decide) (fun c44 => ?_) (fun c44 => ?_)
        · have hf := if_f hf c44
          refine lv_aload_n hx hb dX3_pay_44 rfl (lv_at hl 0 rfl) ?_
          have h45 : ∀ j : Nat, (mR M0 8 i40 0) = some j → mA M0 7 j = true := fun j hj => hp_wf hP h41 hj
          refine gf8N (v := va_rf (((mR M0 8 i40 0)).map (ad 7))) hx hb hts hown hK hP h41 0 (by decide) (va_Nw.use rfl (hN.1 (RX3, 90, "ToteHouse$Ticket", "pool", "LToteHouse$Pool;", RX3) (List.mem_of_getElem? (i := 20) rfl))) rfl rfl dX3_pay_45 ?_
          refine hp_astore_n (r := ((mR M0 8 i40 0)).map (ad 7)) (lv' := [(3, va_rf (((mR M0 8 i40 0)).map (ad 7))), (2, .ref (ad 8 i40)), (0, .ref (ad 1 v0)), (1, .int v1)]) hx hb dX3_pay_48 rfl hl (by decide) rfl (fun ls hl => ?_)
          refine hp_aload_n (r := ((mR M0 8 i40 0)).map (ad 7)) hx hb dX3_pay_49 rfl (lv_at hl 0 rfl) ?_
          obtain ⟨i46, e47, hf⟩ := ob_some hf
          have h48 : mA M0 7 i46 = true := h45 i46 e47
          rw [e47] at hl
          have hl : lv_has ls 6 [(3, .ref (ad 7 i46)), (2, .ref (ad 8 i40)), (0, .ref (ad 1 v0)), (1, .int v1)] := hl
          refine W_stk (st := [va_rf (((mR M0 8 i40 0)).map (ad 7))]) (st' := [.ref (ad 7 i46)]) (by first | (rw [e47]; done) | (rw [e47]; rfl)) ?_
          refine gf7N (v := .int (mI M0 7 i46 6)) hx hb hts hown hK hP h48 6 (by decide) (va_Nw.use rfl (hN.1 (RX3, 170, "ToteHouse$Pool", "state", "I", RX3) (List.mem_of_getElem? (i := 11) rfl))) rfl rfl dX3_pay_50 ?_
          refine lv_if_ne (tgt := 60) hx hb dX3_pay_53 (by decide) (fun c49 => ?_) (fun c49 => ?_)
          · have hf := if_f hf c49
            refine lv_aload_n hx hb dX3_pay_60 rfl (lv_at hl 0 rfl) ?_
            refine lv_aload_n hx hb dX3_pay_61 rfl (lv_at hl 1 rfl) ?_
            refine gf8N (v := .int (mI M0 8 i40 3)) hx hb hts hown hK hP h41 3 (by decide) (va_Nw.use rfl (hN.1 (RX3, 103, "ToteHouse$Ticket", "a", "I", RX3) (List.mem_of_getElem? (i := 24) rfl))) rfl rfl dX3_pay_62 ?_
            refine lv_aload_n hx hb dX3_pay_65 rfl (lv_at hl 1 rfl) ?_
            refine gf8N (v := .int (mI M0 8 i40 4)) hx hb hts hown hK hP h41 4 (by decide) (va_Nw.use rfl (hN.1 (RX3, 106, "ToteHouse$Ticket", "b", "I", RX3) (List.mem_of_getElem? (i := 26) rfl))) rfl rfl dX3_pay_66 ?_
            refine lv_aload_n hx hb dX3_pay_69 rfl (lv_at hl 1 rfl) ?_
            refine gf8N (v := .int (mI M0 8 i40 5)) hx hb hts hown hK hP h41 5 (by decide) (va_Nw.use rfl (hN.1 (RX3, 109, "ToteHouse$Ticket", "c", "I", RX3) (List.mem_of_getElem? (i := 28) rfl))) rfl rfl dX3_pay_70 ?_
            obtain ⟨r51, e50, hf⟩ := ob_some hf
            refine hp_calli (va_runVN (As := [.int (mI M0 8 i40 3), .int (mI M0 8 i40 4), .int (mI M0 8 i40 5)]) (rest := []) ⟨hx, hb, hml, hown, hts⟩ (ok_X0_isWon l D cy ad M0 _ i46 (mI M0 8 i40 3) (mI M0 8 i40 4) (mI M0 8 i40 5) r51 h48 e50) ⟨va_cnB 3 hts (gd0 q463) rfl rfl rfl (hN.2.1 (RX3, 184, yX0_isWon, RX3) (List.mem_of_getElem? (i := 32) rfl)) (hts _ q88) (by decide +kernel) ⟨Nat.le_of_ble_eq_true rfl, Nat.le_of_ble_eq_true rfl⟩, hts _ q462, hts _ q33⟩ (pre_V hP hK hN h48 ds_7 rfl) rfl rfl hl.1 rfl (lv_room (Nat.le_of_ble_eq_true rfl)) dX3_pay_73 ⟨Nat.le_of_ble_eq_true rfl, Nat.le_of_ble_eq_true rfl⟩) hP hS hA (fun H locs hP hS _ => ?_)
            refine lv_if_ne (tgt := 81) hx hb dX3_pay_76 (by decide) (fun c54 => ?_) (fun c54 => ?_)
            · have hf := if_f hf c54
              refine lv_aload_n hx hb dX3_pay_81 rfl (lv_at hl 1 rfl) ?_
              refine gf8N (v := .int (mI M0 8 i40 2)) hx hb hts hown hK hP h41 2 (by decide) (va_Nw.use rfl (hN.1 (RX3, 112, "ToteHouse$Ticket", "units", "I", RX3) (List.mem_of_getElem? (i := 22) rfl))) rfl rfl dX3_pay_82 ?_
              refine lv_i2l hx hb dX3_pay_85 rfl ?_
              refine lv_aload_n hx hb dX3_pay_86 rfl (lv_at hl 0 rfl) ?_
              refine lv_aload_n hx hb dX3_pay_87 rfl (lv_at hl 1 rfl) ?_
              refine gf8N (v := .int (mI M0 8 i40 3)) hx hb hts hown hK hP h41 3 (by decide) (va_Nw.use rfl (hN.1 (RX3, 103, "ToteHouse$Ticket", "a", "I", RX3) (List.mem_of_getElem? (i := 24) rfl))) rfl rfl dX3_pay_88 ?_
              refine lv_aload_n hx hb dX3_pay_91 rfl (lv_at hl 1 rfl) ?_
              refine gf8N (v := .int (mI M0 8 i40 4)) hx hb hts hown hK hP h41 4 (by decide) (va_Nw.use rfl (hN.1 (RX3, 106, "ToteHouse$Ticket", "b", "I", RX3) (List.mem_of_getElem? (i := 26) rfl))) rfl rfl dX3_pay_92 ?_
              refine lv_aload_n hx hb dX3_pay_95 rfl (lv_at hl 1 rfl) ?_
              refine gf8N (v := .int (mI M0 8 i40 5)) hx hb hts hown hK hP h41 5 (by decide) (va_Nw.use rfl (hN.1 (RX3, 109, "ToteHouse$Ticket", "c", "I", RX3) (List.mem_of_getElem? (i := 28) rfl))) rfl rfl dX3_pay_96 ?_
              obtain ⟨r56, e55, hf⟩ := ob_some hf
              refine hp_calll (va_runVN (As := [.int (mI M0 8 i40 3), .int (mI M0 8 i40 4), .int (mI M0 8 i40 5)]) (rest := [.long (((mI M0 8 i40 2)).toInt64)]) ⟨hx, hb, hml, hown, hts⟩ (ok_X0_dividendOf l D cy ad M0 _ i46 (mI M0 8 i40 3) (mI M0 8 i40 4) (mI M0 8 i40 5) r56 h48 e55) ⟨va_cnB 3 hts (gd0 q549) rfl rfl rfl (hN.2.1 (RX3, 177, yX0_dividendOf, RX3) (List.mem_of_getElem? (i := 31) rfl)) (hts _ q88) (by decide +kernel) ⟨Nat.le_of_ble_eq_true rfl, Nat.le_of_ble_eq_true rfl⟩, hts _ q548, hts _ q48⟩ (pre_V hP hK hN h48 ds_7 rfl) rfl rfl hl.1 rfl (lv_room (Nat.le_of_ble_eq_true rfl)) dX3_pay_99 ⟨Nat.le_of_ble_eq_true rfl, Nat.le_of_ble_eq_true rfl⟩) hP hS hA (fun H locs hP hS _ => ?_)
              refine lv_lmul hx hb dX3_pay_102 ?_
              obtain ⟨x59, e60, hf⟩ := lt_some hf
              refine W_topJ e60 ?_
              refine lv_lstore (lv' := [(4, .long x59), (3, .ref (ad 7 i46)), (2, .ref (ad 8 i40)), (0, .ref (ad 1 v0)), (1, .int v1)]) hx hb dX3_pay_103 hl (by decide) rfl (fun ls hl => ?_)
              refine lv_aload_n hx hb dX3_pay_105 rfl (lv_at hl 2 rfl) ?_
              refine lv_iconst (v := (3 : Int32)) hx hb dX3_pay_106 (by decide) ?_
              obtain ⟨M61, e62, hf⟩ := lt_some hf
              have hk63 : Keep M0 M61 := keI e62
              refine pI8N (v := (3 : Int32)) hx hb hts hown hK hP hS h41 6 (by decide) (va_Nw.use rfl (hN.1 (RX3, 89, "ToteHouse$Ticket", "state", "I", RX3) (List.mem_of_getElem? (i := 30) rfl))) rfl rfl rfl e62 dX3_pay_107 (fun H locs hP hS => ?_)
              refine lv_aload_n hx hb dX3_pay_110 rfl (lv_at hl 1 rfl) ?_
              refine lv_dup hx hb dX3_pay_111 rfl ?_
              refine gf7N (v := .long (mJ M61 7 i46 16)) hx hb hts hown hK hP (hk63 _ _ h48) 16 (by decide) (va_Nw.use rfl (hN.1 (RX3, 187, "ToteHouse$Pool", "paidOut", "J", RX3) (List.mem_of_getElem? (i := 19) rfl))) rfl rfl dX3_pay_112 ?_
              refine lv_lload hx hb dX3_pay_115 (lv_at hl 0 rfl) ?_
              refine lv_ladd hx hb dX3_pay_117 ?_
              obtain ⟨M64, e65, hf⟩ := lt_some hf
              have hk66 : Keep M61 M64 := keJ e65
              refine pJ7N (v := ((mJ M61 7 i46 16) + x59)) hx hb hts hown hK hP hS (hk63 _ _ h48) 16 (by decide) (va_Nw.use rfl (hN.1 (RX3, 187, "ToteHouse$Pool", "paidOut", "J", RX3) (List.mem_of_getElem? (i := 19) rfl))) rfl rfl rfl e65 dX3_pay_118 (fun H locs hP hS => ?_)
              refine lv_lload hx hb dX3_pay_121 (lv_at hl 0 rfl) ?_
              exact hp_lret hx hb hr hlocks (congrArg Prod.fst (Option.some.inj hf)) (congrArg Prod.snd (Option.some.inj hf)) hP hS (kt (kt keep_rf hk63) hk66) dX3_pay_123
            · have hf := if_t hf c54
              refine lv_lconst (v := (0 : Int64)) hx hb dX3_pay_79 (by decide) ?_
              exact hp_lret hx hb hr hlocks (congrArg Prod.fst (Option.some.inj hf)) (congrArg Prod.snd (Option.some.inj hf)) hP hS keep_rf dX3_pay_80
          · have hf := if_t hf c49
            refine lv_ldc2 (v := (-2 : Int64)) hx hb hown (hts _ q555) dX3_pay_56 ?_
            exact hp_lret hx hb hr hlocks (congrArg Prod.fst (Option.some.inj hf)) (congrArg Prod.snd (Option.some.inj hf)) hP hS keep_rf dX3_pay_59
        · have hf := if_t hf c44
          refine lv_ldc2 (v := (-1 : Int64)) hx hb hown (hts _ q391) dX3_pay_40 ?_
          exact hp_lret hx hb hr hlocks (congrArg Prod.fst (Option.some.inj hf)) (congrArg Prod.snd (Option.some.inj hf)) hP hS keep_rf dX3_pay_43
      · have hf := if_t hf c43
        refine lv_lconst (v := (0 : Int64)) hx hb dX3_pay_30 (by decide) ?_
        exact hp_lret hx hb hr hlocks (congrArg Prod.fst (Option.some.inj hf)) (congrArg Prod.snd (Option.some.inj hf)) hP hS keep_rf dX3_pay_31
    · have hf := if_t hf c42
      refine lv_ldc2 (v := (-3 : Int64)) hx hb hown (hts _ q554) dX3_pay_18 ?_
      exact hp_lret hx hb hr hlocks (congrArg Prod.fst (Option.some.inj hf)) (congrArg Prod.snd (Option.some.inj hf)) hP hS keep_rf dX3_pay_21

def f_X3_sum (v0 : Nat) (v1 : Int32) (v2 : Int32) (v3 : Int32) (M0 : Mm) : Option Int64 :=
  ob (f_X3_poolOf v0 v1 v2 M0) fun r34 => on r34 (some (-1 : Int64)) fun i39 => if v3 = (0 : Int32) then (ob (f_X0_stakedCents i39 M0) fun r43 => some r43) else (if v3 = (1 : Int32) then (ob (f_X0_centsThatAre i39 (2 : Int32) M0) fun r48 => some r48) else (if v3 = (2 : Int32) then (some (mJ M0 7 i39 10)) else (if v3 = (3 : Int32) then (some (mJ M0 7 i39 11)) else (if v3 = (4 : Int32) then (some (mJ M0 7 i39 12)) else (if v3 = (5 : Int32) then (some (mJ M0 7 i39 13)) else (if v3 = (6 : Int32) then (some (mJ M0 7 i39 15)) else (if v3 = (7 : Int32) then (some (mJ M0 7 i39 14)) else (if v3 = (8 : Int32) then (some (mJ M0 7 i39 16)) else (if v3 = (9 : Int32) then (ob (f_X0_liveUnits i39 M0) fun r60 => some r60) else (if v3 = (10 : Int32) then (some (((mI M0 7 i39 7)).toInt64)) else (if v3 = (11 : Int32) then (some (((mI M0 7 i39 6)).toInt64)) else (some (-1 : Int64)))))))))))))
set_option maxRecDepth 100000 in
set_option maxHeartbeats 4000000 in
theorem ok_X3_sum (l : Launch) (D : va_G) (cy : Nat → ClassId) (ad : Nat → Nat → Nat) (M0 : Mm) (sz : Nat) (v0 : Nat) (v1 : Int32) (v2 : Int32) (v3 : Int32) (r0 : Int64) (a0 : mA M0 1 v0 = true) (hf : f_X3_sum v0 v1 v2 v3 M0 = some r0) : Met l yX3_sum (Cond.code yX3_sum cX3_sum 5 (some .long) :: BW) { frames := 4, cells := 0, slots := 0, locals := 83 } (va_Pc [.ref (ad 1 v0), .int v1, .int v2, .int v3] (PRE D cy ad M0 sz)) (QJ D cy ad M0 sz r0 M0) 0 0 (AA ad M0 sz) := by
  refine Met.ofW (cc := cX3_sum) (maxL := 5) (ret := (some .long)) (by decide) rfl ?_
  intro p e s m args below meth c s₁ B hml hv
  obtain ⟨rfl, rfl, hP0, hK, hN⟩ := hv
  have hx := B.exec
  have hb := B.bytes
  have hr := B.returns
  have hts0 := atoms_spec (ws := (Cond.code yX3_sum cX3_sum 5 (some .long) :: BW)) B.pre
  have hts : ∀ w ∈ BW, w.before ([.ref (ad 1 v0), .int v1, .int v2, .int v3] : List Value).toArray s = true := fun w h => hts0 w (List.mem_cons_of_mem _ h)
  have hown : s.vm.findClass RX3 = some m.cls := findClass_of_methodNamed B.named
  have hlocks := B.notSynchronized
  have hA : ∀ q : Nat, s.heap.size ≤ q → AA ad M0 s.heap.size q := fun q h => Or.inr h
  have C : Cx RX3 cX3_sum 5 (some .long) D cy (AA ad M0 s.heap.size) p s m ([.ref (ad 1 v0), .int v1, .int v2, .int v3] : List Value).toArray meth c := ⟨hx, hb, hr, hml, hown, hts, hlocks, hK, hN, hA⟩
  have hP := hp_self (sz := s.heap.size) hP0
  have hS : va_S (AA ad M0 s.heap.size) s.heap s.heap [] := va_S.rf
  have hl := lv_entry ([.ref (ad 1 v0), .int v1, .int v2, .int v3]) (n := 5) (Nat.le_of_ble_eq_true rfl)
  rw [lg_entry_eq]
  generalize (lg_sl ([.ref (ad 1 v0), .int v1, .int v2, .int v3]) ++ List.replicate (5 - (lg_sl ([.ref (ad 1 v0), .int v1, .int v2, .int v3])).length) Slot.unset).toArray = ls at hl ⊢
  have hl : lv_has ls 5 [(0, .ref (ad 1 v0)), (1, .int v1), (2, .int v2), (3, .int v3)] := hl
  unfold f_X3_sum at hf
  refine lv_aload_n hx hb dX3_sum_0 rfl (lv_at hl 0 rfl) ?_
  refine lv_iload_n hx hb dX3_sum_1 rfl (lv_at hl 1 rfl) ?_
  refine lv_iload_n hx hb dX3_sum_2 rfl (lv_at hl 2 rfl) ?_
  obtain ⟨r34, e33, hf⟩ := ob_some hf
  refine hp_callq (va_runV (As := [.int v1, .int v2]) (rest := []) ⟨hx, hb, hml, hown, hts⟩ (ok_X3_poolOf l D cy ad M0 _ v0 v1 v2 r34 a0 e33) (cwV 2 hts (gdV q267 q269 q5 q85 q270) rfl rfl rfl (by decide +kernel) ⟨Nat.le_of_ble_eq_true rfl, Nat.le_of_ble_eq_true rfl⟩) (pre_V hP hK hN a0 ds_1 rfl) rfl rfl hl.1 rfl (lv_room (Nat.le_of_ble_eq_true rfl)) dX3_sum_3 ⟨Nat.le_of_ble_eq_true rfl, Nat.le_of_ble_eq_true rfl⟩) hP hS hA (fun H locs hP hS _ h37 => ?_)
  refine hp_astore (r := (r34).map (ad 7)) (lv' := [(4, va_rf ((r34).map (ad 7))), (0, .ref (ad 1 v0)), (1, .int v1), (2, .int v2), (3, .int v3)]) hx hb dX3_sum_6 hl (by decide) rfl (fun ls hl => ?_)
  refine hp_aload (r := (r34).map (ad 7)) hx hb dX3_sum_8 (lv_at hl 0 rfl) ?_
  rcases on_c hf with ⟨e38, hf⟩ | ⟨i39, e38, hf⟩
  · refine W_top (y := .null) (by rw [e38]; rfl) ?_
    refine lv_ifnonnullN hx hb dX3_sum_10 ?_
    refine lv_ldc2 (v := (-1 : Int64)) hx hb hown (hts _ q391) dX3_sum_13 ?_
    exact hp_lret hx hb hr hlocks (Option.some.inj hf) rfl hP hS keep_rf dX3_sum_16
  · have h40 : mA M0 7 i39 = true := h37 i39 e38
    rw [e38] at hl
    have hl : lv_has ls 5 [(4, .ref (ad 7 i39)), (0, .ref (ad 1 v0)), (1, .int v1), (2, .int v2), (3, .int v3)] := hl
    refine W_stk (st := [va_rf ((r34).map (ad 7))]) (st' := [.ref (ad 7 i39)]) (by first | (rw [e38]; done) | (rw [e38]; rfl)) ?_
    refine lv_ifnonnull (tgt := 17) hx hb dX3_sum_10 (by decide) ?_
    refine lv_iload_n hx hb dX3_sum_17 rfl (lv_at hl 4 rfl) ?_
    by_cases c41 : v3 = (0 : Int32)
    · have hf := if_t hf c41
      refine W_topI c41.symm ?_
      refine lv_tableIn (x := (0 : Int32)) (off := 62) (tgt := 80) hx hb dX3_sum_18 (by decide) (by decide) (by decide) (by decide) ?_
      refine lv_aload hx hb dX3_sum_80 (lv_at hl 0 rfl) ?_
      obtain ⟨r43, e42, hf⟩ := ob_some hf
      refine hp_calll (va_runVN (As := []) (rest := []) ⟨hx, hb, hml, hown, hts⟩ (ok_X0_stakedCents l D cy ad M0 _ i39 r43 h40 e42) ⟨va_cnB 0 hts (gd0 q564) rfl rfl rfl (hN.2.1 (RX3, 191, yX0_stakedCents, RX3) (List.mem_of_getElem? (i := 33) rfl)) (hts _ q88) (by decide +kernel) ⟨Nat.le_of_ble_eq_true rfl, Nat.le_of_ble_eq_true rfl⟩, hts _ q563, hts _ q49⟩ (pre_V hP hK hN h40 ds_7 rfl) rfl rfl hl.1 rfl (lv_room (Nat.le_of_ble_eq_true rfl)) dX3_sum_82 ⟨Nat.le_of_ble_eq_true rfl, Nat.le_of_ble_eq_true rfl⟩) hP hS hA (fun H locs hP hS _ => ?_)
      exact hp_lret hx hb hr hlocks (Option.some.inj hf) rfl hP hS keep_rf dX3_sum_85
    have hf := if_f hf c41
    by_cases c46 : v3 = (1 : Int32)
    · have hf := if_t hf c46
      refine W_topI c46.symm ?_
      refine lv_tableIn (x := (1 : Int32)) (off := 68) (tgt := 86) hx hb dX3_sum_18 (by decide) (by decide) (by decide) (by decide) ?_
      refine lv_aload hx hb dX3_sum_86 (lv_at hl 0 rfl) ?_
      refine lv_iconst (v := (2 : Int32)) hx hb dX3_sum_88 (by decide) ?_
      obtain ⟨r48, e47, hf⟩ := ob_some hf
      refine hp_calll (va_runVN (As := [.int (2 : Int32)]) (rest := []) ⟨hx, hb, hml, hown, hts⟩ (ok_X0_centsThatAre l D cy ad M0 _ i39 (2 : Int32) r48 h40 e47) ⟨va_cnB 1 hts (gd0 q568) rfl rfl rfl (hN.2.1 (RX3, 194, yX0_centsThatAre, RX3) (List.mem_of_getElem? (i := 35) rfl)) (hts _ q88) (by decide +kernel) ⟨Nat.le_of_ble_eq_true rfl, Nat.le_of_ble_eq_true rfl⟩, hts _ q567, hts _ q50⟩ (pre_V hP hK hN h40 ds_7 rfl) rfl rfl hl.1 rfl (lv_room (Nat.le_of_ble_eq_true rfl)) dX3_sum_89 ⟨Nat.le_of_ble_eq_true rfl, Nat.le_of_ble_eq_true rfl⟩) hP hS hA (fun H locs hP hS _ => ?_)
      exact hp_lret hx hb hr hlocks (Option.some.inj hf) rfl hP hS keep_rf dX3_sum_92
    have hf := if_f hf c46
    by_cases c51 : v3 = (2 : Int32)
    · have hf := if_t hf c51
      refine W_topI c51.symm ?_
      refine lv_tableIn (x := (2 : Int32)) (off := 75) (tgt := 93) hx hb dX3_sum_18 (by decide) (by decide) (by decide) (by decide) ?_
      refine lv_aload hx hb dX3_sum_93 (lv_at hl 0 rfl) ?_
      refine gf7N (v := .long (mJ M0 7 i39 10)) hx hb hts hown hK hP h40 10 (by decide) (va_Nw.use rfl (hN.1 (RX3, 197, "ToteHouse$Pool", "deducted", "J", RX3) (List.mem_of_getElem? (i := 13) rfl))) rfl rfl dX3_sum_95 ?_
      exact hp_lret hx hb hr hlocks (Option.some.inj hf) rfl hP hS keep_rf dX3_sum_98
    have hf := if_f hf c51
    by_cases c52 : v3 = (3 : Int32)
    · have hf := if_t hf c52
      refine W_topI c52.symm ?_
      refine lv_tableIn (x := (3 : Int32)) (off := 81) (tgt := 99) hx hb dX3_sum_18 (by decide) (by decide) (by decide) (by decide) ?_
      refine lv_aload hx hb dX3_sum_99 (lv_at hl 0 rfl) ?_
      refine gf7N (v := .long (mJ M0 7 i39 11)) hx hb hts hown hK hP h40 11 (by decide) (va_Nw.use rfl (hN.1 (RX3, 200, "ToteHouse$Pool", "due", "J", RX3) (List.mem_of_getElem? (i := 14) rfl))) rfl rfl dX3_sum_101 ?_
      exact hp_lret hx hb hr hlocks (Option.some.inj hf) rfl hP hS keep_rf dX3_sum_104
    have hf := if_f hf c52
    by_cases c53 : v3 = (4 : Int32)
    · have hf := if_t hf c53
      refine W_topI c53.symm ?_
      refine lv_tableIn (x := (4 : Int32)) (off := 87) (tgt := 105) hx hb dX3_sum_18 (by decide) (by decide) (by decide) (by decide) ?_
      refine lv_aload hx hb dX3_sum_105 (lv_at hl 0 rfl) ?_
      refine gf7N (v := .long (mJ M0 7 i39 12)) hx hb hts hown hK hP h40 12 (by decide) (va_Nw.use rfl (hN.1 (RX3, 203, "ToteHouse$Pool", "breakage", "J", RX3) (List.mem_of_getElem? (i := 15) rfl))) rfl rfl dX3_sum_107 ?_
      exact hp_lret hx hb hr hlocks (Option.some.inj hf) rfl hP hS keep_rf dX3_sum_110
    have hf := if_f hf c53
    by_cases c54 : v3 = (5 : Int32)
    · have hf := if_t hf c54
      refine W_topI c54.symm ?_
      refine lv_tableIn (x := (5 : Int32)) (off := 93) (tgt := 111) hx hb dX3_sum_18 (by decide) (by decide) (by decide) (by decide) ?_
      refine lv_aload hx hb dX3_sum_111 (lv_at hl 0 rfl) ?_
      refine gf7N (v := .long (mJ M0 7 i39 13)) hx hb hts hown hK hP h40 13 (by decide) (va_Nw.use rfl (hN.1 (RX3, 206, "ToteHouse$Pool", "houseCost", "J", RX3) (List.mem_of_getElem? (i := 16) rfl))) rfl rfl dX3_sum_113 ?_
      exact hp_lret hx hb hr hlocks (Option.some.inj hf) rfl hP hS keep_rf dX3_sum_116
    have hf := if_f hf c54
    by_cases c55 : v3 = (6 : Int32)
    · have hf := if_t hf c55
      refine W_topI c55.symm ?_
      refine lv_tableIn (x := (6 : Int32)) (off := 99) (tgt := 117) hx hb dX3_sum_18 (by decide) (by decide) (by decide) (by decide) ?_
      refine lv_aload hx hb dX3_sum_117 (lv_at hl 0 rfl) ?_
      refine gf7N (v := .long (mJ M0 7 i39 15)) hx hb hts hown hK hP h40 15 (by decide) (va_Nw.use rfl (hN.1 (RX3, 209, "ToteHouse$Pool", "carriedOut", "J", RX3) (List.mem_of_getElem? (i := 18) rfl))) rfl rfl dX3_sum_119 ?_
      exact hp_lret hx hb hr hlocks (Option.some.inj hf) rfl hP hS keep_rf dX3_sum_122
    have hf := if_f hf c55
    by_cases c56 : v3 = (7 : Int32)
    · have hf := if_t hf c56
      refine W_topI c56.symm ?_
      refine lv_tableIn (x := (7 : Int32)) (off := 105) (tgt := 123) hx hb dX3_sum_18 (by decide) (by decide) (by decide) (by decide) ?_
      refine lv_aload hx hb dX3_sum_123 (lv_at hl 0 rfl) ?_
      refine gf7N (v := .long (mJ M0 7 i39 14)) hx hb hts hown hK hP h40 14 (by decide) (va_Nw.use rfl (hN.1 (RX3, 212, "ToteHouse$Pool", "carriedIn", "J", RX3) (List.mem_of_getElem? (i := 17) rfl))) rfl rfl dX3_sum_125 ?_
      exact hp_lret hx hb hr hlocks (Option.some.inj hf) rfl hP hS keep_rf dX3_sum_128
    have hf := if_f hf c56
    by_cases c57 : v3 = (8 : Int32)
    · have hf := if_t hf c57
      refine W_topI c57.symm ?_
      refine lv_tableIn (x := (8 : Int32)) (off := 111) (tgt := 129) hx hb dX3_sum_18 (by decide) (by decide) (by decide) (by decide) ?_
      refine lv_aload hx hb dX3_sum_129 (lv_at hl 0 rfl) ?_
      refine gf7N (v := .long (mJ M0 7 i39 16)) hx hb hts hown hK hP h40 16 (by decide) (va_Nw.use rfl (hN.1 (RX3, 187, "ToteHouse$Pool", "paidOut", "J", RX3) (List.mem_of_getElem? (i := 19) rfl))) rfl rfl dX3_sum_131 ?_
      exact hp_lret hx hb hr hlocks (Option.some.inj hf) rfl hP hS keep_rf dX3_sum_134
    have hf := if_f hf c57
    by_cases c58 : v3 = (9 : Int32)
    · have hf := if_t hf c58
      refine W_topI c58.symm ?_
      refine lv_tableIn (x := (9 : Int32)) (off := 117) (tgt := 135) hx hb dX3_sum_18 (by decide) (by decide) (by decide) (by decide) ?_
      refine lv_aload hx hb dX3_sum_135 (lv_at hl 0 rfl) ?_
      obtain ⟨r60, e59, hf⟩ := ob_some hf
      refine hp_calll (va_runVN (As := []) (rest := []) ⟨hx, hb, hml, hown, hts⟩ (ok_X0_liveUnits l D cy ad M0 _ i39 r60 h40 e59) ⟨va_cnB 0 hts (gd0 q488) rfl rfl rfl (hN.2.1 (RX3, 215, yX0_liveUnits, RX3) (List.mem_of_getElem? (i := 36) rfl)) (hts _ q88) (by decide +kernel) ⟨Nat.le_of_ble_eq_true rfl, Nat.le_of_ble_eq_true rfl⟩, hts _ q487, hts _ q39⟩ (pre_V hP hK hN h40 ds_7 rfl) rfl rfl hl.1 rfl (lv_room (Nat.le_of_ble_eq_true rfl)) dX3_sum_137 ⟨Nat.le_of_ble_eq_true rfl, Nat.le_of_ble_eq_true rfl⟩) hP hS hA (fun H locs hP hS _ => ?_)
      exact hp_lret hx hb hr hlocks (Option.some.inj hf) rfl hP hS keep_rf dX3_sum_140
    have hf := if_f hf c58
    by_cases c63 : v3 = (10 : Int32)
    · have hf := if_t hf c63
      refine W_topI c63.symm ?_
      refine lv_tableIn (x := (10 : Int32)) (off := 123) (tgt := 141) hx hb dX3_sum_18 (by decide) (by decide) (by decide) (by decide) ?_
      refine lv_aload hx hb dX3_sum_141 (lv_at hl 0 rfl) ?_
      refine gf7N (v := .int (mI M0 7 i39 7)) hx hb hts hown hK hP h40 7 (by decide) (va_Nw.use rfl (hN.1 (RX3, 218, "ToteHouse$Pool", "winners", "I", RX3) (List.mem_of_getElem? (i := 12) rfl))) rfl rfl dX3_sum_143 ?_
      refine lv_i2l hx hb dX3_sum_146 rfl ?_
      exact hp_lret hx hb hr hlocks (Option.some.inj hf) rfl hP hS keep_rf dX3_sum_147
    have hf := if_f hf c63
    by_cases c64 : v3 = (11 : Int32)
    · have hf := if_t hf c64
      refine W_topI c64.symm ?_
      refine lv_tableIn (x := (11 : Int32)) (off := 130) (tgt := 148) hx hb dX3_sum_18 (by decide) (by decide) (by decide) (by decide) ?_
      refine lv_aload hx hb dX3_sum_148 (lv_at hl 0 rfl) ?_
      refine gf7N (v := .int (mI M0 7 i39 6)) hx hb hts hown hK hP h40 6 (by decide) (va_Nw.use rfl (hN.1 (RX3, 170, "ToteHouse$Pool", "state", "I", RX3) (List.mem_of_getElem? (i := 11) rfl))) rfl rfl dX3_sum_150 ?_
      refine lv_i2l hx hb dX3_sum_153 rfl ?_
      exact hp_lret hx hb hr hlocks (Option.some.inj hf) rfl hP hS keep_rf dX3_sum_154
    have hf := if_f hf c64
    have hsw : ∀ n : Nat, (n : Int) ≤ (11) - (0) → ¬ v3 = Int32.ofInt ((0) + (n : Int)) := by
      intro n hn
      have hn2 : n = 0 ∨ n = 1 ∨ n = 2 ∨ n = 3 ∨ n = 4 ∨ n = 5 ∨ n = 6 ∨ n = 7 ∨ n = 8 ∨ n = 9 ∨ n = 10 ∨ n = 11 := by omega
      rcases hn2 with rfl | rfl | rfl | rfl | rfl | rfl | rfl | rfl | rfl | rfl | rfl | rfl
      · exact fun z => c41 (z.trans (by decide))
      · exact fun z => c46 (z.trans (by decide))
      · exact fun z => c51 (z.trans (by decide))
      · exact fun z => c52 (z.trans (by decide))
      · exact fun z => c53 (z.trans (by decide))
      · exact fun z => c54 (z.trans (by decide))
      · exact fun z => c55 (z.trans (by decide))
      · exact fun z => c56 (z.trans (by decide))
      · exact fun z => c57 (z.trans (by decide))
      · exact fun z => c58 (z.trans (by decide))
      · exact fun z => c63 (z.trans (by decide))
      · exact fun z => c64 (z.trans (by decide))
    refine lv_tableOut (tgt := 155) hx hb dX3_sum_18 (sw_out hsw) (by decide) ?_
    refine lv_ldc2 (v := (-1 : Int64)) hx hb hown (hts _ q391) dX3_sum_155 ?_
    exact hp_lret hx hb hr hlocks (Option.some.inj hf) rfl hP hS keep_rf dX3_sum_158

def f_X3_unclaimedOf (v0 : Option Nat) (M0 : Mm) : Option Int64 :=
  on v0 (some (0 : Int64)) fun i5 => some ((mJ M0 7 i5 11) - (mJ M0 7 i5 16))
set_option maxRecDepth 100000 in
set_option maxHeartbeats 4000000 in
theorem ok_X3_unclaimedOf (l : Launch) (D : va_G) (cy : Nat → ClassId) (ad : Nat → Nat → Nat) (M0 : Mm) (sz : Nat) (v0 : Option Nat) (r0 : Int64) (a0 : ∀ j : Nat, v0 = some j → mA M0 7 j = true) (hf : f_X3_unclaimedOf v0 M0 = some r0) : Met l yX3_unclaimedOf (Cond.code yX3_unclaimedOf cX3_unclaimedOf 1 (some .long) :: BW) { frames := 0, cells := 0, slots := 0, locals := 0 } (va_Pc [va_rf (v0.map (ad 7))] (PRE D cy ad M0 sz)) (QJ D cy ad M0 sz r0 M0) 0 0 (AA ad M0 sz) := by
  refine Met.ofW (cc := cX3_unclaimedOf) (maxL := 1) (ret := (some .long)) (by decide) rfl ?_
  intro p e s m args below meth c s₁ B hml hv
  obtain ⟨rfl, rfl, hP0, hK, hN⟩ := hv
  have hx := B.exec
  have hb := B.bytes
  have hr := B.returns
  have hts0 := atoms_spec (ws := (Cond.code yX3_unclaimedOf cX3_unclaimedOf 1 (some .long) :: BW)) B.pre
  have hts : ∀ w ∈ BW, w.before ([va_rf (v0.map (ad 7))] : List Value).toArray s = true := fun w h => hts0 w (List.mem_cons_of_mem _ h)
  have hown : s.vm.findClass RX3 = some m.cls := findClass_of_methodNamed B.named
  have hlocks := B.notSynchronized
  have hA : ∀ q : Nat, s.heap.size ≤ q → AA ad M0 s.heap.size q := fun q h => Or.inr h
  have C : Cx RX3 cX3_unclaimedOf 1 (some .long) D cy (AA ad M0 s.heap.size) p s m ([va_rf (v0.map (ad 7))] : List Value).toArray meth c := ⟨hx, hb, hr, hml, hown, hts, hlocks, hK, hN, hA⟩
  have hP := hp_self (sz := s.heap.size) hP0
  have hS : va_S (AA ad M0 s.heap.size) s.heap s.heap [] := va_S.rf
  have hl := lv_entry ([va_rf (v0.map (ad 7))]) (n := 1) ((by cases v0 <;> exact Nat.le_of_ble_eq_true rfl))
  rw [lg_entry_eq]
  generalize (lg_sl ([va_rf (v0.map (ad 7))]) ++ List.replicate (1 - (lg_sl ([va_rf (v0.map (ad 7))])).length) Slot.unset).toArray = ls at hl ⊢
  have hl : lv_has ls 1 [(0, va_rf (v0.map (ad 7)))] := (by cases v0 <;> exact hl)
  unfold f_X3_unclaimedOf at hf
  refine hp_aload_n (r := (v0).map (ad 7)) hx hb dX3_unclaimedOf_0 rfl (lv_at hl 0 rfl) ?_
  rcases on_c hf with ⟨e4, hf⟩ | ⟨i5, e4, hf⟩
  · refine W_top (y := .null) (by rw [e4]; rfl) ?_
    refine lv_ifnonnullN hx hb dX3_unclaimedOf_1 ?_
    refine lv_lconst (v := (0 : Int64)) hx hb dX3_unclaimedOf_4 (by decide) ?_
    refine lv_goto (tgt := 17) hx hb dX3_unclaimedOf_5 (by decide) ?_
    exact hp_lret hx hb hr hlocks (Option.some.inj hf) rfl hP hS keep_rf dX3_unclaimedOf_17
  · have h6 : mA M0 7 i5 = true := a0 i5 e4
    rw [e4] at hl
    have hl : lv_has ls 1 [(0, .ref (ad 7 i5))] := hl
    refine W_stk (st := [va_rf ((v0).map (ad 7))]) (st' := [.ref (ad 7 i5)]) (by first | (rw [e4]; done) | (rw [e4]; rfl)) ?_
    refine lv_ifnonnull (tgt := 8) hx hb dX3_unclaimedOf_1 (by decide) ?_
    refine lv_aload_n hx hb dX3_unclaimedOf_8 rfl (lv_at hl 0 rfl) ?_
    refine gf7N (v := .long (mJ M0 7 i5 11)) hx hb hts hown hK hP h6 11 (by decide) (va_Nw.use rfl (hN.1 (RX3, 200, "ToteHouse$Pool", "due", "J", RX3) (List.mem_of_getElem? (i := 14) rfl))) rfl rfl dX3_unclaimedOf_9 ?_
    refine lv_aload_n hx hb dX3_unclaimedOf_12 rfl (lv_at hl 0 rfl) ?_
    refine gf7N (v := .long (mJ M0 7 i5 16)) hx hb hts hown hK hP h6 16 (by decide) (va_Nw.use rfl (hN.1 (RX3, 187, "ToteHouse$Pool", "paidOut", "J", RX3) (List.mem_of_getElem? (i := 19) rfl))) rfl rfl dX3_unclaimedOf_13 ?_
    refine lv_lsub hx hb dX3_unclaimedOf_16 ?_
    exact hp_lret hx hb hr hlocks (Option.some.inj hf) rfl hP hS keep_rf dX3_unclaimedOf_17
def f_X3_unclaimed_13 (M0 : Mm) (k4 : Nat → Int64 → Int32 → Option Int64) : Nat → Nat → Int64 → Int32 → Int32 → Option Int64
  | 0, _, _, _, _ => none
  | n + 1, v0, v1, v3, v4 => if (3 : Int32) < v4 then (lt (v3 + (1 : Int32)) fun x30 => k4 v0 v1 x30) else (ob (f_X3_poolOf v0 v3 v4 M0) fun r33 => ob (f_X3_unclaimedOf r33 M0) fun r38 => lt (v1 + r38) fun x41 => lt (v4 + (1 : Int32)) fun x43 => f_X3_unclaimed_13 M0 k4 n v0 x41 v3 x43)
def f_X3_unclaimed_4 (M0 : Mm) : Nat → Nat → Int64 → Int32 → Option Int64
  | 0, _, _, _ => none
  | n + 1, v0, v1, v3 => if (12 : Int32) < v3 then (ob (f_X3_unclaimedOf (mR M0 1 v0 3) M0) fun r26 => some (v1 + r26)) else (f_X3_unclaimed_13 M0 (f_X3_unclaimed_4 M0 n) FU v0 v1 v3 (0 : Int32))
def f_X3_unclaimed (v0 : Nat) (M0 : Mm) : Option Int64 :=
  f_X3_unclaimed_4 M0 FU v0 (0 : Int64) (1 : Int32)
set_option maxRecDepth 100000 in
set_option maxHeartbeats 4000000 in
theorem t_X3_unclaimed_13 {p : Program} {l : Launch} {e : Env} {s : State} {m : MethodId} {args : Array Value} {below : List Frame} {meth : Method} {c : Code} {D : va_G} {cy : Nat → ClassId} {ad : Nat → Nat → Nat} {M0 : Mm} {r0 : Int64} (C : Cx RX3 cX3_unclaimed 5 (some .long) D cy (AA ad M0 s.heap.size) p s m args meth c) (k4 : Nat → Int64 → Int32 → Option Int64) (hk4 : ∀ (v0 : Nat) (v1 : Int64) (v3 : Int32) (H : Heap) (locs : List Loc) (ls : Array Slot), (mA M0 1 v0 = true) → k4 v0 v1 v3 = some r0 → HP D cy (AA ad M0 s.heap.size) ad M0 H → va_S (AA ad M0 s.heap.size) s.heap H locs → lv_has ls 5 [(0, .ref (ad 1 v0)), (1, .long v1), (3, .int v3)] → W p l e { frames := 2, cells := 0, slots := 0, locals := 44 } s m args below meth c H locs 0 0 (MQ below (QJ D cy ad M0 s.heap.size r0 M0) args s 0 0 (AA ad M0 s.heap.size)) (F0 m 4 ls [])) : ∀ (n : Nat), ∀ (v0 : Nat) (v1 : Int64) (v3 : Int32) (v4 : Int32) (H : Heap) (locs : List Loc) (ls : Array Slot), (mA M0 1 v0 = true) → f_X3_unclaimed_13 M0 k4 n v0 v1 v3 v4 = some r0 → HP D cy (AA ad M0 s.heap.size) ad M0 H → va_S (AA ad M0 s.heap.size) s.heap H locs → lv_has ls 5 [(0, .ref (ad 1 v0)), (1, .long v1), (3, .int v3), (4, .int v4)] → W p l e { frames := 2, cells := 0, slots := 0, locals := 44 } s m args below meth c H locs 0 0 (MQ below (QJ D cy ad M0 s.heap.size r0 M0) args s 0 0 (AA ad M0 s.heap.size)) (F0 m 13 ls []) := by
  obtain ⟨hx, hb, hr, hml, hown, hts, hlocks, hK, hN, hA⟩ := id C
  intro n
  induction n with
  | zero =>
    intro v0 v1 v3 v4 H locs ls a0 hf hP hS hl
    simp [f_X3_unclaimed_13] at hf
  | succ n ih =>
    intro v0 v1 v3 v4 H locs ls a0 hf hP hS hl
    rw [f_X3_unclaimed_13] at hf
    refine lv_iload hx hb dX3_unclaimed_13 (lv_at hl 3 rfl) ?_
    refine lv_iconst (v := (3 : Int32)) hx hb dX3_unclaimed_15 (by decide) ?_
    refine lv_icmp_gt (tgt := 38) hx hb dX3_unclaimed_16 (by decide) (fun c29 => ?_) (fun c29 => ?_)
    · have hf := if_t hf c29
      obtain ⟨x30, e31, hf⟩ := lt_some hf
      refine lv_iinc (v := x30) (lv' := [(3, .int x30), (0, .ref (ad 1 v0)), (1, .long v1), (4, .int v4)]) hx hb dX3_unclaimed_38 hl (k := 2) rfl (by rw [e31]; rfl) (by decide) rfl (fun ls hl => ?_)
      refine lv_goto (tgt := 4) hx hb dX3_unclaimed_41 (by decide) ?_
      exact hk4 v0 v1 x30 _ _ _ a0 hf hP hS (lv_sub hl [1, 2, 0] rfl)
    · have hf := if_f hf c29
      refine lv_lload_n hx hb dX3_unclaimed_19 rfl (lv_at hl 1 rfl) ?_
      refine lv_aload_n hx hb dX3_unclaimed_20 rfl (lv_at hl 0 rfl) ?_
      refine lv_iload_n hx hb dX3_unclaimed_21 rfl (lv_at hl 2 rfl) ?_
      refine lv_iload hx hb dX3_unclaimed_22 (lv_at hl 3 rfl) ?_
      obtain ⟨r33, e32, hf⟩ := ob_some hf
      refine hp_callq (va_runV (As := [.int v3, .int v4]) (rest := [.long v1]) ⟨hx, hb, hml, hown, hts⟩ (ok_X3_poolOf l D cy ad M0 _ v0 v3 v4 r33 a0 e32) (cwV 2 hts (gdV q267 q269 q5 q85 q270) rfl rfl rfl (by decide +kernel) ⟨Nat.le_of_ble_eq_true rfl, Nat.le_of_ble_eq_true rfl⟩) (pre_V hP hK hN a0 ds_1 rfl) rfl rfl hl.1 rfl (lv_room (Nat.le_of_ble_eq_true rfl)) dX3_unclaimed_24 ⟨Nat.le_of_ble_eq_true rfl, Nat.le_of_ble_eq_true rfl⟩) hP hS hA (fun H locs hP hS _ h36 => ?_)
      obtain ⟨r38, e37, hf⟩ := ob_some hf
      refine hp_calll (va_runS (As := [va_rf ((r33).map (ad 7))]) (rest := [.long v1]) ⟨hx, hb, hml, hown, hts⟩ (ok_X3_unclaimedOf l D cy ad M0 _ r33 r38 h36 e37) (va_cwS 1 hts (gdS q576 q577 q85 q578) rfl rfl rfl (by decide +kernel) ⟨Nat.le_of_ble_eq_true rfl, Nat.le_of_ble_eq_true rfl⟩) (pre_S hP hK hN) rfl rfl hl.1 rfl (lv_room (Nat.le_of_ble_eq_true rfl)) dX3_unclaimed_27 ⟨Nat.le_of_ble_eq_true rfl, Nat.le_of_ble_eq_true rfl⟩) hP hS hA (fun H locs hP hS _ => ?_)
      refine lv_ladd hx hb dX3_unclaimed_30 ?_
      obtain ⟨x41, e42, hf⟩ := lt_some hf
      refine W_topJ e42 ?_
      refine lv_lstore_n (lv' := [(1, .long x41), (0, .ref (ad 1 v0)), (3, .int v3), (4, .int v4)]) hx hb dX3_unclaimed_31 rfl hl (by decide) rfl (fun ls hl => ?_)
      obtain ⟨x43, e44, hf⟩ := lt_some hf
      refine lv_iinc (v := x43) (lv' := [(4, .int x43), (1, .long x41), (0, .ref (ad 1 v0)), (3, .int v3)]) hx hb dX3_unclaimed_32 hl (k := 3) rfl (by rw [e44]; rfl) (by decide) rfl (fun ls hl => ?_)
      refine lv_goto (tgt := 13) hx hb dX3_unclaimed_35 (by decide) ?_
      exact ih v0 x41 v3 x43 _ _ _ a0 hf hP hS (lv_sub hl [2, 1, 3, 0] rfl)
set_option maxRecDepth 100000 in
set_option maxHeartbeats 4000000 in
theorem t_X3_unclaimed_4 {p : Program} {l : Launch} {e : Env} {s : State} {m : MethodId} {args : Array Value} {below : List Frame} {meth : Method} {c : Code} {D : va_G} {cy : Nat → ClassId} {ad : Nat → Nat → Nat} {M0 : Mm} {r0 : Int64} (C : Cx RX3 cX3_unclaimed 5 (some .long) D cy (AA ad M0 s.heap.size) p s m args meth c) : ∀ (n : Nat), ∀ (v0 : Nat) (v1 : Int64) (v3 : Int32) (H : Heap) (locs : List Loc) (ls : Array Slot), (mA M0 1 v0 = true) → f_X3_unclaimed_4 M0 n v0 v1 v3 = some r0 → HP D cy (AA ad M0 s.heap.size) ad M0 H → va_S (AA ad M0 s.heap.size) s.heap H locs → lv_has ls 5 [(0, .ref (ad 1 v0)), (1, .long v1), (3, .int v3)] → W p l e { frames := 2, cells := 0, slots := 0, locals := 44 } s m args below meth c H locs 0 0 (MQ below (QJ D cy ad M0 s.heap.size r0 M0) args s 0 0 (AA ad M0 s.heap.size)) (F0 m 4 ls []) := by
  obtain ⟨hx, hb, hr, hml, hown, hts, hlocks, hK, hN, hA⟩ := id C
  intro n
  induction n with
  | zero =>
    intro v0 v1 v3 H locs ls a0 hf hP hS hl
    simp [f_X3_unclaimed_4] at hf
  | succ n ih =>
    intro v0 v1 v3 H locs ls a0 hf hP hS hl
    rw [f_X3_unclaimed_4] at hf
    refine lv_iload_n hx hb dX3_unclaimed_4 rfl (lv_at hl 2 rfl) ?_
    refine lv_bipush (v := (12 : Int32)) hx hb dX3_unclaimed_5 (by decide) ?_
    refine lv_icmp_gt (tgt := 44) hx hb dX3_unclaimed_7 (by decide) (fun c23 => ?_) (fun c23 => ?_)
    · have hf := if_t hf c23
      refine lv_lload_n hx hb dX3_unclaimed_44 rfl (lv_at hl 1 rfl) ?_
      refine lv_aload_n hx hb dX3_unclaimed_45 rfl (lv_at hl 0 rfl) ?_
      have h24 : ∀ j : Nat, (mR M0 1 v0 3) = some j → mA M0 7 j = true := fun j hj => hp_wf hP a0 hj
      refine gf1 (v := va_rf (((mR M0 1 v0 3)).map (ad 7))) hx hb hts hown hK hP a0 3 (by decide) (hts _ q106) rfl rfl dX3_unclaimed_46 ?_
      obtain ⟨r26, e25, hf⟩ := ob_some hf
      refine hp_calll (va_runS (As := [va_rf (((mR M0 1 v0 3)).map (ad 7))]) (rest := [.long v1]) ⟨hx, hb, hml, hown, hts⟩ (ok_X3_unclaimedOf l D cy ad M0 _ (mR M0 1 v0 3) r26 h24 e25) (va_cwS 1 hts (gdS q576 q577 q85 q578) rfl rfl rfl (by decide +kernel) ⟨Nat.le_of_ble_eq_true rfl, Nat.le_of_ble_eq_true rfl⟩) (pre_S hP hK hN) rfl rfl hl.1 rfl (lv_room (Nat.le_of_ble_eq_true rfl)) dX3_unclaimed_49 ⟨Nat.le_of_ble_eq_true rfl, Nat.le_of_ble_eq_true rfl⟩) hP hS hA (fun H locs hP hS _ => ?_)
      refine lv_ladd hx hb dX3_unclaimed_52 ?_
      exact hp_lret hx hb hr hlocks (Option.some.inj hf) rfl hP hS keep_rf dX3_unclaimed_53
    · have hf := if_f hf c23
      refine lv_iconst (v := (0 : Int32)) hx hb dX3_unclaimed_10 (by decide) ?_
      refine lv_istore (lv' := [(4, .int (0 : Int32)), (0, .ref (ad 1 v0)), (1, .long v1), (3, .int v3)]) hx hb dX3_unclaimed_11 hl (by decide) rfl (fun ls hl => ?_)
      exact t_X3_unclaimed_13 C (f_X3_unclaimed_4 M0 n) ih FU v0 v1 v3 (0 : Int32) _ _ _ a0 hf hP hS (lv_sub hl [1, 2, 3, 0] rfl)
set_option maxRecDepth 100000 in
set_option maxHeartbeats 4000000 in
theorem ok_X3_unclaimed (l : Launch) (D : va_G) (cy : Nat → ClassId) (ad : Nat → Nat → Nat) (M0 : Mm) (sz : Nat) (v0 : Nat) (r0 : Int64) (a0 : mA M0 1 v0 = true) (hf : f_X3_unclaimed v0 M0 = some r0) : Met l yX3_unclaimed (Cond.code yX3_unclaimed cX3_unclaimed 5 (some .long) :: BW) { frames := 2, cells := 0, slots := 0, locals := 44 } (va_Pc [.ref (ad 1 v0)] (PRE D cy ad M0 sz)) (QJ D cy ad M0 sz r0 M0) 0 0 (AA ad M0 sz) := by
  refine Met.ofW (cc := cX3_unclaimed) (maxL := 5) (ret := (some .long)) (by decide) rfl ?_
  intro p e s m args below meth c s₁ B hml hv
  obtain ⟨rfl, rfl, hP0, hK, hN⟩ := hv
  have hx := B.exec
  have hb := B.bytes
  have hr := B.returns
  have hts0 := atoms_spec (ws := (Cond.code yX3_unclaimed cX3_unclaimed 5 (some .long) :: BW)) B.pre
  have hts : ∀ w ∈ BW, w.before ([.ref (ad 1 v0)] : List Value).toArray s = true := fun w h => hts0 w (List.mem_cons_of_mem _ h)
  have hown : s.vm.findClass RX3 = some m.cls := findClass_of_methodNamed B.named
  have hlocks := B.notSynchronized
  have hA : ∀ q : Nat, s.heap.size ≤ q → AA ad M0 s.heap.size q := fun q h => Or.inr h
  have C : Cx RX3 cX3_unclaimed 5 (some .long) D cy (AA ad M0 s.heap.size) p s m ([.ref (ad 1 v0)] : List Value).toArray meth c := ⟨hx, hb, hr, hml, hown, hts, hlocks, hK, hN, hA⟩
  have hP := hp_self (sz := s.heap.size) hP0
  have hS : va_S (AA ad M0 s.heap.size) s.heap s.heap [] := va_S.rf
  have hl := lv_entry ([.ref (ad 1 v0)]) (n := 5) (Nat.le_of_ble_eq_true rfl)
  rw [lg_entry_eq]
  generalize (lg_sl ([.ref (ad 1 v0)]) ++ List.replicate (5 - (lg_sl ([.ref (ad 1 v0)])).length) Slot.unset).toArray = ls at hl ⊢
  have hl : lv_has ls 5 [(0, .ref (ad 1 v0))] := hl
  unfold f_X3_unclaimed at hf
  refine lv_lconst (v := (0 : Int64)) hx hb dX3_unclaimed_0 (by decide) ?_
  refine lv_lstore_n (lv' := [(1, .long (0 : Int64)), (0, .ref (ad 1 v0))]) hx hb dX3_unclaimed_1 rfl hl (by decide) rfl (fun ls hl => ?_)
  refine lv_iconst (v := (1 : Int32)) hx hb dX3_unclaimed_2 (by decide) ?_
  refine lv_istore_n (lv' := [(3, .int (1 : Int32)), (1, .long (0 : Int64)), (0, .ref (ad 1 v0))]) hx hb dX3_unclaimed_3 rfl hl (by decide) rfl (fun ls hl => ?_)
  exact t_X3_unclaimed_4 C FU v0 (0 : Int64) (1 : Int32) _ _ _ a0 hf hP hS (lv_sub hl [2, 1, 0] rfl)

def f_X3_carried (v0 : Nat) (M0 : Mm) : Option Int64 :=
  some (mJ M0 1 v0 4)
set_option maxRecDepth 100000 in
set_option maxHeartbeats 4000000 in
theorem ok_X3_carried (l : Launch) (D : va_G) (cy : Nat → ClassId) (ad : Nat → Nat → Nat) (M0 : Mm) (sz : Nat) (v0 : Nat) (r0 : Int64) (a0 : mA M0 1 v0 = true) (hf : f_X3_carried v0 M0 = some r0) : Met l yX3_carried (Cond.code yX3_carried cX3_carried 1 (some .long) :: BW) { frames := 0, cells := 0, slots := 0, locals := 0 } (va_Pc [.ref (ad 1 v0)] (PRE D cy ad M0 sz)) (QJ D cy ad M0 sz r0 M0) 0 0 (AA ad M0 sz) := by
  refine Met.ofW (cc := cX3_carried) (maxL := 1) (ret := (some .long)) (by decide) rfl ?_
  intro p e s m args below meth c s₁ B hml hv
  obtain ⟨rfl, rfl, hP0, hK, hN⟩ := hv
  have hx := B.exec
  have hb := B.bytes
  have hr := B.returns
  have hts0 := atoms_spec (ws := (Cond.code yX3_carried cX3_carried 1 (some .long) :: BW)) B.pre
  have hts : ∀ w ∈ BW, w.before ([.ref (ad 1 v0)] : List Value).toArray s = true := fun w h => hts0 w (List.mem_cons_of_mem _ h)
  have hown : s.vm.findClass RX3 = some m.cls := findClass_of_methodNamed B.named
  have hlocks := B.notSynchronized
  have hA : ∀ q : Nat, s.heap.size ≤ q → AA ad M0 s.heap.size q := fun q h => Or.inr h
  have C : Cx RX3 cX3_carried 1 (some .long) D cy (AA ad M0 s.heap.size) p s m ([.ref (ad 1 v0)] : List Value).toArray meth c := ⟨hx, hb, hr, hml, hown, hts, hlocks, hK, hN, hA⟩
  have hP := hp_self (sz := s.heap.size) hP0
  have hS : va_S (AA ad M0 s.heap.size) s.heap s.heap [] := va_S.rf
  have hl := lv_entry ([.ref (ad 1 v0)]) (n := 1) (Nat.le_of_ble_eq_true rfl)
  rw [lg_entry_eq]
  generalize (lg_sl ([.ref (ad 1 v0)]) ++ List.replicate (1 - (lg_sl ([.ref (ad 1 v0)])).length) Slot.unset).toArray = ls at hl ⊢
  have hl : lv_has ls 1 [(0, .ref (ad 1 v0))] := hl
  unfold f_X3_carried at hf
  refine lv_aload_n hx hb dX3_carried_0 rfl (lv_at hl 0 rfl) ?_
  refine gf1 (v := .long (mJ M0 1 v0 4)) hx hb hts hown hK hP a0 4 (by decide) (hts _ q107) rfl rfl dX3_carried_1 ?_
  exact hp_lret hx hb hr hlocks (Option.some.inj hf) rfl hP hS keep_rf dX3_carried_4

def f_X3_booksAddUp (v0 : Option Nat) (M0 : Mm) : Option Int32 :=
  on v0 (some (1 : Int32)) fun i14 => ob (f_X0_moneyIn i14 M0) fun r17 => ob (f_X0_moneyOut i14 M0) fun r21 => if (lg_cmp r17 r21) = 0 then (some (1 : Int32)) else (some (0 : Int32))
set_option maxRecDepth 100000 in
set_option maxHeartbeats 4000000 in
theorem ok_X3_booksAddUp (l : Launch) (D : va_G) (cy : Nat → ClassId) (ad : Nat → Nat → Nat) (M0 : Mm) (sz : Nat) (v0 : Option Nat) (r0 : Int32) (a0 : ∀ j : Nat, v0 = some j → mA M0 7 j = true) (hf : f_X3_booksAddUp v0 M0 = some r0) : Met l yX3_booksAddUp (Cond.code yX3_booksAddUp cX3_booksAddUp 1 (some .boolean) :: BW) { frames := 5, cells := 0, slots := 0, locals := 103 } (va_Pc [va_rf (v0.map (ad 7))] (PRE D cy ad M0 sz)) (QI D cy ad M0 sz r0 M0) 0 0 (AA ad M0 sz) := by
  refine Met.ofW (cc := cX3_booksAddUp) (maxL := 1) (ret := (some .boolean)) (by decide) rfl ?_
  intro p e s m args below meth c s₁ B hml hv
  obtain ⟨rfl, rfl, hP0, hK, hN⟩ := hv
  have hx := B.exec
  have hb := B.bytes
  have hr := B.returns
  have hts0 := atoms_spec (ws := (Cond.code yX3_booksAddUp cX3_booksAddUp 1 (some .boolean) :: BW)) B.pre
  have hts : ∀ w ∈ BW, w.before ([va_rf (v0.map (ad 7))] : List Value).toArray s = true := fun w h => hts0 w (List.mem_cons_of_mem _ h)
  have hown : s.vm.findClass RX3 = some m.cls := findClass_of_methodNamed B.named
  have hlocks := B.notSynchronized
  have hA : ∀ q : Nat, s.heap.size ≤ q → AA ad M0 s.heap.size q := fun q h => Or.inr h
  have C : Cx RX3 cX3_booksAddUp 1 (some .boolean) D cy (AA ad M0 s.heap.size) p s m ([va_rf (v0.map (ad 7))] : List Value).toArray meth c := ⟨hx, hb, hr, hml, hown, hts, hlocks, hK, hN, hA⟩
  have hP := hp_self (sz := s.heap.size) hP0
  have hS : va_S (AA ad M0 s.heap.size) s.heap s.heap [] := va_S.rf
  have hl := lv_entry ([va_rf (v0.map (ad 7))]) (n := 1) ((by cases v0 <;> exact Nat.le_of_ble_eq_true rfl))
  rw [lg_entry_eq]
  generalize (lg_sl ([va_rf (v0.map (ad 7))]) ++ List.replicate (1 - (lg_sl ([va_rf (v0.map (ad 7))])).length) Slot.unset).toArray = ls at hl ⊢
  have hl : lv_has ls 1 [(0, va_rf (v0.map (ad 7)))] := (by cases v0 <;> exact hl)
  unfold f_X3_booksAddUp at hf
  refine hp_aload_n (r := (v0).map (ad 7)) hx hb dX3_booksAddUp_0 rfl (lv_at hl 0 rfl) ?_
  rcases on_c hf with ⟨e13, hf⟩ | ⟨i14, e13, hf⟩
  · refine W_top (y := .null) (by rw [e13]; rfl) ?_
    refine lv_ifnullN (tgt := 16) hx hb dX3_booksAddUp_1 (by decide) ?_
    refine lv_iconst (v := (1 : Int32)) hx hb dX3_booksAddUp_16 (by decide) ?_
    refine lv_goto (tgt := 21) hx hb dX3_booksAddUp_17 (by decide) ?_
    exact hp_zret hx hb hr hlocks (Or.inr rfl) (Option.some.inj hf) rfl hP hS keep_rf dX3_booksAddUp_21
  · have h15 : mA M0 7 i14 = true := a0 i14 e13
    rw [e13] at hl
    have hl : lv_has ls 1 [(0, .ref (ad 7 i14))] := hl
    refine W_stk (st := [va_rf ((v0).map (ad 7))]) (st' := [.ref (ad 7 i14)]) (by first | (rw [e13]; done) | (rw [e13]; rfl)) ?_
    refine lv_ifnull hx hb dX3_booksAddUp_1 ?_
    refine lv_aload_n hx hb dX3_booksAddUp_4 rfl (lv_at hl 0 rfl) ?_
    obtain ⟨r17, e16, hf⟩ := ob_some hf
    refine hp_calll (va_runVN (As := []) (rest := []) ⟨hx, hb, hml, hown, hts⟩ (ok_X0_moneyIn l D cy ad M0 _ i14 r17 h15 e16) ⟨va_cnB 0 hts (gd0 q593) rfl rfl rfl (hN.2.1 (RX3, 245, yX0_moneyIn, RX3) (List.mem_of_getElem? (i := 37) rfl)) (hts _ q88) (by decide +kernel) ⟨Nat.le_of_ble_eq_true rfl, Nat.le_of_ble_eq_true rfl⟩, hts _ q592, hts _ q51⟩ (pre_V hP hK hN h15 ds_7 rfl) rfl rfl hl.1 rfl (lv_room (Nat.le_of_ble_eq_true rfl)) dX3_booksAddUp_5 ⟨Nat.le_of_ble_eq_true rfl, Nat.le_of_ble_eq_true rfl⟩) hP hS hA (fun H locs hP hS _ => ?_)
    refine lv_aload_n hx hb dX3_booksAddUp_8 rfl (lv_at hl 0 rfl) ?_
    obtain ⟨r21, e20, hf⟩ := ob_some hf
    refine hp_calll (va_runVN (As := []) (rest := [.long r17]) ⟨hx, hb, hml, hown, hts⟩ (ok_X0_moneyOut l D cy ad M0 _ i14 r21 h15 e20) ⟨va_cnB 0 hts (gd0 q598) rfl rfl rfl (hN.2.1 (RX3, 248, yX0_moneyOut, RX3) (List.mem_of_getElem? (i := 38) rfl)) (hts _ q88) (by decide +kernel) ⟨Nat.le_of_ble_eq_true rfl, Nat.le_of_ble_eq_true rfl⟩, hts _ q597, hts _ q52⟩ (pre_V hP hK hN h15 ds_7 rfl) rfl rfl hl.1 rfl (lv_room (Nat.le_of_ble_eq_true rfl)) dX3_booksAddUp_9 ⟨Nat.le_of_ble_eq_true rfl, Nat.le_of_ble_eq_true rfl⟩) hP hS hA (fun H locs hP hS _ => ?_)
    refine W.lcmp hx hb dX3_booksAddUp_12 ?_
    refine lv_if_ne (tgt := 20) hx hb dX3_booksAddUp_13 (by decide) (fun c24 => ?_) (fun c24 => ?_)
    · have hf := if_f hf c24
      refine lv_iconst (v := (0 : Int32)) hx hb dX3_booksAddUp_20 (by decide) ?_
      exact hp_zret hx hb hr hlocks (Or.inl rfl) (Option.some.inj hf) rfl hP hS keep_rf dX3_booksAddUp_21
    · have hf := if_t hf c24
      refine lv_iconst (v := (1 : Int32)) hx hb dX3_booksAddUp_16 (by decide) ?_
      refine lv_goto (tgt := 21) hx hb dX3_booksAddUp_17 (by decide) ?_
      exact hp_zret hx hb hr hlocks (Or.inr rfl) (Option.some.inj hf) rfl hP hS keep_rf dX3_booksAddUp_21
def f_X3_close_52 (M0 : Mm) (k44 : Nat → Int32 → Option Int32) : Nat → Nat → Int32 → Int32 → Option Int32
  | 0, _, _, _ => none
  | n + 1, v0, v1, v2 => if (3 : Int32) < v2 then (lt (v1 + (1 : Int32)) fun x51 => k44 v0 x51) else (ob (f_X3_poolOf v0 v1 v2 M0) fun r54 => ob (f_X3_booksAddUp r54 M0) fun r59 => if r59 = 0 then (some ((((100 : Int32) * v1) + v2) + (1 : Int32))) else (lt (v2 + (1 : Int32)) fun x63 => f_X3_close_52 M0 k44 n v0 v1 x63))
def f_X3_close_44 (M0 : Mm) : Nat → Nat → Int32 → Option Int32
  | 0, _, _ => none
  | n + 1, v0, v1 => if (12 : Int32) < v1 then (ob (f_X3_booksAddUp (mR M0 1 v0 3) M0) fun r46 => if r46 = 0 then (some (1305 : Int32)) else (some (0 : Int32))) else (f_X3_close_52 M0 (f_X3_close_44 M0 n) FU v0 v1 (0 : Int32))
def f_X3_close_10 (M0 : Mm) : Nat → Nat → Nat → Int32 → Int32 → Option Int32
  | 0, _, _, _, _ => none
  | n + 1, v0, v1, v2, v3 => if v2 ≤ v3 then (f_X3_close_44 M0 FU v0 (1 : Int32)) else (ix v3 13 (on (mR M0 2 v1 (v3).toNatClampNeg) (lt (v3 + (1 : Int32)) fun x70 => f_X3_close_10 M0 n v0 v1 v2 x70) fun i68 => if (mI M0 4 i68 4) = (2 : Int32) then (lt (v3 + (1 : Int32)) fun x73 => f_X3_close_10 M0 n v0 v1 v2 x73) else (some (-1 : Int32))))
def f_X3_close (v0 : Nat) (M0 : Mm) : Option Int32 :=
  ob (mR M0 1 v0 0) fun i39 => f_X3_close_10 M0 FU v0 i39 (13 : Int32) (0 : Int32)
set_option maxRecDepth 100000 in
set_option maxHeartbeats 4000000 in
theorem t_X3_close_52 {p : Program} {l : Launch} {e : Env} {s : State} {m : MethodId} {args : Array Value} {below : List Frame} {meth : Method} {c : Code} {D : va_G} {cy : Nat → ClassId} {ad : Nat → Nat → Nat} {M0 : Mm} {r0 : Int32} (C : Cx RX3 cX3_close 5 (some .int) D cy (AA ad M0 s.heap.size) p s m args meth c) (k44 : Nat → Int32 → Option Int32) (hk44 : ∀ (v0 : Nat) (v1 : Int32) (H : Heap) (locs : List Loc) (ls : Array Slot), (mA M0 1 v0 = true) → k44 v0 v1 = some r0 → HP D cy (AA ad M0 s.heap.size) ad M0 H → va_S (AA ad M0 s.heap.size) s.heap H locs → lv_has ls 5 [(0, .ref (ad 1 v0)), (1, .int v1)] → W p l e { frames := 6, cells := 0, slots := 0, locals := 123 } s m args below meth c H locs 0 0 (MQ below (QI D cy ad M0 s.heap.size r0 M0) args s 0 0 (AA ad M0 s.heap.size)) (F0 m 44 ls [])) : ∀ (n : Nat), ∀ (v0 : Nat) (v1 : Int32) (v2 : Int32) (H : Heap) (locs : List Loc) (ls : Array Slot), (mA M0 1 v0 = true) → f_X3_close_52 M0 k44 n v0 v1 v2 = some r0 → HP D cy (AA ad M0 s.heap.size) ad M0 H → va_S (AA ad M0 s.heap.size) s.heap H locs → lv_has ls 5 [(0, .ref (ad 1 v0)), (1, .int v1), (2, .int v2)] → W p l e { frames := 6, cells := 0, slots := 0, locals := 123 } s m args below meth c H locs 0 0 (MQ below (QI D cy ad M0 s.heap.size r0 M0) args s 0 0 (AA ad M0 s.heap.size)) (F0 m 52 ls []) := by
  obtain ⟨hx, hb, hr, hml, hown, hts, hlocks, hK, hN, hA⟩ := id C
  intro n
  induction n with
  | zero =>
    intro v0 v1 v2 H locs ls a0 hf hP hS hl
    simp [f_X3_close_52] at hf
  | succ n ih =>
    intro v0 v1 v2 H locs ls a0 hf hP hS hl
    rw [f_X3_close_52] at hf
    refine lv_iload_n hx hb dX3_close_52 rfl (lv_at hl 2 rfl) ?_
    refine lv_iconst (v := (3 : Int32)) hx hb dX3_close_53 (by decide) ?_
    refine lv_icmp_gt (tgt := 84) hx hb dX3_close_54 (by decide) (fun c50 => ?_) (fun c50 => ?_)
    · have hf := if_t hf c50
      obtain ⟨x51, e52, hf⟩ := lt_some hf
      refine lv_iinc (v := x51) (lv' := [(1, .int x51), (0, .ref (ad 1 v0)), (2, .int v2)]) hx hb dX3_close_84 hl (k := 1) rfl (by rw [e52]; rfl) (by decide) rfl (fun ls hl => ?_)
      refine lv_goto (tgt := 44) hx hb dX3_close_87 (by decide) ?_
      exact hk44 v0 x51 _ _ _ a0 hf hP hS (lv_sub hl [1, 0] rfl)
    · have hf := if_f hf c50
      refine lv_aload_n hx hb dX3_close_57 rfl (lv_at hl 0 rfl) ?_
      refine lv_iload_n hx hb dX3_close_58 rfl (lv_at hl 1 rfl) ?_
      refine lv_iload_n hx hb dX3_close_59 rfl (lv_at hl 2 rfl) ?_
      obtain ⟨r54, e53, hf⟩ := ob_some hf
      refine hp_callq (va_runV (As := [.int v1, .int v2]) (rest := []) ⟨hx, hb, hml, hown, hts⟩ (ok_X3_poolOf l D cy ad M0 _ v0 v1 v2 r54 a0 e53) (cwV 2 hts (gdV q267 q269 q5 q85 q270) rfl rfl rfl (by decide +kernel) ⟨Nat.le_of_ble_eq_true rfl, Nat.le_of_ble_eq_true rfl⟩) (pre_V hP hK hN a0 ds_1 rfl) rfl rfl hl.1 rfl (lv_room (Nat.le_of_ble_eq_true rfl)) dX3_close_60 ⟨Nat.le_of_ble_eq_true rfl, Nat.le_of_ble_eq_true rfl⟩) hP hS hA (fun H locs hP hS _ h57 => ?_)
      obtain ⟨r59, e58, hf⟩ := ob_some hf
      refine hp_calli (va_runS (As := [va_rf ((r54).map (ad 7))]) (rest := []) ⟨hx, hb, hml, hown, hts⟩ (ok_X3_booksAddUp l D cy ad M0 _ r54 r59 h57 e58) (va_cwS 1 hts (gdS q587 q588 q85 q589) rfl rfl rfl (by decide +kernel) ⟨Nat.le_of_ble_eq_true rfl, Nat.le_of_ble_eq_true rfl⟩) (pre_S hP hK hN) rfl rfl hl.1 rfl (lv_room (Nat.le_of_ble_eq_true rfl)) dX3_close_63 ⟨Nat.le_of_ble_eq_true rfl, Nat.le_of_ble_eq_true rfl⟩) hP hS hA (fun H locs hP hS _ => ?_)
      refine lv_if_ne (tgt := 78) hx hb dX3_close_66 (by decide) (fun c62 => ?_) (fun c62 => ?_)
      · have hf := if_f hf c62
        obtain ⟨x63, e64, hf⟩ := lt_some hf
        refine lv_iinc (v := x63) (lv' := [(2, .int x63), (0, .ref (ad 1 v0)), (1, .int v1)]) hx hb dX3_close_78 hl (k := 2) rfl (by rw [e64]; rfl) (by decide) rfl (fun ls hl => ?_)
        refine lv_goto (tgt := 52) hx hb dX3_close_81 (by decide) ?_
        exact ih v0 v1 x63 _ _ _ a0 hf hP hS (lv_sub hl [1, 2, 0] rfl)
      · have hf := if_t hf c62
        refine lv_bipush (v := (100 : Int32)) hx hb dX3_close_69 (by decide) ?_
        refine lv_iload_n hx hb dX3_close_71 rfl (lv_at hl 1 rfl) ?_
        refine lv_imul hx hb dX3_close_72 ?_
        refine lv_iload_n hx hb dX3_close_73 rfl (lv_at hl 2 rfl) ?_
        refine lv_iadd hx hb dX3_close_74 ?_
        refine lv_iconst (v := (1 : Int32)) hx hb dX3_close_75 (by decide) ?_
        refine lv_iadd hx hb dX3_close_76 ?_
        exact hp_iret hx hb hr hlocks (Option.some.inj hf) rfl hP hS keep_rf dX3_close_77
set_option maxRecDepth 100000 in
set_option maxHeartbeats 4000000 in
theorem t_X3_close_44 {p : Program} {l : Launch} {e : Env} {s : State} {m : MethodId} {args : Array Value} {below : List Frame} {meth : Method} {c : Code} {D : va_G} {cy : Nat → ClassId} {ad : Nat → Nat → Nat} {M0 : Mm} {r0 : Int32} (C : Cx RX3 cX3_close 5 (some .int) D cy (AA ad M0 s.heap.size) p s m args meth c) : ∀ (n : Nat), ∀ (v0 : Nat) (v1 : Int32) (H : Heap) (locs : List Loc) (ls : Array Slot), (mA M0 1 v0 = true) → f_X3_close_44 M0 n v0 v1 = some r0 → HP D cy (AA ad M0 s.heap.size) ad M0 H → va_S (AA ad M0 s.heap.size) s.heap H locs → lv_has ls 5 [(0, .ref (ad 1 v0)), (1, .int v1)] → W p l e { frames := 6, cells := 0, slots := 0, locals := 123 } s m args below meth c H locs 0 0 (MQ below (QI D cy ad M0 s.heap.size r0 M0) args s 0 0 (AA ad M0 s.heap.size)) (F0 m 44 ls []) := by
  obtain ⟨hx, hb, hr, hml, hown, hts, hlocks, hK, hN, hA⟩ := id C
  intro n
  induction n with
  | zero =>
    intro v0 v1 H locs ls a0 hf hP hS hl
    simp [f_X3_close_44] at hf
  | succ n ih =>
    intro v0 v1 H locs ls a0 hf hP hS hl
    rw [f_X3_close_44] at hf
    refine lv_iload_n hx hb dX3_close_44 rfl (lv_at hl 1 rfl) ?_
    refine lv_bipush (v := (12 : Int32)) hx hb dX3_close_45 (by decide) ?_
    refine lv_icmp_gt (tgt := 90) hx hb dX3_close_47 (by decide) (fun c43 => ?_) (fun c43 => ?_)
    · have hf := if_t hf c43
      refine lv_aload_n hx hb dX3_close_90 rfl (lv_at hl 0 rfl) ?_
      have h44 : ∀ j : Nat, (mR M0 1 v0 3) = some j → mA M0 7 j = true := fun j hj => hp_wf hP a0 hj
      refine gf1 (v := va_rf (((mR M0 1 v0 3)).map (ad 7))) hx hb hts hown hK hP a0 3 (by decide) (hts _ q106) rfl rfl dX3_close_91 ?_
      obtain ⟨r46, e45, hf⟩ := ob_some hf
      refine hp_calli (va_runS (As := [va_rf (((mR M0 1 v0 3)).map (ad 7))]) (rest := []) ⟨hx, hb, hml, hown, hts⟩ (ok_X3_booksAddUp l D cy ad M0 _ (mR M0 1 v0 3) r46 h44 e45) (va_cwS 1 hts (gdS q587 q588 q85 q589) rfl rfl rfl (by decide +kernel) ⟨Nat.le_of_ble_eq_true rfl, Nat.le_of_ble_eq_true rfl⟩) (pre_S hP hK hN) rfl rfl hl.1 rfl (lv_room (Nat.le_of_ble_eq_true rfl)) dX3_close_94 ⟨Nat.le_of_ble_eq_true rfl, Nat.le_of_ble_eq_true rfl⟩) hP hS hA (fun H locs hP hS _ => ?_)
      refine lv_if_eq (tgt := 104) hx hb dX3_close_97 (by decide) (fun c49 => ?_) (fun c49 => ?_)
      · have hf := if_t hf c49
        refine lv_sipush (v := (1305 : Int32)) hx hb dX3_close_104 (by decide) ?_
        exact hp_iret hx hb hr hlocks (Option.some.inj hf) rfl hP hS keep_rf dX3_close_107
      · have hf := if_f hf c49
        refine lv_iconst (v := (0 : Int32)) hx hb dX3_close_100 (by decide) ?_
        refine lv_goto (tgt := 107) hx hb dX3_close_101 (by decide) ?_
        exact hp_iret hx hb hr hlocks (Option.some.inj hf) rfl hP hS keep_rf dX3_close_107
    · have hf := if_f hf c43
      refine lv_iconst (v := (0 : Int32)) hx hb dX3_close_50 (by decide) ?_
      refine lv_istore_n (lv' := [(2, .int (0 : Int32)), (0, .ref (ad 1 v0)), (1, .int v1)]) hx hb dX3_close_51 rfl hl (by decide) rfl (fun ls hl => ?_)
      exact t_X3_close_52 C (f_X3_close_44 M0 n) ih FU v0 v1 (0 : Int32) _ _ _ a0 hf hP hS (lv_sub hl [1, 2, 0] rfl)
set_option maxRecDepth 100000 in
set_option maxHeartbeats 4000000 in
theorem t_X3_close_10 {p : Program} {l : Launch} {e : Env} {s : State} {m : MethodId} {args : Array Value} {below : List Frame} {meth : Method} {c : Code} {D : va_G} {cy : Nat → ClassId} {ad : Nat → Nat → Nat} {M0 : Mm} {r0 : Int32} (C : Cx RX3 cX3_close 5 (some .int) D cy (AA ad M0 s.heap.size) p s m args meth c) : ∀ (n : Nat), ∀ (v0 : Nat) (v1 : Nat) (v2 : Int32) (v3 : Int32) (H : Heap) (locs : List Loc) (ls : Array Slot), (mA M0 1 v0 = true) → (mA M0 2 v1 = true) → f_X3_close_10 M0 n v0 v1 v2 v3 = some r0 → HP D cy (AA ad M0 s.heap.size) ad M0 H → va_S (AA ad M0 s.heap.size) s.heap H locs → lv_has ls 5 [(0, .ref (ad 1 v0)), (1, .ref (ad 2 v1)), (2, .int v2), (3, .int v3)] → W p l e { frames := 6, cells := 0, slots := 0, locals := 123 } s m args below meth c H locs 0 0 (MQ below (QI D cy ad M0 s.heap.size r0 M0) args s 0 0 (AA ad M0 s.heap.size)) (F0 m 10 ls []) := by
  obtain ⟨hx, hb, hr, hml, hown, hts, hlocks, hK, hN, hA⟩ := id C
  intro n
  induction n with
  | zero =>
    intro v0 v1 v2 v3 H locs ls a0 a1 hf hP hS hl
    simp [f_X3_close_10] at hf
  | succ n ih =>
    intro v0 v1 v2 v3 H locs ls a0 a1 hf hP hS hl
    rw [f_X3_close_10] at hf
    refine lv_iload_n hx hb dX3_close_10 rfl (lv_at hl 3 rfl) ?_
    refine lv_iload_n hx hb dX3_close_11 rfl (lv_at hl 2 rfl) ?_
    refine lv_icmp_ge (tgt := 42) hx hb dX3_close_12 (by decide) (fun c42 => ?_) (fun c42 => ?_)
    · have hf := if_t hf c42
      refine lv_iconst (v := (1 : Int32)) hx hb dX3_close_42 (by decide) ?_
      refine lv_istore_n (lv' := [(1, .int (1 : Int32)), (0, .ref (ad 1 v0)), (2, .int v2), (3, .int v3)]) hx hb dX3_close_43 rfl hl (by decide) rfl (fun ls hl => ?_)
      exact t_X3_close_44 C FU v0 (1 : Int32) _ _ _ a0 hf hP hS (lv_sub hl [1, 0] rfl)
    · have hf := if_f hf c42
      refine lv_aload_n hx hb dX3_close_15 rfl (lv_at hl 1 rfl) ?_
      refine lv_iload_n hx hb dX3_close_16 rfl (lv_at hl 3 rfl) ?_
      obtain ⟨h65, hf⟩ := ix_some hf
      have h66 : ∀ j : Nat, (mR M0 2 v1 (v3).toNatClampNeg) = some j → mA M0 4 j = true := fun j hj => hp_wf hP a1 hj
      refine hp_aald (an := 3) (t := 4) hx hb hK hP a1 rfl rfl h65 dX3_close_17 ?_
      refine hp_astore (r := ((mR M0 2 v1 (v3).toNatClampNeg)).map (ad 4)) (lv' := [(4, va_rf (((mR M0 2 v1 (v3).toNatClampNeg)).map (ad 4))), (0, .ref (ad 1 v0)), (1, .ref (ad 2 v1)), (2, .int v2), (3, .int v3)]) hx hb dX3_close_18 hl (by decide) rfl (fun ls hl => ?_)
      refine hp_aload (r := ((mR M0 2 v1 (v3).toNatClampNeg)).map (ad 4)) hx hb dX3_close_20 (lv_at hl 0 rfl) ?_
      rcases on_c hf with ⟨e67, hf⟩ | ⟨i68, e67, hf⟩
      · refine W_top (y := .null) (by rw [e67]; rfl) ?_
        refine lv_ifnullN (tgt := 36) hx hb dX3_close_22 (by decide) ?_
        obtain ⟨x70, e71, hf⟩ := lt_some hf
        refine lv_iinc (v := x70) (lv' := [(3, .int x70), (4, va_rf (((mR M0 2 v1 (v3).toNatClampNeg)).map (ad 4))), (0, .ref (ad 1 v0)), (1, .ref (ad 2 v1)), (2, .int v2)]) hx hb dX3_close_36 hl (k := 4) rfl (by rw [e71]; rfl) (by decide) rfl (fun ls hl => ?_)
        refine lv_goto (tgt := 10) hx hb dX3_close_39 (by decide) ?_
        exact ih v0 v1 v2 x70 _ _ _ a0 a1 hf hP hS (lv_sub hl [2, 3, 4, 0] rfl)
      · have h69 : mA M0 4 i68 = true := h66 i68 e67
        rw [e67] at hl
        have hl : lv_has ls 5 [(4, .ref (ad 4 i68)), (0, .ref (ad 1 v0)), (1, .ref (ad 2 v1)), (2, .int v2), (3, .int v3)] := hl
        refine W_stk (st := [va_rf (((mR M0 2 v1 (v3).toNatClampNeg)).map (ad 4))]) (st' := [.ref (ad 4 i68)]) (by first | (rw [e67]; done) | (rw [e67]; rfl)) ?_
        refine lv_ifnull hx hb dX3_close_22 ?_
        refine lv_aload hx hb dX3_close_25 (lv_at hl 0 rfl) ?_
        refine gf4N (v := .int (mI M0 4 i68 4)) hx hb hts hown hK hP h69 4 (by decide) (va_Nw.use rfl (hN.1 (RX3, 32, "ToteHouse$Race", "state", "I", RX3) (List.mem_of_getElem? (i := 4) rfl))) rfl rfl dX3_close_27 ?_
        refine lv_iconst (v := (2 : Int32)) hx hb dX3_close_30 (by decide) ?_
        refine lv_icmp_eq (tgt := 36) hx hb dX3_close_31 (by decide) (fun c72 => ?_) (fun c72 => ?_)
        · have hf := if_t hf c72
          obtain ⟨x73, e74, hf⟩ := lt_some hf
          refine lv_iinc (v := x73) (lv' := [(3, .int x73), (4, .ref (ad 4 i68)), (0, .ref (ad 1 v0)), (1, .ref (ad 2 v1)), (2, .int v2)]) hx hb dX3_close_36 hl (k := 4) rfl (by rw [e74]; rfl) (by decide) rfl (fun ls hl => ?_)
          refine lv_goto (tgt := 10) hx hb dX3_close_39 (by decide) ?_
          exact ih v0 v1 v2 x73 _ _ _ a0 a1 hf hP hS (lv_sub hl [2, 3, 4, 0] rfl)
        · have hf := if_f hf c72
          refine lv_iconst (v := (-1 : Int32)) hx hb dX3_close_34 (by decide) ?_
          exact hp_iret hx hb hr hlocks (Option.some.inj hf) rfl hP hS keep_rf dX3_close_35
set_option maxRecDepth 100000 in
set_option maxHeartbeats 4000000 in
theorem ok_X3_close (l : Launch) (D : va_G) (cy : Nat → ClassId) (ad : Nat → Nat → Nat) (M0 : Mm) (sz : Nat) (v0 : Nat) (r0 : Int32) (a0 : mA M0 1 v0 = true) (hf : f_X3_close v0 M0 = some r0) : Met l yX3_close (Cond.code yX3_close cX3_close 5 (some .int) :: BW) { frames := 6, cells := 0, slots := 0, locals := 123 } (va_Pc [.ref (ad 1 v0)] (PRE D cy ad M0 sz)) (QI D cy ad M0 sz r0 M0) 0 0 (AA ad M0 sz) := by
  refine Met.ofW (cc := cX3_close) (maxL := 5) (ret := (some .int)) (by decide) rfl ?_
  intro p e s m args below meth c s₁ B hml hv
  obtain ⟨rfl, rfl, hP0, hK, hN⟩ := hv
  have hx := B.exec
  have hb := B.bytes
  have hr := B.returns
  have hts0 := atoms_spec (ws := (Cond.code yX3_close cX3_close 5 (some .int) :: BW)) B.pre
  have hts : ∀ w ∈ BW, w.before ([.ref (ad 1 v0)] : List Value).toArray s = true := fun w h => hts0 w (List.mem_cons_of_mem _ h)
  have hown : s.vm.findClass RX3 = some m.cls := findClass_of_methodNamed B.named
  have hlocks := B.notSynchronized
  have hA : ∀ q : Nat, s.heap.size ≤ q → AA ad M0 s.heap.size q := fun q h => Or.inr h
  have C : Cx RX3 cX3_close 5 (some .int) D cy (AA ad M0 s.heap.size) p s m ([.ref (ad 1 v0)] : List Value).toArray meth c := ⟨hx, hb, hr, hml, hown, hts, hlocks, hK, hN, hA⟩
  have hP := hp_self (sz := s.heap.size) hP0
  have hS : va_S (AA ad M0 s.heap.size) s.heap s.heap [] := va_S.rf
  have hl := lv_entry ([.ref (ad 1 v0)]) (n := 5) (Nat.le_of_ble_eq_true rfl)
  rw [lg_entry_eq]
  generalize (lg_sl ([.ref (ad 1 v0)]) ++ List.replicate (5 - (lg_sl ([.ref (ad 1 v0)])).length) Slot.unset).toArray = ls at hl ⊢
  have hl : lv_has ls 5 [(0, .ref (ad 1 v0))] := hl
  unfold f_X3_close at hf
  refine lv_aload_n hx hb dX3_close_0 rfl (lv_at hl 0 rfl) ?_
  have h38 : ∀ j : Nat, (mR M0 1 v0 0) = some j → mA M0 2 j = true := fun j hj => hp_wf hP a0 hj
  refine gf1 (v := va_rf (((mR M0 1 v0 0)).map (ad 2))) hx hb hts hown hK hP a0 0 (by decide) (hts _ q103) rfl rfl dX3_close_1 ?_
  refine hp_astore_n (r := ((mR M0 1 v0 0)).map (ad 2)) (lv' := [(1, va_rf (((mR M0 1 v0 0)).map (ad 2))), (0, .ref (ad 1 v0))]) hx hb dX3_close_4 rfl hl (by decide) rfl (fun ls hl => ?_)
  refine hp_aload_n (r := ((mR M0 1 v0 0)).map (ad 2)) hx hb dX3_close_5 rfl (lv_at hl 0 rfl) ?_
  obtain ⟨i39, e40, hf⟩ := ob_some hf
  have h41 : mA M0 2 i39 = true := h38 i39 e40
  rw [e40] at hl
  have hl : lv_has ls 5 [(1, .ref (ad 2 i39)), (0, .ref (ad 1 v0))] := hl
  refine W_stk (st := [va_rf (((mR M0 1 v0 0)).map (ad 2))]) (st' := [.ref (ad 2 i39)]) (by first | (rw [e40]; done) | (rw [e40]; rfl)) ?_
  refine hp_alen (v := (13 : Int32)) hx hb hK hP h41 rfl rfl (by decide) dX3_close_6 ?_
  refine lv_istore_n (lv' := [(2, .int (13 : Int32)), (1, .ref (ad 2 i39)), (0, .ref (ad 1 v0))]) hx hb dX3_close_7 rfl hl (by decide) rfl (fun ls hl => ?_)
  refine lv_iconst (v := (0 : Int32)) hx hb dX3_close_8 (by decide) ?_
  refine lv_istore_n (lv' := [(3, .int (0 : Int32)), (2, .int (13 : Int32)), (1, .ref (ad 2 i39)), (0, .ref (ad 1 v0))]) hx hb dX3_close_9 rfl hl (by decide) rfl (fun ls hl => ?_)
  exact t_X3_close_10 C FU v0 i39 (13 : Int32) (0 : Int32) _ _ _ a0 h41 hf hP hS (lv_sub hl [3, 2, 1, 0] rfl)
