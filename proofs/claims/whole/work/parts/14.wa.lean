/-! ===== zeros ===== -/
theorem ze7 : ∀ j, j < 17 → defaultValue (tyX0 j) = vp_V (zeV cs7) j := by
  intro j hj
  have h : j = 0 ∨ j = 1 ∨ j = 2 ∨ j = 3 ∨ j = 4 ∨ j = 5 ∨ j = 6 ∨ j = 7 ∨ j = 8 ∨ j = 9 ∨ j = 10 ∨ j = 11 ∨ j = 12 ∨ j = 13 ∨ j = 14 ∨ j = 15 ∨ j = 16 := by omega
  rcases h with rfl | rfl | rfl | rfl | rfl | rfl | rfl | rfl | rfl | rfl | rfl | rfl | rfl | rfl | rfl | rfl | rfl <;> rfl
theorem ze4 : ∀ j, j < 7 → defaultValue (tyX1 j) = vp_V (zeV cs4) j := by
  intro j hj
  have h : j = 0 ∨ j = 1 ∨ j = 2 ∨ j = 3 ∨ j = 4 ∨ j = 5 ∨ j = 6 := by omega
  rcases h with rfl | rfl | rfl | rfl | rfl | rfl | rfl <;> rfl
theorem ze8 : ∀ j, j < 7 → defaultValue (tyX2 j) = vp_V (zeV cs8) j := by
  intro j hj
  have h : j = 0 ∨ j = 1 ∨ j = 2 ∨ j = 3 ∨ j = 4 ∨ j = 5 ∨ j = 6 := by omega
  rcases h with rfl | rfl | rfl | rfl | rfl | rfl | rfl <;> rfl
theorem ze1 : ∀ j, j < 5 → defaultValue (tyX3 j) = vp_V (zeV cs1) j := by
  intro j hj
  have h : j = 0 ∨ j = 1 ∨ j = 2 ∨ j = 3 ∨ j = 4 := by omega
  rcases h with rfl | rfl | rfl | rfl | rfl <;> rfl
theorem ze0 : ∀ j, j < 32 → defaultValue (tyX4 j) = vp_V (zeV cs0) j := by
  intro j hj
  have h : j = 0 ∨ j = 1 ∨ j = 2 ∨ j = 3 ∨ j = 4 ∨ j = 5 ∨ j = 6 ∨ j = 7 ∨ j = 8 ∨ j = 9 ∨ j = 10 ∨ j = 11 ∨ j = 12 ∨ j = 13 ∨ j = 14 ∨ j = 15 ∨ j = 16 ∨ j = 17 ∨ j = 18 ∨ j = 19 ∨ j = 20 ∨ j = 21 ∨ j = 22 ∨ j = 23 ∨ j = 24 ∨ j = 25 ∨ j = 26 ∨ j = 27 ∨ j = 28 ∨ j = 29 ∨ j = 30 ∨ j = 31 := by omega
  rcases h with rfl | rfl | rfl | rfl | rfl | rfl | rfl | rfl | rfl | rfl | rfl | rfl | rfl | rfl | rfl | rfl | rfl | rfl | rfl | rfl | rfl | rfl | rfl | rfl | rfl | rfl | rfl | rfl | rfl | rfl | rfl | rfl <;> rfl
/-! ===== walks that make cells: by program out of the bytecode ===== -/

def f_X0_init (v0 : Nat) (v1 : Int32) (v2 : Nat) (v3 : Nat) (v4 : Int32) (v5 : Int32) (M0 : Mm) : Option Mm :=
  lt (sI M0 7 v0 0 v1) fun M16 => lt (sR M16 7 v0 1 (some v2)) fun M19 => lt (sR M19 7 v0 2 (some v3)) fun M22 => lt (sI M22 7 v0 3 v4) fun M25 => lt (sI M25 7 v0 4 v5) fun M28 => some M28
set_option maxRecDepth 100000 in
set_option maxHeartbeats 4000000 in
theorem ok_X0_init (l : Launch) (D : va_G) (cy : Nat → ClassId) (ad : Nat → Nat → Nat) (M0 : Mm) (sz : Nat) (v0 : Nat) (v1 : Int32) (v2 : Nat) (v3 : Nat) (v4 : Int32) (v5 : Int32) (M' : Mm) (a0 : mA M0 7 v0 = true) (a2 : mA M0 4 v2 = true) (a3 : mA M0 4 v3 = true) (hf : f_X0_init v0 v1 v2 v3 v4 v5 M0 = some M') : Met l yX0_init (Cond.code yX0_init cX0_init 6 none :: BW) { frames := 1, cells := 0, slots := 0, locals := 16 } (va_Pc [.ref (ad 7 v0), .int v1, .ref (ad 4 v2), .ref (ad 4 v3), .int v4, .int v5] (PRE D cy ad M0 sz)) (QV D cy ad M0 sz M') 0 0 (AA ad M0 sz) := by
  refine Met.ofW (cc := cX0_init) (maxL := 6) (ret := none) (by decide) rfl ?_
  intro p e s m args below meth c s₁ B hml hv
  obtain ⟨rfl, rfl, hP0, hK, hN⟩ := hv
  have hx := B.exec
  have hb := B.bytes
  have hr := B.returns
  have hts0 := atoms_spec (ws := (Cond.code yX0_init cX0_init 6 none :: BW)) B.pre
  have hts : ∀ w ∈ BW, w.before ([.ref (ad 7 v0), .int v1, .ref (ad 4 v2), .ref (ad 4 v3), .int v4, .int v5] : List Value).toArray s = true := fun w h => hts0 w (List.mem_cons_of_mem _ h)
  have hown : s.vm.findClass RX0 = some m.cls := findClass_of_methodNamed B.named
  have hlocks := B.notSynchronized
  have hA : ∀ q : Nat, s.heap.size ≤ q → AA ad M0 s.heap.size q := fun q h => Or.inr h
  have C : Cx RX0 cX0_init 6 none D cy (AA ad M0 s.heap.size) p s m ([.ref (ad 7 v0), .int v1, .ref (ad 4 v2), .ref (ad 4 v3), .int v4, .int v5] : List Value).toArray meth c := ⟨hx, hb, hr, hml, hown, hts, hlocks, hK, hN, hA⟩
  have hP := hp_self (sz := s.heap.size) hP0
  have hS : va_S (AA ad M0 s.heap.size) s.heap s.heap [] := va_S.rf
  have hl := lv_entry ([.ref (ad 7 v0), .int v1, .ref (ad 4 v2), .ref (ad 4 v3), .int v4, .int v5]) (n := 6) (Nat.le_of_ble_eq_true rfl)
  rw [lg_entry_eq]
  generalize (lg_sl ([.ref (ad 7 v0), .int v1, .ref (ad 4 v2), .ref (ad 4 v3), .int v4, .int v5]) ++ List.replicate (6 - (lg_sl ([.ref (ad 7 v0), .int v1, .ref (ad 4 v2), .ref (ad 4 v3), .int v4, .int v5])).length) Slot.unset).toArray = ls at hl ⊢
  have hl : lv_has ls 6 [(0, .ref (ad 7 v0)), (1, .int v1), (2, .ref (ad 4 v2)), (3, .ref (ad 4 v3)), (4, .int v4), (5, .int v5)] := hl
  unfold f_X0_init at hf
  have hin : meth.name = "<init>" := (name_of_methodNamed B.named B.method).1
  refine lv_aload_n hx hb dX0_init_0 rfl (lv_at hl 0 rfl) ?_
  refine W.objInit hx hb hown (hts _ q175) (hts _ q97) (hts _ q98) rfl (by rw [hml]; exact hl.1) rfl dX0_init_1 (Nat.le_of_ble_eq_true rfl) (Nat.le_of_ble_eq_true rfl) ?_
  refine W.eq (g2 := F0 m 4 ls []) rfl ?_
  refine lv_aload_n hx hb dX0_init_4 rfl (lv_at hl 0 rfl) ?_
  refine lv_iload_n hx hb dX0_init_5 rfl (lv_at hl 1 rfl) ?_
  obtain ⟨M16, e17, hf⟩ := lt_some hf
  have hk18 : Keep M0 M16 := keI e17
  refine pI7F (v := v1) hx hb hts hown hK hP hS a0 0 (by decide) (hts _ q176) hin rfl rfl rfl rfl e17 dX0_init_6 (fun H locs hP hS => ?_)
  refine lv_aload_n hx hb dX0_init_9 rfl (lv_at hl 0 rfl) ?_
  refine lv_aload_n hx hb dX0_init_10 rfl (lv_at hl 2 rfl) ?_
  obtain ⟨M19, e20, hf⟩ := lt_some hf
  have hk21 : Keep M16 M19 := keR e20
  refine pR7F (v := (some v2)) (t := 4) hx hb hts hown hK hP hS (hk18 _ _ a0) 1 (by decide) (hts _ q178) hin rfl rfl rfl (Or.inl ⟨_, rfl⟩) (fun j hj => by cases hj; exact (hk18 _ _ a2)) rfl e20 dX0_init_11 (fun H locs hP hS => ?_)
  refine lv_aload_n hx hb dX0_init_14 rfl (lv_at hl 0 rfl) ?_
  refine lv_aload_n hx hb dX0_init_15 rfl (lv_at hl 3 rfl) ?_
  obtain ⟨M22, e23, hf⟩ := lt_some hf
  have hk24 : Keep M19 M22 := keR e23
  refine pR7F (v := (some v3)) (t := 4) hx hb hts hown hK hP hS (hk21 _ _ (hk18 _ _ a0)) 2 (by decide) (hts _ q180) hin rfl rfl rfl (Or.inl ⟨_, rfl⟩) (fun j hj => by cases hj; exact (hk21 _ _ (hk18 _ _ a3))) rfl e23 dX0_init_16 (fun H locs hP hS => ?_)
  refine lv_aload_n hx hb dX0_init_19 rfl (lv_at hl 0 rfl) ?_
  refine lv_iload hx hb dX0_init_20 (lv_at hl 4 rfl) ?_
  obtain ⟨M25, e26, hf⟩ := lt_some hf
  have hk27 : Keep M22 M25 := keI e26
  refine pI7F (v := v4) hx hb hts hown hK hP hS (hk24 _ _ (hk21 _ _ (hk18 _ _ a0))) 3 (by decide) (hts _ q181) hin rfl rfl rfl rfl e26 dX0_init_22 (fun H locs hP hS => ?_)
  refine lv_aload_n hx hb dX0_init_25 rfl (lv_at hl 0 rfl) ?_
  refine lv_iload hx hb dX0_init_26 (lv_at hl 5 rfl) ?_
  obtain ⟨M28, e29, hf⟩ := lt_some hf
  have hk30 : Keep M25 M28 := keI e29
  refine pI7F (v := v5) hx hb hts hown hK hP hS (hk27 _ _ (hk24 _ _ (hk21 _ _ (hk18 _ _ a0)))) 4 (by decide) (hts _ q182) hin rfl rfl rfl rfl e29 dX0_init_28 (fun H locs hP hS => ?_)
  exact hp_vret hx hb hr hlocks (Option.some.inj hf) hP hS (kt (kt (kt (kt (kt keep_rf hk18) hk21) hk24) hk27) hk30) dX0_init_31

def f_X1_init (v0 : Nat) (v1 : Int32) (v2 : Int32) (M0 : Mm) : Option Mm :=
  nw (mA M0 5 v0) (lt (nA M0 5 v0) fun M31 => lt (sR M31 4 v0 2 (some v0)) fun M37 => nw (mA M37 6 v0) (lt (nA M37 6 v0) fun M41 => lt (sR M41 4 v0 3 (some v0)) fun M47 => lt (sI M47 4 v0 0 v1) fun M50 => lt (sI M50 4 v0 1 v2) fun M53 => lt (sI M53 4 v0 5 v2) fun M56 => some M56))
set_option maxRecDepth 100000 in
set_option maxHeartbeats 4000000 in
theorem ok_X1_init (l : Launch) (D : va_G) (cy : Nat → ClassId) (ad : Nat → Nat → Nat) (M0 : Mm) (sz : Nat) (v0 : Nat) (v1 : Int32) (v2 : Int32) (M' : Mm) (a0 : mA M0 4 v0 = true) (hf : f_X1_init v0 v1 v2 M0 = some M') : Met l yX1_init (Cond.code yX1_init cX1_init 3 none :: BW) { frames := 1, cells := 2, slots := 29, locals := 16 } (va_Pc [.ref (ad 4 v0), .int v1, .int v2] (PRE D cy ad M0 sz)) (QVa D cy ad M0 sz M') 2 29 (AA ad M0 sz) := by
  refine Met.ofW (cc := cX1_init) (maxL := 3) (ret := none) (by decide) rfl ?_
  intro p e s m args below meth c s₁ B hml hv
  obtain ⟨rfl, rfl, hP0, hK, hN⟩ := hv
  have hx := B.exec
  have hb := B.bytes
  have hr := B.returns
  have hts0 := atoms_spec (ws := (Cond.code yX1_init cX1_init 3 none :: BW)) B.pre
  have hts : ∀ w ∈ BW, w.before ([.ref (ad 4 v0), .int v1, .int v2] : List Value).toArray s = true := fun w h => hts0 w (List.mem_cons_of_mem _ h)
  have hown : s.vm.findClass RX1 = some m.cls := findClass_of_methodNamed B.named
  have hlocks := B.notSynchronized
  have hA : ∀ q : Nat, s.heap.size ≤ q → AA ad M0 s.heap.size q := fun q h => Or.inr h
  have C : Cx RX1 cX1_init 3 none D cy (AA ad M0 s.heap.size) p s m ([.ref (ad 4 v0), .int v1, .int v2] : List Value).toArray meth c := ⟨hx, hb, hr, hml, hown, hts, hlocks, hK, hN, hA⟩
  have hP := hp_self (sz := s.heap.size) hP0
  have hS : va_S (AA ad M0 s.heap.size) s.heap s.heap [] := va_S.rf
  have hl := lv_entry ([.ref (ad 4 v0), .int v1, .int v2]) (n := 3) (Nat.le_of_ble_eq_true rfl)
  rw [lg_entry_eq]
  generalize (lg_sl ([.ref (ad 4 v0), .int v1, .int v2]) ++ List.replicate (3 - (lg_sl ([.ref (ad 4 v0), .int v1, .int v2])).length) Slot.unset).toArray = ls at hl ⊢
  have hl : lv_has ls 3 [(0, .ref (ad 4 v0)), (1, .int v1), (2, .int v2)] := hl
  unfold f_X1_init at hf
  have hin : meth.name = "<init>" := (name_of_methodNamed B.named B.method).1
  refine lv_aload_n hx hb dX1_init_0 rfl (lv_at hl 0 rfl) ?_
  refine W.objInit hx hb hown (hts _ q127) (hts _ q97) (hts _ q98) rfl (by rw [hml]; exact hl.1) rfl dX1_init_1 (Nat.le_of_ble_eq_true rfl) (Nat.le_of_ble_eq_true rfl) ?_
  refine W.eq (g2 := F0 m 4 ls []) rfl ?_
  refine lv_aload_n hx hb dX1_init_4 rfl (lv_at hl 0 rfl) ?_
  refine lv_bipush (v := (25 : Int32)) hx hb dX1_init_5 (by decide) ?_
  obtain ⟨h30, hf⟩ := nw_some hf
  obtain ⟨M31, e32, hf⟩ := lt_some hf
  have hk33 : Keep M0 M31 := keep_nA e32
  refine hp_newA (atype := .int) (ty := .int) (an := 0) (s0 := 5) (i := v0) hx hb (hts _ q158) rfl (fun C => by intro h; cases h) hK hP hS hA h30 rfl rfl (fun cA => arV_z0 cA) e32 (by decide) (by decide) (by decide) (Nat.le_of_ble_eq_true rfl) (Nat.le_of_ble_eq_true rfl) dX1_init_7 (fun ad34 H hP hg35 hS => ?_)
  have h36 : mA M31 5 v0 = true := nA_at e32
  have hl : lv_has ls 3 [(0, .ref (ad34 4 v0)), (1, .int v1), (2, .int v2)] := by rw [hg35 _ _ a0]; exact hl
  refine W_stk (st := [.ref (ad34 5 v0), .ref (ad 4 v0)]) (st' := [.ref (ad34 5 v0), .ref (ad34 4 v0)]) (by rw [hg35 _ _ a0]) ?_
  obtain ⟨M37, e38, hf⟩ := lt_some hf
  have hk39 : Keep M31 M37 := keR e38
  refine pR4F (v := (some v0)) (t := 5) hx hb hts hown hK hP hS (hk33 _ _ a0) 2 (by decide) (hts _ q134) hin rfl rfl rfl (Or.inr ⟨_, rfl⟩) (fun j hj => by cases hj; exact h36) rfl e38 dX1_init_9 (fun H locs hP hS => ?_)
  refine lv_aload_n hx hb dX1_init_12 rfl (lv_at hl 0 rfl) ?_
  refine lv_iconst (v := (4 : Int32)) hx hb dX1_init_13 (by decide) ?_
  obtain ⟨h40, hf⟩ := nw_some hf
  obtain ⟨M41, e42, hf⟩ := lt_some hf
  have hk43 : Keep M37 M41 := keep_nA e42
  refine hp_newQ (an := 5) (t := 7) (s0 := 6) (i := v0) hx hb hown (hts _ q128) hN.2.2.1 hK hP hS hA h40 rfl rfl e42 (by decide) (by decide) (by decide) (Nat.le_of_ble_eq_true rfl) (Nat.le_of_ble_eq_true rfl) dX1_init_14 (fun ad44 H hP hg45 hS => ?_)
  have h46 : mA M41 6 v0 = true := nA_at e42
  have hl : lv_has ls 3 [(0, .ref (ad44 4 v0)), (1, .int v1), (2, .int v2)] := by rw [hg45 _ _ (hk39 _ _ (hk33 _ _ a0))]; exact hl
  refine W_stk (st := [.ref (ad44 6 v0), .ref (ad34 4 v0)]) (st' := [.ref (ad44 6 v0), .ref (ad44 4 v0)]) (by rw [hg45 _ _ (hk39 _ _ (hk33 _ _ a0))]) ?_
  obtain ⟨M47, e48, hf⟩ := lt_some hf
  have hk49 : Keep M41 M47 := keR e48
  refine pR4F (v := (some v0)) (t := 6) hx hb hts hown hK hP hS (hk43 _ _ (hk39 _ _ (hk33 _ _ a0))) 3 (by decide) (hts _ q135) hin rfl rfl rfl (Or.inr ⟨_, rfl⟩) (fun j hj => by cases hj; exact h46) rfl e48 dX1_init_17 (fun H locs hP hS => ?_)
  refine lv_aload_n hx hb dX1_init_20 rfl (lv_at hl 0 rfl) ?_
  refine lv_iload_n hx hb dX1_init_21 rfl (lv_at hl 1 rfl) ?_
  obtain ⟨M50, e51, hf⟩ := lt_some hf
  have hk52 : Keep M47 M50 := keI e51
  refine pI4F (v := v1) hx hb hts hown hK hP hS (hk49 _ _ (hk43 _ _ (hk39 _ _ (hk33 _ _ a0)))) 0 (by decide) (hts _ q130) hin rfl rfl rfl rfl e51 dX1_init_22 (fun H locs hP hS => ?_)
  refine lv_aload_n hx hb dX1_init_25 rfl (lv_at hl 0 rfl) ?_
  refine lv_iload_n hx hb dX1_init_26 rfl (lv_at hl 2 rfl) ?_
  obtain ⟨M53, e54, hf⟩ := lt_some hf
  have hk55 : Keep M50 M53 := keI e54
  refine pI4F (v := v2) hx hb hts hown hK hP hS (hk52 _ _ (hk49 _ _ (hk43 _ _ (hk39 _ _ (hk33 _ _ a0))))) 1 (by decide) (hts _ q132) hin rfl rfl rfl rfl e54 dX1_init_27 (fun H locs hP hS => ?_)
  refine lv_aload_n hx hb dX1_init_30 rfl (lv_at hl 0 rfl) ?_
  refine lv_iload_n hx hb dX1_init_31 rfl (lv_at hl 2 rfl) ?_
  obtain ⟨M56, e57, hf⟩ := lt_some hf
  have hk58 : Keep M53 M56 := keI e57
  refine pI4 (v := v2) hx hb hts hown hK hP hS (hk55 _ _ (hk52 _ _ (hk49 _ _ (hk43 _ _ (hk39 _ _ (hk33 _ _ a0)))))) 5 (by decide) (hts _ q139) rfl rfl rfl e57 dX1_init_32 (fun H locs hP hS => ?_)
  refine W.widen (k := 2) (n := 29) (Nat.le_of_ble_eq_true rfl) (Nat.le_of_ble_eq_true rfl) ?_
  exact hp_vreta hx hb hr hlocks (Option.some.inj hf) hP hS (kt (kt (kt (kt (kt (kt (kt keep_rf hk33) hk39) hk43) hk49) hk52) hk55) hk58) (agr_t (agr_t agr_rf keep_rf hg35) (kt (kt keep_rf hk33) hk39) hg45) dX1_init_35

def f_X2_init (v0 : Nat) (v1 : Nat) (v2 : Option Nat) (v3 : Int32) (v4 : Int32) (v5 : Int32) (v6 : Int32) (M0 : Mm) : Option Mm :=
  lt (sR M0 8 v0 0 (some v1)) fun M19 => lt (sR M19 8 v0 1 v2) fun M22 => lt (sI M22 8 v0 3 v3) fun M25 => lt (sI M25 8 v0 4 v4) fun M28 => lt (sI M28 8 v0 5 v5) fun M31 => lt (sI M31 8 v0 2 v6) fun M34 => some M34
set_option maxRecDepth 100000 in
set_option maxHeartbeats 4000000 in
theorem ok_X2_init (l : Launch) (D : va_G) (cy : Nat → ClassId) (ad : Nat → Nat → Nat) (M0 : Mm) (sz : Nat) (v0 : Nat) (v1 : Nat) (v2 : Option Nat) (v3 : Int32) (v4 : Int32) (v5 : Int32) (v6 : Int32) (M' : Mm) (a0 : mA M0 8 v0 = true) (a1 : mA M0 7 v1 = true) (a2 : ∀ j : Nat, v2 = some j → mA M0 8 j = true) (hf : f_X2_init v0 v1 v2 v3 v4 v5 v6 M0 = some M') : Met l yX2_init (Cond.code yX2_init cX2_init 7 none :: BW) { frames := 1, cells := 0, slots := 0, locals := 16 } (va_Pc [.ref (ad 8 v0), .ref (ad 7 v1), va_rf (v2.map (ad 8)), .int v3, .int v4, .int v5, .int v6] (PRE D cy ad M0 sz)) (QV D cy ad M0 sz M') 0 0 (AA ad M0 sz) := by
  refine Met.ofW (cc := cX2_init) (maxL := 7) (ret := none) (by decide) rfl ?_
  intro p e s m args below meth c s₁ B hml hv
  obtain ⟨rfl, rfl, hP0, hK, hN⟩ := hv
  have hx := B.exec
  have hb := B.bytes
  have hr := B.returns
  have hts0 := atoms_spec (ws := (Cond.code yX2_init cX2_init 7 none :: BW)) B.pre
  have hts : ∀ w ∈ BW, w.before ([.ref (ad 8 v0), .ref (ad 7 v1), va_rf (v2.map (ad 8)), .int v3, .int v4, .int v5, .int v6] : List Value).toArray s = true := fun w h => hts0 w (List.mem_cons_of_mem _ h)
  have hown : s.vm.findClass RX2 = some m.cls := findClass_of_methodNamed B.named
  have hlocks := B.notSynchronized
  have hA : ∀ q : Nat, s.heap.size ≤ q → AA ad M0 s.heap.size q := fun q h => Or.inr h
  have C : Cx RX2 cX2_init 7 none D cy (AA ad M0 s.heap.size) p s m ([.ref (ad 8 v0), .ref (ad 7 v1), va_rf (v2.map (ad 8)), .int v3, .int v4, .int v5, .int v6] : List Value).toArray meth c := ⟨hx, hb, hr, hml, hown, hts, hlocks, hK, hN, hA⟩
  have hP := hp_self (sz := s.heap.size) hP0
  have hS : va_S (AA ad M0 s.heap.size) s.heap s.heap [] := va_S.rf
  have hl := lv_entry ([.ref (ad 8 v0), .ref (ad 7 v1), va_rf (v2.map (ad 8)), .int v3, .int v4, .int v5, .int v6]) (n := 7) ((by cases v2 <;> exact Nat.le_of_ble_eq_true rfl))
  rw [lg_entry_eq]
  generalize (lg_sl ([.ref (ad 8 v0), .ref (ad 7 v1), va_rf (v2.map (ad 8)), .int v3, .int v4, .int v5, .int v6]) ++ List.replicate (7 - (lg_sl ([.ref (ad 8 v0), .ref (ad 7 v1), va_rf (v2.map (ad 8)), .int v3, .int v4, .int v5, .int v6])).length) Slot.unset).toArray = ls at hl ⊢
  have hl : lv_has ls 7 [(0, .ref (ad 8 v0)), (1, .ref (ad 7 v1)), (2, va_rf (v2.map (ad 8))), (3, .int v3), (4, .int v4), (5, .int v5), (6, .int v6)] := (by cases v2 <;> exact hl)
  unfold f_X2_init at hf
  have hin : meth.name = "<init>" := (name_of_methodNamed B.named B.method).1
  refine lv_aload_n hx hb dX2_init_0 rfl (lv_at hl 0 rfl) ?_
  refine W.objInit hx hb hown (hts _ q306) (hts _ q97) (hts _ q98) rfl (by rw [hml]; exact hl.1) rfl dX2_init_1 (Nat.le_of_ble_eq_true rfl) (Nat.le_of_ble_eq_true rfl) ?_
  refine W.eq (g2 := F0 m 4 ls []) rfl ?_
  refine lv_aload_n hx hb dX2_init_4 rfl (lv_at hl 0 rfl) ?_
  refine lv_aload_n hx hb dX2_init_5 rfl (lv_at hl 1 rfl) ?_
  obtain ⟨M19, e20, hf⟩ := lt_some hf
  have hk21 : Keep M0 M19 := keR e20
  refine pR8F (v := (some v1)) (t := 7) hx hb hts hown hK hP hS a0 0 (by decide) (hts _ q307) hin rfl rfl rfl (Or.inl ⟨_, rfl⟩) (fun j hj => by cases hj; exact a1) rfl e20 dX2_init_6 (fun H locs hP hS => ?_)
  refine lv_aload_n hx hb dX2_init_9 rfl (lv_at hl 0 rfl) ?_
  refine hp_aload_n (r := (v2).map (ad 8)) hx hb dX2_init_10 rfl (lv_at hl 2 rfl) ?_
  obtain ⟨M22, e23, hf⟩ := lt_some hf
  have hk24 : Keep M19 M22 := keR e23
  refine pR8F (v := v2) (t := 8) hx hb hts hown hK hP hS (hk21 _ _ a0) 1 (by decide) (hts _ q309) hin rfl rfl rfl (Or.inl ⟨_, rfl⟩) (fun j hj => hk21 _ _ (a2 j hj)) rfl e23 dX2_init_11 (fun H locs hP hS => ?_)
  refine lv_aload_n hx hb dX2_init_14 rfl (lv_at hl 0 rfl) ?_
  refine lv_iload_n hx hb dX2_init_15 rfl (lv_at hl 3 rfl) ?_
  obtain ⟨M25, e26, hf⟩ := lt_some hf
  have hk27 : Keep M22 M25 := keI e26
  refine pI8 (v := v3) hx hb hts hown hK hP hS (hk24 _ _ (hk21 _ _ a0)) 3 (by decide) (hts _ q314) rfl rfl rfl e26 dX2_init_16 (fun H locs hP hS => ?_)
  refine lv_aload_n hx hb dX2_init_19 rfl (lv_at hl 0 rfl) ?_
  refine lv_iload hx hb dX2_init_20 (lv_at hl 4 rfl) ?_
  obtain ⟨M28, e29, hf⟩ := lt_some hf
  have hk30 : Keep M25 M28 := keI e29
  refine pI8 (v := v4) hx hb hts hown hK hP hS (hk27 _ _ (hk24 _ _ (hk21 _ _ a0))) 4 (by decide) (hts _ q317) rfl rfl rfl e29 dX2_init_22 (fun H locs hP hS => ?_)
  refine lv_aload_n hx hb dX2_init_25 rfl (lv_at hl 0 rfl) ?_
  refine lv_iload hx hb dX2_init_26 (lv_at hl 5 rfl) ?_
  obtain ⟨M31, e32, hf⟩ := lt_some hf
  have hk33 : Keep M28 M31 := keI e32
  refine pI8 (v := v5) hx hb hts hown hK hP hS (hk30 _ _ (hk27 _ _ (hk24 _ _ (hk21 _ _ a0)))) 5 (by decide) (hts _ q320) rfl rfl rfl e32 dX2_init_28 (fun H locs hP hS => ?_)
  refine lv_aload_n hx hb dX2_init_31 rfl (lv_at hl 0 rfl) ?_
  refine lv_iload hx hb dX2_init_32 (lv_at hl 6 rfl) ?_
  obtain ⟨M34, e35, hf⟩ := lt_some hf
  have hk36 : Keep M31 M34 := keI e35
  refine pI8F (v := v6) hx hb hts hown hK hP hS (hk33 _ _ (hk30 _ _ (hk27 _ _ (hk24 _ _ (hk21 _ _ a0))))) 2 (by decide) (hts _ q311) hin rfl rfl rfl rfl e35 dX2_init_34 (fun H locs hP hS => ?_)
  exact hp_vret hx hb hr hlocks (Option.some.inj hf) hP hS (kt (kt (kt (kt (kt (kt keep_rf hk21) hk24) hk27) hk30) hk33) hk36) dX2_init_37

def f_X3_race (v0 : Nat) (v1 : Int32) (v2 : Int32) (M0 : Mm) : Option (Int32 × Mm) :=
  if 0 < (mI M0 1 v0 2) then (some ((0 : Int32), M0)) else (if v1 < (1 : Int32) then (some ((0 : Int32), M0)) else (ob (mR M0 1 v0 0) fun i43 => if (13 : Int32) ≤ v1 then (some ((0 : Int32), M0)) else (ob (mR M0 1 v0 0) fun i48 => ix v1 13 (on (mR M0 2 i48 (v1).toNatClampNeg) (if v2 < (2 : Int32) then (some ((0 : Int32), M0)) else (if v2 ≤ (24 : Int32) then (nw (mA M0 4 v1.toNatClampNeg) (lt (nA M0 4 v1.toNatClampNeg) fun M60 => ob (f_X1_init v1.toNatClampNeg v1 v2 M60) fun M68 => ob (mR M0 1 v0 0) fun i72 => ix v1 13 (lt (sR M68 2 i72 (v1).toNatClampNeg (some v1.toNatClampNeg)) fun M76 => some ((1 : Int32), M76)))) else (some ((0 : Int32), M0)))) fun i54 => some ((0 : Int32), M0)))))
set_option maxRecDepth 100000 in
set_option maxHeartbeats 4000000 in
theorem ok_X3_race (l : Launch) (D : va_G) (cy : Nat → ClassId) (ad : Nat → Nat → Nat) (M0 : Mm) (sz : Nat) (v0 : Nat) (v1 : Int32) (v2 : Int32) (r0 : Int32) (M' : Mm) (a0 : mA M0 1 v0 = true) (hf : f_X3_race v0 v1 v2 M0 = some (r0, M')) : Met l yX3_race (Cond.code yX3_race cX3_race 3 (some .boolean) :: BW) { frames := 2, cells := 3, slots := 36, locals := 38 } (va_Pc [.ref (ad 1 v0), .int v1, .int v2] (PRE D cy ad M0 sz)) (QIa D cy ad M0 sz r0 M') 3 36 (AA ad M0 sz) := by
  refine Met.ofW (cc := cX3_race) (maxL := 3) (ret := (some .boolean)) (by decide) rfl ?_
  intro p e s m args below meth c s₁ B hml hv
  obtain ⟨rfl, rfl, hP0, hK, hN⟩ := hv
  have hx := B.exec
  have hb := B.bytes
  have hr := B.returns
  have hts0 := atoms_spec (ws := (Cond.code yX3_race cX3_race 3 (some .boolean) :: BW)) B.pre
  have hts : ∀ w ∈ BW, w.before ([.ref (ad 1 v0), .int v1, .int v2] : List Value).toArray s = true := fun w h => hts0 w (List.mem_cons_of_mem _ h)
  have hown : s.vm.findClass RX3 = some m.cls := findClass_of_methodNamed B.named
  have hlocks := B.notSynchronized
  have hA : ∀ q : Nat, s.heap.size ≤ q → AA ad M0 s.heap.size q := fun q h => Or.inr h
  have C : Cx RX3 cX3_race 3 (some .boolean) D cy (AA ad M0 s.heap.size) p s m ([.ref (ad 1 v0), .int v1, .int v2] : List Value).toArray meth c := ⟨hx, hb, hr, hml, hown, hts, hlocks, hK, hN, hA⟩
  have hP := hp_self (sz := s.heap.size) hP0
  have hS : va_S (AA ad M0 s.heap.size) s.heap s.heap [] := va_S.rf
  have hl := lv_entry ([.ref (ad 1 v0), .int v1, .int v2]) (n := 3) (Nat.le_of_ble_eq_true rfl)
  rw [lg_entry_eq]
  generalize (lg_sl ([.ref (ad 1 v0), .int v1, .int v2]) ++ List.replicate (3 - (lg_sl ([.ref (ad 1 v0), .int v1, .int v2])).length) Slot.unset).toArray = ls at hl ⊢
  have hl : lv_has ls 3 [(0, .ref (ad 1 v0)), (1, .int v1), (2, .int v2)] := hl
  unfold f_X3_race at hf
  refine lv_aload_n hx hb dX3_race_0 rfl (lv_at hl 0 rfl) ?_
  refine gf1 (v := .int (mI M0 1 v0 2)) hx hb hts hown hK hP a0 2 (by decide) (hts _ q105) rfl rfl dX3_race_1 ?_
  refine lv_if_gt (tgt := 41) hx hb dX3_race_4 (by decide) (fun c40 => ?_) (fun c40 => ?_)
  · have hf := if_t hf c40
    refine lv_iconst (v := (0 : Int32)) hx hb dX3_race_41 (by decide) ?_
    refine W.widen (k := 3) (n := 36) (Nat.le_of_ble_eq_true rfl) (Nat.le_of_ble_eq_true rfl) ?_
    exact hp_zreta hx hb hr hlocks (Or.inl rfl) (congrArg Prod.fst (Option.some.inj hf)) (congrArg Prod.snd (Option.some.inj hf)) hP hS keep_rf agr_rf dX3_race_42
  · have hf := if_f hf c40
    refine lv_iload_n hx hb dX3_race_7 rfl (lv_at hl 1 rfl) ?_
    refine lv_iconst (v := (1 : Int32)) hx hb dX3_race_8 (by decide) ?_
    refine lv_icmp_lt (tgt := 41) hx hb dX3_race_9 (by decide) (fun c41 => ?_) (fun c41 => ?_)
    · have hf := if_t hf c41
      refine lv_iconst (v := (0 : Int32)) hx hb dX3_race_41 (by decide) ?_
      refine W.widen (k := 3) (n := 36) (Nat.le_of_ble_eq_true rfl) (Nat.le_of_ble_eq_true rfl) ?_
      exact hp_zreta hx hb hr hlocks (Or.inl rfl) (congrArg Prod.fst (Option.some.inj hf)) (congrArg Prod.snd (Option.some.inj hf)) hP hS keep_rf agr_rf dX3_race_42
    · have hf := if_f hf c41
      refine lv_iload_n hx hb dX3_race_12 rfl (lv_at hl 1 rfl) ?_
      refine lv_aload_n hx hb dX3_race_13 rfl (lv_at hl 0 rfl) ?_
      have h42 : ∀ j : Nat, (mR M0 1 v0 0) = some j → mA M0 2 j = true := fun j hj => hp_wf hP a0 hj
      refine gf1 (v := va_rf (((mR M0 1 v0 0)).map (ad 2))) hx hb hts hown hK hP a0 0 (by decide) (hts _ q103) rfl rfl dX3_race_14 ?_
      obtain ⟨i43, e44, hf⟩ := ob_some hf
      have h45 : mA M0 2 i43 = true := h42 i43 e44
      refine W_stk (st := [va_rf (((mR M0 1 v0 0)).map (ad 2)), .int v1]) (st' := [.ref (ad 2 i43), .int v1]) (by first | (rw [e44]; done) | (rw [e44]; rfl)) ?_
      refine hp_alen (v := (13 : Int32)) hx hb hK hP h45 rfl rfl (by decide) dX3_race_17 ?_
      refine lv_icmp_ge (tgt := 41) hx hb dX3_race_18 (by decide) (fun c46 => ?_) (fun c46 => ?_)
      · have hf := if_t hf c46
        refine lv_iconst (v := (0 : Int32)) hx hb dX3_race_41 (by decide) ?_
        refine W.widen (k := 3) (n := 36) (Nat.le_of_ble_eq_true rfl) (Nat.le_of_ble_eq_true rfl) ?_
        exact hp_zreta hx hb hr hlocks (Or.inl rfl) (congrArg Prod.fst (Option.some.inj hf)) (congrArg Prod.snd (Option.some.inj hf)) hP hS keep_rf agr_rf dX3_race_42
      · have hf := if_f hf c46
        refine lv_aload_n hx hb dX3_race_21 rfl (lv_at hl 0 rfl) ?_
        have h47 : ∀ j : Nat, (mR M0 1 v0 0) = some j → mA M0 2 j = true := fun j hj => hp_wf hP a0 hj
        refine gf1 (v := va_rf (((mR M0 1 v0 0)).map (ad 2))) hx hb hts hown hK hP a0 0 (by decide) (hts _ q103) rfl rfl dX3_race_22 ?_
        refine lv_iload_n hx hb dX3_race_25 rfl (lv_at hl 1 rfl) ?_
        obtain ⟨i48, e49, hf⟩ := ob_some hf
        have h50 : mA M0 2 i48 = true := h47 i48 e49
        refine W_stk (st := [.int v1, va_rf (((mR M0 1 v0 0)).map (ad 2))]) (st' := [.int v1, .ref (ad 2 i48)]) (by first | (rw [e49]; done) | (rw [e49]; rfl)) ?_
        obtain ⟨h51, hf⟩ := ix_some hf
        have h52 : ∀ j : Nat, (mR M0 2 i48 (v1).toNatClampNeg) = some j → mA M0 4 j = true := fun j hj => hp_wf hP h50 hj
        refine hp_aald (an := 3) (t := 4) hx hb hK hP h50 rfl rfl h51 dX3_race_26 ?_
        rcases on_c hf with ⟨e53, hf⟩ | ⟨i54, e53, hf⟩
        · refine W_top (y := .null) (by rw [e53]; rfl) ?_
          refine lv_ifnonnullN hx hb dX3_race_27 ?_
          refine lv_iload_n hx hb dX3_race_30 rfl (lv_at hl 2 rfl) ?_
          refine lv_iconst (v := (2 : Int32)) hx hb dX3_race_31 (by decide) ?_
          refine lv_icmp_lt (tgt := 41) hx hb dX3_race_32 (by decide) (fun c56 => ?_) (fun c56 => ?_)
          · have hf := if_t hf c56
            refine lv_iconst (v := (0 : Int32)) hx hb dX3_race_41 (by decide) ?_
            refine W.widen (k := 3) (n := 36) (Nat.le_of_ble_eq_true rfl) (Nat.le_of_ble_eq_true rfl) ?_
            exact hp_zreta hx hb hr hlocks (Or.inl rfl) (congrArg Prod.fst (Option.some.inj hf)) (congrArg Prod.snd (Option.some.inj hf)) hP hS keep_rf agr_rf dX3_race_42
          · have hf := if_f hf c56
            refine lv_iload_n hx hb dX3_race_35 rfl (lv_at hl 2 rfl) ?_
            refine lv_bipush (v := (24 : Int32)) hx hb dX3_race_36 (by decide) ?_
            refine lv_icmp_le (tgt := 43) hx hb dX3_race_38 (by decide) (fun c57 => ?_) (fun c57 => ?_)
            · have hf := if_t hf c57
              refine lv_aload_n hx hb dX3_race_43 rfl (lv_at hl 0 rfl) ?_
              have h58 : ∀ j : Nat, (mR M0 1 v0 0) = some j → mA M0 2 j = true := fun j hj => hp_wf hP a0 hj
              refine gf1 (v := va_rf (((mR M0 1 v0 0)).map (ad 2))) hx hb hts hown hK hP a0 0 (by decide) (hts _ q103) rfl rfl dX3_race_44 ?_
              refine lv_iload_n hx hb dX3_race_47 rfl (lv_at hl 1 rfl) ?_
              obtain ⟨h59, hf⟩ := nw_some hf
              obtain ⟨M60, e61, hf⟩ := lt_some hf
              have hk62 : Keep M0 M60 := keep_nA e61
              refine hp_new (s0 := 4) (i := v1.toNatClampNeg) hx hb hts inB1 tyX1 tyX1_ok hown (hts _ q99) (hts _ q123) (hts _ q87) hK hP hS hA h59 ds_4 rfl ze4 e61 (Nat.le_of_ble_eq_true rfl) (Nat.le_of_ble_eq_true rfl) dX3_race_48 (fun ad63 H hP hg64 hS => ?_)
              have h65 : mA M60 4 v1.toNatClampNeg = true := nA_at e61
              have hl : lv_has ls 3 [(0, .ref (ad63 1 v0)), (1, .int v1), (2, .int v2)] := by rw [hg64 _ _ a0]; exact hl
              refine W_stk (st := [.ref (ad63 4 v1.toNatClampNeg), .int v1, va_rf (((mR M0 1 v0 0)).map (ad 2))]) (st' := [.ref (ad63 4 v1.toNatClampNeg), .int v1, va_rf (((mR M0 1 v0 0)).map (ad63 2))]) (by rw [agr_map hg64 h58]) ?_
              refine lv_dup hx hb dX3_race_51 rfl ?_
              refine lv_iload_n hx hb dX3_race_52 rfl (lv_at hl 1 rfl) ?_
              refine lv_iload_n hx hb dX3_race_53 rfl (lv_at hl 2 rfl) ?_
              obtain ⟨M68, e66, hf⟩ := ob_some hf
              refine hp_callva (va_runIN (As := [.int v1, .int v2]) (rest := [.ref (ad63 4 v1.toNatClampNeg), .int v1, va_rf (((mR M0 1 v0 0)).map (ad63 2))]) ⟨hx, hb, hml, hown, hts⟩ (ok_X1_init l D cy ad63 M60 _ v1.toNatClampNeg v1 v2 M68 h65 e66) ⟨va_cnB 2 hts (gd0 q126) rfl rfl rfl (hN.2.1 (RX3, 25, yX1_init, RX3) (List.mem_of_getElem? (i := 0) rfl)) (hts _ q87) (by decide +kernel) ⟨Nat.le_of_ble_eq_true rfl, Nat.le_of_ble_eq_true rfl⟩, rfl, hts _ q125⟩ (pre_S hP hK hN) rfl rfl hl.1 rfl (lv_room (by cases (mR M0 1 v0 0) <;> exact Nat.le_of_ble_eq_true rfl)) dX3_race_54 ⟨Nat.le_of_ble_eq_true rfl, Nat.le_of_ble_eq_true rfl⟩) hP hS hA (fun ad70 H locs hP hS hk69 hg71 => ?_)
              have hl : lv_has ls 3 [(0, .ref (ad70 1 v0)), (1, .int v1), (2, .int v2)] := by rw [hg71 _ _ (hk62 _ _ a0)]; exact hl
              refine W_stk (st := [.ref (ad63 4 v1.toNatClampNeg), .int v1, va_rf (((mR M0 1 v0 0)).map (ad63 2))]) (st' := [.ref (ad70 4 v1.toNatClampNeg), .int v1, va_rf (((mR M0 1 v0 0)).map (ad70 2))]) (by rw [hg71 _ _ h65, agr_map hg71 (fun j hj => hk62 _ _ (h58 j hj))]) ?_
              obtain ⟨i72, e73, hf⟩ := ob_some hf
              have h74 : mA M68 2 i72 = true := (fun j hj => hk69 _ _ ((fun j hj => hk62 _ _ (h58 j hj)) j hj)) i72 e73
              refine W_stk (st := [.ref (ad70 4 v1.toNatClampNeg), .int v1, va_rf (((mR M0 1 v0 0)).map (ad70 2))]) (st' := [.ref (ad70 4 v1.toNatClampNeg), .int v1, .ref (ad70 2 i72)]) (by first | (rw [e73]; done) | (rw [e73]; rfl)) ?_
              obtain ⟨h75, hf⟩ := ix_some hf
              obtain ⟨M76, e77, hf⟩ := lt_some hf
              have hk78 : Keep M68 M76 := keR e77
              refine hp_aast (an := 3) (t := 4) (r := (RX1, TX1, 7)) hx hb hK hP hS h74 rfl rfl (hk69 _ _ h65) ds_4 rfl h75 dX3_race_57 (fun H locs hP hS => ?_)
              rw [← e77] at hP
              refine lv_iconst (v := (1 : Int32)) hx hb dX3_race_58 (by decide) ?_
              refine W.widen (k := 3) (n := 36) (Nat.le_of_ble_eq_true rfl) (Nat.le_of_ble_eq_true rfl) ?_
              exact hp_zreta hx hb hr hlocks (Or.inr rfl) (congrArg Prod.fst (Option.some.inj hf)) (congrArg Prod.snd (Option.some.inj hf)) hP hS (kt (kt (kt keep_rf hk62) hk69) hk78) (agr_t (agr_t agr_rf keep_rf hg64) (kt keep_rf hk62) hg71) dX3_race_59
            · have hf := if_f hf c57
              refine lv_iconst (v := (0 : Int32)) hx hb dX3_race_41 (by decide) ?_
              refine W.widen (k := 3) (n := 36) (Nat.le_of_ble_eq_true rfl) (Nat.le_of_ble_eq_true rfl) ?_
              exact hp_zreta hx hb hr hlocks (Or.inl rfl) (congrArg Prod.fst (Option.some.inj hf)) (congrArg Prod.snd (Option.some.inj hf)) hP hS keep_rf agr_rf dX3_race_42
        · have h55 : mA M0 4 i54 = true := h52 i54 e53
          refine W_stk (st := [va_rf (((mR M0 2 i48 (v1).toNatClampNeg)).map (ad 4))]) (st' := [.ref (ad 4 i54)]) (by first | (rw [e53]; done) | (rw [e53]; rfl)) ?_
          refine lv_ifnonnull (tgt := 41) hx hb dX3_race_27 (by decide) ?_
          refine lv_iconst (v := (0 : Int32)) hx hb dX3_race_41 (by decide) ?_
          refine W.widen (k := 3) (n := 36) (Nat.le_of_ble_eq_true rfl) (Nat.le_of_ble_eq_true rfl) ?_
          exact hp_zreta hx hb hr hlocks (Or.inl rfl) (congrArg Prod.fst (Option.some.inj hf)) (congrArg Prod.snd (Option.some.inj hf)) hP hS keep_rf agr_rf dX3_race_42

def f_X3_pool (v0 : Nat) (v1 : Int32) (v2 : Int32) (v3 : Int32) (v4 : Int32) (M0 : Mm) : Option (Int32 × Mm) :=
  ob (f_X3_raceNumbered v0 v1 M0) fun r51 => if 0 < (mI M0 1 v0 2) then (some ((0 : Int32), M0)) else (on r51 (some ((0 : Int32), M0)) fun i57 => if (mI M0 4 i57 4) = 0 then (ob (f_X3_areTerms v3 v4 M0) fun r61 => if r61 = 0 then (some ((0 : Int32), M0)) else (if v2 < 0 then (some ((0 : Int32), M0)) else (ob (mR M0 4 i57 3) fun i67 => if (4 : Int32) ≤ v2 then (some ((0 : Int32), M0)) else (ob (mR M0 4 i57 3) fun i72 => ix v2 4 (on (mR M0 6 i72 (v2).toNatClampNeg) (nw (mA M0 7 (4 * v1.toNatClampNeg + v2.toNatClampNeg)) (lt (nA M0 7 (4 * v1.toNatClampNeg + v2.toNatClampNeg)) fun M82 => ob (f_X0_init (4 * v1.toNatClampNeg + v2.toNatClampNeg) v2 i57 i57 v3 v4 M82) fun M90 => ob (mR M0 4 i57 3) fun i92 => ix v2 4 (lt (sR M90 6 i92 (v2).toNatClampNeg (some (4 * v1.toNatClampNeg + v2.toNatClampNeg))) fun M96 => some ((1 : Int32), M96)))) fun i78 => some ((0 : Int32), M0)))))) else (some ((0 : Int32), M0)))
set_option maxRecDepth 100000 in
set_option maxHeartbeats 4000000 in
theorem ok_X3_pool (l : Launch) (D : va_G) (cy : Nat → ClassId) (ad : Nat → Nat → Nat) (M0 : Mm) (sz : Nat) (v0 : Nat) (v1 : Int32) (v2 : Int32) (v3 : Int32) (v4 : Int32) (r0 : Int32) (M' : Mm) (a0 : mA M0 1 v0 = true) (hf : f_X3_pool v0 v1 v2 v3 v4 M0 = some (r0, M')) : Met l yX3_pool (Cond.code yX3_pool cX3_pool 6 (some .boolean) :: BW) { frames := 2, cells := 1, slots := 17, locals := 41 } (va_Pc [.ref (ad 1 v0), .int v1, .int v2, .int v3, .int v4] (PRE D cy ad M0 sz)) (QIa D cy ad M0 sz r0 M') 1 17 (AA ad M0 sz) := by
  refine Met.ofW (cc := cX3_pool) (maxL := 6) (ret := (some .boolean)) (by decide) rfl ?_
  intro p e s m args below meth c s₁ B hml hv
  obtain ⟨rfl, rfl, hP0, hK, hN⟩ := hv
  have hx := B.exec
  have hb := B.bytes
  have hr := B.returns
  have hts0 := atoms_spec (ws := (Cond.code yX3_pool cX3_pool 6 (some .boolean) :: BW)) B.pre
  have hts : ∀ w ∈ BW, w.before ([.ref (ad 1 v0), .int v1, .int v2, .int v3, .int v4] : List Value).toArray s = true := fun w h => hts0 w (List.mem_cons_of_mem _ h)
  have hown : s.vm.findClass RX3 = some m.cls := findClass_of_methodNamed B.named
  have hlocks := B.notSynchronized
  have hA : ∀ q : Nat, s.heap.size ≤ q → AA ad M0 s.heap.size q := fun q h => Or.inr h
  have C : Cx RX3 cX3_pool 6 (some .boolean) D cy (AA ad M0 s.heap.size) p s m ([.ref (ad 1 v0), .int v1, .int v2, .int v3, .int v4] : List Value).toArray meth c := ⟨hx, hb, hr, hml, hown, hts, hlocks, hK, hN, hA⟩
  have hP := hp_self (sz := s.heap.size) hP0
  have hS : va_S (AA ad M0 s.heap.size) s.heap s.heap [] := va_S.rf
  have hl := lv_entry ([.ref (ad 1 v0), .int v1, .int v2, .int v3, .int v4]) (n := 6) (Nat.le_of_ble_eq_true rfl)
  rw [lg_entry_eq]
  generalize (lg_sl ([.ref (ad 1 v0), .int v1, .int v2, .int v3, .int v4]) ++ List.replicate (6 - (lg_sl ([.ref (ad 1 v0), .int v1, .int v2, .int v3, .int v4])).length) Slot.unset).toArray = ls at hl ⊢
  have hl : lv_has ls 6 [(0, .ref (ad 1 v0)), (1, .int v1), (2, .int v2), (3, .int v3), (4, .int v4)] := hl
  unfold f_X3_pool at hf
  refine lv_aload_n hx hb dX3_pool_0 rfl (lv_at hl 0 rfl) ?_
  refine lv_iload_n hx hb dX3_pool_1 rfl (lv_at hl 1 rfl) ?_
  obtain ⟨r51, e50, hf⟩ := ob_some hf
  refine hp_callq (va_runV (As := [.int v1]) (rest := []) ⟨hx, hb, hml, hown, hts⟩ (ok_X3_raceNumbered l D cy ad M0 _ v0 v1 r51 a0 e50) (cwV 1 hts (gdV q163 q165 q0 q85 q166) rfl rfl rfl (by decide +kernel) ⟨Nat.le_of_ble_eq_true rfl, Nat.le_of_ble_eq_true rfl⟩) (pre_V hP hK hN a0 ds_1 rfl) rfl rfl hl.1 rfl (lv_room (Nat.le_of_ble_eq_true rfl)) dX3_pool_2 ⟨Nat.le_of_ble_eq_true rfl, Nat.le_of_ble_eq_true rfl⟩) hP hS hA (fun H locs hP hS _ h54 => ?_)
  refine hp_astore (r := (r51).map (ad 4)) (lv' := [(5, va_rf ((r51).map (ad 4))), (0, .ref (ad 1 v0)), (1, .int v1), (2, .int v2), (3, .int v3), (4, .int v4)]) hx hb dX3_pool_5 hl (by decide) rfl (fun ls hl => ?_)
  refine lv_aload_n hx hb dX3_pool_7 rfl (lv_at hl 1 rfl) ?_
  refine gf1 (v := .int (mI M0 1 v0 2)) hx hb hts hown hK hP a0 2 (by decide) (hts _ q105) rfl rfl dX3_pool_8 ?_
  refine lv_if_gt (tgt := 60) hx hb dX3_pool_11 (by decide) (fun c55 => ?_) (fun c55 => ?_)
  · have hf := if_t hf c55
    refine lv_iconst (v := (0 : Int32)) hx hb dX3_pool_60 (by decide) ?_
    refine W.widen (k := 1) (n := 17) (Nat.le_of_ble_eq_true rfl) (Nat.le_of_ble_eq_true rfl) ?_
    exact hp_zreta hx hb hr hlocks (Or.inl rfl) (congrArg Prod.fst (Option.some.inj hf)) (congrArg Prod.snd (Option.some.inj hf)) hP hS keep_rf agr_rf dX3_pool_61
  · have hf := if_f hf c55
    refine hp_aload (r := (r51).map (ad 4)) hx hb dX3_pool_14 (lv_at hl 0 rfl) ?_
    rcases on_c hf with ⟨e56, hf⟩ | ⟨i57, e56, hf⟩
    · refine W_top (y := .null) (by rw [e56]; rfl) ?_
      refine lv_ifnullN (tgt := 60) hx hb dX3_pool_16 (by decide) ?_
      refine lv_iconst (v := (0 : Int32)) hx hb dX3_pool_60 (by decide) ?_
      refine W.widen (k := 1) (n := 17) (Nat.le_of_ble_eq_true rfl) (Nat.le_of_ble_eq_true rfl) ?_
      exact hp_zreta hx hb hr hlocks (Or.inl rfl) (congrArg Prod.fst (Option.some.inj hf)) (congrArg Prod.snd (Option.some.inj hf)) hP hS keep_rf agr_rf dX3_pool_61
    · have h58 : mA M0 4 i57 = true := h54 i57 e56
      rw [e56] at hl
      have hl : lv_has ls 6 [(5, .ref (ad 4 i57)), (0, .ref (ad 1 v0)), (1, .int v1), (2, .int v2), (3, .int v3), (4, .int v4)] := hl
      refine W_stk (st := [va_rf ((r51).map (ad 4))]) (st' := [.ref (ad 4 i57)]) (by first | (rw [e56]; done) | (rw [e56]; rfl)) ?_
      refine lv_ifnull hx hb dX3_pool_16 ?_
      refine lv_aload hx hb dX3_pool_19 (lv_at hl 0 rfl) ?_
      refine gf4N (v := .int (mI M0 4 i57 4)) hx hb hts hown hK hP h58 4 (by decide) (va_Nw.use rfl (hN.1 (RX3, 32, "ToteHouse$Race", "state", "I", RX3) (List.mem_of_getElem? (i := 4) rfl))) rfl rfl dX3_pool_21 ?_
      refine lv_if_ne (tgt := 60) hx hb dX3_pool_24 (by decide) (fun c59 => ?_) (fun c59 => ?_)
      · have hf := if_f hf c59
        refine lv_iconst (v := (0 : Int32)) hx hb dX3_pool_60 (by decide) ?_
        refine W.widen (k := 1) (n := 17) (Nat.le_of_ble_eq_true rfl) (Nat.le_of_ble_eq_true rfl) ?_
        exact hp_zreta hx hb hr hlocks (Or.inl rfl) (congrArg Prod.fst (Option.some.inj hf)) (congrArg Prod.snd (Option.some.inj hf)) hP hS keep_rf agr_rf dX3_pool_61
      · have hf := if_t hf c59
        refine lv_iload_n hx hb dX3_pool_27 rfl (lv_at hl 4 rfl) ?_
        refine lv_iload hx hb dX3_pool_28 (lv_at hl 5 rfl) ?_
        obtain ⟨r61, e60, hf⟩ := ob_some hf
        refine hp_calli (va_runS (As := [.int v3, .int v4]) (rest := []) ⟨hx, hb, hml, hown, hts⟩ (ok_X3_areTerms l D cy ad M0 _ v3 v4 r61  e60) (va_cwS 2 hts (gdS q167 q168 q85 q169) rfl rfl rfl (by decide +kernel) ⟨Nat.le_of_ble_eq_true rfl, Nat.le_of_ble_eq_true rfl⟩) (pre_S hP hK hN) rfl rfl hl.1 rfl (lv_room (Nat.le_of_ble_eq_true rfl)) dX3_pool_30 ⟨Nat.le_of_ble_eq_true rfl, Nat.le_of_ble_eq_true rfl⟩) hP hS hA (fun H locs hP hS _ => ?_)
        refine lv_if_eq (tgt := 60) hx hb dX3_pool_33 (by decide) (fun c64 => ?_) (fun c64 => ?_)
        · have hf := if_t hf c64
          refine lv_iconst (v := (0 : Int32)) hx hb dX3_pool_60 (by decide) ?_
          refine W.widen (k := 1) (n := 17) (Nat.le_of_ble_eq_true rfl) (Nat.le_of_ble_eq_true rfl) ?_
          exact hp_zreta hx hb hr hlocks (Or.inl rfl) (congrArg Prod.fst (Option.some.inj hf)) (congrArg Prod.snd (Option.some.inj hf)) hP hS keep_rf agr_rf dX3_pool_61
        · have hf := if_f hf c64
          refine lv_iload_n hx hb dX3_pool_36 rfl (lv_at hl 3 rfl) ?_
          refine lv_if_lt (tgt := 60) hx hb dX3_pool_37 (by decide) (fun c65 => ?_) (fun c65 => ?_)
          · have hf := if_t hf c65
            refine lv_iconst (v := (0 : Int32)) hx hb dX3_pool_60 (by decide) ?_
            refine W.widen (k := 1) (n := 17) (Nat.le_of_ble_eq_true rfl) (Nat.le_of_ble_eq_true rfl) ?_
            exact hp_zreta hx hb hr hlocks (Or.inl rfl) (congrArg Prod.fst (Option.some.inj hf)) (congrArg Prod.snd (Option.some.inj hf)) hP hS keep_rf agr_rf dX3_pool_61
          · have hf := if_f hf c65
            refine lv_iload_n hx hb dX3_pool_40 rfl (lv_at hl 3 rfl) ?_
            refine lv_aload hx hb dX3_pool_41 (lv_at hl 0 rfl) ?_
            have h66 : ∀ j : Nat, (mR M0 4 i57 3) = some j → mA M0 6 j = true := fun j hj => hp_wf hP h58 hj
            refine gf4N (v := va_rf (((mR M0 4 i57 3)).map (ad 6))) hx hb hts hown hK hP h58 3 (by decide) (va_Nw.use rfl (hN.1 (RX3, 39, "ToteHouse$Race", "pools", "[LToteHouse$Pool;", RX3) (List.mem_of_getElem? (i := 2) rfl))) rfl rfl dX3_pool_43 ?_
            obtain ⟨i67, e68, hf⟩ := ob_some hf
            have h69 : mA M0 6 i67 = true := h66 i67 e68
            refine W_stk (st := [va_rf (((mR M0 4 i57 3)).map (ad 6)), .int v2]) (st' := [.ref (ad 6 i67), .int v2]) (by first | (rw [e68]; done) | (rw [e68]; rfl)) ?_
            refine hp_alen (v := (4 : Int32)) hx hb hK hP h69 rfl rfl (by decide) dX3_pool_46 ?_
            refine lv_icmp_ge (tgt := 60) hx hb dX3_pool_47 (by decide) (fun c70 => ?_) (fun c70 => ?_)
            · have hf := if_t hf c70
              refine lv_iconst (v := (0 : Int32)) hx hb dX3_pool_60 (by decide) ?_
              refine W.widen (k := 1) (n := 17) (Nat.le_of_ble_eq_true rfl) (Nat.le_of_ble_eq_true rfl) ?_
              exact hp_zreta hx hb hr hlocks (Or.inl rfl) (congrArg Prod.fst (Option.some.inj hf)) (congrArg Prod.snd (Option.some.inj hf)) hP hS keep_rf agr_rf dX3_pool_61
            · have hf := if_f hf c70
              refine lv_aload hx hb dX3_pool_50 (lv_at hl 0 rfl) ?_
              have h71 : ∀ j : Nat, (mR M0 4 i57 3) = some j → mA M0 6 j = true := fun j hj => hp_wf hP h58 hj
              refine gf4N (v := va_rf (((mR M0 4 i57 3)).map (ad 6))) hx hb hts hown hK hP h58 3 (by decide) (va_Nw.use rfl (hN.1 (RX3, 39, "ToteHouse$Race", "pools", "[LToteHouse$Pool;", RX3) (List.mem_of_getElem? (i := 2) rfl))) rfl rfl dX3_pool_52 ?_
              refine lv_iload_n hx hb dX3_pool_55 rfl (lv_at hl 3 rfl) ?_
              obtain ⟨i72, e73, hf⟩ := ob_some hf
              have h74 : mA M0 6 i72 = true := h71 i72 e73
              refine W_stk (st := [.int v2, va_rf (((mR M0 4 i57 3)).map (ad 6))]) (st' := [.int v2, .ref (ad 6 i72)]) (by first | (rw [e73]; done) | (rw [e73]; rfl)) ?_
              obtain ⟨h75, hf⟩ := ix_some hf
              have h76 : ∀ j : Nat, (mR M0 6 i72 (v2).toNatClampNeg) = some j → mA M0 7 j = true := fun j hj => hp_wf hP h74 hj
              refine hp_aald (an := 5) (t := 7) hx hb hK hP h74 rfl rfl h75 dX3_pool_56 ?_
              rcases on_c hf with ⟨e77, hf⟩ | ⟨i78, e77, hf⟩
              · refine W_top (y := .null) (by rw [e77]; rfl) ?_
                refine lv_ifnullN (tgt := 62) hx hb dX3_pool_57 (by decide) ?_
                refine lv_aload hx hb dX3_pool_62 (lv_at hl 0 rfl) ?_
                have h80 : ∀ j : Nat, (mR M0 4 i57 3) = some j → mA M0 6 j = true := fun j hj => hp_wf hP h58 hj
                refine gf4N (v := va_rf (((mR M0 4 i57 3)).map (ad 6))) hx hb hts hown hK hP h58 3 (by decide) (va_Nw.use rfl (hN.1 (RX3, 39, "ToteHouse$Race", "pools", "[LToteHouse$Pool;", RX3) (List.mem_of_getElem? (i := 2) rfl))) rfl rfl dX3_pool_64 ?_
                refine lv_iload_n hx hb dX3_pool_67 rfl (lv_at hl 3 rfl) ?_
                obtain ⟨h81, hf⟩ := nw_some hf
                obtain ⟨M82, e83, hf⟩ := lt_some hf
                have hk84 : Keep M0 M82 := keep_nA e83
                refine hp_new (s0 := 7) (i := (4 * v1.toNatClampNeg + v2.toNatClampNeg)) hx hb hts inB0 tyX0 tyX0_ok hown (hts _ q170) (hts _ q171) (hts _ q88) hK hP hS hA h81 ds_7 rfl ze7 e83 (Nat.le_of_ble_eq_true rfl) (Nat.le_of_ble_eq_true rfl) dX3_pool_68 (fun ad85 H hP hg86 hS => ?_)
                have h87 : mA M82 7 (4 * v1.toNatClampNeg + v2.toNatClampNeg) = true := nA_at e83
                have hl : lv_has ls 6 [(5, .ref (ad85 4 i57)), (0, .ref (ad85 1 v0)), (1, .int v1), (2, .int v2), (3, .int v3), (4, .int v4)] := by rw [hg86 _ _ h58, hg86 _ _ a0]; exact hl
                refine W_stk (st := [.ref (ad85 7 (4 * v1.toNatClampNeg + v2.toNatClampNeg)), .int v2, va_rf (((mR M0 4 i57 3)).map (ad 6))]) (st' := [.ref (ad85 7 (4 * v1.toNatClampNeg + v2.toNatClampNeg)), .int v2, va_rf (((mR M0 4 i57 3)).map (ad85 6))]) (by rw [agr_map hg86 h80]) ?_
                refine lv_dup hx hb dX3_pool_71 rfl ?_
                refine lv_iload_n hx hb dX3_pool_72 rfl (lv_at hl 3 rfl) ?_
                refine lv_aload hx hb dX3_pool_73 (lv_at hl 0 rfl) ?_
                refine lv_aload hx hb dX3_pool_75 (lv_at hl 0 rfl) ?_
                refine lv_iload_n hx hb dX3_pool_77 rfl (lv_at hl 4 rfl) ?_
                refine lv_iload hx hb dX3_pool_78 (lv_at hl 5 rfl) ?_
                obtain ⟨M90, e88, hf⟩ := ob_some hf
                refine hp_callv (va_runIN (As := [.int v2, .ref (ad85 4 i57), .ref (ad85 4 i57), .int v3, .int v4]) (rest := [.ref (ad85 7 (4 * v1.toNatClampNeg + v2.toNatClampNeg)), .int v2, va_rf (((mR M0 4 i57 3)).map (ad85 6))]) ⟨hx, hb, hml, hown, hts⟩ (ok_X0_init l D cy ad85 M82 _ (4 * v1.toNatClampNeg + v2.toNatClampNeg) v2 i57 i57 v3 v4 M90 h87 (hk84 _ _ h58) (hk84 _ _ h58) e88) ⟨va_cnB 5 hts (gd0 q174) rfl rfl rfl (hN.2.1 (RX3, 45, yX0_init, RX3) (List.mem_of_getElem? (i := 1) rfl)) (hts _ q88) (by decide +kernel) ⟨Nat.le_of_ble_eq_true rfl, Nat.le_of_ble_eq_true rfl⟩, rfl, hts _ q173⟩ (pre_S hP hK hN) rfl rfl hl.1 rfl (lv_room (by cases (mR M0 4 i57 3) <;> exact Nat.le_of_ble_eq_true rfl)) dX3_pool_80 ⟨Nat.le_of_ble_eq_true rfl, Nat.le_of_ble_eq_true rfl⟩) hP hS hA (fun H locs hP hS hk91 => ?_)
                obtain ⟨i92, e93, hf⟩ := ob_some hf
                have h94 : mA M90 6 i92 = true := (fun j hj => hk91 _ _ ((fun j hj => hk84 _ _ (h80 j hj)) j hj)) i92 e93
                refine W_stk (st := [.ref (ad85 7 (4 * v1.toNatClampNeg + v2.toNatClampNeg)), .int v2, va_rf (((mR M0 4 i57 3)).map (ad85 6))]) (st' := [.ref (ad85 7 (4 * v1.toNatClampNeg + v2.toNatClampNeg)), .int v2, .ref (ad85 6 i92)]) (by first | (rw [e93]; done) | (rw [e93]; rfl)) ?_
                obtain ⟨h95, hf⟩ := ix_some hf
                obtain ⟨M96, e97, hf⟩ := lt_some hf
                have hk98 : Keep M90 M96 := keR e97
                refine hp_aast (an := 5) (t := 7) (r := (RX0, TX0, 17)) hx hb hK hP hS h94 rfl rfl (hk91 _ _ h87) ds_7 rfl h95 dX3_pool_83 (fun H locs hP hS => ?_)
                rw [← e97] at hP
                refine lv_iconst (v := (1 : Int32)) hx hb dX3_pool_84 (by decide) ?_
                refine W.widen (k := 1) (n := 17) (Nat.le_of_ble_eq_true rfl) (Nat.le_of_ble_eq_true rfl) ?_
                exact hp_zreta hx hb hr hlocks (Or.inr rfl) (congrArg Prod.fst (Option.some.inj hf)) (congrArg Prod.snd (Option.some.inj hf)) hP hS (kt (kt (kt keep_rf hk84) hk91) hk98) (agr_t agr_rf keep_rf hg86) dX3_pool_85
              · have h79 : mA M0 7 i78 = true := h76 i78 e77
                refine W_stk (st := [va_rf (((mR M0 6 i72 (v2).toNatClampNeg)).map (ad 7))]) (st' := [.ref (ad 7 i78)]) (by first | (rw [e77]; done) | (rw [e77]; rfl)) ?_
                refine lv_ifnull hx hb dX3_pool_57 ?_
                refine lv_iconst (v := (0 : Int32)) hx hb dX3_pool_60 (by decide) ?_
                refine W.widen (k := 1) (n := 17) (Nat.le_of_ble_eq_true rfl) (Nat.le_of_ble_eq_true rfl) ?_
                exact hp_zreta hx hb hr hlocks (Or.inl rfl) (congrArg Prod.fst (Option.some.inj hf)) (congrArg Prod.snd (Option.some.inj hf)) hP hS keep_rf agr_rf dX3_pool_61

def f_X3_pair (v0 : Nat) (v1 : Int32) (v2 : Int32) (v3 : Int32) (v4 : Int32) (M0 : Mm) : Option (Int32 × Mm) :=
  ob (f_X3_raceNumbered v0 v1 M0) fun r45 => ob (f_X3_raceNumbered v0 v2 M0) fun r50 => if 0 < (mI M0 1 v0 2) then (some ((0 : Int32), M0)) else (on r45 (some ((0 : Int32), M0)) fun i56 => on r50 (some ((0 : Int32), M0)) fun i59 => if (some i56) = (some i59) then (some ((0 : Int32), M0)) else (if (mI M0 4 i56 4) = 0 then (if (mI M0 4 i59 4) = 0 then (ob (f_X3_areTerms v3 v4 M0) fun r65 => if r65 = 0 then (some ((0 : Int32), M0)) else (on (mR M0 1 v0 3) (nw (mA M0 7 52) (lt (nA M0 7 52) fun M74 => ob (f_X0_init 52 (4 : Int32) i56 i59 v3 v4 M74) fun M82 => lt (sR M82 1 v0 3 (some 52)) fun M84 => some ((1 : Int32), M84))) fun i71 => some ((0 : Int32), M0))) else (some ((0 : Int32), M0))) else (some ((0 : Int32), M0))))
set_option maxRecDepth 100000 in
set_option maxHeartbeats 4000000 in
theorem ok_X3_pair (l : Launch) (D : va_G) (cy : Nat → ClassId) (ad : Nat → Nat → Nat) (M0 : Mm) (sz : Nat) (v0 : Nat) (v1 : Int32) (v2 : Int32) (v3 : Int32) (v4 : Int32) (r0 : Int32) (M' : Mm) (a0 : mA M0 1 v0 = true) (hf : f_X3_pair v0 v1 v2 v3 v4 M0 = some (r0, M')) : Met l yX3_pair (Cond.code yX3_pair cX3_pair 7 (some .boolean) :: BW) { frames := 2, cells := 1, slots := 17, locals := 41 } (va_Pc [.ref (ad 1 v0), .int v1, .int v2, .int v3, .int v4] (PRE D cy ad M0 sz)) (QIa D cy ad M0 sz r0 M') 1 17 (AA ad M0 sz) := by
  refine Met.ofW (cc := cX3_pair) (maxL := 7) (ret := (some .boolean)) (by decide) rfl ?_
  intro p e s m args below meth c s₁ B hml hv
  obtain ⟨rfl, rfl, hP0, hK, hN⟩ := hv
  have hx := B.exec
  have hb := B.bytes
  have hr := B.returns
  have hts0 := atoms_spec (ws := (Cond.code yX3_pair cX3_pair 7 (some .boolean) :: BW)) B.pre
  have hts : ∀ w ∈ BW, w.before ([.ref (ad 1 v0), .int v1, .int v2, .int v3, .int v4] : List Value).toArray s = true := fun w h => hts0 w (List.mem_cons_of_mem _ h)
  have hown : s.vm.findClass RX3 = some m.cls := findClass_of_methodNamed B.named
  have hlocks := B.notSynchronized
  have hA : ∀ q : Nat, s.heap.size ≤ q → AA ad M0 s.heap.size q := fun q h => Or.inr h
  have C : Cx RX3 cX3_pair 7 (some .boolean) D cy (AA ad M0 s.heap.size) p s m ([.ref (ad 1 v0), .int v1, .int v2, .int v3, .int v4] : List Value).toArray meth c := ⟨hx, hb, hr, hml, hown, hts, hlocks, hK, hN, hA⟩
  have hP := hp_self (sz := s.heap.size) hP0
  have hS : va_S (AA ad M0 s.heap.size) s.heap s.heap [] := va_S.rf
  have hl := lv_entry ([.ref (ad 1 v0), .int v1, .int v2, .int v3, .int v4]) (n := 7) (Nat.le_of_ble_eq_true rfl)
  rw [lg_entry_eq]
  generalize (lg_sl ([.ref (ad 1 v0), .int v1, .int v2, .int v3, .int v4]) ++ List.replicate (7 - (lg_sl ([.ref (ad 1 v0), .int v1, .int v2, .int v3, .int v4])).length) Slot.unset).toArray = ls at hl ⊢
  have hl : lv_has ls 7 [(0, .ref (ad 1 v0)), (1, .int v1), (2, .int v2), (3, .int v3), (4, .int v4)] := hl
  unfold f_X3_pair at hf
  refine lv_aload_n hx hb dX3_pair_0 rfl (lv_at hl 0 rfl) ?_
  refine lv_iload_n hx hb dX3_pair_1 rfl (lv_at hl 1 rfl) ?_
  obtain ⟨r45, e44, hf⟩ := ob_some hf
  refine hp_callq (va_runV (As := [.int v1]) (rest := []) ⟨hx, hb, hml, hown, hts⟩ (ok_X3_raceNumbered l D cy ad M0 _ v0 v1 r45 a0 e44) (cwV 1 hts (gdV q163 q165 q0 q85 q166) rfl rfl rfl (by decide +kernel) ⟨Nat.le_of_ble_eq_true rfl, Nat.le_of_ble_eq_true rfl⟩) (pre_V hP hK hN a0 ds_1 rfl) rfl rfl hl.1 rfl (lv_room (Nat.le_of_ble_eq_true rfl)) dX3_pair_2 ⟨Nat.le_of_ble_eq_true rfl, Nat.le_of_ble_eq_true rfl⟩) hP hS hA (fun H locs hP hS _ h48 => ?_)
  refine hp_astore (r := (r45).map (ad 4)) (lv' := [(5, va_rf ((r45).map (ad 4))), (0, .ref (ad 1 v0)), (1, .int v1), (2, .int v2), (3, .int v3), (4, .int v4)]) hx hb dX3_pair_5 hl (by decide) rfl (fun ls hl => ?_)
  refine lv_aload_n hx hb dX3_pair_7 rfl (lv_at hl 1 rfl) ?_
  refine lv_iload_n hx hb dX3_pair_8 rfl (lv_at hl 3 rfl) ?_
  obtain ⟨r50, e49, hf⟩ := ob_some hf
  refine hp_callq (va_runV (As := [.int v2]) (rest := []) ⟨hx, hb, hml, hown, hts⟩ (ok_X3_raceNumbered l D cy ad M0 _ v0 v2 r50 a0 e49) (cwV 1 hts (gdV q163 q165 q0 q85 q166) rfl rfl rfl (by decide +kernel) ⟨Nat.le_of_ble_eq_true rfl, Nat.le_of_ble_eq_true rfl⟩) (pre_V hP hK hN a0 ds_1 rfl) rfl rfl hl.1 rfl (lv_room (Nat.le_of_ble_eq_true rfl)) dX3_pair_9 ⟨Nat.le_of_ble_eq_true rfl, Nat.le_of_ble_eq_true rfl⟩) hP hS hA (fun H locs hP hS _ h53 => ?_)
  refine hp_astore (r := (r50).map (ad 4)) (lv' := [(6, va_rf ((r50).map (ad 4))), (5, va_rf ((r45).map (ad 4))), (0, .ref (ad 1 v0)), (1, .int v1), (2, .int v2), (3, .int v3), (4, .int v4)]) hx hb dX3_pair_12 hl (by decide) (by cases r45 <;> rfl) (fun ls hl => ?_)
  refine lv_aload_n hx hb dX3_pair_14 rfl (lv_at hl 2 rfl) ?_
  refine gf1 (v := .int (mI M0 1 v0 2)) hx hb hts hown hK hP a0 2 (by decide) (hts _ q105) rfl rfl dX3_pair_15 ?_
  refine lv_if_gt (tgt := 70) hx hb dX3_pair_18 (by decide) (fun c54 => ?_) (fun c54 => ?_)
  · have hf := if_t hf c54
    refine lv_iconst (v := (0 : Int32)) hx hb dX3_pair_70 (by decide) ?_
    refine W.widen (k := 1) (n := 17) (Nat.le_of_ble_eq_true rfl) (Nat.le_of_ble_eq_true rfl) ?_
    exact hp_zreta hx hb hr hlocks (Or.inl rfl) (congrArg Prod.fst (Option.some.inj hf)) (congrArg Prod.snd (Option.some.inj hf)) hP hS keep_rf agr_rf dX3_pair_71
  · have hf := if_f hf c54
    refine hp_aload (r := (r45).map (ad 4)) hx hb dX3_pair_21 (lv_at hl 1 rfl) ?_
    rcases on_c hf with ⟨e55, hf⟩ | ⟨i56, e55, hf⟩
    · refine W_top (y := .null) (by rw [e55]; rfl) ?_
      refine lv_ifnullN (tgt := 70) hx hb dX3_pair_23 (by decide) ?_
      refine lv_iconst (v := (0 : Int32)) hx hb dX3_pair_70 (by decide) ?_
      refine W.widen (k := 1) (n := 17) (Nat.le_of_ble_eq_true rfl) (Nat.le_of_ble_eq_true rfl) ?_
      exact hp_zreta hx hb hr hlocks (Or.inl rfl) (congrArg Prod.fst (Option.some.inj hf)) (congrArg Prod.snd (Option.some.inj hf)) hP hS keep_rf agr_rf dX3_pair_71
    · have h57 : mA M0 4 i56 = true := h48 i56 e55
      rw [e55] at hl
      have hl : lv_has ls 7 [(6, va_rf ((r50).map (ad 4))), (5, .ref (ad 4 i56)), (0, .ref (ad 1 v0)), (1, .int v1), (2, .int v2), (3, .int v3), (4, .int v4)] := hl
      refine W_stk (st := [va_rf ((r45).map (ad 4))]) (st' := [.ref (ad 4 i56)]) (by first | (rw [e55]; done) | (rw [e55]; rfl)) ?_
      refine lv_ifnull hx hb dX3_pair_23 ?_
      refine hp_aload (r := (r50).map (ad 4)) hx hb dX3_pair_26 (lv_at hl 0 rfl) ?_
      rcases on_c hf with ⟨e58, hf⟩ | ⟨i59, e58, hf⟩
      · refine W_top (y := .null) (by rw [e58]; rfl) ?_
        refine lv_ifnullN (tgt := 70) hx hb dX3_pair_28 (by decide) ?_
        refine lv_iconst (v := (0 : Int32)) hx hb dX3_pair_70 (by decide) ?_
        refine W.widen (k := 1) (n := 17) (Nat.le_of_ble_eq_true rfl) (Nat.le_of_ble_eq_true rfl) ?_
        exact hp_zreta hx hb hr hlocks (Or.inl rfl) (congrArg Prod.fst (Option.some.inj hf)) (congrArg Prod.snd (Option.some.inj hf)) hP hS keep_rf agr_rf dX3_pair_71
      · have h60 : mA M0 4 i59 = true := h53 i59 e58
        rw [e58] at hl
        have hl : lv_has ls 7 [(6, .ref (ad 4 i59)), (5, .ref (ad 4 i56)), (0, .ref (ad 1 v0)), (1, .int v1), (2, .int v2), (3, .int v3), (4, .int v4)] := hl
        refine W_stk (st := [va_rf ((r50).map (ad 4))]) (st' := [.ref (ad 4 i59)]) (by first | (rw [e58]; done) | (rw [e58]; rfl)) ?_
        refine lv_ifnull hx hb dX3_pair_28 ?_
        refine lv_aload hx hb dX3_pair_31 (lv_at hl 1 rfl) ?_
        refine lv_aload hx hb dX3_pair_33 (lv_at hl 0 rfl) ?_
        refine lv_acmp_eq (rx := ((some i56)).map (ad 4)) (ry := ((some i59)).map (ad 4)) (tgt := 70) hx hb dX3_pair_35 (by decide) (fun c61 => ?_) (fun c61 => ?_)
        · have c61 := (hp_inj2 hP (fun j hj => by cases hj; exact h57) (fun j hj => by cases hj; exact h60)).mp c61
          have hf := if_t hf c61
          refine lv_iconst (v := (0 : Int32)) hx hb dX3_pair_70 (by decide) ?_
          refine W.widen (k := 1) (n := 17) (Nat.le_of_ble_eq_true rfl) (Nat.le_of_ble_eq_true rfl) ?_
          exact hp_zreta hx hb hr hlocks (Or.inl rfl) (congrArg Prod.fst (Option.some.inj hf)) (congrArg Prod.snd (Option.some.inj hf)) hP hS keep_rf agr_rf dX3_pair_71
        · have c61 := fun z => c61 ((hp_inj2 hP (fun j hj => by cases hj; exact h57) (fun j hj => by cases hj; exact h60)).mpr z)
          have hf := if_f hf c61
          refine lv_aload hx hb dX3_pair_38 (lv_at hl 1 rfl) ?_
          refine gf4N (v := .int (mI M0 4 i56 4)) hx hb hts hown hK hP h57 4 (by decide) (va_Nw.use rfl (hN.1 (RX3, 32, "ToteHouse$Race", "state", "I", RX3) (List.mem_of_getElem? (i := 4) rfl))) rfl rfl dX3_pair_40 ?_
          refine lv_if_ne (tgt := 70) hx hb dX3_pair_43 (by decide) (fun c62 => ?_) (fun c62 => ?_)
          · have hf := if_f hf c62
            refine lv_iconst (v := (0 : Int32)) hx hb dX3_pair_70 (by decide) ?_
            refine W.widen (k := 1) (n := 17) (Nat.le_of_ble_eq_true rfl) (Nat.le_of_ble_eq_true rfl) ?_
            exact hp_zreta hx hb hr hlocks (Or.inl rfl) (congrArg Prod.fst (Option.some.inj hf)) (congrArg Prod.snd (Option.some.inj hf)) hP hS keep_rf agr_rf dX3_pair_71
          · have hf := if_t hf c62
            refine lv_aload hx hb dX3_pair_46 (lv_at hl 0 rfl) ?_
            refine gf4N (v := .int (mI M0 4 i59 4)) hx hb hts hown hK hP h60 4 (by decide) (va_Nw.use rfl (hN.1 (RX3, 32, "ToteHouse$Race", "state", "I", RX3) (List.mem_of_getElem? (i := 4) rfl))) rfl rfl dX3_pair_48 ?_
            refine lv_if_ne (tgt := 70) hx hb dX3_pair_51 (by decide) (fun c63 => ?_) (fun c63 => ?_)
            · have hf := if_f hf c63
              refine lv_iconst (v := (0 : Int32)) hx hb dX3_pair_70 (by decide) ?_
              refine W.widen (k := 1) (n := 17) (Nat.le_of_ble_eq_true rfl) (Nat.le_of_ble_eq_true rfl) ?_
              exact hp_zreta hx hb hr hlocks (Or.inl rfl) (congrArg Prod.fst (Option.some.inj hf)) (congrArg Prod.snd (Option.some.inj hf)) hP hS keep_rf agr_rf dX3_pair_71
            · have hf := if_t hf c63
              refine lv_iload_n hx hb dX3_pair_54 rfl (lv_at hl 5 rfl) ?_
              refine lv_iload hx hb dX3_pair_55 (lv_at hl 6 rfl) ?_
              obtain ⟨r65, e64, hf⟩ := ob_some hf
              refine hp_calli (va_runS (As := [.int v3, .int v4]) (rest := []) ⟨hx, hb, hml, hown, hts⟩ (ok_X3_areTerms l D cy ad M0 _ v3 v4 r65  e64) (va_cwS 2 hts (gdS q167 q168 q85 q169) rfl rfl rfl (by decide +kernel) ⟨Nat.le_of_ble_eq_true rfl, Nat.le_of_ble_eq_true rfl⟩) (pre_S hP hK hN) rfl rfl hl.1 rfl (lv_room (Nat.le_of_ble_eq_true rfl)) dX3_pair_57 ⟨Nat.le_of_ble_eq_true rfl, Nat.le_of_ble_eq_true rfl⟩) hP hS hA (fun H locs hP hS _ => ?_)
              refine lv_if_eq (tgt := 70) hx hb dX3_pair_60 (by decide) (fun c68 => ?_) (fun c68 => ?_)
              · have hf := if_t hf c68
                refine lv_iconst (v := (0 : Int32)) hx hb dX3_pair_70 (by decide) ?_
                refine W.widen (k := 1) (n := 17) (Nat.le_of_ble_eq_true rfl) (Nat.le_of_ble_eq_true rfl) ?_
                exact hp_zreta hx hb hr hlocks (Or.inl rfl) (congrArg Prod.fst (Option.some.inj hf)) (congrArg Prod.snd (Option.some.inj hf)) hP hS keep_rf agr_rf dX3_pair_71
              · have hf := if_f hf c68
                refine lv_aload_n hx hb dX3_pair_63 rfl (lv_at hl 2 rfl) ?_
                have h69 : ∀ j : Nat, (mR M0 1 v0 3) = some j → mA M0 7 j = true := fun j hj => hp_wf hP a0 hj
                refine gf1 (v := va_rf (((mR M0 1 v0 3)).map (ad 7))) hx hb hts hown hK hP a0 3 (by decide) (hts _ q106) rfl rfl dX3_pair_64 ?_
                rcases on_c hf with ⟨e70, hf⟩ | ⟨i71, e70, hf⟩
                · refine W_top (y := .null) (by rw [e70]; rfl) ?_
                  refine lv_ifnullN (tgt := 72) hx hb dX3_pair_67 (by decide) ?_
                  refine lv_aload_n hx hb dX3_pair_72 rfl (lv_at hl 2 rfl) ?_
                  obtain ⟨h73, hf⟩ := nw_some hf
                  obtain ⟨M74, e75, hf⟩ := lt_some hf
                  have hk76 : Keep M0 M74 := keep_nA e75
                  refine hp_new (s0 := 7) (i := 52) hx hb hts inB0 tyX0 tyX0_ok hown (hts _ q170) (hts _ q171) (hts _ q88) hK hP hS hA h73 ds_7 rfl ze7 e75 (Nat.le_of_ble_eq_true rfl) (Nat.le_of_ble_eq_true rfl) dX3_pair_73 (fun ad77 H hP hg78 hS => ?_)
                  have h79 : mA M74 7 52 = true := nA_at e75
                  have hl : lv_has ls 7 [(6, .ref (ad77 4 i59)), (5, .ref (ad77 4 i56)), (0, .ref (ad77 1 v0)), (1, .int v1), (2, .int v2), (3, .int v3), (4, .int v4)] := by rw [hg78 _ _ h60, hg78 _ _ h57, hg78 _ _ a0]; exact hl
                  refine W_stk (st := [.ref (ad77 7 52), .ref (ad 1 v0)]) (st' := [.ref (ad77 7 52), .ref (ad77 1 v0)]) (by rw [hg78 _ _ a0]) ?_
                  refine lv_dup hx hb dX3_pair_76 rfl ?_
                  refine lv_iconst (v := (4 : Int32)) hx hb dX3_pair_77 (by decide) ?_
                  refine lv_aload hx hb dX3_pair_78 (lv_at hl 1 rfl) ?_
                  refine lv_aload hx hb dX3_pair_80 (lv_at hl 0 rfl) ?_
                  refine lv_iload_n hx hb dX3_pair_82 rfl (lv_at hl 5 rfl) ?_
                  refine lv_iload hx hb dX3_pair_83 (lv_at hl 6 rfl) ?_
                  obtain ⟨M82, e80, hf⟩ := ob_some hf
                  refine hp_callv (va_runIN (As := [.int (4 : Int32), .ref (ad77 4 i56), .ref (ad77 4 i59), .int v3, .int v4]) (rest := [.ref (ad77 7 52), .ref (ad77 1 v0)]) ⟨hx, hb, hml, hown, hts⟩ (ok_X0_init l D cy ad77 M74 _ 52 (4 : Int32) i56 i59 v3 v4 M82 h79 (hk76 _ _ h57) (hk76 _ _ h60) e80) ⟨va_cnB 5 hts (gd0 q174) rfl rfl rfl (hN.2.1 (RX3, 45, yX0_init, RX3) (List.mem_of_getElem? (i := 1) rfl)) (hts _ q88) (by decide +kernel) ⟨Nat.le_of_ble_eq_true rfl, Nat.le_of_ble_eq_true rfl⟩, rfl, hts _ q173⟩ (pre_S hP hK hN) rfl rfl hl.1 rfl (lv_room (Nat.le_of_ble_eq_true rfl)) dX3_pair_85 ⟨Nat.le_of_ble_eq_true rfl, Nat.le_of_ble_eq_true rfl⟩) hP hS hA (fun H locs hP hS hk83 => ?_)
                  obtain ⟨M84, e85, hf⟩ := lt_some hf
                  have hk86 : Keep M82 M84 := keR e85
                  refine pR1 (v := (some 52)) (t := 7) hx hb hts hown hK hP hS (hk83 _ _ (hk76 _ _ a0)) 3 (by decide) (hts _ q106) rfl rfl (fun j hj => by cases hj; exact (hk83 _ _ h79)) rfl e85 dX3_pair_88 (fun H locs hP hS => ?_)
                  refine lv_iconst (v := (1 : Int32)) hx hb dX3_pair_91 (by decide) ?_
                  refine W.widen (k := 1) (n := 17) (Nat.le_of_ble_eq_true rfl) (Nat.le_of_ble_eq_true rfl) ?_
                  exact hp_zreta hx hb hr hlocks (Or.inr rfl) (congrArg Prod.fst (Option.some.inj hf)) (congrArg Prod.snd (Option.some.inj hf)) hP hS (kt (kt (kt keep_rf hk76) hk83) hk86) (agr_t agr_rf keep_rf hg78) dX3_pair_92
                · have h72 : mA M0 7 i71 = true := h69 i71 e70
                  refine W_stk (st := [va_rf (((mR M0 1 v0 3)).map (ad 7))]) (st' := [.ref (ad 7 i71)]) (by first | (rw [e70]; done) | (rw [e70]; rfl)) ?_
                  refine lv_ifnull hx hb dX3_pair_67 ?_
                  refine lv_iconst (v := (0 : Int32)) hx hb dX3_pair_70 (by decide) ?_
                  refine W.widen (k := 1) (n := 17) (Nat.le_of_ble_eq_true rfl) (Nat.le_of_ble_eq_true rfl) ?_
                  exact hp_zreta hx hb hr hlocks (Or.inl rfl) (congrArg Prod.fst (Option.some.inj hf)) (congrArg Prod.snd (Option.some.inj hf)) hP hS keep_rf agr_rf dX3_pair_71

def f_X0_issueTicket (v0 : Nat) (v1 : Int32) (v2 : Int32) (v3 : Int32) (v4 : Int32) (M0 : Mm) : Option (Option Nat × Mm) :=
  nw (mA M0 8 (mI M0 1 0 2).toNatClampNeg) (lt (nA M0 8 (mI M0 1 0 2).toNatClampNeg) fun M57 => ob (f_X0_namesSecond v0 M57) fun r65 => if r65 = 0 then (ob (f_X0_namesThird v0 M57) fun r70 => if r70 = 0 then (ob (f_X2_init (mI M0 1 0 2).toNatClampNeg v0 (mR M57 7 v0 5) v1 (0 : Int32) (0 : Int32) v4 M57) fun M76 => lt (sR M76 7 v0 5 (some (mI M0 1 0 2).toNatClampNeg)) fun M78 => some ((mR M78 7 v0 5), M78)) else (ob (f_X2_init (mI M0 1 0 2).toNatClampNeg v0 (mR M57 7 v0 5) v1 (0 : Int32) v3 v4 M57) fun M84 => lt (sR M84 7 v0 5 (some (mI M0 1 0 2).toNatClampNeg)) fun M86 => some ((mR M86 7 v0 5), M86))) else (ob (f_X0_namesThird v0 M57) fun r91 => if r91 = 0 then (ob (f_X2_init (mI M0 1 0 2).toNatClampNeg v0 (mR M57 7 v0 5) v1 v2 (0 : Int32) v4 M57) fun M97 => lt (sR M97 7 v0 5 (some (mI M0 1 0 2).toNatClampNeg)) fun M99 => some ((mR M99 7 v0 5), M99)) else (ob (f_X2_init (mI M0 1 0 2).toNatClampNeg v0 (mR M57 7 v0 5) v1 v2 v3 v4 M57) fun M105 => lt (sR M105 7 v0 5 (some (mI M0 1 0 2).toNatClampNeg)) fun M107 => some ((mR M107 7 v0 5), M107))))
set_option maxRecDepth 100000 in
set_option maxHeartbeats 4000000 in
theorem ok_X0_issueTicket (l : Launch) (D : va_G) (cy : Nat → ClassId) (ad : Nat → Nat → Nat) (M0 : Mm) (sz : Nat) (v0 : Nat) (v1 : Int32) (v2 : Int32) (v3 : Int32) (v4 : Int32) (r0 : Option Nat) (M' : Mm) (a0 : mA M0 7 v0 = true) (hf : f_X0_issueTicket v0 v1 v2 v3 v4 M0 = some (r0, M')) : Met l yX0_issueTicket (Cond.code yX0_issueTicket cX0_issueTicket 5 (some (.object "ToteHouse$Ticket")) :: BW) { frames := 2, cells := 1, slots := 7, locals := 42 } (va_Pc [.ref (ad 7 v0), .int v1, .int v2, .int v3, .int v4] (PRE D cy ad M0 sz)) (QRa D cy ad M0 sz 8 r0 M') 1 7 (AA ad M0 sz) := by
  refine Met.ofW (cc := cX0_issueTicket) (maxL := 5) (ret := (some (.object "ToteHouse$Ticket"))) (by decide) rfl ?_
  intro p e s m args below meth c s₁ B hml hv
  obtain ⟨rfl, rfl, hP0, hK, hN⟩ := hv
  have hx := B.exec
  have hb := B.bytes
  have hr := B.returns
  have hts0 := atoms_spec (ws := (Cond.code yX0_issueTicket cX0_issueTicket 5 (some (.object "ToteHouse$Ticket")) :: BW)) B.pre
  have hts : ∀ w ∈ BW, w.before ([.ref (ad 7 v0), .int v1, .int v2, .int v3, .int v4] : List Value).toArray s = true := fun w h => hts0 w (List.mem_cons_of_mem _ h)
  have hown : s.vm.findClass RX0 = some m.cls := findClass_of_methodNamed B.named
  have hlocks := B.notSynchronized
  have hA : ∀ q : Nat, s.heap.size ≤ q → AA ad M0 s.heap.size q := fun q h => Or.inr h
  have C : Cx RX0 cX0_issueTicket 5 (some (.object "ToteHouse$Ticket")) D cy (AA ad M0 s.heap.size) p s m ([.ref (ad 7 v0), .int v1, .int v2, .int v3, .int v4] : List Value).toArray meth c := ⟨hx, hb, hr, hml, hown, hts, hlocks, hK, hN, hA⟩
  have hP := hp_self (sz := s.heap.size) hP0
  have hS : va_S (AA ad M0 s.heap.size) s.heap s.heap [] := va_S.rf
  have hl := lv_entry ([.ref (ad 7 v0), .int v1, .int v2, .int v3, .int v4]) (n := 5) (Nat.le_of_ble_eq_true rfl)
  rw [lg_entry_eq]
  generalize (lg_sl ([.ref (ad 7 v0), .int v1, .int v2, .int v3, .int v4]) ++ List.replicate (5 - (lg_sl ([.ref (ad 7 v0), .int v1, .int v2, .int v3, .int v4])).length) Slot.unset).toArray = ls at hl ⊢
  have hl : lv_has ls 5 [(0, .ref (ad 7 v0)), (1, .int v1), (2, .int v2), (3, .int v3), (4, .int v4)] := hl
  unfold f_X0_issueTicket at hf
  refine lv_aload_n hx hb dX0_issueTicket_0 rfl (lv_at hl 0 rfl) ?_
  obtain ⟨h56, hf⟩ := nw_some hf
  obtain ⟨M57, e58, hf⟩ := lt_some hf
  have hk59 : Keep M0 M57 := keep_nA e58
  refine hp_new (s0 := 8) (i := (mI M0 1 0 2).toNatClampNeg) hx hb hts inB2 tyX2 tyX2_ok hown (hts _ q301) (hts _ q302) (hts _ q89) hK hP hS hA h56 ds_8 rfl ze8 e58 (Nat.le_of_ble_eq_true rfl) (Nat.le_of_ble_eq_true rfl) dX0_issueTicket_1 (fun ad60 H hP hg61 hS => ?_)
  have h62 : mA M57 8 (mI M0 1 0 2).toNatClampNeg = true := nA_at e58
  have hl : lv_has ls 5 [(0, .ref (ad60 7 v0)), (1, .int v1), (2, .int v2), (3, .int v3), (4, .int v4)] := by rw [hg61 _ _ a0]; exact hl
  refine W_stk (st := [.ref (ad60 8 (mI M0 1 0 2).toNatClampNeg), .ref (ad 7 v0)]) (st' := [.ref (ad60 8 (mI M0 1 0 2).toNatClampNeg), .ref (ad60 7 v0)]) (by rw [hg61 _ _ a0]) ?_
  refine lv_dup hx hb dX0_issueTicket_4 rfl ?_
  refine lv_aload_n hx hb dX0_issueTicket_5 rfl (lv_at hl 0 rfl) ?_
  refine lv_aload_n hx hb dX0_issueTicket_6 rfl (lv_at hl 0 rfl) ?_
  have h63 : ∀ j : Nat, (mR M57 7 v0 5) = some j → mA M57 8 j = true := fun j hj => hp_wf hP (hk59 _ _ a0) hj
  refine gf7 (v := va_rf (((mR M57 7 v0 5)).map (ad60 8))) hx hb hts hown hK hP (hk59 _ _ a0) 5 (by decide) (hts _ q184) rfl rfl dX0_issueTicket_7 ?_
  refine lv_iload_n hx hb dX0_issueTicket_10 rfl (lv_at hl 1 rfl) ?_
  refine lv_aload_n hx hb dX0_issueTicket_11 rfl (lv_at hl 0 rfl) ?_
  obtain ⟨r65, e64, hf⟩ := ob_some hf
  refine hp_calli (va_runV (As := []) (rest := [.int v1, va_rf (((mR M57 7 v0 5)).map (ad60 8)), .ref (ad60 7 v0), .ref (ad60 8 (mI M0 1 0 2).toNatClampNeg), .ref (ad60 8 (mI M0 1 0 2).toNatClampNeg), .ref (ad60 7 v0)]) ⟨hx, hb, hml, hown, hts⟩ (ok_X0_namesSecond l D cy ad60 M57 _ v0 r65 (hk59 _ _ a0) e64) (cwV 0 hts (gdV q280 q282 q8 q88 q283) rfl rfl rfl (by decide +kernel) ⟨Nat.le_of_ble_eq_true rfl, Nat.le_of_ble_eq_true rfl⟩) (pre_V hP hK hN (hk59 _ _ a0) ds_7 rfl) rfl rfl hl.1 rfl (lv_room (by cases (mR M57 7 v0 5) <;> exact Nat.le_of_ble_eq_true rfl)) dX0_issueTicket_12 ⟨Nat.le_of_ble_eq_true rfl, Nat.le_of_ble_eq_true rfl⟩) hP hS hA (fun H locs hP hS _ => ?_)
  refine lv_if_eq (tgt := 22) hx hb dX0_issueTicket_15 (by decide) (fun c68 => ?_) (fun c68 => ?_)
  · have hf := if_t hf c68
    refine lv_iconst (v := (0 : Int32)) hx hb dX0_issueTicket_22 (by decide) ?_
    refine lv_aload_n hx hb dX0_issueTicket_23 rfl (lv_at hl 0 rfl) ?_
    obtain ⟨r70, e69, hf⟩ := ob_some hf
    refine hp_calli (va_runV (As := []) (rest := [.int (0 : Int32), .int v1, va_rf (((mR M57 7 v0 5)).map (ad60 8)), .ref (ad60 7 v0), .ref (ad60 8 (mI M0 1 0 2).toNatClampNeg), .ref (ad60 8 (mI M0 1 0 2).toNatClampNeg), .ref (ad60 7 v0)]) ⟨hx, hb, hml, hown, hts⟩ (ok_X0_namesThird l D cy ad60 M57 _ v0 r70 (hk59 _ _ a0) e69) (cwV 0 hts (gdV q284 q286 q9 q88 q287) rfl rfl rfl (by decide +kernel) ⟨Nat.le_of_ble_eq_true rfl, Nat.le_of_ble_eq_true rfl⟩) (pre_V hP hK hN (hk59 _ _ a0) ds_7 rfl) rfl rfl hl.1 rfl (lv_room (by cases (mR M57 7 v0 5) <;> exact Nat.le_of_ble_eq_true rfl)) dX0_issueTicket_24 ⟨Nat.le_of_ble_eq_true rfl, Nat.le_of_ble_eq_true rfl⟩) hP hS hA (fun H locs hP hS _ => ?_)
    refine lv_if_eq (tgt := 34) hx hb dX0_issueTicket_27 (by decide) (fun c73 => ?_) (fun c73 => ?_)
    · have hf := if_t hf c73
      refine lv_iconst (v := (0 : Int32)) hx hb dX0_issueTicket_34 (by decide) ?_
      refine lv_iload hx hb dX0_issueTicket_35 (lv_at hl 4 rfl) ?_
      obtain ⟨M76, e74, hf⟩ := ob_some hf
      refine hp_callv (va_runIN (As := [.ref (ad60 7 v0), va_rf (((mR M57 7 v0 5)).map (ad60 8)), .int v1, .int (0 : Int32), .int (0 : Int32), .int v4]) (rest := [.ref (ad60 8 (mI M0 1 0 2).toNatClampNeg), .ref (ad60 7 v0)]) ⟨hx, hb, hml, hown, hts⟩ (ok_X2_init l D cy ad60 M57 _ (mI M0 1 0 2).toNatClampNeg v0 (mR M57 7 v0 5) v1 (0 : Int32) (0 : Int32) v4 M76 h62 (hk59 _ _ a0) h63 e74) ⟨va_cnB 6 hts (gd0 q305) rfl rfl rfl (hN.2.1 (RX0, 81, yX2_init, RX3) (List.mem_of_getElem? (i := 11) rfl)) (hts _ q89) (by decide +kernel) ⟨Nat.le_of_ble_eq_true rfl, Nat.le_of_ble_eq_true rfl⟩, rfl, hts _ q304⟩ (pre_S hP hK hN) rfl rfl hl.1 rfl (lv_room (Nat.le_of_ble_eq_true rfl)) dX0_issueTicket_37 ⟨Nat.le_of_ble_eq_true rfl, Nat.le_of_ble_eq_true rfl⟩) hP hS hA (fun H locs hP hS hk77 => ?_)
      obtain ⟨M78, e79, hf⟩ := lt_some hf
      have hk80 : Keep M76 M78 := keR e79
      refine pR7 (v := (some (mI M0 1 0 2).toNatClampNeg)) (t := 8) hx hb hts hown hK hP hS (hk77 _ _ (hk59 _ _ a0)) 5 (by decide) (hts _ q184) rfl rfl (fun j hj => by cases hj; exact (hk77 _ _ h62)) rfl e79 dX0_issueTicket_40 (fun H locs hP hS => ?_)
      refine lv_aload_n hx hb dX0_issueTicket_43 rfl (lv_at hl 0 rfl) ?_
      have h81 : ∀ j : Nat, (mR M78 7 v0 5) = some j → mA M78 8 j = true := fun j hj => hp_wf hP (hk80 _ _ (hk77 _ _ (hk59 _ _ a0))) hj
      refine gf7 (v := va_rf (((mR M78 7 v0 5)).map (ad60 8))) hx hb hts hown hK hP (hk80 _ _ (hk77 _ _ (hk59 _ _ a0))) 5 (by decide) (hts _ q184) rfl rfl dX0_issueTicket_44 ?_
      refine W.widen (k := 1) (n := 7) (Nat.le_of_ble_eq_true rfl) (Nat.le_of_ble_eq_true rfl) ?_
      exact hp_areta (t0 := 8) (v := (mR M78 7 v0 5)) hx hb hr hlocks h81 (congrArg Prod.fst (Option.some.inj hf)) (congrArg Prod.snd (Option.some.inj hf)) hP hS (kt (kt (kt keep_rf hk59) hk77) hk80) (agr_t agr_rf keep_rf hg61) dX0_issueTicket_47
    · have hf := if_f hf c73
      refine lv_iload_n hx hb dX0_issueTicket_30 rfl (lv_at hl 3 rfl) ?_
      refine lv_goto (tgt := 35) hx hb dX0_issueTicket_31 (by decide) ?_
      refine lv_iload hx hb dX0_issueTicket_35 (lv_at hl 4 rfl) ?_
      obtain ⟨M84, e82, hf⟩ := ob_some hf
      refine hp_callv (va_runIN (As := [.ref (ad60 7 v0), va_rf (((mR M57 7 v0 5)).map (ad60 8)), .int v1, .int (0 : Int32), .int v3, .int v4]) (rest := [.ref (ad60 8 (mI M0 1 0 2).toNatClampNeg), .ref (ad60 7 v0)]) ⟨hx, hb, hml, hown, hts⟩ (ok_X2_init l D cy ad60 M57 _ (mI M0 1 0 2).toNatClampNeg v0 (mR M57 7 v0 5) v1 (0 : Int32) v3 v4 M84 h62 (hk59 _ _ a0) h63 e82) ⟨va_cnB 6 hts (gd0 q305) rfl rfl rfl (hN.2.1 (RX0, 81, yX2_init, RX3) (List.mem_of_getElem? (i := 11) rfl)) (hts _ q89) (by decide +kernel) ⟨Nat.le_of_ble_eq_true rfl, Nat.le_of_ble_eq_true rfl⟩, rfl, hts _ q304⟩ (pre_S hP hK hN) rfl rfl hl.1 rfl (lv_room (Nat.le_of_ble_eq_true rfl)) dX0_issueTicket_37 ⟨Nat.le_of_ble_eq_true rfl, Nat.le_of_ble_eq_true rfl⟩) hP hS hA (fun H locs hP hS hk85 => ?_)
      obtain ⟨M86, e87, hf⟩ := lt_some hf
      have hk88 : Keep M84 M86 := keR e87
      refine pR7 (v := (some (mI M0 1 0 2).toNatClampNeg)) (t := 8) hx hb hts hown hK hP hS (hk85 _ _ (hk59 _ _ a0)) 5 (by decide) (hts _ q184) rfl rfl (fun j hj => by cases hj; exact (hk85 _ _ h62)) rfl e87 dX0_issueTicket_40 (fun H locs hP hS => ?_)
      refine lv_aload_n hx hb dX0_issueTicket_43 rfl (lv_at hl 0 rfl) ?_
      have h89 : ∀ j : Nat, (mR M86 7 v0 5) = some j → mA M86 8 j = true := fun j hj => hp_wf hP (hk88 _ _ (hk85 _ _ (hk59 _ _ a0))) hj
      refine gf7 (v := va_rf (((mR M86 7 v0 5)).map (ad60 8))) hx hb hts hown hK hP (hk88 _ _ (hk85 _ _ (hk59 _ _ a0))) 5 (by decide) (hts _ q184) rfl rfl dX0_issueTicket_44 ?_
      refine W.widen (k := 1) (n := 7) (Nat.le_of_ble_eq_true rfl) (Nat.le_of_ble_eq_true rfl) ?_
      exact hp_areta (t0 := 8) (v := (mR M86 7 v0 5)) hx hb hr hlocks h89 (congrArg Prod.fst (Option.some.inj hf)) (congrArg Prod.snd (Option.some.inj hf)) hP hS (kt (kt (kt keep_rf hk59) hk85) hk88) (agr_t agr_rf keep_rf hg61) dX0_issueTicket_47
  · have hf := if_f hf c68
    refine lv_iload_n hx hb dX0_issueTicket_18 rfl (lv_at hl 2 rfl) ?_
    refine lv_goto (tgt := 23) hx hb dX0_issueTicket_19 (by decide) ?_
    refine lv_aload_n hx hb dX0_issueTicket_23 rfl (lv_at hl 0 rfl) ?_
    obtain ⟨r91, e90, hf⟩ := ob_some hf
    refine hp_calli (va_runV (As := []) (rest := [.int v2, .int v1, va_rf (((mR M57 7 v0 5)).map (ad60 8)), .ref (ad60 7 v0), .ref (ad60 8 (mI M0 1 0 2).toNatClampNeg), .ref (ad60 8 (mI M0 1 0 2).toNatClampNeg), .ref (ad60 7 v0)]) ⟨hx, hb, hml, hown, hts⟩ (ok_X0_namesThird l D cy ad60 M57 _ v0 r91 (hk59 _ _ a0) e90) (cwV 0 hts (gdV q284 q286 q9 q88 q287) rfl rfl rfl (by decide +kernel) ⟨Nat.le_of_ble_eq_true rfl, Nat.le_of_ble_eq_true rfl⟩) (pre_V hP hK hN (hk59 _ _ a0) ds_7 rfl) rfl rfl hl.1 rfl (lv_room (by cases (mR M57 7 v0 5) <;> exact Nat.le_of_ble_eq_true rfl)) dX0_issueTicket_24 ⟨Nat.le_of_ble_eq_true rfl, Nat.le_of_ble_eq_true rfl⟩) hP hS hA (fun H locs hP hS _ => ?_)
    refine lv_if_eq (tgt := 34) hx hb dX0_issueTicket_27 (by decide) (fun c94 => ?_) (fun c94 => ?_)
    · have hf := if_t hf c94
      refine lv_iconst (v := (0 : Int32)) hx hb dX0_issueTicket_34 (by decide) ?_
      refine lv_iload hx hb dX0_issueTicket_35 (lv_at hl 4 rfl) ?_
      obtain ⟨M97, e95, hf⟩ := ob_some hf
      refine hp_callv (va_runIN (As := [.ref (ad60 7 v0), va_rf (((mR M57 7 v0 5)).map (ad60 8)), .int v1, .int v2, .int (0 : Int32), .int v4]) (rest := [.ref (ad60 8 (mI M0 1 0 2).toNatClampNeg), .ref (ad60 7 v0)]) ⟨hx, hb, hml, hown, hts⟩ (ok_X2_init l D cy ad60 M57 _ (mI M0 1 0 2).toNatClampNeg v0 (mR M57 7 v0 5) v1 v2 (0 : Int32) v4 M97 h62 (hk59 _ _ a0) h63 e95) ⟨va_cnB 6 hts (gd0 q305) rfl rfl rfl (hN.2.1 (RX0, 81, yX2_init, RX3) (List.mem_of_getElem? (i := 11) rfl)) (hts _ q89) (by decide +kernel) ⟨Nat.le_of_ble_eq_true rfl, Nat.le_of_ble_eq_true rfl⟩, rfl, hts _ q304⟩ (pre_S hP hK hN) rfl rfl hl.1 rfl (lv_room (Nat.le_of_ble_eq_true rfl)) dX0_issueTicket_37 ⟨Nat.le_of_ble_eq_true rfl, Nat.le_of_ble_eq_true rfl⟩) hP hS hA (fun H locs hP hS hk98 => ?_)
      obtain ⟨M99, e100, hf⟩ := lt_some hf
      have hk101 : Keep M97 M99 := keR e100
      refine pR7 (v := (some (mI M0 1 0 2).toNatClampNeg)) (t := 8) hx hb hts hown hK hP hS (hk98 _ _ (hk59 _ _ a0)) 5 (by decide) (hts _ q184) rfl rfl (fun j hj => by cases hj; exact (hk98 _ _ h62)) rfl e100 dX0_issueTicket_40 (fun H locs hP hS => ?_)
      refine lv_aload_n hx hb dX0_issueTicket_43 rfl (lv_at hl 0 rfl) ?_
      have h102 : ∀ j : Nat, (mR M99 7 v0 5) = some j → mA M99 8 j = true := fun j hj => hp_wf hP (hk101 _ _ (hk98 _ _ (hk59 _ _ a0))) hj
      refine gf7 (v := va_rf (((mR M99 7 v0 5)).map (ad60 8))) hx hb hts hown hK hP (hk101 _ _ (hk98 _ _ (hk59 _ _ a0))) 5 (by decide) (hts _ q184) rfl rfl dX0_issueTicket_44 ?_
      refine W.widen (k := 1) (n := 7) (Nat.le_of_ble_eq_true rfl) (Nat.le_of_ble_eq_true rfl) ?_
      exact hp_areta (t0 := 8) (v := (mR M99 7 v0 5)) hx hb hr hlocks h102 (congrArg Prod.fst (Option.some.inj hf)) (congrArg Prod.snd (Option.some.inj hf)) hP hS (kt (kt (kt keep_rf hk59) hk98) hk101) (agr_t agr_rf keep_rf hg61) dX0_issueTicket_47
    · have hf := if_f hf c94
      refine lv_iload_n hx hb dX0_issueTicket_30 rfl (lv_at hl 3 rfl) ?_
      refine lv_goto (tgt := 35) hx hb dX0_issueTicket_31 (by decide) ?_
      refine lv_iload hx hb dX0_issueTicket_35 (lv_at hl 4 rfl) ?_
      obtain ⟨M105, e103, hf⟩ := ob_some hf
      refine hp_callv (va_runIN (As := [.ref (ad60 7 v0), va_rf (((mR M57 7 v0 5)).map (ad60 8)), .int v1, .int v2, .int v3, .int v4]) (rest := [.ref (ad60 8 (mI M0 1 0 2).toNatClampNeg), .ref (ad60 7 v0)]) ⟨hx, hb, hml, hown, hts⟩ (ok_X2_init l D cy ad60 M57 _ (mI M0 1 0 2).toNatClampNeg v0 (mR M57 7 v0 5) v1 v2 v3 v4 M105 h62 (hk59 _ _ a0) h63 e103) ⟨va_cnB 6 hts (gd0 q305) rfl rfl rfl (hN.2.1 (RX0, 81, yX2_init, RX3) (List.mem_of_getElem? (i := 11) rfl)) (hts _ q89) (by decide +kernel) ⟨Nat.le_of_ble_eq_true rfl, Nat.le_of_ble_eq_true rfl⟩, rfl, hts _ q304⟩ (pre_S hP hK hN) rfl rfl hl.1 rfl (lv_room (Nat.le_of_ble_eq_true rfl)) dX0_issueTicket_37 ⟨Nat.le_of_ble_eq_true rfl, Nat.le_of_ble_eq_true rfl⟩) hP hS hA (fun H locs hP hS hk106 => ?_)
      obtain ⟨M107, e108, hf⟩ := lt_some hf
      have hk109 : Keep M105 M107 := keR e108
      refine pR7 (v := (some (mI M0 1 0 2).toNatClampNeg)) (t := 8) hx hb hts hown hK hP hS (hk106 _ _ (hk59 _ _ a0)) 5 (by decide) (hts _ q184) rfl rfl (fun j hj => by cases hj; exact (hk106 _ _ h62)) rfl e108 dX0_issueTicket_40 (fun H locs hP hS => ?_)
      refine lv_aload_n hx hb dX0_issueTicket_43 rfl (lv_at hl 0 rfl) ?_
      have h110 : ∀ j : Nat, (mR M107 7 v0 5) = some j → mA M107 8 j = true := fun j hj => hp_wf hP (hk109 _ _ (hk106 _ _ (hk59 _ _ a0))) hj
      refine gf7 (v := va_rf (((mR M107 7 v0 5)).map (ad60 8))) hx hb hts hown hK hP (hk109 _ _ (hk106 _ _ (hk59 _ _ a0))) 5 (by decide) (hts _ q184) rfl rfl dX0_issueTicket_44 ?_
      refine W.widen (k := 1) (n := 7) (Nat.le_of_ble_eq_true rfl) (Nat.le_of_ble_eq_true rfl) ?_
      exact hp_areta (t0 := 8) (v := (mR M107 7 v0 5)) hx hb hr hlocks h110 (congrArg Prod.fst (Option.some.inj hf)) (congrArg Prod.snd (Option.some.inj hf)) hP hS (kt (kt (kt keep_rf hk59) hk106) hk109) (agr_t agr_rf keep_rf hg61) dX0_issueTicket_47

def f_X3_sell (v0 : Nat) (v1 : Int32) (v2 : Int32) (v3 : Int32) (v4 : Int32) (v5 : Int32) (v6 : Int32) (M0 : Mm) : Option (Int32 × Mm) :=
  ob (f_X3_poolOf v0 v1 v2 M0) fun r61 => on r61 (some ((-1 : Int32), M0)) fun i66 => if v6 < (1 : Int32) then (some ((-2 : Int32), M0)) else (if v6 ≤ (1000 : Int32) then (ob (f_X0_isOpen i66 M0) fun r71 => if r71 = 0 then (some ((-3 : Int32), M0)) else (ob (f_X0_hasRunners i66 v3 v4 v5 M0) fun r76 => if r76 = 0 then (some ((-4 : Int32), M0)) else (ob (f_X0_haveStart i66 v3 v4 v5 M0) fun r81 => if r81 = 0 then (some ((-5 : Int32), M0)) else (ob (f_X0_namesOneTwice i66 v3 v4 v5 M0) fun r86 => if r86 = 0 then (if (mI M0 1 v0 2) < 0 then (some ((-7 : Int32), M0)) else (ob (mR M0 1 v0 1) fun i92 => if (mI M0 1 v0 2) < (600 : Int32) then (lt (mI M0 1 v0 2) fun x96 => ob (f_X0_issueTicket i66 v3 v4 v5 v6 M0) fun (r100, M101) => ob r100 fun i106 => ob (mR M0 1 v0 1) fun i109 => ix x96 600 (lt (sR M101 3 i109 (x96).toNatClampNeg (some i106)) fun M113 => lt (sI M113 1 v0 2 (x96 + (1 : Int32))) fun M116 => some (x96, M116))) else (some ((-7 : Int32), M0)))) else (some ((-6 : Int32), M0)))))) else (some ((-2 : Int32), M0)))
set_option maxRecDepth 100000 in
set_option maxHeartbeats 4000000 in
theorem ok_X3_sell (l : Launch) (D : va_G) (cy : Nat → ClassId) (ad : Nat → Nat → Nat) (M0 : Mm) (sz : Nat) (v0 : Nat) (v1 : Int32) (v2 : Int32) (v3 : Int32) (v4 : Int32) (v5 : Int32) (v6 : Int32) (r0 : Int32) (M' : Mm) (a0 : mA M0 1 v0 = true) (hf : f_X3_sell v0 v1 v2 v3 v4 v5 v6 M0 = some (r0, M')) : Met l yX3_sell (Cond.code yX3_sell cX3_sell 9 (some .int) :: BW) { frames := 3, cells := 1, slots := 7, locals := 66 } (va_Pc [.ref (ad 1 v0), .int v1, .int v2, .int v3, .int v4, .int v5, .int v6] (PRE D cy ad M0 sz)) (QIa D cy ad M0 sz r0 M') 1 7 (AA ad M0 sz) := by
  refine Met.ofW (cc := cX3_sell) (maxL := 9) (ret := (some .int)) (by decide) rfl ?_
  intro p e s m args below meth c s₁ B hml hv
  obtain ⟨rfl, rfl, hP0, hK, hN⟩ := hv
  have hx := B.exec
  have hb := B.bytes
  have hr := B.returns
  have hts0 := atoms_spec (ws := (Cond.code yX3_sell cX3_sell 9 (some .int) :: BW)) B.pre
  have hts : ∀ w ∈ BW, w.before ([.ref (ad 1 v0), .int v1, .int v2, .int v3, .int v4, .int v5, .int v6] : List Value).toArray s = true := fun w h => hts0 w (List.mem_cons_of_mem _ h)
  have hown : s.vm.findClass RX3 = some m.cls := findClass_of_methodNamed B.named
  have hlocks := B.notSynchronized
  have hA : ∀ q : Nat, s.heap.size ≤ q → AA ad M0 s.heap.size q := fun q h => Or.inr h
  have C : Cx RX3 cX3_sell 9 (some .int) D cy (AA ad M0 s.heap.size) p s m ([.ref (ad 1 v0), .int v1, .int v2, .int v3, .int v4, .int v5, .int v6] : List Value).toArray meth c := ⟨hx, hb, hr, hml, hown, hts, hlocks, hK, hN, hA⟩
  have hP := hp_self (sz := s.heap.size) hP0
  have hS : va_S (AA ad M0 s.heap.size) s.heap s.heap [] := va_S.rf
  have hl := lv_entry ([.ref (ad 1 v0), .int v1, .int v2, .int v3, .int v4, .int v5, .int v6]) (n := 9) (Nat.le_of_ble_eq_true rfl)
  rw [lg_entry_eq]
  generalize (lg_sl ([.ref (ad 1 v0), .int v1, .int v2, .int v3, .int v4, .int v5, .int v6]) ++ List.replicate (9 - (lg_sl ([.ref (ad 1 v0), .int v1, .int v2, .int v3, .int v4, .int v5, .int v6])).length) Slot.unset).toArray = ls at hl ⊢
  have hl : lv_has ls 9 [(0, .ref (ad 1 v0)), (1, .int v1), (2, .int v2), (3, .int v3), (4, .int v4), (5, .int v5), (6, .int v6)] := hl
  unfold f_X3_sell at hf
  refine lv_aload_n hx hb dX3_sell_0 rfl (lv_at hl 0 rfl) ?_
  refine lv_iload_n hx hb dX3_sell_1 rfl (lv_at hl 1 rfl) ?_
  refine lv_iload_n hx hb dX3_sell_2 rfl (lv_at hl 2 rfl) ?_
  obtain ⟨r61, e60, hf⟩ := ob_some hf
  refine hp_callq (va_runV (As := [.int v1, .int v2]) (rest := []) ⟨hx, hb, hml, hown, hts⟩ (ok_X3_poolOf l D cy ad M0 _ v0 v1 v2 r61 a0 e60) (cwV 2 hts (gdV q267 q269 q5 q85 q270) rfl rfl rfl (by decide +kernel) ⟨Nat.le_of_ble_eq_true rfl, Nat.le_of_ble_eq_true rfl⟩) (pre_V hP hK hN a0 ds_1 rfl) rfl rfl hl.1 rfl (lv_room (Nat.le_of_ble_eq_true rfl)) dX3_sell_3 ⟨Nat.le_of_ble_eq_true rfl, Nat.le_of_ble_eq_true rfl⟩) hP hS hA (fun H locs hP hS _ h64 => ?_)
  refine hp_astore (r := (r61).map (ad 7)) (lv' := [(7, va_rf ((r61).map (ad 7))), (0, .ref (ad 1 v0)), (1, .int v1), (2, .int v2), (3, .int v3), (4, .int v4), (5, .int v5), (6, .int v6)]) hx hb dX3_sell_6 hl (by decide) rfl (fun ls hl => ?_)
  refine hp_aload (r := (r61).map (ad 7)) hx hb dX3_sell_8 (lv_at hl 0 rfl) ?_
  rcases on_c hf with ⟨e65, hf⟩ | ⟨i66, e65, hf⟩
  · refine W_top (y := .null) (by rw [e65]; rfl) ?_
    refine lv_ifnonnullN hx hb dX3_sell_10 ?_
    refine lv_iconst (v := (-1 : Int32)) hx hb dX3_sell_13 (by decide) ?_
    refine W.widen (k := 1) (n := 7) (Nat.le_of_ble_eq_true rfl) (Nat.le_of_ble_eq_true rfl) ?_
    exact hp_ireta hx hb hr hlocks (congrArg Prod.fst (Option.some.inj hf)) (congrArg Prod.snd (Option.some.inj hf)) hP hS keep_rf agr_rf dX3_sell_14
  · have h67 : mA M0 7 i66 = true := h64 i66 e65
    rw [e65] at hl
    have hl : lv_has ls 9 [(7, .ref (ad 7 i66)), (0, .ref (ad 1 v0)), (1, .int v1), (2, .int v2), (3, .int v3), (4, .int v4), (5, .int v5), (6, .int v6)] := hl
    refine W_stk (st := [va_rf ((r61).map (ad 7))]) (st' := [.ref (ad 7 i66)]) (by first | (rw [e65]; done) | (rw [e65]; rfl)) ?_
    refine lv_ifnonnull (tgt := 15) hx hb dX3_sell_10 (by decide) ?_
    refine lv_iload hx hb dX3_sell_15 (lv_at hl 7 rfl) ?_
    refine lv_iconst (v := (1 : Int32)) hx hb dX3_sell_17 (by decide) ?_
    refine lv_icmp_lt (tgt := 29) hx hb dX3_sell_18 (by decide) (fun c68 => ?_) (fun c68 => ?_)
    · have hf := if_t hf c68
      refine lv_bipush (v := (-2 : Int32)) hx hb dX3_sell_29 (by decide) ?_
      refine W.widen (k := 1) (n := 7) (Nat.le_of_ble_eq_true rfl) (Nat.le_of_ble_eq_true rfl) ?_
      exact hp_ireta hx hb hr hlocks (congrArg Prod.fst (Option.some.inj hf)) (congrArg Prod.snd (Option.some.inj hf)) hP hS keep_rf agr_rf dX3_sell_31
    · have hf := if_f hf c68
      refine lv_iload hx hb dX3_sell_21 (lv_at hl 7 rfl) ?_
      refine lv_sipush (v := (1000 : Int32)) hx hb dX3_sell_23 (by decide) ?_
      refine lv_icmp_le (tgt := 32) hx hb dX3_sell_26 (by decide) (fun c69 => ?_) (fun c69 => ?_)
      · have hf := if_t hf c69
        refine lv_aload hx hb dX3_sell_32 (lv_at hl 0 rfl) ?_
        obtain ⟨r71, e70, hf⟩ := ob_some hf
        refine hp_calli (va_runVN (As := []) (rest := []) ⟨hx, hb, hml, hown, hts⟩ (ok_X0_isOpen l D cy ad M0 _ i66 r71 h67 e70) ⟨va_cnB 0 hts (gd0 q274) rfl rfl rfl (hN.2.1 (RX3, 67, yX0_isOpen, RX3) (List.mem_of_getElem? (i := 4) rfl)) (hts _ q88) (by decide +kernel) ⟨Nat.le_of_ble_eq_true rfl, Nat.le_of_ble_eq_true rfl⟩, hts _ q273, hts _ q6⟩ (pre_V hP hK hN h67 ds_7 rfl) rfl rfl hl.1 rfl (lv_room (Nat.le_of_ble_eq_true rfl)) dX3_sell_34 ⟨Nat.le_of_ble_eq_true rfl, Nat.le_of_ble_eq_true rfl⟩) hP hS hA (fun H locs hP hS _ => ?_)
        refine lv_if_ne (tgt := 43) hx hb dX3_sell_37 (by decide) (fun c74 => ?_) (fun c74 => ?_)
        · have hf := if_f hf c74
          refine lv_aload hx hb dX3_sell_43 (lv_at hl 0 rfl) ?_
          refine lv_iload_n hx hb dX3_sell_45 rfl (lv_at hl 4 rfl) ?_
          refine lv_iload hx hb dX3_sell_46 (lv_at hl 5 rfl) ?_
          refine lv_iload hx hb dX3_sell_48 (lv_at hl 6 rfl) ?_
          obtain ⟨r76, e75, hf⟩ := ob_some hf
          refine hp_calli (va_runVN (As := [.int v3, .int v4, .int v5]) (rest := []) ⟨hx, hb, hml, hown, hts⟩ (ok_X0_hasRunners l D cy ad M0 _ i66 v3 v4 v5 r76 h67 e75) ⟨va_cnB 3 hts (gd0 q278) rfl rfl rfl (hN.2.1 (RX3, 71, yX0_hasRunners, RX3) (List.mem_of_getElem? (i := 5) rfl)) (hts _ q88) (by decide +kernel) ⟨Nat.le_of_ble_eq_true rfl, Nat.le_of_ble_eq_true rfl⟩, hts _ q277, hts _ q7⟩ (pre_V hP hK hN h67 ds_7 rfl) rfl rfl hl.1 rfl (lv_room (Nat.le_of_ble_eq_true rfl)) dX3_sell_50 ⟨Nat.le_of_ble_eq_true rfl, Nat.le_of_ble_eq_true rfl⟩) hP hS hA (fun H locs hP hS _ => ?_)
          refine lv_if_ne (tgt := 59) hx hb dX3_sell_53 (by decide) (fun c79 => ?_) (fun c79 => ?_)
          · have hf := if_f hf c79
            refine lv_aload hx hb dX3_sell_59 (lv_at hl 0 rfl) ?_
            refine lv_iload_n hx hb dX3_sell_61 rfl (lv_at hl 4 rfl) ?_
            refine lv_iload hx hb dX3_sell_62 (lv_at hl 5 rfl) ?_
            refine lv_iload hx hb dX3_sell_64 (lv_at hl 6 rfl) ?_
            obtain ⟨r81, e80, hf⟩ := ob_some hf
            refine hp_calli (va_runVN (As := [.int v3, .int v4, .int v5]) (rest := []) ⟨hx, hb, hml, hown, hts⟩ (ok_X0_haveStart l D cy ad M0 _ i66 v3 v4 v5 r81 h67 e80) ⟨va_cnB 3 hts (gd0 q291) rfl rfl rfl (hN.2.1 (RX3, 75, yX0_haveStart, RX3) (List.mem_of_getElem? (i := 7) rfl)) (hts _ q88) (by decide +kernel) ⟨Nat.le_of_ble_eq_true rfl, Nat.le_of_ble_eq_true rfl⟩, hts _ q290, hts _ q10⟩ (pre_V hP hK hN h67 ds_7 rfl) rfl rfl hl.1 rfl (lv_room (Nat.le_of_ble_eq_true rfl)) dX3_sell_66 ⟨Nat.le_of_ble_eq_true rfl, Nat.le_of_ble_eq_true rfl⟩) hP hS hA (fun H locs hP hS _ => ?_)
            refine lv_if_ne (tgt := 75) hx hb dX3_sell_69 (by decide) (fun c84 => ?_) (fun c84 => ?_)
            · have hf := if_f hf c84
              refine lv_aload hx hb dX3_sell_75 (lv_at hl 0 rfl) ?_
              refine lv_iload_n hx hb dX3_sell_77 rfl (lv_at hl 4 rfl) ?_
              refine lv_iload hx hb dX3_sell_78 (lv_at hl 5 rfl) ?_
              refine lv_iload hx hb dX3_sell_80 (lv_at hl 6 rfl) ?_
              obtain ⟨r86, e85, hf⟩ := ob_some hf
              refine hp_calli (va_runVN (As := [.int v3, .int v4, .int v5]) (rest := []) ⟨hx, hb, hml, hown, hts⟩ (ok_X0_namesOneTwice l D cy ad M0 _ i66 v3 v4 v5 r86 h67 e85) ⟨va_cnB 3 hts (gd0 q296) rfl rfl rfl (hN.2.1 (RX3, 78, yX0_namesOneTwice, RX3) (List.mem_of_getElem? (i := 9) rfl)) (hts _ q88) (by decide +kernel) ⟨Nat.le_of_ble_eq_true rfl, Nat.le_of_ble_eq_true rfl⟩, hts _ q295, hts _ q11⟩ (pre_V hP hK hN h67 ds_7 rfl) rfl rfl hl.1 rfl (lv_room (Nat.le_of_ble_eq_true rfl)) dX3_sell_82 ⟨Nat.le_of_ble_eq_true rfl, Nat.le_of_ble_eq_true rfl⟩) hP hS hA (fun H locs hP hS _ => ?_)
              refine lv_if_eq (tgt := 91) hx hb dX3_sell_85 (by decide) (fun c89 => ?_) (fun c89 => ?_)
              · have hf := if_t hf c89
                refine lv_aload_n hx hb dX3_sell_91 rfl (lv_at hl 1 rfl) ?_
                refine gf1 (v := .int (mI M0 1 v0 2)) hx hb hts hown hK hP a0 2 (by decide) (hts _ q105) rfl rfl dX3_sell_92 ?_
                refine lv_if_lt (tgt := 110) hx hb dX3_sell_95 (by decide) (fun c90 => ?_) (fun c90 => ?_)
                · have hf := if_t hf c90
                  refine lv_bipush (v := (-7 : Int32)) hx hb dX3_sell_110 (by decide) ?_
                  refine W.widen (k := 1) (n := 7) (Nat.le_of_ble_eq_true rfl) (Nat.le_of_ble_eq_true rfl) ?_
                  exact hp_ireta hx hb hr hlocks (congrArg Prod.fst (Option.some.inj hf)) (congrArg Prod.snd (Option.some.inj hf)) hP hS keep_rf agr_rf dX3_sell_112
                · have hf := if_f hf c90
                  refine lv_aload_n hx hb dX3_sell_98 rfl (lv_at hl 1 rfl) ?_
                  refine gf1 (v := .int (mI M0 1 v0 2)) hx hb hts hown hK hP a0 2 (by decide) (hts _ q105) rfl rfl dX3_sell_99 ?_
                  refine lv_aload_n hx hb dX3_sell_102 rfl (lv_at hl 1 rfl) ?_
                  have h91 : ∀ j : Nat, (mR M0 1 v0 1) = some j → mA M0 3 j = true := fun j hj => hp_wf hP a0 hj
                  refine gf1 (v := va_rf (((mR M0 1 v0 1)).map (ad 3))) hx hb hts hown hK hP a0 1 (by decide) (hts _ q104) rfl rfl dX3_sell_103 ?_
                  obtain ⟨i92, e93, hf⟩ := ob_some hf
                  have h94 : mA M0 3 i92 = true := h91 i92 e93
                  refine W_stk (st := [va_rf (((mR M0 1 v0 1)).map (ad 3)), .int (mI M0 1 v0 2)]) (st' := [.ref (ad 3 i92), .int (mI M0 1 v0 2)]) (by first | (rw [e93]; done) | (rw [e93]; rfl)) ?_
                  refine hp_alen (v := (600 : Int32)) hx hb hK hP h94 rfl rfl (by decide) dX3_sell_106 ?_
                  refine lv_icmp_lt (tgt := 113) hx hb dX3_sell_107 (by decide) (fun c95 => ?_) (fun c95 => ?_)
                  · have hf := if_t hf c95
                    refine lv_aload_n hx hb dX3_sell_113 rfl (lv_at hl 1 rfl) ?_
                    refine gf1 (v := .int (mI M0 1 v0 2)) hx hb hts hown hK hP a0 2 (by decide) (hts _ q105) rfl rfl dX3_sell_114 ?_
                    obtain ⟨x96, e97, hf⟩ := lt_some hf
                    refine W_topI e97 ?_
                    refine lv_istore (lv' := [(8, .int x96), (7, .ref (ad 7 i66)), (0, .ref (ad 1 v0)), (1, .int v1), (2, .int v2), (3, .int v3), (4, .int v4), (5, .int v5), (6, .int v6)]) hx hb dX3_sell_117 hl (by decide) rfl (fun ls hl => ?_)
                    refine lv_aload_n hx hb dX3_sell_119 rfl (lv_at hl 2 rfl) ?_
                    have h98 : ∀ j : Nat, (mR M0 1 v0 1) = some j → mA M0 3 j = true := fun j hj => hp_wf hP a0 hj
                    refine gf1 (v := va_rf (((mR M0 1 v0 1)).map (ad 3))) hx hb hts hown hK hP a0 1 (by decide) (hts _ q104) rfl rfl dX3_sell_120 ?_
                    refine lv_iload hx hb dX3_sell_123 (lv_at hl 0 rfl) ?_
                    refine lv_aload hx hb dX3_sell_125 (lv_at hl 1 rfl) ?_
                    refine lv_iload_n hx hb dX3_sell_127 rfl (lv_at hl 5 rfl) ?_
                    refine lv_iload hx hb dX3_sell_128 (lv_at hl 6 rfl) ?_
                    refine lv_iload hx hb dX3_sell_130 (lv_at hl 7 rfl) ?_
                    refine lv_iload hx hb dX3_sell_132 (lv_at hl 8 rfl) ?_
                    obtain ⟨⟨r100, M101⟩, e99, hf⟩ := ob_some hf
                    refine hp_callqa (va_runVN (As := [.int v3, .int v4, .int v5, .int v6]) (rest := [.int x96, va_rf (((mR M0 1 v0 1)).map (ad 3))]) ⟨hx, hb, hml, hown, hts⟩ (ok_X0_issueTicket l D cy ad M0 _ i66 v3 v4 v5 v6 r100 M101 h67 e99) ⟨va_cnB 4 hts (gd0 q300) rfl rfl rfl (hN.2.1 (RX3, 81, yX0_issueTicket, RX3) (List.mem_of_getElem? (i := 10) rfl)) (hts _ q88) (by decide +kernel) ⟨Nat.le_of_ble_eq_true rfl, Nat.le_of_ble_eq_true rfl⟩, hts _ q299, hts _ q12⟩ (pre_V hP hK hN h67 ds_7 rfl) rfl rfl hl.1 rfl (lv_room (by cases (mR M0 1 v0 1) <;> exact Nat.le_of_ble_eq_true rfl)) dX3_sell_134 ⟨Nat.le_of_ble_eq_true rfl, Nat.le_of_ble_eq_true rfl⟩) hP hS hA (fun ad104 H locs hP hS hk102 hg105 h103 => ?_)
                    have hl : lv_has ls 9 [(8, .int x96), (7, .ref (ad104 7 i66)), (0, .ref (ad104 1 v0)), (1, .int v1), (2, .int v2), (3, .int v3), (4, .int v4), (5, .int v5), (6, .int v6)] := by rw [hg105 _ _ h67, hg105 _ _ a0]; exact hl
                    refine W_stk (st := [va_rf ((r100).map (ad104 8)), .int x96, va_rf (((mR M0 1 v0 1)).map (ad 3))]) (st' := [va_rf ((r100).map (ad104 8)), .int x96, va_rf (((mR M0 1 v0 1)).map (ad104 3))]) (by rw [agr_map hg105 h98]) ?_
                    obtain ⟨i106, e107, hf⟩ := ob_some hf
                    have h108 : mA M101 8 i106 = true := h103 i106 e107
                    refine W_stk (st := [va_rf ((r100).map (ad104 8)), .int x96, va_rf (((mR M0 1 v0 1)).map (ad104 3))]) (st' := [.ref (ad104 8 i106), .int x96, va_rf (((mR M0 1 v0 1)).map (ad104 3))]) (by first | (rw [e107]; done) | (rw [e107]; rfl)) ?_
                    obtain ⟨i109, e110, hf⟩ := ob_some hf
                    have h111 : mA M101 3 i109 = true := (fun j hj => hk102 _ _ (h98 j hj)) i109 e110
                    refine W_stk (st := [.ref (ad104 8 i106), .int x96, va_rf (((mR M0 1 v0 1)).map (ad104 3))]) (st' := [.ref (ad104 8 i106), .int x96, .ref (ad104 3 i109)]) (by first | (rw [e110]; done) | (rw [e110]; rfl)) ?_
                    obtain ⟨h112, hf⟩ := ix_some hf
                    obtain ⟨M113, e114, hf⟩ := lt_some hf
                    have hk115 : Keep M101 M113 := keR e114
                    refine hp_aast (an := 4) (t := 8) (r := (RX2, TX2, 7)) hx hb hK hP hS h111 rfl rfl h108 ds_8 rfl h112 dX3_sell_137 (fun H locs hP hS => ?_)
                    rw [← e114] at hP
                    refine lv_aload_n hx hb dX3_sell_138 rfl (lv_at hl 2 rfl) ?_
                    refine lv_iload hx hb dX3_sell_139 (lv_at hl 0 rfl) ?_
                    refine lv_iconst (v := (1 : Int32)) hx hb dX3_sell_141 (by decide) ?_
                    refine lv_iadd hx hb dX3_sell_142 ?_
                    obtain ⟨M116, e117, hf⟩ := lt_some hf
                    have hk118 : Keep M113 M116 := keI e117
                    refine pI1 (v := (x96 + (1 : Int32))) hx hb hts hown hK hP hS (hk115 _ _ (hk102 _ _ a0)) 2 (by decide) (hts _ q105) rfl rfl rfl e117 dX3_sell_143 (fun H locs hP hS => ?_)
                    refine lv_iload hx hb dX3_sell_146 (lv_at hl 0 rfl) ?_
                    refine W.widen (k := 1) (n := 7) (Nat.le_of_ble_eq_true rfl) (Nat.le_of_ble_eq_true rfl) ?_
                    exact hp_ireta hx hb hr hlocks (congrArg Prod.fst (Option.some.inj hf)) (congrArg Prod.snd (Option.some.inj hf)) hP hS (kt (kt (kt keep_rf hk102) hk115) hk118) (agr_t agr_rf keep_rf hg105) dX3_sell_148
                  · have hf := if_f hf c95
                    refine lv_bipush (v := (-7 : Int32)) hx hb dX3_sell_110 (by decide) ?_
                    refine W.widen (k := 1) (n := 7) (Nat.le_of_ble_eq_true rfl) (Nat.le_of_ble_eq_true rfl) ?_
                    exact hp_ireta hx hb hr hlocks (congrArg Prod.fst (Option.some.inj hf)) (congrArg Prod.snd (Option.some.inj hf)) hP hS keep_rf agr_rf dX3_sell_112
              · have hf := if_f hf c89
                refine lv_bipush (v := (-6 : Int32)) hx hb dX3_sell_88 (by decide) ?_
                refine W.widen (k := 1) (n := 7) (Nat.le_of_ble_eq_true rfl) (Nat.le_of_ble_eq_true rfl) ?_
                exact hp_ireta hx hb hr hlocks (congrArg Prod.fst (Option.some.inj hf)) (congrArg Prod.snd (Option.some.inj hf)) hP hS keep_rf agr_rf dX3_sell_90
            · have hf := if_t hf c84
              refine lv_bipush (v := (-5 : Int32)) hx hb dX3_sell_72 (by decide) ?_
              refine W.widen (k := 1) (n := 7) (Nat.le_of_ble_eq_true rfl) (Nat.le_of_ble_eq_true rfl) ?_
              exact hp_ireta hx hb hr hlocks (congrArg Prod.fst (Option.some.inj hf)) (congrArg Prod.snd (Option.some.inj hf)) hP hS keep_rf agr_rf dX3_sell_74
          · have hf := if_t hf c79
            refine lv_bipush (v := (-4 : Int32)) hx hb dX3_sell_56 (by decide) ?_
            refine W.widen (k := 1) (n := 7) (Nat.le_of_ble_eq_true rfl) (Nat.le_of_ble_eq_true rfl) ?_
            exact hp_ireta hx hb hr hlocks (congrArg Prod.fst (Option.some.inj hf)) (congrArg Prod.snd (Option.some.inj hf)) hP hS keep_rf agr_rf dX3_sell_58
        · have hf := if_t hf c74
          refine lv_bipush (v := (-3 : Int32)) hx hb dX3_sell_40 (by decide) ?_
          refine W.widen (k := 1) (n := 7) (Nat.le_of_ble_eq_true rfl) (Nat.le_of_ble_eq_true rfl) ?_
          exact hp_ireta hx hb hr hlocks (congrArg Prod.fst (Option.some.inj hf)) (congrArg Prod.snd (Option.some.inj hf)) hP hS keep_rf agr_rf dX3_sell_42
      · have hf := if_f hf c69
        refine lv_bipush (v := (-2 : Int32)) hx hb dX3_sell_29 (by decide) ?_
        refine W.widen (k := 1) (n := 7) (Nat.le_of_ble_eq_true rfl) (Nat.le_of_ble_eq_true rfl) ?_
        exact hp_ireta hx hb hr hlocks (congrArg Prod.fst (Option.some.inj hf)) (congrArg Prod.snd (Option.some.inj hf)) hP hS keep_rf agr_rf dX3_sell_31

def f_X3_init (v0 : Nat) (M0 : Mm) : Option Mm :=
  nw (mA M0 2 v0) (lt (nA M0 2 v0) fun M22 => lt (sR M22 1 v0 0 (some v0)) fun M28 => nw (mA M28 3 v0) (lt (nA M28 3 v0) fun M32 => lt (sR M32 1 v0 1 (some v0)) fun M38 => some M38))
set_option maxRecDepth 100000 in
set_option maxHeartbeats 4000000 in
theorem ok_X3_init (l : Launch) (D : va_G) (cy : Nat → ClassId) (ad : Nat → Nat → Nat) (M0 : Mm) (sz : Nat) (v0 : Nat) (M' : Mm) (a0 : mA M0 1 v0 = true) (hf : f_X3_init v0 M0 = some M') : Met l yX3_init (Cond.code yX3_init cX3_init 1 none :: BW) { frames := 1, cells := 2, slots := 613, locals := 16 } (va_Pc [.ref (ad 1 v0)] (PRE D cy ad M0 sz)) (QVa D cy ad M0 sz M') 2 613 (AA ad M0 sz) := by
  refine Met.ofW (cc := cX3_init) (maxL := 1) (ret := none) (by decide) rfl ?_
  intro p e s m args below meth c s₁ B hml hv
  obtain ⟨rfl, rfl, hP0, hK, hN⟩ := hv
  have hx := B.exec
  have hb := B.bytes
  have hr := B.returns
  have hts0 := atoms_spec (ws := (Cond.code yX3_init cX3_init 1 none :: BW)) B.pre
  have hts : ∀ w ∈ BW, w.before ([.ref (ad 1 v0)] : List Value).toArray s = true := fun w h => hts0 w (List.mem_cons_of_mem _ h)
  have hown : s.vm.findClass RX3 = some m.cls := findClass_of_methodNamed B.named
  have hlocks := B.notSynchronized
  have hA : ∀ q : Nat, s.heap.size ≤ q → AA ad M0 s.heap.size q := fun q h => Or.inr h
  have C : Cx RX3 cX3_init 1 none D cy (AA ad M0 s.heap.size) p s m ([.ref (ad 1 v0)] : List Value).toArray meth c := ⟨hx, hb, hr, hml, hown, hts, hlocks, hK, hN, hA⟩
  have hP := hp_self (sz := s.heap.size) hP0
  have hS : va_S (AA ad M0 s.heap.size) s.heap s.heap [] := va_S.rf
  have hl := lv_entry ([.ref (ad 1 v0)]) (n := 1) (Nat.le_of_ble_eq_true rfl)
  rw [lg_entry_eq]
  generalize (lg_sl ([.ref (ad 1 v0)]) ++ List.replicate (1 - (lg_sl ([.ref (ad 1 v0)])).length) Slot.unset).toArray = ls at hl ⊢
  have hl : lv_has ls 1 [(0, .ref (ad 1 v0))] := hl
  unfold f_X3_init at hf
  have hin : meth.name = "<init>" := (name_of_methodNamed B.named B.method).1
  refine lv_aload_n hx hb dX3_init_0 rfl (lv_at hl 0 rfl) ?_
  refine W.objInit hx hb hown (hts _ q96) (hts _ q97) (hts _ q98) rfl (by rw [hml]; exact hl.1) rfl dX3_init_1 (Nat.le_of_ble_eq_true rfl) (Nat.le_of_ble_eq_true rfl) ?_
  refine W.eq (g2 := F0 m 4 ls []) rfl ?_
  refine lv_aload_n hx hb dX3_init_4 rfl (lv_at hl 0 rfl) ?_
  refine lv_bipush (v := (13 : Int32)) hx hb dX3_init_5 (by decide) ?_
  obtain ⟨h21, hf⟩ := nw_some hf
  obtain ⟨M22, e23, hf⟩ := lt_some hf
  have hk24 : Keep M0 M22 := keep_nA e23
  refine hp_newQ (an := 3) (t := 4) (s0 := 2) (i := v0) hx hb hown (hts _ q99) hN.2.2.2.1 hK hP hS hA h21 rfl rfl e23 (by decide) (by decide) (by decide) (Nat.le_of_ble_eq_true rfl) (Nat.le_of_ble_eq_true rfl) dX3_init_7 (fun ad25 H hP hg26 hS => ?_)
  have h27 : mA M22 2 v0 = true := nA_at e23
  have hl : lv_has ls 1 [(0, .ref (ad25 1 v0))] := by rw [hg26 _ _ a0]; exact hl
  refine W_stk (st := [.ref (ad25 2 v0), .ref (ad 1 v0)]) (st' := [.ref (ad25 2 v0), .ref (ad25 1 v0)]) (by rw [hg26 _ _ a0]) ?_
  obtain ⟨M28, e29, hf⟩ := lt_some hf
  have hk30 : Keep M22 M28 := keR e29
  refine pR1F (v := (some v0)) (t := 2) hx hb hts hown hK hP hS (hk24 _ _ a0) 0 (by decide) (hts _ q103) hin rfl rfl rfl (Or.inr ⟨_, rfl⟩) (fun j hj => by cases hj; exact h27) rfl e29 dX3_init_10 (fun H locs hP hS => ?_)
  refine lv_aload_n hx hb dX3_init_13 rfl (lv_at hl 0 rfl) ?_
  refine lv_sipush (v := (600 : Int32)) hx hb dX3_init_14 (by decide) ?_
  obtain ⟨h31, hf⟩ := nw_some hf
  obtain ⟨M32, e33, hf⟩ := lt_some hf
  have hk34 : Keep M28 M32 := keep_nA e33
  refine hp_newQ (an := 4) (t := 8) (s0 := 3) (i := v0) hx hb hown (hts _ q101) hN.2.2.2.2 hK hP hS hA h31 rfl rfl e33 (by decide) (by decide) (by decide) (Nat.le_of_ble_eq_true rfl) (Nat.le_of_ble_eq_true rfl) dX3_init_17 (fun ad35 H hP hg36 hS => ?_)
  have h37 : mA M32 3 v0 = true := nA_at e33
  have hl : lv_has ls 1 [(0, .ref (ad35 1 v0))] := by rw [hg36 _ _ (hk30 _ _ (hk24 _ _ a0))]; exact hl
  refine W_stk (st := [.ref (ad35 3 v0), .ref (ad25 1 v0)]) (st' := [.ref (ad35 3 v0), .ref (ad35 1 v0)]) (by rw [hg36 _ _ (hk30 _ _ (hk24 _ _ a0))]) ?_
  obtain ⟨M38, e39, hf⟩ := lt_some hf
  have hk40 : Keep M32 M38 := keR e39
  refine pR1F (v := (some v0)) (t := 3) hx hb hts hown hK hP hS (hk34 _ _ (hk30 _ _ (hk24 _ _ a0))) 1 (by decide) (hts _ q104) hin rfl rfl rfl (Or.inr ⟨_, rfl⟩) (fun j hj => by cases hj; exact h37) rfl e39 dX3_init_20 (fun H locs hP hS => ?_)
  refine W.widen (k := 2) (n := 613) (Nat.le_of_ble_eq_true rfl) (Nat.le_of_ble_eq_true rfl) ?_
  exact hp_vreta hx hb hr hlocks (Option.some.inj hf) hP hS (kt (kt (kt (kt keep_rf hk24) hk30) hk34) hk40) (agr_t (agr_t agr_rf keep_rf hg26) (kt (kt keep_rf hk24) hk30) hg36) dX3_init_23

def f_X4_init (v0 : Nat) (M0 : Mm) : Option Mm :=
  nw (mA M0 10 v0) (lt (nA M0 10 v0) fun M242 => lt (sR M242 0 v0 0 (some v0)) fun M248 => nw (mA M248 11 v0) (lt (nA M248 11 v0) fun M252 => lt (sR M252 0 v0 1 (some v0)) fun M258 => nw (mA M258 12 v0) (lt (nA M258 12 v0) fun M262 => lt (sR M262 0 v0 2 (some v0)) fun M268 => nw (mA M268 13 v0) (lt (nA M268 13 v0) fun M272 => lt (sR M272 0 v0 3 (some v0)) fun M278 => nw (mA M278 14 v0) (lt (nA M278 14 v0) fun M282 => lt (sR M282 0 v0 4 (some v0)) fun M288 => nw (mA M288 15 v0) (lt (nA M288 15 v0) fun M292 => lt (sR M292 0 v0 5 (some v0)) fun M298 => nw (mA M298 16 v0) (lt (nA M298 16 v0) fun M302 => lt (sR M302 0 v0 6 (some v0)) fun M308 => nw (mA M308 17 v0) (lt (nA M308 17 v0) fun M312 => lt (sR M312 0 v0 7 (some v0)) fun M318 => nw (mA M318 18 v0) (lt (nA M318 18 v0) fun M322 => lt (sR M322 0 v0 8 (some v0)) fun M328 => nw (mA M328 19 v0) (lt (nA M328 19 v0) fun M332 => lt (sR M332 0 v0 9 (some v0)) fun M338 => nw (mA M338 20 v0) (lt (nA M338 20 v0) fun M342 => lt (sR M342 0 v0 10 (some v0)) fun M348 => nw (mA M348 21 v0) (lt (nA M348 21 v0) fun M352 => lt (sR M352 0 v0 11 (some v0)) fun M358 => nw (mA M358 22 v0) (lt (nA M358 22 v0) fun M362 => lt (sR M362 0 v0 12 (some v0)) fun M368 => nw (mA M368 23 v0) (lt (nA M368 23 v0) fun M372 => lt (sR M372 0 v0 13 (some v0)) fun M378 => nw (mA M378 24 v0) (lt (nA M378 24 v0) fun M382 => lt (sR M382 0 v0 14 (some v0)) fun M388 => nw (mA M388 25 v0) (lt (nA M388 25 v0) fun M392 => lt (sR M392 0 v0 15 (some v0)) fun M398 => nw (mA M398 26 v0) (lt (nA M398 26 v0) fun M402 => lt (sR M402 0 v0 16 (some v0)) fun M408 => nw (mA M408 27 v0) (lt (nA M408 27 v0) fun M412 => lt (sR M412 0 v0 20 (some v0)) fun M418 => nw (mA M418 28 v0) (lt (nA M418 28 v0) fun M422 => lt (sR M422 0 v0 21 (some v0)) fun M428 => nw (mA M428 29 v0) (lt (nA M428 29 v0) fun M432 => lt (sR M432 0 v0 22 (some v0)) fun M438 => nw (mA M438 30 v0) (lt (nA M438 30 v0) fun M442 => lt (sR M442 0 v0 23 (some v0)) fun M448 => nw (mA M448 31 v0) (lt (nA M448 31 v0) fun M452 => lt (sR M452 0 v0 24 (some v0)) fun M458 => nw (mA M458 32 v0) (lt (nA M458 32 v0) fun M462 => lt (sR M462 0 v0 27 (some v0)) fun M468 => nw (mA M468 33 v0) (lt (nA M468 33 v0) fun M472 => lt (sR M472 0 v0 31 (some v0)) fun M478 => some M478))))))))))))))))))))))))
set_option maxRecDepth 100000 in
set_option maxHeartbeats 4000000 in
theorem ok_X4_init (l : Launch) (D : va_G) (cy : Nat → ClassId) (ad : Nat → Nat → Nat) (M0 : Mm) (sz : Nat) (v0 : Nat) (M' : Mm) (a0 : mA M0 0 v0 = true) (hf : f_X4_init v0 M0 = some M') : Met l yX4_init (Cond.code yX4_init cX4_init 1 none :: BW) { frames := 1, cells := 24, slots := 5853, locals := 16 } (va_Pc [.ref (ad 0 v0)] (PRE D cy ad M0 sz)) (QVa D cy ad M0 sz M') 24 5853 (AA ad M0 sz) := by
  refine Met.ofW (cc := cX4_init) (maxL := 1) (ret := none) (by decide) rfl ?_
  intro p e s m args below meth c s₁ B hml hv
  obtain ⟨rfl, rfl, hP0, hK, hN⟩ := hv
  have hx := B.exec
  have hb := B.bytes
  have hr := B.returns
  have hts0 := atoms_spec (ws := (Cond.code yX4_init cX4_init 1 none :: BW)) B.pre
  have hts : ∀ w ∈ BW, w.before ([.ref (ad 0 v0)] : List Value).toArray s = true := fun w h => hts0 w (List.mem_cons_of_mem _ h)
  have hown : s.vm.findClass RX4 = some m.cls := findClass_of_methodNamed B.named
  have hlocks := B.notSynchronized
  have hA : ∀ q : Nat, s.heap.size ≤ q → AA ad M0 s.heap.size q := fun q h => Or.inr h
  have C : Cx RX4 cX4_init 1 none D cy (AA ad M0 s.heap.size) p s m ([.ref (ad 0 v0)] : List Value).toArray meth c := ⟨hx, hb, hr, hml, hown, hts, hlocks, hK, hN, hA⟩
  have hP := hp_self (sz := s.heap.size) hP0
  have hS : va_S (AA ad M0 s.heap.size) s.heap s.heap [] := va_S.rf
  have hl := lv_entry ([.ref (ad 0 v0)]) (n := 1) (Nat.le_of_ble_eq_true rfl)
  rw [lg_entry_eq]
  generalize (lg_sl ([.ref (ad 0 v0)]) ++ List.replicate (1 - (lg_sl ([.ref (ad 0 v0)])).length) Slot.unset).toArray = ls at hl ⊢
  have hl : lv_has ls 1 [(0, .ref (ad 0 v0))] := hl
  unfold f_X4_init at hf
  have hin : meth.name = "<init>" := (name_of_methodNamed B.named B.method).1
  refine lv_aload_n hx hb dX4_init_0 rfl (lv_at hl 0 rfl) ?_
  refine W.objInit hx hb hown (hts _ q604) (hts _ q97) (hts _ q98) rfl (by rw [hml]; exact hl.1) rfl dX4_init_1 (Nat.le_of_ble_eq_true rfl) (Nat.le_of_ble_eq_true rfl) ?_
  refine W.eq (g2 := F0 m 4 ls []) rfl ?_
  refine lv_aload_n hx hb dX4_init_4 rfl (lv_at hl 0 rfl) ?_
  refine lv_bipush (v := (13 : Int32)) hx hb dX4_init_5 (by decide) ?_
  obtain ⟨h241, hf⟩ := nw_some hf
  obtain ⟨M242, e243, hf⟩ := lt_some hf
  have hk244 : Keep M0 M242 := keep_nA e243
  refine hp_newA (atype := .int) (ty := .int) (an := 0) (s0 := 10) (i := v0) hx hb (hts _ q158) rfl (fun C => by intro h; cases h) hK hP hS hA h241 rfl rfl (fun cA => arV_z0 cA) e243 (by decide) (by decide) (by decide) (Nat.le_of_ble_eq_true rfl) (Nat.le_of_ble_eq_true rfl) dX4_init_7 (fun ad245 H hP hg246 hS => ?_)
  have h247 : mA M242 10 v0 = true := nA_at e243
  have hl : lv_has ls 1 [(0, .ref (ad245 0 v0))] := by rw [hg246 _ _ a0]; exact hl
  refine W_stk (st := [.ref (ad245 10 v0), .ref (ad 0 v0)]) (st' := [.ref (ad245 10 v0), .ref (ad245 0 v0)]) (by rw [hg246 _ _ a0]) ?_
  obtain ⟨M248, e249, hf⟩ := lt_some hf
  have hk250 : Keep M242 M248 := keR e249
  refine pR0F (v := (some v0)) (t := 10) hx hb hts hown hK hP hS (hk244 _ _ a0) 0 (by decide) (hts _ q605) hin rfl rfl rfl (Or.inr ⟨_, rfl⟩) (fun j hj => by cases hj; exact h247) rfl e249 dX4_init_9 (fun H locs hP hS => ?_)
  refine lv_aload_n hx hb dX4_init_12 rfl (lv_at hl 0 rfl) ?_
  refine lv_bipush (v := (13 : Int32)) hx hb dX4_init_13 (by decide) ?_
  obtain ⟨h251, hf⟩ := nw_some hf
  obtain ⟨M252, e253, hf⟩ := lt_some hf
  have hk254 : Keep M248 M252 := keep_nA e253
  refine hp_newA (atype := .int) (ty := .int) (an := 0) (s0 := 11) (i := v0) hx hb (hts _ q158) rfl (fun C => by intro h; cases h) hK hP hS hA h251 rfl rfl (fun cA => arV_z0 cA) e253 (by decide) (by decide) (by decide) (Nat.le_of_ble_eq_true rfl) (Nat.le_of_ble_eq_true rfl) dX4_init_15 (fun ad255 H hP hg256 hS => ?_)
  have h257 : mA M252 11 v0 = true := nA_at e253
  have hl : lv_has ls 1 [(0, .ref (ad255 0 v0))] := by rw [hg256 _ _ (hk250 _ _ (hk244 _ _ a0))]; exact hl
  refine W_stk (st := [.ref (ad255 11 v0), .ref (ad245 0 v0)]) (st' := [.ref (ad255 11 v0), .ref (ad255 0 v0)]) (by rw [hg256 _ _ (hk250 _ _ (hk244 _ _ a0))]) ?_
  obtain ⟨M258, e259, hf⟩ := lt_some hf
  have hk260 : Keep M252 M258 := keR e259
  refine pR0F (v := (some v0)) (t := 11) hx hb hts hown hK hP hS (hk254 _ _ (hk250 _ _ (hk244 _ _ a0))) 1 (by decide) (hts _ q606) hin rfl rfl rfl (Or.inr ⟨_, rfl⟩) (fun j hj => by cases hj; exact h257) rfl e259 dX4_init_17 (fun H locs hP hS => ?_)
  refine lv_aload_n hx hb dX4_init_20 rfl (lv_at hl 0 rfl) ?_
  refine lv_bipush (v := (13 : Int32)) hx hb dX4_init_21 (by decide) ?_
  obtain ⟨h261, hf⟩ := nw_some hf
  obtain ⟨M262, e263, hf⟩ := lt_some hf
  have hk264 : Keep M258 M262 := keep_nA e263
  refine hp_newA (atype := .int) (ty := .int) (an := 0) (s0 := 12) (i := v0) hx hb (hts _ q158) rfl (fun C => by intro h; cases h) hK hP hS hA h261 rfl rfl (fun cA => arV_z0 cA) e263 (by decide) (by decide) (by decide) (Nat.le_of_ble_eq_true rfl) (Nat.le_of_ble_eq_true rfl) dX4_init_23 (fun ad265 H hP hg266 hS => ?_)
  have h267 : mA M262 12 v0 = true := nA_at e263
  have hl : lv_has ls 1 [(0, .ref (ad265 0 v0))] := by rw [hg266 _ _ (hk260 _ _ (hk254 _ _ (hk250 _ _ (hk244 _ _ a0))))]; exact hl
  refine W_stk (st := [.ref (ad265 12 v0), .ref (ad255 0 v0)]) (st' := [.ref (ad265 12 v0), .ref (ad265 0 v0)]) (by rw [hg266 _ _ (hk260 _ _ (hk254 _ _ (hk250 _ _ (hk244 _ _ a0))))]) ?_
  obtain ⟨M268, e269, hf⟩ := lt_some hf
  have hk270 : Keep M262 M268 := keR e269
  refine pR0F (v := (some v0)) (t := 12) hx hb hts hown hK hP hS (hk264 _ _ (hk260 _ _ (hk254 _ _ (hk250 _ _ (hk244 _ _ a0))))) 2 (by decide) (hts _ q607) hin rfl rfl rfl (Or.inr ⟨_, rfl⟩) (fun j hj => by cases hj; exact h267) rfl e269 dX4_init_25 (fun H locs hP hS => ?_)
  refine lv_aload_n hx hb dX4_init_28 rfl (lv_at hl 0 rfl) ?_
  refine lv_sipush (v := (325 : Int32)) hx hb dX4_init_29 (by decide) ?_
  obtain ⟨h271, hf⟩ := nw_some hf
  obtain ⟨M272, e273, hf⟩ := lt_some hf
  have hk274 : Keep M268 M272 := keep_nA e273
  refine hp_newA (atype := .boolean) (ty := .boolean) (an := 2) (s0 := 13) (i := v0) hx hb (hts _ q702) rfl (fun C => by intro h; cases h) hK hP hS hA h271 rfl rfl (fun cA => arV_z0 cA) e273 (by decide) (by decide) (by decide) (Nat.le_of_ble_eq_true rfl) (Nat.le_of_ble_eq_true rfl) dX4_init_32 (fun ad275 H hP hg276 hS => ?_)
  have h277 : mA M272 13 v0 = true := nA_at e273
  have hl : lv_has ls 1 [(0, .ref (ad275 0 v0))] := by rw [hg276 _ _ (hk270 _ _ (hk264 _ _ (hk260 _ _ (hk254 _ _ (hk250 _ _ (hk244 _ _ a0))))))]; exact hl
  refine W_stk (st := [.ref (ad275 13 v0), .ref (ad265 0 v0)]) (st' := [.ref (ad275 13 v0), .ref (ad275 0 v0)]) (by rw [hg276 _ _ (hk270 _ _ (hk264 _ _ (hk260 _ _ (hk254 _ _ (hk250 _ _ (hk244 _ _ a0))))))]) ?_
  obtain ⟨M278, e279, hf⟩ := lt_some hf
  have hk280 : Keep M272 M278 := keR e279
  refine pR0F (v := (some v0)) (t := 13) hx hb hts hown hK hP hS (hk274 _ _ (hk270 _ _ (hk264 _ _ (hk260 _ _ (hk254 _ _ (hk250 _ _ (hk244 _ _ a0))))))) 3 (by decide) (hts _ q608) hin rfl rfl rfl (Or.inr ⟨_, rfl⟩) (fun j hj => by cases hj; exact h277) rfl e279 dX4_init_34 (fun H locs hP hS => ?_)
  refine lv_aload_n hx hb dX4_init_37 rfl (lv_at hl 0 rfl) ?_
  refine lv_sipush (v := (325 : Int32)) hx hb dX4_init_38 (by decide) ?_
  obtain ⟨h281, hf⟩ := nw_some hf
  obtain ⟨M282, e283, hf⟩ := lt_some hf
  have hk284 : Keep M278 M282 := keep_nA e283
  refine hp_newA (atype := .int) (ty := .int) (an := 0) (s0 := 14) (i := v0) hx hb (hts _ q158) rfl (fun C => by intro h; cases h) hK hP hS hA h281 rfl rfl (fun cA => arV_z0 cA) e283 (by decide) (by decide) (by decide) (Nat.le_of_ble_eq_true rfl) (Nat.le_of_ble_eq_true rfl) dX4_init_41 (fun ad285 H hP hg286 hS => ?_)
  have h287 : mA M282 14 v0 = true := nA_at e283
  have hl : lv_has ls 1 [(0, .ref (ad285 0 v0))] := by rw [hg286 _ _ (hk280 _ _ (hk274 _ _ (hk270 _ _ (hk264 _ _ (hk260 _ _ (hk254 _ _ (hk250 _ _ (hk244 _ _ a0))))))))]; exact hl
  refine W_stk (st := [.ref (ad285 14 v0), .ref (ad275 0 v0)]) (st' := [.ref (ad285 14 v0), .ref (ad285 0 v0)]) (by rw [hg286 _ _ (hk280 _ _ (hk274 _ _ (hk270 _ _ (hk264 _ _ (hk260 _ _ (hk254 _ _ (hk250 _ _ (hk244 _ _ a0))))))))]) ?_
  obtain ⟨M288, e289, hf⟩ := lt_some hf
  have hk290 : Keep M282 M288 := keR e289
  refine pR0F (v := (some v0)) (t := 14) hx hb hts hown hK hP hS (hk284 _ _ (hk280 _ _ (hk274 _ _ (hk270 _ _ (hk264 _ _ (hk260 _ _ (hk254 _ _ (hk250 _ _ (hk244 _ _ a0))))))))) 4 (by decide) (hts _ q609) hin rfl rfl rfl (Or.inr ⟨_, rfl⟩) (fun j hj => by cases hj; exact h287) rfl e289 dX4_init_43 (fun H locs hP hS => ?_)
  refine lv_aload_n hx hb dX4_init_46 rfl (lv_at hl 0 rfl) ?_
  refine lv_bipush (v := (53 : Int32)) hx hb dX4_init_47 (by decide) ?_
  obtain ⟨h291, hf⟩ := nw_some hf
  obtain ⟨M292, e293, hf⟩ := lt_some hf
  have hk294 : Keep M288 M292 := keep_nA e293
  refine hp_newA (atype := .boolean) (ty := .boolean) (an := 2) (s0 := 15) (i := v0) hx hb (hts _ q702) rfl (fun C => by intro h; cases h) hK hP hS hA h291 rfl rfl (fun cA => arV_z0 cA) e293 (by decide) (by decide) (by decide) (Nat.le_of_ble_eq_true rfl) (Nat.le_of_ble_eq_true rfl) dX4_init_49 (fun ad295 H hP hg296 hS => ?_)
  have h297 : mA M292 15 v0 = true := nA_at e293
  have hl : lv_has ls 1 [(0, .ref (ad295 0 v0))] := by rw [hg296 _ _ (hk290 _ _ (hk284 _ _ (hk280 _ _ (hk274 _ _ (hk270 _ _ (hk264 _ _ (hk260 _ _ (hk254 _ _ (hk250 _ _ (hk244 _ _ a0))))))))))]; exact hl
  refine W_stk (st := [.ref (ad295 15 v0), .ref (ad285 0 v0)]) (st' := [.ref (ad295 15 v0), .ref (ad295 0 v0)]) (by rw [hg296 _ _ (hk290 _ _ (hk284 _ _ (hk280 _ _ (hk274 _ _ (hk270 _ _ (hk264 _ _ (hk260 _ _ (hk254 _ _ (hk250 _ _ (hk244 _ _ a0))))))))))]) ?_
  obtain ⟨M298, e299, hf⟩ := lt_some hf
  have hk300 : Keep M292 M298 := keR e299
  refine pR0F (v := (some v0)) (t := 15) hx hb hts hown hK hP hS (hk294 _ _ (hk290 _ _ (hk284 _ _ (hk280 _ _ (hk274 _ _ (hk270 _ _ (hk264 _ _ (hk260 _ _ (hk254 _ _ (hk250 _ _ (hk244 _ _ a0))))))))))) 5 (by decide) (hts _ q610) hin rfl rfl rfl (Or.inr ⟨_, rfl⟩) (fun j hj => by cases hj; exact h297) rfl e299 dX4_init_51 (fun H locs hP hS => ?_)
  refine lv_aload_n hx hb dX4_init_54 rfl (lv_at hl 0 rfl) ?_
  refine lv_bipush (v := (53 : Int32)) hx hb dX4_init_55 (by decide) ?_
  obtain ⟨h301, hf⟩ := nw_some hf
  obtain ⟨M302, e303, hf⟩ := lt_some hf
  have hk304 : Keep M298 M302 := keep_nA e303
  refine hp_newA (atype := .int) (ty := .int) (an := 0) (s0 := 16) (i := v0) hx hb (hts _ q158) rfl (fun C => by intro h; cases h) hK hP hS hA h301 rfl rfl (fun cA => arV_z0 cA) e303 (by decide) (by decide) (by decide) (Nat.le_of_ble_eq_true rfl) (Nat.le_of_ble_eq_true rfl) dX4_init_57 (fun ad305 H hP hg306 hS => ?_)
  have h307 : mA M302 16 v0 = true := nA_at e303
  have hl : lv_has ls 1 [(0, .ref (ad305 0 v0))] := by rw [hg306 _ _ (hk300 _ _ (hk294 _ _ (hk290 _ _ (hk284 _ _ (hk280 _ _ (hk274 _ _ (hk270 _ _ (hk264 _ _ (hk260 _ _ (hk254 _ _ (hk250 _ _ (hk244 _ _ a0))))))))))))]; exact hl
  refine W_stk (st := [.ref (ad305 16 v0), .ref (ad295 0 v0)]) (st' := [.ref (ad305 16 v0), .ref (ad305 0 v0)]) (by rw [hg306 _ _ (hk300 _ _ (hk294 _ _ (hk290 _ _ (hk284 _ _ (hk280 _ _ (hk274 _ _ (hk270 _ _ (hk264 _ _ (hk260 _ _ (hk254 _ _ (hk250 _ _ (hk244 _ _ a0))))))))))))]) ?_
  obtain ⟨M308, e309, hf⟩ := lt_some hf
  have hk310 : Keep M302 M308 := keR e309
  refine pR0F (v := (some v0)) (t := 16) hx hb hts hown hK hP hS (hk304 _ _ (hk300 _ _ (hk294 _ _ (hk290 _ _ (hk284 _ _ (hk280 _ _ (hk274 _ _ (hk270 _ _ (hk264 _ _ (hk260 _ _ (hk254 _ _ (hk250 _ _ (hk244 _ _ a0))))))))))))) 6 (by decide) (hts _ q611) hin rfl rfl rfl (Or.inr ⟨_, rfl⟩) (fun j hj => by cases hj; exact h307) rfl e309 dX4_init_59 (fun H locs hP hS => ?_)
  refine lv_aload_n hx hb dX4_init_62 rfl (lv_at hl 0 rfl) ?_
  refine lv_bipush (v := (53 : Int32)) hx hb dX4_init_63 (by decide) ?_
  obtain ⟨h311, hf⟩ := nw_some hf
  obtain ⟨M312, e313, hf⟩ := lt_some hf
  have hk314 : Keep M308 M312 := keep_nA e313
  refine hp_newA (atype := .int) (ty := .int) (an := 0) (s0 := 17) (i := v0) hx hb (hts _ q158) rfl (fun C => by intro h; cases h) hK hP hS hA h311 rfl rfl (fun cA => arV_z0 cA) e313 (by decide) (by decide) (by decide) (Nat.le_of_ble_eq_true rfl) (Nat.le_of_ble_eq_true rfl) dX4_init_65 (fun ad315 H hP hg316 hS => ?_)
  have h317 : mA M312 17 v0 = true := nA_at e313
  have hl : lv_has ls 1 [(0, .ref (ad315 0 v0))] := by rw [hg316 _ _ (hk310 _ _ (hk304 _ _ (hk300 _ _ (hk294 _ _ (hk290 _ _ (hk284 _ _ (hk280 _ _ (hk274 _ _ (hk270 _ _ (hk264 _ _ (hk260 _ _ (hk254 _ _ (hk250 _ _ (hk244 _ _ a0))))))))))))))]; exact hl
  refine W_stk (st := [.ref (ad315 17 v0), .ref (ad305 0 v0)]) (st' := [.ref (ad315 17 v0), .ref (ad315 0 v0)]) (by rw [hg316 _ _ (hk310 _ _ (hk304 _ _ (hk300 _ _ (hk294 _ _ (hk290 _ _ (hk284 _ _ (hk280 _ _ (hk274 _ _ (hk270 _ _ (hk264 _ _ (hk260 _ _ (hk254 _ _ (hk250 _ _ (hk244 _ _ a0))))))))))))))]) ?_
  obtain ⟨M318, e319, hf⟩ := lt_some hf
  have hk320 : Keep M312 M318 := keR e319
  refine pR0F (v := (some v0)) (t := 17) hx hb hts hown hK hP hS (hk314 _ _ (hk310 _ _ (hk304 _ _ (hk300 _ _ (hk294 _ _ (hk290 _ _ (hk284 _ _ (hk280 _ _ (hk274 _ _ (hk270 _ _ (hk264 _ _ (hk260 _ _ (hk254 _ _ (hk250 _ _ (hk244 _ _ a0))))))))))))))) 7 (by decide) (hts _ q612) hin rfl rfl rfl (Or.inr ⟨_, rfl⟩) (fun j hj => by cases hj; exact h317) rfl e319 dX4_init_67 (fun H locs hP hS => ?_)
  refine lv_aload_n hx hb dX4_init_70 rfl (lv_at hl 0 rfl) ?_
  refine lv_bipush (v := (53 : Int32)) hx hb dX4_init_71 (by decide) ?_
  obtain ⟨h321, hf⟩ := nw_some hf
  obtain ⟨M322, e323, hf⟩ := lt_some hf
  have hk324 : Keep M318 M322 := keep_nA e323
  refine hp_newA (atype := .int) (ty := .int) (an := 0) (s0 := 18) (i := v0) hx hb (hts _ q158) rfl (fun C => by intro h; cases h) hK hP hS hA h321 rfl rfl (fun cA => arV_z0 cA) e323 (by decide) (by decide) (by decide) (Nat.le_of_ble_eq_true rfl) (Nat.le_of_ble_eq_true rfl) dX4_init_73 (fun ad325 H hP hg326 hS => ?_)
  have h327 : mA M322 18 v0 = true := nA_at e323
  have hl : lv_has ls 1 [(0, .ref (ad325 0 v0))] := by rw [hg326 _ _ (hk320 _ _ (hk314 _ _ (hk310 _ _ (hk304 _ _ (hk300 _ _ (hk294 _ _ (hk290 _ _ (hk284 _ _ (hk280 _ _ (hk274 _ _ (hk270 _ _ (hk264 _ _ (hk260 _ _ (hk254 _ _ (hk250 _ _ (hk244 _ _ a0))))))))))))))))]; exact hl
  refine W_stk (st := [.ref (ad325 18 v0), .ref (ad315 0 v0)]) (st' := [.ref (ad325 18 v0), .ref (ad325 0 v0)]) (by rw [hg326 _ _ (hk320 _ _ (hk314 _ _ (hk310 _ _ (hk304 _ _ (hk300 _ _ (hk294 _ _ (hk290 _ _ (hk284 _ _ (hk280 _ _ (hk274 _ _ (hk270 _ _ (hk264 _ _ (hk260 _ _ (hk254 _ _ (hk250 _ _ (hk244 _ _ a0))))))))))))))))]) ?_
  obtain ⟨M328, e329, hf⟩ := lt_some hf
  have hk330 : Keep M322 M328 := keR e329
  refine pR0F (v := (some v0)) (t := 18) hx hb hts hown hK hP hS (hk324 _ _ (hk320 _ _ (hk314 _ _ (hk310 _ _ (hk304 _ _ (hk300 _ _ (hk294 _ _ (hk290 _ _ (hk284 _ _ (hk280 _ _ (hk274 _ _ (hk270 _ _ (hk264 _ _ (hk260 _ _ (hk254 _ _ (hk250 _ _ (hk244 _ _ a0))))))))))))))))) 8 (by decide) (hts _ q613) hin rfl rfl rfl (Or.inr ⟨_, rfl⟩) (fun j hj => by cases hj; exact h327) rfl e329 dX4_init_75 (fun H locs hP hS => ?_)
  refine lv_aload_n hx hb dX4_init_78 rfl (lv_at hl 0 rfl) ?_
  refine lv_bipush (v := (53 : Int32)) hx hb dX4_init_79 (by decide) ?_
  obtain ⟨h331, hf⟩ := nw_some hf
  obtain ⟨M332, e333, hf⟩ := lt_some hf
  have hk334 : Keep M328 M332 := keep_nA e333
  refine hp_newA (atype := .long) (ty := .long) (an := 1) (s0 := 19) (i := v0) hx hb (hts _ q703) rfl (fun C => by intro h; cases h) hK hP hS hA h331 rfl rfl (fun cA => arV_z1 cA) e333 (by decide) (by decide) (by decide) (Nat.le_of_ble_eq_true rfl) (Nat.le_of_ble_eq_true rfl) dX4_init_81 (fun ad335 H hP hg336 hS => ?_)
  have h337 : mA M332 19 v0 = true := nA_at e333
  have hl : lv_has ls 1 [(0, .ref (ad335 0 v0))] := by rw [hg336 _ _ (hk330 _ _ (hk324 _ _ (hk320 _ _ (hk314 _ _ (hk310 _ _ (hk304 _ _ (hk300 _ _ (hk294 _ _ (hk290 _ _ (hk284 _ _ (hk280 _ _ (hk274 _ _ (hk270 _ _ (hk264 _ _ (hk260 _ _ (hk254 _ _ (hk250 _ _ (hk244 _ _ a0))))))))))))))))))]; exact hl
  refine W_stk (st := [.ref (ad335 19 v0), .ref (ad325 0 v0)]) (st' := [.ref (ad335 19 v0), .ref (ad335 0 v0)]) (by rw [hg336 _ _ (hk330 _ _ (hk324 _ _ (hk320 _ _ (hk314 _ _ (hk310 _ _ (hk304 _ _ (hk300 _ _ (hk294 _ _ (hk290 _ _ (hk284 _ _ (hk280 _ _ (hk274 _ _ (hk270 _ _ (hk264 _ _ (hk260 _ _ (hk254 _ _ (hk250 _ _ (hk244 _ _ a0))))))))))))))))))]) ?_
  obtain ⟨M338, e339, hf⟩ := lt_some hf
  have hk340 : Keep M332 M338 := keR e339
  refine pR0F (v := (some v0)) (t := 19) hx hb hts hown hK hP hS (hk334 _ _ (hk330 _ _ (hk324 _ _ (hk320 _ _ (hk314 _ _ (hk310 _ _ (hk304 _ _ (hk300 _ _ (hk294 _ _ (hk290 _ _ (hk284 _ _ (hk280 _ _ (hk274 _ _ (hk270 _ _ (hk264 _ _ (hk260 _ _ (hk254 _ _ (hk250 _ _ (hk244 _ _ a0))))))))))))))))))) 9 (by decide) (hts _ q614) hin rfl rfl rfl (Or.inr ⟨_, rfl⟩) (fun j hj => by cases hj; exact h337) rfl e339 dX4_init_83 (fun H locs hP hS => ?_)
  refine lv_aload_n hx hb dX4_init_86 rfl (lv_at hl 0 rfl) ?_
  refine lv_bipush (v := (53 : Int32)) hx hb dX4_init_87 (by decide) ?_
  obtain ⟨h341, hf⟩ := nw_some hf
  obtain ⟨M342, e343, hf⟩ := lt_some hf
  have hk344 : Keep M338 M342 := keep_nA e343
  refine hp_newA (atype := .long) (ty := .long) (an := 1) (s0 := 20) (i := v0) hx hb (hts _ q703) rfl (fun C => by intro h; cases h) hK hP hS hA h341 rfl rfl (fun cA => arV_z1 cA) e343 (by decide) (by decide) (by decide) (Nat.le_of_ble_eq_true rfl) (Nat.le_of_ble_eq_true rfl) dX4_init_89 (fun ad345 H hP hg346 hS => ?_)
  have h347 : mA M342 20 v0 = true := nA_at e343
  have hl : lv_has ls 1 [(0, .ref (ad345 0 v0))] := by rw [hg346 _ _ (hk340 _ _ (hk334 _ _ (hk330 _ _ (hk324 _ _ (hk320 _ _ (hk314 _ _ (hk310 _ _ (hk304 _ _ (hk300 _ _ (hk294 _ _ (hk290 _ _ (hk284 _ _ (hk280 _ _ (hk274 _ _ (hk270 _ _ (hk264 _ _ (hk260 _ _ (hk254 _ _ (hk250 _ _ (hk244 _ _ a0))))))))))))))))))))]; exact hl
  refine W_stk (st := [.ref (ad345 20 v0), .ref (ad335 0 v0)]) (st' := [.ref (ad345 20 v0), .ref (ad345 0 v0)]) (by rw [hg346 _ _ (hk340 _ _ (hk334 _ _ (hk330 _ _ (hk324 _ _ (hk320 _ _ (hk314 _ _ (hk310 _ _ (hk304 _ _ (hk300 _ _ (hk294 _ _ (hk290 _ _ (hk284 _ _ (hk280 _ _ (hk274 _ _ (hk270 _ _ (hk264 _ _ (hk260 _ _ (hk254 _ _ (hk250 _ _ (hk244 _ _ a0))))))))))))))))))))]) ?_
  obtain ⟨M348, e349, hf⟩ := lt_some hf
  have hk350 : Keep M342 M348 := keR e349
  refine pR0F (v := (some v0)) (t := 20) hx hb hts hown hK hP hS (hk344 _ _ (hk340 _ _ (hk334 _ _ (hk330 _ _ (hk324 _ _ (hk320 _ _ (hk314 _ _ (hk310 _ _ (hk304 _ _ (hk300 _ _ (hk294 _ _ (hk290 _ _ (hk284 _ _ (hk280 _ _ (hk274 _ _ (hk270 _ _ (hk264 _ _ (hk260 _ _ (hk254 _ _ (hk250 _ _ (hk244 _ _ a0))))))))))))))))))))) 10 (by decide) (hts _ q615) hin rfl rfl rfl (Or.inr ⟨_, rfl⟩) (fun j hj => by cases hj; exact h347) rfl e349 dX4_init_91 (fun H locs hP hS => ?_)
  refine lv_aload_n hx hb dX4_init_94 rfl (lv_at hl 0 rfl) ?_
  refine lv_bipush (v := (53 : Int32)) hx hb dX4_init_95 (by decide) ?_
  obtain ⟨h351, hf⟩ := nw_some hf
  obtain ⟨M352, e353, hf⟩ := lt_some hf
  have hk354 : Keep M348 M352 := keep_nA e353
  refine hp_newA (atype := .long) (ty := .long) (an := 1) (s0 := 21) (i := v0) hx hb (hts _ q703) rfl (fun C => by intro h; cases h) hK hP hS hA h351 rfl rfl (fun cA => arV_z1 cA) e353 (by decide) (by decide) (by decide) (Nat.le_of_ble_eq_true rfl) (Nat.le_of_ble_eq_true rfl) dX4_init_97 (fun ad355 H hP hg356 hS => ?_)
  have h357 : mA M352 21 v0 = true := nA_at e353
  have hl : lv_has ls 1 [(0, .ref (ad355 0 v0))] := by rw [hg356 _ _ (hk350 _ _ (hk344 _ _ (hk340 _ _ (hk334 _ _ (hk330 _ _ (hk324 _ _ (hk320 _ _ (hk314 _ _ (hk310 _ _ (hk304 _ _ (hk300 _ _ (hk294 _ _ (hk290 _ _ (hk284 _ _ (hk280 _ _ (hk274 _ _ (hk270 _ _ (hk264 _ _ (hk260 _ _ (hk254 _ _ (hk250 _ _ (hk244 _ _ a0))))))))))))))))))))))]; exact hl
  refine W_stk (st := [.ref (ad355 21 v0), .ref (ad345 0 v0)]) (st' := [.ref (ad355 21 v0), .ref (ad355 0 v0)]) (by rw [hg356 _ _ (hk350 _ _ (hk344 _ _ (hk340 _ _ (hk334 _ _ (hk330 _ _ (hk324 _ _ (hk320 _ _ (hk314 _ _ (hk310 _ _ (hk304 _ _ (hk300 _ _ (hk294 _ _ (hk290 _ _ (hk284 _ _ (hk280 _ _ (hk274 _ _ (hk270 _ _ (hk264 _ _ (hk260 _ _ (hk254 _ _ (hk250 _ _ (hk244 _ _ a0))))))))))))))))))))))]) ?_
  obtain ⟨M358, e359, hf⟩ := lt_some hf
  have hk360 : Keep M352 M358 := keR e359
  refine pR0F (v := (some v0)) (t := 21) hx hb hts hown hK hP hS (hk354 _ _ (hk350 _ _ (hk344 _ _ (hk340 _ _ (hk334 _ _ (hk330 _ _ (hk324 _ _ (hk320 _ _ (hk314 _ _ (hk310 _ _ (hk304 _ _ (hk300 _ _ (hk294 _ _ (hk290 _ _ (hk284 _ _ (hk280 _ _ (hk274 _ _ (hk270 _ _ (hk264 _ _ (hk260 _ _ (hk254 _ _ (hk250 _ _ (hk244 _ _ a0))))))))))))))))))))))) 11 (by decide) (hts _ q616) hin rfl rfl rfl (Or.inr ⟨_, rfl⟩) (fun j hj => by cases hj; exact h357) rfl e359 dX4_init_99 (fun H locs hP hS => ?_)
  refine lv_aload_n hx hb dX4_init_102 rfl (lv_at hl 0 rfl) ?_
  refine lv_bipush (v := (53 : Int32)) hx hb dX4_init_103 (by decide) ?_
  obtain ⟨h361, hf⟩ := nw_some hf
  obtain ⟨M362, e363, hf⟩ := lt_some hf
  have hk364 : Keep M358 M362 := keep_nA e363
  refine hp_newA (atype := .long) (ty := .long) (an := 1) (s0 := 22) (i := v0) hx hb (hts _ q703) rfl (fun C => by intro h; cases h) hK hP hS hA h361 rfl rfl (fun cA => arV_z1 cA) e363 (by decide) (by decide) (by decide) (Nat.le_of_ble_eq_true rfl) (Nat.le_of_ble_eq_true rfl) dX4_init_105 (fun ad365 H hP hg366 hS => ?_)
  have h367 : mA M362 22 v0 = true := nA_at e363
  have hl : lv_has ls 1 [(0, .ref (ad365 0 v0))] := by rw [hg366 _ _ (hk360 _ _ (hk354 _ _ (hk350 _ _ (hk344 _ _ (hk340 _ _ (hk334 _ _ (hk330 _ _ (hk324 _ _ (hk320 _ _ (hk314 _ _ (hk310 _ _ (hk304 _ _ (hk300 _ _ (hk294 _ _ (hk290 _ _ (hk284 _ _ (hk280 _ _ (hk274 _ _ (hk270 _ _ (hk264 _ _ (hk260 _ _ (hk254 _ _ (hk250 _ _ (hk244 _ _ a0))))))))))))))))))))))))]; exact hl
  refine W_stk (st := [.ref (ad365 22 v0), .ref (ad355 0 v0)]) (st' := [.ref (ad365 22 v0), .ref (ad365 0 v0)]) (by rw [hg366 _ _ (hk360 _ _ (hk354 _ _ (hk350 _ _ (hk344 _ _ (hk340 _ _ (hk334 _ _ (hk330 _ _ (hk324 _ _ (hk320 _ _ (hk314 _ _ (hk310 _ _ (hk304 _ _ (hk300 _ _ (hk294 _ _ (hk290 _ _ (hk284 _ _ (hk280 _ _ (hk274 _ _ (hk270 _ _ (hk264 _ _ (hk260 _ _ (hk254 _ _ (hk250 _ _ (hk244 _ _ a0))))))))))))))))))))))))]) ?_
  obtain ⟨M368, e369, hf⟩ := lt_some hf
  have hk370 : Keep M362 M368 := keR e369
  refine pR0F (v := (some v0)) (t := 22) hx hb hts hown hK hP hS (hk364 _ _ (hk360 _ _ (hk354 _ _ (hk350 _ _ (hk344 _ _ (hk340 _ _ (hk334 _ _ (hk330 _ _ (hk324 _ _ (hk320 _ _ (hk314 _ _ (hk310 _ _ (hk304 _ _ (hk300 _ _ (hk294 _ _ (hk290 _ _ (hk284 _ _ (hk280 _ _ (hk274 _ _ (hk270 _ _ (hk264 _ _ (hk260 _ _ (hk254 _ _ (hk250 _ _ (hk244 _ _ a0))))))))))))))))))))))))) 12 (by decide) (hts _ q617) hin rfl rfl rfl (Or.inr ⟨_, rfl⟩) (fun j hj => by cases hj; exact h367) rfl e369 dX4_init_107 (fun H locs hP hS => ?_)
  refine lv_aload_n hx hb dX4_init_110 rfl (lv_at hl 0 rfl) ?_
  refine lv_bipush (v := (53 : Int32)) hx hb dX4_init_111 (by decide) ?_
  obtain ⟨h371, hf⟩ := nw_some hf
  obtain ⟨M372, e373, hf⟩ := lt_some hf
  have hk374 : Keep M368 M372 := keep_nA e373
  refine hp_newA (atype := .long) (ty := .long) (an := 1) (s0 := 23) (i := v0) hx hb (hts _ q703) rfl (fun C => by intro h; cases h) hK hP hS hA h371 rfl rfl (fun cA => arV_z1 cA) e373 (by decide) (by decide) (by decide) (Nat.le_of_ble_eq_true rfl) (Nat.le_of_ble_eq_true rfl) dX4_init_113 (fun ad375 H hP hg376 hS => ?_)
  have h377 : mA M372 23 v0 = true := nA_at e373
  have hl : lv_has ls 1 [(0, .ref (ad375 0 v0))] := by rw [hg376 _ _ (hk370 _ _ (hk364 _ _ (hk360 _ _ (hk354 _ _ (hk350 _ _ (hk344 _ _ (hk340 _ _ (hk334 _ _ (hk330 _ _ (hk324 _ _ (hk320 _ _ (hk314 _ _ (hk310 _ _ (hk304 _ _ (hk300 _ _ (hk294 _ _ (hk290 _ _ (hk284 _ _ (hk280 _ _ (hk274 _ _ (hk270 _ _ (hk264 _ _ (hk260 _ _ (hk254 _ _ (hk250 _ _ (hk244 _ _ a0))))))))))))))))))))))))))]; exact hl
  refine W_stk (st := [.ref (ad375 23 v0), .ref (ad365 0 v0)]) (st' := [.ref (ad375 23 v0), .ref (ad375 0 v0)]) (by rw [hg376 _ _ (hk370 _ _ (hk364 _ _ (hk360 _ _ (hk354 _ _ (hk350 _ _ (hk344 _ _ (hk340 _ _ (hk334 _ _ (hk330 _ _ (hk324 _ _ (hk320 _ _ (hk314 _ _ (hk310 _ _ (hk304 _ _ (hk300 _ _ (hk294 _ _ (hk290 _ _ (hk284 _ _ (hk280 _ _ (hk274 _ _ (hk270 _ _ (hk264 _ _ (hk260 _ _ (hk254 _ _ (hk250 _ _ (hk244 _ _ a0))))))))))))))))))))))))))]) ?_
  obtain ⟨M378, e379, hf⟩ := lt_some hf
  have hk380 : Keep M372 M378 := keR e379
  refine pR0F (v := (some v0)) (t := 23) hx hb hts hown hK hP hS (hk374 _ _ (hk370 _ _ (hk364 _ _ (hk360 _ _ (hk354 _ _ (hk350 _ _ (hk344 _ _ (hk340 _ _ (hk334 _ _ (hk330 _ _ (hk324 _ _ (hk320 _ _ (hk314 _ _ (hk310 _ _ (hk304 _ _ (hk300 _ _ (hk294 _ _ (hk290 _ _ (hk284 _ _ (hk280 _ _ (hk274 _ _ (hk270 _ _ (hk264 _ _ (hk260 _ _ (hk254 _ _ (hk250 _ _ (hk244 _ _ a0))))))))))))))))))))))))))) 13 (by decide) (hts _ q618) hin rfl rfl rfl (Or.inr ⟨_, rfl⟩) (fun j hj => by cases hj; exact h377) rfl e379 dX4_init_115 (fun H locs hP hS => ?_)
  refine lv_aload_n hx hb dX4_init_118 rfl (lv_at hl 0 rfl) ?_
  refine lv_bipush (v := (53 : Int32)) hx hb dX4_init_119 (by decide) ?_
  obtain ⟨h381, hf⟩ := nw_some hf
  obtain ⟨M382, e383, hf⟩ := lt_some hf
  have hk384 : Keep M378 M382 := keep_nA e383
  refine hp_newA (atype := .long) (ty := .long) (an := 1) (s0 := 24) (i := v0) hx hb (hts _ q703) rfl (fun C => by intro h; cases h) hK hP hS hA h381 rfl rfl (fun cA => arV_z1 cA) e383 (by decide) (by decide) (by decide) (Nat.le_of_ble_eq_true rfl) (Nat.le_of_ble_eq_true rfl) dX4_init_121 (fun ad385 H hP hg386 hS => ?_)
  have h387 : mA M382 24 v0 = true := nA_at e383
  have hl : lv_has ls 1 [(0, .ref (ad385 0 v0))] := by rw [hg386 _ _ (hk380 _ _ (hk374 _ _ (hk370 _ _ (hk364 _ _ (hk360 _ _ (hk354 _ _ (hk350 _ _ (hk344 _ _ (hk340 _ _ (hk334 _ _ (hk330 _ _ (hk324 _ _ (hk320 _ _ (hk314 _ _ (hk310 _ _ (hk304 _ _ (hk300 _ _ (hk294 _ _ (hk290 _ _ (hk284 _ _ (hk280 _ _ (hk274 _ _ (hk270 _ _ (hk264 _ _ (hk260 _ _ (hk254 _ _ (hk250 _ _ (hk244 _ _ a0))))))))))))))))))))))))))))]; exact hl
  refine W_stk (st := [.ref (ad385 24 v0), .ref (ad375 0 v0)]) (st' := [.ref (ad385 24 v0), .ref (ad385 0 v0)]) (by rw [hg386 _ _ (hk380 _ _ (hk374 _ _ (hk370 _ _ (hk364 _ _ (hk360 _ _ (hk354 _ _ (hk350 _ _ (hk344 _ _ (hk340 _ _ (hk334 _ _ (hk330 _ _ (hk324 _ _ (hk320 _ _ (hk314 _ _ (hk310 _ _ (hk304 _ _ (hk300 _ _ (hk294 _ _ (hk290 _ _ (hk284 _ _ (hk280 _ _ (hk274 _ _ (hk270 _ _ (hk264 _ _ (hk260 _ _ (hk254 _ _ (hk250 _ _ (hk244 _ _ a0))))))))))))))))))))))))))))]) ?_
  obtain ⟨M388, e389, hf⟩ := lt_some hf
  have hk390 : Keep M382 M388 := keR e389
  refine pR0F (v := (some v0)) (t := 24) hx hb hts hown hK hP hS (hk384 _ _ (hk380 _ _ (hk374 _ _ (hk370 _ _ (hk364 _ _ (hk360 _ _ (hk354 _ _ (hk350 _ _ (hk344 _ _ (hk340 _ _ (hk334 _ _ (hk330 _ _ (hk324 _ _ (hk320 _ _ (hk314 _ _ (hk310 _ _ (hk304 _ _ (hk300 _ _ (hk294 _ _ (hk290 _ _ (hk284 _ _ (hk280 _ _ (hk274 _ _ (hk270 _ _ (hk264 _ _ (hk260 _ _ (hk254 _ _ (hk250 _ _ (hk244 _ _ a0))))))))))))))))))))))))))))) 14 (by decide) (hts _ q619) hin rfl rfl rfl (Or.inr ⟨_, rfl⟩) (fun j hj => by cases hj; exact h387) rfl e389 dX4_init_123 (fun H locs hP hS => ?_)
  refine lv_aload_n hx hb dX4_init_126 rfl (lv_at hl 0 rfl) ?_
  refine lv_bipush (v := (53 : Int32)) hx hb dX4_init_127 (by decide) ?_
  obtain ⟨h391, hf⟩ := nw_some hf
  obtain ⟨M392, e393, hf⟩ := lt_some hf
  have hk394 : Keep M388 M392 := keep_nA e393
  refine hp_newA (atype := .long) (ty := .long) (an := 1) (s0 := 25) (i := v0) hx hb (hts _ q703) rfl (fun C => by intro h; cases h) hK hP hS hA h391 rfl rfl (fun cA => arV_z1 cA) e393 (by decide) (by decide) (by decide) (Nat.le_of_ble_eq_true rfl) (Nat.le_of_ble_eq_true rfl) dX4_init_129 (fun ad395 H hP hg396 hS => ?_)
  have h397 : mA M392 25 v0 = true := nA_at e393
  have hl : lv_has ls 1 [(0, .ref (ad395 0 v0))] := by rw [hg396 _ _ (hk390 _ _ (hk384 _ _ (hk380 _ _ (hk374 _ _ (hk370 _ _ (hk364 _ _ (hk360 _ _ (hk354 _ _ (hk350 _ _ (hk344 _ _ (hk340 _ _ (hk334 _ _ (hk330 _ _ (hk324 _ _ (hk320 _ _ (hk314 _ _ (hk310 _ _ (hk304 _ _ (hk300 _ _ (hk294 _ _ (hk290 _ _ (hk284 _ _ (hk280 _ _ (hk274 _ _ (hk270 _ _ (hk264 _ _ (hk260 _ _ (hk254 _ _ (hk250 _ _ (hk244 _ _ a0))))))))))))))))))))))))))))))]; exact hl
  refine W_stk (st := [.ref (ad395 25 v0), .ref (ad385 0 v0)]) (st' := [.ref (ad395 25 v0), .ref (ad395 0 v0)]) (by rw [hg396 _ _ (hk390 _ _ (hk384 _ _ (hk380 _ _ (hk374 _ _ (hk370 _ _ (hk364 _ _ (hk360 _ _ (hk354 _ _ (hk350 _ _ (hk344 _ _ (hk340 _ _ (hk334 _ _ (hk330 _ _ (hk324 _ _ (hk320 _ _ (hk314 _ _ (hk310 _ _ (hk304 _ _ (hk300 _ _ (hk294 _ _ (hk290 _ _ (hk284 _ _ (hk280 _ _ (hk274 _ _ (hk270 _ _ (hk264 _ _ (hk260 _ _ (hk254 _ _ (hk250 _ _ (hk244 _ _ a0))))))))))))))))))))))))))))))]) ?_
  obtain ⟨M398, e399, hf⟩ := lt_some hf
  have hk400 : Keep M392 M398 := keR e399
  refine pR0F (v := (some v0)) (t := 25) hx hb hts hown hK hP hS (hk394 _ _ (hk390 _ _ (hk384 _ _ (hk380 _ _ (hk374 _ _ (hk370 _ _ (hk364 _ _ (hk360 _ _ (hk354 _ _ (hk350 _ _ (hk344 _ _ (hk340 _ _ (hk334 _ _ (hk330 _ _ (hk324 _ _ (hk320 _ _ (hk314 _ _ (hk310 _ _ (hk304 _ _ (hk300 _ _ (hk294 _ _ (hk290 _ _ (hk284 _ _ (hk280 _ _ (hk274 _ _ (hk270 _ _ (hk264 _ _ (hk260 _ _ (hk254 _ _ (hk250 _ _ (hk244 _ _ a0))))))))))))))))))))))))))))))) 15 (by decide) (hts _ q620) hin rfl rfl rfl (Or.inr ⟨_, rfl⟩) (fun j hj => by cases hj; exact h397) rfl e399 dX4_init_131 (fun H locs hP hS => ?_)
  refine lv_aload_n hx hb dX4_init_134 rfl (lv_at hl 0 rfl) ?_
  refine lv_bipush (v := (53 : Int32)) hx hb dX4_init_135 (by decide) ?_
  obtain ⟨h401, hf⟩ := nw_some hf
  obtain ⟨M402, e403, hf⟩ := lt_some hf
  have hk404 : Keep M398 M402 := keep_nA e403
  refine hp_newA (atype := .int) (ty := .int) (an := 0) (s0 := 26) (i := v0) hx hb (hts _ q158) rfl (fun C => by intro h; cases h) hK hP hS hA h401 rfl rfl (fun cA => arV_z0 cA) e403 (by decide) (by decide) (by decide) (Nat.le_of_ble_eq_true rfl) (Nat.le_of_ble_eq_true rfl) dX4_init_137 (fun ad405 H hP hg406 hS => ?_)
  have h407 : mA M402 26 v0 = true := nA_at e403
  have hl : lv_has ls 1 [(0, .ref (ad405 0 v0))] := by rw [hg406 _ _ (hk400 _ _ (hk394 _ _ (hk390 _ _ (hk384 _ _ (hk380 _ _ (hk374 _ _ (hk370 _ _ (hk364 _ _ (hk360 _ _ (hk354 _ _ (hk350 _ _ (hk344 _ _ (hk340 _ _ (hk334 _ _ (hk330 _ _ (hk324 _ _ (hk320 _ _ (hk314 _ _ (hk310 _ _ (hk304 _ _ (hk300 _ _ (hk294 _ _ (hk290 _ _ (hk284 _ _ (hk280 _ _ (hk274 _ _ (hk270 _ _ (hk264 _ _ (hk260 _ _ (hk254 _ _ (hk250 _ _ (hk244 _ _ a0))))))))))))))))))))))))))))))))]; exact hl
  refine W_stk (st := [.ref (ad405 26 v0), .ref (ad395 0 v0)]) (st' := [.ref (ad405 26 v0), .ref (ad405 0 v0)]) (by rw [hg406 _ _ (hk400 _ _ (hk394 _ _ (hk390 _ _ (hk384 _ _ (hk380 _ _ (hk374 _ _ (hk370 _ _ (hk364 _ _ (hk360 _ _ (hk354 _ _ (hk350 _ _ (hk344 _ _ (hk340 _ _ (hk334 _ _ (hk330 _ _ (hk324 _ _ (hk320 _ _ (hk314 _ _ (hk310 _ _ (hk304 _ _ (hk300 _ _ (hk294 _ _ (hk290 _ _ (hk284 _ _ (hk280 _ _ (hk274 _ _ (hk270 _ _ (hk264 _ _ (hk260 _ _ (hk254 _ _ (hk250 _ _ (hk244 _ _ a0))))))))))))))))))))))))))))))))]) ?_
  obtain ⟨M408, e409, hf⟩ := lt_some hf
  have hk410 : Keep M402 M408 := keR e409
  refine pR0F (v := (some v0)) (t := 26) hx hb hts hown hK hP hS (hk404 _ _ (hk400 _ _ (hk394 _ _ (hk390 _ _ (hk384 _ _ (hk380 _ _ (hk374 _ _ (hk370 _ _ (hk364 _ _ (hk360 _ _ (hk354 _ _ (hk350 _ _ (hk344 _ _ (hk340 _ _ (hk334 _ _ (hk330 _ _ (hk324 _ _ (hk320 _ _ (hk314 _ _ (hk310 _ _ (hk304 _ _ (hk300 _ _ (hk294 _ _ (hk290 _ _ (hk284 _ _ (hk280 _ _ (hk274 _ _ (hk270 _ _ (hk264 _ _ (hk260 _ _ (hk254 _ _ (hk250 _ _ (hk244 _ _ a0))))))))))))))))))))))))))))))))) 16 (by decide) (hts _ q621) hin rfl rfl rfl (Or.inr ⟨_, rfl⟩) (fun j hj => by cases hj; exact h407) rfl e409 dX4_init_139 (fun H locs hP hS => ?_)
  refine lv_aload_n hx hb dX4_init_142 rfl (lv_at hl 0 rfl) ?_
  refine lv_sipush (v := (600 : Int32)) hx hb dX4_init_143 (by decide) ?_
  obtain ⟨h411, hf⟩ := nw_some hf
  obtain ⟨M412, e413, hf⟩ := lt_some hf
  have hk414 : Keep M408 M412 := keep_nA e413
  refine hp_newA (atype := .int) (ty := .int) (an := 0) (s0 := 27) (i := v0) hx hb (hts _ q158) rfl (fun C => by intro h; cases h) hK hP hS hA h411 rfl rfl (fun cA => arV_z0 cA) e413 (by decide) (by decide) (by decide) (Nat.le_of_ble_eq_true rfl) (Nat.le_of_ble_eq_true rfl) dX4_init_146 (fun ad415 H hP hg416 hS => ?_)
  have h417 : mA M412 27 v0 = true := nA_at e413
  have hl : lv_has ls 1 [(0, .ref (ad415 0 v0))] := by rw [hg416 _ _ (hk410 _ _ (hk404 _ _ (hk400 _ _ (hk394 _ _ (hk390 _ _ (hk384 _ _ (hk380 _ _ (hk374 _ _ (hk370 _ _ (hk364 _ _ (hk360 _ _ (hk354 _ _ (hk350 _ _ (hk344 _ _ (hk340 _ _ (hk334 _ _ (hk330 _ _ (hk324 _ _ (hk320 _ _ (hk314 _ _ (hk310 _ _ (hk304 _ _ (hk300 _ _ (hk294 _ _ (hk290 _ _ (hk284 _ _ (hk280 _ _ (hk274 _ _ (hk270 _ _ (hk264 _ _ (hk260 _ _ (hk254 _ _ (hk250 _ _ (hk244 _ _ a0))))))))))))))))))))))))))))))))))]; exact hl
  refine W_stk (st := [.ref (ad415 27 v0), .ref (ad405 0 v0)]) (st' := [.ref (ad415 27 v0), .ref (ad415 0 v0)]) (by rw [hg416 _ _ (hk410 _ _ (hk404 _ _ (hk400 _ _ (hk394 _ _ (hk390 _ _ (hk384 _ _ (hk380 _ _ (hk374 _ _ (hk370 _ _ (hk364 _ _ (hk360 _ _ (hk354 _ _ (hk350 _ _ (hk344 _ _ (hk340 _ _ (hk334 _ _ (hk330 _ _ (hk324 _ _ (hk320 _ _ (hk314 _ _ (hk310 _ _ (hk304 _ _ (hk300 _ _ (hk294 _ _ (hk290 _ _ (hk284 _ _ (hk280 _ _ (hk274 _ _ (hk270 _ _ (hk264 _ _ (hk260 _ _ (hk254 _ _ (hk250 _ _ (hk244 _ _ a0))))))))))))))))))))))))))))))))))]) ?_
  obtain ⟨M418, e419, hf⟩ := lt_some hf
  have hk420 : Keep M412 M418 := keR e419
  refine pR0F (v := (some v0)) (t := 27) hx hb hts hown hK hP hS (hk414 _ _ (hk410 _ _ (hk404 _ _ (hk400 _ _ (hk394 _ _ (hk390 _ _ (hk384 _ _ (hk380 _ _ (hk374 _ _ (hk370 _ _ (hk364 _ _ (hk360 _ _ (hk354 _ _ (hk350 _ _ (hk344 _ _ (hk340 _ _ (hk334 _ _ (hk330 _ _ (hk324 _ _ (hk320 _ _ (hk314 _ _ (hk310 _ _ (hk304 _ _ (hk300 _ _ (hk294 _ _ (hk290 _ _ (hk284 _ _ (hk280 _ _ (hk274 _ _ (hk270 _ _ (hk264 _ _ (hk260 _ _ (hk254 _ _ (hk250 _ _ (hk244 _ _ a0))))))))))))))))))))))))))))))))))) 20 (by decide) (hts _ q625) hin rfl rfl rfl (Or.inr ⟨_, rfl⟩) (fun j hj => by cases hj; exact h417) rfl e419 dX4_init_148 (fun H locs hP hS => ?_)
  refine lv_aload_n hx hb dX4_init_151 rfl (lv_at hl 0 rfl) ?_
  refine lv_sipush (v := (1800 : Int32)) hx hb dX4_init_152 (by decide) ?_
  obtain ⟨h421, hf⟩ := nw_some hf
  obtain ⟨M422, e423, hf⟩ := lt_some hf
  have hk424 : Keep M418 M422 := keep_nA e423
  refine hp_newA (atype := .int) (ty := .int) (an := 0) (s0 := 28) (i := v0) hx hb (hts _ q158) rfl (fun C => by intro h; cases h) hK hP hS hA h421 rfl rfl (fun cA => arV_z0 cA) e423 (by decide) (by decide) (by decide) (Nat.le_of_ble_eq_true rfl) (Nat.le_of_ble_eq_true rfl) dX4_init_155 (fun ad425 H hP hg426 hS => ?_)
  have h427 : mA M422 28 v0 = true := nA_at e423
  have hl : lv_has ls 1 [(0, .ref (ad425 0 v0))] := by rw [hg426 _ _ (hk420 _ _ (hk414 _ _ (hk410 _ _ (hk404 _ _ (hk400 _ _ (hk394 _ _ (hk390 _ _ (hk384 _ _ (hk380 _ _ (hk374 _ _ (hk370 _ _ (hk364 _ _ (hk360 _ _ (hk354 _ _ (hk350 _ _ (hk344 _ _ (hk340 _ _ (hk334 _ _ (hk330 _ _ (hk324 _ _ (hk320 _ _ (hk314 _ _ (hk310 _ _ (hk304 _ _ (hk300 _ _ (hk294 _ _ (hk290 _ _ (hk284 _ _ (hk280 _ _ (hk274 _ _ (hk270 _ _ (hk264 _ _ (hk260 _ _ (hk254 _ _ (hk250 _ _ (hk244 _ _ a0))))))))))))))))))))))))))))))))))))]; exact hl
  refine W_stk (st := [.ref (ad425 28 v0), .ref (ad415 0 v0)]) (st' := [.ref (ad425 28 v0), .ref (ad425 0 v0)]) (by rw [hg426 _ _ (hk420 _ _ (hk414 _ _ (hk410 _ _ (hk404 _ _ (hk400 _ _ (hk394 _ _ (hk390 _ _ (hk384 _ _ (hk380 _ _ (hk374 _ _ (hk370 _ _ (hk364 _ _ (hk360 _ _ (hk354 _ _ (hk350 _ _ (hk344 _ _ (hk340 _ _ (hk334 _ _ (hk330 _ _ (hk324 _ _ (hk320 _ _ (hk314 _ _ (hk310 _ _ (hk304 _ _ (hk300 _ _ (hk294 _ _ (hk290 _ _ (hk284 _ _ (hk280 _ _ (hk274 _ _ (hk270 _ _ (hk264 _ _ (hk260 _ _ (hk254 _ _ (hk250 _ _ (hk244 _ _ a0))))))))))))))))))))))))))))))))))))]) ?_
  obtain ⟨M428, e429, hf⟩ := lt_some hf
  have hk430 : Keep M422 M428 := keR e429
  refine pR0F (v := (some v0)) (t := 28) hx hb hts hown hK hP hS (hk424 _ _ (hk420 _ _ (hk414 _ _ (hk410 _ _ (hk404 _ _ (hk400 _ _ (hk394 _ _ (hk390 _ _ (hk384 _ _ (hk380 _ _ (hk374 _ _ (hk370 _ _ (hk364 _ _ (hk360 _ _ (hk354 _ _ (hk350 _ _ (hk344 _ _ (hk340 _ _ (hk334 _ _ (hk330 _ _ (hk324 _ _ (hk320 _ _ (hk314 _ _ (hk310 _ _ (hk304 _ _ (hk300 _ _ (hk294 _ _ (hk290 _ _ (hk284 _ _ (hk280 _ _ (hk274 _ _ (hk270 _ _ (hk264 _ _ (hk260 _ _ (hk254 _ _ (hk250 _ _ (hk244 _ _ a0))))))))))))))))))))))))))))))))))))) 21 (by decide) (hts _ q626) hin rfl rfl rfl (Or.inr ⟨_, rfl⟩) (fun j hj => by cases hj; exact h427) rfl e429 dX4_init_157 (fun H locs hP hS => ?_)
  refine lv_aload_n hx hb dX4_init_160 rfl (lv_at hl 0 rfl) ?_
  refine lv_sipush (v := (600 : Int32)) hx hb dX4_init_161 (by decide) ?_
  obtain ⟨h431, hf⟩ := nw_some hf
  obtain ⟨M432, e433, hf⟩ := lt_some hf
  have hk434 : Keep M428 M432 := keep_nA e433
  refine hp_newA (atype := .int) (ty := .int) (an := 0) (s0 := 29) (i := v0) hx hb (hts _ q158) rfl (fun C => by intro h; cases h) hK hP hS hA h431 rfl rfl (fun cA => arV_z0 cA) e433 (by decide) (by decide) (by decide) (Nat.le_of_ble_eq_true rfl) (Nat.le_of_ble_eq_true rfl) dX4_init_164 (fun ad435 H hP hg436 hS => ?_)
  have h437 : mA M432 29 v0 = true := nA_at e433
  have hl : lv_has ls 1 [(0, .ref (ad435 0 v0))] := by rw [hg436 _ _ (hk430 _ _ (hk424 _ _ (hk420 _ _ (hk414 _ _ (hk410 _ _ (hk404 _ _ (hk400 _ _ (hk394 _ _ (hk390 _ _ (hk384 _ _ (hk380 _ _ (hk374 _ _ (hk370 _ _ (hk364 _ _ (hk360 _ _ (hk354 _ _ (hk350 _ _ (hk344 _ _ (hk340 _ _ (hk334 _ _ (hk330 _ _ (hk324 _ _ (hk320 _ _ (hk314 _ _ (hk310 _ _ (hk304 _ _ (hk300 _ _ (hk294 _ _ (hk290 _ _ (hk284 _ _ (hk280 _ _ (hk274 _ _ (hk270 _ _ (hk264 _ _ (hk260 _ _ (hk254 _ _ (hk250 _ _ (hk244 _ _ a0))))))))))))))))))))))))))))))))))))))]; exact hl
  refine W_stk (st := [.ref (ad435 29 v0), .ref (ad425 0 v0)]) (st' := [.ref (ad435 29 v0), .ref (ad435 0 v0)]) (by rw [hg436 _ _ (hk430 _ _ (hk424 _ _ (hk420 _ _ (hk414 _ _ (hk410 _ _ (hk404 _ _ (hk400 _ _ (hk394 _ _ (hk390 _ _ (hk384 _ _ (hk380 _ _ (hk374 _ _ (hk370 _ _ (hk364 _ _ (hk360 _ _ (hk354 _ _ (hk350 _ _ (hk344 _ _ (hk340 _ _ (hk334 _ _ (hk330 _ _ (hk324 _ _ (hk320 _ _ (hk314 _ _ (hk310 _ _ (hk304 _ _ (hk300 _ _ (hk294 _ _ (hk290 _ _ (hk284 _ _ (hk280 _ _ (hk274 _ _ (hk270 _ _ (hk264 _ _ (hk260 _ _ (hk254 _ _ (hk250 _ _ (hk244 _ _ a0))))))))))))))))))))))))))))))))))))))]) ?_
  obtain ⟨M438, e439, hf⟩ := lt_some hf
  have hk440 : Keep M432 M438 := keR e439
  refine pR0F (v := (some v0)) (t := 29) hx hb hts hown hK hP hS (hk434 _ _ (hk430 _ _ (hk424 _ _ (hk420 _ _ (hk414 _ _ (hk410 _ _ (hk404 _ _ (hk400 _ _ (hk394 _ _ (hk390 _ _ (hk384 _ _ (hk380 _ _ (hk374 _ _ (hk370 _ _ (hk364 _ _ (hk360 _ _ (hk354 _ _ (hk350 _ _ (hk344 _ _ (hk340 _ _ (hk334 _ _ (hk330 _ _ (hk324 _ _ (hk320 _ _ (hk314 _ _ (hk310 _ _ (hk304 _ _ (hk300 _ _ (hk294 _ _ (hk290 _ _ (hk284 _ _ (hk280 _ _ (hk274 _ _ (hk270 _ _ (hk264 _ _ (hk260 _ _ (hk254 _ _ (hk250 _ _ (hk244 _ _ a0))))))))))))))))))))))))))))))))))))))) 22 (by decide) (hts _ q627) hin rfl rfl rfl (Or.inr ⟨_, rfl⟩) (fun j hj => by cases hj; exact h437) rfl e439 dX4_init_166 (fun H locs hP hS => ?_)
  refine lv_aload_n hx hb dX4_init_169 rfl (lv_at hl 0 rfl) ?_
  refine lv_sipush (v := (600 : Int32)) hx hb dX4_init_170 (by decide) ?_
  obtain ⟨h441, hf⟩ := nw_some hf
  obtain ⟨M442, e443, hf⟩ := lt_some hf
  have hk444 : Keep M438 M442 := keep_nA e443
  refine hp_newA (atype := .int) (ty := .int) (an := 0) (s0 := 30) (i := v0) hx hb (hts _ q158) rfl (fun C => by intro h; cases h) hK hP hS hA h441 rfl rfl (fun cA => arV_z0 cA) e443 (by decide) (by decide) (by decide) (Nat.le_of_ble_eq_true rfl) (Nat.le_of_ble_eq_true rfl) dX4_init_173 (fun ad445 H hP hg446 hS => ?_)
  have h447 : mA M442 30 v0 = true := nA_at e443
  have hl : lv_has ls 1 [(0, .ref (ad445 0 v0))] := by rw [hg446 _ _ (hk440 _ _ (hk434 _ _ (hk430 _ _ (hk424 _ _ (hk420 _ _ (hk414 _ _ (hk410 _ _ (hk404 _ _ (hk400 _ _ (hk394 _ _ (hk390 _ _ (hk384 _ _ (hk380 _ _ (hk374 _ _ (hk370 _ _ (hk364 _ _ (hk360 _ _ (hk354 _ _ (hk350 _ _ (hk344 _ _ (hk340 _ _ (hk334 _ _ (hk330 _ _ (hk324 _ _ (hk320 _ _ (hk314 _ _ (hk310 _ _ (hk304 _ _ (hk300 _ _ (hk294 _ _ (hk290 _ _ (hk284 _ _ (hk280 _ _ (hk274 _ _ (hk270 _ _ (hk264 _ _ (hk260 _ _ (hk254 _ _ (hk250 _ _ (hk244 _ _ a0))))))))))))))))))))))))))))))))))))))))]; exact hl
  refine W_stk (st := [.ref (ad445 30 v0), .ref (ad435 0 v0)]) (st' := [.ref (ad445 30 v0), .ref (ad445 0 v0)]) (by rw [hg446 _ _ (hk440 _ _ (hk434 _ _ (hk430 _ _ (hk424 _ _ (hk420 _ _ (hk414 _ _ (hk410 _ _ (hk404 _ _ (hk400 _ _ (hk394 _ _ (hk390 _ _ (hk384 _ _ (hk380 _ _ (hk374 _ _ (hk370 _ _ (hk364 _ _ (hk360 _ _ (hk354 _ _ (hk350 _ _ (hk344 _ _ (hk340 _ _ (hk334 _ _ (hk330 _ _ (hk324 _ _ (hk320 _ _ (hk314 _ _ (hk310 _ _ (hk304 _ _ (hk300 _ _ (hk294 _ _ (hk290 _ _ (hk284 _ _ (hk280 _ _ (hk274 _ _ (hk270 _ _ (hk264 _ _ (hk260 _ _ (hk254 _ _ (hk250 _ _ (hk244 _ _ a0))))))))))))))))))))))))))))))))))))))))]) ?_
  obtain ⟨M448, e449, hf⟩ := lt_some hf
  have hk450 : Keep M442 M448 := keR e449
  refine pR0F (v := (some v0)) (t := 30) hx hb hts hown hK hP hS (hk444 _ _ (hk440 _ _ (hk434 _ _ (hk430 _ _ (hk424 _ _ (hk420 _ _ (hk414 _ _ (hk410 _ _ (hk404 _ _ (hk400 _ _ (hk394 _ _ (hk390 _ _ (hk384 _ _ (hk380 _ _ (hk374 _ _ (hk370 _ _ (hk364 _ _ (hk360 _ _ (hk354 _ _ (hk350 _ _ (hk344 _ _ (hk340 _ _ (hk334 _ _ (hk330 _ _ (hk324 _ _ (hk320 _ _ (hk314 _ _ (hk310 _ _ (hk304 _ _ (hk300 _ _ (hk294 _ _ (hk290 _ _ (hk284 _ _ (hk280 _ _ (hk274 _ _ (hk270 _ _ (hk264 _ _ (hk260 _ _ (hk254 _ _ (hk250 _ _ (hk244 _ _ a0))))))))))))))))))))))))))))))))))))))))) 23 (by decide) (hts _ q628) hin rfl rfl rfl (Or.inr ⟨_, rfl⟩) (fun j hj => by cases hj; exact h447) rfl e449 dX4_init_175 (fun H locs hP hS => ?_)
  refine lv_aload_n hx hb dX4_init_178 rfl (lv_at hl 0 rfl) ?_
  refine lv_sipush (v := (600 : Int32)) hx hb dX4_init_179 (by decide) ?_
  obtain ⟨h451, hf⟩ := nw_some hf
  obtain ⟨M452, e453, hf⟩ := lt_some hf
  have hk454 : Keep M448 M452 := keep_nA e453
  refine hp_newA (atype := .long) (ty := .long) (an := 1) (s0 := 31) (i := v0) hx hb (hts _ q703) rfl (fun C => by intro h; cases h) hK hP hS hA h451 rfl rfl (fun cA => arV_z1 cA) e453 (by decide) (by decide) (by decide) (Nat.le_of_ble_eq_true rfl) (Nat.le_of_ble_eq_true rfl) dX4_init_182 (fun ad455 H hP hg456 hS => ?_)
  have h457 : mA M452 31 v0 = true := nA_at e453
  have hl : lv_has ls 1 [(0, .ref (ad455 0 v0))] := by rw [hg456 _ _ (hk450 _ _ (hk444 _ _ (hk440 _ _ (hk434 _ _ (hk430 _ _ (hk424 _ _ (hk420 _ _ (hk414 _ _ (hk410 _ _ (hk404 _ _ (hk400 _ _ (hk394 _ _ (hk390 _ _ (hk384 _ _ (hk380 _ _ (hk374 _ _ (hk370 _ _ (hk364 _ _ (hk360 _ _ (hk354 _ _ (hk350 _ _ (hk344 _ _ (hk340 _ _ (hk334 _ _ (hk330 _ _ (hk324 _ _ (hk320 _ _ (hk314 _ _ (hk310 _ _ (hk304 _ _ (hk300 _ _ (hk294 _ _ (hk290 _ _ (hk284 _ _ (hk280 _ _ (hk274 _ _ (hk270 _ _ (hk264 _ _ (hk260 _ _ (hk254 _ _ (hk250 _ _ (hk244 _ _ a0))))))))))))))))))))))))))))))))))))))))))]; exact hl
  refine W_stk (st := [.ref (ad455 31 v0), .ref (ad445 0 v0)]) (st' := [.ref (ad455 31 v0), .ref (ad455 0 v0)]) (by rw [hg456 _ _ (hk450 _ _ (hk444 _ _ (hk440 _ _ (hk434 _ _ (hk430 _ _ (hk424 _ _ (hk420 _ _ (hk414 _ _ (hk410 _ _ (hk404 _ _ (hk400 _ _ (hk394 _ _ (hk390 _ _ (hk384 _ _ (hk380 _ _ (hk374 _ _ (hk370 _ _ (hk364 _ _ (hk360 _ _ (hk354 _ _ (hk350 _ _ (hk344 _ _ (hk340 _ _ (hk334 _ _ (hk330 _ _ (hk324 _ _ (hk320 _ _ (hk314 _ _ (hk310 _ _ (hk304 _ _ (hk300 _ _ (hk294 _ _ (hk290 _ _ (hk284 _ _ (hk280 _ _ (hk274 _ _ (hk270 _ _ (hk264 _ _ (hk260 _ _ (hk254 _ _ (hk250 _ _ (hk244 _ _ a0))))))))))))))))))))))))))))))))))))))))))]) ?_
  obtain ⟨M458, e459, hf⟩ := lt_some hf
  have hk460 : Keep M452 M458 := keR e459
  refine pR0F (v := (some v0)) (t := 31) hx hb hts hown hK hP hS (hk454 _ _ (hk450 _ _ (hk444 _ _ (hk440 _ _ (hk434 _ _ (hk430 _ _ (hk424 _ _ (hk420 _ _ (hk414 _ _ (hk410 _ _ (hk404 _ _ (hk400 _ _ (hk394 _ _ (hk390 _ _ (hk384 _ _ (hk380 _ _ (hk374 _ _ (hk370 _ _ (hk364 _ _ (hk360 _ _ (hk354 _ _ (hk350 _ _ (hk344 _ _ (hk340 _ _ (hk334 _ _ (hk330 _ _ (hk324 _ _ (hk320 _ _ (hk314 _ _ (hk310 _ _ (hk304 _ _ (hk300 _ _ (hk294 _ _ (hk290 _ _ (hk284 _ _ (hk280 _ _ (hk274 _ _ (hk270 _ _ (hk264 _ _ (hk260 _ _ (hk254 _ _ (hk250 _ _ (hk244 _ _ a0))))))))))))))))))))))))))))))))))))))))))) 24 (by decide) (hts _ q629) hin rfl rfl rfl (Or.inr ⟨_, rfl⟩) (fun j hj => by cases hj; exact h457) rfl e459 dX4_init_184 (fun H locs hP hS => ?_)
  refine lv_aload_n hx hb dX4_init_187 rfl (lv_at hl 0 rfl) ?_
  refine lv_iconst (v := (3 : Int32)) hx hb dX4_init_188 (by decide) ?_
  obtain ⟨h461, hf⟩ := nw_some hf
  obtain ⟨M462, e463, hf⟩ := lt_some hf
  have hk464 : Keep M458 M462 := keep_nA e463
  refine hp_newA (atype := .int) (ty := .int) (an := 0) (s0 := 32) (i := v0) hx hb (hts _ q158) rfl (fun C => by intro h; cases h) hK hP hS hA h461 rfl rfl (fun cA => arV_z0 cA) e463 (by decide) (by decide) (by decide) (Nat.le_of_ble_eq_true rfl) (Nat.le_of_ble_eq_true rfl) dX4_init_189 (fun ad465 H hP hg466 hS => ?_)
  have h467 : mA M462 32 v0 = true := nA_at e463
  have hl : lv_has ls 1 [(0, .ref (ad465 0 v0))] := by rw [hg466 _ _ (hk460 _ _ (hk454 _ _ (hk450 _ _ (hk444 _ _ (hk440 _ _ (hk434 _ _ (hk430 _ _ (hk424 _ _ (hk420 _ _ (hk414 _ _ (hk410 _ _ (hk404 _ _ (hk400 _ _ (hk394 _ _ (hk390 _ _ (hk384 _ _ (hk380 _ _ (hk374 _ _ (hk370 _ _ (hk364 _ _ (hk360 _ _ (hk354 _ _ (hk350 _ _ (hk344 _ _ (hk340 _ _ (hk334 _ _ (hk330 _ _ (hk324 _ _ (hk320 _ _ (hk314 _ _ (hk310 _ _ (hk304 _ _ (hk300 _ _ (hk294 _ _ (hk290 _ _ (hk284 _ _ (hk280 _ _ (hk274 _ _ (hk270 _ _ (hk264 _ _ (hk260 _ _ (hk254 _ _ (hk250 _ _ (hk244 _ _ a0))))))))))))))))))))))))))))))))))))))))))))]; exact hl
  refine W_stk (st := [.ref (ad465 32 v0), .ref (ad455 0 v0)]) (st' := [.ref (ad465 32 v0), .ref (ad465 0 v0)]) (by rw [hg466 _ _ (hk460 _ _ (hk454 _ _ (hk450 _ _ (hk444 _ _ (hk440 _ _ (hk434 _ _ (hk430 _ _ (hk424 _ _ (hk420 _ _ (hk414 _ _ (hk410 _ _ (hk404 _ _ (hk400 _ _ (hk394 _ _ (hk390 _ _ (hk384 _ _ (hk380 _ _ (hk374 _ _ (hk370 _ _ (hk364 _ _ (hk360 _ _ (hk354 _ _ (hk350 _ _ (hk344 _ _ (hk340 _ _ (hk334 _ _ (hk330 _ _ (hk324 _ _ (hk320 _ _ (hk314 _ _ (hk310 _ _ (hk304 _ _ (hk300 _ _ (hk294 _ _ (hk290 _ _ (hk284 _ _ (hk280 _ _ (hk274 _ _ (hk270 _ _ (hk264 _ _ (hk260 _ _ (hk254 _ _ (hk250 _ _ (hk244 _ _ a0))))))))))))))))))))))))))))))))))))))))))))]) ?_
  obtain ⟨M468, e469, hf⟩ := lt_some hf
  have hk470 : Keep M462 M468 := keR e469
  refine pR0F (v := (some v0)) (t := 32) hx hb hts hown hK hP hS (hk464 _ _ (hk460 _ _ (hk454 _ _ (hk450 _ _ (hk444 _ _ (hk440 _ _ (hk434 _ _ (hk430 _ _ (hk424 _ _ (hk420 _ _ (hk414 _ _ (hk410 _ _ (hk404 _ _ (hk400 _ _ (hk394 _ _ (hk390 _ _ (hk384 _ _ (hk380 _ _ (hk374 _ _ (hk370 _ _ (hk364 _ _ (hk360 _ _ (hk354 _ _ (hk350 _ _ (hk344 _ _ (hk340 _ _ (hk334 _ _ (hk330 _ _ (hk324 _ _ (hk320 _ _ (hk314 _ _ (hk310 _ _ (hk304 _ _ (hk300 _ _ (hk294 _ _ (hk290 _ _ (hk284 _ _ (hk280 _ _ (hk274 _ _ (hk270 _ _ (hk264 _ _ (hk260 _ _ (hk254 _ _ (hk250 _ _ (hk244 _ _ a0))))))))))))))))))))))))))))))))))))))))))))) 27 (by decide) (hts _ q632) hin rfl rfl rfl (Or.inr ⟨_, rfl⟩) (fun j hj => by cases hj; exact h467) rfl e469 dX4_init_191 (fun H locs hP hS => ?_)
  refine lv_aload_n hx hb dX4_init_194 rfl (lv_at hl 0 rfl) ?_
  refine lv_sipush (v := (325 : Int32)) hx hb dX4_init_195 (by decide) ?_
  obtain ⟨h471, hf⟩ := nw_some hf
  obtain ⟨M472, e473, hf⟩ := lt_some hf
  have hk474 : Keep M468 M472 := keep_nA e473
  refine hp_newA (atype := .int) (ty := .int) (an := 0) (s0 := 33) (i := v0) hx hb (hts _ q158) rfl (fun C => by intro h; cases h) hK hP hS hA h471 rfl rfl (fun cA => arV_z0 cA) e473 (by decide) (by decide) (by decide) (Nat.le_of_ble_eq_true rfl) (Nat.le_of_ble_eq_true rfl) dX4_init_198 (fun ad475 H hP hg476 hS => ?_)
  have h477 : mA M472 33 v0 = true := nA_at e473
  have hl : lv_has ls 1 [(0, .ref (ad475 0 v0))] := by rw [hg476 _ _ (hk470 _ _ (hk464 _ _ (hk460 _ _ (hk454 _ _ (hk450 _ _ (hk444 _ _ (hk440 _ _ (hk434 _ _ (hk430 _ _ (hk424 _ _ (hk420 _ _ (hk414 _ _ (hk410 _ _ (hk404 _ _ (hk400 _ _ (hk394 _ _ (hk390 _ _ (hk384 _ _ (hk380 _ _ (hk374 _ _ (hk370 _ _ (hk364 _ _ (hk360 _ _ (hk354 _ _ (hk350 _ _ (hk344 _ _ (hk340 _ _ (hk334 _ _ (hk330 _ _ (hk324 _ _ (hk320 _ _ (hk314 _ _ (hk310 _ _ (hk304 _ _ (hk300 _ _ (hk294 _ _ (hk290 _ _ (hk284 _ _ (hk280 _ _ (hk274 _ _ (hk270 _ _ (hk264 _ _ (hk260 _ _ (hk254 _ _ (hk250 _ _ (hk244 _ _ a0))))))))))))))))))))))))))))))))))))))))))))))]; exact hl
  refine W_stk (st := [.ref (ad475 33 v0), .ref (ad465 0 v0)]) (st' := [.ref (ad475 33 v0), .ref (ad475 0 v0)]) (by rw [hg476 _ _ (hk470 _ _ (hk464 _ _ (hk460 _ _ (hk454 _ _ (hk450 _ _ (hk444 _ _ (hk440 _ _ (hk434 _ _ (hk430 _ _ (hk424 _ _ (hk420 _ _ (hk414 _ _ (hk410 _ _ (hk404 _ _ (hk400 _ _ (hk394 _ _ (hk390 _ _ (hk384 _ _ (hk380 _ _ (hk374 _ _ (hk370 _ _ (hk364 _ _ (hk360 _ _ (hk354 _ _ (hk350 _ _ (hk344 _ _ (hk340 _ _ (hk334 _ _ (hk330 _ _ (hk324 _ _ (hk320 _ _ (hk314 _ _ (hk310 _ _ (hk304 _ _ (hk300 _ _ (hk294 _ _ (hk290 _ _ (hk284 _ _ (hk280 _ _ (hk274 _ _ (hk270 _ _ (hk264 _ _ (hk260 _ _ (hk254 _ _ (hk250 _ _ (hk244 _ _ a0))))))))))))))))))))))))))))))))))))))))))))))]) ?_
  obtain ⟨M478, e479, hf⟩ := lt_some hf
  have hk480 : Keep M472 M478 := keR e479
  refine pR0F (v := (some v0)) (t := 33) hx hb hts hown hK hP hS (hk474 _ _ (hk470 _ _ (hk464 _ _ (hk460 _ _ (hk454 _ _ (hk450 _ _ (hk444 _ _ (hk440 _ _ (hk434 _ _ (hk430 _ _ (hk424 _ _ (hk420 _ _ (hk414 _ _ (hk410 _ _ (hk404 _ _ (hk400 _ _ (hk394 _ _ (hk390 _ _ (hk384 _ _ (hk380 _ _ (hk374 _ _ (hk370 _ _ (hk364 _ _ (hk360 _ _ (hk354 _ _ (hk350 _ _ (hk344 _ _ (hk340 _ _ (hk334 _ _ (hk330 _ _ (hk324 _ _ (hk320 _ _ (hk314 _ _ (hk310 _ _ (hk304 _ _ (hk300 _ _ (hk294 _ _ (hk290 _ _ (hk284 _ _ (hk280 _ _ (hk274 _ _ (hk270 _ _ (hk264 _ _ (hk260 _ _ (hk254 _ _ (hk250 _ _ (hk244 _ _ a0))))))))))))))))))))))))))))))))))))))))))))))) 31 (by decide) (hts _ q636) hin rfl rfl rfl (Or.inr ⟨_, rfl⟩) (fun j hj => by cases hj; exact h477) rfl e479 dX4_init_200 (fun H locs hP hS => ?_)
  refine W.widen (k := 24) (n := 5853) (Nat.le_of_ble_eq_true rfl) (Nat.le_of_ble_eq_true rfl) ?_
  exact hp_vreta hx hb hr hlocks (Option.some.inj hf) hP hS (kt (kt (kt (kt (kt (kt (kt (kt (kt (kt (kt (kt (kt (kt (kt (kt (kt (kt (kt (kt (kt (kt (kt (kt (kt (kt (kt (kt (kt (kt (kt (kt (kt (kt (kt (kt (kt (kt (kt (kt (kt (kt (kt (kt (kt (kt (kt (kt keep_rf hk244) hk250) hk254) hk260) hk264) hk270) hk274) hk280) hk284) hk290) hk294) hk300) hk304) hk310) hk314) hk320) hk324) hk330) hk334) hk340) hk344) hk350) hk354) hk360) hk364) hk370) hk374) hk380) hk384) hk390) hk394) hk400) hk404) hk410) hk414) hk420) hk424) hk430) hk434) hk440) hk444) hk450) hk454) hk460) hk464) hk470) hk474) hk480) (agr_t (agr_t (agr_t (agr_t (agr_t (agr_t (agr_t (agr_t (agr_t (agr_t (agr_t (agr_t (agr_t (agr_t (agr_t (agr_t (agr_t (agr_t (agr_t (agr_t (agr_t (agr_t (agr_t (agr_t agr_rf keep_rf hg246) (kt (kt keep_rf hk244) hk250) hg256) (kt (kt (kt (kt keep_rf hk244) hk250) hk254) hk260) hg266) (kt (kt (kt (kt (kt (kt keep_rf hk244) hk250) hk254) hk260) hk264) hk270) hg276) (kt (kt (kt (kt (kt (kt (kt (kt keep_rf hk244) hk250) hk254) hk260) hk264) hk270) hk274) hk280) hg286) (kt (kt (kt (kt (kt (kt (kt (kt (kt (kt keep_rf hk244) hk250) hk254) hk260) hk264) hk270) hk274) hk280) hk284) hk290) hg296) (kt (kt (kt (kt (kt (kt (kt (kt (kt (kt (kt (kt keep_rf hk244) hk250) hk254) hk260) hk264) hk270) hk274) hk280) hk284) hk290) hk294) hk300) hg306) (kt (kt (kt (kt (kt (kt (kt (kt (kt (kt (kt (kt (kt (kt keep_rf hk244) hk250) hk254) hk260) hk264) hk270) hk274) hk280) hk284) hk290) hk294) hk300) hk304) hk310) hg316) (kt (kt (kt (kt (kt (kt (kt (kt (kt (kt (kt (kt (kt (kt (kt (kt keep_rf hk244) hk250) hk254) hk260) hk264) hk270) hk274) hk280) hk284) hk290) hk294) hk300) hk304) hk310) hk314) hk320) hg326) (kt (kt (kt (kt (kt (kt (kt (kt (kt (kt (kt (kt (kt (kt (kt (kt (kt (kt keep_rf hk244) hk250) hk254) hk260) hk264) hk270) hk274) hk280) hk284) hk290) hk294) hk300) hk304) hk310) hk314) hk320) hk324) hk330) hg336) (kt (kt (kt (kt (kt (kt (kt (kt (kt (kt (kt (kt (kt (kt (kt (kt (kt (kt (kt (kt keep_rf hk244) hk250) hk254) hk260) hk264) hk270) hk274) hk280) hk284) hk290) hk294) hk300) hk304) hk310) hk314) hk320) hk324) hk330) hk334) hk340) hg346) (kt (kt (kt (kt (kt (kt (kt (kt (kt (kt (kt (kt (kt (kt (kt (kt (kt (kt (kt (kt (kt (kt keep_rf hk244) hk250) hk254) hk260) hk264) hk270) hk274) hk280) hk284) hk290) hk294) hk300) hk304) hk310) hk314) hk320) hk324) hk330) hk334) hk340) hk344) hk350) hg356) (kt (kt (kt (kt (kt (kt (kt (kt (kt (kt (kt (kt (kt (kt (kt (kt (kt (kt (kt (kt (kt (kt (kt (kt keep_rf hk244) hk250) hk254) hk260) hk264) hk270) hk274) hk280) hk284) hk290) hk294) hk300) hk304) hk310) hk314) hk320) hk324) hk330) hk334) hk340) hk344) hk350) hk354) hk360) hg366) (kt (kt (kt (kt (kt (kt (kt (kt (kt (kt (kt (kt (kt (kt (kt (kt (kt (kt (kt (kt (kt (kt (kt (kt (kt (kt keep_rf hk244) hk250) hk254) hk260) hk264) hk270) hk274) hk280) hk284) hk290) hk294) hk300) hk304) hk310) hk314) hk320) hk324) hk330) hk334) hk340) hk344) hk350) hk354) hk360) hk364) hk370) hg376) (kt (kt (kt (kt (kt (kt (kt (kt (kt (kt (kt (kt (kt (kt (kt (kt (kt (kt (kt (kt (kt (kt (kt (kt (kt (kt (kt (kt keep_rf hk244) hk250) hk254) hk260) hk264) hk270) hk274) hk280) hk284) hk290) hk294) hk300) hk304) hk310) hk314) hk320) hk324) hk330) hk334) hk340) hk344) hk350) hk354) hk360) hk364) hk370) hk374) hk380) hg386) (kt (kt (kt (kt (kt (kt (kt (kt (kt (kt (kt (kt (kt (kt (kt (kt (kt (kt (kt (kt (kt (kt (kt (kt (kt (kt (kt (kt (kt (kt keep_rf hk244) hk250) hk254) hk260) hk264) hk270) hk274) hk280) hk284) hk290) hk294) hk300) hk304) hk310) hk314) hk320) hk324) hk330) hk334) hk340) hk344) hk350) hk354) hk360) hk364) hk370) hk374) hk380) hk384) hk390) hg396) (kt (kt (kt (kt (kt (kt (kt (kt (kt (kt (kt (kt (kt (kt (kt (kt (kt (kt (kt (kt (kt (kt (kt (kt (kt (kt (kt (kt (kt (kt (kt (kt keep_rf hk244) hk250) hk254) hk260) hk264) hk270) hk274) hk280) hk284) hk290) hk294) hk300) hk304) hk310) hk314) hk320) hk324) hk330) hk334) hk340) hk344) hk350) hk354) hk360) hk364) hk370) hk374) hk380) hk384) hk390) hk394) hk400) hg406) (kt (kt (kt (kt (kt (kt (kt (kt (kt (kt (kt (kt (kt (kt (kt (kt (kt (kt (kt (kt (kt (kt (kt (kt (kt (kt (kt (kt (kt (kt (kt (kt (kt (kt keep_rf hk244) hk250) hk254) hk260) hk264) hk270) hk274) hk280) hk284) hk290) hk294) hk300) hk304) hk310) hk314) hk320) hk324) hk330) hk334) hk340) hk344) hk350) hk354) hk360) hk364) hk370) hk374) hk380) hk384) hk390) hk394) hk400) hk404) hk410) hg416) (kt (kt (kt (kt (kt (kt (kt (kt (kt (kt (kt (kt (kt (kt (kt (kt (kt (kt (kt (kt (kt (kt (kt (kt (kt (kt (kt (kt (kt (kt (kt (kt (kt (kt (kt (kt keep_rf hk244) hk250) hk254) hk260) hk264) hk270) hk274) hk280) hk284) hk290) hk294) hk300) hk304) hk310) hk314) hk320) hk324) hk330) hk334) hk340) hk344) hk350) hk354) hk360) hk364) hk370) hk374) hk380) hk384) hk390) hk394) hk400) hk404) hk410) hk414) hk420) hg426) (kt (kt (kt (kt (kt (kt (kt (kt (kt (kt (kt (kt (kt (kt (kt (kt (kt (kt (kt (kt (kt (kt (kt (kt (kt (kt (kt (kt (kt (kt (kt (kt (kt (kt (kt (kt (kt (kt keep_rf hk244) hk250) hk254) hk260) hk264) hk270) hk274) hk280) hk284) hk290) hk294) hk300) hk304) hk310) hk314) hk320) hk324) hk330) hk334) hk340) hk344) hk350) hk354) hk360) hk364) hk370) hk374) hk380) hk384) hk390) hk394) hk400) hk404) hk410) hk414) hk420) hk424) hk430) hg436) (kt (kt (kt (kt (kt (kt (kt (kt (kt (kt (kt (kt (kt (kt (kt (kt (kt (kt (kt (kt (kt (kt (kt (kt (kt (kt (kt (kt (kt (kt (kt (kt (kt (kt (kt (kt (kt (kt (kt (kt keep_rf hk244) hk250) hk254) hk260) hk264) hk270) hk274) hk280) hk284) hk290) hk294) hk300) hk304) hk310) hk314) hk320) hk324) hk330) hk334) hk340) hk344) hk350) hk354) hk360) hk364) hk370) hk374) hk380) hk384) hk390) hk394) hk400) hk404) hk410) hk414) hk420) hk424) hk430) hk434) hk440) hg446) (kt (kt (kt (kt (kt (kt (kt (kt (kt (kt (kt (kt (kt (kt (kt (kt (kt (kt (kt (kt (kt (kt (kt (kt (kt (kt (kt (kt (kt (kt (kt (kt (kt (kt (kt (kt (kt (kt (kt (kt (kt (kt keep_rf hk244) hk250) hk254) hk260) hk264) hk270) hk274) hk280) hk284) hk290) hk294) hk300) hk304) hk310) hk314) hk320) hk324) hk330) hk334) hk340) hk344) hk350) hk354) hk360) hk364) hk370) hk374) hk380) hk384) hk390) hk394) hk400) hk404) hk410) hk414) hk420) hk424) hk430) hk434) hk440) hk444) hk450) hg456) (kt (kt (kt (kt (kt (kt (kt (kt (kt (kt (kt (kt (kt (kt (kt (kt (kt (kt (kt (kt (kt (kt (kt (kt (kt (kt (kt (kt (kt (kt (kt (kt (kt (kt (kt (kt (kt (kt (kt (kt (kt (kt (kt (kt keep_rf hk244) hk250) hk254) hk260) hk264) hk270) hk274) hk280) hk284) hk290) hk294) hk300) hk304) hk310) hk314) hk320) hk324) hk330) hk334) hk340) hk344) hk350) hk354) hk360) hk364) hk370) hk374) hk380) hk384) hk390) hk394) hk400) hk404) hk410) hk414) hk420) hk424) hk430) hk434) hk440) hk444) hk450) hk454) hk460) hg466) (kt (kt (kt (kt (kt (kt (kt (kt (kt (kt (kt (kt (kt (kt (kt (kt (kt (kt (kt (kt (kt (kt (kt (kt (kt (kt (kt (kt (kt (kt (kt (kt (kt (kt (kt (kt (kt (kt (kt (kt (kt (kt (kt (kt (kt (kt keep_rf hk244) hk250) hk254) hk260) hk264) hk270) hk274) hk280) hk284) hk290) hk294) hk300) hk304) hk310) hk314) hk320) hk324) hk330) hk334) hk340) hk344) hk350) hk354) hk360) hk364) hk370) hk374) hk380) hk384) hk390) hk394) hk400) hk404) hk410) hk414) hk420) hk424) hk430) hk434) hk440) hk444) hk450) hk454) hk460) hk464) hk470) hg476) dX4_init_203
