/-! ===== walks of the model, 2: by program out of the bytecode ===== -/
def f_X4_scratch_180 (k45 : Nat → Int32 → Int32 → Int32 → Int32 → Mm → Option (Int32 × Mm)) (v0 : Nat) (v1 : Int32) (v2 : Int32) (v3 : Int32) (v4 : Int32) (v6 : Int32) (M : Mm) : Option (Int32 × Mm) :=
  if v6 = 0 then (lt (v4 + (1 : Int32)) fun x154 => k45 v0 v1 v2 v3 x154 M) else (ob (f_X4_refunds v0 v4 M) fun M148 => lt (v3 + (1 : Int32)) fun x150 => lt (v4 + (1 : Int32)) fun x152 => k45 v0 v1 v2 x150 x152 M148)
def f_X4_scratch_69 (k45 : Nat → Int32 → Int32 → Int32 → Int32 → Mm → Option (Int32 × Mm)) : Nat → Nat → Int32 → Int32 → Int32 → Int32 → Int32 → Int32 → Int32 → Mm → Option (Int32 × Mm)
  | 0, _, _, _, _, _, _, _, _, _ => none
  | n + 1, v0, v1, v2, v3, v4, v5, v6, v7, M => ob (f_X4_many v5 M) fun r141 => if r141 ≤ v7 then (f_X4_scratch_180 k45 v0 v1 v2 v3 v4 v6 M) else (ob (mR M 0 v0 23) fun i157 => ix v4 600 (if (mI M 30 i157 (v4).toNatClampNeg) = 0 then (ob (f_X4_raceOf v0 v5 v7 M) fun r163 => if r163 = v1 then (ob (mR M 0 v0 21) fun i170 => ix (((3 : Int32) * v4) + v7) 1800 (if (mI M 28 i170 ((((3 : Int32) * v4) + v7)).toNatClampNeg) = v2 then (if v5 = (52 : Int32) then (ob (mR M 0 v0 2) fun i179 => ix v1 13 (if (mI M 12 i179 (v1).toNatClampNeg) ≤ 0 then (lt (v7 + (1 : Int32)) fun x184 => f_X4_scratch_69 k45 n v0 v1 v2 v3 v4 v5 (1 : Int32) x184 M) else (ob (mR M 0 v0 2) fun i187 => ix v1 13 (ob (f_X4_runs v0 v1 (mI M 12 i187 (v1).toNatClampNeg) M) fun r192 => if r192 = 0 then (lt (v7 + (1 : Int32)) fun x196 => f_X4_scratch_69 k45 n v0 v1 v2 v3 v4 v5 (1 : Int32) x196 M) else (ob (mR M 0 v0 2) fun i200 => ix v1 13 (ob (mR M 0 v0 21) fun i204 => ix (((3 : Int32) * v4) + v7) 1800 (lt (sI M 28 i204 ((((3 : Int32) * v4) + v7)).toNatClampNeg (mI M 12 i200 (v1).toNatClampNeg)) fun M208 => lt (v7 + (1 : Int32)) fun x211 => f_X4_scratch_69 k45 n v0 v1 v2 v3 v4 v5 v6 x211 M208))))))) else (lt (v7 + (1 : Int32)) fun x176 => f_X4_scratch_69 k45 n v0 v1 v2 v3 v4 v5 (1 : Int32) x176 M)) else (lt (v7 + (1 : Int32)) fun x213 => f_X4_scratch_69 k45 n v0 v1 v2 v3 v4 v5 v6 x213 M))) else (lt (v7 + (1 : Int32)) fun x167 => f_X4_scratch_69 k45 n v0 v1 v2 v3 v4 v5 v6 x167 M)) else (f_X4_scratch_180 k45 v0 v1 v2 v3 v4 v6 M)))
def f_X4_scratch_45 : Nat → Nat → Int32 → Int32 → Int32 → Int32 → Mm → Option (Int32 × Mm)
  | 0, _, _, _, _, _, _ => none
  | n + 1, v0, v1, v2, v3, v4, M => if (mI M 0 v0 19) ≤ v4 then (some (v3, M)) else (ob (mR M 0 v0 20) fun i134 => ix v4 600 (lt (mI M 27 i134 (v4).toNatClampNeg) fun x138 => f_X4_scratch_69 (f_X4_scratch_45 n) FU v0 v1 v2 v3 v4 x138 (0 : Int32) (0 : Int32) M))
def f_X4_scratch (v0 : Nat) (v1 : Int32) (v2 : Int32) (M0 : Mm) : Option (Int32 × Mm) :=
  ob (f_X4_isRace v0 v1 M0) fun r109 => if r109 = 0 then (some ((-1 : Int32), M0)) else (ob (f_X4_runs v0 v1 v2 M0) fun r114 => if r114 = 0 then (some ((-1 : Int32), M0)) else (ob (mR M0 0 v0 1) fun i119 => ix v1 13 (if (mI M0 11 i119 (v1).toNatClampNeg) = 0 then (ob (mR M0 0 v0 3) fun i125 => ix (((25 : Int32) * v1) + v2) 325 (lt (sI M0 13 i125 ((((25 : Int32) * v1) + v2)).toNatClampNeg (1 : Int32)) fun M129 => f_X4_scratch_45 FU v0 v1 v2 (0 : Int32) (0 : Int32) M129)) else (some ((-1 : Int32), M0)))))
set_option maxRecDepth 100000 in
set_option maxHeartbeats 4000000 in
theorem t_X4_scratch_180 {p : Program} {l : Launch} {e : Env} {s : State} {m : MethodId} {args : Array Value} {below : List Frame} {meth : Method} {c : Code} {D : va_G} {cy : Nat → ClassId} {ad : Nat → Nat → Nat} {M0 : Mm} {r0 : Int32} {M' : Mm} (C : Cx RX4 cX4_scratch 8 (some .int) D cy (AA ad M0 s.heap.size) p s m args meth c) (k45 : Nat → Int32 → Int32 → Int32 → Int32 → Mm → Option (Int32 × Mm)) (hk45 : ∀ (v0 : Nat) (v1 : Int32) (v2 : Int32) (v3 : Int32) (v4 : Int32) (M : Mm) (H : Heap) (locs : List Loc) (ls : Array Slot), (mA M 0 v0 = true) → Keep M0 M → k45 v0 v1 v2 v3 v4 M = some (r0, M') → HP D cy (AA ad M0 s.heap.size) ad M H → va_S (AA ad M0 s.heap.size) s.heap H locs → lv_has ls 8 [(0, .ref (ad 0 v0)), (1, .int v1), (2, .int v2), (3, .int v3), (4, .int v4)] → W p l e { frames := 3, cells := 0, slots := 0, locals := 66 } s m args below meth c H locs 0 0 (MQ below (QI D cy ad M0 s.heap.size r0 M') args s 0 0 (AA ad M0 s.heap.size)) (F0 m 45 ls [])) : ∀ (v0 : Nat) (v1 : Int32) (v2 : Int32) (v3 : Int32) (v4 : Int32) (v6 : Int32) (M : Mm) (H : Heap) (locs : List Loc) (ls : Array Slot), (mA M 0 v0 = true) → Keep M0 M → f_X4_scratch_180 k45 v0 v1 v2 v3 v4 v6 M = some (r0, M') → HP D cy (AA ad M0 s.heap.size) ad M H → va_S (AA ad M0 s.heap.size) s.heap H locs → lv_has ls 8 [(0, .ref (ad 0 v0)), (1, .int v1), (2, .int v2), (3, .int v3), (4, .int v4), (6, .int v6)] → W p l e { frames := 3, cells := 0, slots := 0, locals := 66 } s m args below meth c H locs 0 0 (MQ below (QI D cy ad M0 s.heap.size r0 M') args s 0 0 (AA ad M0 s.heap.size)) (F0 m 180 ls []) := by
  obtain ⟨hx, hb, hr, hml, hown, hts, hlocks, hK, hN, hA⟩ := id C
  intro v0 v1 v2 v3 v4 v6 M H locs ls a0 hk hf hP hS hl
  unfold f_X4_scratch_180 at hf
  refine lv_iload hx hb dX4_scratch_180 (lv_at hl 5 rfl) ?_
  refine lv_if_ne (tgt := 188) hx hb dX4_scratch_182 (by decide) (fun c145 => ?_) (fun c145 => ?_)
  · have hf := if_f hf c145
    refine lv_aload_n hx hb dX4_scratch_188 rfl (lv_at hl 0 rfl) ?_
    refine lv_iload hx hb dX4_scratch_189 (lv_at hl 4 rfl) ?_
    obtain ⟨M148, e146, hf⟩ := ob_some hf
    refine hp_callv (va_runV (As := [.int v4]) (rest := []) ⟨hx, hb, hml, hown, hts⟩ (ok_X4_refunds l D cy ad M _ v0 v4 M148 a0 e146) (cwV 1 hts (gdV q784 q786 q63 q86 q787) rfl rfl rfl (by decide +kernel) ⟨Nat.le_of_ble_eq_true rfl, Nat.le_of_ble_eq_true rfl⟩) (pre_V hP hK hN a0 ds_0 rfl) rfl rfl hl.1 rfl (lv_room (Nat.le_of_ble_eq_true rfl)) dX4_scratch_191 ⟨Nat.le_of_ble_eq_true rfl, Nat.le_of_ble_eq_true rfl⟩) hP hS hA (fun H locs hP hS hk149 => ?_)
    obtain ⟨x150, e151, hf⟩ := lt_some hf
    refine lv_iinc (v := x150) (lv' := [(3, .int x150), (0, .ref (ad 0 v0)), (1, .int v1), (2, .int v2), (4, .int v4), (6, .int v6)]) hx hb dX4_scratch_194 hl (k := 3) rfl (by rw [e151]; rfl) (by decide) rfl (fun ls hl => ?_)
    obtain ⟨x152, e153, hf⟩ := lt_some hf
    refine lv_iinc (v := x152) (lv' := [(4, .int x152), (3, .int x150), (0, .ref (ad 0 v0)), (1, .int v1), (2, .int v2), (6, .int v6)]) hx hb dX4_scratch_197 hl (k := 4) rfl (by rw [e153]; rfl) (by decide) rfl (fun ls hl => ?_)
    refine lv_goto (tgt := 45) hx hb dX4_scratch_200 (by decide) ?_
    exact hk45 v0 v1 v2 x150 x152 M148 _ _ _ (hk149 _ _ a0) (kt hk hk149) hf hP hS (lv_sub hl [2, 3, 4, 1, 0] rfl)
  · have hf := if_t hf c145
    refine lv_goto (tgt := 197) hx hb dX4_scratch_185 (by decide) ?_
    obtain ⟨x154, e155, hf⟩ := lt_some hf
    refine lv_iinc (v := x154) (lv' := [(4, .int x154), (0, .ref (ad 0 v0)), (1, .int v1), (2, .int v2), (3, .int v3), (6, .int v6)]) hx hb dX4_scratch_197 hl (k := 4) rfl (by rw [e155]; rfl) (by decide) rfl (fun ls hl => ?_)
    refine lv_goto (tgt := 45) hx hb dX4_scratch_200 (by decide) ?_
    exact hk45 v0 v1 v2 v3 x154 M _ _ _ a0 hk hf hP hS (lv_sub hl [1, 2, 3, 4, 0] rfl)
set_option maxRecDepth 100000 in
set_option maxHeartbeats 4000000 in
theorem t_X4_scratch_69 {p : Program} {l : Launch} {e : Env} {s : State} {m : MethodId} {args : Array Value} {below : List Frame} {meth : Method} {c : Code} {D : va_G} {cy : Nat → ClassId} {ad : Nat → Nat → Nat} {M0 : Mm} {r0 : Int32} {M' : Mm} (C : Cx RX4 cX4_scratch 8 (some .int) D cy (AA ad M0 s.heap.size) p s m args meth c) (k45 : Nat → Int32 → Int32 → Int32 → Int32 → Mm → Option (Int32 × Mm)) (hk45 : ∀ (v0 : Nat) (v1 : Int32) (v2 : Int32) (v3 : Int32) (v4 : Int32) (M : Mm) (H : Heap) (locs : List Loc) (ls : Array Slot), (mA M 0 v0 = true) → Keep M0 M → k45 v0 v1 v2 v3 v4 M = some (r0, M') → HP D cy (AA ad M0 s.heap.size) ad M H → va_S (AA ad M0 s.heap.size) s.heap H locs → lv_has ls 8 [(0, .ref (ad 0 v0)), (1, .int v1), (2, .int v2), (3, .int v3), (4, .int v4)] → W p l e { frames := 3, cells := 0, slots := 0, locals := 66 } s m args below meth c H locs 0 0 (MQ below (QI D cy ad M0 s.heap.size r0 M') args s 0 0 (AA ad M0 s.heap.size)) (F0 m 45 ls [])) : ∀ (n : Nat), ∀ (v0 : Nat) (v1 : Int32) (v2 : Int32) (v3 : Int32) (v4 : Int32) (v5 : Int32) (v6 : Int32) (v7 : Int32) (M : Mm) (H : Heap) (locs : List Loc) (ls : Array Slot), (mA M 0 v0 = true) → Keep M0 M → f_X4_scratch_69 k45 n v0 v1 v2 v3 v4 v5 v6 v7 M = some (r0, M') → HP D cy (AA ad M0 s.heap.size) ad M H → va_S (AA ad M0 s.heap.size) s.heap H locs → lv_has ls 8 [(0, .ref (ad 0 v0)), (1, .int v1), (2, .int v2), (3, .int v3), (4, .int v4), (5, .int v5), (6, .int v6), (7, .int v7)] → W p l e { frames := 3, cells := 0, slots := 0, locals := 66 } s m args below meth c H locs 0 0 (MQ below (QI D cy ad M0 s.heap.size r0 M') args s 0 0 (AA ad M0 s.heap.size)) (F0 m 69 ls []) := by
  obtain ⟨hx, hb, hr, hml, hown, hts, hlocks, hK, hN, hA⟩ := id C
  intro n
  induction n with
  | zero =>
    intro v0 v1 v2 v3 v4 v5 v6 v7 M H locs ls a0 hk hf hP hS hl
    simp [f_X4_scratch_69] at hf
  | succ n ih =>
    intro v0 v1 v2 v3 v4 v5 v6 v7 M H locs ls a0 hk hf hP hS hl
    rw [f_X4_scratch_69] at hf
    refine lv_iload hx hb dX4_scratch_69 (lv_at hl 7 rfl) ?_
    refine lv_iload hx hb dX4_scratch_71 (lv_at hl 5 rfl) ?_
    obtain ⟨r141, e140, hf⟩ := ob_some hf
    refine hp_calli (va_runS (As := [.int v5]) (rest := [.int v7]) ⟨hx, hb, hml, hown, hts⟩ (ok_X4_many l D cy ad M _ v5 r141  e140) (va_cwS 1 hts (gdS q766 q767 q86 q768) rfl rfl rfl (by decide +kernel) ⟨Nat.le_of_ble_eq_true rfl, Nat.le_of_ble_eq_true rfl⟩) (pre_S hP hK hN) rfl rfl hl.1 rfl (lv_room (Nat.le_of_ble_eq_true rfl)) dX4_scratch_73 ⟨Nat.le_of_ble_eq_true rfl, Nat.le_of_ble_eq_true rfl⟩) hP hS hA (fun H locs hP hS _ => ?_)
    refine lv_icmp_ge (tgt := 180) hx hb dX4_scratch_76 (by decide) (fun c144 => ?_) (fun c144 => ?_)
    · have hf := if_t hf c144
      exact t_X4_scratch_180 C k45 hk45 v0 v1 v2 v3 v4 v6 M _ _ _ a0 hk hf hP hS (lv_sub hl [0, 1, 2, 3, 4, 6] rfl)
    · have hf := if_f hf c144
      refine lv_aload_n hx hb dX4_scratch_79 rfl (lv_at hl 0 rfl) ?_
      have h156 : ∀ j : Nat, (mR M 0 v0 23) = some j → mA M 30 j = true := fun j hj => hp_wf hP a0 hj
      refine gf0 (v := va_rf (((mR M 0 v0 23)).map (ad 30))) hx hb hts hown hK hP a0 23 (by decide) (hts _ q628) rfl rfl dX4_scratch_80 ?_
      refine lv_iload hx hb dX4_scratch_83 (lv_at hl 4 rfl) ?_
      obtain ⟨i157, e158, hf⟩ := ob_some hf
      have h159 : mA M 30 i157 = true := h156 i157 e158
      refine W_stk (st := [.int v4, va_rf (((mR M 0 v0 23)).map (ad 30))]) (st' := [.int v4, .ref (ad 30 i157)]) (by first | (rw [e158]; done) | (rw [e158]; rfl)) ?_
      obtain ⟨h160, hf⟩ := ix_some hf
      refine hp_iald hx hb hK hP h159 rfl h160 dX4_scratch_85 ?_
      refine lv_if_ne (tgt := 180) hx hb dX4_scratch_86 (by decide) (fun c161 => ?_) (fun c161 => ?_)
      · have hf := if_f hf c161
        exact t_X4_scratch_180 C k45 hk45 v0 v1 v2 v3 v4 v6 M _ _ _ a0 hk hf hP hS (lv_sub hl [0, 1, 2, 3, 4, 6] rfl)
      · have hf := if_t hf c161
        refine lv_aload_n hx hb dX4_scratch_89 rfl (lv_at hl 0 rfl) ?_
        refine lv_iload hx hb dX4_scratch_90 (lv_at hl 5 rfl) ?_
        refine lv_iload hx hb dX4_scratch_92 (lv_at hl 7 rfl) ?_
        obtain ⟨r163, e162, hf⟩ := ob_some hf
        refine hp_calli (va_runV (As := [.int v5, .int v7]) (rest := []) ⟨hx, hb, hml, hown, hts⟩ (ok_X4_raceOf l D cy ad M _ v0 v5 v7 r163 a0 e162) (cwV 2 hts (gdV q754 q756 q59 q86 q757) rfl rfl rfl (by decide +kernel) ⟨Nat.le_of_ble_eq_true rfl, Nat.le_of_ble_eq_true rfl⟩) (pre_V hP hK hN a0 ds_0 rfl) rfl rfl hl.1 rfl (lv_room (Nat.le_of_ble_eq_true rfl)) dX4_scratch_94 ⟨Nat.le_of_ble_eq_true rfl, Nat.le_of_ble_eq_true rfl⟩) hP hS hA (fun H locs hP hS _ => ?_)
        refine lv_iload_n hx hb dX4_scratch_97 rfl (lv_at hl 1 rfl) ?_
        refine lv_icmp_ne (tgt := 174) hx hb dX4_scratch_98 (by decide) (fun c166 => ?_) (fun c166 => ?_)
        · have hf := if_f hf c166
          obtain ⟨x167, e168, hf⟩ := lt_some hf
          refine lv_iinc (v := x167) (lv' := [(7, .int x167), (0, .ref (ad 0 v0)), (1, .int v1), (2, .int v2), (3, .int v3), (4, .int v4), (5, .int v5), (6, .int v6)]) hx hb dX4_scratch_174 hl (k := 7) rfl (by rw [e168]; rfl) (by decide) rfl (fun ls hl => ?_)
          refine lv_goto (tgt := 69) hx hb dX4_scratch_177 (by decide) ?_
          exact ih v0 v1 v2 v3 v4 v5 v6 x167 M _ _ _ a0 hk hf hP hS (lv_sub hl [1, 2, 3, 4, 5, 6, 7, 0] rfl)
        · have hf := if_t hf c166
          refine lv_aload_n hx hb dX4_scratch_101 rfl (lv_at hl 0 rfl) ?_
          have h169 : ∀ j : Nat, (mR M 0 v0 21) = some j → mA M 28 j = true := fun j hj => hp_wf hP a0 hj
          refine gf0 (v := va_rf (((mR M 0 v0 21)).map (ad 28))) hx hb hts hown hK hP a0 21 (by decide) (hts _ q626) rfl rfl dX4_scratch_102 ?_
          refine lv_iconst (v := (3 : Int32)) hx hb dX4_scratch_105 (by decide) ?_
          refine lv_iload hx hb dX4_scratch_106 (lv_at hl 4 rfl) ?_
          refine lv_imul hx hb dX4_scratch_108 ?_
          refine lv_iload hx hb dX4_scratch_109 (lv_at hl 7 rfl) ?_
          refine lv_iadd hx hb dX4_scratch_111 ?_
          obtain ⟨i170, e171, hf⟩ := ob_some hf
          have h172 : mA M 28 i170 = true := h169 i170 e171
          refine W_stk (st := [.int (((3 : Int32) * v4) + v7), va_rf (((mR M 0 v0 21)).map (ad 28))]) (st' := [.int (((3 : Int32) * v4) + v7), .ref (ad 28 i170)]) (by first | (rw [e171]; done) | (rw [e171]; rfl)) ?_
          obtain ⟨h173, hf⟩ := ix_some hf
          refine hp_iald hx hb hK hP h172 rfl h173 dX4_scratch_112 ?_
          refine lv_iload_n hx hb dX4_scratch_113 rfl (lv_at hl 2 rfl) ?_
          refine lv_icmp_eq (tgt := 120) hx hb dX4_scratch_114 (by decide) (fun c174 => ?_) (fun c174 => ?_)
          · have hf := if_t hf c174
            refine lv_iload hx hb dX4_scratch_120 (lv_at hl 5 rfl) ?_
            refine lv_bipush (v := (52 : Int32)) hx hb dX4_scratch_122 (by decide) ?_
            refine lv_icmp_ne (tgt := 171) hx hb dX4_scratch_124 (by decide) (fun c175 => ?_) (fun c175 => ?_)
            · have hf := if_f hf c175
              refine lv_iconst (v := (1 : Int32)) hx hb dX4_scratch_171 (by decide) ?_
              refine lv_istore (lv' := [(6, .int (1 : Int32)), (0, .ref (ad 0 v0)), (1, .int v1), (2, .int v2), (3, .int v3), (4, .int v4), (5, .int v5), (7, .int v7)]) hx hb dX4_scratch_172 hl (by decide) rfl (fun ls hl => ?_)
              obtain ⟨x176, e177, hf⟩ := lt_some hf
              refine lv_iinc (v := x176) (lv' := [(7, .int x176), (6, .int (1 : Int32)), (0, .ref (ad 0 v0)), (1, .int v1), (2, .int v2), (3, .int v3), (4, .int v4), (5, .int v5)]) hx hb dX4_scratch_174 hl (k := 7) rfl (by rw [e177]; rfl) (by decide) rfl (fun ls hl => ?_)
              refine lv_goto (tgt := 69) hx hb dX4_scratch_177 (by decide) ?_
              exact ih v0 v1 v2 v3 v4 v5 (1 : Int32) x176 M _ _ _ a0 hk hf hP hS (lv_sub hl [2, 3, 4, 5, 6, 7, 1, 0] rfl)
            · have hf := if_t hf c175
              refine lv_aload_n hx hb dX4_scratch_127 rfl (lv_at hl 0 rfl) ?_
              have h178 : ∀ j : Nat, (mR M 0 v0 2) = some j → mA M 12 j = true := fun j hj => hp_wf hP a0 hj
              refine gf0 (v := va_rf (((mR M 0 v0 2)).map (ad 12))) hx hb hts hown hK hP a0 2 (by decide) (hts _ q607) rfl rfl dX4_scratch_128 ?_
              refine lv_iload_n hx hb dX4_scratch_131 rfl (lv_at hl 1 rfl) ?_
              obtain ⟨i179, e180, hf⟩ := ob_some hf
              have h181 : mA M 12 i179 = true := h178 i179 e180
              refine W_stk (st := [.int v1, va_rf (((mR M 0 v0 2)).map (ad 12))]) (st' := [.int v1, .ref (ad 12 i179)]) (by first | (rw [e180]; done) | (rw [e180]; rfl)) ?_
              obtain ⟨h182, hf⟩ := ix_some hf
              refine hp_iald hx hb hK hP h181 rfl h182 dX4_scratch_132 ?_
              refine lv_if_le (tgt := 171) hx hb dX4_scratch_133 (by decide) (fun c183 => ?_) (fun c183 => ?_)
              · have hf := if_t hf c183
                refine lv_iconst (v := (1 : Int32)) hx hb dX4_scratch_171 (by decide) ?_
                refine lv_istore (lv' := [(6, .int (1 : Int32)), (0, .ref (ad 0 v0)), (1, .int v1), (2, .int v2), (3, .int v3), (4, .int v4), (5, .int v5), (7, .int v7)]) hx hb dX4_scratch_172 hl (by decide) rfl (fun ls hl => ?_)
                obtain ⟨x184, e185, hf⟩ := lt_some hf
                refine lv_iinc (v := x184) (lv' := [(7, .int x184), (6, .int (1 : Int32)), (0, .ref (ad 0 v0)), (1, .int v1), (2, .int v2), (3, .int v3), (4, .int v4), (5, .int v5)]) hx hb dX4_scratch_174 hl (k := 7) rfl (by rw [e185]; rfl) (by decide) rfl (fun ls hl => ?_)
                refine lv_goto (tgt := 69) hx hb dX4_scratch_177 (by decide) ?_
                exact ih v0 v1 v2 v3 v4 v5 (1 : Int32) x184 M _ _ _ a0 hk hf hP hS (lv_sub hl [2, 3, 4, 5, 6, 7, 1, 0] rfl)
              · have hf := if_f hf c183
                refine lv_aload_n hx hb dX4_scratch_136 rfl (lv_at hl 0 rfl) ?_
                refine lv_iload_n hx hb dX4_scratch_137 rfl (lv_at hl 1 rfl) ?_
                refine lv_aload_n hx hb dX4_scratch_138 rfl (lv_at hl 0 rfl) ?_
                have h186 : ∀ j : Nat, (mR M 0 v0 2) = some j → mA M 12 j = true := fun j hj => hp_wf hP a0 hj
                refine gf0 (v := va_rf (((mR M 0 v0 2)).map (ad 12))) hx hb hts hown hK hP a0 2 (by decide) (hts _ q607) rfl rfl dX4_scratch_139 ?_
                refine lv_iload_n hx hb dX4_scratch_142 rfl (lv_at hl 1 rfl) ?_
                obtain ⟨i187, e188, hf⟩ := ob_some hf
                have h189 : mA M 12 i187 = true := h186 i187 e188
                refine W_stk (st := [.int v1, va_rf (((mR M 0 v0 2)).map (ad 12)), .int v1, .ref (ad 0 v0)]) (st' := [.int v1, .ref (ad 12 i187), .int v1, .ref (ad 0 v0)]) (by first | (rw [e188]; done) | (rw [e188]; rfl)) ?_
                obtain ⟨h190, hf⟩ := ix_some hf
                refine hp_iald hx hb hK hP h189 rfl h190 dX4_scratch_143 ?_
                obtain ⟨r192, e191, hf⟩ := ob_some hf
                refine hp_calli (va_runV (As := [.int v1, .int (mI M 12 i187 (v1).toNatClampNeg)]) (rest := []) ⟨hx, hb, hml, hown, hts⟩ (ok_X4_runs l D cy ad M _ v0 v1 (mI M 12 i187 (v1).toNatClampNeg) r192 a0 e191) (cwV 2 hts (gdV q734 q736 q55 q86 q737) rfl rfl rfl (by decide +kernel) ⟨Nat.le_of_ble_eq_true rfl, Nat.le_of_ble_eq_true rfl⟩) (pre_V hP hK hN a0 ds_0 rfl) rfl rfl hl.1 rfl (lv_room (Nat.le_of_ble_eq_true rfl)) dX4_scratch_144 ⟨Nat.le_of_ble_eq_true rfl, Nat.le_of_ble_eq_true rfl⟩) hP hS hA (fun H locs hP hS _ => ?_)
                refine lv_if_eq (tgt := 171) hx hb dX4_scratch_147 (by decide) (fun c195 => ?_) (fun c195 => ?_)
                · have hf := if_t hf c195
                  refine lv_iconst (v := (1 : Int32)) hx hb dX4_scratch_171 (by decide) ?_
                  refine lv_istore (lv' := [(6, .int (1 : Int32)), (0, .ref (ad 0 v0)), (1, .int v1), (2, .int v2), (3, .int v3), (4, .int v4), (5, .int v5), (7, .int v7)]) hx hb dX4_scratch_172 hl (by decide) rfl (fun ls hl => ?_)
                  obtain ⟨x196, e197, hf⟩ := lt_some hf
                  refine lv_iinc (v := x196) (lv' := [(7, .int x196), (6, .int (1 : Int32)), (0, .ref (ad 0 v0)), (1, .int v1), (2, .int v2), (3, .int v3), (4, .int v4), (5, .int v5)]) hx hb dX4_scratch_174 hl (k := 7) rfl (by rw [e197]; rfl) (by decide) rfl (fun ls hl => ?_)
                  refine lv_goto (tgt := 69) hx hb dX4_scratch_177 (by decide) ?_
                  exact ih v0 v1 v2 v3 v4 v5 (1 : Int32) x196 M _ _ _ a0 hk hf hP hS (lv_sub hl [2, 3, 4, 5, 6, 7, 1, 0] rfl)
                · have hf := if_f hf c195
                  refine lv_aload_n hx hb dX4_scratch_150 rfl (lv_at hl 0 rfl) ?_
                  have h198 : ∀ j : Nat, (mR M 0 v0 21) = some j → mA M 28 j = true := fun j hj => hp_wf hP a0 hj
                  refine gf0 (v := va_rf (((mR M 0 v0 21)).map (ad 28))) hx hb hts hown hK hP a0 21 (by decide) (hts _ q626) rfl rfl dX4_scratch_151 ?_
                  refine lv_iconst (v := (3 : Int32)) hx hb dX4_scratch_154 (by decide) ?_
                  refine lv_iload hx hb dX4_scratch_155 (lv_at hl 4 rfl) ?_
                  refine lv_imul hx hb dX4_scratch_157 ?_
                  refine lv_iload hx hb dX4_scratch_158 (lv_at hl 7 rfl) ?_
                  refine lv_iadd hx hb dX4_scratch_160 ?_
                  refine lv_aload_n hx hb dX4_scratch_161 rfl (lv_at hl 0 rfl) ?_
                  have h199 : ∀ j : Nat, (mR M 0 v0 2) = some j → mA M 12 j = true := fun j hj => hp_wf hP a0 hj
                  refine gf0 (v := va_rf (((mR M 0 v0 2)).map (ad 12))) hx hb hts hown hK hP a0 2 (by decide) (hts _ q607) rfl rfl dX4_scratch_162 ?_
                  refine lv_iload_n hx hb dX4_scratch_165 rfl (lv_at hl 1 rfl) ?_
                  obtain ⟨i200, e201, hf⟩ := ob_some hf
                  have h202 : mA M 12 i200 = true := h199 i200 e201
                  refine W_stk (st := [.int v1, va_rf (((mR M 0 v0 2)).map (ad 12)), .int (((3 : Int32) * v4) + v7), va_rf (((mR M 0 v0 21)).map (ad 28))]) (st' := [.int v1, .ref (ad 12 i200), .int (((3 : Int32) * v4) + v7), va_rf (((mR M 0 v0 21)).map (ad 28))]) (by first | (rw [e201]; done) | (rw [e201]; rfl)) ?_
                  obtain ⟨h203, hf⟩ := ix_some hf
                  refine hp_iald hx hb hK hP h202 rfl h203 dX4_scratch_166 ?_
                  obtain ⟨i204, e205, hf⟩ := ob_some hf
                  have h206 : mA M 28 i204 = true := h198 i204 e205
                  refine W_stk (st := [.int (mI M 12 i200 (v1).toNatClampNeg), .int (((3 : Int32) * v4) + v7), va_rf (((mR M 0 v0 21)).map (ad 28))]) (st' := [.int (mI M 12 i200 (v1).toNatClampNeg), .int (((3 : Int32) * v4) + v7), .ref (ad 28 i204)]) (by first | (rw [e205]; done) | (rw [e205]; rfl)) ?_
                  obtain ⟨h207, hf⟩ := ix_some hf
                  obtain ⟨M208, e209, hf⟩ := lt_some hf
                  have hk210 : Keep M M208 := keI e209
                  refine hp_iast hx hb hK hP hS h206 rfl h207 dX4_scratch_167 (fun H locs hP hS => ?_)
                  rw [← e209] at hP
                  refine lv_goto (tgt := 174) hx hb dX4_scratch_168 (by decide) ?_
                  obtain ⟨x211, e212, hf⟩ := lt_some hf
                  refine lv_iinc (v := x211) (lv' := [(7, .int x211), (0, .ref (ad 0 v0)), (1, .int v1), (2, .int v2), (3, .int v3), (4, .int v4), (5, .int v5), (6, .int v6)]) hx hb dX4_scratch_174 hl (k := 7) rfl (by rw [e212]; rfl) (by decide) rfl (fun ls hl => ?_)
                  refine lv_goto (tgt := 69) hx hb dX4_scratch_177 (by decide) ?_
                  exact ih v0 v1 v2 v3 v4 v5 v6 x211 M208 _ _ _ (hk210 _ _ a0) (kt hk hk210) hf hP hS (lv_sub hl [1, 2, 3, 4, 5, 6, 7, 0] rfl)
          · have hf := if_f hf c174
            refine lv_goto (tgt := 174) hx hb dX4_scratch_117 (by decide) ?_
            obtain ⟨x213, e214, hf⟩ := lt_some hf
            refine lv_iinc (v := x213) (lv' := [(7, .int x213), (0, .ref (ad 0 v0)), (1, .int v1), (2, .int v2), (3, .int v3), (4, .int v4), (5, .int v5), (6, .int v6)]) hx hb dX4_scratch_174 hl (k := 7) rfl (by rw [e214]; rfl) (by decide) rfl (fun ls hl => ?_)
            refine lv_goto (tgt := 69) hx hb dX4_scratch_177 (by decide) ?_
            exact ih v0 v1 v2 v3 v4 v5 v6 x213 M _ _ _ a0 hk hf hP hS (lv_sub hl [1, 2, 3, 4, 5, 6, 7, 0] rfl)
set_option maxRecDepth 100000 in
set_option maxHeartbeats 4000000 in
theorem t_X4_scratch_45 {p : Program} {l : Launch} {e : Env} {s : State} {m : MethodId} {args : Array Value} {below : List Frame} {meth : Method} {c : Code} {D : va_G} {cy : Nat → ClassId} {ad : Nat → Nat → Nat} {M0 : Mm} {r0 : Int32} {M' : Mm} (C : Cx RX4 cX4_scratch 8 (some .int) D cy (AA ad M0 s.heap.size) p s m args meth c) : ∀ (n : Nat), ∀ (v0 : Nat) (v1 : Int32) (v2 : Int32) (v3 : Int32) (v4 : Int32) (M : Mm) (H : Heap) (locs : List Loc) (ls : Array Slot), (mA M 0 v0 = true) → Keep M0 M → f_X4_scratch_45 n v0 v1 v2 v3 v4 M = some (r0, M') → HP D cy (AA ad M0 s.heap.size) ad M H → va_S (AA ad M0 s.heap.size) s.heap H locs → lv_has ls 8 [(0, .ref (ad 0 v0)), (1, .int v1), (2, .int v2), (3, .int v3), (4, .int v4)] → W p l e { frames := 3, cells := 0, slots := 0, locals := 66 } s m args below meth c H locs 0 0 (MQ below (QI D cy ad M0 s.heap.size r0 M') args s 0 0 (AA ad M0 s.heap.size)) (F0 m 45 ls []) := by
  obtain ⟨hx, hb, hr, hml, hown, hts, hlocks, hK, hN, hA⟩ := id C
  intro n
  induction n with
  | zero =>
    intro v0 v1 v2 v3 v4 M H locs ls a0 hk hf hP hS hl
    simp [f_X4_scratch_45] at hf
  | succ n ih =>
    intro v0 v1 v2 v3 v4 M H locs ls a0 hk hf hP hS hl
    rw [f_X4_scratch_45] at hf
    refine lv_iload hx hb dX4_scratch_45 (lv_at hl 4 rfl) ?_
    refine lv_aload_n hx hb dX4_scratch_47 rfl (lv_at hl 0 rfl) ?_
    refine gf0 (v := .int (mI M 0 v0 19)) hx hb hts hown hK hP a0 19 (by decide) (hts _ q624) rfl rfl dX4_scratch_48 ?_
    refine lv_icmp_ge (tgt := 203) hx hb dX4_scratch_51 (by decide) (fun c132 => ?_) (fun c132 => ?_)
    · have hf := if_t hf c132
      refine lv_iload_n hx hb dX4_scratch_203 rfl (lv_at hl 3 rfl) ?_
      exact hp_iret hx hb hr hlocks (congrArg Prod.fst (Option.some.inj hf)) (congrArg Prod.snd (Option.some.inj hf)) hP hS hk dX4_scratch_204
    · have hf := if_f hf c132
      refine lv_aload_n hx hb dX4_scratch_54 rfl (lv_at hl 0 rfl) ?_
      have h133 : ∀ j : Nat, (mR M 0 v0 20) = some j → mA M 27 j = true := fun j hj => hp_wf hP a0 hj
      refine gf0 (v := va_rf (((mR M 0 v0 20)).map (ad 27))) hx hb hts hown hK hP a0 20 (by decide) (hts _ q625) rfl rfl dX4_scratch_55 ?_
      refine lv_iload hx hb dX4_scratch_58 (lv_at hl 4 rfl) ?_
      obtain ⟨i134, e135, hf⟩ := ob_some hf
      have h136 : mA M 27 i134 = true := h133 i134 e135
      refine W_stk (st := [.int v4, va_rf (((mR M 0 v0 20)).map (ad 27))]) (st' := [.int v4, .ref (ad 27 i134)]) (by first | (rw [e135]; done) | (rw [e135]; rfl)) ?_
      obtain ⟨h137, hf⟩ := ix_some hf
      refine hp_iald hx hb hK hP h136 rfl h137 dX4_scratch_60 ?_
      obtain ⟨x138, e139, hf⟩ := lt_some hf
      refine W_topI e139 ?_
      refine lv_istore (lv' := [(5, .int x138), (0, .ref (ad 0 v0)), (1, .int v1), (2, .int v2), (3, .int v3), (4, .int v4)]) hx hb dX4_scratch_61 hl (by decide) rfl (fun ls hl => ?_)
      refine lv_iconst (v := (0 : Int32)) hx hb dX4_scratch_63 (by decide) ?_
      refine lv_istore (lv' := [(6, .int (0 : Int32)), (5, .int x138), (0, .ref (ad 0 v0)), (1, .int v1), (2, .int v2), (3, .int v3), (4, .int v4)]) hx hb dX4_scratch_64 hl (by decide) rfl (fun ls hl => ?_)
      refine lv_iconst (v := (0 : Int32)) hx hb dX4_scratch_66 (by decide) ?_
      refine lv_istore (lv' := [(7, .int (0 : Int32)), (6, .int (0 : Int32)), (5, .int x138), (0, .ref (ad 0 v0)), (1, .int v1), (2, .int v2), (3, .int v3), (4, .int v4)]) hx hb dX4_scratch_67 hl (by decide) rfl (fun ls hl => ?_)
      exact t_X4_scratch_69 C (f_X4_scratch_45 n) ih FU v0 v1 v2 v3 v4 x138 (0 : Int32) (0 : Int32) M _ _ _ a0 hk hf hP hS (lv_sub hl [3, 4, 5, 6, 7, 2, 1, 0] rfl)
set_option maxRecDepth 100000 in
set_option maxHeartbeats 4000000 in
theorem ok_X4_scratch (l : Launch) (D : va_G) (cy : Nat → ClassId) (ad : Nat → Nat → Nat) (M0 : Mm) (sz : Nat) (v0 : Nat) (v1 : Int32) (v2 : Int32) (r0 : Int32) (M' : Mm) (a0 : mA M0 0 v0 = true) (hf : f_X4_scratch v0 v1 v2 M0 = some (r0, M')) : Met l yX4_scratch (Cond.code yX4_scratch cX4_scratch 8 (some .int) :: BW) { frames := 3, cells := 0, slots := 0, locals := 66 } (va_Pc [.ref (ad 0 v0), .int v1, .int v2] (PRE D cy ad M0 sz)) (QI D cy ad M0 sz r0 M') 0 0 (AA ad M0 sz) := by
  refine Met.ofW (cc := cX4_scratch) (maxL := 8) (ret := (some .int)) (by decide) rfl ?_
  intro p e s m args below meth c s₁ B hml hv
  obtain ⟨rfl, rfl, hP0, hK, hN⟩ := hv
  have hx := B.exec
  have hb := B.bytes
  have hr := B.returns
  have hts0 := atoms_spec (ws := (Cond.code yX4_scratch cX4_scratch 8 (some .int) :: BW)) B.pre
  have hts : ∀ w ∈ BW, w.before ([.ref (ad 0 v0), .int v1, .int v2] : List Value).toArray s = true := fun w h => hts0 w (List.mem_cons_of_mem _ h)
  have hown : s.vm.findClass RX4 = some m.cls := findClass_of_methodNamed B.named
  have hlocks := B.notSynchronized
  have hA : ∀ q : Nat, s.heap.size ≤ q → AA ad M0 s.heap.size q := fun q h => Or.inr h
  have C : Cx RX4 cX4_scratch 8 (some .int) D cy (AA ad M0 s.heap.size) p s m ([.ref (ad 0 v0), .int v1, .int v2] : List Value).toArray meth c := ⟨hx, hb, hr, hml, hown, hts, hlocks, hK, hN, hA⟩
  have hP := hp_self (sz := s.heap.size) hP0
  have hS : va_S (AA ad M0 s.heap.size) s.heap s.heap [] := va_S.rf
  have hl := lv_entry ([.ref (ad 0 v0), .int v1, .int v2]) (n := 8) (Nat.le_of_ble_eq_true rfl)
  rw [lg_entry_eq]
  generalize (lg_sl ([.ref (ad 0 v0), .int v1, .int v2]) ++ List.replicate (8 - (lg_sl ([.ref (ad 0 v0), .int v1, .int v2])).length) Slot.unset).toArray = ls at hl ⊢
  have hl : lv_has ls 8 [(0, .ref (ad 0 v0)), (1, .int v1), (2, .int v2)] := hl
  unfold f_X4_scratch at hf
  refine lv_aload_n hx hb dX4_scratch_0 rfl (lv_at hl 0 rfl) ?_
  refine lv_iload_n hx hb dX4_scratch_1 rfl (lv_at hl 1 rfl) ?_
  obtain ⟨r109, e108, hf⟩ := ob_some hf
  refine hp_calli (va_runV (As := [.int v1]) (rest := []) ⟨hx, hb, hml, hown, hts⟩ (ok_X4_isRace l D cy ad M0 _ v0 v1 r109 a0 e108) (cwV 1 hts (gdV q715 q717 q53 q86 q718) rfl rfl rfl (by decide +kernel) ⟨Nat.le_of_ble_eq_true rfl, Nat.le_of_ble_eq_true rfl⟩) (pre_V hP hK hN a0 ds_0 rfl) rfl rfl hl.1 rfl (lv_room (Nat.le_of_ble_eq_true rfl)) dX4_scratch_2 ⟨Nat.le_of_ble_eq_true rfl, Nat.le_of_ble_eq_true rfl⟩) hP hS hA (fun H locs hP hS _ => ?_)
  refine lv_if_eq (tgt := 26) hx hb dX4_scratch_5 (by decide) (fun c112 => ?_) (fun c112 => ?_)
  · have hf := if_t hf c112
    refine lv_iconst (v := (-1 : Int32)) hx hb dX4_scratch_26 (by decide) ?_
    exact hp_iret hx hb hr hlocks (congrArg Prod.fst (Option.some.inj hf)) (congrArg Prod.snd (Option.some.inj hf)) hP hS keep_rf dX4_scratch_27
  · have hf := if_f hf c112
    refine lv_aload_n hx hb dX4_scratch_8 rfl (lv_at hl 0 rfl) ?_
    refine lv_iload_n hx hb dX4_scratch_9 rfl (lv_at hl 1 rfl) ?_
    refine lv_iload_n hx hb dX4_scratch_10 rfl (lv_at hl 2 rfl) ?_
    obtain ⟨r114, e113, hf⟩ := ob_some hf
    refine hp_calli (va_runV (As := [.int v1, .int v2]) (rest := []) ⟨hx, hb, hml, hown, hts⟩ (ok_X4_runs l D cy ad M0 _ v0 v1 v2 r114 a0 e113) (cwV 2 hts (gdV q734 q736 q55 q86 q737) rfl rfl rfl (by decide +kernel) ⟨Nat.le_of_ble_eq_true rfl, Nat.le_of_ble_eq_true rfl⟩) (pre_V hP hK hN a0 ds_0 rfl) rfl rfl hl.1 rfl (lv_room (Nat.le_of_ble_eq_true rfl)) dX4_scratch_11 ⟨Nat.le_of_ble_eq_true rfl, Nat.le_of_ble_eq_true rfl⟩) hP hS hA (fun H locs hP hS _ => ?_)
    refine lv_if_eq (tgt := 26) hx hb dX4_scratch_14 (by decide) (fun c117 => ?_) (fun c117 => ?_)
    · have hf := if_t hf c117
      refine lv_iconst (v := (-1 : Int32)) hx hb dX4_scratch_26 (by decide) ?_
      exact hp_iret hx hb hr hlocks (congrArg Prod.fst (Option.some.inj hf)) (congrArg Prod.snd (Option.some.inj hf)) hP hS keep_rf dX4_scratch_27
    · have hf := if_f hf c117
      refine lv_aload_n hx hb dX4_scratch_17 rfl (lv_at hl 0 rfl) ?_
      have h118 : ∀ j : Nat, (mR M0 0 v0 1) = some j → mA M0 11 j = true := fun j hj => hp_wf hP a0 hj
      refine gf0 (v := va_rf (((mR M0 0 v0 1)).map (ad 11))) hx hb hts hown hK hP a0 1 (by decide) (hts _ q606) rfl rfl dX4_scratch_18 ?_
      refine lv_iload_n hx hb dX4_scratch_21 rfl (lv_at hl 1 rfl) ?_
      obtain ⟨i119, e120, hf⟩ := ob_some hf
      have h121 : mA M0 11 i119 = true := h118 i119 e120
      refine W_stk (st := [.int v1, va_rf (((mR M0 0 v0 1)).map (ad 11))]) (st' := [.int v1, .ref (ad 11 i119)]) (by first | (rw [e120]; done) | (rw [e120]; rfl)) ?_
      obtain ⟨h122, hf⟩ := ix_some hf
      refine hp_iald hx hb hK hP h121 rfl h122 dX4_scratch_22 ?_
      refine lv_if_eq (tgt := 28) hx hb dX4_scratch_23 (by decide) (fun c123 => ?_) (fun c123 => ?_)
      · have hf := if_t hf c123
        refine lv_aload_n hx hb dX4_scratch_28 rfl (lv_at hl 0 rfl) ?_
        have h124 : ∀ j : Nat, (mR M0 0 v0 3) = some j → mA M0 13 j = true := fun j hj => hp_wf hP a0 hj
        refine gf0 (v := va_rf (((mR M0 0 v0 3)).map (ad 13))) hx hb hts hown hK hP a0 3 (by decide) (hts _ q608) rfl rfl dX4_scratch_29 ?_
        refine lv_bipush (v := (25 : Int32)) hx hb dX4_scratch_32 (by decide) ?_
        refine lv_iload_n hx hb dX4_scratch_34 rfl (lv_at hl 1 rfl) ?_
        refine lv_imul hx hb dX4_scratch_35 ?_
        refine lv_iload_n hx hb dX4_scratch_36 rfl (lv_at hl 2 rfl) ?_
        refine lv_iadd hx hb dX4_scratch_37 ?_
        refine lv_iconst (v := (1 : Int32)) hx hb dX4_scratch_38 (by decide) ?_
        obtain ⟨i125, e126, hf⟩ := ob_some hf
        have h127 : mA M0 13 i125 = true := h124 i125 e126
        refine W_stk (st := [.int (1 : Int32), .int (((25 : Int32) * v1) + v2), va_rf (((mR M0 0 v0 3)).map (ad 13))]) (st' := [.int (1 : Int32), .int (((25 : Int32) * v1) + v2), .ref (ad 13 i125)]) (by first | (rw [e126]; done) | (rw [e126]; rfl)) ?_
        obtain ⟨h128, hf⟩ := ix_some hf
        obtain ⟨M129, e130, hf⟩ := lt_some hf
        have hk131 : Keep M0 M129 := keI e130
        refine hp_zast hx hb hK hP hS h127 rfl h128 rfl dX4_scratch_39 (fun H locs hP hS => ?_)
        rw [← e130] at hP
        refine lv_iconst (v := (0 : Int32)) hx hb dX4_scratch_40 (by decide) ?_
        refine lv_istore_n (lv' := [(3, .int (0 : Int32)), (0, .ref (ad 0 v0)), (1, .int v1), (2, .int v2)]) hx hb dX4_scratch_41 rfl hl (by decide) rfl (fun ls hl => ?_)
        refine lv_iconst (v := (0 : Int32)) hx hb dX4_scratch_42 (by decide) ?_
        refine lv_istore (lv' := [(4, .int (0 : Int32)), (3, .int (0 : Int32)), (0, .ref (ad 0 v0)), (1, .int v1), (2, .int v2)]) hx hb dX4_scratch_43 hl (by decide) rfl (fun ls hl => ?_)
        exact t_X4_scratch_45 C FU v0 v1 v2 (0 : Int32) (0 : Int32) M129 _ _ _ (hk131 _ _ a0) (kt keep_rf hk131) hf hP hS (lv_sub hl [2, 3, 4, 1, 0] rfl)
      · have hf := if_f hf c123
        refine lv_iconst (v := (-1 : Int32)) hx hb dX4_scratch_26 (by decide) ?_
        exact hp_iret hx hb hr hlocks (congrArg Prod.fst (Option.some.inj hf)) (congrArg Prod.snd (Option.some.inj hf)) hP hS keep_rf dX4_scratch_27

def f_X4_off (v0 : Nat) (v1 : Int32) (M0 : Mm) : Option (Int32 × Mm) :=
  ob (f_X4_isRace v0 v1 M0) fun r21 => if r21 = 0 then (some ((0 : Int32), M0)) else (ob (mR M0 0 v0 1) fun i26 => ix v1 13 (if (mI M0 11 i26 (v1).toNatClampNeg) = 0 then (ob (mR M0 0 v0 1) fun i32 => ix v1 13 (lt (sI M0 11 i32 (v1).toNatClampNeg (1 : Int32)) fun M36 => some ((1 : Int32), M36))) else (some ((0 : Int32), M0))))
set_option maxRecDepth 100000 in
set_option maxHeartbeats 4000000 in
theorem ok_X4_off (l : Launch) (D : va_G) (cy : Nat → ClassId) (ad : Nat → Nat → Nat) (M0 : Mm) (sz : Nat) (v0 : Nat) (v1 : Int32) (r0 : Int32) (M' : Mm) (a0 : mA M0 0 v0 = true) (hf : f_X4_off v0 v1 M0 = some (r0, M')) : Met l yX4_off (Cond.code yX4_off cX4_off 2 (some .boolean) :: BW) { frames := 2, cells := 0, slots := 0, locals := 43 } (va_Pc [.ref (ad 0 v0), .int v1] (PRE D cy ad M0 sz)) (QI D cy ad M0 sz r0 M') 0 0 (AA ad M0 sz) := by
  refine Met.ofW (cc := cX4_off) (maxL := 2) (ret := (some .boolean)) (by decide) rfl ?_
  intro p e s m args below meth c s₁ B hml hv
  obtain ⟨rfl, rfl, hP0, hK, hN⟩ := hv
  have hx := B.exec
  have hb := B.bytes
  have hr := B.returns
  have hts0 := atoms_spec (ws := (Cond.code yX4_off cX4_off 2 (some .boolean) :: BW)) B.pre
  have hts : ∀ w ∈ BW, w.before ([.ref (ad 0 v0), .int v1] : List Value).toArray s = true := fun w h => hts0 w (List.mem_cons_of_mem _ h)
  have hown : s.vm.findClass RX4 = some m.cls := findClass_of_methodNamed B.named
  have hlocks := B.notSynchronized
  have hA : ∀ q : Nat, s.heap.size ≤ q → AA ad M0 s.heap.size q := fun q h => Or.inr h
  have C : Cx RX4 cX4_off 2 (some .boolean) D cy (AA ad M0 s.heap.size) p s m ([.ref (ad 0 v0), .int v1] : List Value).toArray meth c := ⟨hx, hb, hr, hml, hown, hts, hlocks, hK, hN, hA⟩
  have hP := hp_self (sz := s.heap.size) hP0
  have hS : va_S (AA ad M0 s.heap.size) s.heap s.heap [] := va_S.rf
  have hl := lv_entry ([.ref (ad 0 v0), .int v1]) (n := 2) (Nat.le_of_ble_eq_true rfl)
  rw [lg_entry_eq]
  generalize (lg_sl ([.ref (ad 0 v0), .int v1]) ++ List.replicate (2 - (lg_sl ([.ref (ad 0 v0), .int v1])).length) Slot.unset).toArray = ls at hl ⊢
  have hl : lv_has ls 2 [(0, .ref (ad 0 v0)), (1, .int v1)] := hl
  unfold f_X4_off at hf
  refine lv_aload_n hx hb dX4_off_0 rfl (lv_at hl 0 rfl) ?_
  refine lv_iload_n hx hb dX4_off_1 rfl (lv_at hl 1 rfl) ?_
  obtain ⟨r21, e20, hf⟩ := ob_some hf
  refine hp_calli (va_runV (As := [.int v1]) (rest := []) ⟨hx, hb, hml, hown, hts⟩ (ok_X4_isRace l D cy ad M0 _ v0 v1 r21 a0 e20) (cwV 1 hts (gdV q715 q717 q53 q86 q718) rfl rfl rfl (by decide +kernel) ⟨Nat.le_of_ble_eq_true rfl, Nat.le_of_ble_eq_true rfl⟩) (pre_V hP hK hN a0 ds_0 rfl) rfl rfl hl.1 rfl (lv_room (Nat.le_of_ble_eq_true rfl)) dX4_off_2 ⟨Nat.le_of_ble_eq_true rfl, Nat.le_of_ble_eq_true rfl⟩) hP hS hA (fun H locs hP hS _ => ?_)
  refine lv_if_eq (tgt := 17) hx hb dX4_off_5 (by decide) (fun c24 => ?_) (fun c24 => ?_)
  · have hf := if_t hf c24
    refine lv_iconst (v := (0 : Int32)) hx hb dX4_off_17 (by decide) ?_
    exact hp_zret hx hb hr hlocks (Or.inl rfl) (congrArg Prod.fst (Option.some.inj hf)) (congrArg Prod.snd (Option.some.inj hf)) hP hS keep_rf dX4_off_18
  · have hf := if_f hf c24
    refine lv_aload_n hx hb dX4_off_8 rfl (lv_at hl 0 rfl) ?_
    have h25 : ∀ j : Nat, (mR M0 0 v0 1) = some j → mA M0 11 j = true := fun j hj => hp_wf hP a0 hj
    refine gf0 (v := va_rf (((mR M0 0 v0 1)).map (ad 11))) hx hb hts hown hK hP a0 1 (by decide) (hts _ q606) rfl rfl dX4_off_9 ?_
    refine lv_iload_n hx hb dX4_off_12 rfl (lv_at hl 1 rfl) ?_
    obtain ⟨i26, e27, hf⟩ := ob_some hf
    have h28 : mA M0 11 i26 = true := h25 i26 e27
    refine W_stk (st := [.int v1, va_rf (((mR M0 0 v0 1)).map (ad 11))]) (st' := [.int v1, .ref (ad 11 i26)]) (by first | (rw [e27]; done) | (rw [e27]; rfl)) ?_
    obtain ⟨h29, hf⟩ := ix_some hf
    refine hp_iald hx hb hK hP h28 rfl h29 dX4_off_13 ?_
    refine lv_if_eq (tgt := 19) hx hb dX4_off_14 (by decide) (fun c30 => ?_) (fun c30 => ?_)
    · have hf := if_t hf c30
      refine lv_aload_n hx hb dX4_off_19 rfl (lv_at hl 0 rfl) ?_
      have h31 : ∀ j : Nat, (mR M0 0 v0 1) = some j → mA M0 11 j = true := fun j hj => hp_wf hP a0 hj
      refine gf0 (v := va_rf (((mR M0 0 v0 1)).map (ad 11))) hx hb hts hown hK hP a0 1 (by decide) (hts _ q606) rfl rfl dX4_off_20 ?_
      refine lv_iload_n hx hb dX4_off_23 rfl (lv_at hl 1 rfl) ?_
      refine lv_iconst (v := (1 : Int32)) hx hb dX4_off_24 (by decide) ?_
      obtain ⟨i32, e33, hf⟩ := ob_some hf
      have h34 : mA M0 11 i32 = true := h31 i32 e33
      refine W_stk (st := [.int (1 : Int32), .int v1, va_rf (((mR M0 0 v0 1)).map (ad 11))]) (st' := [.int (1 : Int32), .int v1, .ref (ad 11 i32)]) (by first | (rw [e33]; done) | (rw [e33]; rfl)) ?_
      obtain ⟨h35, hf⟩ := ix_some hf
      obtain ⟨M36, e37, hf⟩ := lt_some hf
      have hk38 : Keep M0 M36 := keI e37
      refine hp_iast hx hb hK hP hS h34 rfl h35 dX4_off_25 (fun H locs hP hS => ?_)
      rw [← e37] at hP
      refine lv_iconst (v := (1 : Int32)) hx hb dX4_off_26 (by decide) ?_
      exact hp_zret hx hb hr hlocks (Or.inr rfl) (congrArg Prod.fst (Option.some.inj hf)) (congrArg Prod.snd (Option.some.inj hf)) hP hS (kt keep_rf hk38) dX4_off_27
    · have hf := if_f hf c30
      refine lv_iconst (v := (0 : Int32)) hx hb dX4_off_17 (by decide) ?_
      exact hp_zret hx hb hr hlocks (Or.inl rfl) (congrArg Prod.fst (Option.some.inj hf)) (congrArg Prod.snd (Option.some.inj hf)) hP hS keep_rf dX4_off_18

def f_X4_place (v0 : Nat) (v1 : Int32) (v2 : Int32) (v3 : Int32) (M0 : Mm) : Option (Int32 × Mm) :=
  ob (f_X4_isRace v0 v1 M0) fun r31 => if r31 = 0 then (some ((0 : Int32), M0)) else (ob (mR M0 0 v0 1) fun i36 => ix v1 13 (if (mI M0 11 i36 (v1).toNatClampNeg) = (1 : Int32) then (ob (f_X4_runs v0 v1 v3 M0) fun r42 => if r42 = 0 then (some ((0 : Int32), M0)) else (ob (f_X4_in v2 (0 : Int32) (24 : Int32) M0) fun r47 => if r47 = 0 then (some ((0 : Int32), M0)) else (ob (mR M0 0 v0 4) fun i52 => ix (((25 : Int32) * v1) + v3) 325 (lt (sI M0 14 i52 ((((25 : Int32) * v1) + v3)).toNatClampNeg v2) fun M56 => some ((1 : Int32), M56))))) else (some ((0 : Int32), M0))))
set_option maxRecDepth 100000 in
set_option maxHeartbeats 4000000 in
theorem ok_X4_place (l : Launch) (D : va_G) (cy : Nat → ClassId) (ad : Nat → Nat → Nat) (M0 : Mm) (sz : Nat) (v0 : Nat) (v1 : Int32) (v2 : Int32) (v3 : Int32) (r0 : Int32) (M' : Mm) (a0 : mA M0 0 v0 = true) (hf : f_X4_place v0 v1 v2 v3 M0 = some (r0, M')) : Met l yX4_place (Cond.code yX4_place cX4_place 4 (some .boolean) :: BW) { frames := 3, cells := 0, slots := 0, locals := 66 } (va_Pc [.ref (ad 0 v0), .int v1, .int v2, .int v3] (PRE D cy ad M0 sz)) (QI D cy ad M0 sz r0 M') 0 0 (AA ad M0 sz) := by
  refine Met.ofW (cc := cX4_place) (maxL := 4) (ret := (some .boolean)) (by decide) rfl ?_
  intro p e s m args below meth c s₁ B hml hv
  obtain ⟨rfl, rfl, hP0, hK, hN⟩ := hv
  have hx := B.exec
  have hb := B.bytes
  have hr := B.returns
  have hts0 := atoms_spec (ws := (Cond.code yX4_place cX4_place 4 (some .boolean) :: BW)) B.pre
  have hts : ∀ w ∈ BW, w.before ([.ref (ad 0 v0), .int v1, .int v2, .int v3] : List Value).toArray s = true := fun w h => hts0 w (List.mem_cons_of_mem _ h)
  have hown : s.vm.findClass RX4 = some m.cls := findClass_of_methodNamed B.named
  have hlocks := B.notSynchronized
  have hA : ∀ q : Nat, s.heap.size ≤ q → AA ad M0 s.heap.size q := fun q h => Or.inr h
  have C : Cx RX4 cX4_place 4 (some .boolean) D cy (AA ad M0 s.heap.size) p s m ([.ref (ad 0 v0), .int v1, .int v2, .int v3] : List Value).toArray meth c := ⟨hx, hb, hr, hml, hown, hts, hlocks, hK, hN, hA⟩
  have hP := hp_self (sz := s.heap.size) hP0
  have hS : va_S (AA ad M0 s.heap.size) s.heap s.heap [] := va_S.rf
  have hl := lv_entry ([.ref (ad 0 v0), .int v1, .int v2, .int v3]) (n := 4) (Nat.le_of_ble_eq_true rfl)
  rw [lg_entry_eq]
  generalize (lg_sl ([.ref (ad 0 v0), .int v1, .int v2, .int v3]) ++ List.replicate (4 - (lg_sl ([.ref (ad 0 v0), .int v1, .int v2, .int v3])).length) Slot.unset).toArray = ls at hl ⊢
  have hl : lv_has ls 4 [(0, .ref (ad 0 v0)), (1, .int v1), (2, .int v2), (3, .int v3)] := hl
  unfold f_X4_place at hf
  refine lv_aload_n hx hb dX4_place_0 rfl (lv_at hl 0 rfl) ?_
  refine lv_iload_n hx hb dX4_place_1 rfl (lv_at hl 1 rfl) ?_
  obtain ⟨r31, e30, hf⟩ := ob_some hf
  refine hp_calli (va_runV (As := [.int v1]) (rest := []) ⟨hx, hb, hml, hown, hts⟩ (ok_X4_isRace l D cy ad M0 _ v0 v1 r31 a0 e30) (cwV 1 hts (gdV q715 q717 q53 q86 q718) rfl rfl rfl (by decide +kernel) ⟨Nat.le_of_ble_eq_true rfl, Nat.le_of_ble_eq_true rfl⟩) (pre_V hP hK hN a0 ds_0 rfl) rfl rfl hl.1 rfl (lv_room (Nat.le_of_ble_eq_true rfl)) dX4_place_2 ⟨Nat.le_of_ble_eq_true rfl, Nat.le_of_ble_eq_true rfl⟩) hP hS hA (fun H locs hP hS _ => ?_)
  refine lv_if_eq (tgt := 37) hx hb dX4_place_5 (by decide) (fun c34 => ?_) (fun c34 => ?_)
  · have hf := if_t hf c34
    refine lv_iconst (v := (0 : Int32)) hx hb dX4_place_37 (by decide) ?_
    exact hp_zret hx hb hr hlocks (Or.inl rfl) (congrArg Prod.fst (Option.some.inj hf)) (congrArg Prod.snd (Option.some.inj hf)) hP hS keep_rf dX4_place_38
  · have hf := if_f hf c34
    refine lv_aload_n hx hb dX4_place_8 rfl (lv_at hl 0 rfl) ?_
    have h35 : ∀ j : Nat, (mR M0 0 v0 1) = some j → mA M0 11 j = true := fun j hj => hp_wf hP a0 hj
    refine gf0 (v := va_rf (((mR M0 0 v0 1)).map (ad 11))) hx hb hts hown hK hP a0 1 (by decide) (hts _ q606) rfl rfl dX4_place_9 ?_
    refine lv_iload_n hx hb dX4_place_12 rfl (lv_at hl 1 rfl) ?_
    obtain ⟨i36, e37, hf⟩ := ob_some hf
    have h38 : mA M0 11 i36 = true := h35 i36 e37
    refine W_stk (st := [.int v1, va_rf (((mR M0 0 v0 1)).map (ad 11))]) (st' := [.int v1, .ref (ad 11 i36)]) (by first | (rw [e37]; done) | (rw [e37]; rfl)) ?_
    obtain ⟨h39, hf⟩ := ix_some hf
    refine hp_iald hx hb hK hP h38 rfl h39 dX4_place_13 ?_
    refine lv_iconst (v := (1 : Int32)) hx hb dX4_place_14 (by decide) ?_
    refine lv_icmp_ne (tgt := 37) hx hb dX4_place_15 (by decide) (fun c40 => ?_) (fun c40 => ?_)
    · have hf := if_f hf c40
      refine lv_iconst (v := (0 : Int32)) hx hb dX4_place_37 (by decide) ?_
      exact hp_zret hx hb hr hlocks (Or.inl rfl) (congrArg Prod.fst (Option.some.inj hf)) (congrArg Prod.snd (Option.some.inj hf)) hP hS keep_rf dX4_place_38
    · have hf := if_t hf c40
      refine lv_aload_n hx hb dX4_place_18 rfl (lv_at hl 0 rfl) ?_
      refine lv_iload_n hx hb dX4_place_19 rfl (lv_at hl 1 rfl) ?_
      refine lv_iload_n hx hb dX4_place_20 rfl (lv_at hl 3 rfl) ?_
      obtain ⟨r42, e41, hf⟩ := ob_some hf
      refine hp_calli (va_runV (As := [.int v1, .int v3]) (rest := []) ⟨hx, hb, hml, hown, hts⟩ (ok_X4_runs l D cy ad M0 _ v0 v1 v3 r42 a0 e41) (cwV 2 hts (gdV q734 q736 q55 q86 q737) rfl rfl rfl (by decide +kernel) ⟨Nat.le_of_ble_eq_true rfl, Nat.le_of_ble_eq_true rfl⟩) (pre_V hP hK hN a0 ds_0 rfl) rfl rfl hl.1 rfl (lv_room (Nat.le_of_ble_eq_true rfl)) dX4_place_21 ⟨Nat.le_of_ble_eq_true rfl, Nat.le_of_ble_eq_true rfl⟩) hP hS hA (fun H locs hP hS _ => ?_)
      refine lv_if_eq (tgt := 37) hx hb dX4_place_24 (by decide) (fun c45 => ?_) (fun c45 => ?_)
      · have hf := if_t hf c45
        refine lv_iconst (v := (0 : Int32)) hx hb dX4_place_37 (by decide) ?_
        exact hp_zret hx hb hr hlocks (Or.inl rfl) (congrArg Prod.fst (Option.some.inj hf)) (congrArg Prod.snd (Option.some.inj hf)) hP hS keep_rf dX4_place_38
      · have hf := if_f hf c45
        refine lv_iload_n hx hb dX4_place_27 rfl (lv_at hl 2 rfl) ?_
        refine lv_iconst (v := (0 : Int32)) hx hb dX4_place_28 (by decide) ?_
        refine lv_bipush (v := (24 : Int32)) hx hb dX4_place_29 (by decide) ?_
        obtain ⟨r47, e46, hf⟩ := ob_some hf
        refine hp_calli (va_runS (As := [.int v2, .int (0 : Int32), .int (24 : Int32)]) (rest := []) ⟨hx, hb, hml, hown, hts⟩ (ok_X4_in l D cy ad M0 _ v2 (0 : Int32) (24 : Int32) r47  e46) (va_cwS 3 hts (gdS q708 q709 q86 q710) rfl rfl rfl (by decide +kernel) ⟨Nat.le_of_ble_eq_true rfl, Nat.le_of_ble_eq_true rfl⟩) (pre_S hP hK hN) rfl rfl hl.1 rfl (lv_room (Nat.le_of_ble_eq_true rfl)) dX4_place_31 ⟨Nat.le_of_ble_eq_true rfl, Nat.le_of_ble_eq_true rfl⟩) hP hS hA (fun H locs hP hS _ => ?_)
        refine lv_if_ne (tgt := 39) hx hb dX4_place_34 (by decide) (fun c50 => ?_) (fun c50 => ?_)
        · have hf := if_f hf c50
          refine lv_aload_n hx hb dX4_place_39 rfl (lv_at hl 0 rfl) ?_
          have h51 : ∀ j : Nat, (mR M0 0 v0 4) = some j → mA M0 14 j = true := fun j hj => hp_wf hP a0 hj
          refine gf0 (v := va_rf (((mR M0 0 v0 4)).map (ad 14))) hx hb hts hown hK hP a0 4 (by decide) (hts _ q609) rfl rfl dX4_place_40 ?_
          refine lv_bipush (v := (25 : Int32)) hx hb dX4_place_43 (by decide) ?_
          refine lv_iload_n hx hb dX4_place_45 rfl (lv_at hl 1 rfl) ?_
          refine lv_imul hx hb dX4_place_46 ?_
          refine lv_iload_n hx hb dX4_place_47 rfl (lv_at hl 3 rfl) ?_
          refine lv_iadd hx hb dX4_place_48 ?_
          refine lv_iload_n hx hb dX4_place_49 rfl (lv_at hl 2 rfl) ?_
          obtain ⟨i52, e53, hf⟩ := ob_some hf
          have h54 : mA M0 14 i52 = true := h51 i52 e53
          refine W_stk (st := [.int v2, .int (((25 : Int32) * v1) + v3), va_rf (((mR M0 0 v0 4)).map (ad 14))]) (st' := [.int v2, .int (((25 : Int32) * v1) + v3), .ref (ad 14 i52)]) (by first | (rw [e53]; done) | (rw [e53]; rfl)) ?_
          obtain ⟨h55, hf⟩ := ix_some hf
          obtain ⟨M56, e57, hf⟩ := lt_some hf
          have hk58 : Keep M0 M56 := keI e57
          refine hp_iast hx hb hK hP hS h54 rfl h55 dX4_place_50 (fun H locs hP hS => ?_)
          rw [← e57] at hP
          refine lv_iconst (v := (1 : Int32)) hx hb dX4_place_51 (by decide) ?_
          exact hp_zret hx hb hr hlocks (Or.inr rfl) (congrArg Prod.fst (Option.some.inj hf)) (congrArg Prod.snd (Option.some.inj hf)) hP hS (kt keep_rf hk58) dX4_place_52
        · have hf := if_t hf c50
          refine lv_iconst (v := (0 : Int32)) hx hb dX4_place_37 (by decide) ?_
          exact hp_zret hx hb hr hlocks (Or.inl rfl) (congrArg Prod.fst (Option.some.inj hf)) (congrArg Prod.snd (Option.some.inj hf)) hP hS keep_rf dX4_place_38
def f_X4_placed_5 (M0 : Mm) : Nat → Nat → Int32 → Int32 → Int32 → Int32 → Option Int32
  | 0, _, _, _, _, _ => none
  | n + 1, v0, v1, v2, v3, v4 => ob (mR M0 0 v0 0) fun i32 => ix v1 13 (if (mI M0 10 i32 (v1).toNatClampNeg) < v4 then (some v3) else (ob (mR M0 0 v0 4) fun i38 => ix (((25 : Int32) * v1) + v4) 325 (if (mI M0 14 i38 ((((25 : Int32) * v1) + v4)).toNatClampNeg) ≤ 0 then (lt (v3 + (0 : Int32)) fun x43 => lt (v4 + (1 : Int32)) fun x45 => f_X4_placed_5 M0 n v0 v1 v2 x43 x45) else (ob (mR M0 0 v0 4) fun i48 => ix (((25 : Int32) * v1) + v4) 325 (if v2 ≤ (mI M0 14 i48 ((((25 : Int32) * v1) + v4)).toNatClampNeg) then (lt (v3 + (0 : Int32)) fun x53 => lt (v4 + (1 : Int32)) fun x55 => f_X4_placed_5 M0 n v0 v1 v2 x53 x55) else (lt (v3 + (1 : Int32)) fun x57 => lt (v4 + (1 : Int32)) fun x59 => f_X4_placed_5 M0 n v0 v1 v2 x57 x59))))))
def f_X4_placed (v0 : Nat) (v1 : Int32) (v2 : Int32) (M0 : Mm) : Option Int32 :=
  f_X4_placed_5 M0 FU v0 v1 v2 (0 : Int32) (1 : Int32)
set_option maxRecDepth 100000 in
set_option maxHeartbeats 4000000 in
theorem t_X4_placed_5 {p : Program} {l : Launch} {e : Env} {s : State} {m : MethodId} {args : Array Value} {below : List Frame} {meth : Method} {c : Code} {D : va_G} {cy : Nat → ClassId} {ad : Nat → Nat → Nat} {M0 : Mm} {r0 : Int32} (C : Cx RX4 cX4_placed 5 (some .int) D cy (AA ad M0 s.heap.size) p s m args meth c) : ∀ (n : Nat), ∀ (v0 : Nat) (v1 : Int32) (v2 : Int32) (v3 : Int32) (v4 : Int32) (H : Heap) (locs : List Loc) (ls : Array Slot), (mA M0 0 v0 = true) → f_X4_placed_5 M0 n v0 v1 v2 v3 v4 = some r0 → HP D cy (AA ad M0 s.heap.size) ad M0 H → va_S (AA ad M0 s.heap.size) s.heap H locs → lv_has ls 5 [(0, .ref (ad 0 v0)), (1, .int v1), (2, .int v2), (3, .int v3), (4, .int v4)] → W p l e { frames := 0, cells := 0, slots := 0, locals := 0 } s m args below meth c H locs 0 0 (MQ below (QI D cy ad M0 s.heap.size r0 M0) args s 0 0 (AA ad M0 s.heap.size)) (F0 m 5 ls []) := by
  obtain ⟨hx, hb, hr, hml, hown, hts, hlocks, hK, hN, hA⟩ := id C
  intro n
  induction n with
  | zero =>
    intro v0 v1 v2 v3 v4 H locs ls a0 hf hP hS hl
    simp [f_X4_placed_5] at hf
  | succ n ih =>
    intro v0 v1 v2 v3 v4 H locs ls a0 hf hP hS hl
    rw [f_X4_placed_5] at hf
    refine lv_iload hx hb dX4_placed_5 (lv_at hl 4 rfl) ?_
    refine lv_aload_n hx hb dX4_placed_7 rfl (lv_at hl 0 rfl) ?_
    have h31 : ∀ j : Nat, (mR M0 0 v0 0) = some j → mA M0 10 j = true := fun j hj => hp_wf hP a0 hj
    refine gf0 (v := va_rf (((mR M0 0 v0 0)).map (ad 10))) hx hb hts hown hK hP a0 0 (by decide) (hts _ q605) rfl rfl dX4_placed_8 ?_
    refine lv_iload_n hx hb dX4_placed_11 rfl (lv_at hl 1 rfl) ?_
    obtain ⟨i32, e33, hf⟩ := ob_some hf
    have h34 : mA M0 10 i32 = true := h31 i32 e33
    refine W_stk (st := [.int v1, va_rf (((mR M0 0 v0 0)).map (ad 10)), .int v4]) (st' := [.int v1, .ref (ad 10 i32), .int v4]) (by first | (rw [e33]; done) | (rw [e33]; rfl)) ?_
    obtain ⟨h35, hf⟩ := ix_some hf
    refine hp_iald hx hb hK hP h34 rfl h35 dX4_placed_12 ?_
    refine lv_icmp_gt (tgt := 61) hx hb dX4_placed_13 (by decide) (fun c36 => ?_) (fun c36 => ?_)
    · have hf := if_t hf c36
      refine lv_iload_n hx hb dX4_placed_61 rfl (lv_at hl 3 rfl) ?_
      exact hp_iret hx hb hr hlocks (Option.some.inj hf) rfl hP hS keep_rf dX4_placed_62
    · have hf := if_f hf c36
      refine lv_iload_n hx hb dX4_placed_16 rfl (lv_at hl 3 rfl) ?_
      refine lv_aload_n hx hb dX4_placed_17 rfl (lv_at hl 0 rfl) ?_
      have h37 : ∀ j : Nat, (mR M0 0 v0 4) = some j → mA M0 14 j = true := fun j hj => hp_wf hP a0 hj
      refine gf0 (v := va_rf (((mR M0 0 v0 4)).map (ad 14))) hx hb hts hown hK hP a0 4 (by decide) (hts _ q609) rfl rfl dX4_placed_18 ?_
      refine lv_bipush (v := (25 : Int32)) hx hb dX4_placed_21 (by decide) ?_
      refine lv_iload_n hx hb dX4_placed_23 rfl (lv_at hl 1 rfl) ?_
      refine lv_imul hx hb dX4_placed_24 ?_
      refine lv_iload hx hb dX4_placed_25 (lv_at hl 4 rfl) ?_
      refine lv_iadd hx hb dX4_placed_27 ?_
      obtain ⟨i38, e39, hf⟩ := ob_some hf
      have h40 : mA M0 14 i38 = true := h37 i38 e39
      refine W_stk (st := [.int (((25 : Int32) * v1) + v4), va_rf (((mR M0 0 v0 4)).map (ad 14)), .int v3]) (st' := [.int (((25 : Int32) * v1) + v4), .ref (ad 14 i38), .int v3]) (by first | (rw [e39]; done) | (rw [e39]; rfl)) ?_
      obtain ⟨h41, hf⟩ := ix_some hf
      refine hp_iald hx hb hK hP h40 rfl h41 dX4_placed_28 ?_
      refine lv_if_le (tgt := 52) hx hb dX4_placed_29 (by decide) (fun c42 => ?_) (fun c42 => ?_)
      · have hf := if_t hf c42
        refine lv_iconst (v := (0 : Int32)) hx hb dX4_placed_52 (by decide) ?_
        refine lv_iadd hx hb dX4_placed_53 ?_
        obtain ⟨x43, e44, hf⟩ := lt_some hf
        refine W_topI e44 ?_
        refine lv_istore_n (lv' := [(3, .int x43), (0, .ref (ad 0 v0)), (1, .int v1), (2, .int v2), (4, .int v4)]) hx hb dX4_placed_54 rfl hl (by decide) rfl (fun ls hl => ?_)
        obtain ⟨x45, e46, hf⟩ := lt_some hf
        refine lv_iinc (v := x45) (lv' := [(4, .int x45), (3, .int x43), (0, .ref (ad 0 v0)), (1, .int v1), (2, .int v2)]) hx hb dX4_placed_55 hl (k := 4) rfl (by rw [e46]; rfl) (by decide) rfl (fun ls hl => ?_)
        refine lv_goto (tgt := 5) hx hb dX4_placed_58 (by decide) ?_
        exact ih v0 v1 v2 x43 x45 _ _ _ a0 hf hP hS (lv_sub hl [2, 3, 4, 1, 0] rfl)
      · have hf := if_f hf c42
        refine lv_aload_n hx hb dX4_placed_32 rfl (lv_at hl 0 rfl) ?_
        have h47 : ∀ j : Nat, (mR M0 0 v0 4) = some j → mA M0 14 j = true := fun j hj => hp_wf hP a0 hj
        refine gf0 (v := va_rf (((mR M0 0 v0 4)).map (ad 14))) hx hb hts hown hK hP a0 4 (by decide) (hts _ q609) rfl rfl dX4_placed_33 ?_
        refine lv_bipush (v := (25 : Int32)) hx hb dX4_placed_36 (by decide) ?_
        refine lv_iload_n hx hb dX4_placed_38 rfl (lv_at hl 1 rfl) ?_
        refine lv_imul hx hb dX4_placed_39 ?_
        refine lv_iload hx hb dX4_placed_40 (lv_at hl 4 rfl) ?_
        refine lv_iadd hx hb dX4_placed_42 ?_
        obtain ⟨i48, e49, hf⟩ := ob_some hf
        have h50 : mA M0 14 i48 = true := h47 i48 e49
        refine W_stk (st := [.int (((25 : Int32) * v1) + v4), va_rf (((mR M0 0 v0 4)).map (ad 14)), .int v3]) (st' := [.int (((25 : Int32) * v1) + v4), .ref (ad 14 i48), .int v3]) (by first | (rw [e49]; done) | (rw [e49]; rfl)) ?_
        obtain ⟨h51, hf⟩ := ix_some hf
        refine hp_iald hx hb hK hP h50 rfl h51 dX4_placed_43 ?_
        refine lv_iload_n hx hb dX4_placed_44 rfl (lv_at hl 2 rfl) ?_
        refine lv_icmp_ge (tgt := 52) hx hb dX4_placed_45 (by decide) (fun c52 => ?_) (fun c52 => ?_)
        · have hf := if_t hf c52
          refine lv_iconst (v := (0 : Int32)) hx hb dX4_placed_52 (by decide) ?_
          refine lv_iadd hx hb dX4_placed_53 ?_
          obtain ⟨x53, e54, hf⟩ := lt_some hf
          refine W_topI e54 ?_
          refine lv_istore_n (lv' := [(3, .int x53), (0, .ref (ad 0 v0)), (1, .int v1), (2, .int v2), (4, .int v4)]) hx hb dX4_placed_54 rfl hl (by decide) rfl (fun ls hl => ?_)
          obtain ⟨x55, e56, hf⟩ := lt_some hf
          refine lv_iinc (v := x55) (lv' := [(4, .int x55), (3, .int x53), (0, .ref (ad 0 v0)), (1, .int v1), (2, .int v2)]) hx hb dX4_placed_55 hl (k := 4) rfl (by rw [e56]; rfl) (by decide) rfl (fun ls hl => ?_)
          refine lv_goto (tgt := 5) hx hb dX4_placed_58 (by decide) ?_
          exact ih v0 v1 v2 x53 x55 _ _ _ a0 hf hP hS (lv_sub hl [2, 3, 4, 1, 0] rfl)
        · have hf := if_f hf c52
          refine lv_iconst (v := (1 : Int32)) hx hb dX4_placed_48 (by decide) ?_
          refine lv_goto (tgt := 53) hx hb dX4_placed_49 (by decide) ?_
          refine lv_iadd hx hb dX4_placed_53 ?_
          obtain ⟨x57, e58, hf⟩ := lt_some hf
          refine W_topI e58 ?_
          refine lv_istore_n (lv' := [(3, .int x57), (0, .ref (ad 0 v0)), (1, .int v1), (2, .int v2), (4, .int v4)]) hx hb dX4_placed_54 rfl hl (by decide) rfl (fun ls hl => ?_)
          obtain ⟨x59, e60, hf⟩ := lt_some hf
          refine lv_iinc (v := x59) (lv' := [(4, .int x59), (3, .int x57), (0, .ref (ad 0 v0)), (1, .int v1), (2, .int v2)]) hx hb dX4_placed_55 hl (k := 4) rfl (by rw [e60]; rfl) (by decide) rfl (fun ls hl => ?_)
          refine lv_goto (tgt := 5) hx hb dX4_placed_58 (by decide) ?_
          exact ih v0 v1 v2 x57 x59 _ _ _ a0 hf hP hS (lv_sub hl [2, 3, 4, 1, 0] rfl)
set_option maxRecDepth 100000 in
set_option maxHeartbeats 4000000 in
theorem ok_X4_placed (l : Launch) (D : va_G) (cy : Nat → ClassId) (ad : Nat → Nat → Nat) (M0 : Mm) (sz : Nat) (v0 : Nat) (v1 : Int32) (v2 : Int32) (r0 : Int32) (a0 : mA M0 0 v0 = true) (hf : f_X4_placed v0 v1 v2 M0 = some r0) : Met l yX4_placed (Cond.code yX4_placed cX4_placed 5 (some .int) :: BW) { frames := 0, cells := 0, slots := 0, locals := 0 } (va_Pc [.ref (ad 0 v0), .int v1, .int v2] (PRE D cy ad M0 sz)) (QI D cy ad M0 sz r0 M0) 0 0 (AA ad M0 sz) := by
  refine Met.ofW (cc := cX4_placed) (maxL := 5) (ret := (some .int)) (by decide) rfl ?_
  intro p e s m args below meth c s₁ B hml hv
  obtain ⟨rfl, rfl, hP0, hK, hN⟩ := hv
  have hx := B.exec
  have hb := B.bytes
  have hr := B.returns
  have hts0 := atoms_spec (ws := (Cond.code yX4_placed cX4_placed 5 (some .int) :: BW)) B.pre
  have hts : ∀ w ∈ BW, w.before ([.ref (ad 0 v0), .int v1, .int v2] : List Value).toArray s = true := fun w h => hts0 w (List.mem_cons_of_mem _ h)
  have hown : s.vm.findClass RX4 = some m.cls := findClass_of_methodNamed B.named
  have hlocks := B.notSynchronized
  have hA : ∀ q : Nat, s.heap.size ≤ q → AA ad M0 s.heap.size q := fun q h => Or.inr h
  have C : Cx RX4 cX4_placed 5 (some .int) D cy (AA ad M0 s.heap.size) p s m ([.ref (ad 0 v0), .int v1, .int v2] : List Value).toArray meth c := ⟨hx, hb, hr, hml, hown, hts, hlocks, hK, hN, hA⟩
  have hP := hp_self (sz := s.heap.size) hP0
  have hS : va_S (AA ad M0 s.heap.size) s.heap s.heap [] := va_S.rf
  have hl := lv_entry ([.ref (ad 0 v0), .int v1, .int v2]) (n := 5) (Nat.le_of_ble_eq_true rfl)
  rw [lg_entry_eq]
  generalize (lg_sl ([.ref (ad 0 v0), .int v1, .int v2]) ++ List.replicate (5 - (lg_sl ([.ref (ad 0 v0), .int v1, .int v2])).length) Slot.unset).toArray = ls at hl ⊢
  have hl : lv_has ls 5 [(0, .ref (ad 0 v0)), (1, .int v1), (2, .int v2)] := hl
  unfold f_X4_placed at hf
  refine lv_iconst (v := (0 : Int32)) hx hb dX4_placed_0 (by decide) ?_
  refine lv_istore_n (lv' := [(3, .int (0 : Int32)), (0, .ref (ad 0 v0)), (1, .int v1), (2, .int v2)]) hx hb dX4_placed_1 rfl hl (by decide) rfl (fun ls hl => ?_)
  refine lv_iconst (v := (1 : Int32)) hx hb dX4_placed_2 (by decide) ?_
  refine lv_istore (lv' := [(4, .int (1 : Int32)), (3, .int (0 : Int32)), (0, .ref (ad 0 v0)), (1, .int v1), (2, .int v2)]) hx hb dX4_placed_3 hl (by decide) rfl (fun ls hl => ?_)
  exact t_X4_placed_5 C FU v0 v1 v2 (0 : Int32) (1 : Int32) _ _ _ a0 hf hP hS (lv_sub hl [2, 3, 4, 1, 0] rfl)
def f_X4_isRight_26 (M0 : Mm) : Nat → Nat → Int32 → Int32 → Option Int32
  | 0, _, _, _ => none
  | n + 1, v0, v1, v3 => ob (mR M0 0 v0 0) fun i40 => ix v1 13 (if (mI M0 10 i40 (v1).toNatClampNeg) < v3 then (some (1 : Int32)) else (ob (mR M0 0 v0 4) fun i46 => ix (((25 : Int32) * v1) + v3) 325 (lt (mI M0 14 i46 ((((25 : Int32) * v1) + v3)).toNatClampNeg) fun x50 => if x50 ≤ 0 then (lt (v3 + (1 : Int32)) fun x53 => f_X4_isRight_26 M0 n v0 v1 x53) else (ob (f_X4_placed v0 v1 x50 M0) fun r56 => if x50 = ((1 : Int32) + r56) then (lt (v3 + (1 : Int32)) fun x60 => f_X4_isRight_26 M0 n v0 v1 x60) else (some (0 : Int32))))))
def f_X4_isRight (v0 : Nat) (v1 : Int32) (M0 : Mm) : Option Int32 :=
  ob (f_X4_placed v0 v1 (100 : Int32) M0) fun r35 => if (3 : Int32) ≤ r35 then (f_X4_isRight_26 M0 FU v0 v1 (1 : Int32)) else (ob (f_X4_running v0 v1 M0) fun r63 => if r63 ≤ r35 then (f_X4_isRight_26 M0 FU v0 v1 (1 : Int32)) else (some (0 : Int32)))
set_option maxRecDepth 100000 in
set_option maxHeartbeats 4000000 in
theorem t_X4_isRight_26 {p : Program} {l : Launch} {e : Env} {s : State} {m : MethodId} {args : Array Value} {below : List Frame} {meth : Method} {c : Code} {D : va_G} {cy : Nat → ClassId} {ad : Nat → Nat → Nat} {M0 : Mm} {r0 : Int32} (C : Cx RX4 cX4_isRight 5 (some .boolean) D cy (AA ad M0 s.heap.size) p s m args meth c) : ∀ (n : Nat), ∀ (v0 : Nat) (v1 : Int32) (v3 : Int32) (H : Heap) (locs : List Loc) (ls : Array Slot), (mA M0 0 v0 = true) → f_X4_isRight_26 M0 n v0 v1 v3 = some r0 → HP D cy (AA ad M0 s.heap.size) ad M0 H → va_S (AA ad M0 s.heap.size) s.heap H locs → lv_has ls 5 [(0, .ref (ad 0 v0)), (1, .int v1), (3, .int v3)] → W p l e { frames := 1, cells := 0, slots := 0, locals := 24 } s m args below meth c H locs 0 0 (MQ below (QI D cy ad M0 s.heap.size r0 M0) args s 0 0 (AA ad M0 s.heap.size)) (F0 m 26 ls []) := by
  obtain ⟨hx, hb, hr, hml, hown, hts, hlocks, hK, hN, hA⟩ := id C
  intro n
  induction n with
  | zero =>
    intro v0 v1 v3 H locs ls a0 hf hP hS hl
    simp [f_X4_isRight_26] at hf
  | succ n ih =>
    intro v0 v1 v3 H locs ls a0 hf hP hS hl
    rw [f_X4_isRight_26] at hf
    refine lv_iload_n hx hb dX4_isRight_26 rfl (lv_at hl 2 rfl) ?_
    refine lv_aload_n hx hb dX4_isRight_27 rfl (lv_at hl 0 rfl) ?_
    have h39 : ∀ j : Nat, (mR M0 0 v0 0) = some j → mA M0 10 j = true := fun j hj => hp_wf hP a0 hj
    refine gf0 (v := va_rf (((mR M0 0 v0 0)).map (ad 10))) hx hb hts hown hK hP a0 0 (by decide) (hts _ q605) rfl rfl dX4_isRight_28 ?_
    refine lv_iload_n hx hb dX4_isRight_31 rfl (lv_at hl 1 rfl) ?_
    obtain ⟨i40, e41, hf⟩ := ob_some hf
    have h42 : mA M0 10 i40 = true := h39 i40 e41
    refine W_stk (st := [.int v1, va_rf (((mR M0 0 v0 0)).map (ad 10)), .int v3]) (st' := [.int v1, .ref (ad 10 i40), .int v3]) (by first | (rw [e41]; done) | (rw [e41]; rfl)) ?_
    obtain ⟨h43, hf⟩ := ix_some hf
    refine hp_iald hx hb hK hP h42 rfl h43 dX4_isRight_32 ?_
    refine lv_icmp_gt (tgt := 76) hx hb dX4_isRight_33 (by decide) (fun c44 => ?_) (fun c44 => ?_)
    · have hf := if_t hf c44
      refine lv_iconst (v := (1 : Int32)) hx hb dX4_isRight_76 (by decide) ?_
      exact hp_zret hx hb hr hlocks (Or.inr rfl) (Option.some.inj hf) rfl hP hS keep_rf dX4_isRight_77
    · have hf := if_f hf c44
      refine lv_aload_n hx hb dX4_isRight_36 rfl (lv_at hl 0 rfl) ?_
      have h45 : ∀ j : Nat, (mR M0 0 v0 4) = some j → mA M0 14 j = true := fun j hj => hp_wf hP a0 hj
      refine gf0 (v := va_rf (((mR M0 0 v0 4)).map (ad 14))) hx hb hts hown hK hP a0 4 (by decide) (hts _ q609) rfl rfl dX4_isRight_37 ?_
      refine lv_bipush (v := (25 : Int32)) hx hb dX4_isRight_40 (by decide) ?_
      refine lv_iload_n hx hb dX4_isRight_42 rfl (lv_at hl 1 rfl) ?_
      refine lv_imul hx hb dX4_isRight_43 ?_
      refine lv_iload_n hx hb dX4_isRight_44 rfl (lv_at hl 2 rfl) ?_
      refine lv_iadd hx hb dX4_isRight_45 ?_
      obtain ⟨i46, e47, hf⟩ := ob_some hf
      have h48 : mA M0 14 i46 = true := h45 i46 e47
      refine W_stk (st := [.int (((25 : Int32) * v1) + v3), va_rf (((mR M0 0 v0 4)).map (ad 14))]) (st' := [.int (((25 : Int32) * v1) + v3), .ref (ad 14 i46)]) (by first | (rw [e47]; done) | (rw [e47]; rfl)) ?_
      obtain ⟨h49, hf⟩ := ix_some hf
      refine hp_iald hx hb hK hP h48 rfl h49 dX4_isRight_46 ?_
      obtain ⟨x50, e51, hf⟩ := lt_some hf
      refine W_topI e51 ?_
      refine lv_istore (lv' := [(4, .int x50), (0, .ref (ad 0 v0)), (1, .int v1), (3, .int v3)]) hx hb dX4_isRight_47 hl (by decide) rfl (fun ls hl => ?_)
      refine lv_iload hx hb dX4_isRight_49 (lv_at hl 0 rfl) ?_
      refine lv_if_le (tgt := 70) hx hb dX4_isRight_51 (by decide) (fun c52 => ?_) (fun c52 => ?_)
      · have hf := if_t hf c52
        obtain ⟨x53, e54, hf⟩ := lt_some hf
        refine lv_iinc (v := x53) (lv' := [(3, .int x53), (4, .int x50), (0, .ref (ad 0 v0)), (1, .int v1)]) hx hb dX4_isRight_70 hl (k := 3) rfl (by rw [e54]; rfl) (by decide) rfl (fun ls hl => ?_)
        refine lv_goto (tgt := 26) hx hb dX4_isRight_73 (by decide) ?_
        exact ih v0 v1 x53 _ _ _ a0 hf hP hS (lv_sub hl [2, 3, 0] rfl)
      · have hf := if_f hf c52
        refine lv_iload hx hb dX4_isRight_54 (lv_at hl 0 rfl) ?_
        refine lv_iconst (v := (1 : Int32)) hx hb dX4_isRight_56 (by decide) ?_
        refine lv_aload_n hx hb dX4_isRight_57 rfl (lv_at hl 1 rfl) ?_
        refine lv_iload_n hx hb dX4_isRight_58 rfl (lv_at hl 2 rfl) ?_
        refine lv_iload hx hb dX4_isRight_59 (lv_at hl 0 rfl) ?_
        obtain ⟨r56, e55, hf⟩ := ob_some hf
        refine hp_calli (va_runV (As := [.int v1, .int x50]) (rest := [.int (1 : Int32), .int x50]) ⟨hx, hb, hml, hown, hts⟩ (ok_X4_placed l D cy ad M0 _ v0 v1 x50 r56 a0 e55) (cwV 2 hts (gdV q804 q806 q65 q86 q807) rfl rfl rfl (by decide +kernel) ⟨Nat.le_of_ble_eq_true rfl, Nat.le_of_ble_eq_true rfl⟩) (pre_V hP hK hN a0 ds_0 rfl) rfl rfl hl.1 rfl (lv_room (Nat.le_of_ble_eq_true rfl)) dX4_isRight_61 ⟨Nat.le_of_ble_eq_true rfl, Nat.le_of_ble_eq_true rfl⟩) hP hS hA (fun H locs hP hS _ => ?_)
        refine lv_iadd hx hb dX4_isRight_64 ?_
        refine lv_icmp_eq (tgt := 70) hx hb dX4_isRight_65 (by decide) (fun c59 => ?_) (fun c59 => ?_)
        · have hf := if_t hf c59
          obtain ⟨x60, e61, hf⟩ := lt_some hf
          refine lv_iinc (v := x60) (lv' := [(3, .int x60), (4, .int x50), (0, .ref (ad 0 v0)), (1, .int v1)]) hx hb dX4_isRight_70 hl (k := 3) rfl (by rw [e61]; rfl) (by decide) rfl (fun ls hl => ?_)
          refine lv_goto (tgt := 26) hx hb dX4_isRight_73 (by decide) ?_
          exact ih v0 v1 x60 _ _ _ a0 hf hP hS (lv_sub hl [2, 3, 0] rfl)
        · have hf := if_f hf c59
          refine lv_iconst (v := (0 : Int32)) hx hb dX4_isRight_68 (by decide) ?_
          exact hp_zret hx hb hr hlocks (Or.inl rfl) (Option.some.inj hf) rfl hP hS keep_rf dX4_isRight_69
set_option maxRecDepth 100000 in
set_option maxHeartbeats 4000000 in
theorem ok_X4_isRight (l : Launch) (D : va_G) (cy : Nat → ClassId) (ad : Nat → Nat → Nat) (M0 : Mm) (sz : Nat) (v0 : Nat) (v1 : Int32) (r0 : Int32) (a0 : mA M0 0 v0 = true) (hf : f_X4_isRight v0 v1 M0 = some r0) : Met l yX4_isRight (Cond.code yX4_isRight cX4_isRight 5 (some .boolean) :: BW) { frames := 1, cells := 0, slots := 0, locals := 24 } (va_Pc [.ref (ad 0 v0), .int v1] (PRE D cy ad M0 sz)) (QI D cy ad M0 sz r0 M0) 0 0 (AA ad M0 sz) := by
  refine Met.ofW (cc := cX4_isRight) (maxL := 5) (ret := (some .boolean)) (by decide) rfl ?_
  intro p e s m args below meth c s₁ B hml hv
  obtain ⟨rfl, rfl, hP0, hK, hN⟩ := hv
  have hx := B.exec
  have hb := B.bytes
  have hr := B.returns
  have hts0 := atoms_spec (ws := (Cond.code yX4_isRight cX4_isRight 5 (some .boolean) :: BW)) B.pre
  have hts : ∀ w ∈ BW, w.before ([.ref (ad 0 v0), .int v1] : List Value).toArray s = true := fun w h => hts0 w (List.mem_cons_of_mem _ h)
  have hown : s.vm.findClass RX4 = some m.cls := findClass_of_methodNamed B.named
  have hlocks := B.notSynchronized
  have hA : ∀ q : Nat, s.heap.size ≤ q → AA ad M0 s.heap.size q := fun q h => Or.inr h
  have C : Cx RX4 cX4_isRight 5 (some .boolean) D cy (AA ad M0 s.heap.size) p s m ([.ref (ad 0 v0), .int v1] : List Value).toArray meth c := ⟨hx, hb, hr, hml, hown, hts, hlocks, hK, hN, hA⟩
  have hP := hp_self (sz := s.heap.size) hP0
  have hS : va_S (AA ad M0 s.heap.size) s.heap s.heap [] := va_S.rf
  have hl := lv_entry ([.ref (ad 0 v0), .int v1]) (n := 5) (Nat.le_of_ble_eq_true rfl)
  rw [lg_entry_eq]
  generalize (lg_sl ([.ref (ad 0 v0), .int v1]) ++ List.replicate (5 - (lg_sl ([.ref (ad 0 v0), .int v1])).length) Slot.unset).toArray = ls at hl ⊢
  have hl : lv_has ls 5 [(0, .ref (ad 0 v0)), (1, .int v1)] := hl
  unfold f_X4_isRight at hf
  refine lv_aload_n hx hb dX4_isRight_0 rfl (lv_at hl 0 rfl) ?_
  refine lv_iload_n hx hb dX4_isRight_1 rfl (lv_at hl 1 rfl) ?_
  refine lv_bipush (v := (100 : Int32)) hx hb dX4_isRight_2 (by decide) ?_
  obtain ⟨r35, e34, hf⟩ := ob_some hf
  refine hp_calli (va_runV (As := [.int v1, .int (100 : Int32)]) (rest := []) ⟨hx, hb, hml, hown, hts⟩ (ok_X4_placed l D cy ad M0 _ v0 v1 (100 : Int32) r35 a0 e34) (cwV 2 hts (gdV q804 q806 q65 q86 q807) rfl rfl rfl (by decide +kernel) ⟨Nat.le_of_ble_eq_true rfl, Nat.le_of_ble_eq_true rfl⟩) (pre_V hP hK hN a0 ds_0 rfl) rfl rfl hl.1 rfl (lv_room (Nat.le_of_ble_eq_true rfl)) dX4_isRight_4 ⟨Nat.le_of_ble_eq_true rfl, Nat.le_of_ble_eq_true rfl⟩) hP hS hA (fun H locs hP hS _ => ?_)
  refine lv_istore_n (lv' := [(2, .int r35), (0, .ref (ad 0 v0)), (1, .int v1)]) hx hb dX4_isRight_7 rfl hl (by decide) rfl (fun ls hl => ?_)
  refine lv_iload_n hx hb dX4_isRight_8 rfl (lv_at hl 0 rfl) ?_
  refine lv_iconst (v := (3 : Int32)) hx hb dX4_isRight_9 (by decide) ?_
  refine lv_icmp_ge (tgt := 24) hx hb dX4_isRight_10 (by decide) (fun c38 => ?_) (fun c38 => ?_)
  · have hf := if_t hf c38
    refine lv_iconst (v := (1 : Int32)) hx hb dX4_isRight_24 (by decide) ?_
    refine lv_istore_n (lv' := [(3, .int (1 : Int32)), (2, .int r35), (0, .ref (ad 0 v0)), (1, .int v1)]) hx hb dX4_isRight_25 rfl hl (by decide) rfl (fun ls hl => ?_)
    exact t_X4_isRight_26 C FU v0 v1 (1 : Int32) _ _ _ a0 hf hP hS (lv_sub hl [2, 3, 0] rfl)
  · have hf := if_f hf c38
    refine lv_iload_n hx hb dX4_isRight_13 rfl (lv_at hl 0 rfl) ?_
    refine lv_aload_n hx hb dX4_isRight_14 rfl (lv_at hl 1 rfl) ?_
    refine lv_iload_n hx hb dX4_isRight_15 rfl (lv_at hl 2 rfl) ?_
    obtain ⟨r63, e62, hf⟩ := ob_some hf
    refine hp_calli (va_runV (As := [.int v1]) (rest := [.int r35]) ⟨hx, hb, hml, hown, hts⟩ (ok_X4_running l D cy ad M0 _ v0 v1 r63 a0 e62) (cwV 1 hts (gdV q808 q810 q66 q86 q811) rfl rfl rfl (by decide +kernel) ⟨Nat.le_of_ble_eq_true rfl, Nat.le_of_ble_eq_true rfl⟩) (pre_V hP hK hN a0 ds_0 rfl) rfl rfl hl.1 rfl (lv_room (Nat.le_of_ble_eq_true rfl)) dX4_isRight_16 ⟨Nat.le_of_ble_eq_true rfl, Nat.le_of_ble_eq_true rfl⟩) hP hS hA (fun H locs hP hS _ => ?_)
    refine lv_icmp_ge (tgt := 24) hx hb dX4_isRight_19 (by decide) (fun c66 => ?_) (fun c66 => ?_)
    · have hf := if_t hf c66
      refine lv_iconst (v := (1 : Int32)) hx hb dX4_isRight_24 (by decide) ?_
      refine lv_istore_n (lv' := [(3, .int (1 : Int32)), (2, .int r35), (0, .ref (ad 0 v0)), (1, .int v1)]) hx hb dX4_isRight_25 rfl hl (by decide) rfl (fun ls hl => ?_)
      exact t_X4_isRight_26 C FU v0 v1 (1 : Int32) _ _ _ a0 hf hP hS (lv_sub hl [2, 3, 0] rfl)
    · have hf := if_f hf c66
      refine lv_iconst (v := (0 : Int32)) hx hb dX4_isRight_22 (by decide) ?_
      exact hp_zret hx hb hr hlocks (Or.inl rfl) (Option.some.inj hf) rfl hP hS keep_rf dX4_isRight_23

def f_X4_counts (v0 : Nat) (v1 : Int32) (M0 : Mm) : Option Int32 :=
  ob (mR M0 0 v0 23) fun i14 => ix v1 600 (if (mI M0 30 i14 (v1).toNatClampNeg) = 0 then (some (1 : Int32)) else (ob (mR M0 0 v0 23) fun i20 => ix v1 600 (if (mI M0 30 i20 (v1).toNatClampNeg) = (3 : Int32) then (some (1 : Int32)) else (some (0 : Int32)))))
set_option maxRecDepth 100000 in
set_option maxHeartbeats 4000000 in
theorem ok_X4_counts (l : Launch) (D : va_G) (cy : Nat → ClassId) (ad : Nat → Nat → Nat) (M0 : Mm) (sz : Nat) (v0 : Nat) (v1 : Int32) (r0 : Int32) (a0 : mA M0 0 v0 = true) (hf : f_X4_counts v0 v1 M0 = some r0) : Met l yX4_counts (Cond.code yX4_counts cX4_counts 2 (some .boolean) :: BW) { frames := 0, cells := 0, slots := 0, locals := 0 } (va_Pc [.ref (ad 0 v0), .int v1] (PRE D cy ad M0 sz)) (QI D cy ad M0 sz r0 M0) 0 0 (AA ad M0 sz) := by
  refine Met.ofW (cc := cX4_counts) (maxL := 2) (ret := (some .boolean)) (by decide) rfl ?_
  intro p e s m args below meth c s₁ B hml hv
  obtain ⟨rfl, rfl, hP0, hK, hN⟩ := hv
  have hx := B.exec
  have hb := B.bytes
  have hr := B.returns
  have hts0 := atoms_spec (ws := (Cond.code yX4_counts cX4_counts 2 (some .boolean) :: BW)) B.pre
  have hts : ∀ w ∈ BW, w.before ([.ref (ad 0 v0), .int v1] : List Value).toArray s = true := fun w h => hts0 w (List.mem_cons_of_mem _ h)
  have hown : s.vm.findClass RX4 = some m.cls := findClass_of_methodNamed B.named
  have hlocks := B.notSynchronized
  have hA : ∀ q : Nat, s.heap.size ≤ q → AA ad M0 s.heap.size q := fun q h => Or.inr h
  have C : Cx RX4 cX4_counts 2 (some .boolean) D cy (AA ad M0 s.heap.size) p s m ([.ref (ad 0 v0), .int v1] : List Value).toArray meth c := ⟨hx, hb, hr, hml, hown, hts, hlocks, hK, hN, hA⟩
  have hP := hp_self (sz := s.heap.size) hP0
  have hS : va_S (AA ad M0 s.heap.size) s.heap s.heap [] := va_S.rf
  have hl := lv_entry ([.ref (ad 0 v0), .int v1]) (n := 2) (Nat.le_of_ble_eq_true rfl)
  rw [lg_entry_eq]
  generalize (lg_sl ([.ref (ad 0 v0), .int v1]) ++ List.replicate (2 - (lg_sl ([.ref (ad 0 v0), .int v1])).length) Slot.unset).toArray = ls at hl ⊢
  have hl : lv_has ls 2 [(0, .ref (ad 0 v0)), (1, .int v1)] := hl
  unfold f_X4_counts at hf
  refine lv_aload_n hx hb dX4_counts_0 rfl (lv_at hl 0 rfl) ?_
  have h13 : ∀ j : Nat, (mR M0 0 v0 23) = some j → mA M0 30 j = true := fun j hj => hp_wf hP a0 hj
  refine gf0 (v := va_rf (((mR M0 0 v0 23)).map (ad 30))) hx hb hts hown hK hP a0 23 (by decide) (hts _ q628) rfl rfl dX4_counts_1 ?_
  refine lv_iload_n hx hb dX4_counts_4 rfl (lv_at hl 1 rfl) ?_
  obtain ⟨i14, e15, hf⟩ := ob_some hf
  have h16 : mA M0 30 i14 = true := h13 i14 e15
  refine W_stk (st := [.int v1, va_rf (((mR M0 0 v0 23)).map (ad 30))]) (st' := [.int v1, .ref (ad 30 i14)]) (by first | (rw [e15]; done) | (rw [e15]; rfl)) ?_
  obtain ⟨h17, hf⟩ := ix_some hf
  refine hp_iald hx hb hK hP h16 rfl h17 dX4_counts_5 ?_
  refine lv_if_eq (tgt := 19) hx hb dX4_counts_6 (by decide) (fun c18 => ?_) (fun c18 => ?_)
  · have hf := if_t hf c18
    refine lv_iconst (v := (1 : Int32)) hx hb dX4_counts_19 (by decide) ?_
    refine lv_goto (tgt := 24) hx hb dX4_counts_20 (by decide) ?_
    exact hp_zret hx hb hr hlocks (Or.inr rfl) (Option.some.inj hf) rfl hP hS keep_rf dX4_counts_24
  · have hf := if_f hf c18
    refine lv_aload_n hx hb dX4_counts_9 rfl (lv_at hl 0 rfl) ?_
    have h19 : ∀ j : Nat, (mR M0 0 v0 23) = some j → mA M0 30 j = true := fun j hj => hp_wf hP a0 hj
    refine gf0 (v := va_rf (((mR M0 0 v0 23)).map (ad 30))) hx hb hts hown hK hP a0 23 (by decide) (hts _ q628) rfl rfl dX4_counts_10 ?_
    refine lv_iload_n hx hb dX4_counts_13 rfl (lv_at hl 1 rfl) ?_
    obtain ⟨i20, e21, hf⟩ := ob_some hf
    have h22 : mA M0 30 i20 = true := h19 i20 e21
    refine W_stk (st := [.int v1, va_rf (((mR M0 0 v0 23)).map (ad 30))]) (st' := [.int v1, .ref (ad 30 i20)]) (by first | (rw [e21]; done) | (rw [e21]; rfl)) ?_
    obtain ⟨h23, hf⟩ := ix_some hf
    refine hp_iald hx hb hK hP h22 rfl h23 dX4_counts_14 ?_
    refine lv_iconst (v := (3 : Int32)) hx hb dX4_counts_15 (by decide) ?_
    refine lv_icmp_ne (tgt := 23) hx hb dX4_counts_16 (by decide) (fun c24 => ?_) (fun c24 => ?_)
    · have hf := if_f hf c24
      refine lv_iconst (v := (0 : Int32)) hx hb dX4_counts_23 (by decide) ?_
      exact hp_zret hx hb hr hlocks (Or.inl rfl) (Option.some.inj hf) rfl hP hS keep_rf dX4_counts_24
    · have hf := if_t hf c24
      refine lv_iconst (v := (1 : Int32)) hx hb dX4_counts_19 (by decide) ?_
      refine lv_goto (tgt := 24) hx hb dX4_counts_20 (by decide) ?_
      exact hp_zret hx hb hr hlocks (Or.inr rfl) (Option.some.inj hf) rfl hP hS keep_rf dX4_counts_24
def f_X4_ahead_111 (M0 : Mm) (k3 : Nat → Int32 → Int32 → Int32 → Int32 → Int32 → Int32 → Option Int32) (k57 : Nat → Int32 → Int32 → Int32 → Int32 → Int32 → Int32 → Int32 → Int32 → Option Int32) (v0 : Nat) (v1 : Int32) (v2 : Int32) (v3 : Int32) (v4 : Int32) (v5 : Int32) (v6 : Int32) (v8 : Int32) (v9 : Int32) (v10 : Int32) (w0 : Int32) : Option Int32 :=
  if v10 ≤ 0 then (lt (v9 + (1 : Int32)) fun x69 => k57 v0 v1 v2 v3 v4 v5 v6 v8 x69) else (if v8 ≤ v10 then (lt (v9 + (1 : Int32)) fun x72 => k57 v0 v1 v2 v3 v4 v5 v6 v8 x72) else (if w0 = 0 then (some (0 : Int32)) else (lt (v9 + (1 : Int32)) fun x75 => k57 v0 v1 v2 v3 v4 v5 v6 v8 x75)))
def f_X4_ahead_110 (M0 : Mm) (k3 : Nat → Int32 → Int32 → Int32 → Int32 → Int32 → Int32 → Option Int32) (k57 : Nat → Int32 → Int32 → Int32 → Int32 → Int32 → Int32 → Int32 → Int32 → Option Int32) (v0 : Nat) (v1 : Int32) (v2 : Int32) (v3 : Int32) (v4 : Int32) (v5 : Int32) (v6 : Int32) (v8 : Int32) (v9 : Int32) (v10 : Int32) : Option Int32 :=
  f_X4_ahead_111 M0 k3 k57 v0 v1 v2 v3 v4 v5 v6 v8 v9 v10 (0 : Int32)
def f_X4_ahead_106 (M0 : Mm) (k3 : Nat → Int32 → Int32 → Int32 → Int32 → Int32 → Int32 → Option Int32) (k57 : Nat → Int32 → Int32 → Int32 → Int32 → Int32 → Int32 → Int32 → Int32 → Option Int32) (v0 : Nat) (v1 : Int32) (v2 : Int32) (v3 : Int32) (v4 : Int32) (v5 : Int32) (v6 : Int32) (v8 : Int32) (v9 : Int32) (v10 : Int32) : Option Int32 :=
  f_X4_ahead_111 M0 k3 k57 v0 v1 v2 v3 v4 v5 v6 v8 v9 v10 (1 : Int32)
def f_X4_ahead_93 (M0 : Mm) (k3 : Nat → Int32 → Int32 → Int32 → Int32 → Int32 → Int32 → Option Int32) (k57 : Nat → Int32 → Int32 → Int32 → Int32 → Int32 → Int32 → Int32 → Int32 → Option Int32) (v0 : Nat) (v1 : Int32) (v2 : Int32) (v3 : Int32) (v4 : Int32) (v5 : Int32) (v6 : Int32) (v8 : Int32) (v9 : Int32) (v10 : Int32) : Option Int32 :=
  if v6 ≤ (1 : Int32) then (f_X4_ahead_110 M0 k3 k57 v0 v1 v2 v3 v4 v5 v6 v8 v9 v10) else (if v9 = v4 then (f_X4_ahead_106 M0 k3 k57 v0 v1 v2 v3 v4 v5 v6 v8 v9 v10) else (f_X4_ahead_110 M0 k3 k57 v0 v1 v2 v3 v4 v5 v6 v8 v9 v10))
def f_X4_ahead_57 (M0 : Mm) (k3 : Nat → Int32 → Int32 → Int32 → Int32 → Int32 → Int32 → Option Int32) : Nat → Nat → Int32 → Int32 → Int32 → Int32 → Int32 → Int32 → Int32 → Int32 → Option Int32
  | 0, _, _, _, _, _, _, _, _, _ => none
  | n + 1, v0, v1, v2, v3, v4, v5, v6, v8, v9 => ob (mR M0 0 v0 0) fun i52 => ix v1 13 (if (mI M0 10 i52 (v1).toNatClampNeg) < v9 then (lt (v6 + (1 : Int32)) fun x57 => k3 v0 v1 v2 v3 v4 v5 x57) else (ob (mR M0 0 v0 4) fun i60 => ix (((25 : Int32) * v1) + v9) 325 (lt (mI M0 14 i60 ((((25 : Int32) * v1) + v9)).toNatClampNeg) fun x64 => if v6 ≤ 0 then (f_X4_ahead_93 M0 k3 (f_X4_ahead_57 M0 k3 n) v0 v1 v2 v3 v4 v5 v6 v8 v9 x64) else (if v9 = v3 then (f_X4_ahead_106 M0 k3 (f_X4_ahead_57 M0 k3 n) v0 v1 v2 v3 v4 v5 v6 v8 v9 x64) else (f_X4_ahead_93 M0 k3 (f_X4_ahead_57 M0 k3 n) v0 v1 v2 v3 v4 v5 v6 v8 v9 x64)))))
def f_X4_ahead_31 (M0 : Mm) (k3 : Nat → Int32 → Int32 → Int32 → Int32 → Int32 → Int32 → Option Int32) (v0 : Nat) (v1 : Int32) (v2 : Int32) (v3 : Int32) (v4 : Int32) (v5 : Int32) (v6 : Int32) (w0 : Int32) : Option Int32 :=
  ob (mR M0 0 v0 4) fun i44 => ix (((25 : Int32) * v1) + w0) 325 (lt (mI M0 14 i44 ((((25 : Int32) * v1) + w0)).toNatClampNeg) fun x48 => if x48 = 0 then (some (0 : Int32)) else (f_X4_ahead_57 M0 k3 FU v0 v1 v2 v3 v4 v5 v6 x48 (1 : Int32)))
def f_X4_ahead_3 (M0 : Mm) : Nat → Nat → Int32 → Int32 → Int32 → Int32 → Int32 → Int32 → Option Int32
  | 0, _, _, _, _, _, _, _ => none
  | n + 1, v0, v1, v2, v3, v4, v5, v6 => if v2 ≤ v6 then (some (1 : Int32)) else (if v6 = 0 then (f_X4_ahead_31 M0 (f_X4_ahead_3 M0 n) v0 v1 v2 v3 v4 v5 v6 v3) else (if v6 = (1 : Int32) then (f_X4_ahead_31 M0 (f_X4_ahead_3 M0 n) v0 v1 v2 v3 v4 v5 v6 v4) else (f_X4_ahead_31 M0 (f_X4_ahead_3 M0 n) v0 v1 v2 v3 v4 v5 v6 v5)))
def f_X4_ahead (v0 : Nat) (v1 : Int32) (v2 : Int32) (v3 : Int32) (v4 : Int32) (v5 : Int32) (M0 : Mm) : Option Int32 :=
  f_X4_ahead_3 M0 FU v0 v1 v2 v3 v4 v5 (0 : Int32)
set_option maxRecDepth 100000 in
set_option maxHeartbeats 4000000 in
theorem t_X4_ahead_111 {p : Program} {l : Launch} {e : Env} {s : State} {m : MethodId} {args : Array Value} {below : List Frame} {meth : Method} {c : Code} {D : va_G} {cy : Nat → ClassId} {ad : Nat → Nat → Nat} {M0 : Mm} {r0 : Int32} (C : Cx RX4 cX4_ahead 12 (some .boolean) D cy (AA ad M0 s.heap.size) p s m args meth c) (k3 : Nat → Int32 → Int32 → Int32 → Int32 → Int32 → Int32 → Option Int32) (hk3 : ∀ (v0 : Nat) (v1 : Int32) (v2 : Int32) (v3 : Int32) (v4 : Int32) (v5 : Int32) (v6 : Int32) (H : Heap) (locs : List Loc) (ls : Array Slot), (mA M0 0 v0 = true) → k3 v0 v1 v2 v3 v4 v5 v6 = some r0 → HP D cy (AA ad M0 s.heap.size) ad M0 H → va_S (AA ad M0 s.heap.size) s.heap H locs → lv_has ls 12 [(0, .ref (ad 0 v0)), (1, .int v1), (2, .int v2), (3, .int v3), (4, .int v4), (5, .int v5), (6, .int v6)] → W p l e { frames := 0, cells := 0, slots := 0, locals := 0 } s m args below meth c H locs 0 0 (MQ below (QI D cy ad M0 s.heap.size r0 M0) args s 0 0 (AA ad M0 s.heap.size)) (F0 m 3 ls [])) (k57 : Nat → Int32 → Int32 → Int32 → Int32 → Int32 → Int32 → Int32 → Int32 → Option Int32) (hk57 : ∀ (v0 : Nat) (v1 : Int32) (v2 : Int32) (v3 : Int32) (v4 : Int32) (v5 : Int32) (v6 : Int32) (v8 : Int32) (v9 : Int32) (H : Heap) (locs : List Loc) (ls : Array Slot), (mA M0 0 v0 = true) → k57 v0 v1 v2 v3 v4 v5 v6 v8 v9 = some r0 → HP D cy (AA ad M0 s.heap.size) ad M0 H → va_S (AA ad M0 s.heap.size) s.heap H locs → lv_has ls 12 [(0, .ref (ad 0 v0)), (1, .int v1), (2, .int v2), (3, .int v3), (4, .int v4), (5, .int v5), (6, .int v6), (8, .int v8), (9, .int v9)] → W p l e { frames := 0, cells := 0, slots := 0, locals := 0 } s m args below meth c H locs 0 0 (MQ below (QI D cy ad M0 s.heap.size r0 M0) args s 0 0 (AA ad M0 s.heap.size)) (F0 m 57 ls [])) : ∀ (v0 : Nat) (v1 : Int32) (v2 : Int32) (v3 : Int32) (v4 : Int32) (v5 : Int32) (v6 : Int32) (v8 : Int32) (v9 : Int32) (v10 : Int32) (w0 : Int32) (H : Heap) (locs : List Loc) (ls : Array Slot), (mA M0 0 v0 = true) → f_X4_ahead_111 M0 k3 k57 v0 v1 v2 v3 v4 v5 v6 v8 v9 v10 w0 = some r0 → HP D cy (AA ad M0 s.heap.size) ad M0 H → va_S (AA ad M0 s.heap.size) s.heap H locs → lv_has ls 12 [(0, .ref (ad 0 v0)), (1, .int v1), (2, .int v2), (3, .int v3), (4, .int v4), (5, .int v5), (6, .int v6), (8, .int v8), (9, .int v9), (10, .int v10)] → W p l e { frames := 0, cells := 0, slots := 0, locals := 0 } s m args below meth c H locs 0 0 (MQ below (QI D cy ad M0 s.heap.size r0 M0) args s 0 0 (AA ad M0 s.heap.size)) (F0 m 111 ls [.int w0]) := by
  obtain ⟨hx, hb, hr, hml, hown, hts, hlocks, hK, hN, hA⟩ := id C
  intro v0 v1 v2 v3 v4 v5 v6 v8 v9 v10 w0 H locs ls a0 hf hP hS hl
  unfold f_X4_ahead_111 at hf
  refine lv_istore (lv' := [(11, .int w0), (0, .ref (ad 0 v0)), (1, .int v1), (2, .int v2), (3, .int v3), (4, .int v4), (5, .int v5), (6, .int v6), (8, .int v8), (9, .int v9), (10, .int v10)]) hx hb dX4_ahead_111 hl (by decide) rfl (fun ls hl => ?_)
  refine lv_iload hx hb dX4_ahead_113 (lv_at hl 10 rfl) ?_
  refine lv_if_le (tgt := 132) hx hb dX4_ahead_115 (by decide) (fun c68 => ?_) (fun c68 => ?_)
  · have hf := if_t hf c68
    obtain ⟨x69, e70, hf⟩ := lt_some hf
    refine lv_iinc (v := x69) (lv' := [(9, .int x69), (11, .int w0), (0, .ref (ad 0 v0)), (1, .int v1), (2, .int v2), (3, .int v3), (4, .int v4), (5, .int v5), (6, .int v6), (8, .int v8), (10, .int v10)]) hx hb dX4_ahead_132 hl (k := 9) rfl (by rw [e70]; rfl) (by decide) rfl (fun ls hl => ?_)
    refine lv_goto (tgt := 57) hx hb dX4_ahead_135 (by decide) ?_
    exact hk57 v0 v1 v2 v3 v4 v5 v6 v8 x69 _ _ _ a0 hf hP hS (lv_sub hl [2, 3, 4, 5, 6, 7, 8, 9, 0] rfl)
  · have hf := if_f hf c68
    refine lv_iload hx hb dX4_ahead_118 (lv_at hl 10 rfl) ?_
    refine lv_iload hx hb dX4_ahead_120 (lv_at hl 8 rfl) ?_
    refine lv_icmp_ge (tgt := 132) hx hb dX4_ahead_122 (by decide) (fun c71 => ?_) (fun c71 => ?_)
    · have hf := if_t hf c71
      obtain ⟨x72, e73, hf⟩ := lt_some hf
      refine lv_iinc (v := x72) (lv' := [(9, .int x72), (11, .int w0), (0, .ref (ad 0 v0)), (1, .int v1), (2, .int v2), (3, .int v3), (4, .int v4), (5, .int v5), (6, .int v6), (8, .int v8), (10, .int v10)]) hx hb dX4_ahead_132 hl (k := 9) rfl (by rw [e73]; rfl) (by decide) rfl (fun ls hl => ?_)
      refine lv_goto (tgt := 57) hx hb dX4_ahead_135 (by decide) ?_
      exact hk57 v0 v1 v2 v3 v4 v5 v6 v8 x72 _ _ _ a0 hf hP hS (lv_sub hl [2, 3, 4, 5, 6, 7, 8, 9, 0] rfl)
    · have hf := if_f hf c71
      refine lv_iload hx hb dX4_ahead_125 (lv_at hl 0 rfl) ?_
      refine lv_if_ne (tgt := 132) hx hb dX4_ahead_127 (by decide) (fun c74 => ?_) (fun c74 => ?_)
      · have hf := if_f hf c74
        obtain ⟨x75, e76, hf⟩ := lt_some hf
        refine lv_iinc (v := x75) (lv' := [(9, .int x75), (11, .int w0), (0, .ref (ad 0 v0)), (1, .int v1), (2, .int v2), (3, .int v3), (4, .int v4), (5, .int v5), (6, .int v6), (8, .int v8), (10, .int v10)]) hx hb dX4_ahead_132 hl (k := 9) rfl (by rw [e76]; rfl) (by decide) rfl (fun ls hl => ?_)
        refine lv_goto (tgt := 57) hx hb dX4_ahead_135 (by decide) ?_
        exact hk57 v0 v1 v2 v3 v4 v5 v6 v8 x75 _ _ _ a0 hf hP hS (lv_sub hl [2, 3, 4, 5, 6, 7, 8, 9, 0] rfl)
      · have hf := if_t hf c74
        refine lv_iconst (v := (0 : Int32)) hx hb dX4_ahead_130 (by decide) ?_
        exact hp_zret hx hb hr hlocks (Or.inl rfl) (Option.some.inj hf) rfl hP hS keep_rf dX4_ahead_131
set_option maxRecDepth 100000 in
set_option maxHeartbeats 4000000 in
theorem t_X4_ahead_110 {p : Program} {l : Launch} {e : Env} {s : State} {m : MethodId} {args : Array Value} {below : List Frame} {meth : Method} {c : Code} {D : va_G} {cy : Nat → ClassId} {ad : Nat → Nat → Nat} {M0 : Mm} {r0 : Int32} (C : Cx RX4 cX4_ahead 12 (some .boolean) D cy (AA ad M0 s.heap.size) p s m args meth c) (k3 : Nat → Int32 → Int32 → Int32 → Int32 → Int32 → Int32 → Option Int32) (hk3 : ∀ (v0 : Nat) (v1 : Int32) (v2 : Int32) (v3 : Int32) (v4 : Int32) (v5 : Int32) (v6 : Int32) (H : Heap) (locs : List Loc) (ls : Array Slot), (mA M0 0 v0 = true) → k3 v0 v1 v2 v3 v4 v5 v6 = some r0 → HP D cy (AA ad M0 s.heap.size) ad M0 H → va_S (AA ad M0 s.heap.size) s.heap H locs → lv_has ls 12 [(0, .ref (ad 0 v0)), (1, .int v1), (2, .int v2), (3, .int v3), (4, .int v4), (5, .int v5), (6, .int v6)] → W p l e { frames := 0, cells := 0, slots := 0, locals := 0 } s m args below meth c H locs 0 0 (MQ below (QI D cy ad M0 s.heap.size r0 M0) args s 0 0 (AA ad M0 s.heap.size)) (F0 m 3 ls [])) (k57 : Nat → Int32 → Int32 → Int32 → Int32 → Int32 → Int32 → Int32 → Int32 → Option Int32) (hk57 : ∀ (v0 : Nat) (v1 : Int32) (v2 : Int32) (v3 : Int32) (v4 : Int32) (v5 : Int32) (v6 : Int32) (v8 : Int32) (v9 : Int32) (H : Heap) (locs : List Loc) (ls : Array Slot), (mA M0 0 v0 = true) → k57 v0 v1 v2 v3 v4 v5 v6 v8 v9 = some r0 → HP D cy (AA ad M0 s.heap.size) ad M0 H → va_S (AA ad M0 s.heap.size) s.heap H locs → lv_has ls 12 [(0, .ref (ad 0 v0)), (1, .int v1), (2, .int v2), (3, .int v3), (4, .int v4), (5, .int v5), (6, .int v6), (8, .int v8), (9, .int v9)] → W p l e { frames := 0, cells := 0, slots := 0, locals := 0 } s m args below meth c H locs 0 0 (MQ below (QI D cy ad M0 s.heap.size r0 M0) args s 0 0 (AA ad M0 s.heap.size)) (F0 m 57 ls [])) : ∀ (v0 : Nat) (v1 : Int32) (v2 : Int32) (v3 : Int32) (v4 : Int32) (v5 : Int32) (v6 : Int32) (v8 : Int32) (v9 : Int32) (v10 : Int32) (H : Heap) (locs : List Loc) (ls : Array Slot), (mA M0 0 v0 = true) → f_X4_ahead_110 M0 k3 k57 v0 v1 v2 v3 v4 v5 v6 v8 v9 v10 = some r0 → HP D cy (AA ad M0 s.heap.size) ad M0 H → va_S (AA ad M0 s.heap.size) s.heap H locs → lv_has ls 12 [(0, .ref (ad 0 v0)), (1, .int v1), (2, .int v2), (3, .int v3), (4, .int v4), (5, .int v5), (6, .int v6), (8, .int v8), (9, .int v9), (10, .int v10)] → W p l e { frames := 0, cells := 0, slots := 0, locals := 0 } s m args below meth c H locs 0 0 (MQ below (QI D cy ad M0 s.heap.size r0 M0) args s 0 0 (AA ad M0 s.heap.size)) (F0 m 110 ls []) := by
  obtain ⟨hx, hb, hr, hml, hown, hts, hlocks, hK, hN, hA⟩ := id C
  intro v0 v1 v2 v3 v4 v5 v6 v8 v9 v10 H locs ls a0 hf hP hS hl
  unfold f_X4_ahead_110 at hf
  refine lv_iconst (v := (0 : Int32)) hx hb dX4_ahead_110 (by decide) ?_
  exact t_X4_ahead_111 C k3 hk3 k57 hk57 v0 v1 v2 v3 v4 v5 v6 v8 v9 v10 (0 : Int32) _ _ _ a0 hf hP hS (lv_sub hl [0, 1, 2, 3, 4, 5, 6, 7, 8, 9] rfl)
set_option maxRecDepth 100000 in
set_option maxHeartbeats 4000000 in
theorem t_X4_ahead_106 {p : Program} {l : Launch} {e : Env} {s : State} {m : MethodId} {args : Array Value} {below : List Frame} {meth : Method} {c : Code} {D : va_G} {cy : Nat → ClassId} {ad : Nat → Nat → Nat} {M0 : Mm} {r0 : Int32} (C : Cx RX4 cX4_ahead 12 (some .boolean) D cy (AA ad M0 s.heap.size) p s m args meth c) (k3 : Nat → Int32 → Int32 → Int32 → Int32 → Int32 → Int32 → Option Int32) (hk3 : ∀ (v0 : Nat) (v1 : Int32) (v2 : Int32) (v3 : Int32) (v4 : Int32) (v5 : Int32) (v6 : Int32) (H : Heap) (locs : List Loc) (ls : Array Slot), (mA M0 0 v0 = true) → k3 v0 v1 v2 v3 v4 v5 v6 = some r0 → HP D cy (AA ad M0 s.heap.size) ad M0 H → va_S (AA ad M0 s.heap.size) s.heap H locs → lv_has ls 12 [(0, .ref (ad 0 v0)), (1, .int v1), (2, .int v2), (3, .int v3), (4, .int v4), (5, .int v5), (6, .int v6)] → W p l e { frames := 0, cells := 0, slots := 0, locals := 0 } s m args below meth c H locs 0 0 (MQ below (QI D cy ad M0 s.heap.size r0 M0) args s 0 0 (AA ad M0 s.heap.size)) (F0 m 3 ls [])) (k57 : Nat → Int32 → Int32 → Int32 → Int32 → Int32 → Int32 → Int32 → Int32 → Option Int32) (hk57 : ∀ (v0 : Nat) (v1 : Int32) (v2 : Int32) (v3 : Int32) (v4 : Int32) (v5 : Int32) (v6 : Int32) (v8 : Int32) (v9 : Int32) (H : Heap) (locs : List Loc) (ls : Array Slot), (mA M0 0 v0 = true) → k57 v0 v1 v2 v3 v4 v5 v6 v8 v9 = some r0 → HP D cy (AA ad M0 s.heap.size) ad M0 H → va_S (AA ad M0 s.heap.size) s.heap H locs → lv_has ls 12 [(0, .ref (ad 0 v0)), (1, .int v1), (2, .int v2), (3, .int v3), (4, .int v4), (5, .int v5), (6, .int v6), (8, .int v8), (9, .int v9)] → W p l e { frames := 0, cells := 0, slots := 0, locals := 0 } s m args below meth c H locs 0 0 (MQ below (QI D cy ad M0 s.heap.size r0 M0) args s 0 0 (AA ad M0 s.heap.size)) (F0 m 57 ls [])) : ∀ (v0 : Nat) (v1 : Int32) (v2 : Int32) (v3 : Int32) (v4 : Int32) (v5 : Int32) (v6 : Int32) (v8 : Int32) (v9 : Int32) (v10 : Int32) (H : Heap) (locs : List Loc) (ls : Array Slot), (mA M0 0 v0 = true) → f_X4_ahead_106 M0 k3 k57 v0 v1 v2 v3 v4 v5 v6 v8 v9 v10 = some r0 → HP D cy (AA ad M0 s.heap.size) ad M0 H → va_S (AA ad M0 s.heap.size) s.heap H locs → lv_has ls 12 [(0, .ref (ad 0 v0)), (1, .int v1), (2, .int v2), (3, .int v3), (4, .int v4), (5, .int v5), (6, .int v6), (8, .int v8), (9, .int v9), (10, .int v10)] → W p l e { frames := 0, cells := 0, slots := 0, locals := 0 } s m args below meth c H locs 0 0 (MQ below (QI D cy ad M0 s.heap.size r0 M0) args s 0 0 (AA ad M0 s.heap.size)) (F0 m 106 ls []) := by
  obtain ⟨hx, hb, hr, hml, hown, hts, hlocks, hK, hN, hA⟩ := id C
  intro v0 v1 v2 v3 v4 v5 v6 v8 v9 v10 H locs ls a0 hf hP hS hl
  unfold f_X4_ahead_106 at hf
  refine lv_iconst (v := (1 : Int32)) hx hb dX4_ahead_106 (by decide) ?_
  refine lv_goto (tgt := 111) hx hb dX4_ahead_107 (by decide) ?_
  exact t_X4_ahead_111 C k3 hk3 k57 hk57 v0 v1 v2 v3 v4 v5 v6 v8 v9 v10 (1 : Int32) _ _ _ a0 hf hP hS (lv_sub hl [0, 1, 2, 3, 4, 5, 6, 7, 8, 9] rfl)
set_option maxRecDepth 100000 in
set_option maxHeartbeats 4000000 in
theorem t_X4_ahead_93 {p : Program} {l : Launch} {e : Env} {s : State} {m : MethodId} {args : Array Value} {below : List Frame} {meth : Method} {c : Code} {D : va_G} {cy : Nat → ClassId} {ad : Nat → Nat → Nat} {M0 : Mm} {r0 : Int32} (C : Cx RX4 cX4_ahead 12 (some .boolean) D cy (AA ad M0 s.heap.size) p s m args meth c) (k3 : Nat → Int32 → Int32 → Int32 → Int32 → Int32 → Int32 → Option Int32) (hk3 : ∀ (v0 : Nat) (v1 : Int32) (v2 : Int32) (v3 : Int32) (v4 : Int32) (v5 : Int32) (v6 : Int32) (H : Heap) (locs : List Loc) (ls : Array Slot), (mA M0 0 v0 = true) → k3 v0 v1 v2 v3 v4 v5 v6 = some r0 → HP D cy (AA ad M0 s.heap.size) ad M0 H → va_S (AA ad M0 s.heap.size) s.heap H locs → lv_has ls 12 [(0, .ref (ad 0 v0)), (1, .int v1), (2, .int v2), (3, .int v3), (4, .int v4), (5, .int v5), (6, .int v6)] → W p l e { frames := 0, cells := 0, slots := 0, locals := 0 } s m args below meth c H locs 0 0 (MQ below (QI D cy ad M0 s.heap.size r0 M0) args s 0 0 (AA ad M0 s.heap.size)) (F0 m 3 ls [])) (k57 : Nat → Int32 → Int32 → Int32 → Int32 → Int32 → Int32 → Int32 → Int32 → Option Int32) (hk57 : ∀ (v0 : Nat) (v1 : Int32) (v2 : Int32) (v3 : Int32) (v4 : Int32) (v5 : Int32) (v6 : Int32) (v8 : Int32) (v9 : Int32) (H : Heap) (locs : List Loc) (ls : Array Slot), (mA M0 0 v0 = true) → k57 v0 v1 v2 v3 v4 v5 v6 v8 v9 = some r0 → HP D cy (AA ad M0 s.heap.size) ad M0 H → va_S (AA ad M0 s.heap.size) s.heap H locs → lv_has ls 12 [(0, .ref (ad 0 v0)), (1, .int v1), (2, .int v2), (3, .int v3), (4, .int v4), (5, .int v5), (6, .int v6), (8, .int v8), (9, .int v9)] → W p l e { frames := 0, cells := 0, slots := 0, locals := 0 } s m args below meth c H locs 0 0 (MQ below (QI D cy ad M0 s.heap.size r0 M0) args s 0 0 (AA ad M0 s.heap.size)) (F0 m 57 ls [])) : ∀ (v0 : Nat) (v1 : Int32) (v2 : Int32) (v3 : Int32) (v4 : Int32) (v5 : Int32) (v6 : Int32) (v8 : Int32) (v9 : Int32) (v10 : Int32) (H : Heap) (locs : List Loc) (ls : Array Slot), (mA M0 0 v0 = true) → f_X4_ahead_93 M0 k3 k57 v0 v1 v2 v3 v4 v5 v6 v8 v9 v10 = some r0 → HP D cy (AA ad M0 s.heap.size) ad M0 H → va_S (AA ad M0 s.heap.size) s.heap H locs → lv_has ls 12 [(0, .ref (ad 0 v0)), (1, .int v1), (2, .int v2), (3, .int v3), (4, .int v4), (5, .int v5), (6, .int v6), (8, .int v8), (9, .int v9), (10, .int v10)] → W p l e { frames := 0, cells := 0, slots := 0, locals := 0 } s m args below meth c H locs 0 0 (MQ below (QI D cy ad M0 s.heap.size r0 M0) args s 0 0 (AA ad M0 s.heap.size)) (F0 m 93 ls []) := by
  obtain ⟨hx, hb, hr, hml, hown, hts, hlocks, hK, hN, hA⟩ := id C
  intro v0 v1 v2 v3 v4 v5 v6 v8 v9 v10 H locs ls a0 hf hP hS hl
  unfold f_X4_ahead_93 at hf
  refine lv_iload hx hb dX4_ahead_93 (lv_at hl 6 rfl) ?_
  refine lv_iconst (v := (1 : Int32)) hx hb dX4_ahead_95 (by decide) ?_
  refine lv_icmp_le (tgt := 110) hx hb dX4_ahead_96 (by decide) (fun c67 => ?_) (fun c67 => ?_)
  · have hf := if_t hf c67
    exact t_X4_ahead_110 C k3 hk3 k57 hk57 v0 v1 v2 v3 v4 v5 v6 v8 v9 v10 _ _ _ a0 hf hP hS (lv_sub hl [0, 1, 2, 3, 4, 5, 6, 7, 8, 9] rfl)
  · have hf := if_f hf c67
    refine lv_iload hx hb dX4_ahead_99 (lv_at hl 8 rfl) ?_
    refine lv_iload hx hb dX4_ahead_101 (lv_at hl 4 rfl) ?_
    refine lv_icmp_ne (tgt := 110) hx hb dX4_ahead_103 (by decide) (fun c77 => ?_) (fun c77 => ?_)
    · have hf := if_f hf c77
      exact t_X4_ahead_110 C k3 hk3 k57 hk57 v0 v1 v2 v3 v4 v5 v6 v8 v9 v10 _ _ _ a0 hf hP hS (lv_sub hl [0, 1, 2, 3, 4, 5, 6, 7, 8, 9] rfl)
    · have hf := if_t hf c77
      exact t_X4_ahead_106 C k3 hk3 k57 hk57 v0 v1 v2 v3 v4 v5 v6 v8 v9 v10 _ _ _ a0 hf hP hS (lv_sub hl [0, 1, 2, 3, 4, 5, 6, 7, 8, 9] rfl)
set_option maxRecDepth 100000 in
set_option maxHeartbeats 4000000 in
theorem t_X4_ahead_57 {p : Program} {l : Launch} {e : Env} {s : State} {m : MethodId} {args : Array Value} {below : List Frame} {meth : Method} {c : Code} {D : va_G} {cy : Nat → ClassId} {ad : Nat → Nat → Nat} {M0 : Mm} {r0 : Int32} (C : Cx RX4 cX4_ahead 12 (some .boolean) D cy (AA ad M0 s.heap.size) p s m args meth c) (k3 : Nat → Int32 → Int32 → Int32 → Int32 → Int32 → Int32 → Option Int32) (hk3 : ∀ (v0 : Nat) (v1 : Int32) (v2 : Int32) (v3 : Int32) (v4 : Int32) (v5 : Int32) (v6 : Int32) (H : Heap) (locs : List Loc) (ls : Array Slot), (mA M0 0 v0 = true) → k3 v0 v1 v2 v3 v4 v5 v6 = some r0 → HP D cy (AA ad M0 s.heap.size) ad M0 H → va_S (AA ad M0 s.heap.size) s.heap H locs → lv_has ls 12 [(0, .ref (ad 0 v0)), (1, .int v1), (2, .int v2), (3, .int v3), (4, .int v4), (5, .int v5), (6, .int v6)] → W p l e { frames := 0, cells := 0, slots := 0, locals := 0 } s m args below meth c H locs 0 0 (MQ below (QI D cy ad M0 s.heap.size r0 M0) args s 0 0 (AA ad M0 s.heap.size)) (F0 m 3 ls [])) : ∀ (n : Nat), ∀ (v0 : Nat) (v1 : Int32) (v2 : Int32) (v3 : Int32) (v4 : Int32) (v5 : Int32) (v6 : Int32) (v8 : Int32) (v9 : Int32) (H : Heap) (locs : List Loc) (ls : Array Slot), (mA M0 0 v0 = true) → f_X4_ahead_57 M0 k3 n v0 v1 v2 v3 v4 v5 v6 v8 v9 = some r0 → HP D cy (AA ad M0 s.heap.size) ad M0 H → va_S (AA ad M0 s.heap.size) s.heap H locs → lv_has ls 12 [(0, .ref (ad 0 v0)), (1, .int v1), (2, .int v2), (3, .int v3), (4, .int v4), (5, .int v5), (6, .int v6), (8, .int v8), (9, .int v9)] → W p l e { frames := 0, cells := 0, slots := 0, locals := 0 } s m args below meth c H locs 0 0 (MQ below (QI D cy ad M0 s.heap.size r0 M0) args s 0 0 (AA ad M0 s.heap.size)) (F0 m 57 ls []) := by
  obtain ⟨hx, hb, hr, hml, hown, hts, hlocks, hK, hN, hA⟩ := id C
  intro n
  induction n with
  | zero =>
    intro v0 v1 v2 v3 v4 v5 v6 v8 v9 H locs ls a0 hf hP hS hl
    simp [f_X4_ahead_57] at hf
  | succ n ih =>
    intro v0 v1 v2 v3 v4 v5 v6 v8 v9 H locs ls a0 hf hP hS hl
    rw [f_X4_ahead_57] at hf
    refine lv_iload hx hb dX4_ahead_57 (lv_at hl 8 rfl) ?_
    refine lv_aload_n hx hb dX4_ahead_59 rfl (lv_at hl 0 rfl) ?_
    have h51 : ∀ j : Nat, (mR M0 0 v0 0) = some j → mA M0 10 j = true := fun j hj => hp_wf hP a0 hj
    refine gf0 (v := va_rf (((mR M0 0 v0 0)).map (ad 10))) hx hb hts hown hK hP a0 0 (by decide) (hts _ q605) rfl rfl dX4_ahead_60 ?_
    refine lv_iload_n hx hb dX4_ahead_63 rfl (lv_at hl 1 rfl) ?_
    obtain ⟨i52, e53, hf⟩ := ob_some hf
    have h54 : mA M0 10 i52 = true := h51 i52 e53
    refine W_stk (st := [.int v1, va_rf (((mR M0 0 v0 0)).map (ad 10)), .int v9]) (st' := [.int v1, .ref (ad 10 i52), .int v9]) (by first | (rw [e53]; done) | (rw [e53]; rfl)) ?_
    obtain ⟨h55, hf⟩ := ix_some hf
    refine hp_iald hx hb hK hP h54 rfl h55 dX4_ahead_64 ?_
    refine lv_icmp_gt (tgt := 138) hx hb dX4_ahead_65 (by decide) (fun c56 => ?_) (fun c56 => ?_)
    · have hf := if_t hf c56
      obtain ⟨x57, e58, hf⟩ := lt_some hf
      refine lv_iinc (v := x57) (lv' := [(6, .int x57), (0, .ref (ad 0 v0)), (1, .int v1), (2, .int v2), (3, .int v3), (4, .int v4), (5, .int v5), (8, .int v8), (9, .int v9)]) hx hb dX4_ahead_138 hl (k := 6) rfl (by rw [e58]; rfl) (by decide) rfl (fun ls hl => ?_)
      refine lv_goto (tgt := 3) hx hb dX4_ahead_141 (by decide) ?_
      exact hk3 v0 v1 v2 v3 v4 v5 x57 _ _ _ a0 hf hP hS (lv_sub hl [1, 2, 3, 4, 5, 6, 0] rfl)
    · have hf := if_f hf c56
      refine lv_aload_n hx hb dX4_ahead_68 rfl (lv_at hl 0 rfl) ?_
      have h59 : ∀ j : Nat, (mR M0 0 v0 4) = some j → mA M0 14 j = true := fun j hj => hp_wf hP a0 hj
      refine gf0 (v := va_rf (((mR M0 0 v0 4)).map (ad 14))) hx hb hts hown hK hP a0 4 (by decide) (hts _ q609) rfl rfl dX4_ahead_69 ?_
      refine lv_bipush (v := (25 : Int32)) hx hb dX4_ahead_72 (by decide) ?_
      refine lv_iload_n hx hb dX4_ahead_74 rfl (lv_at hl 1 rfl) ?_
      refine lv_imul hx hb dX4_ahead_75 ?_
      refine lv_iload hx hb dX4_ahead_76 (lv_at hl 8 rfl) ?_
      refine lv_iadd hx hb dX4_ahead_78 ?_
      obtain ⟨i60, e61, hf⟩ := ob_some hf
      have h62 : mA M0 14 i60 = true := h59 i60 e61
      refine W_stk (st := [.int (((25 : Int32) * v1) + v9), va_rf (((mR M0 0 v0 4)).map (ad 14))]) (st' := [.int (((25 : Int32) * v1) + v9), .ref (ad 14 i60)]) (by first | (rw [e61]; done) | (rw [e61]; rfl)) ?_
      obtain ⟨h63, hf⟩ := ix_some hf
      refine hp_iald hx hb hK hP h62 rfl h63 dX4_ahead_79 ?_
      obtain ⟨x64, e65, hf⟩ := lt_some hf
      refine W_topI e65 ?_
      refine lv_istore (lv' := [(10, .int x64), (0, .ref (ad 0 v0)), (1, .int v1), (2, .int v2), (3, .int v3), (4, .int v4), (5, .int v5), (6, .int v6), (8, .int v8), (9, .int v9)]) hx hb dX4_ahead_80 hl (by decide) rfl (fun ls hl => ?_)
      refine lv_iload hx hb dX4_ahead_82 (lv_at hl 7 rfl) ?_
      refine lv_if_le (tgt := 93) hx hb dX4_ahead_84 (by decide) (fun c66 => ?_) (fun c66 => ?_)
      · have hf := if_t hf c66
        exact t_X4_ahead_93 C k3 hk3 (f_X4_ahead_57 M0 k3 n) ih v0 v1 v2 v3 v4 v5 v6 v8 v9 x64 _ _ _ a0 hf hP hS (lv_sub hl [1, 2, 3, 4, 5, 6, 7, 8, 9, 0] rfl)
      · have hf := if_f hf c66
        refine lv_iload hx hb dX4_ahead_87 (lv_at hl 9 rfl) ?_
        refine lv_iload_n hx hb dX4_ahead_89 rfl (lv_at hl 4 rfl) ?_
        refine lv_icmp_eq (tgt := 106) hx hb dX4_ahead_90 (by decide) (fun c78 => ?_) (fun c78 => ?_)
        · have hf := if_t hf c78
          exact t_X4_ahead_106 C k3 hk3 (f_X4_ahead_57 M0 k3 n) ih v0 v1 v2 v3 v4 v5 v6 v8 v9 x64 _ _ _ a0 hf hP hS (lv_sub hl [1, 2, 3, 4, 5, 6, 7, 8, 9, 0] rfl)
        · have hf := if_f hf c78
          exact t_X4_ahead_93 C k3 hk3 (f_X4_ahead_57 M0 k3 n) ih v0 v1 v2 v3 v4 v5 v6 v8 v9 x64 _ _ _ a0 hf hP hS (lv_sub hl [1, 2, 3, 4, 5, 6, 7, 8, 9, 0] rfl)
set_option maxRecDepth 100000 in
set_option maxHeartbeats 4000000 in
theorem t_X4_ahead_31 {p : Program} {l : Launch} {e : Env} {s : State} {m : MethodId} {args : Array Value} {below : List Frame} {meth : Method} {c : Code} {D : va_G} {cy : Nat → ClassId} {ad : Nat → Nat → Nat} {M0 : Mm} {r0 : Int32} (C : Cx RX4 cX4_ahead 12 (some .boolean) D cy (AA ad M0 s.heap.size) p s m args meth c) (k3 : Nat → Int32 → Int32 → Int32 → Int32 → Int32 → Int32 → Option Int32) (hk3 : ∀ (v0 : Nat) (v1 : Int32) (v2 : Int32) (v3 : Int32) (v4 : Int32) (v5 : Int32) (v6 : Int32) (H : Heap) (locs : List Loc) (ls : Array Slot), (mA M0 0 v0 = true) → k3 v0 v1 v2 v3 v4 v5 v6 = some r0 → HP D cy (AA ad M0 s.heap.size) ad M0 H → va_S (AA ad M0 s.heap.size) s.heap H locs → lv_has ls 12 [(0, .ref (ad 0 v0)), (1, .int v1), (2, .int v2), (3, .int v3), (4, .int v4), (5, .int v5), (6, .int v6)] → W p l e { frames := 0, cells := 0, slots := 0, locals := 0 } s m args below meth c H locs 0 0 (MQ below (QI D cy ad M0 s.heap.size r0 M0) args s 0 0 (AA ad M0 s.heap.size)) (F0 m 3 ls [])) : ∀ (v0 : Nat) (v1 : Int32) (v2 : Int32) (v3 : Int32) (v4 : Int32) (v5 : Int32) (v6 : Int32) (w0 : Int32) (H : Heap) (locs : List Loc) (ls : Array Slot), (mA M0 0 v0 = true) → f_X4_ahead_31 M0 k3 v0 v1 v2 v3 v4 v5 v6 w0 = some r0 → HP D cy (AA ad M0 s.heap.size) ad M0 H → va_S (AA ad M0 s.heap.size) s.heap H locs → lv_has ls 12 [(0, .ref (ad 0 v0)), (1, .int v1), (2, .int v2), (3, .int v3), (4, .int v4), (5, .int v5), (6, .int v6)] → W p l e { frames := 0, cells := 0, slots := 0, locals := 0 } s m args below meth c H locs 0 0 (MQ below (QI D cy ad M0 s.heap.size r0 M0) args s 0 0 (AA ad M0 s.heap.size)) (F0 m 31 ls [.int w0]) := by
  obtain ⟨hx, hb, hr, hml, hown, hts, hlocks, hK, hN, hA⟩ := id C
  intro v0 v1 v2 v3 v4 v5 v6 w0 H locs ls a0 hf hP hS hl
  unfold f_X4_ahead_31 at hf
  refine lv_istore (lv' := [(7, .int w0), (0, .ref (ad 0 v0)), (1, .int v1), (2, .int v2), (3, .int v3), (4, .int v4), (5, .int v5), (6, .int v6)]) hx hb dX4_ahead_31 hl (by decide) rfl (fun ls hl => ?_)
  refine lv_aload_n hx hb dX4_ahead_33 rfl (lv_at hl 1 rfl) ?_
  have h43 : ∀ j : Nat, (mR M0 0 v0 4) = some j → mA M0 14 j = true := fun j hj => hp_wf hP a0 hj
  refine gf0 (v := va_rf (((mR M0 0 v0 4)).map (ad 14))) hx hb hts hown hK hP a0 4 (by decide) (hts _ q609) rfl rfl dX4_ahead_34 ?_
  refine lv_bipush (v := (25 : Int32)) hx hb dX4_ahead_37 (by decide) ?_
  refine lv_iload_n hx hb dX4_ahead_39 rfl (lv_at hl 2 rfl) ?_
  refine lv_imul hx hb dX4_ahead_40 ?_
  refine lv_iload hx hb dX4_ahead_41 (lv_at hl 0 rfl) ?_
  refine lv_iadd hx hb dX4_ahead_43 ?_
  obtain ⟨i44, e45, hf⟩ := ob_some hf
  have h46 : mA M0 14 i44 = true := h43 i44 e45
  refine W_stk (st := [.int (((25 : Int32) * v1) + w0), va_rf (((mR M0 0 v0 4)).map (ad 14))]) (st' := [.int (((25 : Int32) * v1) + w0), .ref (ad 14 i44)]) (by first | (rw [e45]; done) | (rw [e45]; rfl)) ?_
  obtain ⟨h47, hf⟩ := ix_some hf
  refine hp_iald hx hb hK hP h46 rfl h47 dX4_ahead_44 ?_
  obtain ⟨x48, e49, hf⟩ := lt_some hf
  refine W_topI e49 ?_
  refine lv_istore (lv' := [(8, .int x48), (7, .int w0), (0, .ref (ad 0 v0)), (1, .int v1), (2, .int v2), (3, .int v3), (4, .int v4), (5, .int v5), (6, .int v6)]) hx hb dX4_ahead_45 hl (by decide) rfl (fun ls hl => ?_)
  refine lv_iload hx hb dX4_ahead_47 (lv_at hl 0 rfl) ?_
  refine lv_if_ne (tgt := 54) hx hb dX4_ahead_49 (by decide) (fun c50 => ?_) (fun c50 => ?_)
  · have hf := if_f hf c50
    refine lv_iconst (v := (1 : Int32)) hx hb dX4_ahead_54 (by decide) ?_
    refine lv_istore (lv' := [(9, .int (1 : Int32)), (8, .int x48), (7, .int w0), (0, .ref (ad 0 v0)), (1, .int v1), (2, .int v2), (3, .int v3), (4, .int v4), (5, .int v5), (6, .int v6)]) hx hb dX4_ahead_55 hl (by decide) rfl (fun ls hl => ?_)
    exact t_X4_ahead_57 C k3 hk3 FU v0 v1 v2 v3 v4 v5 v6 x48 (1 : Int32) _ _ _ a0 hf hP hS (lv_sub hl [3, 4, 5, 6, 7, 8, 9, 1, 0] rfl)
  · have hf := if_t hf c50
    refine lv_iconst (v := (0 : Int32)) hx hb dX4_ahead_52 (by decide) ?_
    exact hp_zret hx hb hr hlocks (Or.inl rfl) (Option.some.inj hf) rfl hP hS keep_rf dX4_ahead_53
set_option maxRecDepth 100000 in
set_option maxHeartbeats 4000000 in
theorem t_X4_ahead_3 {p : Program} {l : Launch} {e : Env} {s : State} {m : MethodId} {args : Array Value} {below : List Frame} {meth : Method} {c : Code} {D : va_G} {cy : Nat → ClassId} {ad : Nat → Nat → Nat} {M0 : Mm} {r0 : Int32} (C : Cx RX4 cX4_ahead 12 (some .boolean) D cy (AA ad M0 s.heap.size) p s m args meth c) : ∀ (n : Nat), ∀ (v0 : Nat) (v1 : Int32) (v2 : Int32) (v3 : Int32) (v4 : Int32) (v5 : Int32) (v6 : Int32) (H : Heap) (locs : List Loc) (ls : Array Slot), (mA M0 0 v0 = true) → f_X4_ahead_3 M0 n v0 v1 v2 v3 v4 v5 v6 = some r0 → HP D cy (AA ad M0 s.heap.size) ad M0 H → va_S (AA ad M0 s.heap.size) s.heap H locs → lv_has ls 12 [(0, .ref (ad 0 v0)), (1, .int v1), (2, .int v2), (3, .int v3), (4, .int v4), (5, .int v5), (6, .int v6)] → W p l e { frames := 0, cells := 0, slots := 0, locals := 0 } s m args below meth c H locs 0 0 (MQ below (QI D cy ad M0 s.heap.size r0 M0) args s 0 0 (AA ad M0 s.heap.size)) (F0 m 3 ls []) := by
  obtain ⟨hx, hb, hr, hml, hown, hts, hlocks, hK, hN, hA⟩ := id C
  intro n
  induction n with
  | zero =>
    intro v0 v1 v2 v3 v4 v5 v6 H locs ls a0 hf hP hS hl
    simp [f_X4_ahead_3] at hf
  | succ n ih =>
    intro v0 v1 v2 v3 v4 v5 v6 H locs ls a0 hf hP hS hl
    rw [f_X4_ahead_3] at hf
    refine lv_iload hx hb dX4_ahead_3 (lv_at hl 6 rfl) ?_
    refine lv_iload_n hx hb dX4_ahead_5 rfl (lv_at hl 2 rfl) ?_
    refine lv_icmp_ge (tgt := 144) hx hb dX4_ahead_6 (by decide) (fun c40 => ?_) (fun c40 => ?_)
    · have hf := if_t hf c40
      refine lv_iconst (v := (1 : Int32)) hx hb dX4_ahead_144 (by decide) ?_
      exact hp_zret hx hb hr hlocks (Or.inr rfl) (Option.some.inj hf) rfl hP hS keep_rf dX4_ahead_145
    · have hf := if_f hf c40
      refine lv_iload hx hb dX4_ahead_9 (lv_at hl 6 rfl) ?_
      refine lv_if_ne (tgt := 18) hx hb dX4_ahead_11 (by decide) (fun c41 => ?_) (fun c41 => ?_)
      · have hf := if_f hf c41
        refine lv_iload hx hb dX4_ahead_18 (lv_at hl 6 rfl) ?_
        refine lv_iconst (v := (1 : Int32)) hx hb dX4_ahead_20 (by decide) ?_
        refine lv_icmp_ne (tgt := 29) hx hb dX4_ahead_21 (by decide) (fun c42 => ?_) (fun c42 => ?_)
        · have hf := if_f hf c42
          refine lv_iload hx hb dX4_ahead_29 (lv_at hl 5 rfl) ?_
          exact t_X4_ahead_31 C (f_X4_ahead_3 M0 n) ih v0 v1 v2 v3 v4 v5 v6 v5 _ _ _ a0 hf hP hS (lv_sub hl [0, 1, 2, 3, 4, 5, 6] rfl)
        · have hf := if_t hf c42
          refine lv_iload hx hb dX4_ahead_24 (lv_at hl 4 rfl) ?_
          refine lv_goto (tgt := 31) hx hb dX4_ahead_26 (by decide) ?_
          exact t_X4_ahead_31 C (f_X4_ahead_3 M0 n) ih v0 v1 v2 v3 v4 v5 v6 v4 _ _ _ a0 hf hP hS (lv_sub hl [0, 1, 2, 3, 4, 5, 6] rfl)
      · have hf := if_t hf c41
        refine lv_iload_n hx hb dX4_ahead_14 rfl (lv_at hl 3 rfl) ?_
        refine lv_goto (tgt := 31) hx hb dX4_ahead_15 (by decide) ?_
        exact t_X4_ahead_31 C (f_X4_ahead_3 M0 n) ih v0 v1 v2 v3 v4 v5 v6 v3 _ _ _ a0 hf hP hS (lv_sub hl [0, 1, 2, 3, 4, 5, 6] rfl)
set_option maxRecDepth 100000 in
set_option maxHeartbeats 4000000 in
theorem ok_X4_ahead (l : Launch) (D : va_G) (cy : Nat → ClassId) (ad : Nat → Nat → Nat) (M0 : Mm) (sz : Nat) (v0 : Nat) (v1 : Int32) (v2 : Int32) (v3 : Int32) (v4 : Int32) (v5 : Int32) (r0 : Int32) (a0 : mA M0 0 v0 = true) (hf : f_X4_ahead v0 v1 v2 v3 v4 v5 M0 = some r0) : Met l yX4_ahead (Cond.code yX4_ahead cX4_ahead 12 (some .boolean) :: BW) { frames := 0, cells := 0, slots := 0, locals := 0 } (va_Pc [.ref (ad 0 v0), .int v1, .int v2, .int v3, .int v4, .int v5] (PRE D cy ad M0 sz)) (QI D cy ad M0 sz r0 M0) 0 0 (AA ad M0 sz) := by
  refine Met.ofW (cc := cX4_ahead) (maxL := 12) (ret := (some .boolean)) (by decide) rfl ?_
  intro p e s m args below meth c s₁ B hml hv
  obtain ⟨rfl, rfl, hP0, hK, hN⟩ := hv
  have hx := B.exec
  have hb := B.bytes
  have hr := B.returns
  have hts0 := atoms_spec (ws := (Cond.code yX4_ahead cX4_ahead 12 (some .boolean) :: BW)) B.pre
  have hts : ∀ w ∈ BW, w.before ([.ref (ad 0 v0), .int v1, .int v2, .int v3, .int v4, .int v5] : List Value).toArray s = true := fun w h => hts0 w (List.mem_cons_of_mem _ h)
  have hown : s.vm.findClass RX4 = some m.cls := findClass_of_methodNamed B.named
  have hlocks := B.notSynchronized
  have hA : ∀ q : Nat, s.heap.size ≤ q → AA ad M0 s.heap.size q := fun q h => Or.inr h
  have C : Cx RX4 cX4_ahead 12 (some .boolean) D cy (AA ad M0 s.heap.size) p s m ([.ref (ad 0 v0), .int v1, .int v2, .int v3, .int v4, .int v5] : List Value).toArray meth c := ⟨hx, hb, hr, hml, hown, hts, hlocks, hK, hN, hA⟩
  have hP := hp_self (sz := s.heap.size) hP0
  have hS : va_S (AA ad M0 s.heap.size) s.heap s.heap [] := va_S.rf
  have hl := lv_entry ([.ref (ad 0 v0), .int v1, .int v2, .int v3, .int v4, .int v5]) (n := 12) (Nat.le_of_ble_eq_true rfl)
  rw [lg_entry_eq]
  generalize (lg_sl ([.ref (ad 0 v0), .int v1, .int v2, .int v3, .int v4, .int v5]) ++ List.replicate (12 - (lg_sl ([.ref (ad 0 v0), .int v1, .int v2, .int v3, .int v4, .int v5])).length) Slot.unset).toArray = ls at hl ⊢
  have hl : lv_has ls 12 [(0, .ref (ad 0 v0)), (1, .int v1), (2, .int v2), (3, .int v3), (4, .int v4), (5, .int v5)] := hl
  unfold f_X4_ahead at hf
  refine lv_iconst (v := (0 : Int32)) hx hb dX4_ahead_0 (by decide) ?_
  refine lv_istore (lv' := [(6, .int (0 : Int32)), (0, .ref (ad 0 v0)), (1, .int v1), (2, .int v2), (3, .int v3), (4, .int v4), (5, .int v5)]) hx hb dX4_ahead_1 hl (by decide) rfl (fun ls hl => ?_)
  exact t_X4_ahead_3 C FU v0 v1 v2 v3 v4 v5 (0 : Int32) _ _ _ a0 hf hP hS (lv_sub hl [1, 2, 3, 4, 5, 6, 0] rfl)

def f_X4_wins (v0 : Nat) (v1 : Int32) (v2 : Int32) (v3 : Int32) (v4 : Int32) (M0 : Mm) : Option Int32 :=
  ob (f_X4_raceOf v0 v1 (0 : Int32) M0) fun r53 => ob (f_X4_running v0 r53 M0) fun r57 => ob (mR M0 0 v0 4) fun i61 => ix (((25 : Int32) * r53) + v2) 325 (lt (mI M0 14 i61 ((((25 : Int32) * r53) + v2)).toNatClampNeg) fun x65 => ob (f_X4_kindOf v1 M0) fun r68 => if r68 = (0 : Int32) then (if x65 = (1 : Int32) then (some (1 : Int32)) else (some (0 : Int32))) else (if r68 = (1 : Int32) then (if x65 ≤ 0 then (some (0 : Int32)) else (if r57 < (8 : Int32) then (if r57 < (5 : Int32) then (some (0 : Int32)) else (if (2 : Int32) < x65 then (some (0 : Int32)) else (some (1 : Int32)))) else (if (3 : Int32) < x65 then (some (0 : Int32)) else (some (1 : Int32))))) else (if r68 = (2 : Int32) then (ob (f_X4_ahead v0 r53 (2 : Int32) v2 v3 (0 : Int32) M0) fun r81 => if r81 = 0 then (ob (f_X4_ahead v0 r53 (2 : Int32) v3 v2 (0 : Int32) M0) fun r86 => if r86 = 0 then (some (0 : Int32)) else (some (1 : Int32))) else (some (1 : Int32))) else (if r68 = (3 : Int32) then (ob (f_X4_ahead v0 r53 (3 : Int32) v2 v3 v4 M0) fun r92 => zb r92 (some r92)) else (if x65 = (1 : Int32) then (ob (mR M0 0 v0 4) fun i98 => ix (((25 : Int32) * (mI M0 0 v0 18)) + v3) 325 (if (mI M0 14 i98 ((((25 : Int32) * (mI M0 0 v0 18)) + v3)).toNatClampNeg) = (1 : Int32) then (some (1 : Int32)) else (some (0 : Int32)))) else (some (0 : Int32)))))))
set_option maxRecDepth 100000 in
set_option maxHeartbeats 4000000 in
theorem ok_X4_wins (l : Launch) (D : va_G) (cy : Nat → ClassId) (ad : Nat → Nat → Nat) (M0 : Mm) (sz : Nat) (v0 : Nat) (v1 : Int32) (v2 : Int32) (v3 : Int32) (v4 : Int32) (r0 : Int32) (a0 : mA M0 0 v0 = true) (hf : f_X4_wins v0 v1 v2 v3 v4 M0 = some r0) : Met l yX4_wins (Cond.code yX4_wins cX4_wins 8 (some .boolean) :: BW) { frames := 1, cells := 0, slots := 0, locals := 31 } (va_Pc [.ref (ad 0 v0), .int v1, .int v2, .int v3, .int v4] (PRE D cy ad M0 sz)) (QI D cy ad M0 sz r0 M0) 0 0 (AA ad M0 sz) := by
  refine Met.ofW (cc := cX4_wins) (maxL := 8) (ret := (some .boolean)) (by decide) rfl ?_
  intro p e s m args below meth c s₁ B hml hv
  obtain ⟨rfl, rfl, hP0, hK, hN⟩ := hv
  have hx := B.exec
  have hb := B.bytes
  have hr := B.returns
  have hts0 := atoms_spec (ws := (Cond.code yX4_wins cX4_wins 8 (some .boolean) :: BW)) B.pre
  have hts : ∀ w ∈ BW, w.before ([.ref (ad 0 v0), .int v1, .int v2, .int v3, .int v4] : List Value).toArray s = true := fun w h => hts0 w (List.mem_cons_of_mem _ h)
  have hown : s.vm.findClass RX4 = some m.cls := findClass_of_methodNamed B.named
  have hlocks := B.notSynchronized
  have hA : ∀ q : Nat, s.heap.size ≤ q → AA ad M0 s.heap.size q := fun q h => Or.inr h
  have C : Cx RX4 cX4_wins 8 (some .boolean) D cy (AA ad M0 s.heap.size) p s m ([.ref (ad 0 v0), .int v1, .int v2, .int v3, .int v4] : List Value).toArray meth c := ⟨hx, hb, hr, hml, hown, hts, hlocks, hK, hN, hA⟩
  have hP := hp_self (sz := s.heap.size) hP0
  have hS : va_S (AA ad M0 s.heap.size) s.heap s.heap [] := va_S.rf
  have hl := lv_entry ([.ref (ad 0 v0), .int v1, .int v2, .int v3, .int v4]) (n := 8) (Nat.le_of_ble_eq_true rfl)
  rw [lg_entry_eq]
  generalize (lg_sl ([.ref (ad 0 v0), .int v1, .int v2, .int v3, .int v4]) ++ List.replicate (8 - (lg_sl ([.ref (ad 0 v0), .int v1, .int v2, .int v3, .int v4])).length) Slot.unset).toArray = ls at hl ⊢
  have hl : lv_has ls 8 [(0, .ref (ad 0 v0)), (1, .int v1), (2, .int v2), (3, .int v3), (4, .int v4)] := hl
  unfold f_X4_wins at hf
  refine lv_aload_n hx hb dX4_wins_0 rfl (lv_at hl 0 rfl) ?_
  refine lv_iload_n hx hb dX4_wins_1 rfl (lv_at hl 1 rfl) ?_
  refine lv_iconst (v := (0 : Int32)) hx hb dX4_wins_2 (by decide) ?_
  obtain ⟨r53, e52, hf⟩ := ob_some hf
  refine hp_calli (va_runV (As := [.int v1, .int (0 : Int32)]) (rest := []) ⟨hx, hb, hml, hown, hts⟩ (ok_X4_raceOf l D cy ad M0 _ v0 v1 (0 : Int32) r53 a0 e52) (cwV 2 hts (gdV q754 q756 q59 q86 q757) rfl rfl rfl (by decide +kernel) ⟨Nat.le_of_ble_eq_true rfl, Nat.le_of_ble_eq_true rfl⟩) (pre_V hP hK hN a0 ds_0 rfl) rfl rfl hl.1 rfl (lv_room (Nat.le_of_ble_eq_true rfl)) dX4_wins_3 ⟨Nat.le_of_ble_eq_true rfl, Nat.le_of_ble_eq_true rfl⟩) hP hS hA (fun H locs hP hS _ => ?_)
  refine lv_istore (lv' := [(5, .int r53), (0, .ref (ad 0 v0)), (1, .int v1), (2, .int v2), (3, .int v3), (4, .int v4)]) hx hb dX4_wins_6 hl (by decide) rfl (fun ls hl => ?_)
  refine lv_aload_n hx hb dX4_wins_8 rfl (lv_at hl 1 rfl) ?_
  refine lv_iload hx hb dX4_wins_9 (lv_at hl 0 rfl) ?_
  obtain ⟨r57, e56, hf⟩ := ob_some hf
  refine hp_calli (va_runV (As := [.int r53]) (rest := []) ⟨hx, hb, hml, hown, hts⟩ (ok_X4_running l D cy ad M0 _ v0 r53 r57 a0 e56) (cwV 1 hts (gdV q808 q810 q66 q86 q811) rfl rfl rfl (by decide +kernel) ⟨Nat.le_of_ble_eq_true rfl, Nat.le_of_ble_eq_true rfl⟩) (pre_V hP hK hN a0 ds_0 rfl) rfl rfl hl.1 rfl (lv_room (Nat.le_of_ble_eq_true rfl)) dX4_wins_11 ⟨Nat.le_of_ble_eq_true rfl, Nat.le_of_ble_eq_true rfl⟩) hP hS hA (fun H locs hP hS _ => ?_)
  refine lv_istore (lv' := [(6, .int r57), (5, .int r53), (0, .ref (ad 0 v0)), (1, .int v1), (2, .int v2), (3, .int v3), (4, .int v4)]) hx hb dX4_wins_14 hl (by decide) rfl (fun ls hl => ?_)
  refine lv_aload_n hx hb dX4_wins_16 rfl (lv_at hl 2 rfl) ?_
  have h60 : ∀ j : Nat, (mR M0 0 v0 4) = some j → mA M0 14 j = true := fun j hj => hp_wf hP a0 hj
  refine gf0 (v := va_rf (((mR M0 0 v0 4)).map (ad 14))) hx hb hts hown hK hP a0 4 (by decide) (hts _ q609) rfl rfl dX4_wins_17 ?_
  refine lv_bipush (v := (25 : Int32)) hx hb dX4_wins_20 (by decide) ?_
  refine lv_iload hx hb dX4_wins_22 (lv_at hl 1 rfl) ?_
  refine lv_imul hx hb dX4_wins_24 ?_
  refine lv_iload_n hx hb dX4_wins_25 rfl (lv_at hl 4 rfl) ?_
  refine lv_iadd hx hb dX4_wins_26 ?_
  obtain ⟨i61, e62, hf⟩ := ob_some hf
  have h63 : mA M0 14 i61 = true := h60 i61 e62
  refine W_stk (st := [.int (((25 : Int32) * r53) + v2), va_rf (((mR M0 0 v0 4)).map (ad 14))]) (st' := [.int (((25 : Int32) * r53) + v2), .ref (ad 14 i61)]) (by first | (rw [e62]; done) | (rw [e62]; rfl)) ?_
  obtain ⟨h64, hf⟩ := ix_some hf
  refine hp_iald hx hb hK hP h63 rfl h64 dX4_wins_27 ?_
  obtain ⟨x65, e66, hf⟩ := lt_some hf
  refine W_topI e66 ?_
  refine lv_istore (lv' := [(7, .int x65), (6, .int r57), (5, .int r53), (0, .ref (ad 0 v0)), (1, .int v1), (2, .int v2), (3, .int v3), (4, .int v4)]) hx hb dX4_wins_28 hl (by decide) rfl (fun ls hl => ?_)
  refine lv_iload_n hx hb dX4_wins_30 rfl (lv_at hl 4 rfl) ?_
  obtain ⟨r68, e67, hf⟩ := ob_some hf
  refine hp_calli (va_runS (As := [.int v1]) (rest := []) ⟨hx, hb, hml, hown, hts⟩ (ok_X4_kindOf l D cy ad M0 _ v1 r68  e67) (va_cwS 1 hts (gdS q769 q770 q86 q771) rfl rfl rfl (by decide +kernel) ⟨Nat.le_of_ble_eq_true rfl, Nat.le_of_ble_eq_true rfl⟩) (pre_S hP hK hN) rfl rfl hl.1 rfl (lv_room (Nat.le_of_ble_eq_true rfl)) dX4_wins_31 ⟨Nat.le_of_ble_eq_true rfl, Nat.le_of_ble_eq_true rfl⟩) hP hS hA (fun H locs hP hS _ => ?_)
  by_cases c71 : r68 = (0 : Int32)
  · have hf := if_t hf c71
    refine W_topI c71.symm ?_
    refine lv_tableIn (x := (0 : Int32)) (off := 30) (tgt := 64) hx hb dX4_wins_34 (by decide) (by decide) (by decide) (by decide) ?_
    refine lv_iload hx hb dX4_wins_64 (lv_at hl 0 rfl) ?_
    refine lv_iconst (v := (1 : Int32)) hx hb dX4_wins_66 (by decide) ?_
    refine lv_icmp_ne (tgt := 74) hx hb dX4_wins_67 (by decide) (fun c72 => ?_) (fun c72 => ?_)
    · have hf := if_f hf c72
      refine lv_iconst (v := (0 : Int32)) hx hb dX4_wins_74 (by decide) ?_
      exact hp_zret hx hb hr hlocks (Or.inl rfl) (Option.some.inj hf) rfl hP hS keep_rf dX4_wins_75
    · have hf := if_t hf c72
      refine lv_iconst (v := (1 : Int32)) hx hb dX4_wins_70 (by decide) ?_
      refine lv_goto (tgt := 75) hx hb dX4_wins_71 (by decide) ?_
      exact hp_zret hx hb hr hlocks (Or.inr rfl) (Option.some.inj hf) rfl hP hS keep_rf dX4_wins_75
  have hf := if_f hf c71
  by_cases c73 : r68 = (1 : Int32)
  · have hf := if_t hf c73
    refine W_topI c73.symm ?_
    refine lv_tableIn (x := (1 : Int32)) (off := 42) (tgt := 76) hx hb dX4_wins_34 (by decide) (by decide) (by decide) (by decide) ?_
    refine lv_iload hx hb dX4_wins_76 (lv_at hl 0 rfl) ?_
    refine lv_if_le (tgt := 113) hx hb dX4_wins_78 (by decide) (fun c74 => ?_) (fun c74 => ?_)
    · have hf := if_t hf c74
      refine lv_iconst (v := (0 : Int32)) hx hb dX4_wins_113 (by decide) ?_
      exact hp_zret hx hb hr hlocks (Or.inl rfl) (Option.some.inj hf) rfl hP hS keep_rf dX4_wins_114
    · have hf := if_f hf c74
      refine lv_iload hx hb dX4_wins_81 (lv_at hl 1 rfl) ?_
      refine lv_bipush (v := (8 : Int32)) hx hb dX4_wins_83 (by decide) ?_
      refine lv_icmp_lt (tgt := 97) hx hb dX4_wins_85 (by decide) (fun c75 => ?_) (fun c75 => ?_)
      · have hf := if_t hf c75
        refine lv_iload hx hb dX4_wins_97 (lv_at hl 1 rfl) ?_
        refine lv_iconst (v := (5 : Int32)) hx hb dX4_wins_99 (by decide) ?_
        refine lv_icmp_lt (tgt := 113) hx hb dX4_wins_100 (by decide) (fun c76 => ?_) (fun c76 => ?_)
        · have hf := if_t hf c76
          refine lv_iconst (v := (0 : Int32)) hx hb dX4_wins_113 (by decide) ?_
          exact hp_zret hx hb hr hlocks (Or.inl rfl) (Option.some.inj hf) rfl hP hS keep_rf dX4_wins_114
        · have hf := if_f hf c76
          refine lv_iload hx hb dX4_wins_103 (lv_at hl 0 rfl) ?_
          refine lv_iconst (v := (2 : Int32)) hx hb dX4_wins_105 (by decide) ?_
          refine lv_icmp_gt (tgt := 113) hx hb dX4_wins_106 (by decide) (fun c77 => ?_) (fun c77 => ?_)
          · have hf := if_t hf c77
            refine lv_iconst (v := (0 : Int32)) hx hb dX4_wins_113 (by decide) ?_
            exact hp_zret hx hb hr hlocks (Or.inl rfl) (Option.some.inj hf) rfl hP hS keep_rf dX4_wins_114
          · have hf := if_f hf c77
            refine lv_iconst (v := (1 : Int32)) hx hb dX4_wins_109 (by decide) ?_
            refine lv_goto (tgt := 114) hx hb dX4_wins_110 (by decide) ?_
            exact hp_zret hx hb hr hlocks (Or.inr rfl) (Option.some.inj hf) rfl hP hS keep_rf dX4_wins_114
      · have hf := if_f hf c75
        refine lv_iload hx hb dX4_wins_88 (lv_at hl 0 rfl) ?_
        refine lv_iconst (v := (3 : Int32)) hx hb dX4_wins_90 (by decide) ?_
        refine lv_icmp_gt (tgt := 113) hx hb dX4_wins_91 (by decide) (fun c78 => ?_) (fun c78 => ?_)
        · have hf := if_t hf c78
          refine lv_iconst (v := (0 : Int32)) hx hb dX4_wins_113 (by decide) ?_
          exact hp_zret hx hb hr hlocks (Or.inl rfl) (Option.some.inj hf) rfl hP hS keep_rf dX4_wins_114
        · have hf := if_f hf c78
          refine lv_goto (tgt := 109) hx hb dX4_wins_94 (by decide) ?_
          refine lv_iconst (v := (1 : Int32)) hx hb dX4_wins_109 (by decide) ?_
          refine lv_goto (tgt := 114) hx hb dX4_wins_110 (by decide) ?_
          exact hp_zret hx hb hr hlocks (Or.inr rfl) (Option.some.inj hf) rfl hP hS keep_rf dX4_wins_114
  have hf := if_f hf c73
  by_cases c79 : r68 = (2 : Int32)
  · have hf := if_t hf c79
    refine W_topI c79.symm ?_
    refine lv_tableIn (x := (2 : Int32)) (off := 81) (tgt := 115) hx hb dX4_wins_34 (by decide) (by decide) (by decide) (by decide) ?_
    refine lv_aload_n hx hb dX4_wins_115 rfl (lv_at hl 3 rfl) ?_
    refine lv_iload hx hb dX4_wins_116 (lv_at hl 2 rfl) ?_
    refine lv_iconst (v := (2 : Int32)) hx hb dX4_wins_118 (by decide) ?_
    refine lv_iload_n hx hb dX4_wins_119 rfl (lv_at hl 5 rfl) ?_
    refine lv_iload_n hx hb dX4_wins_120 rfl (lv_at hl 6 rfl) ?_
    refine lv_iconst (v := (0 : Int32)) hx hb dX4_wins_121 (by decide) ?_
    obtain ⟨r81, e80, hf⟩ := ob_some hf
    refine hp_calli (va_runV (As := [.int r53, .int (2 : Int32), .int v2, .int v3, .int (0 : Int32)]) (rest := []) ⟨hx, hb, hml, hown, hts⟩ (ok_X4_ahead l D cy ad M0 _ v0 r53 (2 : Int32) v2 v3 (0 : Int32) r81 a0 e80) (cwV 5 hts (gdV q832 q834 q72 q86 q835) rfl rfl rfl (by decide +kernel) ⟨Nat.le_of_ble_eq_true rfl, Nat.le_of_ble_eq_true rfl⟩) (pre_V hP hK hN a0 ds_0 rfl) rfl rfl hl.1 rfl (lv_room (Nat.le_of_ble_eq_true rfl)) dX4_wins_122 ⟨Nat.le_of_ble_eq_true rfl, Nat.le_of_ble_eq_true rfl⟩) hP hS hA (fun H locs hP hS _ => ?_)
    refine lv_if_ne (tgt := 141) hx hb dX4_wins_125 (by decide) (fun c84 => ?_) (fun c84 => ?_)
    · have hf := if_f hf c84
      refine lv_iconst (v := (1 : Int32)) hx hb dX4_wins_141 (by decide) ?_
      refine lv_goto (tgt := 146) hx hb dX4_wins_142 (by decide) ?_
      exact hp_zret hx hb hr hlocks (Or.inr rfl) (Option.some.inj hf) rfl hP hS keep_rf dX4_wins_146
    · have hf := if_t hf c84
      refine lv_aload_n hx hb dX4_wins_128 rfl (lv_at hl 3 rfl) ?_
      refine lv_iload hx hb dX4_wins_129 (lv_at hl 2 rfl) ?_
      refine lv_iconst (v := (2 : Int32)) hx hb dX4_wins_131 (by decide) ?_
      refine lv_iload_n hx hb dX4_wins_132 rfl (lv_at hl 6 rfl) ?_
      refine lv_iload_n hx hb dX4_wins_133 rfl (lv_at hl 5 rfl) ?_
      refine lv_iconst (v := (0 : Int32)) hx hb dX4_wins_134 (by decide) ?_
      obtain ⟨r86, e85, hf⟩ := ob_some hf
      refine hp_calli (va_runV (As := [.int r53, .int (2 : Int32), .int v3, .int v2, .int (0 : Int32)]) (rest := []) ⟨hx, hb, hml, hown, hts⟩ (ok_X4_ahead l D cy ad M0 _ v0 r53 (2 : Int32) v3 v2 (0 : Int32) r86 a0 e85) (cwV 5 hts (gdV q832 q834 q72 q86 q835) rfl rfl rfl (by decide +kernel) ⟨Nat.le_of_ble_eq_true rfl, Nat.le_of_ble_eq_true rfl⟩) (pre_V hP hK hN a0 ds_0 rfl) rfl rfl hl.1 rfl (lv_room (Nat.le_of_ble_eq_true rfl)) dX4_wins_135 ⟨Nat.le_of_ble_eq_true rfl, Nat.le_of_ble_eq_true rfl⟩) hP hS hA (fun H locs hP hS _ => ?_)
      refine lv_if_eq (tgt := 145) hx hb dX4_wins_138 (by decide) (fun c89 => ?_) (fun c89 => ?_)
      · have hf := if_t hf c89
        refine lv_iconst (v := (0 : Int32)) hx hb dX4_wins_145 (by decide) ?_
        exact hp_zret hx hb hr hlocks (Or.inl rfl) (Option.some.inj hf) rfl hP hS keep_rf dX4_wins_146
      · have hf := if_f hf c89
        refine lv_iconst (v := (1 : Int32)) hx hb dX4_wins_141 (by decide) ?_
        refine lv_goto (tgt := 146) hx hb dX4_wins_142 (by decide) ?_
        exact hp_zret hx hb hr hlocks (Or.inr rfl) (Option.some.inj hf) rfl hP hS keep_rf dX4_wins_146
  have hf := if_f hf c79
  by_cases c90 : r68 = (3 : Int32)
  · have hf := if_t hf c90
    refine W_topI c90.symm ?_
    refine lv_tableIn (x := (3 : Int32)) (off := 113) (tgt := 147) hx hb dX4_wins_34 (by decide) (by decide) (by decide) (by decide) ?_
    refine lv_aload_n hx hb dX4_wins_147 rfl (lv_at hl 3 rfl) ?_
    refine lv_iload hx hb dX4_wins_148 (lv_at hl 2 rfl) ?_
    refine lv_iconst (v := (3 : Int32)) hx hb dX4_wins_150 (by decide) ?_
    refine lv_iload_n hx hb dX4_wins_151 rfl (lv_at hl 5 rfl) ?_
    refine lv_iload_n hx hb dX4_wins_152 rfl (lv_at hl 6 rfl) ?_
    refine lv_iload hx hb dX4_wins_153 (lv_at hl 7 rfl) ?_
    obtain ⟨r92, e91, hf⟩ := ob_some hf
    refine hp_calli (va_runV (As := [.int r53, .int (3 : Int32), .int v2, .int v3, .int v4]) (rest := []) ⟨hx, hb, hml, hown, hts⟩ (ok_X4_ahead l D cy ad M0 _ v0 r53 (3 : Int32) v2 v3 v4 r92 a0 e91) (cwV 5 hts (gdV q832 q834 q72 q86 q835) rfl rfl rfl (by decide +kernel) ⟨Nat.le_of_ble_eq_true rfl, Nat.le_of_ble_eq_true rfl⟩) (pre_V hP hK hN a0 ds_0 rfl) rfl rfl hl.1 rfl (lv_room (Nat.le_of_ble_eq_true rfl)) dX4_wins_155 ⟨Nat.le_of_ble_eq_true rfl, Nat.le_of_ble_eq_true rfl⟩) hP hS hA (fun H locs hP hS _ => ?_)
    obtain ⟨h95, hf⟩ := zb_some hf
    exact hp_zret hx hb hr hlocks h95 (Option.some.inj hf) rfl hP hS keep_rf dX4_wins_158
  have hf := if_f hf c90
  have hsw : ∀ n : Nat, (n : Int) ≤ (3) - (0) → ¬ r68 = Int32.ofInt ((0) + (n : Int)) := by
    intro n hn
    have hn2 : n = 0 ∨ n = 1 ∨ n = 2 ∨ n = 3 := by omega
    rcases hn2 with rfl | rfl | rfl | rfl
    · exact fun z => c71 (z.trans (by decide))
    · exact fun z => c73 (z.trans (by decide))
    · exact fun z => c79 (z.trans (by decide))
    · exact fun z => c90 (z.trans (by decide))
  refine lv_tableOut (tgt := 159) hx hb dX4_wins_34 (sw_out hsw) (by decide) ?_
  refine lv_iload hx hb dX4_wins_159 (lv_at hl 0 rfl) ?_
  refine lv_iconst (v := (1 : Int32)) hx hb dX4_wins_161 (by decide) ?_
  refine lv_icmp_ne (tgt := 187) hx hb dX4_wins_162 (by decide) (fun c96 => ?_) (fun c96 => ?_)
  · have hf := if_f hf c96
    refine lv_iconst (v := (0 : Int32)) hx hb dX4_wins_187 (by decide) ?_
    exact hp_zret hx hb hr hlocks (Or.inl rfl) (Option.some.inj hf) rfl hP hS keep_rf dX4_wins_188
  · have hf := if_t hf c96
    refine lv_aload_n hx hb dX4_wins_165 rfl (lv_at hl 3 rfl) ?_
    have h97 : ∀ j : Nat, (mR M0 0 v0 4) = some j → mA M0 14 j = true := fun j hj => hp_wf hP a0 hj
    refine gf0 (v := va_rf (((mR M0 0 v0 4)).map (ad 14))) hx hb hts hown hK hP a0 4 (by decide) (hts _ q609) rfl rfl dX4_wins_166 ?_
    refine lv_bipush (v := (25 : Int32)) hx hb dX4_wins_169 (by decide) ?_
    refine lv_aload_n hx hb dX4_wins_171 rfl (lv_at hl 3 rfl) ?_
    refine gf0 (v := .int (mI M0 0 v0 18)) hx hb hts hown hK hP a0 18 (by decide) (hts _ q623) rfl rfl dX4_wins_172 ?_
    refine lv_imul hx hb dX4_wins_175 ?_
    refine lv_iload_n hx hb dX4_wins_176 rfl (lv_at hl 6 rfl) ?_
    refine lv_iadd hx hb dX4_wins_177 ?_
    obtain ⟨i98, e99, hf⟩ := ob_some hf
    have h100 : mA M0 14 i98 = true := h97 i98 e99
    refine W_stk (st := [.int (((25 : Int32) * (mI M0 0 v0 18)) + v3), va_rf (((mR M0 0 v0 4)).map (ad 14))]) (st' := [.int (((25 : Int32) * (mI M0 0 v0 18)) + v3), .ref (ad 14 i98)]) (by first | (rw [e99]; done) | (rw [e99]; rfl)) ?_
    obtain ⟨h101, hf⟩ := ix_some hf
    refine hp_iald hx hb hK hP h100 rfl h101 dX4_wins_178 ?_
    refine lv_iconst (v := (1 : Int32)) hx hb dX4_wins_179 (by decide) ?_
    refine lv_icmp_ne (tgt := 187) hx hb dX4_wins_180 (by decide) (fun c102 => ?_) (fun c102 => ?_)
    · have hf := if_f hf c102
      refine lv_iconst (v := (0 : Int32)) hx hb dX4_wins_187 (by decide) ?_
      exact hp_zret hx hb hr hlocks (Or.inl rfl) (Option.some.inj hf) rfl hP hS keep_rf dX4_wins_188
    · have hf := if_t hf c102
      refine lv_iconst (v := (1 : Int32)) hx hb dX4_wins_183 (by decide) ?_
      refine lv_goto (tgt := 188) hx hb dX4_wins_184 (by decide) ?_
      exact hp_zret hx hb hr hlocks (Or.inr rfl) (Option.some.inj hf) rfl hP hS keep_rf dX4_wins_188

def f_X4_holds (v0 : Nat) (v1 : Int32) (M0 : Mm) : Option Int32 :=
  ob (mR M0 0 v0 20) fun i27 => ix v1 600 (ob (mR M0 0 v0 21) fun i32 => ix ((3 : Int32) * v1) 1800 (ob (mR M0 0 v0 21) fun i37 => ix (((3 : Int32) * v1) + (1 : Int32)) 1800 (ob (mR M0 0 v0 21) fun i42 => ix (((3 : Int32) * v1) + (2 : Int32)) 1800 (ob (f_X4_wins v0 (mI M0 27 i27 (v1).toNatClampNeg) (mI M0 28 i32 (((3 : Int32) * v1)).toNatClampNeg) (mI M0 28 i37 ((((3 : Int32) * v1) + (1 : Int32))).toNatClampNeg) (mI M0 28 i42 ((((3 : Int32) * v1) + (2 : Int32))).toNatClampNeg) M0) fun r47 => zb r47 (some r47)))))
set_option maxRecDepth 100000 in
set_option maxHeartbeats 4000000 in
theorem ok_X4_holds (l : Launch) (D : va_G) (cy : Nat → ClassId) (ad : Nat → Nat → Nat) (M0 : Mm) (sz : Nat) (v0 : Nat) (v1 : Int32) (r0 : Int32) (a0 : mA M0 0 v0 = true) (hf : f_X4_holds v0 v1 M0 = some r0) : Met l yX4_holds (Cond.code yX4_holds cX4_holds 2 (some .boolean) :: BW) { frames := 2, cells := 0, slots := 0, locals := 58 } (va_Pc [.ref (ad 0 v0), .int v1] (PRE D cy ad M0 sz)) (QI D cy ad M0 sz r0 M0) 0 0 (AA ad M0 sz) := by
  refine Met.ofW (cc := cX4_holds) (maxL := 2) (ret := (some .boolean)) (by decide) rfl ?_
  intro p e s m args below meth c s₁ B hml hv
  obtain ⟨rfl, rfl, hP0, hK, hN⟩ := hv
  have hx := B.exec
  have hb := B.bytes
  have hr := B.returns
  have hts0 := atoms_spec (ws := (Cond.code yX4_holds cX4_holds 2 (some .boolean) :: BW)) B.pre
  have hts : ∀ w ∈ BW, w.before ([.ref (ad 0 v0), .int v1] : List Value).toArray s = true := fun w h => hts0 w (List.mem_cons_of_mem _ h)
  have hown : s.vm.findClass RX4 = some m.cls := findClass_of_methodNamed B.named
  have hlocks := B.notSynchronized
  have hA : ∀ q : Nat, s.heap.size ≤ q → AA ad M0 s.heap.size q := fun q h => Or.inr h
  have C : Cx RX4 cX4_holds 2 (some .boolean) D cy (AA ad M0 s.heap.size) p s m ([.ref (ad 0 v0), .int v1] : List Value).toArray meth c := ⟨hx, hb, hr, hml, hown, hts, hlocks, hK, hN, hA⟩
  have hP := hp_self (sz := s.heap.size) hP0
  have hS : va_S (AA ad M0 s.heap.size) s.heap s.heap [] := va_S.rf
  have hl := lv_entry ([.ref (ad 0 v0), .int v1]) (n := 2) (Nat.le_of_ble_eq_true rfl)
  rw [lg_entry_eq]
  generalize (lg_sl ([.ref (ad 0 v0), .int v1]) ++ List.replicate (2 - (lg_sl ([.ref (ad 0 v0), .int v1])).length) Slot.unset).toArray = ls at hl ⊢
  have hl : lv_has ls 2 [(0, .ref (ad 0 v0)), (1, .int v1)] := hl
  unfold f_X4_holds at hf
  refine lv_aload_n hx hb dX4_holds_0 rfl (lv_at hl 0 rfl) ?_
  refine lv_aload_n hx hb dX4_holds_1 rfl (lv_at hl 0 rfl) ?_
  have h26 : ∀ j : Nat, (mR M0 0 v0 20) = some j → mA M0 27 j = true := fun j hj => hp_wf hP a0 hj
  refine gf0 (v := va_rf (((mR M0 0 v0 20)).map (ad 27))) hx hb hts hown hK hP a0 20 (by decide) (hts _ q625) rfl rfl dX4_holds_2 ?_
  refine lv_iload_n hx hb dX4_holds_5 rfl (lv_at hl 1 rfl) ?_
  obtain ⟨i27, e28, hf⟩ := ob_some hf
  have h29 : mA M0 27 i27 = true := h26 i27 e28
  refine W_stk (st := [.int v1, va_rf (((mR M0 0 v0 20)).map (ad 27)), .ref (ad 0 v0)]) (st' := [.int v1, .ref (ad 27 i27), .ref (ad 0 v0)]) (by first | (rw [e28]; done) | (rw [e28]; rfl)) ?_
  obtain ⟨h30, hf⟩ := ix_some hf
  refine hp_iald hx hb hK hP h29 rfl h30 dX4_holds_6 ?_
  refine lv_aload_n hx hb dX4_holds_7 rfl (lv_at hl 0 rfl) ?_
  have h31 : ∀ j : Nat, (mR M0 0 v0 21) = some j → mA M0 28 j = true := fun j hj => hp_wf hP a0 hj
  refine gf0 (v := va_rf (((mR M0 0 v0 21)).map (ad 28))) hx hb hts hown hK hP a0 21 (by decide) (hts _ q626) rfl rfl dX4_holds_8 ?_
  refine lv_iconst (v := (3 : Int32)) hx hb dX4_holds_11 (by decide) ?_
  refine lv_iload_n hx hb dX4_holds_12 rfl (lv_at hl 1 rfl) ?_
  refine lv_imul hx hb dX4_holds_13 ?_
  obtain ⟨i32, e33, hf⟩ := ob_some hf
  have h34 : mA M0 28 i32 = true := h31 i32 e33
  refine W_stk (st := [.int ((3 : Int32) * v1), va_rf (((mR M0 0 v0 21)).map (ad 28)), .int (mI M0 27 i27 (v1).toNatClampNeg), .ref (ad 0 v0)]) (st' := [.int ((3 : Int32) * v1), .ref (ad 28 i32), .int (mI M0 27 i27 (v1).toNatClampNeg), .ref (ad 0 v0)]) (by first | (rw [e33]; done) | (rw [e33]; rfl)) ?_
  obtain ⟨h35, hf⟩ := ix_some hf
  refine hp_iald hx hb hK hP h34 rfl h35 dX4_holds_14 ?_
  refine lv_aload_n hx hb dX4_holds_15 rfl (lv_at hl 0 rfl) ?_
  have h36 : ∀ j : Nat, (mR M0 0 v0 21) = some j → mA M0 28 j = true := fun j hj => hp_wf hP a0 hj
  refine gf0 (v := va_rf (((mR M0 0 v0 21)).map (ad 28))) hx hb hts hown hK hP a0 21 (by decide) (hts _ q626) rfl rfl dX4_holds_16 ?_
  refine lv_iconst (v := (3 : Int32)) hx hb dX4_holds_19 (by decide) ?_
  refine lv_iload_n hx hb dX4_holds_20 rfl (lv_at hl 1 rfl) ?_
  refine lv_imul hx hb dX4_holds_21 ?_
  refine lv_iconst (v := (1 : Int32)) hx hb dX4_holds_22 (by decide) ?_
  refine lv_iadd hx hb dX4_holds_23 ?_
  obtain ⟨i37, e38, hf⟩ := ob_some hf
  have h39 : mA M0 28 i37 = true := h36 i37 e38
  refine W_stk (st := [.int (((3 : Int32) * v1) + (1 : Int32)), va_rf (((mR M0 0 v0 21)).map (ad 28)), .int (mI M0 28 i32 (((3 : Int32) * v1)).toNatClampNeg), .int (mI M0 27 i27 (v1).toNatClampNeg), .ref (ad 0 v0)]) (st' := [.int (((3 : Int32) * v1) + (1 : Int32)), .ref (ad 28 i37), .int (mI M0 28 i32 (((3 : Int32) * v1)).toNatClampNeg), .int (mI M0 27 i27 (v1).toNatClampNeg), .ref (ad 0 v0)]) (by first | (rw [e38]; done) | (rw [e38]; rfl)) ?_
  obtain ⟨h40, hf⟩ := ix_some hf
  refine hp_iald hx hb hK hP h39 rfl h40 dX4_holds_24 ?_
  refine lv_aload_n hx hb dX4_holds_25 rfl (lv_at hl 0 rfl) ?_
  have h41 : ∀ j : Nat, (mR M0 0 v0 21) = some j → mA M0 28 j = true := fun j hj => hp_wf hP a0 hj
  refine gf0 (v := va_rf (((mR M0 0 v0 21)).map (ad 28))) hx hb hts hown hK hP a0 21 (by decide) (hts _ q626) rfl rfl dX4_holds_26 ?_
  refine lv_iconst (v := (3 : Int32)) hx hb dX4_holds_29 (by decide) ?_
  refine lv_iload_n hx hb dX4_holds_30 rfl (lv_at hl 1 rfl) ?_
  refine lv_imul hx hb dX4_holds_31 ?_
  refine lv_iconst (v := (2 : Int32)) hx hb dX4_holds_32 (by decide) ?_
  refine lv_iadd hx hb dX4_holds_33 ?_
  obtain ⟨i42, e43, hf⟩ := ob_some hf
  have h44 : mA M0 28 i42 = true := h41 i42 e43
  refine W_stk (st := [.int (((3 : Int32) * v1) + (2 : Int32)), va_rf (((mR M0 0 v0 21)).map (ad 28)), .int (mI M0 28 i37 ((((3 : Int32) * v1) + (1 : Int32))).toNatClampNeg), .int (mI M0 28 i32 (((3 : Int32) * v1)).toNatClampNeg), .int (mI M0 27 i27 (v1).toNatClampNeg), .ref (ad 0 v0)]) (st' := [.int (((3 : Int32) * v1) + (2 : Int32)), .ref (ad 28 i42), .int (mI M0 28 i37 ((((3 : Int32) * v1) + (1 : Int32))).toNatClampNeg), .int (mI M0 28 i32 (((3 : Int32) * v1)).toNatClampNeg), .int (mI M0 27 i27 (v1).toNatClampNeg), .ref (ad 0 v0)]) (by first | (rw [e43]; done) | (rw [e43]; rfl)) ?_
  obtain ⟨h45, hf⟩ := ix_some hf
  refine hp_iald hx hb hK hP h44 rfl h45 dX4_holds_34 ?_
  obtain ⟨r47, e46, hf⟩ := ob_some hf
  refine hp_calli (va_runV (As := [.int (mI M0 27 i27 (v1).toNatClampNeg), .int (mI M0 28 i32 (((3 : Int32) * v1)).toNatClampNeg), .int (mI M0 28 i37 ((((3 : Int32) * v1) + (1 : Int32))).toNatClampNeg), .int (mI M0 28 i42 ((((3 : Int32) * v1) + (2 : Int32))).toNatClampNeg)]) (rest := []) ⟨hx, hb, hml, hown, hts⟩ (ok_X4_wins l D cy ad M0 _ v0 (mI M0 27 i27 (v1).toNatClampNeg) (mI M0 28 i32 (((3 : Int32) * v1)).toNatClampNeg) (mI M0 28 i37 ((((3 : Int32) * v1) + (1 : Int32))).toNatClampNeg) (mI M0 28 i42 ((((3 : Int32) * v1) + (2 : Int32))).toNatClampNeg) r47 a0 e46) (cwV 4 hts (gdV q828 q830 q71 q86 q831) rfl rfl rfl (by decide +kernel) ⟨Nat.le_of_ble_eq_true rfl, Nat.le_of_ble_eq_true rfl⟩) (pre_V hP hK hN a0 ds_0 rfl) rfl rfl hl.1 rfl (lv_room (Nat.le_of_ble_eq_true rfl)) dX4_holds_35 ⟨Nat.le_of_ble_eq_true rfl, Nat.le_of_ble_eq_true rfl⟩) hP hS hA (fun H locs hP hS _ => ?_)
  obtain ⟨h50, hf⟩ := zb_some hf
  exact hp_zret hx hb hr hlocks h50 (Option.some.inj hf) rfl hP hS keep_rf dX4_holds_38
def f_X4_isSame_78 (M0 : Mm) (v0 : Nat) (v1 : Int32) (v2 : Int32) (v5 : Int32) : Option Int32 :=
  ob (f_X4_many v2 M0) fun r78 => if r78 < (3 : Int32) then (some (1 : Int32)) else (ob (mR M0 0 v0 21) fun i83 => ix (((3 : Int32) * v1) + (2 : Int32)) 1800 (if (mI M0 28 i83 ((((3 : Int32) * v1) + (2 : Int32))).toNatClampNeg) = v5 then (some (1 : Int32)) else (some (0 : Int32))))
def f_X4_isSame_57 (M0 : Mm) (v0 : Nat) (v1 : Int32) (v2 : Int32) (v3 : Int32) (v4 : Int32) (v5 : Int32) (v6 : Int32) (v7 : Int32) : Option Int32 :=
  if v6 = v3 then (ob (f_X4_many v2 M0) fun r73 => if r73 < (2 : Int32) then (f_X4_isSame_78 M0 v0 v1 v2 v5) else (if v7 = v4 then (f_X4_isSame_78 M0 v0 v1 v2 v5) else (some (0 : Int32)))) else (some (0 : Int32))
def f_X4_isSame (v0 : Nat) (v1 : Int32) (v2 : Int32) (v3 : Int32) (v4 : Int32) (v5 : Int32) (M0 : Mm) : Option Int32 :=
  ob (mR M0 0 v0 21) fun i47 => ix ((3 : Int32) * v1) 1800 (lt (mI M0 28 i47 (((3 : Int32) * v1)).toNatClampNeg) fun x51 => ob (mR M0 0 v0 21) fun i54 => ix (((3 : Int32) * v1) + (1 : Int32)) 1800 (lt (mI M0 28 i54 ((((3 : Int32) * v1) + (1 : Int32))).toNatClampNeg) fun x58 => ob (mR M0 0 v0 20) fun i61 => ix v1 600 (if (mI M0 27 i61 (v1).toNatClampNeg) = v2 then (ob (f_X4_kindOf v2 M0) fun r67 => if r67 = (2 : Int32) then (if x51 = v4 then (if x58 = v3 then (some (1 : Int32)) else (f_X4_isSame_57 M0 v0 v1 v2 v3 v4 v5 x51 x58)) else (f_X4_isSame_57 M0 v0 v1 v2 v3 v4 v5 x51 x58)) else (f_X4_isSame_57 M0 v0 v1 v2 v3 v4 v5 x51 x58)) else (some (0 : Int32)))))
set_option maxRecDepth 100000 in
set_option maxHeartbeats 4000000 in
theorem t_X4_isSame_78 {p : Program} {l : Launch} {e : Env} {s : State} {m : MethodId} {args : Array Value} {below : List Frame} {meth : Method} {c : Code} {D : va_G} {cy : Nat → ClassId} {ad : Nat → Nat → Nat} {M0 : Mm} {r0 : Int32} (C : Cx RX4 cX4_isSame 8 (some .boolean) D cy (AA ad M0 s.heap.size) p s m args meth c) : ∀ (v0 : Nat) (v1 : Int32) (v2 : Int32) (v5 : Int32) (H : Heap) (locs : List Loc) (ls : Array Slot), (mA M0 0 v0 = true) → f_X4_isSame_78 M0 v0 v1 v2 v5 = some r0 → HP D cy (AA ad M0 s.heap.size) ad M0 H → va_S (AA ad M0 s.heap.size) s.heap H locs → lv_has ls 8 [(0, .ref (ad 0 v0)), (1, .int v1), (2, .int v2), (5, .int v5)] → W p l e { frames := 2, cells := 0, slots := 0, locals := 41 } s m args below meth c H locs 0 0 (MQ below (QI D cy ad M0 s.heap.size r0 M0) args s 0 0 (AA ad M0 s.heap.size)) (F0 m 78 ls []) := by
  obtain ⟨hx, hb, hr, hml, hown, hts, hlocks, hK, hN, hA⟩ := id C
  intro v0 v1 v2 v5 H locs ls a0 hf hP hS hl
  unfold f_X4_isSame_78 at hf
  refine lv_iload_n hx hb dX4_isSame_78 rfl (lv_at hl 2 rfl) ?_
  obtain ⟨r78, e77, hf⟩ := ob_some hf
  refine hp_calli (va_runS (As := [.int v2]) (rest := []) ⟨hx, hb, hml, hown, hts⟩ (ok_X4_many l D cy ad M0 _ v2 r78  e77) (va_cwS 1 hts (gdS q766 q767 q86 q768) rfl rfl rfl (by decide +kernel) ⟨Nat.le_of_ble_eq_true rfl, Nat.le_of_ble_eq_true rfl⟩) (pre_S hP hK hN) rfl rfl hl.1 rfl (lv_room (Nat.le_of_ble_eq_true rfl)) dX4_isSame_79 ⟨Nat.le_of_ble_eq_true rfl, Nat.le_of_ble_eq_true rfl⟩) hP hS hA (fun H locs hP hS _ => ?_)
  refine lv_iconst (v := (3 : Int32)) hx hb dX4_isSame_82 (by decide) ?_
  refine lv_icmp_lt (tgt := 101) hx hb dX4_isSame_83 (by decide) (fun c81 => ?_) (fun c81 => ?_)
  · have hf := if_t hf c81
    refine lv_iconst (v := (1 : Int32)) hx hb dX4_isSame_101 (by decide) ?_
    refine lv_goto (tgt := 106) hx hb dX4_isSame_102 (by decide) ?_
    exact hp_zret hx hb hr hlocks (Or.inr rfl) (Option.some.inj hf) rfl hP hS keep_rf dX4_isSame_106
  · have hf := if_f hf c81
    refine lv_aload_n hx hb dX4_isSame_86 rfl (lv_at hl 0 rfl) ?_
    have h82 : ∀ j : Nat, (mR M0 0 v0 21) = some j → mA M0 28 j = true := fun j hj => hp_wf hP a0 hj
    refine gf0 (v := va_rf (((mR M0 0 v0 21)).map (ad 28))) hx hb hts hown hK hP a0 21 (by decide) (hts _ q626) rfl rfl dX4_isSame_87 ?_
    refine lv_iconst (v := (3 : Int32)) hx hb dX4_isSame_90 (by decide) ?_
    refine lv_iload_n hx hb dX4_isSame_91 rfl (lv_at hl 1 rfl) ?_
    refine lv_imul hx hb dX4_isSame_92 ?_
    refine lv_iconst (v := (2 : Int32)) hx hb dX4_isSame_93 (by decide) ?_
    refine lv_iadd hx hb dX4_isSame_94 ?_
    obtain ⟨i83, e84, hf⟩ := ob_some hf
    have h85 : mA M0 28 i83 = true := h82 i83 e84
    refine W_stk (st := [.int (((3 : Int32) * v1) + (2 : Int32)), va_rf (((mR M0 0 v0 21)).map (ad 28))]) (st' := [.int (((3 : Int32) * v1) + (2 : Int32)), .ref (ad 28 i83)]) (by first | (rw [e84]; done) | (rw [e84]; rfl)) ?_
    obtain ⟨h86, hf⟩ := ix_some hf
    refine hp_iald hx hb hK hP h85 rfl h86 dX4_isSame_95 ?_
    refine lv_iload hx hb dX4_isSame_96 (lv_at hl 3 rfl) ?_
    refine lv_icmp_ne (tgt := 105) hx hb dX4_isSame_98 (by decide) (fun c87 => ?_) (fun c87 => ?_)
    · have hf := if_f hf c87
      refine lv_iconst (v := (0 : Int32)) hx hb dX4_isSame_105 (by decide) ?_
      exact hp_zret hx hb hr hlocks (Or.inl rfl) (Option.some.inj hf) rfl hP hS keep_rf dX4_isSame_106
    · have hf := if_t hf c87
      refine lv_iconst (v := (1 : Int32)) hx hb dX4_isSame_101 (by decide) ?_
      refine lv_goto (tgt := 106) hx hb dX4_isSame_102 (by decide) ?_
      exact hp_zret hx hb hr hlocks (Or.inr rfl) (Option.some.inj hf) rfl hP hS keep_rf dX4_isSame_106
set_option maxRecDepth 100000 in
set_option maxHeartbeats 4000000 in
theorem t_X4_isSame_57 {p : Program} {l : Launch} {e : Env} {s : State} {m : MethodId} {args : Array Value} {below : List Frame} {meth : Method} {c : Code} {D : va_G} {cy : Nat → ClassId} {ad : Nat → Nat → Nat} {M0 : Mm} {r0 : Int32} (C : Cx RX4 cX4_isSame 8 (some .boolean) D cy (AA ad M0 s.heap.size) p s m args meth c) : ∀ (v0 : Nat) (v1 : Int32) (v2 : Int32) (v3 : Int32) (v4 : Int32) (v5 : Int32) (v6 : Int32) (v7 : Int32) (H : Heap) (locs : List Loc) (ls : Array Slot), (mA M0 0 v0 = true) → f_X4_isSame_57 M0 v0 v1 v2 v3 v4 v5 v6 v7 = some r0 → HP D cy (AA ad M0 s.heap.size) ad M0 H → va_S (AA ad M0 s.heap.size) s.heap H locs → lv_has ls 8 [(0, .ref (ad 0 v0)), (1, .int v1), (2, .int v2), (3, .int v3), (4, .int v4), (5, .int v5), (6, .int v6), (7, .int v7)] → W p l e { frames := 2, cells := 0, slots := 0, locals := 41 } s m args below meth c H locs 0 0 (MQ below (QI D cy ad M0 s.heap.size r0 M0) args s 0 0 (AA ad M0 s.heap.size)) (F0 m 57 ls []) := by
  obtain ⟨hx, hb, hr, hml, hown, hts, hlocks, hK, hN, hA⟩ := id C
  intro v0 v1 v2 v3 v4 v5 v6 v7 H locs ls a0 hf hP hS hl
  unfold f_X4_isSame_57 at hf
  refine lv_iload hx hb dX4_isSame_57 (lv_at hl 6 rfl) ?_
  refine lv_iload_n hx hb dX4_isSame_59 rfl (lv_at hl 3 rfl) ?_
  refine lv_icmp_ne (tgt := 105) hx hb dX4_isSame_60 (by decide) (fun c71 => ?_) (fun c71 => ?_)
  · have hf := if_f hf c71
    refine lv_iconst (v := (0 : Int32)) hx hb dX4_isSame_105 (by decide) ?_
    exact hp_zret hx hb hr hlocks (Or.inl rfl) (Option.some.inj hf) rfl hP hS keep_rf dX4_isSame_106
  · have hf := if_t hf c71
    refine lv_iload_n hx hb dX4_isSame_63 rfl (lv_at hl 2 rfl) ?_
    obtain ⟨r73, e72, hf⟩ := ob_some hf
    refine hp_calli (va_runS (As := [.int v2]) (rest := []) ⟨hx, hb, hml, hown, hts⟩ (ok_X4_many l D cy ad M0 _ v2 r73  e72) (va_cwS 1 hts (gdS q766 q767 q86 q768) rfl rfl rfl (by decide +kernel) ⟨Nat.le_of_ble_eq_true rfl, Nat.le_of_ble_eq_true rfl⟩) (pre_S hP hK hN) rfl rfl hl.1 rfl (lv_room (Nat.le_of_ble_eq_true rfl)) dX4_isSame_64 ⟨Nat.le_of_ble_eq_true rfl, Nat.le_of_ble_eq_true rfl⟩) hP hS hA (fun H locs hP hS _ => ?_)
    refine lv_iconst (v := (2 : Int32)) hx hb dX4_isSame_67 (by decide) ?_
    refine lv_icmp_lt (tgt := 78) hx hb dX4_isSame_68 (by decide) (fun c76 => ?_) (fun c76 => ?_)
    · have hf := if_t hf c76
      exact t_X4_isSame_78 C v0 v1 v2 v5 _ _ _ a0 hf hP hS (lv_sub hl [0, 1, 2, 5] rfl)
    · have hf := if_f hf c76
      refine lv_iload hx hb dX4_isSame_71 (lv_at hl 7 rfl) ?_
      refine lv_iload hx hb dX4_isSame_73 (lv_at hl 4 rfl) ?_
      refine lv_icmp_ne (tgt := 105) hx hb dX4_isSame_75 (by decide) (fun c88 => ?_) (fun c88 => ?_)
      · have hf := if_f hf c88
        refine lv_iconst (v := (0 : Int32)) hx hb dX4_isSame_105 (by decide) ?_
        exact hp_zret hx hb hr hlocks (Or.inl rfl) (Option.some.inj hf) rfl hP hS keep_rf dX4_isSame_106
      · have hf := if_t hf c88
        exact t_X4_isSame_78 C v0 v1 v2 v5 _ _ _ a0 hf hP hS (lv_sub hl [0, 1, 2, 5] rfl)
set_option maxRecDepth 100000 in
set_option maxHeartbeats 4000000 in
theorem ok_X4_isSame (l : Launch) (D : va_G) (cy : Nat → ClassId) (ad : Nat → Nat → Nat) (M0 : Mm) (sz : Nat) (v0 : Nat) (v1 : Int32) (v2 : Int32) (v3 : Int32) (v4 : Int32) (v5 : Int32) (r0 : Int32) (a0 : mA M0 0 v0 = true) (hf : f_X4_isSame v0 v1 v2 v3 v4 v5 M0 = some r0) : Met l yX4_isSame (Cond.code yX4_isSame cX4_isSame 8 (some .boolean) :: BW) { frames := 2, cells := 0, slots := 0, locals := 41 } (va_Pc [.ref (ad 0 v0), .int v1, .int v2, .int v3, .int v4, .int v5] (PRE D cy ad M0 sz)) (QI D cy ad M0 sz r0 M0) 0 0 (AA ad M0 sz) := by
  refine Met.ofW (cc := cX4_isSame) (maxL := 8) (ret := (some .boolean)) (by decide) rfl ?_
  intro p e s m args below meth c s₁ B hml hv
  obtain ⟨rfl, rfl, hP0, hK, hN⟩ := hv
  have hx := B.exec
  have hb := B.bytes
  have hr := B.returns
  have hts0 := atoms_spec (ws := (Cond.code yX4_isSame cX4_isSame 8 (some .boolean) :: BW)) B.pre
  have hts : ∀ w ∈ BW, w.before ([.ref (ad 0 v0), .int v1, .int v2, .int v3, .int v4, .int v5] : List Value).toArray s = true := fun w h => hts0 w (List.mem_cons_of_mem _ h)
  have hown : s.vm.findClass RX4 = some m.cls := findClass_of_methodNamed B.named
  have hlocks := B.notSynchronized
  have hA : ∀ q : Nat, s.heap.size ≤ q → AA ad M0 s.heap.size q := fun q h => Or.inr h
  have C : Cx RX4 cX4_isSame 8 (some .boolean) D cy (AA ad M0 s.heap.size) p s m ([.ref (ad 0 v0), .int v1, .int v2, .int v3, .int v4, .int v5] : List Value).toArray meth c := ⟨hx, hb, hr, hml, hown, hts, hlocks, hK, hN, hA⟩
  have hP := hp_self (sz := s.heap.size) hP0
  have hS : va_S (AA ad M0 s.heap.size) s.heap s.heap [] := va_S.rf
  have hl := lv_entry ([.ref (ad 0 v0), .int v1, .int v2, .int v3, .int v4, .int v5]) (n := 8) (Nat.le_of_ble_eq_true rfl)
  rw [lg_entry_eq]
  generalize (lg_sl ([.ref (ad 0 v0), .int v1, .int v2, .int v3, .int v4, .int v5]) ++ List.replicate (8 - (lg_sl ([.ref (ad 0 v0), .int v1, .int v2, .int v3, .int v4, .int v5])).length) Slot.unset).toArray = ls at hl ⊢
  have hl : lv_has ls 8 [(0, .ref (ad 0 v0)), (1, .int v1), (2, .int v2), (3, .int v3), (4, .int v4), (5, .int v5)] := hl
  unfold f_X4_isSame at hf
  refine lv_aload_n hx hb dX4_isSame_0 rfl (lv_at hl 0 rfl) ?_
  have h46 : ∀ j : Nat, (mR M0 0 v0 21) = some j → mA M0 28 j = true := fun j hj => hp_wf hP a0 hj
  refine gf0 (v := va_rf (((mR M0 0 v0 21)).map (ad 28))) hx hb hts hown hK hP a0 21 (by decide) (hts _ q626) rfl rfl dX4_isSame_1 ?_
  refine lv_iconst (v := (3 : Int32)) hx hb dX4_isSame_4 (by decide) ?_
  refine lv_iload_n hx hb dX4_isSame_5 rfl (lv_at hl 1 rfl) ?_
  refine lv_imul hx hb dX4_isSame_6 ?_
  obtain ⟨i47, e48, hf⟩ := ob_some hf
  have h49 : mA M0 28 i47 = true := h46 i47 e48
  refine W_stk (st := [.int ((3 : Int32) * v1), va_rf (((mR M0 0 v0 21)).map (ad 28))]) (st' := [.int ((3 : Int32) * v1), .ref (ad 28 i47)]) (by first | (rw [e48]; done) | (rw [e48]; rfl)) ?_
  obtain ⟨h50, hf⟩ := ix_some hf
  refine hp_iald hx hb hK hP h49 rfl h50 dX4_isSame_7 ?_
  obtain ⟨x51, e52, hf⟩ := lt_some hf
  refine W_topI e52 ?_
  refine lv_istore (lv' := [(6, .int x51), (0, .ref (ad 0 v0)), (1, .int v1), (2, .int v2), (3, .int v3), (4, .int v4), (5, .int v5)]) hx hb dX4_isSame_8 hl (by decide) rfl (fun ls hl => ?_)
  refine lv_aload_n hx hb dX4_isSame_10 rfl (lv_at hl 1 rfl) ?_
  have h53 : ∀ j : Nat, (mR M0 0 v0 21) = some j → mA M0 28 j = true := fun j hj => hp_wf hP a0 hj
  refine gf0 (v := va_rf (((mR M0 0 v0 21)).map (ad 28))) hx hb hts hown hK hP a0 21 (by decide) (hts _ q626) rfl rfl dX4_isSame_11 ?_
  refine lv_iconst (v := (3 : Int32)) hx hb dX4_isSame_14 (by decide) ?_
  refine lv_iload_n hx hb dX4_isSame_15 rfl (lv_at hl 2 rfl) ?_
  refine lv_imul hx hb dX4_isSame_16 ?_
  refine lv_iconst (v := (1 : Int32)) hx hb dX4_isSame_17 (by decide) ?_
  refine lv_iadd hx hb dX4_isSame_18 ?_
  obtain ⟨i54, e55, hf⟩ := ob_some hf
  have h56 : mA M0 28 i54 = true := h53 i54 e55
  refine W_stk (st := [.int (((3 : Int32) * v1) + (1 : Int32)), va_rf (((mR M0 0 v0 21)).map (ad 28))]) (st' := [.int (((3 : Int32) * v1) + (1 : Int32)), .ref (ad 28 i54)]) (by first | (rw [e55]; done) | (rw [e55]; rfl)) ?_
  obtain ⟨h57, hf⟩ := ix_some hf
  refine hp_iald hx hb hK hP h56 rfl h57 dX4_isSame_19 ?_
  obtain ⟨x58, e59, hf⟩ := lt_some hf
  refine W_topI e59 ?_
  refine lv_istore (lv' := [(7, .int x58), (6, .int x51), (0, .ref (ad 0 v0)), (1, .int v1), (2, .int v2), (3, .int v3), (4, .int v4), (5, .int v5)]) hx hb dX4_isSame_20 hl (by decide) rfl (fun ls hl => ?_)
  refine lv_aload_n hx hb dX4_isSame_22 rfl (lv_at hl 2 rfl) ?_
  have h60 : ∀ j : Nat, (mR M0 0 v0 20) = some j → mA M0 27 j = true := fun j hj => hp_wf hP a0 hj
  refine gf0 (v := va_rf (((mR M0 0 v0 20)).map (ad 27))) hx hb hts hown hK hP a0 20 (by decide) (hts _ q625) rfl rfl dX4_isSame_23 ?_
  refine lv_iload_n hx hb dX4_isSame_26 rfl (lv_at hl 3 rfl) ?_
  obtain ⟨i61, e62, hf⟩ := ob_some hf
  have h63 : mA M0 27 i61 = true := h60 i61 e62
  refine W_stk (st := [.int v1, va_rf (((mR M0 0 v0 20)).map (ad 27))]) (st' := [.int v1, .ref (ad 27 i61)]) (by first | (rw [e62]; done) | (rw [e62]; rfl)) ?_
  obtain ⟨h64, hf⟩ := ix_some hf
  refine hp_iald hx hb hK hP h63 rfl h64 dX4_isSame_27 ?_
  refine lv_iload_n hx hb dX4_isSame_28 rfl (lv_at hl 4 rfl) ?_
  refine lv_icmp_eq (tgt := 34) hx hb dX4_isSame_29 (by decide) (fun c65 => ?_) (fun c65 => ?_)
  · have hf := if_t hf c65
    refine lv_iload_n hx hb dX4_isSame_34 rfl (lv_at hl 4 rfl) ?_
    obtain ⟨r67, e66, hf⟩ := ob_some hf
    refine hp_calli (va_runS (As := [.int v2]) (rest := []) ⟨hx, hb, hml, hown, hts⟩ (ok_X4_kindOf l D cy ad M0 _ v2 r67  e66) (va_cwS 1 hts (gdS q769 q770 q86 q771) rfl rfl rfl (by decide +kernel) ⟨Nat.le_of_ble_eq_true rfl, Nat.le_of_ble_eq_true rfl⟩) (pre_S hP hK hN) rfl rfl hl.1 rfl (lv_room (Nat.le_of_ble_eq_true rfl)) dX4_isSame_35 ⟨Nat.le_of_ble_eq_true rfl, Nat.le_of_ble_eq_true rfl⟩) hP hS hA (fun H locs hP hS _ => ?_)
    refine lv_iconst (v := (2 : Int32)) hx hb dX4_isSame_38 (by decide) ?_
    refine lv_icmp_ne (tgt := 57) hx hb dX4_isSame_39 (by decide) (fun c70 => ?_) (fun c70 => ?_)
    · have hf := if_f hf c70
      exact t_X4_isSame_57 C v0 v1 v2 v3 v4 v5 x51 x58 _ _ _ a0 hf hP hS (lv_sub hl [2, 3, 4, 5, 6, 7, 1, 0] rfl)
    · have hf := if_t hf c70
      refine lv_iload hx hb dX4_isSame_42 (lv_at hl 1 rfl) ?_
      refine lv_iload hx hb dX4_isSame_44 (lv_at hl 6 rfl) ?_
      refine lv_icmp_ne (tgt := 57) hx hb dX4_isSame_46 (by decide) (fun c89 => ?_) (fun c89 => ?_)
      · have hf := if_f hf c89
        exact t_X4_isSame_57 C v0 v1 v2 v3 v4 v5 x51 x58 _ _ _ a0 hf hP hS (lv_sub hl [2, 3, 4, 5, 6, 7, 1, 0] rfl)
      · have hf := if_t hf c89
        refine lv_iload hx hb dX4_isSame_49 (lv_at hl 0 rfl) ?_
        refine lv_iload_n hx hb dX4_isSame_51 rfl (lv_at hl 5 rfl) ?_
        refine lv_icmp_ne (tgt := 57) hx hb dX4_isSame_52 (by decide) (fun c90 => ?_) (fun c90 => ?_)
        · have hf := if_f hf c90
          exact t_X4_isSame_57 C v0 v1 v2 v3 v4 v5 x51 x58 _ _ _ a0 hf hP hS (lv_sub hl [2, 3, 4, 5, 6, 7, 1, 0] rfl)
        · have hf := if_t hf c90
          refine lv_iconst (v := (1 : Int32)) hx hb dX4_isSame_55 (by decide) ?_
          exact hp_zret hx hb hr hlocks (Or.inr rfl) (Option.some.inj hf) rfl hP hS keep_rf dX4_isSame_56
  · have hf := if_f hf c65
    refine lv_iconst (v := (0 : Int32)) hx hb dX4_isSame_32 (by decide) ?_
    exact hp_zret hx hb hr hlocks (Or.inl rfl) (Option.some.inj hf) rfl hP hS keep_rf dX4_isSame_33
def f_X4_isFirst_2 (M0 : Mm) : Nat → Nat → Int32 → Int32 → Option Int32
  | 0, _, _, _ => none
  | n + 1, v0, v1, v2 => if v1 ≤ v2 then (some (1 : Int32)) else (ob (f_X4_counts v0 v2 M0) fun r38 => if r38 = 0 then (lt (v2 + (1 : Int32)) fun x42 => f_X4_isFirst_2 M0 n v0 v1 x42) else (ob (mR M0 0 v0 20) fun i45 => ix v1 600 (ob (mR M0 0 v0 21) fun i50 => ix ((3 : Int32) * v1) 1800 (ob (mR M0 0 v0 21) fun i55 => ix (((3 : Int32) * v1) + (1 : Int32)) 1800 (ob (mR M0 0 v0 21) fun i60 => ix (((3 : Int32) * v1) + (2 : Int32)) 1800 (ob (f_X4_isSame v0 v2 (mI M0 27 i45 (v1).toNatClampNeg) (mI M0 28 i50 (((3 : Int32) * v1)).toNatClampNeg) (mI M0 28 i55 ((((3 : Int32) * v1) + (1 : Int32))).toNatClampNeg) (mI M0 28 i60 ((((3 : Int32) * v1) + (2 : Int32))).toNatClampNeg) M0) fun r65 => if r65 = 0 then (lt (v2 + (1 : Int32)) fun x69 => f_X4_isFirst_2 M0 n v0 v1 x69) else (some (0 : Int32))))))))
def f_X4_isFirst (v0 : Nat) (v1 : Int32) (M0 : Mm) : Option Int32 :=
  f_X4_isFirst_2 M0 FU v0 v1 (0 : Int32)
set_option maxRecDepth 100000 in
set_option maxHeartbeats 4000000 in
theorem t_X4_isFirst_2 {p : Program} {l : Launch} {e : Env} {s : State} {m : MethodId} {args : Array Value} {below : List Frame} {meth : Method} {c : Code} {D : va_G} {cy : Nat → ClassId} {ad : Nat → Nat → Nat} {M0 : Mm} {r0 : Int32} (C : Cx RX4 cX4_isFirst 3 (some .boolean) D cy (AA ad M0 s.heap.size) p s m args meth c) : ∀ (n : Nat), ∀ (v0 : Nat) (v1 : Int32) (v2 : Int32) (H : Heap) (locs : List Loc) (ls : Array Slot), (mA M0 0 v0 = true) → f_X4_isFirst_2 M0 n v0 v1 v2 = some r0 → HP D cy (AA ad M0 s.heap.size) ad M0 H → va_S (AA ad M0 s.heap.size) s.heap H locs → lv_has ls 3 [(0, .ref (ad 0 v0)), (1, .int v1), (2, .int v2)] → W p l e { frames := 3, cells := 0, slots := 0, locals := 68 } s m args below meth c H locs 0 0 (MQ below (QI D cy ad M0 s.heap.size r0 M0) args s 0 0 (AA ad M0 s.heap.size)) (F0 m 2 ls []) := by
  obtain ⟨hx, hb, hr, hml, hown, hts, hlocks, hK, hN, hA⟩ := id C
  intro n
  induction n with
  | zero =>
    intro v0 v1 v2 H locs ls a0 hf hP hS hl
    simp [f_X4_isFirst_2] at hf
  | succ n ih =>
    intro v0 v1 v2 H locs ls a0 hf hP hS hl
    rw [f_X4_isFirst_2] at hf
    refine lv_iload_n hx hb dX4_isFirst_2 rfl (lv_at hl 2 rfl) ?_
    refine lv_iload_n hx hb dX4_isFirst_3 rfl (lv_at hl 1 rfl) ?_
    refine lv_icmp_ge (tgt := 65) hx hb dX4_isFirst_4 (by decide) (fun c36 => ?_) (fun c36 => ?_)
    · have hf := if_t hf c36
      refine lv_iconst (v := (1 : Int32)) hx hb dX4_isFirst_65 (by decide) ?_
      exact hp_zret hx hb hr hlocks (Or.inr rfl) (Option.some.inj hf) rfl hP hS keep_rf dX4_isFirst_66
    · have hf := if_f hf c36
      refine lv_aload_n hx hb dX4_isFirst_7 rfl (lv_at hl 0 rfl) ?_
      refine lv_iload_n hx hb dX4_isFirst_8 rfl (lv_at hl 2 rfl) ?_
      obtain ⟨r38, e37, hf⟩ := ob_some hf
      refine hp_calli (va_runV (As := [.int v2]) (rest := []) ⟨hx, hb, hml, hown, hts⟩ (ok_X4_counts l D cy ad M0 _ v0 v2 r38 a0 e37) (cwV 1 hts (gdV q820 q822 q69 q86 q823) rfl rfl rfl (by decide +kernel) ⟨Nat.le_of_ble_eq_true rfl, Nat.le_of_ble_eq_true rfl⟩) (pre_V hP hK hN a0 ds_0 rfl) rfl rfl hl.1 rfl (lv_room (Nat.le_of_ble_eq_true rfl)) dX4_isFirst_9 ⟨Nat.le_of_ble_eq_true rfl, Nat.le_of_ble_eq_true rfl⟩) hP hS hA (fun H locs hP hS _ => ?_)
      refine lv_if_eq (tgt := 59) hx hb dX4_isFirst_12 (by decide) (fun c41 => ?_) (fun c41 => ?_)
      · have hf := if_t hf c41
        obtain ⟨x42, e43, hf⟩ := lt_some hf
        refine lv_iinc (v := x42) (lv' := [(2, .int x42), (0, .ref (ad 0 v0)), (1, .int v1)]) hx hb dX4_isFirst_59 hl (k := 2) rfl (by rw [e43]; rfl) (by decide) rfl (fun ls hl => ?_)
        refine lv_goto (tgt := 2) hx hb dX4_isFirst_62 (by decide) ?_
        exact ih v0 v1 x42 _ _ _ a0 hf hP hS (lv_sub hl [1, 2, 0] rfl)
      · have hf := if_f hf c41
        refine lv_aload_n hx hb dX4_isFirst_15 rfl (lv_at hl 0 rfl) ?_
        refine lv_iload_n hx hb dX4_isFirst_16 rfl (lv_at hl 2 rfl) ?_
        refine lv_aload_n hx hb dX4_isFirst_17 rfl (lv_at hl 0 rfl) ?_
        have h44 : ∀ j : Nat, (mR M0 0 v0 20) = some j → mA M0 27 j = true := fun j hj => hp_wf hP a0 hj
        refine gf0 (v := va_rf (((mR M0 0 v0 20)).map (ad 27))) hx hb hts hown hK hP a0 20 (by decide) (hts _ q625) rfl rfl dX4_isFirst_18 ?_
        refine lv_iload_n hx hb dX4_isFirst_21 rfl (lv_at hl 1 rfl) ?_
        obtain ⟨i45, e46, hf⟩ := ob_some hf
        have h47 : mA M0 27 i45 = true := h44 i45 e46
        refine W_stk (st := [.int v1, va_rf (((mR M0 0 v0 20)).map (ad 27)), .int v2, .ref (ad 0 v0)]) (st' := [.int v1, .ref (ad 27 i45), .int v2, .ref (ad 0 v0)]) (by first | (rw [e46]; done) | (rw [e46]; rfl)) ?_
        obtain ⟨h48, hf⟩ := ix_some hf
        refine hp_iald hx hb hK hP h47 rfl h48 dX4_isFirst_22 ?_
        refine lv_aload_n hx hb dX4_isFirst_23 rfl (lv_at hl 0 rfl) ?_
        have h49 : ∀ j : Nat, (mR M0 0 v0 21) = some j → mA M0 28 j = true := fun j hj => hp_wf hP a0 hj
        refine gf0 (v := va_rf (((mR M0 0 v0 21)).map (ad 28))) hx hb hts hown hK hP a0 21 (by decide) (hts _ q626) rfl rfl dX4_isFirst_24 ?_
        refine lv_iconst (v := (3 : Int32)) hx hb dX4_isFirst_27 (by decide) ?_
        refine lv_iload_n hx hb dX4_isFirst_28 rfl (lv_at hl 1 rfl) ?_
        refine lv_imul hx hb dX4_isFirst_29 ?_
        obtain ⟨i50, e51, hf⟩ := ob_some hf
        have h52 : mA M0 28 i50 = true := h49 i50 e51
        refine W_stk (st := [.int ((3 : Int32) * v1), va_rf (((mR M0 0 v0 21)).map (ad 28)), .int (mI M0 27 i45 (v1).toNatClampNeg), .int v2, .ref (ad 0 v0)]) (st' := [.int ((3 : Int32) * v1), .ref (ad 28 i50), .int (mI M0 27 i45 (v1).toNatClampNeg), .int v2, .ref (ad 0 v0)]) (by first | (rw [e51]; done) | (rw [e51]; rfl)) ?_
        obtain ⟨h53, hf⟩ := ix_some hf
        refine hp_iald hx hb hK hP h52 rfl h53 dX4_isFirst_30 ?_
        refine lv_aload_n hx hb dX4_isFirst_31 rfl (lv_at hl 0 rfl) ?_
        have h54 : ∀ j : Nat, (mR M0 0 v0 21) = some j → mA M0 28 j = true := fun j hj => hp_wf hP a0 hj
        refine gf0 (v := va_rf (((mR M0 0 v0 21)).map (ad 28))) hx hb hts hown hK hP a0 21 (by decide) (hts _ q626) rfl rfl dX4_isFirst_32 ?_
        refine lv_iconst (v := (3 : Int32)) hx hb dX4_isFirst_35 (by decide) ?_
        refine lv_iload_n hx hb dX4_isFirst_36 rfl (lv_at hl 1 rfl) ?_
        refine lv_imul hx hb dX4_isFirst_37 ?_
        refine lv_iconst (v := (1 : Int32)) hx hb dX4_isFirst_38 (by decide) ?_
        refine lv_iadd hx hb dX4_isFirst_39 ?_
        obtain ⟨i55, e56, hf⟩ := ob_some hf
        have h57 : mA M0 28 i55 = true := h54 i55 e56
        refine W_stk (st := [.int (((3 : Int32) * v1) + (1 : Int32)), va_rf (((mR M0 0 v0 21)).map (ad 28)), .int (mI M0 28 i50 (((3 : Int32) * v1)).toNatClampNeg), .int (mI M0 27 i45 (v1).toNatClampNeg), .int v2, .ref (ad 0 v0)]) (st' := [.int (((3 : Int32) * v1) + (1 : Int32)), .ref (ad 28 i55), .int (mI M0 28 i50 (((3 : Int32) * v1)).toNatClampNeg), .int (mI M0 27 i45 (v1).toNatClampNeg), .int v2, .ref (ad 0 v0)]) (by first | (rw [e56]; done) | (rw [e56]; rfl)) ?_
        obtain ⟨h58, hf⟩ := ix_some hf
        refine hp_iald hx hb hK hP h57 rfl h58 dX4_isFirst_40 ?_
        refine lv_aload_n hx hb dX4_isFirst_41 rfl (lv_at hl 0 rfl) ?_
        have h59 : ∀ j : Nat, (mR M0 0 v0 21) = some j → mA M0 28 j = true := fun j hj => hp_wf hP a0 hj
        refine gf0 (v := va_rf (((mR M0 0 v0 21)).map (ad 28))) hx hb hts hown hK hP a0 21 (by decide) (hts _ q626) rfl rfl dX4_isFirst_42 ?_
        refine lv_iconst (v := (3 : Int32)) hx hb dX4_isFirst_45 (by decide) ?_
        refine lv_iload_n hx hb dX4_isFirst_46 rfl (lv_at hl 1 rfl) ?_
        refine lv_imul hx hb dX4_isFirst_47 ?_
        refine lv_iconst (v := (2 : Int32)) hx hb dX4_isFirst_48 (by decide) ?_
        refine lv_iadd hx hb dX4_isFirst_49 ?_
        obtain ⟨i60, e61, hf⟩ := ob_some hf
        have h62 : mA M0 28 i60 = true := h59 i60 e61
        refine W_stk (st := [.int (((3 : Int32) * v1) + (2 : Int32)), va_rf (((mR M0 0 v0 21)).map (ad 28)), .int (mI M0 28 i55 ((((3 : Int32) * v1) + (1 : Int32))).toNatClampNeg), .int (mI M0 28 i50 (((3 : Int32) * v1)).toNatClampNeg), .int (mI M0 27 i45 (v1).toNatClampNeg), .int v2, .ref (ad 0 v0)]) (st' := [.int (((3 : Int32) * v1) + (2 : Int32)), .ref (ad 28 i60), .int (mI M0 28 i55 ((((3 : Int32) * v1) + (1 : Int32))).toNatClampNeg), .int (mI M0 28 i50 (((3 : Int32) * v1)).toNatClampNeg), .int (mI M0 27 i45 (v1).toNatClampNeg), .int v2, .ref (ad 0 v0)]) (by first | (rw [e61]; done) | (rw [e61]; rfl)) ?_
        obtain ⟨h63, hf⟩ := ix_some hf
        refine hp_iald hx hb hK hP h62 rfl h63 dX4_isFirst_50 ?_
        obtain ⟨r65, e64, hf⟩ := ob_some hf
        refine hp_calli (va_runV (As := [.int v2, .int (mI M0 27 i45 (v1).toNatClampNeg), .int (mI M0 28 i50 (((3 : Int32) * v1)).toNatClampNeg), .int (mI M0 28 i55 ((((3 : Int32) * v1) + (1 : Int32))).toNatClampNeg), .int (mI M0 28 i60 ((((3 : Int32) * v1) + (2 : Int32))).toNatClampNeg)]) (rest := []) ⟨hx, hb, hml, hown, hts⟩ (ok_X4_isSame l D cy ad M0 _ v0 v2 (mI M0 27 i45 (v1).toNatClampNeg) (mI M0 28 i50 (((3 : Int32) * v1)).toNatClampNeg) (mI M0 28 i55 ((((3 : Int32) * v1) + (1 : Int32))).toNatClampNeg) (mI M0 28 i60 ((((3 : Int32) * v1) + (2 : Int32))).toNatClampNeg) r65 a0 e64) (cwV 5 hts (gdV q840 q842 q74 q86 q843) rfl rfl rfl (by decide +kernel) ⟨Nat.le_of_ble_eq_true rfl, Nat.le_of_ble_eq_true rfl⟩) (pre_V hP hK hN a0 ds_0 rfl) rfl rfl hl.1 rfl (lv_room (Nat.le_of_ble_eq_true rfl)) dX4_isFirst_51 ⟨Nat.le_of_ble_eq_true rfl, Nat.le_of_ble_eq_true rfl⟩) hP hS hA (fun H locs hP hS _ => ?_)
        refine lv_if_eq (tgt := 59) hx hb dX4_isFirst_54 (by decide) (fun c68 => ?_) (fun c68 => ?_)
        · have hf := if_t hf c68
          obtain ⟨x69, e70, hf⟩ := lt_some hf
          refine lv_iinc (v := x69) (lv' := [(2, .int x69), (0, .ref (ad 0 v0)), (1, .int v1)]) hx hb dX4_isFirst_59 hl (k := 2) rfl (by rw [e70]; rfl) (by decide) rfl (fun ls hl => ?_)
          refine lv_goto (tgt := 2) hx hb dX4_isFirst_62 (by decide) ?_
          exact ih v0 v1 x69 _ _ _ a0 hf hP hS (lv_sub hl [1, 2, 0] rfl)
        · have hf := if_f hf c68
          refine lv_iconst (v := (0 : Int32)) hx hb dX4_isFirst_57 (by decide) ?_
          exact hp_zret hx hb hr hlocks (Or.inl rfl) (Option.some.inj hf) rfl hP hS keep_rf dX4_isFirst_58
set_option maxRecDepth 100000 in
set_option maxHeartbeats 4000000 in
theorem ok_X4_isFirst (l : Launch) (D : va_G) (cy : Nat → ClassId) (ad : Nat → Nat → Nat) (M0 : Mm) (sz : Nat) (v0 : Nat) (v1 : Int32) (r0 : Int32) (a0 : mA M0 0 v0 = true) (hf : f_X4_isFirst v0 v1 M0 = some r0) : Met l yX4_isFirst (Cond.code yX4_isFirst cX4_isFirst 3 (some .boolean) :: BW) { frames := 3, cells := 0, slots := 0, locals := 68 } (va_Pc [.ref (ad 0 v0), .int v1] (PRE D cy ad M0 sz)) (QI D cy ad M0 sz r0 M0) 0 0 (AA ad M0 sz) := by
  refine Met.ofW (cc := cX4_isFirst) (maxL := 3) (ret := (some .boolean)) (by decide) rfl ?_
  intro p e s m args below meth c s₁ B hml hv
  obtain ⟨rfl, rfl, hP0, hK, hN⟩ := hv
  have hx := B.exec
  have hb := B.bytes
  have hr := B.returns
  have hts0 := atoms_spec (ws := (Cond.code yX4_isFirst cX4_isFirst 3 (some .boolean) :: BW)) B.pre
  have hts : ∀ w ∈ BW, w.before ([.ref (ad 0 v0), .int v1] : List Value).toArray s = true := fun w h => hts0 w (List.mem_cons_of_mem _ h)
  have hown : s.vm.findClass RX4 = some m.cls := findClass_of_methodNamed B.named
  have hlocks := B.notSynchronized
  have hA : ∀ q : Nat, s.heap.size ≤ q → AA ad M0 s.heap.size q := fun q h => Or.inr h
  have C : Cx RX4 cX4_isFirst 3 (some .boolean) D cy (AA ad M0 s.heap.size) p s m ([.ref (ad 0 v0), .int v1] : List Value).toArray meth c := ⟨hx, hb, hr, hml, hown, hts, hlocks, hK, hN, hA⟩
  have hP := hp_self (sz := s.heap.size) hP0
  have hS : va_S (AA ad M0 s.heap.size) s.heap s.heap [] := va_S.rf
  have hl := lv_entry ([.ref (ad 0 v0), .int v1]) (n := 3) (Nat.le_of_ble_eq_true rfl)
  rw [lg_entry_eq]
  generalize (lg_sl ([.ref (ad 0 v0), .int v1]) ++ List.replicate (3 - (lg_sl ([.ref (ad 0 v0), .int v1])).length) Slot.unset).toArray = ls at hl ⊢
  have hl : lv_has ls 3 [(0, .ref (ad 0 v0)), (1, .int v1)] := hl
  unfold f_X4_isFirst at hf
  refine lv_iconst (v := (0 : Int32)) hx hb dX4_isFirst_0 (by decide) ?_
  refine lv_istore_n (lv' := [(2, .int (0 : Int32)), (0, .ref (ad 0 v0)), (1, .int v1)]) hx hb dX4_isFirst_1 rfl hl (by decide) rfl (fun ls hl => ?_)
  exact t_X4_isFirst_2 C FU v0 v1 (0 : Int32) _ _ _ a0 hf hP hS (lv_sub hl [1, 2, 0] rfl)
def f_X4_staked_52 (M0 : Mm) (k5 : Nat → Int32 → Int32 → Int64 → Int32 → Option Int64) (v0 : Nat) (v1 : Int32) (v2 : Int32) (v5 : Int32) (w0 : Int64) : Option Int64 :=
  ob (f_X4_cost v0 v5 M0) fun r64 => lt (w0 + r64) fun x67 => lt (v5 + (1 : Int32)) fun x69 => k5 v0 v1 v2 x67 x69
def f_X4_staked_5 (M0 : Mm) : Nat → Nat → Int32 → Int32 → Int64 → Int32 → Option Int64
  | 0, _, _, _, _, _ => none
  | n + 1, v0, v1, v2, v3, v5 => if (mI M0 0 v0 19) ≤ v5 then (some v3) else (ob (mR M0 0 v0 20) fun i43 => ix v5 600 (if (mI M0 27 i43 (v5).toNatClampNeg) = v1 then (ob (mR M0 0 v0 23) fun i53 => ix v5 600 (if (mI M0 30 i53 (v5).toNatClampNeg) = (1 : Int32) then (lt (v3 + (0 : Int64)) fun x58 => lt (v5 + (1 : Int32)) fun x60 => f_X4_staked_5 M0 n v0 v1 v2 x58 x60) else (if v2 = 0 then (f_X4_staked_52 M0 (f_X4_staked_5 M0 n) v0 v1 v2 v5 v3) else (ob (mR M0 0 v0 23) fun i72 => ix v5 600 (if (mI M0 30 i72 (v5).toNatClampNeg) = (2 : Int32) then (f_X4_staked_52 M0 (f_X4_staked_5 M0 n) v0 v1 v2 v5 v3) else (lt (v3 + (0 : Int64)) fun x77 => lt (v5 + (1 : Int32)) fun x79 => f_X4_staked_5 M0 n v0 v1 v2 x77 x79)))))) else (lt (v3 + (0 : Int64)) fun x48 => lt (v5 + (1 : Int32)) fun x50 => f_X4_staked_5 M0 n v0 v1 v2 x48 x50)))
def f_X4_staked (v0 : Nat) (v1 : Int32) (v2 : Int32) (M0 : Mm) : Option Int64 :=
  f_X4_staked_5 M0 FU v0 v1 v2 (0 : Int64) (0 : Int32)
set_option maxRecDepth 100000 in
set_option maxHeartbeats 4000000 in
theorem t_X4_staked_52 {p : Program} {l : Launch} {e : Env} {s : State} {m : MethodId} {args : Array Value} {below : List Frame} {meth : Method} {c : Code} {D : va_G} {cy : Nat → ClassId} {ad : Nat → Nat → Nat} {M0 : Mm} {r0 : Int64} (C : Cx RX4 cX4_staked 6 (some .long) D cy (AA ad M0 s.heap.size) p s m args meth c) (k5 : Nat → Int32 → Int32 → Int64 → Int32 → Option Int64) (hk5 : ∀ (v0 : Nat) (v1 : Int32) (v2 : Int32) (v3 : Int64) (v5 : Int32) (H : Heap) (locs : List Loc) (ls : Array Slot), (mA M0 0 v0 = true) → k5 v0 v1 v2 v3 v5 = some r0 → HP D cy (AA ad M0 s.heap.size) ad M0 H → va_S (AA ad M0 s.heap.size) s.heap H locs → lv_has ls 6 [(0, .ref (ad 0 v0)), (1, .int v1), (2, .int v2), (3, .long v3), (5, .int v5)] → W p l e { frames := 1, cells := 0, slots := 0, locals := 21 } s m args below meth c H locs 0 0 (MQ below (QJ D cy ad M0 s.heap.size r0 M0) args s 0 0 (AA ad M0 s.heap.size)) (F0 m 5 ls [])) : ∀ (v0 : Nat) (v1 : Int32) (v2 : Int32) (v5 : Int32) (w0 : Int64) (H : Heap) (locs : List Loc) (ls : Array Slot), (mA M0 0 v0 = true) → f_X4_staked_52 M0 k5 v0 v1 v2 v5 w0 = some r0 → HP D cy (AA ad M0 s.heap.size) ad M0 H → va_S (AA ad M0 s.heap.size) s.heap H locs → lv_has ls 6 [(0, .ref (ad 0 v0)), (1, .int v1), (2, .int v2), (5, .int v5)] → W p l e { frames := 1, cells := 0, slots := 0, locals := 21 } s m args below meth c H locs 0 0 (MQ below (QJ D cy ad M0 s.heap.size r0 M0) args s 0 0 (AA ad M0 s.heap.size)) (F0 m 52 ls [.long w0]) := by
  obtain ⟨hx, hb, hr, hml, hown, hts, hlocks, hK, hN, hA⟩ := id C
  intro v0 v1 v2 v5 w0 H locs ls a0 hf hP hS hl
  unfold f_X4_staked_52 at hf
  refine lv_aload_n hx hb dX4_staked_52 rfl (lv_at hl 0 rfl) ?_
  refine lv_iload hx hb dX4_staked_53 (lv_at hl 3 rfl) ?_
  obtain ⟨r64, e63, hf⟩ := ob_some hf
  refine hp_calll (va_runV (As := [.int v5]) (rest := [.long w0]) ⟨hx, hb, hml, hown, hts⟩ (ok_X4_cost l D cy ad M0 _ v0 v5 r64 a0 e63) (cwV 1 hts (gdV q776 q778 q62 q86 q779) rfl rfl rfl (by decide +kernel) ⟨Nat.le_of_ble_eq_true rfl, Nat.le_of_ble_eq_true rfl⟩) (pre_V hP hK hN a0 ds_0 rfl) rfl rfl hl.1 rfl (lv_room (Nat.le_of_ble_eq_true rfl)) dX4_staked_55 ⟨Nat.le_of_ble_eq_true rfl, Nat.le_of_ble_eq_true rfl⟩) hP hS hA (fun H locs hP hS _ => ?_)
  refine lv_goto (tgt := 62) hx hb dX4_staked_58 (by decide) ?_
  refine lv_ladd hx hb dX4_staked_62 ?_
  obtain ⟨x67, e68, hf⟩ := lt_some hf
  refine W_topJ e68 ?_
  refine lv_lstore_n (lv' := [(3, .long x67), (0, .ref (ad 0 v0)), (1, .int v1), (2, .int v2), (5, .int v5)]) hx hb dX4_staked_63 rfl hl (by decide) rfl (fun ls hl => ?_)
  obtain ⟨x69, e70, hf⟩ := lt_some hf
  refine lv_iinc (v := x69) (lv' := [(5, .int x69), (3, .long x67), (0, .ref (ad 0 v0)), (1, .int v1), (2, .int v2)]) hx hb dX4_staked_64 hl (k := 4) rfl (by rw [e70]; rfl) (by decide) rfl (fun ls hl => ?_)
  refine lv_goto (tgt := 5) hx hb dX4_staked_67 (by decide) ?_
  exact hk5 v0 v1 v2 x67 x69 _ _ _ a0 hf hP hS (lv_sub hl [2, 3, 4, 1, 0] rfl)
set_option maxRecDepth 100000 in
set_option maxHeartbeats 4000000 in
theorem t_X4_staked_5 {p : Program} {l : Launch} {e : Env} {s : State} {m : MethodId} {args : Array Value} {below : List Frame} {meth : Method} {c : Code} {D : va_G} {cy : Nat → ClassId} {ad : Nat → Nat → Nat} {M0 : Mm} {r0 : Int64} (C : Cx RX4 cX4_staked 6 (some .long) D cy (AA ad M0 s.heap.size) p s m args meth c) : ∀ (n : Nat), ∀ (v0 : Nat) (v1 : Int32) (v2 : Int32) (v3 : Int64) (v5 : Int32) (H : Heap) (locs : List Loc) (ls : Array Slot), (mA M0 0 v0 = true) → f_X4_staked_5 M0 n v0 v1 v2 v3 v5 = some r0 → HP D cy (AA ad M0 s.heap.size) ad M0 H → va_S (AA ad M0 s.heap.size) s.heap H locs → lv_has ls 6 [(0, .ref (ad 0 v0)), (1, .int v1), (2, .int v2), (3, .long v3), (5, .int v5)] → W p l e { frames := 1, cells := 0, slots := 0, locals := 21 } s m args below meth c H locs 0 0 (MQ below (QJ D cy ad M0 s.heap.size r0 M0) args s 0 0 (AA ad M0 s.heap.size)) (F0 m 5 ls []) := by
  obtain ⟨hx, hb, hr, hml, hown, hts, hlocks, hK, hN, hA⟩ := id C
  intro n
  induction n with
  | zero =>
    intro v0 v1 v2 v3 v5 H locs ls a0 hf hP hS hl
    simp [f_X4_staked_5] at hf
  | succ n ih =>
    intro v0 v1 v2 v3 v5 H locs ls a0 hf hP hS hl
    rw [f_X4_staked_5] at hf
    refine lv_iload hx hb dX4_staked_5 (lv_at hl 4 rfl) ?_
    refine lv_aload_n hx hb dX4_staked_7 rfl (lv_at hl 0 rfl) ?_
    refine gf0 (v := .int (mI M0 0 v0 19)) hx hb hts hown hK hP a0 19 (by decide) (hts _ q624) rfl rfl dX4_staked_8 ?_
    refine lv_icmp_ge (tgt := 70) hx hb dX4_staked_11 (by decide) (fun c41 => ?_) (fun c41 => ?_)
    · have hf := if_t hf c41
      refine lv_lload_n hx hb dX4_staked_70 rfl (lv_at hl 3 rfl) ?_
      exact hp_lret hx hb hr hlocks (Option.some.inj hf) rfl hP hS keep_rf dX4_staked_71
    · have hf := if_f hf c41
      refine lv_lload_n hx hb dX4_staked_14 rfl (lv_at hl 3 rfl) ?_
      refine lv_aload_n hx hb dX4_staked_15 rfl (lv_at hl 0 rfl) ?_
      have h42 : ∀ j : Nat, (mR M0 0 v0 20) = some j → mA M0 27 j = true := fun j hj => hp_wf hP a0 hj
      refine gf0 (v := va_rf (((mR M0 0 v0 20)).map (ad 27))) hx hb hts hown hK hP a0 20 (by decide) (hts _ q625) rfl rfl dX4_staked_16 ?_
      refine lv_iload hx hb dX4_staked_19 (lv_at hl 4 rfl) ?_
      obtain ⟨i43, e44, hf⟩ := ob_some hf
      have h45 : mA M0 27 i43 = true := h42 i43 e44
      refine W_stk (st := [.int v5, va_rf (((mR M0 0 v0 20)).map (ad 27)), .long v3]) (st' := [.int v5, .ref (ad 27 i43), .long v3]) (by first | (rw [e44]; done) | (rw [e44]; rfl)) ?_
      obtain ⟨h46, hf⟩ := ix_some hf
      refine hp_iald hx hb hK hP h45 rfl h46 dX4_staked_21 ?_
      refine lv_iload_n hx hb dX4_staked_22 rfl (lv_at hl 1 rfl) ?_
      refine lv_icmp_ne (tgt := 61) hx hb dX4_staked_23 (by decide) (fun c47 => ?_) (fun c47 => ?_)
      · have hf := if_f hf c47
        refine lv_lconst (v := (0 : Int64)) hx hb dX4_staked_61 (by decide) ?_
        refine lv_ladd hx hb dX4_staked_62 ?_
        obtain ⟨x48, e49, hf⟩ := lt_some hf
        refine W_topJ e49 ?_
        refine lv_lstore_n (lv' := [(3, .long x48), (0, .ref (ad 0 v0)), (1, .int v1), (2, .int v2), (5, .int v5)]) hx hb dX4_staked_63 rfl hl (by decide) rfl (fun ls hl => ?_)
        obtain ⟨x50, e51, hf⟩ := lt_some hf
        refine lv_iinc (v := x50) (lv' := [(5, .int x50), (3, .long x48), (0, .ref (ad 0 v0)), (1, .int v1), (2, .int v2)]) hx hb dX4_staked_64 hl (k := 4) rfl (by rw [e51]; rfl) (by decide) rfl (fun ls hl => ?_)
        refine lv_goto (tgt := 5) hx hb dX4_staked_67 (by decide) ?_
        exact ih v0 v1 v2 x48 x50 _ _ _ a0 hf hP hS (lv_sub hl [2, 3, 4, 1, 0] rfl)
      · have hf := if_t hf c47
        refine lv_aload_n hx hb dX4_staked_26 rfl (lv_at hl 0 rfl) ?_
        have h52 : ∀ j : Nat, (mR M0 0 v0 23) = some j → mA M0 30 j = true := fun j hj => hp_wf hP a0 hj
        refine gf0 (v := va_rf (((mR M0 0 v0 23)).map (ad 30))) hx hb hts hown hK hP a0 23 (by decide) (hts _ q628) rfl rfl dX4_staked_27 ?_
        refine lv_iload hx hb dX4_staked_30 (lv_at hl 4 rfl) ?_
        obtain ⟨i53, e54, hf⟩ := ob_some hf
        have h55 : mA M0 30 i53 = true := h52 i53 e54
        refine W_stk (st := [.int v5, va_rf (((mR M0 0 v0 23)).map (ad 30)), .long v3]) (st' := [.int v5, .ref (ad 30 i53), .long v3]) (by first | (rw [e54]; done) | (rw [e54]; rfl)) ?_
        obtain ⟨h56, hf⟩ := ix_some hf
        refine hp_iald hx hb hK hP h55 rfl h56 dX4_staked_32 ?_
        refine lv_iconst (v := (1 : Int32)) hx hb dX4_staked_33 (by decide) ?_
        refine lv_icmp_eq (tgt := 61) hx hb dX4_staked_34 (by decide) (fun c57 => ?_) (fun c57 => ?_)
        · have hf := if_t hf c57
          refine lv_lconst (v := (0 : Int64)) hx hb dX4_staked_61 (by decide) ?_
          refine lv_ladd hx hb dX4_staked_62 ?_
          obtain ⟨x58, e59, hf⟩ := lt_some hf
          refine W_topJ e59 ?_
          refine lv_lstore_n (lv' := [(3, .long x58), (0, .ref (ad 0 v0)), (1, .int v1), (2, .int v2), (5, .int v5)]) hx hb dX4_staked_63 rfl hl (by decide) rfl (fun ls hl => ?_)
          obtain ⟨x60, e61, hf⟩ := lt_some hf
          refine lv_iinc (v := x60) (lv' := [(5, .int x60), (3, .long x58), (0, .ref (ad 0 v0)), (1, .int v1), (2, .int v2)]) hx hb dX4_staked_64 hl (k := 4) rfl (by rw [e61]; rfl) (by decide) rfl (fun ls hl => ?_)
          refine lv_goto (tgt := 5) hx hb dX4_staked_67 (by decide) ?_
          exact ih v0 v1 v2 x58 x60 _ _ _ a0 hf hP hS (lv_sub hl [2, 3, 4, 1, 0] rfl)
        · have hf := if_f hf c57
          refine lv_iload_n hx hb dX4_staked_37 rfl (lv_at hl 2 rfl) ?_
          refine lv_if_eq (tgt := 52) hx hb dX4_staked_38 (by decide) (fun c62 => ?_) (fun c62 => ?_)
          · have hf := if_t hf c62
            exact t_X4_staked_52 C (f_X4_staked_5 M0 n) ih v0 v1 v2 v5 v3 _ _ _ a0 hf hP hS (lv_sub hl [0, 1, 2, 4] rfl)
          · have hf := if_f hf c62
            refine lv_aload_n hx hb dX4_staked_41 rfl (lv_at hl 0 rfl) ?_
            have h71 : ∀ j : Nat, (mR M0 0 v0 23) = some j → mA M0 30 j = true := fun j hj => hp_wf hP a0 hj
            refine gf0 (v := va_rf (((mR M0 0 v0 23)).map (ad 30))) hx hb hts hown hK hP a0 23 (by decide) (hts _ q628) rfl rfl dX4_staked_42 ?_
            refine lv_iload hx hb dX4_staked_45 (lv_at hl 4 rfl) ?_
            obtain ⟨i72, e73, hf⟩ := ob_some hf
            have h74 : mA M0 30 i72 = true := h71 i72 e73
            refine W_stk (st := [.int v5, va_rf (((mR M0 0 v0 23)).map (ad 30)), .long v3]) (st' := [.int v5, .ref (ad 30 i72), .long v3]) (by first | (rw [e73]; done) | (rw [e73]; rfl)) ?_
            obtain ⟨h75, hf⟩ := ix_some hf
            refine hp_iald hx hb hK hP h74 rfl h75 dX4_staked_47 ?_
            refine lv_iconst (v := (2 : Int32)) hx hb dX4_staked_48 (by decide) ?_
            refine lv_icmp_ne (tgt := 61) hx hb dX4_staked_49 (by decide) (fun c76 => ?_) (fun c76 => ?_)
            · have hf := if_f hf c76
              refine lv_lconst (v := (0 : Int64)) hx hb dX4_staked_61 (by decide) ?_
              refine lv_ladd hx hb dX4_staked_62 ?_
              obtain ⟨x77, e78, hf⟩ := lt_some hf
              refine W_topJ e78 ?_
              refine lv_lstore_n (lv' := [(3, .long x77), (0, .ref (ad 0 v0)), (1, .int v1), (2, .int v2), (5, .int v5)]) hx hb dX4_staked_63 rfl hl (by decide) rfl (fun ls hl => ?_)
              obtain ⟨x79, e80, hf⟩ := lt_some hf
              refine lv_iinc (v := x79) (lv' := [(5, .int x79), (3, .long x77), (0, .ref (ad 0 v0)), (1, .int v1), (2, .int v2)]) hx hb dX4_staked_64 hl (k := 4) rfl (by rw [e80]; rfl) (by decide) rfl (fun ls hl => ?_)
              refine lv_goto (tgt := 5) hx hb dX4_staked_67 (by decide) ?_
              exact ih v0 v1 v2 x77 x79 _ _ _ a0 hf hP hS (lv_sub hl [2, 3, 4, 1, 0] rfl)
            · have hf := if_t hf c76
              exact t_X4_staked_52 C (f_X4_staked_5 M0 n) ih v0 v1 v2 v5 v3 _ _ _ a0 hf hP hS (lv_sub hl [0, 1, 2, 4] rfl)
set_option maxRecDepth 100000 in
set_option maxHeartbeats 4000000 in
theorem ok_X4_staked (l : Launch) (D : va_G) (cy : Nat → ClassId) (ad : Nat → Nat → Nat) (M0 : Mm) (sz : Nat) (v0 : Nat) (v1 : Int32) (v2 : Int32) (r0 : Int64) (a0 : mA M0 0 v0 = true) (hf : f_X4_staked v0 v1 v2 M0 = some r0) : Met l yX4_staked (Cond.code yX4_staked cX4_staked 6 (some .long) :: BW) { frames := 1, cells := 0, slots := 0, locals := 21 } (va_Pc [.ref (ad 0 v0), .int v1, .int v2] (PRE D cy ad M0 sz)) (QJ D cy ad M0 sz r0 M0) 0 0 (AA ad M0 sz) := by
  refine Met.ofW (cc := cX4_staked) (maxL := 6) (ret := (some .long)) (by decide) rfl ?_
  intro p e s m args below meth c s₁ B hml hv
  obtain ⟨rfl, rfl, hP0, hK, hN⟩ := hv
  have hx := B.exec
  have hb := B.bytes
  have hr := B.returns
  have hts0 := atoms_spec (ws := (Cond.code yX4_staked cX4_staked 6 (some .long) :: BW)) B.pre
  have hts : ∀ w ∈ BW, w.before ([.ref (ad 0 v0), .int v1, .int v2] : List Value).toArray s = true := fun w h => hts0 w (List.mem_cons_of_mem _ h)
  have hown : s.vm.findClass RX4 = some m.cls := findClass_of_methodNamed B.named
  have hlocks := B.notSynchronized
  have hA : ∀ q : Nat, s.heap.size ≤ q → AA ad M0 s.heap.size q := fun q h => Or.inr h
  have C : Cx RX4 cX4_staked 6 (some .long) D cy (AA ad M0 s.heap.size) p s m ([.ref (ad 0 v0), .int v1, .int v2] : List Value).toArray meth c := ⟨hx, hb, hr, hml, hown, hts, hlocks, hK, hN, hA⟩
  have hP := hp_self (sz := s.heap.size) hP0
  have hS : va_S (AA ad M0 s.heap.size) s.heap s.heap [] := va_S.rf
  have hl := lv_entry ([.ref (ad 0 v0), .int v1, .int v2]) (n := 6) (Nat.le_of_ble_eq_true rfl)
  rw [lg_entry_eq]
  generalize (lg_sl ([.ref (ad 0 v0), .int v1, .int v2]) ++ List.replicate (6 - (lg_sl ([.ref (ad 0 v0), .int v1, .int v2])).length) Slot.unset).toArray = ls at hl ⊢
  have hl : lv_has ls 6 [(0, .ref (ad 0 v0)), (1, .int v1), (2, .int v2)] := hl
  unfold f_X4_staked at hf
  refine lv_lconst (v := (0 : Int64)) hx hb dX4_staked_0 (by decide) ?_
  refine lv_lstore_n (lv' := [(3, .long (0 : Int64)), (0, .ref (ad 0 v0)), (1, .int v1), (2, .int v2)]) hx hb dX4_staked_1 rfl hl (by decide) rfl (fun ls hl => ?_)
  refine lv_iconst (v := (0 : Int32)) hx hb dX4_staked_2 (by decide) ?_
  refine lv_istore (lv' := [(5, .int (0 : Int32)), (3, .long (0 : Int64)), (0, .ref (ad 0 v0)), (1, .int v1), (2, .int v2)]) hx hb dX4_staked_3 hl (by decide) rfl (fun ls hl => ?_)
  exact t_X4_staked_5 C FU v0 v1 v2 (0 : Int64) (0 : Int32) _ _ _ a0 hf hP hS (lv_sub hl [2, 3, 4, 1, 0] rfl)
def f_X4_reckons_12 : Nat → Nat → Int32 → Int32 → Mm → Option Mm
  | 0, _, _, _, _ => none
  | n + 1, v0, v1, v2, M => if (mI M 0 v0 19) ≤ v2 then (ob (f_X4_staked v0 v1 (0 : Int32) M) fun r85 => ob (f_X4_staked v0 v1 (1 : Int32) M) fun r89 => lt (r85 - r89) fun x92 => ob (mR M 0 v0 6) fun i95 => ix v1 53 (dvl (1000 : Int64) (ob (mR M 0 v0 14) fun i101 => ix v1 53 (lt (sJ M 0 v0 30 ((x92 - ((x92 * (((mI M 16 i95 (v1).toNatClampNeg)).toInt64)) / (1000 : Int64))) + (mJ M 24 i101 (v1).toNatClampNeg))) fun M105 => some M105)))) else (ob (mR M 0 v0 20) fun i109 => ix v2 600 (if (mI M 27 i109 (v2).toNatClampNeg) = v1 then (ob (f_X4_counts v0 v2 M) fun r117 => if r117 = 0 then (lt (v2 + (1 : Int32)) fun x121 => f_X4_reckons_12 n v0 v1 x121 M) else (ob (f_X4_holds v0 v2 M) fun r124 => if r124 = 0 then (lt (v2 + (1 : Int32)) fun x151 => f_X4_reckons_12 n v0 v1 x151 M) else (ob (mR M 0 v0 22) fun i129 => ix v2 600 (lt (sI M 0 v0 29 ((mI M 0 v0 29) + (mI M 29 i129 (v2).toNatClampNeg))) fun M133 => ob (f_X4_isFirst v0 v2 M133) fun r137 => if r137 = 0 then (lt (sI M133 0 v0 28 ((mI M133 0 v0 28) + (0 : Int32))) fun M141 => lt (v2 + (1 : Int32)) fun x144 => f_X4_reckons_12 n v0 v1 x144 M141) else (lt (sI M133 0 v0 28 ((mI M133 0 v0 28) + (1 : Int32))) fun M146 => lt (v2 + (1 : Int32)) fun x149 => f_X4_reckons_12 n v0 v1 x149 M146))))) else (lt (v2 + (1 : Int32)) fun x114 => f_X4_reckons_12 n v0 v1 x114 M)))
def f_X4_reckons (v0 : Nat) (v1 : Int32) (M0 : Mm) : Option Mm :=
  lt (sI M0 0 v0 28 (0 : Int32)) fun M77 => lt (sI M77 0 v0 29 (0 : Int32)) fun M80 => f_X4_reckons_12 FU v0 v1 (0 : Int32) M80
set_option maxRecDepth 100000 in
set_option maxHeartbeats 4000000 in
theorem t_X4_reckons_12 {p : Program} {l : Launch} {e : Env} {s : State} {m : MethodId} {args : Array Value} {below : List Frame} {meth : Method} {c : Code} {D : va_G} {cy : Nat → ClassId} {ad : Nat → Nat → Nat} {M0 : Mm} {M' : Mm} (C : Cx RX4 cX4_reckons 4 none D cy (AA ad M0 s.heap.size) p s m args meth c) : ∀ (n : Nat), ∀ (v0 : Nat) (v1 : Int32) (v2 : Int32) (M : Mm) (H : Heap) (locs : List Loc) (ls : Array Slot), (mA M 0 v0 = true) → Keep M0 M → f_X4_reckons_12 n v0 v1 v2 M = some M' → HP D cy (AA ad M0 s.heap.size) ad M H → va_S (AA ad M0 s.heap.size) s.heap H locs → lv_has ls 4 [(0, .ref (ad 0 v0)), (1, .int v1), (2, .int v2)] → W p l e { frames := 4, cells := 0, slots := 0, locals := 90 } s m args below meth c H locs 0 0 (MQ below (QV D cy ad M0 s.heap.size M') args s 0 0 (AA ad M0 s.heap.size)) (F0 m 12 ls []) := by
  obtain ⟨hx, hb, hr, hml, hown, hts, hlocks, hK, hN, hA⟩ := id C
  intro n
  induction n with
  | zero =>
    intro v0 v1 v2 M H locs ls a0 hk hf hP hS hl
    simp [f_X4_reckons_12] at hf
  | succ n ih =>
    intro v0 v1 v2 M H locs ls a0 hk hf hP hS hl
    rw [f_X4_reckons_12] at hf
    refine lv_iload_n hx hb dX4_reckons_12 rfl (lv_at hl 2 rfl) ?_
    refine lv_aload_n hx hb dX4_reckons_13 rfl (lv_at hl 0 rfl) ?_
    refine gf0 (v := .int (mI M 0 v0 19)) hx hb hts hown hK hP a0 19 (by decide) (hts _ q624) rfl rfl dX4_reckons_14 ?_
    refine lv_icmp_ge (tgt := 92) hx hb dX4_reckons_17 (by decide) (fun c83 => ?_) (fun c83 => ?_)
    · have hf := if_t hf c83
      refine lv_aload_n hx hb dX4_reckons_92 rfl (lv_at hl 0 rfl) ?_
      refine lv_iload_n hx hb dX4_reckons_93 rfl (lv_at hl 1 rfl) ?_
      refine lv_iconst (v := (0 : Int32)) hx hb dX4_reckons_94 (by decide) ?_
      obtain ⟨r85, e84, hf⟩ := ob_some hf
      refine hp_calll (va_runV (As := [.int v1, .int (0 : Int32)]) (rest := []) ⟨hx, hb, hml, hown, hts⟩ (ok_X4_staked l D cy ad M _ v0 v1 (0 : Int32) r85 a0 e84) (cwV 2 hts (gdV q844 q846 q75 q86 q847) rfl rfl rfl (by decide +kernel) ⟨Nat.le_of_ble_eq_true rfl, Nat.le_of_ble_eq_true rfl⟩) (pre_V hP hK hN a0 ds_0 rfl) rfl rfl hl.1 rfl (lv_room (Nat.le_of_ble_eq_true rfl)) dX4_reckons_95 ⟨Nat.le_of_ble_eq_true rfl, Nat.le_of_ble_eq_true rfl⟩) hP hS hA (fun H locs hP hS _ => ?_)
      refine lv_aload_n hx hb dX4_reckons_98 rfl (lv_at hl 0 rfl) ?_
      refine lv_iload_n hx hb dX4_reckons_99 rfl (lv_at hl 1 rfl) ?_
      refine lv_iconst (v := (1 : Int32)) hx hb dX4_reckons_100 (by decide) ?_
      obtain ⟨r89, e88, hf⟩ := ob_some hf
      refine hp_calll (va_runV (As := [.int v1, .int (1 : Int32)]) (rest := [.long r85]) ⟨hx, hb, hml, hown, hts⟩ (ok_X4_staked l D cy ad M _ v0 v1 (1 : Int32) r89 a0 e88) (cwV 2 hts (gdV q844 q846 q75 q86 q847) rfl rfl rfl (by decide +kernel) ⟨Nat.le_of_ble_eq_true rfl, Nat.le_of_ble_eq_true rfl⟩) (pre_V hP hK hN a0 ds_0 rfl) rfl rfl hl.1 rfl (lv_room (Nat.le_of_ble_eq_true rfl)) dX4_reckons_101 ⟨Nat.le_of_ble_eq_true rfl, Nat.le_of_ble_eq_true rfl⟩) hP hS hA (fun H locs hP hS _ => ?_)
      refine lv_lsub hx hb dX4_reckons_104 ?_
      obtain ⟨x92, e93, hf⟩ := lt_some hf
      refine W_topJ e93 ?_
      refine lv_lstore_n (lv' := [(2, .long x92), (0, .ref (ad 0 v0)), (1, .int v1)]) hx hb dX4_reckons_105 rfl hl (by decide) rfl (fun ls hl => ?_)
      refine lv_aload_n hx hb dX4_reckons_106 rfl (lv_at hl 1 rfl) ?_
      refine lv_lload_n hx hb dX4_reckons_107 rfl (lv_at hl 0 rfl) ?_
      refine lv_lload_n hx hb dX4_reckons_108 rfl (lv_at hl 0 rfl) ?_
      refine lv_aload_n hx hb dX4_reckons_109 rfl (lv_at hl 1 rfl) ?_
      have h94 : ∀ j : Nat, (mR M 0 v0 6) = some j → mA M 16 j = true := fun j hj => hp_wf hP a0 hj
      refine gf0 (v := va_rf (((mR M 0 v0 6)).map (ad 16))) hx hb hts hown hK hP a0 6 (by decide) (hts _ q611) rfl rfl dX4_reckons_110 ?_
      refine lv_iload_n hx hb dX4_reckons_113 rfl (lv_at hl 2 rfl) ?_
      obtain ⟨i95, e96, hf⟩ := ob_some hf
      have h97 : mA M 16 i95 = true := h94 i95 e96
      refine W_stk (st := [.int v1, va_rf (((mR M 0 v0 6)).map (ad 16)), .long x92, .long x92, .ref (ad 0 v0)]) (st' := [.int v1, .ref (ad 16 i95), .long x92, .long x92, .ref (ad 0 v0)]) (by first | (rw [e96]; done) | (rw [e96]; rfl)) ?_
      obtain ⟨h98, hf⟩ := ix_some hf
      refine hp_iald hx hb hK hP h97 rfl h98 dX4_reckons_114 ?_
      refine lv_i2l hx hb dX4_reckons_115 rfl ?_
      refine lv_lmul hx hb dX4_reckons_116 ?_
      refine lv_ldc2 (v := (1000 : Int64)) hx hb hown (hts _ q848) dX4_reckons_117 ?_
      obtain ⟨h99, hf⟩ := dvl_some hf
      refine lv_ldiv hx hb dX4_reckons_120 h99 ?_
      refine lv_lsub hx hb dX4_reckons_121 ?_
      refine lv_aload_n hx hb dX4_reckons_122 rfl (lv_at hl 1 rfl) ?_
      have h100 : ∀ j : Nat, (mR M 0 v0 14) = some j → mA M 24 j = true := fun j hj => hp_wf hP a0 hj
      refine gf0 (v := va_rf (((mR M 0 v0 14)).map (ad 24))) hx hb hts hown hK hP a0 14 (by decide) (hts _ q619) rfl rfl dX4_reckons_123 ?_
      refine lv_iload_n hx hb dX4_reckons_126 rfl (lv_at hl 2 rfl) ?_
      obtain ⟨i101, e102, hf⟩ := ob_some hf
      have h103 : mA M 24 i101 = true := h100 i101 e102
      refine W_stk (st := [.int v1, va_rf (((mR M 0 v0 14)).map (ad 24)), .long (x92 - ((x92 * (((mI M 16 i95 (v1).toNatClampNeg)).toInt64)) / (1000 : Int64))), .ref (ad 0 v0)]) (st' := [.int v1, .ref (ad 24 i101), .long (x92 - ((x92 * (((mI M 16 i95 (v1).toNatClampNeg)).toInt64)) / (1000 : Int64))), .ref (ad 0 v0)]) (by first | (rw [e102]; done) | (rw [e102]; rfl)) ?_
      obtain ⟨h104, hf⟩ := ix_some hf
      refine hp_lald hx hb hK hP h103 rfl h104 dX4_reckons_127 ?_
      refine lv_ladd hx hb dX4_reckons_128 ?_
      obtain ⟨M105, e106, hf⟩ := lt_some hf
      have hk107 : Keep M M105 := keJ e106
      refine pJ0 (v := ((x92 - ((x92 * (((mI M 16 i95 (v1).toNatClampNeg)).toInt64)) / (1000 : Int64))) + (mJ M 24 i101 (v1).toNatClampNeg))) hx hb hts hown hK hP hS a0 30 (by decide) (hts _ q635) rfl rfl rfl e106 dX4_reckons_129 (fun H locs hP hS => ?_)
      exact hp_vret hx hb hr hlocks (Option.some.inj hf) hP hS (kt hk hk107) dX4_reckons_132
    · have hf := if_f hf c83
      refine lv_aload_n hx hb dX4_reckons_20 rfl (lv_at hl 0 rfl) ?_
      have h108 : ∀ j : Nat, (mR M 0 v0 20) = some j → mA M 27 j = true := fun j hj => hp_wf hP a0 hj
      refine gf0 (v := va_rf (((mR M 0 v0 20)).map (ad 27))) hx hb hts hown hK hP a0 20 (by decide) (hts _ q625) rfl rfl dX4_reckons_21 ?_
      refine lv_iload_n hx hb dX4_reckons_24 rfl (lv_at hl 2 rfl) ?_
      obtain ⟨i109, e110, hf⟩ := ob_some hf
      have h111 : mA M 27 i109 = true := h108 i109 e110
      refine W_stk (st := [.int v2, va_rf (((mR M 0 v0 20)).map (ad 27))]) (st' := [.int v2, .ref (ad 27 i109)]) (by first | (rw [e110]; done) | (rw [e110]; rfl)) ?_
      obtain ⟨h112, hf⟩ := ix_some hf
      refine hp_iald hx hb hK hP h111 rfl h112 dX4_reckons_25 ?_
      refine lv_iload_n hx hb dX4_reckons_26 rfl (lv_at hl 1 rfl) ?_
      refine lv_icmp_ne (tgt := 86) hx hb dX4_reckons_27 (by decide) (fun c113 => ?_) (fun c113 => ?_)
      · have hf := if_f hf c113
        obtain ⟨x114, e115, hf⟩ := lt_some hf
        refine lv_iinc (v := x114) (lv' := [(2, .int x114), (0, .ref (ad 0 v0)), (1, .int v1)]) hx hb dX4_reckons_86 hl (k := 2) rfl (by rw [e115]; rfl) (by decide) rfl (fun ls hl => ?_)
        refine lv_goto (tgt := 12) hx hb dX4_reckons_89 (by decide) ?_
        exact ih v0 v1 x114 M _ _ _ a0 hk hf hP hS (lv_sub hl [1, 2, 0] rfl)
      · have hf := if_t hf c113
        refine lv_aload_n hx hb dX4_reckons_30 rfl (lv_at hl 0 rfl) ?_
        refine lv_iload_n hx hb dX4_reckons_31 rfl (lv_at hl 2 rfl) ?_
        obtain ⟨r117, e116, hf⟩ := ob_some hf
        refine hp_calli (va_runV (As := [.int v2]) (rest := []) ⟨hx, hb, hml, hown, hts⟩ (ok_X4_counts l D cy ad M _ v0 v2 r117 a0 e116) (cwV 1 hts (gdV q820 q822 q69 q86 q823) rfl rfl rfl (by decide +kernel) ⟨Nat.le_of_ble_eq_true rfl, Nat.le_of_ble_eq_true rfl⟩) (pre_V hP hK hN a0 ds_0 rfl) rfl rfl hl.1 rfl (lv_room (Nat.le_of_ble_eq_true rfl)) dX4_reckons_32 ⟨Nat.le_of_ble_eq_true rfl, Nat.le_of_ble_eq_true rfl⟩) hP hS hA (fun H locs hP hS _ => ?_)
        refine lv_if_eq (tgt := 86) hx hb dX4_reckons_35 (by decide) (fun c120 => ?_) (fun c120 => ?_)
        · have hf := if_t hf c120
          obtain ⟨x121, e122, hf⟩ := lt_some hf
          refine lv_iinc (v := x121) (lv' := [(2, .int x121), (0, .ref (ad 0 v0)), (1, .int v1)]) hx hb dX4_reckons_86 hl (k := 2) rfl (by rw [e122]; rfl) (by decide) rfl (fun ls hl => ?_)
          refine lv_goto (tgt := 12) hx hb dX4_reckons_89 (by decide) ?_
          exact ih v0 v1 x121 M _ _ _ a0 hk hf hP hS (lv_sub hl [1, 2, 0] rfl)
        · have hf := if_f hf c120
          refine lv_aload_n hx hb dX4_reckons_38 rfl (lv_at hl 0 rfl) ?_
          refine lv_iload_n hx hb dX4_reckons_39 rfl (lv_at hl 2 rfl) ?_
          obtain ⟨r124, e123, hf⟩ := ob_some hf
          refine hp_calli (va_runV (As := [.int v2]) (rest := []) ⟨hx, hb, hml, hown, hts⟩ (ok_X4_holds l D cy ad M _ v0 v2 r124 a0 e123) (cwV 1 hts (gdV q824 q826 q70 q86 q827) rfl rfl rfl (by decide +kernel) ⟨Nat.le_of_ble_eq_true rfl, Nat.le_of_ble_eq_true rfl⟩) (pre_V hP hK hN a0 ds_0 rfl) rfl rfl hl.1 rfl (lv_room (Nat.le_of_ble_eq_true rfl)) dX4_reckons_40 ⟨Nat.le_of_ble_eq_true rfl, Nat.le_of_ble_eq_true rfl⟩) hP hS hA (fun H locs hP hS _ => ?_)
          refine lv_if_ne (tgt := 49) hx hb dX4_reckons_43 (by decide) (fun c127 => ?_) (fun c127 => ?_)
          · have hf := if_f hf c127
            refine lv_aload_n hx hb dX4_reckons_49 rfl (lv_at hl 0 rfl) ?_
            refine lv_dup hx hb dX4_reckons_50 rfl ?_
            refine gf0 (v := .int (mI M 0 v0 29)) hx hb hts hown hK hP a0 29 (by decide) (hts _ q634) rfl rfl dX4_reckons_51 ?_
            refine lv_aload_n hx hb dX4_reckons_54 rfl (lv_at hl 0 rfl) ?_
            have h128 : ∀ j : Nat, (mR M 0 v0 22) = some j → mA M 29 j = true := fun j hj => hp_wf hP a0 hj
            refine gf0 (v := va_rf (((mR M 0 v0 22)).map (ad 29))) hx hb hts hown hK hP a0 22 (by decide) (hts _ q627) rfl rfl dX4_reckons_55 ?_
            refine lv_iload_n hx hb dX4_reckons_58 rfl (lv_at hl 2 rfl) ?_
            obtain ⟨i129, e130, hf⟩ := ob_some hf
            have h131 : mA M 29 i129 = true := h128 i129 e130
            refine W_stk (st := [.int v2, va_rf (((mR M 0 v0 22)).map (ad 29)), .int (mI M 0 v0 29), .ref (ad 0 v0)]) (st' := [.int v2, .ref (ad 29 i129), .int (mI M 0 v0 29), .ref (ad 0 v0)]) (by first | (rw [e130]; done) | (rw [e130]; rfl)) ?_
            obtain ⟨h132, hf⟩ := ix_some hf
            refine hp_iald hx hb hK hP h131 rfl h132 dX4_reckons_59 ?_
            refine lv_iadd hx hb dX4_reckons_60 ?_
            obtain ⟨M133, e134, hf⟩ := lt_some hf
            have hk135 : Keep M M133 := keI e134
            refine pI0 (v := ((mI M 0 v0 29) + (mI M 29 i129 (v2).toNatClampNeg))) hx hb hts hown hK hP hS a0 29 (by decide) (hts _ q634) rfl rfl rfl e134 dX4_reckons_61 (fun H locs hP hS => ?_)
            refine lv_aload_n hx hb dX4_reckons_64 rfl (lv_at hl 0 rfl) ?_
            refine lv_dup hx hb dX4_reckons_65 rfl ?_
            refine gf0 (v := .int (mI M133 0 v0 28)) hx hb hts hown hK hP (hk135 _ _ a0) 28 (by decide) (hts _ q633) rfl rfl dX4_reckons_66 ?_
            refine lv_aload_n hx hb dX4_reckons_69 rfl (lv_at hl 0 rfl) ?_
            refine lv_iload_n hx hb dX4_reckons_70 rfl (lv_at hl 2 rfl) ?_
            obtain ⟨r137, e136, hf⟩ := ob_some hf
            refine hp_calli (va_runV (As := [.int v2]) (rest := [.int (mI M133 0 v0 28), .ref (ad 0 v0)]) ⟨hx, hb, hml, hown, hts⟩ (ok_X4_isFirst l D cy ad M133 _ v0 v2 r137 (hk135 _ _ a0) e136) (cwV 1 hts (gdV q836 q838 q73 q86 q839) rfl rfl rfl (by decide +kernel) ⟨Nat.le_of_ble_eq_true rfl, Nat.le_of_ble_eq_true rfl⟩) (pre_V hP hK hN (hk135 _ _ a0) ds_0 rfl) rfl rfl hl.1 rfl (lv_room (Nat.le_of_ble_eq_true rfl)) dX4_reckons_71 ⟨Nat.le_of_ble_eq_true rfl, Nat.le_of_ble_eq_true rfl⟩) hP hS hA (fun H locs hP hS _ => ?_)
            refine lv_if_eq (tgt := 81) hx hb dX4_reckons_74 (by decide) (fun c140 => ?_) (fun c140 => ?_)
            · have hf := if_t hf c140
              refine lv_iconst (v := (0 : Int32)) hx hb dX4_reckons_81 (by decide) ?_
              refine lv_iadd hx hb dX4_reckons_82 ?_
              obtain ⟨M141, e142, hf⟩ := lt_some hf
              have hk143 : Keep M133 M141 := keI e142
              refine pI0 (v := ((mI M133 0 v0 28) + (0 : Int32))) hx hb hts hown hK hP hS (hk135 _ _ a0) 28 (by decide) (hts _ q633) rfl rfl rfl e142 dX4_reckons_83 (fun H locs hP hS => ?_)
              obtain ⟨x144, e145, hf⟩ := lt_some hf
              refine lv_iinc (v := x144) (lv' := [(2, .int x144), (0, .ref (ad 0 v0)), (1, .int v1)]) hx hb dX4_reckons_86 hl (k := 2) rfl (by rw [e145]; rfl) (by decide) rfl (fun ls hl => ?_)
              refine lv_goto (tgt := 12) hx hb dX4_reckons_89 (by decide) ?_
              exact ih v0 v1 x144 M141 _ _ _ (hk143 _ _ (hk135 _ _ a0)) (kt (kt hk hk135) hk143) hf hP hS (lv_sub hl [1, 2, 0] rfl)
            · have hf := if_f hf c140
              refine lv_iconst (v := (1 : Int32)) hx hb dX4_reckons_77 (by decide) ?_
              refine lv_goto (tgt := 82) hx hb dX4_reckons_78 (by decide) ?_
              refine lv_iadd hx hb dX4_reckons_82 ?_
              obtain ⟨M146, e147, hf⟩ := lt_some hf
              have hk148 : Keep M133 M146 := keI e147
              refine pI0 (v := ((mI M133 0 v0 28) + (1 : Int32))) hx hb hts hown hK hP hS (hk135 _ _ a0) 28 (by decide) (hts _ q633) rfl rfl rfl e147 dX4_reckons_83 (fun H locs hP hS => ?_)
              obtain ⟨x149, e150, hf⟩ := lt_some hf
              refine lv_iinc (v := x149) (lv' := [(2, .int x149), (0, .ref (ad 0 v0)), (1, .int v1)]) hx hb dX4_reckons_86 hl (k := 2) rfl (by rw [e150]; rfl) (by decide) rfl (fun ls hl => ?_)
              refine lv_goto (tgt := 12) hx hb dX4_reckons_89 (by decide) ?_
              exact ih v0 v1 x149 M146 _ _ _ (hk148 _ _ (hk135 _ _ a0)) (kt (kt hk hk135) hk148) hf hP hS (lv_sub hl [1, 2, 0] rfl)
          · have hf := if_t hf c127
            refine lv_goto (tgt := 86) hx hb dX4_reckons_46 (by decide) ?_
            obtain ⟨x151, e152, hf⟩ := lt_some hf
            refine lv_iinc (v := x151) (lv' := [(2, .int x151), (0, .ref (ad 0 v0)), (1, .int v1)]) hx hb dX4_reckons_86 hl (k := 2) rfl (by rw [e152]; rfl) (by decide) rfl (fun ls hl => ?_)
            refine lv_goto (tgt := 12) hx hb dX4_reckons_89 (by decide) ?_
            exact ih v0 v1 x151 M _ _ _ a0 hk hf hP hS (lv_sub hl [1, 2, 0] rfl)
set_option maxRecDepth 100000 in
set_option maxHeartbeats 4000000 in
theorem ok_X4_reckons (l : Launch) (D : va_G) (cy : Nat → ClassId) (ad : Nat → Nat → Nat) (M0 : Mm) (sz : Nat) (v0 : Nat) (v1 : Int32) (M' : Mm) (a0 : mA M0 0 v0 = true) (hf : f_X4_reckons v0 v1 M0 = some M') : Met l yX4_reckons (Cond.code yX4_reckons cX4_reckons 4 none :: BW) { frames := 4, cells := 0, slots := 0, locals := 90 } (va_Pc [.ref (ad 0 v0), .int v1] (PRE D cy ad M0 sz)) (QV D cy ad M0 sz M') 0 0 (AA ad M0 sz) := by
  refine Met.ofW (cc := cX4_reckons) (maxL := 4) (ret := none) (by decide) rfl ?_
  intro p e s m args below meth c s₁ B hml hv
  obtain ⟨rfl, rfl, hP0, hK, hN⟩ := hv
  have hx := B.exec
  have hb := B.bytes
  have hr := B.returns
  have hts0 := atoms_spec (ws := (Cond.code yX4_reckons cX4_reckons 4 none :: BW)) B.pre
  have hts : ∀ w ∈ BW, w.before ([.ref (ad 0 v0), .int v1] : List Value).toArray s = true := fun w h => hts0 w (List.mem_cons_of_mem _ h)
  have hown : s.vm.findClass RX4 = some m.cls := findClass_of_methodNamed B.named
  have hlocks := B.notSynchronized
  have hA : ∀ q : Nat, s.heap.size ≤ q → AA ad M0 s.heap.size q := fun q h => Or.inr h
  have C : Cx RX4 cX4_reckons 4 none D cy (AA ad M0 s.heap.size) p s m ([.ref (ad 0 v0), .int v1] : List Value).toArray meth c := ⟨hx, hb, hr, hml, hown, hts, hlocks, hK, hN, hA⟩
  have hP := hp_self (sz := s.heap.size) hP0
  have hS : va_S (AA ad M0 s.heap.size) s.heap s.heap [] := va_S.rf
  have hl := lv_entry ([.ref (ad 0 v0), .int v1]) (n := 4) (Nat.le_of_ble_eq_true rfl)
  rw [lg_entry_eq]
  generalize (lg_sl ([.ref (ad 0 v0), .int v1]) ++ List.replicate (4 - (lg_sl ([.ref (ad 0 v0), .int v1])).length) Slot.unset).toArray = ls at hl ⊢
  have hl : lv_has ls 4 [(0, .ref (ad 0 v0)), (1, .int v1)] := hl
  unfold f_X4_reckons at hf
  refine lv_aload_n hx hb dX4_reckons_0 rfl (lv_at hl 0 rfl) ?_
  refine lv_iconst (v := (0 : Int32)) hx hb dX4_reckons_1 (by decide) ?_
  obtain ⟨M77, e78, hf⟩ := lt_some hf
  have hk79 : Keep M0 M77 := keI e78
  refine pI0 (v := (0 : Int32)) hx hb hts hown hK hP hS a0 28 (by decide) (hts _ q633) rfl rfl rfl e78 dX4_reckons_2 (fun H locs hP hS => ?_)
  refine lv_aload_n hx hb dX4_reckons_5 rfl (lv_at hl 0 rfl) ?_
  refine lv_iconst (v := (0 : Int32)) hx hb dX4_reckons_6 (by decide) ?_
  obtain ⟨M80, e81, hf⟩ := lt_some hf
  have hk82 : Keep M77 M80 := keI e81
  refine pI0 (v := (0 : Int32)) hx hb hts hown hK hP hS (hk79 _ _ a0) 29 (by decide) (hts _ q634) rfl rfl rfl e81 dX4_reckons_7 (fun H locs hP hS => ?_)
  refine lv_iconst (v := (0 : Int32)) hx hb dX4_reckons_10 (by decide) ?_
  refine lv_istore_n (lv' := [(2, .int (0 : Int32)), (0, .ref (ad 0 v0)), (1, .int v1)]) hx hb dX4_reckons_11 rfl hl (by decide) rfl (fun ls hl => ?_)
  exact t_X4_reckons_12 C FU v0 v1 (0 : Int32) M80 _ _ _ (hk82 _ _ (hk79 _ _ a0)) (kt (kt keep_rf hk79) hk82) hf hP hS (lv_sub hl [1, 2, 0] rfl)
def f_X4_isVoid_15 (M0 : Mm) (v0 : Nat) (v1 : Int32) : Option Int32 :=
  ob (f_X4_kindOf v1 M0) fun r24 => if r24 = (1 : Int32) then (dv (4 : Int32) (ob (f_X4_running v0 (v1 / (4 : Int32)) M0) fun r30 => if (5 : Int32) ≤ r30 then (some (0 : Int32)) else (some (1 : Int32)))) else (some (0 : Int32))
def f_X4_isVoid (v0 : Nat) (v1 : Int32) (M0 : Mm) : Option Int32 :=
  ob (f_X4_kindOf v1 M0) fun r19 => if r19 = (3 : Int32) then (f_X4_isVoid_15 M0 v0 v1) else (if (mI M0 0 v0 28) = 0 then (some (1 : Int32)) else (f_X4_isVoid_15 M0 v0 v1))
set_option maxRecDepth 100000 in
set_option maxHeartbeats 4000000 in
theorem t_X4_isVoid_15 {p : Program} {l : Launch} {e : Env} {s : State} {m : MethodId} {args : Array Value} {below : List Frame} {meth : Method} {c : Code} {D : va_G} {cy : Nat → ClassId} {ad : Nat → Nat → Nat} {M0 : Mm} {r0 : Int32} (C : Cx RX4 cX4_isVoid 2 (some .boolean) D cy (AA ad M0 s.heap.size) p s m args meth c) : ∀ (v0 : Nat) (v1 : Int32) (H : Heap) (locs : List Loc) (ls : Array Slot), (mA M0 0 v0 = true) → f_X4_isVoid_15 M0 v0 v1 = some r0 → HP D cy (AA ad M0 s.heap.size) ad M0 H → va_S (AA ad M0 s.heap.size) s.heap H locs → lv_has ls 2 [(0, .ref (ad 0 v0)), (1, .int v1)] → W p l e { frames := 1, cells := 0, slots := 0, locals := 23 } s m args below meth c H locs 0 0 (MQ below (QI D cy ad M0 s.heap.size r0 M0) args s 0 0 (AA ad M0 s.heap.size)) (F0 m 15 ls []) := by
  obtain ⟨hx, hb, hr, hml, hown, hts, hlocks, hK, hN, hA⟩ := id C
  intro v0 v1 H locs ls a0 hf hP hS hl
  unfold f_X4_isVoid_15 at hf
  refine lv_iload_n hx hb dX4_isVoid_15 rfl (lv_at hl 1 rfl) ?_
  obtain ⟨r24, e23, hf⟩ := ob_some hf
  refine hp_calli (va_runS (As := [.int v1]) (rest := []) ⟨hx, hb, hml, hown, hts⟩ (ok_X4_kindOf l D cy ad M0 _ v1 r24  e23) (va_cwS 1 hts (gdS q769 q770 q86 q771) rfl rfl rfl (by decide +kernel) ⟨Nat.le_of_ble_eq_true rfl, Nat.le_of_ble_eq_true rfl⟩) (pre_S hP hK hN) rfl rfl hl.1 rfl (lv_room (Nat.le_of_ble_eq_true rfl)) dX4_isVoid_16 ⟨Nat.le_of_ble_eq_true rfl, Nat.le_of_ble_eq_true rfl⟩) hP hS hA (fun H locs hP hS _ => ?_)
  refine lv_iconst (v := (1 : Int32)) hx hb dX4_isVoid_19 (by decide) ?_
  refine lv_icmp_ne (tgt := 38) hx hb dX4_isVoid_20 (by decide) (fun c27 => ?_) (fun c27 => ?_)
  · have hf := if_f hf c27
    refine lv_iconst (v := (0 : Int32)) hx hb dX4_isVoid_38 (by decide) ?_
    exact hp_zret hx hb hr hlocks (Or.inl rfl) (Option.some.inj hf) rfl hP hS keep_rf dX4_isVoid_39
  · have hf := if_t hf c27
    refine lv_aload_n hx hb dX4_isVoid_23 rfl (lv_at hl 0 rfl) ?_
    refine lv_iload_n hx hb dX4_isVoid_24 rfl (lv_at hl 1 rfl) ?_
    refine lv_iconst (v := (4 : Int32)) hx hb dX4_isVoid_25 (by decide) ?_
    obtain ⟨h28, hf⟩ := dv_some hf
    refine lv_idiv hx hb dX4_isVoid_26 h28 ?_
    obtain ⟨r30, e29, hf⟩ := ob_some hf
    refine hp_calli (va_runV (As := [.int (v1 / (4 : Int32))]) (rest := []) ⟨hx, hb, hml, hown, hts⟩ (ok_X4_running l D cy ad M0 _ v0 (v1 / (4 : Int32)) r30 a0 e29) (cwV 1 hts (gdV q808 q810 q66 q86 q811) rfl rfl rfl (by decide +kernel) ⟨Nat.le_of_ble_eq_true rfl, Nat.le_of_ble_eq_true rfl⟩) (pre_V hP hK hN a0 ds_0 rfl) rfl rfl hl.1 rfl (lv_room (Nat.le_of_ble_eq_true rfl)) dX4_isVoid_27 ⟨Nat.le_of_ble_eq_true rfl, Nat.le_of_ble_eq_true rfl⟩) hP hS hA (fun H locs hP hS _ => ?_)
    refine lv_iconst (v := (5 : Int32)) hx hb dX4_isVoid_30 (by decide) ?_
    refine lv_icmp_ge (tgt := 38) hx hb dX4_isVoid_31 (by decide) (fun c33 => ?_) (fun c33 => ?_)
    · have hf := if_t hf c33
      refine lv_iconst (v := (0 : Int32)) hx hb dX4_isVoid_38 (by decide) ?_
      exact hp_zret hx hb hr hlocks (Or.inl rfl) (Option.some.inj hf) rfl hP hS keep_rf dX4_isVoid_39
    · have hf := if_f hf c33
      refine lv_iconst (v := (1 : Int32)) hx hb dX4_isVoid_34 (by decide) ?_
      refine lv_goto (tgt := 39) hx hb dX4_isVoid_35 (by decide) ?_
      exact hp_zret hx hb hr hlocks (Or.inr rfl) (Option.some.inj hf) rfl hP hS keep_rf dX4_isVoid_39
set_option maxRecDepth 100000 in
set_option maxHeartbeats 4000000 in
theorem ok_X4_isVoid (l : Launch) (D : va_G) (cy : Nat → ClassId) (ad : Nat → Nat → Nat) (M0 : Mm) (sz : Nat) (v0 : Nat) (v1 : Int32) (r0 : Int32) (a0 : mA M0 0 v0 = true) (hf : f_X4_isVoid v0 v1 M0 = some r0) : Met l yX4_isVoid (Cond.code yX4_isVoid cX4_isVoid 2 (some .boolean) :: BW) { frames := 1, cells := 0, slots := 0, locals := 23 } (va_Pc [.ref (ad 0 v0), .int v1] (PRE D cy ad M0 sz)) (QI D cy ad M0 sz r0 M0) 0 0 (AA ad M0 sz) := by
  refine Met.ofW (cc := cX4_isVoid) (maxL := 2) (ret := (some .boolean)) (by decide) rfl ?_
  intro p e s m args below meth c s₁ B hml hv
  obtain ⟨rfl, rfl, hP0, hK, hN⟩ := hv
  have hx := B.exec
  have hb := B.bytes
  have hr := B.returns
  have hts0 := atoms_spec (ws := (Cond.code yX4_isVoid cX4_isVoid 2 (some .boolean) :: BW)) B.pre
  have hts : ∀ w ∈ BW, w.before ([.ref (ad 0 v0), .int v1] : List Value).toArray s = true := fun w h => hts0 w (List.mem_cons_of_mem _ h)
  have hown : s.vm.findClass RX4 = some m.cls := findClass_of_methodNamed B.named
  have hlocks := B.notSynchronized
  have hA : ∀ q : Nat, s.heap.size ≤ q → AA ad M0 s.heap.size q := fun q h => Or.inr h
  have C : Cx RX4 cX4_isVoid 2 (some .boolean) D cy (AA ad M0 s.heap.size) p s m ([.ref (ad 0 v0), .int v1] : List Value).toArray meth c := ⟨hx, hb, hr, hml, hown, hts, hlocks, hK, hN, hA⟩
  have hP := hp_self (sz := s.heap.size) hP0
  have hS : va_S (AA ad M0 s.heap.size) s.heap s.heap [] := va_S.rf
  have hl := lv_entry ([.ref (ad 0 v0), .int v1]) (n := 2) (Nat.le_of_ble_eq_true rfl)
  rw [lg_entry_eq]
  generalize (lg_sl ([.ref (ad 0 v0), .int v1]) ++ List.replicate (2 - (lg_sl ([.ref (ad 0 v0), .int v1])).length) Slot.unset).toArray = ls at hl ⊢
  have hl : lv_has ls 2 [(0, .ref (ad 0 v0)), (1, .int v1)] := hl
  unfold f_X4_isVoid at hf
  refine lv_iload_n hx hb dX4_isVoid_0 rfl (lv_at hl 1 rfl) ?_
  obtain ⟨r19, e18, hf⟩ := ob_some hf
  refine hp_calli (va_runS (As := [.int v1]) (rest := []) ⟨hx, hb, hml, hown, hts⟩ (ok_X4_kindOf l D cy ad M0 _ v1 r19  e18) (va_cwS 1 hts (gdS q769 q770 q86 q771) rfl rfl rfl (by decide +kernel) ⟨Nat.le_of_ble_eq_true rfl, Nat.le_of_ble_eq_true rfl⟩) (pre_S hP hK hN) rfl rfl hl.1 rfl (lv_room (Nat.le_of_ble_eq_true rfl)) dX4_isVoid_1 ⟨Nat.le_of_ble_eq_true rfl, Nat.le_of_ble_eq_true rfl⟩) hP hS hA (fun H locs hP hS _ => ?_)
  refine lv_iconst (v := (3 : Int32)) hx hb dX4_isVoid_4 (by decide) ?_
  refine lv_icmp_eq (tgt := 15) hx hb dX4_isVoid_5 (by decide) (fun c22 => ?_) (fun c22 => ?_)
  · have hf := if_t hf c22
    exact t_X4_isVoid_15 C v0 v1 _ _ _ a0 hf hP hS (lv_sub hl [0, 1] rfl)
  · have hf := if_f hf c22
    refine lv_aload_n hx hb dX4_isVoid_8 rfl (lv_at hl 0 rfl) ?_
    refine gf0 (v := .int (mI M0 0 v0 28)) hx hb hts hown hK hP a0 28 (by decide) (hts _ q633) rfl rfl dX4_isVoid_9 ?_
    refine lv_if_eq (tgt := 34) hx hb dX4_isVoid_12 (by decide) (fun c34 => ?_) (fun c34 => ?_)
    · have hf := if_t hf c34
      refine lv_iconst (v := (1 : Int32)) hx hb dX4_isVoid_34 (by decide) ?_
      refine lv_goto (tgt := 39) hx hb dX4_isVoid_35 (by decide) ?_
      exact hp_zret hx hb hr hlocks (Or.inr rfl) (Option.some.inj hf) rfl hP hS keep_rf dX4_isVoid_39
    · have hf := if_f hf c34
      exact t_X4_isVoid_15 C v0 v1 _ _ _ a0 hf hP hS (lv_sub hl [0, 1] rfl)
def f_X4_carries_6 : Nat → Nat → Int32 → Mm → Option Mm
  | 0, _, _, _ => none
  | n + 1, v0, v2, M => if (13 : Int32) ≤ v2 then (lt (sJ M 0 v0 26 ((mJ M 0 v0 26) + (mJ M 0 v0 30))) fun M37 => some M37) else (ob (mR M 0 v0 5) fun i41 => ix (((4 : Int32) * v2) + (3 : Int32)) 53 (if (mI M 15 i41 ((((4 : Int32) * v2) + (3 : Int32))).toNatClampNeg) = 0 then (lt (v2 + (1 : Int32)) fun x46 => f_X4_carries_6 n v0 x46 M) else (ob (mR M 0 v0 1) fun i49 => ix v2 13 (if (mI M 11 i49 (v2).toNatClampNeg) = (2 : Int32) then (lt (v2 + (1 : Int32)) fun x63 => f_X4_carries_6 n v0 x63 M) else (ob (mR M 0 v0 14) fun i55 => ix (((4 : Int32) * v2) + (3 : Int32)) 53 (ix (((4 : Int32) * v2) + (3 : Int32)) 53 (lt (sJ M 24 i55 ((((4 : Int32) * v2) + (3 : Int32))).toNatClampNeg ((mJ M 24 i55 ((((4 : Int32) * v2) + (3 : Int32))).toNatClampNeg) + (mJ M 0 v0 30))) fun M60 => some M60)))))))
def f_X4_carries (v0 : Nat) (v1 : Int32) (M0 : Mm) : Option Mm :=
  dv (4 : Int32) (lt ((v1 / (4 : Int32)) + (1 : Int32)) fun x34 => f_X4_carries_6 FU v0 x34 M0)
set_option maxRecDepth 100000 in
set_option maxHeartbeats 4000000 in
theorem t_X4_carries_6 {p : Program} {l : Launch} {e : Env} {s : State} {m : MethodId} {args : Array Value} {below : List Frame} {meth : Method} {c : Code} {D : va_G} {cy : Nat → ClassId} {ad : Nat → Nat → Nat} {M0 : Mm} {M' : Mm} (C : Cx RX4 cX4_carries 3 none D cy (AA ad M0 s.heap.size) p s m args meth c) : ∀ (n : Nat), ∀ (v0 : Nat) (v2 : Int32) (M : Mm) (H : Heap) (locs : List Loc) (ls : Array Slot), (mA M 0 v0 = true) → Keep M0 M → f_X4_carries_6 n v0 v2 M = some M' → HP D cy (AA ad M0 s.heap.size) ad M H → va_S (AA ad M0 s.heap.size) s.heap H locs → lv_has ls 3 [(0, .ref (ad 0 v0)), (2, .int v2)] → W p l e { frames := 0, cells := 0, slots := 0, locals := 0 } s m args below meth c H locs 0 0 (MQ below (QV D cy ad M0 s.heap.size M') args s 0 0 (AA ad M0 s.heap.size)) (F0 m 6 ls []) := by
  obtain ⟨hx, hb, hr, hml, hown, hts, hlocks, hK, hN, hA⟩ := id C
  intro n
  induction n with
  | zero =>
    intro v0 v2 M H locs ls a0 hk hf hP hS hl
    simp [f_X4_carries_6] at hf
  | succ n ih =>
    intro v0 v2 M H locs ls a0 hk hf hP hS hl
    rw [f_X4_carries_6] at hf
    refine lv_iload_n hx hb dX4_carries_6 rfl (lv_at hl 1 rfl) ?_
    refine lv_bipush (v := (13 : Int32)) hx hb dX4_carries_7 (by decide) ?_
    refine lv_icmp_ge (tgt := 62) hx hb dX4_carries_9 (by decide) (fun c36 => ?_) (fun c36 => ?_)
    · have hf := if_t hf c36
      refine lv_aload_n hx hb dX4_carries_62 rfl (lv_at hl 0 rfl) ?_
      refine lv_dup hx hb dX4_carries_63 rfl ?_
      refine gf0 (v := .long (mJ M 0 v0 26)) hx hb hts hown hK hP a0 26 (by decide) (hts _ q631) rfl rfl dX4_carries_64 ?_
      refine lv_aload_n hx hb dX4_carries_67 rfl (lv_at hl 0 rfl) ?_
      refine gf0 (v := .long (mJ M 0 v0 30)) hx hb hts hown hK hP a0 30 (by decide) (hts _ q635) rfl rfl dX4_carries_68 ?_
      refine lv_ladd hx hb dX4_carries_71 ?_
      obtain ⟨M37, e38, hf⟩ := lt_some hf
      have hk39 : Keep M M37 := keJ e38
      refine pJ0 (v := ((mJ M 0 v0 26) + (mJ M 0 v0 30))) hx hb hts hown hK hP hS a0 26 (by decide) (hts _ q631) rfl rfl rfl e38 dX4_carries_72 (fun H locs hP hS => ?_)
      exact hp_vret hx hb hr hlocks (Option.some.inj hf) hP hS (kt hk hk39) dX4_carries_75
    · have hf := if_f hf c36
      refine lv_aload_n hx hb dX4_carries_12 rfl (lv_at hl 0 rfl) ?_
      have h40 : ∀ j : Nat, (mR M 0 v0 5) = some j → mA M 15 j = true := fun j hj => hp_wf hP a0 hj
      refine gf0 (v := va_rf (((mR M 0 v0 5)).map (ad 15))) hx hb hts hown hK hP a0 5 (by decide) (hts _ q610) rfl rfl dX4_carries_13 ?_
      refine lv_iconst (v := (4 : Int32)) hx hb dX4_carries_16 (by decide) ?_
      refine lv_iload_n hx hb dX4_carries_17 rfl (lv_at hl 1 rfl) ?_
      refine lv_imul hx hb dX4_carries_18 ?_
      refine lv_iconst (v := (3 : Int32)) hx hb dX4_carries_19 (by decide) ?_
      refine lv_iadd hx hb dX4_carries_20 ?_
      obtain ⟨i41, e42, hf⟩ := ob_some hf
      have h43 : mA M 15 i41 = true := h40 i41 e42
      refine W_stk (st := [.int (((4 : Int32) * v2) + (3 : Int32)), va_rf (((mR M 0 v0 5)).map (ad 15))]) (st' := [.int (((4 : Int32) * v2) + (3 : Int32)), .ref (ad 15 i41)]) (by first | (rw [e42]; done) | (rw [e42]; rfl)) ?_
      obtain ⟨h44, hf⟩ := ix_some hf
      refine hp_zald hx hb hK hP h43 rfl h44 dX4_carries_21 ?_
      refine lv_if_eq (tgt := 56) hx hb dX4_carries_22 (by decide) (fun c45 => ?_) (fun c45 => ?_)
      · have hf := if_t hf c45
        obtain ⟨x46, e47, hf⟩ := lt_some hf
        refine lv_iinc (v := x46) (lv' := [(2, .int x46), (0, .ref (ad 0 v0))]) hx hb dX4_carries_56 hl (k := 1) rfl (by rw [e47]; rfl) (by decide) rfl (fun ls hl => ?_)
        refine lv_goto (tgt := 6) hx hb dX4_carries_59 (by decide) ?_
        exact ih v0 x46 M _ _ _ a0 hk hf hP hS (lv_sub hl [1, 0] rfl)
      · have hf := if_f hf c45
        refine lv_aload_n hx hb dX4_carries_25 rfl (lv_at hl 0 rfl) ?_
        have h48 : ∀ j : Nat, (mR M 0 v0 1) = some j → mA M 11 j = true := fun j hj => hp_wf hP a0 hj
        refine gf0 (v := va_rf (((mR M 0 v0 1)).map (ad 11))) hx hb hts hown hK hP a0 1 (by decide) (hts _ q606) rfl rfl dX4_carries_26 ?_
        refine lv_iload_n hx hb dX4_carries_29 rfl (lv_at hl 1 rfl) ?_
        obtain ⟨i49, e50, hf⟩ := ob_some hf
        have h51 : mA M 11 i49 = true := h48 i49 e50
        refine W_stk (st := [.int v2, va_rf (((mR M 0 v0 1)).map (ad 11))]) (st' := [.int v2, .ref (ad 11 i49)]) (by first | (rw [e50]; done) | (rw [e50]; rfl)) ?_
        obtain ⟨h52, hf⟩ := ix_some hf
        refine hp_iald hx hb hK hP h51 rfl h52 dX4_carries_30 ?_
        refine lv_iconst (v := (2 : Int32)) hx hb dX4_carries_31 (by decide) ?_
        refine lv_icmp_ne (tgt := 38) hx hb dX4_carries_32 (by decide) (fun c53 => ?_) (fun c53 => ?_)
        · have hf := if_f hf c53
          refine lv_aload_n hx hb dX4_carries_38 rfl (lv_at hl 0 rfl) ?_
          have h54 : ∀ j : Nat, (mR M 0 v0 14) = some j → mA M 24 j = true := fun j hj => hp_wf hP a0 hj
          refine gf0 (v := va_rf (((mR M 0 v0 14)).map (ad 24))) hx hb hts hown hK hP a0 14 (by decide) (hts _ q619) rfl rfl dX4_carries_39 ?_
          refine lv_iconst (v := (4 : Int32)) hx hb dX4_carries_42 (by decide) ?_
          refine lv_iload_n hx hb dX4_carries_43 rfl (lv_at hl 1 rfl) ?_
          refine lv_imul hx hb dX4_carries_44 ?_
          refine lv_iconst (v := (3 : Int32)) hx hb dX4_carries_45 (by decide) ?_
          refine lv_iadd hx hb dX4_carries_46 ?_
          obtain ⟨i55, e56, hf⟩ := ob_some hf
          have h57 : mA M 24 i55 = true := h54 i55 e56
          refine W_stk (st := [.int (((4 : Int32) * v2) + (3 : Int32)), va_rf (((mR M 0 v0 14)).map (ad 24))]) (st' := [.int (((4 : Int32) * v2) + (3 : Int32)), .ref (ad 24 i55)]) (by first | (rw [e56]; done) | (rw [e56]; rfl)) ?_
          refine lv_dup2_11 hx hb dX4_carries_47 rfl rfl ?_
          obtain ⟨h58, hf⟩ := ix_some hf
          refine hp_lald hx hb hK hP h57 rfl h58 dX4_carries_48 ?_
          refine lv_aload_n hx hb dX4_carries_49 rfl (lv_at hl 0 rfl) ?_
          refine gf0 (v := .long (mJ M 0 v0 30)) hx hb hts hown hK hP a0 30 (by decide) (hts _ q635) rfl rfl dX4_carries_50 ?_
          refine lv_ladd hx hb dX4_carries_53 ?_
          obtain ⟨h59, hf⟩ := ix_some hf
          obtain ⟨M60, e61, hf⟩ := lt_some hf
          have hk62 : Keep M M60 := keJ e61
          refine hp_last hx hb hK hP hS h57 rfl h59 dX4_carries_54 (fun H locs hP hS => ?_)
          rw [← e61] at hP
          exact hp_vret hx hb hr hlocks (Option.some.inj hf) hP hS (kt hk hk62) dX4_carries_55
        · have hf := if_t hf c53
          refine lv_goto (tgt := 56) hx hb dX4_carries_35 (by decide) ?_
          obtain ⟨x63, e64, hf⟩ := lt_some hf
          refine lv_iinc (v := x63) (lv' := [(2, .int x63), (0, .ref (ad 0 v0))]) hx hb dX4_carries_56 hl (k := 1) rfl (by rw [e64]; rfl) (by decide) rfl (fun ls hl => ?_)
          refine lv_goto (tgt := 6) hx hb dX4_carries_59 (by decide) ?_
          exact ih v0 x63 M _ _ _ a0 hk hf hP hS (lv_sub hl [1, 0] rfl)
set_option maxRecDepth 100000 in
set_option maxHeartbeats 4000000 in
theorem ok_X4_carries (l : Launch) (D : va_G) (cy : Nat → ClassId) (ad : Nat → Nat → Nat) (M0 : Mm) (sz : Nat) (v0 : Nat) (v1 : Int32) (M' : Mm) (a0 : mA M0 0 v0 = true) (hf : f_X4_carries v0 v1 M0 = some M') : Met l yX4_carries (Cond.code yX4_carries cX4_carries 3 none :: BW) { frames := 0, cells := 0, slots := 0, locals := 0 } (va_Pc [.ref (ad 0 v0), .int v1] (PRE D cy ad M0 sz)) (QV D cy ad M0 sz M') 0 0 (AA ad M0 sz) := by
  refine Met.ofW (cc := cX4_carries) (maxL := 3) (ret := none) (by decide) rfl ?_
  intro p e s m args below meth c s₁ B hml hv
  obtain ⟨rfl, rfl, hP0, hK, hN⟩ := hv
  have hx := B.exec
  have hb := B.bytes
  have hr := B.returns
  have hts0 := atoms_spec (ws := (Cond.code yX4_carries cX4_carries 3 none :: BW)) B.pre
  have hts : ∀ w ∈ BW, w.before ([.ref (ad 0 v0), .int v1] : List Value).toArray s = true := fun w h => hts0 w (List.mem_cons_of_mem _ h)
  have hown : s.vm.findClass RX4 = some m.cls := findClass_of_methodNamed B.named
  have hlocks := B.notSynchronized
  have hA : ∀ q : Nat, s.heap.size ≤ q → AA ad M0 s.heap.size q := fun q h => Or.inr h
  have C : Cx RX4 cX4_carries 3 none D cy (AA ad M0 s.heap.size) p s m ([.ref (ad 0 v0), .int v1] : List Value).toArray meth c := ⟨hx, hb, hr, hml, hown, hts, hlocks, hK, hN, hA⟩
  have hP := hp_self (sz := s.heap.size) hP0
  have hS : va_S (AA ad M0 s.heap.size) s.heap s.heap [] := va_S.rf
  have hl := lv_entry ([.ref (ad 0 v0), .int v1]) (n := 3) (Nat.le_of_ble_eq_true rfl)
  rw [lg_entry_eq]
  generalize (lg_sl ([.ref (ad 0 v0), .int v1]) ++ List.replicate (3 - (lg_sl ([.ref (ad 0 v0), .int v1])).length) Slot.unset).toArray = ls at hl ⊢
  have hl : lv_has ls 3 [(0, .ref (ad 0 v0)), (1, .int v1)] := hl
  unfold f_X4_carries at hf
  refine lv_iload_n hx hb dX4_carries_0 rfl (lv_at hl 1 rfl) ?_
  refine lv_iconst (v := (4 : Int32)) hx hb dX4_carries_1 (by decide) ?_
  obtain ⟨h33, hf⟩ := dv_some hf
  refine lv_idiv hx hb dX4_carries_2 h33 ?_
  refine lv_iconst (v := (1 : Int32)) hx hb dX4_carries_3 (by decide) ?_
  refine lv_iadd hx hb dX4_carries_4 ?_
  obtain ⟨x34, e35, hf⟩ := lt_some hf
  refine W_topI e35 ?_
  refine lv_istore_n (lv' := [(2, .int x34), (0, .ref (ad 0 v0)), (1, .int v1)]) hx hb dX4_carries_5 rfl hl (by decide) rfl (fun ls hl => ?_)
  exact t_X4_carries_6 C FU v0 x34 M0 _ _ _ a0 keep_rf hf hP hS (lv_sub hl [1, 0] rfl)
def f_X4_unitsOn_6 (M0 : Mm) : Nat → Nat → Int32 → Int32 → Int32 → Int32 → Int32 → Int32 → Option Int32
  | 0, _, _, _, _, _, _, _ => none
  | n + 1, v0, v1, v2, v3, v4, v5, v6 => if (mI M0 0 v0 19) ≤ v6 then (some v5) else (ob (f_X4_counts v0 v6 M0) fun r31 => if r31 = 0 then (lt (v5 + (0 : Int32)) fun x35 => lt (v6 + (1 : Int32)) fun x37 => f_X4_unitsOn_6 M0 n v0 v1 v2 v3 v4 x35 x37) else (ob (f_X4_isSame v0 v6 v1 v2 v3 v4 M0) fun r40 => if r40 = 0 then (lt (v5 + (0 : Int32)) fun x44 => lt (v6 + (1 : Int32)) fun x46 => f_X4_unitsOn_6 M0 n v0 v1 v2 v3 v4 x44 x46) else (ob (mR M0 0 v0 22) fun i49 => ix v6 600 (lt (v5 + (mI M0 29 i49 (v6).toNatClampNeg)) fun x53 => lt (v6 + (1 : Int32)) fun x55 => f_X4_unitsOn_6 M0 n v0 v1 v2 v3 v4 x53 x55))))
def f_X4_unitsOn (v0 : Nat) (v1 : Int32) (v2 : Int32) (v3 : Int32) (v4 : Int32) (M0 : Mm) : Option Int32 :=
  f_X4_unitsOn_6 M0 FU v0 v1 v2 v3 v4 (0 : Int32) (0 : Int32)
set_option maxRecDepth 100000 in
set_option maxHeartbeats 4000000 in
theorem t_X4_unitsOn_6 {p : Program} {l : Launch} {e : Env} {s : State} {m : MethodId} {args : Array Value} {below : List Frame} {meth : Method} {c : Code} {D : va_G} {cy : Nat → ClassId} {ad : Nat → Nat → Nat} {M0 : Mm} {r0 : Int32} (C : Cx RX4 cX4_unitsOn 7 (some .int) D cy (AA ad M0 s.heap.size) p s m args meth c) : ∀ (n : Nat), ∀ (v0 : Nat) (v1 : Int32) (v2 : Int32) (v3 : Int32) (v4 : Int32) (v5 : Int32) (v6 : Int32) (H : Heap) (locs : List Loc) (ls : Array Slot), (mA M0 0 v0 = true) → f_X4_unitsOn_6 M0 n v0 v1 v2 v3 v4 v5 v6 = some r0 → HP D cy (AA ad M0 s.heap.size) ad M0 H → va_S (AA ad M0 s.heap.size) s.heap H locs → lv_has ls 7 [(0, .ref (ad 0 v0)), (1, .int v1), (2, .int v2), (3, .int v3), (4, .int v4), (5, .int v5), (6, .int v6)] → W p l e { frames := 3, cells := 0, slots := 0, locals := 68 } s m args below meth c H locs 0 0 (MQ below (QI D cy ad M0 s.heap.size r0 M0) args s 0 0 (AA ad M0 s.heap.size)) (F0 m 6 ls []) := by
  obtain ⟨hx, hb, hr, hml, hown, hts, hlocks, hK, hN, hA⟩ := id C
  intro n
  induction n with
  | zero =>
    intro v0 v1 v2 v3 v4 v5 v6 H locs ls a0 hf hP hS hl
    simp [f_X4_unitsOn_6] at hf
  | succ n ih =>
    intro v0 v1 v2 v3 v4 v5 v6 H locs ls a0 hf hP hS hl
    rw [f_X4_unitsOn_6] at hf
    refine lv_iload hx hb dX4_unitsOn_6 (lv_at hl 6 rfl) ?_
    refine lv_aload_n hx hb dX4_unitsOn_8 rfl (lv_at hl 0 rfl) ?_
    refine gf0 (v := .int (mI M0 0 v0 19)) hx hb hts hown hK hP a0 19 (by decide) (hts _ q624) rfl rfl dX4_unitsOn_9 ?_
    refine lv_icmp_ge (tgt := 60) hx hb dX4_unitsOn_12 (by decide) (fun c29 => ?_) (fun c29 => ?_)
    · have hf := if_t hf c29
      refine lv_iload hx hb dX4_unitsOn_60 (lv_at hl 5 rfl) ?_
      exact hp_iret hx hb hr hlocks (Option.some.inj hf) rfl hP hS keep_rf dX4_unitsOn_62
    · have hf := if_f hf c29
      refine lv_iload hx hb dX4_unitsOn_15 (lv_at hl 5 rfl) ?_
      refine lv_aload_n hx hb dX4_unitsOn_17 rfl (lv_at hl 0 rfl) ?_
      refine lv_iload hx hb dX4_unitsOn_18 (lv_at hl 6 rfl) ?_
      obtain ⟨r31, e30, hf⟩ := ob_some hf
      refine hp_calli (va_runV (As := [.int v6]) (rest := [.int v5]) ⟨hx, hb, hml, hown, hts⟩ (ok_X4_counts l D cy ad M0 _ v0 v6 r31 a0 e30) (cwV 1 hts (gdV q820 q822 q69 q86 q823) rfl rfl rfl (by decide +kernel) ⟨Nat.le_of_ble_eq_true rfl, Nat.le_of_ble_eq_true rfl⟩) (pre_V hP hK hN a0 ds_0 rfl) rfl rfl hl.1 rfl (lv_room (Nat.le_of_ble_eq_true rfl)) dX4_unitsOn_20 ⟨Nat.le_of_ble_eq_true rfl, Nat.le_of_ble_eq_true rfl⟩) hP hS hA (fun H locs hP hS _ => ?_)
      refine lv_if_eq (tgt := 50) hx hb dX4_unitsOn_23 (by decide) (fun c34 => ?_) (fun c34 => ?_)
      · have hf := if_t hf c34
        refine lv_iconst (v := (0 : Int32)) hx hb dX4_unitsOn_50 (by decide) ?_
        refine lv_iadd hx hb dX4_unitsOn_51 ?_
        obtain ⟨x35, e36, hf⟩ := lt_some hf
        refine W_topI e36 ?_
        refine lv_istore (lv' := [(5, .int x35), (0, .ref (ad 0 v0)), (1, .int v1), (2, .int v2), (3, .int v3), (4, .int v4), (6, .int v6)]) hx hb dX4_unitsOn_52 hl (by decide) rfl (fun ls hl => ?_)
        obtain ⟨x37, e38, hf⟩ := lt_some hf
        refine lv_iinc (v := x37) (lv' := [(6, .int x37), (5, .int x35), (0, .ref (ad 0 v0)), (1, .int v1), (2, .int v2), (3, .int v3), (4, .int v4)]) hx hb dX4_unitsOn_54 hl (k := 6) rfl (by rw [e38]; rfl) (by decide) rfl (fun ls hl => ?_)
        refine lv_goto (tgt := 6) hx hb dX4_unitsOn_57 (by decide) ?_
        exact ih v0 v1 v2 v3 v4 x35 x37 _ _ _ a0 hf hP hS (lv_sub hl [2, 3, 4, 5, 6, 1, 0] rfl)
      · have hf := if_f hf c34
        refine lv_aload_n hx hb dX4_unitsOn_26 rfl (lv_at hl 0 rfl) ?_
        refine lv_iload hx hb dX4_unitsOn_27 (lv_at hl 6 rfl) ?_
        refine lv_iload_n hx hb dX4_unitsOn_29 rfl (lv_at hl 1 rfl) ?_
        refine lv_iload_n hx hb dX4_unitsOn_30 rfl (lv_at hl 2 rfl) ?_
        refine lv_iload_n hx hb dX4_unitsOn_31 rfl (lv_at hl 3 rfl) ?_
        refine lv_iload hx hb dX4_unitsOn_32 (lv_at hl 4 rfl) ?_
        obtain ⟨r40, e39, hf⟩ := ob_some hf
        refine hp_calli (va_runV (As := [.int v6, .int v1, .int v2, .int v3, .int v4]) (rest := [.int v5]) ⟨hx, hb, hml, hown, hts⟩ (ok_X4_isSame l D cy ad M0 _ v0 v6 v1 v2 v3 v4 r40 a0 e39) (cwV 5 hts (gdV q840 q842 q74 q86 q843) rfl rfl rfl (by decide +kernel) ⟨Nat.le_of_ble_eq_true rfl, Nat.le_of_ble_eq_true rfl⟩) (pre_V hP hK hN a0 ds_0 rfl) rfl rfl hl.1 rfl (lv_room (Nat.le_of_ble_eq_true rfl)) dX4_unitsOn_34 ⟨Nat.le_of_ble_eq_true rfl, Nat.le_of_ble_eq_true rfl⟩) hP hS hA (fun H locs hP hS _ => ?_)
        refine lv_if_eq (tgt := 50) hx hb dX4_unitsOn_37 (by decide) (fun c43 => ?_) (fun c43 => ?_)
        · have hf := if_t hf c43
          refine lv_iconst (v := (0 : Int32)) hx hb dX4_unitsOn_50 (by decide) ?_
          refine lv_iadd hx hb dX4_unitsOn_51 ?_
          obtain ⟨x44, e45, hf⟩ := lt_some hf
          refine W_topI e45 ?_
          refine lv_istore (lv' := [(5, .int x44), (0, .ref (ad 0 v0)), (1, .int v1), (2, .int v2), (3, .int v3), (4, .int v4), (6, .int v6)]) hx hb dX4_unitsOn_52 hl (by decide) rfl (fun ls hl => ?_)
          obtain ⟨x46, e47, hf⟩ := lt_some hf
          refine lv_iinc (v := x46) (lv' := [(6, .int x46), (5, .int x44), (0, .ref (ad 0 v0)), (1, .int v1), (2, .int v2), (3, .int v3), (4, .int v4)]) hx hb dX4_unitsOn_54 hl (k := 6) rfl (by rw [e47]; rfl) (by decide) rfl (fun ls hl => ?_)
          refine lv_goto (tgt := 6) hx hb dX4_unitsOn_57 (by decide) ?_
          exact ih v0 v1 v2 v3 v4 x44 x46 _ _ _ a0 hf hP hS (lv_sub hl [2, 3, 4, 5, 6, 1, 0] rfl)
        · have hf := if_f hf c43
          refine lv_aload_n hx hb dX4_unitsOn_40 rfl (lv_at hl 0 rfl) ?_
          have h48 : ∀ j : Nat, (mR M0 0 v0 22) = some j → mA M0 29 j = true := fun j hj => hp_wf hP a0 hj
          refine gf0 (v := va_rf (((mR M0 0 v0 22)).map (ad 29))) hx hb hts hown hK hP a0 22 (by decide) (hts _ q627) rfl rfl dX4_unitsOn_41 ?_
          refine lv_iload hx hb dX4_unitsOn_44 (lv_at hl 6 rfl) ?_
          obtain ⟨i49, e50, hf⟩ := ob_some hf
          have h51 : mA M0 29 i49 = true := h48 i49 e50
          refine W_stk (st := [.int v6, va_rf (((mR M0 0 v0 22)).map (ad 29)), .int v5]) (st' := [.int v6, .ref (ad 29 i49), .int v5]) (by first | (rw [e50]; done) | (rw [e50]; rfl)) ?_
          obtain ⟨h52, hf⟩ := ix_some hf
          refine hp_iald hx hb hK hP h51 rfl h52 dX4_unitsOn_46 ?_
          refine lv_goto (tgt := 51) hx hb dX4_unitsOn_47 (by decide) ?_
          refine lv_iadd hx hb dX4_unitsOn_51 ?_
          obtain ⟨x53, e54, hf⟩ := lt_some hf
          refine W_topI e54 ?_
          refine lv_istore (lv' := [(5, .int x53), (0, .ref (ad 0 v0)), (1, .int v1), (2, .int v2), (3, .int v3), (4, .int v4), (6, .int v6)]) hx hb dX4_unitsOn_52 hl (by decide) rfl (fun ls hl => ?_)
          obtain ⟨x55, e56, hf⟩ := lt_some hf
          refine lv_iinc (v := x55) (lv' := [(6, .int x55), (5, .int x53), (0, .ref (ad 0 v0)), (1, .int v1), (2, .int v2), (3, .int v3), (4, .int v4)]) hx hb dX4_unitsOn_54 hl (k := 6) rfl (by rw [e56]; rfl) (by decide) rfl (fun ls hl => ?_)
          refine lv_goto (tgt := 6) hx hb dX4_unitsOn_57 (by decide) ?_
          exact ih v0 v1 v2 v3 v4 x53 x55 _ _ _ a0 hf hP hS (lv_sub hl [2, 3, 4, 5, 6, 1, 0] rfl)
set_option maxRecDepth 100000 in
set_option maxHeartbeats 4000000 in
theorem ok_X4_unitsOn (l : Launch) (D : va_G) (cy : Nat → ClassId) (ad : Nat → Nat → Nat) (M0 : Mm) (sz : Nat) (v0 : Nat) (v1 : Int32) (v2 : Int32) (v3 : Int32) (v4 : Int32) (r0 : Int32) (a0 : mA M0 0 v0 = true) (hf : f_X4_unitsOn v0 v1 v2 v3 v4 M0 = some r0) : Met l yX4_unitsOn (Cond.code yX4_unitsOn cX4_unitsOn 7 (some .int) :: BW) { frames := 3, cells := 0, slots := 0, locals := 68 } (va_Pc [.ref (ad 0 v0), .int v1, .int v2, .int v3, .int v4] (PRE D cy ad M0 sz)) (QI D cy ad M0 sz r0 M0) 0 0 (AA ad M0 sz) := by
  refine Met.ofW (cc := cX4_unitsOn) (maxL := 7) (ret := (some .int)) (by decide) rfl ?_
  intro p e s m args below meth c s₁ B hml hv
  obtain ⟨rfl, rfl, hP0, hK, hN⟩ := hv
  have hx := B.exec
  have hb := B.bytes
  have hr := B.returns
  have hts0 := atoms_spec (ws := (Cond.code yX4_unitsOn cX4_unitsOn 7 (some .int) :: BW)) B.pre
  have hts : ∀ w ∈ BW, w.before ([.ref (ad 0 v0), .int v1, .int v2, .int v3, .int v4] : List Value).toArray s = true := fun w h => hts0 w (List.mem_cons_of_mem _ h)
  have hown : s.vm.findClass RX4 = some m.cls := findClass_of_methodNamed B.named
  have hlocks := B.notSynchronized
  have hA : ∀ q : Nat, s.heap.size ≤ q → AA ad M0 s.heap.size q := fun q h => Or.inr h
  have C : Cx RX4 cX4_unitsOn 7 (some .int) D cy (AA ad M0 s.heap.size) p s m ([.ref (ad 0 v0), .int v1, .int v2, .int v3, .int v4] : List Value).toArray meth c := ⟨hx, hb, hr, hml, hown, hts, hlocks, hK, hN, hA⟩
  have hP := hp_self (sz := s.heap.size) hP0
  have hS : va_S (AA ad M0 s.heap.size) s.heap s.heap [] := va_S.rf
  have hl := lv_entry ([.ref (ad 0 v0), .int v1, .int v2, .int v3, .int v4]) (n := 7) (Nat.le_of_ble_eq_true rfl)
  rw [lg_entry_eq]
  generalize (lg_sl ([.ref (ad 0 v0), .int v1, .int v2, .int v3, .int v4]) ++ List.replicate (7 - (lg_sl ([.ref (ad 0 v0), .int v1, .int v2, .int v3, .int v4])).length) Slot.unset).toArray = ls at hl ⊢
  have hl : lv_has ls 7 [(0, .ref (ad 0 v0)), (1, .int v1), (2, .int v2), (3, .int v3), (4, .int v4)] := hl
  unfold f_X4_unitsOn at hf
  refine lv_iconst (v := (0 : Int32)) hx hb dX4_unitsOn_0 (by decide) ?_
  refine lv_istore (lv' := [(5, .int (0 : Int32)), (0, .ref (ad 0 v0)), (1, .int v1), (2, .int v2), (3, .int v3), (4, .int v4)]) hx hb dX4_unitsOn_1 hl (by decide) rfl (fun ls hl => ?_)
  refine lv_iconst (v := (0 : Int32)) hx hb dX4_unitsOn_3 (by decide) ?_
  refine lv_istore (lv' := [(6, .int (0 : Int32)), (5, .int (0 : Int32)), (0, .ref (ad 0 v0)), (1, .int v1), (2, .int v2), (3, .int v3), (4, .int v4)]) hx hb dX4_unitsOn_4 hl (by decide) rfl (fun ls hl => ?_)
  exact t_X4_unitsOn_6 C FU v0 v1 v2 v3 v4 (0 : Int32) (0 : Int32) _ _ _ a0 hf hP hS (lv_sub hl [2, 3, 4, 5, 6, 1, 0] rfl)

def f_X4_unitsAs (v0 : Nat) (v1 : Int32) (M0 : Mm) : Option Int32 :=
  ob (mR M0 0 v0 20) fun i26 => ix v1 600 (ob (mR M0 0 v0 21) fun i31 => ix ((3 : Int32) * v1) 1800 (ob (mR M0 0 v0 21) fun i36 => ix (((3 : Int32) * v1) + (1 : Int32)) 1800 (ob (mR M0 0 v0 21) fun i41 => ix (((3 : Int32) * v1) + (2 : Int32)) 1800 (ob (f_X4_unitsOn v0 (mI M0 27 i26 (v1).toNatClampNeg) (mI M0 28 i31 (((3 : Int32) * v1)).toNatClampNeg) (mI M0 28 i36 ((((3 : Int32) * v1) + (1 : Int32))).toNatClampNeg) (mI M0 28 i41 ((((3 : Int32) * v1) + (2 : Int32))).toNatClampNeg) M0) fun r46 => some r46))))
set_option maxRecDepth 100000 in
set_option maxHeartbeats 4000000 in
theorem ok_X4_unitsAs (l : Launch) (D : va_G) (cy : Nat → ClassId) (ad : Nat → Nat → Nat) (M0 : Mm) (sz : Nat) (v0 : Nat) (v1 : Int32) (r0 : Int32) (a0 : mA M0 0 v0 = true) (hf : f_X4_unitsAs v0 v1 M0 = some r0) : Met l yX4_unitsAs (Cond.code yX4_unitsAs cX4_unitsAs 2 (some .int) :: BW) { frames := 4, cells := 0, slots := 0, locals := 94 } (va_Pc [.ref (ad 0 v0), .int v1] (PRE D cy ad M0 sz)) (QI D cy ad M0 sz r0 M0) 0 0 (AA ad M0 sz) := by
  refine Met.ofW (cc := cX4_unitsAs) (maxL := 2) (ret := (some .int)) (by decide) rfl ?_
  intro p e s m args below meth c s₁ B hml hv
  obtain ⟨rfl, rfl, hP0, hK, hN⟩ := hv
  have hx := B.exec
  have hb := B.bytes
  have hr := B.returns
  have hts0 := atoms_spec (ws := (Cond.code yX4_unitsAs cX4_unitsAs 2 (some .int) :: BW)) B.pre
  have hts : ∀ w ∈ BW, w.before ([.ref (ad 0 v0), .int v1] : List Value).toArray s = true := fun w h => hts0 w (List.mem_cons_of_mem _ h)
  have hown : s.vm.findClass RX4 = some m.cls := findClass_of_methodNamed B.named
  have hlocks := B.notSynchronized
  have hA : ∀ q : Nat, s.heap.size ≤ q → AA ad M0 s.heap.size q := fun q h => Or.inr h
  have C : Cx RX4 cX4_unitsAs 2 (some .int) D cy (AA ad M0 s.heap.size) p s m ([.ref (ad 0 v0), .int v1] : List Value).toArray meth c := ⟨hx, hb, hr, hml, hown, hts, hlocks, hK, hN, hA⟩
  have hP := hp_self (sz := s.heap.size) hP0
  have hS : va_S (AA ad M0 s.heap.size) s.heap s.heap [] := va_S.rf
  have hl := lv_entry ([.ref (ad 0 v0), .int v1]) (n := 2) (Nat.le_of_ble_eq_true rfl)
  rw [lg_entry_eq]
  generalize (lg_sl ([.ref (ad 0 v0), .int v1]) ++ List.replicate (2 - (lg_sl ([.ref (ad 0 v0), .int v1])).length) Slot.unset).toArray = ls at hl ⊢
  have hl : lv_has ls 2 [(0, .ref (ad 0 v0)), (1, .int v1)] := hl
  unfold f_X4_unitsAs at hf
  refine lv_aload_n hx hb dX4_unitsAs_0 rfl (lv_at hl 0 rfl) ?_
  refine lv_aload_n hx hb dX4_unitsAs_1 rfl (lv_at hl 0 rfl) ?_
  have h25 : ∀ j : Nat, (mR M0 0 v0 20) = some j → mA M0 27 j = true := fun j hj => hp_wf hP a0 hj
  refine gf0 (v := va_rf (((mR M0 0 v0 20)).map (ad 27))) hx hb hts hown hK hP a0 20 (by decide) (hts _ q625) rfl rfl dX4_unitsAs_2 ?_
  refine lv_iload_n hx hb dX4_unitsAs_5 rfl (lv_at hl 1 rfl) ?_
  obtain ⟨i26, e27, hf⟩ := ob_some hf
  have h28 : mA M0 27 i26 = true := h25 i26 e27
  refine W_stk (st := [.int v1, va_rf (((mR M0 0 v0 20)).map (ad 27)), .ref (ad 0 v0)]) (st' := [.int v1, .ref (ad 27 i26), .ref (ad 0 v0)]) (by first | (rw [e27]; done) | (rw [e27]; rfl)) ?_
  obtain ⟨h29, hf⟩ := ix_some hf
  refine hp_iald hx hb hK hP h28 rfl h29 dX4_unitsAs_6 ?_
  refine lv_aload_n hx hb dX4_unitsAs_7 rfl (lv_at hl 0 rfl) ?_
  have h30 : ∀ j : Nat, (mR M0 0 v0 21) = some j → mA M0 28 j = true := fun j hj => hp_wf hP a0 hj
  refine gf0 (v := va_rf (((mR M0 0 v0 21)).map (ad 28))) hx hb hts hown hK hP a0 21 (by decide) (hts _ q626) rfl rfl dX4_unitsAs_8 ?_
  refine lv_iconst (v := (3 : Int32)) hx hb dX4_unitsAs_11 (by decide) ?_
  refine lv_iload_n hx hb dX4_unitsAs_12 rfl (lv_at hl 1 rfl) ?_
  refine lv_imul hx hb dX4_unitsAs_13 ?_
  obtain ⟨i31, e32, hf⟩ := ob_some hf
  have h33 : mA M0 28 i31 = true := h30 i31 e32
  refine W_stk (st := [.int ((3 : Int32) * v1), va_rf (((mR M0 0 v0 21)).map (ad 28)), .int (mI M0 27 i26 (v1).toNatClampNeg), .ref (ad 0 v0)]) (st' := [.int ((3 : Int32) * v1), .ref (ad 28 i31), .int (mI M0 27 i26 (v1).toNatClampNeg), .ref (ad 0 v0)]) (by first | (rw [e32]; done) | (rw [e32]; rfl)) ?_
  obtain ⟨h34, hf⟩ := ix_some hf
  refine hp_iald hx hb hK hP h33 rfl h34 dX4_unitsAs_14 ?_
  refine lv_aload_n hx hb dX4_unitsAs_15 rfl (lv_at hl 0 rfl) ?_
  have h35 : ∀ j : Nat, (mR M0 0 v0 21) = some j → mA M0 28 j = true := fun j hj => hp_wf hP a0 hj
  refine gf0 (v := va_rf (((mR M0 0 v0 21)).map (ad 28))) hx hb hts hown hK hP a0 21 (by decide) (hts _ q626) rfl rfl dX4_unitsAs_16 ?_
  refine lv_iconst (v := (3 : Int32)) hx hb dX4_unitsAs_19 (by decide) ?_
  refine lv_iload_n hx hb dX4_unitsAs_20 rfl (lv_at hl 1 rfl) ?_
  refine lv_imul hx hb dX4_unitsAs_21 ?_
  refine lv_iconst (v := (1 : Int32)) hx hb dX4_unitsAs_22 (by decide) ?_
  refine lv_iadd hx hb dX4_unitsAs_23 ?_
  obtain ⟨i36, e37, hf⟩ := ob_some hf
  have h38 : mA M0 28 i36 = true := h35 i36 e37
  refine W_stk (st := [.int (((3 : Int32) * v1) + (1 : Int32)), va_rf (((mR M0 0 v0 21)).map (ad 28)), .int (mI M0 28 i31 (((3 : Int32) * v1)).toNatClampNeg), .int (mI M0 27 i26 (v1).toNatClampNeg), .ref (ad 0 v0)]) (st' := [.int (((3 : Int32) * v1) + (1 : Int32)), .ref (ad 28 i36), .int (mI M0 28 i31 (((3 : Int32) * v1)).toNatClampNeg), .int (mI M0 27 i26 (v1).toNatClampNeg), .ref (ad 0 v0)]) (by first | (rw [e37]; done) | (rw [e37]; rfl)) ?_
  obtain ⟨h39, hf⟩ := ix_some hf
  refine hp_iald hx hb hK hP h38 rfl h39 dX4_unitsAs_24 ?_
  refine lv_aload_n hx hb dX4_unitsAs_25 rfl (lv_at hl 0 rfl) ?_
  have h40 : ∀ j : Nat, (mR M0 0 v0 21) = some j → mA M0 28 j = true := fun j hj => hp_wf hP a0 hj
  refine gf0 (v := va_rf (((mR M0 0 v0 21)).map (ad 28))) hx hb hts hown hK hP a0 21 (by decide) (hts _ q626) rfl rfl dX4_unitsAs_26 ?_
  refine lv_iconst (v := (3 : Int32)) hx hb dX4_unitsAs_29 (by decide) ?_
  refine lv_iload_n hx hb dX4_unitsAs_30 rfl (lv_at hl 1 rfl) ?_
  refine lv_imul hx hb dX4_unitsAs_31 ?_
  refine lv_iconst (v := (2 : Int32)) hx hb dX4_unitsAs_32 (by decide) ?_
  refine lv_iadd hx hb dX4_unitsAs_33 ?_
  obtain ⟨i41, e42, hf⟩ := ob_some hf
  have h43 : mA M0 28 i41 = true := h40 i41 e42
  refine W_stk (st := [.int (((3 : Int32) * v1) + (2 : Int32)), va_rf (((mR M0 0 v0 21)).map (ad 28)), .int (mI M0 28 i36 ((((3 : Int32) * v1) + (1 : Int32))).toNatClampNeg), .int (mI M0 28 i31 (((3 : Int32) * v1)).toNatClampNeg), .int (mI M0 27 i26 (v1).toNatClampNeg), .ref (ad 0 v0)]) (st' := [.int (((3 : Int32) * v1) + (2 : Int32)), .ref (ad 28 i41), .int (mI M0 28 i36 ((((3 : Int32) * v1) + (1 : Int32))).toNatClampNeg), .int (mI M0 28 i31 (((3 : Int32) * v1)).toNatClampNeg), .int (mI M0 27 i26 (v1).toNatClampNeg), .ref (ad 0 v0)]) (by first | (rw [e42]; done) | (rw [e42]; rfl)) ?_
  obtain ⟨h44, hf⟩ := ix_some hf
  refine hp_iald hx hb hK hP h43 rfl h44 dX4_unitsAs_34 ?_
  obtain ⟨r46, e45, hf⟩ := ob_some hf
  refine hp_calli (va_runV (As := [.int (mI M0 27 i26 (v1).toNatClampNeg), .int (mI M0 28 i31 (((3 : Int32) * v1)).toNatClampNeg), .int (mI M0 28 i36 ((((3 : Int32) * v1) + (1 : Int32))).toNatClampNeg), .int (mI M0 28 i41 ((((3 : Int32) * v1) + (2 : Int32))).toNatClampNeg)]) (rest := []) ⟨hx, hb, hml, hown, hts⟩ (ok_X4_unitsOn l D cy ad M0 _ v0 (mI M0 27 i26 (v1).toNatClampNeg) (mI M0 28 i31 (((3 : Int32) * v1)).toNatClampNeg) (mI M0 28 i36 ((((3 : Int32) * v1) + (1 : Int32))).toNatClampNeg) (mI M0 28 i41 ((((3 : Int32) * v1) + (2 : Int32))).toNatClampNeg) r46 a0 e45) (cwV 4 hts (gdV q861 q863 q79 q86 q864) rfl rfl rfl (by decide +kernel) ⟨Nat.le_of_ble_eq_true rfl, Nat.le_of_ble_eq_true rfl⟩) (pre_V hP hK hN a0 ds_0 rfl) rfl rfl hl.1 rfl (lv_room (Nat.le_of_ble_eq_true rfl)) dX4_unitsAs_35 ⟨Nat.le_of_ble_eq_true rfl, Nat.le_of_ble_eq_true rfl⟩) hP hS hA (fun H locs hP hS _ => ?_)
  exact hp_iret hx hb hr hlocks (Option.some.inj hf) rfl hP hS keep_rf dX4_unitsAs_38

def f_X4_dividendOf (v0 : Nat) (v1 : Int32) (v2 : Int32) (M0 : Mm) : Option Int64 :=
  ob (mR M0 0 v0 7) fun i31 => ix v1 53 (lt ((((mI M0 17 i31 (v1).toNatClampNeg)).toInt64) * (((mI M0 0 v0 29)).toInt64)) fun x35 => ob (f_X4_kindOf v1 M0) fun r38 => if r38 = (1 : Int32) then (if 0 ≤ (lg_cmp (mJ M0 0 v0 30) x35) then (ob (mR M0 0 v0 7) fun i44 => ix v1 53 (dvl (((mI M0 0 v0 28)).toInt64) (dvl (v2.toInt64) (dvl (10 : Int64) (some ((((mI M0 17 i44 (v1).toNatClampNeg)).toInt64) + ((((((mJ M0 0 v0 30) - x35) / (((mI M0 0 v0 28)).toInt64)) / (v2.toInt64)) / (10 : Int64)) * (10 : Int64)))))))) else (ob (mR M0 0 v0 7) fun i52 => ix v1 53 (some (((mI M0 17 i52 (v1).toNatClampNeg)).toInt64)))) else (dvl (((mI M0 0 v0 28)).toInt64) (dvl (v2.toInt64) (dvl (10 : Int64) (some (((((mJ M0 0 v0 30) / (((mI M0 0 v0 28)).toInt64)) / (v2.toInt64)) / (10 : Int64)) * (10 : Int64)))))))
set_option maxRecDepth 100000 in
set_option maxHeartbeats 4000000 in
theorem ok_X4_dividendOf (l : Launch) (D : va_G) (cy : Nat → ClassId) (ad : Nat → Nat → Nat) (M0 : Mm) (sz : Nat) (v0 : Nat) (v1 : Int32) (v2 : Int32) (r0 : Int64) (a0 : mA M0 0 v0 = true) (hf : f_X4_dividendOf v0 v1 v2 M0 = some r0) : Met l yX4_dividendOf (Cond.code yX4_dividendOf cX4_dividendOf 5 (some .long) :: BW) { frames := 1, cells := 0, slots := 0, locals := 20 } (va_Pc [.ref (ad 0 v0), .int v1, .int v2] (PRE D cy ad M0 sz)) (QJ D cy ad M0 sz r0 M0) 0 0 (AA ad M0 sz) := by
  refine Met.ofW (cc := cX4_dividendOf) (maxL := 5) (ret := (some .long)) (by decide) rfl ?_
  intro p e s m args below meth c s₁ B hml hv
  obtain ⟨rfl, rfl, hP0, hK, hN⟩ := hv
  have hx := B.exec
  have hb := B.bytes
  have hr := B.returns
  have hts0 := atoms_spec (ws := (Cond.code yX4_dividendOf cX4_dividendOf 5 (some .long) :: BW)) B.pre
  have hts : ∀ w ∈ BW, w.before ([.ref (ad 0 v0), .int v1, .int v2] : List Value).toArray s = true := fun w h => hts0 w (List.mem_cons_of_mem _ h)
  have hown : s.vm.findClass RX4 = some m.cls := findClass_of_methodNamed B.named
  have hlocks := B.notSynchronized
  have hA : ∀ q : Nat, s.heap.size ≤ q → AA ad M0 s.heap.size q := fun q h => Or.inr h
  have C : Cx RX4 cX4_dividendOf 5 (some .long) D cy (AA ad M0 s.heap.size) p s m ([.ref (ad 0 v0), .int v1, .int v2] : List Value).toArray meth c := ⟨hx, hb, hr, hml, hown, hts, hlocks, hK, hN, hA⟩
  have hP := hp_self (sz := s.heap.size) hP0
  have hS : va_S (AA ad M0 s.heap.size) s.heap s.heap [] := va_S.rf
  have hl := lv_entry ([.ref (ad 0 v0), .int v1, .int v2]) (n := 5) (Nat.le_of_ble_eq_true rfl)
  rw [lg_entry_eq]
  generalize (lg_sl ([.ref (ad 0 v0), .int v1, .int v2]) ++ List.replicate (5 - (lg_sl ([.ref (ad 0 v0), .int v1, .int v2])).length) Slot.unset).toArray = ls at hl ⊢
  have hl : lv_has ls 5 [(0, .ref (ad 0 v0)), (1, .int v1), (2, .int v2)] := hl
  unfold f_X4_dividendOf at hf
  refine lv_aload_n hx hb dX4_dividendOf_0 rfl (lv_at hl 0 rfl) ?_
  have h30 : ∀ j : Nat, (mR M0 0 v0 7) = some j → mA M0 17 j = true := fun j hj => hp_wf hP a0 hj
  refine gf0 (v := va_rf (((mR M0 0 v0 7)).map (ad 17))) hx hb hts hown hK hP a0 7 (by decide) (hts _ q612) rfl rfl dX4_dividendOf_1 ?_
  refine lv_iload_n hx hb dX4_dividendOf_4 rfl (lv_at hl 1 rfl) ?_
  obtain ⟨i31, e32, hf⟩ := ob_some hf
  have h33 : mA M0 17 i31 = true := h30 i31 e32
  refine W_stk (st := [.int v1, va_rf (((mR M0 0 v0 7)).map (ad 17))]) (st' := [.int v1, .ref (ad 17 i31)]) (by first | (rw [e32]; done) | (rw [e32]; rfl)) ?_
  obtain ⟨h34, hf⟩ := ix_some hf
  refine hp_iald hx hb hK hP h33 rfl h34 dX4_dividendOf_5 ?_
  refine lv_i2l hx hb dX4_dividendOf_6 rfl ?_
  refine lv_aload_n hx hb dX4_dividendOf_7 rfl (lv_at hl 0 rfl) ?_
  refine gf0 (v := .int (mI M0 0 v0 29)) hx hb hts hown hK hP a0 29 (by decide) (hts _ q634) rfl rfl dX4_dividendOf_8 ?_
  refine lv_i2l hx hb dX4_dividendOf_11 rfl ?_
  refine lv_lmul hx hb dX4_dividendOf_12 ?_
  obtain ⟨x35, e36, hf⟩ := lt_some hf
  refine W_topJ e36 ?_
  refine lv_lstore_n (lv' := [(3, .long x35), (0, .ref (ad 0 v0)), (1, .int v1), (2, .int v2)]) hx hb dX4_dividendOf_13 rfl hl (by decide) rfl (fun ls hl => ?_)
  refine lv_iload_n hx hb dX4_dividendOf_14 rfl (lv_at hl 2 rfl) ?_
  obtain ⟨r38, e37, hf⟩ := ob_some hf
  refine hp_calli (va_runS (As := [.int v1]) (rest := []) ⟨hx, hb, hml, hown, hts⟩ (ok_X4_kindOf l D cy ad M0 _ v1 r38  e37) (va_cwS 1 hts (gdS q769 q770 q86 q771) rfl rfl rfl (by decide +kernel) ⟨Nat.le_of_ble_eq_true rfl, Nat.le_of_ble_eq_true rfl⟩) (pre_S hP hK hN) rfl rfl hl.1 rfl (lv_room (Nat.le_of_ble_eq_true rfl)) dX4_dividendOf_15 ⟨Nat.le_of_ble_eq_true rfl, Nat.le_of_ble_eq_true rfl⟩) hP hS hA (fun H locs hP hS _ => ?_)
  refine lv_iconst (v := (1 : Int32)) hx hb dX4_dividendOf_18 (by decide) ?_
  refine lv_icmp_eq (tgt := 44) hx hb dX4_dividendOf_19 (by decide) (fun c41 => ?_) (fun c41 => ?_)
  · have hf := if_t hf c41
    refine lv_aload_n hx hb dX4_dividendOf_44 rfl (lv_at hl 1 rfl) ?_
    refine gf0 (v := .long (mJ M0 0 v0 30)) hx hb hts hown hK hP a0 30 (by decide) (hts _ q635) rfl rfl dX4_dividendOf_45 ?_
    refine lv_lload_n hx hb dX4_dividendOf_48 rfl (lv_at hl 0 rfl) ?_
    refine W.lcmp hx hb dX4_dividendOf_49 ?_
    refine lv_if_ge (tgt := 63) hx hb dX4_dividendOf_50 (by decide) (fun c42 => ?_) (fun c42 => ?_)
    · have hf := if_t hf c42
      refine lv_aload_n hx hb dX4_dividendOf_63 rfl (lv_at hl 1 rfl) ?_
      have h43 : ∀ j : Nat, (mR M0 0 v0 7) = some j → mA M0 17 j = true := fun j hj => hp_wf hP a0 hj
      refine gf0 (v := va_rf (((mR M0 0 v0 7)).map (ad 17))) hx hb hts hown hK hP a0 7 (by decide) (hts _ q612) rfl rfl dX4_dividendOf_64 ?_
      refine lv_iload_n hx hb dX4_dividendOf_67 rfl (lv_at hl 2 rfl) ?_
      obtain ⟨i44, e45, hf⟩ := ob_some hf
      have h46 : mA M0 17 i44 = true := h43 i44 e45
      refine W_stk (st := [.int v1, va_rf (((mR M0 0 v0 7)).map (ad 17))]) (st' := [.int v1, .ref (ad 17 i44)]) (by first | (rw [e45]; done) | (rw [e45]; rfl)) ?_
      obtain ⟨h47, hf⟩ := ix_some hf
      refine hp_iald hx hb hK hP h46 rfl h47 dX4_dividendOf_68 ?_
      refine lv_i2l hx hb dX4_dividendOf_69 rfl ?_
      refine lv_aload_n hx hb dX4_dividendOf_70 rfl (lv_at hl 1 rfl) ?_
      refine gf0 (v := .long (mJ M0 0 v0 30)) hx hb hts hown hK hP a0 30 (by decide) (hts _ q635) rfl rfl dX4_dividendOf_71 ?_
      refine lv_lload_n hx hb dX4_dividendOf_74 rfl (lv_at hl 0 rfl) ?_
      refine lv_lsub hx hb dX4_dividendOf_75 ?_
      refine lv_aload_n hx hb dX4_dividendOf_76 rfl (lv_at hl 1 rfl) ?_
      refine gf0 (v := .int (mI M0 0 v0 28)) hx hb hts hown hK hP a0 28 (by decide) (hts _ q633) rfl rfl dX4_dividendOf_77 ?_
      refine lv_i2l hx hb dX4_dividendOf_80 rfl ?_
      obtain ⟨h48, hf⟩ := dvl_some hf
      refine lv_ldiv hx hb dX4_dividendOf_81 h48 ?_
      refine lv_iload_n hx hb dX4_dividendOf_82 rfl (lv_at hl 3 rfl) ?_
      refine lv_i2l hx hb dX4_dividendOf_83 rfl ?_
      obtain ⟨h49, hf⟩ := dvl_some hf
      refine lv_ldiv hx hb dX4_dividendOf_84 h49 ?_
      refine lv_ldc2 (v := (10 : Int64)) hx hb hown (hts _ q869) dX4_dividendOf_85 ?_
      obtain ⟨h50, hf⟩ := dvl_some hf
      refine lv_ldiv hx hb dX4_dividendOf_88 h50 ?_
      refine lv_ldc2 (v := (10 : Int64)) hx hb hown (hts _ q869) dX4_dividendOf_89 ?_
      refine lv_lmul hx hb dX4_dividendOf_92 ?_
      refine lv_ladd hx hb dX4_dividendOf_93 ?_
      exact hp_lret hx hb hr hlocks (Option.some.inj hf) rfl hP hS keep_rf dX4_dividendOf_94
    · have hf := if_f hf c42
      refine lv_aload_n hx hb dX4_dividendOf_53 rfl (lv_at hl 1 rfl) ?_
      have h51 : ∀ j : Nat, (mR M0 0 v0 7) = some j → mA M0 17 j = true := fun j hj => hp_wf hP a0 hj
      refine gf0 (v := va_rf (((mR M0 0 v0 7)).map (ad 17))) hx hb hts hown hK hP a0 7 (by decide) (hts _ q612) rfl rfl dX4_dividendOf_54 ?_
      refine lv_iload_n hx hb dX4_dividendOf_57 rfl (lv_at hl 2 rfl) ?_
      obtain ⟨i52, e53, hf⟩ := ob_some hf
      have h54 : mA M0 17 i52 = true := h51 i52 e53
      refine W_stk (st := [.int v1, va_rf (((mR M0 0 v0 7)).map (ad 17))]) (st' := [.int v1, .ref (ad 17 i52)]) (by first | (rw [e53]; done) | (rw [e53]; rfl)) ?_
      obtain ⟨h55, hf⟩ := ix_some hf
      refine hp_iald hx hb hK hP h54 rfl h55 dX4_dividendOf_58 ?_
      refine lv_i2l hx hb dX4_dividendOf_59 rfl ?_
      refine lv_goto (tgt := 94) hx hb dX4_dividendOf_60 (by decide) ?_
      exact hp_lret hx hb hr hlocks (Option.some.inj hf) rfl hP hS keep_rf dX4_dividendOf_94
  · have hf := if_f hf c41
    refine lv_aload_n hx hb dX4_dividendOf_22 rfl (lv_at hl 1 rfl) ?_
    refine gf0 (v := .long (mJ M0 0 v0 30)) hx hb hts hown hK hP a0 30 (by decide) (hts _ q635) rfl rfl dX4_dividendOf_23 ?_
    refine lv_aload_n hx hb dX4_dividendOf_26 rfl (lv_at hl 1 rfl) ?_
    refine gf0 (v := .int (mI M0 0 v0 28)) hx hb hts hown hK hP a0 28 (by decide) (hts _ q633) rfl rfl dX4_dividendOf_27 ?_
    refine lv_i2l hx hb dX4_dividendOf_30 rfl ?_
    obtain ⟨h56, hf⟩ := dvl_some hf
    refine lv_ldiv hx hb dX4_dividendOf_31 h56 ?_
    refine lv_iload_n hx hb dX4_dividendOf_32 rfl (lv_at hl 3 rfl) ?_
    refine lv_i2l hx hb dX4_dividendOf_33 rfl ?_
    obtain ⟨h57, hf⟩ := dvl_some hf
    refine lv_ldiv hx hb dX4_dividendOf_34 h57 ?_
    refine lv_ldc2 (v := (10 : Int64)) hx hb hown (hts _ q869) dX4_dividendOf_35 ?_
    obtain ⟨h58, hf⟩ := dvl_some hf
    refine lv_ldiv hx hb dX4_dividendOf_38 h58 ?_
    refine lv_ldc2 (v := (10 : Int64)) hx hb hown (hts _ q869) dX4_dividendOf_39 ?_
    refine lv_lmul hx hb dX4_dividendOf_42 ?_
    exact hp_lret hx hb hr hlocks (Option.some.inj hf) rfl hP hS keep_rf dX4_dividendOf_43
def f_X4_settles_283 (v0 : Nat) (v1 : Int32) (w0 : Int64) (w1 : Int32) (w2 : Option Nat) (M : Mm) : Option (Int32 × Mm) :=
  ob w2 fun i281 => ix w1 53 (lt (sJ M 22 i281 (w1).toNatClampNeg w0) fun M285 => ob (mR M285 0 v0 10) fun i290 => ix v1 53 (if (lg_cmp (mJ M285 20 i290 (v1).toNatClampNeg) (mJ M285 0 v0 30)) ≤ 0 then (ob (mR M285 0 v0 10) fun i296 => ix v1 53 (ob (mR M285 0 v0 11) fun i300 => ix v1 53 (lt (sJ M285 21 i300 (v1).toNatClampNeg ((mJ M285 0 v0 30) - (mJ M285 20 i296 (v1).toNatClampNeg))) fun M304 => some ((1 : Int32), M304)))) else (ob (mR M285 0 v0 11) fun i307 => ix v1 53 (lt (sJ M285 21 i307 (v1).toNatClampNeg (0 : Int64)) fun M311 => some ((1 : Int32), M311)))))
def f_X4_settles_159 : Nat → Nat → Int32 → Int32 → Mm → Option (Int32 × Mm)
  | 0, _, _, _, _ => none
  | n + 1, v0, v1, v4, M => if (mI M 0 v0 19) ≤ v4 then (ob (mR M 0 v0 10) fun i276 => ix v1 53 (if (lg_cmp (mJ M 20 i276 (v1).toNatClampNeg) (mJ M 0 v0 30)) ≤ 0 then (f_X4_settles_283 v0 v1 (0 : Int64) v1 (mR M 0 v0 12) M) else (ob (mR M 0 v0 10) fun i315 => ix v1 53 (f_X4_settles_283 v0 v1 ((mJ M 20 i315 (v1).toNatClampNeg) - (mJ M 0 v0 30)) v1 (mR M 0 v0 12) M)))) else (ob (mR M 0 v0 20) fun i320 => ix v4 600 (if (mI M 27 i320 (v4).toNatClampNeg) = v1 then (ob (f_X4_counts v0 v4 M) fun r328 => if r328 = 0 then (lt (v4 + (1 : Int32)) fun x332 => f_X4_settles_159 n v0 v1 x332 M) else (ob (f_X4_holds v0 v4 M) fun r335 => if r335 = 0 then (lt (v4 + (1 : Int32)) fun x376 => f_X4_settles_159 n v0 v1 x376 M) else (ob (f_X4_unitsAs v0 v4 M) fun r341 => ob (f_X4_dividendOf v0 v1 r341 M) fun r345 => ob (mR M 0 v0 24) fun i348 => ix v4 600 (lt (sJ M 31 i348 (v4).toNatClampNeg r345) fun M352 => ob (mR M352 0 v0 10) fun i356 => ix v1 53 (ob (mR M352 0 v0 24) fun i361 => ix v4 600 (ob (mR M352 0 v0 22) fun i366 => ix v4 600 (ix v1 53 (lt (sJ M352 20 i356 (v1).toNatClampNeg ((mJ M352 20 i356 (v1).toNatClampNeg) + ((mJ M352 31 i361 (v4).toNatClampNeg) * (((mI M352 29 i366 (v4).toNatClampNeg)).toInt64)))) fun M371 => lt (v4 + (1 : Int32)) fun x374 => f_X4_settles_159 n v0 v1 x374 M371)))))))) else (lt (v4 + (1 : Int32)) fun x325 => f_X4_settles_159 n v0 v1 x325 M)))
def f_X4_settles_42 : Nat → Nat → Int32 → Int32 → Mm → Option (Int32 × Mm)
  | 0, _, _, _, _ => none
  | n + 1, v0, v1, v2, M => if (mI M 0 v0 19) ≤ v2 then (some ((1 : Int32), M)) else (ob (mR M 0 v0 20) fun i400 => ix v2 600 (if (mI M 27 i400 (v2).toNatClampNeg) = v1 then (ob (mR M 0 v0 23) fun i408 => ix v2 600 (if (mI M 30 i408 (v2).toNatClampNeg) = 0 then (ob (f_X4_refunds v0 v2 M) fun M417 => lt (v2 + (1 : Int32)) fun x419 => f_X4_settles_42 n v0 v1 x419 M417) else (lt (v2 + (1 : Int32)) fun x413 => f_X4_settles_42 n v0 v1 x413 M))) else (lt (v2 + (1 : Int32)) fun x405 => f_X4_settles_42 n v0 v1 x405 M)))
def f_X4_settles (v0 : Nat) (v1 : Int32) (M0 : Mm) : Option (Int32 × Mm) :=
  ob (mR M0 0 v0 5) fun i212 => ix v1 53 (if (mI M0 15 i212 (v1).toNatClampNeg) = 0 then (some ((0 : Int32), M0)) else (ob (mR M0 0 v0 8) fun i218 => ix v1 53 (if (mI M0 18 i218 (v1).toNatClampNeg) = 0 then (ob (f_X4_reckons v0 v1 M0) fun M225 => ob (f_X4_isVoid v0 v1 M225) fun r228 => if r228 = 0 then (ob (mR M225 0 v0 8) fun i233 => ix v1 53 (lt (sI M225 18 i233 (v1).toNatClampNeg (1 : Int32)) fun M237 => ob (mR M237 0 v0 16) fun i241 => ix v1 53 (lt (sI M237 26 i241 (v1).toNatClampNeg (mI M237 0 v0 28)) fun M245 => ob (f_X4_staked v0 v1 (0 : Int32) M245) fun r249 => ob (f_X4_staked v0 v1 (1 : Int32) M245) fun r253 => lt (r249 - r253) fun x256 => ob (mR M245 0 v0 6) fun i260 => ix v1 53 (dvl (1000 : Int64) (ob (mR M245 0 v0 9) fun i265 => ix v1 53 (lt (sJ M245 19 i265 (v1).toNatClampNeg ((x256 * (((mI M245 16 i260 (v1).toNatClampNeg)).toInt64)) / (1000 : Int64))) fun M269 => if (mI M269 0 v0 28) = 0 then (ob (mR M269 0 v0 13) fun i379 => ix v1 53 (lt (sJ M269 23 i379 (v1).toNatClampNeg (mJ M269 0 v0 30)) fun M383 => ob (f_X4_carries v0 v1 M383) fun M388 => some ((1 : Int32), M388))) else (f_X4_settles_159 FU v0 v1 (0 : Int32) M269))))))) else (ob (mR M225 0 v0 8) fun i391 => ix v1 53 (lt (sI M225 18 i391 (v1).toNatClampNeg (2 : Int32)) fun M395 => f_X4_settles_42 FU v0 v1 (0 : Int32) M395))) else (some ((0 : Int32), M0)))))
set_option maxRecDepth 100000 in
set_option maxHeartbeats 4000000 in
theorem t_X4_settles_283 {p : Program} {l : Launch} {e : Env} {s : State} {m : MethodId} {args : Array Value} {below : List Frame} {meth : Method} {c : Code} {D : va_G} {cy : Nat → ClassId} {ad : Nat → Nat → Nat} {M0 : Mm} {r0 : Int32} {M' : Mm} (C : Cx RX4 cX4_settles 5 (some .int) D cy (AA ad M0 s.heap.size) p s m args meth c) : ∀ (v0 : Nat) (v1 : Int32) (w0 : Int64) (w1 : Int32) (w2 : Option Nat) (M : Mm) (H : Heap) (locs : List Loc) (ls : Array Slot), (mA M 0 v0 = true) → (∀ j : Nat, w2 = some j → mA M 22 j = true) → Keep M0 M → f_X4_settles_283 v0 v1 w0 w1 w2 M = some (r0, M') → HP D cy (AA ad M0 s.heap.size) ad M H → va_S (AA ad M0 s.heap.size) s.heap H locs → lv_has ls 5 [(0, .ref (ad 0 v0)), (1, .int v1)] → W p l e { frames := 5, cells := 0, slots := 0, locals := 115 } s m args below meth c H locs 0 0 (MQ below (QI D cy ad M0 s.heap.size r0 M') args s 0 0 (AA ad M0 s.heap.size)) (F0 m 283 ls [.long w0, .int w1, va_rf (w2.map (ad 22))]) := by
  obtain ⟨hx, hb, hr, hml, hown, hts, hlocks, hK, hN, hA⟩ := id C
  intro v0 v1 w0 w1 w2 M H locs ls a0 b2 hk hf hP hS hl
  unfold f_X4_settles_283 at hf
  obtain ⟨i281, e282, hf⟩ := ob_some hf
  have h283 : mA M 22 i281 = true := b2 i281 e282
  refine W_stk (st := [.long w0, .int w1, va_rf ((w2).map (ad 22))]) (st' := [.long w0, .int w1, .ref (ad 22 i281)]) (by first | (rw [e282]; done) | (rw [e282]; rfl)) ?_
  obtain ⟨h284, hf⟩ := ix_some hf
  obtain ⟨M285, e286, hf⟩ := lt_some hf
  have hk287 : Keep M M285 := keJ e286
  refine hp_last hx hb hK hP hS h283 rfl h284 dX4_settles_283 (fun H locs hP hS => ?_)
  rw [← e286] at hP
  refine lv_aload_n hx hb dX4_settles_284 rfl (lv_at hl 0 rfl) ?_
  have h288 : ∀ j : Nat, (mR M285 0 v0 11) = some j → mA M285 21 j = true := fun j hj => hp_wf hP (hk287 _ _ a0) hj
  refine gf0 (v := va_rf (((mR M285 0 v0 11)).map (ad 21))) hx hb hts hown hK hP (hk287 _ _ a0) 11 (by decide) (hts _ q616) rfl rfl dX4_settles_285 ?_
  refine lv_iload_n hx hb dX4_settles_288 rfl (lv_at hl 1 rfl) ?_
  refine lv_aload_n hx hb dX4_settles_289 rfl (lv_at hl 0 rfl) ?_
  have h289 : ∀ j : Nat, (mR M285 0 v0 10) = some j → mA M285 20 j = true := fun j hj => hp_wf hP (hk287 _ _ a0) hj
  refine gf0 (v := va_rf (((mR M285 0 v0 10)).map (ad 20))) hx hb hts hown hK hP (hk287 _ _ a0) 10 (by decide) (hts _ q615) rfl rfl dX4_settles_290 ?_
  refine lv_iload_n hx hb dX4_settles_293 rfl (lv_at hl 1 rfl) ?_
  obtain ⟨i290, e291, hf⟩ := ob_some hf
  have h292 : mA M285 20 i290 = true := h289 i290 e291
  refine W_stk (st := [.int v1, va_rf (((mR M285 0 v0 10)).map (ad 20)), .int v1, va_rf (((mR M285 0 v0 11)).map (ad 21))]) (st' := [.int v1, .ref (ad 20 i290), .int v1, va_rf (((mR M285 0 v0 11)).map (ad 21))]) (by first | (rw [e291]; done) | (rw [e291]; rfl)) ?_
  obtain ⟨h293, hf⟩ := ix_some hf
  refine hp_lald hx hb hK hP h292 rfl h293 dX4_settles_294 ?_
  refine lv_aload_n hx hb dX4_settles_295 rfl (lv_at hl 0 rfl) ?_
  refine gf0 (v := .long (mJ M285 0 v0 30)) hx hb hts hown hK hP (hk287 _ _ a0) 30 (by decide) (hts _ q635) rfl rfl dX4_settles_296 ?_
  refine W.lcmp hx hb dX4_settles_299 ?_
  refine lv_if_le (tgt := 307) hx hb dX4_settles_300 (by decide) (fun c294 => ?_) (fun c294 => ?_)
  · have hf := if_t hf c294
    refine lv_aload_n hx hb dX4_settles_307 rfl (lv_at hl 0 rfl) ?_
    refine gf0 (v := .long (mJ M285 0 v0 30)) hx hb hts hown hK hP (hk287 _ _ a0) 30 (by decide) (hts _ q635) rfl rfl dX4_settles_308 ?_
    refine lv_aload_n hx hb dX4_settles_311 rfl (lv_at hl 0 rfl) ?_
    have h295 : ∀ j : Nat, (mR M285 0 v0 10) = some j → mA M285 20 j = true := fun j hj => hp_wf hP (hk287 _ _ a0) hj
    refine gf0 (v := va_rf (((mR M285 0 v0 10)).map (ad 20))) hx hb hts hown hK hP (hk287 _ _ a0) 10 (by decide) (hts _ q615) rfl rfl dX4_settles_312 ?_
    refine lv_iload_n hx hb dX4_settles_315 rfl (lv_at hl 1 rfl) ?_
    obtain ⟨i296, e297, hf⟩ := ob_some hf
    have h298 : mA M285 20 i296 = true := h295 i296 e297
    refine W_stk (st := [.int v1, va_rf (((mR M285 0 v0 10)).map (ad 20)), .long (mJ M285 0 v0 30), .int v1, va_rf (((mR M285 0 v0 11)).map (ad 21))]) (st' := [.int v1, .ref (ad 20 i296), .long (mJ M285 0 v0 30), .int v1, va_rf (((mR M285 0 v0 11)).map (ad 21))]) (by first | (rw [e297]; done) | (rw [e297]; rfl)) ?_
    obtain ⟨h299, hf⟩ := ix_some hf
    refine hp_lald hx hb hK hP h298 rfl h299 dX4_settles_316 ?_
    refine lv_lsub hx hb dX4_settles_317 ?_
    obtain ⟨i300, e301, hf⟩ := ob_some hf
    have h302 : mA M285 21 i300 = true := h288 i300 e301
    refine W_stk (st := [.long ((mJ M285 0 v0 30) - (mJ M285 20 i296 (v1).toNatClampNeg)), .int v1, va_rf (((mR M285 0 v0 11)).map (ad 21))]) (st' := [.long ((mJ M285 0 v0 30) - (mJ M285 20 i296 (v1).toNatClampNeg)), .int v1, .ref (ad 21 i300)]) (by first | (rw [e301]; done) | (rw [e301]; rfl)) ?_
    obtain ⟨h303, hf⟩ := ix_some hf
    obtain ⟨M304, e305, hf⟩ := lt_some hf
    have hk306 : Keep M285 M304 := keJ e305
    refine hp_last hx hb hK hP hS h302 rfl h303 dX4_settles_318 (fun H locs hP hS => ?_)
    rw [← e305] at hP
    refine lv_iconst (v := (1 : Int32)) hx hb dX4_settles_319 (by decide) ?_
    exact hp_iret hx hb hr hlocks (congrArg Prod.fst (Option.some.inj hf)) (congrArg Prod.snd (Option.some.inj hf)) hP hS (kt (kt hk hk287) hk306) dX4_settles_320
  · have hf := if_f hf c294
    refine lv_lconst (v := (0 : Int64)) hx hb dX4_settles_303 (by decide) ?_
    refine lv_goto (tgt := 318) hx hb dX4_settles_304 (by decide) ?_
    obtain ⟨i307, e308, hf⟩ := ob_some hf
    have h309 : mA M285 21 i307 = true := h288 i307 e308
    refine W_stk (st := [.long (0 : Int64), .int v1, va_rf (((mR M285 0 v0 11)).map (ad 21))]) (st' := [.long (0 : Int64), .int v1, .ref (ad 21 i307)]) (by first | (rw [e308]; done) | (rw [e308]; rfl)) ?_
    obtain ⟨h310, hf⟩ := ix_some hf
    obtain ⟨M311, e312, hf⟩ := lt_some hf
    have hk313 : Keep M285 M311 := keJ e312
    refine hp_last hx hb hK hP hS h309 rfl h310 dX4_settles_318 (fun H locs hP hS => ?_)
    rw [← e312] at hP
    refine lv_iconst (v := (1 : Int32)) hx hb dX4_settles_319 (by decide) ?_
    exact hp_iret hx hb hr hlocks (congrArg Prod.fst (Option.some.inj hf)) (congrArg Prod.snd (Option.some.inj hf)) hP hS (kt (kt hk hk287) hk313) dX4_settles_320
set_option maxRecDepth 100000 in
set_option maxHeartbeats 4000000 in
theorem t_X4_settles_159 {p : Program} {l : Launch} {e : Env} {s : State} {m : MethodId} {args : Array Value} {below : List Frame} {meth : Method} {c : Code} {D : va_G} {cy : Nat → ClassId} {ad : Nat → Nat → Nat} {M0 : Mm} {r0 : Int32} {M' : Mm} (C : Cx RX4 cX4_settles 5 (some .int) D cy (AA ad M0 s.heap.size) p s m args meth c) : ∀ (n : Nat), ∀ (v0 : Nat) (v1 : Int32) (v4 : Int32) (M : Mm) (H : Heap) (locs : List Loc) (ls : Array Slot), (mA M 0 v0 = true) → Keep M0 M → f_X4_settles_159 n v0 v1 v4 M = some (r0, M') → HP D cy (AA ad M0 s.heap.size) ad M H → va_S (AA ad M0 s.heap.size) s.heap H locs → lv_has ls 5 [(0, .ref (ad 0 v0)), (1, .int v1), (4, .int v4)] → W p l e { frames := 5, cells := 0, slots := 0, locals := 115 } s m args below meth c H locs 0 0 (MQ below (QI D cy ad M0 s.heap.size r0 M') args s 0 0 (AA ad M0 s.heap.size)) (F0 m 159 ls []) := by
  obtain ⟨hx, hb, hr, hml, hown, hts, hlocks, hK, hN, hA⟩ := id C
  intro n
  induction n with
  | zero =>
    intro v0 v1 v4 M H locs ls a0 hk hf hP hS hl
    simp [f_X4_settles_159] at hf
  | succ n ih =>
    intro v0 v1 v4 M H locs ls a0 hk hf hP hS hl
    rw [f_X4_settles_159] at hf
    refine lv_iload hx hb dX4_settles_159 (lv_at hl 2 rfl) ?_
    refine lv_aload_n hx hb dX4_settles_161 rfl (lv_at hl 0 rfl) ?_
    refine gf0 (v := .int (mI M 0 v0 19)) hx hb hts hown hK hP a0 19 (by decide) (hts _ q624) rfl rfl dX4_settles_162 ?_
    refine lv_icmp_ge (tgt := 249) hx hb dX4_settles_165 (by decide) (fun c273 => ?_) (fun c273 => ?_)
    · have hf := if_t hf c273
      refine lv_aload_n hx hb dX4_settles_249 rfl (lv_at hl 0 rfl) ?_
      have h274 : ∀ j : Nat, (mR M 0 v0 12) = some j → mA M 22 j = true := fun j hj => hp_wf hP a0 hj
      refine gf0 (v := va_rf (((mR M 0 v0 12)).map (ad 22))) hx hb hts hown hK hP a0 12 (by decide) (hts _ q617) rfl rfl dX4_settles_250 ?_
      refine lv_iload_n hx hb dX4_settles_253 rfl (lv_at hl 1 rfl) ?_
      refine lv_aload_n hx hb dX4_settles_254 rfl (lv_at hl 0 rfl) ?_
      have h275 : ∀ j : Nat, (mR M 0 v0 10) = some j → mA M 20 j = true := fun j hj => hp_wf hP a0 hj
      refine gf0 (v := va_rf (((mR M 0 v0 10)).map (ad 20))) hx hb hts hown hK hP a0 10 (by decide) (hts _ q615) rfl rfl dX4_settles_255 ?_
      refine lv_iload_n hx hb dX4_settles_258 rfl (lv_at hl 1 rfl) ?_
      obtain ⟨i276, e277, hf⟩ := ob_some hf
      have h278 : mA M 20 i276 = true := h275 i276 e277
      refine W_stk (st := [.int v1, va_rf (((mR M 0 v0 10)).map (ad 20)), .int v1, va_rf (((mR M 0 v0 12)).map (ad 22))]) (st' := [.int v1, .ref (ad 20 i276), .int v1, va_rf (((mR M 0 v0 12)).map (ad 22))]) (by first | (rw [e277]; done) | (rw [e277]; rfl)) ?_
      obtain ⟨h279, hf⟩ := ix_some hf
      refine hp_lald hx hb hK hP h278 rfl h279 dX4_settles_259 ?_
      refine lv_aload_n hx hb dX4_settles_260 rfl (lv_at hl 0 rfl) ?_
      refine gf0 (v := .long (mJ M 0 v0 30)) hx hb hts hown hK hP a0 30 (by decide) (hts _ q635) rfl rfl dX4_settles_261 ?_
      refine W.lcmp hx hb dX4_settles_264 ?_
      refine lv_if_le (tgt := 282) hx hb dX4_settles_265 (by decide) (fun c280 => ?_) (fun c280 => ?_)
      · have hf := if_t hf c280
        refine lv_lconst (v := (0 : Int64)) hx hb dX4_settles_282 (by decide) ?_
        exact t_X4_settles_283 C v0 v1 (0 : Int64) v1 (mR M 0 v0 12) M _ _ _ a0 h274 hk hf hP hS (lv_sub hl [0, 1] rfl)
      · have hf := if_f hf c280
        refine lv_aload_n hx hb dX4_settles_268 rfl (lv_at hl 0 rfl) ?_
        have h314 : ∀ j : Nat, (mR M 0 v0 10) = some j → mA M 20 j = true := fun j hj => hp_wf hP a0 hj
        refine gf0 (v := va_rf (((mR M 0 v0 10)).map (ad 20))) hx hb hts hown hK hP a0 10 (by decide) (hts _ q615) rfl rfl dX4_settles_269 ?_
        refine lv_iload_n hx hb dX4_settles_272 rfl (lv_at hl 1 rfl) ?_
        obtain ⟨i315, e316, hf⟩ := ob_some hf
        have h317 : mA M 20 i315 = true := h314 i315 e316
        refine W_stk (st := [.int v1, va_rf (((mR M 0 v0 10)).map (ad 20)), .int v1, va_rf (((mR M 0 v0 12)).map (ad 22))]) (st' := [.int v1, .ref (ad 20 i315), .int v1, va_rf (((mR M 0 v0 12)).map (ad 22))]) (by first | (rw [e316]; done) | (rw [e316]; rfl)) ?_
        obtain ⟨h318, hf⟩ := ix_some hf
        refine hp_lald hx hb hK hP h317 rfl h318 dX4_settles_273 ?_
        refine lv_aload_n hx hb dX4_settles_274 rfl (lv_at hl 0 rfl) ?_
        refine gf0 (v := .long (mJ M 0 v0 30)) hx hb hts hown hK hP a0 30 (by decide) (hts _ q635) rfl rfl dX4_settles_275 ?_
        refine lv_lsub hx hb dX4_settles_278 ?_
        refine lv_goto (tgt := 283) hx hb dX4_settles_279 (by decide) ?_
        exact t_X4_settles_283 C v0 v1 ((mJ M 20 i315 (v1).toNatClampNeg) - (mJ M 0 v0 30)) v1 (mR M 0 v0 12) M _ _ _ a0 h274 hk hf hP hS (lv_sub hl [0, 1] rfl)
    · have hf := if_f hf c273
      refine lv_aload_n hx hb dX4_settles_168 rfl (lv_at hl 0 rfl) ?_
      have h319 : ∀ j : Nat, (mR M 0 v0 20) = some j → mA M 27 j = true := fun j hj => hp_wf hP a0 hj
      refine gf0 (v := va_rf (((mR M 0 v0 20)).map (ad 27))) hx hb hts hown hK hP a0 20 (by decide) (hts _ q625) rfl rfl dX4_settles_169 ?_
      refine lv_iload hx hb dX4_settles_172 (lv_at hl 2 rfl) ?_
      obtain ⟨i320, e321, hf⟩ := ob_some hf
      have h322 : mA M 27 i320 = true := h319 i320 e321
      refine W_stk (st := [.int v4, va_rf (((mR M 0 v0 20)).map (ad 27))]) (st' := [.int v4, .ref (ad 27 i320)]) (by first | (rw [e321]; done) | (rw [e321]; rfl)) ?_
      obtain ⟨h323, hf⟩ := ix_some hf
      refine hp_iald hx hb hK hP h322 rfl h323 dX4_settles_174 ?_
      refine lv_iload_n hx hb dX4_settles_175 rfl (lv_at hl 1 rfl) ?_
      refine lv_icmp_ne (tgt := 243) hx hb dX4_settles_176 (by decide) (fun c324 => ?_) (fun c324 => ?_)
      · have hf := if_f hf c324
        obtain ⟨x325, e326, hf⟩ := lt_some hf
        refine lv_iinc (v := x325) (lv' := [(4, .int x325), (0, .ref (ad 0 v0)), (1, .int v1)]) hx hb dX4_settles_243 hl (k := 2) rfl (by rw [e326]; rfl) (by decide) rfl (fun ls hl => ?_)
        refine lv_goto (tgt := 159) hx hb dX4_settles_246 (by decide) ?_
        exact ih v0 v1 x325 M _ _ _ a0 hk hf hP hS (lv_sub hl [1, 2, 0] rfl)
      · have hf := if_t hf c324
        refine lv_aload_n hx hb dX4_settles_179 rfl (lv_at hl 0 rfl) ?_
        refine lv_iload hx hb dX4_settles_180 (lv_at hl 2 rfl) ?_
        obtain ⟨r328, e327, hf⟩ := ob_some hf
        refine hp_calli (va_runV (As := [.int v4]) (rest := []) ⟨hx, hb, hml, hown, hts⟩ (ok_X4_counts l D cy ad M _ v0 v4 r328 a0 e327) (cwV 1 hts (gdV q820 q822 q69 q86 q823) rfl rfl rfl (by decide +kernel) ⟨Nat.le_of_ble_eq_true rfl, Nat.le_of_ble_eq_true rfl⟩) (pre_V hP hK hN a0 ds_0 rfl) rfl rfl hl.1 rfl (lv_room (Nat.le_of_ble_eq_true rfl)) dX4_settles_182 ⟨Nat.le_of_ble_eq_true rfl, Nat.le_of_ble_eq_true rfl⟩) hP hS hA (fun H locs hP hS _ => ?_)
        refine lv_if_eq (tgt := 243) hx hb dX4_settles_185 (by decide) (fun c331 => ?_) (fun c331 => ?_)
        · have hf := if_t hf c331
          obtain ⟨x332, e333, hf⟩ := lt_some hf
          refine lv_iinc (v := x332) (lv' := [(4, .int x332), (0, .ref (ad 0 v0)), (1, .int v1)]) hx hb dX4_settles_243 hl (k := 2) rfl (by rw [e333]; rfl) (by decide) rfl (fun ls hl => ?_)
          refine lv_goto (tgt := 159) hx hb dX4_settles_246 (by decide) ?_
          exact ih v0 v1 x332 M _ _ _ a0 hk hf hP hS (lv_sub hl [1, 2, 0] rfl)
        · have hf := if_f hf c331
          refine lv_aload_n hx hb dX4_settles_188 rfl (lv_at hl 0 rfl) ?_
          refine lv_iload hx hb dX4_settles_189 (lv_at hl 2 rfl) ?_
          obtain ⟨r335, e334, hf⟩ := ob_some hf
          refine hp_calli (va_runV (As := [.int v4]) (rest := []) ⟨hx, hb, hml, hown, hts⟩ (ok_X4_holds l D cy ad M _ v0 v4 r335 a0 e334) (cwV 1 hts (gdV q824 q826 q70 q86 q827) rfl rfl rfl (by decide +kernel) ⟨Nat.le_of_ble_eq_true rfl, Nat.le_of_ble_eq_true rfl⟩) (pre_V hP hK hN a0 ds_0 rfl) rfl rfl hl.1 rfl (lv_room (Nat.le_of_ble_eq_true rfl)) dX4_settles_191 ⟨Nat.le_of_ble_eq_true rfl, Nat.le_of_ble_eq_true rfl⟩) hP hS hA (fun H locs hP hS _ => ?_)
          refine lv_if_ne (tgt := 200) hx hb dX4_settles_194 (by decide) (fun c338 => ?_) (fun c338 => ?_)
          · have hf := if_f hf c338
            refine lv_aload_n hx hb dX4_settles_200 rfl (lv_at hl 0 rfl) ?_
            have h339 : ∀ j : Nat, (mR M 0 v0 24) = some j → mA M 31 j = true := fun j hj => hp_wf hP a0 hj
            refine gf0 (v := va_rf (((mR M 0 v0 24)).map (ad 31))) hx hb hts hown hK hP a0 24 (by decide) (hts _ q629) rfl rfl dX4_settles_201 ?_
            refine lv_iload hx hb dX4_settles_204 (lv_at hl 2 rfl) ?_
            refine lv_aload_n hx hb dX4_settles_206 rfl (lv_at hl 0 rfl) ?_
            refine lv_iload_n hx hb dX4_settles_207 rfl (lv_at hl 1 rfl) ?_
            refine lv_aload_n hx hb dX4_settles_208 rfl (lv_at hl 0 rfl) ?_
            refine lv_iload hx hb dX4_settles_209 (lv_at hl 2 rfl) ?_
            obtain ⟨r341, e340, hf⟩ := ob_some hf
            refine hp_calli (va_runV (As := [.int v4]) (rest := [.int v1, .ref (ad 0 v0), .int v4, va_rf (((mR M 0 v0 24)).map (ad 31))]) ⟨hx, hb, hml, hown, hts⟩ (ok_X4_unitsAs l D cy ad M _ v0 v4 r341 a0 e340) (cwV 1 hts (gdV q857 q859 q78 q86 q860) rfl rfl rfl (by decide +kernel) ⟨Nat.le_of_ble_eq_true rfl, Nat.le_of_ble_eq_true rfl⟩) (pre_V hP hK hN a0 ds_0 rfl) rfl rfl hl.1 rfl (lv_room (by cases (mR M 0 v0 24) <;> exact Nat.le_of_ble_eq_true rfl)) dX4_settles_211 ⟨Nat.le_of_ble_eq_true rfl, Nat.le_of_ble_eq_true rfl⟩) hP hS hA (fun H locs hP hS _ => ?_)
            obtain ⟨r345, e344, hf⟩ := ob_some hf
            refine hp_calll (va_runV (As := [.int v1, .int r341]) (rest := [.int v4, va_rf (((mR M 0 v0 24)).map (ad 31))]) ⟨hx, hb, hml, hown, hts⟩ (ok_X4_dividendOf l D cy ad M _ v0 v1 r341 r345 a0 e344) (cwV 2 hts (gdV q865 q867 q80 q86 q868) rfl rfl rfl (by decide +kernel) ⟨Nat.le_of_ble_eq_true rfl, Nat.le_of_ble_eq_true rfl⟩) (pre_V hP hK hN a0 ds_0 rfl) rfl rfl hl.1 rfl (lv_room (by cases (mR M 0 v0 24) <;> exact Nat.le_of_ble_eq_true rfl)) dX4_settles_214 ⟨Nat.le_of_ble_eq_true rfl, Nat.le_of_ble_eq_true rfl⟩) hP hS hA (fun H locs hP hS _ => ?_)
            obtain ⟨i348, e349, hf⟩ := ob_some hf
            have h350 : mA M 31 i348 = true := h339 i348 e349
            refine W_stk (st := [.long r345, .int v4, va_rf (((mR M 0 v0 24)).map (ad 31))]) (st' := [.long r345, .int v4, .ref (ad 31 i348)]) (by first | (rw [e349]; done) | (rw [e349]; rfl)) ?_
            obtain ⟨h351, hf⟩ := ix_some hf
            obtain ⟨M352, e353, hf⟩ := lt_some hf
            have hk354 : Keep M M352 := keJ e353
            refine hp_last hx hb hK hP hS h350 rfl h351 dX4_settles_217 (fun H locs hP hS => ?_)
            rw [← e353] at hP
            refine lv_aload_n hx hb dX4_settles_218 rfl (lv_at hl 0 rfl) ?_
            have h355 : ∀ j : Nat, (mR M352 0 v0 10) = some j → mA M352 20 j = true := fun j hj => hp_wf hP (hk354 _ _ a0) hj
            refine gf0 (v := va_rf (((mR M352 0 v0 10)).map (ad 20))) hx hb hts hown hK hP (hk354 _ _ a0) 10 (by decide) (hts _ q615) rfl rfl dX4_settles_219 ?_
            refine lv_iload_n hx hb dX4_settles_222 rfl (lv_at hl 1 rfl) ?_
            obtain ⟨i356, e357, hf⟩ := ob_some hf
            have h358 : mA M352 20 i356 = true := h355 i356 e357
            refine W_stk (st := [.int v1, va_rf (((mR M352 0 v0 10)).map (ad 20))]) (st' := [.int v1, .ref (ad 20 i356)]) (by first | (rw [e357]; done) | (rw [e357]; rfl)) ?_
            refine lv_dup2_11 hx hb dX4_settles_223 rfl rfl ?_
            obtain ⟨h359, hf⟩ := ix_some hf
            refine hp_lald hx hb hK hP h358 rfl h359 dX4_settles_224 ?_
            refine lv_aload_n hx hb dX4_settles_225 rfl (lv_at hl 0 rfl) ?_
            have h360 : ∀ j : Nat, (mR M352 0 v0 24) = some j → mA M352 31 j = true := fun j hj => hp_wf hP (hk354 _ _ a0) hj
            refine gf0 (v := va_rf (((mR M352 0 v0 24)).map (ad 31))) hx hb hts hown hK hP (hk354 _ _ a0) 24 (by decide) (hts _ q629) rfl rfl dX4_settles_226 ?_
            refine lv_iload hx hb dX4_settles_229 (lv_at hl 2 rfl) ?_
            obtain ⟨i361, e362, hf⟩ := ob_some hf
            have h363 : mA M352 31 i361 = true := h360 i361 e362
            refine W_stk (st := [.int v4, va_rf (((mR M352 0 v0 24)).map (ad 31)), .long (mJ M352 20 i356 (v1).toNatClampNeg), .int v1, .ref (ad 20 i356)]) (st' := [.int v4, .ref (ad 31 i361), .long (mJ M352 20 i356 (v1).toNatClampNeg), .int v1, .ref (ad 20 i356)]) (by first | (rw [e362]; done) | (rw [e362]; rfl)) ?_
            obtain ⟨h364, hf⟩ := ix_some hf
            refine hp_lald hx hb hK hP h363 rfl h364 dX4_settles_231 ?_
            refine lv_aload_n hx hb dX4_settles_232 rfl (lv_at hl 0 rfl) ?_
            have h365 : ∀ j : Nat, (mR M352 0 v0 22) = some j → mA M352 29 j = true := fun j hj => hp_wf hP (hk354 _ _ a0) hj
            refine gf0 (v := va_rf (((mR M352 0 v0 22)).map (ad 29))) hx hb hts hown hK hP (hk354 _ _ a0) 22 (by decide) (hts _ q627) rfl rfl dX4_settles_233 ?_
            refine lv_iload hx hb dX4_settles_236 (lv_at hl 2 rfl) ?_
            obtain ⟨i366, e367, hf⟩ := ob_some hf
            have h368 : mA M352 29 i366 = true := h365 i366 e367
            refine W_stk (st := [.int v4, va_rf (((mR M352 0 v0 22)).map (ad 29)), .long (mJ M352 31 i361 (v4).toNatClampNeg), .long (mJ M352 20 i356 (v1).toNatClampNeg), .int v1, .ref (ad 20 i356)]) (st' := [.int v4, .ref (ad 29 i366), .long (mJ M352 31 i361 (v4).toNatClampNeg), .long (mJ M352 20 i356 (v1).toNatClampNeg), .int v1, .ref (ad 20 i356)]) (by first | (rw [e367]; done) | (rw [e367]; rfl)) ?_
            obtain ⟨h369, hf⟩ := ix_some hf
            refine hp_iald hx hb hK hP h368 rfl h369 dX4_settles_238 ?_
            refine lv_i2l hx hb dX4_settles_239 rfl ?_
            refine lv_lmul hx hb dX4_settles_240 ?_
            refine lv_ladd hx hb dX4_settles_241 ?_
            obtain ⟨h370, hf⟩ := ix_some hf
            obtain ⟨M371, e372, hf⟩ := lt_some hf
            have hk373 : Keep M352 M371 := keJ e372
            refine hp_last hx hb hK hP hS h358 rfl h370 dX4_settles_242 (fun H locs hP hS => ?_)
            rw [← e372] at hP
            obtain ⟨x374, e375, hf⟩ := lt_some hf
            refine lv_iinc (v := x374) (lv' := [(4, .int x374), (0, .ref (ad 0 v0)), (1, .int v1)]) hx hb dX4_settles_243 hl (k := 2) rfl (by rw [e375]; rfl) (by decide) rfl (fun ls hl => ?_)
            refine lv_goto (tgt := 159) hx hb dX4_settles_246 (by decide) ?_
            exact ih v0 v1 x374 M371 _ _ _ (hk373 _ _ (hk354 _ _ a0)) (kt (kt hk hk354) hk373) hf hP hS (lv_sub hl [1, 2, 0] rfl)
          · have hf := if_t hf c338
            refine lv_goto (tgt := 243) hx hb dX4_settles_197 (by decide) ?_
            obtain ⟨x376, e377, hf⟩ := lt_some hf
            refine lv_iinc (v := x376) (lv' := [(4, .int x376), (0, .ref (ad 0 v0)), (1, .int v1)]) hx hb dX4_settles_243 hl (k := 2) rfl (by rw [e377]; rfl) (by decide) rfl (fun ls hl => ?_)
            refine lv_goto (tgt := 159) hx hb dX4_settles_246 (by decide) ?_
            exact ih v0 v1 x376 M _ _ _ a0 hk hf hP hS (lv_sub hl [1, 2, 0] rfl)
set_option maxRecDepth 100000 in
set_option maxHeartbeats 4000000 in
theorem t_X4_settles_42 {p : Program} {l : Launch} {e : Env} {s : State} {m : MethodId} {args : Array Value} {below : List Frame} {meth : Method} {c : Code} {D : va_G} {cy : Nat → ClassId} {ad : Nat → Nat → Nat} {M0 : Mm} {r0 : Int32} {M' : Mm} (C : Cx RX4 cX4_settles 5 (some .int) D cy (AA ad M0 s.heap.size) p s m args meth c) : ∀ (n : Nat), ∀ (v0 : Nat) (v1 : Int32) (v2 : Int32) (M : Mm) (H : Heap) (locs : List Loc) (ls : Array Slot), (mA M 0 v0 = true) → Keep M0 M → f_X4_settles_42 n v0 v1 v2 M = some (r0, M') → HP D cy (AA ad M0 s.heap.size) ad M H → va_S (AA ad M0 s.heap.size) s.heap H locs → lv_has ls 5 [(0, .ref (ad 0 v0)), (1, .int v1), (2, .int v2)] → W p l e { frames := 5, cells := 0, slots := 0, locals := 115 } s m args below meth c H locs 0 0 (MQ below (QI D cy ad M0 s.heap.size r0 M') args s 0 0 (AA ad M0 s.heap.size)) (F0 m 42 ls []) := by
  obtain ⟨hx, hb, hr, hml, hown, hts, hlocks, hK, hN, hA⟩ := id C
  intro n
  induction n with
  | zero =>
    intro v0 v1 v2 M H locs ls a0 hk hf hP hS hl
    simp [f_X4_settles_42] at hf
  | succ n ih =>
    intro v0 v1 v2 M H locs ls a0 hk hf hP hS hl
    rw [f_X4_settles_42] at hf
    refine lv_iload_n hx hb dX4_settles_42 rfl (lv_at hl 2 rfl) ?_
    refine lv_aload_n hx hb dX4_settles_43 rfl (lv_at hl 0 rfl) ?_
    refine gf0 (v := .int (mI M 0 v0 19)) hx hb hts hown hK hP a0 19 (by decide) (hts _ q624) rfl rfl dX4_settles_44 ?_
    refine lv_icmp_ge (tgt := 80) hx hb dX4_settles_47 (by decide) (fun c398 => ?_) (fun c398 => ?_)
    · have hf := if_t hf c398
      refine lv_iconst (v := (1 : Int32)) hx hb dX4_settles_80 (by decide) ?_
      exact hp_iret hx hb hr hlocks (congrArg Prod.fst (Option.some.inj hf)) (congrArg Prod.snd (Option.some.inj hf)) hP hS hk dX4_settles_81
    · have hf := if_f hf c398
      refine lv_aload_n hx hb dX4_settles_50 rfl (lv_at hl 0 rfl) ?_
      have h399 : ∀ j : Nat, (mR M 0 v0 20) = some j → mA M 27 j = true := fun j hj => hp_wf hP a0 hj
      refine gf0 (v := va_rf (((mR M 0 v0 20)).map (ad 27))) hx hb hts hown hK hP a0 20 (by decide) (hts _ q625) rfl rfl dX4_settles_51 ?_
      refine lv_iload_n hx hb dX4_settles_54 rfl (lv_at hl 2 rfl) ?_
      obtain ⟨i400, e401, hf⟩ := ob_some hf
      have h402 : mA M 27 i400 = true := h399 i400 e401
      refine W_stk (st := [.int v2, va_rf (((mR M 0 v0 20)).map (ad 27))]) (st' := [.int v2, .ref (ad 27 i400)]) (by first | (rw [e401]; done) | (rw [e401]; rfl)) ?_
      obtain ⟨h403, hf⟩ := ix_some hf
      refine hp_iald hx hb hK hP h402 rfl h403 dX4_settles_55 ?_
      refine lv_iload_n hx hb dX4_settles_56 rfl (lv_at hl 1 rfl) ?_
      refine lv_icmp_ne (tgt := 74) hx hb dX4_settles_57 (by decide) (fun c404 => ?_) (fun c404 => ?_)
      · have hf := if_f hf c404
        obtain ⟨x405, e406, hf⟩ := lt_some hf
        refine lv_iinc (v := x405) (lv' := [(2, .int x405), (0, .ref (ad 0 v0)), (1, .int v1)]) hx hb dX4_settles_74 hl (k := 2) rfl (by rw [e406]; rfl) (by decide) rfl (fun ls hl => ?_)
        refine lv_goto (tgt := 42) hx hb dX4_settles_77 (by decide) ?_
        exact ih v0 v1 x405 M _ _ _ a0 hk hf hP hS (lv_sub hl [1, 2, 0] rfl)
      · have hf := if_t hf c404
        refine lv_aload_n hx hb dX4_settles_60 rfl (lv_at hl 0 rfl) ?_
        have h407 : ∀ j : Nat, (mR M 0 v0 23) = some j → mA M 30 j = true := fun j hj => hp_wf hP a0 hj
        refine gf0 (v := va_rf (((mR M 0 v0 23)).map (ad 30))) hx hb hts hown hK hP a0 23 (by decide) (hts _ q628) rfl rfl dX4_settles_61 ?_
        refine lv_iload_n hx hb dX4_settles_64 rfl (lv_at hl 2 rfl) ?_
        obtain ⟨i408, e409, hf⟩ := ob_some hf
        have h410 : mA M 30 i408 = true := h407 i408 e409
        refine W_stk (st := [.int v2, va_rf (((mR M 0 v0 23)).map (ad 30))]) (st' := [.int v2, .ref (ad 30 i408)]) (by first | (rw [e409]; done) | (rw [e409]; rfl)) ?_
        obtain ⟨h411, hf⟩ := ix_some hf
        refine hp_iald hx hb hK hP h410 rfl h411 dX4_settles_65 ?_
        refine lv_if_ne (tgt := 74) hx hb dX4_settles_66 (by decide) (fun c412 => ?_) (fun c412 => ?_)
        · have hf := if_f hf c412
          obtain ⟨x413, e414, hf⟩ := lt_some hf
          refine lv_iinc (v := x413) (lv' := [(2, .int x413), (0, .ref (ad 0 v0)), (1, .int v1)]) hx hb dX4_settles_74 hl (k := 2) rfl (by rw [e414]; rfl) (by decide) rfl (fun ls hl => ?_)
          refine lv_goto (tgt := 42) hx hb dX4_settles_77 (by decide) ?_
          exact ih v0 v1 x413 M _ _ _ a0 hk hf hP hS (lv_sub hl [1, 2, 0] rfl)
        · have hf := if_t hf c412
          refine lv_aload_n hx hb dX4_settles_69 rfl (lv_at hl 0 rfl) ?_
          refine lv_iload_n hx hb dX4_settles_70 rfl (lv_at hl 2 rfl) ?_
          obtain ⟨M417, e415, hf⟩ := ob_some hf
          refine hp_callv (va_runV (As := [.int v2]) (rest := []) ⟨hx, hb, hml, hown, hts⟩ (ok_X4_refunds l D cy ad M _ v0 v2 M417 a0 e415) (cwV 1 hts (gdV q784 q786 q63 q86 q787) rfl rfl rfl (by decide +kernel) ⟨Nat.le_of_ble_eq_true rfl, Nat.le_of_ble_eq_true rfl⟩) (pre_V hP hK hN a0 ds_0 rfl) rfl rfl hl.1 rfl (lv_room (Nat.le_of_ble_eq_true rfl)) dX4_settles_71 ⟨Nat.le_of_ble_eq_true rfl, Nat.le_of_ble_eq_true rfl⟩) hP hS hA (fun H locs hP hS hk418 => ?_)
          obtain ⟨x419, e420, hf⟩ := lt_some hf
          refine lv_iinc (v := x419) (lv' := [(2, .int x419), (0, .ref (ad 0 v0)), (1, .int v1)]) hx hb dX4_settles_74 hl (k := 2) rfl (by rw [e420]; rfl) (by decide) rfl (fun ls hl => ?_)
          refine lv_goto (tgt := 42) hx hb dX4_settles_77 (by decide) ?_
          exact ih v0 v1 x419 M417 _ _ _ (hk418 _ _ a0) (kt hk hk418) hf hP hS (lv_sub hl [1, 2, 0] rfl)
set_option maxRecDepth 100000 in
set_option maxHeartbeats 4000000 in
theorem ok_X4_settles (l : Launch) (D : va_G) (cy : Nat → ClassId) (ad : Nat → Nat → Nat) (M0 : Mm) (sz : Nat) (v0 : Nat) (v1 : Int32) (r0 : Int32) (M' : Mm) (a0 : mA M0 0 v0 = true) (hf : f_X4_settles v0 v1 M0 = some (r0, M')) : Met l yX4_settles (Cond.code yX4_settles cX4_settles 5 (some .int) :: BW) { frames := 5, cells := 0, slots := 0, locals := 115 } (va_Pc [.ref (ad 0 v0), .int v1] (PRE D cy ad M0 sz)) (QI D cy ad M0 sz r0 M') 0 0 (AA ad M0 sz) := by
  refine Met.ofW (cc := cX4_settles) (maxL := 5) (ret := (some .int)) (by decide) rfl ?_
  intro p e s m args below meth c s₁ B hml hv
  obtain ⟨rfl, rfl, hP0, hK, hN⟩ := hv
  have hx := B.exec
  have hb := B.bytes
  have hr := B.returns
  have hts0 := atoms_spec (ws := (Cond.code yX4_settles cX4_settles 5 (some .int) :: BW)) B.pre
  have hts : ∀ w ∈ BW, w.before ([.ref (ad 0 v0), .int v1] : List Value).toArray s = true := fun w h => hts0 w (List.mem_cons_of_mem _ h)
  have hown : s.vm.findClass RX4 = some m.cls := findClass_of_methodNamed B.named
  have hlocks := B.notSynchronized
  have hA : ∀ q : Nat, s.heap.size ≤ q → AA ad M0 s.heap.size q := fun q h => Or.inr h
  have C : Cx RX4 cX4_settles 5 (some .int) D cy (AA ad M0 s.heap.size) p s m ([.ref (ad 0 v0), .int v1] : List Value).toArray meth c := ⟨hx, hb, hr, hml, hown, hts, hlocks, hK, hN, hA⟩
  have hP := hp_self (sz := s.heap.size) hP0
  have hS : va_S (AA ad M0 s.heap.size) s.heap s.heap [] := va_S.rf
  have hl := lv_entry ([.ref (ad 0 v0), .int v1]) (n := 5) (Nat.le_of_ble_eq_true rfl)
  rw [lg_entry_eq]
  generalize (lg_sl ([.ref (ad 0 v0), .int v1]) ++ List.replicate (5 - (lg_sl ([.ref (ad 0 v0), .int v1])).length) Slot.unset).toArray = ls at hl ⊢
  have hl : lv_has ls 5 [(0, .ref (ad 0 v0)), (1, .int v1)] := hl
  unfold f_X4_settles at hf
  refine lv_aload_n hx hb dX4_settles_0 rfl (lv_at hl 0 rfl) ?_
  have h211 : ∀ j : Nat, (mR M0 0 v0 5) = some j → mA M0 15 j = true := fun j hj => hp_wf hP a0 hj
  refine gf0 (v := va_rf (((mR M0 0 v0 5)).map (ad 15))) hx hb hts hown hK hP a0 5 (by decide) (hts _ q610) rfl rfl dX4_settles_1 ?_
  refine lv_iload_n hx hb dX4_settles_4 rfl (lv_at hl 1 rfl) ?_
  obtain ⟨i212, e213, hf⟩ := ob_some hf
  have h214 : mA M0 15 i212 = true := h211 i212 e213
  refine W_stk (st := [.int v1, va_rf (((mR M0 0 v0 5)).map (ad 15))]) (st' := [.int v1, .ref (ad 15 i212)]) (by first | (rw [e213]; done) | (rw [e213]; rfl)) ?_
  obtain ⟨h215, hf⟩ := ix_some hf
  refine hp_zald hx hb hK hP h214 rfl h215 dX4_settles_5 ?_
  refine lv_if_eq (tgt := 18) hx hb dX4_settles_6 (by decide) (fun c216 => ?_) (fun c216 => ?_)
  · have hf := if_t hf c216
    refine lv_iconst (v := (0 : Int32)) hx hb dX4_settles_18 (by decide) ?_
    exact hp_iret hx hb hr hlocks (congrArg Prod.fst (Option.some.inj hf)) (congrArg Prod.snd (Option.some.inj hf)) hP hS keep_rf dX4_settles_19
  · have hf := if_f hf c216
    refine lv_aload_n hx hb dX4_settles_9 rfl (lv_at hl 0 rfl) ?_
    have h217 : ∀ j : Nat, (mR M0 0 v0 8) = some j → mA M0 18 j = true := fun j hj => hp_wf hP a0 hj
    refine gf0 (v := va_rf (((mR M0 0 v0 8)).map (ad 18))) hx hb hts hown hK hP a0 8 (by decide) (hts _ q613) rfl rfl dX4_settles_10 ?_
    refine lv_iload_n hx hb dX4_settles_13 rfl (lv_at hl 1 rfl) ?_
    obtain ⟨i218, e219, hf⟩ := ob_some hf
    have h220 : mA M0 18 i218 = true := h217 i218 e219
    refine W_stk (st := [.int v1, va_rf (((mR M0 0 v0 8)).map (ad 18))]) (st' := [.int v1, .ref (ad 18 i218)]) (by first | (rw [e219]; done) | (rw [e219]; rfl)) ?_
    obtain ⟨h221, hf⟩ := ix_some hf
    refine hp_iald hx hb hK hP h220 rfl h221 dX4_settles_14 ?_
    refine lv_if_eq (tgt := 20) hx hb dX4_settles_15 (by decide) (fun c222 => ?_) (fun c222 => ?_)
    · have hf := if_t hf c222
      refine lv_aload_n hx hb dX4_settles_20 rfl (lv_at hl 0 rfl) ?_
      refine lv_iload_n hx hb dX4_settles_21 rfl (lv_at hl 1 rfl) ?_
      obtain ⟨M225, e223, hf⟩ := ob_some hf
      refine hp_callv (va_runV (As := [.int v1]) (rest := []) ⟨hx, hb, hml, hown, hts⟩ (ok_X4_reckons l D cy ad M0 _ v0 v1 M225 a0 e223) (cwV 1 hts (gdV q816 q818 q68 q86 q819) rfl rfl rfl (by decide +kernel) ⟨Nat.le_of_ble_eq_true rfl, Nat.le_of_ble_eq_true rfl⟩) (pre_V hP hK hN a0 ds_0 rfl) rfl rfl hl.1 rfl (lv_room (Nat.le_of_ble_eq_true rfl)) dX4_settles_22 ⟨Nat.le_of_ble_eq_true rfl, Nat.le_of_ble_eq_true rfl⟩) hP hS hA (fun H locs hP hS hk226 => ?_)
      refine lv_aload_n hx hb dX4_settles_25 rfl (lv_at hl 0 rfl) ?_
      refine lv_iload_n hx hb dX4_settles_26 rfl (lv_at hl 1 rfl) ?_
      obtain ⟨r228, e227, hf⟩ := ob_some hf
      refine hp_calli (va_runV (As := [.int v1]) (rest := []) ⟨hx, hb, hml, hown, hts⟩ (ok_X4_isVoid l D cy ad M225 _ v0 v1 r228 (hk226 _ _ a0) e227) (cwV 1 hts (gdV q849 q851 q76 q86 q852) rfl rfl rfl (by decide +kernel) ⟨Nat.le_of_ble_eq_true rfl, Nat.le_of_ble_eq_true rfl⟩) (pre_V hP hK hN (hk226 _ _ a0) ds_0 rfl) rfl rfl hl.1 rfl (lv_room (Nat.le_of_ble_eq_true rfl)) dX4_settles_27 ⟨Nat.le_of_ble_eq_true rfl, Nat.le_of_ble_eq_true rfl⟩) hP hS hA (fun H locs hP hS _ => ?_)
      refine lv_if_eq (tgt := 82) hx hb dX4_settles_30 (by decide) (fun c231 => ?_) (fun c231 => ?_)
      · have hf := if_t hf c231
        refine lv_aload_n hx hb dX4_settles_82 rfl (lv_at hl 0 rfl) ?_
        have h232 : ∀ j : Nat, (mR M225 0 v0 8) = some j → mA M225 18 j = true := fun j hj => hp_wf hP (hk226 _ _ a0) hj
        refine gf0 (v := va_rf (((mR M225 0 v0 8)).map (ad 18))) hx hb hts hown hK hP (hk226 _ _ a0) 8 (by decide) (hts _ q613) rfl rfl dX4_settles_83 ?_
        refine lv_iload_n hx hb dX4_settles_86 rfl (lv_at hl 1 rfl) ?_
        refine lv_iconst (v := (1 : Int32)) hx hb dX4_settles_87 (by decide) ?_
        obtain ⟨i233, e234, hf⟩ := ob_some hf
        have h235 : mA M225 18 i233 = true := h232 i233 e234
        refine W_stk (st := [.int (1 : Int32), .int v1, va_rf (((mR M225 0 v0 8)).map (ad 18))]) (st' := [.int (1 : Int32), .int v1, .ref (ad 18 i233)]) (by first | (rw [e234]; done) | (rw [e234]; rfl)) ?_
        obtain ⟨h236, hf⟩ := ix_some hf
        obtain ⟨M237, e238, hf⟩ := lt_some hf
        have hk239 : Keep M225 M237 := keI e238
        refine hp_iast hx hb hK hP hS h235 rfl h236 dX4_settles_88 (fun H locs hP hS => ?_)
        rw [← e238] at hP
        refine lv_aload_n hx hb dX4_settles_89 rfl (lv_at hl 0 rfl) ?_
        have h240 : ∀ j : Nat, (mR M237 0 v0 16) = some j → mA M237 26 j = true := fun j hj => hp_wf hP (hk239 _ _ (hk226 _ _ a0)) hj
        refine gf0 (v := va_rf (((mR M237 0 v0 16)).map (ad 26))) hx hb hts hown hK hP (hk239 _ _ (hk226 _ _ a0)) 16 (by decide) (hts _ q621) rfl rfl dX4_settles_90 ?_
        refine lv_iload_n hx hb dX4_settles_93 rfl (lv_at hl 1 rfl) ?_
        refine lv_aload_n hx hb dX4_settles_94 rfl (lv_at hl 0 rfl) ?_
        refine gf0 (v := .int (mI M237 0 v0 28)) hx hb hts hown hK hP (hk239 _ _ (hk226 _ _ a0)) 28 (by decide) (hts _ q633) rfl rfl dX4_settles_95 ?_
        obtain ⟨i241, e242, hf⟩ := ob_some hf
        have h243 : mA M237 26 i241 = true := h240 i241 e242
        refine W_stk (st := [.int (mI M237 0 v0 28), .int v1, va_rf (((mR M237 0 v0 16)).map (ad 26))]) (st' := [.int (mI M237 0 v0 28), .int v1, .ref (ad 26 i241)]) (by first | (rw [e242]; done) | (rw [e242]; rfl)) ?_
        obtain ⟨h244, hf⟩ := ix_some hf
        obtain ⟨M245, e246, hf⟩ := lt_some hf
        have hk247 : Keep M237 M245 := keI e246
        refine hp_iast hx hb hK hP hS h243 rfl h244 dX4_settles_98 (fun H locs hP hS => ?_)
        rw [← e246] at hP
        refine lv_aload_n hx hb dX4_settles_99 rfl (lv_at hl 0 rfl) ?_
        refine lv_iload_n hx hb dX4_settles_100 rfl (lv_at hl 1 rfl) ?_
        refine lv_iconst (v := (0 : Int32)) hx hb dX4_settles_101 (by decide) ?_
        obtain ⟨r249, e248, hf⟩ := ob_some hf
        refine hp_calll (va_runV (As := [.int v1, .int (0 : Int32)]) (rest := []) ⟨hx, hb, hml, hown, hts⟩ (ok_X4_staked l D cy ad M245 _ v0 v1 (0 : Int32) r249 (hk247 _ _ (hk239 _ _ (hk226 _ _ a0))) e248) (cwV 2 hts (gdV q844 q846 q75 q86 q847) rfl rfl rfl (by decide +kernel) ⟨Nat.le_of_ble_eq_true rfl, Nat.le_of_ble_eq_true rfl⟩) (pre_V hP hK hN (hk247 _ _ (hk239 _ _ (hk226 _ _ a0))) ds_0 rfl) rfl rfl hl.1 rfl (lv_room (Nat.le_of_ble_eq_true rfl)) dX4_settles_102 ⟨Nat.le_of_ble_eq_true rfl, Nat.le_of_ble_eq_true rfl⟩) hP hS hA (fun H locs hP hS _ => ?_)
        refine lv_aload_n hx hb dX4_settles_105 rfl (lv_at hl 0 rfl) ?_
        refine lv_iload_n hx hb dX4_settles_106 rfl (lv_at hl 1 rfl) ?_
        refine lv_iconst (v := (1 : Int32)) hx hb dX4_settles_107 (by decide) ?_
        obtain ⟨r253, e252, hf⟩ := ob_some hf
        refine hp_calll (va_runV (As := [.int v1, .int (1 : Int32)]) (rest := [.long r249]) ⟨hx, hb, hml, hown, hts⟩ (ok_X4_staked l D cy ad M245 _ v0 v1 (1 : Int32) r253 (hk247 _ _ (hk239 _ _ (hk226 _ _ a0))) e252) (cwV 2 hts (gdV q844 q846 q75 q86 q847) rfl rfl rfl (by decide +kernel) ⟨Nat.le_of_ble_eq_true rfl, Nat.le_of_ble_eq_true rfl⟩) (pre_V hP hK hN (hk247 _ _ (hk239 _ _ (hk226 _ _ a0))) ds_0 rfl) rfl rfl hl.1 rfl (lv_room (Nat.le_of_ble_eq_true rfl)) dX4_settles_108 ⟨Nat.le_of_ble_eq_true rfl, Nat.le_of_ble_eq_true rfl⟩) hP hS hA (fun H locs hP hS _ => ?_)
        refine lv_lsub hx hb dX4_settles_111 ?_
        obtain ⟨x256, e257, hf⟩ := lt_some hf
        refine W_topJ e257 ?_
        refine lv_lstore_n (lv' := [(2, .long x256), (0, .ref (ad 0 v0)), (1, .int v1)]) hx hb dX4_settles_112 rfl hl (by decide) rfl (fun ls hl => ?_)
        refine lv_aload_n hx hb dX4_settles_113 rfl (lv_at hl 1 rfl) ?_
        have h258 : ∀ j : Nat, (mR M245 0 v0 9) = some j → mA M245 19 j = true := fun j hj => hp_wf hP (hk247 _ _ (hk239 _ _ (hk226 _ _ a0))) hj
        refine gf0 (v := va_rf (((mR M245 0 v0 9)).map (ad 19))) hx hb hts hown hK hP (hk247 _ _ (hk239 _ _ (hk226 _ _ a0))) 9 (by decide) (hts _ q614) rfl rfl dX4_settles_114 ?_
        refine lv_iload_n hx hb dX4_settles_117 rfl (lv_at hl 2 rfl) ?_
        refine lv_lload_n hx hb dX4_settles_118 rfl (lv_at hl 0 rfl) ?_
        refine lv_aload_n hx hb dX4_settles_119 rfl (lv_at hl 1 rfl) ?_
        have h259 : ∀ j : Nat, (mR M245 0 v0 6) = some j → mA M245 16 j = true := fun j hj => hp_wf hP (hk247 _ _ (hk239 _ _ (hk226 _ _ a0))) hj
        refine gf0 (v := va_rf (((mR M245 0 v0 6)).map (ad 16))) hx hb hts hown hK hP (hk247 _ _ (hk239 _ _ (hk226 _ _ a0))) 6 (by decide) (hts _ q611) rfl rfl dX4_settles_120 ?_
        refine lv_iload_n hx hb dX4_settles_123 rfl (lv_at hl 2 rfl) ?_
        obtain ⟨i260, e261, hf⟩ := ob_some hf
        have h262 : mA M245 16 i260 = true := h259 i260 e261
        refine W_stk (st := [.int v1, va_rf (((mR M245 0 v0 6)).map (ad 16)), .long x256, .int v1, va_rf (((mR M245 0 v0 9)).map (ad 19))]) (st' := [.int v1, .ref (ad 16 i260), .long x256, .int v1, va_rf (((mR M245 0 v0 9)).map (ad 19))]) (by first | (rw [e261]; done) | (rw [e261]; rfl)) ?_
        obtain ⟨h263, hf⟩ := ix_some hf
        refine hp_iald hx hb hK hP h262 rfl h263 dX4_settles_124 ?_
        refine lv_i2l hx hb dX4_settles_125 rfl ?_
        refine lv_lmul hx hb dX4_settles_126 ?_
        refine lv_ldc2 (v := (1000 : Int64)) hx hb hown (hts _ q848) dX4_settles_127 ?_
        obtain ⟨h264, hf⟩ := dvl_some hf
        refine lv_ldiv hx hb dX4_settles_130 h264 ?_
        obtain ⟨i265, e266, hf⟩ := ob_some hf
        have h267 : mA M245 19 i265 = true := h258 i265 e266
        refine W_stk (st := [.long ((x256 * (((mI M245 16 i260 (v1).toNatClampNeg)).toInt64)) / (1000 : Int64)), .int v1, va_rf (((mR M245 0 v0 9)).map (ad 19))]) (st' := [.long ((x256 * (((mI M245 16 i260 (v1).toNatClampNeg)).toInt64)) / (1000 : Int64)), .int v1, .ref (ad 19 i265)]) (by first | (rw [e266]; done) | (rw [e266]; rfl)) ?_
        obtain ⟨h268, hf⟩ := ix_some hf
        obtain ⟨M269, e270, hf⟩ := lt_some hf
        have hk271 : Keep M245 M269 := keJ e270
        refine hp_last hx hb hK hP hS h267 rfl h268 dX4_settles_131 (fun H locs hP hS => ?_)
        rw [← e270] at hP
        refine lv_aload_n hx hb dX4_settles_132 rfl (lv_at hl 1 rfl) ?_
        refine gf0 (v := .int (mI M269 0 v0 28)) hx hb hts hown hK hP (hk271 _ _ (hk247 _ _ (hk239 _ _ (hk226 _ _ a0)))) 28 (by decide) (hts _ q633) rfl rfl dX4_settles_133 ?_
        refine lv_if_ne (tgt := 156) hx hb dX4_settles_136 (by decide) (fun c272 => ?_) (fun c272 => ?_)
        · have hf := if_f hf c272
          refine lv_iconst (v := (0 : Int32)) hx hb dX4_settles_156 (by decide) ?_
          refine lv_istore (lv' := [(4, .int (0 : Int32)), (2, .long x256), (0, .ref (ad 0 v0)), (1, .int v1)]) hx hb dX4_settles_157 hl (by decide) rfl (fun ls hl => ?_)
          exact t_X4_settles_159 C FU v0 v1 (0 : Int32) M269 _ _ _ (hk271 _ _ (hk247 _ _ (hk239 _ _ (hk226 _ _ a0)))) (kt (kt (kt (kt keep_rf hk226) hk239) hk247) hk271) hf hP hS (lv_sub hl [2, 3, 0] rfl)
        · have hf := if_t hf c272
          refine lv_aload_n hx hb dX4_settles_139 rfl (lv_at hl 1 rfl) ?_
          have h378 : ∀ j : Nat, (mR M269 0 v0 13) = some j → mA M269 23 j = true := fun j hj => hp_wf hP (hk271 _ _ (hk247 _ _ (hk239 _ _ (hk226 _ _ a0)))) hj
          refine gf0 (v := va_rf (((mR M269 0 v0 13)).map (ad 23))) hx hb hts hown hK hP (hk271 _ _ (hk247 _ _ (hk239 _ _ (hk226 _ _ a0)))) 13 (by decide) (hts _ q618) rfl rfl dX4_settles_140 ?_
          refine lv_iload_n hx hb dX4_settles_143 rfl (lv_at hl 2 rfl) ?_
          refine lv_aload_n hx hb dX4_settles_144 rfl (lv_at hl 1 rfl) ?_
          refine gf0 (v := .long (mJ M269 0 v0 30)) hx hb hts hown hK hP (hk271 _ _ (hk247 _ _ (hk239 _ _ (hk226 _ _ a0)))) 30 (by decide) (hts _ q635) rfl rfl dX4_settles_145 ?_
          obtain ⟨i379, e380, hf⟩ := ob_some hf
          have h381 : mA M269 23 i379 = true := h378 i379 e380
          refine W_stk (st := [.long (mJ M269 0 v0 30), .int v1, va_rf (((mR M269 0 v0 13)).map (ad 23))]) (st' := [.long (mJ M269 0 v0 30), .int v1, .ref (ad 23 i379)]) (by first | (rw [e380]; done) | (rw [e380]; rfl)) ?_
          obtain ⟨h382, hf⟩ := ix_some hf
          obtain ⟨M383, e384, hf⟩ := lt_some hf
          have hk385 : Keep M269 M383 := keJ e384
          refine hp_last hx hb hK hP hS h381 rfl h382 dX4_settles_148 (fun H locs hP hS => ?_)
          rw [← e384] at hP
          refine lv_aload_n hx hb dX4_settles_149 rfl (lv_at hl 1 rfl) ?_
          refine lv_iload_n hx hb dX4_settles_150 rfl (lv_at hl 2 rfl) ?_
          obtain ⟨M388, e386, hf⟩ := ob_some hf
          refine hp_callv (va_runV (As := [.int v1]) (rest := []) ⟨hx, hb, hml, hown, hts⟩ (ok_X4_carries l D cy ad M383 _ v0 v1 M388 (hk385 _ _ (hk271 _ _ (hk247 _ _ (hk239 _ _ (hk226 _ _ a0))))) e386) (cwV 1 hts (gdV q853 q855 q77 q86 q856) rfl rfl rfl (by decide +kernel) ⟨Nat.le_of_ble_eq_true rfl, Nat.le_of_ble_eq_true rfl⟩) (pre_V hP hK hN (hk385 _ _ (hk271 _ _ (hk247 _ _ (hk239 _ _ (hk226 _ _ a0))))) ds_0 rfl) rfl rfl hl.1 rfl (lv_room (Nat.le_of_ble_eq_true rfl)) dX4_settles_151 ⟨Nat.le_of_ble_eq_true rfl, Nat.le_of_ble_eq_true rfl⟩) hP hS hA (fun H locs hP hS hk389 => ?_)
          refine lv_iconst (v := (1 : Int32)) hx hb dX4_settles_154 (by decide) ?_
          exact hp_iret hx hb hr hlocks (congrArg Prod.fst (Option.some.inj hf)) (congrArg Prod.snd (Option.some.inj hf)) hP hS (kt (kt (kt (kt (kt (kt keep_rf hk226) hk239) hk247) hk271) hk385) hk389) dX4_settles_155
      · have hf := if_f hf c231
        refine lv_aload_n hx hb dX4_settles_33 rfl (lv_at hl 0 rfl) ?_
        have h390 : ∀ j : Nat, (mR M225 0 v0 8) = some j → mA M225 18 j = true := fun j hj => hp_wf hP (hk226 _ _ a0) hj
        refine gf0 (v := va_rf (((mR M225 0 v0 8)).map (ad 18))) hx hb hts hown hK hP (hk226 _ _ a0) 8 (by decide) (hts _ q613) rfl rfl dX4_settles_34 ?_
        refine lv_iload_n hx hb dX4_settles_37 rfl (lv_at hl 1 rfl) ?_
        refine lv_iconst (v := (2 : Int32)) hx hb dX4_settles_38 (by decide) ?_
        obtain ⟨i391, e392, hf⟩ := ob_some hf
        have h393 : mA M225 18 i391 = true := h390 i391 e392
        refine W_stk (st := [.int (2 : Int32), .int v1, va_rf (((mR M225 0 v0 8)).map (ad 18))]) (st' := [.int (2 : Int32), .int v1, .ref (ad 18 i391)]) (by first | (rw [e392]; done) | (rw [e392]; rfl)) ?_
        obtain ⟨h394, hf⟩ := ix_some hf
        obtain ⟨M395, e396, hf⟩ := lt_some hf
        have hk397 : Keep M225 M395 := keI e396
        refine hp_iast hx hb hK hP hS h393 rfl h394 dX4_settles_39 (fun H locs hP hS => ?_)
        rw [← e396] at hP
        refine lv_iconst (v := (0 : Int32)) hx hb dX4_settles_40 (by decide) ?_
        refine lv_istore_n (lv' := [(2, .int (0 : Int32)), (0, .ref (ad 0 v0)), (1, .int v1)]) hx hb dX4_settles_41 rfl hl (by decide) rfl (fun ls hl => ?_)
        exact t_X4_settles_42 C FU v0 v1 (0 : Int32) M395 _ _ _ (hk397 _ _ (hk226 _ _ a0)) (kt (kt keep_rf hk226) hk397) hf hP hS (lv_sub hl [1, 2, 0] rfl)
    · have hf := if_f hf c222
      refine lv_iconst (v := (0 : Int32)) hx hb dX4_settles_18 (by decide) ?_
      exact hp_iret hx hb hr hlocks (congrArg Prod.fst (Option.some.inj hf)) (congrArg Prod.snd (Option.some.inj hf)) hP hS keep_rf dX4_settles_19
def f_X4_official_88 (v0 : Nat) (v2 : Int32) (M : Mm) : Option (Int32 × Mm) :=
  ob (mR M 0 v0 1) fun i93 => ix (mI M 0 v0 17) 13 (if (mI M 11 i93 ((mI M 0 v0 17)).toNatClampNeg) = (2 : Int32) then (ob (mR M 0 v0 1) fun i99 => ix (mI M 0 v0 18) 13 (if (mI M 11 i99 ((mI M 0 v0 18)).toNatClampNeg) = (2 : Int32) then (ob (f_X4_settles v0 (52 : Int32) M) fun (r105, M106) => lt (v2 + r105) fun x108 => some (x108, M106)) else (some (v2, M)))) else (some (v2, M)))
def f_X4_official_39 : Nat → Nat → Int32 → Int32 → Int32 → Mm → Option (Int32 × Mm)
  | 0, _, _, _, _, _ => none
  | n + 1, v0, v1, v2, v3, M => if (4 : Int32) ≤ v3 then (ob (mR M 0 v0 5) fun i86 => ix (52 : Int32) 53 (if (mI M 15 i86 ((52 : Int32)).toNatClampNeg) = 0 then (some (v2, M)) else (if v1 = (mI M 0 v0 17) then (f_X4_official_88 v0 v2 M) else (if v1 = (mI M 0 v0 18) then (f_X4_official_88 v0 v2 M) else (some (v2, M)))))) else (ob (f_X4_settles v0 (((4 : Int32) * v1) + v3) M) fun (r112, M113) => lt (v2 + r112) fun x115 => lt (v3 + (1 : Int32)) fun x117 => f_X4_official_39 n v0 v1 x115 x117 M113)
def f_X4_official (v0 : Nat) (v1 : Int32) (M0 : Mm) : Option (Int32 × Mm) :=
  ob (f_X4_isRace v0 v1 M0) fun r61 => if r61 = 0 then (some ((-1 : Int32), M0)) else (ob (mR M0 0 v0 1) fun i66 => ix v1 13 (if (mI M0 11 i66 (v1).toNatClampNeg) = (1 : Int32) then (ob (f_X4_isRight v0 v1 M0) fun r72 => if r72 = 0 then (some ((-1 : Int32), M0)) else (ob (mR M0 0 v0 1) fun i77 => ix v1 13 (lt (sI M0 11 i77 (v1).toNatClampNeg (2 : Int32)) fun M81 => f_X4_official_39 FU v0 v1 (0 : Int32) (0 : Int32) M81))) else (some ((-1 : Int32), M0))))
set_option maxRecDepth 100000 in
set_option maxHeartbeats 4000000 in
theorem t_X4_official_88 {p : Program} {l : Launch} {e : Env} {s : State} {m : MethodId} {args : Array Value} {below : List Frame} {meth : Method} {c : Code} {D : va_G} {cy : Nat → ClassId} {ad : Nat → Nat → Nat} {M0 : Mm} {r0 : Int32} {M' : Mm} (C : Cx RX4 cX4_official 4 (some .int) D cy (AA ad M0 s.heap.size) p s m args meth c) : ∀ (v0 : Nat) (v2 : Int32) (M : Mm) (H : Heap) (locs : List Loc) (ls : Array Slot), (mA M 0 v0 = true) → Keep M0 M → f_X4_official_88 v0 v2 M = some (r0, M') → HP D cy (AA ad M0 s.heap.size) ad M H → va_S (AA ad M0 s.heap.size) s.heap H locs → lv_has ls 4 [(0, .ref (ad 0 v0)), (2, .int v2)] → W p l e { frames := 6, cells := 0, slots := 0, locals := 139 } s m args below meth c H locs 0 0 (MQ below (QI D cy ad M0 s.heap.size r0 M') args s 0 0 (AA ad M0 s.heap.size)) (F0 m 88 ls []) := by
  obtain ⟨hx, hb, hr, hml, hown, hts, hlocks, hK, hN, hA⟩ := id C
  intro v0 v2 M H locs ls a0 hk hf hP hS hl
  unfold f_X4_official_88 at hf
  refine lv_aload_n hx hb dX4_official_88 rfl (lv_at hl 0 rfl) ?_
  have h92 : ∀ j : Nat, (mR M 0 v0 1) = some j → mA M 11 j = true := fun j hj => hp_wf hP a0 hj
  refine gf0 (v := va_rf (((mR M 0 v0 1)).map (ad 11))) hx hb hts hown hK hP a0 1 (by decide) (hts _ q606) rfl rfl dX4_official_89 ?_
  refine lv_aload_n hx hb dX4_official_92 rfl (lv_at hl 0 rfl) ?_
  refine gf0 (v := .int (mI M 0 v0 17)) hx hb hts hown hK hP a0 17 (by decide) (hts _ q622) rfl rfl dX4_official_93 ?_
  obtain ⟨i93, e94, hf⟩ := ob_some hf
  have h95 : mA M 11 i93 = true := h92 i93 e94
  refine W_stk (st := [.int (mI M 0 v0 17), va_rf (((mR M 0 v0 1)).map (ad 11))]) (st' := [.int (mI M 0 v0 17), .ref (ad 11 i93)]) (by first | (rw [e94]; done) | (rw [e94]; rfl)) ?_
  obtain ⟨h96, hf⟩ := ix_some hf
  refine hp_iald hx hb hK hP h95 rfl h96 dX4_official_96 ?_
  refine lv_iconst (v := (2 : Int32)) hx hb dX4_official_97 (by decide) ?_
  refine lv_icmp_ne (tgt := 123) hx hb dX4_official_98 (by decide) (fun c97 => ?_) (fun c97 => ?_)
  · have hf := if_f hf c97
    refine lv_iload_n hx hb dX4_official_123 rfl (lv_at hl 1 rfl) ?_
    exact hp_iret hx hb hr hlocks (congrArg Prod.fst (Option.some.inj hf)) (congrArg Prod.snd (Option.some.inj hf)) hP hS hk dX4_official_124
  · have hf := if_t hf c97
    refine lv_aload_n hx hb dX4_official_101 rfl (lv_at hl 0 rfl) ?_
    have h98 : ∀ j : Nat, (mR M 0 v0 1) = some j → mA M 11 j = true := fun j hj => hp_wf hP a0 hj
    refine gf0 (v := va_rf (((mR M 0 v0 1)).map (ad 11))) hx hb hts hown hK hP a0 1 (by decide) (hts _ q606) rfl rfl dX4_official_102 ?_
    refine lv_aload_n hx hb dX4_official_105 rfl (lv_at hl 0 rfl) ?_
    refine gf0 (v := .int (mI M 0 v0 18)) hx hb hts hown hK hP a0 18 (by decide) (hts _ q623) rfl rfl dX4_official_106 ?_
    obtain ⟨i99, e100, hf⟩ := ob_some hf
    have h101 : mA M 11 i99 = true := h98 i99 e100
    refine W_stk (st := [.int (mI M 0 v0 18), va_rf (((mR M 0 v0 1)).map (ad 11))]) (st' := [.int (mI M 0 v0 18), .ref (ad 11 i99)]) (by first | (rw [e100]; done) | (rw [e100]; rfl)) ?_
    obtain ⟨h102, hf⟩ := ix_some hf
    refine hp_iald hx hb hK hP h101 rfl h102 dX4_official_109 ?_
    refine lv_iconst (v := (2 : Int32)) hx hb dX4_official_110 (by decide) ?_
    refine lv_icmp_ne (tgt := 123) hx hb dX4_official_111 (by decide) (fun c103 => ?_) (fun c103 => ?_)
    · have hf := if_f hf c103
      refine lv_iload_n hx hb dX4_official_123 rfl (lv_at hl 1 rfl) ?_
      exact hp_iret hx hb hr hlocks (congrArg Prod.fst (Option.some.inj hf)) (congrArg Prod.snd (Option.some.inj hf)) hP hS hk dX4_official_124
    · have hf := if_t hf c103
      refine lv_iload_n hx hb dX4_official_114 rfl (lv_at hl 1 rfl) ?_
      refine lv_aload_n hx hb dX4_official_115 rfl (lv_at hl 0 rfl) ?_
      refine lv_bipush (v := (52 : Int32)) hx hb dX4_official_116 (by decide) ?_
      obtain ⟨⟨r105, M106⟩, e104, hf⟩ := ob_some hf
      refine hp_calli (va_runV (As := [.int (52 : Int32)]) (rest := [.int v2]) ⟨hx, hb, hml, hown, hts⟩ (ok_X4_settles l D cy ad M _ v0 (52 : Int32) r105 M106 a0 e104) (cwV 1 hts (gdV q812 q814 q67 q86 q815) rfl rfl rfl (by decide +kernel) ⟨Nat.le_of_ble_eq_true rfl, Nat.le_of_ble_eq_true rfl⟩) (pre_V hP hK hN a0 ds_0 rfl) rfl rfl hl.1 rfl (lv_room (Nat.le_of_ble_eq_true rfl)) dX4_official_118 ⟨Nat.le_of_ble_eq_true rfl, Nat.le_of_ble_eq_true rfl⟩) hP hS hA (fun H locs hP hS hk107 => ?_)
      refine lv_iadd hx hb dX4_official_121 ?_
      obtain ⟨x108, e109, hf⟩ := lt_some hf
      refine W_topI e109 ?_
      refine lv_istore_n (lv' := [(2, .int x108), (0, .ref (ad 0 v0))]) hx hb dX4_official_122 rfl hl (by decide) rfl (fun ls hl => ?_)
      refine lv_iload_n hx hb dX4_official_123 rfl (lv_at hl 0 rfl) ?_
      exact hp_iret hx hb hr hlocks (congrArg Prod.fst (Option.some.inj hf)) (congrArg Prod.snd (Option.some.inj hf)) hP hS (kt hk hk107) dX4_official_124
set_option maxRecDepth 100000 in
set_option maxHeartbeats 4000000 in
theorem t_X4_official_39 {p : Program} {l : Launch} {e : Env} {s : State} {m : MethodId} {args : Array Value} {below : List Frame} {meth : Method} {c : Code} {D : va_G} {cy : Nat → ClassId} {ad : Nat → Nat → Nat} {M0 : Mm} {r0 : Int32} {M' : Mm} (C : Cx RX4 cX4_official 4 (some .int) D cy (AA ad M0 s.heap.size) p s m args meth c) : ∀ (n : Nat), ∀ (v0 : Nat) (v1 : Int32) (v2 : Int32) (v3 : Int32) (M : Mm) (H : Heap) (locs : List Loc) (ls : Array Slot), (mA M 0 v0 = true) → Keep M0 M → f_X4_official_39 n v0 v1 v2 v3 M = some (r0, M') → HP D cy (AA ad M0 s.heap.size) ad M H → va_S (AA ad M0 s.heap.size) s.heap H locs → lv_has ls 4 [(0, .ref (ad 0 v0)), (1, .int v1), (2, .int v2), (3, .int v3)] → W p l e { frames := 6, cells := 0, slots := 0, locals := 139 } s m args below meth c H locs 0 0 (MQ below (QI D cy ad M0 s.heap.size r0 M') args s 0 0 (AA ad M0 s.heap.size)) (F0 m 39 ls []) := by
  obtain ⟨hx, hb, hr, hml, hown, hts, hlocks, hK, hN, hA⟩ := id C
  intro n
  induction n with
  | zero =>
    intro v0 v1 v2 v3 M H locs ls a0 hk hf hP hS hl
    simp [f_X4_official_39] at hf
  | succ n ih =>
    intro v0 v1 v2 v3 M H locs ls a0 hk hf hP hS hl
    rw [f_X4_official_39] at hf
    refine lv_iload_n hx hb dX4_official_39 rfl (lv_at hl 3 rfl) ?_
    refine lv_iconst (v := (4 : Int32)) hx hb dX4_official_40 (by decide) ?_
    refine lv_icmp_ge (tgt := 62) hx hb dX4_official_41 (by decide) (fun c84 => ?_) (fun c84 => ?_)
    · have hf := if_t hf c84
      refine lv_aload_n hx hb dX4_official_62 rfl (lv_at hl 0 rfl) ?_
      have h85 : ∀ j : Nat, (mR M 0 v0 5) = some j → mA M 15 j = true := fun j hj => hp_wf hP a0 hj
      refine gf0 (v := va_rf (((mR M 0 v0 5)).map (ad 15))) hx hb hts hown hK hP a0 5 (by decide) (hts _ q610) rfl rfl dX4_official_63 ?_
      refine lv_bipush (v := (52 : Int32)) hx hb dX4_official_66 (by decide) ?_
      obtain ⟨i86, e87, hf⟩ := ob_some hf
      have h88 : mA M 15 i86 = true := h85 i86 e87
      refine W_stk (st := [.int (52 : Int32), va_rf (((mR M 0 v0 5)).map (ad 15))]) (st' := [.int (52 : Int32), .ref (ad 15 i86)]) (by first | (rw [e87]; done) | (rw [e87]; rfl)) ?_
      obtain ⟨h89, hf⟩ := ix_some hf
      refine hp_zald hx hb hK hP h88 rfl h89 dX4_official_68 ?_
      refine lv_if_eq (tgt := 123) hx hb dX4_official_69 (by decide) (fun c90 => ?_) (fun c90 => ?_)
      · have hf := if_t hf c90
        refine lv_iload_n hx hb dX4_official_123 rfl (lv_at hl 2 rfl) ?_
        exact hp_iret hx hb hr hlocks (congrArg Prod.fst (Option.some.inj hf)) (congrArg Prod.snd (Option.some.inj hf)) hP hS hk dX4_official_124
      · have hf := if_f hf c90
        refine lv_iload_n hx hb dX4_official_72 rfl (lv_at hl 1 rfl) ?_
        refine lv_aload_n hx hb dX4_official_73 rfl (lv_at hl 0 rfl) ?_
        refine gf0 (v := .int (mI M 0 v0 17)) hx hb hts hown hK hP a0 17 (by decide) (hts _ q622) rfl rfl dX4_official_74 ?_
        refine lv_icmp_eq (tgt := 88) hx hb dX4_official_77 (by decide) (fun c91 => ?_) (fun c91 => ?_)
        · have hf := if_t hf c91
          exact t_X4_official_88 C v0 v2 M _ _ _ a0 hk hf hP hS (lv_sub hl [0, 2] rfl)
        · have hf := if_f hf c91
          refine lv_iload_n hx hb dX4_official_80 rfl (lv_at hl 1 rfl) ?_
          refine lv_aload_n hx hb dX4_official_81 rfl (lv_at hl 0 rfl) ?_
          refine gf0 (v := .int (mI M 0 v0 18)) hx hb hts hown hK hP a0 18 (by decide) (hts _ q623) rfl rfl dX4_official_82 ?_
          refine lv_icmp_ne (tgt := 123) hx hb dX4_official_85 (by decide) (fun c110 => ?_) (fun c110 => ?_)
          · have hf := if_f hf c110
            refine lv_iload_n hx hb dX4_official_123 rfl (lv_at hl 2 rfl) ?_
            exact hp_iret hx hb hr hlocks (congrArg Prod.fst (Option.some.inj hf)) (congrArg Prod.snd (Option.some.inj hf)) hP hS hk dX4_official_124
          · have hf := if_t hf c110
            exact t_X4_official_88 C v0 v2 M _ _ _ a0 hk hf hP hS (lv_sub hl [0, 2] rfl)
    · have hf := if_f hf c84
      refine lv_iload_n hx hb dX4_official_44 rfl (lv_at hl 2 rfl) ?_
      refine lv_aload_n hx hb dX4_official_45 rfl (lv_at hl 0 rfl) ?_
      refine lv_iconst (v := (4 : Int32)) hx hb dX4_official_46 (by decide) ?_
      refine lv_iload_n hx hb dX4_official_47 rfl (lv_at hl 1 rfl) ?_
      refine lv_imul hx hb dX4_official_48 ?_
      refine lv_iload_n hx hb dX4_official_49 rfl (lv_at hl 3 rfl) ?_
      refine lv_iadd hx hb dX4_official_50 ?_
      obtain ⟨⟨r112, M113⟩, e111, hf⟩ := ob_some hf
      refine hp_calli (va_runV (As := [.int (((4 : Int32) * v1) + v3)]) (rest := [.int v2]) ⟨hx, hb, hml, hown, hts⟩ (ok_X4_settles l D cy ad M _ v0 (((4 : Int32) * v1) + v3) r112 M113 a0 e111) (cwV 1 hts (gdV q812 q814 q67 q86 q815) rfl rfl rfl (by decide +kernel) ⟨Nat.le_of_ble_eq_true rfl, Nat.le_of_ble_eq_true rfl⟩) (pre_V hP hK hN a0 ds_0 rfl) rfl rfl hl.1 rfl (lv_room (Nat.le_of_ble_eq_true rfl)) dX4_official_51 ⟨Nat.le_of_ble_eq_true rfl, Nat.le_of_ble_eq_true rfl⟩) hP hS hA (fun H locs hP hS hk114 => ?_)
      refine lv_iadd hx hb dX4_official_54 ?_
      obtain ⟨x115, e116, hf⟩ := lt_some hf
      refine W_topI e116 ?_
      refine lv_istore_n (lv' := [(2, .int x115), (0, .ref (ad 0 v0)), (1, .int v1), (3, .int v3)]) hx hb dX4_official_55 rfl hl (by decide) rfl (fun ls hl => ?_)
      obtain ⟨x117, e118, hf⟩ := lt_some hf
      refine lv_iinc (v := x117) (lv' := [(3, .int x117), (2, .int x115), (0, .ref (ad 0 v0)), (1, .int v1)]) hx hb dX4_official_56 hl (k := 3) rfl (by rw [e118]; rfl) (by decide) rfl (fun ls hl => ?_)
      refine lv_goto (tgt := 39) hx hb dX4_official_59 (by decide) ?_
      exact ih v0 v1 x115 x117 M113 _ _ _ (hk114 _ _ a0) (kt hk hk114) hf hP hS (lv_sub hl [2, 3, 1, 0] rfl)
set_option maxRecDepth 100000 in
set_option maxHeartbeats 4000000 in
theorem ok_X4_official (l : Launch) (D : va_G) (cy : Nat → ClassId) (ad : Nat → Nat → Nat) (M0 : Mm) (sz : Nat) (v0 : Nat) (v1 : Int32) (r0 : Int32) (M' : Mm) (a0 : mA M0 0 v0 = true) (hf : f_X4_official v0 v1 M0 = some (r0, M')) : Met l yX4_official (Cond.code yX4_official cX4_official 4 (some .int) :: BW) { frames := 6, cells := 0, slots := 0, locals := 139 } (va_Pc [.ref (ad 0 v0), .int v1] (PRE D cy ad M0 sz)) (QI D cy ad M0 sz r0 M') 0 0 (AA ad M0 sz) := by
  refine Met.ofW (cc := cX4_official) (maxL := 4) (ret := (some .int)) (by decide) rfl ?_
  intro p e s m args below meth c s₁ B hml hv
  obtain ⟨rfl, rfl, hP0, hK, hN⟩ := hv
  have hx := B.exec
  have hb := B.bytes
  have hr := B.returns
  have hts0 := atoms_spec (ws := (Cond.code yX4_official cX4_official 4 (some .int) :: BW)) B.pre
  have hts : ∀ w ∈ BW, w.before ([.ref (ad 0 v0), .int v1] : List Value).toArray s = true := fun w h => hts0 w (List.mem_cons_of_mem _ h)
  have hown : s.vm.findClass RX4 = some m.cls := findClass_of_methodNamed B.named
  have hlocks := B.notSynchronized
  have hA : ∀ q : Nat, s.heap.size ≤ q → AA ad M0 s.heap.size q := fun q h => Or.inr h
  have C : Cx RX4 cX4_official 4 (some .int) D cy (AA ad M0 s.heap.size) p s m ([.ref (ad 0 v0), .int v1] : List Value).toArray meth c := ⟨hx, hb, hr, hml, hown, hts, hlocks, hK, hN, hA⟩
  have hP := hp_self (sz := s.heap.size) hP0
  have hS : va_S (AA ad M0 s.heap.size) s.heap s.heap [] := va_S.rf
  have hl := lv_entry ([.ref (ad 0 v0), .int v1]) (n := 4) (Nat.le_of_ble_eq_true rfl)
  rw [lg_entry_eq]
  generalize (lg_sl ([.ref (ad 0 v0), .int v1]) ++ List.replicate (4 - (lg_sl ([.ref (ad 0 v0), .int v1])).length) Slot.unset).toArray = ls at hl ⊢
  have hl : lv_has ls 4 [(0, .ref (ad 0 v0)), (1, .int v1)] := hl
  unfold f_X4_official at hf
  refine lv_aload_n hx hb dX4_official_0 rfl (lv_at hl 0 rfl) ?_
  refine lv_iload_n hx hb dX4_official_1 rfl (lv_at hl 1 rfl) ?_
  obtain ⟨r61, e60, hf⟩ := ob_some hf
  refine hp_calli (va_runV (As := [.int v1]) (rest := []) ⟨hx, hb, hml, hown, hts⟩ (ok_X4_isRace l D cy ad M0 _ v0 v1 r61 a0 e60) (cwV 1 hts (gdV q715 q717 q53 q86 q718) rfl rfl rfl (by decide +kernel) ⟨Nat.le_of_ble_eq_true rfl, Nat.le_of_ble_eq_true rfl⟩) (pre_V hP hK hN a0 ds_0 rfl) rfl rfl hl.1 rfl (lv_room (Nat.le_of_ble_eq_true rfl)) dX4_official_2 ⟨Nat.le_of_ble_eq_true rfl, Nat.le_of_ble_eq_true rfl⟩) hP hS hA (fun H locs hP hS _ => ?_)
  refine lv_if_eq (tgt := 26) hx hb dX4_official_5 (by decide) (fun c64 => ?_) (fun c64 => ?_)
  · have hf := if_t hf c64
    refine lv_iconst (v := (-1 : Int32)) hx hb dX4_official_26 (by decide) ?_
    exact hp_iret hx hb hr hlocks (congrArg Prod.fst (Option.some.inj hf)) (congrArg Prod.snd (Option.some.inj hf)) hP hS keep_rf dX4_official_27
  · have hf := if_f hf c64
    refine lv_aload_n hx hb dX4_official_8 rfl (lv_at hl 0 rfl) ?_
    have h65 : ∀ j : Nat, (mR M0 0 v0 1) = some j → mA M0 11 j = true := fun j hj => hp_wf hP a0 hj
    refine gf0 (v := va_rf (((mR M0 0 v0 1)).map (ad 11))) hx hb hts hown hK hP a0 1 (by decide) (hts _ q606) rfl rfl dX4_official_9 ?_
    refine lv_iload_n hx hb dX4_official_12 rfl (lv_at hl 1 rfl) ?_
    obtain ⟨i66, e67, hf⟩ := ob_some hf
    have h68 : mA M0 11 i66 = true := h65 i66 e67
    refine W_stk (st := [.int v1, va_rf (((mR M0 0 v0 1)).map (ad 11))]) (st' := [.int v1, .ref (ad 11 i66)]) (by first | (rw [e67]; done) | (rw [e67]; rfl)) ?_
    obtain ⟨h69, hf⟩ := ix_some hf
    refine hp_iald hx hb hK hP h68 rfl h69 dX4_official_13 ?_
    refine lv_iconst (v := (1 : Int32)) hx hb dX4_official_14 (by decide) ?_
    refine lv_icmp_ne (tgt := 26) hx hb dX4_official_15 (by decide) (fun c70 => ?_) (fun c70 => ?_)
    · have hf := if_f hf c70
      refine lv_iconst (v := (-1 : Int32)) hx hb dX4_official_26 (by decide) ?_
      exact hp_iret hx hb hr hlocks (congrArg Prod.fst (Option.some.inj hf)) (congrArg Prod.snd (Option.some.inj hf)) hP hS keep_rf dX4_official_27
    · have hf := if_t hf c70
      refine lv_aload_n hx hb dX4_official_18 rfl (lv_at hl 0 rfl) ?_
      refine lv_iload_n hx hb dX4_official_19 rfl (lv_at hl 1 rfl) ?_
      obtain ⟨r72, e71, hf⟩ := ob_some hf
      refine hp_calli (va_runV (As := [.int v1]) (rest := []) ⟨hx, hb, hml, hown, hts⟩ (ok_X4_isRight l D cy ad M0 _ v0 v1 r72 a0 e71) (cwV 1 hts (gdV q800 q802 q64 q86 q803) rfl rfl rfl (by decide +kernel) ⟨Nat.le_of_ble_eq_true rfl, Nat.le_of_ble_eq_true rfl⟩) (pre_V hP hK hN a0 ds_0 rfl) rfl rfl hl.1 rfl (lv_room (Nat.le_of_ble_eq_true rfl)) dX4_official_20 ⟨Nat.le_of_ble_eq_true rfl, Nat.le_of_ble_eq_true rfl⟩) hP hS hA (fun H locs hP hS _ => ?_)
      refine lv_if_ne (tgt := 28) hx hb dX4_official_23 (by decide) (fun c75 => ?_) (fun c75 => ?_)
      · have hf := if_f hf c75
        refine lv_aload_n hx hb dX4_official_28 rfl (lv_at hl 0 rfl) ?_
        have h76 : ∀ j : Nat, (mR M0 0 v0 1) = some j → mA M0 11 j = true := fun j hj => hp_wf hP a0 hj
        refine gf0 (v := va_rf (((mR M0 0 v0 1)).map (ad 11))) hx hb hts hown hK hP a0 1 (by decide) (hts _ q606) rfl rfl dX4_official_29 ?_
        refine lv_iload_n hx hb dX4_official_32 rfl (lv_at hl 1 rfl) ?_
        refine lv_iconst (v := (2 : Int32)) hx hb dX4_official_33 (by decide) ?_
        obtain ⟨i77, e78, hf⟩ := ob_some hf
        have h79 : mA M0 11 i77 = true := h76 i77 e78
        refine W_stk (st := [.int (2 : Int32), .int v1, va_rf (((mR M0 0 v0 1)).map (ad 11))]) (st' := [.int (2 : Int32), .int v1, .ref (ad 11 i77)]) (by first | (rw [e78]; done) | (rw [e78]; rfl)) ?_
        obtain ⟨h80, hf⟩ := ix_some hf
        obtain ⟨M81, e82, hf⟩ := lt_some hf
        have hk83 : Keep M0 M81 := keI e82
        refine hp_iast hx hb hK hP hS h79 rfl h80 dX4_official_34 (fun H locs hP hS => ?_)
        rw [← e82] at hP
        refine lv_iconst (v := (0 : Int32)) hx hb dX4_official_35 (by decide) ?_
        refine lv_istore_n (lv' := [(2, .int (0 : Int32)), (0, .ref (ad 0 v0)), (1, .int v1)]) hx hb dX4_official_36 rfl hl (by decide) rfl (fun ls hl => ?_)
        refine lv_iconst (v := (0 : Int32)) hx hb dX4_official_37 (by decide) ?_
        refine lv_istore_n (lv' := [(3, .int (0 : Int32)), (2, .int (0 : Int32)), (0, .ref (ad 0 v0)), (1, .int v1)]) hx hb dX4_official_38 rfl hl (by decide) rfl (fun ls hl => ?_)
        exact t_X4_official_39 C FU v0 v1 (0 : Int32) (0 : Int32) M81 _ _ _ (hk83 _ _ a0) (kt keep_rf hk83) hf hP hS (lv_sub hl [2, 3, 1, 0] rfl)
      · have hf := if_t hf c75
        refine lv_iconst (v := (-1 : Int32)) hx hb dX4_official_26 (by decide) ?_
        exact hp_iret hx hb hr hlocks (congrArg Prod.fst (Option.some.inj hf)) (congrArg Prod.snd (Option.some.inj hf)) hP hS keep_rf dX4_official_27
def f_X4_supposes_126 : Nat → Nat → Int32 → Int32 → Int32 → Mm → Option Mm
  | 0, _, _, _, _, _ => none
  | n + 1, v0, v2, v3, v4, M => if v3 ≤ v4 then (some M) else (ob (mR M 0 v0 27) fun i92 => ix v4 3 (ob (mR M 0 v0 4) fun i96 => ix (((25 : Int32) * v2) + (mI M 32 i92 (v4).toNatClampNeg)) 325 (lt (sI M 14 i96 ((((25 : Int32) * v2) + (mI M 32 i92 (v4).toNatClampNeg))).toNatClampNeg (v4 + (1 : Int32))) fun M100 => lt (v4 + (1 : Int32)) fun x103 => f_X4_supposes_126 n v0 v2 v3 x103 M100)))
def f_X4_supposes_17 (k2 : Nat → Int32 → Int32 → Mm → Option Mm) : Nat → Nat → Int32 → Int32 → Int32 → Int32 → Mm → Option Mm
  | 0, _, _, _, _, _, _ => none
  | n + 1, v0, v1, v2, v3, v4, M => ob (mR M 0 v0 0) fun i140 => ix v3 13 (if (mI M 10 i140 (v3).toNatClampNeg) < v4 then (lt (v2 + (1 : Int32)) fun x145 => k2 v0 v1 x145 M) else (ob (mR M 0 v0 4) fun i148 => ix (((25 : Int32) * v3) + v4) 325 (lt (sI M 14 i148 ((((25 : Int32) * v3) + v4)).toNatClampNeg (0 : Int32)) fun M152 => lt (v4 + (1 : Int32)) fun x155 => f_X4_supposes_17 k2 n v0 v1 v2 v3 x155 M152)))
def f_X4_supposes_2 : Nat → Nat → Int32 → Int32 → Mm → Option Mm
  | 0, _, _, _, _ => none
  | n + 1, v0, v1, v2, M => if (2 : Int32) ≤ v2 then (if v1 = (52 : Int32) then (ob (mR M 0 v0 27) fun i111 => ix (0 : Int32) 3 (ob (mR M 0 v0 4) fun i115 => ix (((25 : Int32) * (mI M 0 v0 17)) + (mI M 32 i111 ((0 : Int32)).toNatClampNeg)) 325 (lt (sI M 14 i115 ((((25 : Int32) * (mI M 0 v0 17)) + (mI M 32 i111 ((0 : Int32)).toNatClampNeg))).toNatClampNeg (1 : Int32)) fun M119 => ob (mR M119 0 v0 27) fun i124 => ix (1 : Int32) 3 (ob (mR M119 0 v0 4) fun i128 => ix (((25 : Int32) * (mI M119 0 v0 18)) + (mI M119 32 i124 ((1 : Int32)).toNatClampNeg)) 325 (lt (sI M119 14 i128 ((((25 : Int32) * (mI M119 0 v0 18)) + (mI M119 32 i124 ((1 : Int32)).toNatClampNeg))).toNatClampNeg (1 : Int32)) fun M132 => some M132))))) else (dv (4 : Int32) (lt (v1 / (4 : Int32)) fun x82 => ob (f_X4_running v0 x82 M) fun r85 => if (3 : Int32) ≤ r85 then (f_X4_supposes_126 FU v0 x82 (3 : Int32) (0 : Int32) M) else (ob (f_X4_running v0 x82 M) fun r106 => f_X4_supposes_126 FU v0 x82 r106 (0 : Int32) M)))) else (ob (f_X4_raceOf v0 v1 v2 M) fun r136 => f_X4_supposes_17 (f_X4_supposes_2 n) FU v0 v1 v2 r136 (1 : Int32) M)
def f_X4_supposes (v0 : Nat) (v1 : Int32) (M0 : Mm) : Option Mm :=
  f_X4_supposes_2 FU v0 v1 (0 : Int32) M0
set_option maxRecDepth 100000 in
set_option maxHeartbeats 4000000 in
theorem t_X4_supposes_126 {p : Program} {l : Launch} {e : Env} {s : State} {m : MethodId} {args : Array Value} {below : List Frame} {meth : Method} {c : Code} {D : va_G} {cy : Nat → ClassId} {ad : Nat → Nat → Nat} {M0 : Mm} {M' : Mm} (C : Cx RX4 cX4_supposes 5 none D cy (AA ad M0 s.heap.size) p s m args meth c) : ∀ (n : Nat), ∀ (v0 : Nat) (v2 : Int32) (v3 : Int32) (v4 : Int32) (M : Mm) (H : Heap) (locs : List Loc) (ls : Array Slot), (mA M 0 v0 = true) → Keep M0 M → f_X4_supposes_126 n v0 v2 v3 v4 M = some M' → HP D cy (AA ad M0 s.heap.size) ad M H → va_S (AA ad M0 s.heap.size) s.heap H locs → lv_has ls 5 [(0, .ref (ad 0 v0)), (2, .int v2), (3, .int v3), (4, .int v4)] → W p l e { frames := 1, cells := 0, slots := 0, locals := 23 } s m args below meth c H locs 0 0 (MQ below (QV D cy ad M0 s.heap.size M') args s 0 0 (AA ad M0 s.heap.size)) (F0 m 126 ls []) := by
  obtain ⟨hx, hb, hr, hml, hown, hts, hlocks, hK, hN, hA⟩ := id C
  intro n
  induction n with
  | zero =>
    intro v0 v2 v3 v4 M H locs ls a0 hk hf hP hS hl
    simp [f_X4_supposes_126] at hf
  | succ n ih =>
    intro v0 v2 v3 v4 M H locs ls a0 hk hf hP hS hl
    rw [f_X4_supposes_126] at hf
    refine lv_iload hx hb dX4_supposes_126 (lv_at hl 3 rfl) ?_
    refine lv_iload_n hx hb dX4_supposes_128 rfl (lv_at hl 2 rfl) ?_
    refine lv_icmp_ge (tgt := 159) hx hb dX4_supposes_129 (by decide) (fun c89 => ?_) (fun c89 => ?_)
    · have hf := if_t hf c89
      exact hp_vret hx hb hr hlocks (Option.some.inj hf) hP hS hk dX4_supposes_159
    · have hf := if_f hf c89
      refine lv_aload_n hx hb dX4_supposes_132 rfl (lv_at hl 0 rfl) ?_
      have h90 : ∀ j : Nat, (mR M 0 v0 4) = some j → mA M 14 j = true := fun j hj => hp_wf hP a0 hj
      refine gf0 (v := va_rf (((mR M 0 v0 4)).map (ad 14))) hx hb hts hown hK hP a0 4 (by decide) (hts _ q609) rfl rfl dX4_supposes_133 ?_
      refine lv_bipush (v := (25 : Int32)) hx hb dX4_supposes_136 (by decide) ?_
      refine lv_iload_n hx hb dX4_supposes_138 rfl (lv_at hl 1 rfl) ?_
      refine lv_imul hx hb dX4_supposes_139 ?_
      refine lv_aload_n hx hb dX4_supposes_140 rfl (lv_at hl 0 rfl) ?_
      have h91 : ∀ j : Nat, (mR M 0 v0 27) = some j → mA M 32 j = true := fun j hj => hp_wf hP a0 hj
      refine gf0 (v := va_rf (((mR M 0 v0 27)).map (ad 32))) hx hb hts hown hK hP a0 27 (by decide) (hts _ q632) rfl rfl dX4_supposes_141 ?_
      refine lv_iload hx hb dX4_supposes_144 (lv_at hl 3 rfl) ?_
      obtain ⟨i92, e93, hf⟩ := ob_some hf
      have h94 : mA M 32 i92 = true := h91 i92 e93
      refine W_stk (st := [.int v4, va_rf (((mR M 0 v0 27)).map (ad 32)), .int ((25 : Int32) * v2), va_rf (((mR M 0 v0 4)).map (ad 14))]) (st' := [.int v4, .ref (ad 32 i92), .int ((25 : Int32) * v2), va_rf (((mR M 0 v0 4)).map (ad 14))]) (by first | (rw [e93]; done) | (rw [e93]; rfl)) ?_
      obtain ⟨h95, hf⟩ := ix_some hf
      refine hp_iald hx hb hK hP h94 rfl h95 dX4_supposes_146 ?_
      refine lv_iadd hx hb dX4_supposes_147 ?_
      refine lv_iload hx hb dX4_supposes_148 (lv_at hl 3 rfl) ?_
      refine lv_iconst (v := (1 : Int32)) hx hb dX4_supposes_150 (by decide) ?_
      refine lv_iadd hx hb dX4_supposes_151 ?_
      obtain ⟨i96, e97, hf⟩ := ob_some hf
      have h98 : mA M 14 i96 = true := h90 i96 e97
      refine W_stk (st := [.int (v4 + (1 : Int32)), .int (((25 : Int32) * v2) + (mI M 32 i92 (v4).toNatClampNeg)), va_rf (((mR M 0 v0 4)).map (ad 14))]) (st' := [.int (v4 + (1 : Int32)), .int (((25 : Int32) * v2) + (mI M 32 i92 (v4).toNatClampNeg)), .ref (ad 14 i96)]) (by first | (rw [e97]; done) | (rw [e97]; rfl)) ?_
      obtain ⟨h99, hf⟩ := ix_some hf
      obtain ⟨M100, e101, hf⟩ := lt_some hf
      have hk102 : Keep M M100 := keI e101
      refine hp_iast hx hb hK hP hS h98 rfl h99 dX4_supposes_152 (fun H locs hP hS => ?_)
      rw [← e101] at hP
      obtain ⟨x103, e104, hf⟩ := lt_some hf
      refine lv_iinc (v := x103) (lv' := [(4, .int x103), (0, .ref (ad 0 v0)), (2, .int v2), (3, .int v3)]) hx hb dX4_supposes_153 hl (k := 3) rfl (by rw [e104]; rfl) (by decide) rfl (fun ls hl => ?_)
      refine lv_goto (tgt := 126) hx hb dX4_supposes_156 (by decide) ?_
      exact ih v0 v2 v3 x103 M100 _ _ _ (hk102 _ _ a0) (kt hk hk102) hf hP hS (lv_sub hl [1, 2, 3, 0] rfl)
set_option maxRecDepth 100000 in
set_option maxHeartbeats 4000000 in
theorem t_X4_supposes_17 {p : Program} {l : Launch} {e : Env} {s : State} {m : MethodId} {args : Array Value} {below : List Frame} {meth : Method} {c : Code} {D : va_G} {cy : Nat → ClassId} {ad : Nat → Nat → Nat} {M0 : Mm} {M' : Mm} (C : Cx RX4 cX4_supposes 5 none D cy (AA ad M0 s.heap.size) p s m args meth c) (k2 : Nat → Int32 → Int32 → Mm → Option Mm) (hk2 : ∀ (v0 : Nat) (v1 : Int32) (v2 : Int32) (M : Mm) (H : Heap) (locs : List Loc) (ls : Array Slot), (mA M 0 v0 = true) → Keep M0 M → k2 v0 v1 v2 M = some M' → HP D cy (AA ad M0 s.heap.size) ad M H → va_S (AA ad M0 s.heap.size) s.heap H locs → lv_has ls 5 [(0, .ref (ad 0 v0)), (1, .int v1), (2, .int v2)] → W p l e { frames := 1, cells := 0, slots := 0, locals := 23 } s m args below meth c H locs 0 0 (MQ below (QV D cy ad M0 s.heap.size M') args s 0 0 (AA ad M0 s.heap.size)) (F0 m 2 ls [])) : ∀ (n : Nat), ∀ (v0 : Nat) (v1 : Int32) (v2 : Int32) (v3 : Int32) (v4 : Int32) (M : Mm) (H : Heap) (locs : List Loc) (ls : Array Slot), (mA M 0 v0 = true) → Keep M0 M → f_X4_supposes_17 k2 n v0 v1 v2 v3 v4 M = some M' → HP D cy (AA ad M0 s.heap.size) ad M H → va_S (AA ad M0 s.heap.size) s.heap H locs → lv_has ls 5 [(0, .ref (ad 0 v0)), (1, .int v1), (2, .int v2), (3, .int v3), (4, .int v4)] → W p l e { frames := 1, cells := 0, slots := 0, locals := 23 } s m args below meth c H locs 0 0 (MQ below (QV D cy ad M0 s.heap.size M') args s 0 0 (AA ad M0 s.heap.size)) (F0 m 17 ls []) := by
  obtain ⟨hx, hb, hr, hml, hown, hts, hlocks, hK, hN, hA⟩ := id C
  intro n
  induction n with
  | zero =>
    intro v0 v1 v2 v3 v4 M H locs ls a0 hk hf hP hS hl
    simp [f_X4_supposes_17] at hf
  | succ n ih =>
    intro v0 v1 v2 v3 v4 M H locs ls a0 hk hf hP hS hl
    rw [f_X4_supposes_17] at hf
    refine lv_iload hx hb dX4_supposes_17 (lv_at hl 4 rfl) ?_
    refine lv_aload_n hx hb dX4_supposes_19 rfl (lv_at hl 0 rfl) ?_
    have h139 : ∀ j : Nat, (mR M 0 v0 0) = some j → mA M 10 j = true := fun j hj => hp_wf hP a0 hj
    refine gf0 (v := va_rf (((mR M 0 v0 0)).map (ad 10))) hx hb hts hown hK hP a0 0 (by decide) (hts _ q605) rfl rfl dX4_supposes_20 ?_
    refine lv_iload_n hx hb dX4_supposes_23 rfl (lv_at hl 3 rfl) ?_
    obtain ⟨i140, e141, hf⟩ := ob_some hf
    have h142 : mA M 10 i140 = true := h139 i140 e141
    refine W_stk (st := [.int v3, va_rf (((mR M 0 v0 0)).map (ad 10)), .int v4]) (st' := [.int v3, .ref (ad 10 i140), .int v4]) (by first | (rw [e141]; done) | (rw [e141]; rfl)) ?_
    obtain ⟨h143, hf⟩ := ix_some hf
    refine hp_iald hx hb hK hP h142 rfl h143 dX4_supposes_24 ?_
    refine lv_icmp_gt (tgt := 47) hx hb dX4_supposes_25 (by decide) (fun c144 => ?_) (fun c144 => ?_)
    · have hf := if_t hf c144
      obtain ⟨x145, e146, hf⟩ := lt_some hf
      refine lv_iinc (v := x145) (lv' := [(2, .int x145), (0, .ref (ad 0 v0)), (1, .int v1), (3, .int v3), (4, .int v4)]) hx hb dX4_supposes_47 hl (k := 2) rfl (by rw [e146]; rfl) (by decide) rfl (fun ls hl => ?_)
      refine lv_goto (tgt := 2) hx hb dX4_supposes_50 (by decide) ?_
      exact hk2 v0 v1 x145 M _ _ _ a0 hk hf hP hS (lv_sub hl [1, 2, 0] rfl)
    · have hf := if_f hf c144
      refine lv_aload_n hx hb dX4_supposes_28 rfl (lv_at hl 0 rfl) ?_
      have h147 : ∀ j : Nat, (mR M 0 v0 4) = some j → mA M 14 j = true := fun j hj => hp_wf hP a0 hj
      refine gf0 (v := va_rf (((mR M 0 v0 4)).map (ad 14))) hx hb hts hown hK hP a0 4 (by decide) (hts _ q609) rfl rfl dX4_supposes_29 ?_
      refine lv_bipush (v := (25 : Int32)) hx hb dX4_supposes_32 (by decide) ?_
      refine lv_iload_n hx hb dX4_supposes_34 rfl (lv_at hl 3 rfl) ?_
      refine lv_imul hx hb dX4_supposes_35 ?_
      refine lv_iload hx hb dX4_supposes_36 (lv_at hl 4 rfl) ?_
      refine lv_iadd hx hb dX4_supposes_38 ?_
      refine lv_iconst (v := (0 : Int32)) hx hb dX4_supposes_39 (by decide) ?_
      obtain ⟨i148, e149, hf⟩ := ob_some hf
      have h150 : mA M 14 i148 = true := h147 i148 e149
      refine W_stk (st := [.int (0 : Int32), .int (((25 : Int32) * v3) + v4), va_rf (((mR M 0 v0 4)).map (ad 14))]) (st' := [.int (0 : Int32), .int (((25 : Int32) * v3) + v4), .ref (ad 14 i148)]) (by first | (rw [e149]; done) | (rw [e149]; rfl)) ?_
      obtain ⟨h151, hf⟩ := ix_some hf
      obtain ⟨M152, e153, hf⟩ := lt_some hf
      have hk154 : Keep M M152 := keI e153
      refine hp_iast hx hb hK hP hS h150 rfl h151 dX4_supposes_40 (fun H locs hP hS => ?_)
      rw [← e153] at hP
      obtain ⟨x155, e156, hf⟩ := lt_some hf
      refine lv_iinc (v := x155) (lv' := [(4, .int x155), (0, .ref (ad 0 v0)), (1, .int v1), (2, .int v2), (3, .int v3)]) hx hb dX4_supposes_41 hl (k := 4) rfl (by rw [e156]; rfl) (by decide) rfl (fun ls hl => ?_)
      refine lv_goto (tgt := 17) hx hb dX4_supposes_44 (by decide) ?_
      exact ih v0 v1 v2 v3 x155 M152 _ _ _ (hk154 _ _ a0) (kt hk hk154) hf hP hS (lv_sub hl [1, 2, 3, 4, 0] rfl)
set_option maxRecDepth 100000 in
set_option maxHeartbeats 4000000 in
theorem t_X4_supposes_2 {p : Program} {l : Launch} {e : Env} {s : State} {m : MethodId} {args : Array Value} {below : List Frame} {meth : Method} {c : Code} {D : va_G} {cy : Nat → ClassId} {ad : Nat → Nat → Nat} {M0 : Mm} {M' : Mm} (C : Cx RX4 cX4_supposes 5 none D cy (AA ad M0 s.heap.size) p s m args meth c) : ∀ (n : Nat), ∀ (v0 : Nat) (v1 : Int32) (v2 : Int32) (M : Mm) (H : Heap) (locs : List Loc) (ls : Array Slot), (mA M 0 v0 = true) → Keep M0 M → f_X4_supposes_2 n v0 v1 v2 M = some M' → HP D cy (AA ad M0 s.heap.size) ad M H → va_S (AA ad M0 s.heap.size) s.heap H locs → lv_has ls 5 [(0, .ref (ad 0 v0)), (1, .int v1), (2, .int v2)] → W p l e { frames := 1, cells := 0, slots := 0, locals := 23 } s m args below meth c H locs 0 0 (MQ below (QV D cy ad M0 s.heap.size M') args s 0 0 (AA ad M0 s.heap.size)) (F0 m 2 ls []) := by
  obtain ⟨hx, hb, hr, hml, hown, hts, hlocks, hK, hN, hA⟩ := id C
  intro n
  induction n with
  | zero =>
    intro v0 v1 v2 M H locs ls a0 hk hf hP hS hl
    simp [f_X4_supposes_2] at hf
  | succ n ih =>
    intro v0 v1 v2 M H locs ls a0 hk hf hP hS hl
    rw [f_X4_supposes_2] at hf
    refine lv_iload_n hx hb dX4_supposes_2 rfl (lv_at hl 2 rfl) ?_
    refine lv_iconst (v := (2 : Int32)) hx hb dX4_supposes_3 (by decide) ?_
    refine lv_icmp_ge (tgt := 53) hx hb dX4_supposes_4 (by decide) (fun c79 => ?_) (fun c79 => ?_)
    · have hf := if_t hf c79
      refine lv_iload_n hx hb dX4_supposes_53 rfl (lv_at hl 1 rfl) ?_
      refine lv_bipush (v := (52 : Int32)) hx hb dX4_supposes_54 (by decide) ?_
      refine lv_icmp_ne (tgt := 100) hx hb dX4_supposes_56 (by decide) (fun c80 => ?_) (fun c80 => ?_)
      · have hf := if_f hf c80
        refine lv_iload_n hx hb dX4_supposes_100 rfl (lv_at hl 1 rfl) ?_
        refine lv_iconst (v := (4 : Int32)) hx hb dX4_supposes_101 (by decide) ?_
        obtain ⟨h81, hf⟩ := dv_some hf
        refine lv_idiv hx hb dX4_supposes_102 h81 ?_
        obtain ⟨x82, e83, hf⟩ := lt_some hf
        refine W_topI e83 ?_
        refine lv_istore_n (lv' := [(2, .int x82), (0, .ref (ad 0 v0)), (1, .int v1)]) hx hb dX4_supposes_103 rfl hl (by decide) rfl (fun ls hl => ?_)
        refine lv_aload_n hx hb dX4_supposes_104 rfl (lv_at hl 1 rfl) ?_
        refine lv_iload_n hx hb dX4_supposes_105 rfl (lv_at hl 0 rfl) ?_
        obtain ⟨r85, e84, hf⟩ := ob_some hf
        refine hp_calli (va_runV (As := [.int x82]) (rest := []) ⟨hx, hb, hml, hown, hts⟩ (ok_X4_running l D cy ad M _ v0 x82 r85 a0 e84) (cwV 1 hts (gdV q808 q810 q66 q86 q811) rfl rfl rfl (by decide +kernel) ⟨Nat.le_of_ble_eq_true rfl, Nat.le_of_ble_eq_true rfl⟩) (pre_V hP hK hN a0 ds_0 rfl) rfl rfl hl.1 rfl (lv_room (Nat.le_of_ble_eq_true rfl)) dX4_supposes_106 ⟨Nat.le_of_ble_eq_true rfl, Nat.le_of_ble_eq_true rfl⟩) hP hS hA (fun H locs hP hS _ => ?_)
        refine lv_iconst (v := (3 : Int32)) hx hb dX4_supposes_109 (by decide) ?_
        refine lv_icmp_ge (tgt := 121) hx hb dX4_supposes_110 (by decide) (fun c88 => ?_) (fun c88 => ?_)
        · have hf := if_t hf c88
          refine lv_iconst (v := (3 : Int32)) hx hb dX4_supposes_121 (by decide) ?_
          refine lv_istore_n (lv' := [(3, .int (3 : Int32)), (2, .int x82), (0, .ref (ad 0 v0)), (1, .int v1)]) hx hb dX4_supposes_122 rfl hl (by decide) rfl (fun ls hl => ?_)
          refine lv_iconst (v := (0 : Int32)) hx hb dX4_supposes_123 (by decide) ?_
          refine lv_istore (lv' := [(4, .int (0 : Int32)), (3, .int (3 : Int32)), (2, .int x82), (0, .ref (ad 0 v0)), (1, .int v1)]) hx hb dX4_supposes_124 hl (by decide) rfl (fun ls hl => ?_)
          exact t_X4_supposes_126 C FU v0 x82 (3 : Int32) (0 : Int32) M _ _ _ a0 hk hf hP hS (lv_sub hl [3, 2, 1, 0] rfl)
        · have hf := if_f hf c88
          refine lv_aload_n hx hb dX4_supposes_113 rfl (lv_at hl 1 rfl) ?_
          refine lv_iload_n hx hb dX4_supposes_114 rfl (lv_at hl 0 rfl) ?_
          obtain ⟨r106, e105, hf⟩ := ob_some hf
          refine hp_calli (va_runV (As := [.int x82]) (rest := []) ⟨hx, hb, hml, hown, hts⟩ (ok_X4_running l D cy ad M _ v0 x82 r106 a0 e105) (cwV 1 hts (gdV q808 q810 q66 q86 q811) rfl rfl rfl (by decide +kernel) ⟨Nat.le_of_ble_eq_true rfl, Nat.le_of_ble_eq_true rfl⟩) (pre_V hP hK hN a0 ds_0 rfl) rfl rfl hl.1 rfl (lv_room (Nat.le_of_ble_eq_true rfl)) dX4_supposes_115 ⟨Nat.le_of_ble_eq_true rfl, Nat.le_of_ble_eq_true rfl⟩) hP hS hA (fun H locs hP hS _ => ?_)
          refine lv_goto (tgt := 122) hx hb dX4_supposes_118 (by decide) ?_
          refine lv_istore_n (lv' := [(3, .int r106), (2, .int x82), (0, .ref (ad 0 v0)), (1, .int v1)]) hx hb dX4_supposes_122 rfl hl (by decide) rfl (fun ls hl => ?_)
          refine lv_iconst (v := (0 : Int32)) hx hb dX4_supposes_123 (by decide) ?_
          refine lv_istore (lv' := [(4, .int (0 : Int32)), (3, .int r106), (2, .int x82), (0, .ref (ad 0 v0)), (1, .int v1)]) hx hb dX4_supposes_124 hl (by decide) rfl (fun ls hl => ?_)
          exact t_X4_supposes_126 C FU v0 x82 r106 (0 : Int32) M _ _ _ a0 hk hf hP hS (lv_sub hl [3, 2, 1, 0] rfl)
      · have hf := if_t hf c80
        refine lv_aload_n hx hb dX4_supposes_59 rfl (lv_at hl 0 rfl) ?_
        have h109 : ∀ j : Nat, (mR M 0 v0 4) = some j → mA M 14 j = true := fun j hj => hp_wf hP a0 hj
        refine gf0 (v := va_rf (((mR M 0 v0 4)).map (ad 14))) hx hb hts hown hK hP a0 4 (by decide) (hts _ q609) rfl rfl dX4_supposes_60 ?_
        refine lv_bipush (v := (25 : Int32)) hx hb dX4_supposes_63 (by decide) ?_
        refine lv_aload_n hx hb dX4_supposes_65 rfl (lv_at hl 0 rfl) ?_
        refine gf0 (v := .int (mI M 0 v0 17)) hx hb hts hown hK hP a0 17 (by decide) (hts _ q622) rfl rfl dX4_supposes_66 ?_
        refine lv_imul hx hb dX4_supposes_69 ?_
        refine lv_aload_n hx hb dX4_supposes_70 rfl (lv_at hl 0 rfl) ?_
        have h110 : ∀ j : Nat, (mR M 0 v0 27) = some j → mA M 32 j = true := fun j hj => hp_wf hP a0 hj
        refine gf0 (v := va_rf (((mR M 0 v0 27)).map (ad 32))) hx hb hts hown hK hP a0 27 (by decide) (hts _ q632) rfl rfl dX4_supposes_71 ?_
        refine lv_iconst (v := (0 : Int32)) hx hb dX4_supposes_74 (by decide) ?_
        obtain ⟨i111, e112, hf⟩ := ob_some hf
        have h113 : mA M 32 i111 = true := h110 i111 e112
        refine W_stk (st := [.int (0 : Int32), va_rf (((mR M 0 v0 27)).map (ad 32)), .int ((25 : Int32) * (mI M 0 v0 17)), va_rf (((mR M 0 v0 4)).map (ad 14))]) (st' := [.int (0 : Int32), .ref (ad 32 i111), .int ((25 : Int32) * (mI M 0 v0 17)), va_rf (((mR M 0 v0 4)).map (ad 14))]) (by first | (rw [e112]; done) | (rw [e112]; rfl)) ?_
        obtain ⟨h114, hf⟩ := ix_some hf
        refine hp_iald hx hb hK hP h113 rfl h114 dX4_supposes_75 ?_
        refine lv_iadd hx hb dX4_supposes_76 ?_
        refine lv_iconst (v := (1 : Int32)) hx hb dX4_supposes_77 (by decide) ?_
        obtain ⟨i115, e116, hf⟩ := ob_some hf
        have h117 : mA M 14 i115 = true := h109 i115 e116
        refine W_stk (st := [.int (1 : Int32), .int (((25 : Int32) * (mI M 0 v0 17)) + (mI M 32 i111 ((0 : Int32)).toNatClampNeg)), va_rf (((mR M 0 v0 4)).map (ad 14))]) (st' := [.int (1 : Int32), .int (((25 : Int32) * (mI M 0 v0 17)) + (mI M 32 i111 ((0 : Int32)).toNatClampNeg)), .ref (ad 14 i115)]) (by first | (rw [e116]; done) | (rw [e116]; rfl)) ?_
        obtain ⟨h118, hf⟩ := ix_some hf
        obtain ⟨M119, e120, hf⟩ := lt_some hf
        have hk121 : Keep M M119 := keI e120
        refine hp_iast hx hb hK hP hS h117 rfl h118 dX4_supposes_78 (fun H locs hP hS => ?_)
        rw [← e120] at hP
        refine lv_aload_n hx hb dX4_supposes_79 rfl (lv_at hl 0 rfl) ?_
        have h122 : ∀ j : Nat, (mR M119 0 v0 4) = some j → mA M119 14 j = true := fun j hj => hp_wf hP (hk121 _ _ a0) hj
        refine gf0 (v := va_rf (((mR M119 0 v0 4)).map (ad 14))) hx hb hts hown hK hP (hk121 _ _ a0) 4 (by decide) (hts _ q609) rfl rfl dX4_supposes_80 ?_
        refine lv_bipush (v := (25 : Int32)) hx hb dX4_supposes_83 (by decide) ?_
        refine lv_aload_n hx hb dX4_supposes_85 rfl (lv_at hl 0 rfl) ?_
        refine gf0 (v := .int (mI M119 0 v0 18)) hx hb hts hown hK hP (hk121 _ _ a0) 18 (by decide) (hts _ q623) rfl rfl dX4_supposes_86 ?_
        refine lv_imul hx hb dX4_supposes_89 ?_
        refine lv_aload_n hx hb dX4_supposes_90 rfl (lv_at hl 0 rfl) ?_
        have h123 : ∀ j : Nat, (mR M119 0 v0 27) = some j → mA M119 32 j = true := fun j hj => hp_wf hP (hk121 _ _ a0) hj
        refine gf0 (v := va_rf (((mR M119 0 v0 27)).map (ad 32))) hx hb hts hown hK hP (hk121 _ _ a0) 27 (by decide) (hts _ q632) rfl rfl dX4_supposes_91 ?_
        refine lv_iconst (v := (1 : Int32)) hx hb dX4_supposes_94 (by decide) ?_
        obtain ⟨i124, e125, hf⟩ := ob_some hf
        have h126 : mA M119 32 i124 = true := h123 i124 e125
        refine W_stk (st := [.int (1 : Int32), va_rf (((mR M119 0 v0 27)).map (ad 32)), .int ((25 : Int32) * (mI M119 0 v0 18)), va_rf (((mR M119 0 v0 4)).map (ad 14))]) (st' := [.int (1 : Int32), .ref (ad 32 i124), .int ((25 : Int32) * (mI M119 0 v0 18)), va_rf (((mR M119 0 v0 4)).map (ad 14))]) (by first | (rw [e125]; done) | (rw [e125]; rfl)) ?_
        obtain ⟨h127, hf⟩ := ix_some hf
        refine hp_iald hx hb hK hP h126 rfl h127 dX4_supposes_95 ?_
        refine lv_iadd hx hb dX4_supposes_96 ?_
        refine lv_iconst (v := (1 : Int32)) hx hb dX4_supposes_97 (by decide) ?_
        obtain ⟨i128, e129, hf⟩ := ob_some hf
        have h130 : mA M119 14 i128 = true := h122 i128 e129
        refine W_stk (st := [.int (1 : Int32), .int (((25 : Int32) * (mI M119 0 v0 18)) + (mI M119 32 i124 ((1 : Int32)).toNatClampNeg)), va_rf (((mR M119 0 v0 4)).map (ad 14))]) (st' := [.int (1 : Int32), .int (((25 : Int32) * (mI M119 0 v0 18)) + (mI M119 32 i124 ((1 : Int32)).toNatClampNeg)), .ref (ad 14 i128)]) (by first | (rw [e129]; done) | (rw [e129]; rfl)) ?_
        obtain ⟨h131, hf⟩ := ix_some hf
        obtain ⟨M132, e133, hf⟩ := lt_some hf
        have hk134 : Keep M119 M132 := keI e133
        refine hp_iast hx hb hK hP hS h130 rfl h131 dX4_supposes_98 (fun H locs hP hS => ?_)
        rw [← e133] at hP
        exact hp_vret hx hb hr hlocks (Option.some.inj hf) hP hS (kt (kt hk hk121) hk134) dX4_supposes_99
    · have hf := if_f hf c79
      refine lv_aload_n hx hb dX4_supposes_7 rfl (lv_at hl 0 rfl) ?_
      refine lv_iload_n hx hb dX4_supposes_8 rfl (lv_at hl 1 rfl) ?_
      refine lv_iload_n hx hb dX4_supposes_9 rfl (lv_at hl 2 rfl) ?_
      obtain ⟨r136, e135, hf⟩ := ob_some hf
      refine hp_calli (va_runV (As := [.int v1, .int v2]) (rest := []) ⟨hx, hb, hml, hown, hts⟩ (ok_X4_raceOf l D cy ad M _ v0 v1 v2 r136 a0 e135) (cwV 2 hts (gdV q754 q756 q59 q86 q757) rfl rfl rfl (by decide +kernel) ⟨Nat.le_of_ble_eq_true rfl, Nat.le_of_ble_eq_true rfl⟩) (pre_V hP hK hN a0 ds_0 rfl) rfl rfl hl.1 rfl (lv_room (Nat.le_of_ble_eq_true rfl)) dX4_supposes_10 ⟨Nat.le_of_ble_eq_true rfl, Nat.le_of_ble_eq_true rfl⟩) hP hS hA (fun H locs hP hS _ => ?_)
      refine lv_istore_n (lv' := [(3, .int r136), (0, .ref (ad 0 v0)), (1, .int v1), (2, .int v2)]) hx hb dX4_supposes_13 rfl hl (by decide) rfl (fun ls hl => ?_)
      refine lv_iconst (v := (1 : Int32)) hx hb dX4_supposes_14 (by decide) ?_
      refine lv_istore (lv' := [(4, .int (1 : Int32)), (3, .int r136), (0, .ref (ad 0 v0)), (1, .int v1), (2, .int v2)]) hx hb dX4_supposes_15 hl (by decide) rfl (fun ls hl => ?_)
      exact t_X4_supposes_17 C (f_X4_supposes_2 n) ih FU v0 v1 v2 r136 (1 : Int32) M _ _ _ a0 hk hf hP hS (lv_sub hl [2, 3, 4, 1, 0] rfl)
set_option maxRecDepth 100000 in
set_option maxHeartbeats 4000000 in
theorem ok_X4_supposes (l : Launch) (D : va_G) (cy : Nat → ClassId) (ad : Nat → Nat → Nat) (M0 : Mm) (sz : Nat) (v0 : Nat) (v1 : Int32) (M' : Mm) (a0 : mA M0 0 v0 = true) (hf : f_X4_supposes v0 v1 M0 = some M') : Met l yX4_supposes (Cond.code yX4_supposes cX4_supposes 5 none :: BW) { frames := 1, cells := 0, slots := 0, locals := 23 } (va_Pc [.ref (ad 0 v0), .int v1] (PRE D cy ad M0 sz)) (QV D cy ad M0 sz M') 0 0 (AA ad M0 sz) := by
  refine Met.ofW (cc := cX4_supposes) (maxL := 5) (ret := none) (by decide) rfl ?_
  intro p e s m args below meth c s₁ B hml hv
  obtain ⟨rfl, rfl, hP0, hK, hN⟩ := hv
  have hx := B.exec
  have hb := B.bytes
  have hr := B.returns
  have hts0 := atoms_spec (ws := (Cond.code yX4_supposes cX4_supposes 5 none :: BW)) B.pre
  have hts : ∀ w ∈ BW, w.before ([.ref (ad 0 v0), .int v1] : List Value).toArray s = true := fun w h => hts0 w (List.mem_cons_of_mem _ h)
  have hown : s.vm.findClass RX4 = some m.cls := findClass_of_methodNamed B.named
  have hlocks := B.notSynchronized
  have hA : ∀ q : Nat, s.heap.size ≤ q → AA ad M0 s.heap.size q := fun q h => Or.inr h
  have C : Cx RX4 cX4_supposes 5 none D cy (AA ad M0 s.heap.size) p s m ([.ref (ad 0 v0), .int v1] : List Value).toArray meth c := ⟨hx, hb, hr, hml, hown, hts, hlocks, hK, hN, hA⟩
  have hP := hp_self (sz := s.heap.size) hP0
  have hS : va_S (AA ad M0 s.heap.size) s.heap s.heap [] := va_S.rf
  have hl := lv_entry ([.ref (ad 0 v0), .int v1]) (n := 5) (Nat.le_of_ble_eq_true rfl)
  rw [lg_entry_eq]
  generalize (lg_sl ([.ref (ad 0 v0), .int v1]) ++ List.replicate (5 - (lg_sl ([.ref (ad 0 v0), .int v1])).length) Slot.unset).toArray = ls at hl ⊢
  have hl : lv_has ls 5 [(0, .ref (ad 0 v0)), (1, .int v1)] := hl
  unfold f_X4_supposes at hf
  refine lv_iconst (v := (0 : Int32)) hx hb dX4_supposes_0 (by decide) ?_
  refine lv_istore_n (lv' := [(2, .int (0 : Int32)), (0, .ref (ad 0 v0)), (1, .int v1)]) hx hb dX4_supposes_1 rfl hl (by decide) rfl (fun ls hl => ?_)
  exact t_X4_supposes_2 C FU v0 v1 (0 : Int32) M0 _ _ _ a0 keep_rf hf hP hS (lv_sub hl [1, 2, 0] rfl)

def f_X4_fits (v0 : Nat) (v1 : Int32) (M0 : Mm) : Option Int32 :=
  ob (f_X4_named v0 v1 M0) fun r7 => if r7 = 0 then (some (1 : Int32)) else (some (0 : Int32))
set_option maxRecDepth 100000 in
set_option maxHeartbeats 4000000 in
theorem ok_X4_fits (l : Launch) (D : va_G) (cy : Nat → ClassId) (ad : Nat → Nat → Nat) (M0 : Mm) (sz : Nat) (v0 : Nat) (v1 : Int32) (r0 : Int32) (a0 : mA M0 0 v0 = true) (hf : f_X4_fits v0 v1 M0 = some r0) : Met l yX4_fits (Cond.code yX4_fits cX4_fits 2 (some .boolean) :: BW) { frames := 3, cells := 0, slots := 0, locals := 68 } (va_Pc [.ref (ad 0 v0), .int v1] (PRE D cy ad M0 sz)) (QI D cy ad M0 sz r0 M0) 0 0 (AA ad M0 sz) := by
  refine Met.ofW (cc := cX4_fits) (maxL := 2) (ret := (some .boolean)) (by decide) rfl ?_
  intro p e s m args below meth c s₁ B hml hv
  obtain ⟨rfl, rfl, hP0, hK, hN⟩ := hv
  have hx := B.exec
  have hb := B.bytes
  have hr := B.returns
  have hts0 := atoms_spec (ws := (Cond.code yX4_fits cX4_fits 2 (some .boolean) :: BW)) B.pre
  have hts : ∀ w ∈ BW, w.before ([.ref (ad 0 v0), .int v1] : List Value).toArray s = true := fun w h => hts0 w (List.mem_cons_of_mem _ h)
  have hown : s.vm.findClass RX4 = some m.cls := findClass_of_methodNamed B.named
  have hlocks := B.notSynchronized
  have hA : ∀ q : Nat, s.heap.size ≤ q → AA ad M0 s.heap.size q := fun q h => Or.inr h
  have C : Cx RX4 cX4_fits 2 (some .boolean) D cy (AA ad M0 s.heap.size) p s m ([.ref (ad 0 v0), .int v1] : List Value).toArray meth c := ⟨hx, hb, hr, hml, hown, hts, hlocks, hK, hN, hA⟩
  have hP := hp_self (sz := s.heap.size) hP0
  have hS : va_S (AA ad M0 s.heap.size) s.heap s.heap [] := va_S.rf
  have hl := lv_entry ([.ref (ad 0 v0), .int v1]) (n := 2) (Nat.le_of_ble_eq_true rfl)
  rw [lg_entry_eq]
  generalize (lg_sl ([.ref (ad 0 v0), .int v1]) ++ List.replicate (2 - (lg_sl ([.ref (ad 0 v0), .int v1])).length) Slot.unset).toArray = ls at hl ⊢
  have hl : lv_has ls 2 [(0, .ref (ad 0 v0)), (1, .int v1)] := hl
  unfold f_X4_fits at hf
  refine lv_aload_n hx hb dX4_fits_0 rfl (lv_at hl 0 rfl) ?_
  refine lv_iload_n hx hb dX4_fits_1 rfl (lv_at hl 1 rfl) ?_
  obtain ⟨r7, e6, hf⟩ := ob_some hf
  refine hp_calli (va_runV (As := [.int v1]) (rest := []) ⟨hx, hb, hml, hown, hts⟩ (ok_X4_named l D cy ad M0 _ v0 v1 r7 a0 e6) (cwV 1 hts (gdV q762 q764 q61 q86 q765) rfl rfl rfl (by decide +kernel) ⟨Nat.le_of_ble_eq_true rfl, Nat.le_of_ble_eq_true rfl⟩) (pre_V hP hK hN a0 ds_0 rfl) rfl rfl hl.1 rfl (lv_room (Nat.le_of_ble_eq_true rfl)) dX4_fits_2 ⟨Nat.le_of_ble_eq_true rfl, Nat.le_of_ble_eq_true rfl⟩) hP hS hA (fun H locs hP hS _ => ?_)
  refine lv_if_ne (tgt := 12) hx hb dX4_fits_5 (by decide) (fun c10 => ?_) (fun c10 => ?_)
  · have hf := if_f hf c10
    refine lv_iconst (v := (0 : Int32)) hx hb dX4_fits_12 (by decide) ?_
    exact hp_zret hx hb hr hlocks (Or.inl rfl) (Option.some.inj hf) rfl hP hS keep_rf dX4_fits_13
  · have hf := if_t hf c10
    refine lv_iconst (v := (1 : Int32)) hx hb dX4_fits_8 (by decide) ?_
    refine lv_goto (tgt := 13) hx hb dX4_fits_9 (by decide) ?_
    exact hp_zret hx hb hr hlocks (Or.inr rfl) (Option.some.inj hf) rfl hP hS keep_rf dX4_fits_13
def f_X4_odds_277 : Nat → Nat → Int64 → Int32 → Mm → Option (Int32 × Mm)
  | 0, _, _, _, _ => none
  | n + 1, v0, v7, v10, M => if (325 : Int32) ≤ v10 then (some (((v7).toInt32), M)) else (ob (mR M 0 v0 31) fun i169 => ix v10 325 (ob (mR M 0 v0 4) fun i173 => ix v10 325 (lt (sI M 14 i173 (v10).toNatClampNeg (mI M 33 i169 (v10).toNatClampNeg)) fun M177 => lt (v10 + (1 : Int32)) fun x180 => f_X4_odds_277 n v0 v7 x180 M177)))
def f_X4_odds_234 (v0 : Nat) (v3 : Int32) (v4 : Int32) (v5 : Int32) (v6 : Int32) (v7 : Int64) (w0 : Int32) (M : Mm) : Option (Int32 × Mm) :=
  if w0 ≤ 0 then (f_X4_odds_277 FU v0 v7 (0 : Int32) M) else (ob (f_X4_isVoid v0 v6 M) fun r183 => if r183 = 0 then (ob (f_X4_wins v0 v6 v3 v4 v5 M) fun r188 => if r188 = 0 then (f_X4_odds_277 FU v0 v7 (0 : Int32) M) else (ob (f_X4_dividendOf v0 v6 w0 M) fun r193 => f_X4_odds_277 FU v0 r193 (0 : Int32) M)) else (f_X4_odds_277 FU v0 v7 (0 : Int32) M))
def f_X4_odds_167 : Nat → Nat → Int32 → Int32 → Int32 → Int32 → Int32 → Mm → Option (Int32 × Mm)
  | 0, _, _, _, _, _, _, _ => none
  | n + 1, v0, v3, v4, v5, v6, v7, M => if (325 : Int32) ≤ v7 then (ob (f_X4_supposes v0 v6 M) fun M154 => ob (f_X4_reckons v0 v6 M154) fun M158 => ob (f_X4_fits v0 v6 M158) fun r161 => if r161 = 0 then (f_X4_odds_234 v0 v3 v4 v5 v6 (0 : Int64) (0 : Int32) M158) else (ob (f_X4_unitsOn v0 v6 v3 v4 v5 M158) fun r197 => f_X4_odds_234 v0 v3 v4 v5 v6 (0 : Int64) r197 M158)) else (ob (mR M 0 v0 4) fun i202 => ix v7 325 (ob (mR M 0 v0 31) fun i206 => ix v7 325 (lt (sI M 33 i206 (v7).toNatClampNeg (mI M 14 i202 (v7).toNatClampNeg)) fun M210 => lt (v7 + (1 : Int32)) fun x213 => f_X4_odds_167 n v0 v3 v4 v5 v6 x213 M210)))
def f_X4_odds_126 (k99 : Nat → Int32 → Int32 → Int32 → Int32 → Int32 → Int32 → Int32 → Mm → Option (Int32 × Mm)) : Nat → Nat → Int32 → Int32 → Int32 → Int32 → Int32 → Int32 → Int32 → Int32 → Mm → Option (Int32 × Mm)
  | 0, _, _, _, _, _, _, _, _, _, _ => none
  | n + 1, v0, v1, v3, v4, v5, v6, v7, v8, v9, M => if v8 ≤ v9 then (lt (v8 + (1 : Int32)) fun x226 => k99 v0 v1 v3 v4 v5 v6 v7 x226 M) else (ob (mR M 0 v0 27) fun i229 => ix v8 3 (ob (mR M 0 v0 27) fun i234 => ix v9 3 (if (mI M 32 i229 (v8).toNatClampNeg) = (mI M 32 i234 (v9).toNatClampNeg) then (some ((-1 : Int32), M)) else (lt (v9 + (1 : Int32)) fun x239 => f_X4_odds_126 k99 n v0 v1 v3 v4 v5 v6 v7 v8 x239 M))))
def f_X4_odds_99 : Nat → Nat → Int32 → Int32 → Int32 → Int32 → Int32 → Int32 → Int32 → Mm → Option (Int32 × Mm)
  | 0, _, _, _, _, _, _, _, _, _ => none
  | n + 1, v0, v1, v3, v4, v5, v6, v7, v8, M => if v7 ≤ v8 then (f_X4_odds_167 FU v0 v3 v4 v5 v6 (0 : Int32) M) else (ob (mR M 0 v0 27) fun i216 => ix v8 3 (ob (f_X4_runs v0 v1 (mI M 32 i216 (v8).toNatClampNeg) M) fun r221 => if r221 = 0 then (some ((-1 : Int32), M)) else (f_X4_odds_126 (f_X4_odds_99 n) FU v0 v1 v3 v4 v5 v6 v7 v8 (0 : Int32) M)))
def f_X4_odds_87 (v0 : Nat) (v1 : Int32) (v3 : Int32) (v4 : Int32) (v5 : Int32) (v6 : Int32) (w0 : Int32) (M : Mm) : Option (Int32 × Mm) :=
  if w0 = 0 then (some ((-1 : Int32), M)) else (f_X4_odds_99 FU v0 v1 v3 v4 v5 v6 w0 (0 : Int32) M)
def f_X4_odds (v0 : Nat) (v1 : Int32) (v2 : Int32) (v3 : Int32) (v4 : Int32) (v5 : Int32) (M0 : Mm) : Option (Int32 × Mm) :=
  ob (f_X4_poolOf v0 v1 v2 M0) fun r129 => if r129 = (-1 : Int32) then (some ((-1 : Int32), M0)) else (ob (mR M0 0 v0 8) fun i134 => ix r129 53 (if (mI M0 18 i134 (r129).toNatClampNeg) = 0 then (ob (f_X4_names v0 v3 v4 v5 M0) fun M141 => if r129 = (52 : Int32) then (ob (f_X4_runs v0 (mI M141 0 v0 17) v3 M141) fun r246 => if r246 = 0 then (some ((-1 : Int32), M141)) else (ob (f_X4_runs v0 (mI M141 0 v0 18) v4 M141) fun r251 => if r251 = 0 then (some ((-1 : Int32), M141)) else (f_X4_odds_167 FU v0 v3 v4 v5 r129 (0 : Int32) M141))) else (ob (f_X4_running v0 v1 M141) fun r145 => if (3 : Int32) ≤ r145 then (f_X4_odds_87 v0 v1 v3 v4 v5 r129 (3 : Int32) M141) else (ob (f_X4_running v0 v1 M141) fun r242 => f_X4_odds_87 v0 v1 v3 v4 v5 r129 r242 M141))) else (some ((-1 : Int32), M0))))
set_option maxRecDepth 100000 in
set_option maxHeartbeats 4000000 in
theorem t_X4_odds_277 {p : Program} {l : Launch} {e : Env} {s : State} {m : MethodId} {args : Array Value} {below : List Frame} {meth : Method} {c : Code} {D : va_G} {cy : Nat → ClassId} {ad : Nat → Nat → Nat} {M0 : Mm} {r0 : Int32} {M' : Mm} (C : Cx RX4 cX4_odds 11 (some .int) D cy (AA ad M0 s.heap.size) p s m args meth c) : ∀ (n : Nat), ∀ (v0 : Nat) (v7 : Int64) (v10 : Int32) (M : Mm) (H : Heap) (locs : List Loc) (ls : Array Slot), (mA M 0 v0 = true) → Keep M0 M → f_X4_odds_277 n v0 v7 v10 M = some (r0, M') → HP D cy (AA ad M0 s.heap.size) ad M H → va_S (AA ad M0 s.heap.size) s.heap H locs → lv_has ls 11 [(0, .ref (ad 0 v0)), (7, .long v7), (10, .int v10)] → W p l e { frames := 5, cells := 0, slots := 0, locals := 113 } s m args below meth c H locs 0 0 (MQ below (QI D cy ad M0 s.heap.size r0 M') args s 0 0 (AA ad M0 s.heap.size)) (F0 m 277 ls []) := by
  obtain ⟨hx, hb, hr, hml, hown, hts, hlocks, hK, hN, hA⟩ := id C
  intro n
  induction n with
  | zero =>
    intro v0 v7 v10 M H locs ls a0 hk hf hP hS hl
    simp [f_X4_odds_277] at hf
  | succ n ih =>
    intro v0 v7 v10 M H locs ls a0 hk hf hP hS hl
    rw [f_X4_odds_277] at hf
    refine lv_iload hx hb dX4_odds_277 (lv_at hl 2 rfl) ?_
    refine lv_sipush (v := (325 : Int32)) hx hb dX4_odds_279 (by decide) ?_
    refine lv_icmp_ge (tgt := 305) hx hb dX4_odds_282 (by decide) (fun c166 => ?_) (fun c166 => ?_)
    · have hf := if_t hf c166
      refine lv_lload hx hb dX4_odds_305 (lv_at hl 1 rfl) ?_
      refine lv_l2i hx hb dX4_odds_307 rfl ?_
      exact hp_iret hx hb hr hlocks (congrArg Prod.fst (Option.some.inj hf)) (congrArg Prod.snd (Option.some.inj hf)) hP hS hk dX4_odds_308
    · have hf := if_f hf c166
      refine lv_aload_n hx hb dX4_odds_285 rfl (lv_at hl 0 rfl) ?_
      have h167 : ∀ j : Nat, (mR M 0 v0 4) = some j → mA M 14 j = true := fun j hj => hp_wf hP a0 hj
      refine gf0 (v := va_rf (((mR M 0 v0 4)).map (ad 14))) hx hb hts hown hK hP a0 4 (by decide) (hts _ q609) rfl rfl dX4_odds_286 ?_
      refine lv_iload hx hb dX4_odds_289 (lv_at hl 2 rfl) ?_
      refine lv_aload_n hx hb dX4_odds_291 rfl (lv_at hl 0 rfl) ?_
      have h168 : ∀ j : Nat, (mR M 0 v0 31) = some j → mA M 33 j = true := fun j hj => hp_wf hP a0 hj
      refine gf0 (v := va_rf (((mR M 0 v0 31)).map (ad 33))) hx hb hts hown hK hP a0 31 (by decide) (hts _ q636) rfl rfl dX4_odds_292 ?_
      refine lv_iload hx hb dX4_odds_295 (lv_at hl 2 rfl) ?_
      obtain ⟨i169, e170, hf⟩ := ob_some hf
      have h171 : mA M 33 i169 = true := h168 i169 e170
      refine W_stk (st := [.int v10, va_rf (((mR M 0 v0 31)).map (ad 33)), .int v10, va_rf (((mR M 0 v0 4)).map (ad 14))]) (st' := [.int v10, .ref (ad 33 i169), .int v10, va_rf (((mR M 0 v0 4)).map (ad 14))]) (by first | (rw [e170]; done) | (rw [e170]; rfl)) ?_
      obtain ⟨h172, hf⟩ := ix_some hf
      refine hp_iald hx hb hK hP h171 rfl h172 dX4_odds_297 ?_
      obtain ⟨i173, e174, hf⟩ := ob_some hf
      have h175 : mA M 14 i173 = true := h167 i173 e174
      refine W_stk (st := [.int (mI M 33 i169 (v10).toNatClampNeg), .int v10, va_rf (((mR M 0 v0 4)).map (ad 14))]) (st' := [.int (mI M 33 i169 (v10).toNatClampNeg), .int v10, .ref (ad 14 i173)]) (by first | (rw [e174]; done) | (rw [e174]; rfl)) ?_
      obtain ⟨h176, hf⟩ := ix_some hf
      obtain ⟨M177, e178, hf⟩ := lt_some hf
      have hk179 : Keep M M177 := keI e178
      refine hp_iast hx hb hK hP hS h175 rfl h176 dX4_odds_298 (fun H locs hP hS => ?_)
      rw [← e178] at hP
      obtain ⟨x180, e181, hf⟩ := lt_some hf
      refine lv_iinc (v := x180) (lv' := [(10, .int x180), (0, .ref (ad 0 v0)), (7, .long v7)]) hx hb dX4_odds_299 hl (k := 2) rfl (by rw [e181]; rfl) (by decide) rfl (fun ls hl => ?_)
      refine lv_goto (tgt := 277) hx hb dX4_odds_302 (by decide) ?_
      exact ih v0 v7 x180 M177 _ _ _ (hk179 _ _ a0) (kt hk hk179) hf hP hS (lv_sub hl [1, 2, 0] rfl)
set_option maxRecDepth 100000 in
set_option maxHeartbeats 4000000 in
theorem t_X4_odds_234 {p : Program} {l : Launch} {e : Env} {s : State} {m : MethodId} {args : Array Value} {below : List Frame} {meth : Method} {c : Code} {D : va_G} {cy : Nat → ClassId} {ad : Nat → Nat → Nat} {M0 : Mm} {r0 : Int32} {M' : Mm} (C : Cx RX4 cX4_odds 11 (some .int) D cy (AA ad M0 s.heap.size) p s m args meth c) : ∀ (v0 : Nat) (v3 : Int32) (v4 : Int32) (v5 : Int32) (v6 : Int32) (v7 : Int64) (w0 : Int32) (M : Mm) (H : Heap) (locs : List Loc) (ls : Array Slot), (mA M 0 v0 = true) → Keep M0 M → f_X4_odds_234 v0 v3 v4 v5 v6 v7 w0 M = some (r0, M') → HP D cy (AA ad M0 s.heap.size) ad M H → va_S (AA ad M0 s.heap.size) s.heap H locs → lv_has ls 11 [(0, .ref (ad 0 v0)), (3, .int v3), (4, .int v4), (5, .int v5), (6, .int v6), (7, .long v7)] → W p l e { frames := 5, cells := 0, slots := 0, locals := 113 } s m args below meth c H locs 0 0 (MQ below (QI D cy ad M0 s.heap.size r0 M') args s 0 0 (AA ad M0 s.heap.size)) (F0 m 234 ls [.int w0]) := by
  obtain ⟨hx, hb, hr, hml, hown, hts, hlocks, hK, hN, hA⟩ := id C
  intro v0 v3 v4 v5 v6 v7 w0 M H locs ls a0 hk hf hP hS hl
  unfold f_X4_odds_234 at hf
  refine lv_istore (lv' := [(9, .int w0), (0, .ref (ad 0 v0)), (3, .int v3), (4, .int v4), (5, .int v5), (6, .int v6), (7, .long v7)]) hx hb dX4_odds_234 hl (by decide) rfl (fun ls hl => ?_)
  refine lv_iload hx hb dX4_odds_236 (lv_at hl 0 rfl) ?_
  refine lv_if_le (tgt := 274) hx hb dX4_odds_238 (by decide) (fun c165 => ?_) (fun c165 => ?_)
  · have hf := if_t hf c165
    refine lv_iconst (v := (0 : Int32)) hx hb dX4_odds_274 (by decide) ?_
    refine lv_istore (lv' := [(10, .int (0 : Int32)), (9, .int w0), (0, .ref (ad 0 v0)), (3, .int v3), (4, .int v4), (5, .int v5), (6, .int v6), (7, .long v7)]) hx hb dX4_odds_275 hl (by decide) rfl (fun ls hl => ?_)
    exact t_X4_odds_277 C FU v0 v7 (0 : Int32) M _ _ _ a0 hk hf hP hS (lv_sub hl [2, 7, 0] rfl)
  · have hf := if_f hf c165
    refine lv_aload_n hx hb dX4_odds_241 rfl (lv_at hl 1 rfl) ?_
    refine lv_iload hx hb dX4_odds_242 (lv_at hl 5 rfl) ?_
    obtain ⟨r183, e182, hf⟩ := ob_some hf
    refine hp_calli (va_runV (As := [.int v6]) (rest := []) ⟨hx, hb, hml, hown, hts⟩ (ok_X4_isVoid l D cy ad M _ v0 v6 r183 a0 e182) (cwV 1 hts (gdV q849 q851 q76 q86 q852) rfl rfl rfl (by decide +kernel) ⟨Nat.le_of_ble_eq_true rfl, Nat.le_of_ble_eq_true rfl⟩) (pre_V hP hK hN a0 ds_0 rfl) rfl rfl hl.1 rfl (lv_room (Nat.le_of_ble_eq_true rfl)) dX4_odds_244 ⟨Nat.le_of_ble_eq_true rfl, Nat.le_of_ble_eq_true rfl⟩) hP hS hA (fun H locs hP hS _ => ?_)
    refine lv_if_ne (tgt := 274) hx hb dX4_odds_247 (by decide) (fun c186 => ?_) (fun c186 => ?_)
    · have hf := if_f hf c186
      refine lv_iconst (v := (0 : Int32)) hx hb dX4_odds_274 (by decide) ?_
      refine lv_istore (lv' := [(10, .int (0 : Int32)), (9, .int w0), (0, .ref (ad 0 v0)), (3, .int v3), (4, .int v4), (5, .int v5), (6, .int v6), (7, .long v7)]) hx hb dX4_odds_275 hl (by decide) rfl (fun ls hl => ?_)
      exact t_X4_odds_277 C FU v0 v7 (0 : Int32) M _ _ _ a0 hk hf hP hS (lv_sub hl [2, 7, 0] rfl)
    · have hf := if_t hf c186
      refine lv_aload_n hx hb dX4_odds_250 rfl (lv_at hl 1 rfl) ?_
      refine lv_iload hx hb dX4_odds_251 (lv_at hl 5 rfl) ?_
      refine lv_iload_n hx hb dX4_odds_253 rfl (lv_at hl 2 rfl) ?_
      refine lv_iload hx hb dX4_odds_254 (lv_at hl 3 rfl) ?_
      refine lv_iload hx hb dX4_odds_256 (lv_at hl 4 rfl) ?_
      obtain ⟨r188, e187, hf⟩ := ob_some hf
      refine hp_calli (va_runV (As := [.int v6, .int v3, .int v4, .int v5]) (rest := []) ⟨hx, hb, hml, hown, hts⟩ (ok_X4_wins l D cy ad M _ v0 v6 v3 v4 v5 r188 a0 e187) (cwV 4 hts (gdV q828 q830 q71 q86 q831) rfl rfl rfl (by decide +kernel) ⟨Nat.le_of_ble_eq_true rfl, Nat.le_of_ble_eq_true rfl⟩) (pre_V hP hK hN a0 ds_0 rfl) rfl rfl hl.1 rfl (lv_room (Nat.le_of_ble_eq_true rfl)) dX4_odds_258 ⟨Nat.le_of_ble_eq_true rfl, Nat.le_of_ble_eq_true rfl⟩) hP hS hA (fun H locs hP hS _ => ?_)
      refine lv_if_eq (tgt := 274) hx hb dX4_odds_261 (by decide) (fun c191 => ?_) (fun c191 => ?_)
      · have hf := if_t hf c191
        refine lv_iconst (v := (0 : Int32)) hx hb dX4_odds_274 (by decide) ?_
        refine lv_istore (lv' := [(10, .int (0 : Int32)), (9, .int w0), (0, .ref (ad 0 v0)), (3, .int v3), (4, .int v4), (5, .int v5), (6, .int v6), (7, .long v7)]) hx hb dX4_odds_275 hl (by decide) rfl (fun ls hl => ?_)
        exact t_X4_odds_277 C FU v0 v7 (0 : Int32) M _ _ _ a0 hk hf hP hS (lv_sub hl [2, 7, 0] rfl)
      · have hf := if_f hf c191
        refine lv_aload_n hx hb dX4_odds_264 rfl (lv_at hl 1 rfl) ?_
        refine lv_iload hx hb dX4_odds_265 (lv_at hl 5 rfl) ?_
        refine lv_iload hx hb dX4_odds_267 (lv_at hl 0 rfl) ?_
        obtain ⟨r193, e192, hf⟩ := ob_some hf
        refine hp_calll (va_runV (As := [.int v6, .int w0]) (rest := []) ⟨hx, hb, hml, hown, hts⟩ (ok_X4_dividendOf l D cy ad M _ v0 v6 w0 r193 a0 e192) (cwV 2 hts (gdV q865 q867 q80 q86 q868) rfl rfl rfl (by decide +kernel) ⟨Nat.le_of_ble_eq_true rfl, Nat.le_of_ble_eq_true rfl⟩) (pre_V hP hK hN a0 ds_0 rfl) rfl rfl hl.1 rfl (lv_room (Nat.le_of_ble_eq_true rfl)) dX4_odds_269 ⟨Nat.le_of_ble_eq_true rfl, Nat.le_of_ble_eq_true rfl⟩) hP hS hA (fun H locs hP hS _ => ?_)
        refine lv_lstore (lv' := [(7, .long r193), (9, .int w0), (0, .ref (ad 0 v0)), (3, .int v3), (4, .int v4), (5, .int v5), (6, .int v6)]) hx hb dX4_odds_272 hl (by decide) rfl (fun ls hl => ?_)
        refine lv_iconst (v := (0 : Int32)) hx hb dX4_odds_274 (by decide) ?_
        refine lv_istore (lv' := [(10, .int (0 : Int32)), (7, .long r193), (9, .int w0), (0, .ref (ad 0 v0)), (3, .int v3), (4, .int v4), (5, .int v5), (6, .int v6)]) hx hb dX4_odds_275 hl (by decide) rfl (fun ls hl => ?_)
        exact t_X4_odds_277 C FU v0 r193 (0 : Int32) M _ _ _ a0 hk hf hP hS (lv_sub hl [3, 1, 0] rfl)
set_option maxRecDepth 100000 in
set_option maxHeartbeats 4000000 in
theorem t_X4_odds_167 {p : Program} {l : Launch} {e : Env} {s : State} {m : MethodId} {args : Array Value} {below : List Frame} {meth : Method} {c : Code} {D : va_G} {cy : Nat → ClassId} {ad : Nat → Nat → Nat} {M0 : Mm} {r0 : Int32} {M' : Mm} (C : Cx RX4 cX4_odds 11 (some .int) D cy (AA ad M0 s.heap.size) p s m args meth c) : ∀ (n : Nat), ∀ (v0 : Nat) (v3 : Int32) (v4 : Int32) (v5 : Int32) (v6 : Int32) (v7 : Int32) (M : Mm) (H : Heap) (locs : List Loc) (ls : Array Slot), (mA M 0 v0 = true) → Keep M0 M → f_X4_odds_167 n v0 v3 v4 v5 v6 v7 M = some (r0, M') → HP D cy (AA ad M0 s.heap.size) ad M H → va_S (AA ad M0 s.heap.size) s.heap H locs → lv_has ls 11 [(0, .ref (ad 0 v0)), (3, .int v3), (4, .int v4), (5, .int v5), (6, .int v6), (7, .int v7)] → W p l e { frames := 5, cells := 0, slots := 0, locals := 113 } s m args below meth c H locs 0 0 (MQ below (QI D cy ad M0 s.heap.size r0 M') args s 0 0 (AA ad M0 s.heap.size)) (F0 m 167 ls []) := by
  obtain ⟨hx, hb, hr, hml, hown, hts, hlocks, hK, hN, hA⟩ := id C
  intro n
  induction n with
  | zero =>
    intro v0 v3 v4 v5 v6 v7 M H locs ls a0 hk hf hP hS hl
    simp [f_X4_odds_167] at hf
  | succ n ih =>
    intro v0 v3 v4 v5 v6 v7 M H locs ls a0 hk hf hP hS hl
    rw [f_X4_odds_167] at hf
    refine lv_iload hx hb dX4_odds_167 (lv_at hl 5 rfl) ?_
    refine lv_sipush (v := (325 : Int32)) hx hb dX4_odds_169 (by decide) ?_
    refine lv_icmp_ge (tgt := 195) hx hb dX4_odds_172 (by decide) (fun c151 => ?_) (fun c151 => ?_)
    · have hf := if_t hf c151
      refine lv_aload_n hx hb dX4_odds_195 rfl (lv_at hl 0 rfl) ?_
      refine lv_iload hx hb dX4_odds_196 (lv_at hl 4 rfl) ?_
      obtain ⟨M154, e152, hf⟩ := ob_some hf
      refine hp_callv (va_runV (As := [.int v6]) (rest := []) ⟨hx, hb, hml, hown, hts⟩ (ok_X4_supposes l D cy ad M _ v0 v6 M154 a0 e152) (cwV 1 hts (gdV q874 q876 q81 q86 q877) rfl rfl rfl (by decide +kernel) ⟨Nat.le_of_ble_eq_true rfl, Nat.le_of_ble_eq_true rfl⟩) (pre_V hP hK hN a0 ds_0 rfl) rfl rfl hl.1 rfl (lv_room (Nat.le_of_ble_eq_true rfl)) dX4_odds_198 ⟨Nat.le_of_ble_eq_true rfl, Nat.le_of_ble_eq_true rfl⟩) hP hS hA (fun H locs hP hS hk155 => ?_)
      refine lv_aload_n hx hb dX4_odds_201 rfl (lv_at hl 0 rfl) ?_
      refine lv_iload hx hb dX4_odds_202 (lv_at hl 4 rfl) ?_
      obtain ⟨M158, e156, hf⟩ := ob_some hf
      refine hp_callv (va_runV (As := [.int v6]) (rest := []) ⟨hx, hb, hml, hown, hts⟩ (ok_X4_reckons l D cy ad M154 _ v0 v6 M158 (hk155 _ _ a0) e156) (cwV 1 hts (gdV q816 q818 q68 q86 q819) rfl rfl rfl (by decide +kernel) ⟨Nat.le_of_ble_eq_true rfl, Nat.le_of_ble_eq_true rfl⟩) (pre_V hP hK hN (hk155 _ _ a0) ds_0 rfl) rfl rfl hl.1 rfl (lv_room (Nat.le_of_ble_eq_true rfl)) dX4_odds_204 ⟨Nat.le_of_ble_eq_true rfl, Nat.le_of_ble_eq_true rfl⟩) hP hS hA (fun H locs hP hS hk159 => ?_)
      refine lv_lconst (v := (0 : Int64)) hx hb dX4_odds_207 (by decide) ?_
      refine lv_lstore (lv' := [(7, .long (0 : Int64)), (0, .ref (ad 0 v0)), (3, .int v3), (4, .int v4), (5, .int v5), (6, .int v6)]) hx hb dX4_odds_208 hl (by decide) rfl (fun ls hl => ?_)
      refine lv_aload_n hx hb dX4_odds_210 rfl (lv_at hl 1 rfl) ?_
      refine lv_iload hx hb dX4_odds_211 (lv_at hl 5 rfl) ?_
      obtain ⟨r161, e160, hf⟩ := ob_some hf
      refine hp_calli (va_runV (As := [.int v6]) (rest := []) ⟨hx, hb, hml, hown, hts⟩ (ok_X4_fits l D cy ad M158 _ v0 v6 r161 (hk159 _ _ (hk155 _ _ a0)) e160) (cwV 1 hts (gdV q878 q880 q82 q86 q881) rfl rfl rfl (by decide +kernel) ⟨Nat.le_of_ble_eq_true rfl, Nat.le_of_ble_eq_true rfl⟩) (pre_V hP hK hN (hk159 _ _ (hk155 _ _ a0)) ds_0 rfl) rfl rfl hl.1 rfl (lv_room (Nat.le_of_ble_eq_true rfl)) dX4_odds_213 ⟨Nat.le_of_ble_eq_true rfl, Nat.le_of_ble_eq_true rfl⟩) hP hS hA (fun H locs hP hS _ => ?_)
      refine lv_if_eq (tgt := 233) hx hb dX4_odds_216 (by decide) (fun c164 => ?_) (fun c164 => ?_)
      · have hf := if_t hf c164
        refine lv_iconst (v := (0 : Int32)) hx hb dX4_odds_233 (by decide) ?_
        exact t_X4_odds_234 C v0 v3 v4 v5 v6 (0 : Int64) (0 : Int32) M158 _ _ _ (hk159 _ _ (hk155 _ _ a0)) (kt (kt hk hk155) hk159) hf hP hS (lv_sub hl [1, 2, 3, 4, 5, 0] rfl)
      · have hf := if_f hf c164
        refine lv_aload_n hx hb dX4_odds_219 rfl (lv_at hl 1 rfl) ?_
        refine lv_iload hx hb dX4_odds_220 (lv_at hl 5 rfl) ?_
        refine lv_iload_n hx hb dX4_odds_222 rfl (lv_at hl 2 rfl) ?_
        refine lv_iload hx hb dX4_odds_223 (lv_at hl 3 rfl) ?_
        refine lv_iload hx hb dX4_odds_225 (lv_at hl 4 rfl) ?_
        obtain ⟨r197, e196, hf⟩ := ob_some hf
        refine hp_calli (va_runV (As := [.int v6, .int v3, .int v4, .int v5]) (rest := []) ⟨hx, hb, hml, hown, hts⟩ (ok_X4_unitsOn l D cy ad M158 _ v0 v6 v3 v4 v5 r197 (hk159 _ _ (hk155 _ _ a0)) e196) (cwV 4 hts (gdV q861 q863 q79 q86 q864) rfl rfl rfl (by decide +kernel) ⟨Nat.le_of_ble_eq_true rfl, Nat.le_of_ble_eq_true rfl⟩) (pre_V hP hK hN (hk159 _ _ (hk155 _ _ a0)) ds_0 rfl) rfl rfl hl.1 rfl (lv_room (Nat.le_of_ble_eq_true rfl)) dX4_odds_227 ⟨Nat.le_of_ble_eq_true rfl, Nat.le_of_ble_eq_true rfl⟩) hP hS hA (fun H locs hP hS _ => ?_)
        refine lv_goto (tgt := 234) hx hb dX4_odds_230 (by decide) ?_
        exact t_X4_odds_234 C v0 v3 v4 v5 v6 (0 : Int64) r197 M158 _ _ _ (hk159 _ _ (hk155 _ _ a0)) (kt (kt hk hk155) hk159) hf hP hS (lv_sub hl [1, 2, 3, 4, 5, 0] rfl)
    · have hf := if_f hf c151
      refine lv_aload_n hx hb dX4_odds_175 rfl (lv_at hl 0 rfl) ?_
      have h200 : ∀ j : Nat, (mR M 0 v0 31) = some j → mA M 33 j = true := fun j hj => hp_wf hP a0 hj
      refine gf0 (v := va_rf (((mR M 0 v0 31)).map (ad 33))) hx hb hts hown hK hP a0 31 (by decide) (hts _ q636) rfl rfl dX4_odds_176 ?_
      refine lv_iload hx hb dX4_odds_179 (lv_at hl 5 rfl) ?_
      refine lv_aload_n hx hb dX4_odds_181 rfl (lv_at hl 0 rfl) ?_
      have h201 : ∀ j : Nat, (mR M 0 v0 4) = some j → mA M 14 j = true := fun j hj => hp_wf hP a0 hj
      refine gf0 (v := va_rf (((mR M 0 v0 4)).map (ad 14))) hx hb hts hown hK hP a0 4 (by decide) (hts _ q609) rfl rfl dX4_odds_182 ?_
      refine lv_iload hx hb dX4_odds_185 (lv_at hl 5 rfl) ?_
      obtain ⟨i202, e203, hf⟩ := ob_some hf
      have h204 : mA M 14 i202 = true := h201 i202 e203
      refine W_stk (st := [.int v7, va_rf (((mR M 0 v0 4)).map (ad 14)), .int v7, va_rf (((mR M 0 v0 31)).map (ad 33))]) (st' := [.int v7, .ref (ad 14 i202), .int v7, va_rf (((mR M 0 v0 31)).map (ad 33))]) (by first | (rw [e203]; done) | (rw [e203]; rfl)) ?_
      obtain ⟨h205, hf⟩ := ix_some hf
      refine hp_iald hx hb hK hP h204 rfl h205 dX4_odds_187 ?_
      obtain ⟨i206, e207, hf⟩ := ob_some hf
      have h208 : mA M 33 i206 = true := h200 i206 e207
      refine W_stk (st := [.int (mI M 14 i202 (v7).toNatClampNeg), .int v7, va_rf (((mR M 0 v0 31)).map (ad 33))]) (st' := [.int (mI M 14 i202 (v7).toNatClampNeg), .int v7, .ref (ad 33 i206)]) (by first | (rw [e207]; done) | (rw [e207]; rfl)) ?_
      obtain ⟨h209, hf⟩ := ix_some hf
      obtain ⟨M210, e211, hf⟩ := lt_some hf
      have hk212 : Keep M M210 := keI e211
      refine hp_iast hx hb hK hP hS h208 rfl h209 dX4_odds_188 (fun H locs hP hS => ?_)
      rw [← e211] at hP
      obtain ⟨x213, e214, hf⟩ := lt_some hf
      refine lv_iinc (v := x213) (lv' := [(7, .int x213), (0, .ref (ad 0 v0)), (3, .int v3), (4, .int v4), (5, .int v5), (6, .int v6)]) hx hb dX4_odds_189 hl (k := 5) rfl (by rw [e214]; rfl) (by decide) rfl (fun ls hl => ?_)
      refine lv_goto (tgt := 167) hx hb dX4_odds_192 (by decide) ?_
      exact ih v0 v3 v4 v5 v6 x213 M210 _ _ _ (hk212 _ _ a0) (kt hk hk212) hf hP hS (lv_sub hl [1, 2, 3, 4, 5, 0] rfl)
set_option maxRecDepth 100000 in
set_option maxHeartbeats 4000000 in
theorem t_X4_odds_126 {p : Program} {l : Launch} {e : Env} {s : State} {m : MethodId} {args : Array Value} {below : List Frame} {meth : Method} {c : Code} {D : va_G} {cy : Nat → ClassId} {ad : Nat → Nat → Nat} {M0 : Mm} {r0 : Int32} {M' : Mm} (C : Cx RX4 cX4_odds 11 (some .int) D cy (AA ad M0 s.heap.size) p s m args meth c) (k99 : Nat → Int32 → Int32 → Int32 → Int32 → Int32 → Int32 → Int32 → Mm → Option (Int32 × Mm)) (hk99 : ∀ (v0 : Nat) (v1 : Int32) (v3 : Int32) (v4 : Int32) (v5 : Int32) (v6 : Int32) (v7 : Int32) (v8 : Int32) (M : Mm) (H : Heap) (locs : List Loc) (ls : Array Slot), (mA M 0 v0 = true) → Keep M0 M → k99 v0 v1 v3 v4 v5 v6 v7 v8 M = some (r0, M') → HP D cy (AA ad M0 s.heap.size) ad M H → va_S (AA ad M0 s.heap.size) s.heap H locs → lv_has ls 11 [(0, .ref (ad 0 v0)), (1, .int v1), (3, .int v3), (4, .int v4), (5, .int v5), (6, .int v6), (7, .int v7), (8, .int v8)] → W p l e { frames := 5, cells := 0, slots := 0, locals := 113 } s m args below meth c H locs 0 0 (MQ below (QI D cy ad M0 s.heap.size r0 M') args s 0 0 (AA ad M0 s.heap.size)) (F0 m 99 ls [])) : ∀ (n : Nat), ∀ (v0 : Nat) (v1 : Int32) (v3 : Int32) (v4 : Int32) (v5 : Int32) (v6 : Int32) (v7 : Int32) (v8 : Int32) (v9 : Int32) (M : Mm) (H : Heap) (locs : List Loc) (ls : Array Slot), (mA M 0 v0 = true) → Keep M0 M → f_X4_odds_126 k99 n v0 v1 v3 v4 v5 v6 v7 v8 v9 M = some (r0, M') → HP D cy (AA ad M0 s.heap.size) ad M H → va_S (AA ad M0 s.heap.size) s.heap H locs → lv_has ls 11 [(0, .ref (ad 0 v0)), (1, .int v1), (3, .int v3), (4, .int v4), (5, .int v5), (6, .int v6), (7, .int v7), (8, .int v8), (9, .int v9)] → W p l e { frames := 5, cells := 0, slots := 0, locals := 113 } s m args below meth c H locs 0 0 (MQ below (QI D cy ad M0 s.heap.size r0 M') args s 0 0 (AA ad M0 s.heap.size)) (F0 m 126 ls []) := by
  obtain ⟨hx, hb, hr, hml, hown, hts, hlocks, hK, hN, hA⟩ := id C
  intro n
  induction n with
  | zero =>
    intro v0 v1 v3 v4 v5 v6 v7 v8 v9 M H locs ls a0 hk hf hP hS hl
    simp [f_X4_odds_126] at hf
  | succ n ih =>
    intro v0 v1 v3 v4 v5 v6 v7 v8 v9 M H locs ls a0 hk hf hP hS hl
    rw [f_X4_odds_126] at hf
    refine lv_iload hx hb dX4_odds_126 (lv_at hl 8 rfl) ?_
    refine lv_iload hx hb dX4_odds_128 (lv_at hl 7 rfl) ?_
    refine lv_icmp_ge (tgt := 158) hx hb dX4_odds_130 (by decide) (fun c225 => ?_) (fun c225 => ?_)
    · have hf := if_t hf c225
      obtain ⟨x226, e227, hf⟩ := lt_some hf
      refine lv_iinc (v := x226) (lv' := [(8, .int x226), (0, .ref (ad 0 v0)), (1, .int v1), (3, .int v3), (4, .int v4), (5, .int v5), (6, .int v6), (7, .int v7), (9, .int v9)]) hx hb dX4_odds_158 hl (k := 7) rfl (by rw [e227]; rfl) (by decide) rfl (fun ls hl => ?_)
      refine lv_goto (tgt := 99) hx hb dX4_odds_161 (by decide) ?_
      exact hk99 v0 v1 v3 v4 v5 v6 v7 x226 M _ _ _ a0 hk hf hP hS (lv_sub hl [1, 2, 3, 4, 5, 6, 7, 0] rfl)
    · have hf := if_f hf c225
      refine lv_aload_n hx hb dX4_odds_133 rfl (lv_at hl 0 rfl) ?_
      have h228 : ∀ j : Nat, (mR M 0 v0 27) = some j → mA M 32 j = true := fun j hj => hp_wf hP a0 hj
      refine gf0 (v := va_rf (((mR M 0 v0 27)).map (ad 32))) hx hb hts hown hK hP a0 27 (by decide) (hts _ q632) rfl rfl dX4_odds_134 ?_
      refine lv_iload hx hb dX4_odds_137 (lv_at hl 7 rfl) ?_
      obtain ⟨i229, e230, hf⟩ := ob_some hf
      have h231 : mA M 32 i229 = true := h228 i229 e230
      refine W_stk (st := [.int v8, va_rf (((mR M 0 v0 27)).map (ad 32))]) (st' := [.int v8, .ref (ad 32 i229)]) (by first | (rw [e230]; done) | (rw [e230]; rfl)) ?_
      obtain ⟨h232, hf⟩ := ix_some hf
      refine hp_iald hx hb hK hP h231 rfl h232 dX4_odds_139 ?_
      refine lv_aload_n hx hb dX4_odds_140 rfl (lv_at hl 0 rfl) ?_
      have h233 : ∀ j : Nat, (mR M 0 v0 27) = some j → mA M 32 j = true := fun j hj => hp_wf hP a0 hj
      refine gf0 (v := va_rf (((mR M 0 v0 27)).map (ad 32))) hx hb hts hown hK hP a0 27 (by decide) (hts _ q632) rfl rfl dX4_odds_141 ?_
      refine lv_iload hx hb dX4_odds_144 (lv_at hl 8 rfl) ?_
      obtain ⟨i234, e235, hf⟩ := ob_some hf
      have h236 : mA M 32 i234 = true := h233 i234 e235
      refine W_stk (st := [.int v9, va_rf (((mR M 0 v0 27)).map (ad 32)), .int (mI M 32 i229 (v8).toNatClampNeg)]) (st' := [.int v9, .ref (ad 32 i234), .int (mI M 32 i229 (v8).toNatClampNeg)]) (by first | (rw [e235]; done) | (rw [e235]; rfl)) ?_
      obtain ⟨h237, hf⟩ := ix_some hf
      refine hp_iald hx hb hK hP h236 rfl h237 dX4_odds_146 ?_
      refine lv_icmp_ne (tgt := 152) hx hb dX4_odds_147 (by decide) (fun c238 => ?_) (fun c238 => ?_)
      · have hf := if_f hf c238
        obtain ⟨x239, e240, hf⟩ := lt_some hf
        refine lv_iinc (v := x239) (lv' := [(9, .int x239), (0, .ref (ad 0 v0)), (1, .int v1), (3, .int v3), (4, .int v4), (5, .int v5), (6, .int v6), (7, .int v7), (8, .int v8)]) hx hb dX4_odds_152 hl (k := 8) rfl (by rw [e240]; rfl) (by decide) rfl (fun ls hl => ?_)
        refine lv_goto (tgt := 126) hx hb dX4_odds_155 (by decide) ?_
        exact ih v0 v1 v3 v4 v5 v6 v7 v8 x239 M _ _ _ a0 hk hf hP hS (lv_sub hl [1, 2, 3, 4, 5, 6, 7, 8, 0] rfl)
      · have hf := if_t hf c238
        refine lv_iconst (v := (-1 : Int32)) hx hb dX4_odds_150 (by decide) ?_
        exact hp_iret hx hb hr hlocks (congrArg Prod.fst (Option.some.inj hf)) (congrArg Prod.snd (Option.some.inj hf)) hP hS hk dX4_odds_151
set_option maxRecDepth 100000 in
set_option maxHeartbeats 4000000 in
theorem t_X4_odds_99 {p : Program} {l : Launch} {e : Env} {s : State} {m : MethodId} {args : Array Value} {below : List Frame} {meth : Method} {c : Code} {D : va_G} {cy : Nat → ClassId} {ad : Nat → Nat → Nat} {M0 : Mm} {r0 : Int32} {M' : Mm} (C : Cx RX4 cX4_odds 11 (some .int) D cy (AA ad M0 s.heap.size) p s m args meth c) : ∀ (n : Nat), ∀ (v0 : Nat) (v1 : Int32) (v3 : Int32) (v4 : Int32) (v5 : Int32) (v6 : Int32) (v7 : Int32) (v8 : Int32) (M : Mm) (H : Heap) (locs : List Loc) (ls : Array Slot), (mA M 0 v0 = true) → Keep M0 M → f_X4_odds_99 n v0 v1 v3 v4 v5 v6 v7 v8 M = some (r0, M') → HP D cy (AA ad M0 s.heap.size) ad M H → va_S (AA ad M0 s.heap.size) s.heap H locs → lv_has ls 11 [(0, .ref (ad 0 v0)), (1, .int v1), (3, .int v3), (4, .int v4), (5, .int v5), (6, .int v6), (7, .int v7), (8, .int v8)] → W p l e { frames := 5, cells := 0, slots := 0, locals := 113 } s m args below meth c H locs 0 0 (MQ below (QI D cy ad M0 s.heap.size r0 M') args s 0 0 (AA ad M0 s.heap.size)) (F0 m 99 ls []) := by
  obtain ⟨hx, hb, hr, hml, hown, hts, hlocks, hK, hN, hA⟩ := id C
  intro n
  induction n with
  | zero =>
    intro v0 v1 v3 v4 v5 v6 v7 v8 M H locs ls a0 hk hf hP hS hl
    simp [f_X4_odds_99] at hf
  | succ n ih =>
    intro v0 v1 v3 v4 v5 v6 v7 v8 M H locs ls a0 hk hf hP hS hl
    rw [f_X4_odds_99] at hf
    refine lv_iload hx hb dX4_odds_99 (lv_at hl 7 rfl) ?_
    refine lv_iload hx hb dX4_odds_101 (lv_at hl 6 rfl) ?_
    refine lv_icmp_ge (tgt := 164) hx hb dX4_odds_103 (by decide) (fun c150 => ?_) (fun c150 => ?_)
    · have hf := if_t hf c150
      refine lv_iconst (v := (0 : Int32)) hx hb dX4_odds_164 (by decide) ?_
      refine lv_istore (lv' := [(7, .int (0 : Int32)), (0, .ref (ad 0 v0)), (1, .int v1), (3, .int v3), (4, .int v4), (5, .int v5), (6, .int v6), (8, .int v8)]) hx hb dX4_odds_165 hl (by decide) rfl (fun ls hl => ?_)
      exact t_X4_odds_167 C FU v0 v3 v4 v5 v6 (0 : Int32) M _ _ _ a0 hk hf hP hS (lv_sub hl [1, 3, 4, 5, 6, 0] rfl)
    · have hf := if_f hf c150
      refine lv_aload_n hx hb dX4_odds_106 rfl (lv_at hl 0 rfl) ?_
      refine lv_iload_n hx hb dX4_odds_107 rfl (lv_at hl 1 rfl) ?_
      refine lv_aload_n hx hb dX4_odds_108 rfl (lv_at hl 0 rfl) ?_
      have h215 : ∀ j : Nat, (mR M 0 v0 27) = some j → mA M 32 j = true := fun j hj => hp_wf hP a0 hj
      refine gf0 (v := va_rf (((mR M 0 v0 27)).map (ad 32))) hx hb hts hown hK hP a0 27 (by decide) (hts _ q632) rfl rfl dX4_odds_109 ?_
      refine lv_iload hx hb dX4_odds_112 (lv_at hl 7 rfl) ?_
      obtain ⟨i216, e217, hf⟩ := ob_some hf
      have h218 : mA M 32 i216 = true := h215 i216 e217
      refine W_stk (st := [.int v8, va_rf (((mR M 0 v0 27)).map (ad 32)), .int v1, .ref (ad 0 v0)]) (st' := [.int v8, .ref (ad 32 i216), .int v1, .ref (ad 0 v0)]) (by first | (rw [e217]; done) | (rw [e217]; rfl)) ?_
      obtain ⟨h219, hf⟩ := ix_some hf
      refine hp_iald hx hb hK hP h218 rfl h219 dX4_odds_114 ?_
      obtain ⟨r221, e220, hf⟩ := ob_some hf
      refine hp_calli (va_runV (As := [.int v1, .int (mI M 32 i216 (v8).toNatClampNeg)]) (rest := []) ⟨hx, hb, hml, hown, hts⟩ (ok_X4_runs l D cy ad M _ v0 v1 (mI M 32 i216 (v8).toNatClampNeg) r221 a0 e220) (cwV 2 hts (gdV q734 q736 q55 q86 q737) rfl rfl rfl (by decide +kernel) ⟨Nat.le_of_ble_eq_true rfl, Nat.le_of_ble_eq_true rfl⟩) (pre_V hP hK hN a0 ds_0 rfl) rfl rfl hl.1 rfl (lv_room (Nat.le_of_ble_eq_true rfl)) dX4_odds_115 ⟨Nat.le_of_ble_eq_true rfl, Nat.le_of_ble_eq_true rfl⟩) hP hS hA (fun H locs hP hS _ => ?_)
      refine lv_if_ne (tgt := 123) hx hb dX4_odds_118 (by decide) (fun c224 => ?_) (fun c224 => ?_)
      · have hf := if_f hf c224
        refine lv_iconst (v := (0 : Int32)) hx hb dX4_odds_123 (by decide) ?_
        refine lv_istore (lv' := [(9, .int (0 : Int32)), (0, .ref (ad 0 v0)), (1, .int v1), (3, .int v3), (4, .int v4), (5, .int v5), (6, .int v6), (7, .int v7), (8, .int v8)]) hx hb dX4_odds_124 hl (by decide) rfl (fun ls hl => ?_)
        exact t_X4_odds_126 C (f_X4_odds_99 n) ih FU v0 v1 v3 v4 v5 v6 v7 v8 (0 : Int32) M _ _ _ a0 hk hf hP hS (lv_sub hl [1, 2, 3, 4, 5, 6, 7, 8, 0] rfl)
      · have hf := if_t hf c224
        refine lv_iconst (v := (-1 : Int32)) hx hb dX4_odds_121 (by decide) ?_
        exact hp_iret hx hb hr hlocks (congrArg Prod.fst (Option.some.inj hf)) (congrArg Prod.snd (Option.some.inj hf)) hP hS hk dX4_odds_122
set_option maxRecDepth 100000 in
set_option maxHeartbeats 4000000 in
theorem t_X4_odds_87 {p : Program} {l : Launch} {e : Env} {s : State} {m : MethodId} {args : Array Value} {below : List Frame} {meth : Method} {c : Code} {D : va_G} {cy : Nat → ClassId} {ad : Nat → Nat → Nat} {M0 : Mm} {r0 : Int32} {M' : Mm} (C : Cx RX4 cX4_odds 11 (some .int) D cy (AA ad M0 s.heap.size) p s m args meth c) : ∀ (v0 : Nat) (v1 : Int32) (v3 : Int32) (v4 : Int32) (v5 : Int32) (v6 : Int32) (w0 : Int32) (M : Mm) (H : Heap) (locs : List Loc) (ls : Array Slot), (mA M 0 v0 = true) → Keep M0 M → f_X4_odds_87 v0 v1 v3 v4 v5 v6 w0 M = some (r0, M') → HP D cy (AA ad M0 s.heap.size) ad M H → va_S (AA ad M0 s.heap.size) s.heap H locs → lv_has ls 11 [(0, .ref (ad 0 v0)), (1, .int v1), (3, .int v3), (4, .int v4), (5, .int v5), (6, .int v6)] → W p l e { frames := 5, cells := 0, slots := 0, locals := 113 } s m args below meth c H locs 0 0 (MQ below (QI D cy ad M0 s.heap.size r0 M') args s 0 0 (AA ad M0 s.heap.size)) (F0 m 87 ls [.int w0]) := by
  obtain ⟨hx, hb, hr, hml, hown, hts, hlocks, hK, hN, hA⟩ := id C
  intro v0 v1 v3 v4 v5 v6 w0 M H locs ls a0 hk hf hP hS hl
  unfold f_X4_odds_87 at hf
  refine lv_istore (lv' := [(7, .int w0), (0, .ref (ad 0 v0)), (1, .int v1), (3, .int v3), (4, .int v4), (5, .int v5), (6, .int v6)]) hx hb dX4_odds_87 hl (by decide) rfl (fun ls hl => ?_)
  refine lv_iload hx hb dX4_odds_89 (lv_at hl 0 rfl) ?_
  refine lv_if_ne (tgt := 96) hx hb dX4_odds_91 (by decide) (fun c149 => ?_) (fun c149 => ?_)
  · have hf := if_f hf c149
    refine lv_iconst (v := (0 : Int32)) hx hb dX4_odds_96 (by decide) ?_
    refine lv_istore (lv' := [(8, .int (0 : Int32)), (7, .int w0), (0, .ref (ad 0 v0)), (1, .int v1), (3, .int v3), (4, .int v4), (5, .int v5), (6, .int v6)]) hx hb dX4_odds_97 hl (by decide) rfl (fun ls hl => ?_)
    exact t_X4_odds_99 C FU v0 v1 v3 v4 v5 v6 w0 (0 : Int32) M _ _ _ a0 hk hf hP hS (lv_sub hl [2, 3, 4, 5, 6, 7, 1, 0] rfl)
  · have hf := if_t hf c149
    refine lv_iconst (v := (-1 : Int32)) hx hb dX4_odds_94 (by decide) ?_
    exact hp_iret hx hb hr hlocks (congrArg Prod.fst (Option.some.inj hf)) (congrArg Prod.snd (Option.some.inj hf)) hP hS hk dX4_odds_95
set_option maxRecDepth 100000 in
set_option maxHeartbeats 4000000 in
theorem ok_X4_odds (l : Launch) (D : va_G) (cy : Nat → ClassId) (ad : Nat → Nat → Nat) (M0 : Mm) (sz : Nat) (v0 : Nat) (v1 : Int32) (v2 : Int32) (v3 : Int32) (v4 : Int32) (v5 : Int32) (r0 : Int32) (M' : Mm) (a0 : mA M0 0 v0 = true) (hf : f_X4_odds v0 v1 v2 v3 v4 v5 M0 = some (r0, M')) : Met l yX4_odds (Cond.code yX4_odds cX4_odds 11 (some .int) :: BW) { frames := 5, cells := 0, slots := 0, locals := 113 } (va_Pc [.ref (ad 0 v0), .int v1, .int v2, .int v3, .int v4, .int v5] (PRE D cy ad M0 sz)) (QI D cy ad M0 sz r0 M') 0 0 (AA ad M0 sz) := by
  refine Met.ofW (cc := cX4_odds) (maxL := 11) (ret := (some .int)) (by decide) rfl ?_
  intro p e s m args below meth c s₁ B hml hv
  obtain ⟨rfl, rfl, hP0, hK, hN⟩ := hv
  have hx := B.exec
  have hb := B.bytes
  have hr := B.returns
  have hts0 := atoms_spec (ws := (Cond.code yX4_odds cX4_odds 11 (some .int) :: BW)) B.pre
  have hts : ∀ w ∈ BW, w.before ([.ref (ad 0 v0), .int v1, .int v2, .int v3, .int v4, .int v5] : List Value).toArray s = true := fun w h => hts0 w (List.mem_cons_of_mem _ h)
  have hown : s.vm.findClass RX4 = some m.cls := findClass_of_methodNamed B.named
  have hlocks := B.notSynchronized
  have hA : ∀ q : Nat, s.heap.size ≤ q → AA ad M0 s.heap.size q := fun q h => Or.inr h
  have C : Cx RX4 cX4_odds 11 (some .int) D cy (AA ad M0 s.heap.size) p s m ([.ref (ad 0 v0), .int v1, .int v2, .int v3, .int v4, .int v5] : List Value).toArray meth c := ⟨hx, hb, hr, hml, hown, hts, hlocks, hK, hN, hA⟩
  have hP := hp_self (sz := s.heap.size) hP0
  have hS : va_S (AA ad M0 s.heap.size) s.heap s.heap [] := va_S.rf
  have hl := lv_entry ([.ref (ad 0 v0), .int v1, .int v2, .int v3, .int v4, .int v5]) (n := 11) (Nat.le_of_ble_eq_true rfl)
  rw [lg_entry_eq]
  generalize (lg_sl ([.ref (ad 0 v0), .int v1, .int v2, .int v3, .int v4, .int v5]) ++ List.replicate (11 - (lg_sl ([.ref (ad 0 v0), .int v1, .int v2, .int v3, .int v4, .int v5])).length) Slot.unset).toArray = ls at hl ⊢
  have hl : lv_has ls 11 [(0, .ref (ad 0 v0)), (1, .int v1), (2, .int v2), (3, .int v3), (4, .int v4), (5, .int v5)] := hl
  unfold f_X4_odds at hf
  refine lv_aload_n hx hb dX4_odds_0 rfl (lv_at hl 0 rfl) ?_
  refine lv_iload_n hx hb dX4_odds_1 rfl (lv_at hl 1 rfl) ?_
  refine lv_iload_n hx hb dX4_odds_2 rfl (lv_at hl 2 rfl) ?_
  obtain ⟨r129, e128, hf⟩ := ob_some hf
  refine hp_calli (va_runV (As := [.int v1, .int v2]) (rest := []) ⟨hx, hb, hml, hown, hts⟩ (ok_X4_poolOf l D cy ad M0 _ v0 v1 v2 r129 a0 e128) (cwV 2 hts (gdV q746 q748 q57 q86 q749) rfl rfl rfl (by decide +kernel) ⟨Nat.le_of_ble_eq_true rfl, Nat.le_of_ble_eq_true rfl⟩) (pre_V hP hK hN a0 ds_0 rfl) rfl rfl hl.1 rfl (lv_room (Nat.le_of_ble_eq_true rfl)) dX4_odds_3 ⟨Nat.le_of_ble_eq_true rfl, Nat.le_of_ble_eq_true rfl⟩) hP hS hA (fun H locs hP hS _ => ?_)
  refine lv_istore (lv' := [(6, .int r129), (0, .ref (ad 0 v0)), (1, .int v1), (2, .int v2), (3, .int v3), (4, .int v4), (5, .int v5)]) hx hb dX4_odds_6 hl (by decide) rfl (fun ls hl => ?_)
  refine lv_iload hx hb dX4_odds_8 (lv_at hl 0 rfl) ?_
  refine lv_iconst (v := (-1 : Int32)) hx hb dX4_odds_10 (by decide) ?_
  refine lv_icmp_eq (tgt := 24) hx hb dX4_odds_11 (by decide) (fun c132 => ?_) (fun c132 => ?_)
  · have hf := if_t hf c132
    refine lv_iconst (v := (-1 : Int32)) hx hb dX4_odds_24 (by decide) ?_
    exact hp_iret hx hb hr hlocks (congrArg Prod.fst (Option.some.inj hf)) (congrArg Prod.snd (Option.some.inj hf)) hP hS keep_rf dX4_odds_25
  · have hf := if_f hf c132
    refine lv_aload_n hx hb dX4_odds_14 rfl (lv_at hl 1 rfl) ?_
    have h133 : ∀ j : Nat, (mR M0 0 v0 8) = some j → mA M0 18 j = true := fun j hj => hp_wf hP a0 hj
    refine gf0 (v := va_rf (((mR M0 0 v0 8)).map (ad 18))) hx hb hts hown hK hP a0 8 (by decide) (hts _ q613) rfl rfl dX4_odds_15 ?_
    refine lv_iload hx hb dX4_odds_18 (lv_at hl 0 rfl) ?_
    obtain ⟨i134, e135, hf⟩ := ob_some hf
    have h136 : mA M0 18 i134 = true := h133 i134 e135
    refine W_stk (st := [.int r129, va_rf (((mR M0 0 v0 8)).map (ad 18))]) (st' := [.int r129, .ref (ad 18 i134)]) (by first | (rw [e135]; done) | (rw [e135]; rfl)) ?_
    obtain ⟨h137, hf⟩ := ix_some hf
    refine hp_iald hx hb hK hP h136 rfl h137 dX4_odds_20 ?_
    refine lv_if_eq (tgt := 26) hx hb dX4_odds_21 (by decide) (fun c138 => ?_) (fun c138 => ?_)
    · have hf := if_t hf c138
      refine lv_aload_n hx hb dX4_odds_26 rfl (lv_at hl 1 rfl) ?_
      refine lv_iload_n hx hb dX4_odds_27 rfl (lv_at hl 4 rfl) ?_
      refine lv_iload hx hb dX4_odds_28 (lv_at hl 5 rfl) ?_
      refine lv_iload hx hb dX4_odds_30 (lv_at hl 6 rfl) ?_
      obtain ⟨M141, e139, hf⟩ := ob_some hf
      refine hp_callv (va_runV (As := [.int v3, .int v4, .int v5]) (rest := []) ⟨hx, hb, hml, hown, hts⟩ (ok_X4_names l D cy ad M0 _ v0 v3 v4 v5 M141 a0 e139) (cwV 3 hts (gdV q758 q760 q60 q86 q761) rfl rfl rfl (by decide +kernel) ⟨Nat.le_of_ble_eq_true rfl, Nat.le_of_ble_eq_true rfl⟩) (pre_V hP hK hN a0 ds_0 rfl) rfl rfl hl.1 rfl (lv_room (Nat.le_of_ble_eq_true rfl)) dX4_odds_32 ⟨Nat.le_of_ble_eq_true rfl, Nat.le_of_ble_eq_true rfl⟩) hP hS hA (fun H locs hP hS hk142 => ?_)
      refine lv_iload hx hb dX4_odds_35 (lv_at hl 0 rfl) ?_
      refine lv_bipush (v := (52 : Int32)) hx hb dX4_odds_37 (by decide) ?_
      refine lv_icmp_ne (tgt := 69) hx hb dX4_odds_39 (by decide) (fun c143 => ?_) (fun c143 => ?_)
      · have hf := if_f hf c143
        refine lv_aload_n hx hb dX4_odds_69 rfl (lv_at hl 1 rfl) ?_
        refine lv_iload_n hx hb dX4_odds_70 rfl (lv_at hl 2 rfl) ?_
        obtain ⟨r145, e144, hf⟩ := ob_some hf
        refine hp_calli (va_runV (As := [.int v1]) (rest := []) ⟨hx, hb, hml, hown, hts⟩ (ok_X4_running l D cy ad M141 _ v0 v1 r145 (hk142 _ _ a0) e144) (cwV 1 hts (gdV q808 q810 q66 q86 q811) rfl rfl rfl (by decide +kernel) ⟨Nat.le_of_ble_eq_true rfl, Nat.le_of_ble_eq_true rfl⟩) (pre_V hP hK hN (hk142 _ _ a0) ds_0 rfl) rfl rfl hl.1 rfl (lv_room (Nat.le_of_ble_eq_true rfl)) dX4_odds_71 ⟨Nat.le_of_ble_eq_true rfl, Nat.le_of_ble_eq_true rfl⟩) hP hS hA (fun H locs hP hS _ => ?_)
        refine lv_iconst (v := (3 : Int32)) hx hb dX4_odds_74 (by decide) ?_
        refine lv_icmp_ge (tgt := 86) hx hb dX4_odds_75 (by decide) (fun c148 => ?_) (fun c148 => ?_)
        · have hf := if_t hf c148
          refine lv_iconst (v := (3 : Int32)) hx hb dX4_odds_86 (by decide) ?_
          exact t_X4_odds_87 C v0 v1 v3 v4 v5 r129 (3 : Int32) M141 _ _ _ (hk142 _ _ a0) (kt keep_rf hk142) hf hP hS (lv_sub hl [1, 2, 4, 5, 6, 0] rfl)
        · have hf := if_f hf c148
          refine lv_aload_n hx hb dX4_odds_78 rfl (lv_at hl 1 rfl) ?_
          refine lv_iload_n hx hb dX4_odds_79 rfl (lv_at hl 2 rfl) ?_
          obtain ⟨r242, e241, hf⟩ := ob_some hf
          refine hp_calli (va_runV (As := [.int v1]) (rest := []) ⟨hx, hb, hml, hown, hts⟩ (ok_X4_running l D cy ad M141 _ v0 v1 r242 (hk142 _ _ a0) e241) (cwV 1 hts (gdV q808 q810 q66 q86 q811) rfl rfl rfl (by decide +kernel) ⟨Nat.le_of_ble_eq_true rfl, Nat.le_of_ble_eq_true rfl⟩) (pre_V hP hK hN (hk142 _ _ a0) ds_0 rfl) rfl rfl hl.1 rfl (lv_room (Nat.le_of_ble_eq_true rfl)) dX4_odds_80 ⟨Nat.le_of_ble_eq_true rfl, Nat.le_of_ble_eq_true rfl⟩) hP hS hA (fun H locs hP hS _ => ?_)
          refine lv_goto (tgt := 87) hx hb dX4_odds_83 (by decide) ?_
          exact t_X4_odds_87 C v0 v1 v3 v4 v5 r129 r242 M141 _ _ _ (hk142 _ _ a0) (kt keep_rf hk142) hf hP hS (lv_sub hl [1, 2, 4, 5, 6, 0] rfl)
      · have hf := if_t hf c143
        refine lv_aload_n hx hb dX4_odds_42 rfl (lv_at hl 1 rfl) ?_
        refine lv_aload_n hx hb dX4_odds_43 rfl (lv_at hl 1 rfl) ?_
        refine gf0 (v := .int (mI M141 0 v0 17)) hx hb hts hown hK hP (hk142 _ _ a0) 17 (by decide) (hts _ q622) rfl rfl dX4_odds_44 ?_
        refine lv_iload_n hx hb dX4_odds_47 rfl (lv_at hl 4 rfl) ?_
        obtain ⟨r246, e245, hf⟩ := ob_some hf
        refine hp_calli (va_runV (As := [.int (mI M141 0 v0 17), .int v3]) (rest := []) ⟨hx, hb, hml, hown, hts⟩ (ok_X4_runs l D cy ad M141 _ v0 (mI M141 0 v0 17) v3 r246 (hk142 _ _ a0) e245) (cwV 2 hts (gdV q734 q736 q55 q86 q737) rfl rfl rfl (by decide +kernel) ⟨Nat.le_of_ble_eq_true rfl, Nat.le_of_ble_eq_true rfl⟩) (pre_V hP hK hN (hk142 _ _ a0) ds_0 rfl) rfl rfl hl.1 rfl (lv_room (Nat.le_of_ble_eq_true rfl)) dX4_odds_48 ⟨Nat.le_of_ble_eq_true rfl, Nat.le_of_ble_eq_true rfl⟩) hP hS hA (fun H locs hP hS _ => ?_)
        refine lv_if_eq (tgt := 67) hx hb dX4_odds_51 (by decide) (fun c249 => ?_) (fun c249 => ?_)
        · have hf := if_t hf c249
          refine lv_iconst (v := (-1 : Int32)) hx hb dX4_odds_67 (by decide) ?_
          exact hp_iret hx hb hr hlocks (congrArg Prod.fst (Option.some.inj hf)) (congrArg Prod.snd (Option.some.inj hf)) hP hS (kt keep_rf hk142) dX4_odds_68
        · have hf := if_f hf c249
          refine lv_aload_n hx hb dX4_odds_54 rfl (lv_at hl 1 rfl) ?_
          refine lv_aload_n hx hb dX4_odds_55 rfl (lv_at hl 1 rfl) ?_
          refine gf0 (v := .int (mI M141 0 v0 18)) hx hb hts hown hK hP (hk142 _ _ a0) 18 (by decide) (hts _ q623) rfl rfl dX4_odds_56 ?_
          refine lv_iload hx hb dX4_odds_59 (lv_at hl 5 rfl) ?_
          obtain ⟨r251, e250, hf⟩ := ob_some hf
          refine hp_calli (va_runV (As := [.int (mI M141 0 v0 18), .int v4]) (rest := []) ⟨hx, hb, hml, hown, hts⟩ (ok_X4_runs l D cy ad M141 _ v0 (mI M141 0 v0 18) v4 r251 (hk142 _ _ a0) e250) (cwV 2 hts (gdV q734 q736 q55 q86 q737) rfl rfl rfl (by decide +kernel) ⟨Nat.le_of_ble_eq_true rfl, Nat.le_of_ble_eq_true rfl⟩) (pre_V hP hK hN (hk142 _ _ a0) ds_0 rfl) rfl rfl hl.1 rfl (lv_room (Nat.le_of_ble_eq_true rfl)) dX4_odds_61 ⟨Nat.le_of_ble_eq_true rfl, Nat.le_of_ble_eq_true rfl⟩) hP hS hA (fun H locs hP hS _ => ?_)
          refine lv_if_ne (tgt := 164) hx hb dX4_odds_64 (by decide) (fun c254 => ?_) (fun c254 => ?_)
          · have hf := if_f hf c254
            refine lv_iconst (v := (0 : Int32)) hx hb dX4_odds_164 (by decide) ?_
            refine lv_istore (lv' := [(7, .int (0 : Int32)), (6, .int r129), (0, .ref (ad 0 v0)), (1, .int v1), (2, .int v2), (3, .int v3), (4, .int v4), (5, .int v5)]) hx hb dX4_odds_165 hl (by decide) rfl (fun ls hl => ?_)
            exact t_X4_odds_167 C FU v0 v3 v4 v5 r129 (0 : Int32) M141 _ _ _ (hk142 _ _ a0) (kt keep_rf hk142) hf hP hS (lv_sub hl [2, 5, 6, 7, 1, 0] rfl)
          · have hf := if_t hf c254
            refine lv_iconst (v := (-1 : Int32)) hx hb dX4_odds_67 (by decide) ?_
            exact hp_iret hx hb hr hlocks (congrArg Prod.fst (Option.some.inj hf)) (congrArg Prod.snd (Option.some.inj hf)) hP hS (kt keep_rf hk142) dX4_odds_68
    · have hf := if_f hf c138
      refine lv_iconst (v := (-1 : Int32)) hx hb dX4_odds_24 (by decide) ?_
      exact hp_iret hx hb hr hlocks (congrArg Prod.fst (Option.some.inj hf)) (congrArg Prod.snd (Option.some.inj hf)) hP hS keep_rf dX4_odds_25
def f_X4_dividend_49 : Nat → Nat → Int32 → Int32 → Int32 → Int32 → Int32 → Mm → Option (Int32 × Mm)
  | 0, _, _, _, _, _, _, _ => none
  | n + 1, v0, v3, v4, v5, v6, v7, M => if (mI M 0 v0 19) ≤ v7 then (some ((0 : Int32), M)) else (ob (f_X4_counts v0 v7 M) fun r63 => if r63 = 0 then (lt (v7 + (1 : Int32)) fun x67 => f_X4_dividend_49 n v0 v3 v4 v5 v6 x67 M) else (ob (f_X4_isSame v0 v7 v6 v3 v4 v5 M) fun r70 => if r70 = 0 then (lt (v7 + (1 : Int32)) fun x74 => f_X4_dividend_49 n v0 v3 v4 v5 v6 x74 M) else (ob (mR M 0 v0 24) fun i77 => ix v7 600 (some ((((mJ M 31 i77 (v7).toNatClampNeg)).toInt32), M)))))
def f_X4_dividend (v0 : Nat) (v1 : Int32) (v2 : Int32) (v3 : Int32) (v4 : Int32) (v5 : Int32) (M0 : Mm) : Option (Int32 × Mm) :=
  ob (f_X4_poolOf v0 v1 v2 M0) fun r42 => if r42 = (-1 : Int32) then (some ((-1 : Int32), M0)) else (ob (mR M0 0 v0 8) fun i47 => ix r42 53 (if (mI M0 18 i47 (r42).toNatClampNeg) = 0 then (some ((-1 : Int32), M0)) else (ob (f_X4_names v0 v3 v4 v5 M0) fun M54 => ob (f_X4_named v0 r42 M54) fun r57 => if 0 ≤ r57 then (f_X4_dividend_49 FU v0 v3 v4 v5 r42 (0 : Int32) M54) else (some ((-1 : Int32), M54)))))
set_option maxRecDepth 100000 in
set_option maxHeartbeats 4000000 in
theorem t_X4_dividend_49 {p : Program} {l : Launch} {e : Env} {s : State} {m : MethodId} {args : Array Value} {below : List Frame} {meth : Method} {c : Code} {D : va_G} {cy : Nat → ClassId} {ad : Nat → Nat → Nat} {M0 : Mm} {r0 : Int32} {M' : Mm} (C : Cx RX4 cX4_dividend 8 (some .int) D cy (AA ad M0 s.heap.size) p s m args meth c) : ∀ (n : Nat), ∀ (v0 : Nat) (v3 : Int32) (v4 : Int32) (v5 : Int32) (v6 : Int32) (v7 : Int32) (M : Mm) (H : Heap) (locs : List Loc) (ls : Array Slot), (mA M 0 v0 = true) → Keep M0 M → f_X4_dividend_49 n v0 v3 v4 v5 v6 v7 M = some (r0, M') → HP D cy (AA ad M0 s.heap.size) ad M H → va_S (AA ad M0 s.heap.size) s.heap H locs → lv_has ls 8 [(0, .ref (ad 0 v0)), (3, .int v3), (4, .int v4), (5, .int v5), (6, .int v6), (7, .int v7)] → W p l e { frames := 3, cells := 0, slots := 0, locals := 68 } s m args below meth c H locs 0 0 (MQ below (QI D cy ad M0 s.heap.size r0 M') args s 0 0 (AA ad M0 s.heap.size)) (F0 m 49 ls []) := by
  obtain ⟨hx, hb, hr, hml, hown, hts, hlocks, hK, hN, hA⟩ := id C
  intro n
  induction n with
  | zero =>
    intro v0 v3 v4 v5 v6 v7 M H locs ls a0 hk hf hP hS hl
    simp [f_X4_dividend_49] at hf
  | succ n ih =>
    intro v0 v3 v4 v5 v6 v7 M H locs ls a0 hk hf hP hS hl
    rw [f_X4_dividend_49] at hf
    refine lv_iload hx hb dX4_dividend_49 (lv_at hl 5 rfl) ?_
    refine lv_aload_n hx hb dX4_dividend_51 rfl (lv_at hl 0 rfl) ?_
    refine gf0 (v := .int (mI M 0 v0 19)) hx hb hts hown hK hP a0 19 (by decide) (hts _ q624) rfl rfl dX4_dividend_52 ?_
    refine lv_icmp_ge (tgt := 98) hx hb dX4_dividend_55 (by decide) (fun c61 => ?_) (fun c61 => ?_)
    · have hf := if_t hf c61
      refine lv_iconst (v := (0 : Int32)) hx hb dX4_dividend_98 (by decide) ?_
      exact hp_iret hx hb hr hlocks (congrArg Prod.fst (Option.some.inj hf)) (congrArg Prod.snd (Option.some.inj hf)) hP hS hk dX4_dividend_99
    · have hf := if_f hf c61
      refine lv_aload_n hx hb dX4_dividend_58 rfl (lv_at hl 0 rfl) ?_
      refine lv_iload hx hb dX4_dividend_59 (lv_at hl 5 rfl) ?_
      obtain ⟨r63, e62, hf⟩ := ob_some hf
      refine hp_calli (va_runV (As := [.int v7]) (rest := []) ⟨hx, hb, hml, hown, hts⟩ (ok_X4_counts l D cy ad M _ v0 v7 r63 a0 e62) (cwV 1 hts (gdV q820 q822 q69 q86 q823) rfl rfl rfl (by decide +kernel) ⟨Nat.le_of_ble_eq_true rfl, Nat.le_of_ble_eq_true rfl⟩) (pre_V hP hK hN a0 ds_0 rfl) rfl rfl hl.1 rfl (lv_room (Nat.le_of_ble_eq_true rfl)) dX4_dividend_61 ⟨Nat.le_of_ble_eq_true rfl, Nat.le_of_ble_eq_true rfl⟩) hP hS hA (fun H locs hP hS _ => ?_)
      refine lv_if_eq (tgt := 92) hx hb dX4_dividend_64 (by decide) (fun c66 => ?_) (fun c66 => ?_)
      · have hf := if_t hf c66
        obtain ⟨x67, e68, hf⟩ := lt_some hf
        refine lv_iinc (v := x67) (lv' := [(7, .int x67), (0, .ref (ad 0 v0)), (3, .int v3), (4, .int v4), (5, .int v5), (6, .int v6)]) hx hb dX4_dividend_92 hl (k := 5) rfl (by rw [e68]; rfl) (by decide) rfl (fun ls hl => ?_)
        refine lv_goto (tgt := 49) hx hb dX4_dividend_95 (by decide) ?_
        exact ih v0 v3 v4 v5 v6 x67 M _ _ _ a0 hk hf hP hS (lv_sub hl [1, 2, 3, 4, 5, 0] rfl)
      · have hf := if_f hf c66
        refine lv_aload_n hx hb dX4_dividend_67 rfl (lv_at hl 0 rfl) ?_
        refine lv_iload hx hb dX4_dividend_68 (lv_at hl 5 rfl) ?_
        refine lv_iload hx hb dX4_dividend_70 (lv_at hl 4 rfl) ?_
        refine lv_iload_n hx hb dX4_dividend_72 rfl (lv_at hl 1 rfl) ?_
        refine lv_iload hx hb dX4_dividend_73 (lv_at hl 2 rfl) ?_
        refine lv_iload hx hb dX4_dividend_75 (lv_at hl 3 rfl) ?_
        obtain ⟨r70, e69, hf⟩ := ob_some hf
        refine hp_calli (va_runV (As := [.int v7, .int v6, .int v3, .int v4, .int v5]) (rest := []) ⟨hx, hb, hml, hown, hts⟩ (ok_X4_isSame l D cy ad M _ v0 v7 v6 v3 v4 v5 r70 a0 e69) (cwV 5 hts (gdV q840 q842 q74 q86 q843) rfl rfl rfl (by decide +kernel) ⟨Nat.le_of_ble_eq_true rfl, Nat.le_of_ble_eq_true rfl⟩) (pre_V hP hK hN a0 ds_0 rfl) rfl rfl hl.1 rfl (lv_room (Nat.le_of_ble_eq_true rfl)) dX4_dividend_77 ⟨Nat.le_of_ble_eq_true rfl, Nat.le_of_ble_eq_true rfl⟩) hP hS hA (fun H locs hP hS _ => ?_)
        refine lv_if_eq (tgt := 92) hx hb dX4_dividend_80 (by decide) (fun c73 => ?_) (fun c73 => ?_)
        · have hf := if_t hf c73
          obtain ⟨x74, e75, hf⟩ := lt_some hf
          refine lv_iinc (v := x74) (lv' := [(7, .int x74), (0, .ref (ad 0 v0)), (3, .int v3), (4, .int v4), (5, .int v5), (6, .int v6)]) hx hb dX4_dividend_92 hl (k := 5) rfl (by rw [e75]; rfl) (by decide) rfl (fun ls hl => ?_)
          refine lv_goto (tgt := 49) hx hb dX4_dividend_95 (by decide) ?_
          exact ih v0 v3 v4 v5 v6 x74 M _ _ _ a0 hk hf hP hS (lv_sub hl [1, 2, 3, 4, 5, 0] rfl)
        · have hf := if_f hf c73
          refine lv_aload_n hx hb dX4_dividend_83 rfl (lv_at hl 0 rfl) ?_
          have h76 : ∀ j : Nat, (mR M 0 v0 24) = some j → mA M 31 j = true := fun j hj => hp_wf hP a0 hj
          refine gf0 (v := va_rf (((mR M 0 v0 24)).map (ad 31))) hx hb hts hown hK hP a0 24 (by decide) (hts _ q629) rfl rfl dX4_dividend_84 ?_
          refine lv_iload hx hb dX4_dividend_87 (lv_at hl 5 rfl) ?_
          obtain ⟨i77, e78, hf⟩ := ob_some hf
          have h79 : mA M 31 i77 = true := h76 i77 e78
          refine W_stk (st := [.int v7, va_rf (((mR M 0 v0 24)).map (ad 31))]) (st' := [.int v7, .ref (ad 31 i77)]) (by first | (rw [e78]; done) | (rw [e78]; rfl)) ?_
          obtain ⟨h80, hf⟩ := ix_some hf
          refine hp_lald hx hb hK hP h79 rfl h80 dX4_dividend_89 ?_
          refine lv_l2i hx hb dX4_dividend_90 rfl ?_
          exact hp_iret hx hb hr hlocks (congrArg Prod.fst (Option.some.inj hf)) (congrArg Prod.snd (Option.some.inj hf)) hP hS hk dX4_dividend_91
set_option maxRecDepth 100000 in
set_option maxHeartbeats 4000000 in
theorem ok_X4_dividend (l : Launch) (D : va_G) (cy : Nat → ClassId) (ad : Nat → Nat → Nat) (M0 : Mm) (sz : Nat) (v0 : Nat) (v1 : Int32) (v2 : Int32) (v3 : Int32) (v4 : Int32) (v5 : Int32) (r0 : Int32) (M' : Mm) (a0 : mA M0 0 v0 = true) (hf : f_X4_dividend v0 v1 v2 v3 v4 v5 M0 = some (r0, M')) : Met l yX4_dividend (Cond.code yX4_dividend cX4_dividend 8 (some .int) :: BW) { frames := 3, cells := 0, slots := 0, locals := 68 } (va_Pc [.ref (ad 0 v0), .int v1, .int v2, .int v3, .int v4, .int v5] (PRE D cy ad M0 sz)) (QI D cy ad M0 sz r0 M') 0 0 (AA ad M0 sz) := by
  refine Met.ofW (cc := cX4_dividend) (maxL := 8) (ret := (some .int)) (by decide) rfl ?_
  intro p e s m args below meth c s₁ B hml hv
  obtain ⟨rfl, rfl, hP0, hK, hN⟩ := hv
  have hx := B.exec
  have hb := B.bytes
  have hr := B.returns
  have hts0 := atoms_spec (ws := (Cond.code yX4_dividend cX4_dividend 8 (some .int) :: BW)) B.pre
  have hts : ∀ w ∈ BW, w.before ([.ref (ad 0 v0), .int v1, .int v2, .int v3, .int v4, .int v5] : List Value).toArray s = true := fun w h => hts0 w (List.mem_cons_of_mem _ h)
  have hown : s.vm.findClass RX4 = some m.cls := findClass_of_methodNamed B.named
  have hlocks := B.notSynchronized
  have hA : ∀ q : Nat, s.heap.size ≤ q → AA ad M0 s.heap.size q := fun q h => Or.inr h
  have C : Cx RX4 cX4_dividend 8 (some .int) D cy (AA ad M0 s.heap.size) p s m ([.ref (ad 0 v0), .int v1, .int v2, .int v3, .int v4, .int v5] : List Value).toArray meth c := ⟨hx, hb, hr, hml, hown, hts, hlocks, hK, hN, hA⟩
  have hP := hp_self (sz := s.heap.size) hP0
  have hS : va_S (AA ad M0 s.heap.size) s.heap s.heap [] := va_S.rf
  have hl := lv_entry ([.ref (ad 0 v0), .int v1, .int v2, .int v3, .int v4, .int v5]) (n := 8) (Nat.le_of_ble_eq_true rfl)
  rw [lg_entry_eq]
  generalize (lg_sl ([.ref (ad 0 v0), .int v1, .int v2, .int v3, .int v4, .int v5]) ++ List.replicate (8 - (lg_sl ([.ref (ad 0 v0), .int v1, .int v2, .int v3, .int v4, .int v5])).length) Slot.unset).toArray = ls at hl ⊢
  have hl : lv_has ls 8 [(0, .ref (ad 0 v0)), (1, .int v1), (2, .int v2), (3, .int v3), (4, .int v4), (5, .int v5)] := hl
  unfold f_X4_dividend at hf
  refine lv_aload_n hx hb dX4_dividend_0 rfl (lv_at hl 0 rfl) ?_
  refine lv_iload_n hx hb dX4_dividend_1 rfl (lv_at hl 1 rfl) ?_
  refine lv_iload_n hx hb dX4_dividend_2 rfl (lv_at hl 2 rfl) ?_
  obtain ⟨r42, e41, hf⟩ := ob_some hf
  refine hp_calli (va_runV (As := [.int v1, .int v2]) (rest := []) ⟨hx, hb, hml, hown, hts⟩ (ok_X4_poolOf l D cy ad M0 _ v0 v1 v2 r42 a0 e41) (cwV 2 hts (gdV q746 q748 q57 q86 q749) rfl rfl rfl (by decide +kernel) ⟨Nat.le_of_ble_eq_true rfl, Nat.le_of_ble_eq_true rfl⟩) (pre_V hP hK hN a0 ds_0 rfl) rfl rfl hl.1 rfl (lv_room (Nat.le_of_ble_eq_true rfl)) dX4_dividend_3 ⟨Nat.le_of_ble_eq_true rfl, Nat.le_of_ble_eq_true rfl⟩) hP hS hA (fun H locs hP hS _ => ?_)
  refine lv_istore (lv' := [(6, .int r42), (0, .ref (ad 0 v0)), (1, .int v1), (2, .int v2), (3, .int v3), (4, .int v4), (5, .int v5)]) hx hb dX4_dividend_6 hl (by decide) rfl (fun ls hl => ?_)
  refine lv_iload hx hb dX4_dividend_8 (lv_at hl 0 rfl) ?_
  refine lv_iconst (v := (-1 : Int32)) hx hb dX4_dividend_10 (by decide) ?_
  refine lv_icmp_eq (tgt := 24) hx hb dX4_dividend_11 (by decide) (fun c45 => ?_) (fun c45 => ?_)
  · have hf := if_t hf c45
    refine lv_iconst (v := (-1 : Int32)) hx hb dX4_dividend_24 (by decide) ?_
    exact hp_iret hx hb hr hlocks (congrArg Prod.fst (Option.some.inj hf)) (congrArg Prod.snd (Option.some.inj hf)) hP hS keep_rf dX4_dividend_25
  · have hf := if_f hf c45
    refine lv_aload_n hx hb dX4_dividend_14 rfl (lv_at hl 1 rfl) ?_
    have h46 : ∀ j : Nat, (mR M0 0 v0 8) = some j → mA M0 18 j = true := fun j hj => hp_wf hP a0 hj
    refine gf0 (v := va_rf (((mR M0 0 v0 8)).map (ad 18))) hx hb hts hown hK hP a0 8 (by decide) (hts _ q613) rfl rfl dX4_dividend_15 ?_
    refine lv_iload hx hb dX4_dividend_18 (lv_at hl 0 rfl) ?_
    obtain ⟨i47, e48, hf⟩ := ob_some hf
    have h49 : mA M0 18 i47 = true := h46 i47 e48
    refine W_stk (st := [.int r42, va_rf (((mR M0 0 v0 8)).map (ad 18))]) (st' := [.int r42, .ref (ad 18 i47)]) (by first | (rw [e48]; done) | (rw [e48]; rfl)) ?_
    obtain ⟨h50, hf⟩ := ix_some hf
    refine hp_iald hx hb hK hP h49 rfl h50 dX4_dividend_20 ?_
    refine lv_if_ne (tgt := 26) hx hb dX4_dividend_21 (by decide) (fun c51 => ?_) (fun c51 => ?_)
    · have hf := if_f hf c51
      refine lv_aload_n hx hb dX4_dividend_26 rfl (lv_at hl 1 rfl) ?_
      refine lv_iload_n hx hb dX4_dividend_27 rfl (lv_at hl 4 rfl) ?_
      refine lv_iload hx hb dX4_dividend_28 (lv_at hl 5 rfl) ?_
      refine lv_iload hx hb dX4_dividend_30 (lv_at hl 6 rfl) ?_
      obtain ⟨M54, e52, hf⟩ := ob_some hf
      refine hp_callv (va_runV (As := [.int v3, .int v4, .int v5]) (rest := []) ⟨hx, hb, hml, hown, hts⟩ (ok_X4_names l D cy ad M0 _ v0 v3 v4 v5 M54 a0 e52) (cwV 3 hts (gdV q758 q760 q60 q86 q761) rfl rfl rfl (by decide +kernel) ⟨Nat.le_of_ble_eq_true rfl, Nat.le_of_ble_eq_true rfl⟩) (pre_V hP hK hN a0 ds_0 rfl) rfl rfl hl.1 rfl (lv_room (Nat.le_of_ble_eq_true rfl)) dX4_dividend_32 ⟨Nat.le_of_ble_eq_true rfl, Nat.le_of_ble_eq_true rfl⟩) hP hS hA (fun H locs hP hS hk55 => ?_)
      refine lv_aload_n hx hb dX4_dividend_35 rfl (lv_at hl 1 rfl) ?_
      refine lv_iload hx hb dX4_dividend_36 (lv_at hl 0 rfl) ?_
      obtain ⟨r57, e56, hf⟩ := ob_some hf
      refine hp_calli (va_runV (As := [.int r42]) (rest := []) ⟨hx, hb, hml, hown, hts⟩ (ok_X4_named l D cy ad M54 _ v0 r42 r57 (hk55 _ _ a0) e56) (cwV 1 hts (gdV q762 q764 q61 q86 q765) rfl rfl rfl (by decide +kernel) ⟨Nat.le_of_ble_eq_true rfl, Nat.le_of_ble_eq_true rfl⟩) (pre_V hP hK hN (hk55 _ _ a0) ds_0 rfl) rfl rfl hl.1 rfl (lv_room (Nat.le_of_ble_eq_true rfl)) dX4_dividend_38 ⟨Nat.le_of_ble_eq_true rfl, Nat.le_of_ble_eq_true rfl⟩) hP hS hA (fun H locs hP hS _ => ?_)
      refine lv_if_ge (tgt := 46) hx hb dX4_dividend_41 (by decide) (fun c60 => ?_) (fun c60 => ?_)
      · have hf := if_t hf c60
        refine lv_iconst (v := (0 : Int32)) hx hb dX4_dividend_46 (by decide) ?_
        refine lv_istore (lv' := [(7, .int (0 : Int32)), (6, .int r42), (0, .ref (ad 0 v0)), (1, .int v1), (2, .int v2), (3, .int v3), (4, .int v4), (5, .int v5)]) hx hb dX4_dividend_47 hl (by decide) rfl (fun ls hl => ?_)
        exact t_X4_dividend_49 C FU v0 v3 v4 v5 r42 (0 : Int32) M54 _ _ _ (hk55 _ _ a0) (kt keep_rf hk55) hf hP hS (lv_sub hl [2, 5, 6, 7, 1, 0] rfl)
      · have hf := if_f hf c60
        refine lv_iconst (v := (-1 : Int32)) hx hb dX4_dividend_44 (by decide) ?_
        exact hp_iret hx hb hr hlocks (congrArg Prod.fst (Option.some.inj hf)) (congrArg Prod.snd (Option.some.inj hf)) hP hS (kt keep_rf hk55) dX4_dividend_45
    · have hf := if_t hf c51
      refine lv_iconst (v := (-1 : Int32)) hx hb dX4_dividend_24 (by decide) ?_
      exact hp_iret hx hb hr hlocks (congrArg Prod.fst (Option.some.inj hf)) (congrArg Prod.snd (Option.some.inj hf)) hP hS keep_rf dX4_dividend_25

def f_X4_pay (v0 : Nat) (v1 : Int32) (M0 : Mm) : Option (Int64 × Mm) :=
  ob (f_X4_in v1 (0 : Int32) ((mI M0 0 v0 19) - (1 : Int32)) M0) fun r86 => if r86 = 0 then (some ((-3 : Int64), M0)) else (ob (mR M0 0 v0 23) fun i91 => ix v1 600 (if (mI M0 30 i91 (v1).toNatClampNeg) = (1 : Int32) then (some ((-3 : Int64), M0)) else (ob (mR M0 0 v0 23) fun i97 => ix v1 600 (if (mI M0 30 i97 (v1).toNatClampNeg) = (3 : Int32) then (some ((-1 : Int64), M0)) else (ob (mR M0 0 v0 23) fun i103 => ix v1 600 (if (mI M0 30 i103 (v1).toNatClampNeg) = (2 : Int32) then (some ((0 : Int64), M0)) else (ob (mR M0 0 v0 20) fun i109 => ix v1 600 (lt (mI M0 27 i109 (v1).toNatClampNeg) fun x113 => ob (mR M0 0 v0 8) fun i116 => ix x113 53 (if (mI M0 18 i116 (x113).toNatClampNeg) = 0 then (some ((-2 : Int64), M0)) else (ob (mR M0 0 v0 8) fun i122 => ix x113 53 (if (mI M0 18 i122 (x113).toNatClampNeg) = (2 : Int32) then (some ((0 : Int64), M0)) else (ob (f_X4_holds v0 v1 M0) fun r128 => if r128 = 0 then (some ((0 : Int64), M0)) else (ob (mR M0 0 v0 23) fun i133 => ix v1 600 (lt (sI M0 30 i133 (v1).toNatClampNeg (3 : Int32)) fun M137 => ob (mR M137 0 v0 15) fun i141 => ix x113 53 (ob (mR M137 0 v0 24) fun i146 => ix v1 600 (ob (mR M137 0 v0 22) fun i151 => ix v1 600 (ix x113 53 (lt (sJ M137 25 i141 (x113).toNatClampNeg ((mJ M137 25 i141 (x113).toNatClampNeg) + ((mJ M137 31 i146 (v1).toNatClampNeg) * (((mI M137 29 i151 (v1).toNatClampNeg)).toInt64)))) fun M156 => ob (mR M156 0 v0 24) fun i160 => ix v1 600 (ob (mR M156 0 v0 22) fun i165 => ix v1 600 (some (((mJ M156 31 i160 (v1).toNatClampNeg) * (((mI M156 29 i165 (v1).toNatClampNeg)).toInt64)), M156)))))))))))))))))))))
set_option maxRecDepth 100000 in
set_option maxHeartbeats 4000000 in
theorem ok_X4_pay (l : Launch) (D : va_G) (cy : Nat → ClassId) (ad : Nat → Nat → Nat) (M0 : Mm) (sz : Nat) (v0 : Nat) (v1 : Int32) (r0 : Int64) (M' : Mm) (a0 : mA M0 0 v0 = true) (hf : f_X4_pay v0 v1 M0 = some (r0, M')) : Met l yX4_pay (Cond.code yX4_pay cX4_pay 3 (some .long) :: BW) { frames := 3, cells := 0, slots := 0, locals := 79 } (va_Pc [.ref (ad 0 v0), .int v1] (PRE D cy ad M0 sz)) (QJ D cy ad M0 sz r0 M') 0 0 (AA ad M0 sz) := by
  refine Met.ofW (cc := cX4_pay) (maxL := 3) (ret := (some .long)) (by decide) rfl ?_
  intro p e s m args below meth c s₁ B hml hv
  obtain ⟨rfl, rfl, hP0, hK, hN⟩ := hv
  have hx := B.exec
  have hb := B.bytes
  have hr := B.returns
  have hts0 := atoms_spec (ws := (Cond.code yX4_pay cX4_pay 3 (some .long) :: BW)) B.pre
  have hts : ∀ w ∈ BW, w.before ([.ref (ad 0 v0), .int v1] : List Value).toArray s = true := fun w h => hts0 w (List.mem_cons_of_mem _ h)
  have hown : s.vm.findClass RX4 = some m.cls := findClass_of_methodNamed B.named
  have hlocks := B.notSynchronized
  have hA : ∀ q : Nat, s.heap.size ≤ q → AA ad M0 s.heap.size q := fun q h => Or.inr h
  have C : Cx RX4 cX4_pay 3 (some .long) D cy (AA ad M0 s.heap.size) p s m ([.ref (ad 0 v0), .int v1] : List Value).toArray meth c := ⟨hx, hb, hr, hml, hown, hts, hlocks, hK, hN, hA⟩
  have hP := hp_self (sz := s.heap.size) hP0
  have hS : va_S (AA ad M0 s.heap.size) s.heap s.heap [] := va_S.rf
  have hl := lv_entry ([.ref (ad 0 v0), .int v1]) (n := 3) (Nat.le_of_ble_eq_true rfl)
  rw [lg_entry_eq]
  generalize (lg_sl ([.ref (ad 0 v0), .int v1]) ++ List.replicate (3 - (lg_sl ([.ref (ad 0 v0), .int v1])).length) Slot.unset).toArray = ls at hl ⊢
  have hl : lv_has ls 3 [(0, .ref (ad 0 v0)), (1, .int v1)] := hl
  unfold f_X4_pay at hf
  refine lv_iload_n hx hb dX4_pay_0 rfl (lv_at hl 1 rfl) ?_
  refine lv_iconst (v := (0 : Int32)) hx hb dX4_pay_1 (by decide) ?_
  refine lv_aload_n hx hb dX4_pay_2 rfl (lv_at hl 0 rfl) ?_
  refine gf0 (v := .int (mI M0 0 v0 19)) hx hb hts hown hK hP a0 19 (by decide) (hts _ q624) rfl rfl dX4_pay_3 ?_
  refine lv_iconst (v := (1 : Int32)) hx hb dX4_pay_6 (by decide) ?_
  refine lv_isub hx hb dX4_pay_7 ?_
  obtain ⟨r86, e85, hf⟩ := ob_some hf
  refine hp_calli (va_runS (As := [.int v1, .int (0 : Int32), .int ((mI M0 0 v0 19) - (1 : Int32))]) (rest := []) ⟨hx, hb, hml, hown, hts⟩ (ok_X4_in l D cy ad M0 _ v1 (0 : Int32) ((mI M0 0 v0 19) - (1 : Int32)) r86  e85) (va_cwS 3 hts (gdS q708 q709 q86 q710) rfl rfl rfl (by decide +kernel) ⟨Nat.le_of_ble_eq_true rfl, Nat.le_of_ble_eq_true rfl⟩) (pre_S hP hK hN) rfl rfl hl.1 rfl (lv_room (Nat.le_of_ble_eq_true rfl)) dX4_pay_8 ⟨Nat.le_of_ble_eq_true rfl, Nat.le_of_ble_eq_true rfl⟩) hP hS hA (fun H locs hP hS _ => ?_)
  refine lv_if_eq (tgt := 24) hx hb dX4_pay_11 (by decide) (fun c89 => ?_) (fun c89 => ?_)
  · have hf := if_t hf c89
    refine lv_ldc2 (v := (-3 : Int64)) hx hb hown (hts _ q890) dX4_pay_24 ?_
    exact hp_lret hx hb hr hlocks (congrArg Prod.fst (Option.some.inj hf)) (congrArg Prod.snd (Option.some.inj hf)) hP hS keep_rf dX4_pay_27
  · have hf := if_f hf c89
    refine lv_aload_n hx hb dX4_pay_14 rfl (lv_at hl 0 rfl) ?_
    have h90 : ∀ j : Nat, (mR M0 0 v0 23) = some j → mA M0 30 j = true := fun j hj => hp_wf hP a0 hj
    refine gf0 (v := va_rf (((mR M0 0 v0 23)).map (ad 30))) hx hb hts hown hK hP a0 23 (by decide) (hts _ q628) rfl rfl dX4_pay_15 ?_
    refine lv_iload_n hx hb dX4_pay_18 rfl (lv_at hl 1 rfl) ?_
    obtain ⟨i91, e92, hf⟩ := ob_some hf
    have h93 : mA M0 30 i91 = true := h90 i91 e92
    refine W_stk (st := [.int v1, va_rf (((mR M0 0 v0 23)).map (ad 30))]) (st' := [.int v1, .ref (ad 30 i91)]) (by first | (rw [e92]; done) | (rw [e92]; rfl)) ?_
    obtain ⟨h94, hf⟩ := ix_some hf
    refine hp_iald hx hb hK hP h93 rfl h94 dX4_pay_19 ?_
    refine lv_iconst (v := (1 : Int32)) hx hb dX4_pay_20 (by decide) ?_
    refine lv_icmp_ne (tgt := 28) hx hb dX4_pay_21 (by decide) (fun c95 => ?_) (fun c95 => ?_)
    · have hf := if_f hf c95
      refine lv_aload_n hx hb dX4_pay_28 rfl (lv_at hl 0 rfl) ?_
      have h96 : ∀ j : Nat, (mR M0 0 v0 23) = some j → mA M0 30 j = true := fun j hj => hp_wf hP a0 hj
      refine gf0 (v := va_rf (((mR M0 0 v0 23)).map (ad 30))) hx hb hts hown hK hP a0 23 (by decide) (hts _ q628) rfl rfl dX4_pay_29 ?_
      refine lv_iload_n hx hb dX4_pay_32 rfl (lv_at hl 1 rfl) ?_
      obtain ⟨i97, e98, hf⟩ := ob_some hf
      have h99 : mA M0 30 i97 = true := h96 i97 e98
      refine W_stk (st := [.int v1, va_rf (((mR M0 0 v0 23)).map (ad 30))]) (st' := [.int v1, .ref (ad 30 i97)]) (by first | (rw [e98]; done) | (rw [e98]; rfl)) ?_
      obtain ⟨h100, hf⟩ := ix_some hf
      refine hp_iald hx hb hK hP h99 rfl h100 dX4_pay_33 ?_
      refine lv_iconst (v := (3 : Int32)) hx hb dX4_pay_34 (by decide) ?_
      refine lv_icmp_ne (tgt := 42) hx hb dX4_pay_35 (by decide) (fun c101 => ?_) (fun c101 => ?_)
      · have hf := if_f hf c101
        refine lv_aload_n hx hb dX4_pay_42 rfl (lv_at hl 0 rfl) ?_
        have h102 : ∀ j : Nat, (mR M0 0 v0 23) = some j → mA M0 30 j = true := fun j hj => hp_wf hP a0 hj
        refine gf0 (v := va_rf (((mR M0 0 v0 23)).map (ad 30))) hx hb hts hown hK hP a0 23 (by decide) (hts _ q628) rfl rfl dX4_pay_43 ?_
        refine lv_iload_n hx hb dX4_pay_46 rfl (lv_at hl 1 rfl) ?_
        obtain ⟨i103, e104, hf⟩ := ob_some hf
        have h105 : mA M0 30 i103 = true := h102 i103 e104
        refine W_stk (st := [.int v1, va_rf (((mR M0 0 v0 23)).map (ad 30))]) (st' := [.int v1, .ref (ad 30 i103)]) (by first | (rw [e104]; done) | (rw [e104]; rfl)) ?_
        obtain ⟨h106, hf⟩ := ix_some hf
        refine hp_iald hx hb hK hP h105 rfl h106 dX4_pay_47 ?_
        refine lv_iconst (v := (2 : Int32)) hx hb dX4_pay_48 (by decide) ?_
        refine lv_icmp_ne (tgt := 54) hx hb dX4_pay_49 (by decide) (fun c107 => ?_) (fun c107 => ?_)
        · have hf := if_f hf c107
          refine lv_aload_n hx hb dX4_pay_54 rfl (lv_at hl 0 rfl) ?_
          have h108 : ∀ j : Nat, (mR M0 0 v0 20) = some j → mA M0 27 j = true := fun j hj => hp_wf hP a0 hj
          refine gf0 (v := va_rf (((mR M0 0 v0 20)).map (ad 27))) hx hb hts hown hK hP a0 20 (by decide) (hts _ q625) rfl rfl dX4_pay_55 ?_
          refine lv_iload_n hx hb dX4_pay_58 rfl (lv_at hl 1 rfl) ?_
          obtain ⟨i109, e110, hf⟩ := ob_some hf
          have h111 : mA M0 27 i109 = true := h108 i109 e110
          refine W_stk (st := [.int v1, va_rf (((mR M0 0 v0 20)).map (ad 27))]) (st' := [.int v1, .ref (ad 27 i109)]) (by first | (rw [e110]; done) | (rw [e110]; rfl)) ?_
          obtain ⟨h112, hf⟩ := ix_some hf
          refine hp_iald hx hb hK hP h111 rfl h112 dX4_pay_59 ?_
          obtain ⟨x113, e114, hf⟩ := lt_some hf
          refine W_topI e114 ?_
          refine lv_istore_n (lv' := [(2, .int x113), (0, .ref (ad 0 v0)), (1, .int v1)]) hx hb dX4_pay_60 rfl hl (by decide) rfl (fun ls hl => ?_)
          refine lv_aload_n hx hb dX4_pay_61 rfl (lv_at hl 1 rfl) ?_
          have h115 : ∀ j : Nat, (mR M0 0 v0 8) = some j → mA M0 18 j = true := fun j hj => hp_wf hP a0 hj
          refine gf0 (v := va_rf (((mR M0 0 v0 8)).map (ad 18))) hx hb hts hown hK hP a0 8 (by decide) (hts _ q613) rfl rfl dX4_pay_62 ?_
          refine lv_iload_n hx hb dX4_pay_65 rfl (lv_at hl 0 rfl) ?_
          obtain ⟨i116, e117, hf⟩ := ob_some hf
          have h118 : mA M0 18 i116 = true := h115 i116 e117
          refine W_stk (st := [.int x113, va_rf (((mR M0 0 v0 8)).map (ad 18))]) (st' := [.int x113, .ref (ad 18 i116)]) (by first | (rw [e117]; done) | (rw [e117]; rfl)) ?_
          obtain ⟨h119, hf⟩ := ix_some hf
          refine hp_iald hx hb hK hP h118 rfl h119 dX4_pay_66 ?_
          refine lv_if_ne (tgt := 74) hx hb dX4_pay_67 (by decide) (fun c120 => ?_) (fun c120 => ?_)
          · have hf := if_f hf c120
            refine lv_aload_n hx hb dX4_pay_74 rfl (lv_at hl 1 rfl) ?_
            have h121 : ∀ j : Nat, (mR M0 0 v0 8) = some j → mA M0 18 j = true := fun j hj => hp_wf hP a0 hj
            refine gf0 (v := va_rf (((mR M0 0 v0 8)).map (ad 18))) hx hb hts hown hK hP a0 8 (by decide) (hts _ q613) rfl rfl dX4_pay_75 ?_
            refine lv_iload_n hx hb dX4_pay_78 rfl (lv_at hl 0 rfl) ?_
            obtain ⟨i122, e123, hf⟩ := ob_some hf
            have h124 : mA M0 18 i122 = true := h121 i122 e123
            refine W_stk (st := [.int x113, va_rf (((mR M0 0 v0 8)).map (ad 18))]) (st' := [.int x113, .ref (ad 18 i122)]) (by first | (rw [e123]; done) | (rw [e123]; rfl)) ?_
            obtain ⟨h125, hf⟩ := ix_some hf
            refine hp_iald hx hb hK hP h124 rfl h125 dX4_pay_79 ?_
            refine lv_iconst (v := (2 : Int32)) hx hb dX4_pay_80 (by decide) ?_
            refine lv_icmp_eq (tgt := 92) hx hb dX4_pay_81 (by decide) (fun c126 => ?_) (fun c126 => ?_)
            · have hf := if_t hf c126
              refine lv_lconst (v := (0 : Int64)) hx hb dX4_pay_92 (by decide) ?_
              exact hp_lret hx hb hr hlocks (congrArg Prod.fst (Option.some.inj hf)) (congrArg Prod.snd (Option.some.inj hf)) hP hS keep_rf dX4_pay_93
            · have hf := if_f hf c126
              refine lv_aload_n hx hb dX4_pay_84 rfl (lv_at hl 1 rfl) ?_
              refine lv_iload_n hx hb dX4_pay_85 rfl (lv_at hl 2 rfl) ?_
              obtain ⟨r128, e127, hf⟩ := ob_some hf
              refine hp_calli (va_runV (As := [.int v1]) (rest := []) ⟨hx, hb, hml, hown, hts⟩ (ok_X4_holds l D cy ad M0 _ v0 v1 r128 a0 e127) (cwV 1 hts (gdV q824 q826 q70 q86 q827) rfl rfl rfl (by decide +kernel) ⟨Nat.le_of_ble_eq_true rfl, Nat.le_of_ble_eq_true rfl⟩) (pre_V hP hK hN a0 ds_0 rfl) rfl rfl hl.1 rfl (lv_room (Nat.le_of_ble_eq_true rfl)) dX4_pay_86 ⟨Nat.le_of_ble_eq_true rfl, Nat.le_of_ble_eq_true rfl⟩) hP hS hA (fun H locs hP hS _ => ?_)
              refine lv_if_ne (tgt := 94) hx hb dX4_pay_89 (by decide) (fun c131 => ?_) (fun c131 => ?_)
              · have hf := if_f hf c131
                refine lv_aload_n hx hb dX4_pay_94 rfl (lv_at hl 1 rfl) ?_
                have h132 : ∀ j : Nat, (mR M0 0 v0 23) = some j → mA M0 30 j = true := fun j hj => hp_wf hP a0 hj
                refine gf0 (v := va_rf (((mR M0 0 v0 23)).map (ad 30))) hx hb hts hown hK hP a0 23 (by decide) (hts _ q628) rfl rfl dX4_pay_95 ?_
                refine lv_iload_n hx hb dX4_pay_98 rfl (lv_at hl 2 rfl) ?_
                refine lv_iconst (v := (3 : Int32)) hx hb dX4_pay_99 (by decide) ?_
                obtain ⟨i133, e134, hf⟩ := ob_some hf
                have h135 : mA M0 30 i133 = true := h132 i133 e134
                refine W_stk (st := [.int (3 : Int32), .int v1, va_rf (((mR M0 0 v0 23)).map (ad 30))]) (st' := [.int (3 : Int32), .int v1, .ref (ad 30 i133)]) (by first | (rw [e134]; done) | (rw [e134]; rfl)) ?_
                obtain ⟨h136, hf⟩ := ix_some hf
                obtain ⟨M137, e138, hf⟩ := lt_some hf
                have hk139 : Keep M0 M137 := keI e138
                refine hp_iast hx hb hK hP hS h135 rfl h136 dX4_pay_100 (fun H locs hP hS => ?_)
                rw [← e138] at hP
                refine lv_aload_n hx hb dX4_pay_101 rfl (lv_at hl 1 rfl) ?_
                have h140 : ∀ j : Nat, (mR M137 0 v0 15) = some j → mA M137 25 j = true := fun j hj => hp_wf hP (hk139 _ _ a0) hj
                refine gf0 (v := va_rf (((mR M137 0 v0 15)).map (ad 25))) hx hb hts hown hK hP (hk139 _ _ a0) 15 (by decide) (hts _ q620) rfl rfl dX4_pay_102 ?_
                refine lv_iload_n hx hb dX4_pay_105 rfl (lv_at hl 0 rfl) ?_
                obtain ⟨i141, e142, hf⟩ := ob_some hf
                have h143 : mA M137 25 i141 = true := h140 i141 e142
                refine W_stk (st := [.int x113, va_rf (((mR M137 0 v0 15)).map (ad 25))]) (st' := [.int x113, .ref (ad 25 i141)]) (by first | (rw [e142]; done) | (rw [e142]; rfl)) ?_
                refine lv_dup2_11 hx hb dX4_pay_106 rfl rfl ?_
                obtain ⟨h144, hf⟩ := ix_some hf
                refine hp_lald hx hb hK hP h143 rfl h144 dX4_pay_107 ?_
                refine lv_aload_n hx hb dX4_pay_108 rfl (lv_at hl 1 rfl) ?_
                have h145 : ∀ j : Nat, (mR M137 0 v0 24) = some j → mA M137 31 j = true := fun j hj => hp_wf hP (hk139 _ _ a0) hj
                refine gf0 (v := va_rf (((mR M137 0 v0 24)).map (ad 31))) hx hb hts hown hK hP (hk139 _ _ a0) 24 (by decide) (hts _ q629) rfl rfl dX4_pay_109 ?_
                refine lv_iload_n hx hb dX4_pay_112 rfl (lv_at hl 2 rfl) ?_
                obtain ⟨i146, e147, hf⟩ := ob_some hf
                have h148 : mA M137 31 i146 = true := h145 i146 e147
                refine W_stk (st := [.int v1, va_rf (((mR M137 0 v0 24)).map (ad 31)), .long (mJ M137 25 i141 (x113).toNatClampNeg), .int x113, .ref (ad 25 i141)]) (st' := [.int v1, .ref (ad 31 i146), .long (mJ M137 25 i141 (x113).toNatClampNeg), .int x113, .ref (ad 25 i141)]) (by first | (rw [e147]; done) | (rw [e147]; rfl)) ?_
                obtain ⟨h149, hf⟩ := ix_some hf
                refine hp_lald hx hb hK hP h148 rfl h149 dX4_pay_113 ?_
                refine lv_aload_n hx hb dX4_pay_114 rfl (lv_at hl 1 rfl) ?_
                have h150 : ∀ j : Nat, (mR M137 0 v0 22) = some j → mA M137 29 j = true := fun j hj => hp_wf hP (hk139 _ _ a0) hj
                refine gf0 (v := va_rf (((mR M137 0 v0 22)).map (ad 29))) hx hb hts hown hK hP (hk139 _ _ a0) 22 (by decide) (hts _ q627) rfl rfl dX4_pay_115 ?_
                refine lv_iload_n hx hb dX4_pay_118 rfl (lv_at hl 2 rfl) ?_
                obtain ⟨i151, e152, hf⟩ := ob_some hf
                have h153 : mA M137 29 i151 = true := h150 i151 e152
                refine W_stk (st := [.int v1, va_rf (((mR M137 0 v0 22)).map (ad 29)), .long (mJ M137 31 i146 (v1).toNatClampNeg), .long (mJ M137 25 i141 (x113).toNatClampNeg), .int x113, .ref (ad 25 i141)]) (st' := [.int v1, .ref (ad 29 i151), .long (mJ M137 31 i146 (v1).toNatClampNeg), .long (mJ M137 25 i141 (x113).toNatClampNeg), .int x113, .ref (ad 25 i141)]) (by first | (rw [e152]; done) | (rw [e152]; rfl)) ?_
                obtain ⟨h154, hf⟩ := ix_some hf
                refine hp_iald hx hb hK hP h153 rfl h154 dX4_pay_119 ?_
                refine lv_i2l hx hb dX4_pay_120 rfl ?_
                refine lv_lmul hx hb dX4_pay_121 ?_
                refine lv_ladd hx hb dX4_pay_122 ?_
                obtain ⟨h155, hf⟩ := ix_some hf
                obtain ⟨M156, e157, hf⟩ := lt_some hf
                have hk158 : Keep M137 M156 := keJ e157
                refine hp_last hx hb hK hP hS h143 rfl h155 dX4_pay_123 (fun H locs hP hS => ?_)
                rw [← e157] at hP
                refine lv_aload_n hx hb dX4_pay_124 rfl (lv_at hl 1 rfl) ?_
                have h159 : ∀ j : Nat, (mR M156 0 v0 24) = some j → mA M156 31 j = true := fun j hj => hp_wf hP (hk158 _ _ (hk139 _ _ a0)) hj
                refine gf0 (v := va_rf (((mR M156 0 v0 24)).map (ad 31))) hx hb hts hown hK hP (hk158 _ _ (hk139 _ _ a0)) 24 (by decide) (hts _ q629) rfl rfl dX4_pay_125 ?_
                refine lv_iload_n hx hb dX4_pay_128 rfl (lv_at hl 2 rfl) ?_
                obtain ⟨i160, e161, hf⟩ := ob_some hf
                have h162 : mA M156 31 i160 = true := h159 i160 e161
                refine W_stk (st := [.int v1, va_rf (((mR M156 0 v0 24)).map (ad 31))]) (st' := [.int v1, .ref (ad 31 i160)]) (by first | (rw [e161]; done) | (rw [e161]; rfl)) ?_
                obtain ⟨h163, hf⟩ := ix_some hf
                refine hp_lald hx hb hK hP h162 rfl h163 dX4_pay_129 ?_
                refine lv_aload_n hx hb dX4_pay_130 rfl (lv_at hl 1 rfl) ?_
                have h164 : ∀ j : Nat, (mR M156 0 v0 22) = some j → mA M156 29 j = true := fun j hj => hp_wf hP (hk158 _ _ (hk139 _ _ a0)) hj
                refine gf0 (v := va_rf (((mR M156 0 v0 22)).map (ad 29))) hx hb hts hown hK hP (hk158 _ _ (hk139 _ _ a0)) 22 (by decide) (hts _ q627) rfl rfl dX4_pay_131 ?_
                refine lv_iload_n hx hb dX4_pay_134 rfl (lv_at hl 2 rfl) ?_
                obtain ⟨i165, e166, hf⟩ := ob_some hf
                have h167 : mA M156 29 i165 = true := h164 i165 e166
                refine W_stk (st := [.int v1, va_rf (((mR M156 0 v0 22)).map (ad 29)), .long (mJ M156 31 i160 (v1).toNatClampNeg)]) (st' := [.int v1, .ref (ad 29 i165), .long (mJ M156 31 i160 (v1).toNatClampNeg)]) (by first | (rw [e166]; done) | (rw [e166]; rfl)) ?_
                obtain ⟨h168, hf⟩ := ix_some hf
                refine hp_iald hx hb hK hP h167 rfl h168 dX4_pay_135 ?_
                refine lv_i2l hx hb dX4_pay_136 rfl ?_
                refine lv_lmul hx hb dX4_pay_137 ?_
                exact hp_lret hx hb hr hlocks (congrArg Prod.fst (Option.some.inj hf)) (congrArg Prod.snd (Option.some.inj hf)) hP hS (kt (kt keep_rf hk139) hk158) dX4_pay_138
              · have hf := if_t hf c131
                refine lv_lconst (v := (0 : Int64)) hx hb dX4_pay_92 (by decide) ?_
                exact hp_lret hx hb hr hlocks (congrArg Prod.fst (Option.some.inj hf)) (congrArg Prod.snd (Option.some.inj hf)) hP hS keep_rf dX4_pay_93
          · have hf := if_t hf c120
            refine lv_ldc2 (v := (-2 : Int64)) hx hb hown (hts _ q892) dX4_pay_70 ?_
            exact hp_lret hx hb hr hlocks (congrArg Prod.fst (Option.some.inj hf)) (congrArg Prod.snd (Option.some.inj hf)) hP hS keep_rf dX4_pay_73
        · have hf := if_t hf c107
          refine lv_lconst (v := (0 : Int64)) hx hb dX4_pay_52 (by decide) ?_
          exact hp_lret hx hb hr hlocks (congrArg Prod.fst (Option.some.inj hf)) (congrArg Prod.snd (Option.some.inj hf)) hP hS keep_rf dX4_pay_53
      · have hf := if_t hf c101
        refine lv_ldc2 (v := (-1 : Int64)) hx hb hown (hts _ q891) dX4_pay_38 ?_
        exact hp_lret hx hb hr hlocks (congrArg Prod.fst (Option.some.inj hf)) (congrArg Prod.snd (Option.some.inj hf)) hP hS keep_rf dX4_pay_41
    · have hf := if_t hf c95
      refine lv_ldc2 (v := (-3 : Int64)) hx hb hown (hts _ q890) dX4_pay_24 ?_
      exact hp_lret hx hb hr hlocks (congrArg Prod.fst (Option.some.inj hf)) (congrArg Prod.snd (Option.some.inj hf)) hP hS keep_rf dX4_pay_27
def f_X4_unitsIn_4 (M0 : Mm) : Nat → Nat → Int32 → Int32 → Int32 → Option Int32
  | 0, _, _, _, _ => none
  | n + 1, v0, v1, v2, v3 => if (mI M0 0 v0 19) ≤ v3 then (some v2) else (ob (mR M0 0 v0 20) fun i32 => ix v3 600 (if (mI M0 27 i32 (v3).toNatClampNeg) = v1 then (ob (f_X4_counts v0 v3 M0) fun r42 => if r42 = 0 then (lt (v2 + (0 : Int32)) fun x46 => lt (v3 + (1 : Int32)) fun x48 => f_X4_unitsIn_4 M0 n v0 v1 x46 x48) else (ob (mR M0 0 v0 22) fun i51 => ix v3 600 (lt (v2 + (mI M0 29 i51 (v3).toNatClampNeg)) fun x55 => lt (v3 + (1 : Int32)) fun x57 => f_X4_unitsIn_4 M0 n v0 v1 x55 x57))) else (lt (v2 + (0 : Int32)) fun x37 => lt (v3 + (1 : Int32)) fun x39 => f_X4_unitsIn_4 M0 n v0 v1 x37 x39)))
def f_X4_unitsIn (v0 : Nat) (v1 : Int32) (M0 : Mm) : Option Int32 :=
  f_X4_unitsIn_4 M0 FU v0 v1 (0 : Int32) (0 : Int32)
set_option maxRecDepth 100000 in
set_option maxHeartbeats 4000000 in
theorem t_X4_unitsIn_4 {p : Program} {l : Launch} {e : Env} {s : State} {m : MethodId} {args : Array Value} {below : List Frame} {meth : Method} {c : Code} {D : va_G} {cy : Nat → ClassId} {ad : Nat → Nat → Nat} {M0 : Mm} {r0 : Int32} (C : Cx RX4 cX4_unitsIn 4 (some .int) D cy (AA ad M0 s.heap.size) p s m args meth c) : ∀ (n : Nat), ∀ (v0 : Nat) (v1 : Int32) (v2 : Int32) (v3 : Int32) (H : Heap) (locs : List Loc) (ls : Array Slot), (mA M0 0 v0 = true) → f_X4_unitsIn_4 M0 n v0 v1 v2 v3 = some r0 → HP D cy (AA ad M0 s.heap.size) ad M0 H → va_S (AA ad M0 s.heap.size) s.heap H locs → lv_has ls 4 [(0, .ref (ad 0 v0)), (1, .int v1), (2, .int v2), (3, .int v3)] → W p l e { frames := 1, cells := 0, slots := 0, locals := 21 } s m args below meth c H locs 0 0 (MQ below (QI D cy ad M0 s.heap.size r0 M0) args s 0 0 (AA ad M0 s.heap.size)) (F0 m 4 ls []) := by
  obtain ⟨hx, hb, hr, hml, hown, hts, hlocks, hK, hN, hA⟩ := id C
  intro n
  induction n with
  | zero =>
    intro v0 v1 v2 v3 H locs ls a0 hf hP hS hl
    simp [f_X4_unitsIn_4] at hf
  | succ n ih =>
    intro v0 v1 v2 v3 H locs ls a0 hf hP hS hl
    rw [f_X4_unitsIn_4] at hf
    refine lv_iload_n hx hb dX4_unitsIn_4 rfl (lv_at hl 3 rfl) ?_
    refine lv_aload_n hx hb dX4_unitsIn_5 rfl (lv_at hl 0 rfl) ?_
    refine gf0 (v := .int (mI M0 0 v0 19)) hx hb hts hown hK hP a0 19 (by decide) (hts _ q624) rfl rfl dX4_unitsIn_6 ?_
    refine lv_icmp_ge (tgt := 49) hx hb dX4_unitsIn_9 (by decide) (fun c30 => ?_) (fun c30 => ?_)
    · have hf := if_t hf c30
      refine lv_iload_n hx hb dX4_unitsIn_49 rfl (lv_at hl 2 rfl) ?_
      exact hp_iret hx hb hr hlocks (Option.some.inj hf) rfl hP hS keep_rf dX4_unitsIn_50
    · have hf := if_f hf c30
      refine lv_iload_n hx hb dX4_unitsIn_12 rfl (lv_at hl 2 rfl) ?_
      refine lv_aload_n hx hb dX4_unitsIn_13 rfl (lv_at hl 0 rfl) ?_
      have h31 : ∀ j : Nat, (mR M0 0 v0 20) = some j → mA M0 27 j = true := fun j hj => hp_wf hP a0 hj
      refine gf0 (v := va_rf (((mR M0 0 v0 20)).map (ad 27))) hx hb hts hown hK hP a0 20 (by decide) (hts _ q625) rfl rfl dX4_unitsIn_14 ?_
      refine lv_iload_n hx hb dX4_unitsIn_17 rfl (lv_at hl 3 rfl) ?_
      obtain ⟨i32, e33, hf⟩ := ob_some hf
      have h34 : mA M0 27 i32 = true := h31 i32 e33
      refine W_stk (st := [.int v3, va_rf (((mR M0 0 v0 20)).map (ad 27)), .int v2]) (st' := [.int v3, .ref (ad 27 i32), .int v2]) (by first | (rw [e33]; done) | (rw [e33]; rfl)) ?_
      obtain ⟨h35, hf⟩ := ix_some hf
      refine hp_iald hx hb hK hP h34 rfl h35 dX4_unitsIn_18 ?_
      refine lv_iload_n hx hb dX4_unitsIn_19 rfl (lv_at hl 1 rfl) ?_
      refine lv_icmp_ne (tgt := 40) hx hb dX4_unitsIn_20 (by decide) (fun c36 => ?_) (fun c36 => ?_)
      · have hf := if_f hf c36
        refine lv_iconst (v := (0 : Int32)) hx hb dX4_unitsIn_40 (by decide) ?_
        refine lv_iadd hx hb dX4_unitsIn_41 ?_
        obtain ⟨x37, e38, hf⟩ := lt_some hf
        refine W_topI e38 ?_
        refine lv_istore_n (lv' := [(2, .int x37), (0, .ref (ad 0 v0)), (1, .int v1), (3, .int v3)]) hx hb dX4_unitsIn_42 rfl hl (by decide) rfl (fun ls hl => ?_)
        obtain ⟨x39, e40, hf⟩ := lt_some hf
        refine lv_iinc (v := x39) (lv' := [(3, .int x39), (2, .int x37), (0, .ref (ad 0 v0)), (1, .int v1)]) hx hb dX4_unitsIn_43 hl (k := 3) rfl (by rw [e40]; rfl) (by decide) rfl (fun ls hl => ?_)
        refine lv_goto (tgt := 4) hx hb dX4_unitsIn_46 (by decide) ?_
        exact ih v0 v1 x37 x39 _ _ _ a0 hf hP hS (lv_sub hl [2, 3, 1, 0] rfl)
      · have hf := if_t hf c36
        refine lv_aload_n hx hb dX4_unitsIn_23 rfl (lv_at hl 0 rfl) ?_
        refine lv_iload_n hx hb dX4_unitsIn_24 rfl (lv_at hl 3 rfl) ?_
        obtain ⟨r42, e41, hf⟩ := ob_some hf
        refine hp_calli (va_runV (As := [.int v3]) (rest := [.int v2]) ⟨hx, hb, hml, hown, hts⟩ (ok_X4_counts l D cy ad M0 _ v0 v3 r42 a0 e41) (cwV 1 hts (gdV q820 q822 q69 q86 q823) rfl rfl rfl (by decide +kernel) ⟨Nat.le_of_ble_eq_true rfl, Nat.le_of_ble_eq_true rfl⟩) (pre_V hP hK hN a0 ds_0 rfl) rfl rfl hl.1 rfl (lv_room (Nat.le_of_ble_eq_true rfl)) dX4_unitsIn_25 ⟨Nat.le_of_ble_eq_true rfl, Nat.le_of_ble_eq_true rfl⟩) hP hS hA (fun H locs hP hS _ => ?_)
        refine lv_if_eq (tgt := 40) hx hb dX4_unitsIn_28 (by decide) (fun c45 => ?_) (fun c45 => ?_)
        · have hf := if_t hf c45
          refine lv_iconst (v := (0 : Int32)) hx hb dX4_unitsIn_40 (by decide) ?_
          refine lv_iadd hx hb dX4_unitsIn_41 ?_
          obtain ⟨x46, e47, hf⟩ := lt_some hf
          refine W_topI e47 ?_
          refine lv_istore_n (lv' := [(2, .int x46), (0, .ref (ad 0 v0)), (1, .int v1), (3, .int v3)]) hx hb dX4_unitsIn_42 rfl hl (by decide) rfl (fun ls hl => ?_)
          obtain ⟨x48, e49, hf⟩ := lt_some hf
          refine lv_iinc (v := x48) (lv' := [(3, .int x48), (2, .int x46), (0, .ref (ad 0 v0)), (1, .int v1)]) hx hb dX4_unitsIn_43 hl (k := 3) rfl (by rw [e49]; rfl) (by decide) rfl (fun ls hl => ?_)
          refine lv_goto (tgt := 4) hx hb dX4_unitsIn_46 (by decide) ?_
          exact ih v0 v1 x46 x48 _ _ _ a0 hf hP hS (lv_sub hl [2, 3, 1, 0] rfl)
        · have hf := if_f hf c45
          refine lv_aload_n hx hb dX4_unitsIn_31 rfl (lv_at hl 0 rfl) ?_
          have h50 : ∀ j : Nat, (mR M0 0 v0 22) = some j → mA M0 29 j = true := fun j hj => hp_wf hP a0 hj
          refine gf0 (v := va_rf (((mR M0 0 v0 22)).map (ad 29))) hx hb hts hown hK hP a0 22 (by decide) (hts _ q627) rfl rfl dX4_unitsIn_32 ?_
          refine lv_iload_n hx hb dX4_unitsIn_35 rfl (lv_at hl 3 rfl) ?_
          obtain ⟨i51, e52, hf⟩ := ob_some hf
          have h53 : mA M0 29 i51 = true := h50 i51 e52
          refine W_stk (st := [.int v3, va_rf (((mR M0 0 v0 22)).map (ad 29)), .int v2]) (st' := [.int v3, .ref (ad 29 i51), .int v2]) (by first | (rw [e52]; done) | (rw [e52]; rfl)) ?_
          obtain ⟨h54, hf⟩ := ix_some hf
          refine hp_iald hx hb hK hP h53 rfl h54 dX4_unitsIn_36 ?_
          refine lv_goto (tgt := 41) hx hb dX4_unitsIn_37 (by decide) ?_
          refine lv_iadd hx hb dX4_unitsIn_41 ?_
          obtain ⟨x55, e56, hf⟩ := lt_some hf
          refine W_topI e56 ?_
          refine lv_istore_n (lv' := [(2, .int x55), (0, .ref (ad 0 v0)), (1, .int v1), (3, .int v3)]) hx hb dX4_unitsIn_42 rfl hl (by decide) rfl (fun ls hl => ?_)
          obtain ⟨x57, e58, hf⟩ := lt_some hf
          refine lv_iinc (v := x57) (lv' := [(3, .int x57), (2, .int x55), (0, .ref (ad 0 v0)), (1, .int v1)]) hx hb dX4_unitsIn_43 hl (k := 3) rfl (by rw [e58]; rfl) (by decide) rfl (fun ls hl => ?_)
          refine lv_goto (tgt := 4) hx hb dX4_unitsIn_46 (by decide) ?_
          exact ih v0 v1 x55 x57 _ _ _ a0 hf hP hS (lv_sub hl [2, 3, 1, 0] rfl)
set_option maxRecDepth 100000 in
set_option maxHeartbeats 4000000 in
theorem ok_X4_unitsIn (l : Launch) (D : va_G) (cy : Nat → ClassId) (ad : Nat → Nat → Nat) (M0 : Mm) (sz : Nat) (v0 : Nat) (v1 : Int32) (r0 : Int32) (a0 : mA M0 0 v0 = true) (hf : f_X4_unitsIn v0 v1 M0 = some r0) : Met l yX4_unitsIn (Cond.code yX4_unitsIn cX4_unitsIn 4 (some .int) :: BW) { frames := 1, cells := 0, slots := 0, locals := 21 } (va_Pc [.ref (ad 0 v0), .int v1] (PRE D cy ad M0 sz)) (QI D cy ad M0 sz r0 M0) 0 0 (AA ad M0 sz) := by
  refine Met.ofW (cc := cX4_unitsIn) (maxL := 4) (ret := (some .int)) (by decide) rfl ?_
  intro p e s m args below meth c s₁ B hml hv
  obtain ⟨rfl, rfl, hP0, hK, hN⟩ := hv
  have hx := B.exec
  have hb := B.bytes
  have hr := B.returns
  have hts0 := atoms_spec (ws := (Cond.code yX4_unitsIn cX4_unitsIn 4 (some .int) :: BW)) B.pre
  have hts : ∀ w ∈ BW, w.before ([.ref (ad 0 v0), .int v1] : List Value).toArray s = true := fun w h => hts0 w (List.mem_cons_of_mem _ h)
  have hown : s.vm.findClass RX4 = some m.cls := findClass_of_methodNamed B.named
  have hlocks := B.notSynchronized
  have hA : ∀ q : Nat, s.heap.size ≤ q → AA ad M0 s.heap.size q := fun q h => Or.inr h
  have C : Cx RX4 cX4_unitsIn 4 (some .int) D cy (AA ad M0 s.heap.size) p s m ([.ref (ad 0 v0), .int v1] : List Value).toArray meth c := ⟨hx, hb, hr, hml, hown, hts, hlocks, hK, hN, hA⟩
  have hP := hp_self (sz := s.heap.size) hP0
  have hS : va_S (AA ad M0 s.heap.size) s.heap s.heap [] := va_S.rf
  have hl := lv_entry ([.ref (ad 0 v0), .int v1]) (n := 4) (Nat.le_of_ble_eq_true rfl)
  rw [lg_entry_eq]
  generalize (lg_sl ([.ref (ad 0 v0), .int v1]) ++ List.replicate (4 - (lg_sl ([.ref (ad 0 v0), .int v1])).length) Slot.unset).toArray = ls at hl ⊢
  have hl : lv_has ls 4 [(0, .ref (ad 0 v0)), (1, .int v1)] := hl
  unfold f_X4_unitsIn at hf
  refine lv_iconst (v := (0 : Int32)) hx hb dX4_unitsIn_0 (by decide) ?_
  refine lv_istore_n (lv' := [(2, .int (0 : Int32)), (0, .ref (ad 0 v0)), (1, .int v1)]) hx hb dX4_unitsIn_1 rfl hl (by decide) rfl (fun ls hl => ?_)
  refine lv_iconst (v := (0 : Int32)) hx hb dX4_unitsIn_2 (by decide) ?_
  refine lv_istore_n (lv' := [(3, .int (0 : Int32)), (2, .int (0 : Int32)), (0, .ref (ad 0 v0)), (1, .int v1)]) hx hb dX4_unitsIn_3 rfl hl (by decide) rfl (fun ls hl => ?_)
  exact t_X4_unitsIn_4 C FU v0 v1 (0 : Int32) (0 : Int32) _ _ _ a0 hf hP hS (lv_sub hl [2, 3, 1, 0] rfl)

def f_X4_sum (v0 : Nat) (v1 : Int32) (v2 : Int32) (v3 : Int32) (M0 : Mm) : Option Int64 :=
  ob (f_X4_poolOf v0 v1 v2 M0) fun r76 => if r76 = (-1 : Int32) then (some (-1 : Int64)) else (if v3 = (0 : Int32) then (ob (f_X4_staked v0 r76 (0 : Int32) M0) fun r82 => some r82) else (if v3 = (1 : Int32) then (ob (f_X4_staked v0 r76 (1 : Int32) M0) fun r87 => some r87) else (if v3 = (2 : Int32) then (ob (mR M0 0 v0 9) fun i92 => ix r76 53 (some (mJ M0 19 i92 (r76).toNatClampNeg))) else (if v3 = (3 : Int32) then (ob (mR M0 0 v0 10) fun i98 => ix r76 53 (some (mJ M0 20 i98 (r76).toNatClampNeg))) else (if v3 = (4 : Int32) then (ob (mR M0 0 v0 11) fun i104 => ix r76 53 (some (mJ M0 21 i104 (r76).toNatClampNeg))) else (if v3 = (5 : Int32) then (ob (mR M0 0 v0 12) fun i110 => ix r76 53 (some (mJ M0 22 i110 (r76).toNatClampNeg))) else (if v3 = (6 : Int32) then (ob (mR M0 0 v0 13) fun i116 => ix r76 53 (some (mJ M0 23 i116 (r76).toNatClampNeg))) else (if v3 = (7 : Int32) then (ob (mR M0 0 v0 14) fun i122 => ix r76 53 (some (mJ M0 24 i122 (r76).toNatClampNeg))) else (if v3 = (8 : Int32) then (ob (mR M0 0 v0 15) fun i128 => ix r76 53 (some (mJ M0 25 i128 (r76).toNatClampNeg))) else (if v3 = (9 : Int32) then (ob (f_X4_unitsIn v0 r76 M0) fun r134 => some (r134.toInt64)) else (if v3 = (10 : Int32) then (ob (mR M0 0 v0 16) fun i139 => ix r76 53 (some (((mI M0 26 i139 (r76).toNatClampNeg)).toInt64))) else (if v3 = (11 : Int32) then (ob (mR M0 0 v0 8) fun i145 => ix r76 53 (some (((mI M0 18 i145 (r76).toNatClampNeg)).toInt64))) else (some (-1 : Int64))))))))))))))
set_option maxRecDepth 100000 in
set_option maxHeartbeats 4000000 in
theorem ok_X4_sum (l : Launch) (D : va_G) (cy : Nat → ClassId) (ad : Nat → Nat → Nat) (M0 : Mm) (sz : Nat) (v0 : Nat) (v1 : Int32) (v2 : Int32) (v3 : Int32) (r0 : Int64) (a0 : mA M0 0 v0 = true) (hf : f_X4_sum v0 v1 v2 v3 M0 = some r0) : Met l yX4_sum (Cond.code yX4_sum cX4_sum 5 (some .long) :: BW) { frames := 3, cells := 0, slots := 0, locals := 65 } (va_Pc [.ref (ad 0 v0), .int v1, .int v2, .int v3] (PRE D cy ad M0 sz)) (QJ D cy ad M0 sz r0 M0) 0 0 (AA ad M0 sz) := by
  refine Met.ofW (cc := cX4_sum) (maxL := 5) (ret := (some .long)) (by decide) rfl ?_
  intro p e s m args below meth c s₁ B hml hv
  obtain ⟨rfl, rfl, hP0, hK, hN⟩ := hv
  have hx := B.exec
  have hb := B.bytes
  have hr := B.returns
  have hts0 := atoms_spec (ws := (Cond.code yX4_sum cX4_sum 5 (some .long) :: BW)) B.pre
  have hts : ∀ w ∈ BW, w.before ([.ref (ad 0 v0), .int v1, .int v2, .int v3] : List Value).toArray s = true := fun w h => hts0 w (List.mem_cons_of_mem _ h)
  have hown : s.vm.findClass RX4 = some m.cls := findClass_of_methodNamed B.named
  have hlocks := B.notSynchronized
  have hA : ∀ q : Nat, s.heap.size ≤ q → AA ad M0 s.heap.size q := fun q h => Or.inr h
  have C : Cx RX4 cX4_sum 5 (some .long) D cy (AA ad M0 s.heap.size) p s m ([.ref (ad 0 v0), .int v1, .int v2, .int v3] : List Value).toArray meth c := ⟨hx, hb, hr, hml, hown, hts, hlocks, hK, hN, hA⟩
  have hP := hp_self (sz := s.heap.size) hP0
  have hS : va_S (AA ad M0 s.heap.size) s.heap s.heap [] := va_S.rf
  have hl := lv_entry ([.ref (ad 0 v0), .int v1, .int v2, .int v3]) (n := 5) (Nat.le_of_ble_eq_true rfl)
  rw [lg_entry_eq]
  generalize (lg_sl ([.ref (ad 0 v0), .int v1, .int v2, .int v3]) ++ List.replicate (5 - (lg_sl ([.ref (ad 0 v0), .int v1, .int v2, .int v3])).length) Slot.unset).toArray = ls at hl ⊢
  have hl : lv_has ls 5 [(0, .ref (ad 0 v0)), (1, .int v1), (2, .int v2), (3, .int v3)] := hl
  unfold f_X4_sum at hf
  refine lv_aload_n hx hb dX4_sum_0 rfl (lv_at hl 0 rfl) ?_
  refine lv_iload_n hx hb dX4_sum_1 rfl (lv_at hl 1 rfl) ?_
  refine lv_iload_n hx hb dX4_sum_2 rfl (lv_at hl 2 rfl) ?_
  obtain ⟨r76, e75, hf⟩ := ob_some hf
  refine hp_calli (va_runV (As := [.int v1, .int v2]) (rest := []) ⟨hx, hb, hml, hown, hts⟩ (ok_X4_poolOf l D cy ad M0 _ v0 v1 v2 r76 a0 e75) (cwV 2 hts (gdV q746 q748 q57 q86 q749) rfl rfl rfl (by decide +kernel) ⟨Nat.le_of_ble_eq_true rfl, Nat.le_of_ble_eq_true rfl⟩) (pre_V hP hK hN a0 ds_0 rfl) rfl rfl hl.1 rfl (lv_room (Nat.le_of_ble_eq_true rfl)) dX4_sum_3 ⟨Nat.le_of_ble_eq_true rfl, Nat.le_of_ble_eq_true rfl⟩) hP hS hA (fun H locs hP hS _ => ?_)
  refine lv_istore (lv' := [(4, .int r76), (0, .ref (ad 0 v0)), (1, .int v1), (2, .int v2), (3, .int v3)]) hx hb dX4_sum_6 hl (by decide) rfl (fun ls hl => ?_)
  refine lv_iload hx hb dX4_sum_8 (lv_at hl 0 rfl) ?_
  refine lv_iconst (v := (-1 : Int32)) hx hb dX4_sum_10 (by decide) ?_
  refine lv_icmp_ne (tgt := 18) hx hb dX4_sum_11 (by decide) (fun c79 => ?_) (fun c79 => ?_)
  · have hf := if_f hf c79
    refine lv_iload_n hx hb dX4_sum_18 rfl (lv_at hl 4 rfl) ?_
    by_cases c80 : v3 = (0 : Int32)
    · have hf := if_t hf c80
      refine W_topI c80.symm ?_
      refine lv_tableIn (x := (0 : Int32)) (off := 61) (tgt := 80) hx hb dX4_sum_19 (by decide) (by decide) (by decide) (by decide) ?_
      refine lv_aload_n hx hb dX4_sum_80 rfl (lv_at hl 1 rfl) ?_
      refine lv_iload hx hb dX4_sum_81 (lv_at hl 0 rfl) ?_
      refine lv_iconst (v := (0 : Int32)) hx hb dX4_sum_83 (by decide) ?_
      obtain ⟨r82, e81, hf⟩ := ob_some hf
      refine hp_calll (va_runV (As := [.int r76, .int (0 : Int32)]) (rest := []) ⟨hx, hb, hml, hown, hts⟩ (ok_X4_staked l D cy ad M0 _ v0 r76 (0 : Int32) r82 a0 e81) (cwV 2 hts (gdV q844 q846 q75 q86 q847) rfl rfl rfl (by decide +kernel) ⟨Nat.le_of_ble_eq_true rfl, Nat.le_of_ble_eq_true rfl⟩) (pre_V hP hK hN a0 ds_0 rfl) rfl rfl hl.1 rfl (lv_room (Nat.le_of_ble_eq_true rfl)) dX4_sum_84 ⟨Nat.le_of_ble_eq_true rfl, Nat.le_of_ble_eq_true rfl⟩) hP hS hA (fun H locs hP hS _ => ?_)
      exact hp_lret hx hb hr hlocks (Option.some.inj hf) rfl hP hS keep_rf dX4_sum_87
    have hf := if_f hf c80
    by_cases c85 : v3 = (1 : Int32)
    · have hf := if_t hf c85
      refine W_topI c85.symm ?_
      refine lv_tableIn (x := (1 : Int32)) (off := 69) (tgt := 88) hx hb dX4_sum_19 (by decide) (by decide) (by decide) (by decide) ?_
      refine lv_aload_n hx hb dX4_sum_88 rfl (lv_at hl 1 rfl) ?_
      refine lv_iload hx hb dX4_sum_89 (lv_at hl 0 rfl) ?_
      refine lv_iconst (v := (1 : Int32)) hx hb dX4_sum_91 (by decide) ?_
      obtain ⟨r87, e86, hf⟩ := ob_some hf
      refine hp_calll (va_runV (As := [.int r76, .int (1 : Int32)]) (rest := []) ⟨hx, hb, hml, hown, hts⟩ (ok_X4_staked l D cy ad M0 _ v0 r76 (1 : Int32) r87 a0 e86) (cwV 2 hts (gdV q844 q846 q75 q86 q847) rfl rfl rfl (by decide +kernel) ⟨Nat.le_of_ble_eq_true rfl, Nat.le_of_ble_eq_true rfl⟩) (pre_V hP hK hN a0 ds_0 rfl) rfl rfl hl.1 rfl (lv_room (Nat.le_of_ble_eq_true rfl)) dX4_sum_92 ⟨Nat.le_of_ble_eq_true rfl, Nat.le_of_ble_eq_true rfl⟩) hP hS hA (fun H locs hP hS _ => ?_)
      exact hp_lret hx hb hr hlocks (Option.some.inj hf) rfl hP hS keep_rf dX4_sum_95
    have hf := if_f hf c85
    by_cases c90 : v3 = (2 : Int32)
    · have hf := if_t hf c90
      refine W_topI c90.symm ?_
      refine lv_tableIn (x := (2 : Int32)) (off := 77) (tgt := 96) hx hb dX4_sum_19 (by decide) (by decide) (by decide) (by decide) ?_
      refine lv_aload_n hx hb dX4_sum_96 rfl (lv_at hl 1 rfl) ?_
      have h91 : ∀ j : Nat, (mR M0 0 v0 9) = some j → mA M0 19 j = true := fun j hj => hp_wf hP a0 hj
      refine gf0 (v := va_rf (((mR M0 0 v0 9)).map (ad 19))) hx hb hts hown hK hP a0 9 (by decide) (hts _ q614) rfl rfl dX4_sum_97 ?_
      refine lv_iload hx hb dX4_sum_100 (lv_at hl 0 rfl) ?_
      obtain ⟨i92, e93, hf⟩ := ob_some hf
      have h94 : mA M0 19 i92 = true := h91 i92 e93
      refine W_stk (st := [.int r76, va_rf (((mR M0 0 v0 9)).map (ad 19))]) (st' := [.int r76, .ref (ad 19 i92)]) (by first | (rw [e93]; done) | (rw [e93]; rfl)) ?_
      obtain ⟨h95, hf⟩ := ix_some hf
      refine hp_lald hx hb hK hP h94 rfl h95 dX4_sum_102 ?_
      exact hp_lret hx hb hr hlocks (Option.some.inj hf) rfl hP hS keep_rf dX4_sum_103
    have hf := if_f hf c90
    by_cases c96 : v3 = (3 : Int32)
    · have hf := if_t hf c96
      refine W_topI c96.symm ?_
      refine lv_tableIn (x := (3 : Int32)) (off := 85) (tgt := 104) hx hb dX4_sum_19 (by decide) (by decide) (by decide) (by decide) ?_
      refine lv_aload_n hx hb dX4_sum_104 rfl (lv_at hl 1 rfl) ?_
      have h97 : ∀ j : Nat, (mR M0 0 v0 10) = some j → mA M0 20 j = true := fun j hj => hp_wf hP a0 hj
      refine gf0 (v := va_rf (((mR M0 0 v0 10)).map (ad 20))) hx hb hts hown hK hP a0 10 (by decide) (hts _ q615) rfl rfl dX4_sum_105 ?_
      refine lv_iload hx hb dX4_sum_108 (lv_at hl 0 rfl) ?_
      obtain ⟨i98, e99, hf⟩ := ob_some hf
      have h100 : mA M0 20 i98 = true := h97 i98 e99
      refine W_stk (st := [.int r76, va_rf (((mR M0 0 v0 10)).map (ad 20))]) (st' := [.int r76, .ref (ad 20 i98)]) (by first | (rw [e99]; done) | (rw [e99]; rfl)) ?_
      obtain ⟨h101, hf⟩ := ix_some hf
      refine hp_lald hx hb hK hP h100 rfl h101 dX4_sum_110 ?_
      exact hp_lret hx hb hr hlocks (Option.some.inj hf) rfl hP hS keep_rf dX4_sum_111
    have hf := if_f hf c96
    by_cases c102 : v3 = (4 : Int32)
    · have hf := if_t hf c102
      refine W_topI c102.symm ?_
      refine lv_tableIn (x := (4 : Int32)) (off := 93) (tgt := 112) hx hb dX4_sum_19 (by decide) (by decide) (by decide) (by decide) ?_
      refine lv_aload_n hx hb dX4_sum_112 rfl (lv_at hl 1 rfl) ?_
      have h103 : ∀ j : Nat, (mR M0 0 v0 11) = some j → mA M0 21 j = true := fun j hj => hp_wf hP a0 hj
      refine gf0 (v := va_rf (((mR M0 0 v0 11)).map (ad 21))) hx hb hts hown hK hP a0 11 (by decide) (hts _ q616) rfl rfl dX4_sum_113 ?_
      refine lv_iload hx hb dX4_sum_116 (lv_at hl 0 rfl) ?_
      obtain ⟨i104, e105, hf⟩ := ob_some hf
      have h106 : mA M0 21 i104 = true := h103 i104 e105
      refine W_stk (st := [.int r76, va_rf (((mR M0 0 v0 11)).map (ad 21))]) (st' := [.int r76, .ref (ad 21 i104)]) (by first | (rw [e105]; done) | (rw [e105]; rfl)) ?_
      obtain ⟨h107, hf⟩ := ix_some hf
      refine hp_lald hx hb hK hP h106 rfl h107 dX4_sum_118 ?_
      exact hp_lret hx hb hr hlocks (Option.some.inj hf) rfl hP hS keep_rf dX4_sum_119
    have hf := if_f hf c102
    by_cases c108 : v3 = (5 : Int32)
    · have hf := if_t hf c108
      refine W_topI c108.symm ?_
      refine lv_tableIn (x := (5 : Int32)) (off := 101) (tgt := 120) hx hb dX4_sum_19 (by decide) (by decide) (by decide) (by decide) ?_
      refine lv_aload_n hx hb dX4_sum_120 rfl (lv_at hl 1 rfl) ?_
      have h109 : ∀ j : Nat, (mR M0 0 v0 12) = some j → mA M0 22 j = true := fun j hj => hp_wf hP a0 hj
      refine gf0 (v := va_rf (((mR M0 0 v0 12)).map (ad 22))) hx hb hts hown hK hP a0 12 (by decide) (hts _ q617) rfl rfl dX4_sum_121 ?_
      refine lv_iload hx hb dX4_sum_124 (lv_at hl 0 rfl) ?_
      obtain ⟨i110, e111, hf⟩ := ob_some hf
      have h112 : mA M0 22 i110 = true := h109 i110 e111
      refine W_stk (st := [.int r76, va_rf (((mR M0 0 v0 12)).map (ad 22))]) (st' := [.int r76, .ref (ad 22 i110)]) (by first | (rw [e111]; done) | (rw [e111]; rfl)) ?_
      obtain ⟨h113, hf⟩ := ix_some hf
      refine hp_lald hx hb hK hP h112 rfl h113 dX4_sum_126 ?_
      exact hp_lret hx hb hr hlocks (Option.some.inj hf) rfl hP hS keep_rf dX4_sum_127
    have hf := if_f hf c108
    by_cases c114 : v3 = (6 : Int32)
    · have hf := if_t hf c114
      refine W_topI c114.symm ?_
      refine lv_tableIn (x := (6 : Int32)) (off := 109) (tgt := 128) hx hb dX4_sum_19 (by decide) (by decide) (by decide) (by decide) ?_
      refine lv_aload_n hx hb dX4_sum_128 rfl (lv_at hl 1 rfl) ?_
      have h115 : ∀ j : Nat, (mR M0 0 v0 13) = some j → mA M0 23 j = true := fun j hj => hp_wf hP a0 hj
      refine gf0 (v := va_rf (((mR M0 0 v0 13)).map (ad 23))) hx hb hts hown hK hP a0 13 (by decide) (hts _ q618) rfl rfl dX4_sum_129 ?_
      refine lv_iload hx hb dX4_sum_132 (lv_at hl 0 rfl) ?_
      obtain ⟨i116, e117, hf⟩ := ob_some hf
      have h118 : mA M0 23 i116 = true := h115 i116 e117
      refine W_stk (st := [.int r76, va_rf (((mR M0 0 v0 13)).map (ad 23))]) (st' := [.int r76, .ref (ad 23 i116)]) (by first | (rw [e117]; done) | (rw [e117]; rfl)) ?_
      obtain ⟨h119, hf⟩ := ix_some hf
      refine hp_lald hx hb hK hP h118 rfl h119 dX4_sum_134 ?_
      exact hp_lret hx hb hr hlocks (Option.some.inj hf) rfl hP hS keep_rf dX4_sum_135
    have hf := if_f hf c114
    by_cases c120 : v3 = (7 : Int32)
    · have hf := if_t hf c120
      refine W_topI c120.symm ?_
      refine lv_tableIn (x := (7 : Int32)) (off := 117) (tgt := 136) hx hb dX4_sum_19 (by decide) (by decide) (by decide) (by decide) ?_
      refine lv_aload_n hx hb dX4_sum_136 rfl (lv_at hl 1 rfl) ?_
      have h121 : ∀ j : Nat, (mR M0 0 v0 14) = some j → mA M0 24 j = true := fun j hj => hp_wf hP a0 hj
      refine gf0 (v := va_rf (((mR M0 0 v0 14)).map (ad 24))) hx hb hts hown hK hP a0 14 (by decide) (hts _ q619) rfl rfl dX4_sum_137 ?_
      refine lv_iload hx hb dX4_sum_140 (lv_at hl 0 rfl) ?_
      obtain ⟨i122, e123, hf⟩ := ob_some hf
      have h124 : mA M0 24 i122 = true := h121 i122 e123
      refine W_stk (st := [.int r76, va_rf (((mR M0 0 v0 14)).map (ad 24))]) (st' := [.int r76, .ref (ad 24 i122)]) (by first | (rw [e123]; done) | (rw [e123]; rfl)) ?_
      obtain ⟨h125, hf⟩ := ix_some hf
      refine hp_lald hx hb hK hP h124 rfl h125 dX4_sum_142 ?_
      exact hp_lret hx hb hr hlocks (Option.some.inj hf) rfl hP hS keep_rf dX4_sum_143
    have hf := if_f hf c120
    by_cases c126 : v3 = (8 : Int32)
    · have hf := if_t hf c126
      refine W_topI c126.symm ?_
      refine lv_tableIn (x := (8 : Int32)) (off := 125) (tgt := 144) hx hb dX4_sum_19 (by decide) (by decide) (by decide) (by decide) ?_
      refine lv_aload_n hx hb dX4_sum_144 rfl (lv_at hl 1 rfl) ?_
      have h127 : ∀ j : Nat, (mR M0 0 v0 15) = some j → mA M0 25 j = true := fun j hj => hp_wf hP a0 hj
      refine gf0 (v := va_rf (((mR M0 0 v0 15)).map (ad 25))) hx hb hts hown hK hP a0 15 (by decide) (hts _ q620) rfl rfl dX4_sum_145 ?_
      refine lv_iload hx hb dX4_sum_148 (lv_at hl 0 rfl) ?_
      obtain ⟨i128, e129, hf⟩ := ob_some hf
      have h130 : mA M0 25 i128 = true := h127 i128 e129
      refine W_stk (st := [.int r76, va_rf (((mR M0 0 v0 15)).map (ad 25))]) (st' := [.int r76, .ref (ad 25 i128)]) (by first | (rw [e129]; done) | (rw [e129]; rfl)) ?_
      obtain ⟨h131, hf⟩ := ix_some hf
      refine hp_lald hx hb hK hP h130 rfl h131 dX4_sum_150 ?_
      exact hp_lret hx hb hr hlocks (Option.some.inj hf) rfl hP hS keep_rf dX4_sum_151
    have hf := if_f hf c126
    by_cases c132 : v3 = (9 : Int32)
    · have hf := if_t hf c132
      refine W_topI c132.symm ?_
      refine lv_tableIn (x := (9 : Int32)) (off := 133) (tgt := 152) hx hb dX4_sum_19 (by decide) (by decide) (by decide) (by decide) ?_
      refine lv_aload_n hx hb dX4_sum_152 rfl (lv_at hl 1 rfl) ?_
      refine lv_iload hx hb dX4_sum_153 (lv_at hl 0 rfl) ?_
      obtain ⟨r134, e133, hf⟩ := ob_some hf
      refine hp_calli (va_runV (As := [.int r76]) (rest := []) ⟨hx, hb, hml, hown, hts⟩ (ok_X4_unitsIn l D cy ad M0 _ v0 r76 r134 a0 e133) (cwV 1 hts (gdV q897 q899 q83 q86 q900) rfl rfl rfl (by decide +kernel) ⟨Nat.le_of_ble_eq_true rfl, Nat.le_of_ble_eq_true rfl⟩) (pre_V hP hK hN a0 ds_0 rfl) rfl rfl hl.1 rfl (lv_room (Nat.le_of_ble_eq_true rfl)) dX4_sum_155 ⟨Nat.le_of_ble_eq_true rfl, Nat.le_of_ble_eq_true rfl⟩) hP hS hA (fun H locs hP hS _ => ?_)
      refine lv_i2l hx hb dX4_sum_158 rfl ?_
      exact hp_lret hx hb hr hlocks (Option.some.inj hf) rfl hP hS keep_rf dX4_sum_159
    have hf := if_f hf c132
    by_cases c137 : v3 = (10 : Int32)
    · have hf := if_t hf c137
      refine W_topI c137.symm ?_
      refine lv_tableIn (x := (10 : Int32)) (off := 141) (tgt := 160) hx hb dX4_sum_19 (by decide) (by decide) (by decide) (by decide) ?_
      refine lv_aload_n hx hb dX4_sum_160 rfl (lv_at hl 1 rfl) ?_
      have h138 : ∀ j : Nat, (mR M0 0 v0 16) = some j → mA M0 26 j = true := fun j hj => hp_wf hP a0 hj
      refine gf0 (v := va_rf (((mR M0 0 v0 16)).map (ad 26))) hx hb hts hown hK hP a0 16 (by decide) (hts _ q621) rfl rfl dX4_sum_161 ?_
      refine lv_iload hx hb dX4_sum_164 (lv_at hl 0 rfl) ?_
      obtain ⟨i139, e140, hf⟩ := ob_some hf
      have h141 : mA M0 26 i139 = true := h138 i139 e140
      refine W_stk (st := [.int r76, va_rf (((mR M0 0 v0 16)).map (ad 26))]) (st' := [.int r76, .ref (ad 26 i139)]) (by first | (rw [e140]; done) | (rw [e140]; rfl)) ?_
      obtain ⟨h142, hf⟩ := ix_some hf
      refine hp_iald hx hb hK hP h141 rfl h142 dX4_sum_166 ?_
      refine lv_i2l hx hb dX4_sum_167 rfl ?_
      exact hp_lret hx hb hr hlocks (Option.some.inj hf) rfl hP hS keep_rf dX4_sum_168
    have hf := if_f hf c137
    by_cases c143 : v3 = (11 : Int32)
    · have hf := if_t hf c143
      refine W_topI c143.symm ?_
      refine lv_tableIn (x := (11 : Int32)) (off := 150) (tgt := 169) hx hb dX4_sum_19 (by decide) (by decide) (by decide) (by decide) ?_
      refine lv_aload_n hx hb dX4_sum_169 rfl (lv_at hl 1 rfl) ?_
      have h144 : ∀ j : Nat, (mR M0 0 v0 8) = some j → mA M0 18 j = true := fun j hj => hp_wf hP a0 hj
      refine gf0 (v := va_rf (((mR M0 0 v0 8)).map (ad 18))) hx hb hts hown hK hP a0 8 (by decide) (hts _ q613) rfl rfl dX4_sum_170 ?_
      refine lv_iload hx hb dX4_sum_173 (lv_at hl 0 rfl) ?_
      obtain ⟨i145, e146, hf⟩ := ob_some hf
      have h147 : mA M0 18 i145 = true := h144 i145 e146
      refine W_stk (st := [.int r76, va_rf (((mR M0 0 v0 8)).map (ad 18))]) (st' := [.int r76, .ref (ad 18 i145)]) (by first | (rw [e146]; done) | (rw [e146]; rfl)) ?_
      obtain ⟨h148, hf⟩ := ix_some hf
      refine hp_iald hx hb hK hP h147 rfl h148 dX4_sum_175 ?_
      refine lv_i2l hx hb dX4_sum_176 rfl ?_
      exact hp_lret hx hb hr hlocks (Option.some.inj hf) rfl hP hS keep_rf dX4_sum_177
    have hf := if_f hf c143
    have hsw : ∀ n : Nat, (n : Int) ≤ (11) - (0) → ¬ v3 = Int32.ofInt ((0) + (n : Int)) := by
      intro n hn
      have hn2 : n = 0 ∨ n = 1 ∨ n = 2 ∨ n = 3 ∨ n = 4 ∨ n = 5 ∨ n = 6 ∨ n = 7 ∨ n = 8 ∨ n = 9 ∨ n = 10 ∨ n = 11 := by omega
      rcases hn2 with rfl | rfl | rfl | rfl | rfl | rfl | rfl | rfl | rfl | rfl | rfl | rfl
      · exact fun z => c80 (z.trans (by decide))
      · exact fun z => c85 (z.trans (by decide))
      · exact fun z => c90 (z.trans (by decide))
      · exact fun z => c96 (z.trans (by decide))
      · exact fun z => c102 (z.trans (by decide))
      · exact fun z => c108 (z.trans (by decide))
      · exact fun z => c114 (z.trans (by decide))
      · exact fun z => c120 (z.trans (by decide))
      · exact fun z => c126 (z.trans (by decide))
      · exact fun z => c132 (z.trans (by decide))
      · exact fun z => c137 (z.trans (by decide))
      · exact fun z => c143 (z.trans (by decide))
    refine lv_tableOut (tgt := 178) hx hb dX4_sum_19 (sw_out hsw) (by decide) ?_
    refine lv_ldc2 (v := (-1 : Int64)) hx hb hown (hts _ q891) dX4_sum_178 ?_
    exact hp_lret hx hb hr hlocks (Option.some.inj hf) rfl hP hS keep_rf dX4_sum_181
  · have hf := if_t hf c79
    refine lv_ldc2 (v := (-1 : Int64)) hx hb hown (hts _ q891) dX4_sum_14 ?_
    exact hp_lret hx hb hr hlocks (Option.some.inj hf) rfl hP hS keep_rf dX4_sum_17
def f_X4_unclaimed_4 (M0 : Mm) : Nat → Nat → Int64 → Int32 → Option Int64
  | 0, _, _, _ => none
  | n + 1, v0, v1, v3 => if (52 : Int32) < v3 then (some v1) else (ob (mR M0 0 v0 10) fun i18 => ix v3 53 (ob (mR M0 0 v0 15) fun i23 => ix v3 53 (lt (v1 + ((mJ M0 20 i18 (v3).toNatClampNeg) - (mJ M0 25 i23 (v3).toNatClampNeg))) fun x27 => lt (v3 + (1 : Int32)) fun x29 => f_X4_unclaimed_4 M0 n v0 x27 x29)))
def f_X4_unclaimed (v0 : Nat) (M0 : Mm) : Option Int64 :=
  f_X4_unclaimed_4 M0 FU v0 (0 : Int64) (0 : Int32)
set_option maxRecDepth 100000 in
set_option maxHeartbeats 4000000 in
theorem t_X4_unclaimed_4 {p : Program} {l : Launch} {e : Env} {s : State} {m : MethodId} {args : Array Value} {below : List Frame} {meth : Method} {c : Code} {D : va_G} {cy : Nat → ClassId} {ad : Nat → Nat → Nat} {M0 : Mm} {r0 : Int64} (C : Cx RX4 cX4_unclaimed 4 (some .long) D cy (AA ad M0 s.heap.size) p s m args meth c) : ∀ (n : Nat), ∀ (v0 : Nat) (v1 : Int64) (v3 : Int32) (H : Heap) (locs : List Loc) (ls : Array Slot), (mA M0 0 v0 = true) → f_X4_unclaimed_4 M0 n v0 v1 v3 = some r0 → HP D cy (AA ad M0 s.heap.size) ad M0 H → va_S (AA ad M0 s.heap.size) s.heap H locs → lv_has ls 4 [(0, .ref (ad 0 v0)), (1, .long v1), (3, .int v3)] → W p l e { frames := 0, cells := 0, slots := 0, locals := 0 } s m args below meth c H locs 0 0 (MQ below (QJ D cy ad M0 s.heap.size r0 M0) args s 0 0 (AA ad M0 s.heap.size)) (F0 m 4 ls []) := by
  obtain ⟨hx, hb, hr, hml, hown, hts, hlocks, hK, hN, hA⟩ := id C
  intro n
  induction n with
  | zero =>
    intro v0 v1 v3 H locs ls a0 hf hP hS hl
    simp [f_X4_unclaimed_4] at hf
  | succ n ih =>
    intro v0 v1 v3 H locs ls a0 hf hP hS hl
    rw [f_X4_unclaimed_4] at hf
    refine lv_iload_n hx hb dX4_unclaimed_4 rfl (lv_at hl 2 rfl) ?_
    refine lv_bipush (v := (52 : Int32)) hx hb dX4_unclaimed_5 (by decide) ?_
    refine lv_icmp_gt (tgt := 32) hx hb dX4_unclaimed_7 (by decide) (fun c16 => ?_) (fun c16 => ?_)
    · have hf := if_t hf c16
      refine lv_lload_n hx hb dX4_unclaimed_32 rfl (lv_at hl 1 rfl) ?_
      exact hp_lret hx hb hr hlocks (Option.some.inj hf) rfl hP hS keep_rf dX4_unclaimed_33
    · have hf := if_f hf c16
      refine lv_lload_n hx hb dX4_unclaimed_10 rfl (lv_at hl 1 rfl) ?_
      refine lv_aload_n hx hb dX4_unclaimed_11 rfl (lv_at hl 0 rfl) ?_
      have h17 : ∀ j : Nat, (mR M0 0 v0 10) = some j → mA M0 20 j = true := fun j hj => hp_wf hP a0 hj
      refine gf0 (v := va_rf (((mR M0 0 v0 10)).map (ad 20))) hx hb hts hown hK hP a0 10 (by decide) (hts _ q615) rfl rfl dX4_unclaimed_12 ?_
      refine lv_iload_n hx hb dX4_unclaimed_15 rfl (lv_at hl 2 rfl) ?_
      obtain ⟨i18, e19, hf⟩ := ob_some hf
      have h20 : mA M0 20 i18 = true := h17 i18 e19
      refine W_stk (st := [.int v3, va_rf (((mR M0 0 v0 10)).map (ad 20)), .long v1]) (st' := [.int v3, .ref (ad 20 i18), .long v1]) (by first | (rw [e19]; done) | (rw [e19]; rfl)) ?_
      obtain ⟨h21, hf⟩ := ix_some hf
      refine hp_lald hx hb hK hP h20 rfl h21 dX4_unclaimed_16 ?_
      refine lv_aload_n hx hb dX4_unclaimed_17 rfl (lv_at hl 0 rfl) ?_
      have h22 : ∀ j : Nat, (mR M0 0 v0 15) = some j → mA M0 25 j = true := fun j hj => hp_wf hP a0 hj
      refine gf0 (v := va_rf (((mR M0 0 v0 15)).map (ad 25))) hx hb hts hown hK hP a0 15 (by decide) (hts _ q620) rfl rfl dX4_unclaimed_18 ?_
      refine lv_iload_n hx hb dX4_unclaimed_21 rfl (lv_at hl 2 rfl) ?_
      obtain ⟨i23, e24, hf⟩ := ob_some hf
      have h25 : mA M0 25 i23 = true := h22 i23 e24
      refine W_stk (st := [.int v3, va_rf (((mR M0 0 v0 15)).map (ad 25)), .long (mJ M0 20 i18 (v3).toNatClampNeg), .long v1]) (st' := [.int v3, .ref (ad 25 i23), .long (mJ M0 20 i18 (v3).toNatClampNeg), .long v1]) (by first | (rw [e24]; done) | (rw [e24]; rfl)) ?_
      obtain ⟨h26, hf⟩ := ix_some hf
      refine hp_lald hx hb hK hP h25 rfl h26 dX4_unclaimed_22 ?_
      refine lv_lsub hx hb dX4_unclaimed_23 ?_
      refine lv_ladd hx hb dX4_unclaimed_24 ?_
      obtain ⟨x27, e28, hf⟩ := lt_some hf
      refine W_topJ e28 ?_
      refine lv_lstore_n (lv' := [(1, .long x27), (0, .ref (ad 0 v0)), (3, .int v3)]) hx hb dX4_unclaimed_25 rfl hl (by decide) rfl (fun ls hl => ?_)
      obtain ⟨x29, e30, hf⟩ := lt_some hf
      refine lv_iinc (v := x29) (lv' := [(3, .int x29), (1, .long x27), (0, .ref (ad 0 v0))]) hx hb dX4_unclaimed_26 hl (k := 2) rfl (by rw [e30]; rfl) (by decide) rfl (fun ls hl => ?_)
      refine lv_goto (tgt := 4) hx hb dX4_unclaimed_29 (by decide) ?_
      exact ih v0 x27 x29 _ _ _ a0 hf hP hS (lv_sub hl [2, 1, 0] rfl)
set_option maxRecDepth 100000 in
set_option maxHeartbeats 4000000 in
theorem ok_X4_unclaimed (l : Launch) (D : va_G) (cy : Nat → ClassId) (ad : Nat → Nat → Nat) (M0 : Mm) (sz : Nat) (v0 : Nat) (r0 : Int64) (a0 : mA M0 0 v0 = true) (hf : f_X4_unclaimed v0 M0 = some r0) : Met l yX4_unclaimed (Cond.code yX4_unclaimed cX4_unclaimed 4 (some .long) :: BW) { frames := 0, cells := 0, slots := 0, locals := 0 } (va_Pc [.ref (ad 0 v0)] (PRE D cy ad M0 sz)) (QJ D cy ad M0 sz r0 M0) 0 0 (AA ad M0 sz) := by
  refine Met.ofW (cc := cX4_unclaimed) (maxL := 4) (ret := (some .long)) (by decide) rfl ?_
  intro p e s m args below meth c s₁ B hml hv
  obtain ⟨rfl, rfl, hP0, hK, hN⟩ := hv
  have hx := B.exec
  have hb := B.bytes
  have hr := B.returns
  have hts0 := atoms_spec (ws := (Cond.code yX4_unclaimed cX4_unclaimed 4 (some .long) :: BW)) B.pre
  have hts : ∀ w ∈ BW, w.before ([.ref (ad 0 v0)] : List Value).toArray s = true := fun w h => hts0 w (List.mem_cons_of_mem _ h)
  have hown : s.vm.findClass RX4 = some m.cls := findClass_of_methodNamed B.named
  have hlocks := B.notSynchronized
  have hA : ∀ q : Nat, s.heap.size ≤ q → AA ad M0 s.heap.size q := fun q h => Or.inr h
  have C : Cx RX4 cX4_unclaimed 4 (some .long) D cy (AA ad M0 s.heap.size) p s m ([.ref (ad 0 v0)] : List Value).toArray meth c := ⟨hx, hb, hr, hml, hown, hts, hlocks, hK, hN, hA⟩
  have hP := hp_self (sz := s.heap.size) hP0
  have hS : va_S (AA ad M0 s.heap.size) s.heap s.heap [] := va_S.rf
  have hl := lv_entry ([.ref (ad 0 v0)]) (n := 4) (Nat.le_of_ble_eq_true rfl)
  rw [lg_entry_eq]
  generalize (lg_sl ([.ref (ad 0 v0)]) ++ List.replicate (4 - (lg_sl ([.ref (ad 0 v0)])).length) Slot.unset).toArray = ls at hl ⊢
  have hl : lv_has ls 4 [(0, .ref (ad 0 v0))] := hl
  unfold f_X4_unclaimed at hf
  refine lv_lconst (v := (0 : Int64)) hx hb dX4_unclaimed_0 (by decide) ?_
  refine lv_lstore_n (lv' := [(1, .long (0 : Int64)), (0, .ref (ad 0 v0))]) hx hb dX4_unclaimed_1 rfl hl (by decide) rfl (fun ls hl => ?_)
  refine lv_iconst (v := (0 : Int32)) hx hb dX4_unclaimed_2 (by decide) ?_
  refine lv_istore_n (lv' := [(3, .int (0 : Int32)), (1, .long (0 : Int64)), (0, .ref (ad 0 v0))]) hx hb dX4_unclaimed_3 rfl hl (by decide) rfl (fun ls hl => ?_)
  exact t_X4_unclaimed_4 C FU v0 (0 : Int64) (0 : Int32) _ _ _ a0 hf hP hS (lv_sub hl [2, 1, 0] rfl)

def f_X4_carried (v0 : Nat) (M0 : Mm) : Option Int64 :=
  some (mJ M0 0 v0 26)
set_option maxRecDepth 100000 in
set_option maxHeartbeats 4000000 in
theorem ok_X4_carried (l : Launch) (D : va_G) (cy : Nat → ClassId) (ad : Nat → Nat → Nat) (M0 : Mm) (sz : Nat) (v0 : Nat) (r0 : Int64) (a0 : mA M0 0 v0 = true) (hf : f_X4_carried v0 M0 = some r0) : Met l yX4_carried (Cond.code yX4_carried cX4_carried 1 (some .long) :: BW) { frames := 0, cells := 0, slots := 0, locals := 0 } (va_Pc [.ref (ad 0 v0)] (PRE D cy ad M0 sz)) (QJ D cy ad M0 sz r0 M0) 0 0 (AA ad M0 sz) := by
  refine Met.ofW (cc := cX4_carried) (maxL := 1) (ret := (some .long)) (by decide) rfl ?_
  intro p e s m args below meth c s₁ B hml hv
  obtain ⟨rfl, rfl, hP0, hK, hN⟩ := hv
  have hx := B.exec
  have hb := B.bytes
  have hr := B.returns
  have hts0 := atoms_spec (ws := (Cond.code yX4_carried cX4_carried 1 (some .long) :: BW)) B.pre
  have hts : ∀ w ∈ BW, w.before ([.ref (ad 0 v0)] : List Value).toArray s = true := fun w h => hts0 w (List.mem_cons_of_mem _ h)
  have hown : s.vm.findClass RX4 = some m.cls := findClass_of_methodNamed B.named
  have hlocks := B.notSynchronized
  have hA : ∀ q : Nat, s.heap.size ≤ q → AA ad M0 s.heap.size q := fun q h => Or.inr h
  have C : Cx RX4 cX4_carried 1 (some .long) D cy (AA ad M0 s.heap.size) p s m ([.ref (ad 0 v0)] : List Value).toArray meth c := ⟨hx, hb, hr, hml, hown, hts, hlocks, hK, hN, hA⟩
  have hP := hp_self (sz := s.heap.size) hP0
  have hS : va_S (AA ad M0 s.heap.size) s.heap s.heap [] := va_S.rf
  have hl := lv_entry ([.ref (ad 0 v0)]) (n := 1) (Nat.le_of_ble_eq_true rfl)
  rw [lg_entry_eq]
  generalize (lg_sl ([.ref (ad 0 v0)]) ++ List.replicate (1 - (lg_sl ([.ref (ad 0 v0)])).length) Slot.unset).toArray = ls at hl ⊢
  have hl : lv_has ls 1 [(0, .ref (ad 0 v0))] := hl
  unfold f_X4_carried at hf
  refine lv_aload_n hx hb dX4_carried_0 rfl (lv_at hl 0 rfl) ?_
  refine gf0 (v := .long (mJ M0 0 v0 26)) hx hb hts hown hK hP a0 26 (by decide) (hts _ q631) rfl rfl dX4_carried_1 ?_
  exact hp_lret hx hb hr hlocks (Option.some.inj hf) rfl hP hS keep_rf dX4_carried_4
def f_X4_close_144 (M0 : Mm) (v1 : Int32) (w0 : Int32) (w1 : Int32) : Option Int32 :=
  ob (f_X4_kindOf v1 M0) fun r150 => some (((w1 * w0) + r150) + (1 : Int32))
def f_X4_close_37 (M0 : Mm) : Nat → Nat → Int32 → Option Int32
  | 0, _, _ => none
  | n + 1, v0, v1 => if (52 : Int32) < v1 then (some (0 : Int32)) else (ob (mR M0 0 v0 5) fun i89 => ix v1 53 (if (mI M0 15 i89 (v1).toNatClampNeg) = 0 then (lt (v1 + (1 : Int32)) fun x94 => f_X4_close_37 M0 n v0 x94) else (ob (mR M0 0 v0 8) fun i97 => ix v1 53 (if (mI M0 18 i97 (v1).toNatClampNeg) = 0 then (lt (v1 + (1 : Int32)) fun x153 => f_X4_close_37 M0 n v0 x153) else (ob (f_X4_staked v0 v1 (0 : Int32) M0) fun r103 => ob (mR M0 0 v0 14) fun i107 => ix v1 53 (ob (mR M0 0 v0 12) fun i112 => ix v1 53 (lt ((r103 + (mJ M0 24 i107 (v1).toNatClampNeg)) + (mJ M0 22 i112 (v1).toNatClampNeg)) fun x116 => ob (f_X4_staked v0 v1 (1 : Int32) M0) fun r119 => ob (mR M0 0 v0 9) fun i123 => ix v1 53 (ob (mR M0 0 v0 10) fun i128 => ix v1 53 (ob (mR M0 0 v0 11) fun i133 => ix v1 53 (ob (mR M0 0 v0 13) fun i138 => ix v1 53 (lt ((((r119 + (mJ M0 19 i123 (v1).toNatClampNeg)) + (mJ M0 20 i128 (v1).toNatClampNeg)) + (mJ M0 21 i133 (v1).toNatClampNeg)) + (mJ M0 23 i138 (v1).toNatClampNeg)) fun x142 => if (lg_cmp x116 x142) = 0 then (lt (v1 + (1 : Int32)) fun x145 => f_X4_close_37 M0 n v0 x145) else (if v1 = (52 : Int32) then (f_X4_close_144 M0 v1 (13 : Int32) (100 : Int32)) else (dv (4 : Int32) (f_X4_close_144 M0 v1 (v1 / (4 : Int32)) (100 : Int32)))))))))))))))
def f_X4_close_2 (M0 : Mm) : Nat → Nat → Int32 → Option Int32
  | 0, _, _ => none
  | n + 1, v0, v1 => if (13 : Int32) ≤ v1 then (f_X4_close_37 M0 FU v0 (0 : Int32)) else (ob (mR M0 0 v0 0) fun i156 => ix v1 13 (if (mI M0 10 i156 (v1).toNatClampNeg) ≤ 0 then (lt (v1 + (1 : Int32)) fun x161 => f_X4_close_2 M0 n v0 x161) else (ob (mR M0 0 v0 1) fun i164 => ix v1 13 (if (mI M0 11 i164 (v1).toNatClampNeg) = (2 : Int32) then (lt (v1 + (1 : Int32)) fun x169 => f_X4_close_2 M0 n v0 x169) else (some (-1 : Int32))))))
def f_X4_close (v0 : Nat) (M0 : Mm) : Option Int32 :=
  f_X4_close_2 M0 FU v0 (1 : Int32)
set_option maxRecDepth 100000 in
set_option maxHeartbeats 4000000 in
theorem t_X4_close_144 {p : Program} {l : Launch} {e : Env} {s : State} {m : MethodId} {args : Array Value} {below : List Frame} {meth : Method} {c : Code} {D : va_G} {cy : Nat → ClassId} {ad : Nat → Nat → Nat} {M0 : Mm} {r0 : Int32} (C : Cx RX4 cX4_close 6 (some .int) D cy (AA ad M0 s.heap.size) p s m args meth c) : ∀ (v1 : Int32) (w0 : Int32) (w1 : Int32) (H : Heap) (locs : List Loc) (ls : Array Slot), f_X4_close_144 M0 v1 w0 w1 = some r0 → HP D cy (AA ad M0 s.heap.size) ad M0 H → va_S (AA ad M0 s.heap.size) s.heap H locs → lv_has ls 6 [(1, .int v1)] → W p l e { frames := 2, cells := 0, slots := 0, locals := 46 } s m args below meth c H locs 0 0 (MQ below (QI D cy ad M0 s.heap.size r0 M0) args s 0 0 (AA ad M0 s.heap.size)) (F0 m 144 ls [.int w0, .int w1]) := by
  obtain ⟨hx, hb, hr, hml, hown, hts, hlocks, hK, hN, hA⟩ := id C
  intro v1 w0 w1 H locs ls hf hP hS hl
  unfold f_X4_close_144 at hf
  refine lv_imul hx hb dX4_close_144 ?_
  refine lv_iload_n hx hb dX4_close_145 rfl (lv_at hl 0 rfl) ?_
  obtain ⟨r150, e149, hf⟩ := ob_some hf
  refine hp_calli (va_runS (As := [.int v1]) (rest := [.int (w1 * w0)]) ⟨hx, hb, hml, hown, hts⟩ (ok_X4_kindOf l D cy ad M0 _ v1 r150  e149) (va_cwS 1 hts (gdS q769 q770 q86 q771) rfl rfl rfl (by decide +kernel) ⟨Nat.le_of_ble_eq_true rfl, Nat.le_of_ble_eq_true rfl⟩) (pre_S hP hK hN) rfl rfl hl.1 rfl (lv_room (Nat.le_of_ble_eq_true rfl)) dX4_close_146 ⟨Nat.le_of_ble_eq_true rfl, Nat.le_of_ble_eq_true rfl⟩) hP hS hA (fun H locs hP hS _ => ?_)
  refine lv_iadd hx hb dX4_close_149 ?_
  refine lv_iconst (v := (1 : Int32)) hx hb dX4_close_150 (by decide) ?_
  refine lv_iadd hx hb dX4_close_151 ?_
  exact hp_iret hx hb hr hlocks (Option.some.inj hf) rfl hP hS keep_rf dX4_close_152
set_option maxRecDepth 100000 in
set_option maxHeartbeats 4000000 in
theorem t_X4_close_37 {p : Program} {l : Launch} {e : Env} {s : State} {m : MethodId} {args : Array Value} {below : List Frame} {meth : Method} {c : Code} {D : va_G} {cy : Nat → ClassId} {ad : Nat → Nat → Nat} {M0 : Mm} {r0 : Int32} (C : Cx RX4 cX4_close 6 (some .int) D cy (AA ad M0 s.heap.size) p s m args meth c) : ∀ (n : Nat), ∀ (v0 : Nat) (v1 : Int32) (H : Heap) (locs : List Loc) (ls : Array Slot), (mA M0 0 v0 = true) → f_X4_close_37 M0 n v0 v1 = some r0 → HP D cy (AA ad M0 s.heap.size) ad M0 H → va_S (AA ad M0 s.heap.size) s.heap H locs → lv_has ls 6 [(0, .ref (ad 0 v0)), (1, .int v1)] → W p l e { frames := 2, cells := 0, slots := 0, locals := 46 } s m args below meth c H locs 0 0 (MQ below (QI D cy ad M0 s.heap.size r0 M0) args s 0 0 (AA ad M0 s.heap.size)) (F0 m 37 ls []) := by
  obtain ⟨hx, hb, hr, hml, hown, hts, hlocks, hK, hN, hA⟩ := id C
  intro n
  induction n with
  | zero =>
    intro v0 v1 H locs ls a0 hf hP hS hl
    simp [f_X4_close_37] at hf
  | succ n ih =>
    intro v0 v1 H locs ls a0 hf hP hS hl
    rw [f_X4_close_37] at hf
    refine lv_iload_n hx hb dX4_close_37 rfl (lv_at hl 1 rfl) ?_
    refine lv_bipush (v := (52 : Int32)) hx hb dX4_close_38 (by decide) ?_
    refine lv_icmp_gt (tgt := 159) hx hb dX4_close_40 (by decide) (fun c87 => ?_) (fun c87 => ?_)
    · have hf := if_t hf c87
      refine lv_iconst (v := (0 : Int32)) hx hb dX4_close_159 (by decide) ?_
      exact hp_iret hx hb hr hlocks (Option.some.inj hf) rfl hP hS keep_rf dX4_close_160
    · have hf := if_f hf c87
      refine lv_aload_n hx hb dX4_close_43 rfl (lv_at hl 0 rfl) ?_
      have h88 : ∀ j : Nat, (mR M0 0 v0 5) = some j → mA M0 15 j = true := fun j hj => hp_wf hP a0 hj
      refine gf0 (v := va_rf (((mR M0 0 v0 5)).map (ad 15))) hx hb hts hown hK hP a0 5 (by decide) (hts _ q610) rfl rfl dX4_close_44 ?_
      refine lv_iload_n hx hb dX4_close_47 rfl (lv_at hl 1 rfl) ?_
      obtain ⟨i89, e90, hf⟩ := ob_some hf
      have h91 : mA M0 15 i89 = true := h88 i89 e90
      refine W_stk (st := [.int v1, va_rf (((mR M0 0 v0 5)).map (ad 15))]) (st' := [.int v1, .ref (ad 15 i89)]) (by first | (rw [e90]; done) | (rw [e90]; rfl)) ?_
      obtain ⟨h92, hf⟩ := ix_some hf
      refine hp_zald hx hb hK hP h91 rfl h92 dX4_close_48 ?_
      refine lv_if_eq (tgt := 153) hx hb dX4_close_49 (by decide) (fun c93 => ?_) (fun c93 => ?_)
      · have hf := if_t hf c93
        obtain ⟨x94, e95, hf⟩ := lt_some hf
        refine lv_iinc (v := x94) (lv' := [(1, .int x94), (0, .ref (ad 0 v0))]) hx hb dX4_close_153 hl (k := 1) rfl (by rw [e95]; rfl) (by decide) rfl (fun ls hl => ?_)
        refine lv_goto (tgt := 37) hx hb dX4_close_156 (by decide) ?_
        exact ih v0 x94 _ _ _ a0 hf hP hS (lv_sub hl [1, 0] rfl)
      · have hf := if_f hf c93
        refine lv_aload_n hx hb dX4_close_52 rfl (lv_at hl 0 rfl) ?_
        have h96 : ∀ j : Nat, (mR M0 0 v0 8) = some j → mA M0 18 j = true := fun j hj => hp_wf hP a0 hj
        refine gf0 (v := va_rf (((mR M0 0 v0 8)).map (ad 18))) hx hb hts hown hK hP a0 8 (by decide) (hts _ q613) rfl rfl dX4_close_53 ?_
        refine lv_iload_n hx hb dX4_close_56 rfl (lv_at hl 1 rfl) ?_
        obtain ⟨i97, e98, hf⟩ := ob_some hf
        have h99 : mA M0 18 i97 = true := h96 i97 e98
        refine W_stk (st := [.int v1, va_rf (((mR M0 0 v0 8)).map (ad 18))]) (st' := [.int v1, .ref (ad 18 i97)]) (by first | (rw [e98]; done) | (rw [e98]; rfl)) ?_
        obtain ⟨h100, hf⟩ := ix_some hf
        refine hp_iald hx hb hK hP h99 rfl h100 dX4_close_57 ?_
        refine lv_if_ne (tgt := 64) hx hb dX4_close_58 (by decide) (fun c101 => ?_) (fun c101 => ?_)
        · have hf := if_f hf c101
          refine lv_aload_n hx hb dX4_close_64 rfl (lv_at hl 0 rfl) ?_
          refine lv_iload_n hx hb dX4_close_65 rfl (lv_at hl 1 rfl) ?_
          refine lv_iconst (v := (0 : Int32)) hx hb dX4_close_66 (by decide) ?_
          obtain ⟨r103, e102, hf⟩ := ob_some hf
          refine hp_calll (va_runV (As := [.int v1, .int (0 : Int32)]) (rest := []) ⟨hx, hb, hml, hown, hts⟩ (ok_X4_staked l D cy ad M0 _ v0 v1 (0 : Int32) r103 a0 e102) (cwV 2 hts (gdV q844 q846 q75 q86 q847) rfl rfl rfl (by decide +kernel) ⟨Nat.le_of_ble_eq_true rfl, Nat.le_of_ble_eq_true rfl⟩) (pre_V hP hK hN a0 ds_0 rfl) rfl rfl hl.1 rfl (lv_room (Nat.le_of_ble_eq_true rfl)) dX4_close_67 ⟨Nat.le_of_ble_eq_true rfl, Nat.le_of_ble_eq_true rfl⟩) hP hS hA (fun H locs hP hS _ => ?_)
          refine lv_aload_n hx hb dX4_close_70 rfl (lv_at hl 0 rfl) ?_
          have h106 : ∀ j : Nat, (mR M0 0 v0 14) = some j → mA M0 24 j = true := fun j hj => hp_wf hP a0 hj
          refine gf0 (v := va_rf (((mR M0 0 v0 14)).map (ad 24))) hx hb hts hown hK hP a0 14 (by decide) (hts _ q619) rfl rfl dX4_close_71 ?_
          refine lv_iload_n hx hb dX4_close_74 rfl (lv_at hl 1 rfl) ?_
          obtain ⟨i107, e108, hf⟩ := ob_some hf
          have h109 : mA M0 24 i107 = true := h106 i107 e108
          refine W_stk (st := [.int v1, va_rf (((mR M0 0 v0 14)).map (ad 24)), .long r103]) (st' := [.int v1, .ref (ad 24 i107), .long r103]) (by first | (rw [e108]; done) | (rw [e108]; rfl)) ?_
          obtain ⟨h110, hf⟩ := ix_some hf
          refine hp_lald hx hb hK hP h109 rfl h110 dX4_close_75 ?_
          refine lv_ladd hx hb dX4_close_76 ?_
          refine lv_aload_n hx hb dX4_close_77 rfl (lv_at hl 0 rfl) ?_
          have h111 : ∀ j : Nat, (mR M0 0 v0 12) = some j → mA M0 22 j = true := fun j hj => hp_wf hP a0 hj
          refine gf0 (v := va_rf (((mR M0 0 v0 12)).map (ad 22))) hx hb hts hown hK hP a0 12 (by decide) (hts _ q617) rfl rfl dX4_close_78 ?_
          refine lv_iload_n hx hb dX4_close_81 rfl (lv_at hl 1 rfl) ?_
          obtain ⟨i112, e113, hf⟩ := ob_some hf
          have h114 : mA M0 22 i112 = true := h111 i112 e113
          refine W_stk (st := [.int v1, va_rf (((mR M0 0 v0 12)).map (ad 22)), .long (r103 + (mJ M0 24 i107 (v1).toNatClampNeg))]) (st' := [.int v1, .ref (ad 22 i112), .long (r103 + (mJ M0 24 i107 (v1).toNatClampNeg))]) (by first | (rw [e113]; done) | (rw [e113]; rfl)) ?_
          obtain ⟨h115, hf⟩ := ix_some hf
          refine hp_lald hx hb hK hP h114 rfl h115 dX4_close_82 ?_
          refine lv_ladd hx hb dX4_close_83 ?_
          obtain ⟨x116, e117, hf⟩ := lt_some hf
          refine W_topJ e117 ?_
          refine lv_lstore_n (lv' := [(2, .long x116), (0, .ref (ad 0 v0)), (1, .int v1)]) hx hb dX4_close_84 rfl hl (by decide) rfl (fun ls hl => ?_)
          refine lv_aload_n hx hb dX4_close_85 rfl (lv_at hl 1 rfl) ?_
          refine lv_iload_n hx hb dX4_close_86 rfl (lv_at hl 2 rfl) ?_
          refine lv_iconst (v := (1 : Int32)) hx hb dX4_close_87 (by decide) ?_
          obtain ⟨r119, e118, hf⟩ := ob_some hf
          refine hp_calll (va_runV (As := [.int v1, .int (1 : Int32)]) (rest := []) ⟨hx, hb, hml, hown, hts⟩ (ok_X4_staked l D cy ad M0 _ v0 v1 (1 : Int32) r119 a0 e118) (cwV 2 hts (gdV q844 q846 q75 q86 q847) rfl rfl rfl (by decide +kernel) ⟨Nat.le_of_ble_eq_true rfl, Nat.le_of_ble_eq_true rfl⟩) (pre_V hP hK hN a0 ds_0 rfl) rfl rfl hl.1 rfl (lv_room (Nat.le_of_ble_eq_true rfl)) dX4_close_88 ⟨Nat.le_of_ble_eq_true rfl, Nat.le_of_ble_eq_true rfl⟩) hP hS hA (fun H locs hP hS _ => ?_)
          refine lv_aload_n hx hb dX4_close_91 rfl (lv_at hl 1 rfl) ?_
          have h122 : ∀ j : Nat, (mR M0 0 v0 9) = some j → mA M0 19 j = true := fun j hj => hp_wf hP a0 hj
          refine gf0 (v := va_rf (((mR M0 0 v0 9)).map (ad 19))) hx hb hts hown hK hP a0 9 (by decide) (hts _ q614) rfl rfl dX4_close_92 ?_
          refine lv_iload_n hx hb dX4_close_95 rfl (lv_at hl 2 rfl) ?_
          obtain ⟨i123, e124, hf⟩ := ob_some hf
          have h125 : mA M0 19 i123 = true := h122 i123 e124
          refine W_stk (st := [.int v1, va_rf (((mR M0 0 v0 9)).map (ad 19)), .long r119]) (st' := [.int v1, .ref (ad 19 i123), .long r119]) (by first | (rw [e124]; done) | (rw [e124]; rfl)) ?_
          obtain ⟨h126, hf⟩ := ix_some hf
          refine hp_lald hx hb hK hP h125 rfl h126 dX4_close_96 ?_
          refine lv_ladd hx hb dX4_close_97 ?_
          refine lv_aload_n hx hb dX4_close_98 rfl (lv_at hl 1 rfl) ?_
          have h127 : ∀ j : Nat, (mR M0 0 v0 10) = some j → mA M0 20 j = true := fun j hj => hp_wf hP a0 hj
          refine gf0 (v := va_rf (((mR M0 0 v0 10)).map (ad 20))) hx hb hts hown hK hP a0 10 (by decide) (hts _ q615) rfl rfl dX4_close_99 ?_
          refine lv_iload_n hx hb dX4_close_102 rfl (lv_at hl 2 rfl) ?_
          obtain ⟨i128, e129, hf⟩ := ob_some hf
          have h130 : mA M0 20 i128 = true := h127 i128 e129
          refine W_stk (st := [.int v1, va_rf (((mR M0 0 v0 10)).map (ad 20)), .long (r119 + (mJ M0 19 i123 (v1).toNatClampNeg))]) (st' := [.int v1, .ref (ad 20 i128), .long (r119 + (mJ M0 19 i123 (v1).toNatClampNeg))]) (by first | (rw [e129]; done) | (rw [e129]; rfl)) ?_
          obtain ⟨h131, hf⟩ := ix_some hf
          refine hp_lald hx hb hK hP h130 rfl h131 dX4_close_103 ?_
          refine lv_ladd hx hb dX4_close_104 ?_
          refine lv_aload_n hx hb dX4_close_105 rfl (lv_at hl 1 rfl) ?_
          have h132 : ∀ j : Nat, (mR M0 0 v0 11) = some j → mA M0 21 j = true := fun j hj => hp_wf hP a0 hj
          refine gf0 (v := va_rf (((mR M0 0 v0 11)).map (ad 21))) hx hb hts hown hK hP a0 11 (by decide) (hts _ q616) rfl rfl dX4_close_106 ?_
          refine lv_iload_n hx hb dX4_close_109 rfl (lv_at hl 2 rfl) ?_
          obtain ⟨i133, e134, hf⟩ := ob_some hf
          have h135 : mA M0 21 i133 = true := h132 i133 e134
          refine W_stk (st := [.int v1, va_rf (((mR M0 0 v0 11)).map (ad 21)), .long ((r119 + (mJ M0 19 i123 (v1).toNatClampNeg)) + (mJ M0 20 i128 (v1).toNatClampNeg))]) (st' := [.int v1, .ref (ad 21 i133), .long ((r119 + (mJ M0 19 i123 (v1).toNatClampNeg)) + (mJ M0 20 i128 (v1).toNatClampNeg))]) (by first | (rw [e134]; done) | (rw [e134]; rfl)) ?_
          obtain ⟨h136, hf⟩ := ix_some hf
          refine hp_lald hx hb hK hP h135 rfl h136 dX4_close_110 ?_
          refine lv_ladd hx hb dX4_close_111 ?_
          refine lv_aload_n hx hb dX4_close_112 rfl (lv_at hl 1 rfl) ?_
          have h137 : ∀ j : Nat, (mR M0 0 v0 13) = some j → mA M0 23 j = true := fun j hj => hp_wf hP a0 hj
          refine gf0 (v := va_rf (((mR M0 0 v0 13)).map (ad 23))) hx hb hts hown hK hP a0 13 (by decide) (hts _ q618) rfl rfl dX4_close_113 ?_
          refine lv_iload_n hx hb dX4_close_116 rfl (lv_at hl 2 rfl) ?_
          obtain ⟨i138, e139, hf⟩ := ob_some hf
          have h140 : mA M0 23 i138 = true := h137 i138 e139
          refine W_stk (st := [.int v1, va_rf (((mR M0 0 v0 13)).map (ad 23)), .long (((r119 + (mJ M0 19 i123 (v1).toNatClampNeg)) + (mJ M0 20 i128 (v1).toNatClampNeg)) + (mJ M0 21 i133 (v1).toNatClampNeg))]) (st' := [.int v1, .ref (ad 23 i138), .long (((r119 + (mJ M0 19 i123 (v1).toNatClampNeg)) + (mJ M0 20 i128 (v1).toNatClampNeg)) + (mJ M0 21 i133 (v1).toNatClampNeg))]) (by first | (rw [e139]; done) | (rw [e139]; rfl)) ?_
          obtain ⟨h141, hf⟩ := ix_some hf
          refine hp_lald hx hb hK hP h140 rfl h141 dX4_close_117 ?_
          refine lv_ladd hx hb dX4_close_118 ?_
          obtain ⟨x142, e143, hf⟩ := lt_some hf
          refine W_topJ e143 ?_
          refine lv_lstore (lv' := [(4, .long x142), (2, .long x116), (0, .ref (ad 0 v0)), (1, .int v1)]) hx hb dX4_close_119 hl (by decide) rfl (fun ls hl => ?_)
          refine lv_lload_n hx hb dX4_close_121 rfl (lv_at hl 1 rfl) ?_
          refine lv_lload hx hb dX4_close_122 (lv_at hl 0 rfl) ?_
          refine W.lcmp hx hb dX4_close_124 ?_
          refine lv_if_eq (tgt := 153) hx hb dX4_close_125 (by decide) (fun c144 => ?_) (fun c144 => ?_)
          · have hf := if_t hf c144
            obtain ⟨x145, e146, hf⟩ := lt_some hf
            refine lv_iinc (v := x145) (lv' := [(1, .int x145), (4, .long x142), (2, .long x116), (0, .ref (ad 0 v0))]) hx hb dX4_close_153 hl (k := 3) rfl (by rw [e146]; rfl) (by decide) rfl (fun ls hl => ?_)
            refine lv_goto (tgt := 37) hx hb dX4_close_156 (by decide) ?_
            exact ih v0 x145 _ _ _ a0 hf hP hS (lv_sub hl [3, 0] rfl)
          · have hf := if_f hf c144
            refine lv_bipush (v := (100 : Int32)) hx hb dX4_close_128 (by decide) ?_
            refine lv_iload_n hx hb dX4_close_130 rfl (lv_at hl 3 rfl) ?_
            refine lv_bipush (v := (52 : Int32)) hx hb dX4_close_131 (by decide) ?_
            refine lv_icmp_ne (tgt := 141) hx hb dX4_close_133 (by decide) (fun c147 => ?_) (fun c147 => ?_)
            · have hf := if_f hf c147
              refine lv_iload_n hx hb dX4_close_141 rfl (lv_at hl 3 rfl) ?_
              refine lv_iconst (v := (4 : Int32)) hx hb dX4_close_142 (by decide) ?_
              obtain ⟨h148, hf⟩ := dv_some hf
              refine lv_idiv hx hb dX4_close_143 h148 ?_
              exact t_X4_close_144 C v1 (v1 / (4 : Int32)) (100 : Int32) _ _ _  hf hP hS (lv_sub hl [3] rfl)
            · have hf := if_t hf c147
              refine lv_bipush (v := (13 : Int32)) hx hb dX4_close_136 (by decide) ?_
              refine lv_goto (tgt := 144) hx hb dX4_close_138 (by decide) ?_
              exact t_X4_close_144 C v1 (13 : Int32) (100 : Int32) _ _ _  hf hP hS (lv_sub hl [3] rfl)
        · have hf := if_t hf c101
          refine lv_goto (tgt := 153) hx hb dX4_close_61 (by decide) ?_
          obtain ⟨x153, e154, hf⟩ := lt_some hf
          refine lv_iinc (v := x153) (lv' := [(1, .int x153), (0, .ref (ad 0 v0))]) hx hb dX4_close_153 hl (k := 1) rfl (by rw [e154]; rfl) (by decide) rfl (fun ls hl => ?_)
          refine lv_goto (tgt := 37) hx hb dX4_close_156 (by decide) ?_
          exact ih v0 x153 _ _ _ a0 hf hP hS (lv_sub hl [1, 0] rfl)
set_option maxRecDepth 100000 in
set_option maxHeartbeats 4000000 in
theorem t_X4_close_2 {p : Program} {l : Launch} {e : Env} {s : State} {m : MethodId} {args : Array Value} {below : List Frame} {meth : Method} {c : Code} {D : va_G} {cy : Nat → ClassId} {ad : Nat → Nat → Nat} {M0 : Mm} {r0 : Int32} (C : Cx RX4 cX4_close 6 (some .int) D cy (AA ad M0 s.heap.size) p s m args meth c) : ∀ (n : Nat), ∀ (v0 : Nat) (v1 : Int32) (H : Heap) (locs : List Loc) (ls : Array Slot), (mA M0 0 v0 = true) → f_X4_close_2 M0 n v0 v1 = some r0 → HP D cy (AA ad M0 s.heap.size) ad M0 H → va_S (AA ad M0 s.heap.size) s.heap H locs → lv_has ls 6 [(0, .ref (ad 0 v0)), (1, .int v1)] → W p l e { frames := 2, cells := 0, slots := 0, locals := 46 } s m args below meth c H locs 0 0 (MQ below (QI D cy ad M0 s.heap.size r0 M0) args s 0 0 (AA ad M0 s.heap.size)) (F0 m 2 ls []) := by
  obtain ⟨hx, hb, hr, hml, hown, hts, hlocks, hK, hN, hA⟩ := id C
  intro n
  induction n with
  | zero =>
    intro v0 v1 H locs ls a0 hf hP hS hl
    simp [f_X4_close_2] at hf
  | succ n ih =>
    intro v0 v1 H locs ls a0 hf hP hS hl
    rw [f_X4_close_2] at hf
    refine lv_iload_n hx hb dX4_close_2 rfl (lv_at hl 1 rfl) ?_
    refine lv_bipush (v := (13 : Int32)) hx hb dX4_close_3 (by decide) ?_
    refine lv_icmp_ge (tgt := 35) hx hb dX4_close_5 (by decide) (fun c86 => ?_) (fun c86 => ?_)
    · have hf := if_t hf c86
      refine lv_iconst (v := (0 : Int32)) hx hb dX4_close_35 (by decide) ?_
      refine lv_istore_n (lv' := [(1, .int (0 : Int32)), (0, .ref (ad 0 v0))]) hx hb dX4_close_36 rfl hl (by decide) rfl (fun ls hl => ?_)
      exact t_X4_close_37 C FU v0 (0 : Int32) _ _ _ a0 hf hP hS (lv_sub hl [1, 0] rfl)
    · have hf := if_f hf c86
      refine lv_aload_n hx hb dX4_close_8 rfl (lv_at hl 0 rfl) ?_
      have h155 : ∀ j : Nat, (mR M0 0 v0 0) = some j → mA M0 10 j = true := fun j hj => hp_wf hP a0 hj
      refine gf0 (v := va_rf (((mR M0 0 v0 0)).map (ad 10))) hx hb hts hown hK hP a0 0 (by decide) (hts _ q605) rfl rfl dX4_close_9 ?_
      refine lv_iload_n hx hb dX4_close_12 rfl (lv_at hl 1 rfl) ?_
      obtain ⟨i156, e157, hf⟩ := ob_some hf
      have h158 : mA M0 10 i156 = true := h155 i156 e157
      refine W_stk (st := [.int v1, va_rf (((mR M0 0 v0 0)).map (ad 10))]) (st' := [.int v1, .ref (ad 10 i156)]) (by first | (rw [e157]; done) | (rw [e157]; rfl)) ?_
      obtain ⟨h159, hf⟩ := ix_some hf
      refine hp_iald hx hb hK hP h158 rfl h159 dX4_close_13 ?_
      refine lv_if_le (tgt := 29) hx hb dX4_close_14 (by decide) (fun c160 => ?_) (fun c160 => ?_)
      · have hf := if_t hf c160
        obtain ⟨x161, e162, hf⟩ := lt_some hf
        refine lv_iinc (v := x161) (lv' := [(1, .int x161), (0, .ref (ad 0 v0))]) hx hb dX4_close_29 hl (k := 1) rfl (by rw [e162]; rfl) (by decide) rfl (fun ls hl => ?_)
        refine lv_goto (tgt := 2) hx hb dX4_close_32 (by decide) ?_
        exact ih v0 x161 _ _ _ a0 hf hP hS (lv_sub hl [1, 0] rfl)
      · have hf := if_f hf c160
        refine lv_aload_n hx hb dX4_close_17 rfl (lv_at hl 0 rfl) ?_
        have h163 : ∀ j : Nat, (mR M0 0 v0 1) = some j → mA M0 11 j = true := fun j hj => hp_wf hP a0 hj
        refine gf0 (v := va_rf (((mR M0 0 v0 1)).map (ad 11))) hx hb hts hown hK hP a0 1 (by decide) (hts _ q606) rfl rfl dX4_close_18 ?_
        refine lv_iload_n hx hb dX4_close_21 rfl (lv_at hl 1 rfl) ?_
        obtain ⟨i164, e165, hf⟩ := ob_some hf
        have h166 : mA M0 11 i164 = true := h163 i164 e165
        refine W_stk (st := [.int v1, va_rf (((mR M0 0 v0 1)).map (ad 11))]) (st' := [.int v1, .ref (ad 11 i164)]) (by first | (rw [e165]; done) | (rw [e165]; rfl)) ?_
        obtain ⟨h167, hf⟩ := ix_some hf
        refine hp_iald hx hb hK hP h166 rfl h167 dX4_close_22 ?_
        refine lv_iconst (v := (2 : Int32)) hx hb dX4_close_23 (by decide) ?_
        refine lv_icmp_eq (tgt := 29) hx hb dX4_close_24 (by decide) (fun c168 => ?_) (fun c168 => ?_)
        · have hf := if_t hf c168
          obtain ⟨x169, e170, hf⟩ := lt_some hf
          refine lv_iinc (v := x169) (lv' := [(1, .int x169), (0, .ref (ad 0 v0))]) hx hb dX4_close_29 hl (k := 1) rfl (by rw [e170]; rfl) (by decide) rfl (fun ls hl => ?_)
          refine lv_goto (tgt := 2) hx hb dX4_close_32 (by decide) ?_
          exact ih v0 x169 _ _ _ a0 hf hP hS (lv_sub hl [1, 0] rfl)
        · have hf := if_f hf c168
          refine lv_iconst (v := (-1 : Int32)) hx hb dX4_close_27 (by decide) ?_
          exact hp_iret hx hb hr hlocks (Option.some.inj hf) rfl hP hS keep_rf dX4_close_28
set_option maxRecDepth 100000 in
set_option maxHeartbeats 4000000 in
theorem ok_X4_close (l : Launch) (D : va_G) (cy : Nat → ClassId) (ad : Nat → Nat → Nat) (M0 : Mm) (sz : Nat) (v0 : Nat) (r0 : Int32) (a0 : mA M0 0 v0 = true) (hf : f_X4_close v0 M0 = some r0) : Met l yX4_close (Cond.code yX4_close cX4_close 6 (some .int) :: BW) { frames := 2, cells := 0, slots := 0, locals := 46 } (va_Pc [.ref (ad 0 v0)] (PRE D cy ad M0 sz)) (QI D cy ad M0 sz r0 M0) 0 0 (AA ad M0 sz) := by
  refine Met.ofW (cc := cX4_close) (maxL := 6) (ret := (some .int)) (by decide) rfl ?_
  intro p e s m args below meth c s₁ B hml hv
  obtain ⟨rfl, rfl, hP0, hK, hN⟩ := hv
  have hx := B.exec
  have hb := B.bytes
  have hr := B.returns
  have hts0 := atoms_spec (ws := (Cond.code yX4_close cX4_close 6 (some .int) :: BW)) B.pre
  have hts : ∀ w ∈ BW, w.before ([.ref (ad 0 v0)] : List Value).toArray s = true := fun w h => hts0 w (List.mem_cons_of_mem _ h)
  have hown : s.vm.findClass RX4 = some m.cls := findClass_of_methodNamed B.named
  have hlocks := B.notSynchronized
  have hA : ∀ q : Nat, s.heap.size ≤ q → AA ad M0 s.heap.size q := fun q h => Or.inr h
  have C : Cx RX4 cX4_close 6 (some .int) D cy (AA ad M0 s.heap.size) p s m ([.ref (ad 0 v0)] : List Value).toArray meth c := ⟨hx, hb, hr, hml, hown, hts, hlocks, hK, hN, hA⟩
  have hP := hp_self (sz := s.heap.size) hP0
  have hS : va_S (AA ad M0 s.heap.size) s.heap s.heap [] := va_S.rf
  have hl := lv_entry ([.ref (ad 0 v0)]) (n := 6) (Nat.le_of_ble_eq_true rfl)
  rw [lg_entry_eq]
  generalize (lg_sl ([.ref (ad 0 v0)]) ++ List.replicate (6 - (lg_sl ([.ref (ad 0 v0)])).length) Slot.unset).toArray = ls at hl ⊢
  have hl : lv_has ls 6 [(0, .ref (ad 0 v0))] := hl
  unfold f_X4_close at hf
  refine lv_iconst (v := (1 : Int32)) hx hb dX4_close_0 (by decide) ?_
  refine lv_istore_n (lv' := [(1, .int (1 : Int32)), (0, .ref (ad 0 v0))]) hx hb dX4_close_1 rfl hl (by decide) rfl (fun ls hl => ?_)
  exact t_X4_close_2 C FU v0 (1 : Int32) _ _ _ a0 hf hP hS (lv_sub hl [1, 0] rfl)

def f_X4_ticket (v0 : Nat) (v1 : Int32) (v2 : Int32) (M0 : Mm) : Option Int32 :=
  ob (f_X4_in v1 (0 : Int32) ((mI M0 0 v0 19) - (1 : Int32)) M0) fun r60 => if r60 = 0 then (some (-1 : Int32)) else (if v2 = (0 : Int32) then (ob (mR M0 0 v0 20) fun i66 => ix v1 600 (if (mI M0 27 i66 (v1).toNatClampNeg) = (52 : Int32) then (some (0 : Int32)) else (ob (mR M0 0 v0 20) fun i72 => ix v1 600 (dv (4 : Int32) (some ((mI M0 27 i72 (v1).toNatClampNeg) / (4 : Int32))))))) else (if v2 = (1 : Int32) then (ob (mR M0 0 v0 20) fun i79 => ix v1 600 (ob (f_X4_kindOf (mI M0 27 i79 (v1).toNatClampNeg) M0) fun r84 => some r84)) else (if v2 = (2 : Int32) then (ob (mR M0 0 v0 21) fun i89 => ix ((((3 : Int32) * v1) + v2) - (2 : Int32)) 1800 (some (mI M0 28 i89 (((((3 : Int32) * v1) + v2) - (2 : Int32))).toNatClampNeg))) else (if v2 = (3 : Int32) then (ob (mR M0 0 v0 21) fun i95 => ix ((((3 : Int32) * v1) + v2) - (2 : Int32)) 1800 (some (mI M0 28 i95 (((((3 : Int32) * v1) + v2) - (2 : Int32))).toNatClampNeg))) else (if v2 = (4 : Int32) then (ob (mR M0 0 v0 21) fun i101 => ix ((((3 : Int32) * v1) + v2) - (2 : Int32)) 1800 (some (mI M0 28 i101 (((((3 : Int32) * v1) + v2) - (2 : Int32))).toNatClampNeg))) else (if v2 = (5 : Int32) then (ob (mR M0 0 v0 22) fun i107 => ix v1 600 (some (mI M0 29 i107 (v1).toNatClampNeg))) else (if v2 = (6 : Int32) then (ob (mR M0 0 v0 23) fun i113 => ix v1 600 (some (mI M0 30 i113 (v1).toNatClampNeg))) else (some (-1 : Int32)))))))))
set_option maxRecDepth 100000 in
set_option maxHeartbeats 4000000 in
theorem ok_X4_ticket (l : Launch) (D : va_G) (cy : Nat → ClassId) (ad : Nat → Nat → Nat) (M0 : Mm) (sz : Nat) (v0 : Nat) (v1 : Int32) (v2 : Int32) (r0 : Int32) (a0 : mA M0 0 v0 = true) (hf : f_X4_ticket v0 v1 v2 M0 = some r0) : Met l yX4_ticket (Cond.code yX4_ticket cX4_ticket 3 (some .int) :: BW) { frames := 1, cells := 0, slots := 0, locals := 22 } (va_Pc [.ref (ad 0 v0), .int v1, .int v2] (PRE D cy ad M0 sz)) (QI D cy ad M0 sz r0 M0) 0 0 (AA ad M0 sz) := by
  refine Met.ofW (cc := cX4_ticket) (maxL := 3) (ret := (some .int)) (by decide) rfl ?_
  intro p e s m args below meth c s₁ B hml hv
  obtain ⟨rfl, rfl, hP0, hK, hN⟩ := hv
  have hx := B.exec
  have hb := B.bytes
  have hr := B.returns
  have hts0 := atoms_spec (ws := (Cond.code yX4_ticket cX4_ticket 3 (some .int) :: BW)) B.pre
  have hts : ∀ w ∈ BW, w.before ([.ref (ad 0 v0), .int v1, .int v2] : List Value).toArray s = true := fun w h => hts0 w (List.mem_cons_of_mem _ h)
  have hown : s.vm.findClass RX4 = some m.cls := findClass_of_methodNamed B.named
  have hlocks := B.notSynchronized
  have hA : ∀ q : Nat, s.heap.size ≤ q → AA ad M0 s.heap.size q := fun q h => Or.inr h
  have C : Cx RX4 cX4_ticket 3 (some .int) D cy (AA ad M0 s.heap.size) p s m ([.ref (ad 0 v0), .int v1, .int v2] : List Value).toArray meth c := ⟨hx, hb, hr, hml, hown, hts, hlocks, hK, hN, hA⟩
  have hP := hp_self (sz := s.heap.size) hP0
  have hS : va_S (AA ad M0 s.heap.size) s.heap s.heap [] := va_S.rf
  have hl := lv_entry ([.ref (ad 0 v0), .int v1, .int v2]) (n := 3) (Nat.le_of_ble_eq_true rfl)
  rw [lg_entry_eq]
  generalize (lg_sl ([.ref (ad 0 v0), .int v1, .int v2]) ++ List.replicate (3 - (lg_sl ([.ref (ad 0 v0), .int v1, .int v2])).length) Slot.unset).toArray = ls at hl ⊢
  have hl : lv_has ls 3 [(0, .ref (ad 0 v0)), (1, .int v1), (2, .int v2)] := hl
  unfold f_X4_ticket at hf
  refine lv_iload_n hx hb dX4_ticket_0 rfl (lv_at hl 1 rfl) ?_
  refine lv_iconst (v := (0 : Int32)) hx hb dX4_ticket_1 (by decide) ?_
  refine lv_aload_n hx hb dX4_ticket_2 rfl (lv_at hl 0 rfl) ?_
  refine gf0 (v := .int (mI M0 0 v0 19)) hx hb hts hown hK hP a0 19 (by decide) (hts _ q624) rfl rfl dX4_ticket_3 ?_
  refine lv_iconst (v := (1 : Int32)) hx hb dX4_ticket_6 (by decide) ?_
  refine lv_isub hx hb dX4_ticket_7 ?_
  obtain ⟨r60, e59, hf⟩ := ob_some hf
  refine hp_calli (va_runS (As := [.int v1, .int (0 : Int32), .int ((mI M0 0 v0 19) - (1 : Int32))]) (rest := []) ⟨hx, hb, hml, hown, hts⟩ (ok_X4_in l D cy ad M0 _ v1 (0 : Int32) ((mI M0 0 v0 19) - (1 : Int32)) r60  e59) (va_cwS 3 hts (gdS q708 q709 q86 q710) rfl rfl rfl (by decide +kernel) ⟨Nat.le_of_ble_eq_true rfl, Nat.le_of_ble_eq_true rfl⟩) (pre_S hP hK hN) rfl rfl hl.1 rfl (lv_room (Nat.le_of_ble_eq_true rfl)) dX4_ticket_8 ⟨Nat.le_of_ble_eq_true rfl, Nat.le_of_ble_eq_true rfl⟩) hP hS hA (fun H locs hP hS _ => ?_)
  refine lv_if_ne (tgt := 16) hx hb dX4_ticket_11 (by decide) (fun c63 => ?_) (fun c63 => ?_)
  · have hf := if_f hf c63
    refine lv_iload_n hx hb dX4_ticket_16 rfl (lv_at hl 2 rfl) ?_
    by_cases c64 : v2 = (0 : Int32)
    · have hf := if_t hf c64
      refine W_topI c64.symm ?_
      refine lv_tableIn (x := (0 : Int32)) (off := 43) (tgt := 60) hx hb dX4_ticket_17 (by decide) (by decide) (by decide) (by decide) ?_
      refine lv_aload_n hx hb dX4_ticket_60 rfl (lv_at hl 0 rfl) ?_
      have h65 : ∀ j : Nat, (mR M0 0 v0 20) = some j → mA M0 27 j = true := fun j hj => hp_wf hP a0 hj
      refine gf0 (v := va_rf (((mR M0 0 v0 20)).map (ad 27))) hx hb hts hown hK hP a0 20 (by decide) (hts _ q625) rfl rfl dX4_ticket_61 ?_
      refine lv_iload_n hx hb dX4_ticket_64 rfl (lv_at hl 1 rfl) ?_
      obtain ⟨i66, e67, hf⟩ := ob_some hf
      have h68 : mA M0 27 i66 = true := h65 i66 e67
      refine W_stk (st := [.int v1, va_rf (((mR M0 0 v0 20)).map (ad 27))]) (st' := [.int v1, .ref (ad 27 i66)]) (by first | (rw [e67]; done) | (rw [e67]; rfl)) ?_
      obtain ⟨h69, hf⟩ := ix_some hf
      refine hp_iald hx hb hK hP h68 rfl h69 dX4_ticket_65 ?_
      refine lv_bipush (v := (52 : Int32)) hx hb dX4_ticket_66 (by decide) ?_
      refine lv_icmp_ne (tgt := 75) hx hb dX4_ticket_68 (by decide) (fun c70 => ?_) (fun c70 => ?_)
      · have hf := if_f hf c70
        refine lv_aload_n hx hb dX4_ticket_75 rfl (lv_at hl 0 rfl) ?_
        have h71 : ∀ j : Nat, (mR M0 0 v0 20) = some j → mA M0 27 j = true := fun j hj => hp_wf hP a0 hj
        refine gf0 (v := va_rf (((mR M0 0 v0 20)).map (ad 27))) hx hb hts hown hK hP a0 20 (by decide) (hts _ q625) rfl rfl dX4_ticket_76 ?_
        refine lv_iload_n hx hb dX4_ticket_79 rfl (lv_at hl 1 rfl) ?_
        obtain ⟨i72, e73, hf⟩ := ob_some hf
        have h74 : mA M0 27 i72 = true := h71 i72 e73
        refine W_stk (st := [.int v1, va_rf (((mR M0 0 v0 20)).map (ad 27))]) (st' := [.int v1, .ref (ad 27 i72)]) (by first | (rw [e73]; done) | (rw [e73]; rfl)) ?_
        obtain ⟨h75, hf⟩ := ix_some hf
        refine hp_iald hx hb hK hP h74 rfl h75 dX4_ticket_80 ?_
        refine lv_iconst (v := (4 : Int32)) hx hb dX4_ticket_81 (by decide) ?_
        obtain ⟨h76, hf⟩ := dv_some hf
        refine lv_idiv hx hb dX4_ticket_82 h76 ?_
        exact hp_iret hx hb hr hlocks (Option.some.inj hf) rfl hP hS keep_rf dX4_ticket_83
      · have hf := if_t hf c70
        refine lv_iconst (v := (0 : Int32)) hx hb dX4_ticket_71 (by decide) ?_
        refine lv_goto (tgt := 83) hx hb dX4_ticket_72 (by decide) ?_
        exact hp_iret hx hb hr hlocks (Option.some.inj hf) rfl hP hS keep_rf dX4_ticket_83
    have hf := if_f hf c64
    by_cases c77 : v2 = (1 : Int32)
    · have hf := if_t hf c77
      refine W_topI c77.symm ?_
      refine lv_tableIn (x := (1 : Int32)) (off := 67) (tgt := 84) hx hb dX4_ticket_17 (by decide) (by decide) (by decide) (by decide) ?_
      refine lv_aload_n hx hb dX4_ticket_84 rfl (lv_at hl 0 rfl) ?_
      have h78 : ∀ j : Nat, (mR M0 0 v0 20) = some j → mA M0 27 j = true := fun j hj => hp_wf hP a0 hj
      refine gf0 (v := va_rf (((mR M0 0 v0 20)).map (ad 27))) hx hb hts hown hK hP a0 20 (by decide) (hts _ q625) rfl rfl dX4_ticket_85 ?_
      refine lv_iload_n hx hb dX4_ticket_88 rfl (lv_at hl 1 rfl) ?_
      obtain ⟨i79, e80, hf⟩ := ob_some hf
      have h81 : mA M0 27 i79 = true := h78 i79 e80
      refine W_stk (st := [.int v1, va_rf (((mR M0 0 v0 20)).map (ad 27))]) (st' := [.int v1, .ref (ad 27 i79)]) (by first | (rw [e80]; done) | (rw [e80]; rfl)) ?_
      obtain ⟨h82, hf⟩ := ix_some hf
      refine hp_iald hx hb hK hP h81 rfl h82 dX4_ticket_89 ?_
      obtain ⟨r84, e83, hf⟩ := ob_some hf
      refine hp_calli (va_runS (As := [.int (mI M0 27 i79 (v1).toNatClampNeg)]) (rest := []) ⟨hx, hb, hml, hown, hts⟩ (ok_X4_kindOf l D cy ad M0 _ (mI M0 27 i79 (v1).toNatClampNeg) r84  e83) (va_cwS 1 hts (gdS q769 q770 q86 q771) rfl rfl rfl (by decide +kernel) ⟨Nat.le_of_ble_eq_true rfl, Nat.le_of_ble_eq_true rfl⟩) (pre_S hP hK hN) rfl rfl hl.1 rfl (lv_room (Nat.le_of_ble_eq_true rfl)) dX4_ticket_90 ⟨Nat.le_of_ble_eq_true rfl, Nat.le_of_ble_eq_true rfl⟩) hP hS hA (fun H locs hP hS _ => ?_)
      exact hp_iret hx hb hr hlocks (Option.some.inj hf) rfl hP hS keep_rf dX4_ticket_93
    have hf := if_f hf c77
    by_cases c87 : v2 = (2 : Int32)
    · have hf := if_t hf c87
      refine W_topI c87.symm ?_
      refine lv_tableIn (x := (2 : Int32)) (off := 77) (tgt := 94) hx hb dX4_ticket_17 (by decide) (by decide) (by decide) (by decide) ?_
      refine lv_aload_n hx hb dX4_ticket_94 rfl (lv_at hl 0 rfl) ?_
      have h88 : ∀ j : Nat, (mR M0 0 v0 21) = some j → mA M0 28 j = true := fun j hj => hp_wf hP a0 hj
      refine gf0 (v := va_rf (((mR M0 0 v0 21)).map (ad 28))) hx hb hts hown hK hP a0 21 (by decide) (hts _ q626) rfl rfl dX4_ticket_95 ?_
      refine lv_iconst (v := (3 : Int32)) hx hb dX4_ticket_98 (by decide) ?_
      refine lv_iload_n hx hb dX4_ticket_99 rfl (lv_at hl 1 rfl) ?_
      refine lv_imul hx hb dX4_ticket_100 ?_
      refine lv_iload_n hx hb dX4_ticket_101 rfl (lv_at hl 2 rfl) ?_
      refine lv_iadd hx hb dX4_ticket_102 ?_
      refine lv_iconst (v := (2 : Int32)) hx hb dX4_ticket_103 (by decide) ?_
      refine lv_isub hx hb dX4_ticket_104 ?_
      obtain ⟨i89, e90, hf⟩ := ob_some hf
      have h91 : mA M0 28 i89 = true := h88 i89 e90
      refine W_stk (st := [.int ((((3 : Int32) * v1) + v2) - (2 : Int32)), va_rf (((mR M0 0 v0 21)).map (ad 28))]) (st' := [.int ((((3 : Int32) * v1) + v2) - (2 : Int32)), .ref (ad 28 i89)]) (by first | (rw [e90]; done) | (rw [e90]; rfl)) ?_
      obtain ⟨h92, hf⟩ := ix_some hf
      refine hp_iald hx hb hK hP h91 rfl h92 dX4_ticket_105 ?_
      exact hp_iret hx hb hr hlocks (Option.some.inj hf) rfl hP hS keep_rf dX4_ticket_106
    have hf := if_f hf c87
    by_cases c93 : v2 = (3 : Int32)
    · have hf := if_t hf c93
      refine W_topI c93.symm ?_
      refine lv_tableIn (x := (3 : Int32)) (off := 77) (tgt := 94) hx hb dX4_ticket_17 (by decide) (by decide) (by decide) (by decide) ?_
      refine lv_aload_n hx hb dX4_ticket_94 rfl (lv_at hl 0 rfl) ?_
      have h94 : ∀ j : Nat, (mR M0 0 v0 21) = some j → mA M0 28 j = true := fun j hj => hp_wf hP a0 hj
      refine gf0 (v := va_rf (((mR M0 0 v0 21)).map (ad 28))) hx hb hts hown hK hP a0 21 (by decide) (hts _ q626) rfl rfl dX4_ticket_95 ?_
      refine lv_iconst (v := (3 : Int32)) hx hb dX4_ticket_98 (by decide) ?_
      refine lv_iload_n hx hb dX4_ticket_99 rfl (lv_at hl 1 rfl) ?_
      refine lv_imul hx hb dX4_ticket_100 ?_
      refine lv_iload_n hx hb dX4_ticket_101 rfl (lv_at hl 2 rfl) ?_
      refine lv_iadd hx hb dX4_ticket_102 ?_
      refine lv_iconst (v := (2 : Int32)) hx hb dX4_ticket_103 (by decide) ?_
      refine lv_isub hx hb dX4_ticket_104 ?_
      obtain ⟨i95, e96, hf⟩ := ob_some hf
      have h97 : mA M0 28 i95 = true := h94 i95 e96
      refine W_stk (st := [.int ((((3 : Int32) * v1) + v2) - (2 : Int32)), va_rf (((mR M0 0 v0 21)).map (ad 28))]) (st' := [.int ((((3 : Int32) * v1) + v2) - (2 : Int32)), .ref (ad 28 i95)]) (by first | (rw [e96]; done) | (rw [e96]; rfl)) ?_
      obtain ⟨h98, hf⟩ := ix_some hf
      refine hp_iald hx hb hK hP h97 rfl h98 dX4_ticket_105 ?_
      exact hp_iret hx hb hr hlocks (Option.some.inj hf) rfl hP hS keep_rf dX4_ticket_106
    have hf := if_f hf c93
    by_cases c99 : v2 = (4 : Int32)
    · have hf := if_t hf c99
      refine W_topI c99.symm ?_
      refine lv_tableIn (x := (4 : Int32)) (off := 77) (tgt := 94) hx hb dX4_ticket_17 (by decide) (by decide) (by decide) (by decide) ?_
      refine lv_aload_n hx hb dX4_ticket_94 rfl (lv_at hl 0 rfl) ?_
      have h100 : ∀ j : Nat, (mR M0 0 v0 21) = some j → mA M0 28 j = true := fun j hj => hp_wf hP a0 hj
      refine gf0 (v := va_rf (((mR M0 0 v0 21)).map (ad 28))) hx hb hts hown hK hP a0 21 (by decide) (hts _ q626) rfl rfl dX4_ticket_95 ?_
      refine lv_iconst (v := (3 : Int32)) hx hb dX4_ticket_98 (by decide) ?_
      refine lv_iload_n hx hb dX4_ticket_99 rfl (lv_at hl 1 rfl) ?_
      refine lv_imul hx hb dX4_ticket_100 ?_
      refine lv_iload_n hx hb dX4_ticket_101 rfl (lv_at hl 2 rfl) ?_
      refine lv_iadd hx hb dX4_ticket_102 ?_
      refine lv_iconst (v := (2 : Int32)) hx hb dX4_ticket_103 (by decide) ?_
      refine lv_isub hx hb dX4_ticket_104 ?_
      obtain ⟨i101, e102, hf⟩ := ob_some hf
      have h103 : mA M0 28 i101 = true := h100 i101 e102
      refine W_stk (st := [.int ((((3 : Int32) * v1) + v2) - (2 : Int32)), va_rf (((mR M0 0 v0 21)).map (ad 28))]) (st' := [.int ((((3 : Int32) * v1) + v2) - (2 : Int32)), .ref (ad 28 i101)]) (by first | (rw [e102]; done) | (rw [e102]; rfl)) ?_
      obtain ⟨h104, hf⟩ := ix_some hf
      refine hp_iald hx hb hK hP h103 rfl h104 dX4_ticket_105 ?_
      exact hp_iret hx hb hr hlocks (Option.some.inj hf) rfl hP hS keep_rf dX4_ticket_106
    have hf := if_f hf c99
    by_cases c105 : v2 = (5 : Int32)
    · have hf := if_t hf c105
      refine W_topI c105.symm ?_
      refine lv_tableIn (x := (5 : Int32)) (off := 90) (tgt := 107) hx hb dX4_ticket_17 (by decide) (by decide) (by decide) (by decide) ?_
      refine lv_aload_n hx hb dX4_ticket_107 rfl (lv_at hl 0 rfl) ?_
      have h106 : ∀ j : Nat, (mR M0 0 v0 22) = some j → mA M0 29 j = true := fun j hj => hp_wf hP a0 hj
      refine gf0 (v := va_rf (((mR M0 0 v0 22)).map (ad 29))) hx hb hts hown hK hP a0 22 (by decide) (hts _ q627) rfl rfl dX4_ticket_108 ?_
      refine lv_iload_n hx hb dX4_ticket_111 rfl (lv_at hl 1 rfl) ?_
      obtain ⟨i107, e108, hf⟩ := ob_some hf
      have h109 : mA M0 29 i107 = true := h106 i107 e108
      refine W_stk (st := [.int v1, va_rf (((mR M0 0 v0 22)).map (ad 29))]) (st' := [.int v1, .ref (ad 29 i107)]) (by first | (rw [e108]; done) | (rw [e108]; rfl)) ?_
      obtain ⟨h110, hf⟩ := ix_some hf
      refine hp_iald hx hb hK hP h109 rfl h110 dX4_ticket_112 ?_
      exact hp_iret hx hb hr hlocks (Option.some.inj hf) rfl hP hS keep_rf dX4_ticket_113
    have hf := if_f hf c105
    by_cases c111 : v2 = (6 : Int32)
    · have hf := if_t hf c111
      refine W_topI c111.symm ?_
      refine lv_tableIn (x := (6 : Int32)) (off := 97) (tgt := 114) hx hb dX4_ticket_17 (by decide) (by decide) (by decide) (by decide) ?_
      refine lv_aload_n hx hb dX4_ticket_114 rfl (lv_at hl 0 rfl) ?_
      have h112 : ∀ j : Nat, (mR M0 0 v0 23) = some j → mA M0 30 j = true := fun j hj => hp_wf hP a0 hj
      refine gf0 (v := va_rf (((mR M0 0 v0 23)).map (ad 30))) hx hb hts hown hK hP a0 23 (by decide) (hts _ q628) rfl rfl dX4_ticket_115 ?_
      refine lv_iload_n hx hb dX4_ticket_118 rfl (lv_at hl 1 rfl) ?_
      obtain ⟨i113, e114, hf⟩ := ob_some hf
      have h115 : mA M0 30 i113 = true := h112 i113 e114
      refine W_stk (st := [.int v1, va_rf (((mR M0 0 v0 23)).map (ad 30))]) (st' := [.int v1, .ref (ad 30 i113)]) (by first | (rw [e114]; done) | (rw [e114]; rfl)) ?_
      obtain ⟨h116, hf⟩ := ix_some hf
      refine hp_iald hx hb hK hP h115 rfl h116 dX4_ticket_119 ?_
      exact hp_iret hx hb hr hlocks (Option.some.inj hf) rfl hP hS keep_rf dX4_ticket_120
    have hf := if_f hf c111
    have hsw : ∀ n : Nat, (n : Int) ≤ (6) - (0) → ¬ v2 = Int32.ofInt ((0) + (n : Int)) := by
      intro n hn
      have hn2 : n = 0 ∨ n = 1 ∨ n = 2 ∨ n = 3 ∨ n = 4 ∨ n = 5 ∨ n = 6 := by omega
      rcases hn2 with rfl | rfl | rfl | rfl | rfl | rfl | rfl
      · exact fun z => c64 (z.trans (by decide))
      · exact fun z => c77 (z.trans (by decide))
      · exact fun z => c87 (z.trans (by decide))
      · exact fun z => c93 (z.trans (by decide))
      · exact fun z => c99 (z.trans (by decide))
      · exact fun z => c105 (z.trans (by decide))
      · exact fun z => c111 (z.trans (by decide))
    refine lv_tableOut (tgt := 121) hx hb dX4_ticket_17 (sw_out hsw) (by decide) ?_
    refine lv_iconst (v := (-1 : Int32)) hx hb dX4_ticket_121 (by decide) ?_
    exact hp_iret hx hb hr hlocks (Option.some.inj hf) rfl hP hS keep_rf dX4_ticket_122
  · have hf := if_t hf c63
    refine lv_iconst (v := (-1 : Int32)) hx hb dX4_ticket_14 (by decide) ?_
    exact hp_iret hx hb hr hlocks (Option.some.inj hf) rfl hP hS keep_rf dX4_ticket_15

def f_X4_units (v0 : Nat) (v1 : Int32) (v2 : Int32) (v3 : Int32) (v4 : Int32) (v5 : Int32) (M0 : Mm) : Option (Int32 × Mm) :=
  ob (f_X4_poolOf v0 v1 v2 M0) fun r20 => if r20 = (-1 : Int32) then (some ((-1 : Int32), M0)) else (ob (f_X4_names v0 v3 v4 v5 M0) fun M26 => ob (f_X4_named v0 r20 M26) fun r29 => if 0 ≤ r29 then (ob (f_X4_unitsOn v0 r20 v3 v4 v5 M26) fun r34 => some (r34, M26)) else (some ((-1 : Int32), M26)))
set_option maxRecDepth 100000 in
set_option maxHeartbeats 4000000 in
theorem ok_X4_units (l : Launch) (D : va_G) (cy : Nat → ClassId) (ad : Nat → Nat → Nat) (M0 : Mm) (sz : Nat) (v0 : Nat) (v1 : Int32) (v2 : Int32) (v3 : Int32) (v4 : Int32) (v5 : Int32) (r0 : Int32) (M' : Mm) (a0 : mA M0 0 v0 = true) (hf : f_X4_units v0 v1 v2 v3 v4 v5 M0 = some (r0, M')) : Met l yX4_units (Cond.code yX4_units cX4_units 7 (some .int) :: BW) { frames := 4, cells := 0, slots := 0, locals := 94 } (va_Pc [.ref (ad 0 v0), .int v1, .int v2, .int v3, .int v4, .int v5] (PRE D cy ad M0 sz)) (QI D cy ad M0 sz r0 M') 0 0 (AA ad M0 sz) := by
  refine Met.ofW (cc := cX4_units) (maxL := 7) (ret := (some .int)) (by decide) rfl ?_
  intro p e s m args below meth c s₁ B hml hv
  obtain ⟨rfl, rfl, hP0, hK, hN⟩ := hv
  have hx := B.exec
  have hb := B.bytes
  have hr := B.returns
  have hts0 := atoms_spec (ws := (Cond.code yX4_units cX4_units 7 (some .int) :: BW)) B.pre
  have hts : ∀ w ∈ BW, w.before ([.ref (ad 0 v0), .int v1, .int v2, .int v3, .int v4, .int v5] : List Value).toArray s = true := fun w h => hts0 w (List.mem_cons_of_mem _ h)
  have hown : s.vm.findClass RX4 = some m.cls := findClass_of_methodNamed B.named
  have hlocks := B.notSynchronized
  have hA : ∀ q : Nat, s.heap.size ≤ q → AA ad M0 s.heap.size q := fun q h => Or.inr h
  have C : Cx RX4 cX4_units 7 (some .int) D cy (AA ad M0 s.heap.size) p s m ([.ref (ad 0 v0), .int v1, .int v2, .int v3, .int v4, .int v5] : List Value).toArray meth c := ⟨hx, hb, hr, hml, hown, hts, hlocks, hK, hN, hA⟩
  have hP := hp_self (sz := s.heap.size) hP0
  have hS : va_S (AA ad M0 s.heap.size) s.heap s.heap [] := va_S.rf
  have hl := lv_entry ([.ref (ad 0 v0), .int v1, .int v2, .int v3, .int v4, .int v5]) (n := 7) (Nat.le_of_ble_eq_true rfl)
  rw [lg_entry_eq]
  generalize (lg_sl ([.ref (ad 0 v0), .int v1, .int v2, .int v3, .int v4, .int v5]) ++ List.replicate (7 - (lg_sl ([.ref (ad 0 v0), .int v1, .int v2, .int v3, .int v4, .int v5])).length) Slot.unset).toArray = ls at hl ⊢
  have hl : lv_has ls 7 [(0, .ref (ad 0 v0)), (1, .int v1), (2, .int v2), (3, .int v3), (4, .int v4), (5, .int v5)] := hl
  unfold f_X4_units at hf
  refine lv_aload_n hx hb dX4_units_0 rfl (lv_at hl 0 rfl) ?_
  refine lv_iload_n hx hb dX4_units_1 rfl (lv_at hl 1 rfl) ?_
  refine lv_iload_n hx hb dX4_units_2 rfl (lv_at hl 2 rfl) ?_
  obtain ⟨r20, e19, hf⟩ := ob_some hf
  refine hp_calli (va_runV (As := [.int v1, .int v2]) (rest := []) ⟨hx, hb, hml, hown, hts⟩ (ok_X4_poolOf l D cy ad M0 _ v0 v1 v2 r20 a0 e19) (cwV 2 hts (gdV q746 q748 q57 q86 q749) rfl rfl rfl (by decide +kernel) ⟨Nat.le_of_ble_eq_true rfl, Nat.le_of_ble_eq_true rfl⟩) (pre_V hP hK hN a0 ds_0 rfl) rfl rfl hl.1 rfl (lv_room (Nat.le_of_ble_eq_true rfl)) dX4_units_3 ⟨Nat.le_of_ble_eq_true rfl, Nat.le_of_ble_eq_true rfl⟩) hP hS hA (fun H locs hP hS _ => ?_)
  refine lv_istore (lv' := [(6, .int r20), (0, .ref (ad 0 v0)), (1, .int v1), (2, .int v2), (3, .int v3), (4, .int v4), (5, .int v5)]) hx hb dX4_units_6 hl (by decide) rfl (fun ls hl => ?_)
  refine lv_iload hx hb dX4_units_8 (lv_at hl 0 rfl) ?_
  refine lv_iconst (v := (-1 : Int32)) hx hb dX4_units_10 (by decide) ?_
  refine lv_icmp_ne (tgt := 16) hx hb dX4_units_11 (by decide) (fun c23 => ?_) (fun c23 => ?_)
  · have hf := if_f hf c23
    refine lv_aload_n hx hb dX4_units_16 rfl (lv_at hl 1 rfl) ?_
    refine lv_iload_n hx hb dX4_units_17 rfl (lv_at hl 4 rfl) ?_
    refine lv_iload hx hb dX4_units_18 (lv_at hl 5 rfl) ?_
    refine lv_iload hx hb dX4_units_20 (lv_at hl 6 rfl) ?_
    obtain ⟨M26, e24, hf⟩ := ob_some hf
    refine hp_callv (va_runV (As := [.int v3, .int v4, .int v5]) (rest := []) ⟨hx, hb, hml, hown, hts⟩ (ok_X4_names l D cy ad M0 _ v0 v3 v4 v5 M26 a0 e24) (cwV 3 hts (gdV q758 q760 q60 q86 q761) rfl rfl rfl (by decide +kernel) ⟨Nat.le_of_ble_eq_true rfl, Nat.le_of_ble_eq_true rfl⟩) (pre_V hP hK hN a0 ds_0 rfl) rfl rfl hl.1 rfl (lv_room (Nat.le_of_ble_eq_true rfl)) dX4_units_22 ⟨Nat.le_of_ble_eq_true rfl, Nat.le_of_ble_eq_true rfl⟩) hP hS hA (fun H locs hP hS hk27 => ?_)
    refine lv_aload_n hx hb dX4_units_25 rfl (lv_at hl 1 rfl) ?_
    refine lv_iload hx hb dX4_units_26 (lv_at hl 0 rfl) ?_
    obtain ⟨r29, e28, hf⟩ := ob_some hf
    refine hp_calli (va_runV (As := [.int r20]) (rest := []) ⟨hx, hb, hml, hown, hts⟩ (ok_X4_named l D cy ad M26 _ v0 r20 r29 (hk27 _ _ a0) e28) (cwV 1 hts (gdV q762 q764 q61 q86 q765) rfl rfl rfl (by decide +kernel) ⟨Nat.le_of_ble_eq_true rfl, Nat.le_of_ble_eq_true rfl⟩) (pre_V hP hK hN (hk27 _ _ a0) ds_0 rfl) rfl rfl hl.1 rfl (lv_room (Nat.le_of_ble_eq_true rfl)) dX4_units_28 ⟨Nat.le_of_ble_eq_true rfl, Nat.le_of_ble_eq_true rfl⟩) hP hS hA (fun H locs hP hS _ => ?_)
    refine lv_if_ge (tgt := 38) hx hb dX4_units_31 (by decide) (fun c32 => ?_) (fun c32 => ?_)
    · have hf := if_t hf c32
      refine lv_aload_n hx hb dX4_units_38 rfl (lv_at hl 1 rfl) ?_
      refine lv_iload hx hb dX4_units_39 (lv_at hl 0 rfl) ?_
      refine lv_iload_n hx hb dX4_units_41 rfl (lv_at hl 4 rfl) ?_
      refine lv_iload hx hb dX4_units_42 (lv_at hl 5 rfl) ?_
      refine lv_iload hx hb dX4_units_44 (lv_at hl 6 rfl) ?_
      obtain ⟨r34, e33, hf⟩ := ob_some hf
      refine hp_calli (va_runV (As := [.int r20, .int v3, .int v4, .int v5]) (rest := []) ⟨hx, hb, hml, hown, hts⟩ (ok_X4_unitsOn l D cy ad M26 _ v0 r20 v3 v4 v5 r34 (hk27 _ _ a0) e33) (cwV 4 hts (gdV q861 q863 q79 q86 q864) rfl rfl rfl (by decide +kernel) ⟨Nat.le_of_ble_eq_true rfl, Nat.le_of_ble_eq_true rfl⟩) (pre_V hP hK hN (hk27 _ _ a0) ds_0 rfl) rfl rfl hl.1 rfl (lv_room (Nat.le_of_ble_eq_true rfl)) dX4_units_46 ⟨Nat.le_of_ble_eq_true rfl, Nat.le_of_ble_eq_true rfl⟩) hP hS hA (fun H locs hP hS _ => ?_)
      exact hp_iret hx hb hr hlocks (congrArg Prod.fst (Option.some.inj hf)) (congrArg Prod.snd (Option.some.inj hf)) hP hS (kt keep_rf hk27) dX4_units_49
    · have hf := if_f hf c32
      refine lv_iconst (v := (-1 : Int32)) hx hb dX4_units_34 (by decide) ?_
      refine lv_goto (tgt := 49) hx hb dX4_units_35 (by decide) ?_
      exact hp_iret hx hb hr hlocks (congrArg Prod.fst (Option.some.inj hf)) (congrArg Prod.snd (Option.some.inj hf)) hP hS (kt keep_rf hk27) dX4_units_49
  · have hf := if_t hf c23
    refine lv_iconst (v := (-1 : Int32)) hx hb dX4_units_14 (by decide) ?_
    exact hp_iret hx hb hr hlocks (congrArg Prod.fst (Option.some.inj hf)) (congrArg Prod.snd (Option.some.inj hf)) hP hS keep_rf dX4_units_15

def f_X4_look (v0 : Nat) (v1 : Int32) (v2 : Int32) (M0 : Mm) : Option Int32 :=
  ob (f_X4_isRace v0 v1 M0) fun r56 => if r56 = 0 then (some (-2 : Int32)) else (ob (mR M0 0 v0 0) fun i61 => ix v1 13 (ob (f_X4_in v2 (101 : Int32) ((100 : Int32) + (mI M0 10 i61 (v1).toNatClampNeg)) M0) fun r66 => if r66 = 0 then (if v2 = (0 : Int32) then (ob (mR M0 0 v0 1) fun i72 => ix v1 13 (some (mI M0 11 i72 (v1).toNatClampNeg))) else (if v2 = (1 : Int32) then (ob (mR M0 0 v0 0) fun i78 => ix v1 13 (some (mI M0 10 i78 (v1).toNatClampNeg))) else (if v2 = (2 : Int32) then (ob (f_X4_running v0 v1 M0) fun r84 => some r84) else (if v2 = (3 : Int32) then (ob (f_X4_placed v0 v1 (100 : Int32) M0) fun r89 => some r89) else (if v2 = (4 : Int32) then (ob (mR M0 0 v0 2) fun i94 => ix v1 13 (some (mI M0 12 i94 (v1).toNatClampNeg))) else (some (-2 : Int32))))))) else (ob (mR M0 0 v0 3) fun i99 => ix ((((25 : Int32) * v1) + v2) - (100 : Int32)) 325 (if (mI M0 13 i99 (((((25 : Int32) * v1) + v2) - (100 : Int32))).toNatClampNeg) = 0 then (ob (mR M0 0 v0 4) fun i105 => ix ((((25 : Int32) * v1) + v2) - (100 : Int32)) 325 (some (mI M0 14 i105 (((((25 : Int32) * v1) + v2) - (100 : Int32))).toNatClampNeg))) else (some (-1 : Int32))))))
set_option maxRecDepth 100000 in
set_option maxHeartbeats 4000000 in
theorem ok_X4_look (l : Launch) (D : va_G) (cy : Nat → ClassId) (ad : Nat → Nat → Nat) (M0 : Mm) (sz : Nat) (v0 : Nat) (v1 : Int32) (v2 : Int32) (r0 : Int32) (a0 : mA M0 0 v0 = true) (hf : f_X4_look v0 v1 v2 M0 = some r0) : Met l yX4_look (Cond.code yX4_look cX4_look 3 (some .int) :: BW) { frames := 2, cells := 0, slots := 0, locals := 43 } (va_Pc [.ref (ad 0 v0), .int v1, .int v2] (PRE D cy ad M0 sz)) (QI D cy ad M0 sz r0 M0) 0 0 (AA ad M0 sz) := by
  refine Met.ofW (cc := cX4_look) (maxL := 3) (ret := (some .int)) (by decide) rfl ?_
  intro p e s m args below meth c s₁ B hml hv
  obtain ⟨rfl, rfl, hP0, hK, hN⟩ := hv
  have hx := B.exec
  have hb := B.bytes
  have hr := B.returns
  have hts0 := atoms_spec (ws := (Cond.code yX4_look cX4_look 3 (some .int) :: BW)) B.pre
  have hts : ∀ w ∈ BW, w.before ([.ref (ad 0 v0), .int v1, .int v2] : List Value).toArray s = true := fun w h => hts0 w (List.mem_cons_of_mem _ h)
  have hown : s.vm.findClass RX4 = some m.cls := findClass_of_methodNamed B.named
  have hlocks := B.notSynchronized
  have hA : ∀ q : Nat, s.heap.size ≤ q → AA ad M0 s.heap.size q := fun q h => Or.inr h
  have C : Cx RX4 cX4_look 3 (some .int) D cy (AA ad M0 s.heap.size) p s m ([.ref (ad 0 v0), .int v1, .int v2] : List Value).toArray meth c := ⟨hx, hb, hr, hml, hown, hts, hlocks, hK, hN, hA⟩
  have hP := hp_self (sz := s.heap.size) hP0
  have hS : va_S (AA ad M0 s.heap.size) s.heap s.heap [] := va_S.rf
  have hl := lv_entry ([.ref (ad 0 v0), .int v1, .int v2]) (n := 3) (Nat.le_of_ble_eq_true rfl)
  rw [lg_entry_eq]
  generalize (lg_sl ([.ref (ad 0 v0), .int v1, .int v2]) ++ List.replicate (3 - (lg_sl ([.ref (ad 0 v0), .int v1, .int v2])).length) Slot.unset).toArray = ls at hl ⊢
  have hl : lv_has ls 3 [(0, .ref (ad 0 v0)), (1, .int v1), (2, .int v2)] := hl
  unfold f_X4_look at hf
  refine lv_aload_n hx hb dX4_look_0 rfl (lv_at hl 0 rfl) ?_
  refine lv_iload_n hx hb dX4_look_1 rfl (lv_at hl 1 rfl) ?_
  obtain ⟨r56, e55, hf⟩ := ob_some hf
  refine hp_calli (va_runV (As := [.int v1]) (rest := []) ⟨hx, hb, hml, hown, hts⟩ (ok_X4_isRace l D cy ad M0 _ v0 v1 r56 a0 e55) (cwV 1 hts (gdV q715 q717 q53 q86 q718) rfl rfl rfl (by decide +kernel) ⟨Nat.le_of_ble_eq_true rfl, Nat.le_of_ble_eq_true rfl⟩) (pre_V hP hK hN a0 ds_0 rfl) rfl rfl hl.1 rfl (lv_room (Nat.le_of_ble_eq_true rfl)) dX4_look_2 ⟨Nat.le_of_ble_eq_true rfl, Nat.le_of_ble_eq_true rfl⟩) hP hS hA (fun H locs hP hS _ => ?_)
  refine lv_if_ne (tgt := 11) hx hb dX4_look_5 (by decide) (fun c59 => ?_) (fun c59 => ?_)
  · have hf := if_f hf c59
    refine lv_iload_n hx hb dX4_look_11 rfl (lv_at hl 2 rfl) ?_
    refine lv_bipush (v := (101 : Int32)) hx hb dX4_look_12 (by decide) ?_
    refine lv_bipush (v := (100 : Int32)) hx hb dX4_look_14 (by decide) ?_
    refine lv_aload_n hx hb dX4_look_16 rfl (lv_at hl 0 rfl) ?_
    have h60 : ∀ j : Nat, (mR M0 0 v0 0) = some j → mA M0 10 j = true := fun j hj => hp_wf hP a0 hj
    refine gf0 (v := va_rf (((mR M0 0 v0 0)).map (ad 10))) hx hb hts hown hK hP a0 0 (by decide) (hts _ q605) rfl rfl dX4_look_17 ?_
    refine lv_iload_n hx hb dX4_look_20 rfl (lv_at hl 1 rfl) ?_
    obtain ⟨i61, e62, hf⟩ := ob_some hf
    have h63 : mA M0 10 i61 = true := h60 i61 e62
    refine W_stk (st := [.int v1, va_rf (((mR M0 0 v0 0)).map (ad 10)), .int (100 : Int32), .int (101 : Int32), .int v2]) (st' := [.int v1, .ref (ad 10 i61), .int (100 : Int32), .int (101 : Int32), .int v2]) (by first | (rw [e62]; done) | (rw [e62]; rfl)) ?_
    obtain ⟨h64, hf⟩ := ix_some hf
    refine hp_iald hx hb hK hP h63 rfl h64 dX4_look_21 ?_
    refine lv_iadd hx hb dX4_look_22 ?_
    obtain ⟨r66, e65, hf⟩ := ob_some hf
    refine hp_calli (va_runS (As := [.int v2, .int (101 : Int32), .int ((100 : Int32) + (mI M0 10 i61 (v1).toNatClampNeg))]) (rest := []) ⟨hx, hb, hml, hown, hts⟩ (ok_X4_in l D cy ad M0 _ v2 (101 : Int32) ((100 : Int32) + (mI M0 10 i61 (v1).toNatClampNeg)) r66  e65) (va_cwS 3 hts (gdS q708 q709 q86 q710) rfl rfl rfl (by decide +kernel) ⟨Nat.le_of_ble_eq_true rfl, Nat.le_of_ble_eq_true rfl⟩) (pre_S hP hK hN) rfl rfl hl.1 rfl (lv_room (Nat.le_of_ble_eq_true rfl)) dX4_look_23 ⟨Nat.le_of_ble_eq_true rfl, Nat.le_of_ble_eq_true rfl⟩) hP hS hA (fun H locs hP hS _ => ?_)
    refine lv_if_eq (tgt := 65) hx hb dX4_look_26 (by decide) (fun c69 => ?_) (fun c69 => ?_)
    · have hf := if_t hf c69
      refine lv_iload_n hx hb dX4_look_65 rfl (lv_at hl 2 rfl) ?_
      by_cases c70 : v2 = (0 : Int32)
      · have hf := if_t hf c70
        refine W_topI c70.symm ?_
        refine lv_tableIn (x := (0 : Int32)) (off := 34) (tgt := 100) hx hb dX4_look_66 (by decide) (by decide) (by decide) (by decide) ?_
        refine lv_aload_n hx hb dX4_look_100 rfl (lv_at hl 0 rfl) ?_
        have h71 : ∀ j : Nat, (mR M0 0 v0 1) = some j → mA M0 11 j = true := fun j hj => hp_wf hP a0 hj
        refine gf0 (v := va_rf (((mR M0 0 v0 1)).map (ad 11))) hx hb hts hown hK hP a0 1 (by decide) (hts _ q606) rfl rfl dX4_look_101 ?_
        refine lv_iload_n hx hb dX4_look_104 rfl (lv_at hl 1 rfl) ?_
        obtain ⟨i72, e73, hf⟩ := ob_some hf
        have h74 : mA M0 11 i72 = true := h71 i72 e73
        refine W_stk (st := [.int v1, va_rf (((mR M0 0 v0 1)).map (ad 11))]) (st' := [.int v1, .ref (ad 11 i72)]) (by first | (rw [e73]; done) | (rw [e73]; rfl)) ?_
        obtain ⟨h75, hf⟩ := ix_some hf
        refine hp_iald hx hb hK hP h74 rfl h75 dX4_look_105 ?_
        exact hp_iret hx hb hr hlocks (Option.some.inj hf) rfl hP hS keep_rf dX4_look_106
      have hf := if_f hf c70
      by_cases c76 : v2 = (1 : Int32)
      · have hf := if_t hf c76
        refine W_topI c76.symm ?_
        refine lv_tableIn (x := (1 : Int32)) (off := 41) (tgt := 107) hx hb dX4_look_66 (by decide) (by decide) (by decide) (by decide) ?_
        refine lv_aload_n hx hb dX4_look_107 rfl (lv_at hl 0 rfl) ?_
        have h77 : ∀ j : Nat, (mR M0 0 v0 0) = some j → mA M0 10 j = true := fun j hj => hp_wf hP a0 hj
        refine gf0 (v := va_rf (((mR M0 0 v0 0)).map (ad 10))) hx hb hts hown hK hP a0 0 (by decide) (hts _ q605) rfl rfl dX4_look_108 ?_
        refine lv_iload_n hx hb dX4_look_111 rfl (lv_at hl 1 rfl) ?_
        obtain ⟨i78, e79, hf⟩ := ob_some hf
        have h80 : mA M0 10 i78 = true := h77 i78 e79
        refine W_stk (st := [.int v1, va_rf (((mR M0 0 v0 0)).map (ad 10))]) (st' := [.int v1, .ref (ad 10 i78)]) (by first | (rw [e79]; done) | (rw [e79]; rfl)) ?_
        obtain ⟨h81, hf⟩ := ix_some hf
        refine hp_iald hx hb hK hP h80 rfl h81 dX4_look_112 ?_
        exact hp_iret hx hb hr hlocks (Option.some.inj hf) rfl hP hS keep_rf dX4_look_113
      have hf := if_f hf c76
      by_cases c82 : v2 = (2 : Int32)
      · have hf := if_t hf c82
        refine W_topI c82.symm ?_
        refine lv_tableIn (x := (2 : Int32)) (off := 48) (tgt := 114) hx hb dX4_look_66 (by decide) (by decide) (by decide) (by decide) ?_
        refine lv_aload_n hx hb dX4_look_114 rfl (lv_at hl 0 rfl) ?_
        refine lv_iload_n hx hb dX4_look_115 rfl (lv_at hl 1 rfl) ?_
        obtain ⟨r84, e83, hf⟩ := ob_some hf
        refine hp_calli (va_runV (As := [.int v1]) (rest := []) ⟨hx, hb, hml, hown, hts⟩ (ok_X4_running l D cy ad M0 _ v0 v1 r84 a0 e83) (cwV 1 hts (gdV q808 q810 q66 q86 q811) rfl rfl rfl (by decide +kernel) ⟨Nat.le_of_ble_eq_true rfl, Nat.le_of_ble_eq_true rfl⟩) (pre_V hP hK hN a0 ds_0 rfl) rfl rfl hl.1 rfl (lv_room (Nat.le_of_ble_eq_true rfl)) dX4_look_116 ⟨Nat.le_of_ble_eq_true rfl, Nat.le_of_ble_eq_true rfl⟩) hP hS hA (fun H locs hP hS _ => ?_)
        exact hp_iret hx hb hr hlocks (Option.some.inj hf) rfl hP hS keep_rf dX4_look_119
      have hf := if_f hf c82
      by_cases c87 : v2 = (3 : Int32)
      · have hf := if_t hf c87
        refine W_topI c87.symm ?_
        refine lv_tableIn (x := (3 : Int32)) (off := 54) (tgt := 120) hx hb dX4_look_66 (by decide) (by decide) (by decide) (by decide) ?_
        refine lv_aload_n hx hb dX4_look_120 rfl (lv_at hl 0 rfl) ?_
        refine lv_iload_n hx hb dX4_look_121 rfl (lv_at hl 1 rfl) ?_
        refine lv_bipush (v := (100 : Int32)) hx hb dX4_look_122 (by decide) ?_
        obtain ⟨r89, e88, hf⟩ := ob_some hf
        refine hp_calli (va_runV (As := [.int v1, .int (100 : Int32)]) (rest := []) ⟨hx, hb, hml, hown, hts⟩ (ok_X4_placed l D cy ad M0 _ v0 v1 (100 : Int32) r89 a0 e88) (cwV 2 hts (gdV q804 q806 q65 q86 q807) rfl rfl rfl (by decide +kernel) ⟨Nat.le_of_ble_eq_true rfl, Nat.le_of_ble_eq_true rfl⟩) (pre_V hP hK hN a0 ds_0 rfl) rfl rfl hl.1 rfl (lv_room (Nat.le_of_ble_eq_true rfl)) dX4_look_124 ⟨Nat.le_of_ble_eq_true rfl, Nat.le_of_ble_eq_true rfl⟩) hP hS hA (fun H locs hP hS _ => ?_)
        exact hp_iret hx hb hr hlocks (Option.some.inj hf) rfl hP hS keep_rf dX4_look_127
      have hf := if_f hf c87
      by_cases c92 : v2 = (4 : Int32)
      · have hf := if_t hf c92
        refine W_topI c92.symm ?_
        refine lv_tableIn (x := (4 : Int32)) (off := 62) (tgt := 128) hx hb dX4_look_66 (by decide) (by decide) (by decide) (by decide) ?_
        refine lv_aload_n hx hb dX4_look_128 rfl (lv_at hl 0 rfl) ?_
        have h93 : ∀ j : Nat, (mR M0 0 v0 2) = some j → mA M0 12 j = true := fun j hj => hp_wf hP a0 hj
        refine gf0 (v := va_rf (((mR M0 0 v0 2)).map (ad 12))) hx hb hts hown hK hP a0 2 (by decide) (hts _ q607) rfl rfl dX4_look_129 ?_
        refine lv_iload_n hx hb dX4_look_132 rfl (lv_at hl 1 rfl) ?_
        obtain ⟨i94, e95, hf⟩ := ob_some hf
        have h96 : mA M0 12 i94 = true := h93 i94 e95
        refine W_stk (st := [.int v1, va_rf (((mR M0 0 v0 2)).map (ad 12))]) (st' := [.int v1, .ref (ad 12 i94)]) (by first | (rw [e95]; done) | (rw [e95]; rfl)) ?_
        obtain ⟨h97, hf⟩ := ix_some hf
        refine hp_iald hx hb hK hP h96 rfl h97 dX4_look_133 ?_
        exact hp_iret hx hb hr hlocks (Option.some.inj hf) rfl hP hS keep_rf dX4_look_134
      have hf := if_f hf c92
      have hsw : ∀ n : Nat, (n : Int) ≤ (4) - (0) → ¬ v2 = Int32.ofInt ((0) + (n : Int)) := by
        intro n hn
        have hn2 : n = 0 ∨ n = 1 ∨ n = 2 ∨ n = 3 ∨ n = 4 := by omega
        rcases hn2 with rfl | rfl | rfl | rfl | rfl
        · exact fun z => c70 (z.trans (by decide))
        · exact fun z => c76 (z.trans (by decide))
        · exact fun z => c82 (z.trans (by decide))
        · exact fun z => c87 (z.trans (by decide))
        · exact fun z => c92 (z.trans (by decide))
      refine lv_tableOut (tgt := 135) hx hb dX4_look_66 (sw_out hsw) (by decide) ?_
      refine lv_bipush (v := (-2 : Int32)) hx hb dX4_look_135 (by decide) ?_
      exact hp_iret hx hb hr hlocks (Option.some.inj hf) rfl hP hS keep_rf dX4_look_137
    · have hf := if_f hf c69
      refine lv_aload_n hx hb dX4_look_29 rfl (lv_at hl 0 rfl) ?_
      have h98 : ∀ j : Nat, (mR M0 0 v0 3) = some j → mA M0 13 j = true := fun j hj => hp_wf hP a0 hj
      refine gf0 (v := va_rf (((mR M0 0 v0 3)).map (ad 13))) hx hb hts hown hK hP a0 3 (by decide) (hts _ q608) rfl rfl dX4_look_30 ?_
      refine lv_bipush (v := (25 : Int32)) hx hb dX4_look_33 (by decide) ?_
      refine lv_iload_n hx hb dX4_look_35 rfl (lv_at hl 1 rfl) ?_
      refine lv_imul hx hb dX4_look_36 ?_
      refine lv_iload_n hx hb dX4_look_37 rfl (lv_at hl 2 rfl) ?_
      refine lv_iadd hx hb dX4_look_38 ?_
      refine lv_bipush (v := (100 : Int32)) hx hb dX4_look_39 (by decide) ?_
      refine lv_isub hx hb dX4_look_41 ?_
      obtain ⟨i99, e100, hf⟩ := ob_some hf
      have h101 : mA M0 13 i99 = true := h98 i99 e100
      refine W_stk (st := [.int ((((25 : Int32) * v1) + v2) - (100 : Int32)), va_rf (((mR M0 0 v0 3)).map (ad 13))]) (st' := [.int ((((25 : Int32) * v1) + v2) - (100 : Int32)), .ref (ad 13 i99)]) (by first | (rw [e100]; done) | (rw [e100]; rfl)) ?_
      obtain ⟨h102, hf⟩ := ix_some hf
      refine hp_zald hx hb hK hP h101 rfl h102 dX4_look_42 ?_
      refine lv_if_eq (tgt := 50) hx hb dX4_look_43 (by decide) (fun c103 => ?_) (fun c103 => ?_)
      · have hf := if_t hf c103
        refine lv_aload_n hx hb dX4_look_50 rfl (lv_at hl 0 rfl) ?_
        have h104 : ∀ j : Nat, (mR M0 0 v0 4) = some j → mA M0 14 j = true := fun j hj => hp_wf hP a0 hj
        refine gf0 (v := va_rf (((mR M0 0 v0 4)).map (ad 14))) hx hb hts hown hK hP a0 4 (by decide) (hts _ q609) rfl rfl dX4_look_51 ?_
        refine lv_bipush (v := (25 : Int32)) hx hb dX4_look_54 (by decide) ?_
        refine lv_iload_n hx hb dX4_look_56 rfl (lv_at hl 1 rfl) ?_
        refine lv_imul hx hb dX4_look_57 ?_
        refine lv_iload_n hx hb dX4_look_58 rfl (lv_at hl 2 rfl) ?_
        refine lv_iadd hx hb dX4_look_59 ?_
        refine lv_bipush (v := (100 : Int32)) hx hb dX4_look_60 (by decide) ?_
        refine lv_isub hx hb dX4_look_62 ?_
        obtain ⟨i105, e106, hf⟩ := ob_some hf
        have h107 : mA M0 14 i105 = true := h104 i105 e106
        refine W_stk (st := [.int ((((25 : Int32) * v1) + v2) - (100 : Int32)), va_rf (((mR M0 0 v0 4)).map (ad 14))]) (st' := [.int ((((25 : Int32) * v1) + v2) - (100 : Int32)), .ref (ad 14 i105)]) (by first | (rw [e106]; done) | (rw [e106]; rfl)) ?_
        obtain ⟨h108, hf⟩ := ix_some hf
        refine hp_iald hx hb hK hP h107 rfl h108 dX4_look_63 ?_
        exact hp_iret hx hb hr hlocks (Option.some.inj hf) rfl hP hS keep_rf dX4_look_64
      · have hf := if_f hf c103
        refine lv_iconst (v := (-1 : Int32)) hx hb dX4_look_46 (by decide) ?_
        refine lv_goto (tgt := 64) hx hb dX4_look_47 (by decide) ?_
        exact hp_iret hx hb hr hlocks (Option.some.inj hf) rfl hP hS keep_rf dX4_look_64
  · have hf := if_t hf c59
    refine lv_bipush (v := (-2 : Int32)) hx hb dX4_look_8 (by decide) ?_
    exact hp_iret hx hb hr hlocks (Option.some.inj hf) rfl hP hS keep_rf dX4_look_10
def f_X4_count_37 (M0 : Mm) : Nat → Nat → Int32 → Int32 → Int32 → Option Int64
  | 0, _, _, _, _ => none
  | n + 1, v0, v1, v2, v3 => if (mI M0 0 v0 19) ≤ v3 then (some (v2.toInt64)) else (ob (mR M0 0 v0 23) fun i32 => ix v3 600 (if (mI M0 30 i32 (v3).toNatClampNeg) = (v1 - (1 : Int32)) then (lt (v2 + (1 : Int32)) fun x41 => lt (v3 + (1 : Int32)) fun x43 => f_X4_count_37 M0 n v0 v1 x41 x43) else (lt (v2 + (0 : Int32)) fun x37 => lt (v3 + (1 : Int32)) fun x39 => f_X4_count_37 M0 n v0 v1 x37 x39)))
def f_X4_count (v0 : Nat) (v1 : Int32) (M0 : Mm) : Option Int64 :=
  if v1 = 0 then (some (((mI M0 0 v0 19)).toInt64)) else (if v1 = (5 : Int32) then (some (mJ M0 0 v0 25)) else (ob (f_X4_in v1 (1 : Int32) (4 : Int32) M0) fun r26 => if r26 = 0 then (some (-1 : Int64)) else (f_X4_count_37 M0 FU v0 v1 (0 : Int32) (0 : Int32))))
set_option maxRecDepth 100000 in
set_option maxHeartbeats 4000000 in
theorem t_X4_count_37 {p : Program} {l : Launch} {e : Env} {s : State} {m : MethodId} {args : Array Value} {below : List Frame} {meth : Method} {c : Code} {D : va_G} {cy : Nat → ClassId} {ad : Nat → Nat → Nat} {M0 : Mm} {r0 : Int64} (C : Cx RX4 cX4_count 4 (some .long) D cy (AA ad M0 s.heap.size) p s m args meth c) : ∀ (n : Nat), ∀ (v0 : Nat) (v1 : Int32) (v2 : Int32) (v3 : Int32) (H : Heap) (locs : List Loc) (ls : Array Slot), (mA M0 0 v0 = true) → f_X4_count_37 M0 n v0 v1 v2 v3 = some r0 → HP D cy (AA ad M0 s.heap.size) ad M0 H → va_S (AA ad M0 s.heap.size) s.heap H locs → lv_has ls 4 [(0, .ref (ad 0 v0)), (1, .int v1), (2, .int v2), (3, .int v3)] → W p l e { frames := 1, cells := 0, slots := 0, locals := 22 } s m args below meth c H locs 0 0 (MQ below (QJ D cy ad M0 s.heap.size r0 M0) args s 0 0 (AA ad M0 s.heap.size)) (F0 m 37 ls []) := by
  obtain ⟨hx, hb, hr, hml, hown, hts, hlocks, hK, hN, hA⟩ := id C
  intro n
  induction n with
  | zero =>
    intro v0 v1 v2 v3 H locs ls a0 hf hP hS hl
    simp [f_X4_count_37] at hf
  | succ n ih =>
    intro v0 v1 v2 v3 H locs ls a0 hf hP hS hl
    rw [f_X4_count_37] at hf
    refine lv_iload_n hx hb dX4_count_37 rfl (lv_at hl 3 rfl) ?_
    refine lv_aload_n hx hb dX4_count_38 rfl (lv_at hl 0 rfl) ?_
    refine gf0 (v := .int (mI M0 0 v0 19)) hx hb hts hown hK hP a0 19 (by decide) (hts _ q624) rfl rfl dX4_count_39 ?_
    refine lv_icmp_ge (tgt := 71) hx hb dX4_count_42 (by decide) (fun c30 => ?_) (fun c30 => ?_)
    · have hf := if_t hf c30
      refine lv_iload_n hx hb dX4_count_71 rfl (lv_at hl 2 rfl) ?_
      refine lv_i2l hx hb dX4_count_72 rfl ?_
      exact hp_lret hx hb hr hlocks (Option.some.inj hf) rfl hP hS keep_rf dX4_count_73
    · have hf := if_f hf c30
      refine lv_iload_n hx hb dX4_count_45 rfl (lv_at hl 2 rfl) ?_
      refine lv_aload_n hx hb dX4_count_46 rfl (lv_at hl 0 rfl) ?_
      have h31 : ∀ j : Nat, (mR M0 0 v0 23) = some j → mA M0 30 j = true := fun j hj => hp_wf hP a0 hj
      refine gf0 (v := va_rf (((mR M0 0 v0 23)).map (ad 30))) hx hb hts hown hK hP a0 23 (by decide) (hts _ q628) rfl rfl dX4_count_47 ?_
      refine lv_iload_n hx hb dX4_count_50 rfl (lv_at hl 3 rfl) ?_
      obtain ⟨i32, e33, hf⟩ := ob_some hf
      have h34 : mA M0 30 i32 = true := h31 i32 e33
      refine W_stk (st := [.int v3, va_rf (((mR M0 0 v0 23)).map (ad 30)), .int v2]) (st' := [.int v3, .ref (ad 30 i32), .int v2]) (by first | (rw [e33]; done) | (rw [e33]; rfl)) ?_
      obtain ⟨h35, hf⟩ := ix_some hf
      refine hp_iald hx hb hK hP h34 rfl h35 dX4_count_51 ?_
      refine lv_iload_n hx hb dX4_count_52 rfl (lv_at hl 1 rfl) ?_
      refine lv_iconst (v := (1 : Int32)) hx hb dX4_count_53 (by decide) ?_
      refine lv_isub hx hb dX4_count_54 ?_
      refine lv_icmp_ne (tgt := 62) hx hb dX4_count_55 (by decide) (fun c36 => ?_) (fun c36 => ?_)
      · have hf := if_f hf c36
        refine lv_iconst (v := (0 : Int32)) hx hb dX4_count_62 (by decide) ?_
        refine lv_iadd hx hb dX4_count_63 ?_
        obtain ⟨x37, e38, hf⟩ := lt_some hf
        refine W_topI e38 ?_
        refine lv_istore_n (lv' := [(2, .int x37), (0, .ref (ad 0 v0)), (1, .int v1), (3, .int v3)]) hx hb dX4_count_64 rfl hl (by decide) rfl (fun ls hl => ?_)
        obtain ⟨x39, e40, hf⟩ := lt_some hf
        refine lv_iinc (v := x39) (lv' := [(3, .int x39), (2, .int x37), (0, .ref (ad 0 v0)), (1, .int v1)]) hx hb dX4_count_65 hl (k := 3) rfl (by rw [e40]; rfl) (by decide) rfl (fun ls hl => ?_)
        refine lv_goto (tgt := 37) hx hb dX4_count_68 (by decide) ?_
        exact ih v0 v1 x37 x39 _ _ _ a0 hf hP hS (lv_sub hl [2, 3, 1, 0] rfl)
      · have hf := if_t hf c36
        refine lv_iconst (v := (1 : Int32)) hx hb dX4_count_58 (by decide) ?_
        refine lv_goto (tgt := 63) hx hb dX4_count_59 (by decide) ?_
        refine lv_iadd hx hb dX4_count_63 ?_
        obtain ⟨x41, e42, hf⟩ := lt_some hf
        refine W_topI e42 ?_
        refine lv_istore_n (lv' := [(2, .int x41), (0, .ref (ad 0 v0)), (1, .int v1), (3, .int v3)]) hx hb dX4_count_64 rfl hl (by decide) rfl (fun ls hl => ?_)
        obtain ⟨x43, e44, hf⟩ := lt_some hf
        refine lv_iinc (v := x43) (lv' := [(3, .int x43), (2, .int x41), (0, .ref (ad 0 v0)), (1, .int v1)]) hx hb dX4_count_65 hl (k := 3) rfl (by rw [e44]; rfl) (by decide) rfl (fun ls hl => ?_)
        refine lv_goto (tgt := 37) hx hb dX4_count_68 (by decide) ?_
        exact ih v0 v1 x41 x43 _ _ _ a0 hf hP hS (lv_sub hl [2, 3, 1, 0] rfl)
set_option maxRecDepth 100000 in
set_option maxHeartbeats 4000000 in
theorem ok_X4_count (l : Launch) (D : va_G) (cy : Nat → ClassId) (ad : Nat → Nat → Nat) (M0 : Mm) (sz : Nat) (v0 : Nat) (v1 : Int32) (r0 : Int64) (a0 : mA M0 0 v0 = true) (hf : f_X4_count v0 v1 M0 = some r0) : Met l yX4_count (Cond.code yX4_count cX4_count 4 (some .long) :: BW) { frames := 1, cells := 0, slots := 0, locals := 22 } (va_Pc [.ref (ad 0 v0), .int v1] (PRE D cy ad M0 sz)) (QJ D cy ad M0 sz r0 M0) 0 0 (AA ad M0 sz) := by
  refine Met.ofW (cc := cX4_count) (maxL := 4) (ret := (some .long)) (by decide) rfl ?_
  intro p e s m args below meth c s₁ B hml hv
  obtain ⟨rfl, rfl, hP0, hK, hN⟩ := hv
  have hx := B.exec
  have hb := B.bytes
  have hr := B.returns
  have hts0 := atoms_spec (ws := (Cond.code yX4_count cX4_count 4 (some .long) :: BW)) B.pre
  have hts : ∀ w ∈ BW, w.before ([.ref (ad 0 v0), .int v1] : List Value).toArray s = true := fun w h => hts0 w (List.mem_cons_of_mem _ h)
  have hown : s.vm.findClass RX4 = some m.cls := findClass_of_methodNamed B.named
  have hlocks := B.notSynchronized
  have hA : ∀ q : Nat, s.heap.size ≤ q → AA ad M0 s.heap.size q := fun q h => Or.inr h
  have C : Cx RX4 cX4_count 4 (some .long) D cy (AA ad M0 s.heap.size) p s m ([.ref (ad 0 v0), .int v1] : List Value).toArray meth c := ⟨hx, hb, hr, hml, hown, hts, hlocks, hK, hN, hA⟩
  have hP := hp_self (sz := s.heap.size) hP0
  have hS : va_S (AA ad M0 s.heap.size) s.heap s.heap [] := va_S.rf
  have hl := lv_entry ([.ref (ad 0 v0), .int v1]) (n := 4) (Nat.le_of_ble_eq_true rfl)
  rw [lg_entry_eq]
  generalize (lg_sl ([.ref (ad 0 v0), .int v1]) ++ List.replicate (4 - (lg_sl ([.ref (ad 0 v0), .int v1])).length) Slot.unset).toArray = ls at hl ⊢
  have hl : lv_has ls 4 [(0, .ref (ad 0 v0)), (1, .int v1)] := hl
  unfold f_X4_count at hf
  refine lv_iload_n hx hb dX4_count_0 rfl (lv_at hl 1 rfl) ?_
  refine lv_if_ne (tgt := 10) hx hb dX4_count_1 (by decide) (fun c23 => ?_) (fun c23 => ?_)
  · have hf := if_f hf c23
    refine lv_iload_n hx hb dX4_count_10 rfl (lv_at hl 1 rfl) ?_
    refine lv_iconst (v := (5 : Int32)) hx hb dX4_count_11 (by decide) ?_
    refine lv_icmp_ne (tgt := 20) hx hb dX4_count_12 (by decide) (fun c24 => ?_) (fun c24 => ?_)
    · have hf := if_f hf c24
      refine lv_iload_n hx hb dX4_count_20 rfl (lv_at hl 1 rfl) ?_
      refine lv_iconst (v := (1 : Int32)) hx hb dX4_count_21 (by decide) ?_
      refine lv_iconst (v := (4 : Int32)) hx hb dX4_count_22 (by decide) ?_
      obtain ⟨r26, e25, hf⟩ := ob_some hf
      refine hp_calli (va_runS (As := [.int v1, .int (1 : Int32), .int (4 : Int32)]) (rest := []) ⟨hx, hb, hml, hown, hts⟩ (ok_X4_in l D cy ad M0 _ v1 (1 : Int32) (4 : Int32) r26  e25) (va_cwS 3 hts (gdS q708 q709 q86 q710) rfl rfl rfl (by decide +kernel) ⟨Nat.le_of_ble_eq_true rfl, Nat.le_of_ble_eq_true rfl⟩) (pre_S hP hK hN) rfl rfl hl.1 rfl (lv_room (Nat.le_of_ble_eq_true rfl)) dX4_count_23 ⟨Nat.le_of_ble_eq_true rfl, Nat.le_of_ble_eq_true rfl⟩) hP hS hA (fun H locs hP hS _ => ?_)
      refine lv_if_ne (tgt := 33) hx hb dX4_count_26 (by decide) (fun c29 => ?_) (fun c29 => ?_)
      · have hf := if_f hf c29
        refine lv_iconst (v := (0 : Int32)) hx hb dX4_count_33 (by decide) ?_
        refine lv_istore_n (lv' := [(2, .int (0 : Int32)), (0, .ref (ad 0 v0)), (1, .int v1)]) hx hb dX4_count_34 rfl hl (by decide) rfl (fun ls hl => ?_)
        refine lv_iconst (v := (0 : Int32)) hx hb dX4_count_35 (by decide) ?_
        refine lv_istore_n (lv' := [(3, .int (0 : Int32)), (2, .int (0 : Int32)), (0, .ref (ad 0 v0)), (1, .int v1)]) hx hb dX4_count_36 rfl hl (by decide) rfl (fun ls hl => ?_)
        exact t_X4_count_37 C FU v0 v1 (0 : Int32) (0 : Int32) _ _ _ a0 hf hP hS (lv_sub hl [2, 3, 1, 0] rfl)
      · have hf := if_t hf c29
        refine lv_ldc2 (v := (-1 : Int64)) hx hb hown (hts _ q891) dX4_count_29 ?_
        exact hp_lret hx hb hr hlocks (Option.some.inj hf) rfl hP hS keep_rf dX4_count_32
    · have hf := if_t hf c24
      refine lv_aload_n hx hb dX4_count_15 rfl (lv_at hl 0 rfl) ?_
      refine gf0 (v := .long (mJ M0 0 v0 25)) hx hb hts hown hK hP a0 25 (by decide) (hts _ q630) rfl rfl dX4_count_16 ?_
      exact hp_lret hx hb hr hlocks (Option.some.inj hf) rfl hP hS keep_rf dX4_count_19
  · have hf := if_t hf c23
    refine lv_aload_n hx hb dX4_count_4 rfl (lv_at hl 0 rfl) ?_
    refine gf0 (v := .int (mI M0 0 v0 19)) hx hb hts hown hK hP a0 19 (by decide) (hts _ q624) rfl rfl dX4_count_5 ?_
    refine lv_i2l hx hb dX4_count_8 rfl ?_
    exact hp_lret hx hb hr hlocks (Option.some.inj hf) rfl hP hS keep_rf dX4_count_9
