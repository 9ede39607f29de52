/-! ===== ROWS OVER A WORLD WITH NAMED CELLS ===== -/
section HPR
variable {p : Program} {l : Launch} {e : Env} {R : Room} {s : State} {m : MethodId} {args : Array Value} {below : List Frame} {meth : Method} {c : Code} {H : Heap} {locs : List Loc} {cells slots : Nat} {Q : State → Prop}
variable {cc : ByteArray} {pc : Nat} {ls : Array Slot} {rest : List Value} {D : va_G} {cy : Nat → ClassId} {A : Nat → Prop} {ad : Nat → Nat → Nat} {M M' : Mm} {H0 : Heap} {s0 i : Nat}
theorem hp_get (hx : p.tables.exec = Jvm.exec) (hb : c.code = cc) {own ref C : String} {T : u_T} {N ci index : Nat} {Ts : List Cond} (hts : ∀ w ∈ Ts, w.before args s = true) (hin : ∀ w ∈ u_ws C T N, w ∈ Ts) (hown : s.vm.findClass own = some m.cls) (hK : va_K D vwCl (tysOf cy) s) (hP : HP D cy A ad M H) (ha : mA M s0 i = true) {cs : List Nat} (hds : ds s0 = .inl (ci, cs)) (hc : vwCl[ci]? = some (C, T, N)) (k : Nat) (hk : k < N) (hlink : (Cond.fieldLink own index ref (T k).2.1 (T k).2.2.1).before args s = true) (href : (T k).1 = ref) {cd : Nat} (hcd : cs[k]? = some cd) {v : Value} (hv : slV ad M s0 i k cd = v) (hdg : decode cc pc = .ok (.getfield index, 3))
    (kk : W p l e R s m args below meth c H locs cells slots Q (F0 m (pc + 3) ls (v :: rest))) : W p l e R s m args below meth c H locs cells slots Q (F0 m pc ls (.ref (ad s0 i) :: rest)) := by
  subst hv; subst href
  exact va_get hx hb hts hin hown hK (hp_one hP ha) 0 (fs := obV ad M s0 i cs) (ci := ci) (by rw [ceE_ob hds]; rfl) hc k hk hlink (fun _ h => h) (obV_at hcd) hdg kk
theorem hp_getN (hx : p.tables.exec = Jvm.exec) (hb : c.code = cc) {own ref C host : String} {T : u_T} {N ci index : Nat} {Ts : List Cond} (hts : ∀ w ∈ Ts, w.before args s = true) (hin : ∀ w ∈ u_ws C T N, w ∈ Ts) (hown : s.vm.findClass own = some m.cls) (hK : va_K D vwCl (tysOf cy) s) (hP : HP D cy A ad M H) (ha : mA M s0 i = true) {cs : List Nat} (hds : ds s0 = .inl (ci, cs)) (hc : vwCl[ci]? = some (C, T, N)) (k : Nat) (hk : k < N) (hlink : (Cond.fieldLinkNest own index ref (T k).2.1 (T k).2.2.1 host).before args s = true) (href : (T k).1 = ref) {cd : Nat} (hcd : cs[k]? = some cd) {v : Value} (hv : slV ad M s0 i k cd = v) (hdg : decode cc pc = .ok (.getfield index, 3))
    (kk : W p l e R s m args below meth c H locs cells slots Q (F0 m (pc + 3) ls (v :: rest))) : W p l e R s m args below meth c H locs cells slots Q (F0 m pc ls (.ref (ad s0 i) :: rest)) := by
  subst hv; subst href
  exact va_getN hx hb hts hin hown hK (hp_one hP ha) 0 (fs := obV ad M s0 i cs) (ci := ci) (by rw [ceE_ob hds]; rfl) hc k hk hlink (fun _ h => h) (obV_at hcd) hdg kk
theorem hp_put (hx : p.tables.exec = Jvm.exec) (hb : c.code = cc) {own ref C : String} {T : u_T} {N ci index : Nat} {Ts : List Cond} (hts : ∀ w ∈ Ts, w.before args s = true) (hin : ∀ w ∈ u_ws C T N, w ∈ Ts) (ty0 : Nat → FieldType) (hty : ∀ k, k < N → parseFieldDescriptor (T k).2.2.1 = some (ty0 k)) (hnm : ∀ a, a < N → ∀ b, b < N → a ≠ b → (T a).2.1 ≠ (T b).2.1) (hown : s.vm.findClass own = some m.cls) (hK : va_K D vwCl (tysOf cy) s) (hP : HP D cy A ad M H) (hS : va_S A H0 H locs) (ha : mA M s0 i = true) {cs : List Nat} (hds : ds s0 = .inl (ci, cs)) (hc : vwCl[ci]? = some (C, T, N)) (k : Nat) (hk : k < N) (hlink : (Cond.fieldLink own index ref (T k).2.1 (T k).2.2.1).before args s = true) (href : (T k).1 = ref) (hfin : (T k).2.2.2 = false) {ty : FieldType} {v : Value} (hd : parseFieldDescriptor (T k).2.2.1 = some ty) (hn : narrow ty v = v) (hfit : fits ty v = true) (hl : k < cs.length)
    (hw : WrO cy ad M M' s0 i) (hob : obV ad M' s0 i cs = (obV ad M s0 i cs).set k v) (hdg : decode cc pc = .ok (.putfield index, 3))
    (kk : ∀ (H1 : Heap) (locs1 : List Loc), HP D cy A ad M' H1 → va_S A H0 H1 locs1 → W p l e R s m args below meth c H1 locs1 cells slots Q (F0 m (pc + 3) ls rest)) : W p l e R s m args below meth c H locs cells slots Q (F0 m pc ls (v :: .ref (ad s0 i) :: rest)) := by
  subst href
  have hap := va_apart (own := own) hts hin ty0 hty hnm hK hc
  have h0 := hP.1 s0 i ha
  rw [ceE_ob hds] at h0
  obtain ⟨r, h1, cell, q1, q2, q3, q4⟩ := h0
  have hr : r = (C, T, N) := Option.some.inj (h1.symm.trans hc)
  subst hr
  obtain ⟨hSl, hfc, kC, hkC, hkind⟩ := hK.1 ci _ hc
  obtain ⟨cf, kf, fi, f, hi, hsl⟩ := hSl k hk
  have hlay := hts _ (hin _ (u_in_lay hk))
  unfold u_lay at hlay
  rw [if_neg (by rw [hfin]; decide)] at hlay
  have hst := (u_facts hfc hkC (u_lays hts hin hk) hi).1
  have h6 := u_store hfc hkC hkind hlay hi hd hn hfit
  refine W.putK hx hb (f := f) ⟨hown, hlink, ⟨_, _, _, hi⟩, hst⟩ (by rw [q2]; exact h6) q1 q3 (by rw [hsl]; exact k2_hasslot (q4 k hk)) rfl rfl hdg fun H' e1 e2 e3 => ?_
  rw [hsl] at e1 ⊢
  refine kk H' _ (hp_wr hP ha hw ?_ e3) (hS.put e2 e3 (hP.2.2.2 s0 i ha))
  rw [ceE_ob hds, hob]
  exact ⟨_, hc, t_OB.to (V := updV (vp_V (obV ad M s0 i cs)) k v) ⟨_, e1, q2, q3, t_set q4 hap hk v⟩ (fun j _ => vp_updV_set (by rw [obV_len]; exact hl) v j)⟩
theorem hp_putN (hx : p.tables.exec = Jvm.exec) (hb : c.code = cc) {own ref C host : String} {T : u_T} {N ci index : Nat} {Ts : List Cond} (hts : ∀ w ∈ Ts, w.before args s = true) (hin : ∀ w ∈ u_ws C T N, w ∈ Ts) (ty0 : Nat → FieldType) (hty : ∀ k, k < N → parseFieldDescriptor (T k).2.2.1 = some (ty0 k)) (hnm : ∀ a, a < N → ∀ b, b < N → a ≠ b → (T a).2.1 ≠ (T b).2.1) (hown : s.vm.findClass own = some m.cls) (hK : va_K D vwCl (tysOf cy) s) (hP : HP D cy A ad M H) (hS : va_S A H0 H locs) (ha : mA M s0 i = true) {cs : List Nat} (hds : ds s0 = .inl (ci, cs)) (hc : vwCl[ci]? = some (C, T, N)) (k : Nat) (hk : k < N) (hlink : (Cond.fieldLinkNest own index ref (T k).2.1 (T k).2.2.1 host).before args s = true) (href : (T k).1 = ref) (hfin : (T k).2.2.2 = false) {ty : FieldType} {v : Value} (hd : parseFieldDescriptor (T k).2.2.1 = some ty) (hn : narrow ty v = v) (hfit : fits ty v = true) (hl : k < cs.length)
    (hw : WrO cy ad M M' s0 i) (hob : obV ad M' s0 i cs = (obV ad M s0 i cs).set k v) (hdg : decode cc pc = .ok (.putfield index, 3))
    (kk : ∀ (H1 : Heap) (locs1 : List Loc), HP D cy A ad M' H1 → va_S A H0 H1 locs1 → W p l e R s m args below meth c H1 locs1 cells slots Q (F0 m (pc + 3) ls rest)) : W p l e R s m args below meth c H locs cells slots Q (F0 m pc ls (v :: .ref (ad s0 i) :: rest)) := by
  subst href
  have hap := va_apart (own := own) hts hin ty0 hty hnm hK hc
  have h0 := hP.1 s0 i ha
  rw [ceE_ob hds] at h0
  obtain ⟨r, h1, cell, q1, q2, q3, q4⟩ := h0
  have hr : r = (C, T, N) := Option.some.inj (h1.symm.trans hc)
  subst hr
  obtain ⟨hSl, hfc, kC, hkC, hkind⟩ := hK.1 ci _ hc
  obtain ⟨cf, kf, fi, f, hi, hsl⟩ := hSl k hk
  have hlay := hts _ (hin _ (u_in_lay hk))
  unfold u_lay at hlay
  rw [if_neg (by rw [hfin]; decide)] at hlay
  have hst := (u_facts hfc hkC (u_lays hts hin hk) hi).1
  have h6 := u_store hfc hkC hkind hlay hi hd hn hfit
  refine va_WputK hx hb (f := f) hown hlink hi hst (by rw [q2]; exact h6) q1 q3 (by rw [hsl]; exact k2_hasslot (q4 k hk)) rfl rfl hdg fun H' e1 e2 e3 => ?_
  rw [hsl] at e1 ⊢
  refine kk H' _ (hp_wr hP ha hw ?_ e3) (hS.put e2 e3 (hP.2.2.2 s0 i ha))
  rw [ceE_ob hds, hob]
  exact ⟨_, hc, t_OB.to (V := updV (vp_V (obV ad M s0 i cs)) k v) ⟨_, e1, q2, q3, t_set q4 hap hk v⟩ (fun j _ => vp_updV_set (by rw [obV_len]; exact hl) v j)⟩
theorem hp_iald (hx : p.tables.exec = Jvm.exec) (hb : c.code = cc) (hK : va_K D vwCl (tysOf cy) s) (hP : HP D cy A ad M H) (ha : mA M s0 i = true) {n : Nat} (hds : ds s0 = .inr (0, n, 0)) {x : Int32} (hin : vp_in x n) (hdg : decode cc pc = .ok (.iaload, 1))
    (kk : W p l e R s m args below meth c H locs cells slots Q (F0 m (pc + 1) ls (.int (mI M s0 i x.toNatClampNeg) :: rest))) : W p l e R s m args below meth c H locs cells slots Q (F0 m pc ls (.int x :: .ref (ad s0 i) :: rest)) :=
  va_iald hx hb hK (hp_one hP ha) 0 0 (n := n) (f := fun k => mI M s0 i k) (cA := cy 0) (by rw [ceE_ar hds]; rfl) rfl hin hdg kk
theorem hp_zald (hx : p.tables.exec = Jvm.exec) (hb : c.code = cc) (hK : va_K D vwCl (tysOf cy) s) (hP : HP D cy A ad M H) (ha : mA M s0 i = true) {n : Nat} (hds : ds s0 = .inr (2, n, 0)) {x : Int32} (hin : vp_in x n) (hdg : decode cc pc = .ok (.baload, 1))
    (kk : W p l e R s m args below meth c H locs cells slots Q (F0 m (pc + 1) ls (.int (mI M s0 i x.toNatClampNeg) :: rest))) : W p l e R s m args below meth c H locs cells slots Q (F0 m pc ls (.int x :: .ref (ad s0 i) :: rest)) :=
  va_zald hx hb hK (hp_one hP ha) 0 2 (n := n) (f := fun k => mI M s0 i k) (cA := cy 2) (by rw [ceE_ar hds]; rfl) rfl hin hdg kk
theorem hp_lald (hx : p.tables.exec = Jvm.exec) (hb : c.code = cc) (hK : va_K D vwCl (tysOf cy) s) (hP : HP D cy A ad M H) (ha : mA M s0 i = true) {n : Nat} (hds : ds s0 = .inr (1, n, 1)) {x : Int32} (hin : vp_in x n) (hdg : decode cc pc = .ok (.laload, 1))
    (kk : W p l e R s m args below meth c H locs cells slots Q (F0 m (pc + 1) ls (.long (mJ M s0 i x.toNatClampNeg) :: rest))) : W p l e R s m args below meth c H locs cells slots Q (F0 m pc ls (.int x :: .ref (ad s0 i) :: rest)) :=
  va_lald hx hb hK (hp_one hP ha) 0 1 (n := n) (f := fun k => mJ M s0 i k) (cA := cy 1) (by rw [ceE_ar hds]; rfl) rfl hin hdg kk
theorem hp_aald (hx : p.tables.exec = Jvm.exec) (hb : c.code = cc) (hK : va_K D vwCl (tysOf cy) s) (hP : HP D cy A ad M H) (ha : mA M s0 i = true) {an n t : Nat} (hds : ds s0 = .inr (an, n, t + 2)) {C : String} (hty : (tysOf cy)[an]? = some (cy an, .object C)) {x : Int32} (hin : vp_in x n) (hdg : decode cc pc = .ok (.aaload, 1))
    (kk : W p l e R s m args below meth c H locs cells slots Q (F0 m (pc + 1) ls (va_rf ((mR M s0 i x.toNatClampNeg).map (ad t)) :: rest))) : W p l e R s m args below meth c H locs cells slots Q (F0 m pc ls (.int x :: .ref (ad s0 i) :: rest)) :=
  va_aldq hx hb hK (hp_one hP ha) 0 an (n := n) (f := fun k => (mR M s0 i k).map (ad t)) (cA := cy an) (by rw [ceE_ar hds]; rfl) hty hin hdg kk
theorem hp_alen (hx : p.tables.exec = Jvm.exec) (hb : c.code = cc) (hK : va_K D vwCl (tysOf cy) s) (hP : HP D cy A ad M H) (ha : mA M s0 i = true) {an n t : Nat} (hds : ds s0 = .inr (an, n, t)) {ty : FieldType} (hty : (tysOf cy)[an]? = some (cy an, ty)) {v : Int32} (hv : Int32.ofNat n = v) (hdg : decode cc pc = .ok (.arraylength, 1))
    (kk : W p l e R s m args below meth c H locs cells slots Q (F0 m (pc + 1) ls (.int v :: rest))) : W p l e R s m args below meth c H locs cells slots Q (F0 m pc ls (.ref (ad s0 i) :: rest)) :=
  va_alen hx hb hK (hp_one hP ha) 0 an (cA := cy an) (x := arV ad M s0 i n t) (by rw [ceE_ar hds]; rfl) hty hv hdg kk
theorem ceI {n : Nat} (hds : (∃ an, ds s0 = .inr (an, n, 0))) (k : Nat) (v : Int32) (cA : ClassId) : vp_cell cA (arV ad (sI M s0 i k v) s0 i n 0) = (vp_cell cA (arV ad M s0 i n 0)).setSlot k (.int v) := by
  show vp_cell cA (n, .inl _) = (vp_cell cA (n, .inl _)).setSlot k (.int v)
  rw [vp_cell_i, vp_cell_i, arrV_store]
  congr 1
  funext j
  by_cases hj : j = k
  · subst hj
    simp [updV, mI, sI]
  · simp [updV, mI, sI, hj]
theorem ceJ {n : Nat} (k : Nat) (v : Int64) (cA : ClassId) : vp_cell cA (arV ad (sJ M s0 i k v) s0 i n 1) = (vp_cell cA (arV ad M s0 i n 1)).setSlot k (.long v) := by
  show vp_cell cA (n, .inr (.inl _)) = (vp_cell cA (n, .inr (.inl _))).setSlot k (.long v)
  rw [vp_cell_l, vp_cell_l, arrV_store]
  congr 1
  funext j
  by_cases hj : j = k
  · subst hj
    simp [updV, mJ, sJ]
  · simp [updV, mJ, sJ, hj]
theorem ceR {n t : Nat} (k : Nat) (v : Option Nat) (cA : ClassId) : vp_cell cA (arV ad (sR M s0 i k v) s0 i n (t + 2)) = (vp_cell cA (arV ad M s0 i n (t + 2))).setSlot k (va_rf (v.map (ad t))) := by
  show vp_cell cA (n, .inr (.inr (.inr (.inr _)))) = (vp_cell cA (n, .inr (.inr (.inr (.inr _))))).setSlot k _
  rw [vp_cell_q, vp_cell_q, arrV_store]
  congr 1
  funext j
  by_cases hj : j = k
  · subst hj
    simp [updV, mR, sR]
  · simp [updV, mR, sR, hj]
theorem hp_iast (hx : p.tables.exec = Jvm.exec) (hb : c.code = cc) (hK : va_K D vwCl (tysOf cy) s) (hP : HP D cy A ad M H) (hS : va_S A H0 H locs) (ha : mA M s0 i = true) {n : Nat} (hds : ds s0 = .inr (0, n, 0)) {x v : Int32} (hin : vp_in x n) (hdg : decode cc pc = .ok (.iastore, 1))
    (kk : ∀ (H1 : Heap) (locs1 : List Loc), HP D cy A ad (sI M s0 i x.toNatClampNeg v) H1 → va_S A H0 H1 locs1 → W p l e R s m args below meth c H1 locs1 cells slots Q (F0 m (pc + 1) ls rest)) : W p l e R s m args below meth c H locs cells slots Q (F0 m pc ls (.int v :: .int x :: .ref (ad s0 i) :: rest)) := by
  have h0 := hP.1 s0 i ha
  rw [ceE_ar hds] at h0
  refine W.iast hx hb h0 ((hK.2 0 _ rfl).1 n _) (fun q => by cases q) (by show ¬ (x < 0 ∨ (arrV _ _ _).slots.size ≤ _); rw [arrV_size]; exact hin) rfl rfl hdg fun H1 e z oq => ?_
  refine kk H1 _ (hp_wr hP ha (wrI M s0 i _ v) ?_ oq) (hS.put z oq (hP.2.2.2 s0 i ha))
  rw [ceE_ar hds]
  exact e.trans (congrArg some (ceI ⟨_, hds⟩ _ v _).symm)
theorem hp_last (hx : p.tables.exec = Jvm.exec) (hb : c.code = cc) (hK : va_K D vwCl (tysOf cy) s) (hP : HP D cy A ad M H) (hS : va_S A H0 H locs) (ha : mA M s0 i = true) {n : Nat} (hds : ds s0 = .inr (1, n, 1)) {x : Int32} {v : Int64} (hin : vp_in x n) (hdg : decode cc pc = .ok (.lastore, 1))
    (kk : ∀ (H1 : Heap) (locs1 : List Loc), HP D cy A ad (sJ M s0 i x.toNatClampNeg v) H1 → va_S A H0 H1 locs1 → W p l e R s m args below meth c H1 locs1 cells slots Q (F0 m (pc + 1) ls rest)) : W p l e R s m args below meth c H locs cells slots Q (F0 m pc ls (.long v :: .int x :: .ref (ad s0 i) :: rest)) := by
  have h0 := hP.1 s0 i ha
  rw [ceE_ar hds] at h0
  refine W.last hx hb h0 ((hK.2 1 _ rfl).1 n _) (fun q => by cases q) (by show ¬ (x < 0 ∨ (arrV _ _ _).slots.size ≤ _); rw [arrV_size]; exact hin) rfl rfl hdg fun H1 e z oq => ?_
  refine kk H1 _ (hp_wr hP ha (wrJ M s0 i _ v) ?_ oq) (hS.put z oq (hP.2.2.2 s0 i ha))
  rw [ceE_ar hds]
  exact e.trans (congrArg some (ceJ _ v _).symm)
theorem hp_zast (hx : p.tables.exec = Jvm.exec) (hb : c.code = cc) (hK : va_K D vwCl (tysOf cy) s) (hP : HP D cy A ad M H) (hS : va_S A H0 H locs) (ha : mA M s0 i = true) {n : Nat} (hds : ds s0 = .inr (2, n, 0)) {x v : Int32} (hin : vp_in x n) (hnv : narrow .boolean (.int v) = .int v) (hdg : decode cc pc = .ok (.bastore, 1))
    (kk : ∀ (H1 : Heap) (locs1 : List Loc), HP D cy A ad (sI M s0 i x.toNatClampNeg v) H1 → va_S A H0 H1 locs1 → W p l e R s m args below meth c H1 locs1 cells slots Q (F0 m (pc + 1) ls rest)) : W p l e R s m args below meth c H locs cells slots Q (F0 m pc ls (.int v :: .int x :: .ref (ad s0 i) :: rest)) := by
  have h0 := hP.1 s0 i ha
  rw [ceE_ar hds] at h0
  refine W.zast hx hb h0 ((hK.2 2 _ rfl).1 n _) (fun q => by cases q) (by show ¬ (x < 0 ∨ (arrV _ _ _).slots.size ≤ _); rw [arrV_size]; exact hin) rfl rfl hdg fun H1 e z oq => ?_
  rw [hnv] at e
  refine kk H1 _ (hp_wr hP ha (wrI M s0 i _ v) ?_ oq) (hS.put z oq (hP.2.2.2 s0 i ha))
  rw [ceE_ar hds]
  exact e.trans (congrArg some (ceI ⟨_, hds⟩ _ v _).symm)
theorem hp_aast (hx : p.tables.exec = Jvm.exec) (hb : c.code = cc) (hK : va_K D vwCl (tysOf cy) s) (hP : HP D cy A ad M H) (hS : va_S A H0 H locs) (ha : mA M s0 i = true) {an n t ci j : Nat} {cs : List Nat} {r : vw_C} (hds : ds s0 = .inr (an, n, t + 2)) (hty : (tysOf cy)[an]? = some (cy an, .object r.1)) (hj : mA M t j = true) (hdt : ds t = .inl (ci, cs)) (hc : vwCl[ci]? = some r) {x : Int32} (hin : vp_in x n) (hdg : decode cc pc = .ok (.aastore, 1))
    (kk : ∀ (H1 : Heap) (locs1 : List Loc), HP D cy A ad (sR M s0 i x.toNatClampNeg (some j)) H1 → va_S A H0 H1 locs1 → W p l e R s m args below meth c H1 locs1 cells slots Q (F0 m (pc + 1) ls rest)) : W p l e R s m args below meth c H locs cells slots Q (F0 m pc ls (.ref (ad t j) :: .int x :: .ref (ad s0 i) :: rest)) := by
  have hlt : x.toNatClampNeg < n := Nat.not_le.mp fun q => hin (Or.inr q)
  have hx0 : ¬ x < 0 := fun q => hin (Or.inl q)
  have h0 := hP.1 s0 i ha
  rw [ceE_ar hds] at h0
  have hv := hP.1 t j hj
  rw [ceE_ob hdt] at hv
  obtain ⟨r', hr', cellV, g1, g2, g3, -⟩ := hv
  have hcls := (hK.1 ci r hc).2
  obtain ⟨kA, comp, k1, k2, k3, -⟩ := (hK.2 an _ hty).2
  have hcomp : comp = D.1 ci := Option.some.inj (k3.symm.trans hcls.1)
  subst hcomp
  obtain ⟨kC, hkC, -⟩ := hcls.2
  refine W.aast hx hb h0 (fun q h => by cases h) (fun h => by cases h) k1 k2 rfl hkC ⟨hx0, by show _ < (arrV _ _ _).slots.size; rw [arrV_size]; exact hlt⟩ g1 (fun q h => by rw [g3] at h; cases h) (by rw [g2]; exact hkC) (by rw [g2]; exact va_assign hcls) rfl rfl hdg fun H1 e z oq => ?_
  refine kk H1 _ (hp_wr hP ha (wrR M s0 i _ (some j) (fun j' h => ?_)) ?_ oq) (hS.put z oq (hP.2.2.2 s0 i ha))
  · cases h
    have : rso s0 x.toNatClampNeg = t := by unfold rso; rw [hds]; rfl
    rw [this]
    exact hj
  · rw [ceE_ar hds]
    exact e.trans (congrArg some (ceR _ (some j) _).symm)
end HPR
