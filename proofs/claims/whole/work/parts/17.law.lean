/-! ===== TWO WORLDS: the house's and the model's ===== -/
def TW (D : va_G) (cy : Nat → ClassId) (A : Nat → Prop) (ad : Nat → Nat → Nat) (M : Mm) (ad2 : Nat → Nat → Nat) (M2 : Mm) (H : Heap) : Prop := HP D cy A ad M H ∧ HP D cy A ad2 M2 H ∧ ∀ s i s' i' : Nat, mA M s i = true → mA M2 s' i' = true → ad s i ≠ ad2 s' i'
theorem TW.sw {D : va_G} {cy : Nat → ClassId} {A : Nat → Prop} {ad ad2 : Nat → Nat → Nat} {M M2 : Mm} {H : Heap} (h : TW D cy A ad M ad2 M2 H) : TW D cy A ad2 M2 ad M H := ⟨h.2.1, h.1, fun s i s' i' h1 h2 e => h.2.2 s' i' s i h2 h1 e.symm⟩
theorem tw_next {D : va_G} {cy : Nat → ClassId} {A : Nat → Prop} {ad ad' ad2 : Nat → Nat → Nat} {M M' M2 : Mm} {H H1 : Heap} (h : TW D cy A ad M ad2 M2 H) (hP : HP D cy (AA ad M H.size) ad' M' H1) (hsub : ∀ q, AA ad M H.size q → A q) (hk : ∀ q : Nat, q < H.size → ¬ AA ad M H.size q → H1[q]? = H[q]?) : TW D cy A ad' M' ad2 M2 H1 := by
  have hn : ∀ s i : Nat, mA M2 s i = true → ¬ AA ad M H.size (ad2 s i) := fun s i ha q => by
    rcases q with ⟨s', i', h1, h2⟩ | h1
    · exact h.2.2 s' i' s i h1 ha h2
    · have := hp_lt h.2.1 ha
      omega
  refine ⟨hp_mono hP hsub, hp_kept h.2.1 (fun s i ha => hk _ (hp_lt h.2.1 ha) (hn s i ha)), fun s i s' i' h1 h2 e => ?_⟩
  have := hP.2.2.2 s i h1
  rw [e] at this
  exact hn s' i' h2 this
theorem lg_same (x : Int64) : lg_cmp x x = 0 := by simp [lg_cmp]
section TWC
variable {p : Program} {l : Launch} {e : Env} {R : Room} {s : State} {m : MethodId} {args : Array Value} {below : List Frame} {meth : Method} {c : Code} {H : Heap} {locs : List Loc} {cells slots mc ms : Nat} {Q : State → Prop}
variable {cc : ByteArray} {pc : Nat} {ls : Array Slot} {rest st0 : List Value} {a : Array Value} {D : va_G} {cy : Nat → ClassId} {A : Nat → Prop} {ad ad2 : Nat → Nat → Nat} {M M' M2 : Mm} {H0 : Heap} {s0 i : Nat}
theorem tw_calli {r0 : Int32} (hr : va_Run p l e R s m args below meth c H locs cells slots mc ms (F0 m pc ls st0) rest (QI D cy ad M H.size r0 M' a) (AA ad M H.size)) (hT : TW D cy A ad M ad2 M2 H) (hS : va_S A s.heap H locs) (hA : ∀ q, s.heap.size ≤ q → A q)
    (kk : ∀ (H1 : Heap) (locs1 : List Loc), TW D cy A ad M' ad2 M2 H1 → va_S A s.heap H1 locs1 → Keep M M' → W p l e R s m args below meth c H1 locs1 (cells + mc) (slots + ms) Q (F0 m (pc + 3) ls (.int r0 :: rest))) : W p l e R s m args below meth c H locs cells slots Q (F0 m pc ls st0) := by
  have hsub := AA_sub hT.1 hS hA
  refine va_calli hr hS (fun q _ h => hsub q h) hsub (fun r u t H1 locs1 ht hvm hw hB hz hk hS1 => ?_)
  obtain ⟨rfl, rfl⟩ := hw
  obtain ⟨hB1, hB2⟩ := hB
  rw [ht] at hB1
  exact kk H1 locs1 (tw_next hT hB1 hsub hk) hS1 hB2
theorem tw_calll {r0 : Int64} (hr : va_Run p l e R s m args below meth c H locs cells slots mc ms (F0 m pc ls st0) rest (QJ D cy ad M H.size r0 M' a) (AA ad M H.size)) (hT : TW D cy A ad M ad2 M2 H) (hS : va_S A s.heap H locs) (hA : ∀ q, s.heap.size ≤ q → A q)
    (kk : ∀ (H1 : Heap) (locs1 : List Loc), TW D cy A ad M' ad2 M2 H1 → va_S A s.heap H1 locs1 → Keep M M' → W p l e R s m args below meth c H1 locs1 (cells + mc) (slots + ms) Q (F0 m (pc + 3) ls (.long r0 :: rest))) : W p l e R s m args below meth c H locs cells slots Q (F0 m pc ls st0) := by
  have hsub := AA_sub hT.1 hS hA
  refine va_calll hr hS (fun q _ h => hsub q h) hsub (fun r u t H1 locs1 ht hvm hw hB hz hk hS1 => ?_)
  obtain ⟨rfl, rfl⟩ := hw
  obtain ⟨hB1, hB2⟩ := hB
  rw [ht] at hB1
  exact kk H1 locs1 (tw_next hT hB1 hsub hk) hS1 hB2
theorem tw_callia {r0 : Int32} (hr : va_Run p l e R s m args below meth c H locs cells slots mc ms (F0 m pc ls st0) rest (QIa D cy ad M H.size r0 M' a) (AA ad M H.size)) (hT : TW D cy A ad M ad2 M2 H) (hS : va_S A s.heap H locs) (hA : ∀ q, s.heap.size ≤ q → A q)
    (kk : ∀ (ad' : Nat → Nat → Nat) (H1 : Heap) (locs1 : List Loc), TW D cy A ad' M' ad2 M2 H1 → va_S A s.heap H1 locs1 → Keep M M' → Agr M ad ad' → W p l e R s m args below meth c H1 locs1 (cells + mc) (slots + ms) Q (F0 m (pc + 3) ls (.int r0 :: rest))) : W p l e R s m args below meth c H locs cells slots Q (F0 m pc ls st0) := by
  have hsub := AA_sub hT.1 hS hA
  refine va_calli hr hS (fun q _ h => hsub q h) hsub (fun r u t H1 locs1 ht hvm hw hB hz hk hS1 => ?_)
  obtain ⟨u, ad'⟩ := u
  obtain ⟨rfl, rfl⟩ := hw
  obtain ⟨hB1, hB2, hB3⟩ := hB
  rw [ht] at hB1
  exact kk ad' H1 locs1 (tw_next hT hB1 hsub hk) hS1 hB2 hB3
theorem tw_callva (hr : va_Run p l e R s m args below meth c H locs cells slots mc ms (F0 m pc ls st0) rest (QVa D cy ad M H.size M' a) (AA ad M H.size)) (hT : TW D cy A ad M ad2 M2 H) (hS : va_S A s.heap H locs) (hA : ∀ q, s.heap.size ≤ q → A q)
    (kk : ∀ (ad' : Nat → Nat → Nat) (H1 : Heap) (locs1 : List Loc), TW D cy A ad' M' ad2 M2 H1 → va_S A s.heap H1 locs1 → Keep M M' → Agr M ad ad' → W p l e R s m args below meth c H1 locs1 (cells + mc) (slots + ms) Q (F0 m (pc + 3) ls (rest))) : W p l e R s m args below meth c H locs cells slots Q (F0 m pc ls st0) := by
  have hsub := AA_sub hT.1 hS hA
  refine va_callv hr hS (fun q _ h => hsub q h) hsub (fun u t H1 locs1 ht hvm hw hB hz hk hS1 => ?_)
  obtain ⟨u, ad'⟩ := u
  subst hw
  obtain ⟨hB1, hB2, hB3⟩ := hB
  rw [ht] at hB1
  exact kk ad' H1 locs1 (tw_next hT hB1 hsub hk) hS1 hB2 hB3
theorem tw_new (hx : p.tables.exec = Jvm.exec) (hb : c.code = cc) {own C : String} {T : u_T} {N ci index : Nat} (hts : ∀ w ∈ BW, w.before args s = true) (hin : ∀ w ∈ u_ws C T N, w ∈ BW) (ty : Nat → FieldType) (hty : ∀ k, k < N → parseFieldDescriptor (T k).2.2.1 = some (ty k)) (hown : s.vm.findClass own = some m.cls) (hcl : (Cond.classLink own index C).before args s = true) (hinst : (Cond.instantiable C N).before args s = true) (hini : (Cond.initialized C).before args s = true)
    (hK : va_K D vwCl (tysOf cy) s) (hT : TW D cy A ad M ad2 M2 H) (hS : va_S A H0 H locs) (hA : ∀ q, H0.size ≤ q → A q) (hf : mA M s0 i = false) {cs : List Nat} (hds : ds s0 = .inl (ci, cs)) (hc : vwCl[ci]? = some (C, T, N)) (hfs : ∀ j, j < N → defaultValue (ty j) = vp_V (zeV cs) j) (eM : M' = nA M s0 i) (hcells : cells + 1 ≤ R.cells) (hslots : slots + N ≤ R.slots) (hdg : decode cc pc = .ok (.new index, 3))
    (kk : ∀ (ad' : Nat → Nat → Nat) (H1 : Heap), TW D cy A ad' M' ad2 M2 H1 → Agr M ad ad' → va_S A H0 H1 locs → W p l e R s m args below meth c H1 locs (cells + 1) (slots + N) Q (F0 m (pc + 3) ls (.ref (ad' s0 i) :: rest))) : W p l e R s m args below meth c H locs cells slots Q (F0 m pc ls rest) := by
  subst eM
  have hKn := hK.1 ci _ hc
  refine W.newcK hx hb hown hcl hinst hini rfl hdg hcells hslots hKn.2.1 rfl fun H1 kC hkC e1 z1 o1 => ?_
  have hn : va_at D vwCl (H.size, ceE cy (upA ad s0 i H.size) (nA M s0 i) s0 i) H1 := by
    rw [ceE_ob hds, obV_nA]
    exact ⟨_, hc, (u_born ty hts hin hKn hkC e1 hty).to hfs⟩
  obtain ⟨g1, g2⟩ := hp_born hT.1 hf (hA _ hS.1) hn o1
  have hT' : TW D cy A (upA ad s0 i H.size) (nA M s0 i) ad2 M2 H1 := by
    refine ⟨g1, hp_kept hT.2.1 (fun s i ha => o1 _ (hp_lt hT.2.1 ha)), fun s' i' s2 i2 h1 h2 e => ?_⟩
    have hlt := hp_lt hT.2.1 h2
    by_cases q : s' = s0 ∧ i' = i
    · obtain ⟨rfl, rfl⟩ := q
      rw [show upA ad s' i' H.size s' i' = H.size from if_pos ⟨rfl, rfl⟩] at e
      omega
    · have ha : mA M s' i' = true := by
        have h1' : (if s' = s0 ∧ i' = i then true else M.2.2.2 s' i') = true := h1
        rw [if_neg q] at h1'
        exact h1'
      rw [g2 s' i' ha] at e
      exact hT.2.2 s' i' s2 i2 ha h2 e
  have k2 := kk _ H1 hT' g2 ⟨Nat.le_trans hS.1 (by omega), fun x h1 h2 => (o1 x (Nat.lt_of_lt_of_le h1 hS.1)).trans (hS.2.1 x h1 h2), hS.2.2⟩
  rw [show upA ad s0 i H.size s0 i = H.size from if_pos ⟨rfl, rfl⟩] at k2
  exact k2
end TWC
theorem law_cond {L j : Nat} (hL : L ≤ 3584) (h2 : 7 * j ≤ L) (h : ¬ (Int32.ofNat L - 7) < nI (7 * j)) : 7 * j + 7 ≤ L := by
  have e1 : (nI L - nI 7).toInt = (L : Int) - ((7 : Nat) : Int) := pk_sub_toInt (by omega) (by omega)
  have e2 : (nI (7 * j)).toInt = ((7 * j : Nat) : Int) := nI_toInt (by omega)
  have h3 : ¬ (nI L - nI 7) < nI (7 * j) := h
  rw [Int32.lt_iff_toInt_lt, e1, e2] at h3
  omega
theorem law_room1 {j k : Nat} (hj : j < 512) (hk : k ≤ 3 := by decide) : 40 + 3 * j + k ≤ room_1.cells := by
  have : room_1.cells = 600000 := rfl
  omega
theorem law_room2 {j k : Nat} (hj : j < 512) (hk : k ≤ 36 := by decide) : 9000 + 36 * j + k ≤ room_1.slots := by
  have : room_1.slots = 7302250 := rfl
  omega
theorem law_room3 {j k : Nat} (hj : j < 512) (hk : k ≤ 3 := by decide) : 40 + 3 * j + k + 0 ≤ room_1.cells := law_room1 hj hk
theorem law_room4 {j k : Nat} (hj : j < 512) (hk : k ≤ 36 := by decide) : 9000 + 36 * j + k + 0 ≤ room_1.slots := law_room2 hj hk
/-- each call answers alike, and keeps what ties the two -/
def S_race (Inv : Nat → Mm → Mm → Prop) : Prop := (∀ (k : Nat) (C R : Mm) (a0 a1 : Int32), k < 512 → Inv k C R → ∃ (r : Int32) (C' : Mm) (R' : Mm), f_X3_race 0 a0 a1 C = some (r, C') ∧ f_X4_race 0 a0 a1 R = some (r, R') ∧ Inv (k + 1) C' R')
def S_pool (Inv : Nat → Mm → Mm → Prop) : Prop := (∀ (k : Nat) (C R : Mm) (a0 a1 a2 a3 : Int32), k < 512 → Inv k C R → ∃ (r : Int32) (C' : Mm) (R' : Mm), f_X3_pool 0 a0 a1 a2 a3 C = some (r, C') ∧ f_X4_pool 0 a0 a1 a2 a3 R = some (r, R') ∧ Inv (k + 1) C' R')
def S_pair (Inv : Nat → Mm → Mm → Prop) : Prop := (∀ (k : Nat) (C R : Mm) (a0 a1 a2 a3 : Int32), k < 512 → Inv k C R → ∃ (r : Int32) (C' : Mm) (R' : Mm), f_X3_pair 0 a0 a1 a2 a3 C = some (r, C') ∧ f_X4_pair 0 a0 a1 a2 a3 R = some (r, R') ∧ Inv (k + 1) C' R')
def S_substitute (Inv : Nat → Mm → Mm → Prop) : Prop := (∀ (k : Nat) (C R : Mm) (a0 a1 : Int32), k < 512 → Inv k C R → ∃ (r : Int32) (C' : Mm) (R' : Mm), f_X3_substitute 0 a0 a1 C = some (r, C') ∧ f_X4_substitute 0 a0 a1 R = some (r, R') ∧ Inv (k + 1) C' R')
def S_sell (Inv : Nat → Mm → Mm → Prop) : Prop := (∀ (k : Nat) (C R : Mm) (a0 a1 a2 a3 a4 a5 : Int32), k < 512 → Inv k C R → ∃ (r : Int32) (C' : Mm) (R' : Mm), f_X3_sell 0 a0 a1 a2 a3 a4 a5 C = some (r, C') ∧ f_X4_sell 0 a0 a1 a2 a3 a4 a5 R = some (r, R') ∧ Inv (k + 1) C' R')
def S_cancel (Inv : Nat → Mm → Mm → Prop) : Prop := (∀ (k : Nat) (C R : Mm) (a0 : Int32), k < 512 → Inv k C R → ∃ (r : Int32) (C' : Mm) (R' : Mm), f_X3_cancel 0 a0 C = some (r, C') ∧ f_X4_cancel 0 a0 R = some (r, R') ∧ Inv (k + 1) C' R')
def S_scratch (Inv : Nat → Mm → Mm → Prop) : Prop := (∀ (k : Nat) (C R : Mm) (a0 a1 : Int32), k < 512 → Inv k C R → ∃ (r : Int32) (C' : Mm) (R' : Mm), f_X3_scratch 0 a0 a1 C = some (r, C') ∧ f_X4_scratch 0 a0 a1 R = some (r, R') ∧ Inv (k + 1) C' R')
def S_off (Inv : Nat → Mm → Mm → Prop) : Prop := (∀ (k : Nat) (C R : Mm) (a0 : Int32), k < 512 → Inv k C R → ∃ (r : Int32) (C' : Mm) (R' : Mm), f_X3_off 0 a0 C = some (r, C') ∧ f_X4_off 0 a0 R = some (r, R') ∧ Inv (k + 1) C' R')
def S_place (Inv : Nat → Mm → Mm → Prop) : Prop := (∀ (k : Nat) (C R : Mm) (a0 a1 a2 : Int32), k < 512 → Inv k C R → ∃ (r : Int32) (C' : Mm) (R' : Mm), f_X3_place 0 a0 a1 a2 C = some (r, C') ∧ f_X4_place 0 a0 a1 a2 R = some (r, R') ∧ Inv (k + 1) C' R')
def S_official (Inv : Nat → Mm → Mm → Prop) : Prop := (∀ (k : Nat) (C R : Mm) (a0 : Int32), k < 512 → Inv k C R → ∃ (r : Int32) (C' : Mm) (R' : Mm), f_X3_official 0 a0 C = some (r, C') ∧ f_X4_official 0 a0 R = some (r, R') ∧ Inv (k + 1) C' R')
def S_odds (Inv : Nat → Mm → Mm → Prop) : Prop := (∀ (k : Nat) (C R : Mm) (a0 a1 a2 a3 a4 : Int32), k < 512 → Inv k C R → ∃ (r : Int32) (R' : Mm), f_X3_odds 0 a0 a1 a2 a3 a4 C = some r ∧ f_X4_odds 0 a0 a1 a2 a3 a4 R = some (r, R') ∧ Inv (k + 1) C R')
def S_dividend (Inv : Nat → Mm → Mm → Prop) : Prop := (∀ (k : Nat) (C R : Mm) (a0 a1 a2 a3 a4 : Int32), k < 512 → Inv k C R → ∃ (r : Int32) (R' : Mm), f_X3_dividend 0 a0 a1 a2 a3 a4 C = some r ∧ f_X4_dividend 0 a0 a1 a2 a3 a4 R = some (r, R') ∧ Inv (k + 1) C R')
def S_pay (Inv : Nat → Mm → Mm → Prop) : Prop := (∀ (k : Nat) (C R : Mm) (a0 : Int32), k < 512 → Inv k C R → ∃ (r : Int64) (C' : Mm) (R' : Mm), f_X3_pay 0 a0 C = some (r, C') ∧ f_X4_pay 0 a0 R = some (r, R') ∧ Inv (k + 1) C' R')
def S_sum (Inv : Nat → Mm → Mm → Prop) : Prop := (∀ (k : Nat) (C R : Mm) (a0 a1 a2 : Int32), k < 512 → Inv k C R → ∃ (r : Int64), f_X3_sum 0 a0 a1 a2 C = some r ∧ f_X4_sum 0 a0 a1 a2 R = some r ∧ Inv (k + 1) C R)
def S_unclaimed (Inv : Nat → Mm → Mm → Prop) : Prop := (∀ (k : Nat) (C R : Mm), k < 512 → Inv k C R → ∃ (r : Int64), f_X3_unclaimed 0  C = some r ∧ f_X4_unclaimed 0  R = some r ∧ Inv (k + 1) C R)
def S_carried (Inv : Nat → Mm → Mm → Prop) : Prop := (∀ (k : Nat) (C R : Mm), k < 512 → Inv k C R → ∃ (r : Int64), f_X3_carried 0  C = some r ∧ f_X4_carried 0  R = some r ∧ Inv (k + 1) C R)
def S_close (Inv : Nat → Mm → Mm → Prop) : Prop := (∀ (k : Nat) (C R : Mm), k < 512 → Inv k C R → ∃ (r : Int32), f_X3_close 0  C = some r ∧ f_X4_close 0  R = some r ∧ Inv (k + 1) C R)
def S_ticket (Inv : Nat → Mm → Mm → Prop) : Prop := (∀ (k : Nat) (C R : Mm) (a0 a1 : Int32), k < 512 → Inv k C R → ∃ (r : Int32), f_X3_ticket 0 a0 a1 C = some r ∧ f_X4_ticket 0 a0 a1 R = some r ∧ Inv (k + 1) C R)
def S_units (Inv : Nat → Mm → Mm → Prop) : Prop := (∀ (k : Nat) (C R : Mm) (a0 a1 a2 a3 a4 : Int32), k < 512 → Inv k C R → ∃ (r : Int32) (R' : Mm), f_X3_units 0 a0 a1 a2 a3 a4 C = some r ∧ f_X4_units 0 a0 a1 a2 a3 a4 R = some (r, R') ∧ Inv (k + 1) C R')
def S_look (Inv : Nat → Mm → Mm → Prop) : Prop := (∀ (k : Nat) (C R : Mm) (a0 a1 : Int32), k < 512 → Inv k C R → ∃ (r : Int32), f_X3_look 0 a0 a1 C = some r ∧ f_X4_look 0 a0 a1 R = some r ∧ Inv (k + 1) C R)
def S_count (Inv : Nat → Mm → Mm → Prop) : Prop := (∀ (k : Nat) (C R : Mm) (a0 : Int32), k < 512 → Inv k C R → ∃ (r : Int64), f_X3_count 0 a0 C = some r ∧ f_X4_count 0 a0 R = some r ∧ Inv (k + 1) C R)
def S_no (Inv : Nat → Mm → Mm → Prop) : Prop := ∀ (k : Nat) (C R : Mm), k < 512 → Inv k C R → Inv (k + 1) C R
def SimS (Inv : Nat → Mm → Mm → Prop) : Prop := S_race Inv ∧ S_pool Inv ∧ S_pair Inv ∧ S_substitute Inv ∧ S_sell Inv ∧ S_cancel Inv ∧ S_scratch Inv ∧ S_off Inv ∧ S_place Inv ∧ S_official Inv ∧ S_odds Inv ∧ S_dividend Inv ∧ S_pay Inv ∧ S_sum Inv ∧ S_unclaimed Inv ∧ S_carried Inv ∧ S_close Inv ∧ S_ticket Inv ∧ S_units Inv ∧ S_look Inv ∧ S_count Inv ∧ S_no Inv
def M00 : Mm := (fun _ _ _ => 0, fun _ _ _ => 0, fun _ _ _ => none, fun _ _ => false)
def SimI (Inv : Nat → Mm → Mm → Prop) : Prop := ∃ C R : Mm, f_X3_init 0 (nA M00 1 0) = some C ∧ f_X4_init 0 (nA M00 0 0) = some R ∧ Inv 0 C R
set_option maxRecDepth 100000 in
set_option maxHeartbeats 4000000 in
theorem law_loop {p : Program} {l : Launch} {e : Env} {s : State} {m : MethodId} {below : List Frame} {meth : Method} {c : Code} {b L : Nat} {xs : Nat → Int32} (hL : L ≤ 3584) (C0 : lw_At p s m meth c b L xs) {D : va_G} {cy : Nat → ClassId} (hK : va_K D vwCl (tysOf cy) s) (hN : NW s) (Inv : Nat → Mm → Mm → Prop) (hsim : SimS Inv) :
    ∀ (n j : Nat) (C R : Mm) (adC adR : Nat → Nat → Nat) (H : Heap) (locs : List Loc) (ls : Array Slot), L < 7 * (j + n) → 7 * j ≤ L → Inv j C R → mA C 1 0 = true → mA R 0 0 = true → TW D cy (fun q : Nat => s.heap.size ≤ q) adC C adR R H → va_S (fun q : Nat => s.heap.size ≤ q) s.heap H locs → lv_has ls 4 [(0, .ref b), (1, .ref (adC 1 0)), (2, .ref (adR 0 0)), (3, .int (nI (7 * j)))] → W p l e room_1 s m #[Value.ref b] below meth c H locs (40 + 3 * j) (9000 + 36 * j) (lw_Z below #[Value.ref b] s) (F0 m 18 ls []) := by
  obtain ⟨hx, hb, hr, hml, hown, htsL, hX, hbl, hlocks, hgv⟩ := id C0
  have hts : ∀ w ∈ BW, w.before #[Value.ref b] s = true := fun w h => htsL w (BW_tbl w h)
  have hA : ∀ q : Nat, s.heap.size ≤ q → (fun q : Nat => s.heap.size ≤ q) q := fun _ h => h
  have hbA : ¬ (fun q : Nat => s.heap.size ≤ q) b := Nat.not_le.mpr hbl
  intro n
  induction n with
  | zero =>
    intro j C R adC adR H locs ls h1 h2
    omega
  | succ n ih =>
    intro j C R adC adR H locs ls h1 h2 hI haC haR hT hS hl
    refine lv_iload_n hx hb dL_law_18 rfl (lv_at hl 3 rfl) ?_
    refine lv_aload_n hx hb dL_law_19 rfl (lv_at hl 0 rfl) ?_
    refine va_slen hx hb hX hbl hbA hS dL_law_20 ?_
    refine lv_bipush (v := (7 : Int32)) hx hb dL_law_21 (by decide) ?_
    refine lv_isub hx hb dL_law_23 ?_
    refine lv_icmp_gt (tgt := 918) hx hb dL_law_24 (by decide) (fun c1 => ?_) (fun c1 => ?_)
    · refine va_forget hS.2.2 ?_
      refine W.widen (k := 600000) (n := 7302250) (by omega) (by omega) ?_
      refine lv_iconst (v := (1 : Int32)) hx hb dL_law_918 (by decide) ?_
      exact lw_ret hx hb hr hlocks dL_law_919
    · have hj7 : 7 * j + 7 ≤ L := law_cond hL h2 c1
      have hj : j < 512 := by omega
      have fin : ∀ (C R : Mm) (adC adR : Nat → Nat → Nat) (H : Heap) (locs : List Loc) (ls : Array Slot) (cells slots : Nat), cells ≤ 40 + 3 * j + 3 → slots ≤ 9000 + 36 * j + 36 → Inv (j + 1) C R → mA C 1 0 = true → mA R 0 0 = true → TW D cy (fun q : Nat => s.heap.size ≤ q) adC C adR R H → va_S (fun q : Nat => s.heap.size ≤ q) s.heap H locs → lv_has ls 4 [(0, .ref b), (1, .ref (adC 1 0)), (2, .ref (adR 0 0)), (3, .int (nI (7 * j)))] → W p l e room_1 s m #[Value.ref b] below meth c H locs cells slots (lw_Z below #[Value.ref b] s) (F0 m 912 ls []) := by
        intro C R adC adR H locs ls cells slots k1 k2 hI haC haR hT hS hl
        refine lv_iinc (v := nI (7 * (j + 1))) (lv' := [(3, .int (nI (7 * (j + 1)))), (0, .ref b), (1, .ref (adC 1 0)), (2, .ref (adR 0 0))]) hx hb dL_law_912 hl (k := 3) rfl (nI_add (7 * j) 7) (by decide) rfl (fun ls hl => ?_)
        refine lv_goto (tgt := 18) hx hb dL_law_915 (by decide) ?_
        refine W.widen (k := 40 + 3 * (j + 1)) (n := 9000 + 36 * (j + 1)) (by omega) (by omega) ?_
        exact ih (j + 1) C R adC adR H locs ls (by omega) (by omega) hI haC haR hT hS (lv_sub hl [1, 2, 3, 0] rfl)
      refine lv_aload_n hx hb dL_law_27 rfl (lv_at hl 0 rfl) ?_
      refine lv_iload_n hx hb dL_law_28 rfl (lv_at hl 3 rfl) ?_
      refine va_sld hx hb hX hbl hbA hS (vp_in_nI (by omega) (by omega)) dL_law_29 ?_
      refine lv_bipush (v := (31 : Int32)) hx hb dL_law_30 (by decide) ?_
      refine lv_iand hx hb dL_law_32 ?_
      refine lv_topi (fun op eop => ?_)
      by_cases hc0 : op = (0 : Int32)
      · have haC0 := haC
        refine W_topI hc0.symm ?_
        refine lv_tableIn (x := (0 : Int32)) (off := 99) (tgt := 132) hx hb dL_law_33 (by decide) (by decide) (by decide) (by decide) ?_
        obtain ⟨r, C2, R2, e1, e2, hI2⟩ := hsim.1 j C R (xs (nI (7 * j + 1)).toNatClampNeg) (xs (nI (7 * j + 2)).toNatClampNeg) hj hI
        refine lv_aload_n hx hb dL_law_132 rfl (lv_at hl 1 rfl) ?_
        refine lv_aload_n hx hb dL_law_133 rfl (lv_at hl 0 rfl) ?_
        refine lv_iload_n hx hb dL_law_134 rfl (lv_at hl 3 rfl) ?_
        refine lv_iconst (v := (1 : Int32)) hx hb dL_law_135 (by decide) ?_
        refine lv_iadd hx hb dL_law_136 ?_
        refine W_topI (nI_add (7 * j) 1).symm ?_
        refine va_sld hx hb hX hbl hbA hS (vp_in_nI (by omega) (by omega)) dL_law_137 ?_
        refine lv_aload_n hx hb dL_law_138 rfl (lv_at hl 0 rfl) ?_
        refine lv_iload_n hx hb dL_law_139 rfl (lv_at hl 3 rfl) ?_
        refine lv_iconst (v := (2 : Int32)) hx hb dL_law_140 (by decide) ?_
        refine lv_iadd hx hb dL_law_141 ?_
        refine W_topI (nI_add (7 * j) 2).symm ?_
        refine va_sld hx hb hX hbl hbA hS (vp_in_nI (by omega) (by omega)) dL_law_142 ?_
        refine tw_callia (mc := 3) (ms := 36) (va_runV (As := [.int (xs (nI (7 * j + 1)).toNatClampNeg), .int (xs (nI (7 * j + 2)).toNatClampNeg)]) (rest := []) ⟨hx, hb, hml, hown, hts⟩ (ok_X3_race l D cy adC C _ 0 (xs (nI (7 * j + 1)).toNatClampNeg) (xs (nI (7 * j + 2)).toNatClampNeg) r C2 haC e1) (cwV 2 hts (gdV q119 q120 q121 q85 q122) rfl rfl rfl (by decide +kernel) ⟨Nat.le_of_ble_eq_true rfl, Nat.le_of_ble_eq_true rfl⟩) (pre_V hT.1 hK hN haC ds_1 rfl) rfl rfl hl.1 rfl (lv_room (Nat.le_of_ble_eq_true rfl)) dL_law_143 ⟨law_room1 (k := 3) hj, law_room2 (k := 36) hj⟩) hT hS hA (fun adC2 H locs hT hS hk1 hg1 => ?_)
        have haC := hk1 _ _ haC
        have hl : lv_has ls 4 [(0, .ref b), (1, .ref (adC2 1 0)), (2, .ref (adR 0 0)), (3, .int (nI (7 * j)))] := by rw [hg1 1 0 haC0]; exact hl
        refine lv_aload_n hx hb dL_law_146 rfl (lv_at hl 2 rfl) ?_
        refine lv_aload_n hx hb dL_law_147 rfl (lv_at hl 0 rfl) ?_
        refine lv_iload_n hx hb dL_law_148 rfl (lv_at hl 3 rfl) ?_
        refine lv_iconst (v := (1 : Int32)) hx hb dL_law_149 (by decide) ?_
        refine lv_iadd hx hb dL_law_150 ?_
        refine W_topI (nI_add (7 * j) 1).symm ?_
        refine va_sld hx hb hX hbl hbA hS (vp_in_nI (by omega) (by omega)) dL_law_151 ?_
        refine lv_aload_n hx hb dL_law_152 rfl (lv_at hl 0 rfl) ?_
        refine lv_iload_n hx hb dL_law_153 rfl (lv_at hl 3 rfl) ?_
        refine lv_iconst (v := (2 : Int32)) hx hb dL_law_154 (by decide) ?_
        refine lv_iadd hx hb dL_law_155 ?_
        refine W_topI (nI_add (7 * j) 2).symm ?_
        refine va_sld hx hb hX hbl hbA hS (vp_in_nI (by omega) (by omega)) dL_law_156 ?_
        refine tw_calli (mc := 0) (ms := 0) (va_runV (As := [.int (xs (nI (7 * j + 1)).toNatClampNeg), .int (xs (nI (7 * j + 2)).toNatClampNeg)]) (rest := [.int r]) ⟨hx, hb, hml, hown, hts⟩ (ok_X4_race l D cy adR R _ 0 (xs (nI (7 * j + 1)).toNatClampNeg) (xs (nI (7 * j + 2)).toNatClampNeg) r R2 haR e2) (cwV 2 hts (gdV q704 q705 q706 q86 q707) rfl rfl rfl (by decide +kernel) ⟨Nat.le_of_ble_eq_true rfl, Nat.le_of_ble_eq_true rfl⟩) (pre_V (TW.sw hT).1 hK hN haR ds_0 rfl) rfl rfl hl.1 rfl (lv_room (Nat.le_of_ble_eq_true rfl)) dL_law_157 ⟨law_room3 (k := 3) hj, law_room4 (k := 36) hj⟩) (TW.sw hT) hS hA (fun H locs hT hS hk2 => ?_)
        have haR := hk2 _ _ haR
        refine lv_icmp_eq (tgt := 912) hx hb dL_law_160 (by decide) (fun _ => ?_) (fun c2 => absurd rfl c2)
        exact fin C2 R2 adC2 adR H locs ls _ _ (by omega) (by omega) hI2 haC haR (TW.sw hT) hS hl
      by_cases hc1 : op = (1 : Int32)
      · have haC0 := haC
        refine W_topI hc1.symm ?_
        refine lv_tableIn (x := (1 : Int32)) (off := 132) (tgt := 165) hx hb dL_law_33 (by decide) (by decide) (by decide) (by decide) ?_
        obtain ⟨r, C2, R2, e1, e2, hI2⟩ := hsim.2.1 j C R (xs (nI (7 * j + 1)).toNatClampNeg) (xs (nI (7 * j + 2)).toNatClampNeg) (xs (nI (7 * j + 3)).toNatClampNeg) (xs (nI (7 * j + 4)).toNatClampNeg) hj hI
        refine lv_aload_n hx hb dL_law_165 rfl (lv_at hl 1 rfl) ?_
        refine lv_aload_n hx hb dL_law_166 rfl (lv_at hl 0 rfl) ?_
        refine lv_iload_n hx hb dL_law_167 rfl (lv_at hl 3 rfl) ?_
        refine lv_iconst (v := (1 : Int32)) hx hb dL_law_168 (by decide) ?_
        refine lv_iadd hx hb dL_law_169 ?_
        refine W_topI (nI_add (7 * j) 1).symm ?_
        refine va_sld hx hb hX hbl hbA hS (vp_in_nI (by omega) (by omega)) dL_law_170 ?_
        refine lv_aload_n hx hb dL_law_171 rfl (lv_at hl 0 rfl) ?_
        refine lv_iload_n hx hb dL_law_172 rfl (lv_at hl 3 rfl) ?_
        refine lv_iconst (v := (2 : Int32)) hx hb dL_law_173 (by decide) ?_
        refine lv_iadd hx hb dL_law_174 ?_
        refine W_topI (nI_add (7 * j) 2).symm ?_
        refine va_sld hx hb hX hbl hbA hS (vp_in_nI (by omega) (by omega)) dL_law_175 ?_
        refine lv_aload_n hx hb dL_law_176 rfl (lv_at hl 0 rfl) ?_
        refine lv_iload_n hx hb dL_law_177 rfl (lv_at hl 3 rfl) ?_
        refine lv_iconst (v := (3 : Int32)) hx hb dL_law_178 (by decide) ?_
        refine lv_iadd hx hb dL_law_179 ?_
        refine W_topI (nI_add (7 * j) 3).symm ?_
        refine va_sld hx hb hX hbl hbA hS (vp_in_nI (by omega) (by omega)) dL_law_180 ?_
        refine lv_aload_n hx hb dL_law_181 rfl (lv_at hl 0 rfl) ?_
        refine lv_iload_n hx hb dL_law_182 rfl (lv_at hl 3 rfl) ?_
        refine lv_iconst (v := (4 : Int32)) hx hb dL_law_183 (by decide) ?_
        refine lv_iadd hx hb dL_law_184 ?_
        refine W_topI (nI_add (7 * j) 4).symm ?_
        refine va_sld hx hb hX hbl hbA hS (vp_in_nI (by omega) (by omega)) dL_law_185 ?_
        refine tw_callia (mc := 1) (ms := 17) (va_runV (As := [.int (xs (nI (7 * j + 1)).toNatClampNeg), .int (xs (nI (7 * j + 2)).toNatClampNeg), .int (xs (nI (7 * j + 3)).toNatClampNeg), .int (xs (nI (7 * j + 4)).toNatClampNeg)]) (rest := []) ⟨hx, hb, hml, hown, hts⟩ (ok_X3_pool l D cy adC C _ 0 (xs (nI (7 * j + 1)).toNatClampNeg) (xs (nI (7 * j + 2)).toNatClampNeg) (xs (nI (7 * j + 3)).toNatClampNeg) (xs (nI (7 * j + 4)).toNatClampNeg) r C2 haC e1) (cwV 4 hts (gdV q159 q160 q161 q85 q162) rfl rfl rfl (by decide +kernel) ⟨Nat.le_of_ble_eq_true rfl, Nat.le_of_ble_eq_true rfl⟩) (pre_V hT.1 hK hN haC ds_1 rfl) rfl rfl hl.1 rfl (lv_room (Nat.le_of_ble_eq_true rfl)) dL_law_186 ⟨law_room1 (k := 1) hj, law_room2 (k := 17) hj⟩) hT hS hA (fun adC2 H locs hT hS hk1 hg1 => ?_)
        have haC := hk1 _ _ haC
        have hl : lv_has ls 4 [(0, .ref b), (1, .ref (adC2 1 0)), (2, .ref (adR 0 0)), (3, .int (nI (7 * j)))] := by rw [hg1 1 0 haC0]; exact hl
        refine lv_aload_n hx hb dL_law_189 rfl (lv_at hl 2 rfl) ?_
        refine lv_aload_n hx hb dL_law_190 rfl (lv_at hl 0 rfl) ?_
        refine lv_iload_n hx hb dL_law_191 rfl (lv_at hl 3 rfl) ?_
        refine lv_iconst (v := (1 : Int32)) hx hb dL_law_192 (by decide) ?_
        refine lv_iadd hx hb dL_law_193 ?_
        refine W_topI (nI_add (7 * j) 1).symm ?_
        refine va_sld hx hb hX hbl hbA hS (vp_in_nI (by omega) (by omega)) dL_law_194 ?_
        refine lv_aload_n hx hb dL_law_195 rfl (lv_at hl 0 rfl) ?_
        refine lv_iload_n hx hb dL_law_196 rfl (lv_at hl 3 rfl) ?_
        refine lv_iconst (v := (2 : Int32)) hx hb dL_law_197 (by decide) ?_
        refine lv_iadd hx hb dL_law_198 ?_
        refine W_topI (nI_add (7 * j) 2).symm ?_
        refine va_sld hx hb hX hbl hbA hS (vp_in_nI (by omega) (by omega)) dL_law_199 ?_
        refine lv_aload_n hx hb dL_law_200 rfl (lv_at hl 0 rfl) ?_
        refine lv_iload_n hx hb dL_law_201 rfl (lv_at hl 3 rfl) ?_
        refine lv_iconst (v := (3 : Int32)) hx hb dL_law_202 (by decide) ?_
        refine lv_iadd hx hb dL_law_203 ?_
        refine W_topI (nI_add (7 * j) 3).symm ?_
        refine va_sld hx hb hX hbl hbA hS (vp_in_nI (by omega) (by omega)) dL_law_204 ?_
        refine lv_aload_n hx hb dL_law_205 rfl (lv_at hl 0 rfl) ?_
        refine lv_iload_n hx hb dL_law_206 rfl (lv_at hl 3 rfl) ?_
        refine lv_iconst (v := (4 : Int32)) hx hb dL_law_207 (by decide) ?_
        refine lv_iadd hx hb dL_law_208 ?_
        refine W_topI (nI_add (7 * j) 4).symm ?_
        refine va_sld hx hb hX hbl hbA hS (vp_in_nI (by omega) (by omega)) dL_law_209 ?_
        refine tw_calli (mc := 0) (ms := 0) (va_runV (As := [.int (xs (nI (7 * j + 1)).toNatClampNeg), .int (xs (nI (7 * j + 2)).toNatClampNeg), .int (xs (nI (7 * j + 3)).toNatClampNeg), .int (xs (nI (7 * j + 4)).toNatClampNeg)]) (rest := [.int r]) ⟨hx, hb, hml, hown, hts⟩ (ok_X4_pool l D cy adR R _ 0 (xs (nI (7 * j + 1)).toNatClampNeg) (xs (nI (7 * j + 2)).toNatClampNeg) (xs (nI (7 * j + 3)).toNatClampNeg) (xs (nI (7 * j + 4)).toNatClampNeg) r R2 haR e2) (cwV 4 hts (gdV q711 q712 q713 q86 q714) rfl rfl rfl (by decide +kernel) ⟨Nat.le_of_ble_eq_true rfl, Nat.le_of_ble_eq_true rfl⟩) (pre_V (TW.sw hT).1 hK hN haR ds_0 rfl) rfl rfl hl.1 rfl (lv_room (Nat.le_of_ble_eq_true rfl)) dL_law_210 ⟨law_room3 (k := 1) hj, law_room4 (k := 17) hj⟩) (TW.sw hT) hS hA (fun H locs hT hS hk2 => ?_)
        have haR := hk2 _ _ haR
        refine lv_icmp_eq (tgt := 912) hx hb dL_law_213 (by decide) (fun _ => ?_) (fun c2 => absurd rfl c2)
        exact fin C2 R2 adC2 adR H locs ls _ _ (by omega) (by omega) hI2 haC haR (TW.sw hT) hS hl
      by_cases hc2 : op = (2 : Int32)
      · have haC0 := haC
        refine W_topI hc2.symm ?_
        refine lv_tableIn (x := (2 : Int32)) (off := 185) (tgt := 218) hx hb dL_law_33 (by decide) (by decide) (by decide) (by decide) ?_
        obtain ⟨r, C2, R2, e1, e2, hI2⟩ := hsim.2.2.1 j C R (xs (nI (7 * j + 1)).toNatClampNeg) (xs (nI (7 * j + 2)).toNatClampNeg) (xs (nI (7 * j + 3)).toNatClampNeg) (xs (nI (7 * j + 4)).toNatClampNeg) hj hI
        refine lv_aload_n hx hb dL_law_218 rfl (lv_at hl 1 rfl) ?_
        refine lv_aload_n hx hb dL_law_219 rfl (lv_at hl 0 rfl) ?_
        refine lv_iload_n hx hb dL_law_220 rfl (lv_at hl 3 rfl) ?_
        refine lv_iconst (v := (1 : Int32)) hx hb dL_law_221 (by decide) ?_
        refine lv_iadd hx hb dL_law_222 ?_
        refine W_topI (nI_add (7 * j) 1).symm ?_
        refine va_sld hx hb hX hbl hbA hS (vp_in_nI (by omega) (by omega)) dL_law_223 ?_
        refine lv_aload_n hx hb dL_law_224 rfl (lv_at hl 0 rfl) ?_
        refine lv_iload_n hx hb dL_law_225 rfl (lv_at hl 3 rfl) ?_
        refine lv_iconst (v := (2 : Int32)) hx hb dL_law_226 (by decide) ?_
        refine lv_iadd hx hb dL_law_227 ?_
        refine W_topI (nI_add (7 * j) 2).symm ?_
        refine va_sld hx hb hX hbl hbA hS (vp_in_nI (by omega) (by omega)) dL_law_228 ?_
        refine lv_aload_n hx hb dL_law_229 rfl (lv_at hl 0 rfl) ?_
        refine lv_iload_n hx hb dL_law_230 rfl (lv_at hl 3 rfl) ?_
        refine lv_iconst (v := (3 : Int32)) hx hb dL_law_231 (by decide) ?_
        refine lv_iadd hx hb dL_law_232 ?_
        refine W_topI (nI_add (7 * j) 3).symm ?_
        refine va_sld hx hb hX hbl hbA hS (vp_in_nI (by omega) (by omega)) dL_law_233 ?_
        refine lv_aload_n hx hb dL_law_234 rfl (lv_at hl 0 rfl) ?_
        refine lv_iload_n hx hb dL_law_235 rfl (lv_at hl 3 rfl) ?_
        refine lv_iconst (v := (4 : Int32)) hx hb dL_law_236 (by decide) ?_
        refine lv_iadd hx hb dL_law_237 ?_
        refine W_topI (nI_add (7 * j) 4).symm ?_
        refine va_sld hx hb hX hbl hbA hS (vp_in_nI (by omega) (by omega)) dL_law_238 ?_
        refine tw_callia (mc := 1) (ms := 17) (va_runV (As := [.int (xs (nI (7 * j + 1)).toNatClampNeg), .int (xs (nI (7 * j + 2)).toNatClampNeg), .int (xs (nI (7 * j + 3)).toNatClampNeg), .int (xs (nI (7 * j + 4)).toNatClampNeg)]) (rest := []) ⟨hx, hb, hml, hown, hts⟩ (ok_X3_pair l D cy adC C _ 0 (xs (nI (7 * j + 1)).toNatClampNeg) (xs (nI (7 * j + 2)).toNatClampNeg) (xs (nI (7 * j + 3)).toNatClampNeg) (xs (nI (7 * j + 4)).toNatClampNeg) r C2 haC e1) (cwV 4 hts (gdV q239 q240 q241 q85 q242) rfl rfl rfl (by decide +kernel) ⟨Nat.le_of_ble_eq_true rfl, Nat.le_of_ble_eq_true rfl⟩) (pre_V hT.1 hK hN haC ds_1 rfl) rfl rfl hl.1 rfl (lv_room (Nat.le_of_ble_eq_true rfl)) dL_law_239 ⟨law_room1 (k := 1) hj, law_room2 (k := 17) hj⟩) hT hS hA (fun adC2 H locs hT hS hk1 hg1 => ?_)
        have haC := hk1 _ _ haC
        have hl : lv_has ls 4 [(0, .ref b), (1, .ref (adC2 1 0)), (2, .ref (adR 0 0)), (3, .int (nI (7 * j)))] := by rw [hg1 1 0 haC0]; exact hl
        refine lv_aload_n hx hb dL_law_242 rfl (lv_at hl 2 rfl) ?_
        refine lv_aload_n hx hb dL_law_243 rfl (lv_at hl 0 rfl) ?_
        refine lv_iload_n hx hb dL_law_244 rfl (lv_at hl 3 rfl) ?_
        refine lv_iconst (v := (1 : Int32)) hx hb dL_law_245 (by decide) ?_
        refine lv_iadd hx hb dL_law_246 ?_
        refine W_topI (nI_add (7 * j) 1).symm ?_
        refine va_sld hx hb hX hbl hbA hS (vp_in_nI (by omega) (by omega)) dL_law_247 ?_
        refine lv_aload_n hx hb dL_law_248 rfl (lv_at hl 0 rfl) ?_
        refine lv_iload_n hx hb dL_law_249 rfl (lv_at hl 3 rfl) ?_
        refine lv_iconst (v := (2 : Int32)) hx hb dL_law_250 (by decide) ?_
        refine lv_iadd hx hb dL_law_251 ?_
        refine W_topI (nI_add (7 * j) 2).symm ?_
        refine va_sld hx hb hX hbl hbA hS (vp_in_nI (by omega) (by omega)) dL_law_252 ?_
        refine lv_aload_n hx hb dL_law_253 rfl (lv_at hl 0 rfl) ?_
        refine lv_iload_n hx hb dL_law_254 rfl (lv_at hl 3 rfl) ?_
        refine lv_iconst (v := (3 : Int32)) hx hb dL_law_255 (by decide) ?_
        refine lv_iadd hx hb dL_law_256 ?_
        refine W_topI (nI_add (7 * j) 3).symm ?_
        refine va_sld hx hb hX hbl hbA hS (vp_in_nI (by omega) (by omega)) dL_law_257 ?_
        refine lv_aload_n hx hb dL_law_258 rfl (lv_at hl 0 rfl) ?_
        refine lv_iload_n hx hb dL_law_259 rfl (lv_at hl 3 rfl) ?_
        refine lv_iconst (v := (4 : Int32)) hx hb dL_law_260 (by decide) ?_
        refine lv_iadd hx hb dL_law_261 ?_
        refine W_topI (nI_add (7 * j) 4).symm ?_
        refine va_sld hx hb hX hbl hbA hS (vp_in_nI (by omega) (by omega)) dL_law_262 ?_
        refine tw_calli (mc := 0) (ms := 0) (va_runV (As := [.int (xs (nI (7 * j + 1)).toNatClampNeg), .int (xs (nI (7 * j + 2)).toNatClampNeg), .int (xs (nI (7 * j + 3)).toNatClampNeg), .int (xs (nI (7 * j + 4)).toNatClampNeg)]) (rest := [.int r]) ⟨hx, hb, hml, hown, hts⟩ (ok_X4_pair l D cy adR R _ 0 (xs (nI (7 * j + 1)).toNatClampNeg) (xs (nI (7 * j + 2)).toNatClampNeg) (xs (nI (7 * j + 3)).toNatClampNeg) (xs (nI (7 * j + 4)).toNatClampNeg) r R2 haR e2) (cwV 4 hts (gdV q726 q727 q728 q86 q729) rfl rfl rfl (by decide +kernel) ⟨Nat.le_of_ble_eq_true rfl, Nat.le_of_ble_eq_true rfl⟩) (pre_V (TW.sw hT).1 hK hN haR ds_0 rfl) rfl rfl hl.1 rfl (lv_room (Nat.le_of_ble_eq_true rfl)) dL_law_263 ⟨law_room3 (k := 1) hj, law_room4 (k := 17) hj⟩) (TW.sw hT) hS hA (fun H locs hT hS hk2 => ?_)
        have haR := hk2 _ _ haR
        refine lv_icmp_eq (tgt := 912) hx hb dL_law_266 (by decide) (fun _ => ?_) (fun c2 => absurd rfl c2)
        exact fin C2 R2 adC2 adR H locs ls _ _ (by omega) (by omega) hI2 haC haR (TW.sw hT) hS hl
      by_cases hc3 : op = (3 : Int32)
      · refine W_topI hc3.symm ?_
        refine lv_tableIn (x := (3 : Int32)) (off := 238) (tgt := 271) hx hb dL_law_33 (by decide) (by decide) (by decide) (by decide) ?_
        obtain ⟨r, C2, R2, e1, e2, hI2⟩ := hsim.2.2.2.1 j C R (xs (nI (7 * j + 1)).toNatClampNeg) (xs (nI (7 * j + 2)).toNatClampNeg) hj hI
        refine lv_aload_n hx hb dL_law_271 rfl (lv_at hl 1 rfl) ?_
        refine lv_aload_n hx hb dL_law_272 rfl (lv_at hl 0 rfl) ?_
        refine lv_iload_n hx hb dL_law_273 rfl (lv_at hl 3 rfl) ?_
        refine lv_iconst (v := (1 : Int32)) hx hb dL_law_274 (by decide) ?_
        refine lv_iadd hx hb dL_law_275 ?_
        refine W_topI (nI_add (7 * j) 1).symm ?_
        refine va_sld hx hb hX hbl hbA hS (vp_in_nI (by omega) (by omega)) dL_law_276 ?_
        refine lv_aload_n hx hb dL_law_277 rfl (lv_at hl 0 rfl) ?_
        refine lv_iload_n hx hb dL_law_278 rfl (lv_at hl 3 rfl) ?_
        refine lv_iconst (v := (2 : Int32)) hx hb dL_law_279 (by decide) ?_
        refine lv_iadd hx hb dL_law_280 ?_
        refine W_topI (nI_add (7 * j) 2).symm ?_
        refine va_sld hx hb hX hbl hbA hS (vp_in_nI (by omega) (by omega)) dL_law_281 ?_
        refine tw_calli (mc := 0) (ms := 0) (va_runV (As := [.int (xs (nI (7 * j + 1)).toNatClampNeg), .int (xs (nI (7 * j + 2)).toNatClampNeg)]) (rest := []) ⟨hx, hb, hml, hown, hts⟩ (ok_X3_substitute l D cy adC C _ 0 (xs (nI (7 * j + 1)).toNatClampNeg) (xs (nI (7 * j + 2)).toNatClampNeg) r C2 haC e1) (cwV 2 hts (gdV q243 q244 q245 q85 q246) rfl rfl rfl (by decide +kernel) ⟨Nat.le_of_ble_eq_true rfl, Nat.le_of_ble_eq_true rfl⟩) (pre_V hT.1 hK hN haC ds_1 rfl) rfl rfl hl.1 rfl (lv_room (Nat.le_of_ble_eq_true rfl)) dL_law_282 ⟨law_room1 (k := 0) hj, law_room2 (k := 0) hj⟩) hT hS hA (fun H locs hT hS hk1 => ?_)
        have haC := hk1 _ _ haC
        refine lv_aload_n hx hb dL_law_285 rfl (lv_at hl 2 rfl) ?_
        refine lv_aload_n hx hb dL_law_286 rfl (lv_at hl 0 rfl) ?_
        refine lv_iload_n hx hb dL_law_287 rfl (lv_at hl 3 rfl) ?_
        refine lv_iconst (v := (1 : Int32)) hx hb dL_law_288 (by decide) ?_
        refine lv_iadd hx hb dL_law_289 ?_
        refine W_topI (nI_add (7 * j) 1).symm ?_
        refine va_sld hx hb hX hbl hbA hS (vp_in_nI (by omega) (by omega)) dL_law_290 ?_
        refine lv_aload_n hx hb dL_law_291 rfl (lv_at hl 0 rfl) ?_
        refine lv_iload_n hx hb dL_law_292 rfl (lv_at hl 3 rfl) ?_
        refine lv_iconst (v := (2 : Int32)) hx hb dL_law_293 (by decide) ?_
        refine lv_iadd hx hb dL_law_294 ?_
        refine W_topI (nI_add (7 * j) 2).symm ?_
        refine va_sld hx hb hX hbl hbA hS (vp_in_nI (by omega) (by omega)) dL_law_295 ?_
        refine tw_calli (mc := 0) (ms := 0) (va_runV (As := [.int (xs (nI (7 * j + 1)).toNatClampNeg), .int (xs (nI (7 * j + 2)).toNatClampNeg)]) (rest := [.int r]) ⟨hx, hb, hml, hown, hts⟩ (ok_X4_substitute l D cy adR R _ 0 (xs (nI (7 * j + 1)).toNatClampNeg) (xs (nI (7 * j + 2)).toNatClampNeg) r R2 haR e2) (cwV 2 hts (gdV q730 q731 q732 q86 q733) rfl rfl rfl (by decide +kernel) ⟨Nat.le_of_ble_eq_true rfl, Nat.le_of_ble_eq_true rfl⟩) (pre_V (TW.sw hT).1 hK hN haR ds_0 rfl) rfl rfl hl.1 rfl (lv_room (Nat.le_of_ble_eq_true rfl)) dL_law_296 ⟨law_room3 (k := 0) hj, law_room4 (k := 0) hj⟩) (TW.sw hT) hS hA (fun H locs hT hS hk2 => ?_)
        have haR := hk2 _ _ haR
        refine lv_icmp_eq (tgt := 912) hx hb dL_law_299 (by decide) (fun _ => ?_) (fun c2 => absurd rfl c2)
        exact fin C2 R2 adC adR H locs ls _ _ (by omega) (by omega) hI2 haC haR (TW.sw hT) hS hl
      by_cases hc4 : op = (4 : Int32)
      · have haC0 := haC
        refine W_topI hc4.symm ?_
        refine lv_tableIn (x := (4 : Int32)) (off := 271) (tgt := 304) hx hb dL_law_33 (by decide) (by decide) (by decide) (by decide) ?_
        obtain ⟨r, C2, R2, e1, e2, hI2⟩ := hsim.2.2.2.2.1 j C R (xs (nI (7 * j + 1)).toNatClampNeg) (xs (nI (7 * j + 2)).toNatClampNeg) (xs (nI (7 * j + 3)).toNatClampNeg) (xs (nI (7 * j + 4)).toNatClampNeg) (xs (nI (7 * j + 5)).toNatClampNeg) (xs (nI (7 * j + 6)).toNatClampNeg) hj hI
        refine lv_aload_n hx hb dL_law_304 rfl (lv_at hl 1 rfl) ?_
        refine lv_aload_n hx hb dL_law_305 rfl (lv_at hl 0 rfl) ?_
        refine lv_iload_n hx hb dL_law_306 rfl (lv_at hl 3 rfl) ?_
        refine lv_iconst (v := (1 : Int32)) hx hb dL_law_307 (by decide) ?_
        refine lv_iadd hx hb dL_law_308 ?_
        refine W_topI (nI_add (7 * j) 1).symm ?_
        refine va_sld hx hb hX hbl hbA hS (vp_in_nI (by omega) (by omega)) dL_law_309 ?_
        refine lv_aload_n hx hb dL_law_310 rfl (lv_at hl 0 rfl) ?_
        refine lv_iload_n hx hb dL_law_311 rfl (lv_at hl 3 rfl) ?_
        refine lv_iconst (v := (2 : Int32)) hx hb dL_law_312 (by decide) ?_
        refine lv_iadd hx hb dL_law_313 ?_
        refine W_topI (nI_add (7 * j) 2).symm ?_
        refine va_sld hx hb hX hbl hbA hS (vp_in_nI (by omega) (by omega)) dL_law_314 ?_
        refine lv_aload_n hx hb dL_law_315 rfl (lv_at hl 0 rfl) ?_
        refine lv_iload_n hx hb dL_law_316 rfl (lv_at hl 3 rfl) ?_
        refine lv_iconst (v := (3 : Int32)) hx hb dL_law_317 (by decide) ?_
        refine lv_iadd hx hb dL_law_318 ?_
        refine W_topI (nI_add (7 * j) 3).symm ?_
        refine va_sld hx hb hX hbl hbA hS (vp_in_nI (by omega) (by omega)) dL_law_319 ?_
        refine lv_aload_n hx hb dL_law_320 rfl (lv_at hl 0 rfl) ?_
        refine lv_iload_n hx hb dL_law_321 rfl (lv_at hl 3 rfl) ?_
        refine lv_iconst (v := (4 : Int32)) hx hb dL_law_322 (by decide) ?_
        refine lv_iadd hx hb dL_law_323 ?_
        refine W_topI (nI_add (7 * j) 4).symm ?_
        refine va_sld hx hb hX hbl hbA hS (vp_in_nI (by omega) (by omega)) dL_law_324 ?_
        refine lv_aload_n hx hb dL_law_325 rfl (lv_at hl 0 rfl) ?_
        refine lv_iload_n hx hb dL_law_326 rfl (lv_at hl 3 rfl) ?_
        refine lv_iconst (v := (5 : Int32)) hx hb dL_law_327 (by decide) ?_
        refine lv_iadd hx hb dL_law_328 ?_
        refine W_topI (nI_add (7 * j) 5).symm ?_
        refine va_sld hx hb hX hbl hbA hS (vp_in_nI (by omega) (by omega)) dL_law_329 ?_
        refine lv_aload_n hx hb dL_law_330 rfl (lv_at hl 0 rfl) ?_
        refine lv_iload_n hx hb dL_law_331 rfl (lv_at hl 3 rfl) ?_
        refine lv_bipush (v := (6 : Int32)) hx hb dL_law_332 (by decide) ?_
        refine lv_iadd hx hb dL_law_334 ?_
        refine W_topI (nI_add (7 * j) 6).symm ?_
        refine va_sld hx hb hX hbl hbA hS (vp_in_nI (by omega) (by omega)) dL_law_335 ?_
        refine tw_callia (mc := 1) (ms := 7) (va_runV (As := [.int (xs (nI (7 * j + 1)).toNatClampNeg), .int (xs (nI (7 * j + 2)).toNatClampNeg), .int (xs (nI (7 * j + 3)).toNatClampNeg), .int (xs (nI (7 * j + 4)).toNatClampNeg), .int (xs (nI (7 * j + 5)).toNatClampNeg), .int (xs (nI (7 * j + 6)).toNatClampNeg)]) (rest := []) ⟨hx, hb, hml, hown, hts⟩ (ok_X3_sell l D cy adC C _ 0 (xs (nI (7 * j + 1)).toNatClampNeg) (xs (nI (7 * j + 2)).toNatClampNeg) (xs (nI (7 * j + 3)).toNatClampNeg) (xs (nI (7 * j + 4)).toNatClampNeg) (xs (nI (7 * j + 5)).toNatClampNeg) (xs (nI (7 * j + 6)).toNatClampNeg) r C2 haC e1) (cwV 6 hts (gdV q263 q264 q265 q85 q266) rfl rfl rfl (by decide +kernel) ⟨Nat.le_of_ble_eq_true rfl, Nat.le_of_ble_eq_true rfl⟩) (pre_V hT.1 hK hN haC ds_1 rfl) rfl rfl hl.1 rfl (lv_room (Nat.le_of_ble_eq_true rfl)) dL_law_336 ⟨law_room1 (k := 1) hj, law_room2 (k := 7) hj⟩) hT hS hA (fun adC2 H locs hT hS hk1 hg1 => ?_)
        have haC := hk1 _ _ haC
        have hl : lv_has ls 4 [(0, .ref b), (1, .ref (adC2 1 0)), (2, .ref (adR 0 0)), (3, .int (nI (7 * j)))] := by rw [hg1 1 0 haC0]; exact hl
        refine lv_aload_n hx hb dL_law_339 rfl (lv_at hl 2 rfl) ?_
        refine lv_aload_n hx hb dL_law_340 rfl (lv_at hl 0 rfl) ?_
        refine lv_iload_n hx hb dL_law_341 rfl (lv_at hl 3 rfl) ?_
        refine lv_iconst (v := (1 : Int32)) hx hb dL_law_342 (by decide) ?_
        refine lv_iadd hx hb dL_law_343 ?_
        refine W_topI (nI_add (7 * j) 1).symm ?_
        refine va_sld hx hb hX hbl hbA hS (vp_in_nI (by omega) (by omega)) dL_law_344 ?_
        refine lv_aload_n hx hb dL_law_345 rfl (lv_at hl 0 rfl) ?_
        refine lv_iload_n hx hb dL_law_346 rfl (lv_at hl 3 rfl) ?_
        refine lv_iconst (v := (2 : Int32)) hx hb dL_law_347 (by decide) ?_
        refine lv_iadd hx hb dL_law_348 ?_
        refine W_topI (nI_add (7 * j) 2).symm ?_
        refine va_sld hx hb hX hbl hbA hS (vp_in_nI (by omega) (by omega)) dL_law_349 ?_
        refine lv_aload_n hx hb dL_law_350 rfl (lv_at hl 0 rfl) ?_
        refine lv_iload_n hx hb dL_law_351 rfl (lv_at hl 3 rfl) ?_
        refine lv_iconst (v := (3 : Int32)) hx hb dL_law_352 (by decide) ?_
        refine lv_iadd hx hb dL_law_353 ?_
        refine W_topI (nI_add (7 * j) 3).symm ?_
        refine va_sld hx hb hX hbl hbA hS (vp_in_nI (by omega) (by omega)) dL_law_354 ?_
        refine lv_aload_n hx hb dL_law_355 rfl (lv_at hl 0 rfl) ?_
        refine lv_iload_n hx hb dL_law_356 rfl (lv_at hl 3 rfl) ?_
        refine lv_iconst (v := (4 : Int32)) hx hb dL_law_357 (by decide) ?_
        refine lv_iadd hx hb dL_law_358 ?_
        refine W_topI (nI_add (7 * j) 4).symm ?_
        refine va_sld hx hb hX hbl hbA hS (vp_in_nI (by omega) (by omega)) dL_law_359 ?_
        refine lv_aload_n hx hb dL_law_360 rfl (lv_at hl 0 rfl) ?_
        refine lv_iload_n hx hb dL_law_361 rfl (lv_at hl 3 rfl) ?_
        refine lv_iconst (v := (5 : Int32)) hx hb dL_law_362 (by decide) ?_
        refine lv_iadd hx hb dL_law_363 ?_
        refine W_topI (nI_add (7 * j) 5).symm ?_
        refine va_sld hx hb hX hbl hbA hS (vp_in_nI (by omega) (by omega)) dL_law_364 ?_
        refine lv_aload_n hx hb dL_law_365 rfl (lv_at hl 0 rfl) ?_
        refine lv_iload_n hx hb dL_law_366 rfl (lv_at hl 3 rfl) ?_
        refine lv_bipush (v := (6 : Int32)) hx hb dL_law_367 (by decide) ?_
        refine lv_iadd hx hb dL_law_369 ?_
        refine W_topI (nI_add (7 * j) 6).symm ?_
        refine va_sld hx hb hX hbl hbA hS (vp_in_nI (by omega) (by omega)) dL_law_370 ?_
        refine tw_calli (mc := 0) (ms := 0) (va_runV (As := [.int (xs (nI (7 * j + 1)).toNatClampNeg), .int (xs (nI (7 * j + 2)).toNatClampNeg), .int (xs (nI (7 * j + 3)).toNatClampNeg), .int (xs (nI (7 * j + 4)).toNatClampNeg), .int (xs (nI (7 * j + 5)).toNatClampNeg), .int (xs (nI (7 * j + 6)).toNatClampNeg)]) (rest := [.int r]) ⟨hx, hb, hml, hown, hts⟩ (ok_X4_sell l D cy adR R _ 0 (xs (nI (7 * j + 1)).toNatClampNeg) (xs (nI (7 * j + 2)).toNatClampNeg) (xs (nI (7 * j + 3)).toNatClampNeg) (xs (nI (7 * j + 4)).toNatClampNeg) (xs (nI (7 * j + 5)).toNatClampNeg) (xs (nI (7 * j + 6)).toNatClampNeg) r R2 haR e2) (cwV 6 hts (gdV q742 q743 q744 q86 q745) rfl rfl rfl (by decide +kernel) ⟨Nat.le_of_ble_eq_true rfl, Nat.le_of_ble_eq_true rfl⟩) (pre_V (TW.sw hT).1 hK hN haR ds_0 rfl) rfl rfl hl.1 rfl (lv_room (Nat.le_of_ble_eq_true rfl)) dL_law_371 ⟨law_room3 (k := 1) hj, law_room4 (k := 7) hj⟩) (TW.sw hT) hS hA (fun H locs hT hS hk2 => ?_)
        have haR := hk2 _ _ haR
        refine lv_icmp_eq (tgt := 912) hx hb dL_law_374 (by decide) (fun _ => ?_) (fun c2 => absurd rfl c2)
        exact fin C2 R2 adC2 adR H locs ls _ _ (by omega) (by omega) hI2 haC haR (TW.sw hT) hS hl
      by_cases hc5 : op = (5 : Int32)
      · refine W_topI hc5.symm ?_
        refine lv_tableIn (x := (5 : Int32)) (off := 346) (tgt := 379) hx hb dL_law_33 (by decide) (by decide) (by decide) (by decide) ?_
        obtain ⟨r, C2, R2, e1, e2, hI2⟩ := hsim.2.2.2.2.2.1 j C R (xs (nI (7 * j + 1)).toNatClampNeg) hj hI
        refine lv_aload_n hx hb dL_law_379 rfl (lv_at hl 1 rfl) ?_
        refine lv_aload_n hx hb dL_law_380 rfl (lv_at hl 0 rfl) ?_
        refine lv_iload_n hx hb dL_law_381 rfl (lv_at hl 3 rfl) ?_
        refine lv_iconst (v := (1 : Int32)) hx hb dL_law_382 (by decide) ?_
        refine lv_iadd hx hb dL_law_383 ?_
        refine W_topI (nI_add (7 * j) 1).symm ?_
        refine va_sld hx hb hX hbl hbA hS (vp_in_nI (by omega) (by omega)) dL_law_384 ?_
        refine tw_calli (mc := 0) (ms := 0) (va_runV (As := [.int (xs (nI (7 * j + 1)).toNatClampNeg)]) (rest := []) ⟨hx, hb, hml, hown, hts⟩ (ok_X3_cancel l D cy adC C _ 0 (xs (nI (7 * j + 1)).toNatClampNeg) r C2 haC e1) (cwV 1 hts (gdV q341 q342 q343 q85 q344) rfl rfl rfl (by decide +kernel) ⟨Nat.le_of_ble_eq_true rfl, Nat.le_of_ble_eq_true rfl⟩) (pre_V hT.1 hK hN haC ds_1 rfl) rfl rfl hl.1 rfl (lv_room (Nat.le_of_ble_eq_true rfl)) dL_law_385 ⟨law_room1 (k := 0) hj, law_room2 (k := 0) hj⟩) hT hS hA (fun H locs hT hS hk1 => ?_)
        have haC := hk1 _ _ haC
        refine lv_aload_n hx hb dL_law_388 rfl (lv_at hl 2 rfl) ?_
        refine lv_aload_n hx hb dL_law_389 rfl (lv_at hl 0 rfl) ?_
        refine lv_iload_n hx hb dL_law_390 rfl (lv_at hl 3 rfl) ?_
        refine lv_iconst (v := (1 : Int32)) hx hb dL_law_391 (by decide) ?_
        refine lv_iadd hx hb dL_law_392 ?_
        refine W_topI (nI_add (7 * j) 1).symm ?_
        refine va_sld hx hb hX hbl hbA hS (vp_in_nI (by omega) (by omega)) dL_law_393 ?_
        refine tw_calli (mc := 0) (ms := 0) (va_runV (As := [.int (xs (nI (7 * j + 1)).toNatClampNeg)]) (rest := [.int r]) ⟨hx, hb, hml, hown, hts⟩ (ok_X4_cancel l D cy adR R _ 0 (xs (nI (7 * j + 1)).toNatClampNeg) r R2 haR e2) (cwV 1 hts (gdV q772 q773 q774 q86 q775) rfl rfl rfl (by decide +kernel) ⟨Nat.le_of_ble_eq_true rfl, Nat.le_of_ble_eq_true rfl⟩) (pre_V (TW.sw hT).1 hK hN haR ds_0 rfl) rfl rfl hl.1 rfl (lv_room (Nat.le_of_ble_eq_true rfl)) dL_law_394 ⟨law_room3 (k := 0) hj, law_room4 (k := 0) hj⟩) (TW.sw hT) hS hA (fun H locs hT hS hk2 => ?_)
        have haR := hk2 _ _ haR
        refine lv_icmp_eq (tgt := 912) hx hb dL_law_397 (by decide) (fun _ => ?_) (fun c2 => absurd rfl c2)
        exact fin C2 R2 adC adR H locs ls _ _ (by omega) (by omega) hI2 haC haR (TW.sw hT) hS hl
      by_cases hc6 : op = (6 : Int32)
      · refine W_topI hc6.symm ?_
        refine lv_tableIn (x := (6 : Int32)) (off := 369) (tgt := 402) hx hb dL_law_33 (by decide) (by decide) (by decide) (by decide) ?_
        obtain ⟨r, C2, R2, e1, e2, hI2⟩ := hsim.2.2.2.2.2.2.1 j C R (xs (nI (7 * j + 1)).toNatClampNeg) (xs (nI (7 * j + 2)).toNatClampNeg) hj hI
        refine lv_aload_n hx hb dL_law_402 rfl (lv_at hl 1 rfl) ?_
        refine lv_aload_n hx hb dL_law_403 rfl (lv_at hl 0 rfl) ?_
        refine lv_iload_n hx hb dL_law_404 rfl (lv_at hl 3 rfl) ?_
        refine lv_iconst (v := (1 : Int32)) hx hb dL_law_405 (by decide) ?_
        refine lv_iadd hx hb dL_law_406 ?_
        refine W_topI (nI_add (7 * j) 1).symm ?_
        refine va_sld hx hb hX hbl hbA hS (vp_in_nI (by omega) (by omega)) dL_law_407 ?_
        refine lv_aload_n hx hb dL_law_408 rfl (lv_at hl 0 rfl) ?_
        refine lv_iload_n hx hb dL_law_409 rfl (lv_at hl 3 rfl) ?_
        refine lv_iconst (v := (2 : Int32)) hx hb dL_law_410 (by decide) ?_
        refine lv_iadd hx hb dL_law_411 ?_
        refine W_topI (nI_add (7 * j) 2).symm ?_
        refine va_sld hx hb hX hbl hbA hS (vp_in_nI (by omega) (by omega)) dL_law_412 ?_
        refine tw_calli (mc := 0) (ms := 0) (va_runV (As := [.int (xs (nI (7 * j + 1)).toNatClampNeg), .int (xs (nI (7 * j + 2)).toNatClampNeg)]) (rest := []) ⟨hx, hb, hml, hown, hts⟩ (ok_X3_scratch l D cy adC C _ 0 (xs (nI (7 * j + 1)).toNatClampNeg) (xs (nI (7 * j + 2)).toNatClampNeg) r C2 haC e1) (cwV 2 hts (gdV q392 q393 q394 q85 q395) rfl rfl rfl (by decide +kernel) ⟨Nat.le_of_ble_eq_true rfl, Nat.le_of_ble_eq_true rfl⟩) (pre_V hT.1 hK hN haC ds_1 rfl) rfl rfl hl.1 rfl (lv_room (Nat.le_of_ble_eq_true rfl)) dL_law_413 ⟨law_room1 (k := 0) hj, law_room2 (k := 0) hj⟩) hT hS hA (fun H locs hT hS hk1 => ?_)
        have haC := hk1 _ _ haC
        refine lv_aload_n hx hb dL_law_416 rfl (lv_at hl 2 rfl) ?_
        refine lv_aload_n hx hb dL_law_417 rfl (lv_at hl 0 rfl) ?_
        refine lv_iload_n hx hb dL_law_418 rfl (lv_at hl 3 rfl) ?_
        refine lv_iconst (v := (1 : Int32)) hx hb dL_law_419 (by decide) ?_
        refine lv_iadd hx hb dL_law_420 ?_
        refine W_topI (nI_add (7 * j) 1).symm ?_
        refine va_sld hx hb hX hbl hbA hS (vp_in_nI (by omega) (by omega)) dL_law_421 ?_
        refine lv_aload_n hx hb dL_law_422 rfl (lv_at hl 0 rfl) ?_
        refine lv_iload_n hx hb dL_law_423 rfl (lv_at hl 3 rfl) ?_
        refine lv_iconst (v := (2 : Int32)) hx hb dL_law_424 (by decide) ?_
        refine lv_iadd hx hb dL_law_425 ?_
        refine W_topI (nI_add (7 * j) 2).symm ?_
        refine va_sld hx hb hX hbl hbA hS (vp_in_nI (by omega) (by omega)) dL_law_426 ?_
        refine tw_calli (mc := 0) (ms := 0) (va_runV (As := [.int (xs (nI (7 * j + 1)).toNatClampNeg), .int (xs (nI (7 * j + 2)).toNatClampNeg)]) (rest := [.int r]) ⟨hx, hb, hml, hown, hts⟩ (ok_X4_scratch l D cy adR R _ 0 (xs (nI (7 * j + 1)).toNatClampNeg) (xs (nI (7 * j + 2)).toNatClampNeg) r R2 haR e2) (cwV 2 hts (gdV q780 q781 q782 q86 q783) rfl rfl rfl (by decide +kernel) ⟨Nat.le_of_ble_eq_true rfl, Nat.le_of_ble_eq_true rfl⟩) (pre_V (TW.sw hT).1 hK hN haR ds_0 rfl) rfl rfl hl.1 rfl (lv_room (Nat.le_of_ble_eq_true rfl)) dL_law_427 ⟨law_room3 (k := 0) hj, law_room4 (k := 0) hj⟩) (TW.sw hT) hS hA (fun H locs hT hS hk2 => ?_)
        have haR := hk2 _ _ haR
        refine lv_icmp_eq (tgt := 912) hx hb dL_law_430 (by decide) (fun _ => ?_) (fun c2 => absurd rfl c2)
        exact fin C2 R2 adC adR H locs ls _ _ (by omega) (by omega) hI2 haC haR (TW.sw hT) hS hl
      by_cases hc7 : op = (7 : Int32)
      · refine W_topI hc7.symm ?_
        refine lv_tableIn (x := (7 : Int32)) (off := 402) (tgt := 435) hx hb dL_law_33 (by decide) (by decide) (by decide) (by decide) ?_
        obtain ⟨r, C2, R2, e1, e2, hI2⟩ := hsim.2.2.2.2.2.2.2.1 j C R (xs (nI (7 * j + 1)).toNatClampNeg) hj hI
        refine lv_aload_n hx hb dL_law_435 rfl (lv_at hl 1 rfl) ?_
        refine lv_aload_n hx hb dL_law_436 rfl (lv_at hl 0 rfl) ?_
        refine lv_iload_n hx hb dL_law_437 rfl (lv_at hl 3 rfl) ?_
        refine lv_iconst (v := (1 : Int32)) hx hb dL_law_438 (by decide) ?_
        refine lv_iadd hx hb dL_law_439 ?_
        refine W_topI (nI_add (7 * j) 1).symm ?_
        refine va_sld hx hb hX hbl hbA hS (vp_in_nI (by omega) (by omega)) dL_law_440 ?_
        refine tw_calli (mc := 0) (ms := 0) (va_runV (As := [.int (xs (nI (7 * j + 1)).toNatClampNeg)]) (rest := []) ⟨hx, hb, hml, hown, hts⟩ (ok_X3_off l D cy adC C _ 0 (xs (nI (7 * j + 1)).toNatClampNeg) r C2 haC e1) (cwV 1 hts (gdV q412 q413 q414 q85 q415) rfl rfl rfl (by decide +kernel) ⟨Nat.le_of_ble_eq_true rfl, Nat.le_of_ble_eq_true rfl⟩) (pre_V hT.1 hK hN haC ds_1 rfl) rfl rfl hl.1 rfl (lv_room (Nat.le_of_ble_eq_true rfl)) dL_law_441 ⟨law_room1 (k := 0) hj, law_room2 (k := 0) hj⟩) hT hS hA (fun H locs hT hS hk1 => ?_)
        have haC := hk1 _ _ haC
        refine lv_aload_n hx hb dL_law_444 rfl (lv_at hl 2 rfl) ?_
        refine lv_aload_n hx hb dL_law_445 rfl (lv_at hl 0 rfl) ?_
        refine lv_iload_n hx hb dL_law_446 rfl (lv_at hl 3 rfl) ?_
        refine lv_iconst (v := (1 : Int32)) hx hb dL_law_447 (by decide) ?_
        refine lv_iadd hx hb dL_law_448 ?_
        refine W_topI (nI_add (7 * j) 1).symm ?_
        refine va_sld hx hb hX hbl hbA hS (vp_in_nI (by omega) (by omega)) dL_law_449 ?_
        refine tw_calli (mc := 0) (ms := 0) (va_runV (As := [.int (xs (nI (7 * j + 1)).toNatClampNeg)]) (rest := [.int r]) ⟨hx, hb, hml, hown, hts⟩ (ok_X4_off l D cy adR R _ 0 (xs (nI (7 * j + 1)).toNatClampNeg) r R2 haR e2) (cwV 1 hts (gdV q788 q789 q790 q86 q791) rfl rfl rfl (by decide +kernel) ⟨Nat.le_of_ble_eq_true rfl, Nat.le_of_ble_eq_true rfl⟩) (pre_V (TW.sw hT).1 hK hN haR ds_0 rfl) rfl rfl hl.1 rfl (lv_room (Nat.le_of_ble_eq_true rfl)) dL_law_450 ⟨law_room3 (k := 0) hj, law_room4 (k := 0) hj⟩) (TW.sw hT) hS hA (fun H locs hT hS hk2 => ?_)
        have haR := hk2 _ _ haR
        refine lv_icmp_eq (tgt := 912) hx hb dL_law_453 (by decide) (fun _ => ?_) (fun c2 => absurd rfl c2)
        exact fin C2 R2 adC adR H locs ls _ _ (by omega) (by omega) hI2 haC haR (TW.sw hT) hS hl
      by_cases hc8 : op = (8 : Int32)
      · refine W_topI hc8.symm ?_
        refine lv_tableIn (x := (8 : Int32)) (off := 425) (tgt := 458) hx hb dL_law_33 (by decide) (by decide) (by decide) (by decide) ?_
        obtain ⟨r, C2, R2, e1, e2, hI2⟩ := hsim.2.2.2.2.2.2.2.2.1 j C R (xs (nI (7 * j + 1)).toNatClampNeg) (xs (nI (7 * j + 2)).toNatClampNeg) (xs (nI (7 * j + 3)).toNatClampNeg) hj hI
        refine lv_aload_n hx hb dL_law_458 rfl (lv_at hl 1 rfl) ?_
        refine lv_aload_n hx hb dL_law_459 rfl (lv_at hl 0 rfl) ?_
        refine lv_iload_n hx hb dL_law_460 rfl (lv_at hl 3 rfl) ?_
        refine lv_iconst (v := (1 : Int32)) hx hb dL_law_461 (by decide) ?_
        refine lv_iadd hx hb dL_law_462 ?_
        refine W_topI (nI_add (7 * j) 1).symm ?_
        refine va_sld hx hb hX hbl hbA hS (vp_in_nI (by omega) (by omega)) dL_law_463 ?_
        refine lv_aload_n hx hb dL_law_464 rfl (lv_at hl 0 rfl) ?_
        refine lv_iload_n hx hb dL_law_465 rfl (lv_at hl 3 rfl) ?_
        refine lv_iconst (v := (2 : Int32)) hx hb dL_law_466 (by decide) ?_
        refine lv_iadd hx hb dL_law_467 ?_
        refine W_topI (nI_add (7 * j) 2).symm ?_
        refine va_sld hx hb hX hbl hbA hS (vp_in_nI (by omega) (by omega)) dL_law_468 ?_
        refine lv_aload_n hx hb dL_law_469 rfl (lv_at hl 0 rfl) ?_
        refine lv_iload_n hx hb dL_law_470 rfl (lv_at hl 3 rfl) ?_
        refine lv_iconst (v := (3 : Int32)) hx hb dL_law_471 (by decide) ?_
        refine lv_iadd hx hb dL_law_472 ?_
        refine W_topI (nI_add (7 * j) 3).symm ?_
        refine va_sld hx hb hX hbl hbA hS (vp_in_nI (by omega) (by omega)) dL_law_473 ?_
        refine tw_calli (mc := 0) (ms := 0) (va_runV (As := [.int (xs (nI (7 * j + 1)).toNatClampNeg), .int (xs (nI (7 * j + 2)).toNatClampNeg), .int (xs (nI (7 * j + 3)).toNatClampNeg)]) (rest := []) ⟨hx, hb, hml, hown, hts⟩ (ok_X3_place l D cy adC C _ 0 (xs (nI (7 * j + 1)).toNatClampNeg) (xs (nI (7 * j + 2)).toNatClampNeg) (xs (nI (7 * j + 3)).toNatClampNeg) r C2 haC e1) (cwV 3 hts (gdV q416 q417 q418 q85 q419) rfl rfl rfl (by decide +kernel) ⟨Nat.le_of_ble_eq_true rfl, Nat.le_of_ble_eq_true rfl⟩) (pre_V hT.1 hK hN haC ds_1 rfl) rfl rfl hl.1 rfl (lv_room (Nat.le_of_ble_eq_true rfl)) dL_law_474 ⟨law_room1 (k := 0) hj, law_room2 (k := 0) hj⟩) hT hS hA (fun H locs hT hS hk1 => ?_)
        have haC := hk1 _ _ haC
        refine lv_aload_n hx hb dL_law_477 rfl (lv_at hl 2 rfl) ?_
        refine lv_aload_n hx hb dL_law_478 rfl (lv_at hl 0 rfl) ?_
        refine lv_iload_n hx hb dL_law_479 rfl (lv_at hl 3 rfl) ?_
        refine lv_iconst (v := (1 : Int32)) hx hb dL_law_480 (by decide) ?_
        refine lv_iadd hx hb dL_law_481 ?_
        refine W_topI (nI_add (7 * j) 1).symm ?_
        refine va_sld hx hb hX hbl hbA hS (vp_in_nI (by omega) (by omega)) dL_law_482 ?_
        refine lv_aload_n hx hb dL_law_483 rfl (lv_at hl 0 rfl) ?_
        refine lv_iload_n hx hb dL_law_484 rfl (lv_at hl 3 rfl) ?_
        refine lv_iconst (v := (2 : Int32)) hx hb dL_law_485 (by decide) ?_
        refine lv_iadd hx hb dL_law_486 ?_
        refine W_topI (nI_add (7 * j) 2).symm ?_
        refine va_sld hx hb hX hbl hbA hS (vp_in_nI (by omega) (by omega)) dL_law_487 ?_
        refine lv_aload_n hx hb dL_law_488 rfl (lv_at hl 0 rfl) ?_
        refine lv_iload_n hx hb dL_law_489 rfl (lv_at hl 3 rfl) ?_
        refine lv_iconst (v := (3 : Int32)) hx hb dL_law_490 (by decide) ?_
        refine lv_iadd hx hb dL_law_491 ?_
        refine W_topI (nI_add (7 * j) 3).symm ?_
        refine va_sld hx hb hX hbl hbA hS (vp_in_nI (by omega) (by omega)) dL_law_492 ?_
        refine tw_calli (mc := 0) (ms := 0) (va_runV (As := [.int (xs (nI (7 * j + 1)).toNatClampNeg), .int (xs (nI (7 * j + 2)).toNatClampNeg), .int (xs (nI (7 * j + 3)).toNatClampNeg)]) (rest := [.int r]) ⟨hx, hb, hml, hown, hts⟩ (ok_X4_place l D cy adR R _ 0 (xs (nI (7 * j + 1)).toNatClampNeg) (xs (nI (7 * j + 2)).toNatClampNeg) (xs (nI (7 * j + 3)).toNatClampNeg) r R2 haR e2) (cwV 3 hts (gdV q792 q793 q794 q86 q795) rfl rfl rfl (by decide +kernel) ⟨Nat.le_of_ble_eq_true rfl, Nat.le_of_ble_eq_true rfl⟩) (pre_V (TW.sw hT).1 hK hN haR ds_0 rfl) rfl rfl hl.1 rfl (lv_room (Nat.le_of_ble_eq_true rfl)) dL_law_493 ⟨law_room3 (k := 0) hj, law_room4 (k := 0) hj⟩) (TW.sw hT) hS hA (fun H locs hT hS hk2 => ?_)
        have haR := hk2 _ _ haR
        refine lv_icmp_eq (tgt := 912) hx hb dL_law_496 (by decide) (fun _ => ?_) (fun c2 => absurd rfl c2)
        exact fin C2 R2 adC adR H locs ls _ _ (by omega) (by omega) hI2 haC haR (TW.sw hT) hS hl
      by_cases hc9 : op = (9 : Int32)
      · refine W_topI hc9.symm ?_
        refine lv_tableIn (x := (9 : Int32)) (off := 468) (tgt := 501) hx hb dL_law_33 (by decide) (by decide) (by decide) (by decide) ?_
        obtain ⟨r, C2, R2, e1, e2, hI2⟩ := hsim.2.2.2.2.2.2.2.2.2.1 j C R (xs (nI (7 * j + 1)).toNatClampNeg) hj hI
        refine lv_aload_n hx hb dL_law_501 rfl (lv_at hl 1 rfl) ?_
        refine lv_aload_n hx hb dL_law_502 rfl (lv_at hl 0 rfl) ?_
        refine lv_iload_n hx hb dL_law_503 rfl (lv_at hl 3 rfl) ?_
        refine lv_iconst (v := (1 : Int32)) hx hb dL_law_504 (by decide) ?_
        refine lv_iadd hx hb dL_law_505 ?_
        refine W_topI (nI_add (7 * j) 1).symm ?_
        refine va_sld hx hb hX hbl hbA hS (vp_in_nI (by omega) (by omega)) dL_law_506 ?_
        refine tw_calli (mc := 0) (ms := 0) (va_runV (As := [.int (xs (nI (7 * j + 1)).toNatClampNeg)]) (rest := []) ⟨hx, hb, hml, hown, hts⟩ (ok_X3_official l D cy adC C _ 0 (xs (nI (7 * j + 1)).toNatClampNeg) r C2 haC e1) (cwV 1 hts (gdV q421 q422 q423 q85 q424) rfl rfl rfl (by decide +kernel) ⟨Nat.le_of_ble_eq_true rfl, Nat.le_of_ble_eq_true rfl⟩) (pre_V hT.1 hK hN haC ds_1 rfl) rfl rfl hl.1 rfl (lv_room (Nat.le_of_ble_eq_true rfl)) dL_law_507 ⟨law_room1 (k := 0) hj, law_room2 (k := 0) hj⟩) hT hS hA (fun H locs hT hS hk1 => ?_)
        have haC := hk1 _ _ haC
        refine lv_aload_n hx hb dL_law_510 rfl (lv_at hl 2 rfl) ?_
        refine lv_aload_n hx hb dL_law_511 rfl (lv_at hl 0 rfl) ?_
        refine lv_iload_n hx hb dL_law_512 rfl (lv_at hl 3 rfl) ?_
        refine lv_iconst (v := (1 : Int32)) hx hb dL_law_513 (by decide) ?_
        refine lv_iadd hx hb dL_law_514 ?_
        refine W_topI (nI_add (7 * j) 1).symm ?_
        refine va_sld hx hb hX hbl hbA hS (vp_in_nI (by omega) (by omega)) dL_law_515 ?_
        refine tw_calli (mc := 0) (ms := 0) (va_runV (As := [.int (xs (nI (7 * j + 1)).toNatClampNeg)]) (rest := [.int r]) ⟨hx, hb, hml, hown, hts⟩ (ok_X4_official l D cy adR R _ 0 (xs (nI (7 * j + 1)).toNatClampNeg) r R2 haR e2) (cwV 1 hts (gdV q796 q797 q798 q86 q799) rfl rfl rfl (by decide +kernel) ⟨Nat.le_of_ble_eq_true rfl, Nat.le_of_ble_eq_true rfl⟩) (pre_V (TW.sw hT).1 hK hN haR ds_0 rfl) rfl rfl hl.1 rfl (lv_room (Nat.le_of_ble_eq_true rfl)) dL_law_516 ⟨law_room3 (k := 0) hj, law_room4 (k := 0) hj⟩) (TW.sw hT) hS hA (fun H locs hT hS hk2 => ?_)
        have haR := hk2 _ _ haR
        refine lv_icmp_eq (tgt := 912) hx hb dL_law_519 (by decide) (fun _ => ?_) (fun c2 => absurd rfl c2)
        exact fin C2 R2 adC adR H locs ls _ _ (by omega) (by omega) hI2 haC haR (TW.sw hT) hS hl
      by_cases hc10 : op = (10 : Int32)
      · refine W_topI hc10.symm ?_
        refine lv_tableIn (x := (10 : Int32)) (off := 491) (tgt := 524) hx hb dL_law_33 (by decide) (by decide) (by decide) (by decide) ?_
        obtain ⟨r, R2, e1, e2, hI2⟩ := hsim.2.2.2.2.2.2.2.2.2.2.1 j C R (xs (nI (7 * j + 1)).toNatClampNeg) (xs (nI (7 * j + 2)).toNatClampNeg) (xs (nI (7 * j + 3)).toNatClampNeg) (xs (nI (7 * j + 4)).toNatClampNeg) (xs (nI (7 * j + 5)).toNatClampNeg) hj hI
        refine lv_aload_n hx hb dL_law_524 rfl (lv_at hl 1 rfl) ?_
        refine lv_aload_n hx hb dL_law_525 rfl (lv_at hl 0 rfl) ?_
        refine lv_iload_n hx hb dL_law_526 rfl (lv_at hl 3 rfl) ?_
        refine lv_iconst (v := (1 : Int32)) hx hb dL_law_527 (by decide) ?_
        refine lv_iadd hx hb dL_law_528 ?_
        refine W_topI (nI_add (7 * j) 1).symm ?_
        refine va_sld hx hb hX hbl hbA hS (vp_in_nI (by omega) (by omega)) dL_law_529 ?_
        refine lv_aload_n hx hb dL_law_530 rfl (lv_at hl 0 rfl) ?_
        refine lv_iload_n hx hb dL_law_531 rfl (lv_at hl 3 rfl) ?_
        refine lv_iconst (v := (2 : Int32)) hx hb dL_law_532 (by decide) ?_
        refine lv_iadd hx hb dL_law_533 ?_
        refine W_topI (nI_add (7 * j) 2).symm ?_
        refine va_sld hx hb hX hbl hbA hS (vp_in_nI (by omega) (by omega)) dL_law_534 ?_
        refine lv_aload_n hx hb dL_law_535 rfl (lv_at hl 0 rfl) ?_
        refine lv_iload_n hx hb dL_law_536 rfl (lv_at hl 3 rfl) ?_
        refine lv_iconst (v := (3 : Int32)) hx hb dL_law_537 (by decide) ?_
        refine lv_iadd hx hb dL_law_538 ?_
        refine W_topI (nI_add (7 * j) 3).symm ?_
        refine va_sld hx hb hX hbl hbA hS (vp_in_nI (by omega) (by omega)) dL_law_539 ?_
        refine lv_aload_n hx hb dL_law_540 rfl (lv_at hl 0 rfl) ?_
        refine lv_iload_n hx hb dL_law_541 rfl (lv_at hl 3 rfl) ?_
        refine lv_iconst (v := (4 : Int32)) hx hb dL_law_542 (by decide) ?_
        refine lv_iadd hx hb dL_law_543 ?_
        refine W_topI (nI_add (7 * j) 4).symm ?_
        refine va_sld hx hb hX hbl hbA hS (vp_in_nI (by omega) (by omega)) dL_law_544 ?_
        refine lv_aload_n hx hb dL_law_545 rfl (lv_at hl 0 rfl) ?_
        refine lv_iload_n hx hb dL_law_546 rfl (lv_at hl 3 rfl) ?_
        refine lv_iconst (v := (5 : Int32)) hx hb dL_law_547 (by decide) ?_
        refine lv_iadd hx hb dL_law_548 ?_
        refine W_topI (nI_add (7 * j) 5).symm ?_
        refine va_sld hx hb hX hbl hbA hS (vp_in_nI (by omega) (by omega)) dL_law_549 ?_
        refine tw_calli (mc := 0) (ms := 0) (va_runV (As := [.int (xs (nI (7 * j + 1)).toNatClampNeg), .int (xs (nI (7 * j + 2)).toNatClampNeg), .int (xs (nI (7 * j + 3)).toNatClampNeg), .int (xs (nI (7 * j + 4)).toNatClampNeg), .int (xs (nI (7 * j + 5)).toNatClampNeg)]) (rest := []) ⟨hx, hb, hml, hown, hts⟩ (ok_X3_odds l D cy adC C _ 0 (xs (nI (7 * j + 1)).toNatClampNeg) (xs (nI (7 * j + 2)).toNatClampNeg) (xs (nI (7 * j + 3)).toNatClampNeg) (xs (nI (7 * j + 4)).toNatClampNeg) (xs (nI (7 * j + 5)).toNatClampNeg) r haC e1) (cwV 5 hts (gdV q525 q526 q527 q85 q528) rfl rfl rfl (by decide +kernel) ⟨Nat.le_of_ble_eq_true rfl, Nat.le_of_ble_eq_true rfl⟩) (pre_V hT.1 hK hN haC ds_1 rfl) rfl rfl hl.1 rfl (lv_room (Nat.le_of_ble_eq_true rfl)) dL_law_550 ⟨law_room1 (k := 0) hj, law_room2 (k := 0) hj⟩) hT hS hA (fun H locs hT hS hk1 => ?_)
        have haC := hk1 _ _ haC
        refine lv_aload_n hx hb dL_law_553 rfl (lv_at hl 2 rfl) ?_
        refine lv_aload_n hx hb dL_law_554 rfl (lv_at hl 0 rfl) ?_
        refine lv_iload_n hx hb dL_law_555 rfl (lv_at hl 3 rfl) ?_
        refine lv_iconst (v := (1 : Int32)) hx hb dL_law_556 (by decide) ?_
        refine lv_iadd hx hb dL_law_557 ?_
        refine W_topI (nI_add (7 * j) 1).symm ?_
        refine va_sld hx hb hX hbl hbA hS (vp_in_nI (by omega) (by omega)) dL_law_558 ?_
        refine lv_aload_n hx hb dL_law_559 rfl (lv_at hl 0 rfl) ?_
        refine lv_iload_n hx hb dL_law_560 rfl (lv_at hl 3 rfl) ?_
        refine lv_iconst (v := (2 : Int32)) hx hb dL_law_561 (by decide) ?_
        refine lv_iadd hx hb dL_law_562 ?_
        refine W_topI (nI_add (7 * j) 2).symm ?_
        refine va_sld hx hb hX hbl hbA hS (vp_in_nI (by omega) (by omega)) dL_law_563 ?_
        refine lv_aload_n hx hb dL_law_564 rfl (lv_at hl 0 rfl) ?_
        refine lv_iload_n hx hb dL_law_565 rfl (lv_at hl 3 rfl) ?_
        refine lv_iconst (v := (3 : Int32)) hx hb dL_law_566 (by decide) ?_
        refine lv_iadd hx hb dL_law_567 ?_
        refine W_topI (nI_add (7 * j) 3).symm ?_
        refine va_sld hx hb hX hbl hbA hS (vp_in_nI (by omega) (by omega)) dL_law_568 ?_
        refine lv_aload_n hx hb dL_law_569 rfl (lv_at hl 0 rfl) ?_
        refine lv_iload_n hx hb dL_law_570 rfl (lv_at hl 3 rfl) ?_
        refine lv_iconst (v := (4 : Int32)) hx hb dL_law_571 (by decide) ?_
        refine lv_iadd hx hb dL_law_572 ?_
        refine W_topI (nI_add (7 * j) 4).symm ?_
        refine va_sld hx hb hX hbl hbA hS (vp_in_nI (by omega) (by omega)) dL_law_573 ?_
        refine lv_aload_n hx hb dL_law_574 rfl (lv_at hl 0 rfl) ?_
        refine lv_iload_n hx hb dL_law_575 rfl (lv_at hl 3 rfl) ?_
        refine lv_iconst (v := (5 : Int32)) hx hb dL_law_576 (by decide) ?_
        refine lv_iadd hx hb dL_law_577 ?_
        refine W_topI (nI_add (7 * j) 5).symm ?_
        refine va_sld hx hb hX hbl hbA hS (vp_in_nI (by omega) (by omega)) dL_law_578 ?_
        refine tw_calli (mc := 0) (ms := 0) (va_runV (As := [.int (xs (nI (7 * j + 1)).toNatClampNeg), .int (xs (nI (7 * j + 2)).toNatClampNeg), .int (xs (nI (7 * j + 3)).toNatClampNeg), .int (xs (nI (7 * j + 4)).toNatClampNeg), .int (xs (nI (7 * j + 5)).toNatClampNeg)]) (rest := [.int r]) ⟨hx, hb, hml, hown, hts⟩ (ok_X4_odds l D cy adR R _ 0 (xs (nI (7 * j + 1)).toNatClampNeg) (xs (nI (7 * j + 2)).toNatClampNeg) (xs (nI (7 * j + 3)).toNatClampNeg) (xs (nI (7 * j + 4)).toNatClampNeg) (xs (nI (7 * j + 5)).toNatClampNeg) r R2 haR e2) (cwV 5 hts (gdV q870 q871 q872 q86 q873) rfl rfl rfl (by decide +kernel) ⟨Nat.le_of_ble_eq_true rfl, Nat.le_of_ble_eq_true rfl⟩) (pre_V (TW.sw hT).1 hK hN haR ds_0 rfl) rfl rfl hl.1 rfl (lv_room (Nat.le_of_ble_eq_true rfl)) dL_law_579 ⟨law_room3 (k := 0) hj, law_room4 (k := 0) hj⟩) (TW.sw hT) hS hA (fun H locs hT hS hk2 => ?_)
        have haR := hk2 _ _ haR
        refine lv_icmp_eq (tgt := 912) hx hb dL_law_582 (by decide) (fun _ => ?_) (fun c2 => absurd rfl c2)
        exact fin C R2 adC adR H locs ls _ _ (by omega) (by omega) hI2 haC haR (TW.sw hT) hS hl
      by_cases hc11 : op = (11 : Int32)
      · refine W_topI hc11.symm ?_
        refine lv_tableIn (x := (11 : Int32)) (off := 554) (tgt := 587) hx hb dL_law_33 (by decide) (by decide) (by decide) (by decide) ?_
        obtain ⟨r, R2, e1, e2, hI2⟩ := hsim.2.2.2.2.2.2.2.2.2.2.2.1 j C R (xs (nI (7 * j + 1)).toNatClampNeg) (xs (nI (7 * j + 2)).toNatClampNeg) (xs (nI (7 * j + 3)).toNatClampNeg) (xs (nI (7 * j + 4)).toNatClampNeg) (xs (nI (7 * j + 5)).toNatClampNeg) hj hI
        refine lv_aload_n hx hb dL_law_587 rfl (lv_at hl 1 rfl) ?_
        refine lv_aload_n hx hb dL_law_588 rfl (lv_at hl 0 rfl) ?_
        refine lv_iload_n hx hb dL_law_589 rfl (lv_at hl 3 rfl) ?_
        refine lv_iconst (v := (1 : Int32)) hx hb dL_law_590 (by decide) ?_
        refine lv_iadd hx hb dL_law_591 ?_
        refine W_topI (nI_add (7 * j) 1).symm ?_
        refine va_sld hx hb hX hbl hbA hS (vp_in_nI (by omega) (by omega)) dL_law_592 ?_
        refine lv_aload_n hx hb dL_law_593 rfl (lv_at hl 0 rfl) ?_
        refine lv_iload_n hx hb dL_law_594 rfl (lv_at hl 3 rfl) ?_
        refine lv_iconst (v := (2 : Int32)) hx hb dL_law_595 (by decide) ?_
        refine lv_iadd hx hb dL_law_596 ?_
        refine W_topI (nI_add (7 * j) 2).symm ?_
        refine va_sld hx hb hX hbl hbA hS (vp_in_nI (by omega) (by omega)) dL_law_597 ?_
        refine lv_aload_n hx hb dL_law_598 rfl (lv_at hl 0 rfl) ?_
        refine lv_iload_n hx hb dL_law_599 rfl (lv_at hl 3 rfl) ?_
        refine lv_iconst (v := (3 : Int32)) hx hb dL_law_600 (by decide) ?_
        refine lv_iadd hx hb dL_law_601 ?_
        refine W_topI (nI_add (7 * j) 3).symm ?_
        refine va_sld hx hb hX hbl hbA hS (vp_in_nI (by omega) (by omega)) dL_law_602 ?_
        refine lv_aload_n hx hb dL_law_603 rfl (lv_at hl 0 rfl) ?_
        refine lv_iload_n hx hb dL_law_604 rfl (lv_at hl 3 rfl) ?_
        refine lv_iconst (v := (4 : Int32)) hx hb dL_law_605 (by decide) ?_
        refine lv_iadd hx hb dL_law_606 ?_
        refine W_topI (nI_add (7 * j) 4).symm ?_
        refine va_sld hx hb hX hbl hbA hS (vp_in_nI (by omega) (by omega)) dL_law_607 ?_
        refine lv_aload_n hx hb dL_law_608 rfl (lv_at hl 0 rfl) ?_
        refine lv_iload_n hx hb dL_law_609 rfl (lv_at hl 3 rfl) ?_
        refine lv_iconst (v := (5 : Int32)) hx hb dL_law_610 (by decide) ?_
        refine lv_iadd hx hb dL_law_611 ?_
        refine W_topI (nI_add (7 * j) 5).symm ?_
        refine va_sld hx hb hX hbl hbA hS (vp_in_nI (by omega) (by omega)) dL_law_612 ?_
        refine tw_calli (mc := 0) (ms := 0) (va_runV (As := [.int (xs (nI (7 * j + 1)).toNatClampNeg), .int (xs (nI (7 * j + 2)).toNatClampNeg), .int (xs (nI (7 * j + 3)).toNatClampNeg), .int (xs (nI (7 * j + 4)).toNatClampNeg), .int (xs (nI (7 * j + 5)).toNatClampNeg)]) (rest := []) ⟨hx, hb, hml, hown, hts⟩ (ok_X3_dividend l D cy adC C _ 0 (xs (nI (7 * j + 1)).toNatClampNeg) (xs (nI (7 * j + 2)).toNatClampNeg) (xs (nI (7 * j + 3)).toNatClampNeg) (xs (nI (7 * j + 4)).toNatClampNeg) (xs (nI (7 * j + 5)).toNatClampNeg) r haC e1) (cwV 5 hts (gdV q542 q543 q544 q85 q545) rfl rfl rfl (by decide +kernel) ⟨Nat.le_of_ble_eq_true rfl, Nat.le_of_ble_eq_true rfl⟩) (pre_V hT.1 hK hN haC ds_1 rfl) rfl rfl hl.1 rfl (lv_room (Nat.le_of_ble_eq_true rfl)) dL_law_613 ⟨law_room1 (k := 0) hj, law_room2 (k := 0) hj⟩) hT hS hA (fun H locs hT hS hk1 => ?_)
        have haC := hk1 _ _ haC
        refine lv_aload_n hx hb dL_law_616 rfl (lv_at hl 2 rfl) ?_
        refine lv_aload_n hx hb dL_law_617 rfl (lv_at hl 0 rfl) ?_
        refine lv_iload_n hx hb dL_law_618 rfl (lv_at hl 3 rfl) ?_
        refine lv_iconst (v := (1 : Int32)) hx hb dL_law_619 (by decide) ?_
        refine lv_iadd hx hb dL_law_620 ?_
        refine W_topI (nI_add (7 * j) 1).symm ?_
        refine va_sld hx hb hX hbl hbA hS (vp_in_nI (by omega) (by omega)) dL_law_621 ?_
        refine lv_aload_n hx hb dL_law_622 rfl (lv_at hl 0 rfl) ?_
        refine lv_iload_n hx hb dL_law_623 rfl (lv_at hl 3 rfl) ?_
        refine lv_iconst (v := (2 : Int32)) hx hb dL_law_624 (by decide) ?_
        refine lv_iadd hx hb dL_law_625 ?_
        refine W_topI (nI_add (7 * j) 2).symm ?_
        refine va_sld hx hb hX hbl hbA hS (vp_in_nI (by omega) (by omega)) dL_law_626 ?_
        refine lv_aload_n hx hb dL_law_627 rfl (lv_at hl 0 rfl) ?_
        refine lv_iload_n hx hb dL_law_628 rfl (lv_at hl 3 rfl) ?_
        refine lv_iconst (v := (3 : Int32)) hx hb dL_law_629 (by decide) ?_
        refine lv_iadd hx hb dL_law_630 ?_
        refine W_topI (nI_add (7 * j) 3).symm ?_
        refine va_sld hx hb hX hbl hbA hS (vp_in_nI (by omega) (by omega)) dL_law_631 ?_
        refine lv_aload_n hx hb dL_law_632 rfl (lv_at hl 0 rfl) ?_
        refine lv_iload_n hx hb dL_law_633 rfl (lv_at hl 3 rfl) ?_
        refine lv_iconst (v := (4 : Int32)) hx hb dL_law_634 (by decide) ?_
        refine lv_iadd hx hb dL_law_635 ?_
        refine W_topI (nI_add (7 * j) 4).symm ?_
        refine va_sld hx hb hX hbl hbA hS (vp_in_nI (by omega) (by omega)) dL_law_636 ?_
        refine lv_aload_n hx hb dL_law_637 rfl (lv_at hl 0 rfl) ?_
        refine lv_iload_n hx hb dL_law_638 rfl (lv_at hl 3 rfl) ?_
        refine lv_iconst (v := (5 : Int32)) hx hb dL_law_639 (by decide) ?_
        refine lv_iadd hx hb dL_law_640 ?_
        refine W_topI (nI_add (7 * j) 5).symm ?_
        refine va_sld hx hb hX hbl hbA hS (vp_in_nI (by omega) (by omega)) dL_law_641 ?_
        refine tw_calli (mc := 0) (ms := 0) (va_runV (As := [.int (xs (nI (7 * j + 1)).toNatClampNeg), .int (xs (nI (7 * j + 2)).toNatClampNeg), .int (xs (nI (7 * j + 3)).toNatClampNeg), .int (xs (nI (7 * j + 4)).toNatClampNeg), .int (xs (nI (7 * j + 5)).toNatClampNeg)]) (rest := [.int r]) ⟨hx, hb, hml, hown, hts⟩ (ok_X4_dividend l D cy adR R _ 0 (xs (nI (7 * j + 1)).toNatClampNeg) (xs (nI (7 * j + 2)).toNatClampNeg) (xs (nI (7 * j + 3)).toNatClampNeg) (xs (nI (7 * j + 4)).toNatClampNeg) (xs (nI (7 * j + 5)).toNatClampNeg) r R2 haR e2) (cwV 5 hts (gdV q882 q883 q884 q86 q885) rfl rfl rfl (by decide +kernel) ⟨Nat.le_of_ble_eq_true rfl, Nat.le_of_ble_eq_true rfl⟩) (pre_V (TW.sw hT).1 hK hN haR ds_0 rfl) rfl rfl hl.1 rfl (lv_room (Nat.le_of_ble_eq_true rfl)) dL_law_642 ⟨law_room3 (k := 0) hj, law_room4 (k := 0) hj⟩) (TW.sw hT) hS hA (fun H locs hT hS hk2 => ?_)
        have haR := hk2 _ _ haR
        refine lv_icmp_eq (tgt := 912) hx hb dL_law_645 (by decide) (fun _ => ?_) (fun c2 => absurd rfl c2)
        exact fin C R2 adC adR H locs ls _ _ (by omega) (by omega) hI2 haC haR (TW.sw hT) hS hl
      by_cases hc12 : op = (12 : Int32)
      · refine W_topI hc12.symm ?_
        refine lv_tableIn (x := (12 : Int32)) (off := 617) (tgt := 650) hx hb dL_law_33 (by decide) (by decide) (by decide) (by decide) ?_
        obtain ⟨r, C2, R2, e1, e2, hI2⟩ := hsim.2.2.2.2.2.2.2.2.2.2.2.2.1 j C R (xs (nI (7 * j + 1)).toNatClampNeg) hj hI
        refine lv_aload_n hx hb dL_law_650 rfl (lv_at hl 1 rfl) ?_
        refine lv_aload_n hx hb dL_law_651 rfl (lv_at hl 0 rfl) ?_
        refine lv_iload_n hx hb dL_law_652 rfl (lv_at hl 3 rfl) ?_
        refine lv_iconst (v := (1 : Int32)) hx hb dL_law_653 (by decide) ?_
        refine lv_iadd hx hb dL_law_654 ?_
        refine W_topI (nI_add (7 * j) 1).symm ?_
        refine va_sld hx hb hX hbl hbA hS (vp_in_nI (by omega) (by omega)) dL_law_655 ?_
        refine tw_calll (mc := 0) (ms := 0) (va_runV (As := [.int (xs (nI (7 * j + 1)).toNatClampNeg)]) (rest := []) ⟨hx, hb, hml, hown, hts⟩ (ok_X3_pay l D cy adC C _ 0 (xs (nI (7 * j + 1)).toNatClampNeg) r C2 haC e1) (cwV 1 hts (gdV q550 q551 q552 q85 q553) rfl rfl rfl (by decide +kernel) ⟨Nat.le_of_ble_eq_true rfl, Nat.le_of_ble_eq_true rfl⟩) (pre_V hT.1 hK hN haC ds_1 rfl) rfl rfl hl.1 rfl (lv_room (Nat.le_of_ble_eq_true rfl)) dL_law_656 ⟨law_room1 (k := 0) hj, law_room2 (k := 0) hj⟩) hT hS hA (fun H locs hT hS hk1 => ?_)
        have haC := hk1 _ _ haC
        refine lv_aload_n hx hb dL_law_659 rfl (lv_at hl 2 rfl) ?_
        refine lv_aload_n hx hb dL_law_660 rfl (lv_at hl 0 rfl) ?_
        refine lv_iload_n hx hb dL_law_661 rfl (lv_at hl 3 rfl) ?_
        refine lv_iconst (v := (1 : Int32)) hx hb dL_law_662 (by decide) ?_
        refine lv_iadd hx hb dL_law_663 ?_
        refine W_topI (nI_add (7 * j) 1).symm ?_
        refine va_sld hx hb hX hbl hbA hS (vp_in_nI (by omega) (by omega)) dL_law_664 ?_
        refine tw_calll (mc := 0) (ms := 0) (va_runV (As := [.int (xs (nI (7 * j + 1)).toNatClampNeg)]) (rest := [.long r]) ⟨hx, hb, hml, hown, hts⟩ (ok_X4_pay l D cy adR R _ 0 (xs (nI (7 * j + 1)).toNatClampNeg) r R2 haR e2) (cwV 1 hts (gdV q886 q887 q888 q86 q889) rfl rfl rfl (by decide +kernel) ⟨Nat.le_of_ble_eq_true rfl, Nat.le_of_ble_eq_true rfl⟩) (pre_V (TW.sw hT).1 hK hN haR ds_0 rfl) rfl rfl hl.1 rfl (lv_room (Nat.le_of_ble_eq_true rfl)) dL_law_665 ⟨law_room3 (k := 0) hj, law_room4 (k := 0) hj⟩) (TW.sw hT) hS hA (fun H locs hT hS hk2 => ?_)
        have haR := hk2 _ _ haR
        refine W.lcmp hx hb dL_law_668 ?_
        refine lv_if_eq (tgt := 912) hx hb dL_law_669 (by decide) (fun _ => ?_) (fun c2 => absurd (lg_same r) c2)
        exact fin C2 R2 adC adR H locs ls _ _ (by omega) (by omega) hI2 haC haR (TW.sw hT) hS hl
      by_cases hc13 : op = (13 : Int32)
      · refine W_topI hc13.symm ?_
        refine lv_tableIn (x := (13 : Int32)) (off := 641) (tgt := 674) hx hb dL_law_33 (by decide) (by decide) (by decide) (by decide) ?_
        obtain ⟨r, e1, e2, hI2⟩ := hsim.2.2.2.2.2.2.2.2.2.2.2.2.2.1 j C R (xs (nI (7 * j + 1)).toNatClampNeg) (xs (nI (7 * j + 2)).toNatClampNeg) (xs (nI (7 * j + 3)).toNatClampNeg) hj hI
        refine lv_aload_n hx hb dL_law_674 rfl (lv_at hl 1 rfl) ?_
        refine lv_aload_n hx hb dL_law_675 rfl (lv_at hl 0 rfl) ?_
        refine lv_iload_n hx hb dL_law_676 rfl (lv_at hl 3 rfl) ?_
        refine lv_iconst (v := (1 : Int32)) hx hb dL_law_677 (by decide) ?_
        refine lv_iadd hx hb dL_law_678 ?_
        refine W_topI (nI_add (7 * j) 1).symm ?_
        refine va_sld hx hb hX hbl hbA hS (vp_in_nI (by omega) (by omega)) dL_law_679 ?_
        refine lv_aload_n hx hb dL_law_680 rfl (lv_at hl 0 rfl) ?_
        refine lv_iload_n hx hb dL_law_681 rfl (lv_at hl 3 rfl) ?_
        refine lv_iconst (v := (2 : Int32)) hx hb dL_law_682 (by decide) ?_
        refine lv_iadd hx hb dL_law_683 ?_
        refine W_topI (nI_add (7 * j) 2).symm ?_
        refine va_sld hx hb hX hbl hbA hS (vp_in_nI (by omega) (by omega)) dL_law_684 ?_
        refine lv_aload_n hx hb dL_law_685 rfl (lv_at hl 0 rfl) ?_
        refine lv_iload_n hx hb dL_law_686 rfl (lv_at hl 3 rfl) ?_
        refine lv_iconst (v := (3 : Int32)) hx hb dL_law_687 (by decide) ?_
        refine lv_iadd hx hb dL_law_688 ?_
        refine W_topI (nI_add (7 * j) 3).symm ?_
        refine va_sld hx hb hX hbl hbA hS (vp_in_nI (by omega) (by omega)) dL_law_689 ?_
        refine tw_calll (mc := 0) (ms := 0) (va_runV (As := [.int (xs (nI (7 * j + 1)).toNatClampNeg), .int (xs (nI (7 * j + 2)).toNatClampNeg), .int (xs (nI (7 * j + 3)).toNatClampNeg)]) (rest := []) ⟨hx, hb, hml, hown, hts⟩ (ok_X3_sum l D cy adC C _ 0 (xs (nI (7 * j + 1)).toNatClampNeg) (xs (nI (7 * j + 2)).toNatClampNeg) (xs (nI (7 * j + 3)).toNatClampNeg) r haC e1) (cwV 3 hts (gdV q557 q558 q559 q85 q560) rfl rfl rfl (by decide +kernel) ⟨Nat.le_of_ble_eq_true rfl, Nat.le_of_ble_eq_true rfl⟩) (pre_V hT.1 hK hN haC ds_1 rfl) rfl rfl hl.1 rfl (lv_room (Nat.le_of_ble_eq_true rfl)) dL_law_690 ⟨law_room1 (k := 0) hj, law_room2 (k := 0) hj⟩) hT hS hA (fun H locs hT hS hk1 => ?_)
        have haC := hk1 _ _ haC
        refine lv_aload_n hx hb dL_law_693 rfl (lv_at hl 2 rfl) ?_
        refine lv_aload_n hx hb dL_law_694 rfl (lv_at hl 0 rfl) ?_
        refine lv_iload_n hx hb dL_law_695 rfl (lv_at hl 3 rfl) ?_
        refine lv_iconst (v := (1 : Int32)) hx hb dL_law_696 (by decide) ?_
        refine lv_iadd hx hb dL_law_697 ?_
        refine W_topI (nI_add (7 * j) 1).symm ?_
        refine va_sld hx hb hX hbl hbA hS (vp_in_nI (by omega) (by omega)) dL_law_698 ?_
        refine lv_aload_n hx hb dL_law_699 rfl (lv_at hl 0 rfl) ?_
        refine lv_iload_n hx hb dL_law_700 rfl (lv_at hl 3 rfl) ?_
        refine lv_iconst (v := (2 : Int32)) hx hb dL_law_701 (by decide) ?_
        refine lv_iadd hx hb dL_law_702 ?_
        refine W_topI (nI_add (7 * j) 2).symm ?_
        refine va_sld hx hb hX hbl hbA hS (vp_in_nI (by omega) (by omega)) dL_law_703 ?_
        refine lv_aload_n hx hb dL_law_704 rfl (lv_at hl 0 rfl) ?_
        refine lv_iload_n hx hb dL_law_705 rfl (lv_at hl 3 rfl) ?_
        refine lv_iconst (v := (3 : Int32)) hx hb dL_law_706 (by decide) ?_
        refine lv_iadd hx hb dL_law_707 ?_
        refine W_topI (nI_add (7 * j) 3).symm ?_
        refine va_sld hx hb hX hbl hbA hS (vp_in_nI (by omega) (by omega)) dL_law_708 ?_
        refine tw_calll (mc := 0) (ms := 0) (va_runV (As := [.int (xs (nI (7 * j + 1)).toNatClampNeg), .int (xs (nI (7 * j + 2)).toNatClampNeg), .int (xs (nI (7 * j + 3)).toNatClampNeg)]) (rest := [.long r]) ⟨hx, hb, hml, hown, hts⟩ (ok_X4_sum l D cy adR R _ 0 (xs (nI (7 * j + 1)).toNatClampNeg) (xs (nI (7 * j + 2)).toNatClampNeg) (xs (nI (7 * j + 3)).toNatClampNeg) r haR e2) (cwV 3 hts (gdV q893 q894 q895 q86 q896) rfl rfl rfl (by decide +kernel) ⟨Nat.le_of_ble_eq_true rfl, Nat.le_of_ble_eq_true rfl⟩) (pre_V (TW.sw hT).1 hK hN haR ds_0 rfl) rfl rfl hl.1 rfl (lv_room (Nat.le_of_ble_eq_true rfl)) dL_law_709 ⟨law_room3 (k := 0) hj, law_room4 (k := 0) hj⟩) (TW.sw hT) hS hA (fun H locs hT hS hk2 => ?_)
        have haR := hk2 _ _ haR
        refine W.lcmp hx hb dL_law_712 ?_
        refine lv_if_eq (tgt := 912) hx hb dL_law_713 (by decide) (fun _ => ?_) (fun c2 => absurd (lg_same r) c2)
        exact fin C R adC adR H locs ls _ _ (by omega) (by omega) hI2 haC haR (TW.sw hT) hS hl
      by_cases hc14 : op = (14 : Int32)
      · refine W_topI hc14.symm ?_
        refine lv_tableIn (x := (14 : Int32)) (off := 685) (tgt := 718) hx hb dL_law_33 (by decide) (by decide) (by decide) (by decide) ?_
        obtain ⟨r, e1, e2, hI2⟩ := hsim.2.2.2.2.2.2.2.2.2.2.2.2.2.2.1 j C R hj hI
        refine lv_aload_n hx hb dL_law_718 rfl (lv_at hl 1 rfl) ?_
        refine tw_calll (mc := 0) (ms := 0) (va_runV (As := []) (rest := []) ⟨hx, hb, hml, hown, hts⟩ (ok_X3_unclaimed l D cy adC C _ 0 r haC e1) (cwV 0 hts (gdV q572 q573 q574 q85 q575) rfl rfl rfl (by decide +kernel) ⟨Nat.le_of_ble_eq_true rfl, Nat.le_of_ble_eq_true rfl⟩) (pre_V hT.1 hK hN haC ds_1 rfl) rfl rfl hl.1 rfl (lv_room (Nat.le_of_ble_eq_true rfl)) dL_law_719 ⟨law_room1 (k := 0) hj, law_room2 (k := 0) hj⟩) hT hS hA (fun H locs hT hS hk1 => ?_)
        have haC := hk1 _ _ haC
        refine lv_aload_n hx hb dL_law_722 rfl (lv_at hl 2 rfl) ?_
        refine tw_calll (mc := 0) (ms := 0) (va_runV (As := []) (rest := [.long r]) ⟨hx, hb, hml, hown, hts⟩ (ok_X4_unclaimed l D cy adR R _ 0 r haR e2) (cwV 0 hts (gdV q901 q902 q903 q86 q904) rfl rfl rfl (by decide +kernel) ⟨Nat.le_of_ble_eq_true rfl, Nat.le_of_ble_eq_true rfl⟩) (pre_V (TW.sw hT).1 hK hN haR ds_0 rfl) rfl rfl hl.1 rfl (lv_room (Nat.le_of_ble_eq_true rfl)) dL_law_723 ⟨law_room3 (k := 0) hj, law_room4 (k := 0) hj⟩) (TW.sw hT) hS hA (fun H locs hT hS hk2 => ?_)
        have haR := hk2 _ _ haR
        refine W.lcmp hx hb dL_law_726 ?_
        refine lv_if_eq (tgt := 912) hx hb dL_law_727 (by decide) (fun _ => ?_) (fun c2 => absurd (lg_same r) c2)
        exact fin C R adC adR H locs ls _ _ (by omega) (by omega) hI2 haC haR (TW.sw hT) hS hl
      by_cases hc15 : op = (15 : Int32)
      · refine W_topI hc15.symm ?_
        refine lv_tableIn (x := (15 : Int32)) (off := 699) (tgt := 732) hx hb dL_law_33 (by decide) (by decide) (by decide) (by decide) ?_
        obtain ⟨r, e1, e2, hI2⟩ := hsim.2.2.2.2.2.2.2.2.2.2.2.2.2.2.2.1 j C R hj hI
        refine lv_aload_n hx hb dL_law_732 rfl (lv_at hl 1 rfl) ?_
        refine tw_calll (mc := 0) (ms := 0) (va_runV (As := []) (rest := []) ⟨hx, hb, hml, hown, hts⟩ (ok_X3_carried l D cy adC C _ 0 r haC e1) (cwV 0 hts (gdV q579 q580 q581 q85 q582) rfl rfl rfl (by decide +kernel) ⟨Nat.le_of_ble_eq_true rfl, Nat.le_of_ble_eq_true rfl⟩) (pre_V hT.1 hK hN haC ds_1 rfl) rfl rfl hl.1 rfl (lv_room (Nat.le_of_ble_eq_true rfl)) dL_law_733 ⟨law_room1 (k := 0) hj, law_room2 (k := 0) hj⟩) hT hS hA (fun H locs hT hS hk1 => ?_)
        have haC := hk1 _ _ haC
        refine lv_aload_n hx hb dL_law_736 rfl (lv_at hl 2 rfl) ?_
        refine tw_calll (mc := 0) (ms := 0) (va_runV (As := []) (rest := [.long r]) ⟨hx, hb, hml, hown, hts⟩ (ok_X4_carried l D cy adR R _ 0 r haR e2) (cwV 0 hts (gdV q905 q906 q907 q86 q908) rfl rfl rfl (by decide +kernel) ⟨Nat.le_of_ble_eq_true rfl, Nat.le_of_ble_eq_true rfl⟩) (pre_V (TW.sw hT).1 hK hN haR ds_0 rfl) rfl rfl hl.1 rfl (lv_room (Nat.le_of_ble_eq_true rfl)) dL_law_737 ⟨law_room3 (k := 0) hj, law_room4 (k := 0) hj⟩) (TW.sw hT) hS hA (fun H locs hT hS hk2 => ?_)
        have haR := hk2 _ _ haR
        refine W.lcmp hx hb dL_law_740 ?_
        refine lv_if_eq (tgt := 912) hx hb dL_law_741 (by decide) (fun _ => ?_) (fun c2 => absurd (lg_same r) c2)
        exact fin C R adC adR H locs ls _ _ (by omega) (by omega) hI2 haC haR (TW.sw hT) hS hl
      by_cases hc16 : op = (16 : Int32)
      · refine W_topI hc16.symm ?_
        refine lv_tableIn (x := (16 : Int32)) (off := 713) (tgt := 746) hx hb dL_law_33 (by decide) (by decide) (by decide) (by decide) ?_
        obtain ⟨r, e1, e2, hI2⟩ := hsim.2.2.2.2.2.2.2.2.2.2.2.2.2.2.2.2.1 j C R hj hI
        refine lv_aload_n hx hb dL_law_746 rfl (lv_at hl 1 rfl) ?_
        refine tw_calli (mc := 0) (ms := 0) (va_runV (As := []) (rest := []) ⟨hx, hb, hml, hown, hts⟩ (ok_X3_close l D cy adC C _ 0 r haC e1) (cwV 0 hts (gdV q583 q584 q585 q85 q586) rfl rfl rfl (by decide +kernel) ⟨Nat.le_of_ble_eq_true rfl, Nat.le_of_ble_eq_true rfl⟩) (pre_V hT.1 hK hN haC ds_1 rfl) rfl rfl hl.1 rfl (lv_room (Nat.le_of_ble_eq_true rfl)) dL_law_747 ⟨law_room1 (k := 0) hj, law_room2 (k := 0) hj⟩) hT hS hA (fun H locs hT hS hk1 => ?_)
        have haC := hk1 _ _ haC
        refine lv_aload_n hx hb dL_law_750 rfl (lv_at hl 2 rfl) ?_
        refine tw_calli (mc := 0) (ms := 0) (va_runV (As := []) (rest := [.int r]) ⟨hx, hb, hml, hown, hts⟩ (ok_X4_close l D cy adR R _ 0 r haR e2) (cwV 0 hts (gdV q909 q910 q911 q86 q912) rfl rfl rfl (by decide +kernel) ⟨Nat.le_of_ble_eq_true rfl, Nat.le_of_ble_eq_true rfl⟩) (pre_V (TW.sw hT).1 hK hN haR ds_0 rfl) rfl rfl hl.1 rfl (lv_room (Nat.le_of_ble_eq_true rfl)) dL_law_751 ⟨law_room3 (k := 0) hj, law_room4 (k := 0) hj⟩) (TW.sw hT) hS hA (fun H locs hT hS hk2 => ?_)
        have haR := hk2 _ _ haR
        refine lv_icmp_eq (tgt := 912) hx hb dL_law_754 (by decide) (fun _ => ?_) (fun c2 => absurd rfl c2)
        exact fin C R adC adR H locs ls _ _ (by omega) (by omega) hI2 haC haR (TW.sw hT) hS hl
      by_cases hc17 : op = (17 : Int32)
      · refine W_topI hc17.symm ?_
        refine lv_tableIn (x := (17 : Int32)) (off := 726) (tgt := 759) hx hb dL_law_33 (by decide) (by decide) (by decide) (by decide) ?_
        obtain ⟨r, e1, e2, hI2⟩ := hsim.2.2.2.2.2.2.2.2.2.2.2.2.2.2.2.2.2.1 j C R (xs (nI (7 * j + 1)).toNatClampNeg) (xs (nI (7 * j + 2)).toNatClampNeg) hj hI
        refine lv_aload_n hx hb dL_law_759 rfl (lv_at hl 1 rfl) ?_
        refine lv_aload_n hx hb dL_law_760 rfl (lv_at hl 0 rfl) ?_
        refine lv_iload_n hx hb dL_law_761 rfl (lv_at hl 3 rfl) ?_
        refine lv_iconst (v := (1 : Int32)) hx hb dL_law_762 (by decide) ?_
        refine lv_iadd hx hb dL_law_763 ?_
        refine W_topI (nI_add (7 * j) 1).symm ?_
        refine va_sld hx hb hX hbl hbA hS (vp_in_nI (by omega) (by omega)) dL_law_764 ?_
        refine lv_aload_n hx hb dL_law_765 rfl (lv_at hl 0 rfl) ?_
        refine lv_iload_n hx hb dL_law_766 rfl (lv_at hl 3 rfl) ?_
        refine lv_iconst (v := (2 : Int32)) hx hb dL_law_767 (by decide) ?_
        refine lv_iadd hx hb dL_law_768 ?_
        refine W_topI (nI_add (7 * j) 2).symm ?_
        refine va_sld hx hb hX hbl hbA hS (vp_in_nI (by omega) (by omega)) dL_law_769 ?_
        refine tw_calli (mc := 0) (ms := 0) (va_runV (As := [.int (xs (nI (7 * j + 1)).toNatClampNeg), .int (xs (nI (7 * j + 2)).toNatClampNeg)]) (rest := []) ⟨hx, hb, hml, hown, hts⟩ (ok_X3_ticket l D cy adC C _ 0 (xs (nI (7 * j + 1)).toNatClampNeg) (xs (nI (7 * j + 2)).toNatClampNeg) r haC e1) (cwV 2 hts (gdV q349 q350 q351 q85 q352) rfl rfl rfl (by decide +kernel) ⟨Nat.le_of_ble_eq_true rfl, Nat.le_of_ble_eq_true rfl⟩) (pre_V hT.1 hK hN haC ds_1 rfl) rfl rfl hl.1 rfl (lv_room (Nat.le_of_ble_eq_true rfl)) dL_law_770 ⟨law_room1 (k := 0) hj, law_room2 (k := 0) hj⟩) hT hS hA (fun H locs hT hS hk1 => ?_)
        have haC := hk1 _ _ haC
        refine lv_aload_n hx hb dL_law_773 rfl (lv_at hl 2 rfl) ?_
        refine lv_aload_n hx hb dL_law_774 rfl (lv_at hl 0 rfl) ?_
        refine lv_iload_n hx hb dL_law_775 rfl (lv_at hl 3 rfl) ?_
        refine lv_iconst (v := (1 : Int32)) hx hb dL_law_776 (by decide) ?_
        refine lv_iadd hx hb dL_law_777 ?_
        refine W_topI (nI_add (7 * j) 1).symm ?_
        refine va_sld hx hb hX hbl hbA hS (vp_in_nI (by omega) (by omega)) dL_law_778 ?_
        refine lv_aload_n hx hb dL_law_779 rfl (lv_at hl 0 rfl) ?_
        refine lv_iload_n hx hb dL_law_780 rfl (lv_at hl 3 rfl) ?_
        refine lv_iconst (v := (2 : Int32)) hx hb dL_law_781 (by decide) ?_
        refine lv_iadd hx hb dL_law_782 ?_
        refine W_topI (nI_add (7 * j) 2).symm ?_
        refine va_sld hx hb hX hbl hbA hS (vp_in_nI (by omega) (by omega)) dL_law_783 ?_
        refine tw_calli (mc := 0) (ms := 0) (va_runV (As := [.int (xs (nI (7 * j + 1)).toNatClampNeg), .int (xs (nI (7 * j + 2)).toNatClampNeg)]) (rest := [.int r]) ⟨hx, hb, hml, hown, hts⟩ (ok_X4_ticket l D cy adR R _ 0 (xs (nI (7 * j + 1)).toNatClampNeg) (xs (nI (7 * j + 2)).toNatClampNeg) r haR e2) (cwV 2 hts (gdV q913 q914 q915 q86 q916) rfl rfl rfl (by decide +kernel) ⟨Nat.le_of_ble_eq_true rfl, Nat.le_of_ble_eq_true rfl⟩) (pre_V (TW.sw hT).1 hK hN haR ds_0 rfl) rfl rfl hl.1 rfl (lv_room (Nat.le_of_ble_eq_true rfl)) dL_law_784 ⟨law_room3 (k := 0) hj, law_room4 (k := 0) hj⟩) (TW.sw hT) hS hA (fun H locs hT hS hk2 => ?_)
        have haR := hk2 _ _ haR
        refine lv_icmp_eq (tgt := 912) hx hb dL_law_787 (by decide) (fun _ => ?_) (fun c2 => absurd rfl c2)
        exact fin C R adC adR H locs ls _ _ (by omega) (by omega) hI2 haC haR (TW.sw hT) hS hl
      by_cases hc18 : op = (18 : Int32)
      · refine W_topI hc18.symm ?_
        refine lv_tableIn (x := (18 : Int32)) (off := 759) (tgt := 792) hx hb dL_law_33 (by decide) (by decide) (by decide) (by decide) ?_
        obtain ⟨r, R2, e1, e2, hI2⟩ := hsim.2.2.2.2.2.2.2.2.2.2.2.2.2.2.2.2.2.2.1 j C R (xs (nI (7 * j + 1)).toNatClampNeg) (xs (nI (7 * j + 2)).toNatClampNeg) (xs (nI (7 * j + 3)).toNatClampNeg) (xs (nI (7 * j + 4)).toNatClampNeg) (xs (nI (7 * j + 5)).toNatClampNeg) hj hI
        refine lv_aload_n hx hb dL_law_792 rfl (lv_at hl 1 rfl) ?_
        refine lv_aload_n hx hb dL_law_793 rfl (lv_at hl 0 rfl) ?_
        refine lv_iload_n hx hb dL_law_794 rfl (lv_at hl 3 rfl) ?_
        refine lv_iconst (v := (1 : Int32)) hx hb dL_law_795 (by decide) ?_
        refine lv_iadd hx hb dL_law_796 ?_
        refine W_topI (nI_add (7 * j) 1).symm ?_
        refine va_sld hx hb hX hbl hbA hS (vp_in_nI (by omega) (by omega)) dL_law_797 ?_
        refine lv_aload_n hx hb dL_law_798 rfl (lv_at hl 0 rfl) ?_
        refine lv_iload_n hx hb dL_law_799 rfl (lv_at hl 3 rfl) ?_
        refine lv_iconst (v := (2 : Int32)) hx hb dL_law_800 (by decide) ?_
        refine lv_iadd hx hb dL_law_801 ?_
        refine W_topI (nI_add (7 * j) 2).symm ?_
        refine va_sld hx hb hX hbl hbA hS (vp_in_nI (by omega) (by omega)) dL_law_802 ?_
        refine lv_aload_n hx hb dL_law_803 rfl (lv_at hl 0 rfl) ?_
        refine lv_iload_n hx hb dL_law_804 rfl (lv_at hl 3 rfl) ?_
        refine lv_iconst (v := (3 : Int32)) hx hb dL_law_805 (by decide) ?_
        refine lv_iadd hx hb dL_law_806 ?_
        refine W_topI (nI_add (7 * j) 3).symm ?_
        refine va_sld hx hb hX hbl hbA hS (vp_in_nI (by omega) (by omega)) dL_law_807 ?_
        refine lv_aload_n hx hb dL_law_808 rfl (lv_at hl 0 rfl) ?_
        refine lv_iload_n hx hb dL_law_809 rfl (lv_at hl 3 rfl) ?_
        refine lv_iconst (v := (4 : Int32)) hx hb dL_law_810 (by decide) ?_
        refine lv_iadd hx hb dL_law_811 ?_
        refine W_topI (nI_add (7 * j) 4).symm ?_
        refine va_sld hx hb hX hbl hbA hS (vp_in_nI (by omega) (by omega)) dL_law_812 ?_
        refine lv_aload_n hx hb dL_law_813 rfl (lv_at hl 0 rfl) ?_
        refine lv_iload_n hx hb dL_law_814 rfl (lv_at hl 3 rfl) ?_
        refine lv_iconst (v := (5 : Int32)) hx hb dL_law_815 (by decide) ?_
        refine lv_iadd hx hb dL_law_816 ?_
        refine W_topI (nI_add (7 * j) 5).symm ?_
        refine va_sld hx hb hX hbl hbA hS (vp_in_nI (by omega) (by omega)) dL_law_817 ?_
        refine tw_calli (mc := 0) (ms := 0) (va_runV (As := [.int (xs (nI (7 * j + 1)).toNatClampNeg), .int (xs (nI (7 * j + 2)).toNatClampNeg), .int (xs (nI (7 * j + 3)).toNatClampNeg), .int (xs (nI (7 * j + 4)).toNatClampNeg), .int (xs (nI (7 * j + 5)).toNatClampNeg)]) (rest := []) ⟨hx, hb, hml, hown, hts⟩ (ok_X3_units l D cy adC C _ 0 (xs (nI (7 * j + 1)).toNatClampNeg) (xs (nI (7 * j + 2)).toNatClampNeg) (xs (nI (7 * j + 3)).toNatClampNeg) (xs (nI (7 * j + 4)).toNatClampNeg) (xs (nI (7 * j + 5)).toNatClampNeg) r haC e1) (cwV 5 hts (gdV q353 q354 q355 q85 q356) rfl rfl rfl (by decide +kernel) ⟨Nat.le_of_ble_eq_true rfl, Nat.le_of_ble_eq_true rfl⟩) (pre_V hT.1 hK hN haC ds_1 rfl) rfl rfl hl.1 rfl (lv_room (Nat.le_of_ble_eq_true rfl)) dL_law_818 ⟨law_room1 (k := 0) hj, law_room2 (k := 0) hj⟩) hT hS hA (fun H locs hT hS hk1 => ?_)
        have haC := hk1 _ _ haC
        refine lv_aload_n hx hb dL_law_821 rfl (lv_at hl 2 rfl) ?_
        refine lv_aload_n hx hb dL_law_822 rfl (lv_at hl 0 rfl) ?_
        refine lv_iload_n hx hb dL_law_823 rfl (lv_at hl 3 rfl) ?_
        refine lv_iconst (v := (1 : Int32)) hx hb dL_law_824 (by decide) ?_
        refine lv_iadd hx hb dL_law_825 ?_
        refine W_topI (nI_add (7 * j) 1).symm ?_
        refine va_sld hx hb hX hbl hbA hS (vp_in_nI (by omega) (by omega)) dL_law_826 ?_
        refine lv_aload_n hx hb dL_law_827 rfl (lv_at hl 0 rfl) ?_
        refine lv_iload_n hx hb dL_law_828 rfl (lv_at hl 3 rfl) ?_
        refine lv_iconst (v := (2 : Int32)) hx hb dL_law_829 (by decide) ?_
        refine lv_iadd hx hb dL_law_830 ?_
        refine W_topI (nI_add (7 * j) 2).symm ?_
        refine va_sld hx hb hX hbl hbA hS (vp_in_nI (by omega) (by omega)) dL_law_831 ?_
        refine lv_aload_n hx hb dL_law_832 rfl (lv_at hl 0 rfl) ?_
        refine lv_iload_n hx hb dL_law_833 rfl (lv_at hl 3 rfl) ?_
        refine lv_iconst (v := (3 : Int32)) hx hb dL_law_834 (by decide) ?_
        refine lv_iadd hx hb dL_law_835 ?_
        refine W_topI (nI_add (7 * j) 3).symm ?_
        refine va_sld hx hb hX hbl hbA hS (vp_in_nI (by omega) (by omega)) dL_law_836 ?_
        refine lv_aload_n hx hb dL_law_837 rfl (lv_at hl 0 rfl) ?_
        refine lv_iload_n hx hb dL_law_838 rfl (lv_at hl 3 rfl) ?_
        refine lv_iconst (v := (4 : Int32)) hx hb dL_law_839 (by decide) ?_
        refine lv_iadd hx hb dL_law_840 ?_
        refine W_topI (nI_add (7 * j) 4).symm ?_
        refine va_sld hx hb hX hbl hbA hS (vp_in_nI (by omega) (by omega)) dL_law_841 ?_
        refine lv_aload_n hx hb dL_law_842 rfl (lv_at hl 0 rfl) ?_
        refine lv_iload_n hx hb dL_law_843 rfl (lv_at hl 3 rfl) ?_
        refine lv_iconst (v := (5 : Int32)) hx hb dL_law_844 (by decide) ?_
        refine lv_iadd hx hb dL_law_845 ?_
        refine W_topI (nI_add (7 * j) 5).symm ?_
        refine va_sld hx hb hX hbl hbA hS (vp_in_nI (by omega) (by omega)) dL_law_846 ?_
        refine tw_calli (mc := 0) (ms := 0) (va_runV (As := [.int (xs (nI (7 * j + 1)).toNatClampNeg), .int (xs (nI (7 * j + 2)).toNatClampNeg), .int (xs (nI (7 * j + 3)).toNatClampNeg), .int (xs (nI (7 * j + 4)).toNatClampNeg), .int (xs (nI (7 * j + 5)).toNatClampNeg)]) (rest := [.int r]) ⟨hx, hb, hml, hown, hts⟩ (ok_X4_units l D cy adR R _ 0 (xs (nI (7 * j + 1)).toNatClampNeg) (xs (nI (7 * j + 2)).toNatClampNeg) (xs (nI (7 * j + 3)).toNatClampNeg) (xs (nI (7 * j + 4)).toNatClampNeg) (xs (nI (7 * j + 5)).toNatClampNeg) r R2 haR e2) (cwV 5 hts (gdV q917 q918 q919 q86 q920) rfl rfl rfl (by decide +kernel) ⟨Nat.le_of_ble_eq_true rfl, Nat.le_of_ble_eq_true rfl⟩) (pre_V (TW.sw hT).1 hK hN haR ds_0 rfl) rfl rfl hl.1 rfl (lv_room (Nat.le_of_ble_eq_true rfl)) dL_law_847 ⟨law_room3 (k := 0) hj, law_room4 (k := 0) hj⟩) (TW.sw hT) hS hA (fun H locs hT hS hk2 => ?_)
        have haR := hk2 _ _ haR
        refine lv_icmp_eq (tgt := 912) hx hb dL_law_850 (by decide) (fun _ => ?_) (fun c2 => absurd rfl c2)
        exact fin C R2 adC adR H locs ls _ _ (by omega) (by omega) hI2 haC haR (TW.sw hT) hS hl
      by_cases hc19 : op = (19 : Int32)
      · refine W_topI hc19.symm ?_
        refine lv_tableIn (x := (19 : Int32)) (off := 822) (tgt := 855) hx hb dL_law_33 (by decide) (by decide) (by decide) (by decide) ?_
        obtain ⟨r, e1, e2, hI2⟩ := hsim.2.2.2.2.2.2.2.2.2.2.2.2.2.2.2.2.2.2.2.1 j C R (xs (nI (7 * j + 1)).toNatClampNeg) (xs (nI (7 * j + 2)).toNatClampNeg) hj hI
        refine lv_aload_n hx hb dL_law_855 rfl (lv_at hl 1 rfl) ?_
        refine lv_aload_n hx hb dL_law_856 rfl (lv_at hl 0 rfl) ?_
        refine lv_iload_n hx hb dL_law_857 rfl (lv_at hl 3 rfl) ?_
        refine lv_iconst (v := (1 : Int32)) hx hb dL_law_858 (by decide) ?_
        refine lv_iadd hx hb dL_law_859 ?_
        refine W_topI (nI_add (7 * j) 1).symm ?_
        refine va_sld hx hb hX hbl hbA hS (vp_in_nI (by omega) (by omega)) dL_law_860 ?_
        refine lv_aload_n hx hb dL_law_861 rfl (lv_at hl 0 rfl) ?_
        refine lv_iload_n hx hb dL_law_862 rfl (lv_at hl 3 rfl) ?_
        refine lv_iconst (v := (2 : Int32)) hx hb dL_law_863 (by decide) ?_
        refine lv_iadd hx hb dL_law_864 ?_
        refine W_topI (nI_add (7 * j) 2).symm ?_
        refine va_sld hx hb hX hbl hbA hS (vp_in_nI (by omega) (by omega)) dL_law_865 ?_
        refine tw_calli (mc := 0) (ms := 0) (va_runV (As := [.int (xs (nI (7 * j + 1)).toNatClampNeg), .int (xs (nI (7 * j + 2)).toNatClampNeg)]) (rest := []) ⟨hx, hb, hml, hown, hts⟩ (ok_X3_look l D cy adC C _ 0 (xs (nI (7 * j + 1)).toNatClampNeg) (xs (nI (7 * j + 2)).toNatClampNeg) r haC e1) (cwV 2 hts (gdV q518 q519 q520 q85 q521) rfl rfl rfl (by decide +kernel) ⟨Nat.le_of_ble_eq_true rfl, Nat.le_of_ble_eq_true rfl⟩) (pre_V hT.1 hK hN haC ds_1 rfl) rfl rfl hl.1 rfl (lv_room (Nat.le_of_ble_eq_true rfl)) dL_law_866 ⟨law_room1 (k := 0) hj, law_room2 (k := 0) hj⟩) hT hS hA (fun H locs hT hS hk1 => ?_)
        have haC := hk1 _ _ haC
        refine lv_aload_n hx hb dL_law_869 rfl (lv_at hl 2 rfl) ?_
        refine lv_aload_n hx hb dL_law_870 rfl (lv_at hl 0 rfl) ?_
        refine lv_iload_n hx hb dL_law_871 rfl (lv_at hl 3 rfl) ?_
        refine lv_iconst (v := (1 : Int32)) hx hb dL_law_872 (by decide) ?_
        refine lv_iadd hx hb dL_law_873 ?_
        refine W_topI (nI_add (7 * j) 1).symm ?_
        refine va_sld hx hb hX hbl hbA hS (vp_in_nI (by omega) (by omega)) dL_law_874 ?_
        refine lv_aload_n hx hb dL_law_875 rfl (lv_at hl 0 rfl) ?_
        refine lv_iload_n hx hb dL_law_876 rfl (lv_at hl 3 rfl) ?_
        refine lv_iconst (v := (2 : Int32)) hx hb dL_law_877 (by decide) ?_
        refine lv_iadd hx hb dL_law_878 ?_
        refine W_topI (nI_add (7 * j) 2).symm ?_
        refine va_sld hx hb hX hbl hbA hS (vp_in_nI (by omega) (by omega)) dL_law_879 ?_
        refine tw_calli (mc := 0) (ms := 0) (va_runV (As := [.int (xs (nI (7 * j + 1)).toNatClampNeg), .int (xs (nI (7 * j + 2)).toNatClampNeg)]) (rest := [.int r]) ⟨hx, hb, hml, hown, hts⟩ (ok_X4_look l D cy adR R _ 0 (xs (nI (7 * j + 1)).toNatClampNeg) (xs (nI (7 * j + 2)).toNatClampNeg) r haR e2) (cwV 2 hts (gdV q921 q922 q923 q86 q924) rfl rfl rfl (by decide +kernel) ⟨Nat.le_of_ble_eq_true rfl, Nat.le_of_ble_eq_true rfl⟩) (pre_V (TW.sw hT).1 hK hN haR ds_0 rfl) rfl rfl hl.1 rfl (lv_room (Nat.le_of_ble_eq_true rfl)) dL_law_880 ⟨law_room3 (k := 0) hj, law_room4 (k := 0) hj⟩) (TW.sw hT) hS hA (fun H locs hT hS hk2 => ?_)
        have haR := hk2 _ _ haR
        refine lv_icmp_eq (tgt := 912) hx hb dL_law_883 (by decide) (fun _ => ?_) (fun c2 => absurd rfl c2)
        exact fin C R adC adR H locs ls _ _ (by omega) (by omega) hI2 haC haR (TW.sw hT) hS hl
      by_cases hc20 : op = (20 : Int32)
      · refine W_topI hc20.symm ?_
        refine lv_tableIn (x := (20 : Int32)) (off := 855) (tgt := 888) hx hb dL_law_33 (by decide) (by decide) (by decide) (by decide) ?_
        obtain ⟨r, e1, e2, hI2⟩ := hsim.2.2.2.2.2.2.2.2.2.2.2.2.2.2.2.2.2.2.2.2.1 j C R (xs (nI (7 * j + 1)).toNatClampNeg) hj hI
        refine lv_aload_n hx hb dL_law_888 rfl (lv_at hl 1 rfl) ?_
        refine lv_aload_n hx hb dL_law_889 rfl (lv_at hl 0 rfl) ?_
        refine lv_iload_n hx hb dL_law_890 rfl (lv_at hl 3 rfl) ?_
        refine lv_iconst (v := (1 : Int32)) hx hb dL_law_891 (by decide) ?_
        refine lv_iadd hx hb dL_law_892 ?_
        refine W_topI (nI_add (7 * j) 1).symm ?_
        refine va_sld hx hb hX hbl hbA hS (vp_in_nI (by omega) (by omega)) dL_law_893 ?_
        refine tw_calll (mc := 0) (ms := 0) (va_runV (As := [.int (xs (nI (7 * j + 1)).toNatClampNeg)]) (rest := []) ⟨hx, hb, hml, hown, hts⟩ (ok_X3_count l D cy adC C _ 0 (xs (nI (7 * j + 1)).toNatClampNeg) r haC e1) (cwV 1 hts (gdV q375 q376 q377 q85 q378) rfl rfl rfl (by decide +kernel) ⟨Nat.le_of_ble_eq_true rfl, Nat.le_of_ble_eq_true rfl⟩) (pre_V hT.1 hK hN haC ds_1 rfl) rfl rfl hl.1 rfl (lv_room (Nat.le_of_ble_eq_true rfl)) dL_law_894 ⟨law_room1 (k := 0) hj, law_room2 (k := 0) hj⟩) hT hS hA (fun H locs hT hS hk1 => ?_)
        have haC := hk1 _ _ haC
        refine lv_aload_n hx hb dL_law_897 rfl (lv_at hl 2 rfl) ?_
        refine lv_aload_n hx hb dL_law_898 rfl (lv_at hl 0 rfl) ?_
        refine lv_iload_n hx hb dL_law_899 rfl (lv_at hl 3 rfl) ?_
        refine lv_iconst (v := (1 : Int32)) hx hb dL_law_900 (by decide) ?_
        refine lv_iadd hx hb dL_law_901 ?_
        refine W_topI (nI_add (7 * j) 1).symm ?_
        refine va_sld hx hb hX hbl hbA hS (vp_in_nI (by omega) (by omega)) dL_law_902 ?_
        refine tw_calll (mc := 0) (ms := 0) (va_runV (As := [.int (xs (nI (7 * j + 1)).toNatClampNeg)]) (rest := [.long r]) ⟨hx, hb, hml, hown, hts⟩ (ok_X4_count l D cy adR R _ 0 (xs (nI (7 * j + 1)).toNatClampNeg) r haR e2) (cwV 1 hts (gdV q925 q926 q927 q86 q928) rfl rfl rfl (by decide +kernel) ⟨Nat.le_of_ble_eq_true rfl, Nat.le_of_ble_eq_true rfl⟩) (pre_V (TW.sw hT).1 hK hN haR ds_0 rfl) rfl rfl hl.1 rfl (lv_room (Nat.le_of_ble_eq_true rfl)) dL_law_903 ⟨law_room3 (k := 0) hj, law_room4 (k := 0) hj⟩) (TW.sw hT) hS hA (fun H locs hT hS hk2 => ?_)
        have haR := hk2 _ _ haR
        refine W.lcmp hx hb dL_law_906 ?_
        refine lv_if_eq (tgt := 912) hx hb dL_law_907 (by decide) (fun _ => ?_) (fun c2 => absurd (lg_same r) c2)
        exact fin C R adC adR H locs ls _ _ (by omega) (by omega) hI2 haC haR (TW.sw hT) hS hl
      have hsw : ∀ n : Nat, (n : Int) ≤ (20) - (0) → ¬ op = Int32.ofInt ((0) + (n : Int)) := by
        intro n hn
        have hn2 : n = 0 ∨ n = 1 ∨ n = 2 ∨ n = 3 ∨ n = 4 ∨ n = 5 ∨ n = 6 ∨ n = 7 ∨ n = 8 ∨ n = 9 ∨ n = 10 ∨ n = 11 ∨ n = 12 ∨ n = 13 ∨ n = 14 ∨ n = 15 ∨ n = 16 ∨ n = 17 ∨ n = 18 ∨ n = 19 ∨ n = 20 := by omega
        rcases hn2 with rfl | rfl | rfl | rfl | rfl | rfl | rfl | rfl | rfl | rfl | rfl | rfl | rfl | rfl | rfl | rfl | rfl | rfl | rfl | rfl | rfl
        · exact fun z => hc0 (z.trans (by decide))
        · exact fun z => hc1 (z.trans (by decide))
        · exact fun z => hc2 (z.trans (by decide))
        · exact fun z => hc3 (z.trans (by decide))
        · exact fun z => hc4 (z.trans (by decide))
        · exact fun z => hc5 (z.trans (by decide))
        · exact fun z => hc6 (z.trans (by decide))
        · exact fun z => hc7 (z.trans (by decide))
        · exact fun z => hc8 (z.trans (by decide))
        · exact fun z => hc9 (z.trans (by decide))
        · exact fun z => hc10 (z.trans (by decide))
        · exact fun z => hc11 (z.trans (by decide))
        · exact fun z => hc12 (z.trans (by decide))
        · exact fun z => hc13 (z.trans (by decide))
        · exact fun z => hc14 (z.trans (by decide))
        · exact fun z => hc15 (z.trans (by decide))
        · exact fun z => hc16 (z.trans (by decide))
        · exact fun z => hc17 (z.trans (by decide))
        · exact fun z => hc18 (z.trans (by decide))
        · exact fun z => hc19 (z.trans (by decide))
        · exact fun z => hc20 (z.trans (by decide))
      refine lv_tableOut (tgt := 912) hx hb dL_law_33 (sw_out hsw) (by decide) ?_
      exact fin C R adC adR H locs ls _ _ (by omega) (by omega) (hsim.2.2.2.2.2.2.2.2.2.2.2.2.2.2.2.2.2.2.2.2.2 j C R hj hI) haC haR hT hS hl
set_option maxRecDepth 100000 in
set_option maxHeartbeats 4000000 in
/-- THE LAW, from its entry, over an invariant that is kept -/
theorem start_of {p : Program} {e : Env} {s : State} {m : MethodId} {below : List Frame} {meth : Method} {c : Code} (l : Launch) {b L : Nat} {xs : Nat → Int32} (hL : L ≤ 3584) (C0 : lw_At p s m meth c b L xs) (Inv : Nat → Mm → Mm → Prop) (hsim : SimS Inv) (hini : SimI Inv) : W p l e room_1 s m #[Value.ref b] below meth c s.heap [] 0 0 (lw_Z below #[Value.ref b] s) (entryFrame m ([Value.ref b] : List Value).toArray 4) := by
  obtain ⟨hx, hb, hr, hml, hown, htsL, hX, hbl, hlocks, hgv⟩ := id C0
  have hts : ∀ w ∈ BW, w.before #[Value.ref b] s = true := fun w h => htsL w (BW_tbl w h)
  have hA : ∀ q : Nat, s.heap.size ≤ q → (fun q : Nat => s.heap.size ≤ q) q := fun _ h => h
  obtain ⟨c0, iS0, hKn0⟩ := u_known (C := RX0) (T := TX0) (N := 17) (n := 17) hts inB0 (hts _ q171)
  obtain ⟨c1, iS1, hKn1⟩ := u_known (C := RX1) (T := TX1) (N := 7) (n := 7) hts inB1 (hts _ q123)
  obtain ⟨c2, iS2, hKn2⟩ := u_known (C := RX2) (T := TX2) (N := 7) (n := 7) hts inB2 (hts _ q302)
  obtain ⟨c3, iS3, hKn3⟩ := u_known (C := RX3) (T := TX3) (N := 5) (n := 5) hts inB3 (hts _ q92)
  obtain ⟨c4, iS4, hKn4⟩ := u_known (C := RX4) (T := TX4) (N := 32) (n := 32) hts inB4 (hts _ q600)
  obtain ⟨dC, dI, hKc⟩ : ∃ (dC : Nat → ClassId) (dI : Nat → Nat → Nat), ∀ (k : Nat) (q : vw_C), vwCl[k]? = some q → u_Kn s q.1 q.2.1 q.2.2 (dC k) (dI k) := by
    refine ⟨fun k => if k = 0 then c0 else if k = 1 then c1 else if k = 2 then c2 else if k = 3 then c3 else c4, fun k => if k = 0 then iS0 else if k = 1 then iS1 else if k = 2 then iS2 else if k = 3 then iS3 else iS4, ?_⟩
    intro k q hq
    match k, hq with
    | 0, hq => cases hq; exact hKn0
    | 1, hq => cases hq; exact hKn1
    | 2, hq => cases hq; exact hKn2
    | 3, hq => cases hq; exact hKn3
    | 4, hq => cases hq; exact hKn4
    | k + 5, hq => simp [vwCl] at hq
  obtain ⟨y0, ky0, yc0, g01, g02, g03⟩ := Cond.arrayClass_spec (hts _ q158)
  obtain ⟨y1, ky1, yc1, g11, g12, g13⟩ := Cond.arrayClass_spec (hts _ q703)
  obtain ⟨y2, ky2, yc2, g21, g22, g23⟩ := Cond.arrayClass_spec (hts _ q702)
  have hao3 : (Cond.arrayOver (.object "ToteHouse$Race")).before #[Value.ref b] s = true := htsL _ (List.mem_of_getElem? (i := 100) (by decide +kernel))
  obtain ⟨yo3, y3, ky3, g31, -, g32, g33, g34⟩ := Cond.arrayOver_spec hao3
  have hao4 : (Cond.arrayOver (.object "ToteHouse$Ticket")).before #[Value.ref b] s = true := htsL _ (List.mem_of_getElem? (i := 102) (by decide +kernel))
  obtain ⟨yo4, y4, ky4, g41, -, g42, g43, g44⟩ := Cond.arrayOver_spec hao4
  have hao5 : (Cond.arrayOver (.object "ToteHouse$Pool")).before #[Value.ref b] s = true := htsL _ (List.mem_of_getElem? (i := 129) (by decide +kernel))
  obtain ⟨yo5, y5, ky5, g51, -, g52, g53, g54⟩ := Cond.arrayOver_spec hao5
  obtain ⟨cy, hcy⟩ : ∃ cy : Nat → ClassId, cy 0 = y0 ∧ cy 1 = y1 ∧ cy 2 = y2 ∧ cy 3 = y3 ∧ cy 4 = y4 ∧ cy 5 = y5 := ⟨fun k => if k = 0 then y0 else if k = 1 then y1 else if k = 2 then y2 else if k = 3 then y3 else if k = 4 then y4 else y5, rfl, rfl, rfl, rfl, rfl, rfl⟩
  obtain ⟨rfl, rfl, rfl, rfl, rfl, rfl⟩ := hcy
  have hK : va_K (dC, dI) vwCl (tysOf cy) s := by
    refine ⟨hKc, fun k q hq => ?_⟩
    match k, hq with
    | 0, hq => cases hq; exact ⟨fun n z => ⟨(fun k h => by cases h), ky0, g02, yc0, g03⟩, g01⟩
    | 1, hq => cases hq; exact ⟨fun n z => ⟨(fun k h => by cases h), ky1, g12, yc1, g13⟩, g11⟩
    | 2, hq => cases hq; exact ⟨fun n z => ⟨(fun k h => by cases h), ky2, g22, yc2, g23⟩, g21⟩
    | 3, hq => cases hq; exact ⟨fun n z => ⟨(fun k h => by cases h), ky3, g32, yo3, g33⟩, ky3, yo3, g32, g33, g31, g34⟩
    | 4, hq => cases hq; exact ⟨fun n z => ⟨(fun k h => by cases h), ky4, g42, yo4, g43⟩, ky4, yo4, g42, g43, g41, g44⟩
    | 5, hq => cases hq; exact ⟨fun n z => ⟨(fun k h => by cases h), ky5, g52, yo5, g53⟩, ky5, yo5, g52, g53, g51, g54⟩
    | k + 6, hq => simp [tysOf] at hq
  have hN : NW s := by
    have h1 : ∀ q ∈ nwF, (Cond.fieldLinkNest q.1 q.2.1 q.2.2.1 q.2.2.2.1 q.2.2.2.2.1 q.2.2.2.2.2) ∈ lw_tbl := by decide +kernel
    have h2 : ∀ q ∈ nwM, (Cond.methodLinkNest q.1 q.2.1 q.2.2.1 q.2.2.2) ∈ lw_tbl := by decide +kernel
    exact ⟨fun q hq => va_Nw.of rfl (htsL _ (h1 q hq)), fun q hq => va_Nw.of rfl (htsL _ (h2 q hq)), va_AO.of hao5, va_AO.of hao3, va_AO.of hao4⟩
  have hS : va_S (fun q : Nat => s.heap.size ≤ q) s.heap s.heap [] := va_S.rf
  have m0 : ∀ s i : Nat, mA M00 s i = true → False := fun s i h => by
    have h' : false = true := h
    cases h'
  have hT0 : HP (dC, dI) cy (fun q : Nat => s.heap.size ≤ q) (fun _ _ => 0) M00 s.heap := ⟨fun s i h => (m0 s i h).elim, fun s i _ _ h => (m0 s i h).elim, fun s i _ _ h => (m0 s i h).elim, fun s i h => (m0 s i h).elim⟩
  have hT : TW (dC, dI) cy (fun q : Nat => s.heap.size ≤ q) (fun _ _ => 0) M00 (fun _ _ => 0) M00 s.heap := ⟨hT0, hT0, fun s i _ _ h => (m0 s i h).elim⟩
  have hl := lv_entry ([.ref b]) (n := 4) (Nat.le_of_ble_eq_true rfl)
  rw [lg_entry_eq]
  generalize (lg_sl ([.ref b]) ++ List.replicate (4 - (lg_sl ([.ref b])).length) Slot.unset).toArray = ls at hl ⊢
  have hl : lv_has ls 4 [(0, .ref b)] := hl
  obtain ⟨C1, R1, e1, e2, hI⟩ := hini
  refine tw_new (s0 := 1) (i := 0) hx hb hts inB3 tyX3 tyX3_ok hown (hts _ q91) (hts _ q92) (hts _ q85) hK hT hS hA rfl ds_1 rfl ze1 rfl (Nat.le_of_ble_eq_true rfl) (Nat.le_of_ble_eq_true rfl) dL_law_0 (fun adC H hT hg1 hS => ?_)
  refine lv_dup hx hb dL_law_3 rfl ?_
  have haC : mA (nA M00 1 0) 1 0 = true := nA_at rfl
  refine tw_callva (mc := 2) (ms := 613) (va_runI (As := []) (rest := [.ref (adC 1 0)]) ⟨hx, hb, hml, hown, hts⟩ (ok_X3_init l (dC, dI) cy adC _ _ 0 C1 haC e1) (cwI 0 hts (gd0 q95) rfl rfl rfl (hts _ q85) (hts _ q93) (hts _ q94) rfl (by decide +kernel) ⟨Nat.le_of_ble_eq_true rfl, Nat.le_of_ble_eq_true rfl⟩) (pre_S hT.1 hK hN) rfl rfl hl.1 rfl (lv_room (Nat.le_of_ble_eq_true rfl)) dL_law_4 ⟨Nat.le_of_ble_eq_true rfl, Nat.le_of_ble_eq_true rfl⟩) hT hS hA (fun adC2 H locs hT hS hk1 hg2 => ?_)
  have haC2 := hk1 _ _ haC
  refine W_stk (st := [.ref (adC 1 0)]) (st' := [.ref (adC2 1 0)]) (by rw [hg2 _ _ haC]) ?_
  refine lv_astore_n (lv' := [(1, .ref (adC2 1 0)), (0, .ref b)]) hx hb dL_law_7 rfl hl (by decide) rfl (fun ls hl => ?_)
  refine tw_new (s0 := 0) (i := 0) hx hb hts inB4 tyX4 tyX4_ok hown (hts _ q599) (hts _ q600) (hts _ q86) hK (TW.sw hT) hS hA rfl ds_0 rfl ze0 rfl (Nat.le_of_ble_eq_true rfl) (Nat.le_of_ble_eq_true rfl) dL_law_8 (fun adR H hT hg3 hS => ?_)
  refine lv_dup hx hb dL_law_11 rfl ?_
  have haR : mA (nA M00 0 0) 0 0 = true := nA_at rfl
  refine tw_callva (mc := 24) (ms := 5853) (va_runI (As := []) (rest := [.ref (adR 0 0)]) ⟨hx, hb, hml, hown, hts⟩ (ok_X4_init l (dC, dI) cy adR _ _ 0 R1 haR e2) (cwI 0 hts (gd0 q603) rfl rfl rfl (hts _ q86) (hts _ q601) (hts _ q602) rfl (by decide +kernel) ⟨Nat.le_of_ble_eq_true rfl, Nat.le_of_ble_eq_true rfl⟩) (pre_S hT.1 hK hN) rfl rfl hl.1 rfl (lv_room (Nat.le_of_ble_eq_true rfl)) dL_law_12 ⟨Nat.le_of_ble_eq_true rfl, Nat.le_of_ble_eq_true rfl⟩) hT hS hA (fun adR2 H locs hT hS hk2 hg4 => ?_)
  have haR2 := hk2 _ _ haR
  refine W_stk (st := [.ref (adR 0 0)]) (st' := [.ref (adR2 0 0)]) (by rw [hg4 _ _ haR]) ?_
  refine lv_astore_n (lv' := [(2, .ref (adR2 0 0)), (1, .ref (adC2 1 0)), (0, .ref b)]) hx hb dL_law_15 rfl hl (by decide) rfl (fun ls hl => ?_)
  refine lv_iconst (v := (0 : Int32)) hx hb dL_law_16 (by decide) ?_
  refine lv_istore_n (lv' := [(3, .int (0 : Int32)), (2, .ref (adR2 0 0)), (1, .ref (adC2 1 0)), (0, .ref b)]) hx hb dL_law_17 rfl hl (by decide) rfl (fun ls hl => ?_)
  refine W.widen (k := 40 + 3 * 0) (n := 9000 + 36 * 0) (Nat.le_of_ble_eq_true rfl) (Nat.le_of_ble_eq_true rfl) ?_
  exact law_loop hL C0 hK hN Inv hsim (L + 1) 0 C1 R1 adC2 adR2 _ _ _ (by omega) (by omega) hI haC2 haR2 (TW.sw hT) hS (lv_sub hl [3, 2, 1, 0] rfl)
