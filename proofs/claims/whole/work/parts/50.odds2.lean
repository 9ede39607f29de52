/-! ===== odds: the model's reckoning comes to the house's ===== -/
theorem dvd_W {kind unit N k W W' u : Nat} (h : kind ≠ 1) : dvd kind unit N k W u = dvd kind unit N k W' u := by
  unfold dvd
  rw [if_pos h, if_pos h]
theorem wth_f {S : SV} {f : Nat → Nat} {r n b : Nat} : wth (w14 S f) r n b ↔ (0 < f (25 * r + n) ∧ f (25 * r + n) ≤ b) := Iff.rfl
/-- a live ticket's names, as the supposed day has them -/
theorem wn_w14 {S : SV} {f : Nat → Nat} {p t : Nat} (hp : S 27 t = p) : wnT (w14 S f) t ↔ wns (w14 S f) p (S 28 (3 * t)) (S 28 (3 * t + 1)) (S 28 (3 * t + 2)) := by
  show wns (w14 S f) (S 27 t) (S 28 (3 * t)) (S 28 (3 * t + 1)) (S 28 (3 * t + 2)) ↔ _
  rw [hp]
theorem same_k1 {S : SV} {t p x : Nat} {b c : Int32} (hm : mny p = 1) (hk : kd p ≠ 2) (hn : S 28 (3 * t) ≤ 24) (hx : x < 2 ^ 31) : sameT S t p (nI x) b c ↔ (S 27 t = p ∧ S 28 (3 * t) = x) := by
  constructor
  · rintro ⟨hp, h | h⟩
    · exact absurd h.1 hk
    · exact ⟨hp, (nI_e (by omega) hx).mp h.1⟩
  · rintro ⟨hp, h⟩
    exact ⟨hp, Or.inr ⟨by rw [h], Or.inl (by omega), Or.inl (by omega)⟩⟩
theorem same_k2 {S : SV} {t p x y : Nat} {c : Int32} (hk : kd p = 2) (hm : mny p = 2) (n0 : S 28 (3 * t) ≤ 24) (n1 : S 28 (3 * t + 1) ≤ 24) (hx : x < 2 ^ 31) (hy : y < 2 ^ 31) : sameT S t p (nI x) (nI y) c ↔ (S 27 t = p ∧ ((S 28 (3 * t) = y ∧ S 28 (3 * t + 1) = x) ∨ (S 28 (3 * t) = x ∧ S 28 (3 * t + 1) = y))) := by
  constructor
  · rintro ⟨hp, h | h⟩
    · exact ⟨hp, Or.inl ⟨(nI_e (by omega) hy).mp h.2.1, (nI_e (by omega) hx).mp h.2.2⟩⟩
    · exact ⟨hp, Or.inr ⟨(nI_e (by omega) hx).mp h.1, (nI_e (by omega) hy).mp (h.2.1.resolve_left (by omega))⟩⟩
  · rintro ⟨hp, h | h⟩
    · exact ⟨hp, Or.inl ⟨hk, by rw [h.1], by rw [h.2]⟩⟩
    · exact ⟨hp, Or.inr ⟨by rw [h.1], Or.inr (by rw [h.2]), Or.inl (by omega)⟩⟩
theorem same_k3 {S : SV} {t p x y z : Nat} (hk : kd p = 3) (hm : mny p = 3) (n0 : S 28 (3 * t) ≤ 24) (n1 : S 28 (3 * t + 1) ≤ 24) (n2 : S 28 (3 * t + 2) ≤ 24) (hx : x < 2 ^ 31) (hy : y < 2 ^ 31) (hz : z < 2 ^ 31) : sameT S t p (nI x) (nI y) (nI z) ↔ (S 27 t = p ∧ S 28 (3 * t) = x ∧ S 28 (3 * t + 1) = y ∧ S 28 (3 * t + 2) = z) := by
  constructor
  · rintro ⟨hp, h | h⟩
    · omega
    · exact ⟨hp, (nI_e (by omega) hx).mp h.1, (nI_e (by omega) hy).mp (h.2.1.resolve_left (by omega)), (nI_e (by omega) hz).mp (h.2.2.resolve_left (by omega))⟩
  · rintro ⟨hp, h0, h1, h2⟩
    exact ⟨hp, Or.inr ⟨by rw [h0], Or.inr (by rw [h1]), Or.inr (by rw [h2])⟩⟩
theorem same_k4 {S : SV} {t p x y : Nat} {c : Int32} (hk : kd p = 4) (hm : mny p = 2) (n0 : S 28 (3 * t) ≤ 24) (n1 : S 28 (3 * t + 1) ≤ 24) (hx : x < 2 ^ 31) (hy : y < 2 ^ 31) : sameT S t p (nI x) (nI y) c ↔ (S 27 t = p ∧ S 28 (3 * t) = x ∧ S 28 (3 * t + 1) = y) := by
  constructor
  · rintro ⟨hp, h | h⟩
    · omega
    · exact ⟨hp, (nI_e (by omega) hx).mp h.1, (nI_e (by omega) hy).mp (h.2.1.resolve_left (by omega))⟩
  · rintro ⟨hp, h0, h1⟩
    exact ⟨hp, Or.inr ⟨by rw [h0], Or.inr (by rw [h1]), Or.inl (by omega)⟩⟩
theorem mny_v (p : Nat) : (kd p = 0 → mny p = 1) ∧ (kd p = 1 → mny p = 1) ∧ (kd p = 2 → mny p = 2) ∧ (kd p = 3 → mny p = 3) ∧ (kd p = 4 → mny p = 2) := by
  unfold mny
  refine ⟨fun h => ?_, fun h => ?_, fun h => ?_, fun h => ?_, fun h => ?_⟩ <;> rw [h] <;> rfl
/-- the value -/
theorem odds_val {S : SV} {k p x y z : Nat} {f : Nat → Nat} (g1 : GA S) (g2 : GP S) (g : GT S k) (hp : S 15 p = 1) (hc : cfnN S p x y z) (ny : 0 ≤ (nI y).toInt → (y : Int) = (nI y).toInt) (nz : 0 ≤ (nI z).toInt → (z : Int) = (nI z).toInt) (hf : SUP S p x y z f) (hu : uo S p (nI x) (nI y) (nI z) ≠ 0) : (if kd p ≠ 3 ∧ wk (w14 S f) p = 0 then 0 else if wns (w14 S f) p x y z then dvd (kd p) (S 17 p) (net S p) (wk (w14 S f) p) (wu (w14 S f) p) (uo S p (nI x) (nI y) (nI z)) else 0) = ifF S p (nI x) (nI y) (nI z) := by
  obtain ⟨t0, ht0, hc0, hs0⟩ := uo_ex hu
  obtain ⟨st, tw⟩ := live_ok g1 g ht0 hc0 hs0
  obtain ⟨m0, m1, m2, m3, m4⟩ := mny_v p
  have hm := mny_kd p
  have hg : ∀ {a b c : Int32}, grp (w14 S f) p a b c = if uo S p a b c = 0 then 0 else 1 := grp_eq (S := w14 S f) (k := k) g
  have nt := fun t (ht : t < S 0 19) => (show S 28 (3 * t) ≤ 24 from GT_n g g1 ht (j := 0) (by omega))
  have nt1 := fun t (ht : t < S 0 19) => GT_n g g1 ht (j := 1) (by omega)
  have nt2 := fun t (ht : t < S 0 19) => GT_n g g1 ht (j := 2) (by omega)
  have ifv : ∀ V, ifF S p (nI x) (nI y) (nI z) = V ↔ (if kd p ≠ 1 then dvd (kd p) (S 17 p) (net S p) 1 (uo S p (nI x) (nI y) (nI z)) (uo S p (nI x) (nI y) (nI z)) else if lwp S (ro S p 0) < 2 then 0 else dvd 1 (S 17 p) (net S p) (1 + e1u (uo S p (nI y) 0 0) + (if lwp S (ro S p 0) < 3 then 0 else e1u (uo S p (nI z) 0 0))) (uo S p (nI x) (nI y) (nI z) + uo S p (nI y) 0 0 + (if lwp S (ro S p 0) < 3 then 0 else uo S p (nI z) 0 0)) (uo S p (nI x) (nI y) (nI z))) = V := fun V => by
    unfold ifF
    rw [if_neg hu]
  refine Eq.symm ((ifv _).mpr ?_)
  rcases kd_5 p with q | q | q | q | q
  · -- WIN
    have n52 : p ≠ 52 := kd_n52 (by omega)
    obtain ⟨⟨x1, x2, x3⟩, -, -⟩ := hc.1 n52
    have hl := GA_10 g1 (p / 4)
    have hpos := hf.2.2.1 n52
    have er : ro S p 0 = p / 4 := ro_n52 n52
    have h1 := wk_one (S := w14 S f) (p := p) (a := nI x) (b := nI y) (c := nI z) (fun t ht hct htp => by
      have ht' : t < S 0 19 := ht
      have htp' : S 27 t = p := htp
      have lr := live_rn (j := 0) g ht' hct (by rw [htp', m0 q]; omega)
      rw [htp', er, Nat.add_zero] at lr
      rw [wn_w14 htp', wns_0 q, wth_f]
      show (0 < f (25 * ro S p 0 + _) ∧ f (25 * ro S p 0 + _) ≤ 1) ↔ sameT S t p (nI x) (nI y) (nI z)
      rw [er, same_k1 (m0 q) (by omega) (nt t ht') (by omega), hpos _ lr.1 lr.2.1]
      refine ⟨fun w => ⟨htp', pos_1.mp (show pos x y z (rng S (p / 4)) (S 28 (3 * t)) = 1 by omega)⟩, fun w => ?_⟩
      have := (pos_1 (x := x) (y := y) (z := z) (m := rng S (p / 4))).mpr w.2
      omega)
    have hw : wns (w14 S f) p x y z := by
      rw [wns_0 q, wth_f]
      show (0 < f (25 * ro S p 0 + _) ∧ f (25 * ro S p 0 + _) ≤ 1)
      rw [er, hpos _ x1 x2, (pos_1 (x := x)).mpr rfl]
      omega
    rw [if_pos (c := kd p ≠ 1) (by omega), h1.1, hg, if_neg hu, if_neg (c := kd p ≠ 3 ∧ 1 = 0) (by omega), if_pos hw]
    exact dvd_W (by omega)
  · -- PLACE
    have n52 : p ≠ 52 := kd_n52 (by omega)
    obtain ⟨⟨x1, x2, x3⟩, cy, cz⟩ := hc.1 n52
    have hl := GA_10 g1 (p / 4)
    have hpos := hf.2.2.1 n52
    have er : ro S p 0 = p / 4 := ro_n52 n52
    have elw : lwp (w14 S f) (ro (w14 S f) p 0) = lwp S (p / 4) := by rw [← er]; rfl
    rw [if_neg (c := kd p ≠ 1) (fun w => w q), er]
    by_cases c5 : rng S (p / 4) < 5
    · have hv : wk (w14 S f) p = 0 := wk_void q (by show rng S (ro S p 0) < 5; rw [er]; exact c5)
      rw [if_pos (c := kd p ≠ 3 ∧ wk (w14 S f) p = 0) ⟨by omega, hv⟩, lwp_0 c5, if_pos (by omega)]
    · obtain ⟨⟨y1, y2, y3⟩, y4⟩ := cy (by omega)
      obtain ⟨⟨z1, z2, z3⟩, z4, z5⟩ := cz (by omega)
      have wv : ∀ b t, t < S 0 19 → cntT S t → S 27 t = p → (wth (w14 S f) (ro (w14 S f) p 0) (S 28 (3 * t)) b ↔ (0 < pos x y z (rng S (p / 4)) (S 28 (3 * t)) ∧ pos x y z (rng S (p / 4)) (S 28 (3 * t)) ≤ b)) := fun b t ht hct htp => by
        have lr := live_rn (j := 0) g ht hct (by rw [htp, m1 q]; omega)
        rw [htp, er, Nat.add_zero] at lr
        rw [wth_f]
        show (0 < f (25 * ro S p 0 + _) ∧ f (25 * ro S p 0 + _) ≤ b) ↔ _
        rw [er, hpos _ lr.1 lr.2.1]
      have hw : ∀ b, 1 ≤ b → wth (w14 S f) (ro (w14 S f) p 0) x b := fun b hb => by
        rw [wth_f]
        show (0 < f (25 * ro S p 0 + _) ∧ f (25 * ro S p 0 + _) ≤ b)
        rw [er, hpos _ x1 x2, (pos_1 (x := x)).mpr rfl]
        omega
      have sx : ∀ t b c w, t < S 0 19 → w < 2 ^ 31 → (sameT S t p (nI w) b c ↔ (S 27 t = p ∧ S 28 (3 * t) = w)) := fun t b c w ht hw2 => same_k1 (m1 q) (by omega) (nt t ht) hw2
      by_cases c8 : rng S (p / 4) < 8
      · have l2 : lwp S (p / 4) = 2 := by
          unfold lwp
          rw [if_neg (by omega), if_pos (by omega)]
        have h2 := wk_two (S := w14 S f) (p := p) (a := nI x) (b := nI y) (c := nI z) (a' := nI y) (b' := 0) (c' := 0) (fun t ht hct htp => by
          have ht' : t < S 0 19 := ht
          have htp' : S 27 t = p := htp
          rw [wn_w14 htp', wns_1 q, elw, l2, wv 2 t ht' hct htp']
          show _ ↔ (sameT S t p (nI x) (nI y) (nI z) ∨ sameT S t p (nI y) 0 0)
          rw [sx t _ _ x ht' (by omega), sx t _ _ y ht' (by omega)]
          constructor
          · intro w
            have : pos x y z (rng S (p / 4)) (S 28 (3 * t)) = 1 ∨ pos x y z (rng S (p / 4)) (S 28 (3 * t)) = 2 := by omega
            rcases this with u | u
            · exact Or.inl ⟨htp', pos_1.mp u⟩
            · exact Or.inr ⟨htp', ((pos_2 y4).mp u).2⟩
          · rintro (w | w)
            · have := (pos_1 (x := x) (y := y) (z := z) (m := rng S (p / 4))).mpr w.2
              omega
            · have := (pos_2 (x := x) (y := y) (z := z) (m := rng S (p / 4)) y4).mpr ⟨by omega, w.2⟩
              omega) (fun t s1 s2 => by
          have s1' : sameT S t p (nI x) (nI y) (nI z) := s1
          have s2' : sameT S t p (nI y) 0 0 := s2
          rcases s1'.2 with u | u
          · omega
          · rcases s2'.2 with v | v
            · omega
            · exact y4 ((nI_e (by omega) (by omega)).mp (v.1.symm.trans u.1)))
        have hk1 : wk (w14 S f) p = 1 + e1u (uo S p (nI y) 0 0) := by
          rw [h2.1, hg, hg, if_neg hu]; rfl
        rw [if_neg (c := kd p ≠ 3 ∧ wk (w14 S f) p = 0) (by omega), if_pos (c := wns (w14 S f) p x y z) (by rw [wns_1 q, elw, l2]; exact hw 2 (by omega)), l2, if_neg (c := 2 < 2) (by omega), if_pos (c := 2 < 3) (by omega), if_pos (c := 2 < 3) (by omega), hk1, h2.2, q]
        rfl
      · have l3 : lwp S (p / 4) = 3 := by
          unfold lwp
          rw [if_pos (by omega)]
        have h3 := wk_three (S := w14 S f) (p := p) (a := nI x) (b := nI y) (c := nI z) (a' := nI y) (b' := 0) (c' := 0) (a2 := nI z) (b2 := 0) (c2 := 0) (fun t ht hct htp => by
          have ht' : t < S 0 19 := ht
          have htp' : S 27 t = p := htp
          rw [wn_w14 htp', wns_1 q, elw, l3, wv 3 t ht' hct htp']
          show _ ↔ (sameT S t p (nI x) (nI y) (nI z) ∨ sameT S t p (nI y) 0 0 ∨ sameT S t p (nI z) 0 0)
          rw [sx t _ _ x ht' (by omega), sx t _ _ y ht' (by omega), sx t _ _ z ht' (by omega)]
          constructor
          · intro w
            have : pos x y z (rng S (p / 4)) (S 28 (3 * t)) = 1 ∨ pos x y z (rng S (p / 4)) (S 28 (3 * t)) = 2 ∨ pos x y z (rng S (p / 4)) (S 28 (3 * t)) = 3 := by omega
            rcases this with u | u | u
            · exact Or.inl ⟨htp', pos_1.mp u⟩
            · exact Or.inr (Or.inl ⟨htp', ((pos_2 y4).mp u).2⟩)
            · exact Or.inr (Or.inr ⟨htp', ((pos_3 z4 (fun _ => z5)).mp u).2⟩)
          · rintro (w | w | w)
            · have := (pos_1 (x := x) (y := y) (z := z) (m := rng S (p / 4))).mpr w.2
              omega
            · have := (pos_2 (x := x) (y := y) (z := z) (m := rng S (p / 4)) y4).mpr ⟨by omega, w.2⟩
              omega
            · have := (pos_3 (x := x) (y := y) (z := z) (m := rng S (p / 4)) z4 (fun _ => z5)).mpr ⟨by omega, w.2⟩
              omega) (fun t s1 => by
          have s1' : sameT S t p (nI x) (nI y) (nI z) := s1
          rcases s1'.2 with u | u
          · omega
          · refine ⟨fun s2 => ?_, fun s2 => ?_⟩
            · have s2' : sameT S t p (nI y) 0 0 := s2
              rcases s2'.2 with v | v
              · omega
              · exact y4 ((nI_e (by omega) (by omega)).mp (v.1.symm.trans u.1))
            · have s2' : sameT S t p (nI z) 0 0 := s2
              rcases s2'.2 with v | v
              · omega
              · exact z4 ((nI_e (by omega) (by omega)).mp (v.1.symm.trans u.1))) (fun t s1 s2 => by
          have s1' : sameT S t p (nI y) 0 0 := s1
          have s2' : sameT S t p (nI z) 0 0 := s2
          rcases s1'.2 with u | u
          · omega
          · rcases s2'.2 with v | v
            · omega
            · exact z5 ((nI_e (by omega) (by omega)).mp (v.1.symm.trans u.1)))
        have hk1 : wk (w14 S f) p = 1 + e1u (uo S p (nI y) 0 0) + e1u (uo S p (nI z) 0 0) := by
          rw [h3.1, hg, hg, hg, if_neg hu]; rfl
        rw [if_neg (c := kd p ≠ 3 ∧ wk (w14 S f) p = 0) (by omega), if_pos (c := wns (w14 S f) p x y z) (by rw [wns_1 q, elw, l3]; exact hw 3 (by omega)), l3, if_neg (c := 3 < 2) (by omega), if_neg (c := 3 < 3) (by omega), if_neg (c := 3 < 3) (by omega), hk1, h3.2, q]
        rfl
  · -- PAIR
    have n52 : p ≠ 52 := kd_n52 (by omega)
    obtain ⟨⟨x1, x2, x3⟩, cy, -⟩ := hc.1 n52
    have hl := GA_10 g1 (p / 4)
    have hpos := hf.2.2.1 n52
    have er : ro S p 0 = p / 4 := ro_n52 n52
    have er1 : ro S p 1 = p / 4 := ro_n52 n52
    have mm : 2 ≤ mny p := hm.1.mpr (by omega)
    have sy := st.2.1 mm
    rw [er1] at sy
    have yv := ny (by have := sy.1.1; omega)
    have ry : rn S (p / 4) y := rn_I2 g1 sy (by have := sy.1.2; omega)
    have hne : y ≠ x := fun e => tw ⟨n52, Or.inl ⟨mm, by rw [e]⟩⟩
    have r2 := rng_2 (S := S) (r := p / 4) ⟨x1, x2, x3⟩ ry (Ne.symm hne)
    have ry1 := ry.1
    have ry2 := ry.2.1
    have w2 : ∀ n, 1 ≤ n → n ≤ S 10 (p / 4) → (wth (w14 S f) (ro (w14 S f) p 0) n 2 ↔ (n = x ∨ n = y)) := fun n n1 n2 => by
      rw [wth_f]
      show (0 < f (25 * ro S p 0 + _) ∧ f (25 * ro S p 0 + _) ≤ 2) ↔ _
      rw [er, hpos _ n1 n2]
      constructor
      · intro w
        have : pos x y z (rng S (p / 4)) n = 1 ∨ pos x y z (rng S (p / 4)) n = 2 := by omega
        rcases this with u | u
        · exact Or.inl (pos_1.mp u)
        · exact Or.inr ((pos_2 hne).mp u).2
      · rintro (w | w)
        · have := (pos_1 (x := x) (y := y) (z := z) (m := rng S (p / 4))).mpr w
          omega
        · have := (pos_2 (x := x) (y := y) (z := z) (m := rng S (p / 4)) hne).mpr ⟨r2, w⟩
          omega
    have w1 : ∀ n, 1 ≤ n → n ≤ S 10 (p / 4) → (wth (w14 S f) (ro (w14 S f) p 0) n 1 ↔ n = x) := fun n n1 n2 => by
      rw [wth_f]
      show (0 < f (25 * ro S p 0 + _) ∧ f (25 * ro S p 0 + _) ≤ 1) ↔ _
      rw [er, hpos _ n1 n2]
      refine ⟨fun w => pos_1.mp (show pos x y z (rng S (p / 4)) n = 1 by omega), fun w => ?_⟩
      have := (pos_1 (x := x) (y := y) (z := z) (m := rng S (p / 4))).mpr w
      omega
    have h1 := wk_one (S := w14 S f) (p := p) (a := nI x) (b := nI y) (c := nI z) (fun t ht hct htp => by
      have ht' : t < S 0 19 := ht
      have htp' : S 27 t = p := htp
      have lr := live_rn (j := 0) g ht' hct (by rw [htp', m2 q]; omega)
      have lr1 := live_rn (j := 1) g ht' hct (by rw [htp', m2 q]; omega)
      have hd := ((g.2.2.1 t ht').2.2.2.2.2 (by rw [htp']; exact n52)).1 (by rw [htp']; exact mm)
      rw [htp', er, Nat.add_zero] at lr
      rw [htp', er1] at lr1
      rw [wn_w14 htp', wns_2 q, w2 _ lr.1 lr.2.1, w2 _ lr1.1 lr1.2.1, w1 _ lr.1 lr.2.1, w1 _ lr1.1 lr1.2.1]
      show _ ↔ sameT S t p (nI x) (nI y) (nI z)
      rw [same_k2 q (m2 q) (nt t ht') (nt1 t ht') (by omega) (by omega)]
      have e30 : S 28 (3 * t + 0) = S 28 (3 * t) := rfl
      constructor
      · intro w
        refine ⟨htp', ?_⟩
        omega
      · intro w
        omega)
    have hw : wns (w14 S f) p x y z := by
      rw [wns_2 q, w2 _ x1 x2, w2 _ ry1 ry2, w1 _ x1 x2]
      exact ⟨Or.inl rfl, Or.inr rfl, Or.inl rfl⟩
    rw [if_pos (c := kd p ≠ 1) (by omega), h1.1, hg, if_neg hu, if_neg (c := kd p ≠ 3 ∧ 1 = 0) (by omega), if_pos hw]
    exact dvd_W (by omega)
  · -- ORDER
    have n52 : p ≠ 52 := kd_n52 (by omega)
    obtain ⟨⟨x1, x2, x3⟩, cy, -⟩ := hc.1 n52
    have hl := GA_10 g1 (p / 4)
    have hpos := hf.2.2.1 n52
    have er : ro S p 0 = p / 4 := ro_n52 n52
    have er1 : ro S p 1 = p / 4 := ro_n52 n52
    have er2 : ro S p 2 = p / 4 := ro_n52 n52
    have mm3 : 3 ≤ mny p := hm.2.mpr q
    have mm : 2 ≤ mny p := by omega
    have sy := st.2.1 mm
    have sz := st.2.2 mm3
    rw [er1] at sy
    rw [er2] at sz
    have yv := ny (by have := sy.1.1; omega)
    have zv := nz (by have := sz.1.1; omega)
    have ry : rn S (p / 4) y := rn_I2 g1 sy (by have := sy.1.2; omega)
    have rz : rn S (p / 4) z := rn_I2 g1 sz (by have := sz.1.2; omega)
    have hne : y ≠ x := fun e => tw ⟨n52, Or.inl ⟨mm, by rw [e]⟩⟩
    have hzx : z ≠ x := fun e => tw ⟨n52, Or.inr ⟨mm3, Or.inl (by rw [e])⟩⟩
    have hzy : z ≠ y := fun e => tw ⟨n52, Or.inr ⟨mm3, Or.inr (by rw [e])⟩⟩
    have r3 := rng_3 (S := S) (r := p / 4) ⟨x1, x2, x3⟩ ry rz (Ne.symm hne) (Ne.symm hzx) (Ne.symm hzy)
    have ry1 := ry.1
    have ry2 := ry.2.1
    have rz1 := rz.1
    have rz2 := rz.2.1
    have w3 : ∀ n, 1 ≤ n → n ≤ S 10 (p / 4) → (wth (w14 S f) (ro (w14 S f) p 0) n 3 ↔ (n = x ∨ n = y ∨ n = z)) := fun n n1 n2 => by
      rw [wth_f]
      show (0 < f (25 * ro S p 0 + _) ∧ f (25 * ro S p 0 + _) ≤ 3) ↔ _
      rw [er, hpos _ n1 n2]
      constructor
      · intro w
        have : pos x y z (rng S (p / 4)) n = 1 ∨ pos x y z (rng S (p / 4)) n = 2 ∨ pos x y z (rng S (p / 4)) n = 3 := by omega
        rcases this with u | u | u
        · exact Or.inl (pos_1.mp u)
        · exact Or.inr (Or.inl ((pos_2 hne).mp u).2)
        · exact Or.inr (Or.inr ((pos_3 hzx (fun _ => hzy)).mp u).2)
      · rintro (w | w | w)
        · have := (pos_1 (x := x) (y := y) (z := z) (m := rng S (p / 4))).mpr w
          omega
        · have := (pos_2 (x := x) (y := y) (z := z) (m := rng S (p / 4)) hne).mpr ⟨by omega, w⟩
          omega
        · have := (pos_3 (x := x) (y := y) (z := z) (m := rng S (p / 4)) hzx (fun _ => hzy)).mpr ⟨r3, w⟩
          omega
    have w2 : ∀ n, 1 ≤ n → n ≤ S 10 (p / 4) → (wth (w14 S f) (ro (w14 S f) p 0) n 2 ↔ (n = x ∨ n = y)) := fun n n1 n2 => by
      rw [wth_f]
      show (0 < f (25 * ro S p 0 + _) ∧ f (25 * ro S p 0 + _) ≤ 2) ↔ _
      rw [er, hpos _ n1 n2]
      constructor
      · intro w
        have : pos x y z (rng S (p / 4)) n = 1 ∨ pos x y z (rng S (p / 4)) n = 2 := by omega
        rcases this with u | u
        · exact Or.inl (pos_1.mp u)
        · exact Or.inr ((pos_2 hne).mp u).2
      · rintro (w | w)
        · have := (pos_1 (x := x) (y := y) (z := z) (m := rng S (p / 4))).mpr w
          omega
        · have := (pos_2 (x := x) (y := y) (z := z) (m := rng S (p / 4)) hne).mpr ⟨by omega, w⟩
          omega
    have w1 : ∀ n, 1 ≤ n → n ≤ S 10 (p / 4) → (wth (w14 S f) (ro (w14 S f) p 0) n 1 ↔ n = x) := fun n n1 n2 => by
      rw [wth_f]
      show (0 < f (25 * ro S p 0 + _) ∧ f (25 * ro S p 0 + _) ≤ 1) ↔ _
      rw [er, hpos _ n1 n2]
      refine ⟨fun w => pos_1.mp (show pos x y z (rng S (p / 4)) n = 1 by omega), fun w => ?_⟩
      have := (pos_1 (x := x) (y := y) (z := z) (m := rng S (p / 4))).mpr w
      omega
    have h1 := wk_one (S := w14 S f) (p := p) (a := nI x) (b := nI y) (c := nI z) (fun t ht hct htp => by
      have ht' : t < S 0 19 := ht
      have htp' : S 27 t = p := htp
      have lr := live_rn (j := 0) g ht' hct (by rw [htp', m3 q]; omega)
      have lr1 := live_rn (j := 1) g ht' hct (by rw [htp', m3 q]; omega)
      have lr2 := live_rn (j := 2) g ht' hct (by rw [htp', m3 q]; omega)
      have hdd := (g.2.2.1 t ht').2.2.2.2.2 (by rw [htp']; exact n52)
      have hd := hdd.1 (by rw [htp']; exact mm)
      have hd2 := hdd.2 (by rw [htp']; exact mm3)
      rw [htp', er, Nat.add_zero] at lr
      rw [htp', er1] at lr1
      rw [htp', er2] at lr2
      rw [wn_w14 htp', wns_3 q, w1 _ lr.1 lr.2.1, w2 _ lr1.1 lr1.2.1, w3 _ lr2.1 lr2.2.1]
      show _ ↔ sameT S t p (nI x) (nI y) (nI z)
      rw [same_k3 q (m3 q) (nt t ht') (nt1 t ht') (nt2 t ht') (by omega) (by omega) (by omega)]
      have e30 : S 28 (3 * t + 0) = S 28 (3 * t) := rfl
      constructor
      · intro w
        refine ⟨htp', ?_⟩
        omega
      · intro w
        omega)
    have hw : wns (w14 S f) p x y z := by
      rw [wns_3 q, w1 _ x1 x2, w2 _ ry1 ry2, w3 _ rz1 rz2]
      exact ⟨rfl, Or.inr rfl, Or.inr (Or.inr rfl)⟩
    rw [if_pos (c := kd p ≠ 1) (by omega), h1.1, hg, if_neg hu, if_neg (c := kd p ≠ 3 ∧ 1 = 0) (by omega), if_pos hw]
    exact dvd_W (by omega)
  · -- DOUBLE
    have h52 : p = 52 := kd_52.mp q
    obtain ⟨⟨x1, x2, x3⟩, y1, y2, y3⟩ := hc.2 h52
    obtain ⟨hp0, hp1⟩ := hf.2.2.2 h52
    have hl := GA_10 g1 (S 0 17)
    have hl1 := GA_10 g1 (S 0 18)
    have er : ro S p 0 = S 0 17 := by rw [h52]; rfl
    have er1 : ro S p 1 = S 0 18 := by rw [h52]; rfl
    have w0 : ∀ n, 1 ≤ n → n ≤ S 10 (S 0 17) → (wth (w14 S f) (ro (w14 S f) p 0) n 1 ↔ n = x) := fun n n1 n2 => by
      rw [wth_f]
      show (0 < f (25 * ro S p 0 + _) ∧ f (25 * ro S p 0 + _) ≤ 1) ↔ _
      rw [er, hp0 _ n1 n2]
      by_cases e : n = x
      · rw [if_pos e]; exact ⟨fun _ => e, fun _ => by omega⟩
      · rw [if_neg e]; exact ⟨fun w => by omega, fun w => absurd w e⟩
    have w1 : ∀ n, 1 ≤ n → n ≤ S 10 (S 0 18) → (wth (w14 S f) (ro (w14 S f) p 1) n 1 ↔ n = y) := fun n n1 n2 => by
      rw [wth_f]
      show (0 < f (25 * ro S p 1 + _) ∧ f (25 * ro S p 1 + _) ≤ 1) ↔ _
      rw [er1, hp1 _ n1 n2]
      by_cases e : n = y
      · rw [if_pos e]; exact ⟨fun _ => e, fun _ => by omega⟩
      · rw [if_neg e]; exact ⟨fun w => by omega, fun w => absurd w e⟩
    have h1 := wk_one (S := w14 S f) (p := p) (a := nI x) (b := nI y) (c := nI z) (fun t ht hct htp => by
      have ht' : t < S 0 19 := ht
      have htp' : S 27 t = p := htp
      have lr := live_rn (j := 0) g ht' hct (by rw [htp', m4 q]; omega)
      have lr1 := live_rn (j := 1) g ht' hct (by rw [htp', m4 q]; omega)
      rw [htp', er, Nat.add_zero] at lr
      rw [htp', er1] at lr1
      rw [wn_w14 htp', wns_4 q, w0 _ lr.1 lr.2.1, w1 _ lr1.1 lr1.2.1]
      show _ ↔ sameT S t p (nI x) (nI y) (nI z)
      rw [same_k4 q (m4 q) (nt t ht') (nt1 t ht') (by omega) (by omega)]
      exact ⟨fun w => ⟨htp', w.1, w.2⟩, fun w => ⟨w.2.1, w.2.2⟩⟩)
    have hw : wns (w14 S f) p x y z := by
      rw [wns_4 q, w0 _ x1 x2, w1 _ y1 y2]
      exact ⟨rfl, rfl⟩
    rw [if_pos (c := kd p ≠ 1) (by omega), h1.1, hg, if_neg hu, if_neg (c := kd p ≠ 3 ∧ 1 = 0) (by omega), if_pos hw]
    exact dvd_W (by omega)
