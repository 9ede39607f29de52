/-! ===== the call odds ===== -/
def odT (p : Nat) (a b c : Int32) (M : Mm) : Option (Int32 × Mm) := ob (f_X4_supposes 0 (nI p) M) fun M154 => ob (f_X4_reckons 0 (nI p) M154) fun M158 => ob (f_X4_fits 0 (nI p) M158) fun r161 => if r161 = 0 then (f_X4_odds_234 0 a b c (nI p) (0 : Int64) (0 : Int32) M158) else (ob (f_X4_unitsOn 0 (nI p) a b c M158) fun r197 => f_X4_odds_234 0 a b c (nI p) (0 : Int64) r197 M158)
theorem m_keep {S : SV} {p : Nat} {a b c : Int32} (g1 : GA S) : ∀ n i M, i ≤ 325 → 325 < i + n → RM S M → NMD M a b c → (∀ q, q < i → mI M 33 0 q = nI (S 14 q)) → ∃ M', f_X4_odds_167 n 0 a b c (nI p) (nI i) M = odT p a b c M' ∧ RM S M' ∧ NMD M' a b c ∧ (∀ q, q < 325 → mI M' 33 0 q = nI (S 14 q)) := by
  intro n
  induction n with
  | zero => intro i M h1 h2; omega
  | succ n ih =>
    intro i M h1 h2 hM hN hk
    rw [f_X4_odds_167]
    have l : (325 : Int32) ≤ nI i ↔ 325 ≤ i := nI_leI (a := 325) (by omega) (by omega)
    by_cases e : i = 325
    · rw [if_pos (l.mpr (by omega))]
      exact ⟨M, rfl, hM, hN, by rw [← e]; exact hk⟩
    · rw [if_neg (fun z => by have := l.mp z; omega), RM_ref hM 4, RM_ref hM 31]
      simp only [ob_s, lt_e]
      rw [ix_n (by omega) (by omega), ix_n (by omega) (by omega), nI_cl (by omega), RM_I hM 14, nI_1]
      refine ih (i + 1) _ (by omega) (by omega) (RM_scI hM (by omega)) hN (fun q hq => ?_)
      rw [rd_I]
      by_cases e2 : q = i
      · rw [if_pos ⟨rfl, rfl, e2⟩, e2]
      · rw [if_neg (fun z => e2 z.2.2)]; exact hk q (by omega)
theorem m_rest {S : SV} {f : Nat → Nat} {v : Int64} (hh : ∀ i, 325 ≤ i → f i = S 14 i) : ∀ n i M, i ≤ 325 → 325 < i + n → RM (w14 S (fun q => if q < i then S 14 q else f q)) M → (∀ q, q < 325 → mI M 33 0 q = nI (S 14 q)) → ∃ M', f_X4_odds_277 n 0 v (nI i) M = some (v.toInt32, M') ∧ RM S M' := by
  intro n
  induction n with
  | zero => intro i M h1 h2; omega
  | succ n ih =>
    intro i M h1 h2 hM hk
    rw [f_X4_odds_277]
    have l : (325 : Int32) ≤ nI i ↔ 325 ≤ i := nI_leI (a := 325) (by omega) (by omega)
    by_cases e : i = 325
    · rw [if_pos (l.mpr (by omega))]
      refine ⟨M, rfl, RM_ext hM (fun s q => ?_)⟩
      unfold w14
      by_cases e14 : s = 14
      · rw [if_pos e14, e14]
        dsimp only
        by_cases c : q < i
        · rw [if_pos c]
        · rw [if_neg c, hh q (by omega)]
      · rw [if_neg e14]
    · rw [if_neg (fun z => by have := l.mp z; omega), RM_ref hM 4, RM_ref hM 31]
      simp only [ob_s, lt_e]
      rw [ix_n (by omega) (by omega), ix_n (by omega) (by omega), nI_cl (by omega), hk i (by omega), nI_1]
      have h14 := RM_sI (s := 14) (i := i) (v := S 14 i) hM (by omega)
      rw [w14_up] at h14
      refine ih (i + 1) _ (by omega) (by omega) (RM_ext h14 (fun s q => ?_)) (fun q hq => ?_)
      · unfold w14
        by_cases e14 : s = 14
        · rw [if_pos e14, if_pos e14]
          dsimp only
          by_cases c : q = i
          · rw [if_pos (c := q < i + 1) (by omega), if_pos c, c]
          · rw [if_neg c]
            by_cases c2 : q < i
            · rw [if_pos c2, if_pos (by omega)]
            · rw [if_neg c2, if_neg (by omega)]
        · rw [if_neg e14, if_neg e14]
      · rw [rd_I, if_neg (by omega)]; exact hk q hq
theorem m_rest0 {S : SV} {f : Nat → Nat} {v : Int64} {M : Mm} (hh : ∀ i, 325 ≤ i → f i = S 14 i) (hM : RM (w14 S f) M) (hk : ∀ q, q < 325 → mI M 33 0 q = nI (S 14 q)) : ∃ M', f_X4_odds_277 FU 0 v (0 : Int32) M = some (v.toInt32, M') ∧ RM S M' := by
  refine m_rest (f := f) hh FU 0 M (by omega) (by show 325 < 0 + 1000; omega) (RM_ext hM (fun s q => ?_)) hk
  unfold w14
  by_cases e14 : s = 14
  · rw [if_pos e14, if_pos e14]
    dsimp only
    rw [if_neg (Nat.not_lt_zero q)]
  · rw [if_neg e14, if_neg e14]
theorem wk_pos {S : SV} {p t : Nat} {k : Nat} (g1 : GA S) {TT : Prop} (g : GTx TT S k) (ht : t < S 0 19) (hw : win S p t) : 0 < wk S p := by
  obtain ⟨w1, w2, w3⟩ := hw
  obtain ⟨f, f1, f2, f3, f4⟩ := first_ex t w2 (same_self (S := S) (t := t))
  have hf : f < S 0 19 := by omega
  have hfp : S 27 f = p := by rw [f3.1]; exact w1
  have htf : sameTT S t f := by
    unfold sameTT
    rw [f3.1]
    exact (same_eq f3 t).mp same_self
  have hwf : wnT S f := (wn_same g1 g ht hf htf).mp w3
  have h := sm_ge (f := fun t => if win S p t ∧ frs S t then 1 else 0) hf
  rw [if_pos (c := win S p f ∧ frs S f) ⟨⟨hfp, f2, hwf⟩, f4⟩] at h
  exact h
theorem GOr_f {S : SV} {p x y z : Nat} {f : Nat → Nat} (hc : cfnN S p x y z) (hf : SUP S p x y z f) : GOr (w14 S f) (ro S p 0) := by
  by_cases q : p = 52
  · have er : ro S p 0 = S 0 17 := by rw [q]; rfl
    obtain ⟨⟨x1, x2, x3⟩, -⟩ := hc.2 q
    rw [er]
    refine GOr_sup (S := w14 S f) (x := x) (y := 0) (z := 0) (m := 1) ⟨x1, x2⟩ (fun w => by omega) (fun w => by omega) (fun n n1 n2 => ?_)
    show f (25 * S 0 17 + n) = _
    rw [(hf.2.2.2 q).1 n n1 n2]
    unfold pos
    by_cases e : n = x
    · rw [if_pos e, if_pos e]
    · rw [if_neg e, if_neg e, if_neg (by omega), if_neg (by omega)]
  · obtain ⟨⟨x1, x2, x3⟩, cy, cz⟩ := hc.1 q
    rw [ro_n52 q]
    exact GOr_sup (S := w14 S f) (x := x) (y := y) (z := z) (m := rng S (p / 4)) ⟨x1, x2⟩ (fun w => ⟨⟨(cy w).1.1, (cy w).1.2.1⟩, (cy w).2⟩) (fun w => (cz w).2) (fun n n1 n2 => hf.2.2.1 q n n1 n2)
theorem m_oddsT {S : SV} {M : Mm} {k p x y z : Nat} (h : RM S M) (g1 : GA S) (g2 : GP S) (g : GT S k) (g4 : GM S) (hp : S 15 p = 1) (hn : NMD M (nI x) (nI y) (nI z)) (hk : ∀ q, q < 325 → mI M 33 0 q = nI (S 14 q)) (hc : cfnN S p x y z) (ny : 0 ≤ (nI y).toInt → (y : Int) = (nI y).toInt) (nz : 0 ≤ (nI z).toInt → (z : Int) = (nI z).toInt) : ∃ M', odT p (nI x) (nI y) (nI z) M = some ((lN (ifF S p (nI x) (nI y) (nI z))).toInt32, M') ∧ RM S M' := by
  obtain ⟨p1, -, -, -, a5, -⟩ := g2.2.1 p hp
  obtain ⟨R2, f, x1, x2, x3, x4⟩ := m_supp h g1 g2 hp hn hc
  have gf : GA (w14 S f) := GA_w14 g1 x3.2.1
  have g2f : GP (w14 S f) := g2
  have g3f : GT (w14 S f) k := g
  have ho := GOr_f hc x3
  obtain ⟨R3, y1, y2, y3, y4, y5, y6⟩ := m_reckons x2 gf g2f g3f (show w14 S f 15 p = 1 from hp) (show GOr (w14 S f) (ro (w14 S f) p 0) from ho)
  have hk3 : ∀ q, q < 325 → mI R3 33 0 q = nI (S 14 q) := fun q hq => by rw [y6 33 0 q (by omega), x4 33 0 q (by omega)]; exact hk q hq
  have hn3 : NMD R3 (nI x) (nI y) (nI z) := ⟨by rw [y6 32 0 0 (by omega), x4 32 0 0 (by omega)]; exact hn.1, by rw [y6 32 0 1 (by omega), x4 32 0 1 (by omega)]; exact hn.2.1, by rw [y6 32 0 2 (by omega), x4 32 0 2 (by omega)]; exact hn.2.2⟩
  have hu := uo_le g p (nI x) (nI y) (nI z)
  have hnet : net (w14 S f) p = net S p := rfl
  have huo : uo (w14 S f) p (nI x) (nI y) (nI z) = uo S p (nI x) (nI y) (nI z) := rfl
  have rest : ∀ v : Int64, ∃ M', f_X4_odds_277 FU 0 v (0 : Int32) R3 = some (v.toInt32, M') ∧ RM S M' := fun v => m_rest0 x3.1 y2 hk3
  have e234 : odT p (nI x) (nI y) (nI z) M = f_X4_odds_234 0 (nI x) (nI y) (nI z) (nI p) (0 : Int64) (nI (uo S p (nI x) (nI y) (nI z))) R3 := by
    unfold odT f_X4_fits
    rw [x1]
    simp only [ob_s]
    rw [y1]
    simp only [ob_s]
    rw [m_named y2 gf g2f (show w14 S f 15 p = 1 from hp) hn3]
    simp only [ob_s]
    have nof : ¬ (hasR S p (nI x) (nI y) (nI z) ∧ ¬ twcR p (nI x) (nI y) (nI z)) → uo S p (nI x) (nI y) (nI z) = 0 := fun w => Classical.byContradiction (fun hne => by
      obtain ⟨t, ht, hct, hs⟩ := uo_ex hne
      obtain ⟨st, tw⟩ := live_ok g1 g ht hct hs
      exact w ⟨sta_has st, tw⟩)
    by_cases q1 : hasR S p (nI x) (nI y) (nI z)
    · rw [if_pos (c := hasR (w14 S f) p (nI x) (nI y) (nI z)) q1]
      by_cases q2 : twcR p (nI x) (nI y) (nI z)
      · rw [if_pos q2, if_neg (show ¬ (-6 : Int32) = 0 from by decide)]
        simp only [ob_s]
        rw [if_pos trivial, nof (fun w => w.2 q2)]; rfl
      · rw [if_neg q2, if_pos (show (0 : Int32) = 0 from rfl)]
        simp only [ob_s]
        rw [if_neg (by decide), m_unitsOn y2 g3f gf g2f p1, huo]
        rfl
    · rw [if_neg (c := hasR (w14 S f) p (nI x) (nI y) (nI z)) q1, if_neg (show ¬ (-4 : Int32) = 0 from by decide)]
      simp only [ob_s]
      rw [if_pos trivial, nof (fun w => q1 w.1)]; rfl
  rw [e234]
  unfold f_X4_odds_234
  by_cases q : uo S p (nI x) (nI y) (nI z) = 0
  · rw [if_pos ((nI_le0 (by omega)).mpr q), show ifF S p (nI x) (nI y) (nI z) = 0 from if_pos q]
    exact rest 0
  · rw [if_neg (fun w => q ((nI_le0 (by omega)).mp w))]
    obtain ⟨t0, ht0, hc0, hs0⟩ := uo_ex q
    obtain ⟨st, tw⟩ := live_ok g1 g ht0 hc0 hs0
    have hv := odds_val g1 g2 g hp hc ny nz x3 q
    have hl0 := GA_10 g1 (ro S p 0)
    have hl1 := GA_10 g1 (ro S p 1)
    have hl2 := GA_10 g1 (ro S p 2)
    have hm := mny_kd p
    have vx : 1 ≤ x ∧ x ≤ S 10 (ro S p 0) := by
      by_cases q52 : p = 52
      · have er : ro S p 0 = S 0 17 := by rw [q52]; rfl
        have w := (hc.2 q52).1
        rw [er]; exact ⟨w.1, w.2.1⟩
      · have w := (hc.1 q52).1
        rw [ro_n52 q52]; exact ⟨w.1, w.2.1⟩
    have vy : 2 ≤ mny p → 1 ≤ y ∧ y ≤ S 10 (ro S p 1) := fun m => by
      have w := (st.2.1 m).1
      have w1 := w.1
      have w2 := w.2
      have := ny (by omega)
      omega
    have vz : 3 ≤ mny p → 1 ≤ z ∧ z ≤ S 10 (ro S p 2) := fun m => by
      have w := (st.2.2 m).1
      have w1 := w.1
      have w2 := w.2
      have := nz (by omega)
      omega
    have hd : p ≠ 52 → (2 ≤ mny p → x ≠ y) ∧ (3 ≤ mny p → x ≠ z ∧ y ≠ z) := fun n52 => ⟨fun m e => tw ⟨n52, Or.inl ⟨m, by rw [e]⟩⟩, fun m => ⟨fun e => tw ⟨n52, Or.inr ⟨m, Or.inl (by rw [e])⟩⟩, fun e => tw ⟨n52, Or.inr ⟨m, Or.inr (by rw [e])⟩⟩⟩⟩
    rw [m_isVoid y2 gf g2f g3f (show w14 S f 15 p = 1 from hp) y3, m_wins y2 gf g2f (show w14 S f 15 p = 1 from hp) vx vy vz hd ho]
    simp only [ob_s, b1_if]
    by_cases v : kd p ≠ 3 ∧ wk (w14 S f) p = 0
    · rw [if_pos v] at hv
      rw [if_pos v, ← hv]
      exact rest 0
    · rw [if_neg v] at hv
      rw [if_neg v]
      by_cases w : wns (w14 S f) p x y z
      · rw [if_pos w] at hv
        rw [if_pos w]
        have hwk := wk_le g3f p
        have hwu := wu_le g3f p
        have n24 := net_le g a5 (Nat.le_trans (g4.2.1 p) (cap_le _))
        have wp : 0 < wk (w14 S f) p := by
          refine wk_pos gf g3f (show t0 < w14 S f 0 19 from ht0) ⟨hs0.1, hc0, (wn_w14 hs0.1).mpr ?_⟩
          have n0 : S 28 (3 * t0) ≤ 24 := GT_n g g1 ht0 (j := 0) (by omega)
          have n1 : S 28 (3 * t0 + 1) ≤ 24 := GT_n g g1 ht0 (j := 1) (by omega)
          have n2 : S 28 (3 * t0 + 2) ≤ 24 := GT_n g g1 ht0 (j := 2) (by omega)
          exact (wns_same (S := w14 S f) (show sameT (w14 S f) t0 p (nI x) (nI y) (nI z) from hs0) (Nat.lt_succ_of_le (Nat.le_trans vx.2 hl0)) (fun m => Nat.lt_succ_of_le (Nat.le_trans (vy m).2 hl1)) (fun m => Nat.lt_succ_of_le (Nat.le_trans (vz m).2 hl2)) n0 n1 n2).mpr w
        rw [m_dividendOf (N := net S p) (k := wk (w14 S f) p) (W := wu (w14 S f) p) y2 p1 (show w14 S f 17 p ≤ 1000 from a5) n24 (Nat.lt_of_le_of_lt hwk (by decide)) wp (Nat.lt_of_le_of_lt hwu (by decide)) (Nat.lt_of_le_of_lt hu (by decide)) (Nat.pos_of_ne_zero q) y3 y4 y5]
        simp only [ob_s]
        rw [← hv]
        exact rest _
      · rw [if_neg w] at hv
        rw [if_neg w, ← hv]
        exact rest 0
