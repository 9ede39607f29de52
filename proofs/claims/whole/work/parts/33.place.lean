/-! ===== the call place; the two constructors ===== -/
/-- what wins hangs on the positions and on who runs, in the pool's own races -/
theorem wns_congr {S S' : SV} {p a b c : Nat} (h0 : ∀ j, ro S' p j = ro S p j) (h1 : ∀ j n, n ≤ 24 → S' 14 (25 * ro S p j + n) = S 14 (25 * ro S p j + n)) (h2 : rng S' (ro S p 0) = rng S (ro S p 0)) (ha : a ≤ 24) (hb : b ≤ 24) (hc : c ≤ 24) : wns S' p a b c ↔ wns S p a b c := by
  unfold wns lwp wth
  rw [h0 0, h0 1, h1 0 a ha, h1 0 b hb, h1 0 c hc, h1 1 b hb, h2]
theorem GP_off {S : SV} {p : Nat} (g2 : GP S) (hp : S 15 p = 1) (h : S 18 p ≠ 0) : S 11 (ro S p 0) = 2 ∧ S 11 (ro S p 1) = 2 := by
  obtain ⟨-, -, -, -, -, -, -, a8⟩ := g2.2.1 p hp
  exact Decidable.byContradiction (fun z => h (a8.mpr z))
theorem ro_j {S : SV} {p j : Nat} : ro S p j = ro S p 0 ∨ ro S p j = ro S p 1 := by
  unfold ro
  split
  · split
    · exact Or.inl (by rw [if_pos rfl])
    · exact Or.inr (by rw [if_neg (by omega)])
  · exact Or.inl rfl
theorem s_place : S_place Inv := by
  intro k C R v w u hk hI
  obtain ⟨S, hR, hC, g1, g2, g3, g4, g5⟩ := hI
  have stay : ∃ (r : Int32) (C' R' : Mm), some ((0 : Int32), C) = some (r, C') ∧ some ((0 : Int32), R) = some (r, R') ∧ Inv (k + 1) C' R' := ⟨0, C, R, rfl, rfl, Inv_st hR hC g1 g2 g3 hk g4 g5⟩
  unfold f_X3_place f_X4_place
  rw [c_raceNumbered hC g1, m_isRace hR g1]
  simp only [ob_s, b1_if]
  cases hr : rOf S v with
  | none => rw [on_n, if_neg (fun z => z rfl)]; exact stay
  | some r =>
    obtain ⟨r1, r2, r3, r4⟩ := rOf_s hr
    have hrr := hC.2.1 r r4
    have hl := GA_10 g1 r
    have h11 := (g1.2.1 r).1
    rw [on_s, if_pos (fun z => by cases z), RM_ref hR 1, RM_ref hR 4, r1]
    simp only [ob_s, lt_e]
    rw [ix_n (by omega) (by omega), nI_cl (by omega), RM_I hR 11, hrr.2.2.2.2.1, c_isRunning hrr g1, m_runs hR g1 r3, m_in]
    simp only [ob_s, b1_if]
    by_cases q : S 11 r = 1
    · rw [if_pos ((nI_1e (by omega)).mpr q), if_pos ((nI_1e (by omega)).mpr q)]
      by_cases q1 : rns S r u
      · rw [if_pos q1, if_pos q1]
        by_cases q2 : (0 : Int32).toInt ≤ w.toInt ∧ w.toInt ≤ (24 : Int32).toInt
        · have q2' : 0 ≤ w.toInt ∧ w.toInt ≤ 24 := q2
          rw [if_pos q2, if_neg (fun z => by have z' : w.toInt < 0 := i_lt.mp z; omega), if_pos (i_le.mpr q2.2)]
          obtain ⟨f1, f2⟩ := i_of (x := u) (by omega)
          obtain ⟨f3, f4⟩ := i_of (x := w) (by omega)
          have hsc := q1.2
          have hrn := q1.1
          generalize u.toNatClampNeg = n at f1 f2 hsc
          generalize w.toNatClampNeg = b at f3 f4
          subst f1 f3
          unfold f_X1_putAt
          rw [if_neg (fun z => by have := i_lt.mp z; rw [nI_tI (by omega)] at this; have e : (0 : Int32).toInt = 0 := rfl; omega), hrr.2.2.1]
          simp only [ob_s, lt_e]
          rw [if_neg (fun z => by have := (i_le_n (a := 25) (by omega) (by omega)).mp z; omega), ix_n (by omega) (by omega), nI_cl (by omega), e25, ix_n (by omega) (by omega), nI_cl (by omega)]
          simp only [ob_s]
          have hup : ∀ r' n', n' < 25 → ¬ (r' = r ∧ n' = n) → up S 14 (25 * r + n) b 14 (25 * r' + n') = S 14 (25 * r' + n') := fun r' n' hn' hne => up_n (by omega)
          refine ⟨1, _, _, rfl, rfl, up S 14 (25 * r + n) b, RM_sI hR (by omega), ⟨hC.1, fun r' hr' => ?_, fun p hp => ⟨(hC.2.2.1 p hp).1, ?_⟩, hC.2.2.2.1, hC.2.2.2.2⟩, ?_, g2, GT_s g3 hk, g4, ?_⟩
          · obtain ⟨k1, k2, k3, k4, k5, k6, k7, k8, k9⟩ := hC.2.1 r' hr'
            refine ⟨k1, k2, k3, k4, k5, k6, k7, fun m hm => ?_, k9⟩
            rw [rd_I]
            show _ = if S 13 (25 * r' + m) = 0 then nI (up S 14 (25 * r + n) b 14 (25 * r' + m)) else -1
            by_cases e : r' = r ∧ m = n
            · obtain ⟨rfl, rfl⟩ := e
              rw [if_pos ⟨rfl, rfl, rfl⟩, if_pos hsc, up_s]
            · rw [if_neg (fun z => e z.2), hup r' m hm e]; exact k8 m hm
          · have hp1 : S 15 p = 1 := by have := g2.1 p; have hp' : S 15 p ≠ 0 := hp; omega
            refine RCd_congr (S := S) (C := C) (hC.2.2.1 p hp).2 rfl rfl rfl rfl rfl rfl (fun _ _ => rfl) (fun _ _ _ _ => ⟨rfl, rfl, rfl, rfl, rfl, rfl⟩) (fun hs t ht hpt => ?_)
            have ho := GP_off g2 hp1 (by omega)
            have n1 := GT_n g3 g1 ht (j := 0) (by omega)
            have n2 := GT_n g3 g1 ht (j := 1) (by omega)
            have n3 := GT_n g3 g1 ht (j := 2) (by omega)
            refine wns_congr (fun _ => rfl) (fun j m hm => hup _ m (by omega) ?_) rfl n1 n2 n3
            rintro ⟨e, -⟩
            rcases ro_j (S := S) (p := p) (j := j) with y | y
            · rw [y] at e; rw [e] at ho; omega
            · rw [y] at e; rw [e] at ho; omega
          · refine ⟨g1.1, g1.2.1, g1.2.2.1, fun x => ?_, fun r' m hz hm => ?_⟩
            · obtain ⟨y1, y2, y3⟩ := g1.2.2.2.1 x
              refine ⟨y1, ?_, fun z => ?_⟩
              · by_cases e : x = 25 * r + n
                · subst e; rw [up_s]; omega
                · rw [up_n (fun z => e z.2)]; exact y2
              · by_cases e : x = 25 * r + n
                · subst e
                  have z' : S 13 (25 * r + n) = 1 := z
                  omega
                · rw [up_n (fun z => e z.2)]; exact y3 z
            · have hz' : S 10 r' = 0 := hz
              obtain ⟨y1, y2⟩ := g1.2.2.2.2 r' m hz' hm
              refine ⟨y1, ?_⟩
              rw [hup r' m hm (by rintro ⟨rfl, -⟩; exact r4 hz')]
              exact y2
          · refine ⟨fun r' ho m h1 h2 h3 => ?_, fun r' m h0 hm => (hup r' m hm (by rintro ⟨rfl, -⟩; have h0' : S 11 r' = 0 := h0; omega)).trans (g5.2 r' m h0 hm)⟩
            have ho' : S 11 r' = 2 := ho
            have e : ∀ m, m < 25 → up S 14 (25 * r + n) b 14 (25 * r' + m) = S 14 (25 * r' + m) := fun m hm => hup r' m hm (by rintro ⟨rfl, -⟩; omega)
            have hl' := GA_10 g1 r'
            have h2' : m ≤ S 10 r' := h2
            rw [e m (by omega)] at h3 ⊢
            have := g5.1 r' ho' m h1 h2' h3
            refine this.trans (congrArg (1 + ·) (sm_congr (fun i hi => ?_)))
            rw [e (i + 1) (by omega)]
        · have q2' : ¬ (0 ≤ w.toInt ∧ w.toInt ≤ 24) := q2
          rw [if_neg q2]
          by_cases q3 : w < 0
          · rw [if_pos q3]; exact stay
          · have q3' : ¬ w.toInt < 0 := fun y => q3 (i_lt.mpr y)
            rw [if_neg q3, if_neg (fun z => q2' ⟨by omega, i_le.mp z⟩)]; exact stay
      · rw [if_neg q1, if_neg q1]; exact stay
    · rw [if_neg (fun z => q ((nI_1e (by omega)).mp z)), if_neg (fun z => q ((nI_1e (by omega)).mp z))]; exact stay
def zI (M : Mm) : Prop := ∀ s i k, mI M s i k = 0
def zJ (M : Mm) : Prop := ∀ s i k, mJ M s i k = 0
theorem z0I : zI M00 := fun _ _ _ => rfl
theorem z0J : zJ M00 := fun _ _ _ => rfl
theorem zI_R {M : Mm} {s i k : Nat} {v : Option Nat} (h : zI M) : zI (sR M s i k v) := h
theorem zJ_R {M : Mm} {s i k : Nat} {v : Option Nat} (h : zJ M) : zJ (sR M s i k v) := h
theorem zI_n {M : Mm} {s i : Nat} (h : zI M) : zI (nA M s i) := fun s' i' k' => by
  rw [rn_I]
  split
  · rfl
  · exact h s' i' k'
theorem zJ_n {M : Mm} {s i : Nat} (h : zJ M) : zJ (nA M s i) := fun s' i' k' => by
  rw [rn_J]
  split
  · rfl
  · exact h s' i' k'
def S0v : SV := fun _ _ => 0
theorem s_ini : SimI Inv := by
  have hi : ∃ C R : Mm, f_X3_init 0 (nA M00 1 0) = some C ∧ f_X4_init 0 (nA M00 0 0) = some R ∧ RM S0v R ∧ RC S0v C := by
    refine ⟨_, _, rfl, rfl, ⟨fun k hk => ?_, fun s i hs => ?_, fun s i hs => ?_, rfl, rfl, rfl, rfl, rfl⟩, ⟨⟨rfl, rfl, rfl, rfl, rfl, fun r hr => ?_, fun t ht => ?_⟩, fun r hr => absurd rfl hr, fun p hp => absurd rfl hp, fun t ht => absurd ht (Nat.not_lt_zero t), fun r _ => ⟨rfl, rfl, rfl⟩, fun p _ => rfl, fun t _ => rfl⟩⟩
    · have : k = 0 ∨ k = 1 ∨ k = 2 ∨ k = 3 ∨ k = 4 ∨ k = 5 ∨ k = 6 ∨ k = 7 ∨ k = 8 ∨ k = 9 ∨ k = 10 ∨ k = 11 ∨ k = 12 ∨ k = 13 ∨ k = 14 ∨ k = 15 ∨ k = 16 ∨ k = 20 ∨ k = 21 ∨ k = 22 ∨ k = 23 ∨ k = 24 ∨ k = 27 ∨ k = 31 := by omega
      rcases this with rfl | rfl | rfl | rfl | rfl | rfl | rfl | rfl | rfl | rfl | rfl | rfl | rfl | rfl | rfl | rfl | rfl | rfl | rfl | rfl | rfl | rfl | rfl | rfl <;> rfl
    · refine (?_ : zI _) s 0 i
      repeat (first | exact z0I | apply zI_R | apply zI_n)
    · refine (?_ : zJ _) s 0 i
      repeat (first | exact z0J | apply zJ_R | apply zJ_n)
    · rfl
    · show none = if t < S0v 0 19 then some t else none
      rw [if_neg (show ¬ t < S0v 0 19 from Nat.not_lt_zero t)]
  obtain ⟨C, R, e1, e2, hR, hC⟩ := hi
  refine ⟨C, R, e1, e2, S0v, hR, hC, ⟨fun r hr => absurd rfl hr, fun r => ⟨(by show (0 : Nat) ≤ 2; omega), fun _ => rfl⟩, fun r => Nat.le_refl _, fun x => ⟨(by show (0 : Nat) ≤ 1; omega), (by show (0 : Nat) ≤ 24; omega), fun _ => rfl⟩, fun r n _ _ => ⟨rfl, rfl⟩⟩, ⟨fun p => (by show (0 : Nat) ≤ 1; omega), fun p hp => (by cases hp), fun hp => (by cases hp), ⟨(by show (0 : Nat) < 13; omega), (by show (0 : Nat) < 13; omega)⟩, fun p _ => ⟨rfl, rfl⟩, fun p _ => ⟨rfl, rfl, rfl, rfl, rfl, rfl, rfl⟩⟩, ⟨Nat.zero_le _, by omega, fun t ht => absurd ht (Nat.not_lt_zero t), fun t _ => rfl, fun t ht => absurd ht (Nat.not_lt_zero t), fun t ht => absurd ht (Nat.not_lt_zero t)⟩, ⟨rfl, fun p => Nat.zero_le _, Nat.zero_le _, fun p => Nat.zero_le _⟩, fun r hr => (by cases hr), fun r m _ _ => rfl⟩
