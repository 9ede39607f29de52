/-! ===== official: what is carried ===== -/
theorem RC_24 {S : SV} {C : Mm} {q v : Nat} (h : RC S C) : RC (up S 24 q v) (sJ C 7 q 14 (lN v)) := by
  obtain ⟨h1, h2, h3, h4, h5⟩ := h
  refine ⟨h1, h2, fun p hp => ⟨?_, ?_⟩, h4, h5⟩
  · obtain ⟨r1, r2, r3, r4, r5, r6, r7, r8, r9, r10, r11, r12, r13, r14, r15⟩ := (h3 p hp).1
    refine ⟨r1, r2, r3, r4, r5, r6, r7, r8, ?_, ?_, ?_, ?_, ?_, ?_, ?_⟩
    · rw [rd_J, if_neg (by omega)]; exact r9
    · rw [rd_J, if_neg (by omega)]; exact r10
    · rw [rd_J, if_neg (by omega)]; exact r11
    · rw [rd_J, if_neg (by omega)]; exact r12
    · rw [rd_J]
      by_cases e : p = q
      · rw [if_pos ⟨rfl, e, rfl⟩, e, up_s]
      · rw [if_neg (fun z => e z.2.1), up_n (fun z => e z.2)]; exact r13
    · rw [rd_J, if_neg (by omega)]; exact r14
    · rw [rd_J, if_neg (by omega)]; exact r15
  · exact RCd_congr (S := S) (C := C) (h3 p hp).2 (by rw [rd_J, if_neg (by omega)]) (by rw [rd_J, if_neg (by omega)]) rfl rfl rfl rfl (fun _ _ => rfl) (fun _ _ _ _ => ⟨rfl, rfl, rfl, rfl, rfl, rfl⟩) (fun _ _ _ _ => Iff.rfl)
theorem RC_26 {S : SV} {C : Mm} {v : Nat} (h : RC S C) : RC (up S 0 26 v) (sJ C 1 0 4 (lN v)) := by
  obtain ⟨⟨a1, a2, a3, a4, a5, a6, a7⟩, h2, h3, h4, h5⟩ := h
  refine ⟨⟨a1, a2, a3, a4, ?_, a6, a7⟩, h2, fun p hp => ⟨?_, ?_⟩, h4, h5⟩
  · rw [rd_J, if_pos ⟨rfl, rfl, rfl⟩, up_s]
  · obtain ⟨r1, r2, r3, r4, r5, r6, r7, r8, r9, r10, r11, r12, r13, r14, r15⟩ := (h3 p hp).1
    refine ⟨r1, r2, r3, r4, r5, r6, r7, r8, ?_, ?_, ?_, ?_, ?_, ?_, ?_⟩
    · rw [rd_J, if_neg (by omega)]; exact r9
    · rw [rd_J, if_neg (by omega)]; exact r10
    · rw [rd_J, if_neg (by omega)]; exact r11
    · rw [rd_J, if_neg (by omega)]; exact r12
    · rw [rd_J, if_neg (by omega)]; exact r13
    · rw [rd_J, if_neg (by omega)]; exact r14
    · rw [rd_J, if_neg (by omega)]; exact r15
  · exact RCd_congr (S := S) (C := C) (h3 p hp).2 (by rw [rd_J, if_neg (by omega)]) (by rw [rd_J, if_neg (by omega)]) rfl rfl rfl rfl (fun _ _ => rfl) (fun _ _ _ _ => ⟨rfl, rfl, rfl, rfl, rfl, rfl⟩) (fun _ _ _ _ => Iff.rfl)
abbrev CRY (S S' : SV) (x : Nat) : Prop := (∃ q, S' = up S 24 q (S 24 q + x) ∧ S 15 q = 1) ∨ S' = up S 0 26 (S 0 26 + x)
theorem e43 (r : Nat) : (4 : Int32) * nI r + (3 : Int32) = nI (4 * r + 3) := by
  rw [show (4 : Int32) = nI 4 from rfl, pk_mul, show (3 : Int32) = nI 3 from rfl]
  exact nI_add _ _
theorem carry2 {S : SV} {C R : Mm} {x : Nat} (hR : RM S R) (hC : RC S C) (g1 : GA S) {DD : Nat → Prop} {ZZ : Prop} (g2 : GPx DD ZZ S) (h30 : mJ R 0 0 30 = lN x) : ∀ n r, 1 ≤ r → r ≤ 13 → 13 < r + n → ∃ S' C' R', f_X3_carryFrom_5 n 0 (lN x) (nI r) C = some C' ∧ f_X4_carries_6 n 0 (nI r) R = some R' ∧ RM S' R' ∧ RC S' C' ∧ CRY S S' x := by
  intro n
  induction n with
  | zero => intro r h1 h2 h3; omega
  | succ n ih =>
    intro r h1 h2 h3
    rw [f_X3_carryFrom_5, f_X4_carries_6]
    simp only [lt_e]
    have l13 : (13 : Int32) ≤ nI r ↔ 13 ≤ r := nI_leI (a := 13) (by omega) (by omega)
    by_cases q : r = 13
    · rw [if_pos ((lt_13 (by omega)).mpr (by omega)), if_pos (l13.mpr (by omega)), h30, RM_end hR, hC.1.2.2.2.2.1, lN_add]
      exact ⟨_, _, _, rfl, rfl, RM_s0J hR (Or.inr rfl), RC_26 hC, Or.inr rfl⟩
    · rw [if_neg (fun z => by have := (lt_13 (by omega)).mp z; omega), if_neg (fun z => by have := l13.mp z; omega), c_raceNumbered hC g1, c_poolOf hC g1, RM_ref hR 5]
      simp only [ob_s]
      have hn := ih (r + 1) (by omega) (by omega) (by omega)
      rw [show (3 : Int32) = nI 3 from rfl, pOf_n g1 g2 (show r ≤ 12 by omega) (show 3 < 4 by omega), show nI 3 = (3 : Int32) from rfl, e43, ix_n (by omega) (by omega), nI_cl (by omega), RM_I hR 15, nI_1]
      have l15 := g2.1 (4 * r + 3)
      by_cases q1 : S 15 (4 * r + 3) = 0
      · rw [if_pos q1, if_pos ((nI_z (by omega)).mpr q1)]
        cases hr : rOf S (nI r) with
        | none => rw [on_n]; exact hn
        | some r' => rw [on_s, on_n]; exact hn
      · have hq : S 15 (4 * r + 3) = 1 := by omega
        have h10 : S 10 r ≠ 0 := by
          have := (g2.2.1 _ hq).2.1
          rw [show (4 * r + 3) / 4 = r by omega] at this
          rcases this with w | w
          · omega
          · exact w
        have h11 := (g1.2.1 r).1
        have hrr := hC.2.1 r h10
        rw [if_neg q1, if_neg (fun z => q1 ((nI_z (by omega)).mp z)), rOf_n g1 h10, on_s, on_s, hrr.2.2.2.2.1, RM_ref hR 1, RM_ref hR 14]
        simp only [ob_s]
        rw [ix_n (n := 13) (by omega) (by omega), nI_cl (by omega), RM_I hR 11]
        by_cases q2 : S 11 r = 2
        · rw [if_pos ((nI_2e (by omega)).mpr q2), if_pos ((nI_2e (by omega)).mpr q2)]
          exact hn
        · rw [if_neg (fun z => q2 ((nI_2e (by omega)).mp z)), if_neg (fun z => q2 ((nI_2e (by omega)).mp z)), ix_n (n := 53) (by omega) (by omega), ix_n (n := 53) (by omega) (by omega), RM_J hR 24, h30, (hC.2.2.1 _ q1).1.2.2.2.2.2.2.2.2.2.2.2.2.1, lN_add]
          exact ⟨_, _, _, rfl, rfl, RM_sJ hR (by omega), RC_24 hC, Or.inl ⟨_, rfl, hq⟩⟩
theorem GMb_le {B B' : Nat} {S : SV} (h : GMb B S) (hB : B ≤ B') : GMb B' S := ⟨h.1, fun p => Nat.le_trans (h.2.1 p) hB, Nat.le_trans h.2.2.1 hB, h.2.2.2⟩
theorem cry_inv {S S' : SV} {k x B : Nat} (hc : CRY S S' x) (g1 : GA S) (g2 : GQ S) (g3 : GT S k) (g4 : GMb B S) (g5 : GO S) : GA S' ∧ GQ S' ∧ GT S' k ∧ GMb (B + x) S' ∧ GO S' := by
  have g4' := GMb_le g4 (Nat.le_add_right B x)
  rcases hc with ⟨q, e, hq⟩ | e
  · subst e
    refine ⟨g1, ⟨g2.1, g2.2.1, g2.2.2.1, g2.2.2.2.1, fun p hp => ⟨(g2.2.2.2.2.1 p hp).1, ?_⟩, g2.2.2.2.2.2⟩, g3, ⟨g4'.1, fun p => ?_, g4'.2.2⟩, g5⟩
    · have hp' : S 15 p = 0 := hp
      rw [up_n (fun z => by rw [z.2] at hp'; omega)]
      exact (g2.2.2.2.2.1 p hp).2
    · by_cases e : p = q
      · subst e; rw [up_s]; have := g4.2.1 p; omega
      · rw [up_n (fun z => e z.2)]; exact g4'.2.1 p
  · subst e
    refine ⟨g1, ⟨g2.1, g2.2.1, g2.2.2.1, g2.2.2.2.1, g2.2.2.2.2.1, g2.2.2.2.2.2⟩, g3, ⟨g4'.1, g4'.2.1, ?_, g4'.2.2.2⟩, g5⟩
    rw [up_s]; have := g4.2.2.1; omega
theorem cry_0 {S S' : SV} (h : CRY S S' 0) : S' = S := by
  rcases h with ⟨q, e, -⟩ | e
  · rw [e]
    funext s i
    by_cases w : s = 24 ∧ i = q
    · obtain ⟨rfl, rfl⟩ := w; rw [up_s]; rfl
    · rw [up_n w]
  · rw [e]
    funext s i
    by_cases w : s = 0 ∧ i = 26
    · obtain ⟨rfl, rfl⟩ := w; rw [up_s]; rfl
    · rw [up_n w]
/-- what a settled pool leaves as it was -/
abbrev KP (S S' : SV) : Prop := (∀ s, (10 ≤ s ∧ s ≤ 17) ∨ s = 27 ∨ s = 28 ∨ s = 29 → S' s = S s) ∧ S' 0 17 = S 0 17 ∧ S' 0 18 = S 0 18 ∧ S' 0 19 = S 0 19
theorem KP_r (S : SV) : KP S S := ⟨fun _ _ => rfl, rfl, rfl, rfl⟩
theorem KP_t {S S' S2 : SV} (h : KP S S') (h' : KP S' S2) : KP S S2 := ⟨fun s hs => (h'.1 s hs).trans (h.1 s hs), h'.2.1.trans h.2.1, h'.2.2.1.trans h.2.2.1, h'.2.2.2.trans h.2.2.2⟩
theorem KP_cry {S S' : SV} {x : Nat} (h : CRY S S' x) : KP S S' ∧ S' 18 = S 18 := by
  rcases h with ⟨q, e, -⟩ | e
  · subst e
    exact ⟨⟨fun s hs => funext (fun i => up_n (by omega)), rfl, rfl, rfl⟩, rfl⟩
  · subst e
    exact ⟨⟨fun s hs => funext (fun i => up_n (by omega)), rfl, rfl, rfl⟩, rfl⟩
theorem KP_stl {S : SV} {p d k e u b h o : Nat} {f : Nat → Nat} : KP S (stl S p d k e u b h o f) := by
  refine ⟨fun s hs => funext (fun i => ?_), rfl, rfl, rfl⟩
  unfold stl
  rw [if_neg (by omega), if_neg (by omega), if_neg (by omega), if_neg (by omega), if_neg (by omega), if_neg (by omega), if_neg (by omega), if_neg (by omega)]
theorem KP_vd {S : SV} {p : Nat} : KP S (vdS S p) := by
  refine ⟨fun s hs => funext (fun i => ?_), rfl, rfl, rfl⟩
  unfold vdS
  rw [up_n (by omega), vdt_o (by omega) (by omega)]
