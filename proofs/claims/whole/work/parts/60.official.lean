/-! ===== the call official ===== -/
theorem cap_up {f : Nat → Nat} {S : SV} {r : Nat} (hr : r ≤ 12) (h1 : S 11 r = 1) (hf : f = up S 11 r 2 11) : cap f = 2 * cap (S 11) + 2 ^ 30 := by
  have e : offN f = offN (S 11) + 1 := by
    unfold offN
    rw [hf]
    refine sm_upd (t := r) (by omega) (fun i _ hi => ?_) ?_
    · show (if up S 11 r 2 11 i = 2 then 1 else 0) = _
      rw [up_n (fun z => hi z.2)]
    · show (if up S 11 r 2 11 r = 2 then 1 else 0) = _
      rw [up_s, if_pos rfl, if_neg (by omega)]
  unfold cap
  rw [e, Nat.pow_succ]
  have key : ∀ x : Nat, 1 ≤ x → 2 ^ 30 * (x * 2 - 1) = 2 * (2 ^ 30 * (x - 1)) + 2 ^ 30 := fun x hx => by omega
  exact key _ Nat.one_le_two_pow
theorem s_official : S_official Inv := by
  intro k C R v hk hI
  obtain ⟨S, hR, hC, g1, g2, g3, g4, g5⟩ := hI
  have stay : ∃ (r : Int32) (C' R' : Mm), some ((-1 : Int32), C) = some (r, C') ∧ some ((-1 : Int32), R) = some (r, R') ∧ Inv (k + 1) C' R' := ⟨-1, C, R, rfl, rfl, Inv_st hR hC g1 g2 g3 hk g4 g5⟩
  unfold f_X3_official f_X4_official
  rw [c_raceNumbered hC g1, m_isRace hR g1]
  simp only [ob_s, b1_if]
  cases hr : rOf S v with
  | none => rw [on_n, if_neg (fun z => z rfl)]; exact stay
  | some r =>
    obtain ⟨r1, r2, r3, r4⟩ := rOf_s hr
    have hrr := hC.2.1 r r4
    have h11 := (g1.2.1 r).1
    rw [on_s, if_pos (fun z => by cases z), RM_ref hR 1, r1]
    simp only [ob_s, lt_e]
    rw [ix_n (by omega) (by omega), nI_cl (by omega), RM_I hR 11, hrr.2.2.2.2.1]
    by_cases q : S 11 r = 1
    · rw [if_pos ((nI_1e (by omega)).mpr q), if_pos ((nI_1e (by omega)).mpr q)]
      have rr := res2 hR hrr g1 r3
      by_cases q1 : rgt S r
      · obtain ⟨x1, x2⟩ := rr.1 q1
        rw [x1, x2]
        simp only [ob_s]
        rw [if_neg (by decide), if_neg (by decide), ix_n (by omega) (by omega)]
        have hR1 : RM (up S 11 r 2) (sI R 11 0 r (2 : Int32)) := RM_sI (v := 2) hR (by omega)
        have hC1 : RC (up S 11 r 2) (sI C 4 r 4 (2 : Int32)) := RC_phase (v := 2) hC r4
        have e3 : mR (sI C 4 r 4 (2 : Int32)) 4 r 3 = some r := (hC1.2.1 r r4).2.2.2.1
        rw [e3]
        simp only [ob_s]
        have s11 : ∀ x, x ≠ r → up S 11 r 2 11 x = S 11 x := fun x hx => up_n (fun z => hx z.2)
        have g1' : GA (up S 11 r 2) := by
          refine ⟨g1.1, fun x => ?_, g1.2.2.1, g1.2.2.2.1, g1.2.2.2.2⟩
          by_cases e : x = r
          · subst e; rw [up_s]; exact ⟨by omega, fun z => absurd z r4⟩
          · rw [s11 x e]; exact g1.2.1 x
        have g2' : GQ (up S 11 r 2) := by
          refine ⟨g2.1, fun p hp => ?_, g2.2.2.1, g2.2.2.2.1, g2.2.2.2.2⟩
          obtain ⟨a1, a2, a3, a4, a5, a6, a7, -⟩ := g2.2.1 p hp
          exact ⟨a1, a2, a3, a4, a5, a6, a7, ⟨fun z => fun w => w z, fun z => Decidable.byContradiction z⟩⟩
        have g5' : GO (up S 11 r 2) := by
          refine ⟨fun x hx => ?_, fun x n hx hn => ?_⟩
          · by_cases e : x = r
            · rw [e]; exact fun n n1 n2 n3 => q1.2 n n1 n2 n3
            · rw [s11 x e] at hx; exact g5.1 x hx
          · by_cases e : x = r
            · subst e; rw [up_s] at hx; omega
            · rw [s11 x e] at hx; exact g5.2 x n hx hn
        have d8 : ∀ p, S 15 p = 1 → (S 18 p = 0 ↔ ¬ both S p) := fun p hp => (g2.2.1 p hp).2.2.2.2.2.2.2
        have bne : ∀ p, ro S p 0 ≠ r → ro S p 1 ≠ r → (both (up S 11 r 2) p ↔ both S p) := fun p h0 h1 => by
          show (up S 11 r 2 11 (ro S p 0) = 2 ∧ up S 11 r 2 11 (ro S p 1) = 2) ↔ _
          rw [s11 _ h0, s11 _ h1]
        have u0 : ∀ p, S 15 p = 1 → (ro S p 0 = r ∨ ro S p 1 = r) → S 18 p = 0 := fun p hp h => by
          refine (d8 p hp).mpr (fun z => ?_)
          rcases h with h | h
          · have := z.1; rw [h] at this; omega
          · have := z.2; rw [h] at this; omega
        have hs : HS (up S 11 r 2) r := by
          refine ⟨up_s, fun p hp n52 hpr => ?_, fun hp hn => ?_, fun hp hn => ?_, fun p h1 h2 => ?_⟩
          · have := bne p (by rw [ro_n52 n52]; exact hpr) (by rw [ro_n52 n52]; exact hpr)
            rw [this]
            exact d8 p hp
          · have := bne 52 (fun z => hn (Or.inl z.symm)) (fun z => hn (Or.inr z.symm))
            rw [this]
            exact d8 52 hp
          · exact u0 52 hp (hn.imp Eq.symm Eq.symm)
          · show S 18 p = 0
            by_cases hp : S 15 p = 1
            · exact u0 p hp (Or.inl (by rw [ro_n52 (by omega)]; omega))
            · exact (g2.2.2.2.2.1 p (by have := g2.1 p; omega)).1
        have hcap := cap_le (S 11)
        have hcup := cap_up (f := up S 11 r 2 11) r3 q rfl
        have hcap2 := cap_le (up S 11 r 2 11)
        obtain ⟨w, S', C', R', y1, y2, y3, y4, y5, y6, y7, y8, y9, y10, y11⟩ := off_loop (k := k) (B := cap (S 11)) hs r4 ⟨r2, r3⟩ (by omega) FU 0 0 (up S 11 r 2) (sI C 4 r 4 (2 : Int32)) (sI R 11 0 r (2 : Int32)) (by omega) (by show 4 < 0 + 1000; omega) ⟨hR1, hC1, g1', g2', g3, by rw [if_neg (by omega)]; exact g4, g5', KP_r _, fun _ _ => rfl, fun p h1 h2 => by omega⟩
        have z1 : f_X3_official_48 FU 0 (0 : Int32) r (4 : Int32) (0 : Int32) (sI C 4 r 4 (2 : Int32)) = some (w, C') := y1
        have z2 : f_X4_official_39 FU 0 (nI r) (0 : Int32) (0 : Int32) (sI R 11 0 r (2 : Int32)) = some (w, R') := y2
        rw [z1, z2]
        refine ⟨w, C', R', rfl, rfl, Inv_st y3 y4 y5 ?_ y7 hk ?_ y9⟩
        · refine ⟨y6.1, fun p hp => ?_, y6.2.2.1, y6.2.2.2.1, y6.2.2.2.2⟩
          obtain ⟨a1, a2, a3, a4, a5, a6, a7, -⟩ := y6.2.1 p hp
          exact ⟨a1, a2, a3, a4, a5, a6, a7, y11 p hp⟩
        · have ec : cap (S' 11) = 2 * cap (S 11) + 2 ^ 30 := by
            rw [KP_11 y10]; exact hcup
          rw [← ec] at y8
          exact y8
      · obtain ⟨x1, x2⟩ := rr.2 q1
        rw [x1, x2]
        simp only [ob_s]
        rw [if_pos trivial, if_pos trivial]
        exact stay
    · rw [if_neg (fun z => q ((nI_1e (by omega)).mp z)), if_neg (fun z => q ((nI_1e (by omega)).mp z))]; exact stay
