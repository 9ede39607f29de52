/-! ===== who names the same names the same ===== -/
theorem same_eq {S : SV} {t p : Nat} {a b c : Int32} (h : sameT S t p a b c) (q : Nat) : sameT S q p a b c ↔ sameT S q p (nI (S 28 (3 * t))) (nI (S 28 (3 * t + 1))) (nI (S 28 (3 * t + 2))) := by
  have hm := mny_kd p
  have hl := mny_le p
  obtain ⟨-, h | h⟩ := h
  · obtain ⟨k2, e1, e2⟩ := h
    subst e1 e2
    have m2 : ¬ mny p < 2 := by omega
    have m3 : mny p < 3 := by omega
    constructor
    · rintro ⟨hp, ⟨-, u, v⟩ | ⟨u, v, -⟩⟩
      · exact ⟨hp, Or.inr ⟨u, Or.inr v, Or.inl m3⟩⟩
      · exact ⟨hp, Or.inl ⟨k2, u, v.resolve_left m2⟩⟩
    · rintro ⟨hp, ⟨-, u, v⟩ | ⟨u, v, -⟩⟩
      · exact ⟨hp, Or.inr ⟨u, Or.inr v, Or.inl m3⟩⟩
      · exact ⟨hp, Or.inl ⟨k2, u, v.resolve_left m2⟩⟩
  · obtain ⟨e1, e2, e3⟩ := h
    subst e1
    have k2 : kd p = 2 → ¬ mny p < 2 := fun z => by omega
    constructor
    · rintro ⟨hp, ⟨k, u, v⟩ | ⟨u, v, w⟩⟩
      · exact ⟨hp, Or.inl ⟨k, u.trans (e2.resolve_left (k2 k)).symm, v⟩⟩
      · refine ⟨hp, Or.inr ⟨u, ?_, ?_⟩⟩
        · rcases v with v | v
          · exact Or.inl v
          · exact e2.imp id (fun z => v.trans z.symm)
        · rcases w with w | w
          · exact Or.inl w
          · exact e3.imp id (fun z => w.trans z.symm)
    · rintro ⟨hp, ⟨k, u, v⟩ | ⟨u, v, w⟩⟩
      · exact ⟨hp, Or.inl ⟨k, u.trans (e2.resolve_left (k2 k)), v⟩⟩
      · refine ⟨hp, Or.inr ⟨u, ?_, ?_⟩⟩
        · rcases v with v | v
          · exact Or.inl v
          · exact e2.imp id (fun z => v.trans z)
        · rcases w with w | w
          · exact Or.inl w
          · exact e3.imp id (fun z => w.trans z)
