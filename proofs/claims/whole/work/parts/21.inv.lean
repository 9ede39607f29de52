/-! ===== what ties the house's memory and the model's to the day in plain numbers ===== -/
/-- the newest ticket of a pool below t -/
def lastT (f : Nat → Nat) (p : Nat) : Nat → Option Nat
  | 0 => none
  | t + 1 => if f t = p then some t else lastT f p t
/-- how many run -/
def rng (S : SV) (r : Nat) : Nat := sm (S 10 r) (fun n => if S 13 (25 * r + (n + 1)) = 0 then 1 else 0)
def RCh (S : SV) (C : Mm) : Prop := mR C 1 0 0 = some 0 ∧ mR C 1 0 1 = some 0 ∧ mI C 1 0 2 = nI (S 0 19) ∧ mR C 1 0 3 = (if S 15 52 = 0 then none else some 52) ∧ mJ C 1 0 4 = lN (S 0 26) ∧ (∀ r, r < 13 → mR C 2 0 r = if S 10 r = 0 then none else some r) ∧ (∀ t, t < 600 → mR C 3 0 t = if t < S 0 19 then some t else none)
def RCr (S : SV) (C : Mm) (r : Nat) : Prop := mI C 4 r 0 = nI r ∧ mI C 4 r 1 = nI (S 10 r) ∧ mR C 4 r 2 = some r ∧ mR C 4 r 3 = some r ∧ mI C 4 r 4 = nI (S 11 r) ∧ mI C 4 r 5 = nI (rng S r) ∧ mI C 4 r 6 = nI (S 12 r) ∧ (∀ n, n < 25 → mI C 5 r n = if S 13 (25 * r + n) = 0 then nI (S 14 (25 * r + n)) else -1) ∧ (∀ k, k < 4 → mR C 6 r k = if S 15 (4 * r + k) = 0 then none else some (4 * r + k))
def RCp (S : SV) (C : Mm) (p : Nat) : Prop := mI C 7 p 0 = nI (kd p) ∧ mR C 7 p 1 = some (ro S p 0) ∧ mR C 7 p 2 = some (ro S p 1) ∧ mI C 7 p 3 = nI (S 16 p) ∧ mI C 7 p 4 = nI (S 17 p) ∧ mR C 7 p 5 = lastT (S 27) p (S 0 19) ∧ mI C 7 p 6 = nI (S 18 p) ∧ mI C 7 p 7 = nI (S 26 p) ∧ mJ C 7 p 10 = lN (S 19 p) ∧ mJ C 7 p 11 = lN (S 20 p) ∧ mJ C 7 p 12 = lN (S 21 p) ∧ mJ C 7 p 13 = lN (S 22 p) ∧ mJ C 7 p 14 = lN (S 24 p) ∧ mJ C 7 p 15 = lN (S 23 p) ∧ mJ C 7 p 16 = lN (S 25 p)
def RCt (S : SV) (C : Mm) (t : Nat) : Prop := mR C 8 t 0 = some (S 27 t) ∧ mR C 8 t 1 = lastT (S 27) (S 27 t) t ∧ mI C 8 t 2 = nI (S 29 t) ∧ mI C 8 t 3 = nI (S 28 (3 * t)) ∧ mI C 8 t 4 = nI (S 28 (3 * t + 1)) ∧ mI C 8 t 5 = nI (S 28 (3 * t + 2)) ∧ mI C 8 t 6 = nI (S 30 t)
def RCa (S : SV) (C : Mm) : Prop := (∀ r, S 10 r = 0 → mA C 4 r = false ∧ mA C 5 r = false ∧ mA C 6 r = false) ∧ (∀ p, S 15 p = 0 → mA C 7 p = false) ∧ (∀ t, S 0 19 ≤ t → mA C 8 t = false)
/-- a ticket that counts; what it costs -/
abbrev cntT (S : SV) (t : Nat) : Prop := S 30 t = 0 ∨ S 30 t = 3
def cost (S : SV) (t : Nat) : Nat := S 29 t * S 17 (S 27 t)
/-- a ticket names the same as what is told -/
abbrev sameT (S : SV) (t p : Nat) (a b c : Int32) : Prop := S 27 t = p ∧ ((kd p = 2 ∧ nI (S 28 (3 * t)) = b ∧ nI (S 28 (3 * t + 1)) = a) ∨ (nI (S 28 (3 * t)) = a ∧ (mny p < 2 ∨ nI (S 28 (3 * t + 1)) = b) ∧ (mny p < 3 ∨ nI (S 28 (3 * t + 2)) = c)))
/-- a runner within a position -/
abbrev wth (S : SV) (r n b : Nat) : Prop := 0 < S 14 (25 * r + n) ∧ S 14 (25 * r + n) ≤ b
/-- the last position that wins in a PLACE pool -/
def lwp (S : SV) (r : Nat) : Nat := if 8 ≤ rng S r then 3 else if 5 ≤ rng S r then 2 else 0
/-- what is named wins -/
abbrev wns (S : SV) (p a b c : Nat) : Prop :=
  (kd p = 0 ∧ wth S (ro S p 0) a 1) ∨ (kd p = 1 ∧ wth S (ro S p 0) a (lwp S (ro S p 0))) ∨
  (kd p = 2 ∧ wth S (ro S p 0) a 2 ∧ wth S (ro S p 0) b 2 ∧ (wth S (ro S p 0) a 1 ∨ wth S (ro S p 0) b 1)) ∨
  (kd p = 3 ∧ wth S (ro S p 0) a 1 ∧ wth S (ro S p 0) b 2 ∧ wth S (ro S p 0) c 3) ∨
  (kd p = 4 ∧ wth S (ro S p 0) a 1 ∧ wth S (ro S p 1) b 1)
abbrev wnT (S : SV) (t : Nat) : Prop := wns S (S 27 t) (S 28 (3 * t)) (S 28 (3 * t + 1)) (S 28 (3 * t + 2))
/-- units on what is named -/
def uo (S : SV) (p : Nat) (a b c : Int32) : Nat := sm (S 0 19) (fun t => if cntT S t ∧ sameT S t p a b c then S 29 t else 0)
abbrev uoT (S : SV) (t : Nat) : Nat := uo S (S 27 t) (nI (S 28 (3 * t))) (nI (S 28 (3 * t + 1))) (nI (S 28 (3 * t + 2)))
abbrev sameTT (S : SV) (q t : Nat) : Prop := sameT S q (S 27 t) (nI (S 28 (3 * t))) (nI (S 28 (3 * t + 1))) (nI (S 28 (3 * t + 2)))
/-- what a winner with u units gets, of net N, k winners, W units on them -/
def dvd (kind unit N k W u : Nat) : Nat := if kind ≠ 1 then N / k / u / 10 * 10 else if k = 0 then 0 else if N < unit * W then unit else unit + (N - unit * W) / k / u / 10 * 10
/-- the books of a pool that was settled -/
def RCd (S : SV) (C : Mm) (p : Nat) : Prop := (S 18 p = 0 → mJ C 7 p 8 = 0) ∧ (S 18 p = 1 → ∃ N W : Nat, N < 2 ^ 50 ∧ W < 2 ^ 30 ∧ mJ C 7 p 8 = lN W ∧ mJ C 7 p 9 = lN N ∧ ∀ t, t < S 0 19 → S 27 t = p → cntT S t → S 31 t = if wnT S t then dvd (kd p) (S 17 p) N (S 26 p) W (uoT S t) else 0)
def RCx (EE : Nat → Prop) (S : SV) (C : Mm) : Prop := RCh S C ∧ (∀ r, S 10 r ≠ 0 → RCr S C r) ∧ (∀ p, S 15 p ≠ 0 → RCp S C p ∧ EE p) ∧ (∀ t, t < S 0 19 → RCt S C t) ∧ RCa S C
def RC (S : SV) (C : Mm) : Prop := RCx (RCd S C) S C
/-- the day is a day: what holds of the numbers alone -/
def GA (S : SV) : Prop := (∀ r, S 10 r ≠ 0 → 1 ≤ r ∧ r ≤ 12 ∧ 2 ≤ S 10 r ∧ S 10 r ≤ 24) ∧ (∀ r, S 11 r ≤ 2 ∧ (S 10 r = 0 → S 11 r = 0)) ∧ (∀ r, S 12 r ≤ S 10 r) ∧ (∀ x, S 13 x ≤ 1 ∧ S 14 x ≤ 24 ∧ (S 13 x = 1 → S 14 x = 0)) ∧ (∀ r n, S 10 r = 0 → n < 25 → S 13 (25 * r + n) = 0 ∧ S 14 (25 * r + n) = 0)
/-- a pool that is there -/
def GPx (DD : Nat → Prop) (ZZ : Prop) (S : SV) : Prop := (∀ p, S 15 p ≤ 1) ∧ (∀ p, S 15 p = 1 → p ≤ 52 ∧ (p = 52 ∨ S 10 (p / 4) ≠ 0) ∧ S 16 p ≤ 999 ∧ 10 ≤ S 17 p ∧ S 17 p ≤ 1000 ∧ S 17 p % 10 = 0 ∧ S 18 p ≤ 2 ∧ (S 18 p = 0 ↔ ¬ DD p)) ∧ (S 15 52 = 1 → S 10 (S 0 17) ≠ 0 ∧ S 10 (S 0 18) ≠ 0 ∧ S 0 17 ≠ S 0 18) ∧ (S 0 17 < 13 ∧ S 0 18 < 13) ∧ (∀ p, S 15 p = 0 → S 18 p = 0 ∧ S 24 p = 0) ∧ ZZ
def GP (S : SV) : Prop := GPx (fun p => S 11 (ro S p 0) = 2 ∧ S 11 (ro S p 1) = 2) (∀ p, S 18 p = 0 → S 19 p = 0 ∧ S 20 p = 0 ∧ S 21 p = 0 ∧ S 22 p = 0 ∧ S 23 p = 0 ∧ S 25 p = 0 ∧ S 26 p = 0) S
/-- a ticket that was sold -/
def GTx (TT : Prop) (S : SV) (k : Nat) : Prop := S 0 19 ≤ k ∧ k ≤ 512 ∧ (∀ t, t < S 0 19 → S 15 (S 27 t) = 1 ∧ 1 ≤ S 29 t ∧ S 29 t ≤ 1000 ∧ S 30 t ≤ 3 ∧ (∀ j, j < 3 → if j < mny (S 27 t) then 1 ≤ S 28 (3 * t + j) ∧ S 28 (3 * t + j) ≤ S 10 (ro S (S 27 t) j) ∧ (cntT S t → S 13 (25 * ro S (S 27 t) j + S 28 (3 * t + j)) = 0) else S 28 (3 * t + j) = 0) ∧ (S 27 t ≠ 52 → (2 ≤ mny (S 27 t) → S 28 (3 * t) ≠ S 28 (3 * t + 1)) ∧ (3 ≤ mny (S 27 t) → S 28 (3 * t) ≠ S 28 (3 * t + 2) ∧ S 28 (3 * t + 1) ≠ S 28 (3 * t + 2)))) ∧ TT
def GT (S : SV) (k : Nat) : Prop := GTx ((∀ t, S 0 19 ≤ t ∨ S 18 (S 27 t) = 0 → S 31 t = 0) ∧ (∀ t, t < S 0 19 → S 30 t = 3 → S 18 (S 27 t) = 1) ∧ (∀ t, t < S 0 19 → S 18 (S 27 t) = 2 → ¬ cntT S t)) S k
/-- how many races are OFFICIAL; no sum that is carried passes this -/
def offN (f : Nat → Nat) : Nat := sm 13 (fun r => if f r = 2 then 1 else 0)
def cap (f : Nat → Nat) : Nat := 2 ^ 30 * (2 ^ offN f - 1)
/-- the money -/
def GM (S : SV) : Prop := S 0 25 = sm (S 0 19) (fun t => if S 30 t = 1 ∨ S 30 t = 2 then cost S t else 0) ∧ (∀ p, S 24 p ≤ cap (S 11)) ∧ S 0 26 ≤ cap (S 11) ∧ (∀ p, S 26 p ≤ 512)
/-- positions of a race that is OFFICIAL -/
def GOr (S : SV) (r : Nat) : Prop := ∀ n, 1 ≤ n → n ≤ S 10 r → S 14 (25 * r + n) ≠ 0 → S 14 (25 * r + n) = 1 + sm (S 10 r) (fun m => if 0 < S 14 (25 * r + (m + 1)) ∧ S 14 (25 * r + (m + 1)) < S 14 (25 * r + n) then 1 else 0)
def GO (S : SV) : Prop := (∀ r, S 11 r = 2 → GOr S r) ∧ (∀ r n, S 11 r = 0 → n < 25 → S 14 (25 * r + n) = 0)
def Inv (k : Nat) (C R : Mm) : Prop := ∃ S : SV, RM S R ∧ RC S C ∧ GA S ∧ GP S ∧ GT S k ∧ GM S ∧ GO S
