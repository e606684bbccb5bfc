/-! reading a text -/
theorem st_st {w : Mm} {k j : Nat} {x y : Int32} : st (st w k j x) k j y = st w k j y := by
  funext a b
  rw [st_at, st_at, st_at]
  split <;> rfl
theorem st_id {w : Mm} {k j : Nat} {x : Int32} (h : w k j = x) : st w k j x = w := by
  funext a b
  rw [st_at]
  split
  · next q => rw [q.1, q.2, h]
  · rfl
/-- one and two digits -/
def rn (T : Nat → Nat) (len : Nat) : Nat → Nat → Nat → Nat → Nat × Nat × Nat
  | 0, a, d, p => (a, d, p)
  | f + 1, a, d, p => if p < len ∧ 48 ≤ T p ∧ T p ≤ 57 then rn T len f (10 * a + T p - 48) (d + 1) (p + 1) else (a, d, p)
def nv (T : Nat → Nat) (len p : Nat) : Nat := (rn T len 2 0 0 p).1
def nd (T : Nat → Nat) (len p : Nat) : Nat := (rn T len 2 0 0 p).2.1
def np (T : Nat → Nat) (len p : Nat) : Nat := (rn T len 2 0 0 p).2.2
section RN
variable {T : Nat → Nat} {len : Nat} {w τ : Mm}
theorem rn_bd : ∀ (f a d p : Nat), a < 10 ^ d → (rn T len f a d p).1 < 10 ^ (d + f) ∧ d ≤ (rn T len f a d p).2.1 ∧ (rn T len f a d p).2.1 ≤ d + f ∧ p ≤ (rn T len f a d p).2.2 ∧ (rn T len f a d p).2.2 ≤ p + f
  | 0, a, d, p, h => ⟨h, Nat.le_refl _, Nat.le_refl _, Nat.le_refl _, Nat.le_refl _⟩
  | f + 1, a, d, p, h => by
    rw [rn]
    split
    · next q =>
      have h2 : 10 * a + T p - 48 < 10 ^ (d + 1) := by
        rw [Nat.pow_succ]
        omega
      obtain ⟨a1, a2, a3, a4, a5⟩ := rn_bd f (10 * a + T p - 48) (d + 1) (p + 1) h2
      rw [show d + (f + 1) = d + 1 + f by omega]
      exact ⟨a1, by omega, by omega, by omega, by omega⟩
    · refine ⟨Nat.lt_of_lt_of_le h (Nat.pow_le_pow_right (by omega) (by omega)), ?_, ?_, ?_, ?_⟩ <;> dsimp only <;> omega
theorem n_bd (T : Nat → Nat) (len p : Nat) : nv T len p < 100 ∧ nd T len p ≤ 2 ∧ p ≤ np T len p ∧ np T len p ≤ p + 2 := by
  obtain ⟨a1, a2, a3, a4, a5⟩ := rn_bd (T := T) (len := len) 2 0 0 p (by decide)
  exact ⟨a1, by unfold nd; omega, a4, a5⟩
/-- both hold the text -/
def Tx0 (w : Mm) (T : Nat → Nat) (len : Nat) : Prop := len ≤ 200 ∧ ∀ k, k < len → 32 ≤ T k ∧ T k ≤ 126 ∧ w 0 k = nI (T k)
def Tm0 (τ : Mm) (T : Nat → Nat) (len : Nat) : Prop := len ≤ 200 ∧ τ 0 1 = nI len ∧ ∀ k, k < len → 32 ≤ T k ∧ T k ≤ 126 ∧ τ 1 k = nI (T k)
theorem xnum_loop (h : Tx0 w T len) : ∀ (f fu a d p : Nat), f < fu → d + f = 2 → a < 10 ^ d → p ≤ 1000 → LX5_readNumber_6 (nI len) 200 fu (nI a) (nI d) (st w 1 1 (nI p)) = some (st w 1 1 (nI (rn T len f a d p).2.2), nI (rn T len f a d p).1, nI (rn T len f a d p).2.1) := by
  intro f
  induction f with
  | zero =>
    intro fu a d p hf hd ha hp
    obtain ⟨fu, rfl⟩ : ∃ f, fu = f + 1 := ⟨fu - 1, by omega⟩
    rw [LX5_readNumber_6, nI_lit 2, ifle (by omega) (by omega), if_pos (by omega)]
    rfl
  | succ f ih =>
    intro fu a d p hf hd ha hp
    obtain ⟨fu, rfl⟩ : ∃ f, fu = f + 1 := ⟨fu - 1, by omega⟩
    have hl := h.1
    rw [LX5_readNumber_6, nI_lit 2, ifle (by omega) (by omega), if_neg (by omega), st_kj, ifle (by omega) (by omega), rn]
    by_cases c : len ≤ p
    · rw [if_pos c, if_neg (by omega)]
    · obtain ⟨t1, t2, t3⟩ := h.2 p (by omega)
      rw [if_neg c, rdN (k := 0) (j := p) (by omega) (by omega), st_a (a := 0) (by omega), t3]
      simp only [bd1s]
      rw [show fX8_within (nI (T p)) 48 57 = _ from within_in (a := T p) (b := 48) (c := 57) (by omega) (by omega) (by omega)]
      simp only [bd1s]
      by_cases e : 48 ≤ T p ∧ T p ≤ 57
      · rw [decide_eq_true e, bI_t, if_neg (show ¬ (1 : Int32) = 0 by decide), if_pos ⟨by omega, e⟩, pts, st_st, nI_1, nI_1, nI_lit 10, pk_mul, nI_add, nI_lit 48, pk_sub (by omega)]
        simp only [bd1s]
        exact ih fu _ (d + 1) (p + 1) (by omega) (by omega) (by rw [Nat.pow_succ]; omega) (by omega)
      · rw [decide_eq_false e, bI_f, if_pos (show (0 : Int32) = 0 from rfl), if_neg (fun z => e z.2)]
end RN
