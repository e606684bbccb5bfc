section IX
variable {w w' τ τ' : Mm} {T : Nat → Nat} {len N : Nat}
/-- two beasts -/
theorem mch2r (hm : Tm0 τ T len) (hN : N ≤ 8) (s3 : τ 2 1 = nI N) {q : Nat} (hq : q ≤ 200) (e : τ 0 18 = nI q) : ∃ τ1 τ2, fX9_told (st (st τ 0 18 (nI (q + 1))) 0 19 1) 44 = some (nI (nv T len (ps T len (q + 1) 0)), τ1) ∧ fX9_told τ1 59 = some (nI (nv T len (ps T len (q + 1) 1)), τ2) ∧ τ2 0 18 = nI (ps T len (q + 1) 2) ∧ (∀ a, a ≠ 0 → τ2 a = τ a) ∧ (∀ j, j ≠ 18 → j ≠ 19 → τ2 0 j = τ 0 j) ∧ ((τ2 0 19 = 1 ∧ sy T len (q + 1) 2 0 ∧ sy T len (q + 1) 2 1 ∧ nv T len (ps T len (q + 1) 0) < N ∧ nv T len (ps T len (q + 1) 1) < N) ∨ (τ2 0 19 = 0 ∧ ¬ (sy T len (q + 1) 2 0 ∧ sy T len (q + 1) 2 1 ∧ nv T len (ps T len (q + 1) 0) < N ∧ nv T len (ps T len (q + 1) 1) < N))) := by
  have nb := n_bd T len (ps T len (q + 1) 1)
  obtain ⟨τ1, a1, a2⟩ := mtold (sep := 44) hm (by omega) (by omega) hN s3 (Mk0 (T := T) (len := len) e)
  obtain ⟨τ2, b1, b2, b3, b4, b5⟩ := mtold (sep := 59) hm (by omega) (by omega) hN s3 a2
  refine ⟨τ1, τ2, a1, b1, b2, b4, b5, ?_⟩
  rw [b3]
  by_cases c : sy T len (q + 1) 2 0 ∧ sy T len (q + 1) 2 1 ∧ nv T len (ps T len (q + 1) 0) < N ∧ nv T len (ps T len (q + 1) 1) < N
  · obtain ⟨c1, c2, c3, c4⟩ := id c
    refine Or.inl ⟨?_, c⟩
    have d1 : hr T len (np T len (ps T len (q + 1) 0)) = 44 := c1.2
    have d2 : hr T len (np T len (ps T len (q + 1) 1)) = 59 := c2.2
    rw [decide_eq_true c1.1, decide_eq_true c3, decide_eq_true d1, decide_eq_true c2.1, decide_eq_true (show nv T len (ps T len (q + 1) 1) < N from c4), decide_eq_true d2]
    rfl
  · refine Or.inr ⟨?_, c⟩
    rw [show (0 : Int32) = bI false from rfl]
    congr 1
    cases z : (true && (decide (nd T len (ps T len (q + 1) 0) ≠ 0) && (decide (nv T len (ps T len (q + 1) 0) < N) && decide (hr T len (np T len (ps T len (q + 1) 0)) = 44))) && (decide (nd T len (ps T len (q + 1) (0 + 1)) ≠ 0) && (decide (nv T len (ps T len (q + 1) 1) < N) && decide (hr T len (np T len (ps T len (q + 1) (0 + 1))) = 59))))
    · rfl
    · exfalso
      simp only [Bool.and_eq_true, decide_eq_true_eq] at z
      obtain ⟨⟨-, z1, z2, z3⟩, z4, z5, z6⟩ := z
      exact c ⟨⟨z1, z3⟩, ⟨z4, z6⟩, z2, z5⟩
end IX
