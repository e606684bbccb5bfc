section RI
variable {w τ g : Mm} {n wd z : Nat} {so sr : Nat → Nat} {L : Nat → Int32}
/-- the rides that fits() tries -/
theorem fits_set {x1 x2 : Int32} : ∀ (fu k : Nat) (τ : Mm), k ≤ 8 → 8 - k < fu → ∃ τ', LX9_fits_10 x1 x2 fu (nI k) τ = some τ' ∧ (∀ q, q ≠ 18 → τ' q = τ q) ∧ ∀ j, τ' 18 j = if 184 + k ≤ j ∧ j < 192 then (if nI (j - 184) = x1 then x2 else -4) else τ 18 j := by
  intro fu
  induction fu with
  | zero => intro k τ _ q; omega
  | succ fu ih =>
    intro k τ hk hf
    rw [LX9_fits_10, nI_lit 8, ifle (by omega) (by omega)]
    by_cases c : 8 ≤ k
    · rw [if_pos c]
      exact ⟨τ, rfl, fun _ _ => rfl, fun j => by rw [if_neg (by omega)]⟩
    · rw [if_neg c, show (if nI k = x1 then some x2 else some (-4)) = some (if nI k = x1 then x2 else -4) by split <;> rfl]
      simp only [bd1s]
      rw [show (184 : Int32) + nI k = nI (184 + k) by rw [nI_lit 184, nI_add], wrN (k := 18) (j := 184 + k) (by omega) (by omega), nI_1]
      simp only [bd1s]
      obtain ⟨τ', r1, r2, r3⟩ := ih (k + 1) (st τ 18 (184 + k) (if nI k = x1 then x2 else -4)) (by omega) (by omega)
      refine ⟨τ', r1, fun q hq => by rw [r2 q hq, st_a hq], fun j => ?_⟩
      rw [r3 j]
      by_cases c1 : 184 + (k + 1) ≤ j ∧ j < 192
      · rw [if_pos c1, if_pos (show 184 + k ≤ j ∧ j < 192 by omega)]
      · rw [if_neg c1]
        by_cases c2 : j = 184 + k
        · subst c2
          rw [st_kj, if_pos (show 184 + k ≤ 184 + k ∧ 184 + k < 192 by omega), show 184 + k - 184 = k by omega]
        · rw [st_ki c2, if_neg (by omega)]
end RI
