section IZ
variable {w w' τ τ' : Mm} {T : Nat → Nat} {len N : Nat}
/-- one more voice: class and reference write the same -/
theorem SpV.add (h : SpV w τ N) (hN : N ≤ 8) {i : Nat} (hi : i < N) : (τ 14 (8 + i) = 0 ∧ w 10 i = -4 ∧ ∃ vc, vc < 8 ∧ w 3 16 = nI vc ∧ τ 15 1 = nI vc ∧ ∀ w' τ' : Mm, w' 3 16 = nI (vc + 1) → (∀ j, j < N → w' 10 j = if j = i then nI vc else w 10 j) → τ' 15 1 = nI (vc + 1) → (∀ j, j < N → τ' 14 (8 + j) = if j = i then nI (vc + 1) else τ 14 (8 + j)) → SpV w' τ' N) ∨ (τ 14 (8 + i) ≠ 0 ∧ w 10 i ≠ -4) := by
  obtain ⟨vc, vo, v1, v2, v3, v4, v5⟩ := h
  obtain ⟨a1, a2, a3⟩ := v4 i hi
  have vl := ct_len (fun i => decide (vo i ≠ 0)) N
  by_cases c : vo i = 0
  · rw [if_pos c] at a3
    have less : vc + 1 ≤ N := by
      have := ct_put (p := fun j => decide (upd (fun k => nI (vo k)) i 1 j ≠ 0)) (q := fun j => decide (nI (vo j) ≠ 0)) hi (by simp [upd]) (by simp [c]; rfl) (fun j _ q => by simp [upd, q])
      have e : ct (fun j => decide (nI (vo j) ≠ 0)) N = vc := by
        rw [v3]
        refine ct_cg N (fun k hk => ?_)
        have := (v4 k hk).1
        by_cases z : vo k = 0
        · simp [z]; rfl
        · rw [decide_eq_true z, decide_eq_true (nI_ne0 (by omega) (by omega))]
      have := ct_len (fun j => decide (upd (fun k => nI (vo k)) i 1 j ≠ 0)) N
      omega
    refine Or.inl ⟨by rw [a2, c]; rfl, a3, vc, by omega, v1, v2, fun w' τ' p1 p2 p3 p4 => ⟨vc + 1, fun j => if j = i then vc + 1 else vo j, p1, p3, ?_, fun j hj => ?_, fun j k hj hk q r => ?_⟩⟩
    · rw [ct_put (q := fun j => decide (vo j ≠ 0)) hi (by simp) (by simp [c]) (fun j _ q => by simp [q]), ← v3]
    · rw [p2 j hj, p4 j hj]
      obtain ⟨b1, b2, b3⟩ := v4 j hj
      have key : ∀ V : Nat, V = (if j = i then vc + 1 else vo j) → V ≤ vc + 1 ∧ (if j = i then nI (vc + 1) else τ 14 (8 + j)) = nI V ∧ (if j = i then nI vc else w 10 j) = if V = 0 then -4 else nI (V - 1) := by
        intro V e
        by_cases z : j = i
        · rw [if_pos z] at e
          rw [if_pos z, if_pos z, e, if_neg (by omega)]
          exact ⟨Nat.le_refl _, rfl, rfl⟩
        · rw [if_neg z] at e
          rw [if_neg z, if_neg z, e]
          exact ⟨by omega, b2, b3⟩
      exact key _ rfl
    · dsimp only at q r
      have bj := (v4 j hj).1
      have bk := (v4 k hk).1
      by_cases z : j = i
      · rw [if_pos z] at q
        by_cases y : k = i
        · rw [z, y]
        · rw [if_neg y] at q
          omega
      · rw [if_neg z] at q r
        by_cases y : k = i
        · rw [if_pos y] at q
          omega
        · rw [if_neg y] at q
          exact v5 j k hj hk q r
  · rw [if_neg c] at a3
    exact Or.inr ⟨by rw [a2]; exact nI_ne0 (by omega) (by omega), by rw [a3]; exact nI_n4 (by omega)⟩
end IZ
