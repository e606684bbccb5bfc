section JE
variable {w w' τ τ' : Mm} {T : Nat → Nat} {len N : Nat}
theorem put_r {x : Mm} {i : Nat} (hi : i < 8) : ∃ x', fX6_putOnRaft_s x (nI i) = some x' ∧ (∀ a, a ≠ 3 → a ≠ 9 → x' a = x a) ∧ (∀ j, j ≠ 17 → x' 3 j = x 3 j) ∧ (∀ j, x' 9 j = if j = i then x 3 15 else x 9 j) ∧ x' 3 17 = if x 9 i = -4 then x 3 17 else 1 := by
  unfold fX6_putOnRaft_s
  rw [rdN hi (by omega)]
  simp only [bd1s]
  by_cases c : x 9 i = -4
  · rw [if_pos c, if_pos c]
    refine ⟨st x 9 i (x 3 15), bdE rfl (bdE (wrN hi (by omega)) rfl), fun a z1 z2 => st_a z2, fun j z => by rw [st_a (by omega)], fun j => ?_, by rw [st_a (by omega)]⟩
    by_cases d : j = i
    · rw [if_pos d, d, st_kj]
    · rw [if_neg d, st_ki d]
  · rw [if_neg c, if_neg c]
    refine ⟨st (st x 3 17 1) 9 i (x 3 15), bdE (bdE pts rfl) (bdE (by rw [wrN hi (by omega), st_ki (by omega)]) rfl), fun a z1 z2 => by rw [st_a z2, st_a z1], fun j z => by rw [st_a (by omega), st_ki z], fun j => ?_, by rw [st_a (by omega), st_kj]⟩
    by_cases d : j = i
    · rw [if_pos d, d, st_kj]
    · rw [if_neg d, st_ki d, st_a (by omega)]
theorem add_r {x : Mm} {R v0 v1 v2 : Nat} (hN : N ≤ 8) (h12 : x 3 12 = nI N) (hR : R ≤ 2) (h15 : x 3 15 = nI R) (b0 : v0 < 100) (b1 : v1 < 100) (b2 : v2 < 100) : (R < 2 ∧ (v0 < N ∧ v1 < N ∧ v2 < N) ∧ v0 ≠ v1 ∧ v0 ≠ v2 ∧ v1 ≠ v2 → ∃ x', fX6_addRaft_s x (nI v0) (nI v1) (nI v2) = some (1, x') ∧ (∀ a, a ≠ 3 → a ≠ 9 → x' a = x a) ∧ (∀ j, j ≠ 15 → j ≠ 17 → x' 3 j = x 3 j) ∧ x' 3 15 = nI (R + 1) ∧ (∀ j, x' 9 j = if j = v0 ∨ j = v1 ∨ j = v2 then nI R else x 9 j) ∧ x' 3 17 = if x 9 v0 = -4 ∧ x 9 v1 = -4 ∧ x 9 v2 = -4 then x 3 17 else 1) ∧ (¬ (R < 2 ∧ (v0 < N ∧ v1 < N ∧ v2 < N) ∧ v0 ≠ v1 ∧ v0 ≠ v2 ∧ v1 ≠ v2) → fX6_addRaft_s x (nI v0) (nI v1) (nI v2) = some (0, x)) := by
  have t0 := has_s h12 hN (j := v0) (by omega)
  have t1 := has_s h12 hN (j := v1) (by omega)
  have t2 := has_s h12 hN (j := v2) (by omega)
  have ne : ¬ (1 : Int32) = 0 := by decide
  constructor
  · rintro ⟨c0, ⟨c1, c2, c3⟩, n1, n2, n3⟩
    obtain ⟨x1, p1, p2, p3, p4, p5⟩ := put_r (x := x) (i := v0) (by omega)
    obtain ⟨x2, q1, q2, q3, q4, q5⟩ := put_r (x := x1) (i := v1) (by omega)
    obtain ⟨x3, r1, r2, r3, r4, r5⟩ := put_r (x := x2) (i := v2) (by omega)
    have e1 : x1 3 15 = nI R := by rw [p3 15 (by omega)]; exact h15
    have e2 : x2 3 15 = nI R := by rw [q3 15 (by omega)]; exact e1
    have e3 : x3 3 15 = nI R := by rw [r3 15 (by omega)]; exact e2
    rw [decide_eq_true c1, bI_t] at t0
    rw [decide_eq_true c2, bI_t] at t1
    rw [decide_eq_true c3, bI_t] at t2
    refine ⟨st x3 3 15 (nI (R + 1)), ?_, fun a z1 z2 => by rw [st_a z1, r2 a z1 z2, q2 a z1 z2, p2 a z1 z2], fun j z1 z2 => by rw [st_ki z1, r3 j z2, q3 j z2, p3 j z2], st_kj, fun j => ?_, ?_⟩
    · unfold fX6_addRaft_s
      rw [h15, nI_lit 2, ifle (by omega) (by omega), if_neg (by omega)]
      refine bdE t0 ?_
      rw [if_neg ne]
      refine bdE t1 ?_
      rw [if_neg ne]
      refine bdE t2 ?_
      rw [if_neg ne, ifeq (by omega) (by omega), if_neg n1, ifeq (by omega) (by omega), if_neg n2, ifeq (by omega) (by omega), if_neg n3]
      refine bdE p1 (bdE q1 (bdE r1 ?_))
      rw [e3, nI_1]
      exact bdE pts rfl
    · rw [st_a (by omega), r4 j, q4 j, p4 j, e2, e1, h15]
      by_cases z2 : j = v2
      · rw [if_pos z2, if_pos (Or.inr (Or.inr z2))]
      · rw [if_neg z2]
        by_cases z1 : j = v1
        · rw [if_pos z1, if_pos (Or.inr (Or.inl z1))]
        · rw [if_neg z1]
          by_cases z0 : j = v0
          · rw [if_pos z0, if_pos (Or.inl z0)]
          · rw [if_neg z0, if_neg (by omega)]
    · rw [st_ki (by omega), r5, q4 v2, p4 v2, if_neg (Ne.symm n3), if_neg (Ne.symm n2), q5, p4 v1, if_neg (Ne.symm n1), p5]
      by_cases z2 : x 9 v2 = -4
      · rw [if_pos z2]
        by_cases z1 : x 9 v1 = -4
        · rw [if_pos z1]
          by_cases z0 : x 9 v0 = -4
          · rw [if_pos z0, if_pos ⟨z0, z1, z2⟩]
          · rw [if_neg z0, if_neg (fun z => z0 z.1)]
        · rw [if_neg z1, if_neg (fun z => z1 z.2.1)]
      · rw [if_neg z2, if_neg (fun z => z2 z.2.2)]
  · intro c
    unfold fX6_addRaft_s
    rw [h15, nI_lit 2, ifle (by omega) (by omega)]
    by_cases c0 : 2 ≤ R
    · rw [if_pos c0]
    · rw [if_neg c0]
      refine bdE t0 ?_
      by_cases c1 : v0 < N
      · rw [decide_eq_true c1, bI_t, if_neg ne]
        refine bdE t1 ?_
        by_cases c2 : v1 < N
        · rw [decide_eq_true c2, bI_t, if_neg ne]
          refine bdE t2 ?_
          by_cases c3 : v2 < N
          · rw [decide_eq_true c3, bI_t, if_neg ne, ifeq (by omega) (by omega), ifeq (by omega) (by omega), ifeq (by omega) (by omega)]
            by_cases n1 : v0 = v1
            · rw [if_pos n1]
            · rw [if_neg n1]
              by_cases n2 : v0 = v2
              · rw [if_pos n2]
              · rw [if_neg n2]
                by_cases n3 : v1 = v2
                · rw [if_pos n3]
                · exact absurd ⟨by omega, ⟨c1, c2, c3⟩, n1, n2, n3⟩ c
          · rw [decide_eq_false c3, bI_f, if_pos rfl]
        · rw [decide_eq_false c2, bI_f, if_pos rfl]
      · rw [decide_eq_false c1, bI_f, if_pos rfl]
theorem SpR.add {R : Nat} {rm : Nat → Nat} {v0 v1 v2 : Nat} (hR : R < 2) (R4 : ∀ k, k < 3 * R → rm k < N ∧ τ 13 (6 + k) = nI (rm k)) (R5 : ∀ k j, k < 3 * R → j < 3 * R → k / 3 = j / 3 → rm k = rm j → k = j)
    (R6 : (w 3 17 = 0 ∧ (∀ k j, k < 3 * R → j < 3 * R → rm k = rm j → k = j) ∧ ∀ i, i < N → (w 9 i = -4 ∧ ∀ k, k < 3 * R → rm k ≠ i) ∨ ∃ k, k < 3 * R ∧ rm k = i ∧ w 9 i = nI (k / 3)) ∨ (w 3 17 = 1 ∧ R = 2 ∧ ∃ k j, k < 3 ∧ j < 3 ∧ rm k = rm (3 + j)))
    (c0 : v0 < N) (c1 : v1 < N) (c2 : v2 < N) (n1 : v0 ≠ v1) (n2 : v0 ≠ v2) (n3 : v1 ≠ v2)
    (x15 : w' 3 15 = nI (R + 1)) (x9 : ∀ j, w' 9 j = if j = v0 ∨ j = v1 ∨ j = v2 then nI R else w 9 j) (x17 : w' 3 17 = if w 9 v0 = -4 ∧ w 9 v1 = -4 ∧ w 9 v2 = -4 then w 3 17 else 1)
    (y12 : τ' 12 1 = nI (R + 1)) (y0 : τ' 13 (6 + 3 * R) = nI v0) (y1 : τ' 13 (7 + 3 * R) = nI v1) (y2 : τ' 13 (8 + 3 * R) = nI v2) (y13 : ∀ k, k < 3 * R → τ' 13 (6 + k) = τ 13 (6 + k)) : SpR w' τ' N := by
  obtain ⟨f, f0, f1, f2, f3⟩ : ∃ f : Nat → Nat, (∀ k, k < 3 * R → f k = rm k) ∧ f (3 * R) = v0 ∧ f (3 * R + 1) = v1 ∧ f (3 * R + 2) = v2 := by
    refine ⟨fun k => if k < 3 * R then rm k else if k = 3 * R then v0 else if k = 3 * R + 1 then v1 else v2, fun k hk => if_pos hk, ?_, ?_, ?_⟩
    · dsimp only
      rw [if_neg (by omega), if_pos rfl]
    · dsimp only
      rw [if_neg (by omega), if_neg (by omega), if_pos rfl]
    · dsimp only
      rw [if_neg (by omega), if_neg (by omega), if_neg (by omega)]
  have cs : ∀ k, k < 3 * (R + 1) → k < 3 * R ∨ k = 3 * R ∨ k = 3 * R + 1 ∨ k = 3 * R + 2 := fun k hk => by omega
  have fi : ∀ k j, 3 * R ≤ k → k < 3 * (R + 1) → 3 * R ≤ j → j < 3 * (R + 1) → f k = f j → k = j := by
    intro k j k1 k2 j1 j2 z
    rcases cs k k2 with y | y | y | y
    · omega
    all_goals
      rcases cs j j2 with u | u | u | u
      · omega
      all_goals
        rw [y, u] at z
        first
        | omega
        | (simp only [f1, f2, f3] at z; omega)
  refine ⟨R + 1, f, by omega, x15, y12, fun k hk => ?_, fun k j hk hj z1 z2 => ?_, ?_⟩
  · rcases cs k hk with y | y | y | y
    · rw [f0 k y, y13 k y]
      exact R4 k y
    · rw [y, f1, y0]
      exact ⟨c0, rfl⟩
    · rw [y, f2, show 6 + (3 * R + 1) = 7 + 3 * R by omega, y1]
      exact ⟨c1, rfl⟩
    · rw [y, f3, show 6 + (3 * R + 2) = 8 + 3 * R by omega, y2]
      exact ⟨c2, rfl⟩
  · by_cases y : k < 3 * R
    · rw [f0 k y, f0 j (by omega)] at z2
      exact R5 k j y (by omega) z1 z2
    · exact fi k j (by omega) hk (by omega) hj z2
  · rcases R6 with ⟨g1, g2, g3⟩ | ⟨-, g, -⟩
    · by_cases al : w 9 v0 = -4 ∧ w 9 v1 = -4 ∧ w 9 v2 = -4
      · have no : ∀ v, v < N → w 9 v = -4 → ∀ k, k < 3 * R → rm k ≠ v := by
          intro v hv z
          rcases g3 v hv with y | ⟨k, k1, k2, k3⟩
          · exact y.2
          · rw [z] at k3
            exact absurd k3.symm (nI_n4 (by omega))
        have nn : ∀ k j, k < 3 * R → 3 * R ≤ j → j < 3 * (R + 1) → f k ≠ f j := by
          intro k j k1 j1 j2
          rw [f0 k k1]
          rcases cs j j2 with u | u | u | u
          · omega
          · rw [u, f1]; exact no v0 c0 al.1 k k1
          · rw [u, f2]; exact no v1 c1 al.2.1 k k1
          · rw [u, f3]; exact no v2 c2 al.2.2 k k1
        rw [if_pos al, g1] at x17
        refine Or.inl ⟨x17, fun k j hk hj z => ?_, fun i hi => ?_⟩
        · by_cases y : k < 3 * R
          · by_cases u : j < 3 * R
            · rw [f0 k y, f0 j u] at z
              exact g2 k j y u z
            · exact absurd z (nn k j y (by omega) hj)
          · by_cases u : j < 3 * R
            · exact absurd z.symm (nn j k u (by omega) hk)
            · exact fi k j (by omega) hk (by omega) hj z
        · rw [x9 i]
          by_cases m0 : i = v0
          · rw [if_pos (Or.inl m0)]
            exact Or.inr ⟨3 * R, by omega, by rw [f1, m0], by rw [show 3 * R / 3 = R by omega]⟩
          · by_cases m1 : i = v1
            · rw [if_pos (Or.inr (Or.inl m1))]
              exact Or.inr ⟨3 * R + 1, by omega, by rw [f2, m1], by rw [show (3 * R + 1) / 3 = R by omega]⟩
            · by_cases m2 : i = v2
              · rw [if_pos (Or.inr (Or.inr m2))]
                exact Or.inr ⟨3 * R + 2, by omega, by rw [f3, m2], by rw [show (3 * R + 2) / 3 = R by omega]⟩
              · rw [if_neg (by omega)]
                rcases g3 i hi with ⟨y1, y2⟩ | ⟨k, k1, k2, k3⟩
                · refine Or.inl ⟨y1, fun k hk => ?_⟩
                  rcases cs k hk with u | u | u | u
                  · rw [f0 k u]; exact y2 k u
                  · rw [u, f1]; exact Ne.symm m0
                  · rw [u, f2]; exact Ne.symm m1
                  · rw [u, f3]; exact Ne.symm m2
                · exact Or.inr ⟨k, by omega, by rw [f0 k k1]; exact k2, k3⟩
      · rw [if_neg al] at x17
        have yes : ∀ v, v < N → w 9 v ≠ -4 → ∃ k, k < 3 * R ∧ rm k = v := by
          intro v hv z
          rcases g3 v hv with y | ⟨k, k1, k2, k3⟩
          · exact absurd y.1 z
          · exact ⟨k, k1, k2⟩
        obtain ⟨v, t, t1, t2, k, k1, k2⟩ : ∃ v t, t < 3 ∧ f (3 * R + t) = v ∧ ∃ k, k < 3 * R ∧ rm k = v := by
          by_cases m0 : w 9 v0 = -4
          · by_cases m1 : w 9 v1 = -4
            · exact ⟨v2, 2, by omega, f3, yes v2 c2 (fun z => al ⟨m0, m1, z⟩)⟩
            · exact ⟨v1, 1, by omega, f2, yes v1 c1 m1⟩
          · exact ⟨v0, 0, by omega, f1, yes v0 c0 m0⟩
        have R1 : R = 1 := by omega
        subst R1
        exact Or.inr ⟨x17, rfl, k, t, by omega, t1, by rw [f0 k k1, k2, ← t2]⟩
    · omega
end JE
