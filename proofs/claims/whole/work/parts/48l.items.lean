section JC
variable {w w' τ τ' : Mm} {T : Nat → Nat} {len N : Nat}
theorem addB {q : Nat} (w7 : Mm) (s1 : N ≤ 8) (h3 : w7 3 12 = nI N) : fX6_addBeast_s w7 (nI (nv T len (ps T len (q + 1) 0))) (nI (nv T len (ps T len (q + 1) 1))) (nI (nv T len (ps T len (q + 1) 2))) (nI (nv T len (ps T len (q + 1) 3))) = if (N < 8 ∧ (1 ≤ nv T len (ps T len (q + 1) 0) ∧ nv T len (ps T len (q + 1) 0) ≤ 9) ∧ (1 ≤ nv T len (ps T len (q + 1) 1) ∧ nv T len (ps T len (q + 1) 1) ≤ 9) ∧ nv T len (ps T len (q + 1) 2) ≤ 3 ∧ nv T len (ps T len (q + 1) 3) ≤ 30) then some (1, (st (st (st (st (st (st (st (st (st (st w7 4 N (nI (nv T len (ps T len (q + 1) 0)))) 5 N (nI (nv T len (ps T len (q + 1) 1)))) 6 N (nI (nv T len (ps T len (q + 1) 2)))) 7 N (nI (nv T len (ps T len (q + 1) 3)))) 8 N (-4)) 9 N (-4)) 10 N (-4)) 11 N (-4)) 12 N 0) 3 12 (nI (N + 1)))) else some (0, w7) := by
  have nb0 := n_bd T len (ps T len (q + 1) 0)
  have nb1 := n_bd T len (ps T len (q + 1) 1)
  have nb2 := n_bd T len (ps T len (q + 1) 2)
  have nb3 := n_bd T len (ps T len (q + 1) 3)
  unfold fX6_addBeast_s
  rw [h3, nI_lit 8, ifle (by omega) (by omega)]
  by_cases c : N < 8
  · rw [if_neg (by omega), show fX8_within (nI (nv T len (ps T len (q + 1) 0))) 1 9 = _ from within_in (a := nv T len (ps T len (q + 1) 0)) (b := 1) (c := 9) (by omega) (by omega) (by omega), show fX8_within (nI (nv T len (ps T len (q + 1) 1))) 1 9 = _ from within_in (a := nv T len (ps T len (q + 1) 1)) (b := 1) (c := 9) (by omega) (by omega) (by omega), show fX8_within (nI (nv T len (ps T len (q + 1) 2))) 0 3 = _ from within_in (a := nv T len (ps T len (q + 1) 2)) (b := 0) (c := 3) (by omega) (by omega) (by omega), show fX8_within (nI (nv T len (ps T len (q + 1) 3))) 0 30 = _ from within_in (a := nv T len (ps T len (q + 1) 3)) (b := 0) (c := 30) (by omega) (by omega) (by omega)]
    simp only [bd1s]
    by_cases d0 : 1 ≤ nv T len (ps T len (q + 1) 0) ∧ nv T len (ps T len (q + 1) 0) ≤ 9
    · rw [decide_eq_true d0, bI_t, if_neg (show ¬ (1 : Int32) = 0 by decide)]
      by_cases d1 : 1 ≤ nv T len (ps T len (q + 1) 1) ∧ nv T len (ps T len (q + 1) 1) ≤ 9
      · rw [decide_eq_true d1, bI_t, if_neg (show ¬ (1 : Int32) = 0 by decide)]
        by_cases d2 : 0 ≤ nv T len (ps T len (q + 1) 2) ∧ nv T len (ps T len (q + 1) 2) ≤ 3
        · rw [decide_eq_true d2, bI_t, if_neg (show ¬ (1 : Int32) = 0 by decide)]
          by_cases d3 : 0 ≤ nv T len (ps T len (q + 1) 3) ∧ nv T len (ps T len (q + 1) 3) ≤ 30
          · rw [decide_eq_true d3, bI_t, if_neg (show ¬ (1 : Int32) = 0 by decide), if_pos ⟨c, d0, d1, d2.2, d3.2⟩]
            have k : ∀ (x : Mm) (a : Nat) (v : Int32), a ≠ 3 → x 3 12 = nI N → st x a N v 3 12 = nI N := fun x a v z y => by rw [st_a (Ne.symm z)]; exact y
            have e0 : st w7 4 N (nI (nv T len (ps T len (q + 1) 0))) 3 12 = nI N := k _ 4 _ (by omega) h3
            have e1 : st (st w7 4 N (nI (nv T len (ps T len (q + 1) 0)))) 5 N (nI (nv T len (ps T len (q + 1) 1))) 3 12 = nI N := k _ 5 _ (by omega) e0
            have e2 : st (st (st w7 4 N (nI (nv T len (ps T len (q + 1) 0)))) 5 N (nI (nv T len (ps T len (q + 1) 1)))) 6 N (nI (nv T len (ps T len (q + 1) 2))) 3 12 = nI N := k _ 6 _ (by omega) e1
            have e3 : st (st (st (st w7 4 N (nI (nv T len (ps T len (q + 1) 0)))) 5 N (nI (nv T len (ps T len (q + 1) 1)))) 6 N (nI (nv T len (ps T len (q + 1) 2)))) 7 N (nI (nv T len (ps T len (q + 1) 3))) 3 12 = nI N := k _ 7 _ (by omega) e2
            have e4 : st (st (st (st (st w7 4 N (nI (nv T len (ps T len (q + 1) 0)))) 5 N (nI (nv T len (ps T len (q + 1) 1)))) 6 N (nI (nv T len (ps T len (q + 1) 2)))) 7 N (nI (nv T len (ps T len (q + 1) 3)))) 8 N (-4) 3 12 = nI N := k _ 8 _ (by omega) e3
            have e5 : st (st (st (st (st (st w7 4 N (nI (nv T len (ps T len (q + 1) 0)))) 5 N (nI (nv T len (ps T len (q + 1) 1)))) 6 N (nI (nv T len (ps T len (q + 1) 2)))) 7 N (nI (nv T len (ps T len (q + 1) 3)))) 8 N (-4)) 9 N (-4) 3 12 = nI N := k _ 9 _ (by omega) e4
            have e6 : st (st (st (st (st (st (st w7 4 N (nI (nv T len (ps T len (q + 1) 0)))) 5 N (nI (nv T len (ps T len (q + 1) 1)))) 6 N (nI (nv T len (ps T len (q + 1) 2)))) 7 N (nI (nv T len (ps T len (q + 1) 3)))) 8 N (-4)) 9 N (-4)) 10 N (-4) 3 12 = nI N := k _ 10 _ (by omega) e5
            have e7 : st (st (st (st (st (st (st (st w7 4 N (nI (nv T len (ps T len (q + 1) 0)))) 5 N (nI (nv T len (ps T len (q + 1) 1)))) 6 N (nI (nv T len (ps T len (q + 1) 2)))) 7 N (nI (nv T len (ps T len (q + 1) 3)))) 8 N (-4)) 9 N (-4)) 10 N (-4)) 11 N (-4) 3 12 = nI N := k _ 11 _ (by omega) e6
            have e8 : st (st (st (st (st (st (st (st (st w7 4 N (nI (nv T len (ps T len (q + 1) 0)))) 5 N (nI (nv T len (ps T len (q + 1) 1)))) 6 N (nI (nv T len (ps T len (q + 1) 2)))) 7 N (nI (nv T len (ps T len (q + 1) 3)))) 8 N (-4)) 9 N (-4)) 10 N (-4)) 11 N (-4)) 12 N 0 3 12 = nI N := k _ 12 _ (by omega) e7
            refine bdE (wrN c (by omega)) ?_
            rw [e0]
            refine bdE (wrN c (by omega)) ?_
            rw [e1]
            refine bdE (wrN c (by omega)) ?_
            rw [e2]
            refine bdE (wrN c (by omega)) ?_
            rw [e3]
            refine bdE (wrN c (by omega)) ?_
            rw [e4]
            refine bdE (wrN c (by omega)) ?_
            rw [e5]
            refine bdE (wrN c (by omega)) ?_
            rw [e6]
            refine bdE (wrN c (by omega)) ?_
            rw [e7]
            refine bdE (wrN c (by omega)) ?_
            rw [e8, nI_1]
            exact bdE pts rfl
          · rw [decide_eq_false d3, bI_f, if_pos (show (0 : Int32) = 0 from rfl), if_neg (fun z => d3 ⟨by omega, z.2.2.2.2⟩)]
        · rw [decide_eq_false d2, bI_f, if_pos (show (0 : Int32) = 0 from rfl), if_neg (fun z => d2 ⟨by omega, z.2.2.2.1⟩)]
      · rw [decide_eq_false d1, bI_f, if_pos (show (0 : Int32) = 0 from rfl), if_neg (fun z => d1 z.2.2.1)]
    · rw [decide_eq_false d0, bI_f, if_pos (show (0 : Int32) = 0 from rfl), if_neg (fun z => d0 z.2.1)]
  · rw [if_pos (by omega), if_neg (fun z => c z.1)]
theorem Sp.beast {v0 v1 v2 v3 : Nat} (hS : Sp w τ N) (hN : N < 8) (h0 : 1 ≤ v0 ∧ v0 ≤ 9) (h1 : 1 ≤ v1 ∧ v1 ≤ 9) (h2 : v2 ≤ 3) (h3 : v3 ≤ 30) (hw3 : ∀ j, j ≠ 12 → w' 3 j = w 3 j) (hw : ∀ a j, 4 ≤ a → a ≤ 15 → j ≠ N → w' a j = w a j) (x3 : w' 3 12 = nI (N + 1)) (x4 : w' 4 N = nI v0) (x5 : w' 5 N = nI v1) (x6 : w' 6 N = nI v2) (x7 : w' 7 N = nI v3) (x8 : w' 8 N = -4) (x9 : w' 9 N = -4) (x10 : w' 10 N = -4) (x11 : w' 11 N = -4) (x12 : w' 12 N = 0) (x13 : w' 13 = w 13) (x14 : w' 14 = w 14)
    (hm2 : ∀ a, 7 ≤ a → a ≤ 17 → a ≠ 11 → a ≠ 14 → a ≠ 16 → a ≠ 17 → τ' a = τ a) (hm : ∀ a j, 3 ≤ a → a ≤ 17 → j ≠ 8 + N → τ' a j = τ a j) (y2 : τ' 2 1 = nI (N + 1)) (y3 : τ' 3 (8 + N) = nI v0) (y4 : τ' 4 (8 + N) = nI v1) (y5 : τ' 5 (8 + N) = nI v2) (y6 : τ' 6 (8 + N) = nI v3) (y11 : τ' 11 (8 + N) = -4) (y14 : τ' 14 (8 + N) = 0) (y16 : τ' 16 (8 + N) = 0) (y17 : τ' 17 (8 + N) = 0) : Sp w' τ' (N + 1) := by
  obtain ⟨⟨s1, s2, s3⟩, sW, sB, sC, ⟨R, rm, R1, R2, R3, R4, R5, R6⟩, ⟨vc, vo, V1, V2, V3, V4, V5⟩⟩ := hS
  obtain ⟨vp, q0, q1⟩ : ∃ f : Nat → Nat, f N = 0 ∧ ∀ i, i ≠ N → f i = vo i := ⟨fun i => if i = N then 0 else vo i, if_pos rfl, fun i h => if_neg h⟩
  refine ⟨⟨by omega, x3, y2⟩, by rw [hw3 13 (by omega), hm2 7 (by omega) (by omega) (by omega) (by omega) (by omega) (by omega)]; exact sW, fun i hi => ?_, sC.kept (hw3 14 (by omega)) x13 x14 (hm2 8 (by omega) (by omega) (by omega) (by omega) (by omega) (by omega)) (hm2 9 (by omega) (by omega) (by omega) (by omega) (by omega) (by omega)) (hm2 10 (by omega) (by omega) (by omega) (by omega) (by omega) (by omega)), ⟨R, rm, R1, by rw [hw3 15 (by omega)]; exact R2, by rw [hm2 12 (by omega) (by omega) (by omega) (by omega) (by omega) (by omega)]; exact R3, fun k hk => ?_, R5, ?_⟩, ⟨vc, vp, by rw [hw3 16 (by omega)]; exact V1, by rw [hm2 15 (by omega) (by omega) (by omega) (by omega) (by omega) (by omega)]; exact V2, ?_, fun i hi => ?_, fun i j hi hj z1 z2 => ?_⟩⟩
  · by_cases c : i = N
    · subst c
      exact ⟨⟨v0, h0.1, h0.2, x4, y3⟩, ⟨v1, h1.1, h1.2, x5, y4⟩, ⟨v2, h2, x6, y5⟩, ⟨v3, h3, x7, y6⟩, Or.inl ⟨x8, y11⟩, Or.inl ⟨x11, y16⟩, ⟨0, by omega, x12, y17⟩⟩
    · obtain ⟨f1, f2, f3, f4, f5, f6, f7⟩ := sB i (by omega)
      rw [hw 4 i (by omega) (by omega) c, hw 5 i (by omega) (by omega) c, hw 6 i (by omega) (by omega) c, hw 7 i (by omega) (by omega) c, hw 8 i (by omega) (by omega) c, hw 11 i (by omega) (by omega) c, hw 12 i (by omega) (by omega) c, hm 3 (8 + i) (by omega) (by omega) (by omega), hm 4 (8 + i) (by omega) (by omega) (by omega), hm 5 (8 + i) (by omega) (by omega) (by omega), hm 6 (8 + i) (by omega) (by omega) (by omega), hm 11 (8 + i) (by omega) (by omega) (by omega), hm 16 (8 + i) (by omega) (by omega) (by omega), hm 17 (8 + i) (by omega) (by omega) (by omega)]
      refine ⟨f1, f2, f3, f4, ?_, f6, f7⟩
      rcases f5 with f5 | ⟨j, j1, j2, j3, j4⟩
      · exact Or.inl f5
      · exact Or.inr ⟨j, by omega, j2, j3, j4⟩
  · have z := R4 k hk
    rw [hm2 13 (by omega) (by omega) (by omega) (by omega) (by omega) (by omega)]
    exact ⟨by omega, z.2⟩
  · rw [hw3 17 (by omega)]
    rcases R6 with ⟨z1, z2, z3⟩ | z
    · refine Or.inl ⟨z1, z2, fun i hi => ?_⟩
      by_cases c : i = N
      · subst c
        exact Or.inl ⟨x9, fun k hk => by have := (R4 k hk).1; omega⟩
      · rw [hw 9 i (by omega) (by omega) c]
        exact z3 i (by omega)
    · exact Or.inr z
  · rw [ct, ct_cg (p := fun i => decide (vp i ≠ 0)) (q := fun i => decide (vo i ≠ 0)) N (fun k hk => by rw [q1 k (by omega)]), ← V3, q0]
    rfl
  · by_cases c : i = N
    · subst c
      rw [y14, x10, q0]
      exact ⟨by omega, rfl, rfl⟩
    · rw [hm 14 (8 + i) (by omega) (by omega) (by omega), hw 10 i (by omega) (by omega) c, q1 i c]
      exact V4 i (by omega)
  · by_cases c : i = N
    · rw [c, q0] at z2
      exact absurd rfl z2
    · rw [q1 i c] at z1 z2
      by_cases d : j = N
      · rw [d, q0] at z1
        exact absurd z1 z2
      · rw [q1 j d] at z1
        exact V5 i j (by omega) (by omega) z1 z2
end JC
