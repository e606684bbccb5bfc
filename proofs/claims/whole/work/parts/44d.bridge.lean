theorem bridge_loop {w τ0 g w5 : Mm} {n wd : Nat} (hc : Core w τ0 n g wd) {F : Nat → Nat} (hF : ∀ X, 1 ≤ X → X ≤ 99 → F X < n ∧ rk g n (la g n 0 (nI X)) (F X) = 0) (h49 : ∀ X, 1 ≤ X → X ≤ 99 → w5 49 X = nI (F X)) (x : Int32) : ∀ (fu k : Nat) (a b : Int32) (τ : Mm), lookM τ0 τ → 1 ≤ k → k ≤ 100 → 100 - k < fu → ∃ τ' r1 r2, LX9_bridge_22 x fu a b (nI k) τ = some (τ', r1, r2) ∧ lookM τ0 τ' ∧ LX0_firstBits_4 w5 fu a (nI k) = some r1 ∧ LX0_widthsOf_4 x w5 fu b (nI k) = some r2 := by
  obtain ⟨⟨h1, h2, -⟩, ⟨v1, v2, v3⟩, -⟩ := id hc
  intro fu
  induction fu with
  | zero => intro k a b τ _ _ _ q; omega
  | succ fu ih =>
    intro k a b τ hm hk1 hk hf
    rw [LX9_bridge_22, LX0_firstBits_4, LX0_widthsOf_4, nI_lit 99, iflt (by omega) (by omega), iflt (by omega) (by omega), iflt (by omega) (by omega)]
    by_cases c : 99 < k
    · rw [if_pos c, if_pos c, if_pos c]
      exact ⟨τ, a, b, rfl, hm, rfl, rfl⟩
    · obtain ⟨-, -, -, -, hs, hb⟩ := hc.look (w' := w) lookX.rf hm
      obtain ⟨f1, f2⟩ := hF k hk1 (by omega)
      obtain ⟨τ1, a1, a2, a3, a4, a5, a6, a7⟩ := plain_spec (b := 0) hs h2 hb.2.2 (by omega) (fun i hi => by rw [Nat.zero_add]; exact hb.1 i hi) hb.2.1
      obtain ⟨τ3, b1, b2, b3⟩ := cross_spec (M := 200) (τ := st τ1 0 23 (nI k)) (fd := 0) (wd := nI k) (a2.kept (st_ki (by omega)) (fun a _ _ => st_a (by omega))) (Rd_of v2) (by omega) st_kj (by rw [st_ki (by omega)]; exact a4)
      have hA3 : AM τ3 0 n g := a2.kept (by rw [b3 0 (by omega) (by omega), st_ki (by omega)]) (fun a _ q => by rw [b3 a (by omega) (by omega), st_a (by omega)])
      obtain ⟨τ4, c1, c2, c3⟩ := findRanks_spec hA3 (Rd_of v2) la_rng v3 (fun i hi => (b2 i hi).2)
      have hm4 : lookM τ τ4 := lookM_of (fun a q1 q2 q3 q4 q5 _ _ => by rw [c3 a q5, b3 a q3 q4, st_a q1, a6 a q1]) (fun j _ => by rw [c3 18 (by omega), b3 18 (by omega) (by omega), st_a (by omega), a6 18 (by omega)]) (fun j q1 q2 q3 => by rw [c3 0 (by omega), b3 0 (by omega) (by omega), st_ki q1, a7 j q1 q2 q3])
      have e21 : τ4 21 0 = nI (F k) := by
        have := c2 (F k) f1
        rw [f2] at this
        exact this
      have one : fX9_firstOne τ3 0 = some (nI (F k), τ4) := by
        unfold fX9_firstOne
        refine bdE (show fX9_findRanks τ3 0 = some τ4 from c1) ?_
        rw [rd0 (by omega) (by omega), e21]
        rfl
      rw [if_neg c, if_neg c, if_neg c, rdN (k := 49) (j := k) (by omega) (by omega), h49 k hk1 (by omega)]
      simp only [bd1s]
      rw [if_pos (nI_pos' (by omega))]
      obtain ⟨τ', r1, r2, g1, g2, g3, g4⟩ := ih (k + 1) (a ||| (1 <<< (nI (F k) &&& 31))) (b + (if nI (F k) = x then 1 else 0)) τ4 (hm.tr hm4) (by omega) (by omega) (by omega)
      refine ⟨τ', r1, r2, ?_, g2, ?_, ?_⟩
      · refine bdE a1 (bdE pts (bdE (show fX9_cross (st τ1 0 23 (nI k)) 0 200 = some τ3 from b1) (bdE2 one ?_)))
        rw [some_ite, nI_1]
        exact g1
      · rw [nI_1]
        exact g3
      · rw [some_ite, nI_1]
        exact g4
theorem op_bridge {w τ : Mm} (h : Rel w τ) (x1 : Int32) : Both (fX8_bridge w x1) (fX9_bridge τ x1) := by
  obtain ⟨n, g, wd, hc, -⟩ := id h
  obtain ⟨⟨h1, h2, h3, h4⟩, ⟨v1, v2, v3⟩, -⟩ := id hc
  obtain ⟨F, hF⟩ : ∃ F : Nat → Nat, ∀ X, 1 ≤ X → X ≤ 99 → F X < n ∧ rk g n (la g n 0 (nI X)) (F X) = 0 := by
    have : ∀ X, ∃ i, i < n ∧ rk g n (la g n 0 (nI X)) i = 0 := fun X => rk_onto (Rd_of v2) h2 la_rng v3 (by omega)
    obtain ⟨F, hF⟩ := Classical.axiomOfChoice this
    exact ⟨F, fun X _ _ => hF X⟩
  obtain ⟨w1, a1, a2, a3, a4, a5⟩ := prep_spec hc
  obtain ⟨w2, b1, b2, b3⟩ := span_spec a2 (Vg_of v1 v2) h1 (Rd_of v2) v3 a3 hF
  have hx : lookX w w2 := lookX_of (fun a q1 q2 q3 q4 q5 q6 q7 q8 q9 _ => by rw [b3 a q1 q8 q9, a5 a q1 q2 q3])
  obtain ⟨τ', r1, r2, g1, g2, g3, g4⟩ := bridge_loop hc hF b2 x1 1000 1 0 0 τ lookM.rf (by omega) (by omega) (by omega)
  have m1 : LX9_bridge_22 x1 1000 0 0 1 τ = some (τ', r1, r2) := g1
  have e1 : fX0_firstBits w2 = some r1 := bdE (show LX0_firstBits_4 w2 1000 0 1 = some r1 from g3) rfl
  have e2 : fX0_widthsOf w2 x1 = some r2 := bdE (show LX0_widthsOf_4 x1 w2 1000 0 1 = some r2 from g4) rfl
  unfold fX8_bridge fX9_bridge
  rw [gqs hc.2.2.2.1.2.2.2.1, a1]
  simp only [bd1s]
  rw [gqs (x := w1 16 3) (by rw [a5 16 (by omega) (by omega) (by omega)]; exact hc.2.2.2.1.2.2.2.1), b1]
  simp only [bd1s]
  rw [e1, e2, m1]
  simp only [bd1s, bd3s]
  by_cases q : x1 = -1
  · simp only [if_pos q, bd1s]
    rw [if_neg (by decide), if_neg (by decide)]
    exact Both.mk h rfl rfl hx g2
  · simp only [if_neg q]
    rcases beast_any hc x1 with ⟨i, i1, rfl, i3, i4⟩ | ⟨i3, i4⟩
    · rw [i3, i4]
      simp only [bd1s]
      rw [if_neg (show ¬ (1 : Int32) = 0 by decide)]
      simp only [bd1s]
      rw [if_neg (by decide), if_neg (by decide)]
      exact Both.mk h rfl rfl hx g2
    · rw [i3, i4]
      simp only [bd1s]
      rw [if_pos trivial]
      simp only [bd1s]
      rw [if_pos trivial, if_pos trivial]
      exact Both.mk h rfl rfl lookX.rf lookM.rf
