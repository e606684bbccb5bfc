section KE
/-- a river that is laid so: both hold the same -/
theorem laid_rel {xs ys w τ x4 : Mm} {N : Nat} (hS : Sp xs ys N) (hb : 1 ≤ N ∧ ∃ (R : Nat) (rm : Nat → Nat), (R ≤ 2 ∧ xs 3 15 = nI R ∧ ys 12 1 = nI R ∧ (∀ k, k < 3 * R → rm k < N ∧ ys 13 (6 + k) = nI (rm k)) ∧ (∀ k j, k < 3 * R → j < 3 * R → rm k = rm j → k = j) ∧ ∀ i, i < N → (xs 9 i = -4 ∧ ∀ k, k < 3 * R → rm k ≠ i) ∨ ∃ k, k < 3 * R ∧ rm k = i ∧ xs 9 i = nI (k / 3)) ∧ ∀ i, i < N → gd xs N R rm i)
    (hset : fX6_settle_s xs = some x4) (Xa : ∀ a, 3 ≤ a → a ≤ 15 → w (a + 14) = x4 a) (c3 : (w 16 3).toNatClampNeg = 17) (c4 : (w 16 4).toNatClampNeg = 3)
    (M2 : τ 2 0 = ys 2 1) (M7 : τ 7 0 = ys 7 1) (M8 : τ 8 0 = ys 8 1) (M12 : τ 12 0 = ys 12 1) (Mb : ∀ a, a = 3 ∨ a = 4 ∨ a = 5 ∨ a = 14 ∨ a = 16 ∨ a = 17 → ∀ j, j < 8 → τ a j = ys a (8 + j)) (Mc : ∀ j, j < 4 → τ 9 j = ys 9 (4 + j) ∧ τ 10 j = ys 10 (4 + j)) (Mr : ∀ j, j < 6 → τ 13 j = ys 13 (6 + j)) (Ms : ∀ j, j < N → τ 18 j = ys 6 (8 + j) ∧ τ 18 (8 + j) = ys 11 (8 + j))
    (u1 : w 37 3 = 0) (u2 : τ 0 21 = 0) (u3 : w 41 2 = 0) (u4 : τ 0 22 = 0) (u5 : w 44 2 = 0) (u6 : τ 0 33 = 0) (ht : Text w τ) : Rel w τ := by
  obtain ⟨x4', p1, p2, p3, ⟨vc, vo, v1, v2, v3, v4⟩, p5⟩ := settle_ok hS
  rw [hset] at p1
  have p1 := Option.some.inj p1
  subst p1
  obtain ⟨⟨s1, s2, s3⟩, ⟨W, W1, W2, W3, W4⟩, sB, ⟨C, C1, C2, C3, C4⟩, -, -⟩ := hS
  obtain ⟨hN, R, rm, ⟨r1, r2, r3, r4, r5, r6⟩, hg⟩ := hb
  obtain ⟨g, g0, g1, g2, g3, g4, g5, g6, g7⟩ : ∃ g : Mm, g 0 = x4 4 ∧ g 1 = x4 5 ∧ g 2 = x4 6 ∧ g 3 = x4 7 ∧ g 4 = x4 8 ∧ g 5 = x4 9 ∧ g 6 = x4 10 ∧ g 7 = x4 15 := ⟨fun a => if a < 7 then x4 (a + 4) else x4 15, rfl, rfl, rfl, rfl, rfl, rfl, rfl, rfl⟩
  have X17 : w 17 = x4 3 := Xa 3 (by omega) (by omega)
  have X18 : w 18 = x4 4 := Xa 4 (by omega) (by omega)
  have X19 : w 19 = x4 5 := Xa 5 (by omega) (by omega)
  have X20 : w 20 = x4 6 := Xa 6 (by omega) (by omega)
  have X21 : w 21 = x4 7 := Xa 7 (by omega) (by omega)
  have X22 : w 22 = x4 8 := Xa 8 (by omega) (by omega)
  have X23 : w 23 = x4 9 := Xa 9 (by omega) (by omega)
  have X24 : w 24 = x4 10 := Xa 10 (by omega) (by omega)
  have X25 : w 25 = x4 11 := Xa 11 (by omega) (by omega)
  have X26 : w 26 = x4 12 := Xa 12 (by omega) (by omega)
  have X29 : w 29 = x4 15 := Xa 15 (by omega) (by omega)
  have q4 : x4 4 = xs 4 := p2 4 (by omega) (by omega) (by omega)
  have q5 : x4 5 = xs 5 := p2 5 (by omega) (by omega) (by omega)
  have q6 : x4 6 = xs 6 := p2 6 (by omega) (by omega) (by omega)
  have q7 : x4 7 = xs 7 := p2 7 (by omega) (by omega) (by omega)
  have q8 : x4 8 = xs 8 := p2 8 (by omega) (by omega) (by omega)
  have q9 : x4 9 = xs 9 := p2 9 (by omega) (by omega) (by omega)
  have q11 : x4 11 = xs 11 := p2 11 (by omega) (by omega) (by omega)
  have q12 : x4 12 = xs 12 := p2 12 (by omega) (by omega) (by omega)
  have fl : ∀ m, m < 201 → ∃ c, c ≤ 5 ∧ x4 15 m = nI c ∧ fX9_currentIn τ (nI m) = some (nI c) := by
    intro m hm
    obtain ⟨c, d1, d2, d3⟩ := flow_both (w := xs) (τ := τ) C1 C2 (by rw [M8]; exact C3) (fun k hk => by
      rw [(Mc k (by omega)).1, (Mc k (by omega)).2]
      exact C4 k hk) (nI m)
    rw [p5 m hm] at d2
    exact ⟨c, d1, Option.some.inj d2, d3⟩
  have hr2 : ∀ k, k < 3 * R → rm k < N ∧ τ 13 k = nI (rm k) := fun k hk => by
    rw [Mr k (by omega)]
    exact r4 k hk
  have in9 : ∀ i, i < N → xs 9 i ≠ -4 → ∃ k, k < 3 * R ∧ rm k = i ∧ xs 9 i = nI (k / 3) := fun i hi z => by
    rcases r6 i hi with y | y
    · exact absurd y.1 z
    · exact y
  refine ⟨N, g, W, ⟨⟨hN, s1, W1, W2⟩, ⟨⟨fun i hi => ?_, fun m a b => ?_⟩, ⟨fun i hi => ?_, fun i hi z => ?_, fun i hi z => ?_⟩, ⟨vz vo vc, fun i hi => ?_, fun i j hi hj e => vz_inj (fun i hi => (v2 i hi).1) v3 hi hj e⟩⟩, ⟨?_, fun i hi => ?_⟩, ⟨fun i hi => ?_, fun m a b => ?_, ?_, c3, c4⟩, ⟨?_, fun i hi => ?_, fun i hi => ?_, fun i hi => ?_, R, rm, r1, fun k hk => ?_, r5, fun i hi z => ?_⟩, ⟨fun i hi => ?_, fun m a b => ?_, ?_⟩⟩, ⟨fun i hi => ?_, fun i hi => ?_, ⟨C, C1, ?_, ?_⟩, ⟨R, r1, ?_, ?_⟩⟩, ⟨0, by omega, u1, u2, fun k hk => absurd hk (by omega)⟩, ⟨0, by omega, u3, u4, fun k hk => absurd hk (by omega)⟩, ⟨0, by omega, u5, u6, fun k hk => absurd hk (by omega)⟩, ht⟩
  · obtain ⟨⟨a0, a1, a2, a3, -⟩, ⟨b0, b1, b2, b3, -⟩, ⟨k, k1, k2, -⟩, -, -, -, -⟩ := sB i hi
    rw [g0, g1, g2, g5, q4, q5, q6, q9]
    refine ⟨⟨k, k1, k2⟩, ?_, ⟨a0, a1, a2, a3⟩, ⟨b0, b1, b2, b3⟩⟩
    rcases r6 i hi with y | ⟨t, t1, t2, t3⟩
    · exact Or.inl y.1
    · exact Or.inr ⟨t / 3, by omega, t3⟩
  · obtain ⟨c, d1, d2, d3⟩ := fl m (by omega)
    rw [g7]
    exact ⟨c, d1, d2⟩
  · obtain ⟨-, -, -, ⟨t, t1, t2, -⟩, -, -, -⟩ := sB i hi
    rw [g3, q7]
    exact ⟨t, t1, t2⟩
  · rw [g4, q8] at z ⊢
    rcases hg i hi with y | ⟨j, j1, j2, j3, j4⟩
    · exact absurd y z
    · exact ⟨j, j1, j2, j3⟩
  · rw [g5, q9] at z
    rw [g4, q8]
    obtain ⟨k, k1, k2, k3⟩ := in9 i hi z
    rcases hg i hi with y | ⟨j, j1, j2, j3, j4⟩
    · exact y
    · exact absurd k2 (j4 k k1)
  · have := vz_lt (fun i hi => (v2 i hi).1) v1 hi
    rw [g6]
    exact ⟨v4 i hi, by omega⟩
  · rw [X17, p3 12 (by omega)]
    exact s2
  · rw [X18, X19, X20, X23, X24, g0, g1, g2, g5, g6]
    exact ⟨rfl, rfl, rfl, rfl, rfl⟩
  · rw [X21, X22, g3, g4]
    exact ⟨rfl, rfl⟩
  · rw [X29, g7]
  · rw [X17, p3 13 (by omega)]
    exact W3
  · rw [M2]
    exact s3
  · obtain ⟨⟨a0, a1, a2, a3, a4⟩, ⟨b0, b1, b2, b3, b4⟩, ⟨k, k1, k2, k3⟩, -, -, -, -⟩ := sB i hi
    rw [Mb 3 (by omega) i (by omega), Mb 4 (by omega) i (by omega), Mb 5 (by omega) i (by omega), g0, g1, g2, q4, q5, q6, a3, a4, b3, b4, k2, k3]
    exact ⟨rfl, rfl, rfl⟩
  · rw [g5, q9]
    have rr := raftOf_rm (τ := τ) s1 r1 (by rw [M12]; exact r3) hr2 r5 hi
    rcases r6 i hi with ⟨y1, y2⟩ | ⟨k, k1, k2, k3⟩
    · rw [y1]
      exact rr.1 y2
    · rw [k3]
      exact rr.2 k k1 k2
  · rw [g6, v4 i hi]
    exact ahead_vo s1 (by rw [M2]; exact s3) (fun i hi => by rw [Mb 14 (by omega) i (by omega)]; exact (v2 i hi).2) (fun i hi => (v2 i hi).1) v1 v3 hi
  · obtain ⟨t1, t2⟩ := hr2 k hk
    refine ⟨t1, t2, ?_⟩
    rw [g5, q9]
    rcases r6 (rm k) t1 with ⟨y1, y2⟩ | ⟨j, j1, j2, j3⟩
    · exact absurd rfl (y2 k hk)
    · rw [j3, r5 j k j1 hk j2]
  · rw [g5, q9] at z
    obtain ⟨k, k1, k2, k3⟩ := in9 i hi z
    exact ⟨k, k1, k2⟩
  · obtain ⟨-, -, -, ⟨t, t1, t2, t3⟩, f5, -, -⟩ := sB i hi
    rw [(Ms i hi).1, (Ms i hi).2, g3, g4, q7, q8, t2, t3]
    refine ⟨rfl, ?_⟩
    rcases f5 with ⟨y1, y2⟩ | ⟨j, j1, j2, j3, j4⟩
    · rw [y1, y2]
    · rw [j3, j4]
  · obtain ⟨c, d1, d2, d3⟩ := fl m (by omega)
    rw [g7, d2]
    exact d3
  · rw [M7]
    exact W4
  · obtain ⟨-, -, -, -, -, f6, -⟩ := sB i hi
    rw [X25, q11, Mb 16 (by omega) i (by omega)]
    exact f6
  · obtain ⟨-, -, -, -, -, -, f7⟩ := sB i hi
    rw [X26, q12, Mb 17 (by omega) i (by omega)]
    exact f7
  · rw [X17, p3 14 (by omega)]
    exact C2
  · rw [M8]
    exact C3
  · rw [X17, p3 15 (by omega)]
    exact r2
  · rw [M12]
    exact r3
end KE
section KF
def lst8 (a : Nat) : Prop := a = 3 ∨ a = 4 ∨ a = 5 ∨ a = 6 ∨ a = 11 ∨ a = 14 ∨ a = 16 ∨ a = 17
theorem lay_a : ∀ (fu k : Nat) (x : Mm), k ≤ 8 → 8 - k < fu → ∃ x', LX9_lay_81 fu (nI k) x = some x' ∧ (∀ a, ¬ lst8 a → x' a = x a) ∧ ∀ a j, lst8 a → x' a j = if k ≤ j ∧ j < 8 then x a (8 + j) else x a j := by
  intro fu
  induction fu with
  | zero => intro k x _ h; omega
  | succ fu ih =>
    intro k x hk hf
    rw [LX9_lay_81, nI_lit 8, ifle (by omega) (by omega)]
    by_cases c : 8 ≤ k
    · rw [if_pos c]
      exact ⟨x, rfl, fun _ _ => rfl, fun a j _ => by rw [if_neg (by omega)]⟩
    · rw [if_neg c, nI_add]
      obtain ⟨x', a1, a2, a3⟩ := ih (k + 1) (st (st (st (st (st (st (st (st x 3 k (x 3 (8 + k))) 4 k (x 4 (8 + k))) 5 k (x 5 (8 + k))) 6 k (x 6 (8 + k))) 11 k (x 11 (8 + k))) 14 k (x 14 (8 + k))) 16 k (x 16 (8 + k))) 17 k (x 17 (8 + k))) (by omega) (by omega)
      refine ⟨x', ?_, fun a z => ?_, fun a j z => ?_⟩
      · refine bdE (rdN (by omega) (by omega)) (bdE (rdN (by omega) (by omega)) (bdE (rdN (by omega) (by omega)) (bdE (rdN (by omega) (by omega)) (bdE (show fX9_firstBeast _ _ _ _ _ _ = _ from bdE (wrN (by omega) (by omega)) (bdE (wrN (by omega) (by omega)) (bdE (wrN (by omega) (by omega)) (bdE (wrN (by omega) (by omega)) rfl)))) (bdE (rdN (by omega) (by omega)) ?_)))))
        rw [st_a (a := 11) (by omega), st_a (a := 11) (by omega), st_a (a := 11) (by omega), st_a (a := 11) (by omega)]
        refine bdE (wrN (by omega) (by omega)) (bdE (rdN (by omega) (by omega)) ?_)
        rw [st_a (a := 14) (by omega), st_a (a := 14) (by omega), st_a (a := 14) (by omega), st_a (a := 14) (by omega), st_a (a := 14) (by omega)]
        refine bdE (wrN (by omega) (by omega)) (bdE (rdN (by omega) (by omega)) ?_)
        rw [st_a (a := 16) (by omega), st_a (a := 16) (by omega), st_a (a := 16) (by omega), st_a (a := 16) (by omega), st_a (a := 16) (by omega), st_a (a := 16) (by omega)]
        refine bdE (wrN (by omega) (by omega)) (bdE (rdN (by omega) (by omega)) ?_)
        rw [st_a (a := 17) (by omega), st_a (a := 17) (by omega), st_a (a := 17) (by omega), st_a (a := 17) (by omega), st_a (a := 17) (by omega), st_a (a := 17) (by omega), st_a (a := 17) (by omega)]
        refine bdE (wrN (by omega) (by omega)) ?_
        rw [nI_1]
        exact a1
      · unfold lst8 at z
        rw [a2 a z, st_a (by omega), st_a (by omega), st_a (by omega), st_a (by omega), st_a (by omega), st_a (by omega), st_a (by omega), st_a (by omega)]
      · have e : ∀ j, st (st (st (st (st (st (st (st x 3 k (x 3 (8 + k))) 4 k (x 4 (8 + k))) 5 k (x 5 (8 + k))) 6 k (x 6 (8 + k))) 11 k (x 11 (8 + k))) 14 k (x 14 (8 + k))) 16 k (x 16 (8 + k))) 17 k (x 17 (8 + k)) a j = if j = k then x a (8 + k) else x a j := by
          intro j
          by_cases d : j = k
          · subst d
            rcases z with z | z | z | z | z | z | z | z <;> subst z <;> simp [st_at]
          · simp [st_at, d]
        rw [a3 a j z, e, e]
        by_cases d : j = k
        · subst d
          rw [if_neg (by omega), if_pos rfl, if_pos ⟨by omega, by omega⟩]
        · by_cases f : k + 1 ≤ j ∧ j < 8
          · rw [if_pos f, if_neg (by omega), if_pos (by omega)]
          · rw [if_neg f, if_neg d, if_neg (by omega)]
theorem lay_b : ∀ (fu k : Nat) (x : Mm), k ≤ 4 → 4 - k < fu → ∃ x', LX9_lay_196 fu (nI k) x = some x' ∧ (∀ a, a ≠ 9 → a ≠ 10 → x' a = x a) ∧ ∀ a j, a = 9 ∨ a = 10 → x' a j = if k ≤ j ∧ j < 4 then x a (4 + j) else x a j := by
  intro fu
  induction fu with
  | zero => intro k x _ h; omega
  | succ fu ih =>
    intro k x hk hf
    rw [LX9_lay_196, nI_lit 4, ifle (by omega) (by omega)]
    by_cases c : 4 ≤ k
    · rw [if_pos c]
      exact ⟨x, rfl, fun _ _ _ => rfl, fun a j _ => by rw [if_neg (by omega)]⟩
    · rw [if_neg c, nI_add]
      obtain ⟨x', a1, a2, a3⟩ := ih (k + 1) (st (st x 9 k (x 9 (4 + k))) 10 k (x 10 (4 + k))) (by omega) (by omega)
      refine ⟨x', ?_, fun a z1 z2 => ?_, fun a j z => ?_⟩
      · refine bdE (rdN (by omega) (by omega)) (bdE (wrN (by omega) (by omega)) (bdE (rdN (by omega) (by omega)) ?_))
        rw [st_a (a := 10) (by omega)]
        refine bdE (wrN (by omega) (by omega)) ?_
        rw [nI_1]
        exact a1
      · rw [a2 a z1 z2, st_a z2, st_a z1]
      · have e : ∀ j, st (st x 9 k (x 9 (4 + k))) 10 k (x 10 (4 + k)) a j = if j = k then x a (4 + k) else x a j := by
          intro j
          by_cases d : j = k
          · subst d
            rcases z with z | z <;> subst z <;> simp [st_at]
          · simp [st_at, d]
        rw [a3 a j z, e, e]
        by_cases d : j = k
        · subst d
          rw [if_neg (by omega), if_pos rfl, if_pos ⟨by omega, by omega⟩]
        · by_cases f : k + 1 ≤ j ∧ j < 4
          · rw [if_pos f, if_neg (by omega), if_pos (by omega)]
          · rw [if_neg f, if_neg d, if_neg (by omega)]
theorem lay_c : ∀ (fu k : Nat) (x : Mm), k ≤ 6 → 6 - k < fu → ∃ x', LX9_lay_237 fu (nI k) x = some x' ∧ (∀ a, a ≠ 13 → x' a = x a) ∧ ∀ j, x' 13 j = if k ≤ j ∧ j < 6 then x 13 (6 + j) else x 13 j := by
  intro fu
  induction fu with
  | zero => intro k x _ h; omega
  | succ fu ih =>
    intro k x hk hf
    rw [LX9_lay_237, nI_lit 6, ifle (by omega) (by omega)]
    by_cases c : 6 ≤ k
    · rw [if_pos c]
      exact ⟨x, rfl, fun _ _ => rfl, fun j => by rw [if_neg (by omega)]⟩
    · rw [if_neg c, nI_add]
      obtain ⟨x', a1, a2, a3⟩ := ih (k + 1) (st x 13 k (x 13 (6 + k))) (by omega) (by omega)
      refine ⟨x', ?_, fun a z1 => ?_, fun j => ?_⟩
      · refine bdE (rdN (by omega) (by omega)) (bdE (wrN (by omega) (by omega)) ?_)
        rw [nI_1]
        exact a1
      · rw [a2 a z1, st_a z1]
      · rw [a3 j]
        by_cases d : j = k
        · subst d
          rw [if_neg (by omega), st_kj, if_pos ⟨by omega, by omega⟩]
        · rw [st_ki d, st_ki (by omega)]
          by_cases f : k + 1 ≤ j ∧ j < 6
          · rw [if_pos f, if_pos (by omega)]
          · rw [if_neg f, if_neg (by omega)]
theorem anew_l {N : Nat} (hN : N ≤ 8) : ∀ (fu k : Nat) (x : Mm), k ≤ 8 → 8 - k < fu → x 2 0 = nI N → ∃ x', LX9_anew_2 fu (nI k) x = some x' ∧ (∀ a, a ≠ 18 → x' a = x a) ∧ ∀ j, j < 8 → (x' 18 j = if k ≤ j then x 6 j else x 18 j) ∧ x' 18 (8 + j) = if k ≤ j then (if j < N then x 11 j else -4) else x 18 (8 + j) := by
  intro fu
  induction fu with
  | zero => intro k x _ h; omega
  | succ fu ih =>
    intro k x hk hf e2
    rw [LX9_anew_2, nI_lit 8, ifle (by omega) (by omega)]
    by_cases c : 8 ≤ k
    · rw [if_pos c]
      exact ⟨x, rfl, fun _ _ => rfl, fun j hj => by rw [if_neg (by omega), if_neg (by omega)]; exact ⟨rfl, rfl⟩⟩
    · rw [if_neg c, nI_add, nI_lit0, nI_add]
      obtain ⟨x', a1, a2, a3⟩ := ih (k + 1) (st (st x 18 (0 + k) (x 6 k)) 18 (8 + k) (if k < N then x 11 k else -4)) (by omega) (by omega) (by rw [st_a (by omega), st_a (by omega)]; exact e2)
      refine ⟨x', ?_, fun a z => by rw [a2 a z, st_a z, st_a z], fun j hj => ?_⟩
      · refine bdE (rdN (by omega) (by omega)) (bdE (wrN (by omega) (by omega)) (bdE (rd0 (by omega) (by omega)) (bdE (a := if k < N then x 11 k else -4) ?_ (bdE (wrN (by omega) (by omega)) ?_))))
        · rw [st_a (a := 2) (by omega), e2, ifle (by omega) (by omega)]
          by_cases d : N ≤ k
          · rw [if_pos d, if_neg (by omega)]
          · rw [if_neg d, if_pos (by omega)]
            refine bdE (rdN (by omega) (by omega)) ?_
            rw [st_a (by omega)]
        · rw [nI_1]
          exact a1
      · obtain ⟨b1, b2⟩ := a3 j hj
        rw [b1, b2, st_a (a := 6) (by omega), st_a (a := 6) (by omega), st_a (a := 11) (by omega), st_a (a := 11) (by omega)]
        by_cases d : j = k
        · subst d
          rw [if_neg (show ¬ j + 1 ≤ j by omega), if_neg (show ¬ j + 1 ≤ j by omega), st_ki (j := 8 + j) (i := j) (by omega), if_pos (show j ≤ j by omega), if_pos (show j ≤ j by omega), st_kj]
          refine ⟨?_, rfl⟩
          rw [show 0 + j = j by omega, st_kj]
        · rw [st_ki (j := 8 + k) (i := j) (by omega), st_ki (j := 0 + k) (i := j) (by omega), st_ki (j := 8 + k) (i := 8 + j) (by omega), st_ki (j := 0 + k) (i := 8 + j) (by omega)]
          by_cases f : k + 1 ≤ j
          · rw [if_pos f, if_pos f, if_pos (show k ≤ j by omega), if_pos (show k ≤ j by omega)]
            exact ⟨rfl, rfl⟩
          · rw [if_neg f, if_neg f, if_neg (show ¬ k ≤ j by omega), if_neg (show ¬ k ≤ j by omega)]
            exact ⟨rfl, rfl⟩
theorem anew_ok {N : Nat} (hN : N ≤ 8) {x : Mm} (e2 : x 2 0 = nI N) : ∃ x', fX9_anew x = some x' ∧ (∀ a, a ≠ 18 → a ≠ 0 → x' a = x a) ∧ (∀ j, j ≠ 21 → j ≠ 22 → j ≠ 33 → x' 0 j = x 0 j) ∧ x' 0 21 = 0 ∧ x' 0 22 = 0 ∧ x' 0 33 = 0 ∧ ∀ j, j < 8 → x' 18 j = x 6 j ∧ x' 18 (8 + j) = if j < N then x 11 j else -4 := by
  obtain ⟨x1, a1, a2, a3⟩ := anew_l hN 1000 0 x (by omega) (by omega) e2
  refine ⟨st (st (st x1 0 21 0) 0 22 0) 0 33 0, ?_, fun a z1 z2 => by rw [st_a z2, st_a z2, st_a z2, a2 a z1], fun j z1 z2 z3 => by rw [st_ki z3, st_ki z2, st_ki z1, a2 0 (by omega)], by simp [st_at], by simp [st_at], by simp [st_at], fun j hj => ?_⟩
  · unfold fX9_anew
    exact bdE a1 (bdE pts (bdE pts (bdE pts rfl)))
  · have := a3 j hj
    rw [if_pos (by omega), if_pos (by omega)] at this
    rw [st_a (by omega), st_a (by omega), st_a (by omega)]
    exact this
end KF
