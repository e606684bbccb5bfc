section KD
variable {w τ : Mm} {N vc : Nat} {vo : Nat → Nat}
theorem addV {x : Mm} {k : Nat} (hN : N ≤ 8) (hk : k < N) (e : x 3 12 = nI N) : fX6_addVoice_s x (nI k) = some (1, if x 10 k = -4 then st (st x 10 k (x 3 16)) 3 16 (x 3 16 + 1) else x) := by
  unfold fX6_addVoice_s
  refine bdE (has_s e hN (by omega)) ?_
  rw [decide_eq_true hk, bI_t, if_neg (show ¬ (1 : Int32) = 0 by decide)]
  refine bdE (rdN (by omega) (by omega)) ?_
  by_cases c : x 10 k = -4
  · rw [if_pos c, if_pos c]
    refine bdE (wrN (by omega) (by omega)) (bdE pts ?_)
    rw [st_a (by omega)]
  · rw [if_neg c, if_neg c]
theorem settle_v (hN : N ≤ 8) (hv : ∀ i, i < N → vo i ≤ 8) : ∀ (fu k : Nat) (x : Mm), k ≤ N → N - k < fu → x 3 12 = nI N → x 3 16 = nI (vc + ct (fun k => decide (vo k = 0)) k) → (∀ j, j < N → x 10 j = if vo j = 0 then (if j < k then nI (vc + ct (fun k => decide (vo k = 0)) j) else -4) else nI (vo j - 1)) → ∃ x', LX6_settle_s_2 fu (nI k) x = some x' ∧ (∀ a, a ≠ 3 → a ≠ 10 → x' a = x a) ∧ (∀ j, j ≠ 16 → x' 3 j = x 3 j) ∧ ∀ j, j < N → x' 10 j = nI (vz vo vc j) := by
  intro fu
  induction fu with
  | zero => intro k x _ h; omega
  | succ fu ih =>
    intro k x hk hf e12 e16 e10
    rw [LX6_settle_s_2, e12, ifle (by omega) (by omega)]
    by_cases c : N ≤ k
    · rw [if_pos c]
      refine ⟨x, rfl, fun _ _ _ => rfl, fun _ _ => rfl, fun j hj => ?_⟩
      rw [e10 j hj]
      unfold vz
      by_cases d : vo j = 0
      · rw [if_pos d, if_pos d, if_pos (by omega)]
      · rw [if_neg d, if_neg d]
    · rw [if_neg c, addV hN (by omega) e12]
      simp only [bd2s]
      rw [nI_1]
      have bk := hv k (by omega)
      by_cases d : vo k = 0
      · have z : x 10 k = -4 := by rw [e10 k (by omega), if_pos d, if_neg (by omega)]
        rw [if_pos z]
        obtain ⟨x', a1, a2, a3, a4⟩ := ih (k + 1) (st (st x 10 k (x 3 16)) 3 16 (x 3 16 + 1)) (by omega) (by omega) (by rw [st_ki (by omega), st_a (by omega)]; exact e12) (by
          rw [st_kj, e16, nI_1, ct, decide_eq_true d, if_pos rfl]
          rfl) (fun j hj => by
          rw [st_a (by omega)]
          by_cases y : j = k
          · rw [y, st_kj, e16, if_pos d, if_pos (by omega)]
          · rw [st_ki y, e10 j hj]
            by_cases f : vo j = 0
            · rw [if_pos f, if_pos f]
              by_cases g : j < k
              · rw [if_pos g, if_pos (by omega)]
              · rw [if_neg g, if_neg (by omega)]
            · rw [if_neg f, if_neg f])
        exact ⟨x', a1, fun a z1 z2 => by rw [a2 a z1 z2, st_a z1, st_a z2], fun j z1 => by rw [a3 j z1, st_ki z1, st_a (by omega)], a4⟩
      · have z : x 10 k ≠ -4 := by
          rw [e10 k (by omega), if_neg d]
          exact nI_n4 (by omega)
        rw [if_neg z]
        exact ih (k + 1) x (by omega) (by omega) e12 (by
          rw [e16, ct, decide_eq_false d, if_neg (by decide)]
          rfl) (fun j hj => by
          rw [e10 j hj]
          by_cases f : vo j = 0
          · rw [if_pos f, if_pos f]
            by_cases g : j < k
            · rw [if_pos g, if_pos (by omega)]
            · have : j ≠ k := fun y => d (by rw [← y]; exact f)
              rw [if_neg g, if_neg (by omega)]
          · rw [if_neg f, if_neg f])
theorem takenFrom_c {w' : Mm} (h3 : w' 3 14 = w 3 14) (h1 : w' 13 = w 13) (h2 : w' 14 = w 14) (y : Int32) : fX6_takenFrom_s w' y = fX6_takenFrom_s w y := by
  have key : ∀ fu a b v, LX6_takenFrom_s_7 y w' fu a b v = LX6_takenFrom_s_7 y w fu a b v := by
    intro fu
    induction fu with
    | zero => intro a b v; rfl
    | succ fu ih =>
      intro a b v
      rw [LX6_takenFrom_s_7, LX6_takenFrom_s_7]
      simp only [rdC h1, rdC h2, ih, h3]
  unfold fX6_takenFrom_s
  rw [key]
theorem settle_f {w : Mm} (hf : ∀ y, ∃ c, c ≤ 5 ∧ fX6_takenFrom_s w y = some (nI c)) : ∀ (fu m : Nat) (x : Mm), m ≤ 201 → 201 - m < fu → (∀ a, a ≠ 15 → x a = w a) → (∀ j, j < m → fX6_takenFrom_s w (nI j) = some (x 15 j)) → ∃ x', LX6_settle_s_24 fu (nI m) x = some x' ∧ (∀ a, a ≠ 15 → x' a = w a) ∧ ∀ j, j < 201 → fX6_takenFrom_s w (nI j) = some (x' 15 j) := by
  intro fu
  induction fu with
  | zero => intro m x _ h; omega
  | succ fu ih =>
    intro m x hm hfu ex hj
    rw [LX6_settle_s_24, nI_lit 200, iflt (by omega) (by omega)]
    by_cases c : 200 < m
    · rw [if_pos c]
      exact ⟨x, rfl, ex, fun j h => hj j (by omega)⟩
    · obtain ⟨v, v1, v2⟩ := hf (nI m)
      rw [if_neg c]
      have t : fX6_takenFrom_s x (nI m) = some (nI v) := by
        rw [takenFrom_c (w := w) (by rw [ex 3 (by omega)]) (ex 13 (by omega)) (ex 14 (by omega))]
        exact v2
      obtain ⟨x', a1, a2, a3⟩ := ih (m + 1) (st x 15 m (nI v)) (by omega) (by omega) (fun a z => by rw [st_a z, ex a z]) (fun j h => by
        by_cases y : j = m
        · rw [y, st_kj]
          exact v2
        · rw [st_ki y]
          exact hj j (by omega))
      refine ⟨x', bdE t (bdE (wrN (by omega) (by omega)) ?_), a2, a3⟩
      rw [nI_1]
      exact a1
/-- what settling does -/
theorem settle_ok (hS : Sp w τ N) : ∃ x4, fX6_settle_s w = some x4 ∧ (∀ a, a ≠ 3 → a ≠ 10 → a ≠ 15 → x4 a = w a) ∧ (∀ j, j ≠ 16 → x4 3 j = w 3 j) ∧ (∃ (vc : Nat) (vo : Nat → Nat), vc = ct (fun i => decide (vo i ≠ 0)) N ∧ (∀ i, i < N → vo i ≤ vc ∧ τ 14 (8 + i) = nI (vo i)) ∧ (∀ i j, i < N → j < N → vo i = vo j → vo i ≠ 0 → i = j) ∧ ∀ i, i < N → x4 10 i = nI (vz vo vc i)) ∧ ∀ j, j < 201 → fX6_takenFrom_s w (nI j) = some (x4 15 j) := by
  obtain ⟨⟨s1, s2, s3⟩, sW, sB, ⟨C, C1, C2, C3, C4⟩, sR, ⟨vc, vo, v1, v2, v3, v4, v5⟩⟩ := hS
  have vl := ct_len (fun i => decide (vo i ≠ 0)) N
  obtain ⟨x2, a1, a2, a3, a4⟩ := settle_v (vc := vc) (vo := vo) s1 (fun i hi => by have := (v4 i hi).1; omega) 1000 0 w (by omega) (by omega) s2 v1 (fun j hj => by
    rw [(v4 j hj).2.2]
    by_cases c : vo j = 0
    · rw [if_pos c, if_pos c, if_neg (by omega)]
    · rw [if_neg c, if_neg c])
  have tc : ∀ y, fX6_takenFrom_s x2 y = fX6_takenFrom_s w y := fun y => takenFrom_c (a3 14 (by omega)) (a2 13 (by omega) (by omega)) (a2 14 (by omega) (by omega)) y
  obtain ⟨x4, b1, b2, b3⟩ := settle_f (w := x2) (fun y => by
    rw [tc y]
    obtain ⟨c, c1, c2, -⟩ := flow_both (w := w) (τ := st (fun a b => if a = 8 then nI C else τ a (4 + b)) 8 0 (nI C)) C1 C2 st_kj (fun k hk => by
      obtain ⟨a, c, d1, d2, d3, d4, d5, d6⟩ := C4 k hk
      refine ⟨a, c, d1, d2, d3, ?_, d5, ?_⟩
      · rw [st_a (by omega)]
        exact d4
      · rw [st_a (by omega)]
        exact d6) y
    exact ⟨c, c1, c2⟩) 1000 0 x2 (by omega) (by omega) (fun _ _ => rfl) (fun j h => absurd h (by omega))
  refine ⟨x4, ?_, fun a z1 z2 z3 => by rw [b2 a z3, a2 a z1 z2], fun j z => by rw [b2 3 (by omega), a3 j z], ⟨vc, vo, v3, fun i hi => ⟨(v4 i hi).1, (v4 i hi).2.1⟩, v5, fun i hi => by rw [b2 10 (by omega), a4 i hi]⟩, fun j hj => by rw [← tc]; exact b3 j hj⟩
  unfold fX6_settle_s
  exact bdE a1 (bdE b1 rfl)
end KD
