/-- the two rivers change places -/
def sw (k : Nat) : Nat := if 3 ≤ k ∧ k ≤ 15 then k + 14 else if 17 ≤ k ∧ k ≤ 29 then k - 14 else k
def rl (w : Mm) : Mm := fun k j => if (k = 16 ∧ (j = 3 ∨ j = 4)) ∨ (k = 30 ∧ (j = 6 ∨ j = 7)) then nI (sw (w k j).toNatClampNeg) else w (sw k) j
theorem rl_o {w : Mm} {k : Nat} (h1 : k ≠ 16) (h2 : k ≠ 30) : rl w k = w (sw k) := by
  funext j
  unfold rl
  rw [if_neg (by omega)]
theorem sw_hi {a : Nat} (h1 : 3 ≤ a) (h2 : a ≤ 15) : sw (a + 14) = a := by
  unfold sw
  rw [if_neg (by omega), if_pos (by omega)]
  omega
theorem sw_id {a : Nat} (h1 : a < 3 ∨ a = 16 ∨ 30 ≤ a) : sw a = a := by
  unfold sw
  rw [if_neg (by omega), if_neg (by omega)]
theorem op_lay {w τ : Mm} (h : Rel w τ) : ∃ (r : Int32) (w' τ' : Mm), fX8_lay 200 w = some (r, w') ∧ fX9_lay τ = some (r, τ') ∧ (Rel w' τ' ∨ Rel (rl w') τ') := by
  obtain ⟨r, w2, τ2, a1, a2, a3, a4, a5, a6⟩ := read_both h
  have hr2 : Rel w2 τ2 := h.lo a3 a4 a5
  obtain ⟨n, g, wd, hc, -, -, -, -, htx⟩ := id hr2
  have c16 := hc.2.2.2.1.2.2.2
  have c0 : (w 16 4).toNatClampNeg = 3 := by
    rw [← a4 16 (by omega)]
    exact c16.2
  by_cases c : r = -4
  · subst c
    obtain ⟨N, hS⟩ := a6 rfl
    obtain ⟨b, b1, b2, b3⟩ := can_both hS
    cases b
    · refine ⟨-2, w2, τ2, ?_, ?_, Or.inl hr2⟩
      · unfold fX8_lay
        refine bdE (gqs c0) (bdE2 a1 ?_)
        rw [if_pos rfl]
        refine bdE (gqs c16.2) (bdE b1 ?_)
        rw [bI_f, if_pos rfl]
      · unfold fX9_lay
        refine bdE2 a2 ?_
        rw [if_pos rfl]
        refine bdE b2 ?_
        rw [bI_f, if_pos rfl]
    · obtain ⟨x4, p1, p2, p3, p4, p5⟩ := settle_ok hS
      obtain ⟨⟨s1, s2, s3⟩, -, -, -, -, -⟩ := id hS
      have e16 : x4 16 = w2 16 := p2 16 (by omega) (by omega) (by omega)
      -- the reference
      obtain ⟨y1, q1, q2, q3⟩ := lay_a 1000 0 (st (st (st (st (st τ2 2 0 (τ2 2 1)) 7 0 (τ2 7 1)) 8 0 (τ2 8 1)) 12 0 (τ2 12 1)) 15 0 (τ2 15 1)) (by omega) (by omega)
      obtain ⟨y2, r1, r2, r3⟩ := lay_b 1000 0 y1 (by omega) (by omega)
      obtain ⟨y3, t1, t2, t3⟩ := lay_c 1000 0 y2 (by omega) (by omega)
      have n2 : y3 2 0 = nI N := by
        rw [t2 2 (by omega), r2 2 (by omega) (by omega), q2 2 (by unfold lst8; omega)]
        simp [st_at]
        exact s3
      obtain ⟨y4, u1, u2, u3, u4, u5, u6, u7⟩ := anew_ok s1 n2
      -- an array that is neither copied nor counted
      have k1 : ∀ a, a = 3 ∨ a = 4 ∨ a = 5 ∨ a = 6 ∨ a = 11 ∨ a = 14 ∨ a = 16 ∨ a = 17 → ∀ j, j < 8 → y3 a j = τ2 a (8 + j) := by
        intro a z j hj
        rw [t2 a (by omega), r2 a (by omega) (by omega), q3 a j z, if_pos (by omega), st_a (by omega), st_a (by omega), st_a (by omega), st_a (by omega), st_a (by omega)]
      have k2 : ∀ a, a = 2 ∨ a = 7 ∨ a = 8 ∨ a = 12 → y4 a 0 = τ2 a 1 := by
        intro a z
        rw [u2 a (by omega) (by omega), t2 a (by omega), r2 a (by omega) (by omega), q2 a (by unfold lst8; omega)]
        rcases z with z | z | z | z <;> subst z <;> simp [st_at]
      refine ⟨nI N, st (st (st (st (st x4 16 3 3) 16 4 17) 37 3 0) 41 2 0) 44 2 0, y4, ?_, ?_, Or.inr ?_⟩
      · unfold fX8_lay
        refine bdE (gqs c0) (bdE2 a1 ?_)
        rw [if_pos rfl]
        refine bdE (gqs c16.2) (bdE b1 ?_)
        rw [bI_t, if_neg (by decide)]
        refine bdE (gqs c16.2) (bdE p1 (bdE (gqs (by rw [e16]; exact c16.1)) (bdE (gqs (by rw [e16]; exact c16.2)) (bdE pts (bdE pts (bdE (show fX1_clear _ = some (st _ 37 3 0) from rfl) (bdE (show fX3_clear _ = some (st _ 41 2 0) from rfl) (bdE (show fX7_clear _ = some (st _ 44 2 0) from rfl) (bdE (gqs ?_) ?_)))))))))
        · simp [st_at]
        · rw [st_a (by omega), st_a (by omega), st_a (by omega), st_a (by omega), st_a (by omega), p3 12 (by omega), s2]
      · unfold fX9_lay
        refine bdE2 a2 ?_
        rw [if_pos rfl]
        refine bdE b2 ?_
        rw [bI_t, if_neg (by decide)]
        refine bdE (rd1 (by omega) (by omega)) (bdE (wr0 (by omega) (by omega)) (bdE (rd1 (by omega) (by omega)) ?_))
        rw [st_a (a := 7) (by omega)]
        refine bdE (wr0 (by omega) (by omega)) (bdE (rd1 (by omega) (by omega)) ?_)
        rw [st_a (a := 8) (by omega), st_a (a := 8) (by omega)]
        refine bdE (wr0 (by omega) (by omega)) (bdE (rd1 (by omega) (by omega)) ?_)
        rw [st_a (a := 12) (by omega), st_a (a := 12) (by omega), st_a (a := 12) (by omega)]
        refine bdE (wr0 (by omega) (by omega)) (bdE (rd1 (by omega) (by omega)) ?_)
        rw [st_a (a := 15) (by omega), st_a (a := 15) (by omega), st_a (a := 15) (by omega), st_a (a := 15) (by omega)]
        refine bdE (wr0 (by omega) (by omega)) (bdE q1 (bdE r1 (bdE t1 (bdE u1 (bdE (rd0 (by omega) (by omega)) ?_)))))
        rw [k2 2 (by omega), s3]
      · have x16 : ∀ j, j ≠ 3 → j ≠ 4 → rl (st (st (st (st (st x4 16 3 3) 16 4 17) 37 3 0) 41 2 0) 44 2 0) 16 j = w2 16 j := by
          intro j z1 z2
          unfold rl
          rw [if_neg (by omega), sw_id (by omega), st_a (by omega), st_a (by omega), st_a (by omega), st_ki z2, st_ki z1, e16]
        refine laid_rel hS (b3 rfl) p1 (fun a z1 z2 => ?_) ?_ ?_ (k2 2 (by omega)) (k2 7 (by omega)) (k2 8 (by omega)) (k2 12 (by omega)) (fun a z j hj => ?_) (fun j hj => ?_) (fun j hj => ?_) (fun j hj => ?_) ?_ u4 ?_ u5 ?_ u6 ?_
        · rw [rl_o (by omega) (by omega), sw_hi z1 z2, st_a (by omega), st_a (by omega), st_a (by omega), st_a (by omega), st_a (by omega)]
        · unfold rl
          rw [if_pos (by omega), st_a (by omega), st_a (by omega), st_a (by omega), st_ki (by omega), st_kj]
          rfl
        · unfold rl
          rw [if_pos (by omega), st_a (by omega), st_a (by omega), st_a (by omega), st_kj]
          rfl
        · rw [u2 a (by omega) (by omega)]
          exact k1 a (by omega) j hj
        · have e1 : ∀ a, a = 9 ∨ a = 10 → y4 a j = τ2 a (4 + j) := by
            intro a z
            rw [u2 a (by omega) (by omega), t2 a (by omega), r3 a j z, if_pos (by omega), q2 a (by unfold lst8; omega), st_a (by omega), st_a (by omega), st_a (by omega), st_a (by omega), st_a (by omega)]
          exact ⟨e1 9 (by omega), e1 10 (by omega)⟩
        · rw [u2 13 (by omega) (by omega), t3 j, if_pos (by omega), r2 13 (by omega) (by omega), q2 13 (by unfold lst8; omega), st_a (by omega), st_a (by omega), st_a (by omega), st_a (by omega), st_a (by omega)]
        · obtain ⟨v1, v2⟩ := u7 j (by omega)
          rw [v1, v2, if_pos hj, k1 6 (by omega) j (by omega), k1 11 (by omega) j (by omega)]
          exact ⟨rfl, rfl⟩
        · rw [rl_o (by omega) (by omega), sw_id (by omega)]
          simp [st_at]
        · rw [rl_o (by omega) (by omega), sw_id (by omega)]
          simp [st_at]
        · rw [rl_o (by omega) (by omega), sw_id (by omega)]
          simp [st_at]
        · refine htx.kept ?_ (x16 1 (by omega) (by omega)) ?_ ?_
          · rw [rl_o (by omega) (by omega), sw_id (by omega), st_a (by omega), st_a (by omega), st_a (by omega), st_a (by omega), st_a (by omega), p2 0 (by omega) (by omega) (by omega)]
          · rw [u3 1 (by omega) (by omega) (by omega), t2 0 (by omega), r2 0 (by omega) (by omega), q2 0 (by unfold lst8; omega), st_a (by omega), st_a (by omega), st_a (by omega), st_a (by omega), st_a (by omega)]
          · rw [u2 1 (by omega) (by omega), t2 1 (by omega), r2 1 (by omega) (by omega), q2 1 (by unfold lst8; omega), st_a (by omega), st_a (by omega), st_a (by omega), st_a (by omega), st_a (by omega)]
  · refine ⟨-2, w2, τ2, ?_, ?_, Or.inl hr2⟩
    · unfold fX8_lay
      refine bdE (gqs c0) (bdE2 a1 ?_)
      rw [if_neg c]
    · unfold fX9_lay
      refine bdE2 a2 ?_
      rw [if_neg c]
