section JF
variable {w w' τ τ' : Mm} {T : Nat → Nat} {len N : Nat}
/-- a raft -/
theorem itm_a (hx : Tx0 w T len) (hm : Tm0 τ T len) (hS : Sp w τ N) {q : Nat} (hq : q < len) (e : τ 0 18 = nI q) (hT : T q = 97) : Itm w τ T len q := by
  obtain ⟨⟨s1, s2, s3⟩, sW, sB, sC, ⟨R, rm, R1, R2, R3, R4, R5, R6⟩, sV⟩ := hS
  have hl := hx.1
  have nb0 := n_bd T len (ps T len (q + 1) 0)
  have nb1 := n_bd T len (ps T len (q + 1) 1)
  have nb2 := n_bd T len (ps T len (q + 1) 2)
  obtain ⟨τ1, a1, a2⟩ := mtold (sep := 44) hm (by omega) (by omega) s1 s3 (Mk1 (T := T) (len := len) e (decide (R < 2)))
  obtain ⟨τ2, b1, b2⟩ := mtold (sep := 44) hm (by omega) (by omega) s1 s3 a2
  obtain ⟨τ3, c1, d2, d3, d4, d5⟩ := mtold (sep := 59) hm (by omega) (by omega) s1 s3 b2
  obtain ⟨fl, hfl, hif⟩ : ∃ fl : Bool, τ3 0 19 = bI fl ∧ (fl = true ↔ (∀ i, i < 3 → sy T len (q + 1) 3 i) ∧ R < 2 ∧ (nv T len (ps T len (q + 1) 0) < N ∧ nv T len (ps T len (q + 1) 1) < N ∧ nv T len (ps T len (q + 1) 2) < N)) := ⟨_, d3, by
    simp only [Bool.and_eq_true, decide_eq_true_eq]
    constructor
    · rintro ⟨⟨⟨z0, x1, x2, x3⟩, y1, y2, y3⟩, u1, u2, u3⟩
      refine ⟨fun i hi => ?_, z0, x2, y2, u2⟩
      rcases (show i = 0 ∨ i = 1 ∨ i = 2 by omega) with z | z | z
      · rw [z]; exact ⟨x1, x3⟩
      · rw [z]; exact ⟨y1, y3⟩
      · rw [z]; exact ⟨u1, u3⟩
    · rintro ⟨z0, z1, z2, z3, z4⟩
      exact ⟨⟨⟨z1, (z0 0 (by omega)).1, z2, (z0 0 (by omega)).2⟩, (z0 1 (by omega)).1, z3, (z0 1 (by omega)).2⟩, (z0 2 (by omega)).1, z4, (z0 2 (by omega)).2⟩⟩
  have flag := bIc hif
  rw [← hfl] at flag
  have rdG : ∀ b : Bool, (if τ3 0 19 = 0 then some (0 : Int32) else if nI (nv T len (ps T len (q + 1) 0)) = nI (nv T len (ps T len (q + 1) 1)) then some 0 else if nI (nv T len (ps T len (q + 1) 0)) = nI (nv T len (ps T len (q + 1) 2)) then some 0 else if nI (nv T len (ps T len (q + 1) 1)) = nI (nv T len (ps T len (q + 1) 2)) then some 0 else some 1) = some (bI b) → fX9_readItem τ = if bI b = 0 then some (st τ3 0 19 (bI b)) else bd1 (rd (st τ3 0 19 (bI b)) 12 2 1) fun v14 => bd1 (wr (st τ3 0 19 (bI b)) 13 12 (6 + (3 * v14)) (nI (nv T len (ps T len (q + 1) 0)))) fun w15 => bd1 (rd w15 12 2 1) fun v16 => bd1 (wr w15 13 12 (7 + (3 * v16)) (nI (nv T len (ps T len (q + 1) 1)))) fun w17 => bd1 (rd w17 12 2 1) fun v18 => bd1 (wr w17 13 12 (8 + (3 * v18)) (nI (nv T len (ps T len (q + 1) 2)))) fun w19 => bd1 (rd w19 12 2 1) fun v20 => bd1 (wr w19 12 2 1 (v20 + 1)) fun w21 => some w21 := by
    intro b hb
    unfold fX9_readItem
    rw [here_spec hm (by omega) e, show hr T len q = nI (T q) from if_neg (by omega), hT, e, nI_1]
    simp only [bd1s, pts]
    rw [if_pos (by decide), bd1_id]
    unfold fX9_readRaft
    refine bdE (rd1 (by omega) (by omega)) (bdE (a := bI (decide (R < 2))) ?_ (bdE (gbI _) (bdE pts (bdE2 a1 (bdE2 b1 (bdE2 c1 (bdE hb (bdE (gbI _) (bdE pts ?_)))))))))
    · rw [st_a (by omega), st_a (by omega), R3]
      exact ifgb (a := 2) (by omega) (by omega)
    · rw [st_kj]
  have rdF : (if τ3 0 19 = 0 then some (0 : Int32) else if nI (nv T len (ps T len (q + 1) 0)) = nI (nv T len (ps T len (q + 1) 1)) then some 0 else if nI (nv T len (ps T len (q + 1) 0)) = nI (nv T len (ps T len (q + 1) 2)) then some 0 else if nI (nv T len (ps T len (q + 1) 1)) = nI (nv T len (ps T len (q + 1) 2)) then some 0 else some 1) = some (bI false) → fX9_readItem τ = some (st τ3 0 19 0) := fun z => by rw [rdG false z, bI_f, if_pos rfl]
  have g12 : τ3 12 1 = nI R := by rw [d4 12 (by omega)]; exact R3
  have rdT : R < 2 → (if τ3 0 19 = 0 then some (0 : Int32) else if nI (nv T len (ps T len (q + 1) 0)) = nI (nv T len (ps T len (q + 1) 1)) then some 0 else if nI (nv T len (ps T len (q + 1) 0)) = nI (nv T len (ps T len (q + 1) 2)) then some 0 else if nI (nv T len (ps T len (q + 1) 1)) = nI (nv T len (ps T len (q + 1) 2)) then some 0 else some 1) = some (bI true) → fX9_readItem τ = some (st (st (st (st (st τ3 0 19 1) 13 (6 + 3 * R) (nI (nv T len (ps T len (q + 1) 0)))) 13 (7 + 3 * R) (nI (nv T len (ps T len (q + 1) 1)))) 13 (8 + 3 * R) (nI (nv T len (ps T len (q + 1) 2)))) 12 1 (nI (R + 1))) := by
    intro r2 z
    rw [rdG true z, bI_t, if_neg (by decide)]
    refine bdE (rd1 (by omega) (by omega)) ?_
    rw [st_a (by omega), g12, nI_lit 3, pk_mul, nI_lit 6, nI_add]
    refine bdE (wrN (by omega) (by omega)) (bdE (rd1 (by omega) (by omega)) ?_)
    rw [st_a (by omega), st_a (by omega), g12, pk_mul, nI_lit 7, nI_add]
    refine bdE (wrN (by omega) (by omega)) (bdE (rd1 (by omega) (by omega)) ?_)
    rw [st_a (by omega), st_a (by omega), st_a (by omega), g12, pk_mul, nI_lit 8, nI_add]
    refine bdE (wrN (by omega) (by omega)) (bdE (rd1 (by omega) (by omega)) ?_)
    rw [st_a (by omega), st_a (by omega), st_a (by omega), st_a (by omega), g12, nI_1]
    exact bdE (wr1 (by omega) (by omega)) rfl
  have lo3 : ∀ x, loM τ (st τ3 0 19 x) := fun x => ⟨⟨by rw [st_a (by omega), d4 2 (by omega)], by rw [st_a (by omega), d4 7 (by omega)], by rw [st_a (by omega), d4 8 (by omega)], by rw [st_a (by omega), d4 12 (by omega)]⟩, fun a z j _ => by rw [st_a (by omega), d4 a (by omega)], fun j _ => ⟨by rw [st_a (by omega), d4 9 (by omega)], by rw [st_a (by omega), d4 10 (by omega)]⟩, fun j _ => by rw [st_a (by omega), d4 13 (by omega)], by rw [st_a (by omega), d4 1 (by omega)], fun a z => by rw [st_a (by omega), d4 a (by omega)], fun j z1 z2 => by rw [st_ki z2, d5 j z1 z2]⟩
  have tell : ∀ w7 : Mm, (∀ i, i < 3 → w7 2 i = nI (nv T len (ps T len (q + 1) i))) → fX5_tell w7 (nI (T q)) = bd2 (fX6_addRaft_s w7 (nI (nv T len (ps T len (q + 1) 0))) (nI (nv T len (ps T len (q + 1) 1))) (nI (nv T len (ps T len (q + 1) 2)))) fun v26 w27 => bd1 (gb v26) fun _ => some (v26, w27) := by
    intro w7 u1
    unfold fX5_tell
    rw [hT, if_pos (by decide), rd0 (by omega) (by omega), rd1 (by omega) (by omega), show rd w7 2 4 2 = _ from rdN (j := 2) (by omega) (by omega), u1 0 (by omega), u1 1 (by omega), u1 2 (by omega)]
    rfl
  refine itm_fin hx hq (m := 3) (by omega) (by omega) (by rw [hT]; rfl) (R < 2 ∧ (nv T len (ps T len (q + 1) 0) < N ∧ nv T len (ps T len (q + 1) 1) < N ∧ nv T len (ps T len (q + 1) 2) < N) ∧ nv T len (ps T len (q + 1) 0) ≠ nv T len (ps T len (q + 1) 1) ∧ nv T len (ps T len (q + 1) 0) ≠ nv T len (ps T len (q + 1) 2) ∧ nv T len (ps T len (q + 1) 1) ≠ nv T len (ps T len (q + 1) 2)) (fun z => ?_) (fun c d w7 r4 u1 => ?_) (fun d w7 r4 u1 => ?_)
  · refine ⟨st τ3 0 19 0, rdF ?_, lo3 0, st_kj⟩
    rcases flag with f | f
    · rw [if_neg (by rw [f.1]; decide), ifeq (by omega) (by omega), ifeq (by omega) (by omega), ifeq (by omega) (by omega)]
      by_cases n1 : nv T len (ps T len (q + 1) 0) = nv T len (ps T len (q + 1) 1)
      · rw [if_pos n1]
        rfl
      · rw [if_neg n1]
        by_cases n2 : nv T len (ps T len (q + 1) 0) = nv T len (ps T len (q + 1) 2)
        · rw [if_pos n2]
          rfl
        · rw [if_neg n2]
          by_cases n3 : nv T len (ps T len (q + 1) 1) = nv T len (ps T len (q + 1) 2)
          · rw [if_pos n3]
            rfl
          · exact absurd ⟨f.2.1, f.2.2.1, f.2.2.2, n1, n2, n3⟩ z
    · rw [if_pos f.1]
      rfl
  · obtain ⟨p0, p1, n1, n2, n3⟩ := id d
    rcases flag with f | f
    · obtain ⟨x', k1, k2, k3, k4, k5, k6⟩ := (add_r (x := w7) (R := R) s1 (by rw [r4 3 (by omega) (by omega)]; exact s2) R1 (by rw [r4 3 (by omega) (by omega)]; exact R2) (v0 := nv T len (ps T len (q + 1) 0)) (v1 := nv T len (ps T len (q + 1) 1)) (v2 := nv T len (ps T len (q + 1) 2)) (by omega) (by omega) (by omega)).1 d
      refine ⟨_, x', N, rdT p0 ?_, ?_, ?_, ?_, by rw [tell w7 u1, k1]; rfl, fun a z => k2 a (by omega) (by omega), ?_⟩
      · rw [if_neg (by rw [f.1]; decide), ifeq (by omega) (by omega), ifeq (by omega) (by omega), ifeq (by omega) (by omega), if_neg n1, if_neg n2, if_neg n3]
        rfl
      · refine (lo3 1).tr ⟨⟨by rw [st_a (by omega), st_a (by omega), st_a (by omega), st_a (by omega)], by rw [st_a (by omega), st_a (by omega), st_a (by omega), st_a (by omega)], by rw [st_a (by omega), st_a (by omega), st_a (by omega), st_a (by omega)], by rw [st_ki (by omega), st_a (by omega), st_a (by omega), st_a (by omega)]⟩, fun a z j hj => by rw [st_a (by omega), st_a (by omega), st_a (by omega), st_a (by omega)], fun j hj => ⟨by rw [st_a (by omega), st_a (by omega), st_a (by omega), st_a (by omega)], by rw [st_a (by omega), st_a (by omega), st_a (by omega), st_a (by omega)]⟩, fun j hj => by rw [st_a (by omega), st_ki (by omega), st_ki (by omega), st_ki (by omega)], by rw [st_a (by omega), st_a (by omega), st_a (by omega), st_a (by omega)], fun a z => by rw [st_a (by omega), st_a (by omega), st_a (by omega), st_a (by omega)], fun j z1 z2 => by rw [st_a (by omega), st_a (by omega), st_a (by omega), st_a (by omega)]⟩
      · rw [st_a (by omega), st_a (by omega), st_a (by omega), st_a (by omega), st_kj]
      · rw [st_a (by omega), st_a (by omega), st_a (by omega), st_a (by omega), st_ki (by omega)]
        exact d2
      · have hw : ∀ a, 4 ≤ a → a ≠ 9 → x' a = w a := fun a z1 z2 => by rw [k2 a (by omega) z2, r4 a (by omega) (by omega)]
        have hw3 : ∀ j, j ≠ 15 → j ≠ 17 → x' 3 j = w 3 j := fun j z1 z2 => by rw [k3 j z1 z2, r4 3 (by omega) (by omega)]
        have ht : ∀ a, a ≠ 0 → a ≠ 12 → a ≠ 13 → (st (st (st (st (st τ3 0 19 1) 13 (6 + 3 * R) (nI (nv T len (ps T len (q + 1) 0)))) 13 (7 + 3 * R) (nI (nv T len (ps T len (q + 1) 1)))) 13 (8 + 3 * R) (nI (nv T len (ps T len (q + 1) 2)))) 12 1 (nI (R + 1))) a = τ a := fun a z1 z2 z3 => by rw [st_a z2, st_a z3, st_a z3, st_a z3, st_a z1, d4 a z1]
        refine ⟨⟨s1, by rw [hw3 12 (by omega) (by omega)]; exact s2, by rw [ht 2 (by omega) (by omega) (by omega)]; exact s3⟩, by rw [hw3 13 (by omega) (by omega), ht 7 (by omega) (by omega) (by omega)]; exact sW, ?_, sC.kept (hw3 14 (by omega) (by omega)) (hw 13 (by omega) (by omega)) (hw 14 (by omega) (by omega)) (ht 8 (by omega) (by omega) (by omega)) (ht 9 (by omega) (by omega) (by omega)) (ht 10 (by omega) (by omega) (by omega)), ?_, sV.kept (hw3 16 (by omega) (by omega)) (hw 10 (by omega) (by omega)) (ht 14 (by omega) (by omega) (by omega)) (ht 15 (by omega) (by omega) (by omega))⟩
        · unfold SpB
          rw [hw 4 (by omega) (by omega), hw 5 (by omega) (by omega), hw 6 (by omega) (by omega), hw 7 (by omega) (by omega), hw 8 (by omega) (by omega), hw 11 (by omega) (by omega), hw 12 (by omega) (by omega), ht 3 (by omega) (by omega) (by omega), ht 4 (by omega) (by omega) (by omega), ht 5 (by omega) (by omega) (by omega), ht 6 (by omega) (by omega) (by omega), ht 11 (by omega) (by omega) (by omega), ht 16 (by omega) (by omega) (by omega), ht 17 (by omega) (by omega) (by omega)]
          exact sB
        · have w9 : w7 9 = w 9 := r4 9 (by omega) (by omega)
          have w3 : w7 3 = w 3 := r4 3 (by omega) (by omega)
          rw [w9] at k5 k6
          rw [w3] at k6
          refine SpR.add (w := w) (τ := τ) p0 R4 R5 R6 p1.1 p1.2.1 p1.2.2 n1 n2 n3 k4 k5 k6 st_kj ?_ ?_ ?_ (fun k hk => ?_)
          · rw [st_a (by omega), st_ki (by omega), st_ki (by omega), st_kj]
          · rw [st_a (by omega), st_ki (by omega), st_kj]
          · rw [st_a (by omega), st_kj]
          · rw [st_a (by omega), st_ki (by omega), st_ki (by omega), st_ki (by omega), st_a (by omega), d4 13 (by omega)]
    · exact absurd ⟨c, p0, p1⟩ f.2
  · have k := (add_r (x := w7) (R := R) s1 (by rw [r4 3 (by omega) (by omega)]; exact s2) R1 (by rw [r4 3 (by omega) (by omega)]; exact R2) (v0 := nv T len (ps T len (q + 1) 0)) (v1 := nv T len (ps T len (q + 1) 1)) (v2 := nv T len (ps T len (q + 1) 2)) (by omega) (by omega) (by omega)).2 d
    rw [tell w7 u1, k]
    rfl
end JF
