section JD
variable {w w' τ τ' : Mm} {T : Nat → Nat} {len N : Nat}
/-- a beast -/
theorem itm_b (hx : Tx0 w T len) (hm : Tm0 τ T len) (hS : Sp w τ N) {q : Nat} (hq : q < len) (e : τ 0 18 = nI q) (hT : T q = 98) : Itm w τ T len q := by
  have hS0 := hS
  obtain ⟨⟨s1, s2, s3⟩, -, -, -, -, -⟩ := hS
  have hl := hx.1
  have nb0 := n_bd T len (ps T len (q + 1) 0)
  have nb1 := n_bd T len (ps T len (q + 1) 1)
  have nb2 := n_bd T len (ps T len (q + 1) 2)
  have nb3 := n_bd T len (ps T len (q + 1) 3)
  obtain ⟨τ1, a1, a2⟩ := mstep (sep := 44) (lo := 1) (hi := 9) hm (by omega) (by omega) (Mk1 (T := T) (len := len) e (decide (N < 8))) (within_in (a := nv T len (ps T len (q + 1) 0)) (b := 1) (c := 9) (by omega) (by omega) (by omega))
  obtain ⟨τ2, b1, b2⟩ := mstep (sep := 44) (lo := 1) (hi := 9) hm (by omega) (by omega) a2 (within_in (a := nv T len (ps T len (q + 1) 1)) (b := 1) (c := 9) (by omega) (by omega) (by omega))
  obtain ⟨τ3, c1, c2⟩ := mstep (sep := 44) (lo := 0) (hi := 3) hm (by omega) (by omega) b2 (within_in (a := nv T len (ps T len (q + 1) 2)) (b := 0) (c := 3) (by omega) (by omega) (by omega))
  obtain ⟨τ4, d1, d2, d3, d4, d5⟩ := mstep (sep := 59) (lo := 0) (hi := 30) hm (by omega) (by omega) c2 (within_in (a := nv T len (ps T len (q + 1) 3)) (b := 0) (c := 30) (by omega) (by omega) (by omega))
  obtain ⟨fl, hfl, hif⟩ : ∃ fl : Bool, τ4 0 19 = bI fl ∧ (fl = true ↔ (∀ i, i < 4 → sy T len (q + 1) 4 i) ∧ (N < 8 ∧ (1 ≤ nv T len (ps T len (q + 1) 0) ∧ nv T len (ps T len (q + 1) 0) ≤ 9) ∧ (1 ≤ nv T len (ps T len (q + 1) 1) ∧ nv T len (ps T len (q + 1) 1) ≤ 9) ∧ nv T len (ps T len (q + 1) 2) ≤ 3 ∧ nv T len (ps T len (q + 1) 3) ≤ 30)) := ⟨_, d3, by
    simp only [Bool.and_eq_true, decide_eq_true_eq]
    constructor
    · rintro ⟨⟨⟨⟨z0, x1, x2, x3⟩, y1, y2, y3⟩, u1, u2, u3⟩, t1, t2, t3⟩
      refine ⟨fun i hi => ?_, z0, x2, y2, u2.2, t2.2⟩
      rcases (show i = 0 ∨ i = 1 ∨ i = 2 ∨ i = 3 by omega) with z | z | z | z
      · rw [z]; exact ⟨x1, x3⟩
      · rw [z]; exact ⟨y1, y3⟩
      · rw [z]; exact ⟨u1, u3⟩
      · rw [z]; exact ⟨t1, t3⟩
    · rintro ⟨z0, z1, z2, z3, z4, z5⟩
      exact ⟨⟨⟨⟨z1, (z0 0 (by omega)).1, z2, (z0 0 (by omega)).2⟩, (z0 1 (by omega)).1, z3, (z0 1 (by omega)).2⟩, (z0 2 (by omega)).1, ⟨by omega, z4⟩, (z0 2 (by omega)).2⟩, (z0 3 (by omega)).1, ⟨by omega, z5⟩, (z0 3 (by omega)).2⟩⟩
  have flag := bIc hif
  rw [← hfl] at flag
  have g2 : τ4 2 1 = nI N := by rw [d4 2 (by omega)]; exact s3
  have rdE : N < 8 → fX9_readItem τ = if τ4 0 19 = 0 then some τ4 else some (st (st (st (st (st (st (st (st (st τ4 3 (8 + N) (nI (nv T len (ps T len (q + 1) 0)))) 4 (8 + N) (nI (nv T len (ps T len (q + 1) 1)))) 5 (8 + N) (nI (nv T len (ps T len (q + 1) 2)))) 6 (8 + N) (nI (nv T len (ps T len (q + 1) 3)))) 11 (8 + N) (-4)) 14 (8 + N) 0) 16 (8 + N) 0) 17 (8 + N) 0) 2 1 (nI (N + 1))) := by
    intro n8
    unfold fX9_readItem
    rw [here_spec hm (by omega) e, show hr T len q = nI (T q) from if_neg (by omega), hT, e, nI_1]
    simp only [bd1s, pts]
    rw [if_neg (by decide), if_pos (by decide), bd1_id]
    unfold fX9_readBeast
    refine bdE (rd1 (by omega) (by omega)) (bdE (a := bI (decide (N < 8))) ?_ (bdE (gbI _) (bdE pts (bdE2 a1 (bdE2 b1 (bdE2 c1 (bdE2 d1 ?_)))))))
    · rw [st_a (by omega), st_a (by omega), s3]
      exact ifgb (a := 8) (by omega) (by omega)
    · by_cases z : τ4 0 19 = 0
      · rw [if_pos z, if_pos z]
      · rw [if_neg z, if_neg z]
        refine bdE (rd1 (by omega) (by omega)) ?_
        rw [g2, nI_lit 8, nI_add]
        refine bdE (show fX9_firstBeast _ _ _ _ _ _ = _ from bdE (wrN (by omega) (by omega)) (bdE (wrN (by omega) (by omega)) (bdE (wrN (by omega) (by omega)) (bdE (wrN (by omega) (by omega)) rfl)))) (bdE (wrN (by omega) (by omega)) (bdE (wrN (by omega) (by omega)) (bdE (wrN (by omega) (by omega)) (bdE (wrN (by omega) (by omega)) (bdE (rd1 (by omega) (by omega)) ?_)))))
        rw [st_a (by omega), st_a (by omega), st_a (by omega), st_a (by omega), st_a (by omega), st_a (by omega), st_a (by omega), st_a (by omega), g2, nI_1]
        exact bdE (wr1 (by omega) (by omega)) rfl
  have rdF : τ4 0 19 = 0 → fX9_readItem τ = some τ4 := by
    intro z
    unfold fX9_readItem
    rw [here_spec hm (by omega) e, show hr T len q = nI (T q) from if_neg (by omega), hT, e, nI_1]
    simp only [bd1s, pts]
    rw [if_neg (by decide), if_pos (by decide), bd1_id]
    unfold fX9_readBeast
    refine bdE (rd1 (by omega) (by omega)) (bdE (a := bI (decide (N < 8))) ?_ (bdE (gbI _) (bdE pts (bdE2 a1 (bdE2 b1 (bdE2 c1 (bdE2 d1 ?_)))))))
    · rw [st_a (by omega), st_a (by omega), s3]
      exact ifgb (a := 8) (by omega) (by omega)
    · rw [if_pos z]
  have lo4 : loM τ τ4 := ⟨⟨by rw [d4 2 (by omega)], by rw [d4 7 (by omega)], by rw [d4 8 (by omega)], by rw [d4 12 (by omega)]⟩, fun a z j _ => by rw [d4 a (by omega)], fun j _ => ⟨by rw [d4 9 (by omega)], by rw [d4 10 (by omega)]⟩, fun j _ => by rw [d4 13 (by omega)], d4 1 (by omega), fun a z => d4 a (by omega), d5⟩
  have tell : ∀ w7 : Mm, (∀ i, i < 4 → w7 2 i = nI (nv T len (ps T len (q + 1) i))) → fX5_tell w7 (nI (T q)) = bd2 (fX6_addBeast_s w7 (nI (nv T len (ps T len (q + 1) 0))) (nI (nv T len (ps T len (q + 1) 1))) (nI (nv T len (ps T len (q + 1) 2))) (nI (nv T len (ps T len (q + 1) 3)))) fun v26 w27 => bd1 (gb v26) fun _ => some (v26, w27) := by
    intro w7 u1
    unfold fX5_tell
    rw [hT, if_neg (by decide), if_pos (by decide), rd0 (by omega) (by omega), rd1 (by omega) (by omega), show rd w7 2 4 2 = _ from rdN (j := 2) (by omega) (by omega), show rd w7 2 4 3 = _ from rdN (j := 3) (by omega) (by omega), u1 0 (by omega), u1 1 (by omega), u1 2 (by omega), u1 3 (by omega)]
    rfl
  refine itm_fin hx hq (m := 4) (by omega) (by omega) (by rw [hT]; rfl) (N < 8 ∧ (1 ≤ nv T len (ps T len (q + 1) 0) ∧ nv T len (ps T len (q + 1) 0) ≤ 9) ∧ (1 ≤ nv T len (ps T len (q + 1) 1) ∧ nv T len (ps T len (q + 1) 1) ≤ 9) ∧ nv T len (ps T len (q + 1) 2) ≤ 3 ∧ nv T len (ps T len (q + 1) 3) ≤ 30) (fun z => ?_) (fun c d w7 r4 u1 => ?_) (fun d w7 r4 u1 => ?_)
  · rcases flag with f | f
    · exact absurd f.2 z
    · exact ⟨τ4, rdF f.1, lo4, f.1⟩
  · rcases flag with f | f
    · have f1 := f.1
      obtain ⟨p0, p1, p2, p3, p4⟩ := id d
      have bd := addB (T := T) (len := len) (q := q) w7 s1 (by rw [r4 3 (by omega) (by omega)]; exact s2)
      rw [if_pos d] at bd
      have rdT := rdE p0
      rw [if_neg (by rw [f1]; decide)] at rdT
      refine ⟨_, _, N + 1, rdT, ?_, by simp [st_at]; exact f1, by simp [st_at]; exact d2, by rw [tell w7 u1, bd]; rfl, fun a z => ?_, ?_⟩
      · refine lo4.tr ⟨⟨by simp [st_at], by simp [st_at], by simp [st_at], by simp [st_at]⟩, fun a z j hj => ?_, fun j hj => ⟨by simp [st_at], by simp [st_at]⟩, fun j hj => by simp [st_at], ?_, fun a z => ?_, fun j z1 z2 => by simp [st_at]⟩
        · have : j ≠ 8 + N := by omega
          simp [st_at, this]
          intro z1
          omega
        · rw [st_a (by omega), st_a (by omega), st_a (by omega), st_a (by omega), st_a (by omega), st_a (by omega), st_a (by omega), st_a (by omega), st_a (by omega)]
        · rw [st_a (by omega), st_a (by omega), st_a (by omega), st_a (by omega), st_a (by omega), st_a (by omega), st_a (by omega), st_a (by omega), st_a (by omega)]
      · rw [st_a (by omega), st_a (by omega), st_a (by omega), st_a (by omega), st_a (by omega), st_a (by omega), st_a (by omega), st_a (by omega), st_a (by omega), st_a (by omega)]
      · have r43 : w7 3 = w 3 := r4 3 (by omega) (by omega)
        refine Sp.beast hS0 p0 p1 p2 p3 p4 (fun j z => ?_) (fun a j z1 z2 z3 => ?_) (by simp [st_at]) (by simp [st_at]) (by simp [st_at]) (by simp [st_at]) (by simp [st_at]) (by simp [st_at]) (by simp [st_at]) (by simp [st_at]) (by simp [st_at]) (by simp [st_at]) ?_ ?_ (fun a z1 z2 z3 z4 z5 z6 => ?_) (fun a j z1 z2 z3 => ?_) (by simp [st_at]) (by simp [st_at]) (by simp [st_at]) (by simp [st_at]) (by simp [st_at]) (by simp [st_at]) (by simp [st_at]) (by simp [st_at]) (by simp [st_at])
        · rw [← r43]
          simp [st_at, z]
        · rw [← r4 a (by omega) (by omega)]
          have : a ≠ 3 := by omega
          simp [st_at, z3, this]
        · rw [st_a (by omega), st_a (by omega), st_a (by omega), st_a (by omega), st_a (by omega), st_a (by omega), st_a (by omega), st_a (by omega), st_a (by omega), st_a (by omega), r4 13 (by omega) (by omega)]
        · rw [st_a (by omega), st_a (by omega), st_a (by omega), st_a (by omega), st_a (by omega), st_a (by omega), st_a (by omega), st_a (by omega), st_a (by omega), st_a (by omega), r4 14 (by omega) (by omega)]
        · rw [st_a (by omega), st_a (by omega), st_a (by omega), st_a (by omega), st_a (by omega), st_a (by omega), st_a (by omega), st_a (by omega), st_a (by omega), d4 a (by omega)]
        · rw [← d4 a (by omega)]
          have : a ≠ 2 := by omega
          simp [st_at, z3, this]
    · exact absurd ⟨c, d⟩ f.2
  · have bd := addB (T := T) (len := len) (q := q) w7 s1 (by rw [r4 3 (by omega) (by omega)]; exact s2)
    rw [if_neg d] at bd
    rw [tell w7 u1, bd]
    rfl
end JD
