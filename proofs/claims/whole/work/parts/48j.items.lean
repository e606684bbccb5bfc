section JA
variable {w w' τ τ' : Mm} {T : Nat → Nat} {len N : Nat}
/-- one beast -/
theorem mch1 (hm : Tm0 τ T len) (hN : N ≤ 8) (s3 : τ 2 1 = nI N) {q : Nat} (hq : q ≤ 200) (e : τ 0 18 = nI q) : ∃ τ1, fX9_told (st (st τ 0 18 (nI (q + 1))) 0 19 1) 59 = some (nI (nv T len (ps T len (q + 1) 0)), τ1) ∧ τ1 0 18 = nI (ps T len (q + 1) 1) ∧ (∀ a, a ≠ 0 → τ1 a = τ a) ∧ (∀ j, j ≠ 18 → j ≠ 19 → τ1 0 j = τ 0 j) ∧ ((τ1 0 19 = 1 ∧ sy T len (q + 1) 1 0 ∧ nv T len (ps T len (q + 1) 0) < N) ∨ (τ1 0 19 = 0 ∧ ¬ (sy T len (q + 1) 1 0 ∧ nv T len (ps T len (q + 1) 0) < N))) := by
  obtain ⟨τ1, a1, b2, b3, b4, b5⟩ := mtold (sep := 59) hm (by omega) (by omega) hN s3 (Mk0 (T := T) (len := len) e)
  refine ⟨τ1, a1, b2, b4, b5, ?_⟩
  rw [b3]
  by_cases c : sy T len (q + 1) 1 0 ∧ nv T len (ps T len (q + 1) 0) < N
  · obtain ⟨c1, c3⟩ := id c
    refine Or.inl ⟨?_, c⟩
    have d1 : hr T len (np T len (ps T len (q + 1) 0)) = 59 := c1.2
    rw [decide_eq_true c1.1, decide_eq_true c3, decide_eq_true d1]
    rfl
  · refine Or.inr ⟨?_, c⟩
    rw [show (0 : Int32) = bI false from rfl]
    congr 1
    cases z : (true && (decide (nd T len (ps T len (q + 1) 0) ≠ 0) && (decide (nv T len (ps T len (q + 1) 0) < N) && decide (hr T len (np T len (ps T len (q + 1) 0)) = 59))))
    · rfl
    · exfalso
      simp only [Bool.and_eq_true, decide_eq_true_eq] at z
      obtain ⟨-, z1, z2, z3⟩ := z
      exact c ⟨⟨z1, z3⟩, z2⟩
theorem Sp.put (sB : SpB w τ N) (sC : SpC w τ) (sR : SpR w τ N) (sW : ∃ W, 1 ≤ W ∧ W ≤ 99 ∧ w 3 13 = nI W ∧ τ 7 1 = nI W) (s1 : N ≤ 8) (s2 : w 3 12 = nI N) (s3 : τ 2 1 = nI N) (hw3 : ∀ j, j ≠ 16 → w' 3 j = w 3 j) (hw : ∀ a, 4 ≤ a → a ≤ 15 → a ≠ 10 → w' a = w a) (hm : ∀ a, 2 ≤ a → a ≤ 17 → a ≠ 14 → a ≠ 15 → τ' a = τ a) (sV : SpV w' τ' N) : Sp w' τ' N := by
  refine ⟨⟨s1, by rw [hw3 12 (by omega)]; exact s2, by rw [hm 2 (by omega) (by omega) (by omega) (by omega)]; exact s3⟩, by rw [hw3 13 (by omega), hm 7 (by omega) (by omega) (by omega) (by omega)]; exact sW, ?_, sC.kept (hw3 14 (by omega)) (hw 13 (by omega) (by omega) (by omega)) (hw 14 (by omega) (by omega) (by omega)) (hm 8 (by omega) (by omega) (by omega) (by omega)) (hm 9 (by omega) (by omega) (by omega) (by omega)) (hm 10 (by omega) (by omega) (by omega) (by omega)), sR.kept (hw3 15 (by omega)) (hw3 17 (by omega)) (hw 9 (by omega) (by omega) (by omega)) (hm 12 (by omega) (by omega) (by omega) (by omega)) (hm 13 (by omega) (by omega) (by omega) (by omega)), sV⟩
  unfold SpB
  rw [hw 4 (by omega) (by omega) (by omega), hw 5 (by omega) (by omega) (by omega), hw 6 (by omega) (by omega) (by omega), hw 7 (by omega) (by omega) (by omega), hw 8 (by omega) (by omega) (by omega), hw 11 (by omega) (by omega) (by omega), hw 12 (by omega) (by omega) (by omega), hm 3 (by omega) (by omega) (by omega) (by omega), hm 4 (by omega) (by omega) (by omega) (by omega), hm 5 (by omega) (by omega) (by omega) (by omega), hm 6 (by omega) (by omega) (by omega) (by omega), hm 11 (by omega) (by omega) (by omega) (by omega), hm 16 (by omega) (by omega) (by omega) (by omega), hm 17 (by omega) (by omega) (by omega) (by omega)]
  exact sB
/-- who calls -/
theorem itm_s (hx : Tx0 w T len) (hm : Tm0 τ T len) (hS : Sp w τ N) {q : Nat} (hq : q < len) (e : τ 0 18 = nI q) (hT : T q = 115) : Itm w τ T len q := by
  obtain ⟨⟨s1, s2, s3⟩, sW, sB, sC, sR, sV⟩ := hS
  have hl := hx.1
  obtain ⟨ok, w7, r1, r2, r3, r4⟩ := xitem hx hq (m := 1) (by rw [hT]; rfl) (by omega)
  have nb0 := n_bd T len (ps T len (q + 1) 0)
  obtain ⟨τ1, a1, a3, a4, a5, a6⟩ := mch1 (T := T) (len := len) hm s1 s3 (by omega) e
  have rd : fX9_readItem τ = if τ1 0 19 = 0 then some τ1 else bd1 (rd τ1 14 16 (8 + nI (nv T len (ps T len (q + 1) 0)))) fun v19 => if v19 = 0 then bd1 (rd τ1 15 2 1) fun v20 => bd1 (wr τ1 15 2 1 (v20 + 1)) fun w21 => bd1 (rd w21 15 2 1) fun v22 => bd1 (wr w21 14 16 (8 + nI (nv T len (ps T len (q + 1) 0))) v22) fun w23 => some w23 else some τ1 := by
    unfold fX9_readItem
    rw [here_spec hm (by omega) e, show hr T len q = nI (T q) from if_neg (by omega), hT, e, nI_1]
    simp only [bd1s, pts]
    rw [if_neg (by decide), if_neg (by decide), if_neg (by decide), if_neg (by decide), if_pos (by decide)]
    exact bdE2 a1 rfl
  have tell : ok = true → fX5_tell w7 (nI (T q)) = bd2 (fX6_addVoice_s w7 (nI (nv T len (ps T len (q + 1) 0)))) fun v26 w27 => bd1 (gb v26) fun _ => some (v26, w27) := by
    intro okt
    obtain ⟨u1, u2⟩ := r3 okt
    unfold fX5_tell
    rw [hT, if_neg (by decide), if_neg (by decide), if_neg (by decide), if_neg (by decide), if_pos (by decide), rd0 (by omega) (by omega), u1 0 (by omega)]
    rfl
  have lo1 : loM τ τ1 := ⟨⟨by rw [a4 2 (by omega)], by rw [a4 7 (by omega)], by rw [a4 8 (by omega)], by rw [a4 12 (by omega)]⟩, fun a z j _ => by rw [a4 a (by omega)], fun j _ => ⟨by rw [a4 9 (by omega)], by rw [a4 10 (by omega)]⟩, fun j _ => by rw [a4 13 (by omega)], a4 1 (by omega), fun a z => a4 a (by omega), a5⟩
  have hs7 : w7 3 12 = nI N := by rw [r4 3 (by omega) (by omega)]; exact s2
  rcases a6 with ⟨b1, b2, b4⟩ | ⟨b1, b2⟩
  · have okt : ok = true := r2.mpr ⟨by omega, fun i hi => by rw [show i = 0 by omega]; exact b2⟩
    obtain ⟨u1, u2⟩ := r3 okt
    rw [if_neg (by rw [b1]; decide), nI_lit 8, nI_add, rdN (k := 14) (j := 8 + nv T len (ps T len (q + 1) 0)) (by omega) (by omega), a4 14 (by omega)] at rd
    simp only [bd1s] at rd
    have set : fX6_addVoice_s w7 (nI (nv T len (ps T len (q + 1) 0))) = if w 10 (nv T len (ps T len (q + 1) 0)) = -4 then some (1, st (st w7 10 (nv T len (ps T len (q + 1) 0)) (w 3 16)) 3 16 (w 3 16 + 1)) else some (1, w7) := by
      unfold fX6_addVoice_s
      rw [has_s hs7 s1 (by omega), decide_eq_true b4, bI_t]
      simp only [bd1s]
      rw [if_neg (show ¬ (1 : Int32) = 0 by decide), rdN (k := 10) (j := nv T len (ps T len (q + 1) 0)) (by omega) (by omega), r4 10 (by omega) (by omega), wrN (k := 10) (j := nv T len (ps T len (q + 1) 0)) (by omega) (by omega), r4 3 (by omega) (by omega)]
      simp only [bd1s, pts]
      rw [st_a (k := 10) (a := 3) (by omega), r4 3 (by omega) (by omega)]
    rcases sV.add s1 b4 with ⟨c1, c2, vc, c3, c4, c5, c6⟩ | ⟨c1, c2⟩
    · rw [if_pos c1, rd1 (by omega) (by omega)] at rd
      simp only [bd1s] at rd
      rw [wr1 (by omega) (by omega), a4 15 (by omega), c5] at rd
      simp only [bd1s] at rd
      rw [rd1 (by omega) (by omega), st_kj] at rd
      simp only [bd1s] at rd
      rw [wrN (j := 8 + nv T len (ps T len (q + 1) 0)) (by omega) (by omega), nI_1] at rd
      rw [if_pos c2, c4, nI_1] at set
      refine ⟨_, ok, w7, rd, ?_, r1, r4, Or.inr ⟨okt, true, _, by rw [tell okt, set]; rfl, by rw [st_a (by omega), st_a (by omega), r4 0 (by omega) (by omega)], fun a z => by rw [st_a (by omega), st_a (by omega), r4 a (by omega) (by omega)], Or.inr ⟨rfl, by rw [st_a (by omega), st_a (by omega)]; exact b1, N, ps T len (q + 1) 1, Sp.put sB sC sR sW s1 s2 s3 (fun j z => by rw [st_ki z, st_a (by omega), r4 3 (by omega) (by omega)]) (fun a z1 z2 z3 => by rw [st_a (by omega), st_a z3, r4 a (by omega) (by omega)]) (fun a z1 z2 z3 z4 => by rw [st_a z3, st_a z4, a4 a (by omega)]) (c6 _ _ st_kj (fun j hj => ?_) (by rw [st_a (by omega), st_kj]) (fun j hj => ?_)), by rw [st_a (by omega), st_a (by omega), u2], by rw [st_a (by omega), st_a (by omega)]; exact a3, (sy_in b2).2, (sy_in b2).1⟩⟩⟩
      · exact lo1.tr ⟨⟨by rw [st_a (by omega), st_a (by omega)], by rw [st_a (by omega), st_a (by omega)], by rw [st_a (by omega), st_a (by omega)], by rw [st_a (by omega), st_a (by omega)]⟩, fun a z j hj => by
          by_cases y : a = 14
          · rw [y, st_ki (by omega), st_a (by omega)]
          · rw [st_a y, st_a (by omega)], fun j _ => ⟨by rw [st_a (by omega), st_a (by omega)], by rw [st_a (by omega), st_a (by omega)]⟩, fun j _ => by rw [st_a (by omega), st_a (by omega)], by rw [st_a (by omega), st_a (by omega)], fun a z => by rw [st_a (by omega), st_a (by omega)], fun j z1 z2 => by rw [st_a (by omega), st_a (by omega)]⟩
      · rw [st_a (by omega)]
        by_cases y : j = nv T len (ps T len (q + 1) 0)
        · rw [if_pos y, y, st_kj]
        · rw [if_neg y, st_ki y, r4 10 (by omega) (by omega)]
      · by_cases y : j = nv T len (ps T len (q + 1) 0)
        · rw [if_pos y, y, st_kj]
        · rw [if_neg y, st_ki (by omega), st_a (by omega), a4 14 (by omega)]
    · rw [if_neg c1] at rd
      rw [if_neg c2] at set
      refine ⟨_, ok, w7, rd, lo1, r1, r4, Or.inr ⟨okt, true, w7, by rw [tell okt, set]; rfl, r4 0 (by omega) (by omega), fun a z => r4 a (by omega) (by omega), Or.inr ⟨rfl, b1, N, ps T len (q + 1) 1, Sp.put sB sC sR sW s1 s2 s3 (fun j z => by rw [r4 3 (by omega) (by omega)]) (fun a z1 z2 z3 => r4 a (by omega) (by omega)) (fun a z1 z2 z3 z4 => a4 a (by omega)) (sV.kept (by rw [r4 3 (by omega) (by omega)]) (r4 10 (by omega) (by omega)) (a4 14 (by omega)) (a4 15 (by omega))), u2, a3, (sy_in b2).2, (sy_in b2).1⟩⟩⟩
  · refine ⟨τ1, ok, w7, by rw [rd, if_pos b1], lo1, r1, r4, ?_⟩
    cases ok
    · exact Or.inl ⟨b1, rfl⟩
    · have z := (r2.mp rfl).2
      refine Or.inr ⟨rfl, false, w7, ?_, r4 0 (by omega) (by omega), fun a y => r4 a (by omega) (by omega), Or.inl ⟨rfl, b1⟩⟩
      rw [tell rfl]
      unfold fX6_addVoice_s
      rw [has_s hs7 s1 (by omega), decide_eq_false (fun y => b2 ⟨z 0 (by omega), y⟩), bI_f]
      simp only [bd1s]
      rw [if_pos trivial]
      rfl
end JA
