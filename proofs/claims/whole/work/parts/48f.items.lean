section IW
variable {w w' τ τ' : Mm} {T : Nat → Nat} {len N : Nat}
/-- what a beast wants -/
theorem itm_v (hx : Tx0 w T len) (hm : Tm0 τ T len) (hS : Sp w τ N) {q : Nat} (hq : q < len) (e : τ 0 18 = nI q) (hT : T q = 118) : Itm w τ T len q := by
  obtain ⟨⟨s1, s2, s3⟩, sW, sB, sC, sR, sV⟩ := hS
  have hl := hx.1
  obtain ⟨ok, w7, r1, r2, r3, r4⟩ := xitem hx hq (m := 2) (by rw [hT]; rfl) (by omega)
  have nb0 := n_bd T len (ps T len (q + 1) 0)
  have nb1 := n_bd T len (ps T len (q + 1) 1)
  obtain ⟨τ1, τ2, a1, a2, a3, a4, a5, a6⟩ := mch2 (T := T) (len := len) (lo := 1) (hi := 8) hm s1 s3 (by omega) e (by omega) (by omega)
  have rd : fX9_readItem τ = if τ2 0 19 = 0 then some τ2 else bd1 (wr τ2 16 16 (8 + nI (nv T len (ps T len (q + 1) 0))) (nI (nv T len (ps T len (q + 1) 1)))) fun w28 => some w28 := by
    unfold fX9_readItem
    rw [here_spec hm (by omega) e, show hr T len q = nI (T q) from if_neg (by omega), hT, e, nI_1]
    simp only [bd1s, pts]
    rw [if_neg (by decide), if_neg (by decide), if_neg (by decide), if_neg (by decide), if_neg (by decide), if_pos (by decide)]
    exact bdE2 a1 (bdE2 a2 rfl)
  have tell : ok = true → fX5_tell w7 (nI (T q)) = bd2 (fX6_setWant_s w7 (nI (nv T len (ps T len (q + 1) 0))) (nI (nv T len (ps T len (q + 1) 1)))) fun v26 w27 => bd1 (gb v26) fun _ => some (v26, w27) := by
    intro okt
    obtain ⟨u1, u2⟩ := r3 okt
    unfold fX5_tell
    rw [hT, if_neg (by decide), if_neg (by decide), if_neg (by decide), if_neg (by decide), if_neg (by decide), if_pos (by decide), rd0 (by omega) (by omega), rd1 (by omega) (by omega), u1 0 (by omega), u1 1 (by omega)]
    rfl
  have lo2 : loM τ τ2 := ⟨⟨by rw [a4 2 (by omega)], by rw [a4 7 (by omega)], by rw [a4 8 (by omega)], by rw [a4 12 (by omega)]⟩, fun a z j _ => by rw [a4 a (by omega)], fun j _ => ⟨by rw [a4 9 (by omega)], by rw [a4 10 (by omega)]⟩, fun j _ => by rw [a4 13 (by omega)], a4 1 (by omega), fun a z => a4 a (by omega), a5⟩
  have set : fX6_setWant_s w7 (nI (nv T len (ps T len (q + 1) 0))) (nI (nv T len (ps T len (q + 1) 1))) = if nv T len (ps T len (q + 1) 0) < N ∧ (1 ≤ nv T len (ps T len (q + 1) 1) ∧ nv T len (ps T len (q + 1) 1) ≤ 8) then some (1, st w7 11 (nv T len (ps T len (q + 1) 0)) (nI (nv T len (ps T len (q + 1) 1)))) else some (0, w7) := by
    unfold fX6_setWant_s
    rw [has_s (N := N) (by rw [r4 3 (by omega) (by omega)]; exact s2) s1 (by omega), show fX8_within (nI (nv T len (ps T len (q + 1) 1))) 1 8 = _ from within_in (a := nv T len (ps T len (q + 1) 1)) (b := 1) (c := 8) (by omega) (by omega) (by omega)]
    simp only [bd1s]
    by_cases c : nv T len (ps T len (q + 1) 0) < N
    · rw [decide_eq_true c, bI_t, if_neg (show ¬ (1 : Int32) = 0 by decide)]
      by_cases d : 1 ≤ nv T len (ps T len (q + 1) 1) ∧ nv T len (ps T len (q + 1) 1) ≤ 8
      · rw [decide_eq_true d, bI_t, if_neg (show ¬ (1 : Int32) = 0 by decide), if_pos ⟨c, d⟩, wrN (k := 11) (by omega) (by omega)]
        rfl
      · rw [decide_eq_false d, bI_f, if_pos (show (0 : Int32) = 0 from rfl), if_neg (fun z => d z.2)]
    · rw [decide_eq_false c, bI_f, if_pos (show (0 : Int32) = 0 from rfl), if_neg (fun z => c z.1)]
  rcases a6 with ⟨b1, b2, b3, b4, b5, b6⟩ | ⟨b1, b2⟩
  · have okt : ok = true := r2.mpr ⟨by omega, fun i hi => by
      rcases (show i = 0 ∨ i = 1 by omega) with z | z
      · rw [z]; exact b2
      · rw [z]; exact b3⟩
    obtain ⟨u1, u2⟩ := r3 okt
    refine ⟨st τ2 16 (8 + nv T len (ps T len (q + 1) 0)) (nI (nv T len (ps T len (q + 1) 1))), ok, w7, ?_, ?_, r1, r4, Or.inr ⟨okt, true, st w7 11 (nv T len (ps T len (q + 1) 0)) (nI (nv T len (ps T len (q + 1) 1))), ?_, by rw [st_a (by omega), r4 0 (by omega) (by omega)], fun a z => by rw [st_a (by omega), r4 a (by omega) (by omega)], Or.inr ⟨rfl, by rw [st_a (by omega)]; exact b1, N, ps T len (q + 1) 2, ⟨⟨s1, by rw [st_a (by omega), r4 3 (by omega) (by omega)]; exact s2, by rw [st_a (by omega), a4 2 (by omega)]; exact s3⟩, ?_, fun i hi => ?_, sC.kept (by rw [st_a (by omega), r4 3 (by omega) (by omega)]) (by rw [st_a (by omega), r4 13 (by omega) (by omega)]) (by rw [st_a (by omega), r4 14 (by omega) (by omega)]) (by rw [st_a (by omega), a4 8 (by omega)]) (by rw [st_a (by omega), a4 9 (by omega)]) (by rw [st_a (by omega), a4 10 (by omega)]), sR.kept (by rw [st_a (by omega), r4 3 (by omega) (by omega)]) (by rw [st_a (by omega), r4 3 (by omega) (by omega)]) (by rw [st_a (by omega), r4 9 (by omega) (by omega)]) (by rw [st_a (by omega), a4 12 (by omega)]) (by rw [st_a (by omega), a4 13 (by omega)]), sV.kept (by rw [st_a (by omega), r4 3 (by omega) (by omega)]) (by rw [st_a (by omega), r4 10 (by omega) (by omega)]) (by rw [st_a (by omega), a4 14 (by omega)]) (by rw [st_a (by omega), a4 15 (by omega)])⟩, by rw [st_a (by omega), u2], by rw [st_a (by omega)]; exact a3, (sy_in b3).2, (sy_in b3).1⟩⟩⟩
    · rw [rd, if_neg (by rw [b1]; decide), nI_lit 8, nI_add, wrN (by omega) (by omega)]
      rfl
    · exact lo2.tr ⟨⟨by rw [st_a (by omega)], by rw [st_a (by omega)], by rw [st_a (by omega)], by rw [st_a (by omega)]⟩, fun a z j hj => by
        by_cases y : a = 16
        · rw [y, st_ki (by omega)]
        · rw [st_a y], fun j _ => ⟨by rw [st_a (by omega)], by rw [st_a (by omega)]⟩, fun j _ => by rw [st_a (by omega)], st_a (by omega), fun a z => st_a (by omega), fun j z1 z2 => by rw [st_a (by omega)]⟩
    · rw [tell okt, set, if_pos ⟨b4, b5, b6⟩]
      rfl
    · rw [st_a (by omega), st_a (by omega), r4 3 (by omega) (by omega), a4 7 (by omega)]
      exact sW
    · obtain ⟨f1, f2, f3, f4, f5, f6, f7⟩ := sB i hi
      rw [st_a (k := 11) (a := 4) (by omega), st_a (k := 11) (a := 5) (by omega), st_a (k := 11) (a := 6) (by omega), st_a (k := 11) (a := 7) (by omega), st_a (k := 11) (a := 8) (by omega), st_a (k := 11) (a := 12) (by omega), st_a (k := 16) (a := 3) (by omega), st_a (k := 16) (a := 4) (by omega), st_a (k := 16) (a := 5) (by omega), st_a (k := 16) (a := 6) (by omega), st_a (k := 16) (a := 11) (by omega), st_a (k := 16) (a := 17) (by omega), r4 4 (by omega) (by omega), r4 5 (by omega) (by omega), r4 6 (by omega) (by omega), r4 7 (by omega) (by omega), r4 8 (by omega) (by omega), r4 12 (by omega) (by omega), a4 3 (by omega), a4 4 (by omega), a4 5 (by omega), a4 6 (by omega), a4 11 (by omega), a4 17 (by omega)]
      refine ⟨f1, f2, f3, f4, f5, ?_, f7⟩
      by_cases y : i = nv T len (ps T len (q + 1) 0)
      · subst y
        rw [st_kj, st_kj]
        exact Or.inr ⟨_, b5, b6, rfl, rfl⟩
      · rw [st_ki y, st_ki (by omega), r4 11 (by omega) (by omega), a4 16 (by omega)]
        exact f6
  · refine ⟨τ2, ok, w7, by rw [rd, if_pos b1], lo2, r1, r4, ?_⟩
    cases ok
    · exact Or.inl ⟨b1, rfl⟩
    · have z := (r2.mp rfl).2
      refine Or.inr ⟨rfl, false, w7, ?_, r4 0 (by omega) (by omega), fun a y => r4 a (by omega) (by omega), Or.inl ⟨rfl, b1⟩⟩
      rw [tell rfl, set, if_neg (fun y => b2 ⟨z 0 (by omega), z 1 (by omega), y.1, y.2⟩)]
      rfl
/-- what a beast harvests -/
theorem itm_y (hx : Tx0 w T len) (hm : Tm0 τ T len) (hS : Sp w τ N) {q : Nat} (hq : q < len) (e : τ 0 18 = nI q) (hT : T q = 121) : Itm w τ T len q := by
  obtain ⟨⟨s1, s2, s3⟩, sW, sB, sC, sR, sV⟩ := hS
  have hl := hx.1
  obtain ⟨ok, w7, r1, r2, r3, r4⟩ := xitem hx hq (m := 2) (by rw [hT]; rfl) (by omega)
  have nb0 := n_bd T len (ps T len (q + 1) 0)
  have nb1 := n_bd T len (ps T len (q + 1) 1)
  obtain ⟨τ1, τ2, a1, a2, a3, a4, a5, a6⟩ := mch2 (T := T) (len := len) (lo := 0) (hi := 99) hm s1 s3 (by omega) e (by omega) (by omega)
  have rd : fX9_readItem τ = if τ2 0 19 = 0 then some τ2 else bd1 (wr τ2 17 16 (8 + nI (nv T len (ps T len (q + 1) 0))) (nI (nv T len (ps T len (q + 1) 1)))) fun w28 => some w28 := by
    unfold fX9_readItem
    rw [here_spec hm (by omega) e, show hr T len q = nI (T q) from if_neg (by omega), hT, e, nI_1]
    simp only [bd1s, pts]
    rw [if_neg (by decide), if_neg (by decide), if_neg (by decide), if_neg (by decide), if_neg (by decide), if_neg (by decide), if_neg (by decide), if_pos (by decide)]
    exact bdE2 a1 (bdE2 a2 rfl)
  have tell : ok = true → fX5_tell w7 (nI (T q)) = bd2 (fX6_setHarvest_s w7 (nI (nv T len (ps T len (q + 1) 0))) (nI (nv T len (ps T len (q + 1) 1)))) fun v26 w27 => bd1 (gb v26) fun _ => some (v26, w27) := by
    intro okt
    obtain ⟨u1, u2⟩ := r3 okt
    unfold fX5_tell
    rw [hT, if_neg (by decide), if_neg (by decide), if_neg (by decide), if_neg (by decide), if_neg (by decide), if_neg (by decide), if_neg (by decide), if_pos (by decide), rd0 (by omega) (by omega), rd1 (by omega) (by omega), u1 0 (by omega), u1 1 (by omega)]
    rfl
  have lo2 : loM τ τ2 := ⟨⟨by rw [a4 2 (by omega)], by rw [a4 7 (by omega)], by rw [a4 8 (by omega)], by rw [a4 12 (by omega)]⟩, fun a z j _ => by rw [a4 a (by omega)], fun j _ => ⟨by rw [a4 9 (by omega)], by rw [a4 10 (by omega)]⟩, fun j _ => by rw [a4 13 (by omega)], a4 1 (by omega), fun a z => a4 a (by omega), a5⟩
  have set : fX6_setHarvest_s w7 (nI (nv T len (ps T len (q + 1) 0))) (nI (nv T len (ps T len (q + 1) 1))) = if nv T len (ps T len (q + 1) 0) < N ∧ (0 ≤ nv T len (ps T len (q + 1) 1) ∧ nv T len (ps T len (q + 1) 1) ≤ 99) then some (1, st w7 12 (nv T len (ps T len (q + 1) 0)) (nI (nv T len (ps T len (q + 1) 1)))) else some (0, w7) := by
    unfold fX6_setHarvest_s
    rw [has_s (N := N) (by rw [r4 3 (by omega) (by omega)]; exact s2) s1 (by omega), show fX8_within (nI (nv T len (ps T len (q + 1) 1))) 0 99 = _ from within_in (a := nv T len (ps T len (q + 1) 1)) (b := 0) (c := 99) (by omega) (by omega) (by omega)]
    simp only [bd1s]
    by_cases c : nv T len (ps T len (q + 1) 0) < N
    · rw [decide_eq_true c, bI_t, if_neg (show ¬ (1 : Int32) = 0 by decide)]
      by_cases d : 0 ≤ nv T len (ps T len (q + 1) 1) ∧ nv T len (ps T len (q + 1) 1) ≤ 99
      · rw [decide_eq_true d, bI_t, if_neg (show ¬ (1 : Int32) = 0 by decide), if_pos ⟨c, d⟩, wrN (k := 12) (by omega) (by omega)]
        rfl
      · rw [decide_eq_false d, bI_f, if_pos (show (0 : Int32) = 0 from rfl), if_neg (fun z => d z.2)]
    · rw [decide_eq_false c, bI_f, if_pos (show (0 : Int32) = 0 from rfl), if_neg (fun z => c z.1)]
  rcases a6 with ⟨b1, b2, b3, b4, b5, b6⟩ | ⟨b1, b2⟩
  · have okt : ok = true := r2.mpr ⟨by omega, fun i hi => by
      rcases (show i = 0 ∨ i = 1 by omega) with z | z
      · rw [z]; exact b2
      · rw [z]; exact b3⟩
    obtain ⟨u1, u2⟩ := r3 okt
    refine ⟨st τ2 17 (8 + nv T len (ps T len (q + 1) 0)) (nI (nv T len (ps T len (q + 1) 1))), ok, w7, ?_, ?_, r1, r4, Or.inr ⟨okt, true, st w7 12 (nv T len (ps T len (q + 1) 0)) (nI (nv T len (ps T len (q + 1) 1))), ?_, by rw [st_a (by omega), r4 0 (by omega) (by omega)], fun a z => by rw [st_a (by omega), r4 a (by omega) (by omega)], Or.inr ⟨rfl, by rw [st_a (by omega)]; exact b1, N, ps T len (q + 1) 2, ⟨⟨s1, by rw [st_a (by omega), r4 3 (by omega) (by omega)]; exact s2, by rw [st_a (by omega), a4 2 (by omega)]; exact s3⟩, ?_, fun i hi => ?_, sC.kept (by rw [st_a (by omega), r4 3 (by omega) (by omega)]) (by rw [st_a (by omega), r4 13 (by omega) (by omega)]) (by rw [st_a (by omega), r4 14 (by omega) (by omega)]) (by rw [st_a (by omega), a4 8 (by omega)]) (by rw [st_a (by omega), a4 9 (by omega)]) (by rw [st_a (by omega), a4 10 (by omega)]), sR.kept (by rw [st_a (by omega), r4 3 (by omega) (by omega)]) (by rw [st_a (by omega), r4 3 (by omega) (by omega)]) (by rw [st_a (by omega), r4 9 (by omega) (by omega)]) (by rw [st_a (by omega), a4 12 (by omega)]) (by rw [st_a (by omega), a4 13 (by omega)]), sV.kept (by rw [st_a (by omega), r4 3 (by omega) (by omega)]) (by rw [st_a (by omega), r4 10 (by omega) (by omega)]) (by rw [st_a (by omega), a4 14 (by omega)]) (by rw [st_a (by omega), a4 15 (by omega)])⟩, by rw [st_a (by omega), u2], by rw [st_a (by omega)]; exact a3, (sy_in b3).2, (sy_in b3).1⟩⟩⟩
    · rw [rd, if_neg (by rw [b1]; decide), nI_lit 8, nI_add, wrN (by omega) (by omega)]
      rfl
    · exact lo2.tr ⟨⟨by rw [st_a (by omega)], by rw [st_a (by omega)], by rw [st_a (by omega)], by rw [st_a (by omega)]⟩, fun a z j hj => by
        by_cases y : a = 17
        · rw [y, st_ki (by omega)]
        · rw [st_a y], fun j _ => ⟨by rw [st_a (by omega)], by rw [st_a (by omega)]⟩, fun j _ => by rw [st_a (by omega)], st_a (by omega), fun a z => st_a (by omega), fun j z1 z2 => by rw [st_a (by omega)]⟩
    · rw [tell okt, set, if_pos ⟨b4, b5, b6⟩]
      rfl
    · rw [st_a (by omega), st_a (by omega), r4 3 (by omega) (by omega), a4 7 (by omega)]
      exact sW
    · obtain ⟨f1, f2, f3, f4, f5, f6, f7⟩ := sB i hi
      rw [st_a (k := 12) (a := 4) (by omega), st_a (k := 12) (a := 5) (by omega), st_a (k := 12) (a := 6) (by omega), st_a (k := 12) (a := 7) (by omega), st_a (k := 12) (a := 8) (by omega), st_a (k := 12) (a := 11) (by omega), st_a (k := 17) (a := 3) (by omega), st_a (k := 17) (a := 4) (by omega), st_a (k := 17) (a := 5) (by omega), st_a (k := 17) (a := 6) (by omega), st_a (k := 17) (a := 11) (by omega), st_a (k := 17) (a := 16) (by omega), r4 4 (by omega) (by omega), r4 5 (by omega) (by omega), r4 6 (by omega) (by omega), r4 7 (by omega) (by omega), r4 8 (by omega) (by omega), r4 11 (by omega) (by omega), a4 3 (by omega), a4 4 (by omega), a4 5 (by omega), a4 6 (by omega), a4 11 (by omega), a4 16 (by omega)]
      refine ⟨f1, f2, f3, f4, f5, f6, ?_⟩
      by_cases y : i = nv T len (ps T len (q + 1) 0)
      · subst y
        rw [st_kj, st_kj]
        exact ⟨_, b6, rfl, rfl⟩
      · rw [st_ki y, st_ki (by omega), r4 12 (by omega) (by omega), a4 17 (by omega)]
        exact f7
  · refine ⟨τ2, ok, w7, by rw [rd, if_pos b1], lo2, r1, r4, ?_⟩
    cases ok
    · exact Or.inl ⟨b1, rfl⟩
    · have z := (r2.mp rfl).2
      refine Or.inr ⟨rfl, false, w7, ?_, r4 0 (by omega) (by omega), fun a y => r4 a (by omega) (by omega), Or.inl ⟨rfl, b1⟩⟩
      rw [tell rfl, set, if_neg (fun y => b2 ⟨z 0 (by omega), z 1 (by omega), y.1, y.2⟩)]
      rfl
end IW
