section IU
variable {w w' τ τ' : Mm} {T : Nat → Nat} {len N : Nat}
theorem SpB.kept (h : SpB w τ N) (hw : ∀ a, 4 ≤ a → a ≤ 12 → w' a = w a) (hm : ∀ a, a = 3 ∨ a = 4 ∨ a = 5 ∨ a = 6 ∨ a = 11 ∨ a = 16 ∨ a = 17 → τ' a = τ a) : SpB w' τ' N := by
  unfold SpB
  rw [hw 4 (by omega) (by omega), hw 5 (by omega) (by omega), hw 6 (by omega) (by omega), hw 7 (by omega) (by omega), hw 8 (by omega) (by omega), hw 11 (by omega) (by omega), hw 12 (by omega) (by omega), hm 3 (by omega), hm 4 (by omega), hm 5 (by omega), hm 6 (by omega), hm 11 (by omega), hm 16 (by omega), hm 17 (by omega)]
  exact h
theorem SpC.kept (h : SpC w τ) (h3 : w' 3 14 = w 3 14) (h13 : w' 13 = w 13) (h14 : w' 14 = w 14) (m8 : τ' 8 = τ 8) (m9 : τ' 9 = τ 9) (m10 : τ' 10 = τ 10) : SpC w' τ' := by
  unfold SpC
  rw [h3, h13, h14, m8, m9, m10]
  exact h
theorem SpR.kept (h : SpR w τ N) (h15 : w' 3 15 = w 3 15) (h17 : w' 3 17 = w 3 17) (h9 : w' 9 = w 9) (m12 : τ' 12 = τ 12) (m13 : τ' 13 = τ 13) : SpR w' τ' N := by
  unfold SpR
  rw [h15, h17, h9, m12, m13]
  exact h
theorem SpV.kept (h : SpV w τ N) (h16 : w' 3 16 = w 3 16) (h10 : w' 10 = w 10) (m14 : τ' 14 = τ 14) (m15 : τ' 15 = τ 15) : SpV w' τ' N := by
  unfold SpV
  rw [h16, h10, m14, m15]
  exact h
/-- how wide -/
theorem itm_w (hx : Tx0 w T len) (hm : Tm0 τ T len) (hS : Sp w τ N) {q : Nat} (hq : q < len) (e : τ 0 18 = nI q) (hT : T q = 119) : Itm w τ T len q := by
  obtain ⟨⟨s1, s2, s3⟩, -, sB, sC, sR, sV⟩ := hS
  have hl := hx.1
  obtain ⟨ok, w7, r1, r2, r3, r4⟩ := xitem hx hq (m := 1) (by rw [hT]; rfl) (by omega)
  have nb := n_bd T len (ps T len (q + 1) 0)
  obtain ⟨τ1, k1, k2, k3, k4, k5⟩ := mstep (sep := 59) (lo := 1) (hi := 99) hm (by omega) (by omega) (Mk0 (T := T) (len := len) e) (within_in (a := nv T len (ps T len (q + 1) 0)) (b := 1) (c := 99) (by omega) (by omega) (by omega))
  have lo1 : loM τ (st τ1 7 1 (nI (nv T len (ps T len (q + 1) 0)))) := ⟨⟨by rw [st_a (by omega), k4 2 (by omega)], by rw [st_ki (by omega), k4 7 (by omega)], by rw [st_a (by omega), k4 8 (by omega)], by rw [st_a (by omega), k4 12 (by omega)]⟩, fun a z j _ => by rw [st_a (by omega), k4 a (by omega)], fun j _ => ⟨by rw [st_a (by omega), k4 9 (by omega)], by rw [st_a (by omega), k4 10 (by omega)]⟩, fun j _ => by rw [st_a (by omega), k4 13 (by omega)], by rw [st_a (by omega), k4 1 (by omega)], fun a z => by rw [st_a (by omega), k4 a (by omega)], fun j z1 z2 => by rw [st_a (by omega), k5 j z1 z2]⟩
  refine ⟨st τ1 7 1 (nI (nv T len (ps T len (q + 1) 0))), ok, w7, ?_, lo1, r1, r4, ?_⟩
  · unfold fX9_readItem
    rw [here_spec hm (by omega) e, show hr T len q = nI (T q) from if_neg (by omega), hT, e, nI_1]
    simp only [bd1s, pts]
    rw [if_neg (by decide), if_neg (by decide), if_neg (by decide), if_neg (by decide), if_neg (by decide), if_neg (by decide), if_pos (by decide)]
    rw [k1]
    simp only [bd2s]
    rw [wr1 (by omega) (by omega)]
    rfl
  · rw [st_a (a := 0) (by omega), k3]
    by_cases c : sy T len (q + 1) 1 0
    · have okt : ok = true := r2.mpr ⟨by omega, fun i hi => by rw [show i = 0 by omega]; exact c⟩
      obtain ⟨u1, u2⟩ := r3 okt
      have c2 : hr T len (np T len (ps T len (q + 1) 0)) = 59 := c.2
      refine Or.inr ⟨okt, decide (1 ≤ nv T len (ps T len (q + 1) 0) ∧ nv T len (ps T len (q + 1) 0) ≤ 99), ?_⟩
      have tell : fX5_tell w7 (nI (T q)) = bd2 (fX6_setWidth_s w7 (nI (nv T len (ps T len (q + 1) 0)))) fun v29 w30 => bd1 (gb v29) fun _ => some (v29, w30) := by
        unfold fX5_tell
        rw [hT, if_neg (by decide), if_neg (by decide), if_neg (by decide), if_neg (by decide), if_neg (by decide), if_neg (by decide), if_pos (by decide), rd0 (by omega) (by omega), u1 0 (by omega)]
        rfl
      rw [tell]
      unfold fX6_setWidth_s
      rw [show fX8_within (nI (nv T len (ps T len (q + 1) 0))) 1 99 = _ from within_in (a := nv T len (ps T len (q + 1) 0)) (b := 1) (c := 99) (by omega) (by omega) (by omega)]
      simp only [bd1s]
      by_cases d : 1 ≤ nv T len (ps T len (q + 1) 0) ∧ nv T len (ps T len (q + 1) 0) ≤ 99
      · rw [decide_eq_true d, bI_t, if_neg (show ¬ (1 : Int32) = 0 by decide), pts]
        simp only [bd1s, bd2s]
        rw [gbs (Or.inr rfl)]
        refine ⟨_, rfl, by rw [st_a (by omega), r4 0 (by omega) (by omega)], fun a z => by rw [st_a (by omega), r4 a (by omega) (by omega)], Or.inr ⟨trivial, ?_, N, ps T len (q + 1) 1, ⟨⟨s1, ?_, ?_⟩, ⟨_, d.1, d.2, st_kj, st_kj⟩, sB.kept (fun a z1 z2 => by rw [st_a (by omega), r4 a (by omega) (by omega)]) (fun a z => by rw [st_a (by omega), k4 a (by omega)]), sC.kept (by rw [st_ki (by omega), r4 3 (by omega) (by omega)]) (by rw [st_a (by omega), r4 13 (by omega) (by omega)]) (by rw [st_a (by omega), r4 14 (by omega) (by omega)]) (by rw [st_a (by omega), k4 8 (by omega)]) (by rw [st_a (by omega), k4 9 (by omega)]) (by rw [st_a (by omega), k4 10 (by omega)]), sR.kept (by rw [st_ki (by omega), r4 3 (by omega) (by omega)]) (by rw [st_ki (by omega), r4 3 (by omega) (by omega)]) (by rw [st_a (by omega), r4 9 (by omega) (by omega)]) (by rw [st_a (by omega), k4 12 (by omega)]) (by rw [st_a (by omega), k4 13 (by omega)]), sV.kept (by rw [st_ki (by omega), r4 3 (by omega) (by omega)]) (by rw [st_a (by omega), r4 10 (by omega) (by omega)]) (by rw [st_a (by omega), k4 14 (by omega)]) (by rw [st_a (by omega), k4 15 (by omega)])⟩, ?_, ?_, ?_, ?_⟩⟩
        · rw [decide_eq_true c.1, c2]
          rfl
        · rw [st_ki (by omega), r4 3 (by omega) (by omega)]
          exact s2
        · rw [st_a (by omega), k4 2 (by omega)]
          exact s3
        · rw [st_a (by omega), u2]
        · exact k2
        · exact (sy_in c).2
        · exact (sy_in c).1
      · rw [decide_eq_false d, bI_f, if_pos (show (0 : Int32) = 0 from rfl)]
        simp only [bd2s]
        rw [gbs (Or.inl rfl)]
        refine ⟨w7, rfl, r4 0 (by omega) (by omega), fun a z => r4 a (by omega) (by omega), Or.inl ⟨trivial, ?_⟩⟩
        simp
        rfl
    · refine Or.inl ⟨?_, ?_⟩
      · by_cases d : nd T len (ps T len (q + 1) 0) = 0
        · rw [decide_eq_false (fun z => z d)]
          simp
          rfl
        · have d2 : hr T len (np T len (ps T len (q + 1) 0)) ≠ 59 := fun z => c ⟨d, z⟩
          rw [decide_eq_false d2]
          simp
          rfl
      · cases ok
        · rfl
        · exact absurd ((r2.mp rfl).2 0 (by omega)) c
end IU
