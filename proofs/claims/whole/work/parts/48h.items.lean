section IY
variable {w w' τ τ' : Mm} {T : Nat → Nat} {len N : Nat}
/-- who rides on whom -/
theorem itm_r (hx : Tx0 w T len) (hm : Tm0 τ T len) (hS : Sp w τ N) {q : Nat} (hq : q < len) (e : τ 0 18 = nI q) (hT : T q = 114) : Itm w τ T len q := by
  obtain ⟨⟨s1, s2, s3⟩, sW, sB, sC, sR, sV⟩ := hS
  have hl := hx.1
  obtain ⟨ok, w7, r1, r2, r3, r4⟩ := xitem hx hq (m := 2) (by rw [hT]; rfl) (by omega)
  have nb0 := n_bd T len (ps T len (q + 1) 0)
  have nb1 := n_bd T len (ps T len (q + 1) 1)
  obtain ⟨τ1, τ2, a1, a2, a3, a4, a5, a6⟩ := mch2r (T := T) (len := len) hm s1 s3 (by omega) e
  have rd : ∀ b : Bool, (if τ2 0 19 = 0 then some (0 : Int32) else if nI (nv T len (ps T len (q + 1) 0)) = nI (nv T len (ps T len (q + 1) 1)) then some 0 else some 1) = some (bI b) → fX9_readItem τ = if b = false then some (st τ2 0 19 0) else bd1 (wr (st τ2 0 19 1) 11 16 (8 + nI (nv T len (ps T len (q + 1) 0))) (nI (nv T len (ps T len (q + 1) 1)))) fun w16 => some w16 := by
    intro b hb
    unfold fX9_readItem
    rw [here_spec hm (by omega) e, show hr T len q = nI (T q) from if_neg (by omega), hT, e, nI_1]
    simp only [bd1s, pts]
    rw [if_neg (by decide), if_neg (by decide), if_neg (by decide), if_pos (by decide)]
    refine bdE2 a1 (bdE2 a2 (bdE hb (bdE (gbs ?_) ?_)))
    · cases b
      · exact Or.inl rfl
      · exact Or.inr rfl
    · rw [st_kj]
      cases b
      · rw [bI_f, if_pos (show (0 : Int32) = 0 from rfl), if_pos rfl]
      · rw [bI_t, if_neg (show ¬ (1 : Int32) = 0 by decide), if_neg (by decide)]
  have tell : ok = true → fX5_tell w7 (nI (T q)) = bd2 (fX6_setCarrier_s w7 (nI (nv T len (ps T len (q + 1) 0))) (nI (nv T len (ps T len (q + 1) 1)))) fun v26 w27 => bd1 (gb v26) fun _ => some (v26, w27) := by
    intro okt
    obtain ⟨u1, u2⟩ := r3 okt
    unfold fX5_tell
    rw [hT, if_neg (by decide), if_neg (by decide), if_neg (by decide), if_pos (by decide), rd0 (by omega) (by omega), rd1 (by omega) (by omega), u1 0 (by omega), u1 1 (by omega)]
    rfl
  have lo2 : ∀ x, loM τ (st τ2 0 19 x) := fun x => ⟨⟨by rw [st_a (by omega), a4 2 (by omega)], by rw [st_a (by omega), a4 7 (by omega)], by rw [st_a (by omega), a4 8 (by omega)], by rw [st_a (by omega), a4 12 (by omega)]⟩, fun a z j _ => by rw [st_a (by omega), a4 a (by omega)], fun j _ => ⟨by rw [st_a (by omega), a4 9 (by omega)], by rw [st_a (by omega), a4 10 (by omega)]⟩, fun j _ => by rw [st_a (by omega), a4 13 (by omega)], by rw [st_a (by omega), a4 1 (by omega)], fun a z => by rw [st_a (by omega), a4 a (by omega)], fun j z1 z2 => by rw [st_ki z2, a5 j z1 z2]⟩
  have set : fX6_setCarrier_s w7 (nI (nv T len (ps T len (q + 1) 0))) (nI (nv T len (ps T len (q + 1) 1))) = if nv T len (ps T len (q + 1) 0) < N ∧ nv T len (ps T len (q + 1) 1) < N ∧ nv T len (ps T len (q + 1) 0) ≠ nv T len (ps T len (q + 1) 1) then some (1, st w7 8 (nv T len (ps T len (q + 1) 0)) (nI (nv T len (ps T len (q + 1) 1)))) else some (0, w7) := by
    unfold fX6_setCarrier_s
    rw [has_s (N := N) (by rw [r4 3 (by omega) (by omega)]; exact s2) s1 (by omega), has_s (N := N) (by rw [r4 3 (by omega) (by omega)]; exact s2) s1 (by omega)]
    simp only [bd1s]
    rw [ifeq (by omega) (by omega)]
    by_cases c : nv T len (ps T len (q + 1) 0) < N
    · rw [decide_eq_true c, bI_t, if_neg (show ¬ (1 : Int32) = 0 by decide)]
      by_cases d : nv T len (ps T len (q + 1) 1) < N
      · rw [decide_eq_true d, bI_t, if_neg (show ¬ (1 : Int32) = 0 by decide)]
        by_cases f : nv T len (ps T len (q + 1) 0) = nv T len (ps T len (q + 1) 1)
        · rw [if_pos f, if_neg (fun z => z.2.2 f)]
        · rw [if_neg f, if_pos ⟨c, d, f⟩, wrN (k := 8) (by omega) (by omega)]
          rfl
      · rw [decide_eq_false d, bI_f, if_pos (show (0 : Int32) = 0 from rfl), if_neg (fun z => d z.2.1)]
    · rw [decide_eq_false c, bI_f, if_pos (show (0 : Int32) = 0 from rfl), if_neg (fun z => c z.1)]
  by_cases all : (τ2 0 19 = 1 ∧ nv T len (ps T len (q + 1) 0) ≠ nv T len (ps T len (q + 1) 1))
  · obtain ⟨b1, bn⟩ := all
    obtain ⟨-, b2, b3, b4, b5⟩ := a6.resolve_right (fun z => by rw [b1] at z; exact absurd z.1 (by decide))
    have okt : ok = true := r2.mpr ⟨by omega, fun i hi => by
      rcases (show i = 0 ∨ i = 1 by omega) with z | z
      · rw [z]; exact b2
      · rw [z]; exact b3⟩
    obtain ⟨u1, u2⟩ := r3 okt
    refine ⟨st (st τ2 0 19 1) 11 (8 + nv T len (ps T len (q + 1) 0)) (nI (nv T len (ps T len (q + 1) 1))), ok, w7, ?_, ?_, r1, r4, Or.inr ⟨okt, true, st w7 8 (nv T len (ps T len (q + 1) 0)) (nI (nv T len (ps T len (q + 1) 1))), ?_, by rw [st_a (by omega), r4 0 (by omega) (by omega)], fun a z => by rw [st_a (by omega), r4 a (by omega) (by omega)], Or.inr ⟨rfl, by rw [st_a (by omega), st_kj], N, ps T len (q + 1) 2, ⟨⟨s1, by rw [st_a (by omega), r4 3 (by omega) (by omega)]; exact s2, by rw [st_a (by omega), st_a (by omega), a4 2 (by omega)]; exact s3⟩, ?_, fun i hi => ?_, sC.kept (by rw [st_a (by omega), r4 3 (by omega) (by omega)]) (by rw [st_a (by omega), r4 13 (by omega) (by omega)]) (by rw [st_a (by omega), r4 14 (by omega) (by omega)]) (by rw [st_a (by omega), st_a (by omega), a4 8 (by omega)]) (by rw [st_a (by omega), st_a (by omega), a4 9 (by omega)]) (by rw [st_a (by omega), st_a (by omega), a4 10 (by omega)]), sR.kept (by rw [st_a (by omega), r4 3 (by omega) (by omega)]) (by rw [st_a (by omega), r4 3 (by omega) (by omega)]) (by rw [st_a (by omega), r4 9 (by omega) (by omega)]) (by rw [st_a (by omega), st_a (by omega), a4 12 (by omega)]) (by rw [st_a (by omega), st_a (by omega), a4 13 (by omega)]), sV.kept (by rw [st_a (by omega), r4 3 (by omega) (by omega)]) (by rw [st_a (by omega), r4 10 (by omega) (by omega)]) (by rw [st_a (by omega), st_a (by omega), a4 14 (by omega)]) (by rw [st_a (by omega), st_a (by omega), a4 15 (by omega)])⟩, by rw [st_a (by omega), u2], by rw [st_a (by omega), st_ki (by omega)]; exact a3, (sy_in b3).2, (sy_in b3).1⟩⟩⟩
    · rw [rd true (by rw [b1, if_neg (by decide), ifeq (by omega) (by omega), if_neg bn]; rfl), if_neg (by decide), nI_lit 8, nI_add, wrN (by omega) (by omega)]
      rfl
    · exact (lo2 1).tr ⟨⟨by rw [st_a (by omega)], by rw [st_a (by omega)], by rw [st_a (by omega)], by rw [st_a (by omega)]⟩, fun a z j hj => by rw [st_a (by omega)], fun j _ => ⟨by rw [st_a (by omega)], by rw [st_a (by omega)]⟩, fun j _ => by rw [st_a (by omega)], st_a (by omega), fun a z => st_a (by omega), fun j z1 z2 => by rw [st_a (by omega)]⟩
    · rw [tell okt, set, if_pos ⟨b4, b5, bn⟩]
      rfl
    · rw [st_a (by omega), st_a (by omega), st_a (by omega), r4 3 (by omega) (by omega), a4 7 (by omega)]
      exact sW
    · obtain ⟨f1, f2, f3, f4, f5, f6, f7⟩ := sB i hi
      have hw : ∀ a, a ≠ 8 → 3 ≤ a → st w7 8 (nv T len (ps T len (q + 1) 0)) (nI (nv T len (ps T len (q + 1) 1))) a = w a := fun a z1 z2 => by rw [st_a z1, r4 a (by omega) (by omega)]
      have ht : ∀ a, a ≠ 11 → a ≠ 0 → st (st τ2 0 19 1) 11 (8 + nv T len (ps T len (q + 1) 0)) (nI (nv T len (ps T len (q + 1) 1))) a = τ a := fun a z1 z2 => by rw [st_a z1, st_a z2, a4 a z2]
      rw [hw 4 (by omega) (by omega), hw 5 (by omega) (by omega), hw 6 (by omega) (by omega), hw 7 (by omega) (by omega), hw 11 (by omega) (by omega), hw 12 (by omega) (by omega), ht 3 (by omega) (by omega), ht 4 (by omega) (by omega), ht 5 (by omega) (by omega), ht 6 (by omega) (by omega), ht 16 (by omega) (by omega), ht 17 (by omega) (by omega)]
      refine ⟨f1, f2, f3, f4, ?_, f6, f7⟩
      by_cases y : i = nv T len (ps T len (q + 1) 0)
      · subst y
        rw [st_kj, st_kj]
        exact Or.inr ⟨_, b5, Ne.symm bn, rfl, rfl⟩
      · rw [st_ki y, st_ki (by omega), r4 8 (by omega) (by omega), st_a (by omega), a4 11 (by omega)]
        exact f5
  · have hb : (if τ2 0 19 = 0 then some (0 : Int32) else if nI (nv T len (ps T len (q + 1) 0)) = nI (nv T len (ps T len (q + 1) 1)) then some 0 else some 1) = some (bI false) := by
      rcases a6 with z | z
      · rw [if_neg (by rw [z.1]; decide), ifeq (by omega) (by omega), if_pos (Classical.byContradiction fun y => all ⟨z.1, y⟩)]
        rfl
      · rw [if_pos z.1]
        rfl
    refine ⟨st τ2 0 19 0, ok, w7, by rw [rd false hb, if_pos rfl], lo2 0, r1, r4, ?_⟩
    cases ok
    · exact Or.inl ⟨st_kj, rfl⟩
    · have z := (r2.mp rfl).2
      refine Or.inr ⟨rfl, false, w7, ?_, r4 0 (by omega) (by omega), fun a y => r4 a (by omega) (by omega), Or.inl ⟨rfl, st_kj⟩⟩
      rw [tell rfl, set, if_neg (fun y => ?_)]
      · rfl
      · rcases a6 with v | v
        · exact all ⟨v.1, y.2.2⟩
        · exact v.2 ⟨z 0 (by omega), z 1 (by omega), y.1, y.2.1⟩
end IY
