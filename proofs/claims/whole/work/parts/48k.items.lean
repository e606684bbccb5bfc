section JB
variable {w w' τ τ' : Mm} {T : Nat → Nat} {len N : Nat}
theorem bIc {b : Bool} {P : Prop} (h : b = true ↔ P) : (bI b = 1 ∧ P) ∨ (bI b = 0 ∧ ¬ P) := by
  cases b
  · exact Or.inr ⟨rfl, fun z => by cases h.mpr z⟩
  · exact Or.inl ⟨rfl, h.mp rfl⟩
theorem bd1_id {A : Type} {x : Option A} : bd1 x (fun a => some a) = x := by cases x <;> rfl
theorem itm_fin (hx : Tx0 w T len) {q m : Nat} (hq : q < len) (hm0 : m ≠ 0) (hm4 : m ≤ 4) (hnb : fX5_numbersBehind (nI (T q)) = some (nI m)) (P : Prop)
    (hF : ¬ ((∀ i, i < m → sy T len (q + 1) m i) ∧ P) → ∃ τ', fX9_readItem τ = some τ' ∧ loM τ τ' ∧ τ' 0 19 = 0)
    (hT : (∀ i, i < m → sy T len (q + 1) m i) → P → ∀ w7 : Mm, (∀ a, a ≠ 1 → a ≠ 2 → w7 a = w a) → (∀ i, i < m → w7 2 i = nI (nv T len (ps T len (q + 1) i))) → ∃ (τ' w10 : Mm) (N' : Nat), fX9_readItem τ = some τ' ∧ loM τ τ' ∧ τ' 0 19 = 1 ∧ τ' 0 18 = nI (ps T len (q + 1) m) ∧ fX5_tell w7 (nI (T q)) = some (1, w10) ∧ (∀ a, a < 3 ∨ 16 ≤ a → w10 a = w7 a) ∧ Sp w10 τ' N')
    (hN : ¬ P → ∀ w7 : Mm, (∀ a, a ≠ 1 → a ≠ 2 → w7 a = w a) → (∀ i, i < m → w7 2 i = nI (nv T len (ps T len (q + 1) i))) → fX5_tell w7 (nI (T q)) = some (0, w7)) : Itm w τ T len q := by
  obtain ⟨ok, w7, r1, r2, r3, r4⟩ := xitem hx hq hnb hm4
  by_cases c : ∀ i, i < m → sy T len (q + 1) m i
  · have okt : ok = true := r2.mpr ⟨hm0, c⟩
    obtain ⟨u1, u2⟩ := r3 okt
    by_cases d : P
    · obtain ⟨τ', w10, N', t1, t2, t3, t4, t5, t6, t7⟩ := hT c d w7 r4 u1
      have sl := sy_in (c (m - 1) (by omega))
      rw [show m - 1 + 1 = m by omega] at sl
      exact ⟨τ', ok, w7, t1, t2, r1, r4, Or.inr ⟨okt, true, w10, t5, by rw [t6 0 (by omega), r4 0 (by omega) (by omega)], fun a z => by rw [t6 a (by omega), r4 a (by omega) (by omega)], Or.inr ⟨rfl, t3, N', ps T len (q + 1) m, t7, by rw [t6 1 (by omega)]; exact u2, t4, sl.2, sl.1⟩⟩⟩
    · obtain ⟨τ', t1, t2, t3⟩ := hF (fun z => d z.2)
      exact ⟨τ', ok, w7, t1, t2, r1, r4, Or.inr ⟨okt, false, w7, hN d w7 r4 u1, r4 0 (by omega) (by omega), fun a z => r4 a (by omega) (by omega), Or.inl ⟨rfl, t3⟩⟩⟩
  · obtain ⟨τ', t1, t2, t3⟩ := hF (fun z => c z.1)
    refine ⟨τ', ok, w7, t1, t2, r1, r4, Or.inl ⟨t3, ?_⟩⟩
    cases ok
    · rfl
    · exact absurd (r2.mp rfl).2 c
/-- the flag is set anew behind the letter -/
theorem Mk1 {q : Nat} (e : τ 0 18 = nI q) (b : Bool) : Mk τ (st (st (st τ 0 18 (nI (q + 1))) 0 19 1) 0 19 (bI b)) T len (q + 1) 0 b := ⟨by rw [st_ki (by omega), st_ki (by omega), st_kj]; rfl, st_kj, fun a z => by rw [st_a z, st_a z, st_a z], fun j z1 z2 => by rw [st_ki z2, st_ki z2, st_ki z1]⟩
theorem ifgb {a b : Nat} (ha : a < 2 ^ 31) (hb : b < 2 ^ 31) : (if nI a ≤ nI b then some (0 : Int32) else some 1) = some (bI (decide (b < a))) := by
  rw [ifle ha hb]
  by_cases c : a ≤ b
  · rw [if_pos c, decide_eq_false (by omega)]
    rfl
  · rw [if_neg c, decide_eq_true (by omega)]
    rfl
theorem gbI (b : Bool) : gb (bI b) = some () := by
  cases b
  · exact gbs (Or.inl rfl)
  · exact gbs (Or.inr rfl)
/-- a current -/
theorem itm_c (hx : Tx0 w T len) (hm : Tm0 τ T len) (hS : Sp w τ N) {q : Nat} (hq : q < len) (e : τ 0 18 = nI q) (hT : T q = 99) : Itm w τ T len q := by
  obtain ⟨⟨s1, s2, s3⟩, sW, sB, ⟨C, C1, C2, C3, C4⟩, sR, sV⟩ := hS
  have hl := hx.1
  have nb0 := n_bd T len (ps T len (q + 1) 0)
  have nb1 := n_bd T len (ps T len (q + 1) 1)
  obtain ⟨τ1, a1, a2⟩ := mstep (sep := 44) (lo := 0) (hi := 99) hm (by omega) (by omega) (Mk1 (T := T) (len := len) e (decide (C < 4))) (within_in (a := nv T len (ps T len (q + 1) 0)) (b := 0) (c := 99) (by omega) (by omega) (by omega))
  obtain ⟨τ2, b1, b2, b3, b4, b5⟩ := mstep (sep := 59) (lo := 0) (hi := 5) hm (by omega) (by omega) a2 (within_in (a := nv T len (ps T len (q + 1) 1)) (b := 0) (c := 5) (by omega) (by omega) (by omega))
  have rdE : fX9_readItem τ = if τ2 0 19 = 0 then some τ2 else bd1 (rd τ2 8 2 1) fun v9 => bd1 (wr τ2 9 8 (4 + v9) (nI (nv T len (ps T len (q + 1) 0)))) fun w10 => bd1 (rd w10 8 2 1) fun v11 => bd1 (wr w10 10 8 (4 + v11) (nI (nv T len (ps T len (q + 1) 1)))) fun w12 => bd1 (rd w12 8 2 1) fun v13 => bd1 (wr w12 8 2 1 (v13 + 1)) fun w14 => some w14 := by
    unfold fX9_readItem
    rw [here_spec hm (by omega) e, show hr T len q = nI (T q) from if_neg (by omega), hT, e, nI_1]
    simp only [bd1s, pts]
    rw [if_neg (by decide), if_neg (by decide), if_pos (by decide), bd1_id]
    unfold fX9_readCurrent
    refine bdE (rd1 (by omega) (by omega)) (bdE (a := bI (decide (C < 4))) ?_ (bdE (gbI _) (bdE pts (bdE2 a1 (bdE2 b1 rfl)))))
    rw [st_a (by omega), st_a (by omega), C3]
    exact ifgb (a := 4) (by omega) (by omega)
  have lo2 : loM τ τ2 := ⟨⟨by rw [b4 2 (by omega)], by rw [b4 7 (by omega)], by rw [b4 8 (by omega)], by rw [b4 12 (by omega)]⟩, fun a z j _ => by rw [b4 a (by omega)], fun j _ => ⟨by rw [b4 9 (by omega)], by rw [b4 10 (by omega)]⟩, fun j _ => by rw [b4 13 (by omega)], b4 1 (by omega), fun a z => b4 a (by omega), b5⟩
  have flag := bIc (b := (decide (C < 4) && (decide (nd T len (ps T len (q + 1) 0) ≠ 0) && (decide (0 ≤ nv T len (ps T len (q + 1) 0) ∧ nv T len (ps T len (q + 1) 0) ≤ 99) && decide (hr T len (np T len (ps T len (q + 1) 0)) = 44))) && (decide (nd T len (ps T len (q + 1) (0 + 1)) ≠ 0) && (decide (0 ≤ nv T len (ps T len (q + 1) 1) ∧ nv T len (ps T len (q + 1) 1) ≤ 5) && decide (hr T len (np T len (ps T len (q + 1) (0 + 1))) = 59))))) (P := (∀ i, i < 2 → sy T len (q + 1) 2 i) ∧ C < 4 ∧ nv T len (ps T len (q + 1) 0) ≤ 99 ∧ nv T len (ps T len (q + 1) 1) ≤ 5) (by
    simp only [Bool.and_eq_true, decide_eq_true_eq]
    constructor
    · rintro ⟨⟨z0, z1, z2, z3⟩, z4, z5, z6⟩
      refine ⟨fun i hi => ?_, z0, z2.2, z5.2⟩
      rcases (show i = 0 ∨ i = 1 by omega) with z | z
      · rw [z]; exact ⟨z1, z3⟩
      · rw [z]; exact ⟨z4, z6⟩
    · rintro ⟨z0, z1, z2, z3⟩
      exact ⟨⟨z1, (z0 0 (by omega)).1, ⟨by omega, z2⟩, (z0 0 (by omega)).2⟩, (z0 1 (by omega)).1, ⟨by omega, z3⟩, (z0 1 (by omega)).2⟩)
  rw [← b3] at flag
  have tell : ∀ w7 : Mm, (∀ i, i < 2 → w7 2 i = nI (nv T len (ps T len (q + 1) i))) → fX5_tell w7 (nI (T q)) = bd2 (fX6_addCurrent_s w7 (nI (nv T len (ps T len (q + 1) 0))) (nI (nv T len (ps T len (q + 1) 1)))) fun v26 w27 => bd1 (gb v26) fun _ => some (v26, w27) := by
    intro w7 u1
    unfold fX5_tell
    rw [hT, if_neg (by decide), if_neg (by decide), if_pos (by decide), rd0 (by omega) (by omega), rd1 (by omega) (by omega), u1 0 (by omega), u1 1 (by omega)]
    rfl
  have add : ∀ w7 : Mm, w7 3 = w 3 → fX6_addCurrent_s w7 (nI (nv T len (ps T len (q + 1) 0))) (nI (nv T len (ps T len (q + 1) 1))) = if C < 4 ∧ nv T len (ps T len (q + 1) 0) ≤ 99 ∧ nv T len (ps T len (q + 1) 1) ≤ 5 then some (1, st (st (st w7 13 C (nI (nv T len (ps T len (q + 1) 0)))) 14 C (nI (nv T len (ps T len (q + 1) 1)))) 3 14 (nI (C + 1))) else some (0, w7) := by
    intro w7 h7
    unfold fX6_addCurrent_s
    rw [h7, C2, nI_lit 4, ifle (by omega) (by omega)]
    by_cases c : C < 4
    · rw [if_neg (by omega), show fX8_within (nI (nv T len (ps T len (q + 1) 0))) 0 99 = _ from within_in (a := nv T len (ps T len (q + 1) 0)) (b := 0) (c := 99) (by omega) (by omega) (by omega), show fX8_within (nI (nv T len (ps T len (q + 1) 1))) 0 5 = _ from within_in (a := nv T len (ps T len (q + 1) 1)) (b := 0) (c := 5) (by omega) (by omega) (by omega)]
      simp only [bd1s]
      by_cases d : 0 ≤ nv T len (ps T len (q + 1) 0) ∧ nv T len (ps T len (q + 1) 0) ≤ 99
      · rw [decide_eq_true d, bI_t, if_neg (show ¬ (1 : Int32) = 0 by decide)]
        by_cases f : 0 ≤ nv T len (ps T len (q + 1) 1) ∧ nv T len (ps T len (q + 1) 1) ≤ 5
        · rw [decide_eq_true f, bI_t, if_neg (show ¬ (1 : Int32) = 0 by decide), if_pos ⟨c, d.2, f.2⟩]
          have k1 : st w7 13 C (nI (nv T len (ps T len (q + 1) 0))) 3 14 = nI C := by rw [st_a (by omega), h7]; exact C2
          have k2 : st (st w7 13 C (nI (nv T len (ps T len (q + 1) 0)))) 14 C (nI (nv T len (ps T len (q + 1) 1))) 3 14 = nI C := by rw [st_a (by omega)]; exact k1
          refine bdE (wrN c (by omega)) ?_
          rw [k1]
          refine bdE (wrN c (by omega)) ?_
          rw [k2, nI_1]
          exact bdE pts rfl
        · rw [decide_eq_false f, bI_f, if_pos (show (0 : Int32) = 0 from rfl), if_neg (fun z => f ⟨by omega, z.2.2⟩)]
      · rw [decide_eq_false d, bI_f, if_pos (show (0 : Int32) = 0 from rfl), if_neg (fun z => d ⟨by omega, z.2.1⟩)]
    · rw [if_pos (by omega), if_neg (fun z => c z.1)]
  refine itm_fin hx hq (m := 2) (by omega) (by omega) (by rw [hT]; rfl) (C < 4 ∧ nv T len (ps T len (q + 1) 0) ≤ 99 ∧ nv T len (ps T len (q + 1) 1) ≤ 5) (fun z => ?_) (fun c d w7 r4 u1 => ?_) (fun d w7 r4 u1 => ?_)
  · rcases flag with f | f
    · exact absurd f.2 z
    · exact ⟨τ2, by rw [rdE, if_pos f.1], lo2, f.1⟩
  · rcases flag with f | f
    · have f1 := f.1
      refine ⟨st (st (st τ2 9 (4 + C) (nI (nv T len (ps T len (q + 1) 0)))) 10 (4 + C) (nI (nv T len (ps T len (q + 1) 1)))) 8 1 (nI (C + 1)), st (st (st w7 13 C (nI (nv T len (ps T len (q + 1) 0)))) 14 C (nI (nv T len (ps T len (q + 1) 1)))) 3 14 (nI (C + 1)), N, ?_, ?_, by rw [st_a (by omega), st_a (by omega), st_a (by omega)]; exact f1, by rw [st_a (by omega), st_a (by omega), st_a (by omega)]; exact b2, ?_, fun a z => by rw [st_a (by omega), st_a (by omega), st_a (by omega)], ?_⟩
      · have g8 : τ2 8 1 = nI C := by rw [b4 8 (by omega)]; exact C3
        rw [rdE, if_neg (by rw [f1]; decide)]
        refine bdE (rd1 (by omega) (by omega)) ?_
        rw [g8, nI_lit 4, nI_add]
        refine bdE (wrN (by omega) (by omega)) (bdE (rd1 (by omega) (by omega)) ?_)
        rw [st_a (by omega), g8, nI_add]
        refine bdE (wrN (by omega) (by omega)) (bdE (rd1 (by omega) (by omega)) ?_)
        rw [st_a (by omega), st_a (by omega), g8, nI_1]
        exact bdE (wr1 (by omega) (by omega)) rfl
      · refine lo2.tr ⟨⟨by rw [st_a (by omega), st_a (by omega), st_a (by omega)], by rw [st_a (by omega), st_a (by omega), st_a (by omega)], by rw [st_ki (by omega), st_a (by omega), st_a (by omega)], by rw [st_a (by omega), st_a (by omega), st_a (by omega)]⟩, fun a z j hj => by rw [st_a (by omega), st_a (by omega), st_a (by omega)], fun j _ => ⟨by rw [st_a (by omega), st_a (by omega), st_ki (by omega)], by rw [st_a (by omega), st_ki (by omega), st_a (by omega)]⟩, fun j _ => by rw [st_a (by omega), st_a (by omega), st_a (by omega)], by rw [st_a (by omega), st_a (by omega), st_a (by omega)], fun a z => by rw [st_a (by omega), st_a (by omega), st_a (by omega)], fun j z1 z2 => by rw [st_a (by omega), st_a (by omega), st_a (by omega)]⟩
      · rw [tell w7 u1, add w7 (r4 3 (by omega) (by omega)), if_pos d]
        rfl
      · have hw : ∀ a, 4 ≤ a → a ≠ 13 → a ≠ 14 → st (st (st w7 13 C (nI (nv T len (ps T len (q + 1) 0)))) 14 C (nI (nv T len (ps T len (q + 1) 1)))) 3 14 (nI (C + 1)) a = w a := fun a z1 z2 z3 => by rw [st_a (by omega), st_a z3, st_a z2, r4 a (by omega) (by omega)]
        have hw3 : ∀ j, j ≠ 14 → st (st (st w7 13 C (nI (nv T len (ps T len (q + 1) 0)))) 14 C (nI (nv T len (ps T len (q + 1) 1)))) 3 14 (nI (C + 1)) 3 j = w 3 j := fun j z => by rw [st_ki z, st_a (by omega), st_a (by omega), r4 3 (by omega) (by omega)]
        have ht : ∀ a, a ≠ 0 → a ≠ 8 → a ≠ 9 → a ≠ 10 → st (st (st τ2 9 (4 + C) (nI (nv T len (ps T len (q + 1) 0)))) 10 (4 + C) (nI (nv T len (ps T len (q + 1) 1)))) 8 1 (nI (C + 1)) a = τ a := fun a z1 z2 z3 z4 => by rw [st_a z2, st_a z4, st_a z3, b4 a z1]
        refine ⟨⟨s1, by rw [hw3 12 (by omega)]; exact s2, by rw [ht 2 (by omega) (by omega) (by omega) (by omega)]; exact s3⟩, by rw [hw3 13 (by omega), ht 7 (by omega) (by omega) (by omega) (by omega)]; exact sW, sB.kept (fun a z1 z2 => hw a z1 (by omega) (by omega)) (fun a z => ht a (by omega) (by omega) (by omega) (by omega)), ⟨C + 1, by omega, st_kj, st_kj, fun k hk => ?_⟩, sR.kept (hw3 15 (by omega)) (hw3 17 (by omega)) (hw 9 (by omega) (by omega) (by omega)) (ht 12 (by omega) (by omega) (by omega) (by omega)) (ht 13 (by omega) (by omega) (by omega) (by omega)), sV.kept (hw3 16 (by omega)) (hw 10 (by omega) (by omega) (by omega)) (ht 14 (by omega) (by omega) (by omega) (by omega)) (ht 15 (by omega) (by omega) (by omega) (by omega))⟩
        rw [st_a (k := 3) (a := 13) (by omega), st_a (k := 14) (a := 13) (by omega), st_a (k := 3) (a := 14) (by omega), st_a (k := 8) (a := 9) (by omega), st_a (k := 10) (a := 9) (by omega), st_a (k := 8) (a := 10) (by omega)]
        by_cases y : k = C
        · subst y
          rw [st_kj, st_kj, st_kj, st_kj]
          exact ⟨_, _, d.2.1, d.2.2, rfl, rfl, rfl, rfl⟩
        · rw [st_ki y, st_ki y, st_ki (by omega), st_ki (by omega), st_a (k := 13) (a := 14) (by omega), st_a (k := 9) (a := 10) (by omega), r4 13 (by omega) (by omega), r4 14 (by omega) (by omega), b4 9 (by omega), b4 10 (by omega)]
          exact C4 k (by omega)
    · exact absurd ⟨c, d⟩ f.2
  · rw [tell w7 u1, add w7 (r4 3 (by omega) (by omega)), if_neg d]
    rfl
end JB
