/-! looks at the crossing as it is -/
theorem cpy8 {w : Mm} {a b : Nat} : cy w a 8 0 b 8 0 8 = some (cp w a b 0 0 8) := by
  unfold cy
  rw [if_pos (by decide)]
  rfl
theorem cp_in {w : Mm} {a b i : Nat} (hi : i < 8) : cp w a b 0 0 8 b i = w a i := by
  unfold cp
  rw [if_pos rfl, pk_cpy_in (by omega) (by omega)]
  simp
theorem cp_a {w : Mm} {a b c s d n : Nat} (h : c ≠ b) : cp w a b s d n c = w c := by
  unfold cp
  rw [if_neg h]
theorem in_eq (x y z : Int32) : fX9_in x y z = fX8_within x y z := rfl
theorem in_any (x : Int32) {a b : Nat} (ha : a < 2 ^ 31) (hb : b < 2 ^ 31) : (∃ j, a ≤ j ∧ j ≤ b ∧ x = nI j ∧ fX8_within x (nI a) (nI b) = some 1) ∨ fX8_within x (nI a) (nI b) = some 0 := by
  by_cases c : x < 0
  · right
    unfold fX8_within
    rw [if_pos (by
      have := nI_pos' ha
      rw [i_lt] at *
      rw [i_le] at this
      omega)]
  · obtain ⟨j, j1, j2⟩ := nI_of c
    subst j2
    rw [within_in j1 ha hb]
    by_cases q : a ≤ j ∧ j ≤ b
    · left
      exact ⟨j, q.1, q.2, rfl, by rw [decide_eq_true q]; rfl⟩
    · right
      rw [decide_eq_false q]
      rfl
section LK
variable {w τ g : Mm} {n wd : Nat}
theorem beast_any (h : Core w τ n g wd) (x : Int32) : (∃ j, j < n ∧ x = nI j ∧ fX6_has_l w x = some 1 ∧ fX9_isBeast τ x = some 1) ∨ (fX6_has_l w x = some 0 ∧ fX9_isBeast τ x = some 0) := by
  obtain ⟨⟨h1, h2, -⟩, -, hx, -, hm, -⟩ := h
  have e : fX9_isBeast τ x = bd1 (fX8_within x (nI 0) (nI (n - 1))) fun v2 => bd1 (gb v2) fun _ => some v2 := by
    unfold fX9_isBeast
    rw [rd0 (by omega) (by omega), hm.1]
    simp only [bd1s]
    rw [in_eq, show nI n - 1 = nI (n - 1) by rw [show n = (n - 1) + 1 by omega, nI_pred]; rfl]
    rfl
  rw [e]
  by_cases c : x < 0
  · right
    constructor
    · unfold fX6_has_l
      rw [if_pos c]
    · unfold fX8_within
      rw [if_pos (by rw [← nI_lit0]; exact c)]
      rfl
  · obtain ⟨j, j1, j2⟩ := nI_of c
    subst j2
    rw [has_in hx.1 h2 j1, within_in j1 (by omega) (by omega)]
    by_cases q : j < n
    · left
      refine ⟨j, q, rfl, by rw [decide_eq_true q]; rfl, ?_⟩
      rw [decide_eq_true (show 0 ≤ j ∧ j ≤ n - 1 by omega)]
      rfl
    · right
      refine ⟨by rw [decide_eq_false q]; rfl, ?_⟩
      rw [decide_eq_false (show ¬ (0 ≤ j ∧ j ≤ n - 1) by omega)]
      rfl
theorem prep_spec (h : Core w τ n g wd) : ∃ w1, fX4_prepare w = some w1 ∧ AX w1 n g ∧ w1 30 9 = 0 ∧ w1 30 8 = nI wd ∧ ∀ a, a ≠ 30 → a ≠ 31 → a ≠ 32 → w1 a = w a := by
  obtain ⟨⟨h1, h2, -⟩, -, hx, hb, -⟩ := h
  unfold fX4_prepare
  simp only [pts, bd1s, cpy8]
  generalize hw : cp (cp (st (st (st (st w 30 6 17) 30 7 29) 30 8 (st (st w 30 6 17) 30 7 29 17 13)) 30 9 0) 21 31 0 0 8) 22 32 0 0 8 = w1
  have f : ∀ a, a ≠ 30 → a ≠ 31 → a ≠ 32 → w1 a = w a := fun a q1 q2 q3 => by rw [← hw, cp_a q3, cp_a q2, st_a q1, st_a q1, st_a q1, st_a q1]
  have e30 : ∀ j, w1 30 j = st (st (st (st w 30 6 17) 30 7 29) 30 8 (w 17 13)) 30 9 0 30 j := fun j => by rw [← hw, cp_a (by omega), cp_a (by omega), st_a (a := 17) (by omega), st_a (a := 17) (by omega)]
  have e6 : w1 30 6 = 17 := by rw [e30, st_ki (by omega), st_ki (by omega), st_ki (by omega), st_kj]
  have e7 : w1 30 7 = 29 := by rw [e30, st_ki (by omega), st_ki (by omega), st_kj]
  have e31 : ∀ i, i < 8 → w1 31 i = w 21 i := fun i hi => by rw [← hw, cp_a (by omega), cp_in hi, st_a (by omega), st_a (by omega), st_a (by omega), st_a (by omega)]
  have e32 : ∀ i, i < 8 → w1 32 i = w 22 i := fun i hi => by rw [← hw, cp_in hi, cp_a (by omega), st_a (by omega), st_a (by omega), st_a (by omega), st_a (by omega)]
  refine ⟨w1, rfl, ⟨by rw [f 17 (by omega) (by omega) (by omega)]; exact hx.1, h2, by rw [e6]; decide, by rw [e7]; left; decide, fun m a c => ?_, fun i hi => ?_⟩, by rw [e30, st_kj], by rw [e30, st_ki (by omega), st_kj]; exact hb.2.2.1, f⟩
  · rw [e7, show (29 : Int32).toNatClampNeg = 29 by decide, f 29 (by omega) (by omega) (by omega)]
    exact hb.2.1 m a c
  · rw [f 18 (by omega) (by omega) (by omega), f 19 (by omega) (by omega) (by omega), f 20 (by omega) (by omega) (by omega), f 23 (by omega) (by omega) (by omega), f 24 (by omega) (by omega) (by omega), e31 i (by omega), e32 i (by omega), (hb.1 i hi).1, (hb.1 i hi).2]
    obtain ⟨q0, q1, q2, q5, q6⟩ := hx.2 i hi
    exact ⟨q0, q1, q2, rfl, rfl, q5, q6⟩
theorem lookX_of {w w' : Mm} (f : ∀ a, a ≠ 30 → a ≠ 31 → a ≠ 32 → a ≠ 33 → a ≠ 34 → a ≠ 35 → a ≠ 36 → a ≠ 48 → a ≠ 49 → a ≠ 51 → w' a = w a) : lookX w w' := ⟨fun a q => f a (by omega) (by omega) (by omega) (by omega) (by omega) (by omega) (by omega) (by omega) (by omega) (by omega), fun a q r => f a (by omega) (by omega) (by omega) (by omega) (by omega) (by omega) (by omega) (by omega) (by omega) (by omega)⟩
theorem AM_of {τ : Mm} {b : Nat} (hs : SM τ g n) (hn : n ≤ 8) (hb : b ≤ 176) (h : ∀ i, i < n → τ 18 (b + i) = g 3 i ∧ τ 18 (b + 8 + i) = g 4 i) (ht : ∀ m, 1 ≤ m → m ≤ 200 → fX9_takesIn τ (nI m) = some (g 7 m)) : AM τ b n g := by
  obtain ⟨h1, h4, h5, h6, h7⟩ := hs
  exact ⟨h1, hn, hb, fun i hi => ⟨(h4 i hi).1, (h4 i hi).2.1, (h4 i hi).2.2, (h i hi).1, (h i hi).2⟩, h5, h6, ht, h7⟩
/-- plain(): the width, no flood, the river's own current -/
theorem plain_spec (hs : SM τ g n) (hn : n ≤ 8) (h7 : τ 7 0 = nI wd) {b : Nat} (hb : b ≤ 176) (hnow : ∀ i, i < n → τ 18 (b + i) = g 3 i ∧ τ 18 (b + 8 + i) = g 4 i) (hc : ∀ m, 1 ≤ m → m ≤ 200 → fX9_currentIn τ (nI m) = some (g 7 m)) : ∃ τ1, fX9_plain τ = some τ1 ∧ AM τ1 b n g ∧ τ1 0 23 = nI wd ∧ τ1 0 24 = 0 ∧ τ1 0 25 = -1 ∧ (∀ a, a ≠ 0 → τ1 a = τ a) ∧ ∀ j, j ≠ 23 → j ≠ 24 → j ≠ 25 → τ1 0 j = τ 0 j := by
  unfold fX9_plain
  rw [rd0 (by omega) (by omega), h7]
  simp only [bd1s, pts]
  generalize hτ : st (st (st τ 0 23 (nI wd)) 0 24 0) 0 25 (-1) = τ1
  have f : ∀ a, a ≠ 0 → τ1 a = τ a := fun a q => by rw [← hτ, st_a q, st_a q, st_a q]
  have e25 : τ1 0 25 = -1 := by rw [← hτ, st_kj]
  refine ⟨τ1, rfl, AM_of (hs.kept (fun a q _ => f a (by omega))) hn hb (fun i hi => by rw [f 18 (by omega)]; exact hnow i hi) (fun m a c => ?_), by rw [← hτ, st_ki (by omega), st_ki (by omega), st_kj], by rw [← hτ, st_ki (by omega), st_kj], e25, f, fun j q1 q2 q3 => by rw [← hτ, st_ki q3, st_ki q2, st_ki q1]⟩
  unfold fX9_takesIn
  rw [e25, if_neg (by decide), currentIn_c (f 8 (by omega)) (f 9 (by omega)) (f 10 (by omega)), hc m a c]
  rfl
theorem lookM_of {τ τ' : Mm} (f : ∀ a, a ≠ 0 → a ≠ 18 → a ≠ 19 → a ≠ 20 → a ≠ 21 → a ≠ 22 → a ≠ 23 → τ' a = τ a) (f18 : ∀ j, j < 176 → τ' 18 j = τ 18 j) (f0 : ∀ j, j ≠ 23 → j ≠ 24 → j ≠ 25 → τ' 0 j = τ 0 j) : lookM τ τ' := ⟨fun a q r => f a (by omega) (by omega) (by omega) (by omega) (by omega) (by omega) (by omega), f18, f 24 (by omega) (by omega) (by omega) (by omega) (by omega) (by omega) (by omega), f 25 (by omega) (by omega) (by omega) (by omega) (by omega) (by omega) (by omega), f0 1 (by omega) (by omega) (by omega), f0 21 (by omega) (by omega) (by omega), f0 22 (by omega) (by omega) (by omega), f0 33 (by omega) (by omega) (by omega)⟩
theorem race_spec (h : Core w τ n g wd) : ∃ w2, fX8_raceAsItIs w = some w2 ∧ (∀ i, i < n → w2 33 i = L2 (la g n 0 (nI wd) i)) ∧ (∀ i, i < n → w2 34 i = nI (rk g n (la g n 0 (nI wd)) i + 1)) ∧ (∀ i, i < n → w2 35 (rk g n (la g n 0 (nI wd)) i) = nI i) ∧ AX w2 n g ∧ w2 30 8 = nI wd ∧ w2 30 9 = 0 ∧ lookX w w2 := by
  obtain ⟨w1, a1, a2, a3, a4, a5⟩ := prep_spec h
  obtain ⟨⟨h1, h2, h3, h4⟩, ⟨v1, v2, v3⟩, -, hb, -⟩ := h
  obtain ⟨w2, b1, b2, b3, b4, b5, b6⟩ := run_spec (fd := 0) (wd := nI wd) a2 (Vg_of v1 v2) (Rd_of v2) v3 (nI_lt (a := 0) (by omega) (by omega)) a3 a4
  refine ⟨w2, ?_, b2, b3, b4, a2.kept (b6 6 (by omega)) (b6 7 (by omega)) (fun a _ _ q1 q2 q3 q4 => b5 a q1 q2 q3 q4), by rw [b6 8 (by omega)]; exact a4, by rw [b6 9 (by omega)]; exact a3, lookX_of (fun a q1 q2 q3 q4 q5 q6 _ _ _ _ => by rw [b5 a q1 q4 q5 q6, a5 a q1 q2 q3])⟩
  unfold fX8_raceAsItIs
  rw [gqs hb.2.2.2.1, a1]
  simp only [bd1s]
  rw [b1]
  rfl
theorem now_spec (h : Core w τ n g wd) : ∃ τ2, fX9_crossNow τ = some τ2 ∧ (∀ i, i < n → τ2 20 i = la g n 0 (nI wd) i) ∧ AM τ2 0 n g ∧ lookM τ τ2 := by
  obtain ⟨⟨h1, h2, h3, h4⟩, ⟨v1, v2, v3⟩, -, -, hs, hb⟩ := h
  obtain ⟨τ1, a1, a2, a3, a4, a5, a6, a7⟩ := plain_spec (b := 0) hs h2 hb.2.2 (by omega) (fun i hi => by rw [Nat.zero_add]; exact hb.1 i hi) hb.2.1
  obtain ⟨τ2, b1, b2, b3⟩ := cross_spec (M := 200) a2 (Rd_of v2) (by omega) a3 a4
  refine ⟨τ2, ?_, fun i hi => (b2 i hi).2, a2.kept (by rw [b3 0 (by omega) (by omega)]) (fun a _ q => b3 a (by omega) (by omega)), lookM_of (fun a q1 q2 q3 q4 _ _ _ => by rw [b3 a q3 q4, a6 a q1]) (fun j _ => by rw [b3 18 (by omega) (by omega), a6 18 (by omega)]) (fun j q1 q2 q3 => by rw [b3 0 (by omega) (by omega)]; exact a7 j q1 q2 q3)⟩
  unfold fX9_crossNow
  rw [a1]
  simp only [bd1s]
  rw [show fX9_cross τ1 0 200 = some τ2 from b1]
  rfl
end LK
/-- a call that both answer alike, and that leaves the two together -/
def Both (a b : Option (Int32 × Mm)) : Prop := ∃ (r : Int32) (w' τ' : Mm), a = some (r, w') ∧ b = some (r, τ') ∧ Rel w' τ'
theorem Both.mk {a b : Option (Int32 × Mm)} {w τ w' τ' : Mm} {r : Int32} (h : Rel w τ) (ha : a = some (r, w')) (hb : b = some (r, τ')) (hx : lookX w w') (hm : lookM τ τ') : Both a b := ⟨r, w', τ', ha, hb, h.look hx hm⟩
theorem op_where {w τ : Mm} (h : Rel w τ) (x1 x2 : Int32) : Both (fX8_where w x1 x2) (fX9_where τ x1 x2) := by
  obtain ⟨n, g, wd, hc, -⟩ := id h
  unfold fX8_where fX9_where
  rw [gqs hc.2.2.2.1.2.2.2.1]
  simp only [bd1s]
  rcases beast_any hc x1 with ⟨i, i1, rfl, i3, i4⟩ | ⟨i3, i4⟩
  · rw [i3, i4]
    simp only [bd1s]
    rw [if_neg (by decide), if_neg (by decide), in_eq]
    rcases in_any x2 (a := 0) (b := 200) (by omega) (by omega) with ⟨m, m1, m2, rfl, m4⟩ | m4
    · rw [show fX8_within (nI m) 0 200 = some 1 from m4]
      simp only [bd1s]
      rw [if_neg (by decide), if_neg (by decide)]
      obtain ⟨w1, a1, a2, a3, a4, a5⟩ := prep_spec hc
      obtain ⟨⟨h1, h2, h3, h4⟩, ⟨v1, v2, v3⟩, -, hb, hs, hbm⟩ := hc
      obtain ⟨w2, b1, b2, b3, b4, b5, b6, b7⟩ := mount_spec a2 (Rd_of v2) i1
      have hmv := mv_lt (Rd_of v2) i1 (by omega)
      obtain ⟨w3, c1, c2, c3, c4⟩ := move_spec (fd := 0) (wd := nI wd) (a2.kept (w' := w2) (b7 6 (by omega)) (b7 7 (by omega)) (fun a _ _ q _ _ _ => b6 a q)) (Vg_of v1 v2) (nI_lt (a := 0) (by omega) (by omega)) hmv.1 b2 b3 b4 b5 (by rw [b7 9 (by omega)]; exact a3) (by rw [b7 8 (by omega)]; exact a4) m2
      have fx : ∀ a, a ≠ 30 → a ≠ 31 → a ≠ 32 → w3 a = w a := fun a q1 q2 q3 => by rw [c3 a q1, b6 a q1, a5 a q1 q2 q3]
      rw [a1]
      simp only [bd1s]
      rw [b1]
      simp only [bd1s]
      rw [c1]
      simp only [bd2s]
      rw [gqs (x := w3 16 3) (by rw [fx 16 (by omega) (by omega) (by omega)]; exact hb.2.2.2.1)]
      simp only [bd1s]
      rw [c2, fx 17 (by omega) (by omega) (by omega), hb.2.2.1]
      obtain ⟨τ1, d1, d2, d3, d4, d5, d6, d7⟩ := plain_spec (b := 0) hs h2 hbm.2.2 (by omega) (fun i hi => by rw [Nat.zero_add]; exact hbm.1 i hi) hbm.2.1
      obtain ⟨τ2, e1, e2, e3⟩ := cross_spec (M := m) d2 (Rd_of v2) m2 d3 d4
      rw [d1]
      simp only [bd1s]
      rw [show fX9_cross τ1 0 (nI m) = some τ2 from e1]
      simp only [bd1s]
      rw [rdN (k := 19) (j := i) (by omega) (by omega), (e2 i i1).1, rd0 (by omega) (by omega), e3 7 (by omega) (by omega), d6 7 (by omega), hbm.2.2]
      simp only [bd1s]
      refine Both.mk (r := if nI wd < (fl g n 0 (nI wd) (mv g i) m).1 then nI wd else (fl g n 0 (nI wd) (mv g i) m).1) (w' := w3) (τ' := τ2) h rfl ?_ (lookX_of (fun a q1 q2 q3 _ _ _ _ _ _ _ => fx a q1 q2 q3)) (lookM_of (fun a q1 q2 q3 q4 _ _ _ => by rw [e3 a q3 q4, d6 a q1]) (fun j _ => by rw [e3 18 (by omega) (by omega), d6 18 (by omega)]) (fun j q1 q2 q3 => by rw [e3 0 (by omega) (by omega)]; exact d7 j q1 q2 q3))
      by_cases q : (fl g n 0 (nI wd) (mv g i) m).1 ≤ nI wd
      · rw [if_pos q, if_neg (by rw [i_lt]; rw [i_le] at q; omega)]
      · rw [if_neg q, if_pos (by rw [i_lt]; rw [i_le] at q; omega)]
    · rw [show fX8_within x2 0 200 = some 0 from m4]
      simp only [bd1s]
      rw [if_pos trivial, if_pos trivial]
      exact Both.mk h rfl rfl lookX.rf lookM.rf
  · rw [i3, i4]
    simp only [bd1s]
    rw [if_pos trivial, if_pos trivial]
    exact Both.mk h rfl rfl lookX.rf lookM.rf
