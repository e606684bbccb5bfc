section RO
variable {T : Nat → Nat} {len : Nat} {w τ : Mm}
def hr (T : Nat → Nat) (len p : Nat) : Int32 := if len ≤ p then -1 else nI (T p)
theorem here_spec (h : Tm0 τ T len) {p : Nat} (hp : p ≤ 1000) (e : τ 0 18 = nI p) : fX9_here τ = some (hr T len p) := by
  obtain ⟨h1, h2, h3⟩ := h
  unfold fX9_here hr
  rw [h2, e, ifle (by omega) (by omega)]
  by_cases c : len ≤ p
  · rw [if_pos c, if_pos c]
  · rw [if_neg c, if_neg c, rdN (k := 1) (j := p) (by omega) (by omega), (h3 p (by omega)).2.2]
    rfl
theorem Tm0.kept {τ' : Mm} (h : Tm0 τ T len) (h1 : τ' 0 1 = τ 0 1) (h2 : τ' 1 = τ 1) : Tm0 τ' T len := by
  unfold Tm0
  rw [h1, h2]
  exact h
theorem Tx0.kept {w' : Mm} (h : Tx0 w T len) (h2 : w' 0 = w 0) : Tx0 w' T len := by
  unfold Tx0
  rw [h2]
  exact h
theorem mnum_loop (h : Tm0 τ T len) : ∀ (f fu a d p : Nat), f < fu → d + f = 2 → a < 10 ^ d → p + f ≤ 1000 → LX9_number_6 fu (nI a) (nI d) (st τ 0 18 (nI p)) = some (st τ 0 18 (nI (rn T len f a d p).2.2), nI (rn T len f a d p).1, nI (rn T len f a d p).2.1) := by
  intro f
  induction f with
  | zero =>
    intro fu a d p hf hd ha hp
    obtain ⟨fu, rfl⟩ : ∃ f, fu = f + 1 := ⟨fu - 1, by omega⟩
    rw [LX9_number_6, nI_lit 2, ifle (by omega) (by omega), if_pos (by omega)]
    rfl
  | succ f ih =>
    intro fu a d p hf hd ha hp
    obtain ⟨fu, rfl⟩ : ∃ f, fu = f + 1 := ⟨fu - 1, by omega⟩
    have hl := h.1
    rw [LX9_number_6, nI_lit 2, ifle (by omega) (by omega), if_neg (by omega), here_spec (h.kept (st_ki (by omega)) (st_a (by omega))) (by omega) st_kj, rn]
    simp only [bd1s]
    rw [in_eq]
    unfold hr
    by_cases c : len ≤ p
    · rw [if_pos c, show fX8_within (-1) 48 57 = some 0 by decide, if_neg (by omega)]
      simp only [bd1s]
      rw [if_pos trivial]
    · obtain ⟨t1, t2, t3⟩ := h.2.2 p (by omega)
      rw [if_neg c, show fX8_within (nI (T p)) 48 57 = _ from within_in (a := T p) (b := 48) (c := 57) (by omega) (by omega) (by omega)]
      simp only [bd1s]
      by_cases e : 48 ≤ T p ∧ T p ≤ 57
      · rw [decide_eq_true e, bI_t, if_neg (show ¬ (1 : Int32) = 0 by decide), if_pos ⟨by omega, e⟩, pts, st_st, st_kj, nI_1, nI_1, nI_lit 10, pk_mul, nI_add, nI_lit 48, pk_sub (by omega)]
        simp only [bd1s]
        exact ih fu _ (d + 1) (p + 1) (by omega) (by omega) (by rw [Nat.pow_succ]; omega) (by omega)
      · rw [decide_eq_false e, bI_f, if_pos (show (0 : Int32) = 0 from rfl), if_neg (fun z => e z.2)]
theorem mnum_spec (h : Tm0 τ T len) {p : Nat} (hp : p ≤ 900) (e : τ 0 18 = nI p) {lo hi sep : Int32} {b : Bool} (hb : fX8_within (nI (nv T len p)) lo hi = some (bI b)) : ∃ τ', fX9_number τ lo hi sep = some (nI (nv T len p), τ') ∧ τ' 0 18 = nI (np T len p + 1) ∧ τ' 0 19 = bI (decide (τ 0 19 ≠ 0) && (decide (nd T len p ≠ 0) && (b && decide (hr T len (np T len p) = sep)))) ∧ (∀ a, a ≠ 0 → τ' a = τ a) ∧ ∀ j, j ≠ 18 → j ≠ 19 → τ' 0 j = τ 0 j := by
  obtain ⟨b1, b2, b3, b4⟩ := n_bd T len p
  have l := mnum_loop h 2 1000 0 0 p (by omega) (by omega) (by decide) (by omega)
  rw [st_id e] at l
  have hh := here_spec (τ := st τ 0 18 (nI (np T len p))) (p := np T len p) (h.kept (st_ki (by omega)) (st_a (by omega))) (by omega) st_kj
  have cond : (if (st τ 0 18 (nI (np T len p))) 0 19 = 0 then some (0 : Int32) else if nI (nd T len p) ≤ 0 then some 0 else bd1 (fX9_in (nI (nv T len p)) lo hi) fun v14 => if v14 = 0 then some 0 else bd1 (fX9_here (st τ 0 18 (nI (np T len p)))) fun v15 => if v15 = sep then some 1 else some 0) = some (bI (decide (τ 0 19 ≠ 0) && (decide (nd T len p ≠ 0) && (b && decide (hr T len (np T len p) = sep))))) := by
    rw [st_ki (by omega), in_eq, hb, hh, nI_lit0, ifle (by omega) (by omega)]
    simp only [bd1s]
    by_cases c1 : τ 0 19 = nI 0
    · rw [if_pos c1, decide_eq_false (fun z => z c1)]
      rfl
    · rw [if_neg c1, decide_eq_true (show τ 0 19 ≠ nI 0 from c1)]
      by_cases c2 : nd T len p = 0
      · rw [if_pos (by omega), decide_eq_false (fun z => z c2)]
        rfl
      · rw [if_neg (by omega), decide_eq_true (show nd T len p ≠ 0 from c2)]
        cases b
        · rw [bI_f, if_pos (show (0 : Int32) = nI 0 from rfl)]
          rfl
        · rw [bI_t, if_neg (show ¬ (1 : Int32) = nI 0 by decide)]
          by_cases c3 : hr T len (np T len p) = sep
          · rw [if_pos c3, decide_eq_true c3]
            rfl
          · rw [if_neg c3, decide_eq_false c3]
            rfl
  refine ⟨st (st (st τ 0 18 (nI (np T len p))) 0 19 (bI (decide (τ 0 19 ≠ 0) && (decide (nd T len p ≠ 0) && (b && decide (hr T len (np T len p) = sep)))))) 0 18 (nI (np T len p + 1)), ?_, st_kj, by rw [st_ki (by omega), st_kj], fun a q => by rw [st_a q, st_a q, st_a q], fun j q1 q2 => by rw [st_ki q1, st_ki q2, st_ki q1]⟩
  unfold fX9_number
  refine bdE3 l (bdE cond (bdE (gbs (by
    generalize (decide (τ 0 19 ≠ 0) && (decide (nd T len p ≠ 0) && (b && decide (hr T len (np T len p) = sep)))) = z
    cases z
    · exact Or.inl rfl
    · exact Or.inr rfl)) (bdE pts (bdE pts ?_))))
  rw [st_ki (k := 0) (j := 19) (i := 18) (by omega)]
  rw [show (rn T len 2 0 0 p).2.2 = np T len p from rfl, st_kj, nI_1]
  rfl
theorem xnum_spec (h : Tx0 w T len) {p j : Nat} (hp : p ≤ 900) (hj : j < 4) (e : w 1 1 = nI p) : fX5_readNumber 200 w (nI len) (nI j) = some (bI (decide (nd T len p ≠ 0)), st (st w 1 1 (nI (np T len p))) 2 j (nI (nv T len p))) := by
  obtain ⟨b1, b2, b3, b4⟩ := n_bd T len p
  have l := xnum_loop h 2 1000 0 0 p (by omega) (by omega) (by decide) (by omega)
  rw [st_id e] at l
  unfold fX5_readNumber
  refine bdE3 l (bdE (wrN (by omega) (by omega)) ?_)
  rw [show (rn T len 2 0 0 p).2.1 = nd T len p from rfl, nI_lit0, ifle (by omega) (by omega)]
  by_cases c : nd T len p = 0
  · rw [if_pos (by omega), decide_eq_false (fun z => z c)]
    rfl
  · rw [if_neg (by omega), decide_eq_true c]
    rfl
/-- where the numbers of an item stand -/
def ps (T : Nat → Nat) (len s : Nat) : Nat → Nat
  | 0 => s
  | k + 1 => np T len (ps T len s k) + 1
theorem ps_bd (T : Nat → Nat) (len s : Nat) : ∀ k, s ≤ ps T len s k ∧ ps T len s k ≤ s + 3 * k
  | 0 => ⟨Nat.le_refl _, Nat.le_refl _⟩
  | k + 1 => by
    have := ps_bd T len s k
    have := n_bd T len (ps T len s k)
    rw [ps]
    omega
def sy (T : Nat → Nat) (len s m k : Nat) : Prop := nd T len (ps T len s k) ≠ 0 ∧ hr T len (np T len (ps T len s k)) = (if k + 1 = m then 59 else 44)
theorem xitem_loop {s m : Nat} (hs : s ≤ 300) (hm : m ≤ 4) : ∀ (fu k : Nat) (w : Mm), Tx0 w T len → k ≤ m → m - k < fu → w 1 1 = nI (ps T len s k) → (∀ i, i < k → w 2 i = nI (nv T len (ps T len s i))) → ∃ ok w', LX5_readItem_18 (nI len) 200 (nI m) fu (nI k) w = some (bI ok, w') ∧ (ok = true ↔ m ≠ 0 ∧ ∀ i, k ≤ i → i < m → sy T len s m i) ∧ (ok = true → (∀ i, i < m → w' 2 i = nI (nv T len (ps T len s i))) ∧ w' 1 1 = nI (ps T len s m)) ∧ ∀ a, a ≠ 1 → a ≠ 2 → w' a = w a := by
  intro fu
  induction fu with
  | zero => intro k w _ _ q; omega
  | succ fu ih =>
    intro k w h hk hf e hI
    have hl := h.1
    have pb := ps_bd T len s k
    rw [LX5_readItem_18, ifle (by omega) (by omega)]
    by_cases c : m ≤ k
    · have : k = m := by omega
      subst this
      rw [if_pos c, nI_lit0, ifle (by omega) (by omega)]
      by_cases d : k = 0
      · rw [if_pos (by omega)]
        exact ⟨false, w, rfl, ⟨fun q => (by cases q), fun q => absurd d q.1⟩, fun q => (by cases q), fun _ _ _ => rfl⟩
      · rw [if_neg (by omega)]
        exact ⟨true, w, rfl, ⟨fun _ => ⟨d, fun i a b => by omega⟩, fun _ => rfl⟩, fun _ => ⟨hI, e⟩, fun _ _ _ => rfl⟩
    · obtain ⟨b1, b2, b3, b4⟩ := n_bd T len (ps T len s k)
      rw [if_neg c, xnum_spec h (by omega) (by omega) e]
      simp only [bd2s]
      by_cases d : nd T len (ps T len s k) = 0
      · rw [decide_eq_false (fun z => z d), bI_f, if_pos (show (0 : Int32) = 0 from rfl)]
        exact ⟨false, _, rfl, ⟨fun q => (by cases q), fun q => absurd d (q.2 k (by omega) (by omega)).1⟩, fun q => (by cases q), fun a q1 q2 => by rw [st_a q2, st_a q1]⟩
      · rw [decide_eq_true (show nd T len (ps T len s k) ≠ 0 from d), bI_t, if_neg (show ¬ (1 : Int32) = 0 by decide)]
        have es : (if nI k = nI m - 1 then some (59 : Int32) else some 44) = some (if k + 1 = m then 59 else 44) := by
          rw [show nI m - 1 = nI (m - 1) from pk_sub (b := 1) (by omega), ifeq (by omega) (by omega)]
          by_cases z : k + 1 = m
          · rw [if_pos z, if_pos (by omega)]
          · rw [if_neg z, if_neg (by omega)]
        rw [es]
        simp only [bd1s]
        rw [st_a (k := 2) (a := 1) (by omega), st_kj, ifle (by omega) (by omega)]
        by_cases f : len ≤ np T len (ps T len s k)
        · rw [if_pos f]
          refine ⟨false, _, rfl, ⟨fun q => (by cases q), fun q => ?_⟩, fun q => (by cases q), fun a q1 q2 => by rw [st_a q2, st_a q1]⟩
          have := (q.2 k (by omega) (by omega)).2
          unfold hr at this
          rw [if_pos f] at this
          exfalso
          split at this <;> exact absurd this (by decide)
        · have eh : hr T len (np T len (ps T len s k)) = nI (T (np T len (ps T len s k))) := if_neg f
          rw [if_neg f, rdN (k := 0) (j := np T len (ps T len s k)) (by omega) (by omega), st_a (a := 0) (by omega), st_a (a := 0) (by omega), (h.2 _ (by omega)).2.2, ← eh]
          simp only [bd1s]
          by_cases g : hr T len (np T len (ps T len s k)) = (if k + 1 = m then 59 else 44)
          · rw [if_pos g, pts, nI_1, nI_1]
            simp only [bd1s]
            obtain ⟨ok, w', r1, r2, r3, r4⟩ := ih (k + 1) (st (st (st w 1 1 (nI (np T len (ps T len s k)))) 2 k (nI (nv T len (ps T len s k)))) 1 1 (nI (np T len (ps T len s k) + 1))) (h.kept (by rw [st_a (by omega), st_a (by omega), st_a (by omega)])) (by omega) (by omega) st_kj (fun i hi => by
              rw [st_a (by omega)]
              by_cases z : i = k
              · rw [z, st_kj]
              · rw [st_ki z, st_a (by omega)]
                exact hI i (by omega))
            refine ⟨ok, w', r1, r2.trans ⟨fun q => ⟨q.1, fun i a b => ?_⟩, fun q => ⟨q.1, fun i a b => q.2 i (by omega) b⟩⟩, r3, fun a q1 q2 => by rw [r4 a q1 q2, st_a q1, st_a q2, st_a q1]⟩
            by_cases z : i = k
            · rw [z]
              exact ⟨d, g⟩
            · exact q.2 i (by omega) b
          · rw [if_neg g]
            exact ⟨false, _, rfl, ⟨fun q => (by cases q), fun q => absurd (q.2 k (by omega) (by omega)).2 g⟩, fun q => (by cases q), fun a q1 q2 => by rw [st_a q2, st_a q1]⟩
end RO
