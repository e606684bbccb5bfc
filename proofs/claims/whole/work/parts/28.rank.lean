/-! RANKS -/
/-- with whom a beast is ranked -/
def ldr (g : Mm) (L : Nat → Int32) (i : Nat) : Nat := if L i = 999 then i else mv g i
def ah (g : Mm) (L : Nat → Int32) (i j : Nat) : Bool :=
  if ldr g L i = ldr g L j then decide (ldr g L i ≠ i ∧ (ldr g L j = j ∨ g 6 i < g 6 j))
  else if L (ldr g L i) = L (ldr g L j) then decide (g 6 (ldr g L i) < g 6 (ldr g L j)) else decide (L (ldr g L i) < L (ldr g L j))
/-- how many are ahead of a beast -/
def rk (g : Mm) (n : Nat) (L : Nat → Int32) (i : Nat) : Nat := fb_ct (fun j => decide (j ≠ i) && ah g L j i) n
def Lr (n : Nat) (L : Nat → Int32) : Prop := ∀ i, i < n → L i = 999 ∨ ∃ m, 1 ≤ m ∧ m ≤ 200 ∧ L i = nI m
theorem la_rng {g : Mm} {n : Nat} {fd wd : Int32} : Lr n (la g n fd wd) := fun i _ => fl_rng 200
theorem ldr_lt {g : Mm} {n : Nat} {L : Nat → Int32} (hr : Rd g n) (hn : n < 2 ^ 31) {i : Nat} (hi : i < n) : ldr g L i < n := by
  unfold ldr
  split
  · exact hi
  · exact (mv_lt hr hi hn).1
theorem L2_eq {x y : Int32} (hx : x = 999 ∨ ∃ m, 1 ≤ m ∧ m ≤ 200 ∧ x = nI m) (hy : y = 999 ∨ ∃ m, 1 ≤ m ∧ m ≤ 200 ∧ y = nI m) : (L2 x = L2 y ↔ x = y) ∧ (L2 x < L2 y ↔ x < y) := by
  have key : ∀ z : Int32, (z = 999 ∨ ∃ m, 1 ≤ m ∧ m ≤ 200 ∧ z = nI m) → ∃ a c : Nat, z = nI a ∧ L2 z = nI c ∧ ((a = 999 ∧ c = 201) ∨ (a = c ∧ c ≤ 200)) := by
    rintro z (rfl | ⟨m, m1, m2, rfl⟩)
    · exact ⟨999, 201, rfl, rfl, Or.inl ⟨rfl, rfl⟩⟩
    · exact ⟨m, m, rfl, by unfold L2; rw [if_neg (n999 m2)], Or.inr ⟨rfl, m2⟩⟩
  obtain ⟨a, c, a1, a2, a3⟩ := key x hx
  obtain ⟨b, d, b1, b2, b3⟩ := key y hy
  rw [a1] at a2 ⊢
  rw [b1] at b2 ⊢
  rw [a2, b2, nI_eq (by omega) (by omega), nI_eq (by omega) (by omega), nI_ltI (by omega) (by omega), nI_ltI (by omega) (by omega)]
  omega
theorem L2_201 {x : Int32} (hx : x = 999 ∨ ∃ m, 1 ≤ m ∧ m ≤ 200 ∧ x = nI m) : L2 x = 201 ↔ x = 999 := by
  rcases hx with rfl | ⟨m, m1, m2, rfl⟩
  · exact ⟨fun _ => rfl, fun _ => rfl⟩
  · unfold L2
    rw [if_neg (n999 m2)]
    constructor
    · intro q
      have := (nI_eq (a := m) (b := 201) (by omega) (by omega)).mp q
      omega
    · intro q
      exact absurd q (n999 m2)
theorem ile {x y : Int32} : (if y ≤ x then some (0 : Int32) else some 1) = some (bI (decide (x < y))) := by
  by_cases c : y ≤ x
  · rw [if_pos c, decide_eq_false (by rw [i_lt]; rw [i_le] at c; omega)]
    rfl
  · rw [if_neg c, decide_eq_true (by rw [i_lt]; rw [i_le] at c; omega)]
    rfl
section RK
variable {w τ g : Mm} {n b : Nat} {L : Nat → Int32}
theorem leader_spec (h : AX w n g) (hr : Rd g n) (hL : Lr n L) (h33 : ∀ i, i < n → w 33 i = L2 (L i)) {i : Nat} (hi : i < n) : fX4_leader w (nI i) = some (nI (ldr g L i)) := by
  obtain ⟨h1, h2, h3, -, -, h4⟩ := h
  unfold fX4_leader
  simp only [gqs h3, bd1s]
  rw [rdN (k := 32) (j := i) (by omega) (by omega), (h4 i hi).2.2.2.2.1, rdN (k := 33) (j := i) (by omega) (by omega), h33 i hi]
  simp only [bd1s]
  unfold ldr mv
  by_cases c : g 4 i = -4
  · rw [c, has_n4]
    simp [bd1s]
  · obtain ⟨j, j1, j2, -⟩ := hr i hi c
    have nj : ¬ nI j = -4 := nI_n4 (by omega)
    rw [j2, has_in h1 h2 (by omega), decide_eq_true j1, bI_t]
    simp only [bd1s]
    rw [if_neg (by decide), nI_clamp (by omega), if_neg nj]
    by_cases c2 : L i = 999
    · rw [if_pos ((L2_201 (hL i hi)).mpr c2), if_pos c2]
      simp [bd1s]
    · rw [if_neg (fun q => c2 ((L2_201 (hL i hi)).mp q)), if_neg c2]
      simp [bd1s]
theorem xahead_spec (h : AX w n g) (hr : Rd g n) (hL : Lr n L) (h33 : ∀ i, i < n → w 33 i = L2 (L i)) {i j : Nat} (hi : i < n) (hj : j < n) (hij : i ≠ j) : fX4_isAhead w (nI i) (nI j) = some (bI (ah g L i j)) := by
  have h2 := h.2.1
  have h3 := h.2.2.1
  have h4 := h.2.2.2.2.2
  have li := ldr_lt (L := L) hr (by omega) hi
  have lj := ldr_lt (L := L) hr (by omega) hj
  unfold fX4_isAhead
  rw [leader_spec h hr hL h33 hi, leader_spec h hr hL h33 hj]
  simp only [bd1s, gqs h3]
  rw [ifeq (by omega) (by omega), ifeq (by omega) (by omega), ifeq (by omega) (by omega)]
  unfold ah
  by_cases c : ldr g L i = ldr g L j
  · rw [if_pos c, if_pos c]
    by_cases c2 : j = ldr g L j
    · rw [if_pos c2]
      have : ldr g L i ≠ i ∧ (ldr g L j = j ∨ g 6 i < g 6 j) := ⟨fun q => hij (by rw [← q, c]; exact c2.symm), Or.inl c2.symm⟩
      rw [decide_eq_true this]
      rfl
    · rw [if_neg c2]
      by_cases c3 : i = ldr g L i
      · rw [if_pos c3]
        have : ¬ (ldr g L i ≠ i ∧ (ldr g L j = j ∨ g 6 i < g 6 j)) := fun q => q.1 c3.symm
        rw [decide_eq_false this]
        rfl
      · rw [if_neg c3, rdN (k := 24) (j := i) (by omega) (by omega), rdN (k := 24) (j := j) (by omega) (by omega), (h4 i hi).2.2.2.2.2.2, (h4 j hj).2.2.2.2.2.2]
        simp only [bd1s]
        rw [ile]
        have : (ldr g L i ≠ i ∧ (ldr g L j = j ∨ g 6 i < g 6 j)) ↔ g 6 i < g 6 j := ⟨fun q => q.2.resolve_left (fun z => c2 z.symm), fun q => ⟨fun z => c3 z.symm, Or.inr q⟩⟩
        simp only [this]
  · rw [if_neg c, if_neg c, rdN (k := 33) (j := ldr g L i) (by omega) (by omega), rdN (k := 33) (j := ldr g L j) (by omega) (by omega), h33 _ li, h33 _ lj, rdN (k := 24) (j := ldr g L i) (by omega) (by omega), rdN (k := 24) (j := ldr g L j) (by omega) (by omega), (h4 _ li).2.2.2.2.2.2, (h4 _ lj).2.2.2.2.2.2]
    simp only [bd1s]
    obtain ⟨q1, q2⟩ := L2_eq (hL _ li) (hL _ lj)
    rw [ile, ile]
    simp only [q1, q2]
    split <;> rfl
theorem mranked_spec (h : AM τ b n g) (h20 : ∀ i, i < n → τ 20 i = L i) {i : Nat} (hi : i < n) : fX9_rankedWith τ (nI b) (nI i) = some (if L i = 999 then -4 else g 4 i) := by
  have h2 := h.2.1
  have h3 := h.2.2.1
  unfold fX9_rankedWith
  rw [rdN (k := 20) (j := i) (by omega) (by omega), h20 i hi, ix8, rdN (k := 18) (j := b + 8 + i) (by omega) (by omega), (h.2.2.2.1 i hi).2.2.2.2]
  simp only [bd1s]
  split <;> rfl
theorem mahead_spec (h : AM τ b n g) (hr : Rd g n) (h20 : ∀ i, i < n → τ 20 i = L i) {i j : Nat} (hi : i < n) (hj : j < n) : fX9_isAhead τ (nI b) (nI i) (nI j) = some (bI (ah g L i j)) := by
  have h2 := h.2.1
  have h6 := h.2.2.2.2.2.1
  have li := ldr_lt (L := L) hr (by omega) hi
  have lj := ldr_lt (L := L) hr (by omega) hj
  have key : ∀ k, k < n → (if (if L k = 999 then -4 else g 4 k) = -4 then some (nI k) else some (if L k = 999 then -4 else g 4 k)) = some (nI (ldr g L k)) ∧ ((if L k = 999 then -4 else g 4 k) = -4 ↔ ldr g L k = k) := by
    intro k hk
    unfold ldr mv
    by_cases c2 : L k = 999
    · simp [c2]
    · by_cases c : g 4 k = -4
      · simp [c2, c]
      · obtain ⟨q, q1, q2, q3⟩ := hr k hk c
        have nq : ¬ nI q = -4 := nI_n4 (by omega)
        have qk : ¬ q = k := fun z => c (by rw [← z]; exact q3)
        rw [q2, nI_clamp (by omega)]
        simp [c2, nq, qk]
  obtain ⟨ei, fi⟩ := key i hi
  obtain ⟨ej, fj⟩ := key j hj
  unfold fX9_isAhead
  rw [mranked_spec h h20 hi, mranked_spec h h20 hj]
  simp only [bd1s]
  rw [ei, ej]
  simp only [bd1s]
  rw [ifeq (by omega) (by omega)]
  unfold ah
  by_cases c : ldr g L i = ldr g L j
  · rw [if_pos c, if_pos c, h6 i hi, h6 j hj]
    simp only [bd1s]
    by_cases c3 : ldr g L i = i
    · rw [if_pos (fi.mpr c3)]
      simp [c3, bI]
    · rw [if_neg (fun q => c3 (fi.mp q))]
      by_cases c2 : ldr g L j = j
      · rw [if_pos (fj.mpr c2)]
        simp [c3, c2, bI]
      · rw [if_neg (fun q => c2 (fj.mp q)), ile]
        simp [c3, c2]
  · rw [if_neg c, if_neg c, rdN (k := 20) (j := ldr g L i) (by omega) (by omega), rdN (k := 20) (j := ldr g L j) (by omega) (by omega), h20 _ li, h20 _ lj, h6 _ li, h6 _ lj]
    simp only [bd1s]
    rw [ile, ile]
    split <;> rfl
theorem mrank_loop (h : AM τ b n g) (hr : Rd g n) (h20 : ∀ i, i < n → τ 20 i = L i) {i : Nat} (hi : i < n) : ∀ (fu k : Nat), k ≤ n → n - k < fu → LX9_rankOf_5 (nI b) (nI i) τ fu (nI (fb_ct (fun j => decide (j ≠ i) && ah g L j i) k + 1)) (nI k) = some (nI (rk g n L i + 1)) := by
  have h1 := h.1
  have h2 := h.2.1
  intro fu
  induction fu with
  | zero => intro k _ h; omega
  | succ fu ih =>
    intro k hk hf
    rw [LX9_rankOf_5]
    simp only [rd0 (n := 2) (by omega) (by omega), bd1s, h1]
    rw [ifle (by omega) (by omega)]
    by_cases c : n ≤ k
    · rw [if_pos c, show k = n by omega]
      rfl
    · rw [if_neg c, ifeq (by omega) (by omega), mahead_spec h hr h20 (by omega) hi]
      simp only [bd1s]
      have hs := ih (k + 1) (by omega) (by omega)
      rw [fb_ct_succ] at hs
      rw [nI_1]
      by_cases c2 : k = i
      · rw [if_pos c2]
        simp only [bd1s]
        simp only [c2, ne_eq, not_true, decide_false, Bool.false_and, Bool.false_eq_true, if_false, Nat.add_zero] at hs
        rw [c2, Int32.add_zero]
        exact hs
      · rw [if_neg c2]
        cases hah : ah g L k i with
        | true =>
          rw [bI_t, if_neg (by decide)]
          simp only [bd1s]
          simp only [hah, c2, ne_eq, not_false_eq_true, decide_true, Bool.true_and, if_true] at hs
          rw [nI_1]
          exact hs
        | false =>
          rw [bI_f, if_pos rfl]
          simp only [bd1s]
          simp only [hah, Bool.and_false, Bool.false_eq_true, if_false, Nat.add_zero] at hs
          rw [Int32.add_zero]
          exact hs
theorem mrank_spec (h : AM τ b n g) (hr : Rd g n) (h20 : ∀ i, i < n → τ 20 i = L i) {i : Nat} (hi : i < n) : fX9_rankOf τ (nI b) (nI i) = some (nI (rk g n L i + 1)) := by
  have h2 := h.2.1
  unfold fX9_rankOf
  have hl := mrank_loop h hr h20 hi 1000 0 (by omega) (by omega)
  rw [show nI (fb_ct (fun j => decide (j ≠ i) && ah g L j i) 0 + 1) = 1 from rfl, ← nI_lit0] at hl
  rw [hl]
  rfl
theorem xrank_loop (h : AX w n g) (hr : Rd g n) (hL : Lr n L) (h33 : ∀ i, i < n → w 33 i = L2 (L i)) {i : Nat} (hi : i < n) : ∀ (fu k : Nat), k ≤ n → n - k < fu → LX4_run_54 (nI i) w fu (nI (fb_ct (fun j => decide (j ≠ i) && ah g L j i) k)) (nI k) = some (nI (rk g n L i)) := by
  obtain ⟨h1, h2, h3, -⟩ := id h
  intro fu
  induction fu with
  | zero => intro k _ h; omega
  | succ fu ih =>
    intro k hk hf
    rw [LX4_run_54]
    simp only [gqs h3, bd1s, h1]
    rw [ifle (by omega) (by omega)]
    by_cases c : n ≤ k
    · rw [if_pos c, show k = n by omega]
      rfl
    · rw [if_neg c, ifeq (by omega) (by omega)]
      have hs := ih (k + 1) (by omega) (by omega)
      rw [fb_ct_succ] at hs
      rw [nI_1]
      by_cases c2 : k = i
      · rw [if_pos c2]
        simp only [bd1s]
        simp only [c2, ne_eq, not_true, decide_false, Bool.false_and, Bool.false_eq_true, if_false, Nat.add_zero] at hs
        rw [c2, Int32.add_zero]
        exact hs
      · rw [if_neg c2, xahead_spec h hr hL h33 (by omega) hi c2]
        simp only [bd1s]
        cases hah : ah g L k i with
        | true =>
          rw [bI_t, if_neg (by decide)]
          simp only [bd1s]
          simp only [hah, c2, ne_eq, not_false_eq_true, decide_true, Bool.true_and, if_true] at hs
          rw [nI_1]
          exact hs
        | false =>
          rw [bI_f, if_pos rfl]
          simp only [bd1s]
          simp only [hah, Bool.and_false, Bool.false_eq_true, if_false, Nat.add_zero] at hs
          rw [Int32.add_zero]
          exact hs
theorem rk_lt {i : Nat} (hi : i < n) : rk g n L i < n := by
  unfold rk
  have h1 := fb_ct_le (fun j => decide (j ≠ i) && ah g L j i) n
  rcases Nat.lt_or_ge (fb_ct (fun j => decide (j ≠ i) && ah g L j i) n) n with h | h
  · exact h
  · have h2 := fb_ct_all.mp (Nat.le_antisymm h1 h) i hi
    simp at h2
/-- the ranks of the class: who has each -/
theorem xranks (hr : Rd g n) (hL : Lr n L) : ∀ (fu k : Nat) (w : Mm), AX w n g → (∀ i, i < n → w 33 i = L2 (L i)) → k ≤ n → n - k < fu → (∀ i, i < k → w 34 i = nI (rk g n L i + 1)) → ∃ w', LX4_run_39 fu (nI k) w = some w' ∧ (∀ i, i < n → w' 34 i = nI (rk g n L i + 1)) ∧ (∀ a, a ≠ 34 → a ≠ 35 → w' a = w a) ∧ (∀ r, (∃ i, k ≤ i ∧ i < n ∧ rk g n L i = r) → ∃ i, k ≤ i ∧ i < n ∧ rk g n L i = r ∧ w' 35 r = nI i) ∧ ∀ r, (∀ i, k ≤ i → i < n → rk g n L i ≠ r) → w' 35 r = w 35 r := by
  intro fu
  induction fu with
  | zero => intro k w _ _ _ h; omega
  | succ fu ih =>
    intro k w h h33 hk hf hI
    obtain ⟨h1, h2, h3, -⟩ := id h
    rw [LX4_run_39]
    simp only [gqs h3, bd1s, h1]
    rw [ifle (by omega) (by omega)]
    by_cases c : n ≤ k
    · rw [if_pos c]
      exact ⟨w, rfl, fun i hi => hI i (by omega), fun _ _ _ => rfl, fun r ⟨i, i1, i2, _⟩ => absurd i2 (by omega), fun _ _ => rfl⟩
    · rw [if_neg c]
      have hl := xrank_loop h hr hL h33 (show k < n by omega) 1000 0 (by omega) (by omega)
      rw [show nI (fb_ct (fun j => decide (j ≠ k) && ah g L j k) 0) = 0 from rfl, ← nI_lit0] at hl
      have hrk := rk_lt (g := g) (L := L) (show k < n by omega)
      rw [hl]
      simp only [bd1s]
      rw [wrN (j := k) (by omega) (by omega)]
      simp only [bd1s]
      rw [wrN (j := rk g n L k) (by omega) (by omega), nI_1, nI_1]
      simp only [bd1s]
      generalize hw3 : st (st w 34 k (nI (rk g n L k + 1))) 35 (rk g n L k) (nI k) = w3
      have f1 : ∀ a, a ≠ 34 → a ≠ 35 → w3 a = w a := fun a q1 q2 => by rw [← hw3, st_a q2, st_a q1]
      obtain ⟨w', r1, r2, r3, r4, r5⟩ := ih (k + 1) w3 (h.kept (by rw [f1 30 (by omega) (by omega)]) (by rw [f1 30 (by omega) (by omega)]) (fun a _ _ _ _ q1 q2 => f1 a q1 q2)) (fun i hi => by rw [f1 33 (by omega) (by omega)]; exact h33 i hi) (by omega) (by omega) (by
        intro i hi
        by_cases hik : i = k
        · subst hik
          rw [← hw3, st_a (by omega), st_kj]
        · rw [← hw3, st_a (by omega), st_ki hik]
          exact hI i (by omega))
      refine ⟨w', r1, r2, fun a q1 q2 => by rw [r3 a q1 q2, f1 a q1 q2], fun r hx => ?_, fun r hx => ?_⟩
      · by_cases q : ∃ i, k + 1 ≤ i ∧ i < n ∧ rk g n L i = r
        · obtain ⟨i, i1, i2, i3, i4⟩ := r4 r q
          exact ⟨i, by omega, i2, i3, i4⟩
        · obtain ⟨i, i1, i2, i3⟩ := hx
          have hik : i = k := by
            rcases Nat.lt_or_ge k i with z | z
            · exact absurd ⟨i, z, i2, i3⟩ q
            · omega
          subst hik
          refine ⟨i, by omega, i2, i3, ?_⟩
          rw [r5 r (fun j j1 j2 j3 => q ⟨j, j1, j2, j3⟩), ← hw3, ← i3, st_kj]
      · rw [r5 r (fun j j1 j2 => hx j (by omega) j2), ← hw3, st_ki (fun z => hx k (by omega) (by omega) z.symm), st_a (by omega)]
/-- the ranks of the reference -/
theorem mranks (hr : Rd g n) : ∀ (fu k : Nat) (τ : Mm), AM τ b n g → (∀ i, i < n → τ 20 i = L i) → k ≤ n → n - k < fu → ∃ τ', LX9_findRanks_2 (nI b) fu (nI k) τ = some τ' ∧ (∀ a, a ≠ 21 → τ' a = τ a) ∧ (∀ r, (∃ i, k ≤ i ∧ i < n ∧ rk g n L i = r) → ∃ i, k ≤ i ∧ i < n ∧ rk g n L i = r ∧ τ' 21 r = nI i) ∧ ∀ r, (∀ i, k ≤ i → i < n → rk g n L i ≠ r) → τ' 21 r = τ 21 r := by
  intro fu
  induction fu with
  | zero => intro k w _ _ _ h; omega
  | succ fu ih =>
    intro k τ h h20 hk hf
    have h1 := h.1
    have h2 := h.2.1
    rw [LX9_findRanks_2]
    simp only [rd0 (n := 2) (by omega) (by omega), bd1s, h1]
    rw [ifle (by omega) (by omega)]
    by_cases c : n ≤ k
    · rw [if_pos c]
      exact ⟨τ, rfl, fun _ _ => rfl, fun r ⟨i, i1, i2, _⟩ => absurd i2 (by omega), fun _ _ => rfl⟩
    · rw [if_neg c, mrank_spec h hr h20 (by omega)]
      simp only [bd1s]
      have hrk := rk_lt (g := g) (L := L) (show k < n by omega)
      rw [nI_pred, wrN (j := rk g n L k) (by omega) (by omega), nI_1]
      simp only [bd1s]
      generalize hw3 : st τ 21 (rk g n L k) (nI k) = w3
      have f1 : ∀ a, a ≠ 21 → w3 a = τ a := fun a q => by rw [← hw3, st_a q]
      obtain ⟨w', r1, r3, r4, r5⟩ := ih (k + 1) w3 (h.kept (by rw [f1 0 (by omega)]) (fun a _ q => f1 a (by omega))) (fun i hi => by rw [f1 20 (by omega)]; exact h20 i hi) (by omega) (by omega)
      refine ⟨w', r1, fun a q => by rw [r3 a q, f1 a q], fun r hx => ?_, fun r hx => ?_⟩
      · by_cases q : ∃ i, k + 1 ≤ i ∧ i < n ∧ rk g n L i = r
        · obtain ⟨i, i1, i2, i3, i4⟩ := r4 r q
          exact ⟨i, by omega, i2, i3, i4⟩
        · obtain ⟨i, i1, i2, i3⟩ := hx
          have hik : i = k := by
            rcases Nat.lt_or_ge k i with z | z
            · exact absurd ⟨i, z, i2, i3⟩ q
            · omega
          subst hik
          refine ⟨i, by omega, i2, i3, ?_⟩
          rw [r5 r (fun j j1 j2 j3 => q ⟨j, j1, j2, j3⟩), ← hw3, ← i3, st_kj]
      · rw [r5 r (fun j j1 j2 => hx j (by omega) j2), ← hw3, st_ki (fun z => hx k (by omega) (by omega) z.symm)]
end RK
