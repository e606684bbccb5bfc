section BT
variable {w g : Mm} {n : Nat} {V : Nat → Nat}
/-- who of those that come with b is first -/
def Fst (V : Nat → Nat) (g : Mm) (n b r : Nat) : Prop := (r = b ∧ ∀ j, j < n → g 4 j ≠ nI b) ∨ (g 4 r = nI b ∧ ∀ j, j < n → g 4 j = nI b → V r ≤ V j)
theorem rider_loop (h : AX w n g) (V1 : ∀ i, i < n → g 6 i = nI (V i) ∧ V i < 16) {b : Nat} (hb : b < n) (hc : g 4 b = -4) : ∀ (fu k r : Nat), k ≤ n → n - k < fu → r < n → ((r = b ∧ ∀ j, j < k → g 4 j ≠ nI b) ∨ (g 4 r = nI b ∧ ∀ j, j < k → g 4 j = nI b → V r ≤ V j)) → ∃ r', LX4_firstRiderOrSelf_4 (nI b) w fu (nI r) (nI k) = some (nI r') ∧ r' < n ∧ Fst V g n b r' := by
  obtain ⟨x1, x2, x3, x4, x5, x6⟩ := id h
  intro fu
  induction fu with
  | zero => intro k r _ q; omega
  | succ fu ih =>
    intro k r hk hf hr hI
    rw [LX4_firstRiderOrSelf_4, gqs x3, x1]
    simp only [bd1s]
    rw [ifle (by omega) (by omega)]
    by_cases c : n ≤ k
    · rw [if_pos c]
      have : k = n := by omega
      subst this
      exact ⟨r, rfl, hr, hI⟩
    · rw [if_neg c, rdN (k := 32) (j := k) (by omega) (by omega), (x6 k (by omega)).2.2.2.2.1, nI_1]
      simp only [bd1s]
      by_cases q : g 4 k = nI b
      · rw [if_pos q, ifeq (by omega) (by omega)]
        by_cases z : r = b
        · rw [if_pos z]
          simp only [bd1s]
          refine ih (k + 1) k (by omega) (by omega) (by omega) (Or.inr ⟨q, fun j hj hj2 => ?_⟩)
          rcases hI with ⟨-, y⟩ | ⟨y, -⟩
          · by_cases e : j = k
            · rw [e]
              exact Nat.le_refl _
            · exact absurd hj2 (y j (by omega))
          · rw [z, hc] at y
            exact absurd y.symm (nI_n4 (by omega))
        · have hI2 := hI.resolve_left (fun y => z y.1)
          have v1 := V1 k (by omega)
          have v2 := V1 r hr
          rw [if_neg z, rdN (k := 24) (j := k) (by omega) (by omega), rdN (k := 24) (j := r) (by omega) (by omega), (x6 k (by omega)).2.2.2.2.2.2, (x6 r hr).2.2.2.2.2.2, v1.1, v2.1]
          simp only [bd1s]
          rw [ifle (by omega) (by omega)]
          by_cases e : V r ≤ V k
          · rw [if_pos e]
            simp only [bd1s]
            refine ih (k + 1) r (by omega) (by omega) hr (Or.inr ⟨hI2.1, fun j hj hj2 => ?_⟩)
            by_cases e2 : j = k
            · rw [e2]
              exact e
            · exact hI2.2 j (by omega) hj2
          · rw [if_neg e]
            simp only [bd1s]
            refine ih (k + 1) k (by omega) (by omega) (by omega) (Or.inr ⟨q, fun j hj hj2 => ?_⟩)
            by_cases e2 : j = k
            · rw [e2]
              exact Nat.le_refl _
            · have := hI2.2 j (by omega) hj2
              omega
      · rw [if_neg q]
        simp only [bd1s]
        refine ih (k + 1) r (by omega) (by omega) hr (hI.imp (fun y => ⟨y.1, fun j hj => ?_⟩) (fun y => ⟨y.1, fun j hj hj2 => ?_⟩))
        · by_cases e : j = k
          · rw [e]
            exact q
          · exact y.2 j (by omega)
        · have e : j ≠ k := fun e => q (by rw [← e]; exact hj2)
          exact y.2 j (by omega) hj2
theorem mv_of {u b : Nat} (h : g 4 u = nI b) (hb : b < 2 ^ 31) : mv g u = b := by
  unfold mv
  rw [h, if_neg (nI_n4 hb), nI_clamp hb]
theorem first_ok (hv : Vg g n) (hn : n ≤ 8) (hr : Rd g n) (V1 : ∀ i, i < n → g 6 i = nI (V i) ∧ V i < 16) (V2 : ∀ i j, i < n → j < n → V i = V j → i = j) {W : Nat} (hW : 1 ≤ W) (hW2 : W ≤ 99) {mn : Int32} {b k : Nat} (hb : b < n) (hc : g 4 b = -4) (hl : Ld g n b W k) (hm : ∀ u j, (u < n ∧ g 4 u = -4) → Ld g n u W j → k < j ∨ (k = j ∧ V b ≤ V u)) {r : Nat} (hrn : r < n) (hF : Fst V g n b r) : rk g n (la g n 0 (nI W)) r = 0 := by
  have hLm : ∀ i, i < n → ∃ k, Ld g n (mv g i) W k ∧ la g n 0 (nI W) i = nI k := fun i hi => Ld_ex hv hn (mv_lt hr hi (by omega)).1 hW hW2
  have hne : ∀ i, i < n → la g n 0 (nI W) i ≠ 999 := fun i hi => by
    obtain ⟨k, k1, k2⟩ := hLm i hi
    rw [k2]
    exact n999 k1.2.1
  have hld : ∀ i, i < n → ldr g (la g n 0 (nI W)) i = mv g i := fun i hi => if_neg (hne i hi)
  have mb : mv g b = b := if_pos hc
  have mr : mv g r = b := by
    rcases hF with ⟨e, -⟩ | ⟨e, -⟩
    · rw [e, mb]
    · exact mv_of e (by omega)
  have Lb : la g n 0 (nI W) b = nI k := by
    obtain ⟨k', k1, k2⟩ := hLm b hb
    rw [mb] at k1
    rw [k2, Ld_one hl k1]
  rw [rk_first hr hn la_rng ⟨V, V1, V2⟩ hrn]
  intro j hj hjr
  unfold ah
  rw [hld r hrn, hld j hj, mr]
  by_cases c : b = mv g j
  · rw [if_pos c, decide_eq_true_eq, ← c, (V1 r hrn).1, (V1 j hj).1, nI_ltI (by have := (V1 r hrn).2; omega) (by have := (V1 j hj).2; omega)]
    by_cases e : j = b
    · refine ⟨fun y => hjr (by rw [e, y]), Or.inl e.symm⟩
    · have hj4 : g 4 j = nI b := by
        by_cases y : g 4 j = -4
        · rw [show mv g j = j from if_pos y] at c
          exact absurd c.symm e
        · obtain ⟨m, m1, m2, m3⟩ := hr j hj y
          rw [mv_of m2 (by omega)] at c
          rw [m2, c]
      rcases hF with ⟨-, y⟩ | ⟨y, y2⟩
      · exact absurd hj4 (y j hj)
      · refine ⟨fun z => ?_, Or.inr ?_⟩
        · rw [← z, hc] at y
          exact absurd y.symm (nI_n4 (by omega))
        · have := y2 j hj hj4
          have : V r ≠ V j := fun z => hjr (V2 r j hrn hj z).symm
          omega
  · obtain ⟨m1, m2⟩ := mv_lt hr hj (by omega)
    obtain ⟨k', k1, k2⟩ := hLm (mv g j) m1
    rw [show mv g (mv g j) = mv g j from if_pos m2] at k1
    have y := hm (mv g j) k' ⟨m1, m2⟩ k1
    have vb := V1 b hb
    have vj := V1 _ m1
    have hk := hl.2.1
    have hk' := k1.2.1
    rw [if_neg c, Lb, k2, vb.1, vj.1]
    by_cases e : k = k'
    · rw [if_pos (by rw [e]), decide_eq_true_eq, nI_ltI (by omega) (by omega)]
      have : V b ≠ V (mv g j) := fun z => c (V2 _ _ hb m1 z)
      omega
    · rw [if_neg (fun z => e ((nI_eq (by omega) (by omega)).mp z)), decide_eq_true_eq, nI_ltI (by omega) (by omega)]
      omega
theorem span_c (hv : Vg g n) (hn : n ≤ 8) (hn1 : 1 ≤ n) (hr : Rd g n) (V1 : ∀ i, i < n → g 6 i = nI (V i) ∧ V i < 16) (V2 : ∀ i j, i < n → j < n → V i = V j → i = j) {F : Nat → Nat} (hF : ∀ X, 1 ≤ X → X ≤ 99 → F X < n ∧ rk g n (la g n 0 (nI X)) (F X) = 0) : ∀ (fu k : Nat) (w : Mm), AX w n g → 1 ≤ k → k ≤ 100 → 100 - k < fu → (∀ X, 1 ≤ X → X < k → w 49 X = nI (F X)) → (∀ X, k ≤ X → X ≤ 99 → Bst V g n (fun x => x < n ∧ g 4 x = -4) X (w 48 X) (w 49 X)) → ∃ w', LX0_span_67 fu (nI k) w = some w' ∧ (∀ X, 1 ≤ X → X ≤ 99 → w' 49 X = nI (F X)) ∧ ∀ a, a ≠ 49 → w' a = w a := by
  intro fu
  induction fu with
  | zero => intro k w _ _ _ q; omega
  | succ fu ih =>
    intro k w h hk1 hk hf hI hB
    rw [LX0_span_67, nI_lit 99, iflt (by omega) (by omega)]
    by_cases c : 99 < k
    · rw [if_pos c]
      exact ⟨w, rfl, fun X q1 q2 => hI X q1 (by omega), fun _ _ => rfl⟩
    · rw [if_neg c, rdN (k := 49) (j := k) (by omega) (by omega)]
      simp only [bd1s]
      rcases hB k (Nat.le_refl _) (by omega) with ⟨a1, a2, a3⟩ | ⟨b, m, a1, a2, a3, a4, a5⟩
      · exact absurd (mv_lt hr (show 0 < n by omega) (by omega)) (a3 _)
      · obtain ⟨r, r1, r2, r3⟩ := rider_loop h V1 a1.1 a1.2 1000 0 b (by omega) (by omega) a1.1 (Or.inl ⟨rfl, fun j hj => absurd hj (by omega)⟩)
        have e : r = F k := rk_inj hr hn la_rng ⟨V, V1, V2⟩ r2 (hF k hk1 (by omega)).1 (by rw [first_ok (mn := 0) hv hn hr V1 V2 hk1 (by omega) a1.1 a1.2 a2 a5 r2 r3, (hF k hk1 (by omega)).2])
        have f1 : fX4_firstRiderOrSelf w (nI b) = some (nI r) := by
          unfold fX4_firstRiderOrSelf
          exact bdE r1 rfl
        rw [a4, if_neg (nI_n4 (by omega)), f1]
        simp only [bd1s]
        rw [wrN (k := 49) (j := k) (by omega) (by omega), nI_1]
        simp only [bd1s]
        obtain ⟨w', g1, g2, g3⟩ := ih (k + 1) (st w 49 k (nI r)) (h.kept (by rw [st_a (by omega)]) (by rw [st_a (by omega)]) (fun a _ _ _ _ _ _ => st_a (by omega))) (by omega) (by omega) (by omega) (fun X q1 q2 => by
          by_cases z : X = k
          · rw [z, st_kj, e]
          · rw [st_ki z]
            exact hI X q1 (by omega)) (fun X q1 q2 => by
          rw [st_a (a := 48) (by omega), st_ki (by omega)]
          exact hB X (by omega) q2)
        exact ⟨w', g1, g2, fun a q => by rw [g3 a q, st_a q]⟩
theorem span_spec (h : AX w n g) (hv : Vg g n) (hn1 : 1 ≤ n) (hr : Rd g n) (hV : Vo g n) (e9 : w 30 9 = 0) {F : Nat → Nat} (hF : ∀ X, 1 ≤ X → X ≤ 99 → F X < n ∧ rk g n (la g n 0 (nI X)) (F X) = 0) : ∃ w', fX0_span w = some w' ∧ (∀ X, 1 ≤ X → X ≤ 99 → w' 49 X = nI (F X)) ∧ ∀ a, a ≠ 30 → a ≠ 48 → a ≠ 49 → w' a = w a := by
  obtain ⟨V, V1, V2⟩ := hV
  obtain ⟨w1, a1, a2, a3⟩ := span_a 1000 0 w (by omega) (by omega) (fun X q => absurd q (by omega))
  have h1 : AX w1 n g := h.kept (by rw [a3 30 (by omega) (by omega)]) (by rw [a3 30 (by omega) (by omega)]) (fun a _ _ _ _ _ _ => a3 a (by omega) (by omega))
  obtain ⟨w2, b1, b2, b3, b4⟩ := span_b hv hr V1 1000 0 w1 h1 (by rw [a3 30 (by omega) (by omega)]; exact e9) (by omega) (by have := h.2.1; omega) (fun X _ q => Or.inl ⟨(a2 X q).1, (a2 X q).2, fun u y => absurd y.1 (by omega)⟩)
  obtain ⟨w3, c1, c2, c3⟩ := span_c hv h.2.1 hn1 hr V1 V2 hF 1000 1 w2 b2 (by omega) (by omega) (by omega) (fun X q1 q2 => absurd q1 (by omega)) b3
  refine ⟨w3, ?_, c2, fun a q1 q2 q3 => by rw [c3 a q3, b4 a q1 q2 q3, a3 a q2 q3]⟩
  unfold fX0_span
  rw [show LX0_span_2 1000 0 w = some w1 from a1]
  simp only [bd1s]
  rw [show LX0_span_33 1000 0 w1 = some w2 from b1]
  simp only [bd1s]
  rw [show LX0_span_67 1000 1 w2 = some w3 from c1]
  rfl
end BT
