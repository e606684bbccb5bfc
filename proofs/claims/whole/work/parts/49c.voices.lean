section KC
theorem ct_none {p : Nat → Bool} : ∀ n, (∀ k, k < n → p k = false) → ct p n = 0
  | 0, _ => rfl
  | n + 1, h => by
    rw [ct, ct_none n (fun k hk => h k (by omega)), h n (by omega)]
    rfl
theorem ct_inj {f : Nat → Nat} {N a : Nat} : ∀ (d : Nat) (p : Nat → Bool), (∀ i j, i < N → j < N → p i = true → p j = true → f i = f j → i = j) → (∀ i, i < N → p i = true → a ≤ f i ∧ f i < a + d) → ct p N ≤ d := by
  intro d
  induction d with
  | zero =>
    intro p _ h
    rw [ct_none N (fun k hk => ?_)]
    · exact Nat.le_refl _
    · cases q : p k
      · rfl
      · have := h k hk q
        omega
  | succ d ih =>
    intro p hi h
    have r := ih (fun i => p i && decide (f i ≠ a + d)) (fun i j a1 a2 b1 b2 e => by
      rw [Bool.and_eq_true] at b1 b2
      exact hi i j a1 a2 b1.1 b2.1 e) (fun i a1 b1 => by
      rw [Bool.and_eq_true, decide_eq_true_eq] at b1
      have := h i a1 b1.1
      omega)
    by_cases ex : ∃ b, b < N ∧ p b = true ∧ f b = a + d
    · obtain ⟨b, b1, b2, b3⟩ := ex
      have e := ct_put (p := p) (q := fun i => p i && decide (f i ≠ a + d)) b1 b2 (by rw [decide_eq_false (fun z => z b3), Bool.and_false]) (fun i a1 a2 => by
        cases q : p i
        · rfl
        · rw [decide_eq_true (show f i ≠ a + d from fun z => a2 (hi i b a1 b1 q b2 (by rw [z, b3])))]
          rfl)
      omega
    · have e := ct_cg (p := p) (q := fun i => p i && decide (f i ≠ a + d)) N (fun i a1 => by
        cases q : p i
        · rfl
        · rw [decide_eq_true (show f i ≠ a + d from fun z => ex ⟨i, a1, q, z⟩)]
          rfl)
      omega
variable {w τ : Mm} {N vc : Nat} {vo : Nat → Nat}
theorem ct_ord (h1 : ∀ i, i < N → vo i ≤ vc) (h2 : vc = ct (fun i => decide (vo i ≠ 0)) N) (h3 : ∀ i j, i < N → j < N → vo i = vo j → vo i ≠ 0 → i = j) {v : Nat} (v1 : 1 ≤ v) (v2 : v ≤ vc) : ct (fun k => decide (vo k ≠ 0 ∧ vo k < v)) N = v - 1 := by
  have e := ct_or (p := fun i => decide (vo i ≠ 0)) (q := fun k => decide (vo k ≠ 0 ∧ vo k < v)) (r := fun k => decide (vo k ≠ 0 ∧ v ≤ vo k)) N (fun k hk => by
    simp only [decide_eq_true_eq]
    omega)
  have a1 := ct_inj (f := vo) (N := N) (a := 1) (v - 1) (fun k => decide (vo k ≠ 0 ∧ vo k < v)) (fun i j hi hj p q r => by
    rw [decide_eq_true_eq] at p
    exact h3 i j hi hj r p.1) (fun i hi p => by
    rw [decide_eq_true_eq] at p
    omega)
  have a2 := ct_inj (f := vo) (N := N) (a := v) (vc - v + 1) (fun k => decide (vo k ≠ 0 ∧ v ≤ vo k)) (fun i j hi hj p q r => by
    rw [decide_eq_true_eq] at p
    exact h3 i j hi hj r p.1) (fun i hi p => by
    rw [decide_eq_true_eq] at p
    have := h1 i hi
    omega)
  omega
/-- how many speak ahead -/
def vz (vo : Nat → Nat) (vc i : Nat) : Nat := if vo i = 0 then vc + ct (fun k => decide (vo k = 0)) i else vo i - 1
theorem vz_sum (h2 : vc = ct (fun i => decide (vo i ≠ 0)) N) : vc + ct (fun k => decide (vo k = 0)) N = N := by
  have : ∀ n, ct (fun i => decide (vo i ≠ 0)) n + ct (fun k => decide (vo k = 0)) n = n := by
    intro n
    induction n with
    | zero => rfl
    | succ n ih =>
      rw [ct, ct]
      by_cases c : vo n = 0
      · rw [decide_eq_false (fun z => z c), decide_eq_true c, if_neg (by decide), if_pos rfl]
        omega
      · rw [decide_eq_true c, decide_eq_false c, if_pos rfl, if_neg (by decide)]
        omega
  rw [h2]
  exact this N
theorem vz_lt (h1 : ∀ i, i < N → vo i ≤ vc) (h2 : vc = ct (fun i => decide (vo i ≠ 0)) N) {i : Nat} (hi : i < N) : vz vo vc i < N := by
  have s := vz_sum h2
  unfold vz
  split
  · next c =>
    have a : ct (fun k => decide (vo k = 0)) (i + 1) ≤ ct (fun k => decide (vo k = 0)) N := ct_up (by omega)
    rw [ct, decide_eq_true c, if_pos rfl] at a
    omega
  · have := h1 i hi
    omega
theorem vz_inj (h1 : ∀ i, i < N → vo i ≤ vc) (h3 : ∀ i j, i < N → j < N → vo i = vo j → vo i ≠ 0 → i = j) {i j : Nat} (hi : i < N) (hj : j < N) (e : vz vo vc i = vz vo vc j) : i = j := by
  have up : ∀ a b, a < b → vo a = 0 → ct (fun k => decide (vo k = 0)) a < ct (fun k => decide (vo k = 0)) b := by
    intro a b hab c
    have z : ct (fun k => decide (vo k = 0)) (a + 1) ≤ ct (fun k => decide (vo k = 0)) b := ct_up (by omega)
    rw [ct, decide_eq_true c, if_pos rfl] at z
    omega
  have b1 := h1 i hi
  have b2 := h1 j hj
  unfold vz at e
  by_cases c : vo i = 0
  · rw [if_pos c] at e
    by_cases d : vo j = 0
    · rw [if_pos d] at e
      rcases Nat.lt_trichotomy i j with z | z | z
      · have := up i j z c
        omega
      · exact z
      · have := up j i z d
        omega
    · rw [if_neg d] at e
      omega
  · rw [if_neg c] at e
    by_cases d : vo j = 0
    · rw [if_pos d] at e
      omega
    · rw [if_neg d] at e
      exact h3 i j hi hj (by omega) c
theorem ahead_loop (hN : N ≤ 8) (e2 : τ 2 0 = nI N) (e14 : ∀ i, i < N → τ 14 i = nI (vo i)) (hv : ∀ i, i < N → vo i ≤ 8) {i : Nat} (hi : i < N) {A : Nat → Bool} (hA : ∀ k, k < N → (A k = true ↔ k ≠ i ∧ (vo i = 0 → vo k ≠ 0 ∨ k < i) ∧ (vo i ≠ 0 → vo k ≠ 0 ∧ vo k < vo i))) : ∀ (fu k : Nat), k ≤ N → N - k < fu → LX9_ahead_4 (nI i) τ fu (nI (ct A k)) (nI k) = some (nI (ct A N)) := by
  intro fu
  induction fu with
  | zero => intro k _ h; omega
  | succ fu ih =>
    intro k hk hf
    rw [LX9_ahead_4, rd0 (by omega) (by omega), e2]
    simp only [bd1s]
    rw [ifle (by omega) (by omega)]
    by_cases c : N ≤ k
    · rw [if_pos c, show k = N by omega]
    · have bk := hv k (by omega)
      have bi := hv i hi
      rw [if_neg c, rdN (k := 14) (j := i) (by omega) (by omega), rdN (k := 14) (j := k) (by omega) (by omega), e14 i hi, e14 k (by omega), nI_1]
      simp only [bd1s]
      have s1 : ∃ b7 : Bool, (if nI (vo i) = 0 then if 0 < nI (vo k) then some (1 : Int32) else if nI i ≤ nI k then some 0 else some 1 else if nI (vo k) ≤ 0 then some 0 else if nI (vo i) ≤ nI (vo k) then some 0 else some 1) = some (bI b7) ∧ (b7 = true ↔ (vo i = 0 → vo k ≠ 0 ∨ k < i) ∧ (vo i ≠ 0 → vo k ≠ 0 ∧ vo k < vo i)) := by
        rw [nI_lit0, ifeq (by omega) (by omega), iflt (by omega) (by omega), ifle (by omega) (by omega), ifle (by omega) (by omega), ifle (by omega) (by omega)]
        by_cases d : vo i = 0
        · rw [if_pos d]
          by_cases f : 0 < vo k
          · exact ⟨true, by rw [if_pos f]; rfl, fun _ => ⟨fun _ => Or.inl (by omega), fun z => absurd d z⟩, fun _ => rfl⟩
          · rw [if_neg f]
            by_cases g : i ≤ k
            · refine ⟨false, by rw [if_pos g]; rfl, fun z => (by cases z), fun z => ?_⟩
              have := z.1 d
              omega
            · exact ⟨true, by rw [if_neg g]; rfl, fun _ => ⟨fun _ => Or.inr (by omega), fun z => absurd d z⟩, fun _ => rfl⟩
        · rw [if_neg d]
          by_cases f : vo k ≤ 0
          · refine ⟨false, by rw [if_pos f]; rfl, fun z => (by cases z), fun z => ?_⟩
            have := z.2 d
            omega
          · rw [if_neg f]
            by_cases g : vo i ≤ vo k
            · refine ⟨false, by rw [if_pos g]; rfl, fun z => (by cases z), fun z => ?_⟩
              have := z.2 d
              omega
            · exact ⟨true, by rw [if_neg g]; rfl, fun _ => ⟨fun z => absurd z d, fun _ => ⟨by omega, by omega⟩⟩, fun _ => rfl⟩
      obtain ⟨b7, e7, f7⟩ := s1
      refine bdE e7 (bdE (a := bI (A k)) ?_ ?_)
      · rw [ifeq (by omega) (by omega)]
        have hk2 := hA k (by omega)
        by_cases d : k = i
        · rw [if_pos d]
          cases q : A k
          · rfl
          · exact absurd d (hk2.mp q).1
        · rw [if_neg d]
          cases q : A k
          · cases r : b7
            · rw [bI_f, if_pos rfl]
            · exact absurd (hk2.mpr ⟨d, f7.mp r⟩) (by rw [q]; decide)
          · rw [f7.mpr (hk2.mp q).2, bI_t, if_neg (by decide)]
      · have : nI (ct A k) + bI (A k) = nI (ct A (k + 1)) := by
          rw [ct]
          cases A k
          · rw [bI_f, nI_lit0, nI_add]
            rfl
          · rw [bI_t, nI_1]
            rfl
        rw [this]
        exact ih (k + 1) (by omega) (by omega)
theorem ahead_vo (hN : N ≤ 8) (e2 : τ 2 0 = nI N) (e14 : ∀ i, i < N → τ 14 i = nI (vo i)) (h1 : ∀ i, i < N → vo i ≤ vc) (h2 : vc = ct (fun i => decide (vo i ≠ 0)) N) (h3 : ∀ i j, i < N → j < N → vo i = vo j → vo i ≠ 0 → i = j) {i : Nat} (hi : i < N) : fX9_ahead τ (nI i) = some (nI (vz vo vc i)) := by
  have vl := ct_len (fun i => decide (vo i ≠ 0)) N
  have hv : ∀ i, i < N → vo i ≤ 8 := fun i hi => by have := h1 i hi; omega
  unfold fX9_ahead
  by_cases c : vo i = 0
  · have l := ahead_loop hN e2 e14 hv hi (A := fun k => decide (k ≠ i ∧ (vo k ≠ 0 ∨ k < i))) (fun k hk => by
      rw [decide_eq_true_eq]
      exact ⟨fun z => ⟨z.1, fun _ => z.2, fun y => absurd c y⟩, fun z => ⟨z.1, z.2.1 c⟩⟩) 1000 0 (by omega) (by omega)
    refine bdE l ?_
    have e := ct_or (p := fun k => decide (k ≠ i ∧ (vo k ≠ 0 ∨ k < i))) (q := fun k => decide (vo k ≠ 0)) (r := fun k => decide (vo k = 0 ∧ k < i)) N (fun k hk => by
      simp only [decide_eq_true_eq]
      by_cases z : k = i
      · subst z
        omega
      · omega)
    have e2 := ct_ext (p := fun k => decide (vo k = 0 ∧ k < i)) (n := i) N (by omega) (fun k a b => decide_eq_false (by omega))
    have e3 := ct_cg (p := fun k => decide (vo k = 0 ∧ k < i)) (q := fun k => decide (vo k = 0)) i (fun k hk => by
      by_cases z : vo k = 0
      · rw [decide_eq_true z, decide_eq_true ⟨z, hk⟩]
      · rw [decide_eq_false z, decide_eq_false (fun y => z y.1)])
    rw [e, e2, e3, ← h2]
    unfold vz
    rw [if_pos c]
  · have l := ahead_loop hN e2 e14 hv hi (A := fun k => decide (vo k ≠ 0 ∧ vo k < vo i)) (fun k hk => by
      rw [decide_eq_true_eq]
      exact ⟨fun z => ⟨fun y => by rw [y] at z; omega, fun y => absurd y c, fun _ => z⟩, fun z => z.2.2 c⟩) 1000 0 (by omega) (by omega)
    refine bdE l ?_
    rw [ct_ord h1 h2 h3 (by omega) (h1 i hi)]
    unfold vz
    rw [if_neg c]
theorem raftOf_rm {R : Nat} {rm : Nat → Nat} (hN : N ≤ 8) (hR : R ≤ 2) (e : τ 12 0 = nI R) (h : ∀ k, k < 3 * R → rm k < N ∧ τ 13 k = nI (rm k)) (inj : ∀ k j, k < 3 * R → j < 3 * R → rm k = rm j → k = j) {i : Nat} (hi : i < N) : ((∀ k, k < 3 * R → rm k ≠ i) → fX9_raftOf τ (nI i) = some (-4)) ∧ (∀ k, k < 3 * R → rm k = i → fX9_raftOf τ (nI i) = some (nI (k / 3))) := by
  have key : ∀ (fu k : Nat), k ≤ 3 * R → 3 * R - k < fu → (∀ j, j < k → rm j ≠ i) → ((∀ k, k < 3 * R → rm k ≠ i) → LX9_raftOf_2 (nI i) τ fu (nI k) = some (-4)) ∧ (∀ j, j < 3 * R → rm j = i → LX9_raftOf_2 (nI i) τ fu (nI k) = some (nI (j / 3))) := by
    intro fu
    induction fu with
    | zero => intro k _ h; omega
    | succ fu ih =>
      intro k hk hf hb
      rw [LX9_raftOf_2, rd0 (by omega) (by omega), e]
      simp only [bd1s]
      rw [nI_lit 3, pk_mul, ifle (by omega) (by omega)]
      by_cases c : 3 * R ≤ k
      · rw [if_pos c]
        exact ⟨fun _ => rfl, fun j j1 j2 => absurd j2 (hb j (by omega))⟩
      · obtain ⟨r1, r2⟩ := h k (by omega)
        rw [if_neg c, rdN (k := 13) (j := k) (by omega) (by omega), r2, nI_1]
        simp only [bd1s]
        rw [ifeq (by omega) (by omega)]
        by_cases d : rm k = i
        · rw [if_pos d]
          refine ⟨fun z => absurd d (z k (by omega)), fun j j1 j2 => ?_⟩
          rw [inj j k j1 (by omega) (by rw [j2, d]), pk_div (by omega) (by omega) (by omega)]
        · rw [if_neg d]
          exact ih (k + 1) (by omega) (by omega) (fun j j1 => by
            by_cases z : j = k
            · rw [z]; exact d
            · exact hb j (by omega))
  exact key 1000 0 (by omega) (by omega) (fun j hj => absurd hj (by omega))
theorem flow_both {C : Nat} (hC : C ≤ 4) (x14 : w 3 14 = nI C) (y8 : τ 8 0 = nI C) (h : ∀ k, k < C → ∃ a c, a ≤ 99 ∧ c ≤ 5 ∧ w 13 k = nI a ∧ τ 9 k = nI a ∧ w 14 k = nI c ∧ τ 10 k = nI c) (y : Int32) : ∃ c, c ≤ 5 ∧ fX6_takenFrom_s w y = some (nI c) ∧ fX9_currentIn τ y = some (nI c) := by
  have key : ∀ (fu k : Nat) (v1 : Int32) (c0 : Nat), c0 ≤ 5 → k ≤ C → C - k < fu → ∃ c, c ≤ 5 ∧ LX6_takenFrom_s_7 y w fu v1 (nI c0) (nI k) = some (nI c) ∧ LX9_currentIn_7 y τ fu v1 (nI c0) (nI k) = some (nI c) := by
    intro fu
    induction fu with
    | zero => intro k _ _ _ _ h; omega
    | succ fu ih =>
      intro k v1 c0 h0 hk hf
      rw [LX6_takenFrom_s_7, LX9_currentIn_7, rd0 (by omega) (by omega), x14, y8]
      simp only [bd1s]
      rw [ifle (by omega) (by omega), ifle (by omega) (by omega)]
      by_cases c : C ≤ k
      · rw [if_pos c, if_pos c]
        exact ⟨c0, h0, rfl, rfl⟩
      · obtain ⟨a, t, a1, t1, e1, e2, e3, e4⟩ := h k (by omega)
        rw [if_neg c, if_neg c, rdN (k := 13) (j := k) (by omega) (by omega), rdN (k := 14) (j := k) (by omega) (by omega), rdN (k := 9) (j := k) (by omega) (by omega), rdN (k := 10) (j := k) (by omega) (by omega), e1, e2, e3, e4, nI_1]
        simp only [bd1s]
        by_cases d : y < nI a
        · rw [if_pos d]
          exact ih (k + 1) v1 c0 h0 (by omega) (by omega)
        · rw [if_neg d]
          by_cases f : nI a < v1
          · rw [if_pos f]
            exact ih (k + 1) v1 c0 h0 (by omega) (by omega)
          · rw [if_neg f]
            exact ih (k + 1) (nI a) t t1 (by omega) (by omega)
  obtain ⟨c, c1, c2, c3⟩ := key 1000 0 (-1) 0 (by omega) (by omega) (by omega)
  refine ⟨c, c1, ?_, ?_⟩
  · unfold fX6_takenFrom_s
    exact bdE c2 rfl
  · unfold fX9_currentIn
    exact bdE c3 rfl
end KC
