/-! the reference reads a text into the upper halves of its arrays: what is laid stays -/
def loM (τ τ' : Mm) : Prop := (τ' 2 0 = τ 2 0 ∧ τ' 7 0 = τ 7 0 ∧ τ' 8 0 = τ 8 0 ∧ τ' 12 0 = τ 12 0) ∧ (∀ a, a = 3 ∨ a = 4 ∨ a = 5 ∨ a = 14 ∨ a = 16 ∨ a = 17 → ∀ j, j < 8 → τ' a j = τ a j) ∧ (∀ j, j < 4 → τ' 9 j = τ 9 j ∧ τ' 10 j = τ 10 j) ∧ (∀ j, j < 6 → τ' 13 j = τ 13 j) ∧ τ' 1 = τ 1 ∧ (∀ a, 18 ≤ a → τ' a = τ a) ∧ ∀ j, j ≠ 18 → j ≠ 19 → τ' 0 j = τ 0 j
theorem loM.rf {τ : Mm} : loM τ τ := ⟨⟨rfl, rfl, rfl, rfl⟩, fun _ _ _ _ => rfl, fun _ _ => ⟨rfl, rfl⟩, fun _ _ => rfl, rfl, fun _ _ => rfl, fun _ _ _ => rfl⟩
theorem loM.tr {a b c : Mm} (h : loM a b) (k : loM b c) : loM a c := by
  obtain ⟨⟨h1, h2, h3, h4⟩, h5, h6, h7, h8, h9, h10⟩ := h
  obtain ⟨⟨k1, k2, k3, k4⟩, k5, k6, k7, k8, k9, k10⟩ := k
  exact ⟨⟨k1.trans h1, k2.trans h2, k3.trans h3, k4.trans h4⟩, fun q r j s => (k5 q r j s).trans (h5 q r j s), fun j s => ⟨(k6 j s).1.trans (h6 j s).1, (k6 j s).2.trans (h6 j s).2⟩, fun j s => (k7 j s).trans (h7 j s), k8.trans h8, fun q s => (k9 q s).trans (h9 q s), fun j s r => (k10 j s r).trans (h10 j s r)⟩
section LO
variable {w w' τ τ' g : Mm} {n wd : Nat}
theorem raftOf_lo {R : Nat} (hR : R ≤ 2) (e : τ 12 0 = nI R) (e' : τ' 12 0 = nI R) (h : ∀ k, k < 6 → τ' 13 k = τ 13 k) (x : Int32) : fX9_raftOf τ' x = fX9_raftOf τ x := by
  have key : ∀ (fu k : Nat), k ≤ 6 → LX9_raftOf_2 x τ' fu (nI k) = LX9_raftOf_2 x τ fu (nI k) := by
    intro fu
    induction fu with
    | zero => intro k _; rfl
    | succ fu ih =>
      intro k hk
      rw [LX9_raftOf_2, LX9_raftOf_2, rd0 (by omega) (by omega), rd0 (by omega) (by omega), e, e']
      simp only [bd1s]
      rw [nI_lit 3, pk_mul, ifle (by omega) (by omega), ifle (by omega) (by omega)]
      by_cases c : 3 * R ≤ k
      · rw [if_pos c, if_pos c]
      · rw [if_neg c, if_neg c, rdN (k := 13) (j := k) (by omega) (by omega), rdN (k := 13) (j := k) (by omega) (by omega), h k (by omega), nI_1]
        simp only [bd1s]
        rw [ih (k + 1) (by omega)]
  exact key 1000 0 (by omega)
theorem ahead_lo (hn : n ≤ 8) (e : τ 2 0 = nI n) (e' : τ' 2 0 = nI n) (h : ∀ k, k < 8 → τ' 14 k = τ 14 k) {i : Nat} (hi : i < 8) : fX9_ahead τ' (nI i) = fX9_ahead τ (nI i) := by
  have key : ∀ (fu k : Nat) (a : Int32), k ≤ n → LX9_ahead_4 (nI i) τ' fu a (nI k) = LX9_ahead_4 (nI i) τ fu a (nI k) := by
    intro fu
    induction fu with
    | zero => intro k a _; rfl
    | succ fu ih =>
      intro k a hk
      rw [LX9_ahead_4, LX9_ahead_4, rd0 (by omega) (by omega), rd0 (by omega) (by omega), e, e']
      simp only [bd1s]
      have ec := nI_leI (a := n) (b := k) (by omega) (by omega)
      by_cases c : n ≤ k
      · rw [if_pos (ec.2 c), if_pos (ec.2 c)]
      · rw [if_neg (fun z => c (ec.1 z)), if_neg (fun z => c (ec.1 z)), rdN (k := 14) (j := k) (by omega) (by omega), rdN (k := 14) (j := k) (by omega) (by omega), rdN (k := 14) (j := i) (by omega) (by omega), rdN (k := 14) (j := i) (by omega) (by omega), h k (by omega), h i hi, nI_1]
        simp only [bd1s, ih (k + 1) _ (show k + 1 ≤ n by omega)]
  unfold fX9_ahead
  rw [show LX9_ahead_4 (nI i) τ' 1000 0 0 = LX9_ahead_4 (nI i) τ 1000 0 0 from key 1000 0 0 (by omega)]
theorem currentIn_lo {C : Nat} (hC : C ≤ 4) (e : τ 8 0 = nI C) (e' : τ' 8 0 = nI C) (h : ∀ k, k < 4 → τ' 9 k = τ 9 k ∧ τ' 10 k = τ 10 k) (x : Int32) : fX9_currentIn τ' x = fX9_currentIn τ x := by
  have key : ∀ (fu k : Nat) (a b : Int32), k ≤ C → LX9_currentIn_7 x τ' fu a b (nI k) = LX9_currentIn_7 x τ fu a b (nI k) := by
    intro fu
    induction fu with
    | zero => intro k a b _; rfl
    | succ fu ih =>
      intro k a b hk
      rw [LX9_currentIn_7, LX9_currentIn_7, rd0 (by omega) (by omega), rd0 (by omega) (by omega), e, e']
      simp only [bd1s]
      rw [ifle (by omega) (by omega), ifle (by omega) (by omega)]
      by_cases c : C ≤ k
      · rw [if_pos c, if_pos c]
      · rw [if_neg c, if_neg c, rdN (k := 9) (j := k) (by omega) (by omega), rdN (k := 9) (j := k) (by omega) (by omega), rdN (k := 10) (j := k) (by omega) (by omega), rdN (k := 10) (j := k) (by omega) (by omega), (h k (by omega)).1, (h k (by omega)).2, nI_1]
        simp only [bd1s, ih (k + 1) _ _ (show k + 1 ≤ C by omega)]
  unfold fX9_currentIn
  rw [show LX9_currentIn_7 x τ' 1000 (-1) 0 0 = LX9_currentIn_7 x τ 1000 (-1) 0 0 from key 1000 0 (-1) 0 (by omega)]
theorem Rel.lo (h : Rel w τ) (hx0 : w' 0 = w 0) (hx : ∀ a, 16 ≤ a → w' a = w a) (hm : loM τ τ') : Rel w' τ' := by
  obtain ⟨⟨m2, m7, m8, m12⟩, mb, mc, mr, m1, mh, m0⟩ := hm
  obtain ⟨n, g, wd, hc, ht, hch, hk, hse, htx⟩ := h
  have hn := hc.1.2.1
  obtain ⟨h0, h1, h2, h3, h4, h5⟩ := hc
  obtain ⟨t1, t2, ⟨C, C1, C2, C3⟩, ⟨R, R1, R2, R3⟩⟩ := ht
  refine ⟨n, g, wd, ⟨h0, h1, ?_, ?_, ?_, ?_⟩, ⟨?_, ?_, ⟨C, C1, by rw [hx 17 (by omega)]; exact C2, by rw [m8]; exact C3⟩, ⟨R, R1, by rw [hx 17 (by omega)]; exact R2, by rw [m12]; exact R3⟩⟩, hch.kept hn (hx 37 (by omega)) (hx 38 (by omega)) (hx 39 (by omega)) (hx 40 (by omega)) (m0 21 (by omega) (by omega)) (fun j _ => by rw [mh 18 (by omega)]), hk.kept hn (hx 41 (by omega)) (hx 42 (by omega)) (hx 43 (by omega)) (m0 22 (by omega) (by omega)) (fun j _ _ => by rw [mh 18 (by omega)]), hse.kept (hx 44 (by omega)) (hx 45 (by omega)) (hx 46 (by omega)) (m0 33 (by omega) (by omega)) (mh 24 (by omega)) (mh 25 (by omega)), htx.kept hx0 (by rw [hx 16 (by omega)]) (m0 1 (by omega) (by omega)) m1⟩
  · unfold SX
    rw [hx 17 (by omega), hx 18 (by omega), hx 19 (by omega), hx 20 (by omega), hx 23 (by omega), hx 24 (by omega)]
    exact h2
  · unfold BX
    rw [hx 17 (by omega), hx 21 (by omega), hx 22 (by omega), hx 29 (by omega), hx 16 (by omega)]
    exact h3
  · obtain ⟨q1, q4, q5, q6, R', rm, q8, q9, q10⟩ := h4
    refine ⟨by rw [m2]; exact q1, fun i hi => ?_, fun i hi => ?_, fun i hi => ?_, R', rm, q8, fun k hr => ?_, q10⟩
    · rw [mb 3 (by omega) i (by omega), mb 4 (by omega) i (by omega), mb 5 (by omega) i (by omega)]
      exact q4 i hi
    · rw [raftOf_lo R1 R3 (by rw [m12]; exact R3) mr]
      exact q5 i hi
    · rw [ahead_lo hn q1 (by rw [m2]; exact q1) (fun k hk => mb 14 (by omega) k hk) (by omega)]
      exact q6 i hi
    · rw [mr k (by omega)]
      exact q9 k hr
  · obtain ⟨q1, q2, q3⟩ := h5
    refine ⟨?_, fun m a c => ?_, by rw [m7]; exact q3⟩
    · rw [mh 18 (by omega)]
      exact q1
    · rw [currentIn_lo C1 C3 (by rw [m8]; exact C3) mc]
      exact q2 m a c
  · intro i hi
    rw [hx 25 (by omega), mb 16 (by omega) i (by omega)]
    exact t1 i hi
  · intro i hi
    rw [hx 26 (by omega), mb 17 (by omega) i (by omega)]
    exact t2 i hi
end LO
