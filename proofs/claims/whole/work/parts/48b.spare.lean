/-! a river that is being read: the class's spare one, the reference's upper halves -/
def SpB (w τ : Mm) (N : Nat) : Prop := ∀ i, i < N → (∃ s, 1 ≤ s ∧ s ≤ 9 ∧ w 4 i = nI s ∧ τ 3 (8 + i) = nI s) ∧ (∃ s, 1 ≤ s ∧ s ≤ 9 ∧ w 5 i = nI s ∧ τ 4 (8 + i) = nI s) ∧ (∃ k, k ≤ 3 ∧ w 6 i = nI k ∧ τ 5 (8 + i) = nI k) ∧ (∃ t, t ≤ 30 ∧ w 7 i = nI t ∧ τ 6 (8 + i) = nI t) ∧ ((w 8 i = -4 ∧ τ 11 (8 + i) = -4) ∨ ∃ j, j < N ∧ j ≠ i ∧ w 8 i = nI j ∧ τ 11 (8 + i) = nI j) ∧ ((w 11 i = -4 ∧ τ 16 (8 + i) = 0) ∨ ∃ v, 1 ≤ v ∧ v ≤ 8 ∧ w 11 i = nI v ∧ τ 16 (8 + i) = nI v) ∧ ∃ v, v ≤ 99 ∧ w 12 i = nI v ∧ τ 17 (8 + i) = nI v
def SpC (w τ : Mm) : Prop := ∃ C, C ≤ 4 ∧ w 3 14 = nI C ∧ τ 8 1 = nI C ∧ ∀ k, k < C → ∃ a c, a ≤ 99 ∧ c ≤ 5 ∧ w 13 k = nI a ∧ τ 9 (4 + k) = nI a ∧ w 14 k = nI c ∧ τ 10 (4 + k) = nI c
def SpR (w τ : Mm) (N : Nat) : Prop := ∃ (R : Nat) (rm : Nat → Nat), R ≤ 2 ∧ w 3 15 = nI R ∧ τ 12 1 = nI R ∧ (∀ k, k < 3 * R → rm k < N ∧ τ 13 (6 + k) = nI (rm k)) ∧ (∀ k j, k < 3 * R → j < 3 * R → k / 3 = j / 3 → rm k = rm j → k = j) ∧
  ((w 3 17 = 0 ∧ (∀ k j, k < 3 * R → j < 3 * R → rm k = rm j → k = j) ∧ ∀ i, i < N → (w 9 i = -4 ∧ ∀ k, k < 3 * R → rm k ≠ i) ∨ ∃ k, k < 3 * R ∧ rm k = i ∧ w 9 i = nI (k / 3)) ∨ (w 3 17 = 1 ∧ R = 2 ∧ ∃ k j, k < 3 ∧ j < 3 ∧ rm k = rm (3 + j)))
def SpV (w τ : Mm) (N : Nat) : Prop := ∃ (vc : Nat) (vo : Nat → Nat), w 3 16 = nI vc ∧ τ 15 1 = nI vc ∧ vc = ct (fun i => decide (vo i ≠ 0)) N ∧ (∀ i, i < N → vo i ≤ vc ∧ τ 14 (8 + i) = nI (vo i) ∧ w 10 i = if vo i = 0 then -4 else nI (vo i - 1)) ∧ ∀ i j, i < N → j < N → vo i = vo j → vo i ≠ 0 → i = j
def Sp (w τ : Mm) (N : Nat) : Prop := (N ≤ 8 ∧ w 3 12 = nI N ∧ τ 2 1 = nI N) ∧ (∃ W, 1 ≤ W ∧ W ≤ 99 ∧ w 3 13 = nI W ∧ τ 7 1 = nI W) ∧ SpB w τ N ∧ SpC w τ ∧ SpR w τ N ∧ SpV w τ N
section SQ
variable {w τ : Mm} {N : Nat}
theorem has_s (h1 : w 3 12 = nI N) (hn : N ≤ 8) {j : Nat} (hj : j < 2 ^ 31) : fX6_has_s w (nI j) = some (bI (decide (j < N))) := by
  unfold fX6_has_s
  rw [if_neg (nI_pos hj), h1, ifle (by omega) hj]
  by_cases c : j < N
  · rw [if_neg (by omega), decide_eq_true c]
    rfl
  · rw [if_pos (by omega), decide_eq_false c]
    rfl
theorem inraft_up {R : Nat} {rm : Nat → Nat} (hR : R ≤ 2) (e : τ 12 1 = nI R) (h : ∀ k, k < 3 * R → rm k < N ∧ τ 13 (6 + k) = nI (rm k)) (hN : N ≤ 8) {i : Nat} (hi : i < N) : fX9_isInRaft τ 1 (nI i) = some (bI (an (fun k => decide (rm k = i)) (3 * R))) := by
  have key : ∀ (fu k : Nat), k ≤ 3 * R → 3 * R - k < fu → LX9_isInRaft_5 1 (nI i) τ fu (bI (an (fun k => decide (rm k = i)) k)) (nI k) = some (bI (an (fun k => decide (rm k = i)) (3 * R))) := by
    intro fu
    induction fu with
    | zero => intro k _ q; omega
    | succ fu ih =>
      intro k hk hf
      rw [LX9_isInRaft_5, rd1 (by omega) (by omega), e]
      simp only [bd1s]
      rw [nI_lit 3, pk_mul, ifle (by omega) (by omega)]
      by_cases c : 3 * R ≤ k
      · rw [if_pos c, show k = 3 * R by omega]
      · have nxt := ih (k + 1) (by omega) (by omega)
        obtain ⟨r1, r2⟩ := h k (by omega)
        rw [if_neg c, show (6 : Int32) * 1 = nI 6 from rfl, nI_add, rdN (k := 13) (j := 6 + k) (by omega) (by omega), r2, nI_1]
        simp only [bd1s]
        rw [ifeq (by omega) (by omega)]
        rw [an] at nxt
        cases q : an (fun k => decide (rm k = i)) k
        · rw [q, Bool.false_or] at nxt
          rw [bI_f, if_pos (show (0 : Int32) = 0 from rfl)]
          by_cases z : rm k = i
          · rw [decide_eq_true z] at nxt
            rw [if_pos z]
            exact nxt
          · rw [decide_eq_false z] at nxt
            rw [if_neg z]
            exact nxt
        · rw [q, Bool.true_or] at nxt
          rw [bI_t, if_neg (show ¬ (1 : Int32) = 0 by decide)]
          exact nxt
  unfold fX9_isInRaft
  refine bdE (show LX9_isInRaft_5 1 (nI i) τ 1000 0 0 = _ from key 1000 0 (by omega) (by omega)) (bdE (gbs ?_) rfl)
  cases an (fun k => decide (rm k = i)) (3 * R)
  · exact Or.inl rfl
  · exact Or.inr rfl
end SQ
