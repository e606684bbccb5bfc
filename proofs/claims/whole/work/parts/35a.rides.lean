/-! rides that explain what was seen -/
def ag (f so sr : Nat → Nat) (z : Nat) : Bool := !(an (fun k => decide (f (so k) + 1 ≠ sr k)) z)
section RI
variable {w τ g : Mm} {n wd z : Nat} {so sr : Nat → Nat} {L : Nat → Int32}
theorem agree_spec (hn : n ≤ 8) (hz : z ≤ 6) (h44 : w 44 2 = nI z) (hs : ∀ k, k < z → so k < n ∧ sr k ≤ 8 ∧ w 45 k = nI (so k) ∧ w 46 k = nI (sr k)) (h34 : ∀ i, i < n → w 34 i = nI (rk g n L i + 1)) : fX7_agreeWith w = some (bI (ag (rk g n L) so sr z)) := by
  have key : ∀ (fu k : Nat), k ≤ z → z - k < fu → an (fun k => decide (rk g n L (so k) + 1 ≠ sr k)) k = false → LX7_agreeWith_2 w fu (nI k) = some (bI (ag (rk g n L) so sr z)) := by
    intro fu
    induction fu with
    | zero => intro k _ q; omega
    | succ fu ih =>
      intro k hk hf ha
      rw [LX7_agreeWith_2, h44, ifle (by omega) (by omega)]
      by_cases c : z ≤ k
      · rw [if_pos c]
        unfold ag
        rw [← show k = z by omega, ha]
        rfl
      · obtain ⟨s1, s2, s3, s4⟩ := hs k (by omega)
        have hrk := rk_lt (g := g) (L := L) s1
        rw [if_neg c, rdN (k := 45) (j := k) (by omega) (by omega), s3, rdN (k := 46) (j := k) (by omega) (by omega), s4, nI_1]
        simp only [bd1s]
        rw [rdN (k := 34) (j := so k) (by omega) (by omega), h34 _ s1]
        simp only [bd1s]
        rw [ifeq (by omega) (by omega)]
        by_cases c2 : rk g n L (so k) + 1 = sr k
        · rw [if_pos c2]
          refine ih (k + 1) (by omega) (by omega) ?_
          unfold an
          rw [ha]
          simp [c2]
        · rw [if_neg c2]
          unfold ag
          rw [an_iff.mpr ⟨k, by omega, decide_eq_true c2⟩]
          rfl
  exact key 1000 0 (by omega) (by omega) rfl
theorem fits_tail {b : Nat} (hb : nI b = 176) (hm : AM τ b n g) (hr : Rd g n) (h20 : ∀ i, i < n → τ 20 i = L i) (hn : n ≤ 8) (hz : z ≤ 6) (h33 : τ 0 33 = nI z) (hs : ∀ k, k < z → so k < n ∧ sr k ≤ 8 ∧ τ 24 k = nI (so k) ∧ τ 25 k = nI (sr k)) : LX9_fits_62 τ 1000 1 0 = some (bI (ag (rk g n L) so sr z)) := by
  have key : ∀ (fu k : Nat), k ≤ z → z - k < fu → LX9_fits_62 τ fu (bI (!(an (fun k => decide (rk g n L (so k) + 1 ≠ sr k)) k))) (nI k) = some (bI (ag (rk g n L) so sr z)) := by
    intro fu
    induction fu with
    | zero => intro k _ q; omega
    | succ fu ih =>
      intro k hk hf
      rw [LX9_fits_62, h33, ifle (by omega) (by omega)]
      by_cases c : z ≤ k
      · rw [if_pos c, show k = z by omega]
        rfl
      · obtain ⟨s1, s2, s3, s4⟩ := hs k (by omega)
        have hrk := rk_lt (g := g) (L := L) s1
        rw [if_neg c, rdN (k := 24) (j := k) (by omega) (by omega), s3, rdN (k := 25) (j := k) (by omega) (by omega), s4, nI_1]
        simp only [bd1s]
        rw [← hb, mrank_spec hm hr h20 s1]
        simp only [bd1s]
        rw [ifeq (by omega) (by omega)]
        have hk1 := ih (k + 1) (by omega) (by omega)
        have ea : an (fun k => decide (rk g n L (so k) + 1 ≠ sr k)) (k + 1) = (an (fun k => decide (rk g n L (so k) + 1 ≠ sr k)) k || decide (rk g n L (so k) + 1 ≠ sr k)) := rfl
        rw [ea] at hk1
        cases ha : an (fun k => decide (rk g n L (so k) + 1 ≠ sr k)) k with
        | true =>
          rw [ha] at hk1
          simp only [Bool.not_true, bI_f, if_true, bd1s]
          exact hk1
        | false =>
          rw [ha, Bool.false_or] at hk1
          simp only [Bool.not_false, bI_t, show ¬ (1 : Int32) = 0 by decide, if_false]
          by_cases c2 : rk g n L (so k) + 1 = sr k
          · rw [if_pos c2]
            simp only [c2, ne_eq, not_true, decide_false, Bool.not_false, bI_t] at hk1
            simp only [bd1s]
            exact hk1
          · rw [if_neg c2]
            simp only [c2, ne_eq, not_false_eq_true, decide_true, Bool.not_true, bI_f] at hk1
            simp only [bd1s]
            exact hk1
  have hk := key 1000 0 (by omega) (by omega)
  rw [show bI (!(an (fun k => decide (rk g n L (so k) + 1 ≠ sr k)) 0)) = 1 from rfl] at hk
  exact hk
end RI
