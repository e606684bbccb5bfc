theorem within_in {a b c : Nat} (ha : a < 2 ^ 31) (hb : b < 2 ^ 31) (hc : c < 2 ^ 31) : fX8_within (nI a) (nI b) (nI c) = some (bI (decide (b ≤ a ∧ a ≤ c))) := by
  unfold fX8_within
  rw [iflt ha hb]
  by_cases c1 : a < b
  · rw [if_pos c1]
    simp [bI, show ¬ b ≤ a by omega]
  · rw [if_neg c1, iflt hc ha]
    by_cases c2 : c < a
    · rw [if_pos c2]
      simp [bI, show ¬ a ≤ c by omega]
    · rw [if_neg c2]
      simp [bI, show b ≤ a by omega, show a ≤ c by omega]
theorem md5_nI {m : Nat} (hm : m < 2 ^ 31) : md5 (nI m) = nI (m % 5) := by
  unfold md5
  exact pk_rem (d := 5) hm (by omega) (by omega)
theorem at1_max (v : Int32) : (if 1 < v then v else 1) = at1 v := by
  unfold at1
  by_cases c : 1 < v
  · rw [if_pos c, if_pos (by rw [i_le]; rw [i_lt] at c; omega)]
  · rw [if_neg c]
    by_cases c2 : 1 ≤ v
    · rw [if_pos c2]
      rw [i_lt] at c
      rw [i_le] at c2
      rw [i_eq]
      omega
    · rw [if_neg c2]
theorem hmn_lt {g : Mm} {m : Nat} (hm : m ≤ 200) : ∀ n, hmn g n < nI m ↔ an (fun k => decide (g 2 k = 2 ∧ g 3 k < nI m)) n = true
  | 0 => by
    have : ¬ hmn g 0 < nI m := by
      show ¬ nI 201 < nI m
      rw [nI_ltI (by omega) (by omega)]
      omega
    simp [this, an]
  | k + 1 => by
    have ih := hmn_lt (g := g) hm k
    unfold hmn an
    by_cases c : g 2 k = 2
    · rw [if_pos c, Bool.or_eq_true, ← ih, decide_eq_true_eq]
      by_cases c2 : g 3 k < hmn g k
      · rw [if_pos c2]
        constructor
        · intro q
          exact Or.inr ⟨c, q⟩
        · rintro (q | q)
          · rw [i_lt] at *
            omega
          · exact q.2
      · rw [if_neg c2]
        constructor
        · intro q
          exact Or.inl q
        · rintro (q | q)
          · exact q
          · have := q.2
            rw [i_lt] at *
            omega
    · rw [if_neg c, ih]
      simp [c]
theorem mxR_lt {g : Mm} {r : Int32} {m : Nat} (hm : 1 ≤ m) (hm2 : m < 2 ^ 31) : ∀ n, (mxR g r n < nI m ↔ ¬ an (fun k => decide (g 5 k = r ∧ ¬ g 3 k < nI m)) n = true)
  | 0 => by
    have : mxR g r 0 < nI m := by
      show nI 0 < nI m
      rw [nI_ltI (by omega) hm2]
      omega
    simp [this, an]
  | k + 1 => by
    have ih := mxR_lt (g := g) (r := r) hm hm2 k
    unfold mxR an
    by_cases c : g 5 k = r
    · rw [if_pos c, Bool.or_eq_true, decide_eq_true_eq]
      by_cases c2 : mxR g r k < g 3 k
      · rw [if_pos c2]
        constructor
        · rintro q (z | z)
          · exact ih.mp (by rw [i_lt] at *; omega) z
          · exact z.2 q
        · intro q
          exact Decidable.byContradiction fun z => q (Or.inr ⟨c, z⟩)
      · rw [if_neg c2]
        constructor
        · rintro q (z | z)
          · exact ih.mp q z
          · have := z.2
            rw [i_lt] at *
            omega
        · intro q
          exact ih.mpr fun z => q (Or.inl z)
    · rw [if_neg c, ih]
      simp [c]
theorem within_m {m : Nat} (h1 : 1 ≤ m) (h2 : m ≤ 200) : fX8_within (nI m) 1 200 = some 1 := by
  have := within_in (a := m) (b := 1) (c := 200) (by omega) (by omega) (by omega)
  simp only [h1, h2, and_self, decide_true, bI_t] at this
  exact this
section XV
variable {w g : Mm} {n : Nat} {fd wd : Int32}
theorem rdF_spec (h : AX w n g) {m : Nat} (h1 : 1 ≤ m) (h2 : m ≤ 200) : rdF w (nI m) = some (g 7 m) := by
  unfold rdF
  rw [if_pos h.2.2.2.1, rdN (j := m) (by omega) (by omega), h.2.2.2.2.1 m h1 h2]
theorem takenIn_raft (h : AX w n g) (hk : w 30 12 = 4) {m : Nat} (h1 : 1 ≤ m) (h2 : m ≤ 200) : fX4_takenIn w (nI m) = some (g 7 m) := by
  unfold fX4_takenIn
  rw [within_m h1 h2]
  simp only [bd1s, show ¬ (1 : Int32) = 0 by decide, if_false, hk, if_true]
  rw [rdF_spec h h1 h2]
  rfl
theorem takenIn_beast (h : AX w n g) (hv : Vg g n) {u : Nat} (hu : u < n) (hk : w 30 12 = g 2 u) (hh : w 30 10 = hmn g n) {m : Nat} (h1 : 1 ≤ m) (h2 : m ≤ 200) : fX4_takenIn w (nI m) = some (tl2 g n u m) := by
  obtain ⟨⟨k, k1, k2⟩, -⟩ := hv.1 u hu
  obtain ⟨c, c1, c2⟩ := hv.2 m h1 h2
  have n4 : ¬ g 2 u = 4 := by rw [k2, nI_lit 4, nI_eq (by omega) (by omega)]; omega
  unfold fX4_takenIn
  rw [within_m h1 h2]
  simp only [bd1s, show ¬ (1 : Int32) = 0 by decide, if_false, hk, n4]
  rw [rdF_spec h h1 h2]
  simp only [bd1s]
  unfold tl2 tk
  by_cases c3 : g 2 u = 2
  · rw [if_pos c3]
    simp [c3, show ¬ (2 : Int32) = 1 by decide]
  · rw [if_neg c3]
    have eb : (if nI m ≤ 5 then some false else if nI m - nI m / 5 * 5 = 1 then if nI m ≤ w 30 10 then some false else some true else some false) = some (hp g n m) := by
      rw [hh]
      unfold hp
      have e1 := hmn_lt (g := g) h2 n
      have e2 : nI m - nI m / 5 * 5 = nI (m % 5) := md5_nI (by omega)
      have e3 : md5 (nI m) = nI (m % 5) := md5_nI (by omega)
      generalize an (fun k => decide (g 2 k = 2 ∧ g 3 k < nI m)) n = A at e1 ⊢
      rw [e2, e3, nI_lit 5, ifle (by omega) (by omega)]
      have e4 : (nI (m % 5) = 1) ↔ m % 5 = 1 := nI_eq (b := 1) (by omega) (by omega)
      have e5 : (1 < nI m) ↔ 1 < m := nI_ltI (a := 1) (by omega) (by omega)
      by_cases d1 : m ≤ 5
      · rw [if_pos d1]
        have : ¬ (1 < nI m ∧ nI (m % 5) = 1) := by rw [e4, e5]; omega
        simp [this]
      · rw [if_neg d1]
        by_cases d2 : nI (m % 5) = 1
        · rw [if_pos d2]
          have d3 : 1 < nI m := e5.mpr (by omega)
          by_cases d4 : nI m ≤ hmn g n
          · have d5 : ¬ hmn g n < nI m := by rw [i_lt]; rw [i_le] at d4; omega
            rw [e1] at d5
            rw [if_pos d4]
            simp [d5]
          · have d5 : hmn g n < nI m := by rw [i_lt]; rw [i_le] at d4; omega
            rw [e1] at d5
            rw [if_neg d4]
            simp [d5, d2, d3]
        · rw [if_neg d2]
          simp [d2]
    rw [eb]
    simp only [bd1s]
    cases hp g n m with
    | true =>
      simp [c3]
    | false =>
      simp only [Bool.false_eq_true, if_false, false_and]
      by_cases d1 : g 2 u = 1
      · rw [if_pos d1, c2]
        rcases (show c = 0 ∨ c = 1 ∨ c = 2 ∨ c = 3 ∨ c = 4 ∨ c = 5 by omega) with rfl | rfl | rfl | rfl | rfl | rfl
        all_goals (simp only [d1, true_and]; decide)
      · rw [if_neg d1]
        simp [d1]
theorem fld_eq (hd : w 30 9 = fd) (m : Nat) : (if 5 < nI m then some (0 : Int32) else if w 30 9 >>> (nI m - 1 &&& 31) &&& 1 = 1 then some 1 else some 0) = some (bI (fld fd m)) := by
  rw [hd]
  unfold fld
  by_cases c1 : 5 < nI m
  · simp [c1, bI]
  · by_cases c2 : fd >>> (nI m - 1 &&& 31) &&& 1 = 1
    · simp [c1, c2, bI]
    · simp [c1, c2, bI]
theorem sub_rc (a b c : Int32) : a - b - c = a - c - b := by
  simp only [Int32.sub_eq_add_neg, Int32.add_assoc, Int32.add_comm (-b)]
/-- a minute's yards of who is mounted, behind the minute from which it moves -/
theorem yards_spec (h : AX w n g) (hv : Vg g n) {u : Nat} (hu : u < n) (hp1 : w 30 11 = pu g n u) (hk : w 30 12 = kd g u) (hh : w 30 10 = hmn g n) (hd : w 30 9 = fd) {m : Nat} (h1 : 1 ≤ m) (h2 : m ≤ 200) (hf : fm g n u < nI m) : fX4_yardsIn w (nI m) = some (if fld fd m = true then 0 else yd g n u m) := by
  obtain ⟨⟨k, k1, k2⟩, ⟨t, t1, t2⟩, -⟩ := hv.1 u hu
  unfold fX4_yardsIn
  rw [fld_eq hd]
  simp only [bd1s]
  cases hfl : fld fd m with
  | true => rfl
  | false =>
    rw [bI_f, if_pos rfl, show (if false = true then (0 : Int32) else yd g n u m) = yd g n u m from if_neg (by decide)]
    unfold yd
    by_cases c : g 5 u = -4
    · unfold kd at hk
      unfold pu at hp1
      unfold fm at hf
      rw [if_pos c] at hk hp1 hf ⊢
      rw [hk, hp1]
      have ns : ¬ nI m ≤ g 3 u := by
        rw [t2] at hf ⊢
        rw [nI_leI (by omega) (by omega)]
        by_cases q : g 2 u = 3
        · rw [if_pos q, nI_lit 3, nI_add, nI_ltI (by omega) (by omega)] at hf
          omega
        · rw [if_neg q, nI_ltI (by omega) (by omega)] at hf
          omega
      unfold yb
      rw [if_neg ns]
      have e1 : (if g 2 u = 2 then if nI m - nI m / 5 * 5 = 0 then some true else some false else some false) = some (decide (g 2 u = 2 ∧ md5 (nI m) = 0)) := by
        unfold md5
        by_cases d1 : g 2 u = 2
        · by_cases d2 : nI m - nI m / 5 * 5 = 0
          · simp [d1, d2]
          · simp [d1, d2]
        · simp [d1]
      rw [e1]
      simp only [bd1s]
      by_cases d : g 2 u = 2 ∧ md5 (nI m) = 0
      · rw [if_pos (Or.inl d)]
        simp [d]
      · have d3 : ¬ (g 2 u = 3 ∧ ¬ g 3 u + 3 < nI m) := by
          rintro ⟨q1, q2⟩
          rw [if_pos q1] at hf
          exact q2 hf
        rw [decide_eq_false d, if_neg (show ¬ (g 2 u = 2 ∧ md5 (nI m) = 0 ∨ g 2 u = 3 ∧ ¬ g 3 u + 3 < nI m) from fun q => q.elim d d3), if_neg Bool.false_ne_true, takenIn_beast h hv hu hk hh h1 h2]
        simp only [bd1s]
        rw [at1_max, sub_rc]
    · unfold kd at hk
      unfold pu at hp1
      unfold fm at hf
      rw [if_neg c] at hk hp1 hf ⊢
      rw [hk, hp1]
      unfold yr
      rw [if_neg ((mxR_lt (by omega) (by omega) n).mp hf), if_neg (by decide)]
      simp only [bd1s]
      rw [if_neg (by decide), takenIn_raft h hk h1 h2]
      simp only [bd1s]
      rw [at1_max]
/-- ahead of that minute it makes none -/
theorem yd_zero (hv : Vg g n) {u : Nat} (hu : u < n) {m : Nat} (h1 : 1 ≤ m) (h2 : m ≤ 200) (hf : ¬ fm g n u < nI m) : yd g n u m = 0 := by
  obtain ⟨⟨k, k1, k2⟩, ⟨t, t1, t2⟩, -⟩ := hv.1 u hu
  unfold yd
  unfold fm at hf
  by_cases c : g 5 u = -4
  · rw [if_pos c] at hf ⊢
    unfold yb
    by_cases q : g 2 u = 3
    · rw [if_pos q] at hf
      by_cases z : nI m ≤ g 3 u
      · rw [if_pos z]
      · rw [if_neg z, if_pos (Or.inr ⟨q, hf⟩)]
    · rw [if_neg q] at hf
      rw [if_pos (by rw [i_le]; rw [i_lt] at hf; omega)]
  · rw [if_neg c] at hf ⊢
    unfold yr
    rw [if_pos (by
      have := (mxR_lt (g := g) (r := g 5 u) h1 (by omega) n)
      exact Decidable.byContradiction fun z => hf (this.mpr z))]
end XV
