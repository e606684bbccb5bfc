section MX
variable {τ g : Mm} {b n m : Nat} {fd wd : Int32}
def Iv (τ g : Mm) (n : Nat) (fd wd : Int32) (k m : Nat) : Prop := ∀ i, i < n → τ 19 i = (if g 4 i = -4 then fl g n fd wd i (if i < k then m + 1 else m) else (0, 999)).1 ∧ τ 20 i = (if g 4 i = -4 then fl g n fd wd i (if i < k then m + 1 else m) else (0, 999)).2
theorem yd_spec (h : AM τ b n g) {i : Nat} (hi : i < n) : (if g 5 i = -4 then bd1 (fX9_strokeOf τ (nI b) (nI i) (nI m) (g 7 m) (bI (hp g n m))) fun v29 => some v29 else bd1 (fX9_raftStroke τ (nI b) (g 5 i) (nI m) (g 7 m)) fun v28 => some v28) = some (yd g n i m) := by
  unfold yd
  by_cases c : g 5 i = -4
  · rw [if_pos c, if_pos c, stroke_spec h hi]
    rfl
  · rw [if_neg c, if_neg c]
    obtain ⟨-, -, -, -, -, -, -, R, rm, h8, h9, h10, h11⟩ := id h
    obtain ⟨k, hk, hk1⟩ := h11 i hi c
    have hk2 := (h9 k hk).2.2
    rw [hk1] at hk2
    rw [hk2, raftStroke_spec h hi hk2 (by omega)]
    rfl
theorem cross_in (hm : m + 1 ≤ 200) (hfl : fld fd (m + 1) = false) : ∀ (fu k : Nat) (τ : Mm), AM τ b n g → τ 0 23 = wd → k ≤ n → n - k < fu → Iv τ g n fd wd k m → ∃ τ', LX9_cross_81 (nI b) (nI (m + 1)) (g 7 (m + 1)) (bI (hp g n (m + 1))) 0 fu (nI k) τ = some τ' ∧ Iv τ' g n fd wd n m ∧ ∀ a, a ≠ 19 → a ≠ 20 → τ' a = τ a := by
  intro fu
  induction fu with
  | zero => intro k τ _ _ _ h; omega
  | succ fu ih =>
    intro k τ h hw hk hf hI
    have h1 := h.1
    have h2 := h.2.1
    have h3 := h.2.2.1
    rw [LX9_cross_81]
    simp only [rd0 (n := 2) (by omega) (by omega), bd1s, h1]
    rw [ifle (by omega) (by omega)]
    by_cases hkn : n ≤ k
    · rw [if_pos hkn]
      exact ⟨τ, rfl, by rwa [show k = n by omega] at hI, fun _ _ _ => rfl⟩
    · rw [if_neg hkn, if_pos trivial, h.2.2.2.2.1 k (by omega)]
      obtain ⟨-, -, -, -, e4⟩ := h.2.2.2.1 k (by omega)
      simp only [bd1s]
      rw [ix8, rdN (j := b + 8 + k) (by omega) (by omega), e4, nI_1]
      simp only [bd1s]
      obtain ⟨i1, i2⟩ := hI k (by omega)
      rw [if_neg (Nat.lt_irrefl k)] at i1 i2
      by_cases c : g 4 k = -4
      · rw [if_pos c] at i1 i2
        rw [if_pos c, rdN (k := 20) (j := k) (by omega) (by omega), i2]
        simp only [bd1s]
        by_cases c9 : (fl g n fd wd k m).2 = 999
        · rw [if_pos c9, rdN (k := 19) (j := k) (by omega) (by omega), i1]
          simp only [bd1s]
          rw [yd_spec h (by omega)]
          simp only [bd1s]
          rw [wrN (j := k) (by omega) (by omega)]
          simp only [bd1s]
          rw [rdN (k := 19) (j := k) (by omega) (by omega), st_kj, st_a (by omega), hw]
          simp only [bd1s]
          have ew : (if (fl g n fd wd k m).1 + yd g n k (m + 1) < wd then some (999 : Int32) else some (nI (m + 1))) = some (if (fl g n fd wd k m).1 + yd g n k (m + 1) < wd then 999 else nI (m + 1)) := by split <;> rfl
          rw [ew]
          simp only [bd1s]
          rw [wrN (j := k) (by omega) (by omega)]
          simp only [bd1s]
          generalize hτ : st (st τ 19 k ((fl g n fd wd k m).1 + yd g n k (m + 1))) 20 k (if (fl g n fd wd k m).1 + yd g n k (m + 1) < wd then 999 else nI (m + 1)) = τ2
          have fr : ∀ a, a ≠ 19 → a ≠ 20 → τ2 a = τ a := fun a q1 q2 => by rw [← hτ, st_a q2, st_a q1]
          have hfl2 : fl g n fd wd k (m + 1) = ((fl g n fd wd k m).1 + yd g n k (m + 1), if (fl g n fd wd k m).1 + yd g n k (m + 1) < wd then 999 else nI (m + 1)) := by
            rw [fl, hfl, if_neg (by decide), if_pos c9]
          obtain ⟨τ', r1, r2, r3⟩ := ih (k + 1) τ2 (h.kept (by rw [fr 0 (by omega) (by omega)]) (fun a _ q => fr a (by omega) (by omega))) (by rw [fr 0 (by omega) (by omega)]; exact hw) (by omega) (by omega) (by
            intro i hi
            by_cases hik : i = k
            · subst hik
              rw [if_pos c, if_pos (by omega), hfl2, ← hτ]
              exact ⟨by rw [st_a (by omega), st_kj], st_kj⟩
            · obtain ⟨j1, j2⟩ := hI i hi
              rw [← hτ, st_a (by omega), st_ki hik, st_ki hik, st_a (by omega)]
              have hc : (if i < k + 1 then m + 1 else m) = (if i < k then m + 1 else m) := by
                by_cases q : i < k
                · rw [if_pos q, if_pos (by omega)]
                · rw [if_neg q, if_neg (by omega)]
              rw [hc]
              exact ⟨j1, j2⟩)
          exact ⟨τ', r1, r2, fun a q1 q2 => by rw [r3 a q1 q2, fr a q1 q2]⟩
        · rw [if_neg c9]
          simp only [bd1s]
          have hfl2 : fl g n fd wd k (m + 1) = fl g n fd wd k m := by
            rw [fl, hfl, if_neg (by decide), if_neg c9]
          refine ih (k + 1) τ h hw (by omega) (by omega) (fun i hi => ?_)
          obtain ⟨j1, j2⟩ := hI i hi
          by_cases hik : i = k
          · subst hik
            rw [if_neg (Nat.lt_irrefl i)] at j1 j2
            rw [if_pos (show i < i + 1 by omega), hfl2]
            exact ⟨j1, j2⟩
          · have hc : (if i < k + 1 then m + 1 else m) = (if i < k then m + 1 else m) := by
              by_cases q : i < k
              · rw [if_pos q, if_pos (by omega)]
              · rw [if_neg q, if_neg (by omega)]
            rw [hc]
            exact ⟨j1, j2⟩
      · rw [if_neg c]
        simp only [bd1s]
        refine ih (k + 1) τ h hw (by omega) (by omega) (fun i hi => ?_)
        obtain ⟨j1, j2⟩ := hI i hi
        by_cases hik : i = k
        · subst hik
          rw [if_neg c] at j1 j2 ⊢
          exact ⟨j1, j2⟩
        · have hc : (if i < k + 1 then m + 1 else m) = (if i < k then m + 1 else m) := by
            by_cases q : i < k
            · rw [if_pos q, if_pos (by omega)]
            · rw [if_neg q, if_neg (by omega)]
          rw [hc]
          exact ⟨j1, j2⟩
theorem cross_min {M : Nat} (hM : M ≤ 200) : ∀ (fu m : Nat) (τ : Mm), AM τ b n g → τ 0 23 = wd → τ 0 24 = fd → m ≤ M → M - m < fu → Iv τ g n fd wd 0 m → ∃ τ', LX9_cross_32 (nI b) (nI M) fu (nI (m + 1)) τ = some τ' ∧ Iv τ' g n fd wd 0 M ∧ ∀ a, a ≠ 19 → a ≠ 20 → τ' a = τ a := by
  intro fu
  induction fu with
  | zero => intro m τ _ _ _ _ h; omega
  | succ fu ih =>
    intro m τ h hw hd hm hf hI
    have h2 := h.2.1
    rw [LX9_cross_32, iflt (by omega) (by omega)]
    by_cases hmM : M < m + 1
    · rw [if_pos hmM]
      exact ⟨τ, rfl, by rwa [show m = M by omega] at hI, fun _ _ _ => rfl⟩
    · rw [if_neg hmM, h.2.2.2.2.2.2.1 (m + 1) (by omega) (by omega), help_spec h, nI_1]
      simp only [bd1s]
      have ef : (if 5 < nI (m + 1) then some (0 : Int32) else if τ 0 24 >>> (nI (m + 1) - 1 &&& 31) &&& 1 = 1 then some 1 else some 0) = some (bI (fld fd (m + 1))) := by
        rw [hd]
        unfold fld
        by_cases c1 : 5 < nI (m + 1)
        · simp [c1, bI]
        · by_cases c2 : fd >>> (nI (m + 1) - 1 &&& 31) &&& 1 = 1
          · simp [c1, c2, bI]
          · simp [c1, c2, bI]
      rw [ef]
      simp only [bd1s]
      cases hfl : fld fd (m + 1) with
      | false =>
        rw [bI_f]
        obtain ⟨τ1, r1, r2, r3⟩ := cross_in (fd := fd) (wd := wd) (by omega) hfl 1000 0 τ h hw (by omega) (by omega) hI
        rw [← nI_lit0] at r1
        rw [r1]
        simp only [bd1s]
        obtain ⟨τ', s1, s2, s3⟩ := ih (m + 1) τ1 (h.kept (by rw [r3 0 (by omega) (by omega)]) (fun a _ q => r3 a (by omega) (by omega))) (by rw [r3 0 (by omega) (by omega)]; exact hw) (by rw [r3 0 (by omega) (by omega)]; exact hd) (by omega) (by omega) (by
          intro i hi
          have j := r2 i hi
          rw [if_pos hi] at j
          rw [if_neg (show ¬ i < 0 by omega)]
          exact j)
        exact ⟨τ', s1, s2, fun a q1 q2 => by rw [s3 a q1 q2, r3 a q1 q2]⟩
      | true =>
        have e1 : LX9_cross_81 (nI b) (nI (m + 1)) (g 7 (m + 1)) (bI (hp g n (m + 1))) (bI true) 1000 0 τ = some τ := by
          rw [show (1000 : Nat) = 999 + 1 from rfl, LX9_cross_81]
          simp only [rd0 (n := 2) (by omega) (by omega), bd1s]
          split
          · rfl
          · rw [bI_t, if_neg (by decide)]
        rw [e1]
        simp only [bd1s]
        refine ih (m + 1) τ h hw hd (by omega) (by omega) (fun i hi => ?_)
        have j := hI i hi
        rw [if_neg (show ¬ i < 0 by omega)] at j ⊢
        have hfl2 : fl g n fd wd i (m + 1) = fl g n fd wd i m := by rw [fl, if_pos hfl]
        rw [hfl2]
        exact j
theorem cross_zero : ∀ (fu k : Nat) (τ : Mm), k ≤ 8 → 8 - k < fu → (∀ i, i < k → τ 19 i = 0 ∧ τ 20 i = 999) → ∃ τ', LX9_cross_2 fu (nI k) τ = some τ' ∧ (∀ i, i < 8 → τ' 19 i = 0 ∧ τ' 20 i = 999) ∧ ∀ a, a ≠ 19 → a ≠ 20 → τ' a = τ a := by
  intro fu
  induction fu with
  | zero => intro k τ _ h; omega
  | succ fu ih =>
    intro k τ hk hf hI
    rw [LX9_cross_2, nI_lit 8, ifle (by omega) (by omega)]
    by_cases h8 : 8 ≤ k
    · rw [if_pos h8]
      exact ⟨τ, rfl, fun i hi => hI i (by omega), fun _ _ _ => rfl⟩
    · rw [if_neg h8, wrN (j := k) (by omega) (by omega)]
      simp only [bd1s]
      rw [wrN (j := k) (by omega) (by omega), nI_1]
      simp only [bd1s]
      obtain ⟨τ', r1, r2, r3⟩ := ih (k + 1) (st (st τ 19 k 0) 20 k 999) (by omega) (by omega) (by
        intro i hi
        by_cases hik : i = k
        · subst hik
          exact ⟨by rw [st_a (by omega), st_kj], st_kj⟩
        · rw [st_a (by omega), st_ki hik, st_ki hik, st_a (by omega)]
          exact hI i (by omega))
      exact ⟨τ', r1, r2, fun a q1 q2 => by rw [r3 a q1 q2, st_a q2, st_a q1]⟩
/-- whom one rides on: a beast that does not ride -/
def Rd (g : Mm) (n : Nat) : Prop := ∀ i, i < n → g 4 i ≠ -4 → ∃ j, j < n ∧ g 4 i = nI j ∧ g 4 j = -4
theorem mv_lt (h : Rd g n) {i : Nat} (hi : i < n) (hn : n < 2 ^ 31) : mv g i < n ∧ g 4 (mv g i) = -4 := by
  unfold mv
  by_cases c : g 4 i = -4
  · rw [if_pos c]
    exact ⟨hi, c⟩
  · rw [if_neg c]
    obtain ⟨j, h1, h2, h3⟩ := h i hi c
    rw [h2, nI_clamp (by omega)]
    exact ⟨h1, h3⟩
theorem cross_ride {M : Nat} (hr : Rd g n) : ∀ (fu k : Nat) (τ : Mm), AM τ b n g → k ≤ n → n - k < fu → (∀ i, i < n → g 4 i = -4 → τ 19 i = (fl g n fd wd i M).1 ∧ τ 20 i = (fl g n fd wd i M).2) → (∀ i, i < k → τ 19 i = (fl g n fd wd (mv g i) M).1 ∧ τ 20 i = (fl g n fd wd (mv g i) M).2) → ∃ τ', LX9_cross_219 (nI b) fu (nI k) τ = some τ' ∧ (∀ i, i < n → τ' 19 i = (fl g n fd wd (mv g i) M).1 ∧ τ' 20 i = (fl g n fd wd (mv g i) M).2) ∧ ∀ a, a ≠ 19 → a ≠ 20 → τ' a = τ a := by
  intro fu
  induction fu with
  | zero => intro k τ _ _ h; omega
  | succ fu ih =>
    intro k τ h hk hf hI hK
    have h1 := h.1
    have h2 := h.2.1
    have h3 := h.2.2.1
    rw [LX9_cross_219]
    simp only [rd0 (n := 2) (by omega) (by omega), bd1s, h1]
    rw [ifle (by omega) (by omega)]
    by_cases hkn : n ≤ k
    · rw [if_pos hkn]
      exact ⟨τ, rfl, fun i hi => hK i (by omega), fun _ _ _ => rfl⟩
    · rw [if_neg hkn]
      obtain ⟨-, -, -, -, e4⟩ := h.2.2.2.1 k (by omega)
      rw [ix8, rdN (j := b + 8 + k) (by omega) (by omega), e4, nI_1]
      simp only [bd1s]
      by_cases c : g 4 k = -4
      · rw [if_pos c]
        simp only [bd1s]
        refine ih (k + 1) τ h (by omega) (by omega) hI (fun i hi => ?_)
        by_cases hik : i = k
        · subst hik
          rw [show mv g i = i by unfold mv; rw [if_pos c]]
          exact hI i (by omega) c
        · exact hK i (by omega)
      · rw [if_neg c]
        obtain ⟨j, j1, j2, j3⟩ := hr k (by omega) c
        have hjk : j ≠ k := fun q => c (by rw [← q]; exact j3)
        have hmv : mv g k = j := by unfold mv; rw [if_neg c, j2, nI_clamp (by omega)]
        rw [j2, rdN (k := 19) (j := j) (by omega) (by omega)]
        simp only [bd1s]
        rw [wrN (j := k) (by omega) (by omega)]
        simp only [bd1s]
        rw [rdN (k := 20) (j := j) (by omega) (by omega)]
        simp only [bd1s]
        rw [wrN (j := k) (by omega) (by omega)]
        simp only [bd1s]
        rw [st_a (a := 20) (k := 19) (by omega), (hI j j1 j3).1, (hI j j1 j3).2]
        generalize hτ : st (st τ 19 k (fl g n fd wd j M).1) 20 k (fl g n fd wd j M).2 = τ2
        have fr : ∀ a, a ≠ 19 → a ≠ 20 → τ2 a = τ a := fun a q1 q2 => by rw [← hτ, st_a q2, st_a q1]
        have oth : ∀ i, i ≠ k → τ2 19 i = τ 19 i ∧ τ2 20 i = τ 20 i := fun i q => by rw [← hτ, st_a (by omega), st_ki q, st_ki q, st_a (by omega)]; exact ⟨rfl, rfl⟩
        obtain ⟨τ', r1, r2, r3⟩ := ih (k + 1) τ2 (h.kept (by rw [fr 0 (by omega) (by omega)]) (fun a _ q => fr a (by omega) (by omega))) (by omega) (by omega)
          (fun i hi q => by rw [(oth i (fun z => c (by rw [← z]; exact q))).1, (oth i (fun z => c (by rw [← z]; exact q))).2]; exact hI i hi q)
          (fun i hi => by
            by_cases hik : i = k
            · subst hik
              rw [hmv, ← hτ]
              exact ⟨by rw [st_a (by omega), st_kj], st_kj⟩
            · rw [(oth i hik).1, (oth i hik).2]
              exact hK i (by omega))
        exact ⟨τ', r1, r2, fun a q1 q2 => by rw [r3 a q1 q2, fr a q1 q2]⟩
/-- THE REFERENCE'S CROSSING: where each is, and when it landed -/
theorem cross_spec {M : Nat} (h : AM τ b n g) (hr : Rd g n) (hM : M ≤ 200) (hw : τ 0 23 = wd) (hd : τ 0 24 = fd) : ∃ τ', fX9_cross τ (nI b) (nI M) = some τ' ∧ (∀ i, i < n → τ' 19 i = (fl g n fd wd (mv g i) M).1 ∧ τ' 20 i = (fl g n fd wd (mv g i) M).2) ∧ ∀ a, a ≠ 19 → a ≠ 20 → τ' a = τ a := by
  have h2 := h.2.1
  unfold fX9_cross
  obtain ⟨τ1, a1, a2, a3⟩ := cross_zero 1000 0 τ (by omega) (by omega) (fun i hi => absurd hi (by omega))
  have k1 := h.kept (τ' := τ1) (by rw [a3 0 (by omega) (by omega)]) (fun a _ q => a3 a (by omega) (by omega))
  obtain ⟨τ2, b1, b2, b3⟩ := cross_min (g := g) (b := b) (n := n) (fd := fd) (wd := wd) hM 1000 0 τ1 k1 (by rw [a3 0 (by omega) (by omega)]; exact hw) (by rw [a3 0 (by omega) (by omega)]; exact hd) (by omega) (by omega) (by
    intro i hi
    rw [(a2 i (by omega)).1, (a2 i (by omega)).2, if_neg (show ¬ i < 0 by omega)]
    split <;> exact ⟨rfl, rfl⟩)
  have k2 := k1.kept (τ' := τ2) (by rw [b3 0 (by omega) (by omega)]) (fun a _ q => b3 a (by omega) (by omega))
  obtain ⟨τ3, c1, c2, c3⟩ := cross_ride (fd := fd) (wd := wd) (M := M) hr 1000 0 τ2 k2 (by omega) (by omega) (by
    intro i hi q
    have j := b2 i hi
    rw [if_pos q, if_neg (show ¬ i < 0 by omega)] at j
    exact j) (fun i hi => absurd hi (by omega))
  refine ⟨τ3, ?_, c2, fun a q1 q2 => by rw [c3 a q1 q2, b3 a q1 q2, a3 a q1 q2]⟩
  rw [nI_lit0, a1]
  simp only [bd1s]
  rw [nI_lit 1, show (1 : Nat) = 0 + 1 from rfl, b1]
  simp only [bd1s]
  rw [c1]
  rfl
end MX
