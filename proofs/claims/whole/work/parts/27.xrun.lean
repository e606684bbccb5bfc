def L2 (x : Int32) : Int32 := if x = 999 then 201 else x
theorem n999 {m : Nat} (h : m ≤ 200) : nI m ≠ 999 := by
  intro q
  have := (nI_eq (a := m) (b := 999) (by omega) (by omega)).mp q
  omega
section XF
variable {w g : Mm} {n : Nat} {fd wd : Int32}
theorem fl_s {u m : Nat} : fl g n fd wd u (m + 1) = if fld fd (m + 1) = true then fl g n fd wd u m else if (fl g n fd wd u m).2 = 999 then ((fl g n fd wd u m).1 + yd g n u (m + 1), if (fl g n fd wd u m).1 + yd g n u (m + 1) < wd then 999 else nI (m + 1)) else fl g n fd wd u m := rfl
theorem fl_lt (hw : 0 < wd) {u : Nat} : ∀ m, m ≤ 200 → (fl g n fd wd u m).2 = 999 → (fl g n fd wd u m).1 < wd
  | 0, _, _ => hw
  | m + 1, hm, h => by
    have ih := fl_lt hw (u := u) m (by omega)
    unfold fl at h ⊢
    by_cases c : fld fd (m + 1) = true
    · rw [if_pos c] at h ⊢
      exact ih h
    · rw [if_neg c] at h ⊢
      by_cases c2 : (fl g n fd wd u m).2 = 999
      · rw [if_pos c2] at h ⊢
        dsimp only at h ⊢
        by_cases c3 : (fl g n fd wd u m).1 + yd g n u (m + 1) < wd
        · exact c3
        · rw [if_neg c3] at h
          exact absurd h (n999 hm)
      · rw [if_neg c2] at h
        exact absurd h c2
theorem fl_stay {u : Nat} {m : Nat} (h : (fl g n fd wd u m).2 ≠ 999) : ∀ k, fl g n fd wd u (m + k) = fl g n fd wd u m
  | 0 => rfl
  | k + 1 => by
    have ih := fl_stay h k
    show fl g n fd wd u (m + k + 1) = _
    rw [fl_s, ih]
    by_cases c : fld fd (m + k + 1) = true
    · rw [if_pos c]
    · rw [if_neg c, if_neg h]
theorem fl_rng {u : Nat} : ∀ m, (fl g n fd wd u m).2 = 999 ∨ ∃ k, 1 ≤ k ∧ k ≤ m ∧ (fl g n fd wd u m).2 = nI k
  | 0 => Or.inl rfl
  | m + 1 => by
    have ih := fl_rng (u := u) m
    have ih2 : (fl g n fd wd u m).2 = 999 ∨ ∃ k, 1 ≤ k ∧ k ≤ m + 1 ∧ (fl g n fd wd u m).2 = nI k := ih.imp id (fun ⟨k, a, b, c⟩ => ⟨k, a, by omega, c⟩)
    unfold fl
    by_cases c : fld fd (m + 1) = true
    · rw [if_pos c]
      exact ih2
    · rw [if_neg c]
      by_cases c2 : (fl g n fd wd u m).2 = 999
      · rw [if_pos c2]
        dsimp only
        by_cases c3 : (fl g n fd wd u m).1 + yd g n u (m + 1) < wd
        · rw [if_pos c3]
          exact Or.inl rfl
        · rw [if_neg c3]
          exact Or.inr ⟨m + 1, by omega, by omega, rfl⟩
      · rw [if_neg c2]
        exact ih2
theorem mxR_nat (hv : Vg g n) {r : Int32} : ∀ k, k ≤ n → ∃ t, t ≤ 30 ∧ mxR g r k = nI t
  | 0, _ => ⟨0, by omega, rfl⟩
  | k + 1, hk => by
    obtain ⟨t, t1, t2⟩ := mxR_nat hv (r := r) k (by omega)
    obtain ⟨-, ⟨s, s1, s2⟩, -⟩ := hv.1 k (by omega)
    unfold mxR
    split
    · split
      · exact ⟨s, s1, s2⟩
      · exact ⟨t, t1, t2⟩
    · exact ⟨t, t1, t2⟩
theorem fm_nat (hv : Vg g n) {u : Nat} (hu : u < n) : ∃ f, f ≤ 33 ∧ fm g n u = nI f := by
  obtain ⟨-, ⟨s, s1, s2⟩, -⟩ := hv.1 u hu
  unfold fm
  split
  · split
    · exact ⟨s + 3, by omega, by rw [s2, nI_lit 3, nI_add]⟩
    · exact ⟨s, by omega, s2⟩
  · obtain ⟨t, t1, t2⟩ := mxR_nat hv (r := g 5 u) n (Nat.le_refl n)
    exact ⟨t, by omega, t2⟩
theorem fl_zero (hv : Vg g n) (hw : 0 < wd) {u : Nat} (hu : u < n) {f : Nat} (hf : fm g n u = nI f) (hf2 : f ≤ 33) : ∀ m, m ≤ f → fl g n fd wd u m = (0, 999)
  | 0, _ => rfl
  | m + 1, hm => by
    have ih := fl_zero hv hw hu hf hf2 m (by omega)
    rw [fl_s, ih, yd_zero hv hu (by omega) (by omega) (by rw [hf, nI_ltI (by omega) (by omega)]; omega)]
    split
    · rfl
    · rw [if_pos rfl]
      rw [show (0 : Int32) + 0 = 0 from rfl, if_pos hw]
theorem move_loop (hv : Vg g n) (hw : 0 < wd) {u : Nat} (hu : u < n) {f M : Nat} (hf : fm g n u = nI f) (hf2 : f ≤ 33) (hM : M ≤ 200) : ∀ (fu m : Nat) (w : Mm), AX w n g → w 30 11 = pu g n u → w 30 12 = kd g u → w 30 10 = hmn g n → w 30 9 = fd → w 30 8 = wd → f ≤ m → m ≤ M → M - m < fu → w 30 14 = (fl g n fd wd u m).1 → (fl g n fd wd u m).2 = 999 → ∃ w', LX4_moveUntil_12 (nI M) fu (nI (m + 1)) w = some (L2 (fl g n fd wd u M).2, w') ∧ w' 30 14 = (fl g n fd wd u M).1 ∧ (∀ a, a ≠ 30 → w' a = w a) ∧ ∀ j, j ≠ 14 → w' 30 j = w 30 j := by
  intro fu
  induction fu with
  | zero => intro m w _ _ _ _ _ _ _ _ h; omega
  | succ fu ih =>
    intro m w h e11 e12 e10 e9 e8 hfm hmM hfu hfar hln
    rw [LX4_moveUntil_12, iflt (by omega) (by omega)]
    by_cases c : M < m + 1
    · rw [if_pos c]
      have : m = M := by omega
      subst this
      exact ⟨w, by rw [hln]; rfl, hfar, fun _ _ => rfl, fun _ _ => rfl⟩
    · rw [if_neg c, yards_spec h hv hu e11 e12 e10 e9 (by omega) (by omega) (by rw [hf, nI_ltI (by omega) (by omega)]; omega), nI_1]
      simp only [bd1s, pts]
      rw [st_kj, st_ki (by omega), e8, hfar]
      generalize hw2 : st w 30 14 ((fl g n fd wd u m).1 + if fld fd (m + 1) = true then 0 else yd g n u (m + 1)) = w2
      have f1 : ∀ a, a ≠ 30 → w2 a = w a := fun a q => by rw [← hw2, st_a q]
      have f2 : ∀ j, j ≠ 14 → w2 30 j = w 30 j := fun j q => by rw [← hw2, st_ki q]
      have h14 : w2 30 14 = (fl g n fd wd u m).1 + if fld fd (m + 1) = true then 0 else yd g n u (m + 1) := by rw [← hw2, st_kj]
      have go : (fl g n fd wd u (m + 1)).2 = 999 → w2 30 14 = (fl g n fd wd u (m + 1)).1 → ∃ w', LX4_moveUntil_12 (nI M) fu (nI (m + 1 + 1)) w2 = some (L2 (fl g n fd wd u M).2, w') ∧ w' 30 14 = (fl g n fd wd u M).1 ∧ (∀ a, a ≠ 30 → w' a = w a) ∧ ∀ j, j ≠ 14 → w' 30 j = w 30 j := by
        intro q1 q2
        obtain ⟨w', r1, r2, r3, r4⟩ := ih (m + 1) w2 (h.kept (f2 6 (by omega)) (f2 7 (by omega)) (fun a _ _ q _ _ _ => f1 a q)) (by rw [f2 11 (by omega)]; exact e11) (by rw [f2 12 (by omega)]; exact e12) (by rw [f2 10 (by omega)]; exact e10) (by rw [f2 9 (by omega)]; exact e9) (by rw [f2 8 (by omega)]; exact e8) (by omega) (by omega) (by omega) q2 q1
        exact ⟨w', r1, r2, fun a q => by rw [r3 a q, f1 a q], fun j q => by rw [r4 j q, f2 j q]⟩
      by_cases cf : fld fd (m + 1) = true
      · rw [if_pos cf] at h14 ⊢
        rw [Int32.add_zero] at h14 ⊢
        have e1 : fl g n fd wd u (m + 1) = fl g n fd wd u m := by rw [fl, if_pos cf]
        rw [if_pos (fl_lt hw m (by omega) hln)]
        exact go (by rw [e1]; exact hln) (by rw [e1]; exact h14)
      · rw [if_neg cf] at h14 ⊢
        have e1 : fl g n fd wd u (m + 1) = ((fl g n fd wd u m).1 + yd g n u (m + 1), if (fl g n fd wd u m).1 + yd g n u (m + 1) < wd then 999 else nI (m + 1)) := by rw [fl, if_neg cf, if_pos hln]
        by_cases c3 : (fl g n fd wd u m).1 + yd g n u (m + 1) < wd
        · rw [if_pos c3]
          rw [if_pos c3] at e1
          exact go (by rw [e1]) (by rw [e1]; exact h14)
        · rw [if_neg c3]
          rw [if_neg c3] at e1
          have e2 : fl g n fd wd u M = fl g n fd wd u (m + 1) := by
            have := fl_stay (g := g) (n := n) (fd := fd) (wd := wd) (u := u) (m := m + 1) (by rw [e1]; exact n999 (by omega)) (M - (m + 1))
            rwa [show m + 1 + (M - (m + 1)) = M by omega] at this
          rw [e2, e1]
          refine ⟨w2, ?_, h14, f1, f2⟩
          unfold L2
          rw [if_neg (n999 (by omega))]
/-- a beast that is mounted moves until minute M -/
theorem move_spec (h : AX w n g) (hv : Vg g n) (hw : 0 < wd) {u : Nat} (hu : u < n) (e11 : w 30 11 = pu g n u) (e12 : w 30 12 = kd g u) (e13 : w 30 13 = fm g n u) (e10 : w 30 10 = hmn g n) (e9 : w 30 9 = fd) (e8 : w 30 8 = wd) {M : Nat} (hM : M ≤ 200) : ∃ w', fX4_moveUntil w (nI M) = some (L2 (fl g n fd wd u M).2, w') ∧ w' 30 14 = (fl g n fd wd u M).1 ∧ (∀ a, a ≠ 30 → w' a = w a) ∧ ∀ j, j ≠ 14 → w' 30 j = w 30 j := by
  obtain ⟨f, f1, f2⟩ := fm_nat hv hu
  unfold fX4_moveUntil
  simp only [pts, bd1s]
  rw [st_ki (by omega), e13, f2, nI_1]
  by_cases c : f ≤ M
  · have hz := fl_zero hv hw hu f2 f1 f (Nat.le_refl f) (fd := fd)
    obtain ⟨w', r1, r2, r3, r4⟩ := move_loop (fd := fd) hv hw hu f2 f1 hM 1000 f (st w 30 14 0) (h.kept (st_ki (by omega)) (st_ki (by omega)) (fun a _ _ q _ _ _ => st_a q)) (by rw [st_ki (by omega)]; exact e11) (by rw [st_ki (by omega)]; exact e12) (by rw [st_ki (by omega)]; exact e10) (by rw [st_ki (by omega)]; exact e9) (by rw [st_ki (by omega)]; exact e8) (Nat.le_refl f) c (by omega) (by rw [st_kj, hz]) (by rw [hz])
    exact ⟨w', r1, r2, fun a q => by rw [r3 a q, st_a q], fun j q => by rw [r4 j q, st_ki q]⟩
  · have hz := fl_zero hv hw hu f2 f1 M (by omega) (fd := fd)
    rw [show (1000 : Nat) = 999 + 1 from rfl, LX4_moveUntil_12, iflt (by omega) (by omega), if_pos (by omega), hz]
    exact ⟨_, rfl, st_kj, fun a q => st_a q, fun j q => st_ki q⟩
/-- when a beast lands -/
def la (g : Mm) (n : Nat) (fd wd : Int32) (i : Nat) : Int32 := (fl g n fd wd (mv g i) 200).2
theorem run_land (hv : Vg g n) (hr : Rd g n) (hw : 0 < wd) : ∀ (fu k : Nat) (w : Mm), AX w n g → w 30 9 = fd → w 30 8 = wd → k ≤ n → n - k < fu → (∀ i, i < k → w 33 i = L2 (la g n fd wd i)) → ∃ w', LX4_run_2 fu (nI k) w = some w' ∧ (∀ i, i < n → w' 33 i = L2 (la g n fd wd i)) ∧ (∀ a, a ≠ 30 → a ≠ 33 → w' a = w a) ∧ ∀ j, j < 10 → w' 30 j = w 30 j := by
  intro fu
  induction fu with
  | zero => intro k w _ _ _ _ h; omega
  | succ fu ih =>
    intro k w h e9 e8 hk hf hI
    obtain ⟨h1, h2, h3, -⟩ := id h
    rw [LX4_run_2]
    simp only [gqs h3, bd1s, h1]
    rw [ifle (by omega) (by omega)]
    by_cases c : n ≤ k
    · rw [if_pos c]
      exact ⟨w, rfl, fun i hi => hI i (by omega), fun _ _ _ => rfl, fun _ _ => rfl⟩
    · rw [if_neg c]
      obtain ⟨w1, a1, a2, a3, a4, a5, a6, a7⟩ := mount_spec h hr (show k < n by omega)
      rw [a1]
      simp only [bd1s]
      have hmv := mv_lt hr (show k < n by omega) (by omega)
      obtain ⟨w2, b1, b2, b3, b4⟩ := move_spec (fd := fd) (wd := wd) (h.kept (w' := w1) (a7 6 (by omega)) (a7 7 (by omega)) (fun a _ _ q _ _ _ => a6 a q)) hv hw hmv.1 a2 a3 a4 a5 (by rw [a7 9 (by omega)]; exact e9) (by rw [a7 8 (by omega)]; exact e8) (show 200 ≤ 200 by omega)
      rw [nI_lit 200, b1]
      simp only [bd2s]
      rw [wrN (j := k) (by omega) (by omega), nI_1]
      simp only [bd1s]
      generalize hw3 : st w2 33 k (L2 (fl g n fd wd (mv g k) 200).2) = w3
      have f1 : ∀ a, a ≠ 30 → a ≠ 33 → w3 a = w a := fun a q1 q2 => by rw [← hw3, st_a q2, b3 a q1, a6 a q1]
      have f2 : ∀ j, j < 10 → w3 30 j = w 30 j := fun j q => by rw [← hw3, st_a (by omega), b4 j (by omega), a7 j (by omega)]
      obtain ⟨w', r1, r2, r3, r4⟩ := ih (k + 1) w3 (h.kept (f2 6 (by omega)) (f2 7 (by omega)) (fun a _ _ q1 q2 _ _ => f1 a q1 q2)) (by rw [f2 9 (by omega)]; exact e9) (by rw [f2 8 (by omega)]; exact e8) (by omega) (by omega) (by
        intro i hi
        by_cases hik : i = k
        · subst hik
          rw [← hw3, st_kj]
          rfl
        · rw [← hw3, st_ki hik, b3 33 (by omega), a6 33 (by omega)]
          exact hI i (by omega))
      exact ⟨w', r1, r2, fun a q1 q2 => by rw [r3 a q1 q2, f1 a q1 q2], fun j q => by rw [r4 j q, f2 j q]⟩
end XF
