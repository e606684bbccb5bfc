section RI
variable {w τ g : Mm} {n wd z : Nat} {so sr : Nat → Nat} {L : Nat → Int32}
/-- the class tries one ride -/
theorem explains_spec (v1 : Vs g n) (v3 : Vo g n) (hw1 : 1 ≤ wd) (hw2 : wd ≤ 99) (hz : z ≤ 6) {i j : Nat} (hi : i < n) (ho : Ok g n (g 3) (upd (fun _ => -4) i (nI j))) (hax : AX w n (gs g (g 3) (fun _ => -4))) (e9 : w 30 9 = 0) (e8 : w 30 8 = nI wd) (h44 : w 44 2 = nI z) (hsn : ∀ k, k < z → so k < n ∧ sr k ≤ 8 ∧ w 45 k = nI (so k) ∧ w 46 k = nI (sr k)) : ∃ w', fX8_explains w (nI i) (nI j) = some (bI (ag (rk (gs g (g 3) (upd (fun _ => -4) i (nI j))) n (la (gs g (g 3) (upd (fun _ => -4) i (nI j))) n 0 (nI wd))) so sr z), w') ∧ AX w' n (gs g (g 3) (fun _ => -4)) ∧ w' 30 9 = 0 ∧ w' 30 8 = nI wd ∧ lookX w w' := by
  have hn := hax.2.1
  have hax2 := AX_32 (i := i) (v := nI j) hax
  obtain ⟨wb, f1, f2, f3, f4, f5, f6⟩ := run_spec (fd := 0) (wd := nI wd) hax2 (Vg_of (Vs_gs v1) (Ok_gs ho)) (Rd_of (Ok_gs ho)) (Vo_gs v3) (nI_lt (a := 0) (by omega) (by omega)) (by rw [st_a (by omega)]; exact e9) (by rw [st_a (by omega)]; exact e8)
  have hax3 := AX_32 (i := i) (v := -4) (hax2.kept (w' := wb) (f6 6 (by omega)) (f6 7 (by omega)) (fun a _ _ q1 q2 q3 q4 => f5 a q1 q2 q3 q4))
  rw [upd_upd, show upd (fun _ => (-4 : Int32)) i (-4) = fun _ => -4 by funext k; unfold upd; split <;> rfl] at hax3
  have fr : ∀ a, a ≠ 30 → a ≠ 32 → a ≠ 33 → a ≠ 34 → a ≠ 35 → st wb 32 i (-4) a = w a := fun a q1 q2 q3 q4 q5 => by rw [st_a q2, f5 a q1 q3 q4 q5, st_a q2]
  have hag := agree_spec (so := so) (sr := sr) (g := gs g (g 3) (upd (fun _ => -4) i (nI j))) (L := la (gs g (g 3) (upd (fun _ => -4) i (nI j))) n 0 (nI wd)) (w := st wb 32 i (-4)) hn hz (by rw [fr 44 (by omega) (by omega) (by omega) (by omega) (by omega)]; exact h44) (fun k hk => by
    rw [fr 45 (by omega) (by omega) (by omega) (by omega) (by omega), fr 46 (by omega) (by omega) (by omega) (by omega) (by omega)]
    exact hsn k hk) (fun q hq => by rw [st_a (by omega)]; exact f3 q hq)
  refine ⟨st wb 32 i (-4), ?_, hax3, by rw [st_a (by omega), f6 9 (by omega), st_a (by omega)]; exact e9, by rw [st_a (by omega), f6 8 (by omega), st_a (by omega)]; exact e8, lookX_of (fun a q1 _ q3 q4 q5 q6 _ _ _ _ => fr a q1 q3 q4 q5 q6)⟩
  unfold fX8_explains
  rw [wrN (k := 32) (j := i) (by omega) (by omega)]
  simp only [bd1s]
  rw [f1]
  simp only [bd1s]
  rw [wrN (k := 32) (j := i) (by omega) (by omega)]
  simp only [bd1s]
  rw [hag]
  simp only [bd1s]
  rw [gbs (by cases ag (rk (gs g (g 3) (upd (fun _ => -4) i (nI j))) n (la (gs g (g 3) (upd (fun _ => -4) i (nI j))) n 0 (nI wd))) so sr z <;> decide)]
  rfl
theorem unseat_spec : ∀ (fu k : Nat) (w : Mm), k ≤ 8 → 8 - k < fu → (∀ i, i < k → w 32 i = -4) → ∃ w', LX4_unseatAll_2 fu (nI k) w = some w' ∧ (∀ i, i < 8 → w' 32 i = -4) ∧ ∀ a, a ≠ 32 → w' a = w a := by
  intro fu
  induction fu with
  | zero => intro k w _ q; omega
  | succ fu ih =>
    intro k w hk hf hI
    rw [LX4_unseatAll_2, nI_lit 8, ifle (by omega) (by omega)]
    by_cases c : 8 ≤ k
    · rw [if_pos c]
      exact ⟨w, rfl, fun i hi => hI i (by omega), fun _ _ => rfl⟩
    · rw [if_neg c, wrN (k := 32) (j := k) (by omega) (by omega), nI_1]
      simp only [bd1s]
      obtain ⟨w', r1, r2, r3⟩ := ih (k + 1) (st w 32 k (-4)) (by omega) (by omega) (fun i hi => by
        by_cases q : i = k
        · rw [q, st_kj]
        · rw [st_ki q]
          exact hI i (by omega))
      exact ⟨w', r1, r2, fun a q => by rw [r3 a q, st_a q]⟩
end RI
