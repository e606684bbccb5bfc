theorem bdE {A B : Type} {x : Option A} {a : A} {f : A → Option B} {y : Option B} (h : x = some a) (k : f a = y) : bd1 x f = y := by
  rw [h]
  exact k
section RI
variable {w τ g : Mm} {n wd z : Nat} {so sr : Nat → Nat} {L : Nat → Int32}
theorem fits_spec {τ0 : Mm} (hs : SM τ0 g n) (hn : n ≤ 8) (h7 : τ0 7 0 = nI wd) (hcur : ∀ m, 1 ≤ m → m ≤ 200 → fX9_currentIn τ0 (nI m) = some (g 7 m)) (hst : ∀ i, i < n → τ0 18 i = g 3 i) (hz : z ≤ 6) (h33 : τ0 0 33 = nI z) (hsn : ∀ k, k < z → so k < n ∧ sr k ≤ 8 ∧ τ0 24 k = nI (so k) ∧ τ0 25 k = nI (sr k)) {c : Nat → Int32} (ho : Ok g n (g 3) c) {x1 x2 : Int32} (hx : ∀ k, k < n → (if nI k = x1 then x2 else -4) = c k) (hl : lookM τ0 τ) : ∃ τ', fX9_fits τ x1 x2 = some (bI (ag (rk (gs g (g 3) c) n (la (gs g (g 3) c) n 0 (nI wd))) so sr z), τ') ∧ lookM τ0 τ' := by
  obtain ⟨τ1, a1, a2, a3⟩ := copy_spec (a := 0) (b := 176) (by omega) (by omega) (by omega) τ
  obtain ⟨τ2, b1, b2, b3⟩ := fits_set (x1 := x1) (x2 := x2) 1000 0 τ1 (by omega) (by omega)
  have f2 : ∀ q, q ≠ 18 → τ2 q = τ q := fun q hq => by rw [b2 q hq, a2 q hq]
  obtain ⟨τ3, c1, c2, c3, c4, c5, c6, c7⟩ := plain_spec (b := 176) (τ := τ2) (wd := wd) (SM_gs (s := g 3) (c := c) (hs.kept (fun a p q => by rw [f2 a (by omega)]; exact hl.1 a p q))) hn (by rw [f2 7 (by omega), hl.1 7 (by omega) (by omega)]; exact h7) (by omega) (fun i hi => by
    rw [b3, if_neg (by omega), a3, if_pos (by omega), show 0 + (176 + i - 176) = i by omega, hl.2.1 i (by omega), b3, if_pos (by omega), show 176 + 8 + i - 184 = i by omega]
    exact ⟨hst i hi, hx i hi⟩) (fun m p q => by
    rw [currentIn_c (w := τ0) (by rw [f2 8 (by omega)]; exact hl.1 8 (by omega) (by omega)) (by rw [f2 9 (by omega)]; exact hl.1 9 (by omega) (by omega)) (by rw [f2 10 (by omega)]; exact hl.1 10 (by omega) (by omega))]
    exact hcur m p q)
  obtain ⟨τ4, d1, d2, d3⟩ := cross_spec (M := 200) c2 (Rd_of (Ok_gs ho)) (by omega) c3 c4
  have h4 : ∀ a, a ≠ 0 → a ≠ 18 → a ≠ 19 → a ≠ 20 → τ4 a = τ a := fun a q1 q2 q3 q4 => by rw [d3 a q3 q4, c6 a q1, f2 a q2]
  have h40 : ∀ j, j ≠ 23 → j ≠ 24 → j ≠ 25 → τ4 0 j = τ 0 j := fun j q1 q2 q3 => by rw [d3 0 (by omega) (by omega), c7 j q1 q2 q3, f2 0 (by omega)]
  have ht := fits_tail (so := so) (sr := sr) (z := z) (b := 176) (τ := τ4) (g := gs g (g 3) c) (L := la (gs g (g 3) c) n 0 (nI wd)) rfl (c2.kept (by rw [d3 0 (by omega) (by omega)]) (fun a _ q => d3 a (by omega) (by omega))) (Rd_of (Ok_gs ho)) (fun i hi => (d2 i hi).2) hn hz (by rw [h40 33 (by omega) (by omega) (by omega), hl.2.2.2.2.2.2.2]; exact h33) (fun k hk => by
    rw [h4 24 (by omega) (by omega) (by omega) (by omega), h4 25 (by omega) (by omega) (by omega) (by omega), hl.2.2.1, hl.2.2.2.1]
    exact hsn k hk)
  refine ⟨τ4, ?_, hl.tr (lookM_of (fun a q1 q2 q3 q4 _ _ _ => h4 a q1 q2 q3 q4) (fun j hj => by rw [d3 18 (by omega) (by omega), c6 18 (by omega), b3, if_neg (by omega), a3, if_neg (by omega)]) h40)⟩
  rw [← nI_lit0, ← nI_lit 176] at a1
  rw [← nI_lit0] at b1
  rw [← nI_lit 176, ← nI_lit 200] at d1
  unfold fX9_fits
  refine bdE a1 (bdE b1 (bdE c1 (bdE d1 (bdE ht (bdE (gbs ?_) rfl)))))
  cases ag (rk (gs g (g 3) c) n (la (gs g (g 3) c) n 0 (nI wd))) so sr z <;> decide
end RI
