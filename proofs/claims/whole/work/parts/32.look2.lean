theorem op_lands {w τ : Mm} (h : Rel w τ) (x1 : Int32) : Both (fX8_lands w x1) (fX9_lands τ x1) := by
  obtain ⟨n, g, wd, hc, -⟩ := id h
  unfold fX8_lands fX9_lands
  rw [gqs hc.2.2.2.1.2.2.2.1]
  simp only [bd1s]
  rcases beast_any hc x1 with ⟨i, i1, rfl, i3, i4⟩ | ⟨i3, i4⟩
  · rw [i3, i4]
    simp only [bd1s]
    rw [if_neg (by decide), if_neg (by decide)]
    obtain ⟨τ2, e1, e2, e3, e4⟩ := now_spec hc
    obtain ⟨w1, a1, a2, a3, a4, a5⟩ := prep_spec hc
    obtain ⟨⟨h1, h2, h3, h4⟩, ⟨v1, v2, v3⟩, -, hb, hs, hbm⟩ := hc
    obtain ⟨w2, b1, b2, b3, b4, b5, b6, b7⟩ := mount_spec a2 (Rd_of v2) i1
    have hmv := mv_lt (Rd_of v2) i1 (by omega)
    obtain ⟨w3, c1, c2, c3, c4⟩ := move_spec (M := 200) (fd := 0) (wd := nI wd) (a2.kept (w' := w2) (b7 6 (by omega)) (b7 7 (by omega)) (fun a _ _ q _ _ _ => b6 a q)) (Vg_of v1 v2) (nI_lt (a := 0) (by omega) (by omega)) hmv.1 b2 b3 b4 b5 (by rw [b7 9 (by omega)]; exact a3) (by rw [b7 8 (by omega)]; exact a4) (by omega)
    have fx : ∀ a, a ≠ 30 → a ≠ 31 → a ≠ 32 → w3 a = w a := fun a q1 q2 q3 => by rw [c3 a q1, b6 a q1, a5 a q1 q2 q3]
    rw [a1]
    simp only [bd1s]
    rw [b1]
    simp only [bd1s]
    rw [show fX4_moveUntil w2 200 = some (L2 (fl g n 0 (nI wd) (mv g i) 200).2, w3) from c1, e1]
    simp only [bd2s, bd1s]
    rw [rdN (k := 20) (j := i) (by omega) (by omega), e2 i i1]
    simp only [bd1s]
    have hl := la_rng (g := g) (n := n) (fd := 0) (wd := nI wd) i i1
    have h9 := L2_201 hl
    rw [show (fl g n 0 (nI wd) (mv g i) 200).2 = la g n 0 (nI wd) i from rfl]
    by_cases q : la g n 0 (nI wd) i = 999
    · rw [if_pos (h9.mpr q), if_pos q]
      exact Both.mk h rfl rfl (lookX_of (fun a q1 q2 q3 _ _ _ _ _ _ _ => fx a q1 q2 q3)) e4
    · rw [if_neg (fun z => q (h9.mp z)), if_neg q, show L2 (la g n 0 (nI wd) i) = la g n 0 (nI wd) i from if_neg q]
      exact Both.mk h rfl rfl (lookX_of (fun a q1 q2 q3 _ _ _ _ _ _ _ => fx a q1 q2 q3)) e4
  · rw [i3, i4]
    simp only [bd1s]
    rw [if_pos trivial, if_pos trivial]
    exact Both.mk h rfl rfl lookX.rf lookM.rf
theorem op_rank {w τ : Mm} (h : Rel w τ) (x1 : Int32) : Both (fX8_rank w x1) (fX9_rank τ x1) := by
  obtain ⟨n, g, wd, hc, -⟩ := id h
  unfold fX8_rank fX9_rank
  rw [gqs hc.2.2.2.1.2.2.2.1]
  simp only [bd1s]
  rcases beast_any hc x1 with ⟨i, i1, rfl, i3, i4⟩ | ⟨i3, i4⟩
  · rw [i3, i4]
    simp only [bd1s]
    rw [if_neg (by decide), if_neg (by decide)]
    obtain ⟨τ2, e1, e2, e3, e4⟩ := now_spec hc
    obtain ⟨w2, a1, a2, a3, a4, a5, a6, a7, a8⟩ := race_spec hc
    have hn := hc.1.2.1
    rw [a1, e1]
    simp only [bd1s]
    rw [rdN (k := 34) (j := i) (by omega) (by omega), a3 i i1, show fX9_rankOf τ2 0 (nI i) = _ from mrank_spec e3 (Rd_of hc.2.1.2.1) e2 i1]
    simp only [bd1s]
    exact Both.mk h rfl rfl a8 e4
  · rw [i3, i4]
    simp only [bd1s]
    rw [if_pos trivial, if_pos trivial]
    exact Both.mk h rfl rfl lookX.rf lookM.rf
theorem op_who {w τ : Mm} (h : Rel w τ) (x1 : Int32) : Both (fX8_who w x1) (fX9_who τ x1) := by
  obtain ⟨n, g, wd, hc, -⟩ := id h
  have hn := hc.1.2.1
  unfold fX8_who fX9_who
  rw [gqs hc.2.2.2.1.2.2.2.1, hc.2.2.1.1, rd0 (by omega) (by omega), hc.2.2.2.2.1.1]
  simp only [bd1s]
  rw [in_eq]
  rcases in_any x1 (a := 1) (b := n) (by omega) (by omega) with ⟨m, m1, m2, rfl, m4⟩ | m4
  · rw [show fX8_within (nI m) 1 (nI n) = some 1 from m4]
    simp only [bd1s]
    rw [if_neg (by decide), if_neg (by decide)]
    obtain ⟨τ2, e1, e2, e3, e4⟩ := now_spec hc
    obtain ⟨w2, a1, a2, a3, a4, a5, a6, a7, a8⟩ := race_spec hc
    obtain ⟨τ3, f1, f2, f3⟩ := findRanks_spec e3 (Rd_of hc.2.1.2.1) la_rng hc.2.1.2.2 e2
    obtain ⟨i, i1, i2⟩ := rk_onto (Rd_of hc.2.1.2.1) hn (la_rng (fd := 0) (wd := nI wd)) hc.2.1.2.2 (show m - 1 < n by omega)
    have b1 := a4 i i1
    have b2 := f2 i i1
    rw [i2] at b1 b2
    rw [a1, e1]
    simp only [bd1s]
    rw [show fX9_findRanks τ2 0 = some τ3 from f1]
    simp only [bd1s]
    rw [show nI m - 1 = nI (m - 1) by rw [show m = (m - 1) + 1 by omega, nI_pred]; rfl, rdN (k := 35) (j := m - 1) (by omega) (by omega), rdN (k := 21) (j := m - 1) (by omega) (by omega), b1, b2]
    simp only [bd1s]
    exact Both.mk h rfl rfl a8 (e4.tr (lookM_of (fun a _ _ _ _ q _ _ => f3 a q) (fun j _ => by rw [f3 18 (by omega)]) (fun j _ _ _ => by rw [f3 0 (by omega)])))
  · rw [show fX8_within x1 1 (nI n) = some 0 from m4]
    simp only [bd1s]
    rw [if_pos trivial, if_pos trivial]
    exact Both.mk h rfl rfl lookX.rf lookM.rf
/-! harvest -/
theorem op_harvest {w τ : Mm} (h : Rel w τ) (x1 : Int32) : Both (fX8_harvest w x1) (fX9_harvest τ x1) := by
  obtain ⟨n, g, wd, hc, ht, -⟩ := id h
  have hn := hc.1.2.1
  have hn1 := hc.1.1
  unfold fX8_harvest fX9_harvest
  rw [in_eq]
  rcases in_any x1 (a := 1) (b := 99) (by omega) (by omega) with ⟨m, m1, m2, rfl, m4⟩ | m4
  · rw [show fX8_within (nI m) 1 99 = some 1 from m4]
    simp only [bd1s]
    rw [if_neg (show ¬ (1 : Int32) = 0 by decide), if_neg (show ¬ (1 : Int32) = 0 by decide), gqs hc.2.2.2.1.2.2.2.1, hc.2.2.1.1]
    simp only [bd1s]
    rw [if_pos (show (1 : Int32) ≤ nI n from nI_le (a := 1) hn1 (by omega))]
    obtain ⟨τ2, e1, e2, e3, e4⟩ := now_spec hc
    obtain ⟨w2, a1, a2, a3, a4, a5, a6, a7, a8⟩ := race_spec hc
    obtain ⟨τ3, f1, f2, f3⟩ := findRanks_spec e3 (Rd_of hc.2.1.2.1) la_rng hc.2.1.2.2 e2
    have e5 : lookM τ τ3 := e4.tr (lookM_of (fun a _ _ _ _ q _ _ => f3 a q) (fun j _ => by rw [f3 18 (by omega)]) (fun j _ _ _ => by rw [f3 0 (by omega)]))
    have key : ∀ (fu k : Nat) (acc : Int32), k ≤ m → m - k < fu → ∃ r, LX8_harvest_31 (nI m) w2 fu acc (nI k) = some r ∧ LX9_harvest_25 (nI m) τ3 fu acc (nI k) = some r := by
      intro fu
      induction fu with
      | zero => intro k acc _ q; omega
      | succ fu ih =>
        intro k acc hk hf
        rw [LX8_harvest_31, LX9_harvest_25, ifle (by omega) (by omega), ifle (by omega) (by omega)]
        by_cases c : m ≤ k
        · rw [if_pos c, if_pos c]
          exact ⟨acc, rfl, rfl⟩
        · rw [if_neg c, if_neg c]
          have hw17 : w2 17 12 = nI n := by rw [a8.1 17 (by omega)]; exact hc.2.2.1.1
          have ht2 : τ3 2 0 = nI n := by rw [e5.1 2 (by omega) (by omega)]; exact hc.2.2.2.2.1.1
          have hz : ¬ nI n = 0 := nI_ne0 (by omega) (by omega)
          rw [gqs (x := w2 16 3) (by rw [a8.1 16 (by omega)]; exact hc.2.2.2.1.2.2.2.1), hw17, rd0 (by omega) (by omega), ht2]
          simp only [bd1s]
          rw [gzs hz]
          simp only [bd1s]
          have hmod : nI k - nI k / nI n * nI n = nI (k % n) := pk_rem (by omega) (by omega) (by omega)
          have hlt : k % n < n := Nat.mod_lt _ (by omega)
          obtain ⟨i, i1, i2⟩ := rk_onto (Rd_of hc.2.1.2.1) hn (la_rng (fd := 0) (wd := nI wd)) hc.2.1.2.2 hlt
          have b1 := a4 i i1
          have b2 := f2 i i1
          rw [i2] at b1 b2
          obtain ⟨v, -, v2, v3⟩ := ht.2.1 i i1
          rw [hmod, rdN (k := 35) (j := k % n) (by omega) (by omega), rdN (k := 21) (j := k % n) (by omega) (by omega), b1, b2]
          simp only [bd1s]
          rw [rdN (k := 26) (j := i) (by omega) (by omega), rdN (k := 17) (j := i) (by omega) (by omega), a8.1 26 (by omega), e5.1 17 (by omega) (by omega), v2, v3, nI_1]
          simp only [bd1s]
          exact ih (k + 1) _ (by omega) (by omega)
    obtain ⟨r, r1, r2⟩ := key 1000 0 0 (by omega) (by omega)
    rw [a1, e1]
    simp only [bd1s]
    rw [show fX9_findRanks τ2 0 = some τ3 from f1]
    simp only [bd1s]
    rw [show LX8_harvest_31 (nI m) w2 1000 0 0 = some r from r1, show LX9_harvest_25 (nI m) τ3 1000 0 0 = some r from r2]
    simp only [bd1s]
    exact Both.mk h rfl rfl a8 e5
  · rw [show fX8_within x1 1 99 = some 0 from m4]
    simp only [bd1s]
    rw [if_pos trivial, if_pos trivial]
    exact Both.mk h rfl rfl lookX.rf lookM.rf
/-! calm -/
theorem off_spec {a v : Nat} (ha : a < 2 ^ 30) (hv : v < 2 ^ 30) (h0 : 1 ≤ v) : fX9_off (nI a) (nI v) = some (nI (if v ≤ a then a - v else v - a)) := by
  unfold fX9_off
  rw [if_neg (nI_ne0 (by omega) (by omega)), ifle (by omega) (by omega)]
  by_cases c : v ≤ a
  · rw [if_pos c, if_pos c, pk_sub c]
  · rw [if_neg c, if_neg c, pk_sub (by omega)]
theorem abs_spec {a v : Nat} (ha : a < 2 ^ 30) (hv : v < 2 ^ 30) : (if 0 ≤ nI a - nI v then nI a - nI v else 0 - (nI a - nI v)) = nI (if v ≤ a then a - v else v - a) := by
  by_cases c : v ≤ a
  · rw [pk_sub c, if_pos (nI_pos' (by omega)), if_pos c]
  · have h1 := pk_sub_toInt ha hv
    have hneg := pk_sneg hv (show a < v by omega)
    rw [if_neg (by rw [i_le]; rw [i_lt] at hneg; have : (0 : Int32).toInt = 0 := rfl; omega), if_neg c]
    rw [show (0 : Int32) - (nI a - nI v) = nI v - nI a by
      simp only [Int32.sub_eq_add_neg, Int32.zero_add, Int32.neg_add, Int32.neg_neg]
      rw [Int32.add_comm], pk_sub (by omega)]
theorem rather_spec {w2 τ3 g : Mm} {n : Nat} {L : Nat → Int32} {i j : Nat} (hn : n ≤ 8) (hi : i < n) (hj : j < n) (href : (w2 16 3).toNatClampNeg = 17) (h34 : ∀ i, i < n → w2 34 i = nI (rk g n L i + 1)) (ht : (w2 25 i = -4 ∧ τ3 16 i = 0) ∨ ∃ v, 1 ≤ v ∧ v ≤ 8 ∧ w2 25 i = nI v ∧ τ3 16 i = nI v) : ∃ (b : Bool) (p q : Int32), fX8_wouldRather w2 (nI i) (nI j) = some (bI b) ∧ fX9_off (nI (rk g n L j + 1)) (τ3 16 i) = some p ∧ fX9_off (nI (rk g n L i + 1)) (τ3 16 i) = some q ∧ (q ≤ p ↔ b = false) := by
  have ri := rk_lt (g := g) (L := L) hi
  have rj := rk_lt (g := g) (L := L) hj
  unfold fX8_wouldRather
  rw [gqs href, rdN (k := 25) (j := i) (by omega) (by omega), rdN (k := 34) (j := i) (by omega) (by omega), rdN (k := 34) (j := j) (by omega) (by omega), h34 i hi, h34 j hj]
  simp only [bd1s]
  rcases ht with ⟨t1, t2⟩ | ⟨v, v1, v2, t1, t2⟩
  · refine ⟨false, 0, 0, by rw [t1, if_pos rfl]; rfl, by rw [t2]; rfl, by rw [t2]; rfl, ?_⟩
    decide
  · rw [t1, t2, if_neg (nI_n4 (by omega)), abs_spec (by omega) (by omega), abs_spec (by omega) (by omega), off_spec (by omega) (by omega) v1, off_spec (by omega) (by omega) v1, ile]
    refine ⟨_, _, _, rfl, rfl, rfl, ?_⟩
    rw [decide_eq_false_iff_not, i_lt, i_le]
    omega
theorem op_calm {w τ : Mm} (h : Rel w τ) (x1 : Int32) : Both (fX8_calm w x1) (fX9_calm τ x1) := by
  obtain ⟨n, g, wd, hc, ht, -⟩ := id h
  have hn := hc.1.2.1
  unfold fX8_calm fX9_calm
  rw [in_eq]
  rcases in_any x1 (a := 0) (b := 1) (by omega) (by omega) with ⟨m, m1, m2, rfl, m4⟩ | m4
  · rw [show fX8_within (nI m) 0 1 = some 1 from m4]
    simp only [bd1s]
    rw [if_neg (by decide), if_neg (by decide)]
    obtain ⟨τ2, e1, e2, e3, e4⟩ := now_spec hc
    obtain ⟨w2, a1, a2, a3, a4, a5, a6, a7, a8⟩ := race_spec hc
    have href : (w2 16 3).toNatClampNeg = 17 := by rw [a8.1 16 (by omega)]; exact hc.2.2.2.1.2.2.2.1
    have hw17 : w2 17 12 = nI n := by rw [a8.1 17 (by omega)]; exact hc.2.2.1.1
    have ht2 : τ2 2 0 = nI n := e3.1
    have htold : ∀ i, i < n → (w2 25 i = -4 ∧ τ2 16 i = 0) ∨ ∃ v, 1 ≤ v ∧ v ≤ 8 ∧ w2 25 i = nI v ∧ τ2 16 i = nI v := fun i hi => by
      rw [a8.1 25 (by omega), e4.1 16 (by omega) (by omega)]
      exact ht.1 i hi
    have inner : ∀ (i : Nat), i < n → ∀ (fu k c : Nat) (f : Int32), k ≤ n → n - k < fu → c ≤ 8 * i + k → (f = -4 ↔ c = 0) → ∃ (c' : Nat) (f' : Int32), LX8_calm_41 w2 (nI i) fu (nI c) f (nI k) = some (nI c', f') ∧ LX9_calm_40 τ2 (nI i) fu (nI c) f (nI k) = some (nI c', f') ∧ c' ≤ 8 * i + n ∧ (f' = -4 ↔ c' = 0) := by
      intro i hi fu
      induction fu with
      | zero => intro k c f _ q; omega
      | succ fu ih =>
        intro k c f hk hf hcb hcf
        rw [LX8_calm_41, LX9_calm_40, gqs href, hw17, rd0 (by omega) (by omega), ht2]
        simp only [bd1s]
        rw [ifle (by omega) (by omega), ifle (by omega) (by omega)]
        by_cases q : n ≤ k
        · rw [if_pos q, if_pos q]
          exact ⟨c, f, rfl, rfl, by omega, hcf⟩
        · rw [if_neg q, if_neg q]
          have hkn : k < n := by omega
          obtain ⟨b1, p1, q1, r1, r2, r3, r4⟩ := rather_spec (g := g) (L := la g n 0 (nI wd)) hn hi hkn href a3 (htold i hi)
          obtain ⟨b2, p2, q2, s1, s2, s3, s4⟩ := rather_spec (g := g) (L := la g n 0 (nI wd)) hn hkn hi href a3 (htold k hkn)
          rw [show fX9_rankOf τ2 0 (nI i) = _ from mrank_spec e3 (Rd_of hc.2.1.2.1) e2 hi, show fX9_rankOf τ2 0 (nI k) = _ from mrank_spec e3 (Rd_of hc.2.1.2.1) e2 hkn, rdN (k := 16) (j := i) (by omega) (by omega), rdN (k := 16) (j := k) (by omega) (by omega)]
          simp only [bd1s]
          rw [r1, r2, r3, s1, s2, s3, nI_1 k]
          simp only [bd1s]
          cases b1 with
          | false =>
            rw [bI_f, if_pos rfl, if_pos (r4.mpr rfl)]
            simp only [bd2s]
            exact ih (k + 1) c f (by omega) (by omega) (by omega) hcf
          | true =>
            rw [bI_t, if_neg (show ¬ (1 : Int32) = 0 by decide), if_neg (show ¬ q1 ≤ p1 from fun z => by cases r4.mp z)]
            cases b2 with
            | false =>
              rw [bI_f, if_pos rfl, if_pos (s4.mpr rfl)]
              simp only [bd2s]
              exact ih (k + 1) c f (by omega) (by omega) (by omega) hcf
            | true =>
              rw [bI_t, if_neg (show ¬ (1 : Int32) = 0 by decide), if_neg (show ¬ q2 ≤ p2 from fun z => by cases s4.mp z)]
              by_cases z : c = 0
              · rw [if_pos (hcf.mpr z), z, if_pos (show nI 0 = 0 from rfl), nI_1]
                simp only [bd1s, bd2s]
                refine ih (k + 1) 1 _ (by omega) (by omega) (by omega) ⟨fun y => ?_, fun y => absurd y (by omega)⟩
                rw [nI_lit 8, pk_mul, nI_add] at y
                exact absurd y (nI_n4 (by omega))
              · rw [if_neg (fun y => z (hcf.mp y)), if_neg (nI_ne0 (by omega) (by omega)), nI_1]
                simp only [bd1s, bd2s]
                exact ih (k + 1) (c + 1) f (by omega) (by omega) (by omega) ⟨fun y => absurd (hcf.mp y) z, fun y => absurd y (by omega)⟩
    have outer : ∀ (fu i c : Nat) (f : Int32), i ≤ n → n - i < fu → c ≤ 8 * i → (f = -4 ↔ c = 0) → ∃ (c' : Nat) (f' : Int32), LX8_calm_23 w2 fu (nI c) f (nI i) = some (nI c', f') ∧ LX9_calm_23 τ2 fu (nI c) f (nI i) = some (nI c', f') := by
      intro fu
      induction fu with
      | zero => intro k c f _ q; omega
      | succ fu ih =>
        intro i c f hk hf hcb hcf
        rw [LX8_calm_23, LX9_calm_23, gqs href, hw17, rd0 (by omega) (by omega), ht2]
        simp only [bd1s]
        rw [ifle (by omega) (by omega), ifle (by omega) (by omega)]
        by_cases q : n ≤ i
        · rw [if_pos q, if_pos q]
          exact ⟨c, f, rfl, rfl⟩
        · rw [if_neg q, if_neg q, nI_1]
          obtain ⟨c', f', y1, y2, y3, y4⟩ := inner i (by omega) 1000 (i + 1) c f (by omega) (by omega) (by omega) hcf
          rw [y1, y2]
          simp only [bd2s]
          exact ih (i + 1) c' f' (by omega) (by omega) (by omega) y4
    obtain ⟨c', f', y1, y2⟩ := outer 1000 0 0 (-4) (by omega) (by omega) (by omega) ⟨fun _ => rfl, fun _ => rfl⟩
    rw [a1, e1]
    simp only [bd1s]
    rw [show LX8_calm_23 w2 1000 0 (-4) 0 = _ from y1, show LX9_calm_23 τ2 1000 0 (-4) 0 = _ from y2]
    simp only [bd2s]
    split
    · exact Both.mk h rfl rfl a8 e4
    · exact Both.mk h rfl rfl a8 e4
  · rw [show fX8_within x1 0 1 = some 0 from m4]
    simp only [bd1s]
    rw [if_pos trivial, if_pos trivial]
    exact Both.mk h rfl rfl lookX.rf lookM.rf
