section BK
variable {w τ g : Mm} {n wd : Nat}
theorem ridden_spec (h17 : w 17 12 = nI n) (hn : n ≤ 8) (h22 : ∀ i, i < n → w 22 i = g 4 i) {i : Nat} : fX6_isRidden_l w (nI i) = some (bI (an (fun k => decide (g 4 k = nI i)) n)) := by
  have key : ∀ (fu k : Nat), k ≤ n → n - k < fu → an (fun k => decide (g 4 k = nI i)) k = false → LX6_isRidden_l_2 (nI i) w fu (nI k) = some (bI (an (fun k => decide (g 4 k = nI i)) n)) := by
    intro fu
    induction fu with
    | zero => intro k _ q; omega
    | succ fu ih =>
      intro k hk hf ha
      rw [LX6_isRidden_l_2, h17, ifle (by omega) (by omega)]
      by_cases c : n ≤ k
      · rw [if_pos c, ← show k = n by omega, ha]
        rfl
      · rw [if_neg c, rdN (k := 22) (j := k) (by omega) (by omega), h22 k (by omega), nI_1]
        simp only [bd1s]
        by_cases c2 : g 4 k = nI i
        · rw [if_pos c2, an_iff.mpr ⟨k, by omega, decide_eq_true c2⟩]
          rfl
        · rw [if_neg c2]
          refine ih (k + 1) (by omega) (by omega) ?_
          unfold an
          rw [ha, decide_eq_false c2]
          rfl
  exact key 1000 0 (by omega) (by omega) rfl
theorem rider_spec (h2 : τ 2 0 = nI n) (hn : n ≤ 8) (h18 : ∀ i, i < n → τ 18 (8 + i) = g 4 i) {i : Nat} : fX9_hasRider τ (nI i) = some (bI (an (fun k => decide (g 4 k = nI i)) n)) := by
  have key : ∀ (fu k : Nat), k ≤ n → n - k < fu → LX9_hasRider_4 (nI i) τ fu (bI (an (fun k => decide (g 4 k = nI i)) k)) (nI k) = some (bI (an (fun k => decide (g 4 k = nI i)) n)) := by
    intro fu
    induction fu with
    | zero => intro k _ q; omega
    | succ fu ih =>
      intro k hk hf
      rw [LX9_hasRider_4, rd0 (by omega) (by omega), h2]
      simp only [bd1s]
      rw [ifle (by omega) (by omega)]
      by_cases c : n ≤ k
      · rw [if_pos c, show k = n by omega]
      · rw [if_neg c, show (8 : Int32) + nI k = nI (8 + k) by rw [nI_lit 8, nI_add], rdN (k := 18) (j := 8 + k) (by omega) (by omega), h18 k (by omega), nI_1]
        simp only [bd1s]
        have hs := ih (k + 1) (by omega) (by omega)
        have ea : an (fun k => decide (g 4 k = nI i)) (k + 1) = (an (fun k => decide (g 4 k = nI i)) k || decide (g 4 k = nI i)) := rfl
        rw [ea] at hs
        cases ha : an (fun k => decide (g 4 k = nI i)) k with
        | true =>
          rw [ha] at hs
          rw [bI_t, if_neg (by decide)]
          simp only [bd1s]
          exact hs
        | false =>
          rw [ha, Bool.false_or] at hs
          rw [bI_f, if_pos rfl]
          by_cases c2 : g 4 k = nI i
          · rw [if_pos c2]
            rw [decide_eq_true c2] at hs
            simp only [bd1s]
            exact hs
          · rw [if_neg c2]
            rw [decide_eq_false c2] at hs
            simp only [bd1s]
            exact hs
  unfold fX9_hasRider
  rw [show LX9_hasRider_4 (nI i) τ 1000 0 0 = _ from key 1000 0 (by omega) (by omega)]
  simp only [bd1s]
  rw [gbs (by cases an (fun k => decide (g 4 k = nI i)) n <;> decide)]
  rfl
end BK
theorem op_back {w τ : Mm} (h : Rel w τ) (x1 x2 : Int32) : Both (fX8_back w x1 x2) (fX9_back τ x1 x2) := by
  obtain ⟨n, g, wd, hc, -⟩ := id h
  have hn := hc.1.2.1
  unfold fX8_back fX9_back
  rw [gqs hc.2.2.2.1.2.2.2.1]
  simp only [bd1s]
  rcases beast_any hc x1 with ⟨i, i1, rfl, i3, i4⟩ | ⟨i3, i4⟩
  · rw [i3, i4, in_eq]
    simp only [bd1s]
    rw [if_neg (by decide), if_neg (by decide)]
    rcases in_any x2 (a := 0) (b := 1) (by omega) (by omega) with ⟨m, m1, m2, rfl, m4⟩ | m4
    · rw [show fX8_within (nI m) 0 1 = some 1 from m4]
      simp only [bd1s]
      rw [if_neg (by decide), if_neg (by decide)]
      obtain ⟨w1, a1, a2, a3, a4, a5⟩ := prep_spec hc
      obtain ⟨τ1, b1, b2, b3⟩ := copy_spec (a := 0) (b := 176) (by omega) (by omega) (by omega) τ
      obtain ⟨⟨h1, h2, h3, h4⟩, ⟨v1, v2, v3⟩, hsx, hbx, hs, hbm⟩ := hc
      rw [ridden_spec hsx.1 h2 (fun j hj => (hbx.1 j hj).2), rider_spec hs.1 h2 (fun j hj => (hbm.1 j hj).2)]
      simp only [bd1s]
      cases hrid : an (fun k => decide (g 4 k = nI i)) n with
      | true =>
        rw [bI_t, if_neg (by decide), if_neg (by decide)]
        exact Both.mk h rfl rfl lookX.rf lookM.rf
      | false =>
        rw [bI_f, if_pos rfl, if_pos rfl, rdN (k := 23) (j := i) (by omega) (by omega), (hsx.2 i i1).2.2.2.1, hs.2.2.1 i i1]
        simp only [bd1s]
        have nor : ∀ k, k < n → g 4 k ≠ nI i := fun k hk q => by
          rw [an_iff.mpr ⟨k, hk, decide_eq_true q⟩] at hrid
          cases hrid
        by_cases c5 : g 5 i = -4
        · rw [if_pos c5, if_pos c5, a1, show fX9_copy τ 0 176 = some τ1 from b1]
          simp only [bd1s]
          have okN : Ok g n (g 3) (upd (g 4) i (-4)) := ⟨v2.1, fun k hk q => by
            unfold upd at q ⊢
            by_cases z : k = i
            · rw [if_pos z] at q
              exact absurd rfl q
            · rw [if_neg z] at q ⊢
              obtain ⟨j, j1, j2, j3⟩ := v2.2.1 k hk q
              refine ⟨j, j1, j2, ?_⟩
              split
              · rfl
              · exact j3, fun k hk q => by
            unfold upd
            split
            · rfl
            · exact v2.2.2 k hk q⟩
          have okJ : ∀ j, j < n → j ≠ i → g 4 j = -4 → Ok g n (g 3) (upd (g 4) i (nI j)) := fun j j1 j2 j3 => ⟨v2.1, fun k hk q => by
            unfold upd at q ⊢
            by_cases z : k = i
            · rw [if_pos z]
              refine ⟨j, j1, rfl, ?_⟩
              rw [if_neg j2]
              exact j3
            · rw [if_neg z] at q ⊢
              obtain ⟨l, l1, l2, l3⟩ := v2.2.1 k hk q
              refine ⟨l, l1, l2, ?_⟩
              rw [if_neg (fun y => nor k hk (by rw [l2, y]))]
              exact l3, fun k hk q => by
            unfold upd
            rw [if_neg (fun y => q (by rw [y]; exact c5))]
            exact v2.2.2 k hk q⟩
          -- one try on both sides
          have try1 : ∀ (c : Nat → Int32) (v : Int32) (wa τa : Mm), Ok g n (g 3) (upd c i v) → AX wa n (gs g (g 3) c) → wa 30 9 = 0 → wa 30 8 = nI wd → lookX w wa → lookM τ τa → (∀ j, j < n → τa 18 (176 + j) = g 3 j ∧ (j ≠ i → τa 18 (176 + 8 + j) = c j)) → τa 18 (184 + i) = v → ∃ (wb τb : Mm) (R : Nat), fX8_rankRidingOn wa (nI i) v = some (nI R, wb) ∧ fX9_rankTried τa (nI i) = some (nI R, τb) ∧ R ≤ 8 ∧ AX wb n (gs g (g 3) (upd c i v)) ∧ wb 30 9 = 0 ∧ wb 30 8 = nI wd ∧ lookX w wb ∧ lookM τ τb ∧ ∀ q, τb 18 q = τa 18 q := by
            intro c v wa τa ho hax e9 e8 hlx hlm hnow hv
            have hax2 := AX_32 (i := i) (v := v) hax
            obtain ⟨wb, f1, f2, f3, f4, f5, f6⟩ := run_spec (fd := 0) (wd := nI wd) hax2 (Vg_of (Vs_gs v1) (Ok_gs ho)) (Rd_of (Ok_gs ho)) (Vo_gs v3) (nI_lt (a := 0) (by omega) (by omega)) (by rw [st_a (by omega)]; exact e9) (by rw [st_a (by omega)]; exact e8)
            obtain ⟨τb, d1, d2, d3⟩ := tried_spec (s := g 3) (c := upd c i v) (wd := wd) (τ := τa) (hs.kept hlm.1) h2 h3 h4 (by rw [hlm.1 7 (by omega) (by omega)]; exact hbm.2.2) (fun m p q => by rw [currentIn_c (w := τ) (hlm.1 8 (by omega) (by omega)) (hlm.1 9 (by omega) (by omega)) (hlm.1 10 (by omega) (by omega))]; exact hbm.2.1 m p q) ho (fun j hj => ⟨(hnow j hj).1, by
              unfold upd
              by_cases z : j = i
              · rw [if_pos z, z]
                exact hv
              · rw [if_neg z]
                exact (hnow j hj).2 z⟩) i1
            have hrk := rk_lt (g := gs g (g 3) (upd c i v)) (L := la (gs g (g 3) (upd c i v)) n 0 (nI wd)) i1
            refine ⟨wb, τb, rk (gs g (g 3) (upd c i v)) n (la (gs g (g 3) (upd c i v)) n 0 (nI wd)) i + 1, ?_, d1, by omega, hax2.kept (f6 6 (by omega)) (f6 7 (by omega)) (fun a _ _ q1 q2 q3 q4 => f5 a q1 q2 q3 q4), by rw [f6 9 (by omega), st_a (by omega)]; exact e9, by rw [f6 8 (by omega), st_a (by omega)]; exact e8, hlx.tr (lookX_of (fun a q1 _ q3 q4 q5 q6 _ _ _ _ => by rw [f5 a q1 q4 q5 q6, st_a q3])), hlm.tr (lookM_of (fun a q1 _ q3 q4 _ _ _ => d2 a q1 q3 q4) (fun j _ => by rw [d2 18 (by omega) (by omega) (by omega)]) d3), fun q => by rw [d2 18 (by omega) (by omega) (by omega)]⟩
            unfold fX8_rankRidingOn
            rw [wrN (k := 32) (j := i) (by omega) (by omega)]
            simp only [bd1s]
            rw [f1]
            simp only [bd1s]
            rw [rdN (k := 34) (j := i) (by omega) (by omega), f3 i i1]
            rfl
          have look1 : lookM τ (st τ1 18 (184 + i) (-4)) := lookM_of (fun a q1 q2 _ _ _ _ _ => by rw [st_a q2, b2 a q2]) (fun j hj => by rw [st_ki (by omega), b3, if_neg (by omega)]) (fun j _ _ _ => by rw [st_a (by omega), b2 0 (by omega)])
          rw [show (184 : Int32) + nI i = nI (184 + i) by rw [nI_lit 184, nI_add], wrN (k := 18) (j := 184 + i) (by omega) (by omega)]
          simp only [bd1s]
          obtain ⟨w7, τ8, R0, t1, t2, t3, t4, t5, t6, t7, t8, t9⟩ := try1 (g 4) (-4) w1 (st τ1 18 (184 + i) (-4)) okN (by rw [gs_id]; exact a2) a3 a4 (lookX_of (fun a q1 q2 q3 _ _ _ _ _ _ _ => a5 a q1 q2 q3)) look1 (fun j hj => by
            rw [st_ki (show 176 + j ≠ 184 + i by omega), b3, if_pos (by omega), show 0 + (176 + j - 176) = j by omega]
            refine ⟨(hbm.1 j hj).1, fun z => ?_⟩
            rw [st_ki (by omega), b3, if_pos (by omega), show 0 + (176 + 8 + j - 176) = 8 + j by omega]
            exact (hbm.1 j hj).2) st_kj
          rw [t1, t2]
          simp only [bd2s]
          have loop : ∀ (fu k R : Nat) (f v : Int32) (wa τa : Mm), k ≤ n → n - k < fu → R ≤ 8 → AX wa n (gs g (g 3) (upd (g 4) i v)) → wa 30 9 = 0 → wa 30 8 = nI wd → lookX w wa → lookM τ τa → (∀ j, j < n → τa 18 (176 + j) = g 3 j ∧ (j ≠ i → τa 18 (176 + 8 + j) = g 4 j)) → ∃ (wb τb : Mm) (R' : Nat) (f' : Int32), LX8_back_76 (nI i) fu f (nI R) (nI k) wa = some (wb, f', nI R') ∧ LX9_back_73 (nI i) fu (nI R) f (nI k) τa = some (τb, nI R', f') ∧ lookX w wb ∧ lookM τ τb := by
            intro fu
            induction fu with
            | zero => intro k R f v wa τa _ q; omega
            | succ fu ih =>
              intro k R f v wa τa hk hf hR hax e9 e8 hlx hlm hnow
              rw [LX8_back_76, LX9_back_73, gqs (x := wa 16 3) (by rw [hlx.1 16 (by omega)]; exact hbx.2.2.2.1), hlx.1 17 (by omega), hsx.1, rd0 (by omega) (by omega), hlm.1 2 (by omega) (by omega), hs.1]
              simp only [bd1s]
              rw [ifle (by omega) (by omega), ifle (by omega) (by omega)]
              by_cases c : n ≤ k
              · rw [if_pos c, if_pos c]
                exact ⟨wa, τa, R, f, rfl, rfl, hlx, hlm⟩
              · rw [if_neg c, if_neg c, ifeq (by omega) (by omega), ifeq (by omega) (by omega), nI_1]
                by_cases z : k = i
                · rw [if_pos z, if_pos z]
                  simp only [bd3s]
                  exact ih (k + 1) R f v wa τa (by omega) (by omega) hR hax e9 e8 hlx hlm hnow
                · rw [if_neg z, if_neg z, rdN (k := 22) (j := k) (by omega) (by omega), hlx.1 22 (by omega), (hbx.1 k (by omega)).2, show (8 : Int32) + nI k = nI (8 + k) by rw [nI_lit 8, nI_add], rdN (k := 18) (j := 8 + k) (by omega) (by omega), hlm.2.1 (8 + k) (by omega), (hbm.1 k (by omega)).2]
                  simp only [bd1s]
                  by_cases y : g 4 k = -4
                  · rw [if_pos y, if_pos y, show (184 : Int32) + nI i = nI (184 + i) by rw [nI_lit 184, nI_add], wrN (k := 18) (j := 184 + i) (by omega) (by omega)]
                    simp only [bd1s]
                    obtain ⟨wb, τb, R1, u1, u2, u3, u4, u5, u6, u7, u8, u9⟩ := try1 (upd (g 4) i v) (nI k) wa (st τa 18 (184 + i) (nI k)) (by rw [upd_upd]; exact okJ k (by omega) z y) hax e9 e8 hlx (hlm.tr (lookM_of (fun a _ q2 _ _ _ _ _ => st_a q2) (fun j hj => st_ki (by omega)) (fun j _ _ _ => by rw [st_a (by omega)]))) (fun j hj => by
                      rw [st_ki (show 176 + j ≠ 184 + i by omega)]
                      refine ⟨(hnow j hj).1, fun x => ?_⟩
                      rw [st_ki (by omega), (hnow j hj).2 x]
                      simp [upd, x]) st_kj
                    rw [upd_upd] at u4
                    rw [u1, u2]
                    simp only [bd2s]
                    have nx : ∀ j, j < n → τb 18 (176 + j) = g 3 j ∧ (j ≠ i → τb 18 (176 + 8 + j) = g 4 j) := fun j hj => by
                      rw [u9, u9, st_ki (show 176 + j ≠ 184 + i by omega)]
                      refine ⟨(hnow j hj).1, fun x => ?_⟩
                      rw [st_ki (by omega)]
                      exact (hnow j hj).2 x
                    rw [ifle (by omega) (by omega), ifle (by omega) (by omega), ifle (by omega) (by omega)]
                    by_cases x : R ≤ R1
                    · rw [if_pos x, if_pos x, if_pos x]
                      simp only [bd1s, bd3s]
                      exact ih (k + 1) R f (nI k) wb τb (by omega) (by omega) hR u4 u5 u6 u7 u8 nx
                    · rw [if_neg x, if_neg x, if_neg x]
                      simp only [bd1s, bd3s]
                      exact ih (k + 1) R1 (nI k) (nI k) wb τb (by omega) (by omega) u3 u4 u5 u6 u7 u8 nx
                  · rw [if_neg y, if_neg y]
                    simp only [bd3s]
                    exact ih (k + 1) R f v wa τa (by omega) (by omega) hR hax e9 e8 hlx hlm hnow
          obtain ⟨wb, τb, R', f', l1, l2, l3, l4⟩ := loop 1000 0 R0 (-4) (-4) w7 τ8 (by omega) (by omega) t3 t4 t5 t6 t7 t8 (fun j hj => by
            rw [t9, t9, st_ki (show 176 + j ≠ 184 + i by omega), b3, if_pos (by omega), show 0 + (176 + j - 176) = j by omega]
            refine ⟨(hbm.1 j hj).1, fun z => ?_⟩
            rw [st_ki (by omega), b3, if_pos (by omega), show 0 + (176 + 8 + j - 176) = 8 + j by omega]
            exact (hbm.1 j hj).2)
          rw [show LX8_back_76 (nI i) 1000 (-4) (nI R0) 0 w7 = _ from l1, show LX9_back_73 (nI i) 1000 (nI R0) (-4) 0 τ8 = _ from l2]
          simp only [bd3s]
          split
          · exact Both.mk h rfl rfl l3 l4
          · exact Both.mk h rfl rfl l3 l4
        · rw [if_neg c5, if_neg c5]
          exact Both.mk h rfl rfl lookX.rf lookM.rf
    · rw [show fX8_within x2 0 1 = some 0 from m4]
      simp only [bd1s]
      rw [if_pos trivial, if_pos trivial]
      exact Both.mk h rfl rfl lookX.rf lookM.rf
  · rw [i3, i4]
    simp only [bd1s]
    rw [if_pos trivial, if_pos trivial]
    exact Both.mk h rfl rfl lookX.rf lookM.rf
