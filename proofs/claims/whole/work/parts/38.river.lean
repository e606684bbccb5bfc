/-! rivers by draws -/
def dr (z m : Nat) : Nat := (7919 * z + 6151 * m + 1) * (7919 * z + 6151 * m + 1) % 65521 % 6
def drX (a b : Int64) : Int32 := (((((7919 * a) + (6151 * b)) + 1) * (((7919 * a) + (6151 * b)) + 1) - (((7919 * a) + (6151 * b)) + 1) * (((7919 * a) + (6151 * b)) + 1) / 65521 * 65521) - ((((7919 * a) + (6151 * b)) + 1) * (((7919 * a) + (6151 * b)) + 1) - (((7919 * a) + (6151 * b)) + 1) * (((7919 * a) + (6151 * b)) + 1) / 65521 * 65521) / 6 * 6).toInt32
theorem draw_spec {z m : Nat} (hz : z ≤ 9999) (hm : m ≤ 200) : drX (nI z).toInt64 (nI m).toInt64 = nI (dr z m) := by
  unfold drX
  rw [nI_l (by omega), nI_l (by omega)]
  have e : 7919 * lN z + 6151 * lN m + 1 = lN (7919 * z + 6151 * m + 1) := by
    rw [show (7919 : Int64) = lN 7919 from rfl, show (6151 : Int64) = lN 6151 from rfl, lN_mul, lN_mul, lN_add, lN_1]
  rw [e]
  have hx : 7919 * z + 6151 * m + 1 ≤ 80500000 := by omega
  unfold dr
  generalize 7919 * z + 6151 * m + 1 = x at hx ⊢
  rw [lN_mul]
  have hx2 : x * x < 2 ^ 63 := by
    have := Nat.mul_le_mul hx hx
    omega
  have e1 : lN (x * x) - lN (x * x) / 65521 * 65521 = lN (x * x % 65521) := pk_lRem (b := 65521) hx2 (by omega) (by omega)
  have h1 : x * x % 65521 < 65521 := Nat.mod_lt _ (by omega)
  have e2 : lN (x * x % 65521) - lN (x * x % 65521) / 6 * 6 = lN (x * x % 65521 % 6) := pk_lRem (b := 6) (by omega) (by omega) (by omega)
  rw [e1, e2, lN_i]
/-- another current -/
def gf (g : Mm) (f : Nat → Int32) : Mm := fun k => if k = 7 then f else g k
theorem dr_le (z m : Nat) : dr z m ≤ 5 := by
  unfold dr
  omega
section RV
variable {w τ g : Mm} {n wd : Nat}
theorem Vs_gf (h : Vs g n) {f : Nat → Int32} (hf : ∀ m, 1 ≤ m → m ≤ 200 → ∃ c, c ≤ 5 ∧ f m = nI c) : Vs (gf g f) n := ⟨h.1, hf⟩
theorem draw_loop {z : Nat} (hz : z ≤ 9999) : ∀ (fu k : Nat) (w : Mm), 1 ≤ k → k ≤ 201 → 201 - k < fu → (∀ m, 1 ≤ m → m < k → w 36 m = nI (dr z m)) → ∃ w', LX4_drawFlow_2 (nI z) fu (nI k) w = some w' ∧ (∀ m, 1 ≤ m → m ≤ 200 → w' 36 m = nI (dr z m)) ∧ ∀ a, a ≠ 36 → w' a = w a := by
  intro fu
  induction fu with
  | zero => intro k w _ _ q; omega
  | succ fu ih =>
    intro k w hk hk2 hf hI
    rw [LX4_drawFlow_2, nI_lit 200, iflt (by omega) (by omega)]
    by_cases c : 200 < k
    · rw [if_pos c]
      exact ⟨w, rfl, fun m a b => hI m a (by omega), fun _ _ => rfl⟩
    · rw [if_neg c]
      have e := draw_spec hz (show k ≤ 200 by omega)
      unfold drX at e
      rw [e, wrN (k := 36) (j := k) (by omega) (by omega), nI_1]
      simp only [bd1s]
      obtain ⟨w', r1, r2, r3⟩ := ih (k + 1) (st w 36 k (nI (dr z k))) (by omega) (by omega) (by omega) (fun m a b => by
        by_cases q : m = k
        · rw [q, st_kj]
        · rw [st_ki q]
          exact hI m a (by omega))
      exact ⟨w', r1, r2, fun a q => by rw [r3 a q, st_a q]⟩
theorem last_both {L : Nat → Int32} (hn : n ≤ 8) (hL : Lr n L) (h17 : w 17 12 = nI n) (h6 : (w 30 6).toNatClampNeg = 17) (h33 : ∀ i, i < n → w 33 i = L2 (L i)) (h2 : τ 2 0 = nI n) (h20 : ∀ i, i < n → τ 20 i = L i) : ∃ r, fX4_lastLanding w = some r ∧ LX9_river_44 τ 1000 0 0 = some r := by
  have key : ∀ (fu k : Nat) (acc : Int32), k ≤ n → n - k < fu → ∃ r, LX4_lastLanding_4 w fu acc (nI k) = some r ∧ LX9_river_44 τ fu acc (nI k) = some r := by
    intro fu
    induction fu with
    | zero => intro k acc _ q; omega
    | succ fu ih =>
      intro k acc hk hf
      rw [LX4_lastLanding_4, LX9_river_44, gqs h6, h17, rd0 (by omega) (by omega), h2]
      simp only [bd1s]
      rw [ifle (by omega) (by omega), ifle (by omega) (by omega)]
      by_cases c : n ≤ k
      · rw [if_pos c, if_pos c]
        exact ⟨acc, rfl, rfl⟩
      · rw [if_neg c, if_neg c, rdN (k := 33) (j := k) (by omega) (by omega), rdN (k := 20) (j := k) (by omega) (by omega), h33 k (by omega), h20 k (by omega), nI_1]
        simp only [bd1s]
        have h9 := L2_201 (hL k (by omega))
        by_cases q : L k = 999
        · rw [if_pos (h9.mpr q), if_pos q]
          simp only [bd1s]
          exact ih (k + 1) acc (by omega) (by omega)
        · rw [if_neg (fun y => q (h9.mp y)), if_neg q, show L2 (L k) = L k from if_neg q]
          simp only [bd1s]
          by_cases y : L k ≤ acc
          · rw [if_pos y, if_neg (by rw [i_lt]; rw [i_le] at y; omega)]
            simp only [bd1s]
            exact ih (k + 1) acc (by omega) (by omega)
          · rw [if_neg y, if_pos (by rw [i_lt]; rw [i_le] at y; omega)]
            simp only [bd1s]
            exact ih (k + 1) (L k) (by omega) (by omega)
  obtain ⟨r, r1, r2⟩ := key 1000 0 0 (by omega) (by omega)
  refine ⟨r, ?_, r2⟩
  unfold fX4_lastLanding
  exact bdE r1 rfl
end RV
theorem op_river {w τ : Mm} (h : Rel w τ) (x1 x2 : Int32) : Both (fX8_river w x1 x2) (fX9_river τ x1 x2) := by
  obtain ⟨n, g, wd, hc, -⟩ := id h
  have hn := hc.1.2.1
  have bad : Both (some ((-1 : Int32), w)) (some ((-1 : Int32), τ)) := Both.mk h rfl rfl lookX.rf lookM.rf
  unfold fX8_river fX9_river
  rw [in_eq, in_eq]
  rcases in_any x1 (a := 0) (b := 9999) (by omega) (by omega) with ⟨z, z1, z2, rfl, z4⟩ | z4
  · rw [show fX8_within (nI z) 0 9999 = some 1 from z4]
    simp only [bd1s]
    rw [if_neg (by decide), if_neg (by decide)]
    rcases in_any x2 (a := 0) (b := 1) (by omega) (by omega) with ⟨p, p1, p2, rfl, p4⟩ | p4
    · rw [show fX8_within (nI p) 0 1 = some 1 from p4]
      simp only [bd1s]
      rw [if_neg (by decide), if_neg (by decide)]
      obtain ⟨w1, a1, a2, a3, a4, a5⟩ := prep_spec hc
      obtain ⟨⟨h1, h2, h3, h4⟩, ⟨v1, v2, v3⟩, hsx, hbx, hs, hbm⟩ := id hc
      obtain ⟨w2, b1, b2, b3⟩ := draw_loop z2 1000 1 w1 (by omega) (by omega) (by omega) (fun m q1 q2 => absurd q2 (by omega))
      have hv1 : Vs (gf g (fun m => nI (dr z m))) n := Vs_gf v1 (fun m _ _ => ⟨dr z m, dr_le z m, rfl⟩)
      have hdf : fX4_drawFlow w1 (nI z) = some (st w2 30 7 36) := by
        unfold fX4_drawFlow
        exact bdE (show LX4_drawFlow_2 (nI z) 1000 1 w1 = some w2 from b1) rfl
      have hax : AX (st w2 30 7 36) n (gf g (fun m => nI (dr z m))) := by
        obtain ⟨x1, x2, x3, x4, x5, x6⟩ := a2
        refine ⟨by rw [st_a (by omega), b3 17 (by omega)]; exact x1, x2, by rw [st_ki (by omega), b3 30 (by omega)]; exact x3, by rw [st_kj]; right; decide, fun m q r => ?_, fun j hj => ?_⟩
        · rw [st_kj, show (36 : Int32).toNatClampNeg = 36 by decide, st_a (by omega)]
          exact b2 m q r
        · obtain ⟨y0, y1, y2, y3, y4, y5, y6⟩ := x6 j hj
          rw [st_a (a := 18) (by omega), st_a (a := 19) (by omega), st_a (a := 20) (by omega), st_a (a := 31) (by omega), st_a (a := 32) (by omega), st_a (a := 23) (by omega), st_a (a := 24) (by omega), b3 18 (by omega), b3 19 (by omega), b3 20 (by omega), b3 31 (by omega), b3 32 (by omega), b3 23 (by omega), b3 24 (by omega)]
          exact ⟨y0, y1, y2, y3, y4, y5, y6⟩
      have hok : Ok (gf g (fun m => nI (dr z m))) n (gf g (fun m => nI (dr z m)) 3) (gf g (fun m => nI (dr z m)) 4) := v2
      have hvo : Vo (gf g (fun m => nI (dr z m))) n := v3
      obtain ⟨w5, f1, f2, f3, f4, f5, f6⟩ := run_spec (fd := 0) (wd := nI wd) hax (Vg_of hv1 hok) (Rd_of hok) hvo (nI_lt (a := 0) (by omega) (by omega)) (by rw [st_ki (by omega), b3 30 (by omega)]; exact a3) (by rw [st_ki (by omega), b3 30 (by omega)]; exact a4)
      have hlx : lookX w w5 := lookX_of (fun a q1 q2 q3 q4 q5 q6 q7 _ _ _ => by rw [f5 a q1 q4 q5 q6, st_a q1, b3 a q7, a5 a q1 q2 q3])
      obtain ⟨τ1, d1, d2, d3, d4, d5, d6, d7⟩ := plain_spec (b := 0) hs h2 hbm.2.2 (by omega) (fun i hi => by rw [Nat.zero_add]; exact hbm.1 i hi) hbm.2.1
      have hsm : SM (st τ1 0 25 (nI z)) (gf g (fun m => nI (dr z m))) n := (hs.kept (τ' := st τ1 0 25 (nI z)) (fun a q r => by rw [st_a (by omega), d6 a (by omega)]) : SM (st τ1 0 25 (nI z)) g n)
      have ham : AM (st τ1 0 25 (nI z)) 0 n (gf g (fun m => nI (dr z m))) := AM_of hsm h2 (by omega) (fun i hi => by
        rw [st_a (by omega), d6 18 (by omega), Nat.zero_add]
        exact hbm.1 i hi) (fun m q r => by
        unfold fX9_takesIn
        rw [st_kj, if_pos (nI_pos' (by omega))]
        have e := draw_spec z2 r
        unfold drX at e
        rw [e]
        rfl)
      obtain ⟨τ5, e1, e2, e3⟩ := cross_spec (M := 200) (fd := 0) (wd := nI wd) ham (Rd_of hok) (by omega) (by rw [st_ki (by omega)]; exact d3) (by rw [st_ki (by omega)]; exact d4)
      obtain ⟨r, r1, r2⟩ := last_both (L := la (gf g (fun m => nI (dr z m))) n 0 (nI wd)) (w := w5) (τ := τ5) hn la_rng (by rw [hlx.1 17 (by omega)]; exact hsx.1) (by rw [f6 6 (by omega), st_ki (by omega), b3 30 (by omega)]; exact a2.2.2.1) f2 (by rw [e3 2 (by omega) (by omega)]; exact ham.1) (fun i hi => (e2 i hi).2)
      have hlm : lookM τ τ5 := lookM_of (fun a z1 z2 z3 z4 _ _ _ => by rw [e3 a z3 z4, st_a z1, d6 a z1]) (fun j _ => by rw [e3 18 (by omega) (by omega), st_a (by omega), d6 18 (by omega)]) (fun j z1 z2 z3 => by rw [e3 0 (by omega) (by omega), st_ki z3, d7 j z1 z2 z3])
      obtain ⟨τ6, k1, k2, k3⟩ := findRanks_spec (L := la (gf g (fun m => nI (dr z m))) n 0 (nI wd)) (ham.kept (τ' := τ5) (by rw [e3 0 (by omega) (by omega)]) (fun a q1 q2 => e3 a (by omega) (by omega))) (Rd_of hok) la_rng hvo (fun i hi => (e2 i hi).2)
      obtain ⟨q, q1, q2⟩ := rk_onto (Rd_of hok) hn (la_rng (fd := 0) (wd := nI wd)) hvo (show 0 < n by omega)
      have b4 := k2 q q1
      have b5 := f4 q q1
      rw [q2] at b4 b5
      have first : fX9_firstOne τ5 0 = some (nI q, τ6) := by
        unfold fX9_firstOne
        exact bdE (show fX9_findRanks τ5 0 = some τ6 from k1) (bdE ((rd0 (k := 21) (n := 8) (by omega) (by omega)).trans (by rw [b4])) rfl)
      have e35 : rd w5 35 8 0 = some (nI q) := (rd0 (k := 35) (n := 8) (by omega) (by omega)).trans (by rw [b5])
      have fin : ∀ (A B : Option (Int32 × Mm)), A = (if nI p = 0 then bd1 (rd w5 35 8 0) fun v7 => some (v7, w5) else bd1 (fX4_lastLanding w5) fun v6 => some (v6, w5)) → B = (if nI p = 0 then bd2 (fX9_firstOne τ5 0) fun v16 w17 => some (v16, w17) else some (r, τ5)) → Both A B := by
        intro A B hA hB
        rw [hA, hB]
        by_cases y : nI p = 0
        · rw [if_pos y, if_pos y, e35, first]
          exact Both.mk h rfl rfl hlx (hlm.tr (lookM_of (fun a _ _ _ _ z5 _ _ => k3 a z5) (fun j _ => by rw [k3 18 (by omega)]) (fun j _ _ _ => by rw [k3 0 (by omega)])))
        · rw [if_neg y, if_neg y, r1]
          exact Both.mk h rfl rfl hlx hlm
      exact fin _ _ (bdE (gqs hbx.2.2.2.1) (bdE a1 (bdE hdf (bdE f1 rfl)))) (bdE d1 (bdE (show pt τ1 0 25 (nI z) = some (st τ1 0 25 (nI z)) from rfl) (bdE (show fX9_cross (st τ1 0 25 (nI z)) 0 200 = some τ5 from e1) (bdE r2 rfl))))
    · rw [show fX8_within x2 0 1 = some 0 from p4]
      simp only [bd1s]
      rw [if_pos trivial, if_pos trivial]
      exact bad
  · rw [show fX8_within x1 0 9999 = some 0 from z4]
    simp only [bd1s]
    rw [if_pos trivial, if_pos trivial]
    exact bad
