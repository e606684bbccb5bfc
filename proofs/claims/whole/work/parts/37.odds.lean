/-! odds -/
theorem chance_eq {x2 x3 v : Int32} : ∀ (fu : Nat) (a b : Int32), LX9_odds_62 x2 x3 v fu a b = LX8_chancesOfFirst_31 x2 x3 v fu a b := by
  intro fu
  induction fu with
  | zero => intro a b; rfl
  | succ fu ih =>
    intro a b
    rw [LX9_odds_62, LX8_chancesOfFirst_31]
    simp only [ih]
theorem down_eq {x2 : Int32} : ∀ (fu : Nat) (a b : Int32), LX9_odds_145 x2 fu a b = LX8_odds_48 x2 fu a b := by
  intro fu
  induction fu with
  | zero => intro a b; rfl
  | succ fu ih =>
    intro a b
    rw [LX9_odds_145, LX8_odds_48]
    simp only [ih]
theorem chance_spec {n x : Nat} (hn : n ≤ 5) (hx : x ≤ 10) {v : Int32} : ∀ (d k c fu : Nat), k + d = n → c ≤ 10 ^ k → d < fu → ∃ c', LX8_chancesOfFirst_31 (nI n) (nI x) v fu (nI c) (nI k) = some (nI c') ∧ c' ≤ 10 ^ n := by
  intro d
  induction d with
  | zero =>
    intro k c fu hk hc hf
    obtain ⟨f, rfl⟩ : ∃ f, fu = f + 1 := ⟨fu - 1, by omega⟩
    rw [LX8_chancesOfFirst_31, ifle (by omega) (by omega), if_pos (by omega)]
    exact ⟨c, rfl, by rwa [show n = k by omega]⟩
  | succ d ih =>
    intro k c fu hk hc hf
    obtain ⟨f, rfl⟩ : ∃ f, fu = f + 1 := ⟨fu - 1, by omega⟩
    rw [LX8_chancesOfFirst_31, ifle (by omega) (by omega), if_neg (by omega), nI_1]
    have e : (if v >>> (nI k &&& 31) &&& 1 = 1 then some (nI x) else some (10 - nI x)) = some (nI (if v >>> (nI k &&& 31) &&& 1 = 1 then x else 10 - x)) := by
      split
      · rfl
      · rw [nI_lit 10, pk_sub hx]
    rw [e]
    simp only [bd1s]
    rw [pk_mul]
    refine ih (k + 1) _ f (by omega) ?_ (by omega)
    have h10 : (if v >>> (nI k &&& 31) &&& 1 = 1 then x else 10 - x) ≤ 10 := by split <;> omega
    rw [Nat.pow_succ]
    exact Nat.mul_le_mul hc h10
theorem down_spec {n : Nat} (hn : n ≤ 5) : ∀ (d k fu : Nat), k + d = n → d < fu → LX8_odds_48 (nI n) fu (nI (10 ^ k)) (nI k) = some (nI (10 ^ n)) := by
  intro d
  induction d with
  | zero =>
    intro k fu hk hf
    obtain ⟨f, rfl⟩ : ∃ f, fu = f + 1 := ⟨fu - 1, by omega⟩
    rw [LX8_odds_48, ifle (by omega) (by omega), if_pos (by omega), show k = n by omega]
  | succ d ih =>
    intro k fu hk hf
    obtain ⟨f, rfl⟩ : ∃ f, fu = f + 1 := ⟨fu - 1, by omega⟩
    rw [LX8_odds_48, ifle (by omega) (by omega), if_neg (by omega), nI_1, nI_lit 10, pk_mul, ← Nat.pow_succ]
    exact ih (k + 1) f (by omega) (by omega)
theorem gcd_both : ∀ (t a b k fu fu' : Nat), b < 2 ^ t → k + 2 * t ≤ 63 → 2 * t < fu → 2 * t < fu' → a < 2 ^ 31 → b < 2 ^ 31 → 0 < a ∨ 0 < b → ∃ d, LX8_commonDivisor_7 fu (nI a) (nI b) (nI k) = some (nI d) ∧ LX9_odds_172 fu' (nI a) (nI b) = some (nI d) ∧ d < 2 ^ 31 ∧ 0 < d := by
  have step : ∀ (a b k f : Nat), k < 64 → a < 2 ^ 31 → b < 2 ^ 31 → 0 < b → LX8_commonDivisor_7 (f + 1) (nI a) (nI b) (nI k) = LX8_commonDivisor_7 f (nI b) (nI (a % b)) (nI (k + 1)) ∧ LX9_odds_172 (f + 1) (nI a) (nI b) = LX9_odds_172 f (nI b) (nI (a % b)) := by
    intro a b k f hk ha hb h0
    have hz : ¬ nI b = 0 := nI_ne0 h0 hb
    rw [LX8_commonDivisor_7, LX9_odds_172, nI_lit 64, ifle (by omega) (by omega), if_neg (by omega), if_neg hz, if_neg hz, gzs hz, pk_rem ha h0 hb, nI_1]
    exact ⟨rfl, rfl⟩
  have stop : ∀ (a k f : Nat), k < 64 → LX8_commonDivisor_7 (f + 1) (nI a) (nI 0) (nI k) = some (nI a) ∧ LX9_odds_172 (f + 1) (nI a) (nI 0) = some (nI a) := by
    intro a k f hk
    rw [LX8_commonDivisor_7, LX9_odds_172, nI_lit 64, ifle (by omega) (by omega), if_neg (by omega), if_pos (show nI 0 = 0 from rfl), if_pos (show nI 0 = 0 from rfl)]
    exact ⟨rfl, rfl⟩
  intro t
  induction t with
  | zero =>
    intro a b k fu fu' hb hk hf hf' ha hb2 h0
    obtain ⟨f, rfl⟩ : ∃ f, fu = f + 1 := ⟨fu - 1, by omega⟩
    obtain ⟨f', rfl⟩ : ∃ f, fu' = f + 1 := ⟨fu' - 1, by omega⟩
    have : b = 0 := by omega
    subst this
    exact ⟨a, (stop a k f (by omega)).1, (stop a k f' (by omega)).2, ha, by omega⟩
  | succ t ih =>
    intro a b k fu fu' hb hk hf hf' ha hb2 h0
    obtain ⟨f, rfl⟩ : ∃ f, fu = f + 2 := ⟨fu - 2, by omega⟩
    obtain ⟨f', rfl⟩ : ∃ f, fu' = f + 2 := ⟨fu' - 2, by omega⟩
    by_cases c : b = 0
    · subst c
      exact ⟨a, (stop a k (f + 1) (by omega)).1, (stop a k (f' + 1) (by omega)).2, ha, by omega⟩
    · have m1 := Nat.mod_lt a (show 0 < b by omega)
      rw [(step a b k (f + 1) (by omega) ha hb2 (by omega)).1, (step a b k (f' + 1) (by omega) ha hb2 (by omega)).2]
      by_cases c2 : a % b = 0
      · rw [c2]
        exact ⟨b, (stop b (k + 1) f (by omega)).1, (stop b (k + 1) f' (by omega)).2, hb2, by omega⟩
      · rw [(step b (a % b) (k + 1) f (by omega) hb2 (by omega) (by omega)).1, (step b (a % b) (k + 1) f' (by omega) hb2 (by omega) (by omega)).2]
        have m2 := Nat.mod_lt b (show 0 < a % b by omega)
        have m3 : b % (a % b) + (a % b) ≤ b := by
          have h1 := Nat.div_add_mod b (a % b)
          have h2 : 1 ≤ b / (a % b) := (Nat.le_div_iff_mul_le (by omega)).mpr (by omega)
          have h3 : (a % b) * 1 ≤ (a % b) * (b / (a % b)) := Nat.mul_le_mul_left _ h2
          omega
        rw [Nat.pow_succ] at hb
        exact ih (a % b) (b % (a % b)) (k + 1 + 1) f f' (by omega) (by omega) (by omega) (by omega) (by omega) (by omega) (Or.inl (by omega))
theorem shl_pow : ∀ n, n ≤ 5 → (1 : Int32) <<< (nI n &&& 31) = nI (2 ^ n) := by decide
theorem pow10 : ∀ n, n ≤ 5 → 10 ^ n ≤ 100000 ∧ 0 < 10 ^ n := by decide
theorem pow2 : ∀ n, n ≤ 5 → 2 ^ n ≤ 32 := by decide
theorem bnd_ex : ∃ bnd : Nat → Nat, bnd 0 = 0 ∧ (∀ s, bnd (s + 1) = bnd s + 100000) ∧ ∀ s, s ≤ 32 → bnd s ≤ 3200000 :=
  ⟨fun s => s * 100000, by simp, fun s => Nat.succ_mul s 100000, fun s hs => Nat.mul_le_mul_right 100000 hs⟩
theorem op_odds {w τ : Mm} (h : Rel w τ) (x1 x2 x3 x4 : Int32) : Both (fX8_odds w x1 x2 x3 x4) (fX9_odds τ x1 x2 x3 x4) := by
  obtain ⟨n, g, wd, hc, -⟩ := id h
  have hn := hc.1.2.1
  have bad : Both (some ((-1 : Int32), w)) (some ((-1 : Int32), τ)) := Both.mk h rfl rfl lookX.rf lookM.rf
  unfold fX8_odds fX9_odds
  rw [gqs hc.2.2.2.1.2.2.2.1, in_eq, in_eq, in_eq]
  simp only [bd1s]
  rcases beast_any hc x1 with ⟨i, i1, rfl, i3, i4⟩ | ⟨i3, i4⟩
  · rw [i3, i4]
    simp only [bd1s]
    rw [if_neg (by decide), if_neg (by decide)]
    rcases in_any x2 (a := 0) (b := 5) (by omega) (by omega) with ⟨N, N1, N2, rfl, N4⟩ | N4
    · rw [show fX8_within (nI N) 0 5 = some 1 from N4]
      simp only [bd1s]
      rw [if_neg (by decide), if_neg (by decide)]
      rcases in_any x3 (a := 0) (b := 10) (by omega) (by omega) with ⟨X, X1, X2, rfl, X4⟩ | X4
      · rw [show fX8_within (nI X) 0 10 = some 1 from X4]
        simp only [bd1s]
        rw [if_neg (by decide), if_neg (by decide)]
        rcases in_any x4 (a := 0) (b := 1) (by omega) (by omega) with ⟨p, p1, p2, rfl, p4⟩ | p4
        · rw [show fX8_within (nI p) 0 1 = some 1 from p4]
          simp only [bd1s]
          rw [if_neg (by decide), if_neg (by decide)]
          obtain ⟨w1, a1, a2, a3, a4, a5⟩ := prep_spec hc
          obtain ⟨⟨h1, h2, h3, h4⟩, ⟨v1, v2, v3⟩, hsx, hbx, hs, hbm⟩ := id hc
          have hP2 := pow2 N N2
          have hP10 := pow10 N N2
          obtain ⟨bnd, bn0, bns, bnl⟩ := bnd_ex
          have loop : ∀ (d s u : Nat) (wa τa : Mm) (fu : Nat), s + d = 2 ^ N → d < fu → u ≤ bnd s → AX wa n g → wa 30 8 = nI wd → lookX w wa → lookM τ τa → ∃ (wb τb : Mm) (u' : Nat), LX8_chancesOfFirst_17 (nI i) (nI N) (nI X) fu (nI u) (nI s) wa = some (wb, nI u') ∧ LX9_odds_48 (nI i) (nI N) (nI X) fu (nI u) (nI s) τa = some (τb, nI u') ∧ u' ≤ 3200000 ∧ lookX w wb ∧ lookM τ τb := by
            intro d
            induction d with
            | zero =>
              intro s u wa τa fu hs2 hf hu hax e8 hlx hlm
              obtain ⟨f, rfl⟩ : ∃ f, fu = f + 1 := ⟨fu - 1, by omega⟩
              rw [LX8_chancesOfFirst_17, LX9_odds_48, shl_pow N N2, ifle (by omega) (by omega), if_pos (by omega), ifle (by omega) (by omega), if_pos (by omega)]
              exact ⟨wa, τa, u, rfl, rfl, Nat.le_trans hu (bnl s (by omega)), hlx, hlm⟩
            | succ d ih =>
              intro s u wa τa fu hs2 hf hu hax e8 hlx hlm
              obtain ⟨f, rfl⟩ : ∃ f, fu = f + 1 := ⟨fu - 1, by omega⟩
              rw [LX8_chancesOfFirst_17, LX9_odds_48, shl_pow N N2, ifle (by omega) (by omega), if_neg (by omega), ifle (by omega) (by omega), if_neg (by omega)]
              obtain ⟨c, c1, c2⟩ := chance_spec N2 X2 (v := nI s) N 0 1 1000 (by omega) (by decide) (by omega)
              rw [show nI 1 = (1 : Int32) from rfl, ← nI_lit0] at c1
              have c1m : LX9_odds_62 (nI N) (nI X) (nI s) 1000 1 0 = some (nI c) := by rw [chance_eq]; exact c1
              have hcl : Core w τa n g wd := hc.look lookX.rf hlm
              obtain ⟨-, -, -, -, hsa, hba⟩ := id hcl
              obtain ⟨τ1, d1, d2, d3, d4, d5, d6, d7⟩ := plain_spec (b := 0) hsa h2 hba.2.2 (by omega) (fun i hi => by rw [Nat.zero_add]; exact hba.1 i hi) hba.2.1
              obtain ⟨τ2, e1, e2, e3⟩ := cross_spec (M := 200) (fd := nI s) (wd := nI wd) (d2.kept (τ' := st τ1 0 24 (nI s)) (st_ki (by omega)) (fun a q1 q2 => st_a (by omega))) (Rd_of v2) (by omega) (by rw [st_ki (by omega)]; exact d3) st_kj
              obtain ⟨τ3, f1, f2, f3⟩ := findRanks_spec (L := la g n (nI s) (nI wd)) (d2.kept (τ' := τ2) (by rw [e3 0 (by omega) (by omega), st_ki (by omega)]) (fun a q1 q2 => by rw [e3 a (by omega) (by omega), st_a (by omega)])) (Rd_of v2) la_rng v3 (fun i hi => (e2 i hi).2)
              obtain ⟨q, q1, q2⟩ := rk_onto (Rd_of v2) hn (la_rng (fd := nI s) (wd := nI wd)) v3 (show 0 < n by omega)
              have b2 := f2 q q1
              rw [q2] at b2
              have hlm3 : lookM τ τ3 := hlm.tr (lookM_of (fun a z1 z2 z3 z4 z5 _ _ => by rw [f3 a z5, e3 a z3 z4, st_a z1, d6 a z1]) (fun j _ => by rw [f3 18 (by omega), e3 18 (by omega) (by omega), st_a (by omega), d6 18 (by omega)]) (fun j z1 z2 z3 => by rw [f3 0 (by omega), e3 0 (by omega) (by omega), st_ki z2, d7 j z1 z2 z3]))
              have first : fX9_firstOne τ2 0 = some (nI q, τ3) := by
                unfold fX9_firstOne
                exact bdE (show fX9_findRanks τ2 0 = some τ3 from f1) (bdE ((rd0 (k := 21) (n := 8) (by omega) (by omega)).trans (by rw [b2])) rfl)
              rw [c1]
              simp only [bd1s]
              rw [c1m]
              simp only [bd1s]
              rw [d1]
              simp only [bd1s, pts]
              rw [show fX9_cross (st τ1 0 24 (nI s)) 0 200 = some τ2 from e1]
              simp only [bd1s]
              rw [first]
              simp only [bd2s]
              have eadd : (if nI q = nI i then some (nI c) else some 0) = some (nI (if q = i then c else 0)) := by
                rw [ifeq (by omega) (by omega)]
                split <;> rfl
              rw [eadd]
              simp only [bd1s]
              rw [nI_add, nI_1 s]
              have hub : u + (if q = i then c else 0) ≤ bnd (s + 1) := by
                rw [bns]
                have : (if q = i then c else 0) ≤ c := by split <;> omega
                omega
              by_cases hc0 : nI c ≤ 0
              · have : c = 0 := by
                  have := (nI_leI (a := c) (b := 0) (by omega) (by omega)).mp hc0
                  omega
                subst this
                rw [if_pos hc0]
                simp only [bd2s]
                rw [show (if q = i then 0 else 0) = 0 by split <;> rfl, Nat.add_zero]
                exact ih (s + 1) u wa τ3 f (by omega) (by omega) (by rw [bns]; omega) hax e8 hlx hlm3
              · rw [if_neg hc0]
                obtain ⟨wb, g1, g2, g3, g4, g5, g6⟩ := run_spec (w := st wa 30 9 (nI s)) (fd := nI s) (wd := nI wd) (hax.kept (st_ki (by omega)) (st_ki (by omega)) (fun a _ _ z _ _ _ => st_a z)) (Vg_of v1 v2) (Rd_of v2) v3 (nI_lt (a := 0) (by omega) (by omega)) st_kj (by rw [st_ki (by omega)]; exact e8)
                have b3 := g4 q q1
                rw [q2] at b3
                rw [g1]
                simp only [bd1s]
                rw [rd0 (k := 35) (by omega) (by omega), b3]
                simp only [bd1s]
                rw [eadd]
                simp only [bd1s, bd2s]
                rw [nI_add]
                exact ih (s + 1) _ wb τ3 f (by omega) (by omega) hub (hax.kept (by rw [g6 6 (by omega), st_ki (by omega)]) (by rw [g6 7 (by omega), st_ki (by omega)]) (fun a _ _ z1 z2 z3 z4 => by rw [g5 a z1 z2 z3 z4, st_a z1])) (by rw [g6 8 (by omega), st_ki (by omega)]; exact e8) (hlx.tr (lookX_of (fun a z1 _ _ z4 z5 z6 _ _ _ _ => by rw [g5 a z1 z4 z5 z6, st_a z1]))) hlm3
          obtain ⟨wb, τb, u, l1, l2, l3, l4, l5⟩ := loop (2 ^ N) 0 0 w1 τ 1000 (by omega) (by omega) (by rw [bn0]; exact Nat.le_refl 0) a2 a4 (lookX_of (fun a q1 q2 q3 _ _ _ _ _ _ _ => a5 a q1 q2 q3)) lookM.rf
          rw [← nI_lit0] at l1 l2
          have dn := down_spec N2 N 0 1000 (by omega) (by omega)
          rw [show nI (10 ^ 0) = (1 : Int32) from rfl, ← nI_lit0] at dn
          have dnm : LX9_odds_145 (nI N) 1000 1 0 = some (nI (10 ^ N)) := by rw [down_eq]; exact dn
          obtain ⟨dd, g1, g2, g3, g4⟩ := gcd_both 17 u (10 ^ N) 0 1000 1000 (by omega) (by omega) (by omega) (by omega) (by omega) (by omega) (Or.inr hP10.2)
          rw [← nI_lit0] at g1
          have hch : fX8_chancesOfFirst w (nI i) (nI N) (nI X) = some (nI u, wb) := by
            unfold fX8_chancesOfFirst
            exact bdE (gqs hbx.2.2.2.1) (bdE a1 (bdE2 l1 rfl))
          have hcd : fX8_commonDivisor (nI u) (nI (10 ^ N)) = some (nI dd) := by
            unfold fX8_commonDivisor
            exact bdE g1 rfl
          have hz : ¬ nI dd = 0 := nI_ne0 g4 g3
          have e1 : ∀ (A B : Option (Int32 × Mm)), A = (if 1 ≤ nI dd then if nI p = 0 then bd1 (gz (nI dd)) fun _ => some (nI u / nI dd, wb) else bd1 (gz (nI dd)) fun _ => some (nI (10 ^ N) / nI dd, wb) else some (-1, wb)) → B = (if nI p = 0 then bd1 (gz (nI dd)) fun _ => some (nI u / nI dd, τb) else bd1 (gz (nI dd)) fun _ => some (nI (10 ^ N) / nI dd, τb)) → Both A B := by
            intro A B hA hB
            rw [hA, hB, if_pos (show (1 : Int32) ≤ nI dd from nI_le (a := 1) (by omega) g3), gzs hz]
            simp only [bd1s]
            split
            · exact Both.mk h rfl rfl l4 l5
            · exact Both.mk h rfl rfl l4 l5
          exact e1 _ _ (bdE dn (bdE2 hch (bdE hcd rfl))) (bdE2 l2 (bdE dnm (bdE g2 rfl)))
        · rw [show fX8_within x4 0 1 = some 0 from p4]
          simp only [bd1s]
          rw [if_pos trivial, if_pos trivial]
          exact bad
      · rw [show fX8_within x3 0 10 = some 0 from X4]
        simp only [bd1s]
        rw [if_pos trivial, if_pos trivial]
        exact bad
    · rw [show fX8_within x2 0 5 = some 0 from N4]
      simp only [bd1s]
      rw [if_pos trivial, if_pos trivial]
      exact bad
  · rw [i3, i4]
    simp only [bd1s]
    rw [if_pos trivial, if_pos trivial]
    exact bad
