def FF (P : Nat → Bool) : Nat → Nat × Int32
  | 0 => (0, -4)
  | k + 1 => if P k = true then ((FF P k).1 + 1, if (FF P k).1 = 0 then nI k else (FF P k).2) else FF P k
theorem FF_s {P : Nat → Bool} {k : Nat} : FF P (k + 1) = if P k = true then ((FF P k).1 + 1, if (FF P k).1 = 0 then nI k else (FF P k).2) else FF P k := rfl
theorem FF_le {P : Nat → Bool} : ∀ k, (FF P k).1 ≤ k
  | 0 => Nat.le_refl 0
  | k + 1 => by
    have := FF_le (P := P) k
    rw [FF_s]
    split
    · dsimp only
      omega
    · omega
theorem FF_n4 {P : Nat → Bool} : ∀ k, k ≤ 100 → ((FF P k).2 = -4 ↔ (FF P k).1 = 0)
  | 0, _ => ⟨fun _ => rfl, fun _ => rfl⟩
  | k + 1, hk => by
    have ih := FF_n4 (P := P) k (by omega)
    rw [FF_s]
    by_cases c : P k = true
    · rw [if_pos c]
      dsimp only
      by_cases c2 : (FF P k).1 = 0
      · rw [if_pos c2]
        exact ⟨fun q => absurd q (nI_n4 (by omega)), fun q => absurd q (by omega)⟩
      · rw [if_neg c2]
        exact ⟨fun q => absurd (ih.mp q) c2, fun q => absurd q (by omega)⟩
    · rw [if_neg c]
      exact ih
theorem FF_skip {P : Nat → Bool} {a : Nat} : ∀ d, (∀ k, a ≤ k → k < a + d → P k = false) → FF P (a + d) = FF P a
  | 0, _ => rfl
  | d + 1, h => by
    rw [show a + (d + 1) = (a + d) + 1 by omega, FF_s, h (a + d) (by omega) (by omega), if_neg (by decide)]
    exact FF_skip d (fun k q1 q2 => h k q1 (by omega))
theorem bdE2 {A1 A2 B : Type} {x : Option (A1 × A2)} {a1 : A1} {a2 : A2} {f : A1 → A2 → Option B} {y : Option B} (h : x = some (a1, a2)) (k : f a1 a2 = y) : bd2 x f = y := by
  rw [h]
  exact k
theorem bdE3 {A1 A2 A3 B : Type} {x : Option (A1 × A2 × A3)} {a1 : A1} {a2 : A2} {a3 : A3} {f : A1 → A2 → A3 → Option B} {y : Option B} (h : x = some (a1, a2, a3)) (k : f a1 a2 a3 = y) : bd3 x f = y := by
  rw [h]
  exact k
theorem op_rides {w τ : Mm} (h : Rel w τ) (x1 : Int32) : Both (fX8_rides w x1) (fX9_rides τ x1) := by
  obtain ⟨n, g, wd, hc, -, -, -, hsee, -⟩ := id h
  have hn := hc.1.2.1
  unfold fX8_rides fX9_rides
  rw [in_eq]
  rcases in_any x1 (a := 0) (b := 1) (by omega) (by omega) with ⟨m, m1, m2, rfl, m4⟩ | m4
  · rw [show fX8_within (nI m) 0 1 = some 1 from m4]
    simp only [bd1s]
    rw [if_neg (by decide), if_neg (by decide), gqs hc.2.2.2.1.2.2.2.1]
    obtain ⟨w1, a1, a2, a3, a4, a5⟩ := prep_spec hc
    obtain ⟨w2, b1, b2, b3⟩ := unseat_spec 1000 0 w1 (by omega) (by omega) (fun i hi => absurd hi (by omega))
    obtain ⟨⟨h1, h2, h3, h4⟩, ⟨v1, v2, v3⟩, hsx, hbx, hs, hbm⟩ := id hc
    obtain ⟨z, z1, z2, z3, z4⟩ := hsee
    have hsX : ∀ k, k < z → (w 45 k).toNatClampNeg < n ∧ (w 46 k).toNatClampNeg ≤ 8 ∧ w 45 k = nI (w 45 k).toNatClampNeg ∧ w 46 k = nI (w 46 k).toNatClampNeg := fun k hk => by
      obtain ⟨i, r, q1, q2, q3, q4, q5, q6, q7⟩ := z4 k hk
      rw [q4, q6, nI_clamp (by omega), nI_clamp (by omega)]
      exact ⟨q1, by omega, rfl, rfl⟩
    have hsM : ∀ k, k < z → (w 45 k).toNatClampNeg < n ∧ (w 46 k).toNatClampNeg ≤ 8 ∧ τ 24 k = nI (w 45 k).toNatClampNeg ∧ τ 25 k = nI (w 46 k).toNatClampNeg := fun k hk => by
      obtain ⟨i, r, q1, q2, q3, q4, q5, q6, q7⟩ := z4 k hk
      rw [q4, q6, q5, q7, nI_clamp (by omega), nI_clamp (by omega)]
      exact ⟨q1, by omega, rfl, rfl⟩
    generalize hso : (fun k => (w 45 k).toNatClampNeg) = so at *
    generalize hsr : (fun k => (w 46 k).toNatClampNeg) = sr at *
    have eso : ∀ k, (w 45 k).toNatClampNeg = so k := fun k => by rw [← hso]
    have esr : ∀ k, (w 46 k).toNatClampNeg = sr k := fun k => by rw [← hsr]
    simp only [eso, esr] at hsX hsM
    have hax0 : AX w2 n (gs g (g 3) (fun _ => -4)) := by
      obtain ⟨x1, x2, x3, x4, x5, x6⟩ := a2
      refine ⟨by rw [b3 17 (by omega)]; exact x1, x2, by rw [b3 30 (by omega)]; exact x3, by rw [b3 30 (by omega)]; exact x4, fun q p r => ?_, fun j hj => ?_⟩
      · rw [b3 30 (by omega)]
        have := x5 q p r
        rcases x4 with y | y
        · rw [y] at this ⊢
          rw [b3 29 (by omega)]
          exact this
        · rw [y] at this ⊢
          rw [b3 36 (by omega)]
          exact this
      · obtain ⟨y0, y1, y2, y3, y4, y5, y6⟩ := x6 j hj
        rw [b3 18 (by omega), b3 19 (by omega), b3 20 (by omega), b3 31 (by omega), b3 23 (by omega), b3 24 (by omega), b2 j (by omega)]
        exact ⟨y0, y1, y2, y3, rfl, y5, y6⟩
    have hlx0 : lookX w w2 := lookX_of (fun a q1 q2 q3 _ _ _ _ _ _ _ => by rw [b3 a q3, a5 a q1 q2 q3])
    have okI : ∀ i j, i < n → j < n → i ≠ j → g 5 i = -4 → Ok g n (g 3) (upd (fun _ => -4) i (nI j)) := fun i j i1 j1 hij h5 => ⟨v2.1, fun k hk q => by
      unfold upd at q ⊢
      by_cases y : k = i
      · rw [if_pos y]
        exact ⟨j, j1, rfl, by rw [if_neg (Ne.symm hij)]⟩
      · rw [if_neg y] at q
        exact absurd rfl q, fun k hk q => by
      unfold upd
      rw [if_neg (fun y => q (by rw [y]; exact h5))]⟩
    have okN : Ok g n (g 3) (fun _ => -4) := ⟨v2.1, fun k hk q => absurd rfl q, fun _ _ _ => rfl⟩
    -- who explains
    generalize hP : (fun code : Nat => decide (code / 8 < n ∧ code % 8 < n ∧ code / 8 ≠ code % 8 ∧ g 5 (code / 8) = -4) && ag (rk (gs g (g 3) (upd (fun _ => -4) (code / 8) (nI (code % 8)))) n (la (gs g (g 3) (upd (fun _ => -4) (code / 8) (nI (code % 8)))) n 0 (nI wd))) so sr z) = P
    have ePt : ∀ code, code / 8 < n → code % 8 < n → code / 8 ≠ code % 8 → g 5 (code / 8) = -4 → P code = ag (rk (gs g (g 3) (upd (fun _ => -4) (code / 8) (nI (code % 8)))) n (la (gs g (g 3) (upd (fun _ => -4) (code / 8) (nI (code % 8)))) n 0 (nI wd))) so sr z := fun code q1 q2 q3 q4 => by
      rw [← hP]
      dsimp only
      rw [decide_eq_true ⟨q1, q2, q3, q4⟩, Bool.true_and]
    have ePf : ∀ code, ¬ (code / 8 < n ∧ code % 8 < n ∧ code / 8 ≠ code % 8 ∧ g 5 (code / 8) = -4) → P code = false := fun code q => by
      rw [← hP]
      dsimp only
      rw [decide_eq_false q, Bool.false_and]
    have inner : ∀ (i : Nat), i < n → ∀ (fu j : Nat) (wa : Mm), j ≤ n → n - j < fu → AX wa n (gs g (g 3) (fun _ => -4)) → wa 30 9 = 0 → wa 30 8 = nI wd → lookX w wa → ∃ wb, LX8_rides_52 (nI i) fu (nI (FF P (8 * i + j)).1) (FF P (8 * i + j)).2 (nI j) wa = some (wb, nI (FF P (8 * i + n)).1, (FF P (8 * i + n)).2) ∧ AX wb n (gs g (g 3) (fun _ => -4)) ∧ wb 30 9 = 0 ∧ wb 30 8 = nI wd ∧ lookX w wb := by
      intro i hi fu
      induction fu with
      | zero => intro j wa _ q; omega
      | succ fu ih =>
        intro j wa hj hf hax e9 e8 hlx
        rw [LX8_rides_52, gqs (x := wa 16 3) (by rw [hlx.1 16 (by omega)]; exact hbx.2.2.2.1), hlx.1 17 (by omega), hsx.1]
        simp only [bd1s]
        rw [ifle (by omega) (by omega)]
        by_cases c : n ≤ j
        · rw [if_pos c, show j = n by omega]
          exact ⟨wa, rfl, hax, e9, e8, hlx⟩
        · rw [if_neg c, ifeq (by omega) (by omega), nI_1 j]
          have ed : (8 * i + j) / 8 = i := by omega
          have em : (8 * i + j) % 8 = j := by omega
          have ih2 := fun (wc : Mm) => ih (j + 1) wc (by omega) (by omega)
          rw [show 8 * i + (j + 1) = (8 * i + j) + 1 by omega, FF_s] at ih2
          have fle := FF_le (P := P) (8 * i + j)
          have fn4 := FF_n4 (P := P) (8 * i + j) (by omega)
          by_cases c2 : i = j
          · rw [ePf (8 * i + j) (by rw [ed, em]; rintro ⟨_, _, q, _⟩; exact q c2), if_neg (by decide)] at ih2
            rw [if_pos c2]
            simp only [bd3s]
            exact ih2 wa hax e9 e8 hlx
          · rw [if_neg c2, rdN (k := 23) (j := i) (by omega) (by omega), hlx.1 23 (by omega), (hsx.2 i hi).2.2.2.1]
            simp only [bd1s]
            by_cases c5 : g 5 i = -4
            · rw [if_pos c5]
              obtain ⟨wb, r1, r2, r3, r4, r5⟩ := explains_spec (so := so) (sr := sr) v1 v3 h3 h4 z1 hi (okI i j hi (by omega) c2 c5) hax e9 e8 (by rw [hlx.2 44 (by omega) (by omega)]; exact z2) (fun k hk => by rw [hlx.2 45 (by omega) (by omega), hlx.2 46 (by omega) (by omega)]; exact hsX k hk)
              have eP := ePt (8 * i + j) (by omega) (by omega) (by rw [ed, em]; exact c2) (by rw [ed]; exact c5)
              rw [ed, em] at eP
              rw [← eP] at r1
              rw [r1]
              simp only [bd2s]
              cases hp : P (8 * i + j) with
              | false =>
                rw [hp, if_neg (by decide)] at ih2
                rw [bI_f, if_pos rfl]
                simp only [bd3s]
                exact ih2 wb r2 r3 r4 (hlx.tr r5)
              | true =>
                rw [hp, if_pos rfl] at ih2
                dsimp only at ih2
                rw [bI_t, if_neg (by decide)]
                by_cases y : (FF P (8 * i + j)).1 = 0
                · rw [if_pos y] at ih2
                  rw [if_pos (fn4.mpr y), nI_1 (FF P (8 * i + j)).1, show (8 : Int32) * nI i + nI j = nI (8 * i + j) by rw [nI_lit 8, pk_mul, nI_add]]
                  simp only [bd3s]
                  exact ih2 wb r2 r3 r4 (hlx.tr r5)
                · rw [if_neg y] at ih2
                  rw [if_neg (fun q => y (fn4.mp q)), nI_1 (FF P (8 * i + j)).1]
                  simp only [bd3s]
                  exact ih2 wb r2 r3 r4 (hlx.tr r5)
            · rw [ePf (8 * i + j) (by rw [ed, em]; rintro ⟨_, _, _, q⟩; exact c5 q), if_neg (by decide)] at ih2
              rw [if_neg c5]
              simp only [bd3s]
              exact ih2 wa hax e9 e8 hlx
    have outer : ∀ (fu i : Nat) (wa : Mm), i ≤ n → n - i < fu → AX wa n (gs g (g 3) (fun _ => -4)) → wa 30 9 = 0 → wa 30 8 = nI wd → lookX w wa → ∃ wb, LX8_rides_37 fu (nI (FF P (8 * i)).1) (FF P (8 * i)).2 (nI i) wa = some (wb, nI (FF P (8 * n)).1, (FF P (8 * n)).2) ∧ AX wb n (gs g (g 3) (fun _ => -4)) ∧ wb 30 9 = 0 ∧ wb 30 8 = nI wd ∧ lookX w wb := by
      intro fu
      induction fu with
      | zero => intro i wa _ q; omega
      | succ fu ih =>
        intro i wa hi hf hax e9 e8 hlx
        rw [LX8_rides_37, gqs (x := wa 16 3) (by rw [hlx.1 16 (by omega)]; exact hbx.2.2.2.1), hlx.1 17 (by omega), hsx.1]
        simp only [bd1s]
        rw [ifle (by omega) (by omega)]
        by_cases c : n ≤ i
        · rw [if_pos c, show i = n by omega]
          exact ⟨wa, rfl, hax, e9, e8, hlx⟩
        · rw [if_neg c, nI_1 i]
          obtain ⟨wb, r1, r2, r3, r4, r5⟩ := inner i (by omega) 1000 0 wa (by omega) (by omega) hax e9 e8 hlx
          have sk := FF_skip (P := P) (a := 8 * i + n) (8 - n) (fun k q1 q2 => ePf k (fun q => by omega))
          rw [show 8 * i + n + (8 - n) = 8 * (i + 1) by omega] at sk
          rw [Nat.add_zero, ← nI_lit0] at r1
          rw [r1, ← sk]
          simp only [bd3s]
          exact ih (i + 1) wb (by omega) (by omega) r2 r3 r4 r5
    obtain ⟨w9, l1, l2, l3, l4, l5⟩ := outer 1000 0 w2 (by omega) (by omega) hax0 (by rw [b3 30 (by omega)]; exact a3) (by rw [b3 30 (by omega)]; exact a4) hlx0
    obtain ⟨w27, f1, f2, f3, f4, f5, f6⟩ := run_spec (fd := 0) (wd := nI wd) l2 (Vg_of (Vs_gs v1) (Ok_gs okN)) (Rd_of (Ok_gs okN)) (Vo_gs v3) (nI_lt (a := 0) (by omega) (by omega)) l3 l4
    have hlx27 : lookX w w27 := l5.tr (lookX_of (fun a q1 _ _ q4 q5 q6 _ _ _ _ => f5 a q1 q4 q5 q6))
    have hag := agree_spec (so := so) (sr := sr) (g := gs g (g 3) (fun _ => -4)) (L := la (gs g (g 3) (fun _ => -4)) n 0 (nI wd)) (w := w27) hn z1 (by rw [hlx27.2 44 (by omega) (by omega)]; exact z2) (fun k hk => by rw [hlx27.2 45 (by omega) (by omega), hlx27.2 46 (by omega) (by omega)]; exact hsX k hk) f3
    have skn := FF_skip (P := P) (a := 8 * n) (64 - 8 * n) (fun k q1 q2 => ePf k (fun q => by omega))
    rw [show 8 * n + (64 - 8 * n) = 64 by omega] at skn
    rw [← skn] at l1
    -- the reference, up to 63
    have mloop : ∀ (d k : Nat) (τa : Mm), k + d = 64 → lookM τ τa → ∃ τb, LX9_rides_19 (d + 936) (nI (FF P k).1) (FF P k).2 (nI k) τa = LX9_rides_19 936 (nI (FF P 64).1) (FF P 64).2 (nI 64) τb ∧ lookM τ τb := by
      intro d
      induction d with
      | zero =>
        intro k τa hk hl
        rw [show k = 64 by omega]
        exact ⟨τa, by rw [Nat.zero_add], hl⟩
      | succ d ih =>
        intro k τa hk hl
        have hcl : Core w τa n g wd := hc.look lookX.rf hl
        rw [show d + 1 + 936 = (d + 936) + 1 by omega, LX9_rides_19, nI_lit 64, iflt (by omega) (by omega), if_neg (by omega), ifeq (by omega) (by omega), if_neg (by omega)]
        have ed : nI k / 8 = nI (k / 8) := pk_div (d := 8) (by omega) (by omega) (by omega)
        have em : nI k - nI (k / 8) * 8 = nI (k % 8) := by
          have := pk_rem (a := k) (d := 8) (by omega) (by omega) (by omega)
          rw [show nI 8 = (8 : Int32) from rfl, ed] at this
          exact this
        rw [ed, em, nI_1 k]
        have ih2 := fun (τc : Mm) => ih (k + 1) τc (by omega)
        rw [FF_s] at ih2
        have fle := FF_le (P := P) k
        have fn4 := FF_n4 (P := P) k (by omega)
        have may : (bd1 (fX9_isBeast τa (nI (k / 8))) fun v12 => if v12 = 0 then some 0 else bd1 (fX9_isBeast τa (nI (k % 8))) fun v13 => if v13 = 0 then some 0 else if nI (k / 8) = nI (k % 8) then some 0 else bd1 (fX9_raftOf τa (nI (k / 8))) fun v14 => if v14 = -4 then some 1 else some 0) = some (bI (decide (k / 8 < n ∧ k % 8 < n ∧ k / 8 ≠ k % 8 ∧ g 5 (k / 8) = -4))) := by
          have bst : ∀ q, q < 100 → fX9_isBeast τa (nI q) = some (bI (decide (q < n))) := fun q hq => by
            rcases beast_any hcl (nI q) with ⟨j, j1, j2, j3, j4⟩ | ⟨j3, j4⟩
            · have := (nI_eq (by omega) (by omega)).mp j2
              rw [j4, decide_eq_true (by omega)]
              rfl
            · rw [j4]
              rw [has_in hsx.1 h2 (by omega)] at j3
              have := Option.some.inj j3
              rw [bI_ne] at this
              rw [this]
              rfl
          rw [bst (k / 8) (by omega), bst (k % 8) (by omega)]
          simp only [bd1s]
          by_cases q1 : k / 8 < n
          · rw [decide_eq_true q1, bI_t, if_neg (by decide)]
            by_cases q2 : k % 8 < n
            · rw [decide_eq_true q2, bI_t, if_neg (by decide), ifeq (by omega) (by omega)]
              by_cases q3 : k / 8 = k % 8
              · rw [if_pos q3, decide_eq_false (fun q => q.2.2.1 q3)]
                rfl
              · rw [if_neg q3, hcl.2.2.2.2.1.2.2.1 _ q1]
                simp only [bd1s]
                by_cases q4 : g 5 (k / 8) = -4
                · rw [if_pos q4, decide_eq_true ⟨q1, q2, q3, q4⟩]
                  rfl
                · rw [if_neg q4, decide_eq_false (fun q => q4 q.2.2.2)]
                  rfl
            · rw [decide_eq_false q2, bI_f, if_pos rfl, decide_eq_false (fun q => q2 q.2.1)]
              rfl
          · rw [decide_eq_false q1, bI_f, if_pos rfl, decide_eq_false (fun q => q1 q.1)]
            rfl
        rw [may]
        simp only [bd1s]
        by_cases q : k / 8 < n ∧ k % 8 < n ∧ k / 8 ≠ k % 8 ∧ g 5 (k / 8) = -4
        · rw [decide_eq_true q, bI_t, if_neg (show ¬ (1 : Int32) = 0 by decide), ifeq (by omega) (by omega), if_neg (by omega)]
          obtain ⟨τb, s1, s2⟩ := fits_spec (so := so) (sr := sr) (τ0 := τ) (wd := wd) (c := upd (fun _ => -4) (k / 8) (nI (k % 8))) hs hn hbm.2.2 hbm.2.1 (fun i hi => (hbm.1 i hi).1) z1 z3 hsM (okI _ _ q.1 q.2.1 q.2.2.1 q.2.2.2) (x1 := nI (k / 8)) (x2 := nI (k % 8)) (fun j hj => by
            unfold upd
            rw [ifeq (by omega) (by omega)]) hl
          rw [← ePt k q.1 q.2.1 q.2.2.1 q.2.2.2] at s1
          rw [s1]
          simp only [bd2s]
          cases hp : P k with
          | false =>
            rw [hp, if_neg (by decide)] at ih2
            rw [bI_f, if_pos rfl]
            simp only [bd3s]
            exact ih2 τb s2
          | true =>
            rw [hp, if_pos rfl] at ih2
            dsimp only at ih2
            rw [bI_t, if_neg (by decide), nI_1 (FF P k).1]
            by_cases y : (FF P k).1 = 0
            · rw [if_pos y] at ih2
              rw [if_pos (show nI (FF P k).1 = 0 by rw [y]; rfl)]
              simp only [bd1s, bd3s]
              exact ih2 τb s2
            · rw [if_neg y] at ih2
              rw [if_neg (nI_ne0 (by omega) (by omega))]
              simp only [bd1s, bd3s]
              exact ih2 τb s2
        · rw [ePf k q, if_neg (by decide)] at ih2
          rw [decide_eq_false q, bI_f, if_pos rfl]
          simp only [bd3s]
          exact ih2 τa hl
    obtain ⟨τb, r1, r2⟩ := mloop 64 0 τ (by omega) lookM.rf
    obtain ⟨τc, s1, s2⟩ := fits_spec (so := so) (sr := sr) (τ0 := τ) (τ := τb) (wd := wd) (c := fun _ => -4) hs hn hbm.2.2 hbm.2.1 (fun i hi => (hbm.1 i hi).1) z1 z3 hsM okN (x1 := -4) (x2 := -4) (fun j hj => by split <;> rfl) r2
    have fle := FF_le (P := P) 64
    have fn4 := FF_n4 (P := P) 64 (by omega)
    generalize ag (rk (gs g (g 3) (fun _ => -4)) n (la (gs g (g 3) (fun _ => -4)) n 0 (nI wd))) so sr z = A at hag s1
    have h64 : nI 64 = (64 : Int32) := rfl
    have mlast : LX9_rides_19 936 (nI (FF P 64).1) (FF P 64).2 (nI 64) τb = some (τc, if A = true then nI (FF P 64).1 + 1 else nI (FF P 64).1, if A = true then (if (FF P 64).1 = 0 then nI 64 else (FF P 64).2) else (FF P 64).2) := by
      have last : ∀ (a b : Int32), LX9_rides_19 935 a b (nI 64 + 1) τc = some (τc, a, b) := fun a b => by
        rw [show (935 : Nat) = 934 + 1 from rfl, LX9_rides_19, if_pos (show (64 : Int32) < nI 64 + 1 by decide)]
      rw [show (936 : Nat) = 935 + 1 from rfl, LX9_rides_19, if_neg (show ¬ (64 : Int32) < nI 64 by decide), if_pos h64]
      simp only [bd1s]
      rw [if_neg (show ¬ (1 : Int32) = 0 by decide), if_pos h64, s1]
      simp only [bd2s]
      cases A with
      | false =>
        rw [bI_f, if_pos rfl, if_neg Bool.false_ne_true, if_neg Bool.false_ne_true]
        simp only [bd3s]
        exact last _ _
      | true =>
        rw [bI_t, if_neg (show ¬ (1 : Int32) = 0 by decide), if_pos rfl, if_pos rfl]
        by_cases y : (FF P 64).1 = 0
        · rw [if_pos (show nI (FF P 64).1 = 0 by rw [y]; rfl), if_pos y]
          simp only [bd1s, bd3s]
          exact last _ _
        · rw [if_neg (nI_ne0 (by omega) (by omega)), if_neg y]
          simp only [bd1s, bd3s]
          exact last _ _
    have xlast : (if bI A = 0 then some (nI (FF P 64).1, (FF P 64).2) else if (FF P 64).2 = -4 then some (nI (FF P 64).1 + 1, 64) else some (nI (FF P 64).1 + 1, (FF P 64).2)) = some (if A = true then nI (FF P 64).1 + 1 else nI (FF P 64).1, if A = true then (if (FF P 64).1 = 0 then nI 64 else (FF P 64).2) else (FF P 64).2) := by
      cases A with
      | false => rfl
      | true =>
        rw [bI_t, if_neg (show ¬ (1 : Int32) = 0 by decide), if_pos rfl, if_pos rfl]
        by_cases y : (FF P 64).1 = 0
        · rw [if_pos (fn4.mpr y), if_pos y]
          rfl
        · rw [if_neg (fun q => y (fn4.mp q)), if_neg y]
    have e0 : LX9_rides_19 1000 0 (-4) 0 τ = _ := r1.trans mlast
    rw [a1, e0]
    simp only [bd1s]
    have u1 : fX4_unseatAll w1 = some w2 := by
      unfold fX4_unseatAll
      rw [← nI_lit0] at b1
      exact bdE b1 rfl
    have l1' : LX8_rides_37 1000 0 (-4) 0 w2 = _ := l1
    rw [u1]
    simp only [bd1s]
    rw [l1']
    simp only [bd3s]
    rw [f1]
    simp only [bd1s]
    rw [hag]
    simp only [bd1s]
    rw [xlast]
    simp only [bd2s]
    split
    · exact Both.mk h rfl rfl hlx27 s2
    · exact Both.mk h rfl rfl hlx27 s2
  · rw [show fX8_within x1 0 1 = some 0 from m4]
    simp only [bd1s]
    rw [if_pos trivial, if_pos trivial]
    exact Both.mk h rfl rfl lookX.rf lookM.rf
