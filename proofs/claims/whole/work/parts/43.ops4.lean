section KS
variable {w w1 w' τ τ1 τ' g : Mm} {n wd : Nat} {s c : Nat → Int32}
theorem change_rel (h : Rel w τ) (hc : Core w τ n g wd) (ht : Told w τ n) (hk : Kept w τ n g) (hse : Seen w τ n) (htx : Text w τ) {sz e d i : Nat} (hsz : ∀ k, k < sz → (∃ c, c < n ∧ w 38 k = nI c ∧ ∀ i, i < n → τ 18 (16 + 16 * k + i) = (if i = c then w 39 k else τ 18 (bse sz (k + 1) + i)) ∧ τ 18 (16 + 16 * k + 8 + i) = (if i = c then w 40 k else τ 18 (bse sz (k + 1) + 8 + i))) ∧ Ok g n (fun i => τ 18 (16 + 16 * k + i)) (fun i => τ 18 (16 + 16 * k + 8 + i))) (he : Ed sz e d) (hi : i < n) (o : Ok g n s c) (hs : ∀ j, j < n → j ≠ i → s j = g 3 j) (hcc : ∀ j, j < n → j ≠ i → c j = g 4 j) (hN : Noted w w1 i e d) (hK : Known τ τ1 e d) (p1 : ∀ a, a ≠ 21 → a ≠ 22 → w' a = w1 a) (p2 : ∀ j, j < n → w' 21 j = s j) (p3 : ∀ j, j < n → w' 22 j = c j) (p4 : ∀ a, a ≠ 18 → τ' a = τ1 a) (p5 : ∀ j, 16 ≤ j → τ' 18 j = τ1 18 j) (p6 : ∀ j, j < n → τ' 18 j = s j) (p7 : ∀ j, j < n → τ' 18 (8 + j) = c j) : Rel w' τ' := by
  obtain ⟨e1, e2, e3⟩ := he
  obtain ⟨a1, a2, a3, a4, a5, a6⟩ := hN
  obtain ⟨b1, b2, b3, b4, b5, b6⟩ := hK
  have hn := hc.1.2.1
  have hW : ∀ a, a ≠ 21 → a ≠ 22 → (a < 37 ∨ 40 < a) → w' a = w a := fun a q1 q2 q3 => by rw [p1 a q1 q2, a1 a (by omega) (by omega) (by omega) (by omega)]
  have hT : ∀ a, a ≠ 0 → a ≠ 18 → τ' a = τ a := fun a q1 q2 => by rw [p4 a q2, b1 a q1 q2]
  have h0 : ∀ j, j ≠ 21 → τ' 0 j = τ 0 j := fun j q => by rw [p4 0 (by omega), b2 j q]
  refine ⟨n, gs g s c, wd, hc.put o (fun a q r q1 q2 => hW a q1 q2 (by omega)) (by rw [hW 16 (by omega) (by omega) (by omega)]) (by rw [hW 16 (by omega) (by omega) (by omega)]) p2 p3 (fun a q r => hT a (by omega) (by omega)) p6 p7, ht.kept (hW 17 (by omega) (by omega) (by omega)) (hW 25 (by omega) (by omega) (by omega)) (hW 26 (by omega) (by omega) (by omega)) (hT 8 (by omega) (by omega)) (hT 12 (by omega) (by omega)) (hT 16 (by omega) (by omega)) (hT 17 (by omega) (by omega)), ⟨e + 1, by omega, by rw [p1 37 (by omega) (by omega)]; exact a2, by rw [p4 0 (by omega)]; exact b3, fun k hk => ?_⟩, hk.kept hn (hW 41 (by omega) (by omega) (by omega)) (hW 42 (by omega) (by omega) (by omega)) (hW 43 (by omega) (by omega) (by omega)) (h0 22 (by omega)) (fun j q _ => by rw [p5 j (by omega), b4 j (by omega)]), hse.kept (hW 44 (by omega) (by omega) (by omega)) (hW 45 (by omega) (by omega) (by omega)) (hW 46 (by omega) (by omega) (by omega)) (h0 33 (by omega)) (hT 24 (by omega) (by omega)) (hT 25 (by omega) (by omega)), htx.kept (hW 0 (by omega) (by omega) (by omega)) (by rw [hW 16 (by omega) (by omega) (by omega)]) (h0 1 (by omega)) (hT 1 (by omega) (by omega))⟩
  rw [p1 38 (by omega) (by omega), p1 39 (by omega) (by omega), p1 40 (by omega) (by omega)]
  by_cases z : k = e
  · subst z
    have u1 : ∀ j, j < n → τ' 18 (16 + 16 * k + j) = g 3 j := fun j hj => by rw [p5 _ (by omega), b6 j (by omega), (hc.2.2.2.2.2.1 j hj).1]
    have u2 : ∀ j, j < n → τ' 18 (16 + 16 * k + 8 + j) = g 4 j := fun j hj => by rw [p5 _ (by omega), show 16 + 16 * k + 8 + j = 16 + 16 * k + (8 + j) by omega, b6 (8 + j) (by omega), (hc.2.2.2.2.2.1 j hj).2]
    refine ⟨⟨i, hi, a4, fun j hj => ?_⟩, hc.2.1.2.1.same u1 u2⟩
    rw [u1 j hj, u2 j hj, a5, a6, (hc.2.2.2.1.1 i hi).1, (hc.2.2.2.1.1 i hi).2, show bse (k + 1) (k + 1) = 0 from if_pos rfl]
    by_cases y : j = i
    · subst y
      rw [if_pos rfl, if_pos rfl]
      exact ⟨rfl, rfl⟩
    · rw [if_neg y, if_neg y, Nat.zero_add, Nat.zero_add, p6 j hj, p7 j hj, hs j hj y, hcc j hj y]
      exact ⟨rfl, rfl⟩
  · obtain ⟨⟨c0, c1, c2, c3⟩, o1⟩ := hsz (k + d) (by omega)
    obtain ⟨f1, f2, f3⟩ := a3 k (by omega)
    have u1 : ∀ j, j < n → τ' 18 (16 + 16 * k + j) = τ 18 (16 + 16 * (k + d) + j) := fun j hj => by rw [p5 _ (by omega), show 16 + 16 * k + j = 16 + (16 * k + j) by omega, b5 _ (by omega), show 16 + 16 * d + (16 * k + j) = 16 + 16 * (k + d) + j by omega]
    have u2 : ∀ j, j < n → τ' 18 (16 + 16 * k + 8 + j) = τ 18 (16 + 16 * (k + d) + 8 + j) := fun j hj => by rw [p5 _ (by omega), show 16 + 16 * k + 8 + j = 16 + (16 * k + 8 + j) by omega, b5 _ (by omega), show 16 + 16 * d + (16 * k + 8 + j) = 16 + 16 * (k + d) + 8 + j by omega]
    have u3 : ∀ j, j < 16 → τ' 18 (16 + 16 * (k + 1) + j) = τ 18 (bse sz (k + d + 1) + j) := by
      intro j hj
      rw [p5 _ (by omega)]
      by_cases y : k + 1 = e
      · rw [show bse sz (k + d + 1) = 0 from if_pos (by omega), y, b6 j hj, Nat.zero_add]
      · rw [show bse sz (k + d + 1) = 16 + 16 * (k + d + 1) from if_neg (by omega), show 16 + 16 * (k + 1) + j = 16 + (16 * (k + 1) + j) by omega, b5 _ (by omega), show 16 + 16 * d + (16 * (k + 1) + j) = 16 + 16 * (k + d + 1) + j by omega]
    refine ⟨⟨c0, c1, by rw [f1]; exact c2, fun j hj => ?_⟩, o1.same u1 u2⟩
    rw [u1 j hj, u2 j hj, f2, f3, show bse (e + 1) (k + 1) = 16 + 16 * (k + 1) from if_neg (by omega), u3 j (by omega), Nat.add_assoc (16 + 16 * (k + 1)) 8 j, u3 (8 + j) (by omega), ← Nat.add_assoc]
    exact c3 j hj
end KS
theorem op_start {w τ : Mm} (h : Rel w τ) (x1 x2 : Int32) : Both (fX8_start w x1 x2) (fX9_start τ x1 x2) := by
  obtain ⟨n, g, wd, hc, ht, hch, hk, hse, htx⟩ := id h
  obtain ⟨sz, s1, s2, s3, s4⟩ := id hch
  have hn := hc.1.2.1
  unfold fX8_start fX9_start
  rw [gqs hc.2.2.2.1.2.2.2.1]
  simp only [bd1s]
  rcases beast_any hc x1 with ⟨i, i1, rfl, i3, i4⟩ | ⟨i3, i4⟩
  · rw [i3, i4]
    simp only [bd1s]
    rw [if_neg (show ¬ (1 : Int32) = 0 by decide), if_neg (show ¬ (1 : Int32) = 0 by decide), in_eq]
    rcases in_any x2 (a := 0) (b := 30) (by omega) (by omega) with ⟨r, r1, r2, rfl, r4⟩ | r4
    · obtain ⟨e, d, he⟩ := Ed_of s1
      obtain ⟨w1, n1, n2⟩ := note_spec (i := i) (by omega) s2 he
      obtain ⟨τ1, k1, k2⟩ := know_spec s3 he
      rw [show fX8_within (nI r) 0 30 = some 1 from r4]
      simp only [bd1s]
      rw [if_neg (show ¬ (1 : Int32) = 0 by decide), if_neg (show ¬ (1 : Int32) = 0 by decide), rdN (k := 21) (j := i) (by omega) (by omega), n1, k1]
      simp only [bd1s]
      rw [gqs (x := w1 16 3) (by rw [n2.1 16 (by omega) (by omega) (by omega) (by omega)]; exact hc.2.2.2.1.2.2.2.1), wrN (k := 21) (j := i) (by omega) (by omega), show (0 : Int32) + nI i = nI i from Int32.zero_add _, rdN (k := 18) (j := i) (by omega) (by omega), wrN (k := 18) (j := i) (by omega) (by omega), k2.2.2.2.1 i (by omega), (hc.2.2.2.1.1 i i1).1, (hc.2.2.2.2.2.1 i i1).1]
      refine ⟨_, _, _, rfl, rfl, change_rel (s := upd (g 3) i (nI r)) (c := g 4) h hc ht hk hse htx s4 he i1 ⟨fun j hj => ?_, hc.2.1.2.1.2.1, hc.2.1.2.1.2.2⟩ (fun j _ q => ?_) (fun j _ q => rfl) n2 k2 (fun a q _ => st_a q) (fun j hj => ?_) (fun j hj => ?_) (fun a q => st_a q) (fun j q => st_ki (by omega)) (fun j hj => ?_) (fun j hj => ?_)⟩
      · by_cases y : j = i
        · exact ⟨r, r2, by simp [upd, y]⟩
        · obtain ⟨t, t1, t2⟩ := hc.2.1.2.1.1 j hj
          exact ⟨t, t1, by simp [upd, y, t2]⟩
      · simp [upd, q]
      · by_cases y : j = i
        · subst y
          rw [st_kj]
          simp [upd]
        · rw [st_ki y, n2.1 21 (by omega) (by omega) (by omega) (by omega), (hc.2.2.2.1.1 j hj).1]
          simp [upd, y]
      · rw [st_a (by omega), n2.1 22 (by omega) (by omega) (by omega) (by omega), (hc.2.2.2.1.1 j hj).2]
      · by_cases y : j = i
        · subst y
          rw [st_kj]
          simp [upd]
        · rw [st_ki y, k2.2.2.2.1 j (by omega), (hc.2.2.2.2.2.1 j hj).1]
          simp [upd, y]
      · rw [st_ki (by omega), k2.2.2.2.1 _ (by omega), (hc.2.2.2.2.2.1 j hj).2]
    · rw [show fX8_within x2 0 30 = some 0 from r4]
      simp only [bd1s]
      rw [if_pos trivial, if_pos trivial]
      exact Both.mk h rfl rfl lookX.rf lookM.rf
  · rw [i3, i4]
    simp only [bd1s]
    rw [if_pos trivial, if_pos trivial]
    exact Both.mk h rfl rfl lookX.rf lookM.rf
/-- another carrier -/
theorem carrier_rel {w τ : Mm} {n wd : Nat} {g : Mm} (h : Rel w τ) (hc : Core w τ n g wd) (ht : Told w τ n) (hch : Chg w τ n g) (hk : Kept w τ n g) (hse : Seen w τ n) (htx : Text w τ) {i : Nat} (i1 : i < n) {x : Int32} (o : Ok g n (g 3) (upd (g 4) i x)) : ∃ w' τ1 τ', fX8_changeCarrier w (nI i) x = some (g 4 i, w') ∧ fX9_know τ = some τ1 ∧ rd τ1 18 192 (nI (8 + i)) = some (g 4 i) ∧ wr τ1 18 192 (nI (8 + i)) x = some τ' ∧ Rel w' τ' := by
  obtain ⟨sz, s1, s2, s3, s4⟩ := id hch
  have hn := hc.1.2.1
  obtain ⟨e, d, he⟩ := Ed_of s1
  obtain ⟨w1, n1, n2⟩ := note_spec (i := i) (by omega) s2 he
  obtain ⟨τ1, k1, k2⟩ := know_spec s3 he
  refine ⟨st w1 22 i x, τ1, st τ1 18 (8 + i) x, ?_, k1, by rw [rdN (j := 8 + i) (by omega) (by omega), k2.2.2.2.1 _ (by omega), (hc.2.2.2.2.2.1 i i1).2], wrN (by omega) (by omega), change_rel (s := g 3) (c := upd (g 4) i x) h hc ht hk hse htx s4 he i1 o (fun j _ q => rfl) (fun j _ q => by simp [upd, q]) n2 k2 (fun a _ q => st_a q) (fun j hj => ?_) (fun j hj => ?_) (fun a q => st_a q) (fun j q => st_ki (by omega)) (fun j hj => ?_) (fun j hj => ?_)⟩
  · unfold fX8_changeCarrier
    rw [gqs hc.2.2.2.1.2.2.2.1, rdN (k := 22) (j := i) (by omega) (by omega), n1]
    simp only [bd1s]
    rw [gqs (x := w1 16 3) (by rw [n2.1 16 (by omega) (by omega) (by omega) (by omega)]; exact hc.2.2.2.1.2.2.2.1), wrN (k := 22) (j := i) (by omega) (by omega), (hc.2.2.2.1.1 i i1).2]
    rfl
  · rw [st_a (by omega), n2.1 21 (by omega) (by omega) (by omega) (by omega), (hc.2.2.2.1.1 j hj).1]
  · by_cases y : j = i
    · subst y
      rw [st_kj]
      simp [upd]
    · rw [st_ki y, n2.1 22 (by omega) (by omega) (by omega) (by omega), (hc.2.2.2.1.1 j hj).2]
      simp [upd, y]
  · rw [st_ki (by omega), k2.2.2.2.1 _ (by omega), (hc.2.2.2.2.2.1 j hj).1]
  · by_cases y : j = i
    · subst y
      rw [st_kj]
      simp [upd]
    · rw [st_ki (by omega), k2.2.2.2.1 _ (by omega), (hc.2.2.2.2.2.1 j hj).2]
      simp [upd, y]
theorem op_leave {w τ : Mm} (h : Rel w τ) (x1 : Int32) : Both (fX8_leave w x1) (fX9_leave τ x1) := by
  obtain ⟨n, g, wd, hc, ht, hch, hk, hse, htx⟩ := id h
  have hn := hc.1.2.1
  unfold fX8_leave fX9_leave
  rw [gqs hc.2.2.2.1.2.2.2.1]
  simp only [bd1s]
  rcases beast_any hc x1 with ⟨i, i1, rfl, i3, i4⟩ | ⟨i3, i4⟩
  · rw [i3, i4, rdN (k := 22) (j := i) (by omega) (by omega), nI_lit 8, nI_add, rdN (k := 18) (j := 8 + i) (by omega) (by omega), (hc.2.2.2.1.1 i i1).2, (hc.2.2.2.2.2.1 i i1).2]
    simp only [bd1s]
    rw [if_neg (show ¬ (1 : Int32) = 0 by decide), if_neg (show ¬ (1 : Int32) = 0 by decide)]
    by_cases c : g 4 i = -4
    · rw [if_pos c, if_pos c]
      exact Both.mk h rfl rfl lookX.rf lookM.rf
    · have o : Ok g n (g 3) (upd (g 4) i (-4)) := by
        obtain ⟨o1, o2, o3⟩ := hc.2.1.2.1
        refine ⟨o1, fun j hj q => ?_, fun j hj q => ?_⟩
        · have y : j ≠ i := by
            intro y
            simp [upd, y] at q
          simp only [upd, if_neg y] at q ⊢
          obtain ⟨k, k1, k2, k3⟩ := o2 j hj q
          refine ⟨k, k1, k2, ?_⟩
          split
          · rfl
          · exact k3
        · by_cases y : j = i
          · simp [upd, y]
          · simp only [upd, if_neg y]
            exact o3 j hj q
      obtain ⟨w', τ1, τ', a1, a2, a3, a4, a5⟩ := carrier_rel h hc ht hch hk hse htx i1 o
      rw [if_neg c, if_neg c, a1, a2]
      simp only [bd1s, bd2s]
      rw [a3, a4]
      exact ⟨_, _, _, rfl, rfl, a5⟩
  · rw [i3, i4]
    simp only [bd1s]
    rw [if_pos trivial, if_pos trivial]
    exact Both.mk h rfl rfl lookX.rf lookM.rf
theorem op_ride {w τ : Mm} (h : Rel w τ) (x1 x2 : Int32) : Both (fX8_ride w x1 x2) (fX9_ride τ x1 x2) := by
  obtain ⟨n, g, wd, hc, ht, hch, hk, hse, htx⟩ := id h
  have hn := hc.1.2.1
  unfold fX8_ride fX9_ride
  rw [gqs hc.2.2.2.1.2.2.2.1]
  simp only [bd1s]
  rcases beast_any hc x1 with ⟨i, i1, rfl, i3, i4⟩ | ⟨i3, i4⟩
  · rw [i3, i4]
    simp only [bd1s]
    rw [if_neg (show ¬ (1 : Int32) = 0 by decide), if_neg (show ¬ (1 : Int32) = 0 by decide)]
    rcases beast_any hc x2 with ⟨j, j1, rfl, j3, j4⟩ | ⟨j3, j4⟩
    · rw [j3, j4]
      simp only [bd1s]
      rw [if_neg (show ¬ (1 : Int32) = 0 by decide), if_neg (show ¬ (1 : Int32) = 0 by decide), ifeq (by omega) (by omega), ifeq (by omega) (by omega)]
      by_cases q : i = j
      · rw [if_pos q, if_pos q]
        exact Both.mk h rfl rfl lookX.rf lookM.rf
      · rw [if_neg q, if_neg q, rdN (k := 23) (j := i) (by omega) (by omega), (hc.2.2.1.2 i i1).2.2.2.1, nI_lit 8, nI_add, nI_add, rdN (k := 18) (j := 8 + j) (by omega) (by omega), (hc.2.2.2.2.2.1 j j1).2, ridden_spec hc.2.2.1.1 hn (fun i hi => (hc.2.2.2.1.1 i hi).2), rider_spec hc.2.2.2.2.1.1 hn (fun i hi => (hc.2.2.2.2.2.1 i hi).2), rdN (k := 22) (j := j) (by omega) (by omega), (hc.2.2.2.1.1 j j1).2, hc.2.2.2.2.1.2.2.1 i i1]
        simp only [bd1s]
        by_cases c1 : g 5 i = -4
        · by_cases c2 : an (fun k => decide (g 4 k = nI i)) n = true
          · rw [if_pos c1, if_pos c1, c2, bI_t, if_neg (show ¬ (1 : Int32) = 0 by decide), if_neg (show ¬ (1 : Int32) = 0 by decide)]
            split
            · exact Both.mk h rfl rfl lookX.rf lookM.rf
            · exact Both.mk h rfl rfl lookX.rf lookM.rf
          · have c2' : an (fun k => decide (g 4 k = nI i)) n = false := by
              cases hh : an (fun k => decide (g 4 k = nI i)) n
              · rfl
              · exact absurd hh c2
            rw [if_pos c1, if_pos c1, c2', bI_f, if_pos (show (0 : Int32) = 0 from rfl), if_pos (show (0 : Int32) = 0 from rfl)]
            by_cases c3 : g 4 j = -4
            · rw [if_pos c3, if_pos c3]
              have o : Ok g n (g 3) (upd (g 4) i (nI j)) := by
                obtain ⟨o1, o2, o3⟩ := hc.2.1.2.1
                refine ⟨o1, fun k hk q => ?_, fun k hk q5 => ?_⟩
                · by_cases y : k = i
                  · subst y
                    refine ⟨j, j1, by simp [upd], ?_⟩
                    simp only [upd, if_neg (Ne.symm ‹¬ k = j›)]
                    exact c3
                  · simp only [upd, if_neg y] at q ⊢
                    obtain ⟨m, m1, m2, m3⟩ := o2 k hk q
                    refine ⟨m, m1, m2, ?_⟩
                    have : m ≠ i := by
                      intro e
                      subst e
                      exact c2 (an_iff.mpr ⟨k, hk, decide_eq_true m2⟩)
                    rw [if_neg this]
                    exact m3
                · by_cases y : k = i
                  · subst y
                    exact absurd c1 q5
                  · simp only [upd, if_neg y]
                    exact o3 k hk q5
              obtain ⟨w', τ1, τ', a1, a2, a3, a4, a5⟩ := carrier_rel h hc ht hch hk hse htx i1 o
              rw [a1, a2]
              simp only [bd1s, bd2s]
              rw [a3, a4]
              exact ⟨_, _, _, rfl, rfl, a5⟩
            · rw [if_neg c3, if_neg c3]
              exact Both.mk h rfl rfl lookX.rf lookM.rf
        · rw [if_neg c1, if_neg c1]
          by_cases c3 : g 4 j = -4
          · rw [if_pos c3]
            split
            · exact Both.mk h rfl rfl lookX.rf lookM.rf
            · exact Both.mk h rfl rfl lookX.rf lookM.rf
          · rw [if_neg c3]
            exact Both.mk h rfl rfl lookX.rf lookM.rf
    · rw [j3, j4]
      simp only [bd1s]
      rw [if_pos trivial, if_pos trivial]
      exact Both.mk h rfl rfl lookX.rf lookM.rf
  · rw [i3, i4]
    simp only [bd1s]
    rw [if_pos trivial, if_pos trivial]
    exact Both.mk h rfl rfl lookX.rf lookM.rf
theorem op_undo {w τ : Mm} (h : Rel w τ) : Both (fX8_undo w) (fX9_undo τ) := by
  obtain ⟨n, g, wd, hc, ht, hch, hk, hse, htx⟩ := id h
  obtain ⟨sz, s1, s2, s3, s4⟩ := id hch
  have hn := hc.1.2.1
  unfold fX8_undo fX9_undo fX1_takeBack
  rw [gqs hc.2.2.2.1.2.2.2.1]
  simp only [bd1s]
  cases sz with
  | zero =>
    rw [s2, s3, if_pos (show nI 0 < 1 by decide), if_pos (show nI 0 = 0 from rfl)]
    simp only [bd2s]
    rw [if_pos trivial]
    exact Both.mk h rfl rfl lookX.rf lookM.rf
  | succ k =>
    obtain ⟨⟨c, c1, c2, c3⟩, o⟩ := s4 k (by omega)
    obtain ⟨T, r1, r2, r3⟩ := copy_spec (a := 16 + 16 * k) (b := 0) (by omega) (by omega) (by omega) (st τ 0 21 (nI k))
    rw [s2, s3, if_neg (show ¬ nI (k + 1) < 1 from fun q => absurd ((nI_ltI (a := k + 1) (b := 1) (by omega) (by omega)).1 q) (by omega)), if_neg (show ¬ nI (k + 1) = 0 from nI_ne0 (by omega) (by omega)), nI_pred, rdN (k := 38) (j := k) (by omega) (by omega), c2]
    simp only [bd1s, pts]
    rw [has_in hc.2.2.1.1 hn (by omega), decide_eq_true c1, bI_t]
    simp only [bd1s]
    rw [if_neg (show ¬ (1 : Int32) = 0 by decide), st_kj, st_kj, nI_lit 16, pk_mul, nI_add, show fX9_copy (st τ 0 21 (nI k)) (nI (16 + 16 * k)) 0 = some T from r1, rdN (k := 38) (j := k) (by omega) (by omega), rdN (k := 39) (j := k) (by omega) (by omega), st_a (k := 37) (a := 38) (by omega), c2]
    simp only [bd1s]
    rw [wrN (k := 21) (j := c) (by omega) (by omega)]
    simp only [bd1s]
    rw [st_a (k := 21) (a := 37) (by omega), st_kj, rdN (k := 38) (j := k) (by omega) (by omega), rdN (k := 40) (j := k) (by omega) (by omega), st_a (k := 21) (a := 38) (by omega), st_a (k := 37) (a := 38) (by omega), c2]
    simp only [bd1s]
    rw [wrN (k := 22) (j := c) (by omega) (by omega), st_a (k := 37) (a := 39) (by omega), st_a (k := 21) (a := 40) (by omega), st_a (k := 37) (a := 40) (by omega)]
    simp only [bd1s, bd2s]
    rw [if_neg (show ¬ (1 : Int32) = 0 by decide), st_a (k := 22) (a := 37) (by omega), st_a (k := 21) (a := 37) (by omega), st_kj, r2 0 (by omega), st_kj]
    have hW : ∀ a, a ≠ 21 → a ≠ 22 → a ≠ 37 → st (st (st w 37 3 (nI k)) 21 c (w 39 k)) 22 c (w 40 k) a = w a := fun a q1 q2 q3 => by rw [st_a q2, st_a q1, st_a q3]
    have hT : ∀ a, a ≠ 0 → a ≠ 18 → T a = τ a := fun a q1 q2 => by rw [r2 a q2, st_a q1]
    have h0 : ∀ j, j ≠ 21 → T 0 j = τ 0 j := fun j q1 => by rw [r2 0 (by omega), st_ki q1]
    have h18 : ∀ j, 16 ≤ j → T 18 j = τ 18 j := fun j q1 => by rw [r3, if_neg (by omega), st_a (by omega)]
    have hlo : ∀ j, j < 16 → T 18 j = τ 18 (16 + 16 * k + j) := fun j q1 => by rw [r3, if_pos (by omega), st_a (by omega), Nat.sub_zero]
    have hb : bse (k + 1) (k + 1) = 0 := if_pos rfl
    rw [hb] at c3
    refine ⟨_, _, _, rfl, rfl, n, gs g (fun i => τ 18 (16 + 16 * k + i)) (fun i => τ 18 (16 + 16 * k + 8 + i)), wd, hc.put o (fun a q r q1 q2 => hW a q1 q2 (by omega)) (by rw [hW 16 (by omega) (by omega) (by omega)]) (by rw [hW 16 (by omega) (by omega) (by omega)]) (fun i hi => ?_) (fun i hi => ?_) (fun a q r => hT a (by omega) (by omega)) (fun i hi => hlo i (by omega)) (fun i hi => by rw [hlo (8 + i) (by omega), ← Nat.add_assoc]), ht.kept (hW 17 (by omega) (by omega) (by omega)) (hW 25 (by omega) (by omega) (by omega)) (hW 26 (by omega) (by omega) (by omega)) (hT 8 (by omega) (by omega)) (hT 12 (by omega) (by omega)) (hT 16 (by omega) (by omega)) (hT 17 (by omega) (by omega)), ⟨k, by omega, by rw [st_a (by omega), st_a (by omega), st_kj], by rw [r2 0 (by omega), st_kj], fun m hm => ?_⟩, hk.kept hn (hW 41 (by omega) (by omega) (by omega)) (hW 42 (by omega) (by omega) (by omega)) (hW 43 (by omega) (by omega) (by omega)) (h0 22 (by omega)) (fun j q _ => h18 j (by omega)), hse.kept (hW 44 (by omega) (by omega) (by omega)) (hW 45 (by omega) (by omega) (by omega)) (hW 46 (by omega) (by omega) (by omega)) (h0 33 (by omega)) (hT 24 (by omega) (by omega)) (hT 25 (by omega) (by omega)), htx.kept (hW 0 (by omega) (by omega) (by omega)) (by rw [hW 16 (by omega) (by omega) (by omega)]) (h0 1 (by omega)) (hT 1 (by omega) (by omega))⟩
    · have c4 := (c3 i hi).1
      rw [st_a (by omega)]
      by_cases y : i = c
      · subst y
        rw [if_pos rfl] at c4
        rw [st_kj, c4]
      · rw [if_neg y, Nat.zero_add, (hc.2.2.2.2.2.1 i hi).1] at c4
        rw [st_ki y, st_a (by omega), (hc.2.2.2.1.1 i hi).1, c4]
    · have c4 := (c3 i hi).2
      by_cases y : i = c
      · subst y
        rw [if_pos rfl] at c4
        rw [st_kj, c4]
      · rw [if_neg y, Nat.zero_add, (hc.2.2.2.2.2.1 i hi).2] at c4
        rw [st_ki y, st_a (by omega), st_a (by omega), (hc.2.2.2.1.1 i hi).2, c4]
    · obtain ⟨⟨d, d1, d2, d3⟩, o1⟩ := s4 m (by omega)
      have u1 : ∀ j, j < n → T 18 (16 + 16 * m + j) = τ 18 (16 + 16 * m + j) := fun j hj => h18 _ (by omega)
      have u2 : ∀ j, j < n → T 18 (16 + 16 * m + 8 + j) = τ 18 (16 + 16 * m + 8 + j) := fun j hj => h18 _ (by omega)
      have u3 : ∀ j, j < 16 → T 18 (bse k (m + 1) + j) = τ 18 (bse (k + 1) (m + 1) + j) := by
        intro j hj
        rw [show bse (k + 1) (m + 1) = 16 + 16 * (m + 1) from if_neg (by omega)]
        by_cases y : m + 1 = k
        · rw [show bse k (m + 1) = 0 from if_pos y, Nat.zero_add, hlo j hj, y]
        · rw [show bse k (m + 1) = 16 + 16 * (m + 1) from if_neg y, h18 _ (by omega)]
      refine ⟨⟨d, d1, by rw [hW 38 (by omega) (by omega) (by omega)]; exact d2, fun j hj => ?_⟩, o1.same u1 u2⟩
      rw [u1 j hj, u2 j hj, hW 39 (by omega) (by omega) (by omega), hW 40 (by omega) (by omega) (by omega), u3 j (by omega), Nat.add_assoc (bse k (m + 1)) 8 j, u3 (8 + j) (by omega), ← Nat.add_assoc]
      exact d3 j hj
