/-! what each part of the two memories rests on -/
section KP
variable {w w' τ τ' g : Mm} {n wd : Nat}
theorem Told.kept (h : Told w τ n) (x17 : w' 17 = w 17) (x25 : w' 25 = w 25) (x26 : w' 26 = w 26) (m8 : τ' 8 = τ 8) (m12 : τ' 12 = τ 12) (m16 : τ' 16 = τ 16) (m17 : τ' 17 = τ 17) : Told w' τ' n := by
  unfold Told
  rw [x17, x25, x26, m8, m12, m16, m17]
  exact h
theorem Chg.kept (h : Chg w τ n g) (hn : n ≤ 8) (x37 : w' 37 = w 37) (x38 : w' 38 = w 38) (x39 : w' 39 = w 39) (x40 : w' 40 = w 40) (m0 : τ' 0 21 = τ 0 21) (m18 : ∀ j, j < 144 → τ' 18 j = τ 18 j) : Chg w' τ' n g := by
  obtain ⟨sz, s1, s2, s3, s4⟩ := h
  refine ⟨sz, s1, by rw [x37]; exact s2, by rw [m0]; exact s3, fun k hk => ?_⟩
  obtain ⟨⟨c, c1, c2, c3⟩, o⟩ := s4 k hk
  refine ⟨⟨c, c1, by rw [x38]; exact c2, fun i hi => ?_⟩, o.same (fun i hi => m18 _ (by omega)) (fun i hi => m18 _ (by omega))⟩
  have hb : bse sz (k + 1) ≤ 128 := by unfold bse; split <;> omega
  rw [m18 _ (by omega), m18 _ (by omega), m18 _ (by omega), m18 (bse sz (k + 1) + 8 + i) (by omega), x39, x40]
  exact c3 i hi
theorem Kept.kept (h : Kept w τ n g) (hn : n ≤ 8) (x41 : w' 41 = w 41) (x42 : w' 42 = w 42) (x43 : w' 43 = w 43) (m0 : τ' 0 22 = τ 0 22) (m18 : ∀ j, 144 ≤ j → j < 176 → τ' 18 j = τ 18 j) : Kept w' τ' n g := by
  obtain ⟨t, s1, s2, s3, s4⟩ := h
  refine ⟨t, s1, by rw [x41]; exact s2, by rw [m0]; exact s3, fun k hk => ?_⟩
  obtain ⟨c3, o⟩ := s4 k hk
  refine ⟨fun i hi => ?_, o.same (fun i hi => m18 _ (by omega) (by omega)) (fun i hi => m18 _ (by omega) (by omega))⟩
  rw [m18 _ (by omega) (by omega), m18 _ (by omega) (by omega), x42, x43]
  exact c3 i hi
theorem Seen.kept (h : Seen w τ n) (x44 : w' 44 = w 44) (x45 : w' 45 = w 45) (x46 : w' 46 = w 46) (m0 : τ' 0 33 = τ 0 33) (m24 : τ' 24 = τ 24) (m25 : τ' 25 = τ 25) : Seen w' τ' n := by
  unfold Seen
  rw [x44, x45, x46, m0, m24, m25]
  exact h
theorem Text.kept (h : Text w τ) (x0 : w' 0 = w 0) (x16 : w' 16 1 = w 16 1) (m0 : τ' 0 1 = τ 0 1) (m1 : τ' 1 = τ 1) : Text w' τ' := by
  unfold Text
  rw [x0, x16, m0, m1]
  exact h
theorem Core.kept (h : Core w τ n g wd) (hx : ∀ a, 17 ≤ a → a ≤ 29 → w' a = w a) (h3 : w' 16 3 = w 16 3) (h4 : w' 16 4 = w 16 4) (hm : ∀ a, 2 ≤ a → a ≤ 17 → τ' a = τ a) (m18 : ∀ j, j < 16 → τ' 18 j = τ 18 j) : Core w' τ' n g wd := by
  obtain ⟨h0, h1, h2, h3', h4', h5⟩ := h
  refine ⟨h0, h1, ⟨by rw [hx 17 (by omega) (by omega)]; exact h2.1, fun i hi => ?_⟩, ⟨fun i hi => ?_, fun m a c => ?_, by rw [hx 17 (by omega) (by omega)]; exact h3'.2.2.1, by rw [h3]; exact h3'.2.2.2.1, by rw [h4]; exact h3'.2.2.2.2⟩, ?_, ⟨fun i hi => ?_, fun m a c => ?_, by rw [hm 7 (by omega) (by omega)]; exact h5.2.2⟩⟩
  · rw [hx 18 (by omega) (by omega), hx 19 (by omega) (by omega), hx 20 (by omega) (by omega), hx 23 (by omega) (by omega), hx 24 (by omega) (by omega)]
    exact h2.2 i hi
  · rw [hx 21 (by omega) (by omega), hx 22 (by omega) (by omega)]
    exact h3'.1 i hi
  · rw [hx 29 (by omega) (by omega)]
    exact h3'.2.1 m a c
  · obtain ⟨q1, q4, q5, q6, R, rm, q8, q9, q10⟩ := h4'
    refine ⟨by rw [hm 2 (by omega) (by omega)]; exact q1, fun i hi => ?_, fun i hi => ?_, fun i hi => ?_, R, rm, q8, fun k hr => ?_, q10⟩
    · rw [hm 3 (by omega) (by omega), hm 4 (by omega) (by omega), hm 5 (by omega) (by omega)]
      exact q4 i hi
    · rw [raftOf_c (hm 12 (by omega) (by omega)) (hm 13 (by omega) (by omega))]
      exact q5 i hi
    · rw [ahead_c (hm 2 (by omega) (by omega)) (hm 14 (by omega) (by omega))]
      exact q6 i hi
    · rw [hm 13 (by omega) (by omega)]
      exact q9 k hr
  · have := h0.2.1
    rw [m18 i (by omega), m18 (8 + i) (by omega)]
    exact h5.1 i hi
  · rw [currentIn_c (hm 8 (by omega) (by omega)) (hm 9 (by omega) (by omega)) (hm 10 (by omega) (by omega))]
    exact h5.2.1 m a c
end KP
/-! the text -/
theorem chr_nar {c : Nat} (h : c ≤ 126) : ((nI c).toUInt32 % 65536).toInt32 = nI c := by
  rw [pk_char, pk_tn (by omega), Nat.mod_eq_of_lt (by omega)]
theorem byt_nar : ∀ c, c ≤ 126 → (nI c).toInt8.toInt32 = nI c := by decide
theorem op_write {w τ : Mm} (h : Rel w τ) (x1 : Int32) : Both (fX8_write 200 w x1) (fX9_write τ x1) := by
  obtain ⟨n, g, wd, hc, ht, hch, hk, hse, htx⟩ := id h
  obtain ⟨len, t1, t2, t3, t4⟩ := id htx
  have hn := hc.1.2.1
  unfold fX8_write fX9_write
  rw [in_eq]
  rcases in_any x1 (a := 32) (b := 126) (by omega) (by omega) with ⟨c, c1, c2, rfl, c4⟩ | c4
  · rw [show fX8_within (nI c) 32 126 = some 1 from c4]
    simp only [bd1s]
    rw [if_neg (show ¬ (1 : Int32) = 0 by decide), if_neg (show ¬ (1 : Int32) = 0 by decide), t2, t3, if_neg (show ¬ nI len < 0 from nI_pos (by omega)), nI_lit 200, iflt (by omega) (by omega), ifeq (by omega) (by omega), chr_nar c2, byt_nar c c2]
    by_cases q : len < 200
    · rw [if_pos q, if_neg (by omega), wrN (k := 0) (j := len) (by omega) (by omega), wrN (k := 1) (j := len) (by omega) (by omega)]
      simp only [bd1s, pts]
      rw [st_kj, st_a (a := 16) (by omega), t2, st_kj, st_a (a := 0) (by omega), t3, nI_1]
      refine ⟨_, _, _, rfl, rfl, n, g, wd, hc.kept (fun a q r => by rw [st_a (by omega), st_a (by omega)]) (by rw [st_ki (by omega), st_a (by omega)]) (by rw [st_ki (by omega), st_a (by omega)]) (fun a q r => by rw [st_a (by omega), st_a (by omega)]) (fun j _ => by rw [st_a (by omega), st_a (by omega)]), ht.kept (by rw [st_a (by omega), st_a (by omega)]) (by rw [st_a (by omega), st_a (by omega)]) (by rw [st_a (by omega), st_a (by omega)]) (by rw [st_a (by omega), st_a (by omega)]) (by rw [st_a (by omega), st_a (by omega)]) (by rw [st_a (by omega), st_a (by omega)]) (by rw [st_a (by omega), st_a (by omega)]), hch.kept hn (by rw [st_a (by omega), st_a (by omega)]) (by rw [st_a (by omega), st_a (by omega)]) (by rw [st_a (by omega), st_a (by omega)]) (by rw [st_a (by omega), st_a (by omega)]) (by rw [st_ki (by omega), st_a (by omega)]) (fun j _ => by rw [st_a (by omega), st_a (by omega)]), hk.kept hn (by rw [st_a (by omega), st_a (by omega)]) (by rw [st_a (by omega), st_a (by omega)]) (by rw [st_a (by omega), st_a (by omega)]) (by rw [st_ki (by omega), st_a (by omega)]) (fun j _ _ => by rw [st_a (by omega), st_a (by omega)]), hse.kept (by rw [st_a (by omega), st_a (by omega)]) (by rw [st_a (by omega), st_a (by omega)]) (by rw [st_a (by omega), st_a (by omega)]) (by rw [st_ki (by omega), st_a (by omega)]) (by rw [st_a (by omega), st_a (by omega)]) (by rw [st_a (by omega), st_a (by omega)]), len + 1, by omega, st_kj, st_kj, fun k hk => ?_⟩
      rw [st_a (k := 16) (a := 0) (by omega), st_a (k := 0) (a := 1) (by omega)]
      by_cases z : k = len
      · subst z
        rw [st_kj, st_kj]
        exact ⟨c, c1, c2, rfl, rfl⟩
      · rw [st_ki z, st_ki z]
        exact t4 k (by omega)
    · rw [if_neg q, if_pos (by omega)]
      exact Both.mk h rfl rfl lookX.rf lookM.rf
  · rw [show fX8_within x1 32 126 = some 0 from c4]
    simp only [bd1s]
    rw [if_pos trivial, if_pos trivial]
    exact Both.mk h rfl rfl lookX.rf lookM.rf
theorem op_wipe {w τ : Mm} (h : Rel w τ) : Both (fX8_wipe w) (fX9_wipe τ) := by
  obtain ⟨n, g, wd, hc, ht, hch, hk, hse, htx⟩ := id h
  obtain ⟨len, t1, t2, t3, t4⟩ := id htx
  have hn := hc.1.2.1
  unfold fX8_wipe fX9_wipe
  simp only [bd1s, pts]
  rw [t2, t3]
  refine ⟨_, _, _, rfl, rfl, n, g, wd, hc.kept (fun a q r => st_a (by omega)) (st_ki (by omega)) (st_ki (by omega)) (fun a q r => st_a (by omega)) (fun j _ => by rw [st_a (by omega)]), ht.kept (st_a (by omega)) (st_a (by omega)) (st_a (by omega)) (st_a (by omega)) (st_a (by omega)) (st_a (by omega)) (st_a (by omega)), hch.kept hn (st_a (by omega)) (st_a (by omega)) (st_a (by omega)) (st_a (by omega)) (st_ki (by omega)) (fun j _ => by rw [st_a (by omega)]), hk.kept hn (st_a (by omega)) (st_a (by omega)) (st_a (by omega)) (st_ki (by omega)) (fun j _ _ => by rw [st_a (by omega)]), hse.kept (st_a (by omega)) (st_a (by omega)) (st_a (by omega)) (st_ki (by omega)) (st_a (by omega)) (st_a (by omega)), 0, by omega, st_kj, st_kj, fun k hk => absurd hk (by omega)⟩
/-! looks without a crossing -/
theorem some_ite {c : Prop} [Decidable c] {a b : Int32} : (if c then some a else some b) = some (if c then a else b) := by
  split <;> rfl
def Bth1 (a b : Option Int32) : Prop := ∃ r : Int32, a = some r ∧ b = some r
theorem op_beast {w τ : Mm} (h : Rel w τ) (x1 x2 : Int32) : Bth1 (fX8_beast w x1 x2) (fX9_beast τ x1 x2) := by
  obtain ⟨n, g, wd, hc, -⟩ := id h
  have hn := hc.1.2.1
  unfold fX8_beast fX9_beast
  rw [gqs hc.2.2.2.1.2.2.2.1]
  simp only [bd1s]
  rcases beast_any hc x1 with ⟨i, i1, rfl, i3, i4⟩ | ⟨i3, i4⟩
  · obtain ⟨-, -, hsx, hbx, hs, hbm⟩ := id hc
    obtain ⟨y0, y1, y2, y5, y6⟩ := hsx.2 i i1
    obtain ⟨z0, z1, z2⟩ := hs.2.1 i i1
    rw [i3, i4, rdN (k := 18) (n := 8) (j := i) (by omega) (by omega), rdN (k := 19) (j := i) (by omega) (by omega), rdN (k := 20) (j := i) (by omega) (by omega), rdN (k := 21) (j := i) (by omega) (by omega), rdN (k := 22) (j := i) (by omega) (by omega), rdN (k := 23) (j := i) (by omega) (by omega), rdN (k := 24) (j := i) (by omega) (by omega), rdN (k := 3) (j := i) (by omega) (by omega), rdN (k := 4) (j := i) (by omega) (by omega), rdN (k := 5) (j := i) (by omega) (by omega), show (0 : Int32) + nI i = nI i from Int32.zero_add _, show (8 : Int32) + nI i = nI (8 + i) by rw [nI_lit 8, nI_add], rdN (k := 18) (n := 192) (j := i) (by omega) (by omega), rdN (k := 18) (n := 192) (j := 8 + i) (by omega) (by omega), hs.2.2.1 i i1, hs.2.2.2.1 i i1, y0, y1, y2, y5, y6, z0, z1, z2, (hbx.1 i i1).1, (hbx.1 i i1).2, (hbm.1 i i1).1, (hbm.1 i i1).2]
    simp only [bd1s]
    rw [if_neg (show ¬ (1 : Int32) = 0 by decide)]
    simp only [some_ite]
    exact ⟨_, rfl, rfl⟩
  · rw [i3, i4]
    simp only [bd1s]
    rw [if_pos trivial, if_pos trivial]
    exact ⟨_, rfl, rfl⟩
theorem op_current {w τ : Mm} (h : Rel w τ) (x1 : Int32) : Bth1 (fX8_current w x1) (fX9_current τ x1) := by
  obtain ⟨n, g, wd, hc, -⟩ := id h
  obtain ⟨-, -, hsx, hbx, hs, hbm⟩ := id hc
  unfold fX8_current fX9_current
  rw [in_eq]
  rcases in_any x1 (a := 1) (b := 200) (by omega) (by omega) with ⟨m, m1, m2, rfl, m4⟩ | m4
  · rw [show fX8_within (nI m) 1 200 = some 1 from m4]
    simp only [bd1s]
    rw [if_neg (by decide), if_neg (by decide), gqs hbx.2.2.2.1, rdN (k := 29) (j := m) (by omega) (by omega), hbx.2.1 m m1 m2, hbm.2.1 m m1 m2]
    exact ⟨_, rfl, rfl⟩
  · rw [show fX8_within x1 1 200 = some 0 from m4]
    simp only [bd1s]
    rw [if_pos trivial, if_pos trivial]
    exact ⟨_, rfl, rfl⟩
theorem op_count {w τ : Mm} (h : Rel w τ) (x1 : Int32) : Bth1 (fX8_count w x1) (fX9_count τ x1) := by
  obtain ⟨n, g, wd, hc, ht, ⟨sz, -, s2, s3, -⟩, ⟨t, -, k2, k3, -⟩, ⟨z, -, z2, z3, -⟩, ⟨len, -, l2, l3, -⟩⟩ := id h
  have hn := hc.1.2.1
  obtain ⟨-, -, ⟨tc, -, tc2, tc3⟩, ⟨tr, -, tr2, tr3⟩⟩ := id ht
  obtain ⟨-, -, hsx, hbx, hs, hbm⟩ := id hc
  have key : ∀ (fu k : Nat) (acc : Int32), k ≤ n → n - k < fu → ∃ r, LX6_riders_l_4 w fu acc (nI k) = some r ∧ LX9_count_4 τ fu acc (nI k) = some r := by
    intro fu
    induction fu with
    | zero => intro k acc _ q; omega
    | succ fu ih =>
      intro k acc hk hf
      rw [LX6_riders_l_4, LX9_count_4, hsx.1, rd0 (by omega) (by omega), hs.1]
      simp only [bd1s]
      rw [ifle (by omega) (by omega), ifle (by omega) (by omega)]
      by_cases c : n ≤ k
      · rw [if_pos c, if_pos c]
        exact ⟨acc, rfl, rfl⟩
      · rw [if_neg c, if_neg c, rdN (k := 22) (j := k) (by omega) (by omega), show (8 : Int32) + nI k = nI (8 + k) by rw [nI_lit 8, nI_add], rdN (k := 18) (j := 8 + k) (by omega) (by omega), (hbx.1 k (by omega)).2, (hbm.1 k (by omega)).2, nI_1]
        simp only [bd1s]
        rw [some_ite]
        simp only [bd1s]
        exact ih (k + 1) _ (by omega) (by omega)
  obtain ⟨r, r1, r2⟩ := key 1000 0 0 (by omega) (by omega)
  have r1' : fX6_riders_l w = some r := by
    unfold fX6_riders_l
    exact bdE r1 rfl
  unfold fX8_count fX9_count
  rw [show LX9_count_4 τ 1000 0 0 = some r from r2, gqs hbx.2.2.2.1, r1', rd0 (k := 2) (by omega) (by omega), rd0 (k := 7) (by omega) (by omega), rd0 (k := 8) (by omega) (by omega), rd0 (k := 12) (by omega) (by omega), hsx.1, hs.1, hbx.2.2.1, hbm.2.2, tc2, tc3, tr2, tr3, s2, s3, k2, k3, z2, z3, l2, l3]
  simp only [bd1s]
  simp only [some_ite]
  exact ⟨_, rfl, rfl⟩
