/-! sightings, kept rivers -/
theorem cyN {w : Mm} {k1 n1 k2 n2 s d n : Nat} (h1 : s + n ≤ n1) (h2 : d + n ≤ n2) (h3 : n1 < 2 ^ 31) (h4 : n2 < 2 ^ 31) : cy w k1 n1 (nI s) k2 n2 (nI d) (nI n) = some (cp w k1 k2 s d n) := by
  unfold cy
  rw [nI_clamp (by omega), nI_clamp (by omega), nI_clamp (by omega), if_pos ⟨nI_pos (by omega), nI_pos (by omega), nI_pos (by omega), h1, h2⟩]
theorem cp_at {w : Mm} {k1 k2 s d n j : Nat} : cp w k1 k2 s d n k2 j = if d ≤ j ∧ j < d + n then w k1 (s + (j - d)) else w k2 j := by
  unfold cp
  rw [if_pos rfl]
  by_cases c : d ≤ j ∧ j < d + n
  · rw [if_pos c, pk_cpy_in c.1 c.2]
  · rw [if_neg c, pk_cpy_out (by omega)]
section KQ
variable {w w' τ τ' g : Mm} {n wd : Nat}
theorem Rel.sn (hc : Core w τ n g wd) (ht : Told w τ n) (hch : Chg w τ n g) (hk : Kept w τ n g) (htx : Text w τ) (hW : ∀ a, a ≠ 44 → a ≠ 45 → a ≠ 46 → w' a = w a) (hT : ∀ a, a ≠ 0 → a ≠ 24 → a ≠ 25 → τ' a = τ a) (h0 : ∀ j, j ≠ 33 → τ' 0 j = τ 0 j) (hs : Seen w' τ' n) : Rel w' τ' := by
  have hn := hc.1.2.1
  exact ⟨n, g, wd, hc.kept (fun a q r => hW a (by omega) (by omega) (by omega)) (by rw [hW 16 (by omega) (by omega) (by omega)]) (by rw [hW 16 (by omega) (by omega) (by omega)]) (fun a q r => hT a (by omega) (by omega) (by omega)) (fun j _ => by rw [hT 18 (by omega) (by omega) (by omega)]), ht.kept (hW 17 (by omega) (by omega) (by omega)) (hW 25 (by omega) (by omega) (by omega)) (hW 26 (by omega) (by omega) (by omega)) (hT 8 (by omega) (by omega) (by omega)) (hT 12 (by omega) (by omega) (by omega)) (hT 16 (by omega) (by omega) (by omega)) (hT 17 (by omega) (by omega) (by omega)), hch.kept hn (hW 37 (by omega) (by omega) (by omega)) (hW 38 (by omega) (by omega) (by omega)) (hW 39 (by omega) (by omega) (by omega)) (hW 40 (by omega) (by omega) (by omega)) (h0 21 (by omega)) (fun j _ => by rw [hT 18 (by omega) (by omega) (by omega)]), hk.kept hn (hW 41 (by omega) (by omega) (by omega)) (hW 42 (by omega) (by omega) (by omega)) (hW 43 (by omega) (by omega) (by omega)) (h0 22 (by omega)) (fun j _ _ => by rw [hT 18 (by omega) (by omega) (by omega)]), hs, htx.kept (hW 0 (by omega) (by omega) (by omega)) (by rw [hW 16 (by omega) (by omega) (by omega)]) (h0 1 (by omega)) (hT 1 (by omega) (by omega) (by omega))⟩
end KQ
theorem op_forget {w τ : Mm} (h : Rel w τ) : Both (fX8_forget w) (fX9_forget τ) := by
  obtain ⟨n, g, wd, hc, ht, hch, hk, hse, htx⟩ := id h
  obtain ⟨z, z1, z2, z3, z4⟩ := id hse
  unfold fX8_forget fX9_forget fX7_clear
  simp only [bd1s, pts]
  rw [z2, z3]
  exact ⟨_, _, _, rfl, rfl, Rel.sn hc ht hch hk htx (fun a q _ _ => st_a q) (fun a q _ _ => st_a q) (fun j q => st_ki q) ⟨0, by omega, st_kj, st_kj, fun k q => absurd q (by omega)⟩⟩
theorem op_seen {w τ : Mm} (h : Rel w τ) (x1 x2 : Int32) : Both (fX8_seen w x1 x2) (fX9_seen τ x1 x2) := by
  obtain ⟨n, g, wd, hc, ht, hch, hk, hse, htx⟩ := id h
  obtain ⟨z, z1, z2, z3, z4⟩ := id hse
  have hn := hc.1.2.1
  unfold fX8_seen fX9_seen
  rw [gqs hc.2.2.2.1.2.2.2.1]
  simp only [bd1s]
  rcases beast_any hc x1 with ⟨i, i1, rfl, i3, i4⟩ | ⟨i3, i4⟩
  · rw [i3, i4, rd0 (by omega) (by omega), hc.2.2.2.2.1.1, hc.2.2.1.1]
    simp only [bd1s]
    rw [if_neg (show ¬ (1 : Int32) = 0 by decide), if_neg (show ¬ (1 : Int32) = 0 by decide), in_eq]
    rcases in_any x2 (a := 1) (b := n) (by omega) (by omega) with ⟨r, r1, r2, rfl, r4⟩ | r4
    · rw [show fX8_within (nI r) 1 (nI n) = some 1 from r4]
      simp only [bd1s]
      rw [if_neg (show ¬ (1 : Int32) = 0 by decide), if_neg (show ¬ (1 : Int32) = 0 by decide)]
      unfold fX7_add
      rw [z2, z3, nI_lit 6, iflt (by omega) (by omega), ifeq (by omega) (by omega)]
      by_cases q : z < 6
      · rw [if_pos q, if_neg (by omega), wrN (k := 45) (j := z) (by omega) (by omega), wrN (k := 24) (j := z) (by omega) (by omega)]
        simp only [bd1s, pts]
        rw [st_a (k := 45) (a := 44) (by omega), st_a (k := 24) (a := 0) (by omega), z2, z3, wrN (k := 46) (j := z) (by omega) (by omega), wrN (k := 25) (j := z) (by omega) (by omega)]
        simp only [bd1s, bd2s, pts]
        rw [if_neg (show ¬ (1 : Int32) = 0 by decide), st_kj, st_kj, st_a (k := 46) (a := 44) (by omega), st_a (k := 45) (a := 44) (by omega), st_a (k := 25) (a := 0) (by omega), st_a (k := 24) (a := 0) (by omega), z2, z3, nI_1]
        refine ⟨_, _, _, rfl, rfl, Rel.sn hc ht hch hk htx (fun a q1 q2 q3 => by rw [st_a q1, st_a q3, st_a q2]) (fun a q1 q2 q3 => by rw [st_a q1, st_a q3, st_a q2]) (fun j q => by rw [st_ki q, st_a (by omega), st_a (by omega)]) ⟨z + 1, by omega, st_kj, st_kj, fun k q => ?_⟩⟩
        rw [st_a (k := 44) (a := 45) (by omega), st_a (k := 46) (a := 45) (by omega), st_a (k := 44) (a := 46) (by omega), st_a (k := 0) (a := 24) (by omega), st_a (k := 25) (a := 24) (by omega), st_a (k := 0) (a := 25) (by omega)]
        by_cases c : k = z
        · subst c
          rw [st_kj, st_kj, st_kj, st_kj]
          exact ⟨i, r, i1, r1, r2, rfl, rfl, rfl, rfl⟩
        · rw [st_ki c, st_ki c, st_ki c, st_ki c, st_a (k := 45) (a := 46) (by omega), st_a (k := 24) (a := 25) (by omega)]
          exact z4 k (by omega)
      · rw [if_neg q, if_pos (by omega)]
        simp only [bd2s]
        rw [if_pos trivial]
        exact Both.mk h rfl rfl lookX.rf lookM.rf
    · rw [show fX8_within x2 1 (nI n) = some 0 from r4]
      simp only [bd1s]
      rw [if_pos trivial, if_pos trivial]
      exact Both.mk h rfl rfl lookX.rf lookM.rf
  · rw [i3, i4]
    simp only [bd1s]
    rw [if_pos trivial, if_pos trivial]
    exact Both.mk h rfl rfl lookX.rf lookM.rf
theorem op_keep {w τ : Mm} (h : Rel w τ) : Both (fX8_keep w) (fX9_keep τ) := by
  obtain ⟨n, g, wd, hc, ht, hch, hk, hse, htx⟩ := id h
  obtain ⟨t, t1, t2, t3, t4⟩ := id hk
  have hn := hc.1.2.1
  unfold fX8_keep fX9_keep fX3_push
  rw [gqs hc.2.2.2.1.2.2.2.1]
  simp only [bd1s]
  rw [t2, t3, nI_lit 2, iflt (by omega) (by omega), ifeq (by omega) (by omega)]
  by_cases q : t < 2
  · obtain ⟨T, r1, r2, r3⟩ := copy_spec (a := 0) (b := 144 + 16 * t) (by omega) (by omega) (by omega) τ
    rw [if_pos q, if_neg (by omega), nI_lit 16, pk_mul, nI_lit 144, nI_add, show fX9_copy τ 0 (nI (144 + 16 * t)) = some T from r1, nI_lit 8, pk_mul, nI_lit0, cyN (k1 := 21) (by omega) (by omega) (by omega) (by omega)]
    simp only [bd1s]
    rw [cp_a (c := 41) (by omega), t2, pk_mul, cyN (k1 := 22) (by omega) (by omega) (by omega) (by omega)]
    simp only [bd1s, bd2s, pts]
    rw [if_neg (show ¬ (1 : Int32) = nI 0 by decide), st_kj, st_kj, cp_a (c := 41) (by omega), cp_a (c := 41) (by omega), t2, r2 0 (by omega), t3, nI_1]
    have hW : ∀ a, a ≠ 41 → a ≠ 42 → a ≠ 43 → st (cp (cp w 21 42 0 (t * 8) 8) 22 43 0 (t * 8) 8) 41 2 (nI (t + 1)) a = w a := fun a q1 q2 q3 => by rw [st_a q1, cp_a q3, cp_a q2]
    have hT : ∀ a, a ≠ 0 → a ≠ 18 → st T 0 22 (nI (t + 1)) a = τ a := fun a q1 q2 => by rw [st_a q1, r2 a q2]
    have h0 : ∀ j, j ≠ 22 → st T 0 22 (nI (t + 1)) 0 j = τ 0 j := fun j q1 => by rw [st_ki q1, r2 0 (by omega)]
    have h18 : ∀ j, j < 144 + 16 * t → st T 0 22 (nI (t + 1)) 18 j = τ 18 j := fun j q1 => by rw [st_a (by omega), r3, if_neg (by omega)]
    refine ⟨_, _, _, rfl, rfl, n, g, wd, hc.kept (fun a q r => hW a (by omega) (by omega) (by omega)) (by rw [hW 16 (by omega) (by omega) (by omega)]) (by rw [hW 16 (by omega) (by omega) (by omega)]) (fun a q r => hT a (by omega) (by omega)) (fun j _ => h18 j (by omega)), ht.kept (hW 17 (by omega) (by omega) (by omega)) (hW 25 (by omega) (by omega) (by omega)) (hW 26 (by omega) (by omega) (by omega)) (hT 8 (by omega) (by omega)) (hT 12 (by omega) (by omega)) (hT 16 (by omega) (by omega)) (hT 17 (by omega) (by omega)), hch.kept hn (hW 37 (by omega) (by omega) (by omega)) (hW 38 (by omega) (by omega) (by omega)) (hW 39 (by omega) (by omega) (by omega)) (hW 40 (by omega) (by omega) (by omega)) (h0 21 (by omega)) (fun j _ => h18 j (by omega)), ⟨t + 1, by omega, st_kj, st_kj, fun k hk => ?_⟩, hse.kept (hW 44 (by omega) (by omega) (by omega)) (hW 45 (by omega) (by omega) (by omega)) (hW 46 (by omega) (by omega) (by omega)) (h0 33 (by omega)) (hT 24 (by omega) (by omega)) (hT 25 (by omega) (by omega)), htx.kept (hW 0 (by omega) (by omega) (by omega)) (by rw [hW 16 (by omega) (by omega) (by omega)]) (h0 1 (by omega)) (hT 1 (by omega) (by omega))⟩
    rw [st_a (k := 41) (a := 42) (by omega), cp_a (c := 42) (b := 43) (by omega), st_a (k := 41) (a := 43) (by omega), st_a (k := 0) (a := 18) (by omega)]
    by_cases c : k = t
    · subst c
      refine ⟨fun i hi => ?_, hc.2.1.2.1.same (fun i hi => ?_) (fun i hi => ?_)⟩
      · rw [cp_at, cp_at, r3, r3, if_pos (by omega), if_pos (by omega), if_pos (by omega), if_pos (by omega), cp_a (c := 22) (by omega), show 0 + (8 * k + i - k * 8) = i by omega, show 0 + (144 + 16 * k + i - (144 + 16 * k)) = i by omega, show 0 + (144 + 16 * k + 8 + i - (144 + 16 * k)) = 8 + i by omega, (hc.2.2.2.1.1 i hi).1, (hc.2.2.2.1.1 i hi).2, (hc.2.2.2.2.2.1 i hi).1, (hc.2.2.2.2.2.1 i hi).2]
        exact ⟨rfl, rfl⟩
      · rw [r3, if_pos (by omega), show 0 + (144 + 16 * k + i - (144 + 16 * k)) = i by omega, (hc.2.2.2.2.2.1 i hi).1]
      · rw [r3, if_pos (by omega), show 0 + (144 + 16 * k + 8 + i - (144 + 16 * k)) = 8 + i by omega, (hc.2.2.2.2.2.1 i hi).2]
    · obtain ⟨u1, u2⟩ := t4 k (by omega)
      refine ⟨fun i hi => ?_, u2.same (fun i hi => ?_) (fun i hi => ?_)⟩
      · rw [cp_at, cp_at, r3, r3, if_neg (by omega), if_neg (by omega), if_neg (by omega), if_neg (by omega), cp_a (c := 43) (by omega)]
        exact u1 i hi
      · rw [r3, if_neg (by omega)]
      · rw [r3, if_neg (by omega)]
  · rw [if_neg q, if_pos (by omega)]
    simp only [bd2s]
    rw [if_pos trivial]
    exact Both.mk h rfl rfl lookX.rf lookM.rf
