section KA
variable {w w' τ τ' : Mm} {T : Nat → Nat} {len N : Nat}
theorem itm_all (hx : Tx0 w T len) (hm : Tm0 τ T len) (hS : Sp w τ N) {q : Nat} (hq : q < len) (e : τ 0 18 = nI q) : Itm w τ T len q := by
  by_cases a1 : T q = 97
  · exact itm_a hx hm hS hq e a1
  by_cases a2 : T q = 98
  · exact itm_b hx hm hS hq e a2
  by_cases a3 : T q = 99
  · exact itm_c hx hm hS hq e a3
  by_cases a4 : T q = 114
  · exact itm_r hx hm hS hq e a4
  by_cases a5 : T q = 115
  · exact itm_s hx hm hS hq e a5
  by_cases a6 : T q = 118
  · exact itm_v hx hm hS hq e a6
  by_cases a7 : T q = 119
  · exact itm_w hx hm hS hq e a7
  by_cases a8 : T q = 121
  · exact itm_y hx hm hS hq e a8
  exact itm_none hx hm hq e ⟨a1, a2, a3, a4, a5, a6, a7, a8⟩
theorem fault_loop : ∀ (fu p k : Nat) (w τ : Mm) (N : Nat), Tx0 w T len → Tm0 τ T len → Sp w τ N → τ 0 18 = nI p → p ≤ len → k ≤ p → len - p < fu → ∃ (r : Int32) (w' τ' : Mm), LX5_readText_10 (nI len) 200 fu (nI p) (nI k) w = some (r, w') ∧ LX9_fault_41 fu τ = some (r, τ') ∧ w' 0 = w 0 ∧ (∀ a, 16 ≤ a → w' a = w a) ∧ loM τ τ' ∧ (r = -4 → ∃ N', Sp w' τ' N') := by
  intro fu
  induction fu with
  | zero => intro p k w τ N _ _ _ _ _ _ h; omega
  | succ fu ih =>
    intro p k w τ N hx hm hS e hp hk hf
    have hl := hx.1
    rw [LX5_readText_10, LX9_fault_41, hm.2.1, e, nI_lit 200, ifle (by omega) (by omega), ifle (by omega) (by omega), ifle (by omega) (by omega)]
    by_cases c : len ≤ p
    · refine ⟨-4, w, τ, ?_, by rw [if_pos c], rfl, fun _ _ => rfl, loM.rf, fun _ => ⟨N, hS⟩⟩
      by_cases d : 200 ≤ k
      · rw [if_pos d]
      · rw [if_neg d, if_pos c]
    · rw [if_neg (by omega), if_neg c, if_neg c]
      obtain ⟨τ1, v6, w7, t1, t2, t3, t4, t5⟩ := itm_all hx hm hS (q := p) (by omega) e
      rcases t5 with ⟨f1, f2⟩ | ⟨f1, v9, w10, g1, g2, g3, g4⟩
      · refine ⟨nI p, w7, τ1, bdE2 t3 ?_, bdE t1 ?_, t4 0 (by omega) (by omega), fun a z => t4 a (by omega) (by omega), t2, fun z => absurd z (nI_n4 (by omega))⟩
        · rw [f2, bI_f, if_pos rfl]
        · rw [f1, if_pos rfl]
      · have tr : rd w7 0 200 (nI p) = some (nI (T p)) := by rw [rdN (k := 0) (j := p) (by omega) (by omega), t4 0 (by omega) (by omega), (hx.2 p (by omega)).2.2]
        rcases g4 with ⟨h1, h2⟩ | ⟨h1, h2, N', p', h3, h4, h5, h6, h7⟩
        · refine ⟨nI p, w10, τ1, bdE2 t3 ?_, bdE t1 ?_, g2, g3, t2, fun z => absurd z (nI_n4 (by omega))⟩
          · rw [f1, bI_t, if_neg (show ¬ (1 : Int32) = 0 by decide)]
            refine bdE tr (bdE2 g1 ?_)
            rw [h1, bI_f, if_pos rfl]
          · rw [h2, if_pos rfl]
        · obtain ⟨r, wf, τf, j1, j2, j3, j4, j5, j6⟩ := ih p' (k + 1) w10 τ1 N' (hx.kept g2) (hm.kept (t2.2.2.2.2.2.2 1 (by omega) (by omega)) t2.2.2.2.2.1) h3 h5 h7 (by omega) (by omega)
          refine ⟨r, wf, τf, bdE2 t3 ?_, bdE t1 ?_, j3.trans g2, fun a z => (j4 a z).trans (g3 a z), t2.tr j5, j6⟩
          · rw [f1, bI_t, if_neg (show ¬ (1 : Int32) = 0 by decide)]
            refine bdE tr (bdE2 g1 ?_)
            rw [h1, bI_t, if_neg (show ¬ (1 : Int32) = 0 by decide), h4, nI_1]
            exact j1
          · rw [h2, if_neg (show ¬ (1 : Int32) = 0 by decide)]
            exact j2
theorem read_both (h : Rel w τ) : ∃ (r : Int32) (w' τ' : Mm), fX5_readText 200 w (w 16 1) = some (r, w') ∧ fX9_fault τ = some (r, τ') ∧ w' 0 = w 0 ∧ (∀ a, 16 ≤ a → w' a = w a) ∧ loM τ τ' ∧ (r = -4 → ∃ N', Sp w' τ' N') := by
  obtain ⟨n, g, wd, -, -, -, -, -, len, l1, l2, l3, l4⟩ := h
  have cl : fX6_clear_s w = some (st (st (st (st (st (st w 3 12 0) 3 13 30) 3 14 0) 3 15 0) 3 16 0) 3 17 0) := rfl
  have hx : Tx0 (st (st (st (st (st (st w 3 12 0) 3 13 30) 3 14 0) 3 15 0) 3 16 0) 3 17 0) (fun k => (w 0 k).toNatClampNeg) len := by
    refine ⟨l1, fun k hk => ?_⟩
    obtain ⟨ch, c1, c2, c3, c4⟩ := l4 k hk
    dsimp only
    rw [st_a (by omega), st_a (by omega), st_a (by omega), st_a (by omega), st_a (by omega), st_a (by omega), c3, nI_clamp (by omega)]
    exact ⟨c1, c2, rfl⟩
  have hm : Tm0 (st (st (st (st (st (st τ 0 18 0) 2 1 0) 7 1 30) 8 1 0) 12 1 0) 15 1 0) (fun k => (w 0 k).toNatClampNeg) len := by
    refine ⟨l1, ?_, fun k hk => ?_⟩
    · rw [st_a (by omega), st_a (by omega), st_a (by omega), st_a (by omega), st_a (by omega), st_ki (by omega)]
      exact l3
    · obtain ⟨ch, c1, c2, c3, c4⟩ := l4 k hk
      dsimp only
      rw [st_a (by omega), st_a (by omega), st_a (by omega), st_a (by omega), st_a (by omega), st_a (by omega), c3, c4, nI_clamp (by omega)]
      exact ⟨c1, c2, rfl⟩
  have hS : Sp (st (st (st (st (st (st w 3 12 0) 3 13 30) 3 14 0) 3 15 0) 3 16 0) 3 17 0) (st (st (st (st (st (st τ 0 18 0) 2 1 0) 7 1 30) 8 1 0) 12 1 0) 15 1 0) 0 := by
    refine ⟨⟨by omega, by simp [st_at]; rfl, by simp [st_at]; rfl⟩, ⟨30, by omega, by omega, by simp [st_at]; rfl, by simp [st_at]; rfl⟩, fun i hi => absurd hi (by omega), ⟨0, by omega, by simp [st_at]; rfl, by simp [st_at]; rfl, fun k hk => absurd hk (by omega)⟩, ⟨0, fun _ => 0, by omega, by simp [st_at]; rfl, by simp [st_at]; rfl, fun k hk => absurd hk (by omega), fun k j hk => absurd hk (by omega), Or.inl ⟨by simp [st_at], fun k j hk => absurd hk (by omega), fun i hi => absurd hi (by omega)⟩⟩, ⟨0, fun _ => 0, by simp [st_at]; rfl, by simp [st_at]; rfl, rfl, fun i hi => absurd hi (by omega), fun i j hi => absurd hi (by omega)⟩⟩
  obtain ⟨r, wf, τf, j1, j2, j3, j4, j5, j6⟩ := fault_loop 1000 0 0 _ _ 0 hx hm hS (by simp [st_at]; rfl) (by omega) (by omega) (by omega)
  refine ⟨r, wf, τf, ?_, ?_, ?_, fun a z => ?_, ?_, j6⟩
  · unfold fX5_readText
    rw [l2]
    exact bdE cl j1
  · unfold fX9_fault
    exact bdE pts (bdE (wr1 (by omega) (by omega)) (bdE (wr1 (by omega) (by omega)) (bdE (wr1 (by omega) (by omega)) (bdE (wr1 (by omega) (by omega)) (bdE (wr1 (by omega) (by omega)) j2)))))
  · rw [j3, st_a (by omega), st_a (by omega), st_a (by omega), st_a (by omega), st_a (by omega), st_a (by omega)]
  · rw [j4 a z, st_a (by omega), st_a (by omega), st_a (by omega), st_a (by omega), st_a (by omega), st_a (by omega)]
  · refine loM.tr ⟨⟨by simp [st_at], by simp [st_at], by simp [st_at], by simp [st_at]⟩, fun a z j hj => ?_, fun j hj => ⟨by simp [st_at], by simp [st_at]⟩, fun j hj => by simp [st_at], ?_, fun a z => ?_, fun j z1 z2 => ?_⟩ j5
    · rw [st_a (by omega), st_a (by omega), st_a (by omega), st_a (by omega), st_a (by omega), st_a (by omega)]
    · rw [st_a (by omega), st_a (by omega), st_a (by omega), st_a (by omega), st_a (by omega), st_a (by omega)]
    · rw [st_a (by omega), st_a (by omega), st_a (by omega), st_a (by omega), st_a (by omega), st_a (by omega)]
    · rw [st_a (by omega), st_a (by omega), st_a (by omega), st_a (by omega), st_a (by omega), st_ki z1]
theorem op_fault (h : Rel w τ) : Both (fX8_fault 200 w) (fX9_fault τ) := by
  obtain ⟨r, w', τ', a1, a2, a3, a4, a5, a6⟩ := read_both h
  refine ⟨r, w', τ', ?_, a2, h.lo a3 a4 a5⟩
  obtain ⟨n, g, wd, hc, -⟩ := h
  unfold fX8_fault
  exact bdE (gqs hc.2.2.2.1.2.2.2.2) (bdE2 a1 rfl)
end KA
