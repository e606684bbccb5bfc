theorem op_twos {w τ : Mm} (h : Rel w τ) : ∃ r τ', fX8_twos w = some r ∧ fX9_twos τ = some (r, τ') ∧ Rel w τ' := by
  obtain ⟨n, g, wd, hc, -⟩ := id h
  obtain ⟨⟨h1, h2, h3, h4⟩, ⟨v1, v2, v3⟩, hsx, hb, hs, -⟩ := id hc
  have hw : ∀ i, i < n → (1 ≤ (g 1 i).toNatClampNeg ∧ (g 1 i).toNatClampNeg ≤ 9) ∧ g 1 i = nI (g 1 i).toNatClampNeg := by
    intro i hi
    obtain ⟨s, s1, s2, s3⟩ := (v1.1 i hi).2.2.2
    rw [s3, nI_clamp (by omega)]
    exact ⟨⟨s1, s2⟩, rfl⟩
  have hX : Tx w n (fun i => (g 1 i).toNatClampNeg) (fun i => decide (g 2 i = 1 ∧ g 5 i = -4)) (fun i => decide (g 2 i ≠ 1 ∧ g 5 i = -4)) := by
    refine ⟨hsx.1, h2, hb.2.2.2.1, fun i hi => ?_⟩
    obtain ⟨y0, y1, y2, y5, y6⟩ := hsx.2 i hi
    rw [y1, y2, y5]
    exact ⟨(hw i hi).1, (hw i hi).2, decide_eq_true_iff, decide_eq_true_iff⟩
  have hM : Tw τ n (fun i => (g 1 i).toNatClampNeg) (fun i => decide (g 2 i = 1 ∧ g 5 i = -4)) (fun i => decide (g 2 i ≠ 1 ∧ g 5 i = -4)) := by
    refine ⟨hs.1, h2, fun i hi => ?_⟩
    obtain ⟨y0, y1, y2⟩ := hs.2.1 i hi
    rw [y1, y2]
    exact ⟨(hw i hi).1, (hw i hi).2, g 5 i, hs.2.2.1 i hi, decide_eq_true_iff, decide_eq_true_iff⟩
  generalize (fun i => (g 1 i).toNatClampNeg) = wt at hX hM
  generalize (fun i => decide (g 2 i = 1 ∧ g 5 i = -4)) = lt at hX hM
  generalize (fun i => decide (g 2 i ≠ 1 ∧ g 5 i = -4)) = be at hX hM
  have hwt : ∀ i, i < n → 1 ≤ wt i ∧ wt i ≤ 9 := fun i hi => (hM.2.2 i hi).1
  obtain ⟨τ1, a1, a2, a3⟩ := two_init (τ := τ) 1000 0 τ (by omega) (by omega) (fun _ _ => rfl) (fun S q => absurd q (by omega))
  obtain ⟨τ2, b1, b2, b3⟩ := two_all (n := n) (wt := wt) (lt := lt) (be := be) 1000 0 τ1 (hM.kept a2) (by omega) (by omega) (fun S hS => ⟨fun q => by
      have := (Hl_zero h2 (fun i hi => (hwt i hi).2) hS).mp q
      rw [a3 S hS, if_pos this, this]
      rfl, fun q => by rw [a3 S hS, if_neg (fun z => q ((Hl_zero h2 (fun i hi => (hwt i hi).2) hS).mpr z))]⟩)
  obtain ⟨R, c1, c2, c3⟩ := two_max b3 1000 0 0 (by omega) (by omega) (by omega) (Or.inl rfl) (fun S q => absurd q (by omega))
  have z10 : cB be wt n 10 = 0 := by
    have : cB be wt n 10 ≤ ct (fun _ => false) n := ct_le n (fun k hk q => by
      have := (hwt k hk).2
      simp at q
      omega)
    have z : ∀ m, ct (fun _ => false) m = 0 := by
      intro m
      induction m with
      | zero => rfl
      | succ m ih => rw [ct, ih]; rfl
    rw [z] at this
    omega
  obtain ⟨p, d1, d2, d3⟩ := xtwos hX 9 1000 0 (by omega) (by omega) (by omega) (fun u q1 q2 => by
    have : u = 10 := by omega
    subst this
    rw [z10, show 9 + 1 = 10 from rfl]
    omega) ⟨10, by omega, by omega, by rw [z10, show 9 + 1 = 10 from rfl]⟩
  have z1 : cA wt lt n 1 = 0 := by
    have : cA wt lt n 1 ≤ ct (fun _ => false) n := ct_le n (fun k hk q => by
      have := (hwt k hk).1
      simp at q
      omega)
    have z : ∀ m, ct (fun _ => false) m = 0 := by
      intro m
      induction m with
      | zero => rfl
      | succ m ih => rw [ct, ih]; rfl
    rw [z] at this
    omega
  rw [z1] at d2 d3
  have eq : p = R := by
    obtain ⟨S, s1, s2, s3⟩ := Hl_heavy h2 hwt (p := p) (fun u q1 q2 => d2 u q1 q2)
    have l1 := c3 S s1 s2
    obtain ⟨u, u1, u2, u3⟩ := d3
    rcases c2 with q | ⟨S', t1, t2, t3⟩
    · omega
    · have := Hl_le h2 t2 u2
      omega
  subst eq
  refine ⟨nI p, τ2, bdE (show LX8_twos_5 w 1000 0 9 = some (nI p) from d1) rfl, ?_, h.look lookX.rf (lookM_of (fun a _ _ _ _ _ q _ => by rw [b2 a q, a2 a q]) (fun j _ => by rw [b2 18 (by omega), a2 18 (by omega)]) (fun j _ _ _ => by rw [b2 0 (by omega), a2 0 (by omega)]))⟩
  unfold fX9_twos
  exact bdE (show LX9_twos_2 1000 0 τ = some τ1 from a1) (bdE (show LX9_twos_33 1000 0 τ1 = some τ2 from b1) (bdE (show LX9_twos_221 τ2 1000 0 0 = some (nI p) from c1) rfl))
