def wX (κ : Kp) (tl : Nat) : cfT := fun ad k f => match k with
  | 0 => .inl (κ.2.2.1, tl, .inl f)
  | 1 => .inr (5, [.ref (ad 2), .int (f 1)])
  | 2 => .inl (κ.2.1, 4, .inl f)
  | 3 => .inr (6, [.ref (ad 4), .ref (ad 5), .ref (ad 6), .ref (ad 7), .ref (ad 8), .ref (ad 9), .ref (ad 10), .ref (ad 11), .ref (ad 12), .ref (ad 13), .ref (ad 14), .ref (ad 15), .int (f 12), .int (f 13), .int (f 14), .int (f 15), .int (f 16), .int (f 17)])
  | 4 => .inl (κ.2.1, 8, .inl f)
  | 5 => .inl (κ.2.1, 8, .inl f)
  | 6 => .inl (κ.2.1, 8, .inl f)
  | 7 => .inl (κ.2.1, 8, .inl f)
  | 8 => .inl (κ.2.1, 8, .inl f)
  | 9 => .inl (κ.2.1, 8, .inl f)
  | 10 => .inl (κ.2.1, 8, .inl f)
  | 11 => .inl (κ.2.1, 8, .inl f)
  | 12 => .inl (κ.2.1, 8, .inl f)
  | 13 => .inl (κ.2.1, 4, .inl f)
  | 14 => .inl (κ.2.1, 4, .inl f)
  | 15 => .inl (κ.2.1, 201, .inl f)
  | 16 => .inr (8, [.ref (ad 0), .int (f 1), .ref (ad 1), .ref (ad (f 3).toNatClampNeg), .ref (ad (f 4).toNatClampNeg), .ref (ad 30), .ref (ad 37), .ref (ad 41), .ref (ad 44), .ref (ad 47), .ref (ad 50)])
  | 17 => .inr (6, [.ref (ad 18), .ref (ad 19), .ref (ad 20), .ref (ad 21), .ref (ad 22), .ref (ad 23), .ref (ad 24), .ref (ad 25), .ref (ad 26), .ref (ad 27), .ref (ad 28), .ref (ad 29), .int (f 12), .int (f 13), .int (f 14), .int (f 15), .int (f 16), .int (f 17)])
  | 18 => .inl (κ.2.1, 8, .inl f)
  | 19 => .inl (κ.2.1, 8, .inl f)
  | 20 => .inl (κ.2.1, 8, .inl f)
  | 21 => .inl (κ.2.1, 8, .inl f)
  | 22 => .inl (κ.2.1, 8, .inl f)
  | 23 => .inl (κ.2.1, 8, .inl f)
  | 24 => .inl (κ.2.1, 8, .inl f)
  | 25 => .inl (κ.2.1, 8, .inl f)
  | 26 => .inl (κ.2.1, 8, .inl f)
  | 27 => .inl (κ.2.1, 4, .inl f)
  | 28 => .inl (κ.2.1, 4, .inl f)
  | 29 => .inl (κ.2.1, 201, .inl f)
  | 30 => .inr (4, [.ref (ad 31), .ref (ad 32), .ref (ad 33), .ref (ad 34), .ref (ad 35), .ref (ad 36), .ref (ad (f 6).toNatClampNeg), .ref (ad (f 7).toNatClampNeg), .int (f 8), .int (f 9), .int (f 10), .int (f 11), .int (f 12), .int (f 13), .int (f 14)])
  | 31 => .inl (κ.2.1, 8, .inl f)
  | 32 => .inl (κ.2.1, 8, .inl f)
  | 33 => .inl (κ.2.1, 8, .inl f)
  | 34 => .inl (κ.2.1, 8, .inl f)
  | 35 => .inl (κ.2.1, 8, .inl f)
  | 36 => .inl (κ.2.1, 201, .inl f)
  | 37 => .inr (1, [.ref (ad 38), .ref (ad 39), .ref (ad 40), .int (f 3)])
  | 38 => .inl (κ.2.1, 8, .inl f)
  | 39 => .inl (κ.2.1, 8, .inl f)
  | 40 => .inl (κ.2.1, 8, .inl f)
  | 41 => .inr (3, [.ref (ad 42), .ref (ad 43), .int (f 2)])
  | 42 => .inl (κ.2.1, 16, .inl f)
  | 43 => .inl (κ.2.1, 16, .inl f)
  | 44 => .inr (7, [.ref (ad 45), .ref (ad 46), .int (f 2)])
  | 45 => .inl (κ.2.1, 6, .inl f)
  | 46 => .inl (κ.2.1, 6, .inl f)
  | 47 => .inr (0, [.ref (ad 48), .ref (ad 49)])
  | 48 => .inl (κ.2.1, 100, .inl f)
  | 49 => .inl (κ.2.1, 100, .inl f)
  | 50 => .inr (2, [.ref (ad 51)])
  | _ => .inl (κ.2.1, 256, .inl f)
theorem aX_0 {κ : Kp} {tl : Nat} {ad : Nat → Nat} : ∀ f, wX κ tl ad 0 f = .inl (κ.2.2.1, tl, .inl f) := fun _ => rfl
theorem oX_1 {κ : Kp} {tl : Nat} {ad : Nat → Nat} {f : Nat → Int32} : ∃ fs, wX κ tl ad 1 f = .inr (5, fs) := ⟨_, rfl⟩
theorem gX_1_0 {κ : Kp} {tl : Nat} {ad : Nat → Nat} {f : Nat → Int32} : ∃ fs, wX κ tl ad 1 f = .inr (5, fs) ∧ fs[0]? = some (.ref (ad 2)) := ⟨_, rfl, rfl⟩
theorem gX_1_1 {κ : Kp} {tl : Nat} {ad : Nat → Nat} {f : Nat → Int32} : ∃ fs, wX κ tl ad 1 f = .inr (5, fs) ∧ fs[1]? = some (.int (f 1)) := ⟨_, rfl, rfl⟩
theorem pX_1_1 {κ : Kp} {tl : Nat} {ad : Nat → Nat} {f : Nat → Int32} {x : Int32} : ∃ fs, wX κ tl ad 1 f = .inr (5, fs) ∧ 1 < fs.length ∧ wX κ tl ad 1 (upd f 1 x) = .inr (5, fs.set 1 (.int x)) := ⟨_, rfl, Nat.le_of_ble_eq_true rfl, rfl⟩
theorem aX_2 {κ : Kp} {tl : Nat} {ad : Nat → Nat} : ∀ f, wX κ tl ad 2 f = .inl (κ.2.1, 4, .inl f) := fun _ => rfl
theorem oX_3 {κ : Kp} {tl : Nat} {ad : Nat → Nat} {f : Nat → Int32} : ∃ fs, wX κ tl ad 3 f = .inr (6, fs) := ⟨_, rfl⟩
theorem gX_3_0 {κ : Kp} {tl : Nat} {ad : Nat → Nat} {f : Nat → Int32} : ∃ fs, wX κ tl ad 3 f = .inr (6, fs) ∧ fs[0]? = some (.ref (ad 4)) := ⟨_, rfl, rfl⟩
theorem gX_3_1 {κ : Kp} {tl : Nat} {ad : Nat → Nat} {f : Nat → Int32} : ∃ fs, wX κ tl ad 3 f = .inr (6, fs) ∧ fs[1]? = some (.ref (ad 5)) := ⟨_, rfl, rfl⟩
theorem gX_3_2 {κ : Kp} {tl : Nat} {ad : Nat → Nat} {f : Nat → Int32} : ∃ fs, wX κ tl ad 3 f = .inr (6, fs) ∧ fs[2]? = some (.ref (ad 6)) := ⟨_, rfl, rfl⟩
theorem gX_3_3 {κ : Kp} {tl : Nat} {ad : Nat → Nat} {f : Nat → Int32} : ∃ fs, wX κ tl ad 3 f = .inr (6, fs) ∧ fs[3]? = some (.ref (ad 7)) := ⟨_, rfl, rfl⟩
theorem gX_3_4 {κ : Kp} {tl : Nat} {ad : Nat → Nat} {f : Nat → Int32} : ∃ fs, wX κ tl ad 3 f = .inr (6, fs) ∧ fs[4]? = some (.ref (ad 8)) := ⟨_, rfl, rfl⟩
theorem gX_3_5 {κ : Kp} {tl : Nat} {ad : Nat → Nat} {f : Nat → Int32} : ∃ fs, wX κ tl ad 3 f = .inr (6, fs) ∧ fs[5]? = some (.ref (ad 9)) := ⟨_, rfl, rfl⟩
theorem gX_3_6 {κ : Kp} {tl : Nat} {ad : Nat → Nat} {f : Nat → Int32} : ∃ fs, wX κ tl ad 3 f = .inr (6, fs) ∧ fs[6]? = some (.ref (ad 10)) := ⟨_, rfl, rfl⟩
theorem gX_3_7 {κ : Kp} {tl : Nat} {ad : Nat → Nat} {f : Nat → Int32} : ∃ fs, wX κ tl ad 3 f = .inr (6, fs) ∧ fs[7]? = some (.ref (ad 11)) := ⟨_, rfl, rfl⟩
theorem gX_3_8 {κ : Kp} {tl : Nat} {ad : Nat → Nat} {f : Nat → Int32} : ∃ fs, wX κ tl ad 3 f = .inr (6, fs) ∧ fs[8]? = some (.ref (ad 12)) := ⟨_, rfl, rfl⟩
theorem gX_3_9 {κ : Kp} {tl : Nat} {ad : Nat → Nat} {f : Nat → Int32} : ∃ fs, wX κ tl ad 3 f = .inr (6, fs) ∧ fs[9]? = some (.ref (ad 13)) := ⟨_, rfl, rfl⟩
theorem gX_3_10 {κ : Kp} {tl : Nat} {ad : Nat → Nat} {f : Nat → Int32} : ∃ fs, wX κ tl ad 3 f = .inr (6, fs) ∧ fs[10]? = some (.ref (ad 14)) := ⟨_, rfl, rfl⟩
theorem gX_3_11 {κ : Kp} {tl : Nat} {ad : Nat → Nat} {f : Nat → Int32} : ∃ fs, wX κ tl ad 3 f = .inr (6, fs) ∧ fs[11]? = some (.ref (ad 15)) := ⟨_, rfl, rfl⟩
theorem gX_3_12 {κ : Kp} {tl : Nat} {ad : Nat → Nat} {f : Nat → Int32} : ∃ fs, wX κ tl ad 3 f = .inr (6, fs) ∧ fs[12]? = some (.int (f 12)) := ⟨_, rfl, rfl⟩
theorem pX_3_12 {κ : Kp} {tl : Nat} {ad : Nat → Nat} {f : Nat → Int32} {x : Int32} : ∃ fs, wX κ tl ad 3 f = .inr (6, fs) ∧ 12 < fs.length ∧ wX κ tl ad 3 (upd f 12 x) = .inr (6, fs.set 12 (.int x)) := ⟨_, rfl, Nat.le_of_ble_eq_true rfl, rfl⟩
theorem gX_3_13 {κ : Kp} {tl : Nat} {ad : Nat → Nat} {f : Nat → Int32} : ∃ fs, wX κ tl ad 3 f = .inr (6, fs) ∧ fs[13]? = some (.int (f 13)) := ⟨_, rfl, rfl⟩
theorem pX_3_13 {κ : Kp} {tl : Nat} {ad : Nat → Nat} {f : Nat → Int32} {x : Int32} : ∃ fs, wX κ tl ad 3 f = .inr (6, fs) ∧ 13 < fs.length ∧ wX κ tl ad 3 (upd f 13 x) = .inr (6, fs.set 13 (.int x)) := ⟨_, rfl, Nat.le_of_ble_eq_true rfl, rfl⟩
theorem gX_3_14 {κ : Kp} {tl : Nat} {ad : Nat → Nat} {f : Nat → Int32} : ∃ fs, wX κ tl ad 3 f = .inr (6, fs) ∧ fs[14]? = some (.int (f 14)) := ⟨_, rfl, rfl⟩
theorem pX_3_14 {κ : Kp} {tl : Nat} {ad : Nat → Nat} {f : Nat → Int32} {x : Int32} : ∃ fs, wX κ tl ad 3 f = .inr (6, fs) ∧ 14 < fs.length ∧ wX κ tl ad 3 (upd f 14 x) = .inr (6, fs.set 14 (.int x)) := ⟨_, rfl, Nat.le_of_ble_eq_true rfl, rfl⟩
theorem gX_3_15 {κ : Kp} {tl : Nat} {ad : Nat → Nat} {f : Nat → Int32} : ∃ fs, wX κ tl ad 3 f = .inr (6, fs) ∧ fs[15]? = some (.int (f 15)) := ⟨_, rfl, rfl⟩
theorem pX_3_15 {κ : Kp} {tl : Nat} {ad : Nat → Nat} {f : Nat → Int32} {x : Int32} : ∃ fs, wX κ tl ad 3 f = .inr (6, fs) ∧ 15 < fs.length ∧ wX κ tl ad 3 (upd f 15 x) = .inr (6, fs.set 15 (.int x)) := ⟨_, rfl, Nat.le_of_ble_eq_true rfl, rfl⟩
theorem gX_3_16 {κ : Kp} {tl : Nat} {ad : Nat → Nat} {f : Nat → Int32} : ∃ fs, wX κ tl ad 3 f = .inr (6, fs) ∧ fs[16]? = some (.int (f 16)) := ⟨_, rfl, rfl⟩
theorem pX_3_16 {κ : Kp} {tl : Nat} {ad : Nat → Nat} {f : Nat → Int32} {x : Int32} : ∃ fs, wX κ tl ad 3 f = .inr (6, fs) ∧ 16 < fs.length ∧ wX κ tl ad 3 (upd f 16 x) = .inr (6, fs.set 16 (.int x)) := ⟨_, rfl, Nat.le_of_ble_eq_true rfl, rfl⟩
theorem gX_3_17 {κ : Kp} {tl : Nat} {ad : Nat → Nat} {f : Nat → Int32} : ∃ fs, wX κ tl ad 3 f = .inr (6, fs) ∧ fs[17]? = some (.int (f 17)) := ⟨_, rfl, rfl⟩
theorem pX_3_17 {κ : Kp} {tl : Nat} {ad : Nat → Nat} {f : Nat → Int32} {x : Int32} : ∃ fs, wX κ tl ad 3 f = .inr (6, fs) ∧ 17 < fs.length ∧ wX κ tl ad 3 (upd f 17 x) = .inr (6, fs.set 17 (.int x)) := ⟨_, rfl, Nat.le_of_ble_eq_true rfl, rfl⟩
theorem aX_4 {κ : Kp} {tl : Nat} {ad : Nat → Nat} : ∀ f, wX κ tl ad 4 f = .inl (κ.2.1, 8, .inl f) := fun _ => rfl
theorem aX_5 {κ : Kp} {tl : Nat} {ad : Nat → Nat} : ∀ f, wX κ tl ad 5 f = .inl (κ.2.1, 8, .inl f) := fun _ => rfl
theorem aX_6 {κ : Kp} {tl : Nat} {ad : Nat → Nat} : ∀ f, wX κ tl ad 6 f = .inl (κ.2.1, 8, .inl f) := fun _ => rfl
theorem aX_7 {κ : Kp} {tl : Nat} {ad : Nat → Nat} : ∀ f, wX κ tl ad 7 f = .inl (κ.2.1, 8, .inl f) := fun _ => rfl
theorem aX_8 {κ : Kp} {tl : Nat} {ad : Nat → Nat} : ∀ f, wX κ tl ad 8 f = .inl (κ.2.1, 8, .inl f) := fun _ => rfl
theorem aX_9 {κ : Kp} {tl : Nat} {ad : Nat → Nat} : ∀ f, wX κ tl ad 9 f = .inl (κ.2.1, 8, .inl f) := fun _ => rfl
theorem aX_10 {κ : Kp} {tl : Nat} {ad : Nat → Nat} : ∀ f, wX κ tl ad 10 f = .inl (κ.2.1, 8, .inl f) := fun _ => rfl
theorem aX_11 {κ : Kp} {tl : Nat} {ad : Nat → Nat} : ∀ f, wX κ tl ad 11 f = .inl (κ.2.1, 8, .inl f) := fun _ => rfl
theorem aX_12 {κ : Kp} {tl : Nat} {ad : Nat → Nat} : ∀ f, wX κ tl ad 12 f = .inl (κ.2.1, 8, .inl f) := fun _ => rfl
theorem aX_13 {κ : Kp} {tl : Nat} {ad : Nat → Nat} : ∀ f, wX κ tl ad 13 f = .inl (κ.2.1, 4, .inl f) := fun _ => rfl
theorem aX_14 {κ : Kp} {tl : Nat} {ad : Nat → Nat} : ∀ f, wX κ tl ad 14 f = .inl (κ.2.1, 4, .inl f) := fun _ => rfl
theorem aX_15 {κ : Kp} {tl : Nat} {ad : Nat → Nat} : ∀ f, wX κ tl ad 15 f = .inl (κ.2.1, 201, .inl f) := fun _ => rfl
theorem oX_16 {κ : Kp} {tl : Nat} {ad : Nat → Nat} {f : Nat → Int32} : ∃ fs, wX κ tl ad 16 f = .inr (8, fs) := ⟨_, rfl⟩
theorem gX_16_0 {κ : Kp} {tl : Nat} {ad : Nat → Nat} {f : Nat → Int32} : ∃ fs, wX κ tl ad 16 f = .inr (8, fs) ∧ fs[0]? = some (.ref (ad 0)) := ⟨_, rfl, rfl⟩
theorem gX_16_1 {κ : Kp} {tl : Nat} {ad : Nat → Nat} {f : Nat → Int32} : ∃ fs, wX κ tl ad 16 f = .inr (8, fs) ∧ fs[1]? = some (.int (f 1)) := ⟨_, rfl, rfl⟩
theorem pX_16_1 {κ : Kp} {tl : Nat} {ad : Nat → Nat} {f : Nat → Int32} {x : Int32} : ∃ fs, wX κ tl ad 16 f = .inr (8, fs) ∧ 1 < fs.length ∧ wX κ tl ad 16 (upd f 1 x) = .inr (8, fs.set 1 (.int x)) := ⟨_, rfl, Nat.le_of_ble_eq_true rfl, rfl⟩
theorem gX_16_2 {κ : Kp} {tl : Nat} {ad : Nat → Nat} {f : Nat → Int32} : ∃ fs, wX κ tl ad 16 f = .inr (8, fs) ∧ fs[2]? = some (.ref (ad 1)) := ⟨_, rfl, rfl⟩
theorem gX_16_3 {κ : Kp} {tl : Nat} {ad : Nat → Nat} {f : Nat → Int32} : ∃ fs, wX κ tl ad 16 f = .inr (8, fs) ∧ fs[3]? = some (.ref (ad (f 3).toNatClampNeg)) := ⟨_, rfl, rfl⟩
theorem pX_16_3 {κ : Kp} {tl : Nat} {ad : Nat → Nat} {f : Nat → Int32} {x : Int32} : ∃ fs, wX κ tl ad 16 f = .inr (8, fs) ∧ 3 < fs.length ∧ wX κ tl ad 16 (upd f 3 x) = .inr (8, fs.set 3 (.ref (ad x.toNatClampNeg))) := ⟨_, rfl, Nat.le_of_ble_eq_true rfl, rfl⟩
theorem gX_16_4 {κ : Kp} {tl : Nat} {ad : Nat → Nat} {f : Nat → Int32} : ∃ fs, wX κ tl ad 16 f = .inr (8, fs) ∧ fs[4]? = some (.ref (ad (f 4).toNatClampNeg)) := ⟨_, rfl, rfl⟩
theorem pX_16_4 {κ : Kp} {tl : Nat} {ad : Nat → Nat} {f : Nat → Int32} {x : Int32} : ∃ fs, wX κ tl ad 16 f = .inr (8, fs) ∧ 4 < fs.length ∧ wX κ tl ad 16 (upd f 4 x) = .inr (8, fs.set 4 (.ref (ad x.toNatClampNeg))) := ⟨_, rfl, Nat.le_of_ble_eq_true rfl, rfl⟩
theorem gX_16_5 {κ : Kp} {tl : Nat} {ad : Nat → Nat} {f : Nat → Int32} : ∃ fs, wX κ tl ad 16 f = .inr (8, fs) ∧ fs[5]? = some (.ref (ad 30)) := ⟨_, rfl, rfl⟩
theorem gX_16_6 {κ : Kp} {tl : Nat} {ad : Nat → Nat} {f : Nat → Int32} : ∃ fs, wX κ tl ad 16 f = .inr (8, fs) ∧ fs[6]? = some (.ref (ad 37)) := ⟨_, rfl, rfl⟩
theorem gX_16_7 {κ : Kp} {tl : Nat} {ad : Nat → Nat} {f : Nat → Int32} : ∃ fs, wX κ tl ad 16 f = .inr (8, fs) ∧ fs[7]? = some (.ref (ad 41)) := ⟨_, rfl, rfl⟩
theorem gX_16_8 {κ : Kp} {tl : Nat} {ad : Nat → Nat} {f : Nat → Int32} : ∃ fs, wX κ tl ad 16 f = .inr (8, fs) ∧ fs[8]? = some (.ref (ad 44)) := ⟨_, rfl, rfl⟩
theorem gX_16_9 {κ : Kp} {tl : Nat} {ad : Nat → Nat} {f : Nat → Int32} : ∃ fs, wX κ tl ad 16 f = .inr (8, fs) ∧ fs[9]? = some (.ref (ad 47)) := ⟨_, rfl, rfl⟩
theorem gX_16_10 {κ : Kp} {tl : Nat} {ad : Nat → Nat} {f : Nat → Int32} : ∃ fs, wX κ tl ad 16 f = .inr (8, fs) ∧ fs[10]? = some (.ref (ad 50)) := ⟨_, rfl, rfl⟩
theorem oX_17 {κ : Kp} {tl : Nat} {ad : Nat → Nat} {f : Nat → Int32} : ∃ fs, wX κ tl ad 17 f = .inr (6, fs) := ⟨_, rfl⟩
theorem gX_17_0 {κ : Kp} {tl : Nat} {ad : Nat → Nat} {f : Nat → Int32} : ∃ fs, wX κ tl ad 17 f = .inr (6, fs) ∧ fs[0]? = some (.ref (ad 18)) := ⟨_, rfl, rfl⟩
theorem gX_17_1 {κ : Kp} {tl : Nat} {ad : Nat → Nat} {f : Nat → Int32} : ∃ fs, wX κ tl ad 17 f = .inr (6, fs) ∧ fs[1]? = some (.ref (ad 19)) := ⟨_, rfl, rfl⟩
theorem gX_17_2 {κ : Kp} {tl : Nat} {ad : Nat → Nat} {f : Nat → Int32} : ∃ fs, wX κ tl ad 17 f = .inr (6, fs) ∧ fs[2]? = some (.ref (ad 20)) := ⟨_, rfl, rfl⟩
theorem gX_17_3 {κ : Kp} {tl : Nat} {ad : Nat → Nat} {f : Nat → Int32} : ∃ fs, wX κ tl ad 17 f = .inr (6, fs) ∧ fs[3]? = some (.ref (ad 21)) := ⟨_, rfl, rfl⟩
theorem gX_17_4 {κ : Kp} {tl : Nat} {ad : Nat → Nat} {f : Nat → Int32} : ∃ fs, wX κ tl ad 17 f = .inr (6, fs) ∧ fs[4]? = some (.ref (ad 22)) := ⟨_, rfl, rfl⟩
theorem gX_17_5 {κ : Kp} {tl : Nat} {ad : Nat → Nat} {f : Nat → Int32} : ∃ fs, wX κ tl ad 17 f = .inr (6, fs) ∧ fs[5]? = some (.ref (ad 23)) := ⟨_, rfl, rfl⟩
theorem gX_17_6 {κ : Kp} {tl : Nat} {ad : Nat → Nat} {f : Nat → Int32} : ∃ fs, wX κ tl ad 17 f = .inr (6, fs) ∧ fs[6]? = some (.ref (ad 24)) := ⟨_, rfl, rfl⟩
theorem gX_17_7 {κ : Kp} {tl : Nat} {ad : Nat → Nat} {f : Nat → Int32} : ∃ fs, wX κ tl ad 17 f = .inr (6, fs) ∧ fs[7]? = some (.ref (ad 25)) := ⟨_, rfl, rfl⟩
theorem gX_17_8 {κ : Kp} {tl : Nat} {ad : Nat → Nat} {f : Nat → Int32} : ∃ fs, wX κ tl ad 17 f = .inr (6, fs) ∧ fs[8]? = some (.ref (ad 26)) := ⟨_, rfl, rfl⟩
theorem gX_17_9 {κ : Kp} {tl : Nat} {ad : Nat → Nat} {f : Nat → Int32} : ∃ fs, wX κ tl ad 17 f = .inr (6, fs) ∧ fs[9]? = some (.ref (ad 27)) := ⟨_, rfl, rfl⟩
theorem gX_17_10 {κ : Kp} {tl : Nat} {ad : Nat → Nat} {f : Nat → Int32} : ∃ fs, wX κ tl ad 17 f = .inr (6, fs) ∧ fs[10]? = some (.ref (ad 28)) := ⟨_, rfl, rfl⟩
theorem gX_17_11 {κ : Kp} {tl : Nat} {ad : Nat → Nat} {f : Nat → Int32} : ∃ fs, wX κ tl ad 17 f = .inr (6, fs) ∧ fs[11]? = some (.ref (ad 29)) := ⟨_, rfl, rfl⟩
theorem gX_17_12 {κ : Kp} {tl : Nat} {ad : Nat → Nat} {f : Nat → Int32} : ∃ fs, wX κ tl ad 17 f = .inr (6, fs) ∧ fs[12]? = some (.int (f 12)) := ⟨_, rfl, rfl⟩
theorem pX_17_12 {κ : Kp} {tl : Nat} {ad : Nat → Nat} {f : Nat → Int32} {x : Int32} : ∃ fs, wX κ tl ad 17 f = .inr (6, fs) ∧ 12 < fs.length ∧ wX κ tl ad 17 (upd f 12 x) = .inr (6, fs.set 12 (.int x)) := ⟨_, rfl, Nat.le_of_ble_eq_true rfl, rfl⟩
theorem gX_17_13 {κ : Kp} {tl : Nat} {ad : Nat → Nat} {f : Nat → Int32} : ∃ fs, wX κ tl ad 17 f = .inr (6, fs) ∧ fs[13]? = some (.int (f 13)) := ⟨_, rfl, rfl⟩
theorem pX_17_13 {κ : Kp} {tl : Nat} {ad : Nat → Nat} {f : Nat → Int32} {x : Int32} : ∃ fs, wX κ tl ad 17 f = .inr (6, fs) ∧ 13 < fs.length ∧ wX κ tl ad 17 (upd f 13 x) = .inr (6, fs.set 13 (.int x)) := ⟨_, rfl, Nat.le_of_ble_eq_true rfl, rfl⟩
theorem gX_17_14 {κ : Kp} {tl : Nat} {ad : Nat → Nat} {f : Nat → Int32} : ∃ fs, wX κ tl ad 17 f = .inr (6, fs) ∧ fs[14]? = some (.int (f 14)) := ⟨_, rfl, rfl⟩
theorem pX_17_14 {κ : Kp} {tl : Nat} {ad : Nat → Nat} {f : Nat → Int32} {x : Int32} : ∃ fs, wX κ tl ad 17 f = .inr (6, fs) ∧ 14 < fs.length ∧ wX κ tl ad 17 (upd f 14 x) = .inr (6, fs.set 14 (.int x)) := ⟨_, rfl, Nat.le_of_ble_eq_true rfl, rfl⟩
theorem gX_17_15 {κ : Kp} {tl : Nat} {ad : Nat → Nat} {f : Nat → Int32} : ∃ fs, wX κ tl ad 17 f = .inr (6, fs) ∧ fs[15]? = some (.int (f 15)) := ⟨_, rfl, rfl⟩
theorem pX_17_15 {κ : Kp} {tl : Nat} {ad : Nat → Nat} {f : Nat → Int32} {x : Int32} : ∃ fs, wX κ tl ad 17 f = .inr (6, fs) ∧ 15 < fs.length ∧ wX κ tl ad 17 (upd f 15 x) = .inr (6, fs.set 15 (.int x)) := ⟨_, rfl, Nat.le_of_ble_eq_true rfl, rfl⟩
theorem gX_17_16 {κ : Kp} {tl : Nat} {ad : Nat → Nat} {f : Nat → Int32} : ∃ fs, wX κ tl ad 17 f = .inr (6, fs) ∧ fs[16]? = some (.int (f 16)) := ⟨_, rfl, rfl⟩
theorem pX_17_16 {κ : Kp} {tl : Nat} {ad : Nat → Nat} {f : Nat → Int32} {x : Int32} : ∃ fs, wX κ tl ad 17 f = .inr (6, fs) ∧ 16 < fs.length ∧ wX κ tl ad 17 (upd f 16 x) = .inr (6, fs.set 16 (.int x)) := ⟨_, rfl, Nat.le_of_ble_eq_true rfl, rfl⟩
theorem gX_17_17 {κ : Kp} {tl : Nat} {ad : Nat → Nat} {f : Nat → Int32} : ∃ fs, wX κ tl ad 17 f = .inr (6, fs) ∧ fs[17]? = some (.int (f 17)) := ⟨_, rfl, rfl⟩
theorem pX_17_17 {κ : Kp} {tl : Nat} {ad : Nat → Nat} {f : Nat → Int32} {x : Int32} : ∃ fs, wX κ tl ad 17 f = .inr (6, fs) ∧ 17 < fs.length ∧ wX κ tl ad 17 (upd f 17 x) = .inr (6, fs.set 17 (.int x)) := ⟨_, rfl, Nat.le_of_ble_eq_true rfl, rfl⟩
theorem aX_18 {κ : Kp} {tl : Nat} {ad : Nat → Nat} : ∀ f, wX κ tl ad 18 f = .inl (κ.2.1, 8, .inl f) := fun _ => rfl
theorem aX_19 {κ : Kp} {tl : Nat} {ad : Nat → Nat} : ∀ f, wX κ tl ad 19 f = .inl (κ.2.1, 8, .inl f) := fun _ => rfl
theorem aX_20 {κ : Kp} {tl : Nat} {ad : Nat → Nat} : ∀ f, wX κ tl ad 20 f = .inl (κ.2.1, 8, .inl f) := fun _ => rfl
theorem aX_21 {κ : Kp} {tl : Nat} {ad : Nat → Nat} : ∀ f, wX κ tl ad 21 f = .inl (κ.2.1, 8, .inl f) := fun _ => rfl
theorem aX_22 {κ : Kp} {tl : Nat} {ad : Nat → Nat} : ∀ f, wX κ tl ad 22 f = .inl (κ.2.1, 8, .inl f) := fun _ => rfl
theorem aX_23 {κ : Kp} {tl : Nat} {ad : Nat → Nat} : ∀ f, wX κ tl ad 23 f = .inl (κ.2.1, 8, .inl f) := fun _ => rfl
theorem aX_24 {κ : Kp} {tl : Nat} {ad : Nat → Nat} : ∀ f, wX κ tl ad 24 f = .inl (κ.2.1, 8, .inl f) := fun _ => rfl
theorem aX_25 {κ : Kp} {tl : Nat} {ad : Nat → Nat} : ∀ f, wX κ tl ad 25 f = .inl (κ.2.1, 8, .inl f) := fun _ => rfl
theorem aX_26 {κ : Kp} {tl : Nat} {ad : Nat → Nat} : ∀ f, wX κ tl ad 26 f = .inl (κ.2.1, 8, .inl f) := fun _ => rfl
theorem aX_27 {κ : Kp} {tl : Nat} {ad : Nat → Nat} : ∀ f, wX κ tl ad 27 f = .inl (κ.2.1, 4, .inl f) := fun _ => rfl
theorem aX_28 {κ : Kp} {tl : Nat} {ad : Nat → Nat} : ∀ f, wX κ tl ad 28 f = .inl (κ.2.1, 4, .inl f) := fun _ => rfl
theorem aX_29 {κ : Kp} {tl : Nat} {ad : Nat → Nat} : ∀ f, wX κ tl ad 29 f = .inl (κ.2.1, 201, .inl f) := fun _ => rfl
theorem oX_30 {κ : Kp} {tl : Nat} {ad : Nat → Nat} {f : Nat → Int32} : ∃ fs, wX κ tl ad 30 f = .inr (4, fs) := ⟨_, rfl⟩
theorem gX_30_0 {κ : Kp} {tl : Nat} {ad : Nat → Nat} {f : Nat → Int32} : ∃ fs, wX κ tl ad 30 f = .inr (4, fs) ∧ fs[0]? = some (.ref (ad 31)) := ⟨_, rfl, rfl⟩
theorem gX_30_1 {κ : Kp} {tl : Nat} {ad : Nat → Nat} {f : Nat → Int32} : ∃ fs, wX κ tl ad 30 f = .inr (4, fs) ∧ fs[1]? = some (.ref (ad 32)) := ⟨_, rfl, rfl⟩
theorem gX_30_2 {κ : Kp} {tl : Nat} {ad : Nat → Nat} {f : Nat → Int32} : ∃ fs, wX κ tl ad 30 f = .inr (4, fs) ∧ fs[2]? = some (.ref (ad 33)) := ⟨_, rfl, rfl⟩
theorem gX_30_3 {κ : Kp} {tl : Nat} {ad : Nat → Nat} {f : Nat → Int32} : ∃ fs, wX κ tl ad 30 f = .inr (4, fs) ∧ fs[3]? = some (.ref (ad 34)) := ⟨_, rfl, rfl⟩
theorem gX_30_4 {κ : Kp} {tl : Nat} {ad : Nat → Nat} {f : Nat → Int32} : ∃ fs, wX κ tl ad 30 f = .inr (4, fs) ∧ fs[4]? = some (.ref (ad 35)) := ⟨_, rfl, rfl⟩
theorem gX_30_5 {κ : Kp} {tl : Nat} {ad : Nat → Nat} {f : Nat → Int32} : ∃ fs, wX κ tl ad 30 f = .inr (4, fs) ∧ fs[5]? = some (.ref (ad 36)) := ⟨_, rfl, rfl⟩
theorem gX_30_6 {κ : Kp} {tl : Nat} {ad : Nat → Nat} {f : Nat → Int32} : ∃ fs, wX κ tl ad 30 f = .inr (4, fs) ∧ fs[6]? = some (.ref (ad (f 6).toNatClampNeg)) := ⟨_, rfl, rfl⟩
theorem pX_30_6 {κ : Kp} {tl : Nat} {ad : Nat → Nat} {f : Nat → Int32} {x : Int32} : ∃ fs, wX κ tl ad 30 f = .inr (4, fs) ∧ 6 < fs.length ∧ wX κ tl ad 30 (upd f 6 x) = .inr (4, fs.set 6 (.ref (ad x.toNatClampNeg))) := ⟨_, rfl, Nat.le_of_ble_eq_true rfl, rfl⟩
theorem gX_30_7 {κ : Kp} {tl : Nat} {ad : Nat → Nat} {f : Nat → Int32} : ∃ fs, wX κ tl ad 30 f = .inr (4, fs) ∧ fs[7]? = some (.ref (ad (f 7).toNatClampNeg)) := ⟨_, rfl, rfl⟩
theorem pX_30_7 {κ : Kp} {tl : Nat} {ad : Nat → Nat} {f : Nat → Int32} {x : Int32} : ∃ fs, wX κ tl ad 30 f = .inr (4, fs) ∧ 7 < fs.length ∧ wX κ tl ad 30 (upd f 7 x) = .inr (4, fs.set 7 (.ref (ad x.toNatClampNeg))) := ⟨_, rfl, Nat.le_of_ble_eq_true rfl, rfl⟩
theorem gX_30_8 {κ : Kp} {tl : Nat} {ad : Nat → Nat} {f : Nat → Int32} : ∃ fs, wX κ tl ad 30 f = .inr (4, fs) ∧ fs[8]? = some (.int (f 8)) := ⟨_, rfl, rfl⟩
theorem pX_30_8 {κ : Kp} {tl : Nat} {ad : Nat → Nat} {f : Nat → Int32} {x : Int32} : ∃ fs, wX κ tl ad 30 f = .inr (4, fs) ∧ 8 < fs.length ∧ wX κ tl ad 30 (upd f 8 x) = .inr (4, fs.set 8 (.int x)) := ⟨_, rfl, Nat.le_of_ble_eq_true rfl, rfl⟩
theorem gX_30_9 {κ : Kp} {tl : Nat} {ad : Nat → Nat} {f : Nat → Int32} : ∃ fs, wX κ tl ad 30 f = .inr (4, fs) ∧ fs[9]? = some (.int (f 9)) := ⟨_, rfl, rfl⟩
theorem pX_30_9 {κ : Kp} {tl : Nat} {ad : Nat → Nat} {f : Nat → Int32} {x : Int32} : ∃ fs, wX κ tl ad 30 f = .inr (4, fs) ∧ 9 < fs.length ∧ wX κ tl ad 30 (upd f 9 x) = .inr (4, fs.set 9 (.int x)) := ⟨_, rfl, Nat.le_of_ble_eq_true rfl, rfl⟩
theorem gX_30_10 {κ : Kp} {tl : Nat} {ad : Nat → Nat} {f : Nat → Int32} : ∃ fs, wX κ tl ad 30 f = .inr (4, fs) ∧ fs[10]? = some (.int (f 10)) := ⟨_, rfl, rfl⟩
theorem pX_30_10 {κ : Kp} {tl : Nat} {ad : Nat → Nat} {f : Nat → Int32} {x : Int32} : ∃ fs, wX κ tl ad 30 f = .inr (4, fs) ∧ 10 < fs.length ∧ wX κ tl ad 30 (upd f 10 x) = .inr (4, fs.set 10 (.int x)) := ⟨_, rfl, Nat.le_of_ble_eq_true rfl, rfl⟩
theorem gX_30_11 {κ : Kp} {tl : Nat} {ad : Nat → Nat} {f : Nat → Int32} : ∃ fs, wX κ tl ad 30 f = .inr (4, fs) ∧ fs[11]? = some (.int (f 11)) := ⟨_, rfl, rfl⟩
theorem pX_30_11 {κ : Kp} {tl : Nat} {ad : Nat → Nat} {f : Nat → Int32} {x : Int32} : ∃ fs, wX κ tl ad 30 f = .inr (4, fs) ∧ 11 < fs.length ∧ wX κ tl ad 30 (upd f 11 x) = .inr (4, fs.set 11 (.int x)) := ⟨_, rfl, Nat.le_of_ble_eq_true rfl, rfl⟩
theorem gX_30_12 {κ : Kp} {tl : Nat} {ad : Nat → Nat} {f : Nat → Int32} : ∃ fs, wX κ tl ad 30 f = .inr (4, fs) ∧ fs[12]? = some (.int (f 12)) := ⟨_, rfl, rfl⟩
theorem pX_30_12 {κ : Kp} {tl : Nat} {ad : Nat → Nat} {f : Nat → Int32} {x : Int32} : ∃ fs, wX κ tl ad 30 f = .inr (4, fs) ∧ 12 < fs.length ∧ wX κ tl ad 30 (upd f 12 x) = .inr (4, fs.set 12 (.int x)) := ⟨_, rfl, Nat.le_of_ble_eq_true rfl, rfl⟩
theorem gX_30_13 {κ : Kp} {tl : Nat} {ad : Nat → Nat} {f : Nat → Int32} : ∃ fs, wX κ tl ad 30 f = .inr (4, fs) ∧ fs[13]? = some (.int (f 13)) := ⟨_, rfl, rfl⟩
theorem pX_30_13 {κ : Kp} {tl : Nat} {ad : Nat → Nat} {f : Nat → Int32} {x : Int32} : ∃ fs, wX κ tl ad 30 f = .inr (4, fs) ∧ 13 < fs.length ∧ wX κ tl ad 30 (upd f 13 x) = .inr (4, fs.set 13 (.int x)) := ⟨_, rfl, Nat.le_of_ble_eq_true rfl, rfl⟩
theorem gX_30_14 {κ : Kp} {tl : Nat} {ad : Nat → Nat} {f : Nat → Int32} : ∃ fs, wX κ tl ad 30 f = .inr (4, fs) ∧ fs[14]? = some (.int (f 14)) := ⟨_, rfl, rfl⟩
theorem pX_30_14 {κ : Kp} {tl : Nat} {ad : Nat → Nat} {f : Nat → Int32} {x : Int32} : ∃ fs, wX κ tl ad 30 f = .inr (4, fs) ∧ 14 < fs.length ∧ wX κ tl ad 30 (upd f 14 x) = .inr (4, fs.set 14 (.int x)) := ⟨_, rfl, Nat.le_of_ble_eq_true rfl, rfl⟩
theorem aX_31 {κ : Kp} {tl : Nat} {ad : Nat → Nat} : ∀ f, wX κ tl ad 31 f = .inl (κ.2.1, 8, .inl f) := fun _ => rfl
theorem aX_32 {κ : Kp} {tl : Nat} {ad : Nat → Nat} : ∀ f, wX κ tl ad 32 f = .inl (κ.2.1, 8, .inl f) := fun _ => rfl
theorem aX_33 {κ : Kp} {tl : Nat} {ad : Nat → Nat} : ∀ f, wX κ tl ad 33 f = .inl (κ.2.1, 8, .inl f) := fun _ => rfl
theorem aX_34 {κ : Kp} {tl : Nat} {ad : Nat → Nat} : ∀ f, wX κ tl ad 34 f = .inl (κ.2.1, 8, .inl f) := fun _ => rfl
theorem aX_35 {κ : Kp} {tl : Nat} {ad : Nat → Nat} : ∀ f, wX κ tl ad 35 f = .inl (κ.2.1, 8, .inl f) := fun _ => rfl
theorem aX_36 {κ : Kp} {tl : Nat} {ad : Nat → Nat} : ∀ f, wX κ tl ad 36 f = .inl (κ.2.1, 201, .inl f) := fun _ => rfl
theorem oX_37 {κ : Kp} {tl : Nat} {ad : Nat → Nat} {f : Nat → Int32} : ∃ fs, wX κ tl ad 37 f = .inr (1, fs) := ⟨_, rfl⟩
theorem gX_37_0 {κ : Kp} {tl : Nat} {ad : Nat → Nat} {f : Nat → Int32} : ∃ fs, wX κ tl ad 37 f = .inr (1, fs) ∧ fs[0]? = some (.ref (ad 38)) := ⟨_, rfl, rfl⟩
theorem gX_37_1 {κ : Kp} {tl : Nat} {ad : Nat → Nat} {f : Nat → Int32} : ∃ fs, wX κ tl ad 37 f = .inr (1, fs) ∧ fs[1]? = some (.ref (ad 39)) := ⟨_, rfl, rfl⟩
theorem gX_37_2 {κ : Kp} {tl : Nat} {ad : Nat → Nat} {f : Nat → Int32} : ∃ fs, wX κ tl ad 37 f = .inr (1, fs) ∧ fs[2]? = some (.ref (ad 40)) := ⟨_, rfl, rfl⟩
theorem gX_37_3 {κ : Kp} {tl : Nat} {ad : Nat → Nat} {f : Nat → Int32} : ∃ fs, wX κ tl ad 37 f = .inr (1, fs) ∧ fs[3]? = some (.int (f 3)) := ⟨_, rfl, rfl⟩
theorem pX_37_3 {κ : Kp} {tl : Nat} {ad : Nat → Nat} {f : Nat → Int32} {x : Int32} : ∃ fs, wX κ tl ad 37 f = .inr (1, fs) ∧ 3 < fs.length ∧ wX κ tl ad 37 (upd f 3 x) = .inr (1, fs.set 3 (.int x)) := ⟨_, rfl, Nat.le_of_ble_eq_true rfl, rfl⟩
theorem aX_38 {κ : Kp} {tl : Nat} {ad : Nat → Nat} : ∀ f, wX κ tl ad 38 f = .inl (κ.2.1, 8, .inl f) := fun _ => rfl
theorem aX_39 {κ : Kp} {tl : Nat} {ad : Nat → Nat} : ∀ f, wX κ tl ad 39 f = .inl (κ.2.1, 8, .inl f) := fun _ => rfl
theorem aX_40 {κ : Kp} {tl : Nat} {ad : Nat → Nat} : ∀ f, wX κ tl ad 40 f = .inl (κ.2.1, 8, .inl f) := fun _ => rfl
theorem oX_41 {κ : Kp} {tl : Nat} {ad : Nat → Nat} {f : Nat → Int32} : ∃ fs, wX κ tl ad 41 f = .inr (3, fs) := ⟨_, rfl⟩
theorem gX_41_0 {κ : Kp} {tl : Nat} {ad : Nat → Nat} {f : Nat → Int32} : ∃ fs, wX κ tl ad 41 f = .inr (3, fs) ∧ fs[0]? = some (.ref (ad 42)) := ⟨_, rfl, rfl⟩
theorem gX_41_1 {κ : Kp} {tl : Nat} {ad : Nat → Nat} {f : Nat → Int32} : ∃ fs, wX κ tl ad 41 f = .inr (3, fs) ∧ fs[1]? = some (.ref (ad 43)) := ⟨_, rfl, rfl⟩
theorem gX_41_2 {κ : Kp} {tl : Nat} {ad : Nat → Nat} {f : Nat → Int32} : ∃ fs, wX κ tl ad 41 f = .inr (3, fs) ∧ fs[2]? = some (.int (f 2)) := ⟨_, rfl, rfl⟩
theorem pX_41_2 {κ : Kp} {tl : Nat} {ad : Nat → Nat} {f : Nat → Int32} {x : Int32} : ∃ fs, wX κ tl ad 41 f = .inr (3, fs) ∧ 2 < fs.length ∧ wX κ tl ad 41 (upd f 2 x) = .inr (3, fs.set 2 (.int x)) := ⟨_, rfl, Nat.le_of_ble_eq_true rfl, rfl⟩
theorem aX_42 {κ : Kp} {tl : Nat} {ad : Nat → Nat} : ∀ f, wX κ tl ad 42 f = .inl (κ.2.1, 16, .inl f) := fun _ => rfl
theorem aX_43 {κ : Kp} {tl : Nat} {ad : Nat → Nat} : ∀ f, wX κ tl ad 43 f = .inl (κ.2.1, 16, .inl f) := fun _ => rfl
theorem oX_44 {κ : Kp} {tl : Nat} {ad : Nat → Nat} {f : Nat → Int32} : ∃ fs, wX κ tl ad 44 f = .inr (7, fs) := ⟨_, rfl⟩
theorem gX_44_0 {κ : Kp} {tl : Nat} {ad : Nat → Nat} {f : Nat → Int32} : ∃ fs, wX κ tl ad 44 f = .inr (7, fs) ∧ fs[0]? = some (.ref (ad 45)) := ⟨_, rfl, rfl⟩
theorem gX_44_1 {κ : Kp} {tl : Nat} {ad : Nat → Nat} {f : Nat → Int32} : ∃ fs, wX κ tl ad 44 f = .inr (7, fs) ∧ fs[1]? = some (.ref (ad 46)) := ⟨_, rfl, rfl⟩
theorem gX_44_2 {κ : Kp} {tl : Nat} {ad : Nat → Nat} {f : Nat → Int32} : ∃ fs, wX κ tl ad 44 f = .inr (7, fs) ∧ fs[2]? = some (.int (f 2)) := ⟨_, rfl, rfl⟩
theorem pX_44_2 {κ : Kp} {tl : Nat} {ad : Nat → Nat} {f : Nat → Int32} {x : Int32} : ∃ fs, wX κ tl ad 44 f = .inr (7, fs) ∧ 2 < fs.length ∧ wX κ tl ad 44 (upd f 2 x) = .inr (7, fs.set 2 (.int x)) := ⟨_, rfl, Nat.le_of_ble_eq_true rfl, rfl⟩
theorem aX_45 {κ : Kp} {tl : Nat} {ad : Nat → Nat} : ∀ f, wX κ tl ad 45 f = .inl (κ.2.1, 6, .inl f) := fun _ => rfl
theorem aX_46 {κ : Kp} {tl : Nat} {ad : Nat → Nat} : ∀ f, wX κ tl ad 46 f = .inl (κ.2.1, 6, .inl f) := fun _ => rfl
theorem oX_47 {κ : Kp} {tl : Nat} {ad : Nat → Nat} {f : Nat → Int32} : ∃ fs, wX κ tl ad 47 f = .inr (0, fs) := ⟨_, rfl⟩
theorem gX_47_0 {κ : Kp} {tl : Nat} {ad : Nat → Nat} {f : Nat → Int32} : ∃ fs, wX κ tl ad 47 f = .inr (0, fs) ∧ fs[0]? = some (.ref (ad 48)) := ⟨_, rfl, rfl⟩
theorem gX_47_1 {κ : Kp} {tl : Nat} {ad : Nat → Nat} {f : Nat → Int32} : ∃ fs, wX κ tl ad 47 f = .inr (0, fs) ∧ fs[1]? = some (.ref (ad 49)) := ⟨_, rfl, rfl⟩
theorem aX_48 {κ : Kp} {tl : Nat} {ad : Nat → Nat} : ∀ f, wX κ tl ad 48 f = .inl (κ.2.1, 100, .inl f) := fun _ => rfl
theorem aX_49 {κ : Kp} {tl : Nat} {ad : Nat → Nat} : ∀ f, wX κ tl ad 49 f = .inl (κ.2.1, 100, .inl f) := fun _ => rfl
theorem oX_50 {κ : Kp} {tl : Nat} {ad : Nat → Nat} {f : Nat → Int32} : ∃ fs, wX κ tl ad 50 f = .inr (2, fs) := ⟨_, rfl⟩
theorem gX_50_0 {κ : Kp} {tl : Nat} {ad : Nat → Nat} {f : Nat → Int32} : ∃ fs, wX κ tl ad 50 f = .inr (2, fs) ∧ fs[0]? = some (.ref (ad 51)) := ⟨_, rfl, rfl⟩
theorem aX_51 {κ : Kp} {tl : Nat} {ad : Nat → Nat} : ∀ f, wX κ tl ad 51 f = .inl (κ.2.1, 256, .inl f) := fun _ => rfl
def wM (κ : Kp) : cfT := fun ad k f => match k with
  | 0 => .inr (9, [.ref (ad 1), .int (f 1), .ref (ad 2), .ref (ad 3), .ref (ad 4), .ref (ad 5), .ref (ad 6), .ref (ad 7), .ref (ad 8), .ref (ad 9), .ref (ad 10), .ref (ad 11), .ref (ad 12), .ref (ad 13), .ref (ad 14), .ref (ad 15), .ref (ad 16), .ref (ad 17), .int (f 18), .int (f 19), .ref (ad 18), .int (f 21), .int (f 22), .int (f 23), .int (f 24), .int (f 25), .ref (ad 19), .ref (ad 20), .ref (ad 21), .ref (ad 22), .ref (ad 23), .ref (ad 24), .ref (ad 25), .int (f 33)])
  | 1 => .inl (κ.2.2.2, 200, .inl f)
  | 2 => .inl (κ.2.1, 2, .inl f)
  | 3 => .inl (κ.2.1, 16, .inl f)
  | 4 => .inl (κ.2.1, 16, .inl f)
  | 5 => .inl (κ.2.1, 16, .inl f)
  | 6 => .inl (κ.2.1, 16, .inl f)
  | 7 => .inl (κ.2.1, 2, .inl f)
  | 8 => .inl (κ.2.1, 2, .inl f)
  | 9 => .inl (κ.2.1, 8, .inl f)
  | 10 => .inl (κ.2.1, 8, .inl f)
  | 11 => .inl (κ.2.1, 16, .inl f)
  | 12 => .inl (κ.2.1, 2, .inl f)
  | 13 => .inl (κ.2.1, 12, .inl f)
  | 14 => .inl (κ.2.1, 16, .inl f)
  | 15 => .inl (κ.2.1, 2, .inl f)
  | 16 => .inl (κ.2.1, 16, .inl f)
  | 17 => .inl (κ.2.1, 16, .inl f)
  | 18 => .inl (κ.2.1, 192, .inl f)
  | 19 => .inl (κ.2.1, 8, .inl f)
  | 20 => .inl (κ.2.1, 8, .inl f)
  | 21 => .inl (κ.2.1, 8, .inl f)
  | 22 => .inl (κ.2.1, 256, .inl f)
  | 23 => .inl (κ.2.1, 256, .inl f)
  | 24 => .inl (κ.2.1, 6, .inl f)
  | _ => .inl (κ.2.1, 6, .inl f)
theorem oM_0 {κ : Kp} {ad : Nat → Nat} {f : Nat → Int32} : ∃ fs, wM κ ad 0 f = .inr (9, fs) := ⟨_, rfl⟩
theorem gM_0_0 {κ : Kp} {ad : Nat → Nat} {f : Nat → Int32} : ∃ fs, wM κ ad 0 f = .inr (9, fs) ∧ fs[0]? = some (.ref (ad 1)) := ⟨_, rfl, rfl⟩
theorem gM_0_1 {κ : Kp} {ad : Nat → Nat} {f : Nat → Int32} : ∃ fs, wM κ ad 0 f = .inr (9, fs) ∧ fs[1]? = some (.int (f 1)) := ⟨_, rfl, rfl⟩
theorem pM_0_1 {κ : Kp} {ad : Nat → Nat} {f : Nat → Int32} {x : Int32} : ∃ fs, wM κ ad 0 f = .inr (9, fs) ∧ 1 < fs.length ∧ wM κ ad 0 (upd f 1 x) = .inr (9, fs.set 1 (.int x)) := ⟨_, rfl, Nat.le_of_ble_eq_true rfl, rfl⟩
theorem gM_0_2 {κ : Kp} {ad : Nat → Nat} {f : Nat → Int32} : ∃ fs, wM κ ad 0 f = .inr (9, fs) ∧ fs[2]? = some (.ref (ad 2)) := ⟨_, rfl, rfl⟩
theorem gM_0_3 {κ : Kp} {ad : Nat → Nat} {f : Nat → Int32} : ∃ fs, wM κ ad 0 f = .inr (9, fs) ∧ fs[3]? = some (.ref (ad 3)) := ⟨_, rfl, rfl⟩
theorem gM_0_4 {κ : Kp} {ad : Nat → Nat} {f : Nat → Int32} : ∃ fs, wM κ ad 0 f = .inr (9, fs) ∧ fs[4]? = some (.ref (ad 4)) := ⟨_, rfl, rfl⟩
theorem gM_0_5 {κ : Kp} {ad : Nat → Nat} {f : Nat → Int32} : ∃ fs, wM κ ad 0 f = .inr (9, fs) ∧ fs[5]? = some (.ref (ad 5)) := ⟨_, rfl, rfl⟩
theorem gM_0_6 {κ : Kp} {ad : Nat → Nat} {f : Nat → Int32} : ∃ fs, wM κ ad 0 f = .inr (9, fs) ∧ fs[6]? = some (.ref (ad 6)) := ⟨_, rfl, rfl⟩
theorem gM_0_7 {κ : Kp} {ad : Nat → Nat} {f : Nat → Int32} : ∃ fs, wM κ ad 0 f = .inr (9, fs) ∧ fs[7]? = some (.ref (ad 7)) := ⟨_, rfl, rfl⟩
theorem gM_0_8 {κ : Kp} {ad : Nat → Nat} {f : Nat → Int32} : ∃ fs, wM κ ad 0 f = .inr (9, fs) ∧ fs[8]? = some (.ref (ad 8)) := ⟨_, rfl, rfl⟩
theorem gM_0_9 {κ : Kp} {ad : Nat → Nat} {f : Nat → Int32} : ∃ fs, wM κ ad 0 f = .inr (9, fs) ∧ fs[9]? = some (.ref (ad 9)) := ⟨_, rfl, rfl⟩
theorem gM_0_10 {κ : Kp} {ad : Nat → Nat} {f : Nat → Int32} : ∃ fs, wM κ ad 0 f = .inr (9, fs) ∧ fs[10]? = some (.ref (ad 10)) := ⟨_, rfl, rfl⟩
theorem gM_0_11 {κ : Kp} {ad : Nat → Nat} {f : Nat → Int32} : ∃ fs, wM κ ad 0 f = .inr (9, fs) ∧ fs[11]? = some (.ref (ad 11)) := ⟨_, rfl, rfl⟩
theorem gM_0_12 {κ : Kp} {ad : Nat → Nat} {f : Nat → Int32} : ∃ fs, wM κ ad 0 f = .inr (9, fs) ∧ fs[12]? = some (.ref (ad 12)) := ⟨_, rfl, rfl⟩
theorem gM_0_13 {κ : Kp} {ad : Nat → Nat} {f : Nat → Int32} : ∃ fs, wM κ ad 0 f = .inr (9, fs) ∧ fs[13]? = some (.ref (ad 13)) := ⟨_, rfl, rfl⟩
theorem gM_0_14 {κ : Kp} {ad : Nat → Nat} {f : Nat → Int32} : ∃ fs, wM κ ad 0 f = .inr (9, fs) ∧ fs[14]? = some (.ref (ad 14)) := ⟨_, rfl, rfl⟩
theorem gM_0_15 {κ : Kp} {ad : Nat → Nat} {f : Nat → Int32} : ∃ fs, wM κ ad 0 f = .inr (9, fs) ∧ fs[15]? = some (.ref (ad 15)) := ⟨_, rfl, rfl⟩
theorem gM_0_16 {κ : Kp} {ad : Nat → Nat} {f : Nat → Int32} : ∃ fs, wM κ ad 0 f = .inr (9, fs) ∧ fs[16]? = some (.ref (ad 16)) := ⟨_, rfl, rfl⟩
theorem gM_0_17 {κ : Kp} {ad : Nat → Nat} {f : Nat → Int32} : ∃ fs, wM κ ad 0 f = .inr (9, fs) ∧ fs[17]? = some (.ref (ad 17)) := ⟨_, rfl, rfl⟩
theorem gM_0_18 {κ : Kp} {ad : Nat → Nat} {f : Nat → Int32} : ∃ fs, wM κ ad 0 f = .inr (9, fs) ∧ fs[18]? = some (.int (f 18)) := ⟨_, rfl, rfl⟩
theorem pM_0_18 {κ : Kp} {ad : Nat → Nat} {f : Nat → Int32} {x : Int32} : ∃ fs, wM κ ad 0 f = .inr (9, fs) ∧ 18 < fs.length ∧ wM κ ad 0 (upd f 18 x) = .inr (9, fs.set 18 (.int x)) := ⟨_, rfl, Nat.le_of_ble_eq_true rfl, rfl⟩
theorem gM_0_19 {κ : Kp} {ad : Nat → Nat} {f : Nat → Int32} : ∃ fs, wM κ ad 0 f = .inr (9, fs) ∧ fs[19]? = some (.int (f 19)) := ⟨_, rfl, rfl⟩
theorem pM_0_19 {κ : Kp} {ad : Nat → Nat} {f : Nat → Int32} {x : Int32} : ∃ fs, wM κ ad 0 f = .inr (9, fs) ∧ 19 < fs.length ∧ wM κ ad 0 (upd f 19 x) = .inr (9, fs.set 19 (.int x)) := ⟨_, rfl, Nat.le_of_ble_eq_true rfl, rfl⟩
theorem gM_0_20 {κ : Kp} {ad : Nat → Nat} {f : Nat → Int32} : ∃ fs, wM κ ad 0 f = .inr (9, fs) ∧ fs[20]? = some (.ref (ad 18)) := ⟨_, rfl, rfl⟩
theorem gM_0_21 {κ : Kp} {ad : Nat → Nat} {f : Nat → Int32} : ∃ fs, wM κ ad 0 f = .inr (9, fs) ∧ fs[21]? = some (.int (f 21)) := ⟨_, rfl, rfl⟩
theorem pM_0_21 {κ : Kp} {ad : Nat → Nat} {f : Nat → Int32} {x : Int32} : ∃ fs, wM κ ad 0 f = .inr (9, fs) ∧ 21 < fs.length ∧ wM κ ad 0 (upd f 21 x) = .inr (9, fs.set 21 (.int x)) := ⟨_, rfl, Nat.le_of_ble_eq_true rfl, rfl⟩
theorem gM_0_22 {κ : Kp} {ad : Nat → Nat} {f : Nat → Int32} : ∃ fs, wM κ ad 0 f = .inr (9, fs) ∧ fs[22]? = some (.int (f 22)) := ⟨_, rfl, rfl⟩
theorem pM_0_22 {κ : Kp} {ad : Nat → Nat} {f : Nat → Int32} {x : Int32} : ∃ fs, wM κ ad 0 f = .inr (9, fs) ∧ 22 < fs.length ∧ wM κ ad 0 (upd f 22 x) = .inr (9, fs.set 22 (.int x)) := ⟨_, rfl, Nat.le_of_ble_eq_true rfl, rfl⟩
theorem gM_0_23 {κ : Kp} {ad : Nat → Nat} {f : Nat → Int32} : ∃ fs, wM κ ad 0 f = .inr (9, fs) ∧ fs[23]? = some (.int (f 23)) := ⟨_, rfl, rfl⟩
theorem pM_0_23 {κ : Kp} {ad : Nat → Nat} {f : Nat → Int32} {x : Int32} : ∃ fs, wM κ ad 0 f = .inr (9, fs) ∧ 23 < fs.length ∧ wM κ ad 0 (upd f 23 x) = .inr (9, fs.set 23 (.int x)) := ⟨_, rfl, Nat.le_of_ble_eq_true rfl, rfl⟩
theorem gM_0_24 {κ : Kp} {ad : Nat → Nat} {f : Nat → Int32} : ∃ fs, wM κ ad 0 f = .inr (9, fs) ∧ fs[24]? = some (.int (f 24)) := ⟨_, rfl, rfl⟩
theorem pM_0_24 {κ : Kp} {ad : Nat → Nat} {f : Nat → Int32} {x : Int32} : ∃ fs, wM κ ad 0 f = .inr (9, fs) ∧ 24 < fs.length ∧ wM κ ad 0 (upd f 24 x) = .inr (9, fs.set 24 (.int x)) := ⟨_, rfl, Nat.le_of_ble_eq_true rfl, rfl⟩
theorem gM_0_25 {κ : Kp} {ad : Nat → Nat} {f : Nat → Int32} : ∃ fs, wM κ ad 0 f = .inr (9, fs) ∧ fs[25]? = some (.int (f 25)) := ⟨_, rfl, rfl⟩
theorem pM_0_25 {κ : Kp} {ad : Nat → Nat} {f : Nat → Int32} {x : Int32} : ∃ fs, wM κ ad 0 f = .inr (9, fs) ∧ 25 < fs.length ∧ wM κ ad 0 (upd f 25 x) = .inr (9, fs.set 25 (.int x)) := ⟨_, rfl, Nat.le_of_ble_eq_true rfl, rfl⟩
theorem gM_0_26 {κ : Kp} {ad : Nat → Nat} {f : Nat → Int32} : ∃ fs, wM κ ad 0 f = .inr (9, fs) ∧ fs[26]? = some (.ref (ad 19)) := ⟨_, rfl, rfl⟩
theorem gM_0_27 {κ : Kp} {ad : Nat → Nat} {f : Nat → Int32} : ∃ fs, wM κ ad 0 f = .inr (9, fs) ∧ fs[27]? = some (.ref (ad 20)) := ⟨_, rfl, rfl⟩
theorem gM_0_28 {κ : Kp} {ad : Nat → Nat} {f : Nat → Int32} : ∃ fs, wM κ ad 0 f = .inr (9, fs) ∧ fs[28]? = some (.ref (ad 21)) := ⟨_, rfl, rfl⟩
theorem gM_0_29 {κ : Kp} {ad : Nat → Nat} {f : Nat → Int32} : ∃ fs, wM κ ad 0 f = .inr (9, fs) ∧ fs[29]? = some (.ref (ad 22)) := ⟨_, rfl, rfl⟩
theorem gM_0_30 {κ : Kp} {ad : Nat → Nat} {f : Nat → Int32} : ∃ fs, wM κ ad 0 f = .inr (9, fs) ∧ fs[30]? = some (.ref (ad 23)) := ⟨_, rfl, rfl⟩
theorem gM_0_31 {κ : Kp} {ad : Nat → Nat} {f : Nat → Int32} : ∃ fs, wM κ ad 0 f = .inr (9, fs) ∧ fs[31]? = some (.ref (ad 24)) := ⟨_, rfl, rfl⟩
theorem gM_0_32 {κ : Kp} {ad : Nat → Nat} {f : Nat → Int32} : ∃ fs, wM κ ad 0 f = .inr (9, fs) ∧ fs[32]? = some (.ref (ad 25)) := ⟨_, rfl, rfl⟩
theorem gM_0_33 {κ : Kp} {ad : Nat → Nat} {f : Nat → Int32} : ∃ fs, wM κ ad 0 f = .inr (9, fs) ∧ fs[33]? = some (.int (f 33)) := ⟨_, rfl, rfl⟩
theorem pM_0_33 {κ : Kp} {ad : Nat → Nat} {f : Nat → Int32} {x : Int32} : ∃ fs, wM κ ad 0 f = .inr (9, fs) ∧ 33 < fs.length ∧ wM κ ad 0 (upd f 33 x) = .inr (9, fs.set 33 (.int x)) := ⟨_, rfl, Nat.le_of_ble_eq_true rfl, rfl⟩
theorem aM_1 {κ : Kp} {ad : Nat → Nat} : ∀ f, wM κ ad 1 f = .inl (κ.2.2.2, 200, .inl f) := fun _ => rfl
theorem aM_2 {κ : Kp} {ad : Nat → Nat} : ∀ f, wM κ ad 2 f = .inl (κ.2.1, 2, .inl f) := fun _ => rfl
theorem aM_3 {κ : Kp} {ad : Nat → Nat} : ∀ f, wM κ ad 3 f = .inl (κ.2.1, 16, .inl f) := fun _ => rfl
theorem aM_4 {κ : Kp} {ad : Nat → Nat} : ∀ f, wM κ ad 4 f = .inl (κ.2.1, 16, .inl f) := fun _ => rfl
theorem aM_5 {κ : Kp} {ad : Nat → Nat} : ∀ f, wM κ ad 5 f = .inl (κ.2.1, 16, .inl f) := fun _ => rfl
theorem aM_6 {κ : Kp} {ad : Nat → Nat} : ∀ f, wM κ ad 6 f = .inl (κ.2.1, 16, .inl f) := fun _ => rfl
theorem aM_7 {κ : Kp} {ad : Nat → Nat} : ∀ f, wM κ ad 7 f = .inl (κ.2.1, 2, .inl f) := fun _ => rfl
theorem aM_8 {κ : Kp} {ad : Nat → Nat} : ∀ f, wM κ ad 8 f = .inl (κ.2.1, 2, .inl f) := fun _ => rfl
theorem aM_9 {κ : Kp} {ad : Nat → Nat} : ∀ f, wM κ ad 9 f = .inl (κ.2.1, 8, .inl f) := fun _ => rfl
theorem aM_10 {κ : Kp} {ad : Nat → Nat} : ∀ f, wM κ ad 10 f = .inl (κ.2.1, 8, .inl f) := fun _ => rfl
theorem aM_11 {κ : Kp} {ad : Nat → Nat} : ∀ f, wM κ ad 11 f = .inl (κ.2.1, 16, .inl f) := fun _ => rfl
theorem aM_12 {κ : Kp} {ad : Nat → Nat} : ∀ f, wM κ ad 12 f = .inl (κ.2.1, 2, .inl f) := fun _ => rfl
theorem aM_13 {κ : Kp} {ad : Nat → Nat} : ∀ f, wM κ ad 13 f = .inl (κ.2.1, 12, .inl f) := fun _ => rfl
theorem aM_14 {κ : Kp} {ad : Nat → Nat} : ∀ f, wM κ ad 14 f = .inl (κ.2.1, 16, .inl f) := fun _ => rfl
theorem aM_15 {κ : Kp} {ad : Nat → Nat} : ∀ f, wM κ ad 15 f = .inl (κ.2.1, 2, .inl f) := fun _ => rfl
theorem aM_16 {κ : Kp} {ad : Nat → Nat} : ∀ f, wM κ ad 16 f = .inl (κ.2.1, 16, .inl f) := fun _ => rfl
theorem aM_17 {κ : Kp} {ad : Nat → Nat} : ∀ f, wM κ ad 17 f = .inl (κ.2.1, 16, .inl f) := fun _ => rfl
theorem aM_18 {κ : Kp} {ad : Nat → Nat} : ∀ f, wM κ ad 18 f = .inl (κ.2.1, 192, .inl f) := fun _ => rfl
theorem aM_19 {κ : Kp} {ad : Nat → Nat} : ∀ f, wM κ ad 19 f = .inl (κ.2.1, 8, .inl f) := fun _ => rfl
theorem aM_20 {κ : Kp} {ad : Nat → Nat} : ∀ f, wM κ ad 20 f = .inl (κ.2.1, 8, .inl f) := fun _ => rfl
theorem aM_21 {κ : Kp} {ad : Nat → Nat} : ∀ f, wM κ ad 21 f = .inl (κ.2.1, 8, .inl f) := fun _ => rfl
theorem aM_22 {κ : Kp} {ad : Nat → Nat} : ∀ f, wM κ ad 22 f = .inl (κ.2.1, 256, .inl f) := fun _ => rfl
theorem aM_23 {κ : Kp} {ad : Nat → Nat} : ∀ f, wM κ ad 23 f = .inl (κ.2.1, 256, .inl f) := fun _ => rfl
theorem aM_24 {κ : Kp} {ad : Nat → Nat} : ∀ f, wM κ ad 24 f = .inl (κ.2.1, 6, .inl f) := fun _ => rfl
theorem aM_25 {κ : Kp} {ad : Nat → Nat} : ∀ f, wM κ ad 25 f = .inl (κ.2.1, 6, .inl f) := fun _ => rfl
theorem inT_X0 : ∀ w ∈ u_ws RX0 TX0 2, w ∈ TB := by
  show ∀ w ∈ [Cond.laysFinal RX0 "CrossedFirst$Bridge" "minutes" "[I", Cond.laysFinal RX0 "CrossedFirst$Bridge" "firsts" "[I"], w ∈ TB
  exact List.forall_mem_cons.mpr ⟨tb2 143 rfl rfl, List.forall_mem_cons.mpr ⟨tb2 145 rfl rfl, fun _ h => absurd h List.not_mem_nil⟩⟩
theorem inT_X1 : ∀ w ∈ u_ws RX1 TX1 4, w ∈ TB := by
  show ∀ w ∈ [Cond.laysFinal RX1 "CrossedFirst$Changes" "changed" "[I", Cond.laysFinal RX1 "CrossedFirst$Changes" "startsWere" "[I", Cond.laysFinal RX1 "CrossedFirst$Changes" "carriersWere" "[I", Cond.lays RX1 "CrossedFirst$Changes" "size" "I"], w ∈ TB
  exact List.forall_mem_cons.mpr ⟨tb2 92 rfl rfl, List.forall_mem_cons.mpr ⟨tb2 94 rfl rfl, List.forall_mem_cons.mpr ⟨tb2 96 rfl rfl, List.forall_mem_cons.mpr ⟨tb2 98 rfl rfl, fun _ h => absurd h List.not_mem_nil⟩⟩⟩⟩
theorem inT_X2 : ∀ w ∈ u_ws RX2 TX2 1, w ∈ TB := by
  show ∀ w ∈ [Cond.laysFinal RX2 "CrossedFirst$Giving" "least" "[I"], w ∈ TB
  exact List.forall_mem_cons.mpr ⟨tb2 156 rfl rfl, fun _ h => absurd h List.not_mem_nil⟩
theorem inT_X3 : ∀ w ∈ u_ws RX3 TX3 3, w ∈ TB := by
  show ∀ w ∈ [Cond.laysFinal RX3 "CrossedFirst$Kept" "starts" "[I", Cond.laysFinal RX3 "CrossedFirst$Kept" "carriers" "[I", Cond.lays RX3 "CrossedFirst$Kept" "size" "I"], w ∈ TB
  exact List.forall_mem_cons.mpr ⟨tb2 111 rfl rfl, List.forall_mem_cons.mpr ⟨tb2 113 rfl rfl, List.forall_mem_cons.mpr ⟨tb2 115 rfl rfl, fun _ h => absurd h List.not_mem_nil⟩⟩⟩
theorem inT_X4 : ∀ w ∈ u_ws RX4 TX4 15, w ∈ TB := by
  show ∀ w ∈ [Cond.laysFinal RX4 "CrossedFirst$Race" "starts" "[I", Cond.laysFinal RX4 "CrossedFirst$Race" "carriers" "[I", Cond.laysFinal RX4 "CrossedFirst$Race" "landings" "[I", Cond.laysFinal RX4 "CrossedFirst$Race" "ranks" "[I", Cond.laysFinal RX4 "CrossedFirst$Race" "byRank" "[I", Cond.laysFinal RX4 "CrossedFirst$Race" "drawn" "[I", Cond.lays RX4 "CrossedFirst$Race" "over" "LCrossedFirst$River;", Cond.lays RX4 "CrossedFirst$Race" "flow" "[I", Cond.lays RX4 "CrossedFirst$Race" "width" "I", Cond.lays RX4 "CrossedFirst$Race" "floods" "I", Cond.lays RX4 "CrossedFirst$Race" "helpFrom" "I", Cond.lays RX4 "CrossedFirst$Race" "pull" "I", Cond.lays RX4 "CrossedFirst$Race" "kind" "I", Cond.lays RX4 "CrossedFirst$Race" "from" "I", Cond.lays RX4 "CrossedFirst$Race" "far" "I"], w ∈ TB
  exact List.forall_mem_cons.mpr ⟨tb2 49 rfl rfl, List.forall_mem_cons.mpr ⟨tb2 51 rfl rfl, List.forall_mem_cons.mpr ⟨tb2 53 rfl rfl, List.forall_mem_cons.mpr ⟨tb2 55 rfl rfl, List.forall_mem_cons.mpr ⟨tb2 57 rfl rfl, List.forall_mem_cons.mpr ⟨tb2 59 rfl rfl, List.forall_mem_cons.mpr ⟨tb2 61 rfl rfl, List.forall_mem_cons.mpr ⟨tb2 63 rfl rfl, List.forall_mem_cons.mpr ⟨tb2 65 rfl rfl, List.forall_mem_cons.mpr ⟨tb2 67 rfl rfl, List.forall_mem_cons.mpr ⟨tb2 69 rfl rfl, List.forall_mem_cons.mpr ⟨tb2 71 rfl rfl, List.forall_mem_cons.mpr ⟨tb2 73 rfl rfl, List.forall_mem_cons.mpr ⟨tb2 75 rfl rfl, List.forall_mem_cons.mpr ⟨tb2 77 rfl rfl, fun _ h => absurd h List.not_mem_nil⟩⟩⟩⟩⟩⟩⟩⟩⟩⟩⟩⟩⟩⟩⟩
theorem inT_X5 : ∀ w ∈ u_ws RX5 TX5 2, w ∈ TB := by
  show ∀ w ∈ [Cond.laysFinal RX5 "CrossedFirst$Reader" "numbers" "[I", Cond.lays RX5 "CrossedFirst$Reader" "behind" "I"], w ∈ TB
  exact List.forall_mem_cons.mpr ⟨tb1 34 rfl rfl, List.forall_mem_cons.mpr ⟨tb1 36 rfl rfl, fun _ h => absurd h List.not_mem_nil⟩⟩
theorem inT_X6 : ∀ w ∈ u_ws RX6 TX6 18, w ∈ TB := by
  show ∀ w ∈ [Cond.laysFinal RX6 "CrossedFirst$River" "strokes" "[I", Cond.laysFinal RX6 "CrossedFirst$River" "weights" "[I", Cond.laysFinal RX6 "CrossedFirst$River" "kinds" "[I", Cond.laysFinal RX6 "CrossedFirst$River" "starts" "[I", Cond.laysFinal RX6 "CrossedFirst$River" "carriers" "[I", Cond.laysFinal RX6 "CrossedFirst$River" "rafts" "[I", Cond.laysFinal RX6 "CrossedFirst$River" "voices" "[I", Cond.laysFinal RX6 "CrossedFirst$River" "wants" "[I", Cond.laysFinal RX6 "CrossedFirst$River" "harvests" "[I", Cond.laysFinal RX6 "CrossedFirst$River" "currentsFrom" "[I", Cond.laysFinal RX6 "CrossedFirst$River" "currentsTake" "[I", Cond.laysFinal RX6 "CrossedFirst$River" "flow" "[I", Cond.lays RX6 "CrossedFirst$River" "beasts" "I", Cond.lays RX6 "CrossedFirst$River" "width" "I", Cond.lays RX6 "CrossedFirst$River" "currents" "I", Cond.lays RX6 "CrossedFirst$River" "raftsTold" "I", Cond.lays RX6 "CrossedFirst$River" "voicesTold" "I", Cond.lays RX6 "CrossedFirst$River" "sharedByRafts" "Z"], w ∈ TB
  exact List.forall_mem_cons.mpr ⟨tb1 100 rfl rfl, List.forall_mem_cons.mpr ⟨tb1 102 rfl rfl, List.forall_mem_cons.mpr ⟨tb1 104 rfl rfl, List.forall_mem_cons.mpr ⟨tb1 106 rfl rfl, List.forall_mem_cons.mpr ⟨tb1 108 rfl rfl, List.forall_mem_cons.mpr ⟨tb1 110 rfl rfl, List.forall_mem_cons.mpr ⟨tb1 112 rfl rfl, List.forall_mem_cons.mpr ⟨tb1 114 rfl rfl, List.forall_mem_cons.mpr ⟨tb1 116 rfl rfl, List.forall_mem_cons.mpr ⟨tb1 118 rfl rfl, List.forall_mem_cons.mpr ⟨tb1 120 rfl rfl, List.forall_mem_cons.mpr ⟨tb1 122 rfl rfl, List.forall_mem_cons.mpr ⟨tb1 124 rfl rfl, List.forall_mem_cons.mpr ⟨tb1 126 rfl rfl, List.forall_mem_cons.mpr ⟨tb1 128 rfl rfl, List.forall_mem_cons.mpr ⟨tb1 130 rfl rfl, List.forall_mem_cons.mpr ⟨tb1 132 rfl rfl, List.forall_mem_cons.mpr ⟨tb1 134 rfl rfl, fun _ h => absurd h List.not_mem_nil⟩⟩⟩⟩⟩⟩⟩⟩⟩⟩⟩⟩⟩⟩⟩⟩⟩⟩
theorem inT_X7 : ∀ w ∈ u_ws RX7 TX7 3, w ∈ TB := by
  show ∀ w ∈ [Cond.laysFinal RX7 "CrossedFirst$Sightings" "sighted" "[I", Cond.laysFinal RX7 "CrossedFirst$Sightings" "ranks" "[I", Cond.lays RX7 "CrossedFirst$Sightings" "size" "I"], w ∈ TB
  exact List.forall_mem_cons.mpr ⟨tb2 128 rfl rfl, List.forall_mem_cons.mpr ⟨tb2 130 rfl rfl, List.forall_mem_cons.mpr ⟨tb2 132 rfl rfl, fun _ h => absurd h List.not_mem_nil⟩⟩⟩
theorem inT_X8 : ∀ w ∈ u_ws RX8 TX8 11, w ∈ TB := by
  show ∀ w ∈ [Cond.laysFinal RX8 "CrossedFirst" "letters" "[C", Cond.lays RX8 "CrossedFirst" "length" "I", Cond.laysFinal RX8 "CrossedFirst" "reader" "LCrossedFirst$Reader;", Cond.lays RX8 "CrossedFirst" "laid" "LCrossedFirst$River;", Cond.lays RX8 "CrossedFirst" "spare" "LCrossedFirst$River;", Cond.laysFinal RX8 "CrossedFirst" "race" "LCrossedFirst$Race;", Cond.laysFinal RX8 "CrossedFirst" "changes" "LCrossedFirst$Changes;", Cond.laysFinal RX8 "CrossedFirst" "kept" "LCrossedFirst$Kept;", Cond.laysFinal RX8 "CrossedFirst" "sightings" "LCrossedFirst$Sightings;", Cond.laysFinal RX8 "CrossedFirst" "spans" "LCrossedFirst$Bridge;", Cond.laysFinal RX8 "CrossedFirst" "giving" "LCrossedFirst$Giving;"], w ∈ TB
  exact List.forall_mem_cons.mpr ⟨tb2 170 rfl rfl, List.forall_mem_cons.mpr ⟨tb2 172 rfl rfl, List.forall_mem_cons.mpr ⟨tb2 174 rfl rfl, List.forall_mem_cons.mpr ⟨tb2 176 rfl rfl, List.forall_mem_cons.mpr ⟨tb2 178 rfl rfl, List.forall_mem_cons.mpr ⟨tb2 180 rfl rfl, List.forall_mem_cons.mpr ⟨tb2 182 rfl rfl, List.forall_mem_cons.mpr ⟨tb2 184 rfl rfl, List.forall_mem_cons.mpr ⟨tb2 186 rfl rfl, List.forall_mem_cons.mpr ⟨tb2 188 rfl rfl, List.forall_mem_cons.mpr ⟨tb2 190 rfl rfl, fun _ h => absurd h List.not_mem_nil⟩⟩⟩⟩⟩⟩⟩⟩⟩⟩⟩
theorem inT_X9 : ∀ w ∈ u_ws RX9 TX9 34, w ∈ TB := by
  show ∀ w ∈ [Cond.laysFinal RX9 "CrossedFirstModel" "text" "[B", Cond.lays RX9 "CrossedFirstModel" "typed" "I", Cond.laysFinal RX9 "CrossedFirstModel" "many" "[I", Cond.laysFinal RX9 "CrossedFirstModel" "strokes" "[I", Cond.laysFinal RX9 "CrossedFirstModel" "weight" "[I", Cond.laysFinal RX9 "CrossedFirstModel" "kind" "[I", Cond.laysFinal RX9 "CrossedFirstModel" "begins" "[I", Cond.laysFinal RX9 "CrossedFirstModel" "wide" "[I", Cond.laysFinal RX9 "CrossedFirstModel" "currents" "[I", Cond.laysFinal RX9 "CrossedFirstModel" "currentFrom" "[I", Cond.laysFinal RX9 "CrossedFirstModel" "currentTakes" "[I", Cond.laysFinal RX9 "CrossedFirstModel" "mount" "[I", Cond.laysFinal RX9 "CrossedFirstModel" "rafts" "[I", Cond.laysFinal RX9 "CrossedFirstModel" "raft" "[I", Cond.laysFinal RX9 "CrossedFirstModel" "spoken" "[I", Cond.laysFinal RX9 "CrossedFirstModel" "speakers" "[I", Cond.laysFinal RX9 "CrossedFirstModel" "wants" "[I", Cond.laysFinal RX9 "CrossedFirstModel" "yields" "[I", Cond.lays RX9 "CrossedFirstModel" "at" "I", Cond.lays RX9 "CrossedFirstModel" "isSo" "Z", Cond.laysFinal RX9 "CrossedFirstModel" "now" "[I", Cond.lays RX9 "CrossedFirstModel" "deeds" "I", Cond.lays RX9 "CrossedFirstModel" "kept" "I", Cond.lays RX9 "CrossedFirstModel" "span" "I", Cond.lays RX9 "CrossedFirstModel" "floods" "I", Cond.lays RX9 "CrossedFirstModel" "riverBy" "I", Cond.laysFinal RX9 "CrossedFirstModel" "far" "[I", Cond.laysFinal RX9 "CrossedFirstModel" "landed" "[I", Cond.laysFinal RX9 "CrossedFirstModel" "ranked" "[I", Cond.laysFinal RX9 "CrossedFirstModel" "pairs" "[I", Cond.laysFinal RX9 "CrossedFirstModel" "offs" "[I", Cond.laysFinal RX9 "CrossedFirstModel" "seenOf" "[I", Cond.laysFinal RX9 "CrossedFirstModel" "seenRank" "[I", Cond.lays RX9 "CrossedFirstModel" "seenMany" "I"], w ∈ TB
  exact List.forall_mem_cons.mpr ⟨tb4 97 rfl rfl, List.forall_mem_cons.mpr ⟨tb4 99 rfl rfl, List.forall_mem_cons.mpr ⟨tb4 101 rfl rfl, List.forall_mem_cons.mpr ⟨tb4 103 rfl rfl, List.forall_mem_cons.mpr ⟨tb4 105 rfl rfl, List.forall_mem_cons.mpr ⟨tb4 107 rfl rfl, List.forall_mem_cons.mpr ⟨tb4 109 rfl rfl, List.forall_mem_cons.mpr ⟨tb4 111 rfl rfl, List.forall_mem_cons.mpr ⟨tb4 113 rfl rfl, List.forall_mem_cons.mpr ⟨tb4 115 rfl rfl, List.forall_mem_cons.mpr ⟨tb4 117 rfl rfl, List.forall_mem_cons.mpr ⟨tb4 119 rfl rfl, List.forall_mem_cons.mpr ⟨tb4 121 rfl rfl, List.forall_mem_cons.mpr ⟨tb4 123 rfl rfl, List.forall_mem_cons.mpr ⟨tb4 125 rfl rfl, List.forall_mem_cons.mpr ⟨tb4 127 rfl rfl, List.forall_mem_cons.mpr ⟨tb4 129 rfl rfl, List.forall_mem_cons.mpr ⟨tb4 131 rfl rfl, List.forall_mem_cons.mpr ⟨tb4 133 rfl rfl, List.forall_mem_cons.mpr ⟨tb4 135 rfl rfl, List.forall_mem_cons.mpr ⟨tb4 137 rfl rfl, List.forall_mem_cons.mpr ⟨tb4 139 rfl rfl, List.forall_mem_cons.mpr ⟨tb4 141 rfl rfl, List.forall_mem_cons.mpr ⟨tb4 143 rfl rfl, List.forall_mem_cons.mpr ⟨tb4 145 rfl rfl, List.forall_mem_cons.mpr ⟨tb4 147 rfl rfl, List.forall_mem_cons.mpr ⟨tb4 149 rfl rfl, List.forall_mem_cons.mpr ⟨tb4 151 rfl rfl, List.forall_mem_cons.mpr ⟨tb4 153 rfl rfl, List.forall_mem_cons.mpr ⟨tb4 155 rfl rfl, List.forall_mem_cons.mpr ⟨tb4 157 rfl rfl, List.forall_mem_cons.mpr ⟨tb4 159 rfl rfl, List.forall_mem_cons.mpr ⟨tb4 161 rfl rfl, List.forall_mem_cons.mpr ⟨tb4 163 rfl rfl, fun _ h => absurd h List.not_mem_nil⟩⟩⟩⟩⟩⟩⟩⟩⟩⟩⟩⟩⟩⟩⟩⟩⟩⟩⟩⟩⟩⟩⟩⟩⟩⟩⟩⟩⟩⟩⟩⟩⟩⟩
theorem fl_X8_9 : FL RX8 9 RX8 TX8 11 0 8 := ⟨tb2 159 rfl rfl, Nat.le_of_ble_eq_true rfl, rfl, inT_X8⟩
theorem fl_X8_13 : FL RX8 13 RX8 TX8 11 1 8 := ⟨tb2 160 rfl rfl, Nat.le_of_ble_eq_true rfl, rfl, inT_X8⟩
theorem fp_X8_13 : FP RX8 13 RX8 TX8 11 1 8 tyX8 := ⟨fl_X8_13, tyX8_ok, nmX8, rfl⟩
theorem fl_X8_20 : FL RX8 20 RX8 TX8 11 2 8 := ⟨tb2 161 rfl rfl, Nat.le_of_ble_eq_true rfl, rfl, inT_X8⟩
theorem fl_X8_28 : FL RX8 28 RX8 TX8 11 3 8 := ⟨tb2 162 rfl rfl, Nat.le_of_ble_eq_true rfl, rfl, inT_X8⟩
theorem fp_X8_28 : FP RX8 28 RX8 TX8 11 3 8 tyX8 := ⟨fl_X8_28, tyX8_ok, nmX8, rfl⟩
theorem fl_X8_35 : FL RX8 35 RX8 TX8 11 4 8 := ⟨tb2 163 rfl rfl, Nat.le_of_ble_eq_true rfl, rfl, inT_X8⟩
theorem fp_X8_35 : FP RX8 35 RX8 TX8 11 4 8 tyX8 := ⟨fl_X8_35, tyX8_ok, nmX8, rfl⟩
theorem fl_X8_43 : FL RX8 43 RX8 TX8 11 5 8 := ⟨tb2 164 rfl rfl, Nat.le_of_ble_eq_true rfl, rfl, inT_X8⟩
theorem fl_X8_50 : FL RX8 50 RX8 TX8 11 6 8 := ⟨tb2 165 rfl rfl, Nat.le_of_ble_eq_true rfl, rfl, inT_X8⟩
theorem fl_X8_57 : FL RX8 57 RX8 TX8 11 7 8 := ⟨tb2 166 rfl rfl, Nat.le_of_ble_eq_true rfl, rfl, inT_X8⟩
theorem fl_X8_64 : FL RX8 64 RX8 TX8 11 8 8 := ⟨tb2 167 rfl rfl, Nat.le_of_ble_eq_true rfl, rfl, inT_X8⟩
theorem fl_X8_71 : FL RX8 71 RX8 TX8 11 9 8 := ⟨tb2 168 rfl rfl, Nat.le_of_ble_eq_true rfl, rfl, inT_X8⟩
theorem fl_X8_78 : FL RX8 78 RX8 TX8 11 10 8 := ⟨tb2 169 rfl rfl, Nat.le_of_ble_eq_true rfl, rfl, inT_X8⟩
theorem fl_X8_102 : FL RX8 102 RX6 TX6 18 12 6 := ⟨tb1 90 rfl rfl, Nat.le_of_ble_eq_true rfl, rfl, inT_X6⟩
theorem fp_X8_102 : FP RX8 102 RX6 TX6 18 12 6 tyX6 := ⟨fl_X8_102, tyX6_ok, nmX6, rfl⟩
theorem fl_X8_109 : FL RX8 109 RX6 TX6 18 0 6 := ⟨tb1 51 rfl rfl, Nat.le_of_ble_eq_true rfl, rfl, inT_X6⟩
theorem fl_X8_113 : FL RX8 113 RX6 TX6 18 1 6 := ⟨tb1 54 rfl rfl, Nat.le_of_ble_eq_true rfl, rfl, inT_X6⟩
theorem fl_X8_116 : FL RX8 116 RX6 TX6 18 2 6 := ⟨tb1 57 rfl rfl, Nat.le_of_ble_eq_true rfl, rfl, inT_X6⟩
theorem fl_X8_119 : FL RX8 119 RX6 TX6 18 3 6 := ⟨tb1 63 rfl rfl, Nat.le_of_ble_eq_true rfl, rfl, inT_X6⟩
theorem fl_X8_122 : FL RX8 122 RX6 TX6 18 4 6 := ⟨tb1 68 rfl rfl, Nat.le_of_ble_eq_true rfl, rfl, inT_X6⟩
theorem fl_X8_125 : FL RX8 125 RX6 TX6 18 5 6 := ⟨tb1 71 rfl rfl, Nat.le_of_ble_eq_true rfl, rfl, inT_X6⟩
theorem fl_X8_128 : FL RX8 128 RX6 TX6 18 6 6 := ⟨tb1 74 rfl rfl, Nat.le_of_ble_eq_true rfl, rfl, inT_X6⟩
theorem fl_X8_131 : FL RX8 131 RX6 TX6 18 11 6 := ⟨tb1 85 rfl rfl, Nat.le_of_ble_eq_true rfl, rfl, inT_X6⟩
theorem fl_X8_145 : FL RX8 145 RX4 TX4 15 14 4 := ⟨tb2 47 rfl rfl, Nat.le_of_ble_eq_true rfl, rfl, inT_X4⟩
theorem fp_X8_145 : FP RX8 145 RX4 TX4 15 14 4 tyX4 := ⟨fl_X8_145, tyX4_ok, nmX4, rfl⟩
theorem fl_X8_148 : FL RX8 148 RX6 TX6 18 13 6 := ⟨tb1 93 rfl rfl, Nat.le_of_ble_eq_true rfl, rfl, inT_X6⟩
theorem fp_X8_148 : FP RX8 148 RX6 TX6 18 13 6 tyX6 := ⟨fl_X8_148, tyX6_ok, nmX6, rfl⟩
theorem fl_X8_160 : FL RX8 160 RX4 TX4 15 3 4 := ⟨tb2 33 rfl rfl, Nat.le_of_ble_eq_true rfl, rfl, inT_X4⟩
theorem fl_X8_163 : FL RX8 163 RX4 TX4 15 4 4 := ⟨tb2 35 rfl rfl, Nat.le_of_ble_eq_true rfl, rfl, inT_X4⟩
theorem fl_X8_180 : FL RX8 180 RX1 TX1 4 3 1 := ⟨tb2 91 rfl rfl, Nat.le_of_ble_eq_true rfl, rfl, inT_X1⟩
theorem fp_X8_180 : FP RX8 180 RX1 TX1 4 3 1 tyX1 := ⟨fl_X8_180, tyX1_ok, nmX1, rfl⟩
theorem fl_X8_183 : FL RX8 183 RX4 TX4 15 0 4 := ⟨tb2 26 rfl rfl, Nat.le_of_ble_eq_true rfl, rfl, inT_X4⟩
theorem fl_X8_214 : FL RX8 214 RX2 TX2 1 0 2 := ⟨tb2 155 rfl rfl, Nat.le_of_ble_eq_true rfl, rfl, inT_X2⟩
theorem fl_X8_221 : FL RX8 221 RX6 TX6 18 8 6 := ⟨tb1 80 rfl rfl, Nat.le_of_ble_eq_true rfl, rfl, inT_X6⟩
theorem fl_X8_234 : FL RX8 234 RX7 TX7 3 2 7 := ⟨tb2 127 rfl rfl, Nat.le_of_ble_eq_true rfl, rfl, inT_X7⟩
theorem fp_X8_234 : FP RX8 234 RX7 TX7 3 2 7 tyX7 := ⟨fl_X8_234, tyX7_ok, nmX7, rfl⟩
theorem fl_X8_254 : FL RX8 254 RX3 TX3 3 2 3 := ⟨tb2 110 rfl rfl, Nat.le_of_ble_eq_true rfl, rfl, inT_X3⟩
theorem fp_X8_254 : FP RX8 254 RX3 TX3 3 2 3 tyX3 := ⟨fl_X8_254, tyX3_ok, nmX3, rfl⟩
theorem fl_X8_258 : FL RX8 258 RX6 TX6 18 14 6 := ⟨tb1 95 rfl rfl, Nat.le_of_ble_eq_true rfl, rfl, inT_X6⟩
theorem fp_X8_258 : FP RX8 258 RX6 TX6 18 14 6 tyX6 := ⟨fl_X8_258, tyX6_ok, nmX6, rfl⟩
theorem fl_X8_261 : FL RX8 261 RX6 TX6 18 15 6 := ⟨tb1 97 rfl rfl, Nat.le_of_ble_eq_true rfl, rfl, inT_X6⟩
theorem fp_X8_261 : FP RX8 261 RX6 TX6 18 15 6 tyX6 := ⟨fl_X8_261, tyX6_ok, nmX6, rfl⟩
theorem fl_X8_275 : FL RX8 275 RX4 TX4 15 1 4 := ⟨tb2 29 rfl rfl, Nat.le_of_ble_eq_true rfl, rfl, inT_X4⟩
theorem fl_X8_276 : FL RX8 276 RX6 TX6 18 7 6 := ⟨tb1 78 rfl rfl, Nat.le_of_ble_eq_true rfl, rfl, inT_X6⟩
theorem fl_X8_282 : FL RX8 282 RX4 TX4 15 9 4 := ⟨tb2 41 rfl rfl, Nat.le_of_ble_eq_true rfl, rfl, inT_X4⟩
theorem fp_X8_282 : FP RX8 282 RX4 TX4 15 9 4 tyX4 := ⟨fl_X8_282, tyX4_ok, nmX4, rfl⟩
theorem fl_X0_9 : FL RX0 9 RX0 TX0 2 0 0 := ⟨tb2 141 rfl rfl, Nat.le_of_ble_eq_true rfl, rfl, inT_X0⟩
theorem fl_X0_15 : FL RX0 15 RX0 TX0 2 1 0 := ⟨tb2 142 rfl rfl, Nat.le_of_ble_eq_true rfl, rfl, inT_X0⟩
theorem fl_X0_18 : FL RX0 18 RX6 TX6 18 12 6 := ⟨tb1 88 rfl rfl, Nat.le_of_ble_eq_true rfl, rfl, inT_X6⟩
theorem fp_X0_18 : FP RX0 18 RX6 TX6 18 12 6 tyX6 := ⟨fl_X0_18, tyX6_ok, nmX6, rfl⟩
theorem fl_X0_24 : FL RX0 24 RX4 TX4 15 1 4 := ⟨tb2 28 rfl rfl, Nat.le_of_ble_eq_true rfl, rfl, inT_X4⟩
theorem fl_X0_41 : FL RX0 41 RX4 TX4 15 13 4 := ⟨tb2 45 rfl rfl, Nat.le_of_ble_eq_true rfl, rfl, inT_X4⟩
theorem fp_X0_41 : FP RX0 41 RX4 TX4 15 13 4 tyX4 := ⟨fl_X0_41, tyX4_ok, nmX4, rfl⟩
theorem fl_X0_61 : FL RX0 61 RX6 TX6 18 6 6 := ⟨tb1 73 rfl rfl, Nat.le_of_ble_eq_true rfl, rfl, inT_X6⟩
theorem fl_X1_9 : FL RX1 9 RX1 TX1 4 0 1 := ⟨tb2 87 rfl rfl, Nat.le_of_ble_eq_true rfl, rfl, inT_X1⟩
theorem fl_X1_15 : FL RX1 15 RX1 TX1 4 1 1 := ⟨tb2 88 rfl rfl, Nat.le_of_ble_eq_true rfl, rfl, inT_X1⟩
theorem fl_X1_18 : FL RX1 18 RX1 TX1 4 2 1 := ⟨tb2 89 rfl rfl, Nat.le_of_ble_eq_true rfl, rfl, inT_X1⟩
theorem fl_X1_21 : FL RX1 21 RX1 TX1 4 3 1 := ⟨tb2 90 rfl rfl, Nat.le_of_ble_eq_true rfl, rfl, inT_X1⟩
theorem fp_X1_21 : FP RX1 21 RX1 TX1 4 3 1 tyX1 := ⟨fl_X1_21, tyX1_ok, nmX1, rfl⟩
theorem fl_X1_28 : FL RX1 28 RX6 TX6 18 3 6 := ⟨tb1 62 rfl rfl, Nat.le_of_ble_eq_true rfl, rfl, inT_X6⟩
theorem fl_X1_33 : FL RX1 33 RX6 TX6 18 4 6 := ⟨tb1 67 rfl rfl, Nat.le_of_ble_eq_true rfl, rfl, inT_X6⟩
theorem fl_X2_9 : FL RX2 9 RX2 TX2 1 0 2 := ⟨tb2 154 rfl rfl, Nat.le_of_ble_eq_true rfl, rfl, inT_X2⟩
theorem fl_X2_15 : FL RX2 15 RX6 TX6 18 12 6 := ⟨tb1 87 rfl rfl, Nat.le_of_ble_eq_true rfl, rfl, inT_X6⟩
theorem fp_X2_15 : FP RX2 15 RX6 TX6 18 12 6 tyX6 := ⟨fl_X2_15, tyX6_ok, nmX6, rfl⟩
theorem fl_X2_40 : FL RX2 40 RX6 TX6 18 7 6 := ⟨tb1 77 rfl rfl, Nat.le_of_ble_eq_true rfl, rfl, inT_X6⟩
theorem fl_X3_9 : FL RX3 9 RX3 TX3 3 0 3 := ⟨tb2 107 rfl rfl, Nat.le_of_ble_eq_true rfl, rfl, inT_X3⟩
theorem fl_X3_15 : FL RX3 15 RX3 TX3 3 1 3 := ⟨tb2 108 rfl rfl, Nat.le_of_ble_eq_true rfl, rfl, inT_X3⟩
theorem fl_X3_18 : FL RX3 18 RX3 TX3 3 2 3 := ⟨tb2 109 rfl rfl, Nat.le_of_ble_eq_true rfl, rfl, inT_X3⟩
theorem fp_X3_18 : FP RX3 18 RX3 TX3 3 2 3 tyX3 := ⟨fl_X3_18, tyX3_ok, nmX3, rfl⟩
theorem fl_X3_22 : FL RX3 22 RX6 TX6 18 3 6 := ⟨tb1 61 rfl rfl, Nat.le_of_ble_eq_true rfl, rfl, inT_X6⟩
theorem fl_X3_31 : FL RX3 31 RX6 TX6 18 4 6 := ⟨tb1 66 rfl rfl, Nat.le_of_ble_eq_true rfl, rfl, inT_X6⟩
theorem fl_X4_9 : FL RX4 9 RX4 TX4 15 0 4 := ⟨tb2 25 rfl rfl, Nat.le_of_ble_eq_true rfl, rfl, inT_X4⟩
theorem fl_X4_15 : FL RX4 15 RX4 TX4 15 1 4 := ⟨tb2 27 rfl rfl, Nat.le_of_ble_eq_true rfl, rfl, inT_X4⟩
theorem fl_X4_18 : FL RX4 18 RX4 TX4 15 2 4 := ⟨tb2 30 rfl rfl, Nat.le_of_ble_eq_true rfl, rfl, inT_X4⟩
theorem fl_X4_21 : FL RX4 21 RX4 TX4 15 3 4 := ⟨tb2 31 rfl rfl, Nat.le_of_ble_eq_true rfl, rfl, inT_X4⟩
theorem fl_X4_24 : FL RX4 24 RX4 TX4 15 4 4 := ⟨tb2 34 rfl rfl, Nat.le_of_ble_eq_true rfl, rfl, inT_X4⟩
theorem fl_X4_27 : FL RX4 27 RX4 TX4 15 5 4 := ⟨tb2 36 rfl rfl, Nat.le_of_ble_eq_true rfl, rfl, inT_X4⟩
theorem fl_X4_30 : FL RX4 30 RX4 TX4 15 6 4 := ⟨tb2 37 rfl rfl, Nat.le_of_ble_eq_true rfl, rfl, inT_X4⟩
theorem fp_X4_30 : FP RX4 30 RX4 TX4 15 6 4 tyX4 := ⟨fl_X4_30, tyX4_ok, nmX4, rfl⟩
theorem fl_X4_34 : FL RX4 34 RX6 TX6 18 11 6 := ⟨tb1 83 rfl rfl, Nat.le_of_ble_eq_true rfl, rfl, inT_X6⟩
theorem fl_X4_39 : FL RX4 39 RX4 TX4 15 7 4 := ⟨tb2 38 rfl rfl, Nat.le_of_ble_eq_true rfl, rfl, inT_X4⟩
theorem fp_X4_39 : FP RX4 39 RX4 TX4 15 7 4 tyX4 := ⟨fl_X4_39, tyX4_ok, nmX4, rfl⟩
theorem fl_X4_40 : FL RX4 40 RX6 TX6 18 13 6 := ⟨tb1 91 rfl rfl, Nat.le_of_ble_eq_true rfl, rfl, inT_X6⟩
theorem fp_X4_40 : FP RX4 40 RX6 TX6 18 13 6 tyX6 := ⟨fl_X4_40, tyX6_ok, nmX6, rfl⟩
theorem fl_X4_44 : FL RX4 44 RX4 TX4 15 8 4 := ⟨tb2 39 rfl rfl, Nat.le_of_ble_eq_true rfl, rfl, inT_X4⟩
theorem fp_X4_44 : FP RX4 44 RX4 TX4 15 8 4 tyX4 := ⟨fl_X4_44, tyX4_ok, nmX4, rfl⟩
theorem fl_X4_45 : FL RX4 45 RX4 TX4 15 9 4 := ⟨tb2 40 rfl rfl, Nat.le_of_ble_eq_true rfl, rfl, inT_X4⟩
theorem fp_X4_45 : FP RX4 45 RX4 TX4 15 9 4 tyX4 := ⟨fl_X4_45, tyX4_ok, nmX4, rfl⟩
theorem fl_X4_48 : FL RX4 48 RX6 TX6 18 3 6 := ⟨tb1 60 rfl rfl, Nat.le_of_ble_eq_true rfl, rfl, inT_X6⟩
theorem fl_X4_55 : FL RX4 55 RX6 TX6 18 4 6 := ⟨tb1 65 rfl rfl, Nat.le_of_ble_eq_true rfl, rfl, inT_X6⟩
theorem fl_X4_64 : FL RX4 64 RX6 TX6 18 12 6 := ⟨tb1 89 rfl rfl, Nat.le_of_ble_eq_true rfl, rfl, inT_X6⟩
theorem fp_X4_64 : FP RX4 64 RX6 TX6 18 12 6 tyX6 := ⟨fl_X4_64, tyX6_ok, nmX6, rfl⟩
theorem fl_X4_83 : FL RX4 83 RX6 TX6 18 5 6 := ⟨tb1 70 rfl rfl, Nat.le_of_ble_eq_true rfl, rfl, inT_X6⟩
theorem fl_X4_96 : FL RX4 96 RX4 TX4 15 10 4 := ⟨tb2 42 rfl rfl, Nat.le_of_ble_eq_true rfl, rfl, inT_X4⟩
theorem fp_X4_96 : FP RX4 96 RX4 TX4 15 10 4 tyX4 := ⟨fl_X4_96, tyX4_ok, nmX4, rfl⟩
theorem fl_X4_99 : FL RX4 99 RX6 TX6 18 1 6 := ⟨tb1 55 rfl rfl, Nat.le_of_ble_eq_true rfl, rfl, inT_X6⟩
theorem fl_X4_102 : FL RX4 102 RX6 TX6 18 0 6 := ⟨tb1 52 rfl rfl, Nat.le_of_ble_eq_true rfl, rfl, inT_X6⟩
theorem fl_X4_105 : FL RX4 105 RX4 TX4 15 11 4 := ⟨tb2 43 rfl rfl, Nat.le_of_ble_eq_true rfl, rfl, inT_X4⟩
theorem fp_X4_105 : FP RX4 105 RX4 TX4 15 11 4 tyX4 := ⟨fl_X4_105, tyX4_ok, nmX4, rfl⟩
theorem fl_X4_108 : FL RX4 108 RX6 TX6 18 2 6 := ⟨tb1 58 rfl rfl, Nat.le_of_ble_eq_true rfl, rfl, inT_X6⟩
theorem fl_X4_111 : FL RX4 111 RX4 TX4 15 12 4 := ⟨tb2 44 rfl rfl, Nat.le_of_ble_eq_true rfl, rfl, inT_X4⟩
theorem fp_X4_111 : FP RX4 111 RX4 TX4 15 12 4 tyX4 := ⟨fl_X4_111, tyX4_ok, nmX4, rfl⟩
theorem fl_X4_114 : FL RX4 114 RX4 TX4 15 13 4 := ⟨tb2 46 rfl rfl, Nat.le_of_ble_eq_true rfl, rfl, inT_X4⟩
theorem fp_X4_114 : FP RX4 114 RX4 TX4 15 13 4 tyX4 := ⟨fl_X4_114, tyX4_ok, nmX4, rfl⟩
theorem fl_X4_126 : FL RX4 126 RX4 TX4 15 14 4 := ⟨tb2 48 rfl rfl, Nat.le_of_ble_eq_true rfl, rfl, inT_X4⟩
theorem fp_X4_126 : FP RX4 126 RX4 TX4 15 14 4 tyX4 := ⟨fl_X4_126, tyX4_ok, nmX4, rfl⟩
theorem fl_X4_142 : FL RX4 142 RX6 TX6 18 6 6 := ⟨tb1 75 rfl rfl, Nat.le_of_ble_eq_true rfl, rfl, inT_X6⟩
theorem fl_X5_9 : FL RX5 9 RX5 TX5 2 0 5 := ⟨tb1 32 rfl rfl, Nat.le_of_ble_eq_true rfl, rfl, inT_X5⟩
theorem fl_X5_15 : FL RX5 15 RX5 TX5 2 1 5 := ⟨tb1 33 rfl rfl, Nat.le_of_ble_eq_true rfl, rfl, inT_X5⟩
theorem fp_X5_15 : FP RX5 15 RX5 TX5 2 1 5 tyX5 := ⟨fl_X5_15, tyX5_ok, nmX5, rfl⟩
theorem fl_X6_9 : FL RX6 9 RX6 TX6 18 0 6 := ⟨tb1 50 rfl rfl, Nat.le_of_ble_eq_true rfl, rfl, inT_X6⟩
theorem fl_X6_15 : FL RX6 15 RX6 TX6 18 1 6 := ⟨tb1 53 rfl rfl, Nat.le_of_ble_eq_true rfl, rfl, inT_X6⟩
theorem fl_X6_18 : FL RX6 18 RX6 TX6 18 2 6 := ⟨tb1 56 rfl rfl, Nat.le_of_ble_eq_true rfl, rfl, inT_X6⟩
theorem fl_X6_21 : FL RX6 21 RX6 TX6 18 3 6 := ⟨tb1 59 rfl rfl, Nat.le_of_ble_eq_true rfl, rfl, inT_X6⟩
theorem fl_X6_24 : FL RX6 24 RX6 TX6 18 4 6 := ⟨tb1 64 rfl rfl, Nat.le_of_ble_eq_true rfl, rfl, inT_X6⟩
theorem fl_X6_27 : FL RX6 27 RX6 TX6 18 5 6 := ⟨tb1 69 rfl rfl, Nat.le_of_ble_eq_true rfl, rfl, inT_X6⟩
theorem fl_X6_30 : FL RX6 30 RX6 TX6 18 6 6 := ⟨tb1 72 rfl rfl, Nat.le_of_ble_eq_true rfl, rfl, inT_X6⟩
theorem fl_X6_33 : FL RX6 33 RX6 TX6 18 7 6 := ⟨tb1 76 rfl rfl, Nat.le_of_ble_eq_true rfl, rfl, inT_X6⟩
theorem fl_X6_36 : FL RX6 36 RX6 TX6 18 8 6 := ⟨tb1 79 rfl rfl, Nat.le_of_ble_eq_true rfl, rfl, inT_X6⟩
theorem fl_X6_39 : FL RX6 39 RX6 TX6 18 9 6 := ⟨tb1 81 rfl rfl, Nat.le_of_ble_eq_true rfl, rfl, inT_X6⟩
theorem fl_X6_42 : FL RX6 42 RX6 TX6 18 10 6 := ⟨tb1 82 rfl rfl, Nat.le_of_ble_eq_true rfl, rfl, inT_X6⟩
theorem fl_X6_45 : FL RX6 45 RX6 TX6 18 11 6 := ⟨tb1 84 rfl rfl, Nat.le_of_ble_eq_true rfl, rfl, inT_X6⟩
theorem fl_X6_48 : FL RX6 48 RX6 TX6 18 12 6 := ⟨tb1 86 rfl rfl, Nat.le_of_ble_eq_true rfl, rfl, inT_X6⟩
theorem fp_X6_48 : FP RX6 48 RX6 TX6 18 12 6 tyX6 := ⟨fl_X6_48, tyX6_ok, nmX6, rfl⟩
theorem fl_X6_52 : FL RX6 52 RX6 TX6 18 13 6 := ⟨tb1 92 rfl rfl, Nat.le_of_ble_eq_true rfl, rfl, inT_X6⟩
theorem fp_X6_52 : FP RX6 52 RX6 TX6 18 13 6 tyX6 := ⟨fl_X6_52, tyX6_ok, nmX6, rfl⟩
theorem fl_X6_55 : FL RX6 55 RX6 TX6 18 14 6 := ⟨tb1 94 rfl rfl, Nat.le_of_ble_eq_true rfl, rfl, inT_X6⟩
theorem fp_X6_55 : FP RX6 55 RX6 TX6 18 14 6 tyX6 := ⟨fl_X6_55, tyX6_ok, nmX6, rfl⟩
theorem fl_X6_58 : FL RX6 58 RX6 TX6 18 15 6 := ⟨tb1 96 rfl rfl, Nat.le_of_ble_eq_true rfl, rfl, inT_X6⟩
theorem fp_X6_58 : FP RX6 58 RX6 TX6 18 15 6 tyX6 := ⟨fl_X6_58, tyX6_ok, nmX6, rfl⟩
theorem fl_X6_61 : FL RX6 61 RX6 TX6 18 16 6 := ⟨tb1 98 rfl rfl, Nat.le_of_ble_eq_true rfl, rfl, inT_X6⟩
theorem fp_X6_61 : FP RX6 61 RX6 TX6 18 16 6 tyX6 := ⟨fl_X6_61, tyX6_ok, nmX6, rfl⟩
theorem fl_X6_64 : FL RX6 64 RX6 TX6 18 17 6 := ⟨tb1 99 rfl rfl, Nat.le_of_ble_eq_true rfl, rfl, inT_X6⟩
theorem fp_X6_64 : FP RX6 64 RX6 TX6 18 17 6 tyX6 := ⟨fl_X6_64, tyX6_ok, nmX6, rfl⟩
theorem fl_X7_9 : FL RX7 9 RX7 TX7 3 0 7 := ⟨tb2 124 rfl rfl, Nat.le_of_ble_eq_true rfl, rfl, inT_X7⟩
theorem fl_X7_15 : FL RX7 15 RX7 TX7 3 1 7 := ⟨tb2 125 rfl rfl, Nat.le_of_ble_eq_true rfl, rfl, inT_X7⟩
theorem fl_X7_18 : FL RX7 18 RX7 TX7 3 2 7 := ⟨tb2 126 rfl rfl, Nat.le_of_ble_eq_true rfl, rfl, inT_X7⟩
theorem fp_X7_18 : FP RX7 18 RX7 TX7 3 2 7 tyX7 := ⟨fl_X7_18, tyX7_ok, nmX7, rfl⟩
theorem fl_X7_22 : FL RX7 22 RX4 TX4 15 3 4 := ⟨tb2 32 rfl rfl, Nat.le_of_ble_eq_true rfl, rfl, inT_X4⟩
theorem fl_X9_7 : FL RX9 7 RX9 TX9 34 0 9 := ⟨tb4 63 rfl rfl, Nat.le_of_ble_eq_true rfl, rfl, inT_X9⟩
theorem fl_X9_13 : FL RX9 13 RX9 TX9 34 2 9 := ⟨tb4 65 rfl rfl, Nat.le_of_ble_eq_true rfl, rfl, inT_X9⟩
theorem fl_X9_17 : FL RX9 17 RX9 TX9 34 3 9 := ⟨tb4 66 rfl rfl, Nat.le_of_ble_eq_true rfl, rfl, inT_X9⟩
theorem fl_X9_20 : FL RX9 20 RX9 TX9 34 4 9 := ⟨tb4 67 rfl rfl, Nat.le_of_ble_eq_true rfl, rfl, inT_X9⟩
theorem fl_X9_23 : FL RX9 23 RX9 TX9 34 5 9 := ⟨tb4 68 rfl rfl, Nat.le_of_ble_eq_true rfl, rfl, inT_X9⟩
theorem fl_X9_26 : FL RX9 26 RX9 TX9 34 6 9 := ⟨tb4 69 rfl rfl, Nat.le_of_ble_eq_true rfl, rfl, inT_X9⟩
theorem fl_X9_29 : FL RX9 29 RX9 TX9 34 7 9 := ⟨tb4 70 rfl rfl, Nat.le_of_ble_eq_true rfl, rfl, inT_X9⟩
theorem fl_X9_32 : FL RX9 32 RX9 TX9 34 8 9 := ⟨tb4 71 rfl rfl, Nat.le_of_ble_eq_true rfl, rfl, inT_X9⟩
theorem fl_X9_35 : FL RX9 35 RX9 TX9 34 9 9 := ⟨tb4 72 rfl rfl, Nat.le_of_ble_eq_true rfl, rfl, inT_X9⟩
theorem fl_X9_38 : FL RX9 38 RX9 TX9 34 10 9 := ⟨tb4 73 rfl rfl, Nat.le_of_ble_eq_true rfl, rfl, inT_X9⟩
theorem fl_X9_41 : FL RX9 41 RX9 TX9 34 11 9 := ⟨tb4 74 rfl rfl, Nat.le_of_ble_eq_true rfl, rfl, inT_X9⟩
theorem fl_X9_44 : FL RX9 44 RX9 TX9 34 12 9 := ⟨tb4 75 rfl rfl, Nat.le_of_ble_eq_true rfl, rfl, inT_X9⟩
theorem fl_X9_47 : FL RX9 47 RX9 TX9 34 13 9 := ⟨tb4 76 rfl rfl, Nat.le_of_ble_eq_true rfl, rfl, inT_X9⟩
theorem fl_X9_50 : FL RX9 50 RX9 TX9 34 14 9 := ⟨tb4 77 rfl rfl, Nat.le_of_ble_eq_true rfl, rfl, inT_X9⟩
theorem fl_X9_53 : FL RX9 53 RX9 TX9 34 15 9 := ⟨tb4 78 rfl rfl, Nat.le_of_ble_eq_true rfl, rfl, inT_X9⟩
theorem fl_X9_56 : FL RX9 56 RX9 TX9 34 16 9 := ⟨tb4 79 rfl rfl, Nat.le_of_ble_eq_true rfl, rfl, inT_X9⟩
theorem fl_X9_59 : FL RX9 59 RX9 TX9 34 17 9 := ⟨tb4 80 rfl rfl, Nat.le_of_ble_eq_true rfl, rfl, inT_X9⟩
theorem fl_X9_62 : FL RX9 62 RX9 TX9 34 20 9 := ⟨tb4 83 rfl rfl, Nat.le_of_ble_eq_true rfl, rfl, inT_X9⟩
theorem fl_X9_65 : FL RX9 65 RX9 TX9 34 26 9 := ⟨tb4 89 rfl rfl, Nat.le_of_ble_eq_true rfl, rfl, inT_X9⟩
theorem fl_X9_68 : FL RX9 68 RX9 TX9 34 27 9 := ⟨tb4 90 rfl rfl, Nat.le_of_ble_eq_true rfl, rfl, inT_X9⟩
theorem fl_X9_71 : FL RX9 71 RX9 TX9 34 28 9 := ⟨tb4 91 rfl rfl, Nat.le_of_ble_eq_true rfl, rfl, inT_X9⟩
theorem fl_X9_74 : FL RX9 74 RX9 TX9 34 29 9 := ⟨tb4 92 rfl rfl, Nat.le_of_ble_eq_true rfl, rfl, inT_X9⟩
theorem fl_X9_77 : FL RX9 77 RX9 TX9 34 30 9 := ⟨tb4 93 rfl rfl, Nat.le_of_ble_eq_true rfl, rfl, inT_X9⟩
theorem fl_X9_80 : FL RX9 80 RX9 TX9 34 31 9 := ⟨tb4 94 rfl rfl, Nat.le_of_ble_eq_true rfl, rfl, inT_X9⟩
theorem fl_X9_83 : FL RX9 83 RX9 TX9 34 32 9 := ⟨tb4 95 rfl rfl, Nat.le_of_ble_eq_true rfl, rfl, inT_X9⟩
theorem fl_X9_97 : FL RX9 97 RX9 TX9 34 1 9 := ⟨tb4 64 rfl rfl, Nat.le_of_ble_eq_true rfl, rfl, inT_X9⟩
theorem fp_X9_97 : FP RX9 97 RX9 TX9 34 1 9 tyX9 := ⟨fl_X9_97, tyX9_ok, nmX9, rfl⟩
theorem fl_X9_101 : FL RX9 101 RX9 TX9 34 18 9 := ⟨tb4 81 rfl rfl, Nat.le_of_ble_eq_true rfl, rfl, inT_X9⟩
theorem fp_X9_101 : FP RX9 101 RX9 TX9 34 18 9 tyX9 := ⟨fl_X9_101, tyX9_ok, nmX9, rfl⟩
theorem fl_X9_108 : FL RX9 108 RX9 TX9 34 19 9 := ⟨tb4 82 rfl rfl, Nat.le_of_ble_eq_true rfl, rfl, inT_X9⟩
theorem fp_X9_108 : FP RX9 108 RX9 TX9 34 19 9 tyX9 := ⟨fl_X9_108, tyX9_ok, nmX9, rfl⟩
theorem fl_X9_143 : FL RX9 143 RX9 TX9 34 21 9 := ⟨tb4 84 rfl rfl, Nat.le_of_ble_eq_true rfl, rfl, inT_X9⟩
theorem fp_X9_143 : FP RX9 143 RX9 TX9 34 21 9 tyX9 := ⟨fl_X9_143, tyX9_ok, nmX9, rfl⟩
theorem fl_X9_146 : FL RX9 146 RX9 TX9 34 22 9 := ⟨tb4 85 rfl rfl, Nat.le_of_ble_eq_true rfl, rfl, inT_X9⟩
theorem fp_X9_146 : FP RX9 146 RX9 TX9 34 22 9 tyX9 := ⟨fl_X9_146, tyX9_ok, nmX9, rfl⟩
theorem fl_X9_149 : FL RX9 149 RX9 TX9 34 33 9 := ⟨tb4 96 rfl rfl, Nat.le_of_ble_eq_true rfl, rfl, inT_X9⟩
theorem fp_X9_149 : FP RX9 149 RX9 TX9 34 33 9 tyX9 := ⟨fl_X9_149, tyX9_ok, nmX9, rfl⟩
theorem fl_X9_165 : FL RX9 165 RX9 TX9 34 25 9 := ⟨tb4 88 rfl rfl, Nat.le_of_ble_eq_true rfl, rfl, inT_X9⟩
theorem fp_X9_165 : FP RX9 165 RX9 TX9 34 25 9 tyX9 := ⟨fl_X9_165, tyX9_ok, nmX9, rfl⟩
theorem fl_X9_182 : FL RX9 182 RX9 TX9 34 24 9 := ⟨tb4 87 rfl rfl, Nat.le_of_ble_eq_true rfl, rfl, inT_X9⟩
theorem fp_X9_182 : FP RX9 182 RX9 TX9 34 24 9 tyX9 := ⟨fl_X9_182, tyX9_ok, nmX9, rfl⟩
theorem fl_X9_193 : FL RX9 193 RX9 TX9 34 23 9 := ⟨tb4 86 rfl rfl, Nat.le_of_ble_eq_true rfl, rfl, inT_X9⟩
theorem fp_X9_193 : FP RX9 193 RX9 TX9 34 23 9 tyX9 := ⟨fl_X9_193, tyX9_ok, nmX9, rfl⟩
theorem cl_X8_82 : CS RX8 82 yX8_within cX8_within 3 (some .boolean) 3 := ⟨⟨tb2 197 rfl rfl, tb1 204 rfl rfl, tb1 1 rfl rfl, ⟨by decide +kernel, by decide +kernel⟩, by decide +kernel⟩, tb1 203 rfl rfl⟩
theorem cl_X8_86 : CV RX8 86 yX5_readText cX5_readText 6 (some .int) 3 := ⟨⟨tb1 183 rfl rfl, tb1 186 rfl rfl, tb1 2 rfl rfl, ⟨by decide +kernel, by decide +kernel⟩, by decide +kernel⟩, tb1 184 rfl rfl, tb1 185 rfl rfl⟩
theorem cl_X8_90 : CV RX8 90 yX6_canBeLaid cX6_canBeLaid 3 (some .boolean) 0 := ⟨⟨tb2 210 rfl rfl, tb2 213 rfl rfl, tb1 3 rfl rfl, ⟨by decide +kernel, by decide +kernel⟩, by decide +kernel⟩, tb2 211 rfl rfl, tb2 212 rfl rfl⟩
theorem cl_X8_94 : CV RX8 94 yX6_settle cX6_settle 2 none 0 := ⟨⟨tb2 10 rfl rfl, tb2 13 rfl rfl, tb1 3 rfl rfl, ⟨by decide +kernel, by decide +kernel⟩, by decide +kernel⟩, tb2 11 rfl rfl, tb2 12 rfl rfl⟩
theorem cl_X8_97 : CV RX8 97 yX1_clear cX1_clear 1 none 0 := ⟨⟨tb2 214 rfl rfl, tb2 217 rfl rfl, tb1 9 rfl rfl, ⟨by decide +kernel, by decide +kernel⟩, by decide +kernel⟩, tb2 215 rfl rfl, tb2 216 rfl rfl⟩
theorem cl_X8_100 : CV RX8 100 yX3_clear cX3_clear 1 none 0 := ⟨⟨tb2 218 rfl rfl, tb2 221 rfl rfl, tb1 10 rfl rfl, ⟨by decide +kernel, by decide +kernel⟩, by decide +kernel⟩, tb2 219 rfl rfl, tb2 220 rfl rfl⟩
theorem cl_X8_101 : CV RX8 101 yX7_clear cX7_clear 1 none 0 := ⟨⟨tb2 222 rfl rfl, tb2 225 rfl rfl, tb1 11 rfl rfl, ⟨by decide +kernel, by decide +kernel⟩, by decide +kernel⟩, tb2 223 rfl rfl, tb2 224 rfl rfl⟩
theorem cl_X8_105 : CV RX8 105 yX6_has cX6_has 2 (some .boolean) 1 := ⟨⟨tb2 230 rfl rfl, tb1 229 rfl rfl, tb1 3 rfl rfl, ⟨by decide +kernel, by decide +kernel⟩, by decide +kernel⟩, tb1 227 rfl rfl, tb1 228 rfl rfl⟩
theorem cl_X8_134 : CV RX8 134 yX4_prepare cX4_prepare 2 none 1 := ⟨⟨tb2 239 rfl rfl, tb3 2 rfl rfl, tb1 8 rfl rfl, ⟨by decide +kernel, by decide +kernel⟩, by decide +kernel⟩, tb3 0 rfl rfl, tb3 1 rfl rfl⟩
theorem cl_X8_137 : CV RX8 137 yX4_mount cX4_mount 3 none 1 := ⟨⟨tb3 6 rfl rfl, tb3 9 rfl rfl, tb1 8 rfl rfl, ⟨by decide +kernel, by decide +kernel⟩, by decide +kernel⟩, tb3 7 rfl rfl, tb3 8 rfl rfl⟩
theorem cl_X8_141 : CV RX8 141 yX4_moveUntil cX4_moveUntil 3 (some .int) 1 := ⟨⟨tb3 29 rfl rfl, tb3 32 rfl rfl, tb1 8 rfl rfl, ⟨by decide +kernel, by decide +kernel⟩, by decide +kernel⟩, tb3 30 rfl rfl, tb3 31 rfl rfl⟩
theorem lm_X8_151 : LM RX8 151 Lib.Math.min.name Lib.Math.min.code 2 := ⟨tb3 42 rfl rfl, tb3 27 rfl rfl, tb1 16 rfl rfl, tb3 28 rfl rfl⟩
theorem cl_X8_157 : CV RX8 157 yX8_raceAsItIs cX8_raceAsItIs 1 none 0 := ⟨⟨tb3 51 rfl rfl, tb3 54 rfl rfl, tb1 1 rfl rfl, ⟨by decide +kernel, by decide +kernel⟩, by decide +kernel⟩, tb3 53 rfl rfl, tb0 9 rfl rfl⟩
theorem cl_X8_166 : CV RX8 166 yX1_note cX1_note 3 none 2 := ⟨⟨tb3 77 rfl rfl, tb3 80 rfl rfl, tb1 9 rfl rfl, ⟨by decide +kernel, by decide +kernel⟩, by decide +kernel⟩, tb3 78 rfl rfl, tb3 79 rfl rfl⟩
theorem cl_X8_170 : CV RX8 170 yX6_isRidden cX6_isRidden 3 (some .boolean) 1 := ⟨⟨tb3 90 rfl rfl, tb3 93 rfl rfl, tb1 3 rfl rfl, ⟨by decide +kernel, by decide +kernel⟩, by decide +kernel⟩, tb3 91 rfl rfl, tb3 92 rfl rfl⟩
theorem cl_X8_173 : CV RX8 173 yX8_changeCarrier cX8_changeCarrier 4 (some .int) 2 := ⟨⟨tb3 94 rfl rfl, tb3 97 rfl rfl, tb1 1 rfl rfl, ⟨by decide +kernel, by decide +kernel⟩, by decide +kernel⟩, tb3 96 rfl rfl, tb0 13 rfl rfl⟩
theorem cl_X8_176 : CV RX8 176 yX1_takeBack cX1_takeBack 2 (some .boolean) 1 := ⟨⟨tb3 106 rfl rfl, tb3 109 rfl rfl, tb1 9 rfl rfl, ⟨by decide +kernel, by decide +kernel⟩, by decide +kernel⟩, tb3 107 rfl rfl, tb3 108 rfl rfl⟩
theorem cl_X8_184 : CV RX8 184 yX4_run cX4_run 4 none 0 := ⟨⟨tb3 55 rfl rfl, tb3 58 rfl rfl, tb1 8 rfl rfl, ⟨by decide +kernel, by decide +kernel⟩, by decide +kernel⟩, tb3 56 rfl rfl, tb3 57 rfl rfl⟩
theorem cl_X8_187 : CV RX8 187 yX8_rankRidingOn cX8_rankRidingOn 3 (some .int) 2 := ⟨⟨tb3 119 rfl rfl, tb3 122 rfl rfl, tb1 1 rfl rfl, ⟨by decide +kernel, by decide +kernel⟩, by decide +kernel⟩, tb3 121 rfl rfl, tb0 14 rfl rfl⟩
theorem cl_X8_190 : CV RX8 190 yX8_lightOnes cX8_lightOnes 4 (some .int) 1 := ⟨⟨tb3 127 rfl rfl, tb3 130 rfl rfl, tb1 1 rfl rfl, ⟨by decide +kernel, by decide +kernel⟩, by decide +kernel⟩, tb3 129 rfl rfl, tb0 15 rfl rfl⟩
theorem cl_X8_193 : CV RX8 193 yX8_bearersOf cX8_bearersOf 4 (some .int) 1 := ⟨⟨tb3 131 rfl rfl, tb3 134 rfl rfl, tb1 1 rfl rfl, ⟨by decide +kernel, by decide +kernel⟩, by decide +kernel⟩, tb3 133 rfl rfl, tb0 16 rfl rfl⟩
theorem cl_X8_196 : CV RX8 196 yX0_span cX0_span 4 none 2 := ⟨⟨tb3 139 rfl rfl, tb3 142 rfl rfl, tb1 12 rfl rfl, ⟨by decide +kernel, by decide +kernel⟩, by decide +kernel⟩, tb3 140 rfl rfl, tb3 141 rfl rfl⟩
theorem cl_X8_200 : CV RX8 200 yX0_firstBits cX0_firstBits 3 (some .int) 0 := ⟨⟨tb3 159 rfl rfl, tb3 162 rfl rfl, tb1 12 rfl rfl, ⟨by decide +kernel, by decide +kernel⟩, by decide +kernel⟩, tb3 160 rfl rfl, tb3 161 rfl rfl⟩
theorem cl_X8_204 : CV RX8 204 yX0_widthsOf cX0_widthsOf 4 (some .int) 1 := ⟨⟨tb3 163 rfl rfl, tb3 166 rfl rfl, tb1 12 rfl rfl, ⟨by decide +kernel, by decide +kernel⟩, by decide +kernel⟩, tb3 164 rfl rfl, tb3 165 rfl rfl⟩
theorem cl_X8_207 : CV RX8 207 yX8_wouldRather cX8_wouldRather 4 (some .boolean) 2 := ⟨⟨tb3 171 rfl rfl, tb3 174 rfl rfl, tb1 1 rfl rfl, ⟨by decide +kernel, by decide +kernel⟩, by decide +kernel⟩, tb3 173 rfl rfl, tb0 19 rfl rfl⟩
theorem cl_X8_211 : CV RX8 211 yX2_weigh cX2_weigh 7 none 1 := ⟨⟨tb3 182 rfl rfl, tb3 185 rfl rfl, tb1 13 rfl rfl, ⟨by decide +kernel, by decide +kernel⟩, by decide +kernel⟩, tb3 183 rfl rfl, tb3 184 rfl rfl⟩
theorem cl_X8_217 : CV RX8 217 yX2_holder cX2_holder 6 (some .int) 2 := ⟨⟨tb3 197 rfl rfl, tb3 200 rfl rfl, tb1 13 rfl rfl, ⟨by decide +kernel, by decide +kernel⟩, by decide +kernel⟩, tb3 198 rfl rfl, tb3 199 rfl rfl⟩
theorem cl_X8_224 : CV RX8 224 yX8_chancesOfFirst cX8_chancesOfFirst 8 (some .int) 3 := ⟨⟨tb3 213 rfl rfl, tb3 216 rfl rfl, tb1 1 rfl rfl, ⟨by decide +kernel, by decide +kernel⟩, by decide +kernel⟩, tb3 215 rfl rfl, tb0 21 rfl rfl⟩
theorem cl_X8_228 : CS RX8 228 yX8_commonDivisor cX8_commonDivisor 6 (some .int) 2 := ⟨⟨tb3 217 rfl rfl, tb3 219 rfl rfl, tb1 1 rfl rfl, ⟨by decide +kernel, by decide +kernel⟩, by decide +kernel⟩, tb3 218 rfl rfl⟩
theorem cl_X8_231 : CV RX8 231 yX7_add cX7_add 3 (some .boolean) 2 := ⟨⟨tb3 224 rfl rfl, tb3 227 rfl rfl, tb1 11 rfl rfl, ⟨by decide +kernel, by decide +kernel⟩, by decide +kernel⟩, tb3 225 rfl rfl, tb3 226 rfl rfl⟩
theorem cl_X8_235 : CV RX8 235 yX4_unseatAll cX4_unseatAll 2 none 0 := ⟨⟨tb3 236 rfl rfl, tb3 239 rfl rfl, tb1 8 rfl rfl, ⟨by decide +kernel, by decide +kernel⟩, by decide +kernel⟩, tb3 237 rfl rfl, tb3 238 rfl rfl⟩
theorem cl_X8_238 : CV RX8 238 yX8_explains cX8_explains 3 (some .boolean) 2 := ⟨⟨tb4 0 rfl rfl, tb4 3 rfl rfl, tb1 1 rfl rfl, ⟨by decide +kernel, by decide +kernel⟩, by decide +kernel⟩, tb4 2 rfl rfl, tb0 22 rfl rfl⟩
theorem cl_X8_241 : CV RX8 241 yX7_agreeWith cX7_agreeWith 3 (some .boolean) 1 := ⟨⟨tb4 4 rfl rfl, tb4 7 rfl rfl, tb1 11 rfl rfl, ⟨by decide +kernel, by decide +kernel⟩, by decide +kernel⟩, tb4 5 rfl rfl, tb4 6 rfl rfl⟩
theorem cl_X8_245 : CV RX8 245 yX4_drawFlow cX4_drawFlow 5 none 1 := ⟨⟨tb4 12 rfl rfl, tb4 15 rfl rfl, tb1 8 rfl rfl, ⟨by decide +kernel, by decide +kernel⟩, by decide +kernel⟩, tb4 13 rfl rfl, tb4 14 rfl rfl⟩
theorem cl_X8_248 : CV RX8 248 yX4_lastLanding cX4_lastLanding 3 (some .int) 0 := ⟨⟨tb4 20 rfl rfl, tb4 23 rfl rfl, tb1 8 rfl rfl, ⟨by decide +kernel, by decide +kernel⟩, by decide +kernel⟩, tb4 21 rfl rfl, tb4 22 rfl rfl⟩
theorem cl_X8_251 : CV RX8 251 yX3_push cX3_push 2 (some .boolean) 1 := ⟨⟨tb4 28 rfl rfl, tb4 31 rfl rfl, tb1 10 rfl rfl, ⟨by decide +kernel, by decide +kernel⟩, by decide +kernel⟩, tb4 29 rfl rfl, tb4 30 rfl rfl⟩
theorem cl_X8_255 : CV RX8 255 yX3_pop cX3_pop 2 (some .boolean) 1 := ⟨⟨tb4 37 rfl rfl, tb4 40 rfl rfl, tb1 10 rfl rfl, ⟨by decide +kernel, by decide +kernel⟩, by decide +kernel⟩, tb4 38 rfl rfl, tb4 39 rfl rfl⟩
theorem cl_X8_264 : CV RX8 264 yX6_riders cX6_riders 3 (some .int) 0 := ⟨⟨tb4 45 rfl rfl, tb4 48 rfl rfl, tb1 3 rfl rfl, ⟨by decide +kernel, by decide +kernel⟩, by decide +kernel⟩, tb4 46 rfl rfl, tb4 47 rfl rfl⟩
theorem lm_X8_279 : LM RX8 279 Lib.Math.abs.name Lib.Math.abs.code 1 := ⟨tb3 175 rfl rfl, tb3 176 rfl rfl, tb1 16 rfl rfl, tb3 177 rfl rfl⟩
theorem cl_X0_29 : CV RX0 29 yX0_crossWidest cX0_crossWidest 8 none 3 := ⟨⟨tb3 143 rfl rfl, tb3 146 rfl rfl, tb1 12 rfl rfl, ⟨by decide +kernel, by decide +kernel⟩, by decide +kernel⟩, tb3 145 rfl rfl, tb0 17 rfl rfl⟩
theorem cl_X0_33 : CV RX0 33 yX4_firstRiderOrSelf cX4_firstRiderOrSelf 4 (some .int) 1 := ⟨⟨tb3 155 rfl rfl, tb3 158 rfl rfl, tb1 8 rfl rfl, ⟨by decide +kernel, by decide +kernel⟩, by decide +kernel⟩, tb3 156 rfl rfl, tb3 157 rfl rfl⟩
theorem cl_X0_37 : CV RX0 37 yX4_mount cX4_mount 3 none 1 := ⟨⟨tb3 147 rfl rfl, tb3 9 rfl rfl, tb1 8 rfl rfl, ⟨by decide +kernel, by decide +kernel⟩, by decide +kernel⟩, tb3 7 rfl rfl, tb3 8 rfl rfl⟩
theorem cl_X0_44 : CV RX0 44 yX4_yardsIn cX4_yardsIn 3 (some .int) 1 := ⟨⟨tb3 148 rfl rfl, tb3 36 rfl rfl, tb1 8 rfl rfl, ⟨by decide +kernel, by decide +kernel⟩, by decide +kernel⟩, tb3 34 rfl rfl, tb3 35 rfl rfl⟩
theorem lm_X0_47 : LM RX0 47 Lib.Math.min.name Lib.Math.min.code 2 := ⟨tb3 149 rfl rfl, tb3 27 rfl rfl, tb1 16 rfl rfl, tb3 28 rfl rfl⟩
theorem cl_X0_53 : CV RX0 53 yX0_offer cX0_offer 7 none 4 := ⟨⟨tb3 150 rfl rfl, tb3 153 rfl rfl, tb1 12 rfl rfl, ⟨by decide +kernel, by decide +kernel⟩, by decide +kernel⟩, tb3 152 rfl rfl, tb0 18 rfl rfl⟩
theorem cl_X0_57 : CV RX0 57 yX6_has cX6_has 2 (some .boolean) 1 := ⟨⟨tb3 154 rfl rfl, tb1 229 rfl rfl, tb1 3 rfl rfl, ⟨by decide +kernel, by decide +kernel⟩, by decide +kernel⟩, tb1 227 rfl rfl, tb1 228 rfl rfl⟩
theorem cl_X1_25 : CV RX1 25 yX1_dropOldest cX1_dropOldest 1 none 0 := ⟨⟨tb3 81 rfl rfl, tb3 84 rfl rfl, tb1 9 rfl rfl, ⟨by decide +kernel, by decide +kernel⟩, by decide +kernel⟩, tb3 83 rfl rfl, tb0 12 rfl rfl⟩
theorem lc_X1_36 : LC RX1 36 := ⟨tb3 85 rfl rfl, tb3 5 rfl rfl, tb3 4 rfl rfl, tb1 15 rfl rfl⟩
theorem cl_X1_42 : CV RX1 42 yX6_has cX6_has 2 (some .boolean) 1 := ⟨⟨tb3 110 rfl rfl, tb1 229 rfl rfl, tb1 3 rfl rfl, ⟨by decide +kernel, by decide +kernel⟩, by decide +kernel⟩, tb1 227 rfl rfl, tb1 228 rfl rfl⟩
theorem cl_X2_21 : CS RX2 21 yJ6_bitCount_0f7a4 cJ6_bitCount_0f7a4 1 (some .int) 1 := ⟨⟨tb3 186 rfl rfl, tb3 188 rfl rfl, tb1 17 rfl rfl, ⟨by decide +kernel, by decide +kernel⟩, by decide +kernel⟩, tb3 187 rfl rfl⟩
theorem cl_X2_27 : CS RX2 27 yX2_off cX2_off 3 (some .int) 3 := ⟨⟨tb3 192 rfl rfl, tb3 194 rfl rfl, tb1 13 rfl rfl, ⟨by decide +kernel, by decide +kernel⟩, by decide +kernel⟩, tb3 193 rfl rfl⟩
theorem lm_X2_31 : LM RX2 31 Lib.Math.min.name Lib.Math.min.code 2 := ⟨tb3 196 rfl rfl, tb3 27 rfl rfl, tb1 16 rfl rfl, tb3 28 rfl rfl⟩
theorem cl_X2_37 : CV RX2 37 yX2_lowestFitting cX2_lowestFitting 5 (some .int) 3 := ⟨⟨tb3 201 rfl rfl, tb3 204 rfl rfl, tb1 13 rfl rfl, ⟨by decide +kernel, by decide +kernel⟩, by decide +kernel⟩, tb3 203 rfl rfl, tb0 20 rfl rfl⟩
theorem lm_X2_43 : LM RX2 43 Lib.Math.abs.name Lib.Math.abs.code 1 := ⟨tb3 195 rfl rfl, tb3 176 rfl rfl, tb1 16 rfl rfl, tb3 177 rfl rfl⟩
theorem lc_X3_25 : LC RX3 25 := ⟨tb4 32 rfl rfl, tb3 5 rfl rfl, tb3 4 rfl rfl, tb1 15 rfl rfl⟩
theorem lc_X4_49 : LC RX4 49 := ⟨tb3 3 rfl rfl, tb3 5 rfl rfl, tb3 4 rfl rfl, tb1 15 rfl rfl⟩
theorem cl_X4_67 : CV RX4 67 yX4_mount cX4_mount 3 none 1 := ⟨⟨tb3 59 rfl rfl, tb3 9 rfl rfl, tb1 8 rfl rfl, ⟨by decide +kernel, by decide +kernel⟩, by decide +kernel⟩, tb3 7 rfl rfl, tb3 8 rfl rfl⟩
theorem cl_X4_71 : CV RX4 71 yX4_moveUntil cX4_moveUntil 3 (some .int) 1 := ⟨⟨tb3 60 rfl rfl, tb3 32 rfl rfl, tb1 8 rfl rfl, ⟨by decide +kernel, by decide +kernel⟩, by decide +kernel⟩, tb3 30 rfl rfl, tb3 31 rfl rfl⟩
theorem cl_X4_75 : CV RX4 75 yX4_isAhead cX4_isAhead 5 (some .boolean) 2 := ⟨⟨tb3 61 rfl rfl, tb3 64 rfl rfl, tb1 8 rfl rfl, ⟨by decide +kernel, by decide +kernel⟩, by decide +kernel⟩, tb3 63 rfl rfl, tb0 10 rfl rfl⟩
theorem cl_X4_79 : CV RX4 79 yX6_has cX6_has 2 (some .boolean) 1 := ⟨⟨tb3 10 rfl rfl, tb1 229 rfl rfl, tb1 3 rfl rfl, ⟨by decide +kernel, by decide +kernel⟩, by decide +kernel⟩, tb1 227 rfl rfl, tb1 228 rfl rfl⟩
theorem cl_X4_86 : CV RX4 86 yX4_mountBeast cX4_mountBeast 4 none 1 := ⟨⟨tb3 11 rfl rfl, tb3 14 rfl rfl, tb1 8 rfl rfl, ⟨by decide +kernel, by decide +kernel⟩, by decide +kernel⟩, tb3 13 rfl rfl, tb0 5 rfl rfl⟩
theorem cl_X4_89 : CV RX4 89 yX4_mountRaft cX4_mountRaft 4 none 1 := ⟨⟨tb3 15 rfl rfl, tb3 18 rfl rfl, tb1 8 rfl rfl, ⟨by decide +kernel, by decide +kernel⟩, by decide +kernel⟩, tb3 17 rfl rfl, tb0 6 rfl rfl⟩
theorem cl_X4_92 : CV RX4 92 yX4_earliestHelp cX4_earliestHelp 3 (some .int) 0 := ⟨⟨tb3 22 rfl rfl, tb3 25 rfl rfl, tb1 8 rfl rfl, ⟨by decide +kernel, by decide +kernel⟩, by decide +kernel⟩, tb3 24 rfl rfl, tb0 7 rfl rfl⟩
theorem lm_X4_117 : LM RX4 117 Lib.Math.max.name Lib.Math.max.code 2 := ⟨tb3 19 rfl rfl, tb3 20 rfl rfl, tb1 16 rfl rfl, tb3 21 rfl rfl⟩
theorem lm_X4_123 : LM RX4 123 Lib.Math.min.name Lib.Math.min.code 2 := ⟨tb3 26 rfl rfl, tb3 27 rfl rfl, tb1 16 rfl rfl, tb3 28 rfl rfl⟩
theorem cl_X4_129 : CV RX4 129 yX4_yardsIn cX4_yardsIn 3 (some .int) 1 := ⟨⟨tb3 33 rfl rfl, tb3 36 rfl rfl, tb1 8 rfl rfl, ⟨by decide +kernel, by decide +kernel⟩, by decide +kernel⟩, tb3 34 rfl rfl, tb3 35 rfl rfl⟩
theorem cl_X4_132 : CV RX4 132 yX4_takenIn cX4_takenIn 2 (some .int) 1 := ⟨⟨tb3 37 rfl rfl, tb3 40 rfl rfl, tb1 8 rfl rfl, ⟨by decide +kernel, by decide +kernel⟩, by decide +kernel⟩, tb3 39 rfl rfl, tb0 8 rfl rfl⟩
theorem cl_X4_139 : CV RX4 139 yX4_leader cX4_leader 3 (some .int) 1 := ⟨⟨tb3 65 rfl rfl, tb3 68 rfl rfl, tb1 8 rfl rfl, ⟨by decide +kernel, by decide +kernel⟩, by decide +kernel⟩, tb3 67 rfl rfl, tb0 11 rfl rfl⟩
theorem cl_X5_19 : CV RX5 19 yX6_clear cX6_clear 1 none 0 := ⟨⟨tb1 187 rfl rfl, tb1 190 rfl rfl, tb1 3 rfl rfl, ⟨by decide +kernel, by decide +kernel⟩, by decide +kernel⟩, tb1 188 rfl rfl, tb1 189 rfl rfl⟩
theorem cl_X5_24 : CV RX5 24 yX5_readItem cX5_readItem 7 (some .boolean) 3 := ⟨⟨tb1 191 rfl rfl, tb1 194 rfl rfl, tb1 2 rfl rfl, ⟨by decide +kernel, by decide +kernel⟩, by decide +kernel⟩, tb1 193 rfl rfl, tb0 0 rfl rfl⟩
theorem cl_X5_28 : CV RX5 28 yX5_tell cX5_tell 3 (some .boolean) 2 := ⟨⟨tb1 205 rfl rfl, tb1 208 rfl rfl, tb1 2 rfl rfl, ⟨by decide +kernel, by decide +kernel⟩, by decide +kernel⟩, tb1 207 rfl rfl, tb0 2 rfl rfl⟩
theorem cl_X5_32 : CS RX5 32 yX5_numbersBehind cX5_numbersBehind 1 (some .int) 1 := ⟨⟨tb1 195 rfl rfl, tb1 197 rfl rfl, tb1 2 rfl rfl, ⟨by decide +kernel, by decide +kernel⟩, by decide +kernel⟩, tb1 196 rfl rfl⟩
theorem cl_X5_36 : CV RX5 36 yX5_readNumber cX5_readNumber 6 (some .boolean) 3 := ⟨⟨tb1 198 rfl rfl, tb1 201 rfl rfl, tb1 2 rfl rfl, ⟨by decide +kernel, by decide +kernel⟩, by decide +kernel⟩, tb1 200 rfl rfl, tb0 1 rfl rfl⟩
theorem cl_X5_43 : CV RX5 43 yX6_addBeast cX6_addBeast 5 (some .boolean) 4 := ⟨⟨tb1 209 rfl rfl, tb1 212 rfl rfl, tb1 3 rfl rfl, ⟨by decide +kernel, by decide +kernel⟩, by decide +kernel⟩, tb1 210 rfl rfl, tb1 211 rfl rfl⟩
theorem cl_X5_47 : CV RX5 47 yX6_setWidth cX6_setWidth 2 (some .boolean) 1 := ⟨⟨tb1 214 rfl rfl, tb1 217 rfl rfl, tb1 3 rfl rfl, ⟨by decide +kernel, by decide +kernel⟩, by decide +kernel⟩, tb1 215 rfl rfl, tb1 216 rfl rfl⟩
theorem cl_X5_51 : CV RX5 51 yX6_addCurrent cX6_addCurrent 3 (some .boolean) 2 := ⟨⟨tb1 218 rfl rfl, tb1 221 rfl rfl, tb1 3 rfl rfl, ⟨by decide +kernel, by decide +kernel⟩, by decide +kernel⟩, tb1 219 rfl rfl, tb1 220 rfl rfl⟩
theorem cl_X5_55 : CV RX5 55 yX6_setCarrier cX6_setCarrier 3 (some .boolean) 2 := ⟨⟨tb1 222 rfl rfl, tb1 225 rfl rfl, tb1 3 rfl rfl, ⟨by decide +kernel, by decide +kernel⟩, by decide +kernel⟩, tb1 223 rfl rfl, tb1 224 rfl rfl⟩
theorem cl_X5_58 : CV RX5 58 yX6_addRaft cX6_addRaft 4 (some .boolean) 3 := ⟨⟨tb1 230 rfl rfl, tb1 233 rfl rfl, tb1 3 rfl rfl, ⟨by decide +kernel, by decide +kernel⟩, by decide +kernel⟩, tb1 231 rfl rfl, tb1 232 rfl rfl⟩
theorem cl_X5_61 : CV RX5 61 yX6_addVoice cX6_addVoice 2 (some .boolean) 1 := ⟨⟨tb1 238 rfl rfl, tb2 1 rfl rfl, tb1 3 rfl rfl, ⟨by decide +kernel, by decide +kernel⟩, by decide +kernel⟩, tb1 239 rfl rfl, tb2 0 rfl rfl⟩
theorem cl_X5_64 : CV RX5 64 yX6_setWant cX6_setWant 3 (some .boolean) 2 := ⟨⟨tb2 2 rfl rfl, tb2 5 rfl rfl, tb1 3 rfl rfl, ⟨by decide +kernel, by decide +kernel⟩, by decide +kernel⟩, tb2 3 rfl rfl, tb2 4 rfl rfl⟩
theorem cl_X5_67 : CV RX5 67 yX6_setHarvest cX6_setHarvest 3 (some .boolean) 2 := ⟨⟨tb2 6 rfl rfl, tb2 9 rfl rfl, tb1 3 rfl rfl, ⟨by decide +kernel, by decide +kernel⟩, by decide +kernel⟩, tb2 7 rfl rfl, tb2 8 rfl rfl⟩
theorem cl_X6_72 : CV RX6 72 yX6_has cX6_has 2 (some .boolean) 1 := ⟨⟨tb1 226 rfl rfl, tb1 229 rfl rfl, tb1 3 rfl rfl, ⟨by decide +kernel, by decide +kernel⟩, by decide +kernel⟩, tb1 227 rfl rfl, tb1 228 rfl rfl⟩
theorem cl_X6_76 : CV RX6 76 yX6_putOnRaft cX6_putOnRaft 2 none 1 := ⟨⟨tb1 234 rfl rfl, tb1 237 rfl rfl, tb1 3 rfl rfl, ⟨by decide +kernel, by decide +kernel⟩, by decide +kernel⟩, tb1 236 rfl rfl, tb0 3 rfl rfl⟩
theorem cl_X6_80 : CV RX6 80 yX6_addVoice cX6_addVoice 2 (some .boolean) 1 := ⟨⟨tb2 14 rfl rfl, tb2 1 rfl rfl, tb1 3 rfl rfl, ⟨by decide +kernel, by decide +kernel⟩, by decide +kernel⟩, tb1 239 rfl rfl, tb2 0 rfl rfl⟩
theorem cl_X6_83 : CV RX6 83 yX6_takenFrom cX6_takenFrom 5 (some .int) 1 := ⟨⟨tb2 15 rfl rfl, tb2 18 rfl rfl, tb1 3 rfl rfl, ⟨by decide +kernel, by decide +kernel⟩, by decide +kernel⟩, tb2 17 rfl rfl, tb0 4 rfl rfl⟩
theorem cl_L_13 : CV RL 13 yX8_write cX8_write 2 (some .int) 1 := ⟨⟨tb2 193 rfl rfl, tb2 196 rfl rfl, tb1 1 rfl rfl, ⟨by decide +kernel, by decide +kernel⟩, by decide +kernel⟩, tb2 194 rfl rfl, tb2 195 rfl rfl⟩
theorem cl_L_17 : CV RL 17 yX9_write cX9_write 2 (some .int) 1 := ⟨⟨tb4 166 rfl rfl, tb4 169 rfl rfl, tb1 14 rfl rfl, ⟨by decide +kernel, by decide +kernel⟩, by decide +kernel⟩, tb4 167 rfl rfl, tb4 168 rfl rfl⟩
theorem cl_L_18 : CV RL 18 yX8_wipe cX8_wipe 2 (some .int) 0 := ⟨⟨tb2 198 rfl rfl, tb2 201 rfl rfl, tb1 1 rfl rfl, ⟨by decide +kernel, by decide +kernel⟩, by decide +kernel⟩, tb2 199 rfl rfl, tb2 200 rfl rfl⟩
theorem cl_L_22 : CV RL 22 yX9_wipe cX9_wipe 2 (some .int) 0 := ⟨⟨tb4 173 rfl rfl, tb4 176 rfl rfl, tb1 14 rfl rfl, ⟨by decide +kernel, by decide +kernel⟩, by decide +kernel⟩, tb4 174 rfl rfl, tb4 175 rfl rfl⟩
theorem cl_L_23 : CV RL 23 yX8_fault cX8_fault 1 (some .int) 0 := ⟨⟨tb2 202 rfl rfl, tb2 205 rfl rfl, tb1 1 rfl rfl, ⟨by decide +kernel, by decide +kernel⟩, by decide +kernel⟩, tb2 203 rfl rfl, tb2 204 rfl rfl⟩
theorem cl_L_26 : CV RL 26 yX9_fault cX9_fault 2 (some .int) 0 := ⟨⟨tb4 177 rfl rfl, tb4 180 rfl rfl, tb1 14 rfl rfl, ⟨by decide +kernel, by decide +kernel⟩, by decide +kernel⟩, tb4 178 rfl rfl, tb4 179 rfl rfl⟩
theorem cl_L_27 : CV RL 27 yX8_lay cX8_lay 2 (some .int) 0 := ⟨⟨tb2 206 rfl rfl, tb2 209 rfl rfl, tb1 1 rfl rfl, ⟨by decide +kernel, by decide +kernel⟩, by decide +kernel⟩, tb2 207 rfl rfl, tb2 208 rfl rfl⟩
theorem cl_L_30 : CV RL 30 yX9_lay cX9_lay 2 (some .int) 0 := ⟨⟨tb4 209 rfl rfl, tb4 212 rfl rfl, tb1 14 rfl rfl, ⟨by decide +kernel, by decide +kernel⟩, by decide +kernel⟩, tb4 210 rfl rfl, tb4 211 rfl rfl⟩
theorem cl_L_31 : CV RL 31 yX8_beast cX8_beast 3 (some .int) 2 := ⟨⟨tb2 226 rfl rfl, tb2 229 rfl rfl, tb1 1 rfl rfl, ⟨by decide +kernel, by decide +kernel⟩, by decide +kernel⟩, tb2 227 rfl rfl, tb2 228 rfl rfl⟩
theorem cl_L_35 : CV RL 35 yX9_beast cX9_beast 3 (some .int) 2 := ⟨⟨tb4 222 rfl rfl, tb4 225 rfl rfl, tb1 14 rfl rfl, ⟨by decide +kernel, by decide +kernel⟩, by decide +kernel⟩, tb4 223 rfl rfl, tb4 224 rfl rfl⟩
theorem cl_L_36 : CV RL 36 yX8_current cX8_current 2 (some .int) 1 := ⟨⟨tb2 231 rfl rfl, tb2 234 rfl rfl, tb1 1 rfl rfl, ⟨by decide +kernel, by decide +kernel⟩, by decide +kernel⟩, tb2 232 rfl rfl, tb2 233 rfl rfl⟩
theorem cl_L_39 : CV RL 39 yX9_current cX9_current 2 (some .int) 1 := ⟨⟨tb4 238 rfl rfl, tb5 1 rfl rfl, tb1 14 rfl rfl, ⟨by decide +kernel, by decide +kernel⟩, by decide +kernel⟩, tb4 239 rfl rfl, tb5 0 rfl rfl⟩
theorem cl_L_40 : CV RL 40 yX8_where cX8_where 3 (some .int) 2 := ⟨⟨tb2 235 rfl rfl, tb2 238 rfl rfl, tb1 1 rfl rfl, ⟨by decide +kernel, by decide +kernel⟩, by decide +kernel⟩, tb2 236 rfl rfl, tb2 237 rfl rfl⟩
theorem cl_L_43 : CV RL 43 yX9_where cX9_where 3 (some .int) 2 := ⟨⟨tb5 6 rfl rfl, tb5 9 rfl rfl, tb1 14 rfl rfl, ⟨by decide +kernel, by decide +kernel⟩, by decide +kernel⟩, tb5 7 rfl rfl, tb5 8 rfl rfl⟩
theorem cl_L_44 : CV RL 44 yX8_lands cX8_lands 3 (some .int) 1 := ⟨⟨tb3 43 rfl rfl, tb3 46 rfl rfl, tb1 1 rfl rfl, ⟨by decide +kernel, by decide +kernel⟩, by decide +kernel⟩, tb3 44 rfl rfl, tb3 45 rfl rfl⟩
theorem cl_L_47 : CV RL 47 yX9_lands cX9_lands 2 (some .int) 1 := ⟨⟨tb5 38 rfl rfl, tb5 41 rfl rfl, tb1 14 rfl rfl, ⟨by decide +kernel, by decide +kernel⟩, by decide +kernel⟩, tb5 39 rfl rfl, tb5 40 rfl rfl⟩
theorem cl_L_48 : CV RL 48 yX8_rank cX8_rank 2 (some .int) 1 := ⟨⟨tb3 47 rfl rfl, tb3 50 rfl rfl, tb1 1 rfl rfl, ⟨by decide +kernel, by decide +kernel⟩, by decide +kernel⟩, tb3 48 rfl rfl, tb3 49 rfl rfl⟩
theorem cl_L_51 : CV RL 51 yX9_rank cX9_rank 2 (some .int) 1 := ⟨⟨tb5 46 rfl rfl, tb5 49 rfl rfl, tb1 14 rfl rfl, ⟨by decide +kernel, by decide +kernel⟩, by decide +kernel⟩, tb5 47 rfl rfl, tb5 48 rfl rfl⟩
theorem cl_L_52 : CV RL 52 yX8_who cX8_who 2 (some .int) 1 := ⟨⟨tb3 69 rfl rfl, tb3 72 rfl rfl, tb1 1 rfl rfl, ⟨by decide +kernel, by decide +kernel⟩, by decide +kernel⟩, tb3 70 rfl rfl, tb3 71 rfl rfl⟩
theorem cl_L_55 : CV RL 55 yX9_who cX9_who 2 (some .int) 1 := ⟨⟨tb5 62 rfl rfl, tb5 65 rfl rfl, tb1 14 rfl rfl, ⟨by decide +kernel, by decide +kernel⟩, by decide +kernel⟩, tb5 63 rfl rfl, tb5 64 rfl rfl⟩
theorem cl_L_56 : CV RL 56 yX8_start cX8_start 4 (some .int) 2 := ⟨⟨tb3 73 rfl rfl, tb3 76 rfl rfl, tb1 1 rfl rfl, ⟨by decide +kernel, by decide +kernel⟩, by decide +kernel⟩, tb3 74 rfl rfl, tb3 75 rfl rfl⟩
theorem cl_L_59 : CV RL 59 yX9_start cX9_start 4 (some .int) 2 := ⟨⟨tb5 70 rfl rfl, tb5 73 rfl rfl, tb1 14 rfl rfl, ⟨by decide +kernel, by decide +kernel⟩, by decide +kernel⟩, tb5 71 rfl rfl, tb5 72 rfl rfl⟩
theorem cl_L_60 : CV RL 60 yX8_ride cX8_ride 3 (some .int) 2 := ⟨⟨tb3 86 rfl rfl, tb3 89 rfl rfl, tb1 1 rfl rfl, ⟨by decide +kernel, by decide +kernel⟩, by decide +kernel⟩, tb3 87 rfl rfl, tb3 88 rfl rfl⟩
theorem cl_L_63 : CV RL 63 yX9_ride cX9_ride 4 (some .int) 2 := ⟨⟨tb5 82 rfl rfl, tb5 85 rfl rfl, tb1 14 rfl rfl, ⟨by decide +kernel, by decide +kernel⟩, by decide +kernel⟩, tb5 83 rfl rfl, tb5 84 rfl rfl⟩
theorem cl_L_64 : CV RL 64 yX8_leave cX8_leave 2 (some .int) 1 := ⟨⟨tb3 98 rfl rfl, tb3 101 rfl rfl, tb1 1 rfl rfl, ⟨by decide +kernel, by decide +kernel⟩, by decide +kernel⟩, tb3 99 rfl rfl, tb3 100 rfl rfl⟩
theorem cl_L_67 : CV RL 67 yX9_leave cX9_leave 3 (some .int) 1 := ⟨⟨tb5 90 rfl rfl, tb5 93 rfl rfl, tb1 14 rfl rfl, ⟨by decide +kernel, by decide +kernel⟩, by decide +kernel⟩, tb5 91 rfl rfl, tb5 92 rfl rfl⟩
theorem cl_L_68 : CV RL 68 yX8_undo cX8_undo 1 (some .int) 0 := ⟨⟨tb3 102 rfl rfl, tb3 105 rfl rfl, tb1 1 rfl rfl, ⟨by decide +kernel, by decide +kernel⟩, by decide +kernel⟩, tb3 103 rfl rfl, tb3 104 rfl rfl⟩
theorem cl_L_71 : CV RL 71 yX9_undo cX9_undo 1 (some .int) 0 := ⟨⟨tb5 94 rfl rfl, tb5 97 rfl rfl, tb1 14 rfl rfl, ⟨by decide +kernel, by decide +kernel⟩, by decide +kernel⟩, tb5 95 rfl rfl, tb5 96 rfl rfl⟩
theorem cl_L_72 : CV RL 72 yX8_late cX8_late 4 (some .int) 1 := ⟨⟨tb3 111 rfl rfl, tb3 114 rfl rfl, tb1 1 rfl rfl, ⟨by decide +kernel, by decide +kernel⟩, by decide +kernel⟩, tb3 112 rfl rfl, tb3 113 rfl rfl⟩
theorem cl_L_75 : CV RL 75 yX9_late cX9_late 4 (some .int) 1 := ⟨⟨tb5 98 rfl rfl, tb5 101 rfl rfl, tb1 14 rfl rfl, ⟨by decide +kernel, by decide +kernel⟩, by decide +kernel⟩, tb5 99 rfl rfl, tb5 100 rfl rfl⟩
theorem cl_L_76 : CV RL 76 yX8_back cX8_back 7 (some .int) 2 := ⟨⟨tb3 115 rfl rfl, tb3 118 rfl rfl, tb1 1 rfl rfl, ⟨by decide +kernel, by decide +kernel⟩, by decide +kernel⟩, tb3 116 rfl rfl, tb3 117 rfl rfl⟩
theorem cl_L_79 : CV RL 79 yX9_back cX9_back 7 (some .int) 2 := ⟨⟨tb5 106 rfl rfl, tb5 109 rfl rfl, tb1 14 rfl rfl, ⟨by decide +kernel, by decide +kernel⟩, by decide +kernel⟩, tb5 107 rfl rfl, tb5 108 rfl rfl⟩
theorem cl_L_80 : CV RL 80 yX8_twos cX8_twos 3 (some .int) 0 := ⟨⟨tb3 123 rfl rfl, tb3 126 rfl rfl, tb1 1 rfl rfl, ⟨by decide +kernel, by decide +kernel⟩, by decide +kernel⟩, tb3 124 rfl rfl, tb3 125 rfl rfl⟩
theorem cl_L_83 : CV RL 83 yX9_twos cX9_twos 6 (some .int) 0 := ⟨⟨tb5 110 rfl rfl, tb5 113 rfl rfl, tb1 14 rfl rfl, ⟨by decide +kernel, by decide +kernel⟩, by decide +kernel⟩, tb5 111 rfl rfl, tb5 112 rfl rfl⟩
theorem cl_L_84 : CV RL 84 yX8_bridge cX8_bridge 2 (some .int) 1 := ⟨⟨tb3 135 rfl rfl, tb3 138 rfl rfl, tb1 1 rfl rfl, ⟨by decide +kernel, by decide +kernel⟩, by decide +kernel⟩, tb3 136 rfl rfl, tb3 137 rfl rfl⟩
theorem cl_L_87 : CV RL 87 yX9_bridge cX9_bridge 6 (some .int) 1 := ⟨⟨tb5 114 rfl rfl, tb5 117 rfl rfl, tb1 14 rfl rfl, ⟨by decide +kernel, by decide +kernel⟩, by decide +kernel⟩, tb5 115 rfl rfl, tb5 116 rfl rfl⟩
theorem cl_L_88 : CV RL 88 yX8_calm cX8_calm 6 (some .int) 1 := ⟨⟨tb3 167 rfl rfl, tb3 170 rfl rfl, tb1 1 rfl rfl, ⟨by decide +kernel, by decide +kernel⟩, by decide +kernel⟩, tb3 168 rfl rfl, tb3 169 rfl rfl⟩
theorem cl_L_91 : CV RL 91 yX9_calm cX9_calm 8 (some .int) 1 := ⟨⟨tb5 122 rfl rfl, tb5 125 rfl rfl, tb1 14 rfl rfl, ⟨by decide +kernel, by decide +kernel⟩, by decide +kernel⟩, tb5 123 rfl rfl, tb5 124 rfl rfl⟩
theorem cl_L_92 : CV RL 92 yX8_order cX8_order 2 (some .int) 1 := ⟨⟨tb3 178 rfl rfl, tb3 181 rfl rfl, tb1 1 rfl rfl, ⟨by decide +kernel, by decide +kernel⟩, by decide +kernel⟩, tb3 179 rfl rfl, tb3 180 rfl rfl⟩
theorem cl_L_95 : CV RL 95 yX9_order cX9_order 5 (some .int) 1 := ⟨⟨tb5 129 rfl rfl, tb5 132 rfl rfl, tb1 14 rfl rfl, ⟨by decide +kernel, by decide +kernel⟩, by decide +kernel⟩, tb5 130 rfl rfl, tb5 131 rfl rfl⟩
theorem cl_L_96 : CV RL 96 yX8_harvest cX8_harvest 4 (some .int) 1 := ⟨⟨tb3 205 rfl rfl, tb3 208 rfl rfl, tb1 1 rfl rfl, ⟨by decide +kernel, by decide +kernel⟩, by decide +kernel⟩, tb3 206 rfl rfl, tb3 207 rfl rfl⟩
theorem cl_L_99 : CV RL 99 yX9_harvest cX9_harvest 4 (some .int) 1 := ⟨⟨tb5 137 rfl rfl, tb5 140 rfl rfl, tb1 14 rfl rfl, ⟨by decide +kernel, by decide +kernel⟩, by decide +kernel⟩, tb5 138 rfl rfl, tb5 139 rfl rfl⟩
theorem cl_L_100 : CV RL 100 yX8_odds cX8_odds 8 (some .int) 4 := ⟨⟨tb3 209 rfl rfl, tb3 212 rfl rfl, tb1 1 rfl rfl, ⟨by decide +kernel, by decide +kernel⟩, by decide +kernel⟩, tb3 210 rfl rfl, tb3 211 rfl rfl⟩
theorem cl_L_104 : CV RL 104 yX9_odds cX9_odds 10 (some .int) 4 := ⟨⟨tb5 141 rfl rfl, tb5 144 rfl rfl, tb1 14 rfl rfl, ⟨by decide +kernel, by decide +kernel⟩, by decide +kernel⟩, tb5 142 rfl rfl, tb5 143 rfl rfl⟩
theorem cl_L_105 : CV RL 105 yX8_seen cX8_seen 3 (some .int) 2 := ⟨⟨tb3 220 rfl rfl, tb3 223 rfl rfl, tb1 1 rfl rfl, ⟨by decide +kernel, by decide +kernel⟩, by decide +kernel⟩, tb3 221 rfl rfl, tb3 222 rfl rfl⟩
theorem cl_L_108 : CV RL 108 yX9_seen cX9_seen 3 (some .int) 2 := ⟨⟨tb5 145 rfl rfl, tb5 148 rfl rfl, tb1 14 rfl rfl, ⟨by decide +kernel, by decide +kernel⟩, by decide +kernel⟩, tb5 146 rfl rfl, tb5 147 rfl rfl⟩
theorem cl_L_109 : CV RL 109 yX8_forget cX8_forget 2 (some .int) 0 := ⟨⟨tb3 228 rfl rfl, tb3 231 rfl rfl, tb1 1 rfl rfl, ⟨by decide +kernel, by decide +kernel⟩, by decide +kernel⟩, tb3 229 rfl rfl, tb3 230 rfl rfl⟩
theorem cl_L_112 : CV RL 112 yX9_forget cX9_forget 2 (some .int) 0 := ⟨⟨tb5 149 rfl rfl, tb5 152 rfl rfl, tb1 14 rfl rfl, ⟨by decide +kernel, by decide +kernel⟩, by decide +kernel⟩, tb5 150 rfl rfl, tb5 151 rfl rfl⟩
theorem cl_L_113 : CV RL 113 yX8_rides cX8_rides 6 (some .int) 1 := ⟨⟨tb3 232 rfl rfl, tb3 235 rfl rfl, tb1 1 rfl rfl, ⟨by decide +kernel, by decide +kernel⟩, by decide +kernel⟩, tb3 233 rfl rfl, tb3 234 rfl rfl⟩
theorem cl_L_116 : CV RL 116 yX9_rides cX9_rides 8 (some .int) 1 := ⟨⟨tb5 153 rfl rfl, tb5 156 rfl rfl, tb1 14 rfl rfl, ⟨by decide +kernel, by decide +kernel⟩, by decide +kernel⟩, tb5 154 rfl rfl, tb5 155 rfl rfl⟩
theorem cl_L_117 : CV RL 117 yX8_river cX8_river 3 (some .int) 2 := ⟨⟨tb4 8 rfl rfl, tb4 11 rfl rfl, tb1 1 rfl rfl, ⟨by decide +kernel, by decide +kernel⟩, by decide +kernel⟩, tb4 9 rfl rfl, tb4 10 rfl rfl⟩
theorem cl_L_120 : CV RL 120 yX9_river cX9_river 5 (some .int) 2 := ⟨⟨tb5 161 rfl rfl, tb5 164 rfl rfl, tb1 14 rfl rfl, ⟨by decide +kernel, by decide +kernel⟩, by decide +kernel⟩, tb5 162 rfl rfl, tb5 163 rfl rfl⟩
theorem cl_L_121 : CV RL 121 yX8_keep cX8_keep 1 (some .int) 0 := ⟨⟨tb4 24 rfl rfl, tb4 27 rfl rfl, tb1 1 rfl rfl, ⟨by decide +kernel, by decide +kernel⟩, by decide +kernel⟩, tb4 25 rfl rfl, tb4 26 rfl rfl⟩
theorem cl_L_124 : CV RL 124 yX9_keep cX9_keep 1 (some .int) 0 := ⟨⟨tb5 165 rfl rfl, tb5 168 rfl rfl, tb1 14 rfl rfl, ⟨by decide +kernel, by decide +kernel⟩, by decide +kernel⟩, tb5 166 rfl rfl, tb5 167 rfl rfl⟩
theorem cl_L_125 : CV RL 125 yX8_restore cX8_restore 1 (some .int) 0 := ⟨⟨tb4 33 rfl rfl, tb4 36 rfl rfl, tb1 1 rfl rfl, ⟨by decide +kernel, by decide +kernel⟩, by decide +kernel⟩, tb4 34 rfl rfl, tb4 35 rfl rfl⟩
theorem cl_L_128 : CV RL 128 yX9_restore cX9_restore 1 (some .int) 0 := ⟨⟨tb5 169 rfl rfl, tb5 172 rfl rfl, tb1 14 rfl rfl, ⟨by decide +kernel, by decide +kernel⟩, by decide +kernel⟩, tb5 170 rfl rfl, tb5 171 rfl rfl⟩
theorem cl_L_129 : CV RL 129 yX8_count cX8_count 2 (some .int) 1 := ⟨⟨tb4 41 rfl rfl, tb4 44 rfl rfl, tb1 1 rfl rfl, ⟨by decide +kernel, by decide +kernel⟩, by decide +kernel⟩, tb4 42 rfl rfl, tb4 43 rfl rfl⟩
theorem cl_L_132 : CV RL 132 yX9_count cX9_count 4 (some .int) 1 := ⟨⟨tb5 173 rfl rfl, tb5 176 rfl rfl, tb1 14 rfl rfl, ⟨by decide +kernel, by decide +kernel⟩, by decide +kernel⟩, tb5 174 rfl rfl, tb5 175 rfl rfl⟩
theorem cl_X9_86 : CV RX9 86 yX9_firstBeast cX9_firstBeast 6 none 5 := ⟨⟨tb4 55 rfl rfl, tb4 58 rfl rfl, tb1 14 rfl rfl, ⟨by decide +kernel, by decide +kernel⟩, by decide +kernel⟩, tb4 57 rfl rfl, tb0 23 rfl rfl⟩
theorem cl_X9_90 : CV RX9 90 yX9_anew cX9_anew 2 none 0 := ⟨⟨tb4 59 rfl rfl, tb4 62 rfl rfl, tb1 14 rfl rfl, ⟨by decide +kernel, by decide +kernel⟩, by decide +kernel⟩, tb4 61 rfl rfl, tb0 24 rfl rfl⟩
theorem cl_X9_93 : CS RX9 93 yX9_in cX9_in 3 (some .boolean) 3 := ⟨⟨tb4 170 rfl rfl, tb4 172 rfl rfl, tb1 14 rfl rfl, ⟨by decide +kernel, by decide +kernel⟩, by decide +kernel⟩, tb4 171 rfl rfl⟩
theorem cl_X9_104 : CV RX9 104 yX9_here cX9_here 1 (some .int) 0 := ⟨⟨tb4 185 rfl rfl, tb4 188 rfl rfl, tb1 14 rfl rfl, ⟨by decide +kernel, by decide +kernel⟩, by decide +kernel⟩, tb4 187 rfl rfl, tb0 26 rfl rfl⟩
theorem cl_X9_112 : CV RX9 112 yX9_number cX9_number 6 (some .int) 3 := ⟨⟨tb4 193 rfl rfl, tb4 196 rfl rfl, tb1 14 rfl rfl, ⟨by decide +kernel, by decide +kernel⟩, by decide +kernel⟩, tb4 195 rfl rfl, tb0 28 rfl rfl⟩
theorem cl_X9_116 : CV RX9 116 yX9_told cX9_told 2 (some .int) 1 := ⟨⟨tb4 201 rfl rfl, tb4 204 rfl rfl, tb1 14 rfl rfl, ⟨by decide +kernel, by decide +kernel⟩, by decide +kernel⟩, tb4 203 rfl rfl, tb0 30 rfl rfl⟩
theorem cl_X9_120 : CV RX9 120 yX9_readBeast cX9_readBeast 6 none 0 := ⟨⟨tb4 189 rfl rfl, tb4 192 rfl rfl, tb1 14 rfl rfl, ⟨by decide +kernel, by decide +kernel⟩, by decide +kernel⟩, tb4 191 rfl rfl, tb0 27 rfl rfl⟩
theorem cl_X9_123 : CV RX9 123 yX9_readCurrent cX9_readCurrent 3 none 0 := ⟨⟨tb4 197 rfl rfl, tb4 200 rfl rfl, tb1 14 rfl rfl, ⟨by decide +kernel, by decide +kernel⟩, by decide +kernel⟩, tb4 199 rfl rfl, tb0 29 rfl rfl⟩
theorem cl_X9_126 : CV RX9 126 yX9_readRaft cX9_readRaft 4 none 0 := ⟨⟨tb4 205 rfl rfl, tb4 208 rfl rfl, tb1 14 rfl rfl, ⟨by decide +kernel, by decide +kernel⟩, by decide +kernel⟩, tb4 207 rfl rfl, tb0 31 rfl rfl⟩
theorem cl_X9_129 : CV RX9 129 yX9_readItem cX9_readItem 4 none 0 := ⟨⟨tb4 181 rfl rfl, tb4 184 rfl rfl, tb1 14 rfl rfl, ⟨by decide +kernel, by decide +kernel⟩, by decide +kernel⟩, tb4 183 rfl rfl, tb0 25 rfl rfl⟩
theorem cl_X9_132 : CV RX9 132 yX9_isInRaft cX9_isInRaft 5 (some .boolean) 2 := ⟨⟨tb4 218 rfl rfl, tb4 221 rfl rfl, tb1 14 rfl rfl, ⟨by decide +kernel, by decide +kernel⟩, by decide +kernel⟩, tb4 220 rfl rfl, tb0 33 rfl rfl⟩
theorem cl_X9_136 : CV RX9 136 yX9_fault cX9_fault 2 (some .int) 0 := ⟨⟨tb4 213 rfl rfl, tb4 180 rfl rfl, tb1 14 rfl rfl, ⟨by decide +kernel, by decide +kernel⟩, by decide +kernel⟩, tb4 178 rfl rfl, tb4 179 rfl rfl⟩
theorem cl_X9_139 : CV RX9 139 yX9_canBeLaid cX9_canBeLaid 4 (some .boolean) 0 := ⟨⟨tb4 214 rfl rfl, tb4 217 rfl rfl, tb1 14 rfl rfl, ⟨by decide +kernel, by decide +kernel⟩, by decide +kernel⟩, tb4 216 rfl rfl, tb0 32 rfl rfl⟩
theorem cl_X9_152 : CV RX9 152 yX9_isBeast cX9_isBeast 2 (some .boolean) 1 := ⟨⟨tb4 226 rfl rfl, tb4 229 rfl rfl, tb1 14 rfl rfl, ⟨by decide +kernel, by decide +kernel⟩, by decide +kernel⟩, tb4 228 rfl rfl, tb0 34 rfl rfl⟩
theorem cl_X9_156 : CV RX9 156 yX9_raftOf cX9_raftOf 3 (some .int) 1 := ⟨⟨tb4 230 rfl rfl, tb4 233 rfl rfl, tb1 14 rfl rfl, ⟨by decide +kernel, by decide +kernel⟩, by decide +kernel⟩, tb4 232 rfl rfl, tb0 35 rfl rfl⟩
theorem cl_X9_159 : CV RX9 159 yX9_ahead cX9_ahead 5 (some .int) 1 := ⟨⟨tb4 234 rfl rfl, tb4 237 rfl rfl, tb1 14 rfl rfl, ⟨by decide +kernel, by decide +kernel⟩, by decide +kernel⟩, tb4 236 rfl rfl, tb0 36 rfl rfl⟩
theorem cl_X9_162 : CV RX9 162 yX9_currentIn cX9_currentIn 5 (some .int) 1 := ⟨⟨tb5 2 rfl rfl, tb5 5 rfl rfl, tb1 14 rfl rfl, ⟨by decide +kernel, by decide +kernel⟩, by decide +kernel⟩, tb5 4 rfl rfl, tb0 37 rfl rfl⟩
theorem cl_X9_176 : CV RX9 176 yX9_takesIn cX9_takesIn 4 (some .int) 1 := ⟨⟨tb5 18 rfl rfl, tb5 21 rfl rfl, tb1 14 rfl rfl, ⟨by decide +kernel, by decide +kernel⟩, by decide +kernel⟩, tb5 20 rfl rfl, tb0 40 rfl rfl⟩
theorem cl_X9_179 : CV RX9 179 yX9_hasHelp cX9_hasHelp 5 (some .boolean) 2 := ⟨⟨tb5 26 rfl rfl, tb5 29 rfl rfl, tb1 14 rfl rfl, ⟨by decide +kernel, by decide +kernel⟩, by decide +kernel⟩, tb5 28 rfl rfl, tb0 41 rfl rfl⟩
theorem cl_X9_185 : CV RX9 185 yX9_strokeOf cX9_strokeOf 11 (some .int) 5 := ⟨⟨tb5 30 rfl rfl, tb5 33 rfl rfl, tb1 14 rfl rfl, ⟨by decide +kernel, by decide +kernel⟩, by decide +kernel⟩, tb5 32 rfl rfl, tb0 42 rfl rfl⟩
theorem cl_X9_189 : CV RX9 189 yX9_raftStroke cX9_raftStroke 7 (some .int) 4 := ⟨⟨tb5 34 rfl rfl, tb5 37 rfl rfl, tb1 14 rfl rfl, ⟨by decide +kernel, by decide +kernel⟩, by decide +kernel⟩, tb5 36 rfl rfl, tb0 43 rfl rfl⟩
theorem cl_X9_196 : CV RX9 196 yX9_plain cX9_plain 1 none 0 := ⟨⟨tb5 10 rfl rfl, tb5 13 rfl rfl, tb1 14 rfl rfl, ⟨by decide +kernel, by decide +kernel⟩, by decide +kernel⟩, tb5 12 rfl rfl, tb0 38 rfl rfl⟩
theorem cl_X9_199 : CV RX9 199 yX9_cross cX9_cross 9 none 2 := ⟨⟨tb5 14 rfl rfl, tb5 17 rfl rfl, tb1 14 rfl rfl, ⟨by decide +kernel, by decide +kernel⟩, by decide +kernel⟩, tb5 16 rfl rfl, tb0 39 rfl rfl⟩
theorem cl_X9_203 : CV RX9 203 yX9_crossNow cX9_crossNow 1 none 0 := ⟨⟨tb5 42 rfl rfl, tb5 45 rfl rfl, tb1 14 rfl rfl, ⟨by decide +kernel, by decide +kernel⟩, by decide +kernel⟩, tb5 44 rfl rfl, tb0 44 rfl rfl⟩
theorem cl_X9_206 : CV RX9 206 yX9_rankedWith cX9_rankedWith 3 (some .int) 2 := ⟨⟨tb5 58 rfl rfl, tb5 61 rfl rfl, tb1 14 rfl rfl, ⟨by decide +kernel, by decide +kernel⟩, by decide +kernel⟩, tb5 60 rfl rfl, tb0 47 rfl rfl⟩
theorem cl_X9_210 : CV RX9 210 yX9_isAhead cX9_isAhead 8 (some .boolean) 3 := ⟨⟨tb5 54 rfl rfl, tb5 57 rfl rfl, tb1 14 rfl rfl, ⟨by decide +kernel, by decide +kernel⟩, by decide +kernel⟩, tb5 56 rfl rfl, tb0 46 rfl rfl⟩
theorem cl_X9_213 : CV RX9 213 yX9_rankOf cX9_rankOf 5 (some .int) 2 := ⟨⟨tb5 50 rfl rfl, tb5 53 rfl rfl, tb1 14 rfl rfl, ⟨by decide +kernel, by decide +kernel⟩, by decide +kernel⟩, tb5 52 rfl rfl, tb0 45 rfl rfl⟩
theorem cl_X9_216 : CV RX9 216 yX9_findRanks cX9_findRanks 3 none 1 := ⟨⟨tb5 66 rfl rfl, tb5 69 rfl rfl, tb1 14 rfl rfl, ⟨by decide +kernel, by decide +kernel⟩, by decide +kernel⟩, tb5 68 rfl rfl, tb0 48 rfl rfl⟩
theorem cl_X9_220 : CV RX9 220 yX9_copy cX9_copy 4 none 2 := ⟨⟨tb5 78 rfl rfl, tb5 81 rfl rfl, tb1 14 rfl rfl, ⟨by decide +kernel, by decide +kernel⟩, by decide +kernel⟩, tb5 80 rfl rfl, tb0 50 rfl rfl⟩
theorem cl_X9_223 : CV RX9 223 yX9_know cX9_know 2 none 0 := ⟨⟨tb5 74 rfl rfl, tb5 77 rfl rfl, tb1 14 rfl rfl, ⟨by decide +kernel, by decide +kernel⟩, by decide +kernel⟩, tb5 76 rfl rfl, tb0 49 rfl rfl⟩
theorem cl_X9_226 : CV RX9 226 yX9_hasRider cX9_hasRider 4 (some .boolean) 1 := ⟨⟨tb5 86 rfl rfl, tb5 89 rfl rfl, tb1 14 rfl rfl, ⟨by decide +kernel, by decide +kernel⟩, by decide +kernel⟩, tb5 88 rfl rfl, tb0 51 rfl rfl⟩
theorem cl_X9_229 : CV RX9 229 yX9_rankTried cX9_rankTried 2 (some .int) 1 := ⟨⟨tb5 102 rfl rfl, tb5 105 rfl rfl, tb1 14 rfl rfl, ⟨by decide +kernel, by decide +kernel⟩, by decide +kernel⟩, tb5 104 rfl rfl, tb0 52 rfl rfl⟩
theorem cl_X9_232 : CV RX9 232 yX9_firstOne cX9_firstOne 2 (some .int) 1 := ⟨⟨tb5 118 rfl rfl, tb5 121 rfl rfl, tb1 14 rfl rfl, ⟨by decide +kernel, by decide +kernel⟩, by decide +kernel⟩, tb5 120 rfl rfl, tb0 53 rfl rfl⟩
theorem cl_X9_235 : CS RX9 235 yX9_off cX9_off 2 (some .int) 2 := ⟨⟨tb5 126 rfl rfl, tb5 128 rfl rfl, tb1 14 rfl rfl, ⟨by decide +kernel, by decide +kernel⟩, by decide +kernel⟩, tb5 127 rfl rfl⟩
theorem cl_X9_238 : CV RX9 238 yX9_findOrder cX9_findOrder 7 none 0 := ⟨⟨tb5 133 rfl rfl, tb5 136 rfl rfl, tb1 14 rfl rfl, ⟨by decide +kernel, by decide +kernel⟩, by decide +kernel⟩, tb5 135 rfl rfl, tb0 54 rfl rfl⟩
theorem cl_X9_241 : CV RX9 241 yX9_fits cX9_fits 5 (some .boolean) 2 := ⟨⟨tb5 157 rfl rfl, tb5 160 rfl rfl, tb1 14 rfl rfl, ⟨by decide +kernel, by decide +kernel⟩, by decide +kernel⟩, tb5 159 rfl rfl, tb0 55 rfl rfl⟩
theorem cn_within : CN yX8_within cX8_within 3 (some .boolean) 3 := ⟨tb1 204 rfl rfl, tb1 1 rfl rfl, ⟨by decide +kernel, by decide +kernel⟩, by decide +kernel, tb1 203 rfl rfl⟩
theorem kc_J6_265 : Cond.constant RJ6 265 (1431655765) ∈ TB := tb3 189 rfl rfl
theorem kc_J6_266 : Cond.constant RJ6 266 (858993459) ∈ TB := tb3 190 rfl rfl
theorem kc_J6_267 : Cond.constant RJ6 267 (252645135) ∈ TB := tb3 191 rfl rfl
theorem kl_X4_56 : Cond.constantLong RX4 56 (7919) ∈ TB := tb4 16 rfl rfl
theorem kl_X4_58 : Cond.constantLong RX4 58 (6151) ∈ TB := tb4 17 rfl rfl
theorem kl_X4_60 : Cond.constantLong RX4 60 (65521) ∈ TB := tb4 18 rfl rfl
theorem kl_X4_62 : Cond.constantLong RX4 62 (6) ∈ TB := tb4 19 rfl rfl
theorem kl_X9_168 : Cond.constantLong RX9 168 (7919) ∈ TB := tb5 22 rfl rfl
theorem kl_X9_170 : Cond.constantLong RX9 170 (6151) ∈ TB := tb5 23 rfl rfl
theorem kl_X9_172 : Cond.constantLong RX9 172 (65521) ∈ TB := tb5 24 rfl rfl
theorem kl_X9_174 : Cond.constantLong RX9 174 (6) ∈ TB := tb5 25 rfl rfl
theorem vc_0 : vwCl[0]? = some (RX0, TX0, 2) := rfl
theorem vc_1 : vwCl[1]? = some (RX1, TX1, 4) := rfl
theorem vc_2 : vwCl[2]? = some (RX2, TX2, 1) := rfl
theorem vc_3 : vwCl[3]? = some (RX3, TX3, 3) := rfl
theorem vc_4 : vwCl[4]? = some (RX4, TX4, 15) := rfl
theorem vc_5 : vwCl[5]? = some (RX5, TX5, 2) := rfl
theorem vc_6 : vwCl[6]? = some (RX6, TX6, 18) := rfl
theorem vc_7 : vwCl[7]? = some (RX7, TX7, 3) := rfl
theorem vc_8 : vwCl[8]? = some (RX8, TX8, 11) := rfl
theorem vc_9 : vwCl[9]? = some (RX9, TX9, 34) := rfl
theorem nb_m4 : (Int8.ofInt (-4)).toInt32 = (-4 : Int32) := by decide +kernel
theorem nb_m3 : (Int8.ofInt (-3)).toInt32 = (-3 : Int32) := by decide +kernel
theorem nb_m2 : (Int8.ofInt (-2)).toInt32 = (-2 : Int32) := by decide +kernel
theorem nb_6 : (Int8.ofInt 6).toInt32 = (6 : Int32) := by decide +kernel
theorem nb_7 : (Int8.ofInt 7).toInt32 = (7 : Int32) := by decide +kernel
theorem nb_8 : (Int8.ofInt 8).toInt32 = (8 : Int32) := by decide +kernel
theorem nb_9 : (Int8.ofInt 9).toInt32 = (9 : Int32) := by decide +kernel
theorem nb_10 : (Int8.ofInt 10).toInt32 = (10 : Int32) := by decide +kernel
theorem nb_12 : (Int8.ofInt 12).toInt32 = (12 : Int32) := by decide +kernel
theorem nb_16 : (Int8.ofInt 16).toInt32 = (16 : Int32) := by decide +kernel
theorem nb_30 : (Int8.ofInt 30).toInt32 = (30 : Int32) := by decide +kernel
theorem nb_31 : (Int8.ofInt 31).toInt32 = (31 : Int32) := by decide +kernel
theorem nb_32 : (Int8.ofInt 32).toInt32 = (32 : Int32) := by decide +kernel
theorem nb_40 : (Int8.ofInt 40).toInt32 = (40 : Int32) := by decide +kernel
theorem nb_44 : (Int8.ofInt 44).toInt32 = (44 : Int32) := by decide +kernel
theorem nb_48 : (Int8.ofInt 48).toInt32 = (48 : Int32) := by decide +kernel
theorem nb_57 : (Int8.ofInt 57).toInt32 = (57 : Int32) := by decide +kernel
theorem nb_59 : (Int8.ofInt 59).toInt32 = (59 : Int32) := by decide +kernel
theorem nb_63 : (Int8.ofInt 63).toInt32 = (63 : Int32) := by decide +kernel
theorem nb_64 : (Int8.ofInt 64).toInt32 = (64 : Int32) := by decide +kernel
theorem nb_99 : (Int8.ofInt 99).toInt32 = (99 : Int32) := by decide +kernel
theorem nb_100 : (Int8.ofInt 100).toInt32 = (100 : Int32) := by decide +kernel
theorem nb_112 : (Int8.ofInt 112).toInt32 = (112 : Int32) := by decide +kernel
theorem nb_126 : (Int8.ofInt 126).toInt32 = (126 : Int32) := by decide +kernel
theorem nc_m1 : Int32.ofInt (-1) = (-1 : Int32) := by decide +kernel
theorem nc_0 : Int32.ofInt 0 = (0 : Int32) := by decide +kernel
theorem nc_1 : Int32.ofInt 1 = (1 : Int32) := by decide +kernel
theorem nc_2 : Int32.ofInt 2 = (2 : Int32) := by decide +kernel
theorem nc_3 : Int32.ofInt 3 = (3 : Int32) := by decide +kernel
theorem nc_4 : Int32.ofInt 4 = (4 : Int32) := by decide +kernel
theorem nc_5 : Int32.ofInt 5 = (5 : Int32) := by decide +kernel
theorem ns_144 : (Int16.ofInt 144).toInt32 = (144 : Int32) := by decide +kernel
theorem ns_176 : (Int16.ofInt 176).toInt32 = (176 : Int32) := by decide +kernel
theorem ns_184 : (Int16.ofInt 184).toInt32 = (184 : Int32) := by decide +kernel
theorem ns_192 : (Int16.ofInt 192).toInt32 = (192 : Int32) := by decide +kernel
theorem ns_200 : (Int16.ofInt 200).toInt32 = (200 : Int32) := by decide +kernel
theorem ns_201 : (Int16.ofInt 201).toInt32 = (201 : Int32) := by decide +kernel
theorem ns_255 : (Int16.ofInt 255).toInt32 = (255 : Int32) := by decide +kernel
theorem ns_256 : (Int16.ofInt 256).toInt32 = (256 : Int32) := by decide +kernel
theorem ns_999 : (Int16.ofInt 999).toInt32 = (999 : Int32) := by decide +kernel
theorem ns_9999 : (Int16.ofInt 9999).toInt32 = (9999 : Int32) := by decide +kernel
theorem ni_m1 (x : Int32) : x + Int32.ofInt (-1) = x - 1 := by rw [show Int32.ofInt (-1) = (-1 : Int32) by decide +kernel, Int32.sub_eq_add_neg]
theorem ni_1 (x : Int32) : x + Int32.ofInt 1 = x + 1 := by rw [show Int32.ofInt 1 = (1 : Int32) by decide +kernel]
theorem ni_5 (x : Int32) : x + Int32.ofInt 5 = x + 5 := by rw [show Int32.ofInt 5 = (5 : Int32) by decide +kernel]
theorem na0 {N : Nat} (h : 16 ≤ N) : 0 < N := by omega
theorem na1 {N : Nat} (h : 16 ≤ N) : 1 < N := by omega
theorem na2 {N : Nat} (h : 16 ≤ N) : 2 < N := by omega
theorem na3 {N : Nat} (h : 16 ≤ N) : 3 < N := by omega
theorem na4 {N : Nat} (h : 16 ≤ N) : 4 < N := by omega
theorem na5 {N : Nat} (h : 16 ≤ N) : 5 < N := by omega
theorem na6 {N : Nat} (h : 16 ≤ N) : 6 < N := by omega
theorem na7 {N : Nat} (h : 16 ≤ N) : 7 < N := by omega
theorem na8 {N : Nat} (h : 16 ≤ N) : 8 < N := by omega
theorem na9 {N : Nat} (h : 16 ≤ N) : 9 < N := by omega
theorem na10 {N : Nat} (h : 16 ≤ N) : 10 < N := by omega
theorem na11 {N : Nat} (h : 16 ≤ N) : 11 < N := by omega
theorem na12 {N : Nat} (h : 16 ≤ N) : 12 < N := by omega
theorem na13 {N : Nat} (h : 16 ≤ N) : 13 < N := by omega
theorem na14 {N : Nat} (h : 16 ≤ N) : 14 < N := by omega
theorem na15 {N : Nat} (h : 16 ≤ N) : 15 < N := by omega
theorem nb0 {N : Nat} (h : 52 ≤ N) : 0 < N := by omega
theorem nb1 {N : Nat} (h : 52 ≤ N) : 1 < N := by omega
theorem nb2 {N : Nat} (h : 52 ≤ N) : 2 < N := by omega
theorem nb3 {N : Nat} (h : 52 ≤ N) : 3 < N := by omega
theorem nb4 {N : Nat} (h : 52 ≤ N) : 4 < N := by omega
theorem nb5 {N : Nat} (h : 52 ≤ N) : 5 < N := by omega
theorem nb6 {N : Nat} (h : 52 ≤ N) : 6 < N := by omega
theorem nb7 {N : Nat} (h : 52 ≤ N) : 7 < N := by omega
theorem nb8 {N : Nat} (h : 52 ≤ N) : 8 < N := by omega
theorem nb9 {N : Nat} (h : 52 ≤ N) : 9 < N := by omega
theorem nb10 {N : Nat} (h : 52 ≤ N) : 10 < N := by omega
theorem nb11 {N : Nat} (h : 52 ≤ N) : 11 < N := by omega
theorem nb12 {N : Nat} (h : 52 ≤ N) : 12 < N := by omega
theorem nb13 {N : Nat} (h : 52 ≤ N) : 13 < N := by omega
theorem nb14 {N : Nat} (h : 52 ≤ N) : 14 < N := by omega
theorem nb15 {N : Nat} (h : 52 ≤ N) : 15 < N := by omega
theorem nb16 {N : Nat} (h : 52 ≤ N) : 16 < N := by omega
theorem nb17 {N : Nat} (h : 52 ≤ N) : 17 < N := by omega
theorem nb18 {N : Nat} (h : 52 ≤ N) : 18 < N := by omega
theorem nb19 {N : Nat} (h : 52 ≤ N) : 19 < N := by omega
theorem nb20 {N : Nat} (h : 52 ≤ N) : 20 < N := by omega
theorem nb21 {N : Nat} (h : 52 ≤ N) : 21 < N := by omega
theorem nb22 {N : Nat} (h : 52 ≤ N) : 22 < N := by omega
theorem nb23 {N : Nat} (h : 52 ≤ N) : 23 < N := by omega
theorem nb24 {N : Nat} (h : 52 ≤ N) : 24 < N := by omega
theorem nb25 {N : Nat} (h : 52 ≤ N) : 25 < N := by omega
theorem nb26 {N : Nat} (h : 52 ≤ N) : 26 < N := by omega
theorem nb27 {N : Nat} (h : 52 ≤ N) : 27 < N := by omega
theorem nb28 {N : Nat} (h : 52 ≤ N) : 28 < N := by omega
theorem nb29 {N : Nat} (h : 52 ≤ N) : 29 < N := by omega
theorem nb30 {N : Nat} (h : 52 ≤ N) : 30 < N := by omega
theorem nb31 {N : Nat} (h : 52 ≤ N) : 31 < N := by omega
theorem nb32 {N : Nat} (h : 52 ≤ N) : 32 < N := by omega
theorem nb33 {N : Nat} (h : 52 ≤ N) : 33 < N := by omega
theorem nb34 {N : Nat} (h : 52 ≤ N) : 34 < N := by omega
theorem nb35 {N : Nat} (h : 52 ≤ N) : 35 < N := by omega
theorem nb36 {N : Nat} (h : 52 ≤ N) : 36 < N := by omega
theorem nb37 {N : Nat} (h : 52 ≤ N) : 37 < N := by omega
theorem nb38 {N : Nat} (h : 52 ≤ N) : 38 < N := by omega
theorem nb39 {N : Nat} (h : 52 ≤ N) : 39 < N := by omega
theorem nb40 {N : Nat} (h : 52 ≤ N) : 40 < N := by omega
theorem nb41 {N : Nat} (h : 52 ≤ N) : 41 < N := by omega
theorem nb42 {N : Nat} (h : 52 ≤ N) : 42 < N := by omega
theorem nb43 {N : Nat} (h : 52 ≤ N) : 43 < N := by omega
theorem nb44 {N : Nat} (h : 52 ≤ N) : 44 < N := by omega
theorem nb45 {N : Nat} (h : 52 ≤ N) : 45 < N := by omega
theorem nb46 {N : Nat} (h : 52 ≤ N) : 46 < N := by omega
theorem nb47 {N : Nat} (h : 52 ≤ N) : 47 < N := by omega
theorem nb48 {N : Nat} (h : 52 ≤ N) : 48 < N := by omega
theorem nb49 {N : Nat} (h : 52 ≤ N) : 49 < N := by omega
theorem nb50 {N : Nat} (h : 52 ≤ N) : 50 < N := by omega
theorem nb51 {N : Nat} (h : 52 ≤ N) : 51 < N := by omega
theorem nm0 {N : Nat} (h : 26 ≤ N) : 0 < N := by omega
theorem nm1 {N : Nat} (h : 26 ≤ N) : 1 < N := by omega
theorem nm2 {N : Nat} (h : 26 ≤ N) : 2 < N := by omega
theorem nm3 {N : Nat} (h : 26 ≤ N) : 3 < N := by omega
theorem nm4 {N : Nat} (h : 26 ≤ N) : 4 < N := by omega
theorem nm5 {N : Nat} (h : 26 ≤ N) : 5 < N := by omega
theorem nm6 {N : Nat} (h : 26 ≤ N) : 6 < N := by omega
theorem nm7 {N : Nat} (h : 26 ≤ N) : 7 < N := by omega
theorem nm8 {N : Nat} (h : 26 ≤ N) : 8 < N := by omega
theorem nm9 {N : Nat} (h : 26 ≤ N) : 9 < N := by omega
theorem nm10 {N : Nat} (h : 26 ≤ N) : 10 < N := by omega
theorem nm11 {N : Nat} (h : 26 ≤ N) : 11 < N := by omega
theorem nm12 {N : Nat} (h : 26 ≤ N) : 12 < N := by omega
theorem nm13 {N : Nat} (h : 26 ≤ N) : 13 < N := by omega
theorem nm14 {N : Nat} (h : 26 ≤ N) : 14 < N := by omega
theorem nm15 {N : Nat} (h : 26 ≤ N) : 15 < N := by omega
theorem nm16 {N : Nat} (h : 26 ≤ N) : 16 < N := by omega
theorem nm17 {N : Nat} (h : 26 ≤ N) : 17 < N := by omega
theorem nm18 {N : Nat} (h : 26 ≤ N) : 18 < N := by omega
theorem nm19 {N : Nat} (h : 26 ≤ N) : 19 < N := by omega
theorem nm20 {N : Nat} (h : 26 ≤ N) : 20 < N := by omega
theorem nm21 {N : Nat} (h : 26 ≤ N) : 21 < N := by omega
theorem nm22 {N : Nat} (h : 26 ≤ N) : 22 < N := by omega
theorem nm23 {N : Nat} (h : 26 ≤ N) : 23 < N := by omega
theorem nm24 {N : Nat} (h : 26 ≤ N) : 24 < N := by omega
theorem nm25 {N : Nat} (h : 26 ≤ N) : 25 < N := by omega
theorem nbool {x : Int32} (h : x = 0 ∨ x = 1) : narrow .boolean (.int x) = .int x := by rcases h with rfl | rfl <;> rfl
theorem fbool {x : Int32} (h : x = 0 ∨ x = 1) : fits .boolean (.int x) = true := by rcases h with rfl | rfl <;> rfl
