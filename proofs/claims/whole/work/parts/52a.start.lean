/-! the start: the first text as both hold it -/
def eqs (w : Mm) (a : Nat) (l : List Int32) : Bool := (List.range l.length).all (fun i => decide (w a i = l.getD i 99))
theorem eqs_at {w : Mm} {a : Nat} {l : List Int32} (h : eqs w a l = true) {i : Nat} (hi : i < l.length) : w a i = l.getD i 99 := by
  unfold eqs at h
  rw [List.all_eq_true] at h
  exact of_decide_eq_true (h i (List.mem_range.mpr hi))
def chkM (τ : Mm) : Bool := eqs τ 2 [6] && (eqs τ 3 [3, 5, 7, 4, 6, 2] && (eqs τ 4 [1, 8, 6, 3, 4, 2] && (eqs τ 5 [1, 0, 2, 3, 0, 0] && (eqs τ 6 [0, 2, 0, 0, 1, 0] && (eqs τ 7 [40] && (eqs τ 8 [2] && (eqs τ 9 [0, 8] && (eqs τ 10 [1, 2] && (eqs τ 11 [1, -4, -4, -4, -4, -4] && (eqs τ 12 [1] && (eqs τ 13 [3, 4, 5] && (eqs τ 14 [2, 0, 0, 0, 0, 1] && (eqs τ 15 [2] && (eqs τ 16 [1, 3, 1, 0, 0, 0] && (eqs τ 17 [12, 30, 7, 0, 0, 0] && (eqs τ 18 [0, 2, 0, 0, 1, 0, 0, 0, 1, -4, -4, -4, -4, -4] && (decide (τ 0 1 = 0) && (decide (τ 0 21 = 0) && (decide (τ 0 22 = 0) && decide (τ 0 33 = 0))))))))))))))))))))
theorem init_m0 : (match fX9_initTail zM with | some τ => chkM τ | none => false) = true := by decide +kernel
