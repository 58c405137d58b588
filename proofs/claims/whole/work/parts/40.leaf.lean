/-! CONTRACTS of the small methods -/
theorem tk_up_s (M : tk_M) (c j : Nat) (v : Int) : tk_up M c j v c j = v := by simp [tk_up]
theorem tk_up_j (M : tk_M) (c j : Nat) (v : Int) {k : Nat} (h : k ≠ j) : tk_up M c j v c k = M c k := by simp [tk_up, h]
theorem tk_up_c (M : tk_M) (c j : Nat) (v : Int) {a : Nat} (h : a ≠ c) (b : Nat) : tk_up M c j v a b = M a b := tk_up_ne h b
def f_in (v a b : Int) : Int := if a ≤ v ∧ v ≤ b then 1 else 0
def f_b (x : Int) : Int := if x = 0 then 0 else 1
theorem k_TK_isWithin (l : Launch) (v a b : Int) (M : tk_M) : tk_C l y_TK_isWithin 0 0 [.inl v, .inl a, .inl b] M (fun r M' => r = .inl (some (f_in v a b)) ∧ M' = M) := by
  refine tk_C.of wc_TK_isWithin rfl (Nat.le_of_ble_eq_true rfl) fun hr hM => ?_
  refine tk_goA fo_TK co_TK tg_TK_isWithin 20 [] ?_
  repeat' first | refine And.intro ?_ ?_ | intro _
  all_goals first | rfl | exact Or.inl rfl | exact Or.inr rfl | skip
  all_goals try simp only [tk_c] at *
  all_goals (unfold f_in; split <;> first | rfl | omega)
theorem k_Ti_forgetAll (l : Launch) (t : Nat) (ht : t < 8) (M : tk_M) : tk_C l y_Ti_forgetAll 0 0 [.inr (73 + t)] M (fun r M' => r = .inl none ∧ M' = tk_up (tk_up (tk_up (tk_up M (73 + t) 0 0) (73 + t) 9 0) (73 + t) 10 0) (73 + t) 12 (-1)) := by
  refine tk_C.of wc_Ti_forgetAll rfl (Nat.le_of_ble_eq_true rfl) fun hr hM => ?_
  refine tk_goA fo_Ti co_Ti tg_Ti_forgetAll 20 [] ?_
  repeat' first | refine And.intro ?_ ?_ | intro _
  all_goals first | omega | rfl
theorem k_Ti_join (l : Launch) (t : Nat) (ht : t < 8) (x : Int) (M : tk_M) : tk_C l y_Ti_join 0 0 [.inr (73 + t), .inl x] M (fun r M' => r = .inl none ∧ M' = tk_up (tk_up (tk_up (tk_up M (73 + t) 0 1) (73 + t) 1 x) (73 + t) 2 0) (73 + t) 7 0) := by
  refine tk_C.of wc_Ti_join rfl (Nat.le_of_ble_eq_true rfl) fun hr hM => ?_
  refine tk_goA fo_Ti co_Ti tg_Ti_join 20 [] ?_
  repeat' first | refine And.intro ?_ ?_ | intro _
  all_goals first | omega | rfl
theorem k_Ti_wasBeyond (l : Launch) (t : Nat) (ht : t < 8) (x : Int) (M : tk_M) : tk_C l y_Ti_wasBeyond 0 0 [.inr (73 + t), .inl x] M (fun r M' => r = .inl (some (if ¬ M (73 + t) 2 = 0 ∧ x < M (73 + t) 4 then 1 else 0)) ∧ M' = M) := by
  refine tk_C.of wc_Ti_wasBeyond rfl (Nat.le_of_ble_eq_true rfl) fun hr hM => ?_
  refine tk_goA fo_Ti co_Ti tg_Ti_wasBeyond 20 [] ?_
  repeat' first | refine And.intro ?_ ?_ | intro _
  all_goals first | rfl | exact Or.inl rfl | exact Or.inr rfl | skip
  all_goals try simp only [tk_c] at *
  all_goals first | omega | rfl | exact Or.inl rfl | exact Or.inr rfl | (split <;> first | rfl | omega)
theorem k_Ti_hasLeft (l : Launch) (t : Nat) (ht : t < 8) (x : Int) (M : tk_M) : tk_C l y_Ti_hasLeft 0 0 [.inr (73 + t), .inl x] M (fun r M' => r = .inl (some (if ¬ M (73 + t) 10 = 0 ∧ x < M (73 + t) 6 then 1 else 0)) ∧ M' = M) := by
  refine tk_C.of wc_Ti_hasLeft rfl (Nat.le_of_ble_eq_true rfl) fun hr hM => ?_
  refine tk_goA fo_Ti co_Ti tg_Ti_hasLeft 20 [] ?_
  repeat' first | refine And.intro ?_ ?_ | intro _
  all_goals first | rfl | exact Or.inl rfl | exact Or.inr rfl | skip
  all_goals try simp only [tk_c] at *
  all_goals first | omega | rfl | exact Or.inl rfl | exact Or.inr rfl | (split <;> first | rfl | omega)
theorem k_Ti_holds (l : Launch) (t : Nat) (ht : t < 8) (x : Int) (M : tk_M) : tk_C l y_Ti_holds 0 0 [.inr (73 + t), .inl x] M (fun r M' => r = .inl (some (if ¬ M (73 + t) 12 = -1 ∧ M (73 + t) 5 < x ∧ x ≤ M (73 + t) 12 then 1 else 0)) ∧ M' = M) := by
  refine tk_C.of wc_Ti_holds rfl (Nat.le_of_ble_eq_true rfl) fun hr hM => ?_
  refine tk_goA fo_Ti co_Ti tg_Ti_holds 20 [] ?_
  repeat' first | refine And.intro ?_ ?_ | intro _
  all_goals first | rfl | exact Or.inl rfl | exact Or.inr rfl | skip
  all_goals try simp only [tk_c] at *
  all_goals first | omega | rfl | exact Or.inl rfl | exact Or.inr rfl | (split <;> first | rfl | omega)
def f_tell (M : tk_M) (c : Nat) (w : Int) : Int := if w = 0 then f_b (M c 0) else if w = 1 then f_b (M c 9) else if w = 2 then f_b (M c 10) else if w = 3 then M c 12 else if w = 4 then (if M c 9 = 0 then -1 else M c 6) else (if M c 9 = 0 then -1 else M c 5)
theorem k_Ti_tell (l : Launch) (t : Nat) (ht : t < 8) (w : Int) (M : tk_M) : tk_C l y_Ti_tell 0 0 [.inr (73 + t), .inl w] M (fun r M' => r = .inl (some (f_tell M (73 + t) w)) ∧ M' = M) := by
  refine tk_C.of wc_Ti_tell rfl (Nat.le_of_ble_eq_true rfl) fun hr hM => ?_
  refine tk_goA fo_Ti co_Ti tg_Ti_tell 20 [] ?_
  repeat' first | refine And.intro ?_ ?_ | intro _
  all_goals first | rfl | exact Or.inl rfl | exact Or.inr rfl | skip
  all_goals try simp only [tk_c] at *
  all_goals first | omega | rfl | trivial | (unfold f_tell f_b; (repeat' split) <;> first | rfl | omega)
def f_loc (M : tk_M) (c : Nat) (tm mu : Int) : Int := if ¬ M c 0 = 0 ∧ ¬ M c 2 = 0 ∧ tm - M c 3 ≤ mu then 1 else 0
def f_who (M : tk_M) (c : Nat) (tm mu ke : Int) : Int := if (¬ M c 0 = 0 ∧ ¬ M c 2 = 0 ∧ tm - M c 3 ≤ mu) ∧ ¬ M c 7 = 0 ∧ tm - M c 8 ≤ ke then 1 else 0
theorem k_Ti_judge (l : Launch) (t : Nat) (ht : t < 8) (tm mu ke : Int) (M : tk_M) (h0 : 0 ≤ tm) (h3 : 0 ≤ M (73 + t) 3) (h8 : 0 ≤ M (73 + t) 8) : tk_C l y_Ti_judge 0 0 [.inr (73 + t), .inl tm, .inl mu, .inl ke] M (fun r M' => r = .inl none ∧ M' = tk_up (tk_up M (73 + t) 9 (f_loc M (73 + t) tm mu)) (73 + t) 10 (f_who M (73 + t) tm mu ke)) := by
  refine tk_C.of wc_Ti_judge rfl (Nat.le_of_ble_eq_true rfl) fun hr hM => ?_
  have htm := hr (.inl tm) (by simp)
  simp only [tk_ru] at htm
  refine tk_goA fo_Ti co_Ti tg_Ti_judge 50 [] ?_
  repeat' first | refine And.intro ?_ ?_ | intro _
  all_goals first | rfl | exact Or.inl rfl | exact Or.inr rfl | skip
  all_goals try simp only [tk_c, tk_up_s, tk_up_j _ _ _ _ (show (7 : Nat) ≠ 9 by decide), tk_up_j _ _ _ _ (show (8 : Nat) ≠ 9 by decide)] at *
  all_goals first | omega | trivial | skip
  all_goals refine congr (congrArg (fun z => tk_up z (73 + t) 10) (congrArg (tk_up M (73 + t) 9) ?_)) ?_
  all_goals first | (unfold f_loc; split <;> omega) | (unfold f_who; split <;> omega)
