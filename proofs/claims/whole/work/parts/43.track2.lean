/-! CONTRACTS: adding, emptying, counting, states -/
/-- slot j of n cells from lo on -/
def tk_st (lo n j : Nat) (v : Int) (M : tk_M) : tk_M := fun c k => if lo ≤ c ∧ c < lo + n ∧ k = j then v else M c k
theorem tk_st_0 (lo j : Nat) (v : Int) (M : tk_M) : tk_st lo 0 j v M = M := by
  funext c k
  unfold tk_st
  rw [if_neg (by omega)]
theorem tk_st_s (lo n j : Nat) (v : Int) (M : tk_M) : tk_up (tk_st lo n j v M) (lo + n) j v = tk_st lo (n + 1) j v M := by
  funext c k
  unfold tk_up tk_st
  by_cases h : c = lo + n ∧ k = j
  · rw [if_pos h, if_pos (by omega)]
  · rw [if_neg h]
    by_cases h2 : lo ≤ c ∧ c < lo + n ∧ k = j
    · rw [if_pos h2, if_pos (by omega)]
    · rw [if_neg h2, if_neg (by omega)]
theorem tk_st_o {lo n j : Nat} {v : Int} {M : tk_M} {c k : Nat} (h : ¬ (lo ≤ c ∧ c < lo + n ∧ k = j)) : tk_st lo n j v M c k = M c k := by
  unfold tk_st
  rw [if_neg h]
theorem tk_st_i {lo n j : Nat} {v : Int} {M : tk_M} {c : Nat} (h : lo ≤ c) (h2 : c < lo + n) : tk_st lo n j v M c j = v := by
  unfold tk_st
  rw [if_pos ⟨h, h2, rfl⟩]
theorem tk_up_comm (M : tk_M) {a b c d : Nat} (x y : Int) (h : ¬ (a = c ∧ b = d)) : tk_up (tk_up M a b x) c d y = tk_up (tk_up M c d y) a b x := by
  funext e f
  unfold tk_up
  by_cases h1 : e = c ∧ f = d
  · rw [if_pos h1, if_neg (fun z => h ⟨z.1.symm.trans h1.1, z.2.symm.trans h1.2⟩), if_pos h1]
  · rw [if_neg h1]
    by_cases h2 : e = a ∧ f = b
    · rw [if_pos h2, if_pos h2]
    · rw [if_neg h2, if_neg h2, if_neg h1]
theorem tk_st_up {lo n j : Nat} {v w : Int} {M : tk_M} {c k : Nat} (h : ¬ (lo ≤ c ∧ c < lo + n ∧ k = j)) : tk_up (tk_st lo n j v M) c k w = tk_st lo n j v (tk_up M c k w) := by
  funext e f
  unfold tk_up tk_st
  by_cases h1 : e = c ∧ f = k
  · rw [if_pos h1, if_neg (by rw [h1.1, h1.2]; exact h)]; dsimp only; rw [if_pos h1]
  · rw [if_neg h1]
    by_cases h2 : lo ≤ e ∧ e < lo + n ∧ f = j
    · rw [if_pos h2, if_pos h2]
    · rw [if_neg h2, if_neg h2]; dsimp only; rw [if_neg h1]
/-- two slots of the same cells -/
def tk_st2 (lo n j1 j2 : Nat) (v1 v2 : Int) (M : tk_M) : tk_M := tk_st lo n j2 v2 (tk_st lo n j1 v1 M)
theorem tk_st2_s (lo n j1 j2 : Nat) (hj : j1 ≠ j2) (v1 v2 : Int) (M : tk_M) : tk_up (tk_up (tk_st2 lo n j1 j2 v1 v2 M) (lo + n) j1 v1) (lo + n) j2 v2 = tk_st2 lo (n + 1) j1 j2 v1 v2 M := by
  unfold tk_st2
  rw [tk_st_up (by omega), tk_st_s, tk_st_s]
theorem lp_Tr_emptyAll1 (l : Launch) (M : tk_M) (hS : M 2 2 ≤ 10) (P : (Option Int ⊕ Nat) → tk_M → Prop) (hP : tk_At l "TrackKeeper$Track" prog_5_method_8_code 2 none 0 0 P 36 [some (.inr 2), some (.inl (M 2 2))] [] (tk_st2 31 (M 2 2).toNat 2 3 0 0 M)) : ∀ (n i : Nat), i + n = (M 2 2).toNat → 0 ≤ M 2 2 →
    tk_At l "TrackKeeper$Track" prog_5_method_8_code 2 none 0 0 P 2 [some (.inr 2), some (.inl (i : Int))] [] (tk_st2 31 i 2 3 0 0 M) := by
  intro n
  induction n with
  | zero =>
    intro i hi h0
    have e2 : tk_st2 31 i 2 3 0 0 M 2 2 = M 2 2 := by unfold tk_st2; rw [tk_st_o (by omega), tk_st_o (by omega)]
    refine tk_goA fo_Tr co_Tr tg_Tr_emptyAll 40 [2, 36] ?_
    refine And.intro ⟨by decide, by decide⟩ fun _ _ => And.intro (fun _ => ⟨(), ?_⟩) (fun h => ?_)
    · rw [show (i : Int) = M 2 2 by omega]
      rw [show i = (M 2 2).toNat by omega]
      exact hP
    · exact absurd (show tk_st2 31 i 2 3 0 0 M 2 2 ≤ (i : Int) by rw [e2]; omega) h
  | succ n ih =>
    intro i hi h0
    have e2 : tk_st2 31 i 2 3 0 0 M 2 2 = M 2 2 := by unfold tk_st2; rw [tk_st_o (by omega), tk_st_o (by omega)]
    have h9 := ih (i + 1) (by omega) h0
    refine tk_goA fo_Tr co_Tr tg_Tr_emptyAll 40 [2, 36] ?_
    repeat' first | refine And.intro ?_ ?_ | intro _
    all_goals first | rfl | exact Or.inl rfl | skip
    all_goals try simp only [tk_c, Int.toNat_natCast] at *
    all_goals try rw [e2] at *
    all_goals first | omega | skip
    refine ⟨(), ?_⟩
    rw [← tk_st2_s 31 i 2 3 (by decide)] at h9
    exact h9
theorem lp_Tr_emptyAll2 (l : Launch) (M : tk_M) (hS : M 2 3 ≤ 32) : ∀ (n i : Nat), i + n = (M 2 3).toNat → 0 ≤ M 2 3 →
    tk_At l "TrackKeeper$Track" prog_5_method_8_code 2 none 0 0 (fun r M' => r = .inl none ∧ M' = tk_up (tk_st 41 (M 2 3).toNat 2 0 M) 2 5 0) 38 [some (.inr 2), some (.inl (i : Int))] [] (tk_st 41 i 2 0 M) := by
  intro n
  induction n with
  | zero =>
    intro i hi h0
    have e2 : tk_st 41 i 2 0 M 2 3 = M 2 3 := by rw [tk_st_o (by omega)]
    refine tk_goA fo_Tr co_Tr tg_Tr_emptyAll 40 [38] ?_
    refine And.intro ⟨by decide, by decide⟩ fun _ _ => And.intro (fun _ => ?_) (fun h => ?_)
    · refine And.intro ⟨by decide, by decide⟩ ⟨rfl, ?_⟩
      rw [show i = (M 2 3).toNat by omega]
    · exact absurd (show tk_st 41 i 2 0 M 2 3 ≤ (i : Int) by rw [e2]; omega) h
  | succ n ih =>
    intro i hi h0
    have e2 : tk_st 41 i 2 0 M 2 3 = M 2 3 := by rw [tk_st_o (by omega)]
    have h9 := ih (i + 1) (by omega) h0
    refine tk_goA fo_Tr co_Tr tg_Tr_emptyAll 40 [38] ?_
    repeat' first | refine And.intro ?_ ?_ | intro _
    all_goals first | rfl | exact Or.inl rfl | skip
    all_goals try simp only [tk_c, Int.toNat_natCast] at *
    all_goals try rw [e2] at *
    all_goals first | omega | skip
    refine ⟨(), ?_⟩
    rw [← tk_st_s] at h9
    exact h9
def f_emp (M : tk_M) : tk_M := tk_up (tk_st 41 (M 2 3).toNat 2 0 (tk_st2 31 (M 2 2).toNat 2 3 0 0 M)) 2 5 0
theorem k_Tr_emptyAll (l : Launch) (M : tk_M) (h1 : 0 ≤ M 2 2) (h2 : M 2 2 ≤ 10) (h3 : 0 ≤ M 2 3) (h4 : M 2 3 ≤ 32) : tk_C l y_Tr_emptyAll 0 0 [.inr 2] M (fun r M' => r = .inl none ∧ M' = f_emp M) := by
  refine tk_C.of wc_Tr_emptyAll rfl (Nat.le_of_ble_eq_true rfl) fun hr hM => ?_
  refine tk_goA fo_Tr co_Tr tg_Tr_emptyAll 40 [2] ?_
  refine ⟨(), ?_⟩
  have h := lp_Tr_emptyAll1 l M h2 (fun r M' => r = .inl none ∧ M' = f_emp M) ?_ (M 2 2).toNat 0 (by omega) h1
  · rw [show tk_st2 31 0 2 3 0 0 M = M by unfold tk_st2; rw [tk_st_0, tk_st_0]] at h
    exact h
  · refine tk_goA fo_Tr co_Tr tg_Tr_emptyAll 40 [38] ?_
    refine ⟨(), ?_⟩
    have e2 : tk_st2 31 (M 2 2).toNat 2 3 0 0 M 2 3 = M 2 3 := by unfold tk_st2; rw [tk_st_o (by omega), tk_st_o (by omega)]
    have h := lp_Tr_emptyAll2 l (tk_st2 31 (M 2 2).toNat 2 3 0 0 M) (by rw [e2]; exact h4) (M 2 3).toNat 0 (by rw [e2]; omega) (by rw [e2]; exact h3)
    rw [tk_st_0, e2] at h
    exact h
def f_cs (M : tk_M) (c : Nat) (sp : Int) : tk_M := if M c 3 + 1 < sp then tk_up M c 3 (M c 3 + 1) else tk_up (tk_up (tk_up (tk_up M c 3 (M c 3 + 1)) c 3 0) c 4 1) 2 5 (M 2 5 + 1)
theorem k_Tr_countForSpread (l : Launch) (M : tk_M) (c : Nat) (sp : Int) (hc : 31 ≤ c) (hc2 : c < 41) (h0 : M c 3 < 2147483647) (h1 : M 2 5 < 2147483647) : tk_C l y_Tr_countForSpread 0 0 [.inr 2, .inr c, .inl sp] M (fun r M' => r = .inl none ∧ M' = f_cs M c sp) := by
  refine tk_C.of wc_Tr_countForSpread rfl (Nat.le_of_ble_eq_true rfl) fun hr hM => ?_
  have e9 : ∀ v w x y z : Int, tk_up (tk_up (tk_up M c 3 v) c 3 w) c 4 x 2 5 = M 2 5 := fun v w x y z => by rw [tk_up_c _ _ _ _ (by omega), tk_up_c _ _ _ _ (by omega), tk_up_c _ _ _ _ (by omega)]
  have hb := hM c 3
  have hb2 := hM 2 5
  refine tk_goA fo_Tr co_Tr tg_Tr_countForSpread 40 [] ?_
  repeat' first | refine And.intro ?_ ?_ | intro _
  all_goals first | rfl | exact Or.inr rfl | skip
  all_goals try simp only [tk_c, tk_up_s] at *
  all_goals first | omega | skip
  · rename_i h
    unfold f_cs
    rw [if_pos h]
  · rw [e9 _ _ _ 0 0]; omega
  · rw [e9 _ _ _ 0 0]
    unfold f_cs
    rw [if_neg (by omega)]
/-- may nothing come behind a train with its rear there -/
def f_ncf (M : tk_M) (r : Int) : Int := if M (31 + (M (41 + r.toNat) 0).toNat) 0 = r ∨ M (41 + (r - 1).toNat) 2 = 0 then 1 else 0
theorem k_Tr_nothingCanFollow (l : Launch) (M : tk_M) (r : Int) (h0 : 0 ≤ r) (h1 : r < 32) (h2 : 0 ≤ M (41 + r.toNat) 0) (h3 : M (41 + r.toNat) 0 < 10) (h4 : ¬ M (31 + (M (41 + r.toNat) 0).toNat) 0 = r → 1 ≤ r) : tk_C l y_Tr_nothingCanFollow 0 0 [.inr 2, .inl r] M (fun q M' => q = .inl (some (f_ncf M r)) ∧ M' = M) := by
  refine tk_C.of wc_Tr_nothingCanFollow rfl (Nat.le_of_ble_eq_true rfl) fun hr hM => ?_
  refine tk_goA fo_Tr co_Tr tg_Tr_nothingCanFollow 40 [] ?_
  repeat' first | refine And.intro ?_ ?_ | intro _
  all_goals first | rfl | exact Or.inl rfl | exact Or.inr rfl | skip
  all_goals try simp only [tk_c] at *
  all_goals first | omega | skip
  all_goals (unfold f_ncf; split <;> first | rfl | omega)
/-- the state of subsection k, found anew -/
def f_ns (M : tk_M) (k : Nat) : Int :=
  if M (31 + (M (41 + k) 0).toNat) 2 = 0 then 0
  else if 1 < M (41 + k) 3 then 2
  else if M (41 + k) 3 = 1 then (if M (73 + (M (41 + k) 4).toNat) 11 = 0 then 2 else 1)
  else if M (41 + k) 2 = 1 then (if ¬ M (73 + (M (41 + k) 4).toNat) 10 = 0 ∧ (k : Int) < M (73 + (M (41 + k) 4).toNat) 6 then 0 else 3)
  else if ¬ M (41 + k) 2 = 0 then 3
  else if ¬ M (31 + (M (41 + k) 0).toNat) 4 = 0 ∨ M (31 + (M (41 + k) 0).toNat) 5 = 0 then 3 else 0
theorem k_Tr_newState (l : Launch) (M : tk_M) (k : Nat) (hk : k < 32) (h2 : 0 ≤ M (41 + k) 0) (h3 : M (41 + k) 0 < 10) (h4 : 0 ≤ M (41 + k) 4) (h5 : M (41 + k) 4 < 8) : tk_C l y_Tr_newState 1 13 [.inr 2, .inr (41 + k), .inl (k : Int), .inr 4] M (fun q M' => q = .inl (some (f_ns M k)) ∧ M' = M) := by
  refine tk_C.of wc_Tr_newState rfl (Nat.le_of_ble_eq_true rfl) fun hr hM => ?_
  refine tk_goA fo_Tr co_Tr tg_Tr_newState 60 [] ?_
  repeat' first | refine And.intro ?_ ?_ | intro _
  all_goals first | rfl | exact Or.inl rfl | exact Or.inr rfl | skip
  all_goals try simp only [tk_c] at *
  all_goals first | omega | (unfold f_ns; (repeat' split) <;> first | rfl | omega) | skip
  rename_i c1 _ _ c2 _ _ c3 _ _ c4 _ _
  refine ⟨(), tk_aV (k := 5) (k_Ti_hasLeft l (M (41 + k) 4).toNat (by omega) (k : Int) M) wc_Ti_hasLeft lk_Tr_117 wi_Ti_hasLeft wsl_Ti_hasLeft tg_Tr_newState rfl rfl (show _ < 81 by omega) (tk_shT (by omega)) rfl rfl (by decide) (by decide) ?_ (fun x M' h => by cases h.1)⟩
  rintro v' M' ⟨h1, rfl⟩ hro
  cases h1
  refine tk_goA fo_Tr co_Tr tg_Tr_newState 60 [] ?_
  repeat' first | refine And.intro ?_ ?_ | intro _
  all_goals first | rfl | exact Or.inl rfl | exact Or.inr rfl | skip
  all_goals try simp only [tk_c] at *
  all_goals (unfold f_ns; (repeat' split) <;> first | rfl | omega | skip)
