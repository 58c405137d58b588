/-! CONTRACTS of the track's small methods and of what throws -/
theorem tk_shS {i : Nat} (h : i < 10) : tk_sh (31 + i) = .inl (3, [none, none, none, none, none, none]) := by
  rw [Nat.add_comm]; unfold tk_sh; simp [h]
theorem tk_shU {i : Nat} (h : i < 32) : tk_sh (41 + i) = .inl (4, [none, none, none, none, none]) := by
  rw [show 41 + i = (i + 10) + 31 by omega]; unfold tk_sh; dsimp only; rw [if_neg (by omega), if_pos (by omega)]
theorem tk_shT {i : Nat} (h : i < 8) : tk_sh (73 + i) = .inl (5, [none, none, none, none, none, none, none, none, none, none, none, none, none]) := by
  rw [show 73 + i = (i + 42) + 31 by omega]; unfold tk_sh; dsimp only; rw [if_neg (by omega), if_neg (by omega)]
theorem k_TK_isTrain (l : Launch) (v : Int) (M : tk_M) : tk_C l y_TK_isTrain 1 14 [.inl v] M (fun r M' => r = .inl (some (f_in v 0 7)) ∧ M' = M) := by
  refine tk_C.of wc_TK_isTrain rfl (Nat.le_of_ble_eq_true rfl) fun hr hM => ?_
  refine tk_goA fo_TK co_TK tg_TK_isTrain 20 [] ?_
  refine ⟨(), tk_aS (k_TK_isWithin l v 0 7 M) wc_TK_isWithin lk_TK_53 wst_TK_isWithin wn_TK tg_TK_isTrain rfl rfl rfl (by decide) (by decide) ?_ (fun x M' h => by cases h.1)⟩
  rintro v' M' ⟨h1, rfl⟩ hro
  cases h1
  refine tk_goA fo_TK co_TK tg_TK_isTrain 20 [] ?_
  refine And.intro ?_ ⟨rfl, rfl⟩
  unfold f_in; split <;> simp
theorem tk_f01 (v a b : Int) : f_in v a b = 0 ∨ f_in v a b = 1 := by unfold f_in; split <;> simp
theorem k_Tr_hasSection (l : Launch) (v : Int) (M : tk_M) (h0 : -2147483648 < M 2 2) : tk_C l y_Tr_hasSection 1 14 [.inr 2, .inl v] M (fun r M' => r = .inl (some (f_in v 0 (M 2 2 - 1))) ∧ M' = M) := by
  refine tk_C.of wc_Tr_hasSection rfl (Nat.le_of_ble_eq_true rfl) fun hr hM => ?_
  refine tk_goA fo_Tr co_Tr tg_Tr_hasSection 20 [] ?_
  repeat' first | refine And.intro ?_ ?_ | intro _
  all_goals first | omega | skip
  refine ⟨(), tk_aSN (host := "TrackKeeper") (n := 3) (k_TK_isWithin l v 0 (M 2 2 - 1) M) wc_TK_isWithin ⟨by decide +kernel, by decide, by decide +kernel, by decide +kernel⟩ wst_TK_isWithin wn_TK tg_Tr_hasSection rfl rfl rfl (by decide) (by decide) ?_ (fun x M' h => by cases h.1)⟩
  rintro v' M' ⟨h1, rfl⟩ hro
  cases h1
  refine tk_goA fo_Tr co_Tr tg_Tr_hasSection 20 [] ?_
  exact And.intro (tk_f01 _ _ _) ⟨rfl, rfl⟩
theorem k_Tr_hasSubsection (l : Launch) (v : Int) (M : tk_M) (h0 : -2147483648 < M 2 3) : tk_C l y_Tr_hasSubsection 1 14 [.inr 2, .inl v] M (fun r M' => r = .inl (some (f_in v 0 (M 2 3 - 1))) ∧ M' = M) := by
  refine tk_C.of wc_Tr_hasSubsection rfl (Nat.le_of_ble_eq_true rfl) fun hr hM => ?_
  refine tk_goA fo_Tr co_Tr tg_Tr_hasSubsection 20 [] ?_
  repeat' first | refine And.intro ?_ ?_ | intro _
  all_goals first | omega | skip
  refine ⟨(), tk_aSN (host := "TrackKeeper") (n := 3) (k_TK_isWithin l v 0 (M 2 3 - 1) M) wc_TK_isWithin ⟨by decide +kernel, by decide, by decide +kernel, by decide +kernel⟩ wst_TK_isWithin wn_TK tg_Tr_hasSubsection rfl rfl rfl (by decide) (by decide) ?_ (fun x M' h => by cases h.1)⟩
  rintro v' M' ⟨h1, rfl⟩ hro
  cases h1
  refine tk_goA fo_Tr co_Tr tg_Tr_hasSubsection 20 [] ?_
  exact And.intro (tk_f01 _ _ _) ⟨rfl, rfl⟩
theorem k_Tr_removeAll (l : Launch) (M : tk_M) : tk_C l y_Tr_removeAll 0 0 [.inr 2] M (fun r M' => r = .inl none ∧ M' = tk_up (tk_up (tk_up M 2 2 0) 2 3 0) 2 4 0) := by
  refine tk_C.of wc_Tr_removeAll rfl (Nat.le_of_ble_eq_true rfl) fun hr hM => ?_
  refine tk_goA fo_Tr co_Tr tg_Tr_removeAll 20 [] ?_
  repeat' first | refine And.intro ?_ ?_ | intro _
  all_goals first | omega | rfl
def f_bare (M : tk_M) : Int := if 0 < M 2 2 ∧ M (31 + (M 2 2 - 1).toNat) 1 < M (31 + (M 2 2 - 1).toNat) 0 then 1 else 0
theorem k_Tr_latestIsBare (l : Launch) (M : tk_M) (h0 : 0 ≤ M 2 2) (h1 : M 2 2 ≤ 10) : tk_C l y_Tr_latestIsBare 0 0 [.inr 2] M (fun r M' => r = .inl (some (f_bare M)) ∧ M' = M) := by
  refine tk_C.of wc_Tr_latestIsBare rfl (Nat.le_of_ble_eq_true rfl) fun hr hM => ?_
  refine tk_goA fo_Tr co_Tr tg_Tr_latestIsBare 30 [] ?_
  repeat' first | refine And.intro ?_ ?_ | intro _
  all_goals first | rfl | exact Or.inl rfl | exact Or.inr rfl | skip
  all_goals try simp only [tk_c] at *
  all_goals first | omega | (unfold f_bare; split <;> first | rfl | omega)
theorem k_Au_forgetCounts (l : Launch) (M : tk_M) : tk_C l y_Au_forgetCounts 0 0 [.inr 3] M (fun r M' => r = .inl none ∧ M' = tk_up (tk_up M 3 0 0) 3 1 0) := by
  refine tk_C.of wc_Au_forgetCounts rfl (Nat.le_of_ble_eq_true rfl) fun hr hM => ?_
  refine tk_goA fo_Au co_Au tg_Au_forgetCounts 20 [] ?_
  repeat' first | refine And.intro ?_ ?_ | intro _
  all_goals first | omega | rfl
set_option maxRecDepth 100000 in
theorem tn_TK_0 : tk_thr "TrackKeeper" 38 40 0 := ⟨by decide +kernel, by decide +kernel, by decide +kernel, by decide +kernel, by decide +kernel, by decide +kernel, by decide +kernel⟩
set_option maxRecDepth 100000 in
theorem tn_TK_1 : tk_thr "TrackKeeper" 57 59 1 := ⟨by decide +kernel, by decide +kernel, by decide +kernel, by decide +kernel, by decide +kernel, by decide +kernel, by decide +kernel⟩
set_option maxRecDepth 100000 in
theorem tn_TK_2 : tk_thr "TrackKeeper" 45 47 2 := ⟨by decide +kernel, by decide +kernel, by decide +kernel, by decide +kernel, by decide +kernel, by decide +kernel, by decide +kernel⟩
set_option maxRecDepth 100000 in
theorem tn_TK_3 : tk_thr "TrackKeeper" 143 145 3 := ⟨by decide +kernel, by decide +kernel, by decide +kernel, by decide +kernel, by decide +kernel, by decide +kernel, by decide +kernel⟩
theorem k_TK_requireBegun (l : Launch) (hst : l.stackTraces = false) (M : tk_M) : tk_C l y_TK_requireBegun 6 81 [.inr 1] M (fun r M' => r = (if M 1 3 = 0 then .inr 0 else .inl none) ∧ M' = M) := by
  refine tk_C.of wc_TK_requireBegun rfl (Nat.le_of_ble_eq_true rfl) fun hr hM => ?_
  refine tk_goA fo_TK co_TK tg_TK_requireBegun 20 [] ?_
  refine And.intro ⟨by decide, by decide⟩ fun _ _ => And.intro (fun h => ?_) (fun h => ?_)
  · exact ⟨by rw [if_neg h], rfl⟩
  · exact ⟨(), tk_aN hst tn_TK_0 tg_TK_requireBegun rfl rfl rfl rfl (by decide) (by decide) ⟨by rw [if_pos (Classical.not_not.mp h)], rfl⟩⟩
