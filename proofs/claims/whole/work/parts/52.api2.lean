/-! CONTRACTS of the public calls, the rest -/
def f_beg0 (M : tk_M) (m k s : Int) : tk_M := tk_up (tk_up (tk_up (tk_up (tk_up M 1 4 m) 1 5 k) 1 6 s) 1 7 0) 1 3 1
def f_fg (M : tk_M) (n : Nat) : tk_M := fun c j => if 73 ≤ c ∧ c < 73 + n then (if j = 0 ∨ j = 9 ∨ j = 10 then 0 else if j = 12 then -1 else M c j) else M c j
theorem f_fg_0 (M : tk_M) : f_fg M 0 = M := by
  funext c j
  unfold f_fg
  rw [if_neg (by omega)]
theorem f_fg_s (M : tk_M) (n : Nat) : tk_up (tk_up (tk_up (tk_up (f_fg M n) (73 + n) 0 0) (73 + n) 9 0) (73 + n) 10 0) (73 + n) 12 (-1) = f_fg M (n + 1) := by
  funext c j
  unfold tk_up f_fg
  (repeat' split) <;> first | rfl | omega
def f_beg (M : tk_M) (m k s : Int) : tk_M := f_fg (tk_up (tk_up (f_emp (f_beg0 M m k s)) 3 0 0) 3 1 0) 8
def c_begin (m k s : Int) (M : tk_M) : tk_Z := if ¬ (1 ≤ m ∧ m ≤ 100000) ∨ ¬ (1 ≤ k ∧ k ≤ 100000) ∨ ¬ (1 ≤ s ∧ s ≤ 100000) then (.inr 1, M) else if M 2 2 = 0 ∨ ¬ f_bare M = 0 then (.inr 0, M) else (.inl (some (M 2 4)), f_beg M m k s)
theorem lp_TK_begin (l : Launch) (m k s : Int) (M : tk_M) (e : Int) (he : M 2 4 = e) : ∀ (n i : Nat), i + n = 8 →
    tk_At l "TrackKeeper" prog_1_method_4_code 5 (some .int) 7 94 (tk_z (.inl (some e), f_fg M 8)) 108 [some (.inr 1), some (.inl m), some (.inl k), some (.inl s), some (.inl (i : Int))] [] (f_fg M i) := by
  intro n
  induction n with
  | zero =>
    intro i hi
    have e8 : i = 8 := by omega
    subst e8
    have e24 : f_fg M 8 2 4 = e := by
      unfold f_fg
      rw [if_neg (by omega)]
      exact he
    generalize f_fg M 8 = N at *
    refine tk_goA fo_TK co_TK tg_TK_begin 40 [108] ?_
    repeat' first | refine And.intro ?_ ?_ | intro _
    all_goals try simp only [tk_c] at *
    all_goals first | omega | rfl | rw [e24]
  | succ n ih =>
    intro i hi
    have h9 := ih (i + 1) (by omega)
    rw [← f_fg_s M i] at h9
    generalize f_fg M i = N at *
    refine tk_goA fo_TK co_TK tg_TK_begin 40 [108] ?_
    repeat' first | refine And.intro ?_ ?_ | intro _
    all_goals try simp only [tk_c, Int.toNat_natCast] at *
    all_goals first | omega | skip
    refine ⟨(), tk_aV (k := 5) (k_Ti_forgetAll l i (by omega) N) wc_Ti_forgetAll lk_TK_85 wi_Ti_forgetAll wsl_Ti_forgetAll tg_TK_begin rfl rfl (show _ < 81 by omega) (tk_shT (by omega)) rfl rfl (by decide) (Nat.le_of_ble_eq_true rfl) ?_ (fun x M' h => by cases h.1)⟩
    rintro v' M' ⟨e1, rfl⟩ hro
    cases e1
    refine tk_goA fo_TK co_TK tg_TK_begin 40 [108] ?_
    repeat' first | refine And.intro ?_ ?_ | intro _
    all_goals first | omega | skip
    exact ⟨(), h9⟩
theorem f_beg0_o {M : tk_M} {m k s : Int} {c j : Nat} (h : c ≠ 1) : f_beg0 M m k s c j = M c j := by
  unfold f_beg0
  rw [tk_up_c _ _ _ _ h, tk_up_c _ _ _ _ h, tk_up_c _ _ _ _ h, tk_up_c _ _ _ _ h, tk_up_c _ _ _ _ h]
theorem f_emp_o {M : tk_M} {c j : Nat} (h1 : ¬ (c = 2 ∧ j = 5)) (h2 : ¬ (31 ≤ c ∧ c < 31 + (M 2 2).toNat ∧ (j = 2 ∨ j = 3))) (h3 : ¬ (41 ≤ c ∧ c < 41 + (M 2 3).toNat ∧ j = 2)) : f_emp M c j = M c j := by
  unfold f_emp tk_st2
  rw [tk_up_n h1, tk_st_o (by omega), tk_st_o (by omega), tk_st_o (by omega)]
theorem k_TK_begin (l : Launch) (hst : l.stackTraces = false) (M : tk_M) (m k s : Int) {K : Int} (hi : p_inv M K) : tk_C l y_TK_begin 7 94 [.inr 1, .inl m, .inl k, .inl s] M (tk_z (c_begin m k s M)) := by
  refine tk_C.of wc_TK_begin rfl (Nat.le_of_ble_eq_true rfl) fun hr hM => ?_
  obtain ⟨t1, t2, t3, t4, t5, t6⟩ := hi.1
  have k30 : (¬ (1 ≤ m ∧ m ≤ 100000) ∨ ¬ (1 ≤ k ∧ k ≤ 100000) ∨ ¬ (1 ≤ s ∧ s ≤ 100000)) → tk_At l "TrackKeeper" prog_1_method_4_code 5 (some .int) 7 94 (tk_z (c_begin m k s M)) 30 [some (.inr 1), some (.inl m), some (.inl k), some (.inl s), none] [] M := fun h => by
    exact tk_aN hst tn_TK_1 tg_TK_begin rfl rfl rfl rfl (by decide) (by decide) (tk_z.i (by unfold c_begin; rw [if_pos h]))
  refine tk_goA fo_TK co_TK tg_TK_begin 40 [30] ?_
  refine ⟨(), ka_in tg_TK_begin rfl (by decide) (by decide) ?_⟩
  generalize hx : f_in m 1 100000 = x
  have hx0 := f_in_0 m 1 100000
  rw [hx] at hx0
  refine tk_goA fo_TK co_TK tg_TK_begin 40 [30] ?_
  repeat' first | refine And.intro ?_ ?_ | intro _
  all_goals try simp only [tk_c, hx0] at *
  · exact ⟨(), k30 (by omega)⟩
  refine ⟨(), ka_in tg_TK_begin rfl (by decide) (by decide) ?_⟩
  generalize hy : f_in k 1 100000 = y
  have hy0 := f_in_0 k 1 100000
  rw [hy] at hy0
  refine tk_goA fo_TK co_TK tg_TK_begin 40 [30] ?_
  repeat' first | refine And.intro ?_ ?_ | intro _
  all_goals try simp only [tk_c, hy0] at *
  · exact ⟨(), k30 (by omega)⟩
  refine ⟨(), ka_in tg_TK_begin rfl (by decide) (by decide) ?_⟩
  generalize hz : f_in s 1 100000 = z
  have hz0 := f_in_0 s 1 100000
  rw [hz] at hz0
  have hgo : (1 ≤ m ∧ m ≤ 100000) → (1 ≤ k ∧ k ≤ 100000) → (1 ≤ s ∧ s ≤ 100000) → tk_At l "TrackKeeper" prog_1_method_4_code 5 (some .int) 7 94 (tk_z (c_begin m k s M)) 38 [some (.inr 1), some (.inl m), some (.inl k), some (.inl s), none] [] M := fun g1 g2 g3 => by
    have k58 : (M 2 2 = 0 ∨ ¬ f_bare M = 0) → tk_At l "TrackKeeper" prog_1_method_4_code 5 (some .int) 7 94 (tk_z (c_begin m k s M)) 58 [some (.inr 1), some (.inl m), some (.inl k), some (.inl s), none] [] M := fun h => by
      exact tk_aN hst tn_TK_0 tg_TK_begin rfl rfl rfl rfl (by decide) (by decide) (tk_z.i (by unfold c_begin; rw [if_neg (by omega), if_pos h]))
    refine tk_goA fo_TK co_TK tg_TK_begin 40 [58, 66] ?_
    repeat' first | refine And.intro ?_ ?_ | intro _
    all_goals try simp only [tk_c] at *
    all_goals first | omega | skip
    · exact ⟨(), k58 (by omega)⟩
    refine ⟨(), ka_bare t1 t2 tg_TK_begin rfl (by decide) (by decide) ?_⟩
    generalize hb : f_bare M = b
    refine tk_goA fo_TK co_TK tg_TK_begin 40 [58, 66] ?_
    repeat' first | refine And.intro ?_ ?_ | intro _
    all_goals try simp only [tk_c] at *
    · have e9 : c_begin m k s M = (.inl (some (M 2 4)), f_beg M m k s) := by unfold c_begin; rw [hb, if_neg (by omega), if_neg (by omega)]
      rw [e9]
      refine ⟨(), ?_⟩
      refine tk_goA fo_TK co_TK tg_TK_begin 40 [] ?_
      repeat' first | refine And.intro ?_ ?_ | intro _
      all_goals first | omega | exact Or.inr rfl | skip
      have ef : f_beg0 M m k s = tk_up (tk_up (tk_up (tk_up (tk_up M 1 4 m) 1 5 k) 1 6 s) 1 7 0) 1 3 1 := rfl
      rw [← ef]
      have o : ∀ j, f_beg0 M m k s 2 j = M 2 j := fun j => f_beg0_o (by decide)
      refine ⟨(), tk_aV (k := 1) (ps := []) (st := []) (k_Tr_emptyAll l (f_beg0 M m k s) (by rw [o]; exact t1) (by rw [o]; exact t2) (by rw [o]; exact t3) (by rw [o]; exact t4)) wc_Tr_emptyAll lk_TK_79 wi_Tr_emptyAll wsl_Tr_emptyAll tg_TK_begin rfl rfl (by decide) rfl rfl rfl (by decide) (Nat.le_of_ble_eq_true rfl) ?_ (fun x M' h => by cases h.1)⟩
      rintro v' M' ⟨e1, rfl⟩ hro
      cases e1
      have e24 : tk_up (tk_up (f_emp (f_beg0 M m k s)) 3 0 0) 3 1 0 2 4 = M 2 4 := by
        rw [tk_up_c _ _ _ _ (by decide), tk_up_c _ _ _ _ (by decide), f_emp_o (by omega) (by omega) (by omega), o]
      have h9 := lp_TK_begin l m k s (tk_up (tk_up (f_emp (f_beg0 M m k s)) 3 0 0) 3 1 0) (M 2 4) e24 8 0 rfl
      rw [f_fg_0] at h9
      have e5 : f_fg (tk_up (tk_up (f_emp (f_beg0 M m k s)) 3 0 0) 3 1 0) 8 = f_beg M m k s := rfl
      rw [e5] at h9
      generalize f_emp (f_beg0 M m k s) = N at *
      refine tk_goA fo_TK co_TK tg_TK_begin 40 [] ?_
      repeat' first | refine And.intro ?_ ?_ | intro _
      all_goals first | omega | skip
      refine ⟨(), tk_aV (k := 2) (ps := []) (st := []) (k_Au_forgetCounts l N) wc_Au_forgetCounts lk_TK_82 wi_Au_forgetCounts wsl_Au_forgetCounts tg_TK_begin rfl rfl (by decide) rfl rfl rfl (by decide) (Nat.le_of_ble_eq_true rfl) ?_ (fun x M' h => by cases h.1)⟩
      rintro v' M' ⟨e1, rfl⟩ hro
      cases e1
      refine tk_goA fo_TK co_TK tg_TK_begin 40 [108] ?_
      exact ⟨(), h9⟩
    · exact ⟨(), k58 (by omega)⟩
  refine tk_goA fo_TK co_TK tg_TK_begin 40 [30, 38] ?_
  repeat' first | refine And.intro ?_ ?_ | intro _
  all_goals try simp only [tk_c, hz0] at *
  · exact ⟨(), hgo (by omega) (by omega) (by omega)⟩
  · exact ⟨(), k30 (by omega)⟩
def c_report (t pl it : Int) (M : tk_M) : tk_Z := if M 1 3 = 0 then (.inr 0, M) else if ¬ (0 ≤ t ∧ t ≤ 7) ∨ ¬ (0 ≤ it ∧ it ≤ 2) ∨ ¬ (0 ≤ pl ∧ pl ≤ M 2 4) then (.inr 1, M) else if M (73 + t.toNat) 0 = 0 then (.inr 3, M) else if ¬ M (73 + t.toNat) 2 = 0 ∧ pl < M (73 + t.toNat) 4 then (.inl (some 0), M) else (.inl (some 1), f_all (f_take M t.toNat pl it (M 1 7)))
theorem k_TK_report (l : Launch) (hst : l.stackTraces = false) (M : tk_M) (t pl it : Int) {K : Int} (hi : p_inv M K) (hq : ∀ t : Nat, t < 8 → 0 ≤ pl → pl ≤ M 2 4 → ¬ M 1 3 = 0 → ¬ M (73 + t) 0 = 0 → ¬ (¬ M (73 + t) 2 = 0 ∧ pl < M (73 + t) 4) → p_an (f_take M t pl it (M 1 7))) : tk_C l y_TK_report 7 94 [.inr 1, .inl t, .inl pl, .inl it] M (tk_z (c_report t pl it M)) := by
  refine tk_C.of wc_TK_report rfl (Nat.le_of_ble_eq_true rfl) fun hr hM => ?_
  obtain ⟨t1, t2, t3, t4, t5, t6⟩ := hi.1
  refine tk_goA fo_TK co_TK tg_TK_report 40 [] ?_
  refine ⟨(), ka_begun hst tg_TK_report rfl (by decide) (by decide) (fun h => tk_z.i (by unfold c_report; rw [if_pos h])) fun hbg => ?_⟩
  have hN : 1 ≤ M 2 3 := (hi.2.2.2.2.2 hbg).1
  have k35 : (¬ (0 ≤ t ∧ t ≤ 7) ∨ ¬ (0 ≤ it ∧ it ≤ 2) ∨ ¬ (0 ≤ pl ∧ pl ≤ M 2 4)) → tk_At l "TrackKeeper" prog_1_method_8_code 4 (some .boolean) 7 94 (tk_z (c_report t pl it M)) 35 [some (.inr 1), some (.inl t), some (.inl pl), some (.inl it)] [] M := fun h => by
    exact tk_aN hst tn_TK_1 tg_TK_report rfl rfl rfl rfl (by decide) (by decide) (tk_z.i (by unfold c_report; rw [if_neg hbg, if_pos h]))
  refine tk_goA fo_TK co_TK tg_TK_report 40 [35] ?_
  refine ⟨(), ka_train tg_TK_report rfl (by decide) (by decide) ?_⟩
  generalize hx : f_in t 0 7 = x
  have hx0 := f_in_0 t 0 7
  rw [hx] at hx0
  refine tk_goA fo_TK co_TK tg_TK_report 40 [35] ?_
  repeat' first | refine And.intro ?_ ?_ | intro _
  all_goals try simp only [tk_c, hx0] at *
  · exact ⟨(), k35 (by omega)⟩
  refine ⟨(), ka_in tg_TK_report rfl (by decide) (by decide) ?_⟩
  generalize hy : f_in it 0 2 = y
  have hy0 := f_in_0 it 0 2
  rw [hy] at hy0
  refine tk_goA fo_TK co_TK tg_TK_report 40 [35] ?_
  repeat' first | refine And.intro ?_ ?_ | intro _
  all_goals try simp only [tk_c, hy0] at *
  all_goals first | omega | skip
  · exact ⟨(), k35 (by omega)⟩
  refine ⟨(), ka_in tg_TK_report rfl (by decide) (by decide) ?_⟩
  generalize hz : f_in pl 0 (M 2 4) = z
  have hz0 := f_in_0 pl 0 (M 2 4)
  rw [hz] at hz0
  refine tk_goA fo_TK co_TK tg_TK_report 40 [35] ?_
  repeat' first | refine And.intro ?_ ?_ | intro _
  all_goals try simp only [tk_c, hz0] at *
  all_goals first | omega | skip
  · refine ⟨(), ?_⟩
    obtain ⟨u, rfl⟩ : ∃ u : Nat, t = (u : Int) := ⟨t.toNat, by omega⟩
    have e0 : c_report (u : Int) pl it M = if M (73 + u) 0 = 0 then (.inr 3, M) else if ¬ M (73 + u) 2 = 0 ∧ pl < M (73 + u) 4 then (.inl (some 0), M) else (.inl (some 1), f_all (f_take M u pl it (M 1 7))) := by
      unfold c_report
      rw [if_neg hbg, if_neg (by omega), Int.toNat_natCast]
    refine ka_conn hst tg_TK_report rfl (by decide) (by decide) (t := u) (by omega) (fun h => tk_z.i (by rw [e0, if_pos h])) fun hcn => ?_
    rw [if_neg hcn] at e0
    refine tk_goA fo_TK co_TK tg_TK_report 40 [] ?_
    repeat' first | refine And.intro ?_ ?_ | intro _
    all_goals try simp only [Int.toNat_natCast] at *
    all_goals first | omega | skip
    refine ⟨(), tk_aV (k := 5) (k_Ti_wasBeyond l u (by omega) pl M) wc_Ti_wasBeyond lk_TK_123 wi_Ti_wasBeyond wsl_Ti_wasBeyond tg_TK_report rfl rfl (show _ < 81 by omega) (tk_shT (by omega)) rfl rfl (by decide) (Nat.le_of_ble_eq_true rfl) ?_ (fun x M' h => by cases h.1)⟩
    rintro v' M' ⟨e1, rfl⟩ hro
    cases e1
    by_cases hw : ¬ M' (73 + u) 2 = 0 ∧ pl < M' (73 + u) 4
    · rw [if_pos hw] at e0 ⊢
      rw [e0]
      refine tk_goA fo_TK co_TK tg_TK_report 40 [] ?_
      repeat' first | refine And.intro ?_ ?_ | intro _
      all_goals first | exact Or.inl rfl | exact Or.inr rfl | exact rfl | skip
      all_goals try simp only [tk_c] at *
      all_goals first | omega | exact absurd trivial (by assumption) | skip
    · rw [if_neg hw] at e0 ⊢
      rw [e0]
      refine tk_goA fo_TK co_TK tg_TK_report 40 [] ?_
      repeat' first | refine And.intro ?_ ?_ | intro _
      all_goals try simp only [tk_c, Int.toNat_natCast] at *
      all_goals first | omega | exact absurd trivial (by assumption) | skip
      have h9 := hq u (by omega) (by omega) (by omega) hbg hcn hw
      refine ⟨(), tk_aV (k := 5) (k_Ti_take l u (by omega) pl it (M' 1 7) M' hN t4 (by omega) (hi.2.2.2.1 u (by omega)).2.2.2) wc_Ti_take lk_TK_126 wi_Ti_take wsl_Ti_take tg_TK_report rfl rfl (show _ < 81 by omega) (tk_shT (by omega)) rfl rfl (by decide) (Nat.le_of_ble_eq_true rfl) ?_ (fun x M' h => by cases h.1)⟩
      rintro v' N' ⟨e1, rfl⟩ hro
      cases e1
      generalize f_take M' u pl it (M' 1 7) = N at *
      refine tk_goA fo_TK co_TK tg_TK_report 40 [] ?_
      refine ⟨(), ka_anew h9 tg_TK_report rfl (by decide) (by decide) ?_⟩
      refine tk_goA fo_TK co_TK tg_TK_report 40 [] ?_
      exact ⟨Or.inr rfl, rfl, rfl⟩
  · exact ⟨(), k35 (by omega)⟩
def c_leave (t : Int) (M : tk_M) : tk_Z := if M 1 3 = 0 then (.inr 0, M) else if ¬ (0 ≤ t ∧ t ≤ 7) then (.inr 1, M) else if M (73 + t.toNat) 0 = 0 then (.inr 3, M) else (.inl none, f_all (tk_up M (73 + t.toNat) 0 0))
theorem k_TK_leave (l : Launch) (hst : l.stackTraces = false) (M : tk_M) (t : Int) (hq : ∀ t : Nat, t < 8 → ¬ M 1 3 = 0 → p_an (tk_up M (73 + t) 0 0)) : tk_C l y_TK_leave 7 94 [.inr 1, .inl t] M (tk_z (c_leave t M)) := by
  refine tk_C.of wc_TK_leave rfl (Nat.le_of_ble_eq_true rfl) fun hr hM => ?_
  refine tk_goA fo_TK co_TK tg_TK_leave 40 [] ?_
  refine ⟨(), ka_begun hst tg_TK_leave rfl (by decide) (by decide) (fun h => tk_z.i (by unfold c_leave; rw [if_pos h])) fun hbg => ?_⟩
  refine tk_goA fo_TK co_TK tg_TK_leave 40 [] ?_
  refine ⟨(), ka_train tg_TK_leave rfl (by decide) (by decide) ?_⟩
  generalize hx : f_in t 0 7 = x
  have hx0 := f_in_0 t 0 7
  rw [hx] at hx0
  refine tk_goA fo_TK co_TK tg_TK_leave 40 [] ?_
  repeat' first | refine And.intro ?_ ?_ | intro _
  all_goals try simp only [tk_c, hx0] at *
  · refine ⟨(), ?_⟩
    obtain ⟨u, rfl⟩ : ∃ u : Nat, t = (u : Int) := ⟨t.toNat, by omega⟩
    have e0 : c_leave (u : Int) M = if M (73 + u) 0 = 0 then (.inr 3, M) else (.inl none, f_all (tk_up M (73 + u) 0 0)) := by
      unfold c_leave
      rw [if_neg hbg, if_neg (by omega), Int.toNat_natCast]
    refine ka_conn hst tg_TK_leave rfl (by decide) (by decide) (t := u) (by omega) (fun h => tk_z.i (by rw [e0, if_pos h])) fun hcn => ?_
    rw [if_neg hcn] at e0
    rw [e0]
    have h9 := hq u (by omega) hbg
    refine tk_goA fo_TK co_TK tg_TK_leave 40 [] ?_
    repeat' first | refine And.intro ?_ ?_ | intro _
    all_goals first | exact Or.inl rfl | exact Or.inr rfl | skip
    all_goals try simp only [Int.toNat_natCast] at *
    all_goals first | omega | skip
    refine ⟨(), ka_anew h9 tg_TK_leave rfl (by decide) (by decide) ?_⟩
    refine tk_goA fo_TK co_TK tg_TK_leave 40 [] ?_
    exact ⟨rfl, rfl⟩
  · exact ⟨(), tk_aN hst tn_TK_1 tg_TK_leave rfl rfl rfl rfl (by decide) (by decide) (tk_z.i (by unfold c_leave; rw [if_neg hbg, if_pos (by omega)]))⟩
