/-! CONTRACTS of the public calls, the last ones -/
def f_tick (M : tk_M) : tk_M := f_all (g_cs (tk_up M 1 7 (M 1 7 + 1)) (M 1 6) (M 2 2).toNat)
def g_tick : Nat → tk_M → tk_M
  | 0, M => M
  | n + 1, M => g_tick n (f_tick M)
theorem g_cs_3 {M : tk_M} {sp K : Int} (h0 : 0 ≤ K) (h : ∀ i : Nat, i < 10 → M (31 + i) 3 ≤ K) : ∀ n : Nat, ∀ i : Nat, i < 10 → g_cs M sp n (31 + i) 3 ≤ K + 1
  | 0, i, hi => by have := h i hi; show M (31 + i) 3 ≤ K + 1; omega
  | n + 1, i, hi => by
    have ih := g_cs_3 (sp := sp) h0 h n i hi
    unfold g_cs
    split
    · by_cases e : i = n
      · subst e
        have e3 : g_cs M sp i (31 + i) 3 = M (31 + i) 3 := g_cs_o (by omega) i (by omega)
        have := h i hi
        unfold f_cs
        split
        · rw [tk_up_s]; omega
        · rw [tk_up_c _ _ _ _ (by omega), tk_up_n (by omega), tk_up_s]; omega
      · rw [f_cs_o (by omega) (by omega)]; exact ih
    · exact ih
theorem p_inv.tick0 {M : tk_M} {K : Int} (h : p_inv M K) (h0 : 0 ≤ K) : p_inv (g_cs (tk_up M 1 7 (M 1 7 + 1)) (M 1 6) (M 2 2).toNat) (K + 1) := by
  obtain ⟨h1, h2, h3, h4, ⟨k1, k2, k3, k4, k5, k6, k7, k8⟩, h6⟩ := h
  obtain ⟨t1, t2, t3, t4, t5, t6⟩ := id h1
  have o : ∀ c j, ¬ (c = 2 ∧ j = 5) → ¬ (31 ≤ c ∧ c < 41 ∧ (j = 3 ∨ j = 4)) → ¬ (c = 1 ∧ j = 7) → g_cs (tk_up M 1 7 (M 1 7 + 1)) (M 1 6) (M 2 2).toNat c j = M c j := fun c j g1 g2 g3 => by rw [g_cs_o g1 _ (by omega), tk_up_n g3]
  have e17 : g_cs (tk_up M 1 7 (M 1 7 + 1)) (M 1 6) (M 2 2).toNat 1 7 = M 1 7 + 1 := by rw [g_cs_o (by omega) _ (by omega), tk_up_s]
  have e25 := (g_cs_25 (tk_up M 1 7 (M 1 7 + 1)) (M 1 6) (M 2 2).toNat).2
  rw [tk_up_n (by omega)] at e25
  have e22 := o 2 2 (by omega) (by omega) (by omega)
  have e23 := o 2 3 (by omega) (by omega) (by omega)
  have e24 := o 2 4 (by omega) (by omega) (by omega)
  have e13 := o 1 3 (by omega) (by omega) (by omega)
  have e30 := o 3 0 (by omega) (by omega) (by omega)
  have e31 := o 3 1 (by omega) (by omega) (by omega)
  refine ⟨p_trk_eq e22 e23 (fun i hi => o _ _ (by omega) (by omega) (by omega)) (fun i hi => o _ _ (by omega) (by omega) (by omega)) h1, fun i hi => ?_, fun i hi => ?_, fun t ht => ?_, ⟨by omega, by omega, by omega, by omega, by omega, fun i hi => ?_, by omega, by omega⟩, fun hb => ⟨?_, fun t ht hc hr => ?_⟩⟩
  · rw [o _ _ (by omega) (by omega) (by omega)]; exact h2 i hi
  · rw [e22] at hi
    rw [o _ 0 (by omega) (by omega) (by omega), o _ 1 (by omega) (by omega) (by omega)]
    exact h3 i hi
  · rw [o _ 12 (by omega) (by omega) (by omega), o _ 3 (by omega) (by omega) (by omega), o _ 8 (by omega) (by omega) (by omega), o _ 1 (by omega) (by omega) (by omega)]
    exact h4 t ht
  · exact g_cs_3 h0 (fun i hi => by rw [tk_up_n (by omega)]; exact k6 i hi) _ i hi
  · rw [e13] at hb
    have := (h6 hb).1
    omega
  · rw [e13] at hb
    rw [o _ 0 (by omega) (by omega) (by omega)] at hc
    rw [o _ 2 (by omega) (by omega) (by omega)] at hr
    have := (h6 hb).2 t ht hc hr
    unfold p_mk at this ⊢
    rw [o _ 6 (by omega) (by omega) (by omega), o _ 5 (by omega) (by omega) (by omega), e23]
    exact this
theorem f_tick_b {M : tk_M} : g_cs (tk_up M 1 7 (M 1 7 + 1)) (M 1 6) (M 2 2).toNat 1 3 = M 1 3 := by rw [g_cs_o (by omega) _ (by omega), tk_up_n (by omega)]
theorem p_inv.tick {M : tk_M} {K : Int} (h : p_inv M K) (h0 : 0 ≤ K) (hK : K < 10000000) (hb : ¬ M 1 3 = 0) : p_inv (f_tick M) (K + 2) := by
  have h1 := (h.tick0 h0).all (by omega) (by omega) (by rw [f_tick_b]; exact hb)
  have e : K + 1 + 1 = K + 2 := by omega
  rw [e] at h1
  exact h1
theorem f_tick_17 {M : tk_M} {K : Int} (h : p_inv M K) (h0 : 0 ≤ K) (hK : K < 10000000) (hb : ¬ M 1 3 = 0) : f_tick M 1 7 = M 1 7 + 1 ∧ f_tick M 1 3 = M 1 3 := by
  have ha := (h.tick0 h0).an (by omega) (by rw [f_tick_b]; exact hb)
  unfold f_tick
  rw [f_all_o ha (by unfold q_all q_fs q_mk; omega), f_all_o ha (by unfold q_all q_fs q_mk; omega), f_tick_b, g_cs_o (by omega) _ (by omega), tk_up_s]
  exact ⟨rfl, rfl⟩
theorem lp_TK_tick (l : Launch) (x : Int) (hx : x ≤ 1000) : ∀ (n : Nat) (i : Int) (M : tk_M) (K : Int) (Z : tk_Z), i + n = x → 0 ≤ i → p_inv M K → 0 ≤ K → K + 2 * n < 10000000 → ¬ M 1 3 = 0 → Z = (.inl (some (M 1 7 + n)), g_tick n M) →
    tk_At l "TrackKeeper" prog_1_method_10_code 3 (some .int) 7 94 (tk_z Z) 44 [some (.inr 1), some (.inl x), some (.inl i)] [] M := by
  intro n
  induction n with
  | zero =>
    intro i M K Z hi h0 hp hK0 hK hb hZ
    rw [hZ]
    refine tk_goA fo_TK co_TK tg_TK_tick 40 [44] ?_
    repeat' first | refine And.intro ?_ ?_ | intro _
    all_goals try simp only [tk_c] at *
    all_goals first | omega | rfl | skip
    show _ = Sum.inl (some (M 1 7 + ((0 : Nat) : Int)))
    congr 2
    omega
  | succ n ih =>
    intro i M K Z hi h0 hp hK0 hK hb hZ
    have h17 := f_tick_17 hp hK0 (by omega) hb
    have h9 := ih (i + 1) (f_tick M) (K + 2) Z (by omega) (by omega) (hp.tick hK0 (by omega) hb) (by omega) (by omega) (by rw [h17.2]; exact hb) (by
      have e : M 1 7 + ((n + 1 : Nat) : Int) = M 1 7 + 1 + (n : Int) := by omega
      rw [hZ, h17.1, e]
      rfl)
    have k17 := hp.2.2.2.2.1
    have u : ∀ j, tk_up M 1 7 (M 1 7 + 1) 2 j = M 2 j := fun j => tk_up_n (by omega)
    have u3 : ∀ i j : Nat, tk_up M 1 7 (M 1 7 + 1) (31 + i) j = M (31 + i) j := fun i j => tk_up_n (by omega)
    have u16 : tk_up M 1 7 (M 1 7 + 1) 1 6 = M 1 6 := tk_up_n (by omega)
    have con := k_Tr_countForSpreads l (tk_up M 1 7 (M 1 7 + 1)) (M 1 6) (by rw [u]; exact hp.1.1) (by rw [u]; exact hp.1.2.1) (fun i hi => by
      rw [u] at hi
      rw [u3, u3, u3]
      have := hp.2.2.1 i hi
      have := k17.2.2.2.2.2.1 i (by have := hp.1.2.1; omega)
      omega) (by rw [u]; omega)
    rw [u] at con
    have hn := (hp.tick0 hK0).an (by omega) (by rw [f_tick_b]; exact hb)
    have ef : f_tick M = f_all (g_cs (tk_up M 1 7 (M 1 7 + 1)) (M 1 6) (M 2 2).toNat) := rfl
    rw [ef] at h9
    refine tk_goA fo_TK co_TK tg_TK_tick 40 [44] ?_
    repeat' first | refine And.intro ?_ ?_ | intro _
    all_goals try simp only [tk_c, u16] at *
    all_goals first | omega | skip
    refine ⟨(), tk_aV (k := 1) con wc_Tr_countForSpreads lk_TK_134 wi_Tr_countForSpreads wsl_Tr_countForSpreads tg_TK_tick rfl rfl (by decide) rfl rfl rfl (by decide) (Nat.le_of_ble_eq_true rfl) ?_ (fun x M' h => by cases h.1)⟩
    rintro v' N' ⟨h1, rfl⟩ hro
    cases h1
    generalize g_cs (tk_up M 1 7 (M 1 7 + 1)) (M 1 6) (M 2 2).toNat = N at *
    refine tk_goA fo_TK co_TK tg_TK_tick 40 [44] ?_
    refine ⟨(), ka_anew hn tg_TK_tick rfl (by decide) (by decide) ?_⟩
    refine tk_goA fo_TK co_TK tg_TK_tick 40 [44] ?_
    repeat' first | refine And.intro ?_ ?_ | intro _
    all_goals first | omega | skip
    exact ⟨(), h9⟩
def c_tick (n : Int) (M : tk_M) : tk_Z := if M 1 3 = 0 then (.inr 0, M) else if ¬ (1 ≤ n ∧ n ≤ 1000) then (.inr 1, M) else if 100000000 - M 1 7 < n then (.inr 2, M) else (.inl (some (M 1 7 + n)), g_tick n.toNat M)
theorem k_TK_tick (l : Launch) (hst : l.stackTraces = false) (M : tk_M) (n : Int) {K : Int} (hi : p_inv M K) (hK0 : 0 ≤ K) (hK : K + 2000 < 10000000) : tk_C l y_TK_tick 7 94 [.inr 1, .inl n] M (tk_z (c_tick n M)) := by
  refine tk_C.of wc_TK_tick rfl (Nat.le_of_ble_eq_true rfl) fun hr hM => ?_
  have k17 := hi.2.2.2.2.1
  refine tk_goA fo_TK co_TK tg_TK_tick 40 [] ?_
  refine ⟨(), ka_begun hst tg_TK_tick rfl (by decide) (by decide) (fun h => tk_z.i (by unfold c_tick; rw [if_pos h])) fun hbg => ?_⟩
  refine tk_goA fo_TK co_TK tg_TK_tick 40 [] ?_
  refine ⟨(), ka_in tg_TK_tick rfl (by decide) (by decide) ?_⟩
  generalize hx : f_in n 1 1000 = x
  have hx0 := f_in_0 n 1 1000
  rw [hx] at hx0
  refine tk_goA fo_TK co_TK tg_TK_tick 40 [44] ?_
  repeat' first | refine And.intro ?_ ?_ | intro _
  all_goals try simp only [tk_c, hx0] at *
  all_goals first | omega | skip
  · refine ⟨(), lp_TK_tick l n (by omega) n.toNat 0 M K _ (by omega) (by omega) hi hK0 (by omega) hbg ?_⟩
    unfold c_tick
    rw [if_neg hbg, if_neg (by omega), if_neg (by omega), Int.toNat_of_nonneg (by omega)]
  · exact ⟨(), tk_aN hst tn_TK_1 tg_TK_tick rfl rfl rfl rfl (by decide) (by decide) (tk_z.i (by unfold c_tick; rw [if_neg hbg, if_pos (by omega)]))⟩
def c_request (t s : Int) (M : tk_M) : tk_Z := if M 1 3 = 0 then (.inr 0, M) else if ¬ (0 ≤ t ∧ t ≤ 7) ∨ ¬ (0 ≤ s ∧ s ≤ M 2 3 - 1) then (.inr 1, M) else if M (73 + t.toNat) 9 = 0 then (.inr 3, M) else (.inl (some (f_ext M t.toNat s (73 + t.toNat) 12)), f_ext M t.toNat s)
theorem k_TK_request (l : Launch) (hst : l.stackTraces = false) (M : tk_M) (t s : Int) {K : Int} (hi : p_inv M K) (h9 : ∀ t : Nat, t < 8 → ¬ M 1 3 = 0 → ¬ M (73 + t) 9 = 0 → 0 ≤ M (73 + t) 5 ∧ M (73 + t) 5 < 32) : tk_C l y_TK_request 7 94 [.inr 1, .inl t, .inl s] M (tk_z (c_request t s M)) := by
  refine tk_C.of wc_TK_request rfl (Nat.le_of_ble_eq_true rfl) fun hr hM => ?_
  obtain ⟨t1, t2, t3, t4, t5, t6⟩ := hi.1
  refine tk_goA fo_TK co_TK tg_TK_request 40 [] ?_
  refine ⟨(), ka_begun hst tg_TK_request rfl (by decide) (by decide) (fun h => tk_z.i (by unfold c_request; rw [if_pos h])) fun hbg => ?_⟩
  have k22 : (¬ (0 ≤ t ∧ t ≤ 7) ∨ ¬ (0 ≤ s ∧ s ≤ M 2 3 - 1)) → tk_At l "TrackKeeper" prog_1_method_11_code 3 (some .int) 7 94 (tk_z (c_request t s M)) 22 [some (.inr 1), some (.inl t), some (.inl s)] [] M := fun h => by
    exact tk_aN hst tn_TK_1 tg_TK_request rfl rfl rfl rfl (by decide) (by decide) (tk_z.i (by unfold c_request; rw [if_neg hbg, if_pos h]))
  refine tk_goA fo_TK co_TK tg_TK_request 40 [22] ?_
  refine ⟨(), ka_train tg_TK_request rfl (by decide) (by decide) ?_⟩
  generalize hx : f_in t 0 7 = x
  have hx0 := f_in_0 t 0 7
  rw [hx] at hx0
  refine tk_goA fo_TK co_TK tg_TK_request 40 [22] ?_
  repeat' first | refine And.intro ?_ ?_ | intro _
  all_goals try simp only [tk_c, hx0] at *
  all_goals first | omega | skip
  · exact ⟨(), k22 (by omega)⟩
  refine ⟨(), ka_sub t3 tg_TK_request rfl (by decide) (by decide) ?_⟩
  generalize hz : f_in s 0 (M 2 3 - 1) = z
  have hz0 := f_in_0 s 0 (M 2 3 - 1)
  rw [hz] at hz0
  obtain ⟨u, rfl⟩ | hnt : (∃ u : Nat, t = (u : Int)) ∨ ¬ 0 ≤ t := by
    by_cases h : 0 ≤ t
    · exact Or.inl ⟨t.toNat, by omega⟩
    · exact Or.inr h
  · refine tk_goA fo_TK co_TK tg_TK_request 40 [22] ?_
    repeat' first | refine And.intro ?_ ?_ | intro _
    all_goals try simp only [tk_c, hz0, Int.toNat_natCast] at *
    all_goals first | omega | skip
    · have hl : ¬ M (73 + u) 9 = 0 := by omega
      have hr9 := h9 u (by omega) hbg hl
      have e0 : c_request (u : Int) s M = (.inl (some (f_ext M u s (73 + u) 12)), f_ext M u s) := by
        unfold c_request
        rw [if_neg hbg, if_neg (by omega), Int.toNat_natCast, if_neg hl]
      rw [e0]
      refine ⟨(), tk_aV (k := 2) (k_Au_extend l M u (by omega) s (by omega) hr9.1 hr9.2) wc_Au_extend lk_TK_146 wi_Au_extend wsl_Au_extend tg_TK_request rfl rfl (by decide) rfl rfl rfl (by decide) (Nat.le_of_ble_eq_true rfl) ?_ (fun x M' h => by cases h.1)⟩
      rintro v' N' ⟨h1, rfl⟩ hro
      cases h1
      generalize f_ext M u s = N at *
      refine tk_goA fo_TK co_TK tg_TK_request 40 [22] ?_
      repeat' first | refine And.intro ?_ ?_ | intro _
      all_goals try simp only [Int.toNat_natCast] at *
      all_goals first | omega | rfl | skip
    · refine ⟨(), tk_aN hst tn_TK_3 tg_TK_request rfl rfl rfl rfl (by decide) (by decide) (tk_z.i ?_)⟩
      unfold c_request
      rw [if_neg hbg, if_neg (by omega), Int.toNat_natCast, if_pos (by omega)]
    · exact ⟨(), k22 (by omega)⟩
  · omega
def c_state (k : Int) (M : tk_M) : tk_Z := if M 1 3 = 0 then (.inr 0, M) else if ¬ (0 ≤ k ∧ k ≤ M 2 3 - 1) then (.inr 1, M) else (.inl (some (M (41 + k.toNat) 2)), M)
theorem k_TK_state (l : Launch) (hst : l.stackTraces = false) (M : tk_M) (k : Int) {K : Int} (hi : p_inv M K) : tk_C l y_TK_state 7 94 [.inr 1, .inl k] M (tk_z (c_state k M)) := by
  refine tk_C.of wc_TK_state rfl (Nat.le_of_ble_eq_true rfl) fun hr hM => ?_
  obtain ⟨t1, t2, t3, t4, t5, t6⟩ := hi.1
  refine tk_goA fo_TK co_TK tg_TK_state 40 [] ?_
  refine ⟨(), ka_begun hst tg_TK_state rfl (by decide) (by decide) (fun h => tk_z.i (by unfold c_state; rw [if_pos h])) fun hbg => ?_⟩
  refine tk_goA fo_TK co_TK tg_TK_state 40 [] ?_
  repeat' first | refine And.intro ?_ ?_ | intro _
  all_goals first | omega | skip
  refine ⟨(), ka_sub t3 tg_TK_state rfl (by decide) (by decide) ?_⟩
  generalize hz : f_in k 0 (M 2 3 - 1) = z
  have hz0 := f_in_0 k 0 (M 2 3 - 1)
  rw [hz] at hz0
  have e0 : (0 ≤ k ∧ k ≤ M 2 3 - 1) → c_state k M = (.inl (some (M (41 + k.toNat) 2)), M) := fun h => by
    unfold c_state
    rw [if_neg hbg, if_neg (by omega)]
  refine tk_goA fo_TK co_TK tg_TK_state 40 [] ?_
  repeat' first | refine And.intro ?_ ?_ | intro _
  all_goals try simp only [tk_c, hz0] at *
  all_goals first | omega | skip
  · rw [e0 (by omega)]
  · rw [e0 (by omega)]
  · exact ⟨(), tk_aN hst tn_TK_1 tg_TK_state rfl rfl rfl rfl (by decide) (by decide) (tk_z.i (by unfold c_state; rw [if_neg hbg, if_pos (by omega)]))⟩
def c_train (t w : Int) (M : tk_M) : tk_Z := if M 1 3 = 0 then (.inr 0, M) else if ¬ (0 ≤ t ∧ t ≤ 7) ∨ ¬ (0 ≤ w ∧ w ≤ 5) then (.inr 1, M) else (.inl (some (f_tell M (73 + t.toNat) w)), M)
theorem k_TK_train (l : Launch) (hst : l.stackTraces = false) (M : tk_M) (t w : Int) : tk_C l y_TK_train 7 94 [.inr 1, .inl t, .inl w] M (tk_z (c_train t w M)) := by
  refine tk_C.of wc_TK_train rfl (Nat.le_of_ble_eq_true rfl) fun hr hM => ?_
  refine tk_goA fo_TK co_TK tg_TK_train 40 [] ?_
  refine ⟨(), ka_begun hst tg_TK_train rfl (by decide) (by decide) (fun h => tk_z.i (by unfold c_train; rw [if_pos h])) fun hbg => ?_⟩
  have k20 : (¬ (0 ≤ t ∧ t ≤ 7) ∨ ¬ (0 ≤ w ∧ w ≤ 5)) → tk_At l "TrackKeeper" prog_1_method_13_code 3 (some .int) 7 94 (tk_z (c_train t w M)) 20 [some (.inr 1), some (.inl t), some (.inl w)] [] M := fun h => by
    exact tk_aN hst tn_TK_1 tg_TK_train rfl rfl rfl rfl (by decide) (by decide) (tk_z.i (by unfold c_train; rw [if_neg hbg, if_pos h]))
  refine tk_goA fo_TK co_TK tg_TK_train 40 [20] ?_
  refine ⟨(), ka_train tg_TK_train rfl (by decide) (by decide) ?_⟩
  generalize hx : f_in t 0 7 = x
  have hx0 := f_in_0 t 0 7
  rw [hx] at hx0
  refine tk_goA fo_TK co_TK tg_TK_train 40 [20] ?_
  repeat' first | refine And.intro ?_ ?_ | intro _
  all_goals try simp only [tk_c, hx0] at *
  all_goals first | omega | skip
  · exact ⟨(), k20 (by omega)⟩
  refine ⟨(), ka_in tg_TK_train rfl (by decide) (by decide) ?_⟩
  generalize hz : f_in w 0 5 = z
  have hz0 := f_in_0 w 0 5
  rw [hz] at hz0
  refine tk_goA fo_TK co_TK tg_TK_train 40 [20] ?_
  repeat' first | refine And.intro ?_ ?_ | intro _
  all_goals try simp only [tk_c, hz0] at *
  all_goals first | omega | skip
  · have e0 : c_train t w M = (.inl (some (f_tell M (73 + t.toNat) w)), M) := by
      unfold c_train
      rw [if_neg hbg, if_neg (by omega)]
    rw [e0]
    refine ⟨(), tk_aV (k := 5) (k_Ti_tell l t.toNat (by omega) w M) wc_Ti_tell lk_TK_162 wi_Ti_tell wsl_Ti_tell tg_TK_train rfl rfl (show _ < 81 by omega) (tk_shT (by omega)) rfl rfl (by decide) (Nat.le_of_ble_eq_true rfl) ?_ (fun x M' h => by cases h.1)⟩
    rintro v' N' ⟨h1, rfl⟩ hro
    cases h1
    generalize f_tell N' (73 + t.toNat) w = y
    refine tk_goA fo_TK co_TK tg_TK_train 40 [20] ?_
    exact ⟨rfl, rfl⟩
  · exact ⟨(), k20 (by omega)⟩
def f_csb (M : tk_M) (w k : Int) : Int := if w = 2 then M 1 7 else if w = 3 then M 3 0 else if w = 4 then M 3 1 else if w = 5 then M 2 5 else if w = 6 then M (31 + k.toNat) 3 else f_b (M (31 + k.toNat) 2)
theorem k_TK_countSinceBegin (l : Launch) (M : tk_M) (w k : Int) (h2 : 2 ≤ w) (h7 : w ≤ 7) (hk : 6 ≤ w → 0 ≤ k ∧ k < 10) : tk_C l y_TK_countSinceBegin 0 0 [.inr 1, .inl w, .inl k] M (fun r M' => r = .inl (some (f_csb M w k)) ∧ M' = M) := by
  refine tk_C.of wc_TK_countSinceBegin rfl (Nat.le_of_ble_eq_true rfl) fun hr hM => ?_
  refine tk_goA fo_TK co_TK tg_TK_countSinceBegin 40 [] ?_
  repeat' first | refine And.intro ?_ ?_ | intro _
  all_goals first | rfl | skip
  all_goals try simp only [tk_c] at *
  all_goals first | omega | trivial | (unfold f_csb f_b; (repeat' split) <;> first | rfl | omega)
def c_count (w k : Int) (M : tk_M) : tk_Z := if ¬ (0 ≤ w ∧ w ≤ 7) ∨ (6 ≤ w ∧ ¬ (0 ≤ k ∧ k ≤ M 2 2 - 1)) then (.inr 1, M) else (.inl (some (if w = 0 then M 2 2 else if w = 1 then M 2 3 else if M 1 3 = 0 then 0 else f_csb M w k)), M)
theorem k_TK_count (l : Launch) (hst : l.stackTraces = false) (M : tk_M) (w k : Int) {K : Int} (hi : p_inv M K) : tk_C l y_TK_count 7 94 [.inr 1, .inl w, .inl k] M (tk_z (c_count w k M)) := by
  refine tk_C.of wc_TK_count rfl (Nat.le_of_ble_eq_true rfl) fun hr hM => ?_
  obtain ⟨t1, t2, t3, t4, t5, t6⟩ := hi.1
  have k27 : (¬ (0 ≤ w ∧ w ≤ 7) ∨ (6 ≤ w ∧ ¬ (0 ≤ k ∧ k ≤ M 2 2 - 1))) → tk_At l "TrackKeeper" prog_1_method_14_code 3 (some .int) 7 94 (tk_z (c_count w k M)) 27 [some (.inr 1), some (.inl w), some (.inl k)] [] M := fun h => by
    exact tk_aN hst tn_TK_1 tg_TK_count rfl rfl rfl rfl (by decide) (by decide) (tk_z.i (by unfold c_count; rw [if_pos h]))
  have k35 : ¬ (¬ (0 ≤ w ∧ w ≤ 7) ∨ (6 ≤ w ∧ ¬ (0 ≤ k ∧ k ≤ M 2 2 - 1))) → tk_At l "TrackKeeper" prog_1_method_14_code 3 (some .int) 7 94 (tk_z (c_count w k M)) 35 [some (.inr 1), some (.inl w), some (.inl k)] [] M := fun h => by
    have e0 : c_count w k M = (.inl (some (if w = 0 then M 2 2 else if w = 1 then M 2 3 else if M 1 3 = 0 then 0 else f_csb M w k)), M) := by
      unfold c_count
      rw [if_neg h]
    rw [e0]
    refine tk_goA fo_TK co_TK tg_TK_count 40 [] ?_
    repeat' first | refine And.intro ?_ ?_ | intro _
    all_goals try simp only [tk_c] at *
    all_goals first | omega | rfl | skip
    · rw [if_neg (by omega), if_neg (by omega), if_pos (by omega)]
    · refine ⟨(), tk_aV (k := 0) (k_TK_countSinceBegin l M w k (by omega) (by omega) (by omega)) wc_TK_countSinceBegin lk_TK_165 wi_TK_countSinceBegin wsl_TK_countSinceBegin tg_TK_count rfl rfl (by decide) rfl rfl rfl (by decide) (Nat.le_of_ble_eq_true rfl) ?_ (fun x M' h => by cases h.1)⟩
      rintro v' N' ⟨h1, rfl⟩ hro
      cases h1
      rw [if_neg (by omega), if_neg (by omega), if_neg (by omega)]
      generalize f_csb N' w k = y
      refine tk_goA fo_TK co_TK tg_TK_count 40 [] ?_
      exact ⟨rfl, rfl⟩
    · rw [if_neg (by omega), if_pos (by omega)]
    · rw [if_pos (by omega)]
  refine tk_goA fo_TK co_TK tg_TK_count 40 [27, 35] ?_
  refine ⟨(), ka_in tg_TK_count rfl (by decide) (by decide) ?_⟩
  generalize hx : f_in w 0 7 = x
  have hx0 := f_in_0 w 0 7
  rw [hx] at hx0
  refine tk_goA fo_TK co_TK tg_TK_count 40 [27, 35] ?_
  repeat' first | refine And.intro ?_ ?_ | intro _
  all_goals try simp only [tk_c, hx0] at *
  all_goals first | omega | skip
  · exact ⟨(), k27 (by omega)⟩
  · exact ⟨(), k35 (by omega)⟩
  refine ⟨(), ka_sec t1 tg_TK_count rfl (by decide) (by decide) ?_⟩
  generalize hz : f_in k 0 (M 2 2 - 1) = z
  have hz0 := f_in_0 k 0 (M 2 2 - 1)
  rw [hz] at hz0
  refine tk_goA fo_TK co_TK tg_TK_count 40 [27, 35] ?_
  repeat' first | refine And.intro ?_ ?_ | intro _
  all_goals try simp only [tk_c, hz0] at *
  all_goals first | omega | skip
  · exact ⟨(), k35 (by omega)⟩
  · exact ⟨(), k27 (by omega)⟩
