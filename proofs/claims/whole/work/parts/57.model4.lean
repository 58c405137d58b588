/-! THE REFERENCE: finding, settling, a tick -/
theorem m_au_o {M : tk_M} {t c j : Nat} (h1 : ¬ (c = 26 ∧ j = t)) (h2 : ¬ (c = 7 ∧ (j = 7 ∨ j = 8))) : m_au M t c j = M c j := by
  unfold m_au
  split
  · rfl
  · split
    · rw [tk_up_n (by omega), tk_up_n (by omega)]
    · split
      · split
        · rw [tk_up_n (by omega), tk_up_n (by omega), tk_up_n (by omega)]
        · rw [tk_up_n (by omega), tk_up_n (by omega)]
      · split
        · rw [tk_up_n (by omega)]
        · rfl
theorem m_au_7 {M : tk_M} {t : Nat} (k : Nat) : M 7 k ≤ m_au M t 7 k ∧ m_au M t 7 k ≤ M 7 k + 1 := by
  unfold m_au
  split
  · omega
  · split
    · by_cases e : k = 8
      · subst e; rw [tk_up_s]; omega
      · rw [tk_up_n (by omega), tk_up_n (by omega)]; omega
    · split
      · split
        · rw [tk_up_n (by omega)]
          by_cases e : k = 7
          · subst e; rw [tk_up_s]; omega
          · rw [tk_up_n (by omega), tk_up_n (by omega)]; omega
        · by_cases e : k = 7
          · subst e; rw [tk_up_s]; omega
          · rw [tk_up_n (by omega), tk_up_n (by omega)]; omega
      · split
        · rw [tk_up_n (by omega)]; omega
        · omega
def m_aus (M : tk_M) : Nat → tk_M
  | 0 => M
  | n + 1 => m_au (m_aus M n) n
theorem m_aus_o {M : tk_M} {c j : Nat} (h2 : ¬ (c = 7 ∧ (j = 7 ∨ j = 8))) : ∀ n : Nat, ¬ (c = 26 ∧ j < n) → m_aus M n c j = M c j
  | 0, _ => rfl
  | n + 1, h1 => by
    show m_au (m_aus M n) n c j = _
    rw [m_au_o (by omega) h2]
    exact m_aus_o h2 n (by omega)
theorem m_aus_7 (M : tk_M) (k : Nat) : ∀ n : Nat, M 7 k ≤ m_aus M n 7 k ∧ m_aus M n 7 k ≤ M 7 k + n
  | 0 => ⟨Int.le_refl _, by show M 7 k ≤ _; omega⟩
  | n + 1 => by
    have ih := m_aus_7 M k n
    have h := m_au_7 (M := m_aus M n) (t := n) k
    show M 7 k ≤ m_au (m_aus M n) n 7 k ∧ m_au (m_aus M n) n 7 k ≤ _
    omega
def q_au (M : tk_M) : Prop := (∀ t : Nat, t < 8 → (¬ M 28 t = 0 → 0 ≤ M 30 t ∧ M 30 t < 32) ∧ M 26 t < 32) ∧ M 7 7 < 2147483600 ∧ M 7 8 < 2147483600
theorem lp_Mo_find5 (l : Launch) (M : tk_M) (hq : q_au M) (o : Option tk_U) : ∀ n i : Nat, i + n = 8 →
    tk_At l "TrackKeeperModel" prog_8_method_14_code 3 none 3 46 (fun r M' => r = .inl none ∧ M' = m_aus M 8) 276 [some (.inr 7), some (.inl (i : Int)), o] [] (m_aus M i) := by
  intro n
  induction n with
  | zero =>
    intro i hi
    have e : i = 8 := by omega
    subst e
    refine tk_goA fo_Mo co_Mo tg_Mo_find 40 [276] ?_
    repeat' first | refine And.intro ?_ ?_ | intro _
    all_goals first | rfl | skip
    all_goals try simp only [tk_c] at *
    all_goals first | omega | skip
  | succ n ih =>
    intro i hi
    have h9 := ih (i + 1) (by omega)
    have e9 : m_aus M (i + 1) = m_au (m_aus M i) i := rfl
    have c0 := m_aus_7 M 7 i
    have c1 := m_aus_7 M 8 i
    have hqi := hq.1 i (by omega)
    have con := k_Mo_authority l (m_aus M i) i (by omega) (by rw [m_aus_o (by omega) i (by omega), m_aus_o (by omega) i (by omega)]; exact hqi.1) (by rw [m_aus_o (by omega) i (by omega)]; exact hqi.2) (by have := hq.2.1; omega) (by have := hq.2.2; omega)
    rw [e9] at h9
    generalize m_aus M i = N at *
    refine tk_goA fo_Mo co_Mo tg_Mo_find 40 [276] ?_
    repeat' first | refine And.intro ?_ ?_ | intro _
    all_goals try simp only [tk_c, Int.toNat_natCast] at *
    all_goals first | omega | skip
    refine ⟨(), tk_aV (k := 6) con wc_Mo_authority lk_Mo_145 wi_Mo_authority wsl_Mo_authority tg_Mo_find rfl rfl (by decide) rfl rfl rfl (by decide) (Nat.le_of_ble_eq_true rfl) ?_ (fun x M' h => by cases h.1)⟩
    rintro v' N' ⟨g1, rfl⟩ hro
    cases g1
    refine tk_goA fo_Mo co_Mo tg_Mo_find 40 [276] ?_
    repeat' first | refine And.intro ?_ ?_ | intro _
    all_goals first | omega | skip
    exact ⟨(), h9⟩
/-- the reference's memory when its trains are marked -/
def m_mk (M : tk_M) : tk_M := m_trs (m_f2 (m_f1 M (M 7 2).toNat) (M 7 1).toNat) 8
def m_find (M : tk_M) : tk_M := m_aus (m_st (m_mk M) (M 7 2).toNat) 8
def q_m (c : Nat) : Prop := c ≠ 13 ∧ c ≠ 14 ∧ c ≠ 15 ∧ c ≠ 27 ∧ (c < 28 ∨ 30 < c)
theorem m_mk_o {M : tk_M} {c j : Nat} (h : q_m c) : m_mk M c j = M c j := by
  unfold q_m at h
  unfold m_mk
  rw [m_trs_o (by omega), m_f2_o (by omega), m_f1_o (by omega)]
theorem m_f_loc {M N : tk_M} {t : Nat} (e : ∀ c j, q_m c → N c j = M c j) : m_loc N t = m_loc M t := by
  unfold m_loc
  rw [e _ _ (by unfold q_m; omega), e _ _ (by unfold q_m; omega), e _ _ (by unfold q_m; omega), e _ _ (by unfold q_m; omega), e _ _ (by unfold q_m; omega)]
theorem m_f_who {M N : tk_M} {t : Nat} (e : ∀ c j, q_m c → N c j = M c j) : m_who N t = m_who M t := by
  unfold m_who
  rw [m_f_loc e, e _ _ (by unfold q_m; omega), e _ _ (by unfold q_m; omega), e _ _ (by unfold q_m; omega), e _ _ (by unfold q_m; omega)]
theorem m_f_a {M N : tk_M} {t : Nat} (e : ∀ c j, q_m c → N c j = M c j) : m_a N t = m_a M t := by
  unfold m_a
  rw [e _ _ (by unfold q_m; omega), m_at_eq (e _ _ (by unfold q_m; omega)) (fun k => e _ _ (by unfold q_m; omega))]
theorem m_f_z {M N : tk_M} {t : Nat} (e : ∀ c j, q_m c → N c j = M c j) : m_z N t = m_z M t := by
  unfold m_z
  rw [e _ _ (by unfold q_m; omega), m_at_eq (e _ _ (by unfold q_m; omega)) (fun k => e _ _ (by unfold q_m; omega))]
theorem m_mk_at {M : tk_M} {t : Nat} (ht : t < 8) : m_mk M 28 t = m_loc M t ∧ (¬ m_loc M t = 0 → m_mk M 29 t = (m_a M t : Int) ∧ m_mk M 30 t = (m_z M t : Int)) := by
  have h := m_trs_at (M := m_f2 (m_f1 M (M 7 2).toNat) (M 7 1).toNat) 8 t ht
  have e : ∀ c j, q_m c → m_f2 (m_f1 M (M 7 2).toNat) (M 7 1).toNat c j = M c j := fun c j h => by
    unfold q_m at h
    rw [m_f2_o (by omega), m_f1_o (by omega)]
  rw [m_f_loc e, m_f_a e, m_f_z e] at h
  exact h
/-- what finding asks of the reference -/
def q_fi (M : tk_M) : Prop := q_fn M ∧ (∀ k : Nat, (k : Int) < M 7 2 → q_fd (m_mk M) k) ∧ (∀ t : Nat, t < 8 → M 26 t < 32) ∧ M 7 7 < 2147483600 ∧ M 7 8 < 2147483600
theorem k_Mo_find (l : Launch) (M : tk_M) (hq : q_fi M) : tk_C l y_Mo_find 3 46 [.inr 7] M (fun r M' => r = .inl none ∧ M' = m_find M) := by
  refine tk_C.of wc_Mo_find rfl (Nat.le_of_ble_eq_true rfl) fun hr hM => ?_
  obtain ⟨q1, q2, q3, q4, q5⟩ := hq
  have q1' := id q1
  obtain ⟨f1, f2, f3, f4, f5, f6⟩ := q1'
  have e : ∀ c j, q_m c → m_f2 (m_f1 M (M 7 2).toNat) (M 7 1).toNat c j = M c j := fun c j h => by
    unfold q_m at h
    rw [m_f2_o (by omega), m_f1_o (by omega)]
  have hfn : q_fn (m_f2 (m_f1 M (M 7 2).toNat) (M 7 1).toNat) := by
    obtain ⟨f6, f7⟩ := f6
    refine ⟨by rw [e _ _ (by unfold q_m; omega)]; exact f1, by rw [e _ _ (by unfold q_m; omega)]; exact f2, by rw [e _ _ (by unfold q_m; omega)]; exact f3, by rw [e _ _ (by unfold q_m; omega)]; exact f4, fun k hk => ?_, by rw [e _ _ (by unfold q_m; omega)]; exact f6, fun t ht => ?_⟩
    · rw [e _ _ (by unfold q_m; omega)] at hk
      rw [e _ _ (by unfold q_m; omega)]
      exact f5 k hk
    · rw [e _ _ (by unfold q_m; omega), e _ _ (by unfold q_m; omega)]
      exact f7 t ht
  have ek : m_mk M = m_trs (m_f2 (m_f1 M (M 7 2).toNat) (M 7 1).toNat) 8 := rfl
  have ef : m_find M = m_aus (m_st (m_mk M) (M 7 2).toNat) 8 := rfl
  have o7 : ∀ j, m_mk M 7 j = M 7 j := fun j => m_mk_o (by unfold q_m; omega)
  refine tk_goA fo_Mo co_Mo tg_Mo_find 40 [2] ?_
  refine ⟨(), ?_⟩
  have h := lp_Mo_find1 l M (by omega) f2 (fun r M' => r = .inl none ∧ M' = m_find M) ?_ (M 7 2).toNat 0 (by omega)
  · rw [m_f1_0] at h
    exact h
  · refine tk_goA fo_Mo co_Mo tg_Mo_find 40 [49] ?_
    refine ⟨(), ?_⟩
    have e71 : m_f1 M (M 7 2).toNat 7 1 = M 7 1 := m_f1_o (by decide)
    have h := lp_Mo_find2 l (m_f1 M (M 7 2).toNat) (by omega) (by omega) (fun r M' => r = .inl none ∧ M' = m_find M) ?_ (M 7 1).toNat 0 (by omega)
    · rw [m_f2_0] at h
      exact h
    · rw [e71]
      refine tk_goA fo_Mo co_Mo tg_Mo_find 40 [72] ?_
      refine ⟨(), ?_⟩
      have h := lp_Mo_find_ts l _ hfn (fun r M' => r = .inl none ∧ M' = m_find M) ?_ 8 0 rfl none
      · exact h
      · intro o
        rw [← ek]
        refine tk_goA fo_Mo co_Mo tg_Mo_find 40 [249] ?_
        refine ⟨(), ?_⟩
        have h := lp_Mo_find4 l (m_mk M) (by rw [o7]; omega) (by rw [o7]; exact f2) (fun k hk => q2 k (by rw [o7] at hk; exact hk)) ⟨by rw [o7]; exact f6.1, fun t ht => by rw [m_mk_o (by unfold q_m; omega), m_mk_o (by unfold q_m; omega)]; exact f6.2 t ht⟩ o (fun r M' => r = .inl none ∧ M' = m_find M) ?_ (M 7 2).toNat 0 (by rw [o7]; omega)
        · rw [m_st_0] at h
          exact h
        · rw [o7]
          refine tk_goA fo_Mo co_Mo tg_Mo_find 40 [276] ?_
          refine ⟨(), ?_⟩
          have h := lp_Mo_find5 l (m_st (m_mk M) (M 7 2).toNat) ⟨fun t ht => ?_, ?_, ?_⟩ o 8 0 rfl
          · rw [← ef] at h
            exact h
          · rw [m_st_o (by decide), m_st_o (by decide), m_st_o (by decide), m_mk_o (c := 26) (by unfold q_m; omega), (m_mk_at ht).1]
            refine ⟨fun hl => ?_, q3 t ht⟩
            have := m_z_lt q1 (M 22 t)
            rw [((m_mk_at ht).2 hl).2]
            unfold m_z
            omega
          · rw [m_st_o (by decide), o7]; exact q4
          · rw [m_st_o (by decide), o7]; exact q5
def m_se (S : tk_M) (n : Nat) : tk_M := fun c k => if c = 17 ∧ k < n then 0 else if c = 11 ∧ k < n ∧ m_hld S k = 0 then 0 else S c k
theorem m_se_0 (S : tk_M) : m_se S 0 = S := by funext c k; unfold m_se; rw [if_neg (by omega), if_neg (by omega)]
theorem m_se_o {S : tk_M} {n c k : Nat} (h : ¬ (c = 17 ∧ k < n)) (h2 : ¬ (c = 11 ∧ k < n)) : m_se S n c k = S c k := by
  unfold m_se
  rw [if_neg h, if_neg (by omega)]
theorem m_hld_eq {M N : tk_M} {s : Nat} (h16 : N 16 s = M 16 s) (h7 : N 7 2 = M 7 2) (h8 : ∀ k, N 8 k = M 8 k) (h12 : ∀ k, N 12 k = M 12 k) : m_hld N s = m_hld M s := by
  unfold m_hld m_an
  rw [h16, h7]
  simp only [h8, h12]
theorem m_se_s1 (S : tk_M) (n : Nat) (h : m_hld S n = 0) : tk_up (tk_up (m_se S n) 17 n 0) 11 n 0 = m_se S (n + 1) := by
  funext c k
  by_cases e : k = n
  · subst e
    unfold tk_up m_se
    (repeat' split) <;> first | rfl | omega
  · rw [tk_up_n (by omega), tk_up_n (by omega)]
    unfold m_se
    (repeat' split) <;> first | rfl | omega
theorem m_se_s0 (S : tk_M) (n : Nat) (h : ¬ m_hld S n = 0) : tk_up (m_se S n) 17 n 0 = m_se S (n + 1) := by
  funext c k
  by_cases e : k = n
  · subst e
    unfold tk_up m_se
    (repeat' split) <;> first | rfl | omega
  · rw [tk_up_n (by omega)]
    unfold m_se
    (repeat' split) <;> first | rfl | omega
theorem lp_Mo_settle (l : Launch) (S : tk_M) (h0 : 0 ≤ S 7 1) (h1 : S 7 1 ≤ 10) (h2 : 0 ≤ S 7 2) (h3 : S 7 2 ≤ 32) : ∀ n i : Nat, i + n = (S 7 1).toNat →
    tk_At l "TrackKeeperModel" prog_8_method_19_code 2 none 4 60 (fun r M' => r = .inl none ∧ M' = m_se S (S 7 1).toNat) 6 [some (.inr 7), some (.inl (i : Int))] [] (m_se S i) := by
  intro n
  induction n with
  | zero =>
    intro i hi
    have e : i = (S 7 1).toNat := by omega
    have e7 : m_se S i 7 1 = S 7 1 := m_se_o (by omega) (by omega)
    rw [← e]
    generalize m_se S i = N at *
    refine tk_goA fo_Mo co_Mo tg_Mo_settle 40 [6] ?_
    repeat' first | refine And.intro ?_ ?_ | intro _
    all_goals first | rfl | skip
    all_goals try simp only [tk_c] at *
    all_goals first | omega | skip
  | succ n ih =>
    intro i hi
    have h9 := ih (i + 1) (by omega)
    have e7 : m_se S i 7 1 = S 7 1 := m_se_o (by omega) (by omega)
    have eh : m_hld (tk_up (m_se S i) 17 i 0) i = m_hld S i := m_hld_eq (by rw [tk_up_n (by omega), m_se_o (by omega) (by omega)]) (by rw [tk_up_n (by omega), m_se_o (by omega) (by omega)]) (fun k => by rw [tk_up_n (by omega), m_se_o (by omega) (by omega)]) (fun k => by rw [tk_up_n (by omega), m_se_o (by omega) (by omega)])
    have con := k_Mo_holds l (tk_up (m_se S i) 17 i 0) i (by omega) (by rw [tk_up_n (by omega), m_se_o (by omega) (by omega)]; exact h2) (by rw [tk_up_n (by omega), m_se_o (by omega) (by omega)]; exact h3)
    rw [eh] at con
    have s1 := m_se_s1 S i
    have s0 := m_se_s0 S i
    generalize m_se S (i + 1) = N1 at *
    generalize m_se S i = N at *
    generalize m_se S (S 7 1).toNat = N9 at *
    refine tk_goA fo_Mo co_Mo tg_Mo_settle 40 [6] ?_
    repeat' first | refine And.intro ?_ ?_ | intro _
    all_goals first | exact Or.inl rfl | skip
    all_goals try simp only [tk_c, Int.toNat_natCast] at *
    all_goals first | omega | skip
    refine ⟨(), tk_aV (k := 6) con wc_Mo_holds lk_Mo_163 wi_Mo_holds wsl_Mo_holds tg_Mo_settle rfl rfl (by decide) rfl rfl rfl (by decide) (Nat.le_of_ble_eq_true rfl) ?_ (fun x M' h => by cases h.1)⟩
    rintro v' N' ⟨g1, rfl⟩ hro
    cases g1
    generalize m_hld S i = y at *
    refine tk_goA fo_Mo co_Mo tg_Mo_settle 40 [6] ?_
    repeat' first | refine And.intro ?_ ?_ | intro _
    all_goals try simp only [tk_c, Int.toNat_natCast] at *
    all_goals first | omega | skip
    · rw [← s0 (by omega)] at h9
      exact ⟨(), h9⟩
    · rw [← s1 (by omega)] at h9
      exact ⟨(), h9⟩
def m_set (M : tk_M) : tk_M := m_se (m_find M) (M 7 1).toNat
theorem m_find_7 {M : tk_M} {j : Nat} (h : j ≠ 7 ∧ j ≠ 8) : m_find M 7 j = M 7 j := by
  unfold m_find
  rw [m_aus_o (by omega) 8 (by omega), m_st_o (by decide), m_mk_o (by unfold q_m; omega)]
theorem k_Mo_settle (l : Launch) (M : tk_M) (hq : q_fi M) : tk_C l y_Mo_settle 4 60 [.inr 7] M (fun r M' => r = .inl none ∧ M' = m_set M) := by
  refine tk_C.of wc_Mo_settle rfl (Nat.le_of_ble_eq_true rfl) fun hr hM => ?_
  have e1 := m_find_7 (M := M) (j := 1) (by decide)
  have e2 := m_find_7 (M := M) (j := 2) (by decide)
  obtain ⟨f1, f2, f3, f4, f5, f6⟩ := hq.1
  refine tk_goA fo_Mo co_Mo tg_Mo_settle 40 [6] ?_
  refine ⟨(), tk_aV (k := 6) (k_Mo_find l M hq) wc_Mo_find lk_Mo_160 wi_Mo_find wsl_Mo_find tg_Mo_settle rfl rfl (by decide) rfl rfl rfl (by decide) (Nat.le_of_ble_eq_true rfl) ?_ (fun x M' h => by cases h.1)⟩
  rintro v' N' ⟨g1, rfl⟩ hro
  cases g1
  have h := lp_Mo_settle l (m_find M) (by omega) (by omega) (by omega) (by omega) (M 7 1).toNat 0 (by omega)
  rw [m_se_0, e1] at h
  have ef : m_set M = m_se (m_find M) (M 7 1).toNat := rfl
  rw [← ef] at h
  refine tk_goA fo_Mo co_Mo tg_Mo_settle 40 [6] ?_
  exact ⟨(), h⟩
