/-! THE REFERENCE: its authorities; its trains marked; all found anew -/
def m_run (M : tk_M) (e : Int) : Nat → Int → Int
  | 0, k => k
  | n + 1, k => if k ≤ e ∧ M 12 k.toNat = 0 then m_run M e n (k + 1) else k
theorem m_run_in (M : tk_M) (e : Int) : ∀ (n : Nat) (k : Int), k ≤ m_run M e n k ∧ (m_run M e n k ≤ e + 1 ∨ m_run M e n k = k)
  | 0, k => ⟨Int.le_refl _, Or.inr rfl⟩
  | n + 1, k => by
    unfold m_run
    split
    · have := m_run_in M e n (k + 1)
      omega
    · exact ⟨Int.le_refl _, Or.inr rfl⟩
def m_au (M : tk_M) (t : Nat) : tk_M :=
  if M 26 t < 0 then M
  else if M 28 t = 0 then tk_up (tk_up M 26 t (-1)) 7 8 (M 7 8 + 1)
  else if m_run M (M 26 t) 40 (M 30 t + 1) ≤ M 26 t then (if m_run M (M 26 t) 40 (M 30 t + 1) - 1 ≤ M 30 t then tk_up (tk_up (tk_up M 26 t (m_run M (M 26 t) 40 (M 30 t + 1) - 1)) 7 7 (M 7 7 + 1)) 26 t (-1) else tk_up (tk_up M 26 t (m_run M (M 26 t) 40 (M 30 t + 1) - 1)) 7 7 (M 7 7 + 1))
  else if M 26 t ≤ M 30 t then tk_up M 26 t (-1) else M
theorem lp_Mo_authority (l : Launch) (M : tk_M) (t : Nat) (ht : t < 8) (h26 : M 26 t < 32) (f : Int) (P : (Option Int ⊕ Nat) → tk_M → Prop) (g : Int)
    (hP : tk_At l "TrackKeeperModel" prog_8_method_17_code 4 none 0 0 P 73 [some (.inr 7), some (.inl (t : Int)), some (.inl f), some (.inl g)] [] M) : ∀ (n : Nat) (k : Int), 0 ≤ k → k < 40 → M 26 t + 1 - k ≤ n → m_run M (M 26 t) n k = g →
    tk_At l "TrackKeeperModel" prog_8_method_17_code 4 none 0 0 P 48 [some (.inr 7), some (.inl (t : Int)), some (.inl f), some (.inl k)] [] M := by
  intro n
  induction n with
  | zero =>
    intro k h1 h4 h2 h3
    have h3 : k = g := h3
    subst h3
    refine tk_goA fo_Mo co_Mo tg_Mo_authority 40 [48, 73] ?_
    repeat' first | refine And.intro ?_ ?_ | intro _
    all_goals try simp only [tk_c, Int.toNat_natCast] at *
    all_goals first | omega | skip
    exact ⟨(), hP⟩
  | succ n ih =>
    intro k h1 h4 h2 h3
    unfold m_run at h3
    refine tk_goA fo_Mo co_Mo tg_Mo_authority 40 [48, 73] ?_
    repeat' first | refine And.intro ?_ ?_ | intro _
    all_goals try simp only [tk_c, Int.toNat_natCast] at *
    all_goals first | omega | skip
    · rw [if_neg (by omega)] at h3
      subst h3
      exact ⟨(), hP⟩
    · rw [if_neg (fun z => by omega)] at h3
      subst h3
      exact ⟨(), hP⟩
    · rw [if_pos (by omega)] at h3
      exact ⟨(), ih (k + 1) (by omega) (by omega) (by omega) h3⟩
theorem k_Mo_authority (l : Launch) (M : tk_M) (t : Nat) (ht : t < 8) (h30 : ¬ M 28 t = 0 → 0 ≤ M 30 t ∧ M 30 t < 32) (h26 : M 26 t < 32) (hc0 : M 7 7 < 2147483647) (hc1 : M 7 8 < 2147483647) : tk_C l y_Mo_authority 0 0 [.inr 7, .inl (t : Int)] M (fun r M' => r = .inl none ∧ M' = m_au M t) := by
  refine tk_C.of wc_Mo_authority rfl (Nat.le_of_ble_eq_true rfl) fun hr hM => ?_
  have b0 := hM 7 7
  have b1 := hM 7 8
  by_cases h0 : M 26 t < 0
  · have ef : m_au M t = M := by unfold m_au; rw [if_pos h0]
    rw [ef]
    refine tk_goA fo_Mo co_Mo tg_Mo_authority 40 [] ?_
    repeat' first | refine And.intro ?_ ?_ | intro _
    all_goals first | rfl | skip
    all_goals try simp only [tk_c, Int.toNat_natCast] at *
    all_goals first | omega | skip
  · by_cases hl : M 28 t = 0
    · have ef : m_au M t = tk_up (tk_up M 26 t (-1)) 7 8 (M 7 8 + 1) := by unfold m_au; rw [if_neg h0, if_pos hl]
      rw [ef]
      have u : tk_up M 26 t (-1) 7 8 = M 7 8 := tk_up_n (by omega)
      refine tk_goA fo_Mo co_Mo tg_Mo_authority 40 [37] ?_
      repeat' first | refine And.intro ?_ ?_ | intro _
      all_goals first | rfl | skip
      all_goals try simp only [tk_c, Int.toNat_natCast, u] at *
      all_goals first | omega | skip
    · obtain ⟨q1, q2⟩ := h30 hl
      have hg := m_run_in M (M 26 t) 40 (M 30 t + 1)
      have ef : m_au M t = if m_run M (M 26 t) 40 (M 30 t + 1) ≤ M 26 t then (if m_run M (M 26 t) 40 (M 30 t + 1) - 1 ≤ M 30 t then tk_up (tk_up (tk_up M 26 t (m_run M (M 26 t) 40 (M 30 t + 1) - 1)) 7 7 (M 7 7 + 1)) 26 t (-1) else tk_up (tk_up M 26 t (m_run M (M 26 t) 40 (M 30 t + 1) - 1)) 7 7 (M 7 7 + 1))
          else if M 26 t ≤ M 30 t then tk_up M 26 t (-1) else M := by unfold m_au; rw [if_neg h0, if_neg hl]
      have hlp := lp_Mo_authority l M t ht h26 (M 30 t) (fun r M' => r = .inl none ∧ M' = m_au M t) (m_run M (M 26 t) 40 (M 30 t + 1)) ?_ 40 (M 30 t + 1) (by omega) (by omega) (by omega) rfl
      · refine tk_goA fo_Mo co_Mo tg_Mo_authority 40 [48] ?_
        repeat' first | refine And.intro ?_ ?_ | intro _
        all_goals try simp only [tk_c, Int.toNat_natCast] at *
        all_goals first | omega | skip
        exact ⟨(), hlp⟩
      · generalize m_run M (M 26 t) 40 (M 30 t + 1) = g at *
        have u : ∀ x : Int, tk_up M 26 t x 7 7 = M 7 7 := fun x => tk_up_n (by omega)
        have w1 : ∀ x y : Int, tk_up (tk_up M 26 t x) 7 7 y 26 t = x := fun x y => by rw [tk_up_n (by omega), tk_up_s]
        refine tk_goA fo_Mo co_Mo tg_Mo_authority 40 [] ?_
        repeat' first | refine And.intro ?_ ?_ | intro _
        all_goals first | rfl | skip
        all_goals try simp only [tk_c, u, w1, Int.toNat_natCast] at *
        all_goals first | omega | skip
        · rw [ef, if_neg (by omega), if_neg (by omega)]
        · rw [ef, if_neg (by omega), if_pos (by omega)]
        · rw [ef, if_pos (by omega), if_neg (by omega)]
        · rw [ef, if_pos (by omega), if_pos (by omega)]
def m_or (x : Int) (t : Nat) : Int := (Int32.ofInt x ||| Int32.ofInt (Int32.ofInt 1 <<< (Int32.ofInt (t : Int) &&& 31)).toInt).toInt
/-- train t marked on n subsections from a on -/
def m_inn (M : tk_M) (t a : Nat) : Nat → tk_M
  | 0 => M
  | n + 1 => tk_up (tk_up (m_inn M t a n) 14 (a + n) (m_or (m_inn M t a n 14 (a + n)) t)) 27 (M 8 (a + n)).toNat 1
theorem m_inn_o {M : tk_M} {t a c j : Nat} (h1 : c ≠ 14) (h2 : c ≠ 27) : ∀ n : Nat, m_inn M t a n c j = M c j
  | 0 => rfl
  | n + 1 => by
    unfold m_inn
    rw [tk_up_c _ _ _ _ h2, tk_up_c _ _ _ _ h1]
    exact m_inn_o h1 h2 n
def q_fn (M : tk_M) : Prop := 1 ≤ M 7 2 ∧ M 7 2 ≤ 32 ∧ 0 ≤ M 7 1 ∧ M 7 1 ≤ 10 ∧ (∀ k : Nat, (k : Int) < M 7 2 → 0 ≤ M 8 k ∧ M 8 k < 10) ∧ q_tm M
theorem lp_Mo_find3 (l : Launch) (M : tk_M) (hq : q_fn M) (t : Nat) (ht : t < 8) (a b : Nat) (hb : (b : Int) < M 7 2) (e30 : M 30 t = (b : Int)) (P : (Option Int ⊕ Nat) → tk_M → Prop)
    (hP : ∀ k : Int, tk_At l "TrackKeeperModel" prog_8_method_14_code 3 none 3 46 P 180 [some (.inr 7), some (.inl (t : Int)), some (.inl k)] [] (m_inn M t a (b + 1 - a))) : ∀ n i : Nat, i + n = b + 1 - a →
    tk_At l "TrackKeeperModel" prog_8_method_14_code 3 none 3 46 P 140 [some (.inr 7), some (.inl (t : Int)), some (.inl ((a + i : Nat) : Int))] [] (m_inn M t a i) := by
  obtain ⟨q1, q2, q3, q4, q5, q6⟩ := hq
  intro n
  induction n with
  | zero =>
    intro i hi
    have e : i = b + 1 - a := by omega
    subst e
    have e30' : m_inn M t a (b + 1 - a) 30 t = (b : Int) := by rw [m_inn_o (by decide) (by decide)]; exact e30
    have hP := hP ((a + (b + 1 - a) : Nat) : Int)
    generalize m_inn M t a (b + 1 - a) = N at *
    refine tk_goA fo_Mo co_Mo tg_Mo_find 40 [140, 180] ?_
    repeat' first | refine And.intro ?_ ?_ | intro _
    all_goals try simp only [tk_c, Int.toNat_natCast, e30'] at *
    all_goals first | omega | skip
    exact ⟨(), hP⟩
  | succ n ih =>
    intro i hi
    have h9 := ih (i + 1) (by omega)
    have e9 : m_inn M t a (i + 1) = tk_up (tk_up (m_inn M t a i) 14 (a + i) (m_or (m_inn M t a i 14 (a + i)) t)) 27 (M 8 (a + i)).toNat 1 := rfl
    have e8 : m_inn M t a i 8 (a + i) = M 8 (a + i) := m_inn_o (by decide) (by decide) i
    have e30' : m_inn M t a i 30 t = (b : Int) := by rw [m_inn_o (by decide) (by decide)]; exact e30
    have h8 := q5 (a + i) (by omega)
    rw [e9, ← e8] at h9
    rw [← e8] at h8
    clear e9 e8
    have em : m_or (m_inn M t a i 14 (a + i)) t = (Int32.ofInt (m_inn M t a i 14 (a + i)) ||| Int32.ofInt (Int32.ofInt 1 <<< (Int32.ofInt (t : Int) &&& 31)).toInt).toInt := rfl
    rw [em] at h9
    clear em hP
    generalize m_inn M t a i = N at *
    have u : ∀ x : Int, tk_up N 14 (a + i) x 8 (a + i) = N 8 (a + i) := fun x => tk_up_n (by omega)
    refine tk_goA fo_Mo co_Mo tg_Mo_find 40 [140, 180] ?_
    repeat' first | refine And.intro ?_ ?_ | intro _
    all_goals first | exact Or.inr rfl | skip
    all_goals try simp only [tk_c, Int.toNat_natCast, e30', u] at *
    all_goals first | omega | skip
    exact ⟨(), h9⟩
theorem m_at_eq {M N : tk_M} (h7 : N 7 2 = M 7 2) (h9 : ∀ k, N 9 k = M 9 k) (pl : Int) : ∀ n k : Nat, m_at N pl n k = m_at M pl n k
  | 0, k => rfl
  | n + 1, k => by
    unfold m_at
    rw [h7, h9, m_at_eq h7 h9 pl n (k + 1)]
def m_a (M : tk_M) (t : Nat) : Nat := m_at M (M 23 t) 32 0
def m_z (M : tk_M) (t : Nat) : Nat := m_at M (M 22 t) 32 0
def m_t0 (M : tk_M) (t : Nat) : tk_M := tk_up (tk_up (tk_up M 28 t (m_loc M t)) 29 t (m_a M t)) 30 t (m_z M t)
def m_tr (M : tk_M) (t : Nat) : tk_M :=
  if m_loc M t = 0 then tk_up M 28 t (m_loc M t)
  else if (m_z M t : Int) + 1 < M 7 2 ∧ ¬ M 8 (m_z M t + 1) = M 8 (m_z M t) then tk_up (m_inn (m_t0 M t) t (m_a M t) (m_z M t + 1 - m_a M t)) 27 (M 8 (m_z M t + 1)).toNat 1
  else m_inn (m_t0 M t) t (m_a M t) (m_z M t + 1 - m_a M t)
theorem m_t0_o {M : tk_M} {t c j : Nat} (h1 : c ≠ 28) (h2 : c ≠ 29) (h3 : c ≠ 30) : m_t0 M t c j = M c j := by
  unfold m_t0
  rw [tk_up_c _ _ _ _ h3, tk_up_c _ _ _ _ h2, tk_up_c _ _ _ _ h1]
theorem m_tr_o {M : tk_M} {t c j : Nat} (h : c ≠ 14 ∧ c ≠ 27 ∧ (c < 28 ∨ 30 < c)) : m_tr M t c j = M c j := by
  unfold m_tr
  split
  · rw [tk_up_c _ _ _ _ (by omega)]
  · split
    · rw [tk_up_c _ _ _ _ (by omega), m_inn_o (by omega) (by omega), m_t0_o (by omega) (by omega) (by omega)]
    · rw [m_inn_o (by omega) (by omega), m_t0_o (by omega) (by omega) (by omega)]
theorem m_tr_28 {M : tk_M} {t j : Nat} : m_tr M t 28 j = if j = t then m_loc M t else M 28 j := by
  unfold m_tr
  by_cases e : j = t
  · subst e
    rw [if_pos rfl]
    split
    · rw [tk_up_s]
    · split
      · rw [tk_up_c _ _ _ _ (by omega), m_inn_o (by omega) (by omega)]; unfold m_t0; rw [tk_up_n (by omega), tk_up_n (by omega), tk_up_s]
      · rw [m_inn_o (by omega) (by omega)]; unfold m_t0; rw [tk_up_n (by omega), tk_up_n (by omega), tk_up_s]
  · rw [if_neg e]
    split
    · rw [tk_up_n (by omega)]
    · split
      · rw [tk_up_c _ _ _ _ (by omega), m_inn_o (by omega) (by omega)]; unfold m_t0; rw [tk_up_n (by omega), tk_up_n (by omega), tk_up_n (by omega)]
      · rw [m_inn_o (by omega) (by omega)]; unfold m_t0; rw [tk_up_n (by omega), tk_up_n (by omega), tk_up_n (by omega)]
theorem m_tr_29 {M : tk_M} {t j : Nat} : m_tr M t 29 j = if j = t ∧ ¬ m_loc M t = 0 then (m_a M t : Int) else M 29 j := by
  unfold m_tr
  by_cases hl : m_loc M t = 0
  · rw [if_pos hl, if_neg (by omega), tk_up_n (by omega)]
  · rw [if_neg hl]
    have e : m_inn (m_t0 M t) t (m_a M t) (m_z M t + 1 - m_a M t) 29 j = if j = t ∧ ¬ m_loc M t = 0 then (m_a M t : Int) else M 29 j := by
      rw [m_inn_o (by omega) (by omega)]
      unfold m_t0
      by_cases e : j = t
      · subst e
        rw [if_pos ⟨rfl, hl⟩, tk_up_n (by omega), tk_up_s]
      · rw [if_neg (by omega), tk_up_n (by omega), tk_up_n (by omega), tk_up_n (by omega)]
    split
    · rw [tk_up_c _ _ _ _ (by omega)]; exact e
    · exact e
theorem m_tr_30 {M : tk_M} {t j : Nat} : m_tr M t 30 j = if j = t ∧ ¬ m_loc M t = 0 then (m_z M t : Int) else M 30 j := by
  unfold m_tr
  by_cases hl : m_loc M t = 0
  · rw [if_pos hl, if_neg (by omega), tk_up_n (by omega)]
  · rw [if_neg hl]
    have e : m_inn (m_t0 M t) t (m_a M t) (m_z M t + 1 - m_a M t) 30 j = if j = t ∧ ¬ m_loc M t = 0 then (m_z M t : Int) else M 30 j := by
      rw [m_inn_o (by omega) (by omega)]
      unfold m_t0
      by_cases e : j = t
      · subst e
        rw [if_pos ⟨rfl, hl⟩, tk_up_s]
      · rw [if_neg (by omega), tk_up_n (by omega), tk_up_n (by omega), tk_up_n (by omega)]
    split
    · rw [tk_up_c _ _ _ _ (by omega)]; exact e
    · exact e
theorem q_fn.eq {M N : tk_M} (h : q_fn M) (e : ∀ c j, c ≠ 14 ∧ c ≠ 27 ∧ (c < 28 ∨ 30 < c) → N c j = M c j) : q_fn N := by
  obtain ⟨q1, q2, q3, q4, q5, q6, q7⟩ := h
  refine ⟨by rw [e _ _ (by omega)]; exact q1, by rw [e _ _ (by omega)]; exact q2, by rw [e _ _ (by omega)]; exact q3, by rw [e _ _ (by omega)]; exact q4, fun k hk => ?_, by rw [e _ _ (by omega)]; exact q6, fun t ht => ?_⟩
  · rw [e _ _ (by omega)] at hk
    rw [e _ _ (by omega)]
    exact q5 k hk
  · rw [e _ _ (by omega), e _ _ (by omega)]
    exact q7 t ht
theorem m_z_lt {M : tk_M} (h : q_fn M) (pl : Int) : (m_at M pl 32 0 : Int) < M 7 2 := by
  have := m_at_in M pl 32 0
  have := h.1
  omega
theorem lp_Mo_find_t (l : Launch) (M : tk_M) (hq : q_fn M) (t : Nat) (ht : t < 8) (P : (Option Int ⊕ Nat) → tk_M → Prop)
    (hP : ∀ o : Option tk_U, tk_At l "TrackKeeperModel" prog_8_method_14_code 3 none 3 46 P 72 [some (.inr 7), some (.inl ((t + 1 : Nat) : Int)), o] [] (m_tr M t)) (o : Option tk_U) :
    tk_At l "TrackKeeperModel" prog_8_method_14_code 3 none 3 46 P 72 [some (.inr 7), some (.inl (t : Int)), o] [] M := by
  have hq' := id hq
  obtain ⟨q1, q2, q3, q4, q5, q6⟩ := hq'
  have k241 : ∀ (o : Option tk_U) (N : tk_M), m_tr M t = N → tk_At l "TrackKeeperModel" prog_8_method_14_code 3 none 3 46 P 241 [some (.inr 7), some (.inl (t : Int)), o] [] N := fun o N hN => by
    have hP := hP o
    rw [hN] at hP
    refine tk_goA fo_Mo co_Mo tg_Mo_find 40 [72] ?_
    repeat' first | refine And.intro ?_ ?_ | intro _
    all_goals first | omega | skip
    exact ⟨(), hP⟩
  refine tk_goA fo_Mo co_Mo tg_Mo_find 40 [] ?_
  repeat' first | refine And.intro ?_ ?_ | intro _
  all_goals try simp only [tk_c] at *
  all_goals first | omega | skip
  refine ⟨(), tk_aV (k := 6) (k_Mo_isLocated l M t ht q6) wc_Mo_isLocated lk_Mo_134 wi_Mo_isLocated wsl_Mo_isLocated tg_Mo_find rfl rfl (by decide) rfl rfl rfl (by decide) (Nat.le_of_ble_eq_true rfl) ?_ (fun x M' h => by cases h.1)⟩
  rintro v' M' ⟨h1, rfl⟩ hro
  cases h1
  have h01 := m_loc01 M' t
  have et : m_tr M' t = if m_loc M' t = 0 then tk_up M' 28 t (m_loc M' t)
    else if (m_z M' t : Int) + 1 < M' 7 2 ∧ ¬ M' 8 (m_z M' t + 1) = M' 8 (m_z M' t) then tk_up (m_inn (m_t0 M' t) t (m_a M' t) (m_z M' t + 1 - m_a M' t)) 27 (M' 8 (m_z M' t + 1)).toNat 1
    else m_inn (m_t0 M' t) t (m_a M' t) (m_z M' t + 1 - m_a M' t) := rfl
  have e0 : m_t0 M' t = tk_up (tk_up (tk_up M' 28 t (m_loc M' t)) 29 t (m_a M' t)) 30 t (m_z M' t) := rfl
  have ea : m_a M' t = m_at M' (M' 23 t) 32 0 := rfl
  have ez : m_z M' t = m_at M' (M' 22 t) 32 0 := rfl
  have hz := m_z_lt hq (M' 22 t)
  rw [← ez] at hz
  have hz2 := q5 (m_z M' t) hz
  have hz3 := fun h => q5 (m_z M' t + 1) h
  have ha := m_z_lt hq (M' 23 t)
  rw [← ea] at ha
  have hin : q_fn (m_t0 M' t) := hq.eq (fun c j h => m_t0_o (by omega) (by omega) (by omega))
  have h30 : m_t0 M' t 30 t = (m_z M' t : Int) := by unfold m_t0; rw [tk_up_s]
  have h72 : m_t0 M' t 7 2 = M' 7 2 := m_t0_o (by decide) (by decide) (by decide)
  have hin2 := lp_Mo_find3 l (m_t0 M' t) hin t ht (m_a M' t) (m_z M' t) (by rw [h72]; exact hz) h30 P
  have i30 : m_inn (m_t0 M' t) t (m_a M' t) (m_z M' t + 1 - m_a M' t) 30 t = (m_z M' t : Int) := by rw [m_inn_o (by decide) (by decide), h30]
  have i72 : m_inn (m_t0 M' t) t (m_a M' t) (m_z M' t + 1 - m_a M' t) 7 2 = M' 7 2 := by rw [m_inn_o (by decide) (by decide), h72]
  have i8 : ∀ j, m_inn (m_t0 M' t) t (m_a M' t) (m_z M' t + 1 - m_a M' t) 8 j = M' 8 j := fun j => by rw [m_inn_o (by decide) (by decide), m_t0_o (by decide) (by decide) (by decide)]
  have k180 : ¬ m_loc M' t = 0 → ∀ k : Int, tk_At l "TrackKeeperModel" prog_8_method_14_code 3 none 3 46 P 180 [some (.inr 7), some (.inl (t : Int)), some (.inl k)] [] (m_inn (m_t0 M' t) t (m_a M' t) (m_z M' t + 1 - m_a M' t)) := fun hl k => by
    rw [if_neg hl] at et
    clear hin2
    generalize m_inn (m_t0 M' t) t (m_a M' t) (m_z M' t + 1 - m_a M' t) = N at *
    generalize hzz : m_z M' t = z at *
    have ez1 : ((z : Int) + 1).toNat = z + 1 := by omega
    have hz3 := fun h : (z : Int) + 1 < M' 7 2 => hz3 (by omega)
    refine tk_goA fo_Mo co_Mo tg_Mo_find 40 [241] ?_
    repeat' first | refine And.intro ?_ ?_ | intro _
    all_goals first | exact Or.inr rfl | skip
    all_goals try simp only [tk_c, Int.toNat_natCast, i30, i72, i8, ez1] at *
    all_goals first | omega | skip
    · rw [if_neg (by omega)] at et
      exact ⟨(), k241 _ _ et⟩
    · rw [if_neg (by omega)] at et
      exact ⟨(), k241 _ _ et⟩
    · rw [if_pos (by omega)] at et
      exact ⟨(), k241 _ _ et⟩
  by_cases hl : m_loc M' t = 0
  · rw [if_pos hl, hl] at et
    rw [hl]
    clear hin2 k180
    refine tk_goA fo_Mo co_Mo tg_Mo_find 40 [241] ?_
    repeat' first | refine And.intro ?_ ?_ | intro _
    all_goals first | exact Or.inl rfl | skip
    all_goals try simp only [tk_c, Int.toNat_natCast, tk_up_s] at *
    all_goals first | omega | exact absurd trivial (by assumption) | skip
    exact ⟨(), k241 _ _ et⟩
  · have h1 : m_loc M' t = 1 := by omega
    have hin2 := hin2 (k180 hl) (m_z M' t + 1 - m_a M' t) 0 (by omega)
    have e00 : m_inn (m_t0 M' t) t (m_a M' t) 0 = m_t0 M' t := rfl
    rw [e00, e0, Nat.add_zero] at hin2
    rw [h1] at hin2 ⊢
    have ka := k_Mo_subOf l (tk_up M' 28 t 1) (M' 23 t) (by rw [tk_up_n (by omega)]; exact q2)
    rw [m_at_eq (N := tk_up M' 28 t 1) (M := M') (tk_up_n (by omega)) (fun k => tk_up_n (by omega)), ← ea] at ka
    have kz := k_Mo_subOf l (tk_up (tk_up M' 28 t 1) 29 t (m_a M' t)) (M' 22 t) (by rw [tk_up_n (by omega), tk_up_n (by omega)]; exact q2)
    rw [m_at_eq (N := tk_up (tk_up M' 28 t 1) 29 t (m_a M' t)) (M := M') (by rw [tk_up_n (by omega), tk_up_n (by omega)]) (fun k => by rw [tk_up_n (by omega), tk_up_n (by omega)]), ← ez] at kz
    clear k180 k241 i30 i72 i8 h30 h72 hin et e0 hz3 hz2
    have u23 : tk_up M' 28 t 1 23 t = M' 23 t := tk_up_n (by omega)
    have u22 : ∀ x : Int, tk_up (tk_up M' 28 t 1) 29 t x 22 t = M' 22 t := fun x => by rw [tk_up_n (by omega), tk_up_n (by omega)]
    have u29 : ∀ x y : Int, tk_up (tk_up (tk_up M' 28 t 1) 29 t x) 30 t y 29 t = x := fun x y => by rw [tk_up_n (by omega), tk_up_s]
    generalize m_a M' t = a at *
    generalize m_z M' t = z at *
    refine tk_goA fo_Mo co_Mo tg_Mo_find 40 [241] ?_
    repeat' first | refine And.intro ?_ ?_ | intro _
    all_goals first | exact Or.inr rfl | skip
    all_goals try simp only [tk_c, Int.toNat_natCast, tk_up_s, u23] at *
    all_goals first | omega | exact absurd trivial (by assumption) | skip
    refine ⟨(), tk_aV (k := 6) ka wc_Mo_subOf lk_Mo_138 wi_Mo_subOf wsl_Mo_subOf tg_Mo_find rfl rfl (by decide) rfl rfl rfl (by decide) (Nat.le_of_ble_eq_true rfl) ?_ (fun x M' h => by cases h.1)⟩
    rintro v' N' ⟨g1, rfl⟩ hro
    cases g1
    refine tk_goA fo_Mo co_Mo tg_Mo_find 40 [241] ?_
    repeat' first | refine And.intro ?_ ?_ | intro _
    all_goals try simp only [tk_c, Int.toNat_natCast, u22] at *
    all_goals first | omega | skip
    refine ⟨(), tk_aV (k := 6) kz wc_Mo_subOf lk_Mo_138 wi_Mo_subOf wsl_Mo_subOf tg_Mo_find rfl rfl (by decide) rfl rfl rfl (by decide) (Nat.le_of_ble_eq_true rfl) ?_ (fun x M' h => by cases h.1)⟩
    rintro v' N' ⟨g1, rfl⟩ hro
    cases g1
    refine tk_goA fo_Mo co_Mo tg_Mo_find 40 [140] ?_
    repeat' first | refine And.intro ?_ ?_ | intro _
    all_goals try simp only [tk_c, Int.toNat_natCast, u29] at *
    all_goals first | omega | skip
    exact ⟨(), hin2⟩
def m_trs (M : tk_M) : Nat → tk_M
  | 0 => M
  | n + 1 => m_tr (m_trs M n) n
theorem m_trs_o {M : tk_M} {c j : Nat} (h : c ≠ 14 ∧ c ≠ 27 ∧ (c < 28 ∨ 30 < c)) : ∀ n : Nat, m_trs M n c j = M c j
  | 0 => rfl
  | n + 1 => by
    show m_tr (m_trs M n) n c j = M c j
    rw [m_tr_o h, m_trs_o h n]
theorem m_loc_eq {M N : tk_M} {t : Nat} (e : ∀ c j, c ≠ 14 ∧ c ≠ 27 ∧ (c < 28 ∨ 30 < c) → N c j = M c j) : m_loc N t = m_loc M t := by
  unfold m_loc
  rw [e _ _ (by omega), e _ _ (by omega), e _ _ (by omega), e _ _ (by omega), e _ _ (by omega)]
theorem m_who_eq {M N : tk_M} {t : Nat} (e : ∀ c j, c ≠ 14 ∧ c ≠ 27 ∧ (c < 28 ∨ 30 < c) → N c j = M c j) : m_who N t = m_who M t := by
  unfold m_who
  rw [m_loc_eq e, e _ _ (by omega), e _ _ (by omega), e _ _ (by omega), e _ _ (by omega)]
theorem m_a_eq {M N : tk_M} {t : Nat} (e : ∀ c j, c ≠ 14 ∧ c ≠ 27 ∧ (c < 28 ∨ 30 < c) → N c j = M c j) : m_a N t = m_a M t := by
  unfold m_a
  rw [e _ _ (by omega), m_at_eq (e _ _ (by omega)) (fun k => e _ _ (by omega))]
theorem m_z_eq {M N : tk_M} {t : Nat} (e : ∀ c j, c ≠ 14 ∧ c ≠ 27 ∧ (c < 28 ∨ 30 < c) → N c j = M c j) : m_z N t = m_z M t := by
  unfold m_z
  rw [e _ _ (by omega), m_at_eq (e _ _ (by omega)) (fun k => e _ _ (by omega))]
theorem m_trs_at {M : tk_M} : ∀ n : Nat, ∀ t : Nat, t < n → m_trs M n 28 t = m_loc M t ∧ (¬ m_loc M t = 0 → m_trs M n 29 t = (m_a M t : Int) ∧ m_trs M n 30 t = (m_z M t : Int))
  | 0, t, h => absurd h (Nat.not_lt_zero _)
  | n + 1, t, h => by
    have e : ∀ c j, c ≠ 14 ∧ c ≠ 27 ∧ (c < 28 ∨ 30 < c) → m_trs M n c j = M c j := fun c j h => m_trs_o h n
    show m_tr (m_trs M n) n 28 t = _ ∧ (_ → m_tr (m_trs M n) n 29 t = _ ∧ m_tr (m_trs M n) n 30 t = _)
    rw [m_tr_28, m_tr_29, m_tr_30, m_loc_eq e, m_a_eq e, m_z_eq e]
    by_cases et : t = n
    · subst et
      refine ⟨if_pos rfl, fun hl => ⟨?_, ?_⟩⟩
      · rw [if_pos ⟨rfl, hl⟩]
      · rw [if_pos ⟨rfl, hl⟩]
    · have ih := m_trs_at (M := M) n t (by omega)
      refine ⟨by rw [if_neg et]; exact ih.1, fun hl => ⟨?_, ?_⟩⟩
      · rw [if_neg (fun z => et z.1)]; exact (ih.2 hl).1
      · rw [if_neg (fun z => et z.1)]; exact (ih.2 hl).2
theorem lp_Mo_find_ts (l : Launch) (M : tk_M) (hq : q_fn M) (P : (Option Int ⊕ Nat) → tk_M → Prop)
    (hP : ∀ o : Option tk_U, tk_At l "TrackKeeperModel" prog_8_method_14_code 3 none 3 46 P 247 [some (.inr 7), some (.inl 8), o] [] (m_trs M 8)) : ∀ n i : Nat, i + n = 8 → ∀ (o : Option tk_U),
    tk_At l "TrackKeeperModel" prog_8_method_14_code 3 none 3 46 P 72 [some (.inr 7), some (.inl (i : Int)), o] [] (m_trs M i) := by
  intro n
  induction n with
  | zero =>
    intro i hi o
    have e : i = 8 := by omega
    subst e
    have hP := hP o
    generalize m_trs M 8 = N at *
    refine tk_goA fo_Mo co_Mo tg_Mo_find 40 [247] ?_
    repeat' first | refine And.intro ?_ ?_ | intro _
    all_goals try simp only [tk_c] at *
    all_goals first | omega | skip
    exact ⟨(), hP⟩
  | succ n ih =>
    intro i hi o
    refine lp_Mo_find_t l (m_trs M i) (hq.eq (fun c j h => m_trs_o h i)) i (by omega) P (fun o => ?_) o
    exact ih (i + 1) (by omega) o
/-- what was, kept; nothing covered -/
def m_f1 (M : tk_M) (n : Nat) : tk_M := fun c k => if k < n then (if c = 13 then M 12 k else if c = 15 then M 14 k else if c = 14 then 0 else M c k) else M c k
def m_f2 (M : tk_M) (n : Nat) : tk_M := fun c k => if c = 27 ∧ k < n then 0 else M c k
theorem m_f1_s (M : tk_M) (n : Nat) : tk_up (tk_up (tk_up (m_f1 M n) 13 n (m_f1 M n 12 n)) 15 n (tk_up (m_f1 M n) 13 n (m_f1 M n 12 n) 14 n)) 14 n 0 = m_f1 M (n + 1) := by
  have e1 : m_f1 M n 12 n = M 12 n := by unfold m_f1; rw [if_neg (by omega)]
  have e2 : m_f1 M n 14 n = M 14 n := by unfold m_f1; rw [if_neg (by omega)]
  rw [tk_up_n (by omega), e1, e2]
  funext c k
  by_cases h : k = n
  · subst h
    unfold tk_up m_f1
    (repeat' split) <;> first | rfl | omega | simp_all
  · rw [tk_up_n (by omega), tk_up_n (by omega), tk_up_n (by omega)]
    unfold m_f1
    by_cases h2 : k < n
    · rw [if_pos h2, if_pos (show k < n + 1 by omega)]
    · rw [if_neg h2, if_neg (show ¬ k < n + 1 by omega)]
theorem m_f2_s (M : tk_M) (n : Nat) : tk_up (m_f2 M n) 27 n 0 = m_f2 M (n + 1) := by
  funext c k
  unfold tk_up m_f2
  (repeat' split) <;> first | rfl | omega
theorem m_f1_0 (M : tk_M) : m_f1 M 0 = M := by funext c k; unfold m_f1; rw [if_neg (by omega)]
theorem m_f2_0 (M : tk_M) : m_f2 M 0 = M := by funext c k; unfold m_f2; rw [if_neg (by omega)]
theorem m_f1_o {M : tk_M} {n c k : Nat} (h : c ≠ 13 ∧ c ≠ 14 ∧ c ≠ 15) : m_f1 M n c k = M c k := by
  unfold m_f1
  (repeat' split) <;> first | rfl | omega
theorem m_f2_o {M : tk_M} {n c k : Nat} (h : c ≠ 27) : m_f2 M n c k = M c k := by
  unfold m_f2
  rw [if_neg (by omega)]
theorem lp_Mo_find1 (l : Launch) (M : tk_M) (h0 : 0 ≤ M 7 2) (h1 : M 7 2 ≤ 32) (P : (Option Int ⊕ Nat) → tk_M → Prop) (hP : tk_At l "TrackKeeperModel" prog_8_method_14_code 3 none 3 46 P 47 [some (.inr 7), some (.inl (M 7 2)), none] [] (m_f1 M (M 7 2).toNat)) : ∀ n i : Nat, i + n = (M 7 2).toNat →
    tk_At l "TrackKeeperModel" prog_8_method_14_code 3 none 3 46 P 2 [some (.inr 7), some (.inl (i : Int)), none] [] (m_f1 M i) := by
  intro n
  induction n with
  | zero =>
    intro i hi
    have e : i = (M 7 2).toNat := by omega
    have e2 : (i : Int) = M 7 2 := by omega
    have e7 : m_f1 M i 7 2 = M 7 2 := m_f1_o (by decide)
    rw [← e, ← e2] at hP
    generalize m_f1 M i = N at *
    refine tk_goA fo_Mo co_Mo tg_Mo_find 40 [2, 47] ?_
    repeat' first | refine And.intro ?_ ?_ | intro _
    all_goals try simp only [tk_c] at *
    all_goals first | omega | skip
    exact ⟨(), hP⟩
  | succ n ih =>
    intro i hi
    have h9 := ih (i + 1) (by omega)
    rw [← m_f1_s M i] at h9
    have e7 : m_f1 M i 7 2 = M 7 2 := m_f1_o (by decide)
    clear hP
    generalize m_f1 M i = N at *
    refine tk_goA fo_Mo co_Mo tg_Mo_find 40 [2, 47] ?_
    repeat' first | refine And.intro ?_ ?_ | intro _
    all_goals try simp only [tk_c, Int.toNat_natCast] at *
    all_goals first | omega | skip
    exact ⟨(), h9⟩
theorem lp_Mo_find2 (l : Launch) (M : tk_M) (h0 : 0 ≤ M 7 1) (h1 : M 7 1 ≤ 10) (P : (Option Int ⊕ Nat) → tk_M → Prop) (hP : tk_At l "TrackKeeperModel" prog_8_method_14_code 3 none 3 46 P 70 [some (.inr 7), some (.inl (M 7 1)), none] [] (m_f2 M (M 7 1).toNat)) : ∀ n i : Nat, i + n = (M 7 1).toNat →
    tk_At l "TrackKeeperModel" prog_8_method_14_code 3 none 3 46 P 49 [some (.inr 7), some (.inl (i : Int)), none] [] (m_f2 M i) := by
  intro n
  induction n with
  | zero =>
    intro i hi
    have e : i = (M 7 1).toNat := by omega
    have e2 : (i : Int) = M 7 1 := by omega
    have e7 : m_f2 M i 7 1 = M 7 1 := m_f2_o (by decide)
    rw [← e, ← e2] at hP
    generalize m_f2 M i = N at *
    refine tk_goA fo_Mo co_Mo tg_Mo_find 40 [49, 70] ?_
    repeat' first | refine And.intro ?_ ?_ | intro _
    all_goals try simp only [tk_c] at *
    all_goals first | omega | skip
    exact ⟨(), hP⟩
  | succ n ih =>
    intro i hi
    have h9 := ih (i + 1) (by omega)
    rw [← m_f2_s M i] at h9
    have e7 : m_f2 M i 7 1 = M 7 1 := m_f2_o (by decide)
    clear hP
    generalize m_f2 M i = N at *
    refine tk_goA fo_Mo co_Mo tg_Mo_find 40 [49, 70] ?_
    repeat' first | refine And.intro ?_ ?_ | intro _
    all_goals first | exact Or.inl rfl | skip
    all_goals try simp only [tk_c, Int.toNat_natCast] at *
    all_goals first | omega | skip
    exact ⟨(), h9⟩
/-- the states of the first n subsections found anew -/
def m_st (N : tk_M) (n : Nat) : tk_M := fun c k => if c = 12 ∧ k < n then m_fd N k else N c k
theorem m_st_o {N : tk_M} {n c k : Nat} (h : c ≠ 12) : m_st N n c k = N c k := by
  unfold m_st
  rw [if_neg (by omega)]
theorem m_st_0 (N : tk_M) : m_st N 0 = N := by funext c k; unfold m_st; rw [if_neg (by omega)]
theorem m_who_12 {M N : tk_M} {t : Nat} (e : ∀ c j, c ≠ 12 → N c j = M c j) : m_who N t = m_who M t := by
  unfold m_who m_loc
  rw [e _ _ (by omega), e _ _ (by omega), e _ _ (by omega), e _ _ (by omega), e _ _ (by omega), e _ _ (by omega), e _ _ (by omega), e _ _ (by omega)]
theorem m_fd_st (N : tk_M) (n k : Nat) : m_fd (m_st N n) k = m_fd N k := by
  have e : ∀ c j, c ≠ 12 → m_st N n c j = N c j := fun c j h => m_st_o h
  have e8 : ∀ j, m_st N n 8 j = N 8 j := fun j => e _ _ (by decide)
  have e10 : ∀ j, m_st N n 10 j = N 10 j := fun j => e _ _ (by decide)
  have e13 : ∀ j, m_st N n 13 j = N 13 j := fun j => e _ _ (by decide)
  have e14 : ∀ j, m_st N n 14 j = N 14 j := fun j => e _ _ (by decide)
  have e15 : ∀ j, m_st N n 15 j = N 15 j := fun j => e _ _ (by decide)
  have e16 : ∀ j, m_st N n 16 j = N 16 j := fun j => e _ _ (by decide)
  have e17 : ∀ j, m_st N n 17 j = N 17 j := fun j => e _ _ (by decide)
  have e27 : ∀ j, m_st N n 27 j = N 27 j := fun j => e _ _ (by decide)
  have e29 : ∀ j, m_st N n 29 j = N 29 j := fun j => e _ _ (by decide)
  have ew : ∀ t, m_who (m_st N n) t = m_who N t := fun t => m_who_12 e
  unfold m_fd
  simp only [e8, e10, e13, e14, e15, e16, e17, e27, e29, ew]
theorem q_fd_st {N : tk_M} {n k : Nat} (h : q_fd N k) : q_fd (m_st N n) k := by
  have e : ∀ c j, c ≠ 12 → m_st N n c j = N c j := fun c j h => m_st_o h
  unfold q_fd at h ⊢
  rw [e 8 k (by decide), e 14 k (by decide), e 15 k (by decide), e 29 _ (by decide), e 8 _ (by decide), e 8 _ (by decide), e 10 _ (by decide)]
  exact h
theorem m_st_s (N : tk_M) (n : Nat) : tk_up (m_st N n) 12 n (m_fd (m_st N n) n) = m_st N (n + 1) := by
  rw [m_fd_st]
  funext c k
  unfold tk_up m_st
  (repeat' split) <;> first | rfl | omega | skip
  rename_i h _
  rw [h.2]
theorem lp_Mo_find4 (l : Launch) (M : tk_M) (h0 : 0 ≤ M 7 2) (h1 : M 7 2 ≤ 32) (hq : ∀ k : Nat, (k : Int) < M 7 2 → q_fd M k) (ht : q_tm M) (o : Option tk_U) (P : (Option Int ⊕ Nat) → tk_M → Prop) (hP : tk_At l "TrackKeeperModel" prog_8_method_14_code 3 none 3 46 P 274 [some (.inr 7), some (.inl (M 7 2)), o] [] (m_st M (M 7 2).toNat)) : ∀ n i : Nat, i + n = (M 7 2).toNat →
    tk_At l "TrackKeeperModel" prog_8_method_14_code 3 none 3 46 P 249 [some (.inr 7), some (.inl (i : Int)), o] [] (m_st M i) := by
  intro n
  induction n with
  | zero =>
    intro i hi
    have e : i = (M 7 2).toNat := by omega
    have e2 : (i : Int) = M 7 2 := by omega
    have e7 : m_st M i 7 2 = M 7 2 := m_st_o (by decide)
    rw [← e, ← e2] at hP
    generalize m_st M i = N at *
    refine tk_goA fo_Mo co_Mo tg_Mo_find 40 [249, 274] ?_
    repeat' first | refine And.intro ?_ ?_ | intro _
    all_goals try simp only [tk_c] at *
    all_goals first | omega | skip
    exact ⟨(), hP⟩
  | succ n ih =>
    intro i hi
    have h9 := ih (i + 1) (by omega)
    rw [← m_st_s M i] at h9
    have e7 : m_st M i 7 2 = M 7 2 := m_st_o (by decide)
    have con := k_Mo_found l (m_st M i) i (by omega) (q_fd_st (hq i (by omega))) ⟨by rw [m_st_o (by decide)]; exact ht.1, fun t h => by rw [m_st_o (by decide), m_st_o (by decide)]; exact ht.2 t h⟩
    clear hP
    generalize m_st M i = N at *
    refine tk_goA fo_Mo co_Mo tg_Mo_find 40 [249, 274] ?_
    repeat' first | refine And.intro ?_ ?_ | intro _
    all_goals try simp only [tk_c, Int.toNat_natCast] at *
    all_goals first | omega | skip
    refine ⟨(), tk_aV (k := 6) con wc_Mo_found lk_Mo_142 wi_Mo_found wsl_Mo_found tg_Mo_find rfl rfl (by decide) rfl rfl rfl (by decide) (Nat.le_of_ble_eq_true rfl) ?_ (fun x M' h => by cases h.1)⟩
    rintro v' N' ⟨g1, rfl⟩ hro
    cases g1
    generalize m_fd N' i = y at *
    refine tk_goA fo_Mo co_Mo tg_Mo_find 40 [249, 274] ?_
    repeat' first | refine And.intro ?_ ?_ | intro _
    all_goals try simp only [tk_c, Int.toNat_natCast] at *
    all_goals first | omega | skip
    exact ⟨(), h9⟩
