/-! THE REFERENCE: tick, request -/
/-- one section's counting -/
def m_c1 (M : tk_M) (s : Nat) : tk_M := if m_hld M s = 0 then M else if M 11 s + 1 < M 7 6 then tk_up M 11 s (M 11 s + 1) else tk_up (tk_up (tk_up (tk_up M 11 s (M 11 s + 1)) 17 s 1) 7 9 (M 7 9 + 1)) 11 s 0
def m_cs (M : tk_M) : Nat → tk_M
  | 0 => M
  | n + 1 => m_c1 (m_cs M n) n
theorem m_c1_o {M : tk_M} {s c j : Nat} (h1 : ¬ ((c = 11 ∨ c = 17) ∧ j = s)) (h2 : ¬ (c = 7 ∧ j = 9)) : m_c1 M s c j = M c j := by
  unfold m_c1
  split
  · rfl
  · split
    · rw [tk_up_n (by omega)]
    · rw [tk_up_n (by omega), tk_up_n (by omega), tk_up_n (by omega), tk_up_n (by omega)]
theorem m_c1_79 {M : tk_M} {s : Nat} : M 7 9 ≤ m_c1 M s 7 9 ∧ m_c1 M s 7 9 ≤ M 7 9 + 1 := by
  unfold m_c1
  split
  · omega
  · split
    · rw [tk_up_n (by omega)]; omega
    · rw [tk_up_n (by omega), tk_up_s]; omega
theorem m_cs_o {M : tk_M} {c j : Nat} (h2 : ¬ (c = 7 ∧ j = 9)) : ∀ n : Nat, ¬ ((c = 11 ∨ c = 17) ∧ j < n) → m_cs M n c j = M c j
  | 0, _ => rfl
  | n + 1, h1 => by
    show m_c1 (m_cs M n) n c j = _
    rw [m_c1_o (by omega) h2]
    exact m_cs_o h2 n (by omega)
theorem m_cs_79 (M : tk_M) : ∀ n : Nat, M 7 9 ≤ m_cs M n 7 9 ∧ m_cs M n 7 9 ≤ M 7 9 + n
  | 0 => ⟨Int.le_refl _, by show M 7 9 ≤ _; omega⟩
  | n + 1 => by
    have ih := m_cs_79 M n
    have h := m_c1_79 (M := m_cs M n) (s := n)
    show M 7 9 ≤ m_c1 (m_cs M n) n 7 9 ∧ m_c1 (m_cs M n) n 7 9 ≤ _
    omega
def q_c (M : tk_M) : Prop := 0 ≤ M 7 1 ∧ M 7 1 ≤ 10 ∧ 0 ≤ M 7 2 ∧ M 7 2 ≤ 32 ∧ M 7 9 < 2147483000 ∧ ∀ s : Nat, (s : Int) < M 7 1 → M 11 s < 2147483000
theorem lp_Mo_tick1 (l : Launch) (M : tk_M) (hq : q_c M) (n i : Int) (P : (Option Int ⊕ Nat) → tk_M → Prop) (hP : tk_At l "TrackKeeperModel" prog_8_method_24_code 4 (some .int) 6 90 P 161 [some (.inr 7), some (.inl n), some (.inl i), some (.inl (M 7 1))] [] (m_cs M (M 7 1).toNat)) : ∀ k s : Nat, s + k = (M 7 1).toNat →
    tk_At l "TrackKeeperModel" prog_8_method_24_code 4 (some .int) 6 90 P 94 [some (.inr 7), some (.inl n), some (.inl i), some (.inl (s : Int))] [] (m_cs M s) := by
  obtain ⟨q1, q2, q3, q4, q5, q6⟩ := hq
  intro k
  induction k with
  | zero =>
    intro s hs
    have e : s = (M 7 1).toNat := by omega
    have e2 : (s : Int) = M 7 1 := by omega
    have e7 : m_cs M s 7 1 = M 7 1 := m_cs_o (by omega) s (by omega)
    rw [← e, ← e2] at hP
    generalize m_cs M s = X at *
    refine tk_goA fo_Mo co_Mo tg_Mo_tick 60 [94, 161] ?_
    repeat' first | refine And.intro ?_ ?_ | intro _
    all_goals first | exact Or.inl rfl | exact Or.inr rfl | rfl | skip
    all_goals try simp only [tk_c, not_true_eq_false, not_false_eq_true, Int.toNat_natCast] at *
    all_goals first | omega | skip
    exact ⟨(), hP⟩
  | succ k ih =>
    intro s hs
    have h9 := ih (s + 1) (by omega)
    have e9 : m_cs M (s + 1) = m_c1 (m_cs M s) s := rfl
    have e7 : m_cs M s 7 1 = M 7 1 := m_cs_o (by omega) s (by omega)
    have e72 : m_cs M s 7 2 = M 7 2 := m_cs_o (by omega) s (by omega)
    have e11 : m_cs M s 11 s = M 11 s := m_cs_o (by omega) s (by omega)
    have q11 := q6 s (by omega)
    have e79 := m_cs_79 M s
    rw [e9] at h9
    clear hP e9
    generalize m_cs M s = X at *
    have ec : m_c1 X s = if m_hld X s = 0 then X else if X 11 s + 1 < X 7 6 then tk_up X 11 s (X 11 s + 1) else tk_up (tk_up (tk_up (tk_up X 11 s (X 11 s + 1)) 17 s 1) 7 9 (X 7 9 + 1)) 11 s 0 := rfl
    generalize m_c1 X s = Y at *
    refine tk_goA fo_Mo co_Mo tg_Mo_tick 60 [94, 161] ?_
    repeat' first | refine And.intro ?_ ?_ | intro _
    all_goals first | exact Or.inl rfl | exact Or.inr rfl | rfl | skip
    all_goals try simp only [tk_c, not_true_eq_false, not_false_eq_true, Int.toNat_natCast] at *
    all_goals first | omega | skip
    refine ⟨(), ma_holds (by omega) (by omega) (by omega) tg_Mo_tick rfl (by decide) (by decide) ?_⟩
    generalize m_hld X s = h at *
    have u6 : ∀ x, tk_up X 11 s x 7 6 = X 7 6 := fun x => tk_up_n (by omega)
    have u9 : ∀ x, tk_up (tk_up X 11 s x) 17 s 1 7 9 = X 7 9 := fun x => by rw [tk_up_n (by omega), tk_up_n (by omega)]
    refine tk_goA fo_Mo co_Mo tg_Mo_tick 60 [94, 161] ?_
    repeat' first | refine And.intro ?_ ?_ | intro _
    all_goals first | exact Or.inl rfl | exact Or.inr rfl | rfl | skip
    all_goals try simp only [tk_c, not_true_eq_false, not_false_eq_true, Int.toNat_natCast, u6, u9] at *
    all_goals first | omega | skip
    · rw [if_pos (by omega)] at ec
      rw [ec] at h9
      exact ⟨(), h9⟩
    · rw [if_neg (by omega), if_neg (by omega)] at ec
      rw [ec] at h9
      exact ⟨(), h9⟩
    · rw [if_neg (by omega), if_pos (by omega)] at ec
      rw [ec] at h9
      exact ⟨(), h9⟩
def m_tick (M : tk_M) : tk_M := m_set (m_cs (tk_up M 7 3 (M 7 3 + 1)) (M 7 1).toNat)
def h_tick : Nat → tk_M → tk_M
  | 0, M => M
  | n + 1, M => h_tick n (m_tick M)
def q_tk (M : tk_M) : Prop := q_c M ∧ 0 ≤ M 7 3 ∧ M 7 3 < 2147483000 ∧ q_fi (m_cs (tk_up M 7 3 (M 7 3 + 1)) (M 7 1).toNat)
theorem m_tick_73 {M : tk_M} : m_tick M 7 3 = M 7 3 + 1 := by
  unfold m_tick m_set
  rw [m_se_o (by omega) (by omega), m_find_7 (by decide), m_cs_o (by omega) _ (by omega), tk_up_s]
theorem lp_Mo_tick (l : Launch) (n : Int) (hn : n ≤ 1000) : ∀ (k : Nat) (i : Int) (M : tk_M) (Z : tk_Z) (o : Option tk_U), i + k = n → 0 ≤ i → (∀ j : Nat, j < k → q_tk (h_tick j M)) → Z = (.inl (some (M 7 3 + k)), h_tick k M) →
    tk_At l "TrackKeeperModel" prog_8_method_24_code 4 (some .int) 6 90 (tk_z Z) 77 [some (.inr 7), some (.inl n), some (.inl i), o] [] M := by
  intro k
  induction k with
  | zero =>
    intro i M Z o hi h0 hq hZ
    have e : M 7 3 + ((0 : Nat) : Int) = M 7 3 := by omega
    rw [e] at hZ
    rw [hZ]
    refine tk_goA fo_Mo co_Mo tg_Mo_tick 60 [77] ?_
    repeat' first | refine And.intro ?_ ?_ | intro _
    all_goals first | exact Or.inl rfl | exact Or.inr rfl | rfl | skip
    all_goals try simp only [tk_c, not_true_eq_false, not_false_eq_true, Int.toNat_natCast] at *
    all_goals first | omega | skip
  | succ k ih =>
    intro i M Z o hi h0 hq hZ
    obtain ⟨q1, q2, q3, q4⟩ : q_tk M := hq 0 (by omega)
    have h9 := fun o => ih (i + 1) (m_tick M) Z o (by omega) (by omega) (fun j hj => hq (j + 1) (by omega)) (by
      have e : M 7 3 + ((k + 1 : Nat) : Int) = M 7 3 + 1 + (k : Int) := by omega
      rw [hZ, m_tick_73, e]
      rfl)
    have ef : m_tick M = m_set (m_cs (tk_up M 7 3 (M 7 3 + 1)) (M 7 1).toNat) := rfl
    rw [ef] at h9
    have u71 : tk_up M 7 3 (M 7 3 + 1) 7 1 = M 7 1 := tk_up_n (by omega)
    have u72 : tk_up M 7 3 (M 7 3 + 1) 7 2 = M 7 2 := tk_up_n (by omega)
    have qc : q_c (tk_up M 7 3 (M 7 3 + 1)) := by
      obtain ⟨c1, c2, c3, c4, c5, c6⟩ := q1
      exact ⟨by rw [u71]; exact c1, by rw [u71]; exact c2, by rw [u72]; exact c3, by rw [u72]; exact c4, by rw [tk_up_n (by omega)]; exact c5, fun s hs => by rw [tk_up_n (by omega)]; rw [u71] at hs; exact c6 s hs⟩
    have h1 := lp_Mo_tick1 l (tk_up M 7 3 (M 7 3 + 1)) qc n i (tk_z Z) ?_ (M 7 1).toNat 0 (by rw [u71]; omega)
    · refine tk_goA fo_Mo co_Mo tg_Mo_tick 60 [94] ?_
      repeat' first | refine And.intro ?_ ?_ | intro _
      all_goals first | exact Or.inl rfl | exact Or.inr rfl | rfl | skip
      all_goals try simp only [tk_c, not_true_eq_false, not_false_eq_true, Int.toNat_natCast] at *
      all_goals first | omega | skip
      exact ⟨(), h1⟩
    · rw [u71]
      generalize m_cs (tk_up M 7 3 (M 7 3 + 1)) (M 7 1).toNat = X at *
      refine tk_goA fo_Mo co_Mo tg_Mo_tick 60 [94] ?_
      refine ⟨(), ma_settle q4 tg_Mo_tick rfl (by decide) (by decide) ?_⟩
      have h9 := h9 (some (.inl (M 7 1)))
      generalize m_set X = Y at *
      refine tk_goA fo_Mo co_Mo tg_Mo_tick 60 [77] ?_
      repeat' first | refine And.intro ?_ ?_ | intro _
      all_goals first | exact Or.inl rfl | exact Or.inr rfl | rfl | skip
      all_goals try simp only [tk_c, not_true_eq_false, not_false_eq_true, Int.toNat_natCast] at *
      all_goals first | omega | skip
      exact ⟨(), h9⟩
def d_tick (n : Int) (N : tk_M) : tk_Z := if N 7 11 = 0 then (.inl (some 0), tk_up N 7 0 1) else if ¬ (1 ≤ n ∧ n ≤ 1000) then (.inl (some 0), tk_up N 7 0 2) else if 100000000 < N 7 3 + n then (.inl (some 0), tk_up N 7 0 3) else (.inl (some (N 7 3 + n)), h_tick n.toNat N)
theorem kn_Mo_tick (l : Launch) (N : tk_M) (n : Int) (h0 : N 7 0 = 0) (q3 : 0 ≤ N 7 3) (q4 : N 7 3 ≤ 2000000000) (hq : 1 ≤ n → n ≤ 1000 → ¬ N 7 11 = 0 → ∀ j : Nat, j < n.toNat → q_tk (h_tick j N)) : tk_At l "TrackKeeperModel" prog_8_method_24_code 4 (some .int) 6 90 (tk_z (d_tick n N)) 5 [some (.inr 7), some (.inl n), none, none] [] N := by
  have ed : d_tick n N = if N 7 11 = 0 then (.inl (some 0), tk_up N 7 0 1) else if ¬ (1 ≤ n ∧ n ≤ 1000) then (.inl (some 0), tk_up N 7 0 2) else if 100000000 < N 7 3 + n then (.inl (some 0), tk_up N 7 0 3) else (.inl (some (N 7 3 + n)), h_tick n.toNat N) := rfl
  generalize d_tick n N = Z at *
  have kR : ∀ c : Int, Z = (.inl (some 0), tk_up N 7 0 c) → tk_At l "TrackKeeperModel" prog_8_method_24_code 4 (some .int) 6 90 (tk_z Z) 73 [some (.inr 7), some (.inl n), none, none] [] (tk_up N 7 0 c) := fun c e => by
    rw [e]
    refine tk_goA fo_Mo co_Mo tg_Mo_tick 60 [] ?_
    exact ⟨rfl, rfl⟩
  refine tk_goA fo_Mo co_Mo tg_Mo_tick 60 [73] ?_
  repeat' first | refine And.intro ?_ ?_ | intro _
  all_goals first | exact Or.inl rfl | exact Or.inr rfl | rfl | skip
  all_goals try simp only [tk_c, not_true_eq_false, not_false_eq_true, Int.toNat_natCast] at *
  all_goals first | omega | skip
  rotate_left
  · rw [if_pos (by omega)] at ed
    refine ⟨(), ma_f1 h0 (by decide) tg_Mo_tick rfl (by decide) (by decide) ?_⟩
    refine tk_goA fo_Mo co_Mo tg_Mo_tick 60 [73] ?_
    repeat' first | refine And.intro ?_ ?_ | intro _
    all_goals first | exact Or.inl rfl | exact Or.inr rfl | rfl | skip
    all_goals try simp only [tk_c, not_true_eq_false, not_false_eq_true, Int.toNat_natCast] at *
    all_goals first | omega | skip
    exact ⟨(), kR _ ed⟩
  rename_i hbg
  rw [if_neg hbg] at ed
  refine ⟨(), ma_f0 h0 tg_Mo_tick rfl (by decide) (by decide) ?_⟩
  refine tk_goA fo_Mo co_Mo tg_Mo_tick 60 [] ?_
  repeat' first | refine And.intro ?_ ?_ | intro _
  all_goals first | exact Or.inl rfl | exact Or.inr rfl | rfl | skip
  all_goals try simp only [tk_c, not_true_eq_false, not_false_eq_true, Int.toNat_natCast] at *
  all_goals first | omega | skip
  refine ⟨(), ma_in tg_Mo_tick rfl (by decide) (by decide) ?_⟩
  generalize hy : f_in n 1 1000 = y
  have hy0 := f_in_0 n 1 1000
  rw [hy] at hy0
  refine tk_goA fo_Mo co_Mo tg_Mo_tick 60 [73] ?_
  repeat' first | refine And.intro ?_ ?_ | intro _
  all_goals first | exact Or.inl rfl | exact Or.inr rfl | rfl | skip
  all_goals try simp only [tk_c, not_true_eq_false, not_false_eq_true, Int.toNat_natCast, hy0] at *
  all_goals first | omega | skip
  · rw [if_neg (by omega)] at ed
    refine ⟨(), ma_f0 h0 tg_Mo_tick rfl (by decide) (by decide) ?_⟩
    refine tk_goA fo_Mo co_Mo tg_Mo_tick 60 [73] ?_
    repeat' first | refine And.intro ?_ ?_ | intro _
    all_goals first | exact Or.inl rfl | exact Or.inr rfl | rfl | skip
    all_goals try simp only [tk_c, not_true_eq_false, not_false_eq_true, Int.toNat_natCast] at *
    all_goals first | omega | skip
    · rw [if_neg (by omega)] at ed
      refine ⟨(), ma_f0 h0 tg_Mo_tick rfl (by decide) (by decide) ?_⟩
      refine tk_goA fo_Mo co_Mo tg_Mo_tick 60 [77] ?_
      repeat' first | refine And.intro ?_ ?_ | intro _
      all_goals first | exact Or.inl rfl | exact Or.inr rfl | rfl | skip
      all_goals try simp only [tk_c, not_true_eq_false, not_false_eq_true, Int.toNat_natCast] at *
      all_goals first | omega | skip
      refine ⟨(), lp_Mo_tick l n (by omega) n.toNat 0 N Z none (by omega) (by omega) (hq (by omega) (by omega) hbg) ?_⟩
      rw [ed, Int.toNat_of_nonneg (by omega)]
    · rw [if_pos (by omega)] at ed
      refine ⟨(), ma_f1 h0 (by decide) tg_Mo_tick rfl (by decide) (by decide) ?_⟩
      refine tk_goA fo_Mo co_Mo tg_Mo_tick 60 [73] ?_
      repeat' first | refine And.intro ?_ ?_ | intro _
      all_goals first | exact Or.inl rfl | exact Or.inr rfl | rfl | skip
      all_goals try simp only [tk_c, not_true_eq_false, not_false_eq_true, Int.toNat_natCast] at *
      all_goals first | omega | skip
      exact ⟨(), kR _ ed⟩
  · rw [if_pos (by omega)] at ed
    refine ⟨(), ma_f1 h0 (by decide) tg_Mo_tick rfl (by decide) (by decide) ?_⟩
    refine tk_goA fo_Mo co_Mo tg_Mo_tick 60 [73] ?_
    repeat' first | refine And.intro ?_ ?_ | intro _
    all_goals first | exact Or.inl rfl | exact Or.inr rfl | rfl | skip
    all_goals try simp only [tk_c, not_true_eq_false, not_false_eq_true, Int.toNat_natCast] at *
    all_goals first | omega | skip
    exact ⟨(), kR _ ed⟩
theorem k_Mo_tick (l : Launch) (M : tk_M) (n : Int) (q3 : 0 ≤ M 7 3) (q4 : M 7 3 ≤ 2000000000) (hq : 1 ≤ n → n ≤ 1000 → ¬ M 7 11 = 0 → ∀ j : Nat, j < n.toNat → q_tk (h_tick j (m0 M))) : tk_C l y_Mo_tick 6 90 [.inr 7, .inl n] M (tk_z (d_tick n (m0 M))) := by
  refine tk_C.of wc_Mo_tick rfl (Nat.le_of_ble_eq_true rfl) fun hr hM => ?_
  have h := kn_Mo_tick l (m0 M) n (m0_0 M) (by rw [m0_o (by omega)]; exact q3) (by rw [m0_o (by omega)]; exact q4) (by rw [m0_o (by omega)]; exact hq)
  have e : m0 M = tk_up M 7 0 0 := rfl
  generalize d_tick n (m0 M) = Z at *
  rw [e] at h
  refine tk_goA fo_Mo co_Mo tg_Mo_tick 40 [5] ?_
  repeat' first | refine And.intro ?_ ?_ | intro _
  all_goals first | omega | skip
  exact ⟨(), h⟩
def m_tkn (M : tk_M) (k num : Int) : Nat → Nat → Int
  | 0, _ => 0
  | n + 1, i => if ¬ (i : Int) = num ∧ k ≤ M 26 i ∧ ¬ m_loc M i = 0 ∧ (m_z M i : Int) < k then 1 else m_tkn M k num n (i + 1)
theorem lp_Mo_isTaken (l : Launch) (M : tk_M) (k num r : Int) (q1 : M 7 2 ≤ 32) (qt : q_tm M) : ∀ n i : Nat, i + n = 8 → m_tkn M k num n i = r →
    tk_At l "TrackKeeperModel" prog_8_method_26_code 4 (some .boolean) 1 16 (fun q M' => q = .inl (some r) ∧ M' = M) 2 [some (.inr 7), some (.inl k), some (.inl num), some (.inl (i : Int))] [] M := by
  intro n
  induction n with
  | zero =>
    intro i hi hr
    have hr : 0 = r := hr
    subst hr
    refine tk_goA fo_Mo co_Mo tg_Mo_isTaken 60 [2] ?_
    repeat' first | refine And.intro ?_ ?_ | intro _
    all_goals first | exact Or.inl rfl | exact Or.inr rfl | rfl | skip
    all_goals try simp only [tk_c, not_true_eq_false, not_false_eq_true, Int.toNat_natCast] at *
    all_goals first | omega | skip
  | succ n ih =>
    intro i hi hr
    have h9 := ih (i + 1) (by omega)
    have k47 : ¬ (¬ (i : Int) = num ∧ k ≤ M 26 i ∧ ¬ m_loc M i = 0 ∧ (m_z M i : Int) < k) → tk_At l "TrackKeeperModel" prog_8_method_26_code 4 (some .boolean) 1 16 (fun q M' => q = .inl (some r) ∧ M' = M) 47 [some (.inr 7), some (.inl k), some (.inl num), some (.inl (i : Int))] [] M := fun h => by
      unfold m_tkn at hr
      rw [if_neg h] at hr
      refine tk_goA fo_Mo co_Mo tg_Mo_isTaken 60 [2] ?_
      repeat' first | refine And.intro ?_ ?_ | intro _
      all_goals first | exact Or.inl rfl | exact Or.inr rfl | rfl | skip
      all_goals try simp only [tk_c, not_true_eq_false, not_false_eq_true, Int.toNat_natCast] at *
      all_goals first | omega | skip
      exact ⟨(), h9 hr⟩
    refine tk_goA fo_Mo co_Mo tg_Mo_isTaken 60 [47] ?_
    repeat' first | refine And.intro ?_ ?_ | intro _
    all_goals first | exact Or.inl rfl | exact Or.inr rfl | rfl | skip
    all_goals try simp only [tk_c, not_true_eq_false, not_false_eq_true, Int.toNat_natCast] at *
    all_goals first | omega | skip
    · exact ⟨(), k47 (by omega)⟩
    · exact ⟨(), k47 (by omega)⟩
    · refine ⟨(), ma_loc (by omega) qt tg_Mo_isTaken rfl (by decide) (by decide) ?_⟩
      have h01 := m_loc01 M i
      by_cases hl : m_loc M i = 0
      · rw [hl]
        refine tk_goA fo_Mo co_Mo tg_Mo_isTaken 60 [47] ?_
        repeat' first | refine And.intro ?_ ?_ | intro _
        all_goals first | exact Or.inl rfl | exact Or.inr rfl | rfl | skip
        all_goals try simp only [tk_c, not_true_eq_false, not_false_eq_true, Int.toNat_natCast] at *
        all_goals first | omega | skip
        exact ⟨(), k47 (by omega)⟩
      · rw [show m_loc M i = 1 by omega]
        refine tk_goA fo_Mo co_Mo tg_Mo_isTaken 60 [47] ?_
        repeat' first | refine And.intro ?_ ?_ | intro _
        all_goals first | exact Or.inl rfl | exact Or.inr rfl | rfl | skip
        all_goals try simp only [tk_c, not_true_eq_false, not_false_eq_true, Int.toNat_natCast] at *
        all_goals first | omega | skip
        refine ⟨(), ma_at q1 tg_Mo_isTaken rfl (by decide) (by decide) ?_⟩
        have ez : m_z M i = m_at M (M 22 i) 32 0 := rfl
        rw [← ez]
        unfold m_tkn at hr
        generalize m_loc M i = lc at *
        generalize m_z M i = z at *
        refine tk_goA fo_Mo co_Mo tg_Mo_isTaken 60 [47] ?_
        repeat' first | refine And.intro ?_ ?_ | intro _
        all_goals first | exact Or.inl rfl | exact Or.inr rfl | rfl | skip
        all_goals try simp only [tk_c, not_true_eq_false, not_false_eq_true, Int.toNat_natCast] at *
        all_goals first | omega | skip
        · exact ⟨(), k47 (by omega)⟩
        · rw [if_pos (by omega)] at hr
          rw [hr]
theorem m_tkn01 (M : tk_M) (k num : Int) : ∀ n i : Nat, m_tkn M k num n i = 0 ∨ m_tkn M k num n i = 1
  | 0, _ => Or.inl rfl
  | n + 1, i => by
    unfold m_tkn
    split
    · exact Or.inr rfl
    · exact m_tkn01 M k num n (i + 1)
theorem k_Mo_isTaken (l : Launch) (M : tk_M) (k num : Int) (q1 : M 7 2 ≤ 32) (qt : q_tm M) : tk_C l y_Mo_isTaken 1 16 [.inr 7, .inl k, .inl num] M (fun q M' => q = .inl (some (m_tkn M k num 8 0)) ∧ M' = M) := by
  refine tk_C.of wc_Mo_isTaken rfl (Nat.le_of_ble_eq_true rfl) fun hr hM => ?_
  refine tk_goA fo_Mo co_Mo tg_Mo_isTaken 60 [2] ?_
  exact ⟨(), lp_Mo_isTaken l M k num _ q1 qt 8 0 rfl rfl⟩
def m_ext (M : tk_M) (num w : Int) : Nat → Int → Int
  | 0, k => k
  | n + 1, k => if k ≤ w ∧ M 12 k.toNat = 0 ∧ m_tkn M k num 8 0 = 0 then m_ext M num w n (k + 1) else k
theorem lp_Mo_request (l : Launch) (M : tk_M) (num w : Int) (hw : w < 32) (q1 : M 7 2 ≤ 32) (qt : q_tm M) (P : (Option Int ⊕ Nat) → tk_M → Prop) (g : Int)
    (hP : tk_At l "TrackKeeperModel" prog_8_method_25_code 4 (some .int) 6 90 P 127 [some (.inr 7), some (.inl num), some (.inl w), some (.inl g)] [] M) : ∀ (n : Nat) (k : Int), 0 ≤ k → k < 40 → w + 1 - k ≤ n → m_ext M num w n k = g →
    tk_At l "TrackKeeperModel" prog_8_method_25_code 4 (some .int) 6 90 P 98 [some (.inr 7), some (.inl num), some (.inl w), some (.inl k)] [] M := by
  intro n
  induction n with
  | zero =>
    intro k h1 h4 h2 h3
    have h3 : k = g := h3
    subst h3
    refine tk_goA fo_Mo co_Mo tg_Mo_request 60 [98, 127] ?_
    repeat' first | refine And.intro ?_ ?_ | intro _
    all_goals first | exact Or.inl rfl | exact Or.inr rfl | rfl | skip
    all_goals try simp only [tk_c, not_true_eq_false, not_false_eq_true, Int.toNat_natCast] at *
    all_goals first | omega | skip
    exact ⟨(), hP⟩
  | succ n ih =>
    intro k h1 h4 h2 h3
    have kE : ¬ (k ≤ w ∧ M 12 k.toNat = 0 ∧ m_tkn M k num 8 0 = 0) → tk_At l "TrackKeeperModel" prog_8_method_25_code 4 (some .int) 6 90 P 127 [some (.inr 7), some (.inl num), some (.inl w), some (.inl k)] [] M := fun h => by
      unfold m_ext at h3
      rw [if_neg h] at h3
      subst h3
      exact hP
    refine tk_goA fo_Mo co_Mo tg_Mo_request 60 [98, 127] ?_
    repeat' first | refine And.intro ?_ ?_ | intro _
    all_goals first | exact Or.inl rfl | exact Or.inr rfl | rfl | skip
    all_goals try simp only [tk_c, not_true_eq_false, not_false_eq_true, Int.toNat_natCast] at *
    all_goals first | omega | skip
    · exact ⟨(), kE (by omega)⟩
    · exact ⟨(), kE (by omega)⟩
    · refine ⟨(), tk_aV (k := 6) (k_Mo_isTaken l M k num q1 qt) wc_Mo_isTaken lk_Mo_170 wi_Mo_isTaken wsl_Mo_isTaken tg_Mo_request rfl rfl (by decide) rfl rfl rfl (by decide) (Nat.le_of_ble_eq_true rfl) ?_ (fun x M' h => by cases h.1)⟩
      rintro v' N' ⟨g1, rfl⟩ hro
      cases g1
      unfold m_ext at h3
      generalize m_tkn N' k num 8 0 = tk at *
      refine tk_goA fo_Mo co_Mo tg_Mo_request 60 [98, 127] ?_
      repeat' first | refine And.intro ?_ ?_ | intro _
      all_goals first | exact Or.inl rfl | exact Or.inr rfl | rfl | skip
      all_goals try simp only [tk_c, not_true_eq_false, not_false_eq_true, Int.toNat_natCast] at *
      all_goals first | omega | skip
      · exact ⟨(), kE (by omega)⟩
      · rw [if_pos (by omega)] at h3
        exact ⟨(), ih (k + 1) (by omega) (by omega) (by omega) h3⟩
def m_rq (M : tk_M) (t : Nat) (w : Int) : tk_M := if (m_z M t : Int) < m_ext M (t : Int) w 40 ((m_z M t : Int) + 1) - 1 ∧ M 26 t < m_ext M (t : Int) w 40 ((m_z M t : Int) + 1) - 1 then tk_up M 26 t (m_ext M (t : Int) w 40 ((m_z M t : Int) + 1) - 1) else M
theorem m_ext_in (M : tk_M) (num w : Int) : ∀ (n : Nat) (k : Int), k ≤ m_ext M num w n k ∧ (m_ext M num w n k ≤ w + 1 ∨ m_ext M num w n k = k)
  | 0, k => ⟨Int.le_refl _, Or.inr rfl⟩
  | n + 1, k => by
    unfold m_ext
    split
    · have := m_ext_in M num w n (k + 1)
      omega
    · exact ⟨Int.le_refl _, Or.inr rfl⟩
def d_request (t : Int) (w : Int) (N : tk_M) : tk_Z := if N 7 11 = 0 then (.inl (some 0), tk_up N 7 0 1) else if ¬ (0 ≤ t ∧ t ≤ 7) ∨ ¬ (0 ≤ w ∧ w ≤ N 7 2 - 1) then (.inl (some 0), tk_up N 7 0 2) else if m_loc N t.toNat = 0 then (.inl (some 0), tk_up N 7 0 3) else (.inl (some (m_rq N t.toNat w 26 t.toNat)), m_rq N t.toNat w)
theorem kn_Mo_request (l : Launch) (N : tk_M) (t : Int) (w : Int) (h0 : N 7 0 = 0) (q1 : 0 ≤ N 7 2) (q2 : N 7 2 ≤ 32) (qt : q_tm N) : tk_At l "TrackKeeperModel" prog_8_method_25_code 4 (some .int) 6 90 (tk_z (d_request t w N)) 5 [some (.inr 7), some (.inl t), some (.inl w), none] [] N := by
  have ed : d_request t w N = if N 7 11 = 0 then (.inl (some 0), tk_up N 7 0 1) else if ¬ (0 ≤ t ∧ t ≤ 7) ∨ ¬ (0 ≤ w ∧ w ≤ N 7 2 - 1) then (.inl (some 0), tk_up N 7 0 2) else if m_loc N t.toNat = 0 then (.inl (some 0), tk_up N 7 0 3) else (.inl (some (m_rq N t.toNat w 26 t.toNat)), m_rq N t.toNat w) := rfl
  generalize d_request t w N = Z at *
  have kR : ∀ c : Int, Z = (.inl (some 0), tk_up N 7 0 c) → tk_At l "TrackKeeperModel" prog_8_method_25_code 4 (some .int) 6 90 (tk_z Z) 83 [some (.inr 7), some (.inl t), some (.inl w), none] [] (tk_up N 7 0 c) := fun c e => by
    rw [e]
    refine tk_goA fo_Mo co_Mo tg_Mo_request 60 [] ?_
    exact ⟨rfl, rfl⟩
  refine tk_goA fo_Mo co_Mo tg_Mo_request 60 [83] ?_
  repeat' first | refine And.intro ?_ ?_ | intro _
  all_goals first | exact Or.inl rfl | exact Or.inr rfl | rfl | skip
  all_goals try simp only [tk_c, not_true_eq_false, not_false_eq_true, Int.toNat_natCast] at *
  all_goals first | omega | skip
  rotate_left
  · rw [if_pos (by omega)] at ed
    refine ⟨(), ma_f1 h0 (by decide) tg_Mo_request rfl (by decide) (by decide) ?_⟩
    refine tk_goA fo_Mo co_Mo tg_Mo_request 60 [83] ?_
    repeat' first | refine And.intro ?_ ?_ | intro _
    all_goals first | exact Or.inl rfl | exact Or.inr rfl | rfl | skip
    all_goals try simp only [tk_c, not_true_eq_false, not_false_eq_true, Int.toNat_natCast] at *
    all_goals first | omega | skip
    exact ⟨(), kR _ ed⟩
  rename_i hbg
  rw [if_neg hbg] at ed
  refine ⟨(), ma_f0 h0 tg_Mo_request rfl (by decide) (by decide) ?_⟩
  have kA : (¬ (0 ≤ t ∧ t ≤ 7) ∨ ¬ (0 ≤ w ∧ w ≤ N 7 2 - 1)) → tk_At l "TrackKeeperModel" prog_8_method_25_code 4 (some .int) 6 90 (tk_z Z) 50 [some (.inr 7), some (.inl t), some (.inl w), none] [.inl (.inr 7)] N := fun h => by
    rw [if_pos h] at ed
    refine tk_goA fo_Mo co_Mo tg_Mo_request 60 [83] ?_
    refine ⟨(), ma_f1 h0 (by decide) tg_Mo_request rfl (by decide) (by decide) ?_⟩
    refine tk_goA fo_Mo co_Mo tg_Mo_request 60 [83] ?_
    repeat' first | refine And.intro ?_ ?_ | intro _
    all_goals first | exact Or.inl rfl | exact Or.inr rfl | rfl | skip
    all_goals try simp only [tk_c, not_true_eq_false, not_false_eq_true, Int.toNat_natCast] at *
    all_goals first | omega | skip
    exact ⟨(), kR _ ed⟩
  refine tk_goA fo_Mo co_Mo tg_Mo_request 60 [50] ?_
  repeat' first | refine And.intro ?_ ?_ | intro _
  all_goals first | exact Or.inl rfl | exact Or.inr rfl | rfl | skip
  all_goals try simp only [tk_c, not_true_eq_false, not_false_eq_true, Int.toNat_natCast] at *
  all_goals first | omega | skip
  refine ⟨(), ma_in tg_Mo_request rfl (by decide) (by decide) ?_⟩
  generalize hy : f_in t 0 7 = y
  have hy0 := f_in_0 t 0 7
  rw [hy] at hy0
  refine tk_goA fo_Mo co_Mo tg_Mo_request 60 [50] ?_
  repeat' first | refine And.intro ?_ ?_ | intro _
  all_goals first | exact Or.inl rfl | exact Or.inr rfl | rfl | skip
  all_goals try simp only [tk_c, not_true_eq_false, not_false_eq_true, Int.toNat_natCast, hy0] at *
  all_goals first | omega | skip
  · exact ⟨(), kA (by omega)⟩
  refine ⟨(), ma_in tg_Mo_request rfl (by decide) (by decide) ?_⟩
  generalize hx : f_in w 0 (N 7 2 - 1) = x
  have hx0 := f_in_0 w 0 (N 7 2 - 1)
  rw [hx] at hx0
  refine tk_goA fo_Mo co_Mo tg_Mo_request 60 [50] ?_
  repeat' first | refine And.intro ?_ ?_ | intro _
  all_goals first | exact Or.inl rfl | exact Or.inr rfl | rfl | skip
  all_goals try simp only [tk_c, not_true_eq_false, not_false_eq_true, Int.toNat_natCast, hx0] at *
  all_goals first | omega | skip
  rotate_left
  · exact ⟨(), kA (by omega)⟩
  rw [if_neg (by omega)] at ed
  clear kA
  obtain ⟨u, rfl⟩ : ∃ u : Nat, t = (u : Int) := ⟨t.toNat, by omega⟩
  simp only [Int.toNat_natCast] at ed
  refine ⟨(), ma_f0 h0 tg_Mo_request rfl (by decide) (by decide) ?_⟩
  refine tk_goA fo_Mo co_Mo tg_Mo_request 60 [83] ?_
  repeat' first | refine And.intro ?_ ?_ | intro _
  all_goals first | exact Or.inl rfl | exact Or.inr rfl | rfl | skip
  all_goals try simp only [tk_c, not_true_eq_false, not_false_eq_true, Int.toNat_natCast] at *
  all_goals first | omega | skip
  refine ⟨(), ma_loc (by omega) qt tg_Mo_request rfl (by decide) (by decide) ?_⟩
  have hz : (m_z N u : Int) < 32 := by
    have := m_at_in N (N 22 u) 32 0
    unfold m_z
    omega
  have hg := m_ext_in N (u : Int) w 40 ((m_z N u : Int) + 1)
  have em : m_rq N u w = if (m_z N u : Int) < m_ext N (u : Int) w 40 ((m_z N u : Int) + 1) - 1 ∧ N 26 u < m_ext N (u : Int) w 40 ((m_z N u : Int) + 1) - 1 then tk_up N 26 u (m_ext N (u : Int) w 40 ((m_z N u : Int) + 1) - 1) else N := rfl
  have ez : m_z N u = m_at N (N 22 u) 32 0 := rfl
  have hlp : ¬ m_loc N u = 0 → tk_At l "TrackKeeperModel" prog_8_method_25_code 4 (some .int) 6 90 (tk_z Z) 98 [some (.inr 7), some (.inl (u : Int)), some (.inl w), some (.inl ((m_z N u : Int) + 1))] [] N := fun hl => by
    rw [if_neg hl] at ed
    refine lp_Mo_request l N (u : Int) w (by omega) q2 qt (tk_z Z) (m_ext N (u : Int) w 40 ((m_z N u : Int) + 1)) ?_ 40 ((m_z N u : Int) + 1) (by omega) (by omega) (by omega) rfl
    generalize m_ext N (u : Int) w 40 ((m_z N u : Int) + 1) = g at *
    refine tk_goA fo_Mo co_Mo tg_Mo_request 60 [164] ?_
    repeat' first | refine And.intro ?_ ?_ | intro _
    all_goals first | exact Or.inl rfl | exact Or.inr rfl | rfl | skip
    all_goals try simp only [tk_c, not_true_eq_false, not_false_eq_true, Int.toNat_natCast] at *
    all_goals first | omega | skip
    refine ⟨(), ma_at q2 tg_Mo_request rfl (by decide) (Nat.le_of_ble_eq_true rfl) ?_⟩
    rw [← ez]
    generalize m_z N u = z at *
    have k164 : ∀ X, m_rq N u w = X → tk_At l "TrackKeeperModel" prog_8_method_25_code 4 (some .int) 6 90 (tk_z Z) 164 [some (.inr 7), some (.inl (u : Int)), some (.inl w), some (.inl g)] [] X := fun X eX => by
      rw [eX] at ed
      rw [ed]
      clear em
      refine tk_goA fo_Mo co_Mo tg_Mo_request 60 [] ?_
      repeat' first | refine And.intro ?_ ?_ | intro _
      all_goals first | exact Or.inl rfl | exact Or.inr rfl | rfl | skip
      all_goals try simp only [tk_c, not_true_eq_false, not_false_eq_true, Int.toNat_natCast] at *
      all_goals first | omega | skip
    refine tk_goA fo_Mo co_Mo tg_Mo_request 60 [164] ?_
    repeat' first | refine And.intro ?_ ?_ | intro _
    all_goals first | exact Or.inl rfl | exact Or.inr rfl | rfl | skip
    all_goals try simp only [tk_c, not_true_eq_false, not_false_eq_true, Int.toNat_natCast] at *
    all_goals first | omega | skip
    · rw [if_neg (by omega)] at em
      exact ⟨(), k164 _ em⟩
    · rw [if_neg (by omega)] at em
      exact ⟨(), k164 _ em⟩
    · rw [if_pos (by omega)] at em
      exact ⟨(), k164 _ em⟩
  by_cases hl : m_loc N u = 0
  · rw [if_pos hl] at ed
    rw [hl]
    refine tk_goA fo_Mo co_Mo tg_Mo_request 60 [83] ?_
    repeat' first | refine And.intro ?_ ?_ | intro _
    all_goals first | exact Or.inl rfl | exact Or.inr rfl | rfl | skip
    all_goals try simp only [tk_c, not_true_eq_false, not_false_eq_true, Int.toNat_natCast] at *
    all_goals first | omega | skip
    refine ⟨(), ma_f1 h0 (by decide) tg_Mo_request rfl (by decide) (by decide) ?_⟩
    refine tk_goA fo_Mo co_Mo tg_Mo_request 60 [83] ?_
    repeat' first | refine And.intro ?_ ?_ | intro _
    all_goals first | exact Or.inl rfl | exact Or.inr rfl | rfl | skip
    all_goals try simp only [tk_c, not_true_eq_false, not_false_eq_true, Int.toNat_natCast] at *
    all_goals first | omega | skip
    exact ⟨(), kR _ ed⟩
  · have h1 : m_loc N u = 1 := by
      have := m_loc01 N u
      omega
    have hlp := hlp hl
    rw [h1]
    refine tk_goA fo_Mo co_Mo tg_Mo_request 60 [83] ?_
    repeat' first | refine And.intro ?_ ?_ | intro _
    all_goals first | exact Or.inl rfl | exact Or.inr rfl | rfl | skip
    all_goals try simp only [tk_c, not_true_eq_false, not_false_eq_true, Int.toNat_natCast] at *
    all_goals first | omega | skip
    refine ⟨(), ma_f0 h0 tg_Mo_request rfl (by decide) (by decide) ?_⟩
    refine tk_goA fo_Mo co_Mo tg_Mo_request 60 [83] ?_
    repeat' first | refine And.intro ?_ ?_ | intro _
    all_goals first | exact Or.inl rfl | exact Or.inr rfl | rfl | skip
    all_goals try simp only [tk_c, not_true_eq_false, not_false_eq_true, Int.toNat_natCast] at *
    all_goals first | omega | skip
    refine ⟨(), ma_at q2 tg_Mo_request rfl (by decide) (by decide) ?_⟩
    rw [← ez]
    generalize m_z N u = z at *
    refine tk_goA fo_Mo co_Mo tg_Mo_request 60 [98] ?_
    repeat' first | refine And.intro ?_ ?_ | intro _
    all_goals first | exact Or.inl rfl | exact Or.inr rfl | rfl | skip
    all_goals try simp only [tk_c, not_true_eq_false, not_false_eq_true, Int.toNat_natCast] at *
    all_goals first | omega | skip
    exact ⟨(), hlp⟩
theorem k_Mo_request (l : Launch) (M : tk_M) (t : Int) (w : Int) (q1 : 0 ≤ M 7 2) (q2 : M 7 2 ≤ 32) (qt : q_tm (m0 M)) : tk_C l y_Mo_request 6 90 [.inr 7, .inl t, .inl w] M (tk_z (d_request t w (m0 M))) := by
  refine tk_C.of wc_Mo_request rfl (Nat.le_of_ble_eq_true rfl) fun hr hM => ?_
  have h := kn_Mo_request l (m0 M) t w (m0_0 M) (by rw [m0_o (by omega)]; exact q1) (by rw [m0_o (by omega)]; exact q2) qt
  have e : m0 M = tk_up M 7 0 0 := rfl
  generalize d_request t w (m0 M) = Z at *
  rw [e] at h
  refine tk_goA fo_Mo co_Mo tg_Mo_request 40 [5] ?_
  repeat' first | refine And.intro ?_ ?_ | intro _
  all_goals first | omega | skip
  exact ⟨(), h⟩
