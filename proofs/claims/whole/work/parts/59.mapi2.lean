/-! THE REFERENCE: its public calls, the rest -/
def d_detect (s : Int) (b : Int) (N : tk_M) : tk_Z := if N 7 11 = 0 then (.inl none, tk_up N 7 0 1) else if ¬ (0 ≤ s ∧ s ≤ N 7 1 - 1) then (.inl none, tk_up N 7 0 2) else (.inl none, m_set (tk_up N 16 s.toNat b))
theorem kn_Mo_detect (l : Launch) (N : tk_M) (s : Int) (b : Int) (h0 : N 7 0 = 0) (q1 : 0 ≤ N 7 1) (q2 : N 7 1 ≤ 10) (hb : b = 0 ∨ b = 1) (hq : 0 ≤ s → s ≤ N 7 1 - 1 → ¬ N 7 11 = 0 → q_fi (tk_up N 16 s.toNat b)) : tk_At l "TrackKeeperModel" prog_8_method_20_code 3 none 6 90 (tk_z (d_detect s b N)) 5 [some (.inr 7), some (.inl s), some (.inl b)] [] N := by
  have ed : d_detect s b N = if N 7 11 = 0 then (.inl none, tk_up N 7 0 1) else if ¬ (0 ≤ s ∧ s ≤ N 7 1 - 1) then (.inl none, tk_up N 7 0 2) else (.inl none, m_set (tk_up N 16 s.toNat b)) := rfl
  generalize d_detect s b N = Z at *
  have kR : ∀ c : Int, Z = (.inl none, tk_up N 7 0 c) → tk_At l "TrackKeeperModel" prog_8_method_20_code 3 none 6 90 (tk_z Z) 52 [some (.inr 7), some (.inl s), some (.inl b)] [] (tk_up N 7 0 c) := fun c e => by
    rw [e]
    refine tk_goA fo_Mo co_Mo tg_Mo_detect 60 [] ?_
    exact ⟨rfl, rfl⟩
  refine tk_goA fo_Mo co_Mo tg_Mo_detect 60 [52] ?_
  repeat' first | refine And.intro ?_ ?_ | intro _
  all_goals first | exact Or.inl rfl | exact Or.inr rfl | rfl | skip
  all_goals try simp only [tk_c, not_true_eq_false, not_false_eq_true, Int.toNat_natCast] at *
  all_goals first | omega | skip
  rotate_left
  · rw [if_pos (by omega)] at ed
    refine ⟨(), ma_f1 h0 (by decide) tg_Mo_detect rfl (by decide) (by decide) ?_⟩
    refine tk_goA fo_Mo co_Mo tg_Mo_detect 60 [52] ?_
    repeat' first | refine And.intro ?_ ?_ | intro _
    all_goals first | exact Or.inl rfl | exact Or.inr rfl | rfl | skip
    all_goals try simp only [tk_c, not_true_eq_false, not_false_eq_true, Int.toNat_natCast] at *
    all_goals first | omega | skip
    exact ⟨(), kR _ ed⟩
  rename_i hbg
  rw [if_neg hbg] at ed
  refine ⟨(), ma_f0 h0 tg_Mo_detect rfl (by decide) (by decide) ?_⟩
  refine tk_goA fo_Mo co_Mo tg_Mo_detect 60 [52] ?_
  repeat' first | refine And.intro ?_ ?_ | intro _
  all_goals first | exact Or.inl rfl | exact Or.inr rfl | rfl | skip
  all_goals try simp only [tk_c, not_true_eq_false, not_false_eq_true, Int.toNat_natCast] at *
  all_goals first | omega | skip
  refine ⟨(), ma_in tg_Mo_detect rfl (by decide) (by decide) ?_⟩
  generalize hx : f_in s 0 (N 7 1 - 1) = x
  have hx0 := f_in_0 s 0 (N 7 1 - 1)
  rw [hx] at hx0
  refine tk_goA fo_Mo co_Mo tg_Mo_detect 60 [52] ?_
  repeat' first | refine And.intro ?_ ?_ | intro _
  all_goals first | exact Or.inl rfl | exact Or.inr rfl | rfl | skip
  all_goals try simp only [tk_c, not_true_eq_false, not_false_eq_true, Int.toNat_natCast, hx0] at *
  all_goals first | omega | skip
  · rw [if_neg (by omega)] at ed
    refine ⟨(), ma_f0 h0 tg_Mo_detect rfl (by decide) (by decide) ?_⟩
    refine tk_goA fo_Mo co_Mo tg_Mo_detect 60 [52] ?_
    repeat' first | refine And.intro ?_ ?_ | intro _
    all_goals first | exact Or.inl rfl | exact Or.inr rfl | rfl | skip
    all_goals try simp only [tk_c, not_true_eq_false, not_false_eq_true, Int.toNat_natCast] at *
    all_goals first | omega | skip
    refine ⟨(), ma_settle (hq (by omega) (by omega) hbg) tg_Mo_detect rfl (by decide) (by decide) ?_⟩
    rw [ed]
    refine tk_goA fo_Mo co_Mo tg_Mo_detect 60 [] ?_
    exact ⟨rfl, rfl⟩
  · rw [if_pos (by omega)] at ed
    refine ⟨(), ma_f1 h0 (by decide) tg_Mo_detect rfl (by decide) (by decide) ?_⟩
    refine tk_goA fo_Mo co_Mo tg_Mo_detect 60 [52] ?_
    repeat' first | refine And.intro ?_ ?_ | intro _
    all_goals first | exact Or.inl rfl | exact Or.inr rfl | rfl | skip
    all_goals try simp only [tk_c, not_true_eq_false, not_false_eq_true, Int.toNat_natCast] at *
    all_goals first | omega | skip
    exact ⟨(), kR _ ed⟩
theorem k_Mo_detect (l : Launch) (M : tk_M) (s : Int) (b : Int) (q1 : 0 ≤ M 7 1) (q2 : M 7 1 ≤ 10) (hb : b = 0 ∨ b = 1) (hq : 0 ≤ s → s ≤ M 7 1 - 1 → ¬ M 7 11 = 0 → q_fi (tk_up (m0 M) 16 s.toNat b)) : tk_C l y_Mo_detect 6 90 [.inr 7, .inl s, .inl b] M (tk_z (d_detect s b (m0 M))) := by
  refine tk_C.of wc_Mo_detect rfl (Nat.le_of_ble_eq_true rfl) fun hr hM => ?_
  have h := kn_Mo_detect l (m0 M) s b (m0_0 M) (by rw [m0_o (by omega)]; exact q1) (by rw [m0_o (by omega)]; exact q2) hb (by rw [m0_o (by omega), m0_o (by omega)]; exact hq)
  have e : m0 M = tk_up M 7 0 0 := rfl
  generalize d_detect s b (m0 M) = Z at *
  rw [e] at h
  refine tk_goA fo_Mo co_Mo tg_Mo_detect 40 [5] ?_
  repeat' first | refine And.intro ?_ ?_ | intro _
  all_goals first | omega | skip
  exact ⟨(), h⟩
def m_con (N : tk_M) (t : Nat) (x : Int) : tk_M := tk_up (tk_up (tk_up (tk_up N 18 t 1) 19 t 0) 20 t 0) 21 t x
def d_connect (t : Int) (x : Int) (N : tk_M) : tk_Z := if N 7 11 = 0 then (.inl none, tk_up N 7 0 1) else if ¬ (0 ≤ t ∧ t ≤ 7) ∨ ¬ (1 ≤ x ∧ x ≤ 100000) then (.inl none, tk_up N 7 0 2) else (.inl none, m_set (m_con N t.toNat x))
theorem kn_Mo_connect (l : Launch) (N : tk_M) (t : Int) (x : Int) (h0 : N 7 0 = 0) (hq : 0 ≤ t → t ≤ 7 → 1 ≤ x → x ≤ 100000 → ¬ N 7 11 = 0 → q_fi (m_con N t.toNat x)) : tk_At l "TrackKeeperModel" prog_8_method_21_code 3 none 6 90 (tk_z (d_connect t x N)) 5 [some (.inr 7), some (.inl t), some (.inl x)] [] N := by
  have ed : d_connect t x N = if N 7 11 = 0 then (.inl none, tk_up N 7 0 1) else if ¬ (0 ≤ t ∧ t ≤ 7) ∨ ¬ (1 ≤ x ∧ x ≤ 100000) then (.inl none, tk_up N 7 0 2) else (.inl none, m_set (m_con N t.toNat x)) := rfl
  generalize d_connect t x N = Z at *
  have kR : ∀ c : Int, Z = (.inl none, tk_up N 7 0 c) → tk_At l "TrackKeeperModel" prog_8_method_21_code 3 none 6 90 (tk_z Z) 58 [some (.inr 7), some (.inl t), some (.inl x)] [] (tk_up N 7 0 c) := fun c e => by
    rw [e]
    refine tk_goA fo_Mo co_Mo tg_Mo_connect 60 [] ?_
    exact ⟨rfl, rfl⟩
  refine tk_goA fo_Mo co_Mo tg_Mo_connect 60 [58] ?_
  repeat' first | refine And.intro ?_ ?_ | intro _
  all_goals first | exact Or.inl rfl | exact Or.inr rfl | rfl | skip
  all_goals try simp only [tk_c, not_true_eq_false, not_false_eq_true, Int.toNat_natCast] at *
  all_goals first | omega | skip
  rotate_left
  · rw [if_pos (by omega)] at ed
    refine ⟨(), ma_f1 h0 (by decide) tg_Mo_connect rfl (by decide) (by decide) ?_⟩
    refine tk_goA fo_Mo co_Mo tg_Mo_connect 60 [58] ?_
    repeat' first | refine And.intro ?_ ?_ | intro _
    all_goals first | exact Or.inl rfl | exact Or.inr rfl | rfl | skip
    all_goals try simp only [tk_c, not_true_eq_false, not_false_eq_true, Int.toNat_natCast] at *
    all_goals first | omega | skip
    exact ⟨(), kR _ ed⟩
  rename_i hbg
  rw [if_neg hbg] at ed
  refine ⟨(), ma_f0 h0 tg_Mo_connect rfl (by decide) (by decide) ?_⟩
  have kA : (¬ (0 ≤ t ∧ t ≤ 7) ∨ ¬ (1 ≤ x ∧ x ≤ 100000)) → tk_At l "TrackKeeperModel" prog_8_method_21_code 3 none 6 90 (tk_z Z) 46 [some (.inr 7), some (.inl t), some (.inl x)] [.inl (.inr 7)] N := fun h => by
    rw [if_pos h] at ed
    refine tk_goA fo_Mo co_Mo tg_Mo_connect 60 [58] ?_
    refine ⟨(), ma_f1 h0 (by decide) tg_Mo_connect rfl (by decide) (by decide) ?_⟩
    refine tk_goA fo_Mo co_Mo tg_Mo_connect 60 [58] ?_
    repeat' first | refine And.intro ?_ ?_ | intro _
    all_goals first | exact Or.inl rfl | exact Or.inr rfl | rfl | skip
    all_goals try simp only [tk_c, not_true_eq_false, not_false_eq_true, Int.toNat_natCast] at *
    all_goals first | omega | skip
    exact ⟨(), kR _ ed⟩
  refine tk_goA fo_Mo co_Mo tg_Mo_connect 60 [46] ?_
  repeat' first | refine And.intro ?_ ?_ | intro _
  all_goals first | exact Or.inl rfl | exact Or.inr rfl | rfl | skip
  all_goals try simp only [tk_c, not_true_eq_false, not_false_eq_true, Int.toNat_natCast] at *
  all_goals first | omega | skip
  refine ⟨(), ma_in tg_Mo_connect rfl (by decide) (by decide) ?_⟩
  generalize hy : f_in t 0 7 = y
  have hy0 := f_in_0 t 0 7
  rw [hy] at hy0
  refine tk_goA fo_Mo co_Mo tg_Mo_connect 60 [46] ?_
  repeat' first | refine And.intro ?_ ?_ | intro _
  all_goals first | exact Or.inl rfl | exact Or.inr rfl | rfl | skip
  all_goals try simp only [tk_c, not_true_eq_false, not_false_eq_true, Int.toNat_natCast, hy0] at *
  all_goals first | omega | skip
  · exact ⟨(), kA (by omega)⟩
  refine ⟨(), ma_in tg_Mo_connect rfl (by decide) (by decide) ?_⟩
  generalize hz : f_in x 1 100000 = z
  have hz0 := f_in_0 x 1 100000
  rw [hz] at hz0
  refine tk_goA fo_Mo co_Mo tg_Mo_connect 60 [46] ?_
  repeat' first | refine And.intro ?_ ?_ | intro _
  all_goals first | exact Or.inl rfl | exact Or.inr rfl | rfl | skip
  all_goals try simp only [tk_c, not_true_eq_false, not_false_eq_true, Int.toNat_natCast, hz0] at *
  all_goals first | omega | skip
  · rw [if_neg (by omega)] at ed
    refine ⟨(), ma_f0 h0 tg_Mo_connect rfl (by decide) (by decide) ?_⟩
    have em : m_con N t.toNat x = tk_up (tk_up (tk_up (tk_up N 18 t.toNat 1) 19 t.toNat 0) 20 t.toNat 0) 21 t.toNat x := rfl
    have hq := hq (by omega) (by omega) (by omega) (by omega) hbg
    rw [em] at hq ed
    refine tk_goA fo_Mo co_Mo tg_Mo_connect 60 [] ?_
    repeat' first | refine And.intro ?_ ?_ | intro _
    all_goals first | exact Or.inl rfl | exact Or.inr rfl | rfl | skip
    all_goals try simp only [tk_c, not_true_eq_false, not_false_eq_true, Int.toNat_natCast] at *
    all_goals first | omega | skip
    refine ⟨(), ma_settle hq tg_Mo_connect rfl (by decide) (by decide) ?_⟩
    rw [ed]
    refine tk_goA fo_Mo co_Mo tg_Mo_connect 60 [] ?_
    exact ⟨rfl, rfl⟩
  · exact ⟨(), kA (by omega)⟩
theorem k_Mo_connect (l : Launch) (M : tk_M) (t : Int) (x : Int) (hq : 0 ≤ t → t ≤ 7 → 1 ≤ x → x ≤ 100000 → ¬ M 7 11 = 0 → q_fi (m_con (m0 M) t.toNat x)) : tk_C l y_Mo_connect 6 90 [.inr 7, .inl t, .inl x] M (tk_z (d_connect t x (m0 M))) := by
  refine tk_C.of wc_Mo_connect rfl (Nat.le_of_ble_eq_true rfl) fun hr hM => ?_
  have h := kn_Mo_connect l (m0 M) t x (m0_0 M) (by rw [m0_o (by omega)]; exact hq)
  have e : m0 M = tk_up M 7 0 0 := rfl
  generalize d_connect t x (m0 M) = Z at *
  rw [e] at h
  refine tk_goA fo_Mo co_Mo tg_Mo_connect 40 [5] ?_
  repeat' first | refine And.intro ?_ ?_ | intro _
  all_goals first | omega | skip
  exact ⟨(), h⟩
def m_lv (N : tk_M) (t : Nat) : tk_M := tk_up (tk_up (tk_up N 18 t 0) 19 t 0) 20 t 0
def d_leave (t : Int) (N : tk_M) : tk_Z := if N 7 11 = 0 then (.inl none, tk_up N 7 0 1) else if ¬ (0 ≤ t ∧ t ≤ 7) then (.inl none, tk_up N 7 0 2) else if N 18 t.toNat = 0 then (.inl none, tk_up N 7 0 3) else (.inl none, m_set (m_lv N t.toNat))
theorem kn_Mo_leave (l : Launch) (N : tk_M) (t : Int) (h0 : N 7 0 = 0) (hq : 0 ≤ t → t ≤ 7 → ¬ N 7 11 = 0 → ¬ N 18 t.toNat = 0 → q_fi (m_lv N t.toNat)) : tk_At l "TrackKeeperModel" prog_8_method_23_code 2 none 6 90 (tk_z (d_leave t N)) 5 [some (.inr 7), some (.inl t)] [] N := by
  have ed : d_leave t N = if N 7 11 = 0 then (.inl none, tk_up N 7 0 1) else if ¬ (0 ≤ t ∧ t ≤ 7) then (.inl none, tk_up N 7 0 2) else if N 18 t.toNat = 0 then (.inl none, tk_up N 7 0 3) else (.inl none, m_set (m_lv N t.toNat)) := rfl
  generalize d_leave t N = Z at *
  have kR : ∀ c : Int, Z = (.inl none, tk_up N 7 0 c) → tk_At l "TrackKeeperModel" prog_8_method_23_code 2 none 6 90 (tk_z Z) 70 [some (.inr 7), some (.inl t)] [] (tk_up N 7 0 c) := fun c e => by
    rw [e]
    refine tk_goA fo_Mo co_Mo tg_Mo_leave 60 [] ?_
    exact ⟨rfl, rfl⟩
  refine tk_goA fo_Mo co_Mo tg_Mo_leave 60 [70] ?_
  repeat' first | refine And.intro ?_ ?_ | intro _
  all_goals first | exact Or.inl rfl | exact Or.inr rfl | rfl | skip
  all_goals try simp only [tk_c, not_true_eq_false, not_false_eq_true, Int.toNat_natCast] at *
  all_goals first | omega | skip
  rotate_left
  · rw [if_pos (by omega)] at ed
    refine ⟨(), ma_f1 h0 (by decide) tg_Mo_leave rfl (by decide) (by decide) ?_⟩
    refine tk_goA fo_Mo co_Mo tg_Mo_leave 60 [70] ?_
    repeat' first | refine And.intro ?_ ?_ | intro _
    all_goals first | exact Or.inl rfl | exact Or.inr rfl | rfl | skip
    all_goals try simp only [tk_c, not_true_eq_false, not_false_eq_true, Int.toNat_natCast] at *
    all_goals first | omega | skip
    exact ⟨(), kR _ ed⟩
  rename_i hbg
  rw [if_neg hbg] at ed
  refine ⟨(), ma_f0 h0 tg_Mo_leave rfl (by decide) (by decide) ?_⟩
  refine tk_goA fo_Mo co_Mo tg_Mo_leave 60 [] ?_
  repeat' first | refine And.intro ?_ ?_ | intro _
  all_goals first | exact Or.inl rfl | exact Or.inr rfl | rfl | skip
  all_goals try simp only [tk_c, not_true_eq_false, not_false_eq_true, Int.toNat_natCast] at *
  all_goals first | omega | skip
  refine ⟨(), ma_in tg_Mo_leave rfl (by decide) (by decide) ?_⟩
  generalize hy : f_in t 0 7 = y
  have hy0 := f_in_0 t 0 7
  rw [hy] at hy0
  refine tk_goA fo_Mo co_Mo tg_Mo_leave 60 [70] ?_
  repeat' first | refine And.intro ?_ ?_ | intro _
  all_goals first | exact Or.inl rfl | exact Or.inr rfl | rfl | skip
  all_goals try simp only [tk_c, not_true_eq_false, not_false_eq_true, Int.toNat_natCast, hy0] at *
  all_goals first | omega | skip
  · rw [if_neg (by omega)] at ed
    refine ⟨(), ma_f0 h0 tg_Mo_leave rfl (by decide) (by decide) ?_⟩
    refine tk_goA fo_Mo co_Mo tg_Mo_leave 60 [70] ?_
    repeat' first | refine And.intro ?_ ?_ | intro _
    all_goals first | exact Or.inl rfl | exact Or.inr rfl | rfl | skip
    all_goals try simp only [tk_c, not_true_eq_false, not_false_eq_true, Int.toNat_natCast] at *
    all_goals first | omega | skip
    · rw [if_neg (by omega)] at ed
      refine ⟨(), ma_f0 h0 tg_Mo_leave rfl (by decide) (by decide) ?_⟩
      have em : m_lv N t.toNat = tk_up (tk_up (tk_up N 18 t.toNat 0) 19 t.toNat 0) 20 t.toNat 0 := rfl
      have hq := hq (by omega) (by omega) hbg (by omega)
      rw [em] at hq ed
      refine tk_goA fo_Mo co_Mo tg_Mo_leave 60 [] ?_
      repeat' first | refine And.intro ?_ ?_ | intro _
      all_goals first | exact Or.inl rfl | exact Or.inr rfl | rfl | skip
      all_goals try simp only [tk_c, not_true_eq_false, not_false_eq_true, Int.toNat_natCast] at *
      all_goals first | omega | skip
      refine ⟨(), ma_settle hq tg_Mo_leave rfl (by decide) (by decide) ?_⟩
      rw [ed]
      refine tk_goA fo_Mo co_Mo tg_Mo_leave 60 [] ?_
      exact ⟨rfl, rfl⟩
    · rw [if_pos (by omega)] at ed
      refine ⟨(), ma_f1 h0 (by decide) tg_Mo_leave rfl (by decide) (by decide) ?_⟩
      refine tk_goA fo_Mo co_Mo tg_Mo_leave 60 [70] ?_
      repeat' first | refine And.intro ?_ ?_ | intro _
      all_goals first | exact Or.inl rfl | exact Or.inr rfl | rfl | skip
      all_goals try simp only [tk_c, not_true_eq_false, not_false_eq_true, Int.toNat_natCast] at *
      all_goals first | omega | skip
      exact ⟨(), kR _ ed⟩
  · rw [if_pos (by omega)] at ed
    refine ⟨(), ma_f1 h0 (by decide) tg_Mo_leave rfl (by decide) (by decide) ?_⟩
    refine tk_goA fo_Mo co_Mo tg_Mo_leave 60 [70] ?_
    repeat' first | refine And.intro ?_ ?_ | intro _
    all_goals first | exact Or.inl rfl | exact Or.inr rfl | rfl | skip
    all_goals try simp only [tk_c, not_true_eq_false, not_false_eq_true, Int.toNat_natCast] at *
    all_goals first | omega | skip
    exact ⟨(), kR _ ed⟩
theorem k_Mo_leave (l : Launch) (M : tk_M) (t : Int) (hq : 0 ≤ t → t ≤ 7 → ¬ M 7 11 = 0 → ¬ M 18 t.toNat = 0 → q_fi (m_lv (m0 M) t.toNat)) : tk_C l y_Mo_leave 6 90 [.inr 7, .inl t] M (tk_z (d_leave t (m0 M))) := by
  refine tk_C.of wc_Mo_leave rfl (Nat.le_of_ble_eq_true rfl) fun hr hM => ?_
  have h := kn_Mo_leave l (m0 M) t (m0_0 M) (by rw [m0_o (by omega), m0_o (by omega)]; exact hq)
  have e : m0 M = tk_up M 7 0 0 := rfl
  generalize d_leave t (m0 M) = Z at *
  rw [e] at h
  refine tk_goA fo_Mo co_Mo tg_Mo_leave 40 [5] ?_
  repeat' first | refine And.intro ?_ ?_ | intro _
  all_goals first | omega | skip
  exact ⟨(), h⟩
def d_state (k : Int) (N : tk_M) : tk_Z := if N 7 11 = 0 then (.inl (some 0), tk_up N 7 0 1) else if ¬ (0 ≤ k ∧ k ≤ N 7 2 - 1) then (.inl (some 0), tk_up N 7 0 2) else (.inl (some (N 12 k.toNat)), N)
theorem kn_Mo_state (l : Launch) (N : tk_M) (k : Int) (h0 : N 7 0 = 0) (q1 : 0 ≤ N 7 2) (q2 : N 7 2 ≤ 32) : tk_At l "TrackKeeperModel" prog_8_method_27_code 2 (some .int) 6 90 (tk_z (d_state k N)) 5 [some (.inr 7), some (.inl k)] [] N := by
  have ed : d_state k N = if N 7 11 = 0 then (.inl (some 0), tk_up N 7 0 1) else if ¬ (0 ≤ k ∧ k ≤ N 7 2 - 1) then (.inl (some 0), tk_up N 7 0 2) else (.inl (some (N 12 k.toNat)), N) := rfl
  generalize d_state k N = Z at *
  have kR : ∀ c : Int, Z = (.inl (some 0), tk_up N 7 0 c) → tk_At l "TrackKeeperModel" prog_8_method_27_code 2 (some .int) 6 90 (tk_z Z) 52 [some (.inr 7), some (.inl k)] [] (tk_up N 7 0 c) := fun c e => by
    rw [e]
    refine tk_goA fo_Mo co_Mo tg_Mo_state 60 [] ?_
    exact ⟨rfl, rfl⟩
  refine tk_goA fo_Mo co_Mo tg_Mo_state 60 [52] ?_
  repeat' first | refine And.intro ?_ ?_ | intro _
  all_goals first | exact Or.inl rfl | exact Or.inr rfl | rfl | skip
  all_goals try simp only [tk_c, not_true_eq_false, not_false_eq_true, Int.toNat_natCast] at *
  all_goals first | omega | skip
  rotate_left
  · rw [if_pos (by omega)] at ed
    refine ⟨(), ma_f1 h0 (by decide) tg_Mo_state rfl (by decide) (by decide) ?_⟩
    refine tk_goA fo_Mo co_Mo tg_Mo_state 60 [52] ?_
    repeat' first | refine And.intro ?_ ?_ | intro _
    all_goals first | exact Or.inl rfl | exact Or.inr rfl | rfl | skip
    all_goals try simp only [tk_c, not_true_eq_false, not_false_eq_true, Int.toNat_natCast] at *
    all_goals first | omega | skip
    exact ⟨(), kR _ ed⟩
  rename_i hbg
  rw [if_neg hbg] at ed
  refine ⟨(), ma_f0 h0 tg_Mo_state rfl (by decide) (by decide) ?_⟩
  refine tk_goA fo_Mo co_Mo tg_Mo_state 60 [] ?_
  repeat' first | refine And.intro ?_ ?_ | intro _
  all_goals first | exact Or.inl rfl | exact Or.inr rfl | rfl | skip
  all_goals try simp only [tk_c, not_true_eq_false, not_false_eq_true, Int.toNat_natCast] at *
  all_goals first | omega | skip
  refine ⟨(), ma_in tg_Mo_state rfl (by decide) (by decide) ?_⟩
  generalize hy : f_in k 0 (N 7 2 - 1) = y
  have hy0 := f_in_0 k 0 (N 7 2 - 1)
  rw [hy] at hy0
  refine tk_goA fo_Mo co_Mo tg_Mo_state 60 [52] ?_
  repeat' first | refine And.intro ?_ ?_ | intro _
  all_goals first | exact Or.inl rfl | exact Or.inr rfl | rfl | skip
  all_goals try simp only [tk_c, not_true_eq_false, not_false_eq_true, Int.toNat_natCast, hy0] at *
  all_goals first | omega | skip
  · rw [if_neg (by omega)] at ed
    rw [ed]
    refine ⟨(), ma_f0 h0 tg_Mo_state rfl (by decide) (by decide) ?_⟩
    refine tk_goA fo_Mo co_Mo tg_Mo_state 60 [] ?_
    repeat' first | refine And.intro ?_ ?_ | intro _
    all_goals first | exact Or.inl rfl | exact Or.inr rfl | rfl | skip
    all_goals try simp only [tk_c, not_true_eq_false, not_false_eq_true, Int.toNat_natCast] at *
    all_goals first | omega | skip
  · rw [if_pos (by omega)] at ed
    refine ⟨(), ma_f1 h0 (by decide) tg_Mo_state rfl (by decide) (by decide) ?_⟩
    refine tk_goA fo_Mo co_Mo tg_Mo_state 60 [52] ?_
    repeat' first | refine And.intro ?_ ?_ | intro _
    all_goals first | exact Or.inl rfl | exact Or.inr rfl | rfl | skip
    all_goals try simp only [tk_c, not_true_eq_false, not_false_eq_true, Int.toNat_natCast] at *
    all_goals first | omega | skip
    exact ⟨(), kR _ ed⟩
theorem k_Mo_state (l : Launch) (M : tk_M) (k : Int) (q1 : 0 ≤ M 7 2) (q2 : M 7 2 ≤ 32) : tk_C l y_Mo_state 6 90 [.inr 7, .inl k] M (tk_z (d_state k (m0 M))) := by
  refine tk_C.of wc_Mo_state rfl (Nat.le_of_ble_eq_true rfl) fun hr hM => ?_
  have h := kn_Mo_state l (m0 M) k (m0_0 M) (by rw [m0_o (by omega)]; exact q1) (by rw [m0_o (by omega)]; exact q2)
  have e : m0 M = tk_up M 7 0 0 := rfl
  generalize d_state k (m0 M) = Z at *
  rw [e] at h
  refine tk_goA fo_Mo co_Mo tg_Mo_state 40 [5] ?_
  repeat' first | refine And.intro ?_ ?_ | intro _
  all_goals first | omega | skip
  exact ⟨(), h⟩
def m_tell (N : tk_M) (t : Nat) (w : Int) : Int := if w = 0 then f_b (N 18 t) else if w = 1 then f_b (m_loc N t) else if w = 2 then f_b (m_who N t) else if w = 3 then N 26 t else if m_loc N t = 0 then -1 else if w = 4 then (m_a N t : Int) else (m_z N t : Int)
def d_train (t : Int) (w : Int) (N : tk_M) : tk_Z := if N 7 11 = 0 then (.inl (some 0), tk_up N 7 0 1) else if ¬ (0 ≤ t ∧ t ≤ 7) ∨ ¬ (0 ≤ w ∧ w ≤ 5) then (.inl (some 0), tk_up N 7 0 2) else (.inl (some (m_tell N t.toNat w)), N)
theorem kn_Mo_train (l : Launch) (N : tk_M) (t : Int) (w : Int) (h0 : N 7 0 = 0) (q1 : N 7 2 ≤ 32) (qt : q_tm N) : tk_At l "TrackKeeperModel" prog_8_method_28_code 3 (some .int) 6 90 (tk_z (d_train t w N)) 5 [some (.inr 7), some (.inl t), some (.inl w)] [] N := by
  have ed : d_train t w N = if N 7 11 = 0 then (.inl (some 0), tk_up N 7 0 1) else if ¬ (0 ≤ t ∧ t ≤ 7) ∨ ¬ (0 ≤ w ∧ w ≤ 5) then (.inl (some 0), tk_up N 7 0 2) else (.inl (some (m_tell N t.toNat w)), N) := rfl
  generalize d_train t w N = Z at *
  have kR : ∀ c : Int, Z = (.inl (some 0), tk_up N 7 0 c) → tk_At l "TrackKeeperModel" prog_8_method_28_code 3 (some .int) 6 90 (tk_z Z) 57 [some (.inr 7), some (.inl t), some (.inl w)] [] (tk_up N 7 0 c) := fun c e => by
    rw [e]
    refine tk_goA fo_Mo co_Mo tg_Mo_train 60 [] ?_
    exact ⟨rfl, rfl⟩
  refine tk_goA fo_Mo co_Mo tg_Mo_train 60 [57] ?_
  repeat' first | refine And.intro ?_ ?_ | intro _
  all_goals first | exact Or.inl rfl | exact Or.inr rfl | rfl | skip
  all_goals try simp only [tk_c, not_true_eq_false, not_false_eq_true, Int.toNat_natCast] at *
  all_goals first | omega | skip
  rotate_left
  · rw [if_pos (by omega)] at ed
    refine ⟨(), ma_f1 h0 (by decide) tg_Mo_train rfl (by decide) (by decide) ?_⟩
    refine tk_goA fo_Mo co_Mo tg_Mo_train 60 [57] ?_
    repeat' first | refine And.intro ?_ ?_ | intro _
    all_goals first | exact Or.inl rfl | exact Or.inr rfl | rfl | skip
    all_goals try simp only [tk_c, not_true_eq_false, not_false_eq_true, Int.toNat_natCast] at *
    all_goals first | omega | skip
    exact ⟨(), kR _ ed⟩
  rename_i hbg
  rw [if_neg hbg] at ed
  refine ⟨(), ma_f0 h0 tg_Mo_train rfl (by decide) (by decide) ?_⟩
  have kA : (¬ (0 ≤ t ∧ t ≤ 7) ∨ ¬ (0 ≤ w ∧ w ≤ 5)) → tk_At l "TrackKeeperModel" prog_8_method_28_code 3 (some .int) 6 90 (tk_z Z) 45 [some (.inr 7), some (.inl t), some (.inl w)] [.inl (.inr 7)] N := fun h => by
    rw [if_pos h] at ed
    refine tk_goA fo_Mo co_Mo tg_Mo_train 60 [57] ?_
    refine ⟨(), ma_f1 h0 (by decide) tg_Mo_train rfl (by decide) (by decide) ?_⟩
    refine tk_goA fo_Mo co_Mo tg_Mo_train 60 [57] ?_
    repeat' first | refine And.intro ?_ ?_ | intro _
    all_goals first | exact Or.inl rfl | exact Or.inr rfl | rfl | skip
    all_goals try simp only [tk_c, not_true_eq_false, not_false_eq_true, Int.toNat_natCast] at *
    all_goals first | omega | skip
    exact ⟨(), kR _ ed⟩
  refine tk_goA fo_Mo co_Mo tg_Mo_train 60 [45] ?_
  repeat' first | refine And.intro ?_ ?_ | intro _
  all_goals first | exact Or.inl rfl | exact Or.inr rfl | rfl | skip
  all_goals try simp only [tk_c, not_true_eq_false, not_false_eq_true, Int.toNat_natCast] at *
  all_goals first | omega | skip
  refine ⟨(), ma_in tg_Mo_train rfl (by decide) (by decide) ?_⟩
  generalize hy : f_in t 0 7 = y
  have hy0 := f_in_0 t 0 7
  rw [hy] at hy0
  refine tk_goA fo_Mo co_Mo tg_Mo_train 60 [45] ?_
  repeat' first | refine And.intro ?_ ?_ | intro _
  all_goals first | exact Or.inl rfl | exact Or.inr rfl | rfl | skip
  all_goals try simp only [tk_c, not_true_eq_false, not_false_eq_true, Int.toNat_natCast, hy0] at *
  all_goals first | omega | skip
  · exact ⟨(), kA (by omega)⟩
  refine ⟨(), ma_in tg_Mo_train rfl (by decide) (by decide) ?_⟩
  generalize hz : f_in w 0 5 = z
  have hz0 := f_in_0 w 0 5
  rw [hz] at hz0
  refine tk_goA fo_Mo co_Mo tg_Mo_train 60 [45] ?_
  repeat' first | refine And.intro ?_ ?_ | intro _
  all_goals first | exact Or.inl rfl | exact Or.inr rfl | rfl | skip
  all_goals try simp only [tk_c, not_true_eq_false, not_false_eq_true, Int.toNat_natCast, hz0] at *
  all_goals first | omega | skip
  · rw [if_neg (by omega)] at ed
    clear kA kR
    obtain ⟨u, rfl⟩ : ∃ u : Nat, t = (u : Int) := ⟨t.toNat, by omega⟩
    simp only [Int.toNat_natCast] at ed
    unfold m_tell at ed
    refine ⟨(), ma_f0 h0 tg_Mo_train rfl (by decide) (by decide) ?_⟩
    refine tk_goA fo_Mo co_Mo tg_Mo_train 60 [] ?_
    repeat' first | refine And.intro ?_ ?_ | intro _
    all_goals first | exact Or.inl rfl | exact Or.inr rfl | rfl | skip
    all_goals try simp only [tk_c, not_true_eq_false, not_false_eq_true, Int.toNat_natCast] at *
    all_goals first | omega | skip
    · rw [if_neg (by omega), if_neg (by omega), if_neg (by omega), if_neg (by omega)] at ed
      refine ⟨(), ma_loc (by omega) qt tg_Mo_train rfl (by decide) (by decide) ?_⟩
      generalize m_loc N u = y at *
      refine tk_goA fo_Mo co_Mo tg_Mo_train 60 [] ?_
      repeat' first | refine And.intro ?_ ?_ | intro _
      all_goals first | exact Or.inl rfl | exact Or.inr rfl | rfl | skip
      all_goals try simp only [tk_c, not_true_eq_false, not_false_eq_true, Int.toNat_natCast] at *
      all_goals first | omega | skip
      · rw [if_neg (by omega), if_neg (by omega)] at ed
        refine ⟨(), ma_at q1 tg_Mo_train rfl (by decide) (by decide) ?_⟩
        unfold m_z at ed
        rw [ed]
        generalize m_at N (N 22 u) 32 0 = y
        refine tk_goA fo_Mo co_Mo tg_Mo_train 60 [] ?_
        exact ⟨rfl, rfl⟩
      · rw [if_neg (by omega), if_pos (by omega)] at ed
        refine ⟨(), ma_at q1 tg_Mo_train rfl (by decide) (by decide) ?_⟩
        unfold m_a at ed
        rw [ed]
        generalize m_at N (N 23 u) 32 0 = y
        refine tk_goA fo_Mo co_Mo tg_Mo_train 60 [] ?_
        exact ⟨rfl, rfl⟩
      · rw [if_pos (by omega)] at ed
        rw [ed]
      · rw [if_pos (by omega)] at ed
        rw [ed]
    · rw [if_pos (by omega)] at ed
      unfold f_b at ed
      rw [if_pos (by omega)] at ed
      rw [ed]
    · rw [ed]
    · rw [if_pos (by omega)] at ed
      unfold f_b at ed
      rw [if_neg (by omega)] at ed
      rw [ed]
    · rw [ed]
    · rw [if_neg (by omega), if_pos (by omega)] at ed
      unfold f_b at ed
      refine ⟨(), ma_loc (by omega) qt tg_Mo_train rfl (by decide) (by decide) ?_⟩
      rw [ed]
      clear ed
      generalize m_loc N u = y at *
      refine tk_goA fo_Mo co_Mo tg_Mo_train 60 [] ?_
      repeat' first | refine And.intro ?_ ?_ | intro _
      all_goals first | exact Or.inl rfl | exact Or.inr rfl | rfl | skip
      all_goals try simp only [tk_c, not_true_eq_false, not_false_eq_true, Int.toNat_natCast] at *
      all_goals first | omega | skip
      · rw [if_pos (by omega)]
      · rw [if_neg (by omega)]
    · rw [if_neg (by omega), if_neg (by omega), if_pos (by omega)] at ed
      unfold f_b at ed
      refine ⟨(), ma_who (by omega) qt tg_Mo_train rfl (by decide) (by decide) ?_⟩
      rw [ed]
      clear ed
      generalize m_who N u = y at *
      refine tk_goA fo_Mo co_Mo tg_Mo_train 60 [] ?_
      repeat' first | refine And.intro ?_ ?_ | intro _
      all_goals first | exact Or.inl rfl | exact Or.inr rfl | rfl | skip
      all_goals try simp only [tk_c, not_true_eq_false, not_false_eq_true, Int.toNat_natCast] at *
      all_goals first | omega | skip
      · rw [if_pos (by omega)]
      · rw [if_neg (by omega)]
    · rw [if_neg (by omega), if_neg (by omega), if_neg (by omega), if_pos (by omega)] at ed
      rw [ed]
    · rw [ed]
    · trivial
  · exact ⟨(), kA (by omega)⟩
theorem k_Mo_train (l : Launch) (M : tk_M) (t : Int) (w : Int) (q1 : M 7 2 ≤ 32) (qt : q_tm (m0 M)) : tk_C l y_Mo_train 6 90 [.inr 7, .inl t, .inl w] M (tk_z (d_train t w (m0 M))) := by
  refine tk_C.of wc_Mo_train rfl (Nat.le_of_ble_eq_true rfl) fun hr hM => ?_
  have h := kn_Mo_train l (m0 M) t w (m0_0 M) (by rw [m0_o (by omega)]; exact q1) qt
  have e : m0 M = tk_up M 7 0 0 := rfl
  generalize d_train t w (m0 M) = Z at *
  rw [e] at h
  refine tk_goA fo_Mo co_Mo tg_Mo_train 40 [5] ?_
  repeat' first | refine And.intro ?_ ?_ | intro _
  all_goals first | omega | skip
  exact ⟨(), h⟩
def m_cnt (N : tk_M) (w k : Int) : Int := if w = 0 then N 7 1 else if w = 1 then N 7 2 else if w = 2 then N 7 3 else if w = 3 then N 7 7 else if w = 4 then N 7 8 else if w = 5 then N 7 9 else if w = 6 then N 11 k.toNat else f_b (N 16 k.toNat)
def d_count (w : Int) (k : Int) (N : tk_M) : tk_Z := if ¬ (0 ≤ w ∧ w ≤ 7) ∨ (5 < w ∧ ¬ (0 ≤ k ∧ k ≤ N 7 1 - 1)) then (.inl (some 0), tk_up N 7 0 1) else (.inl (some (m_cnt N w k)), N)
theorem kn_Mo_count (l : Launch) (N : tk_M) (w : Int) (k : Int) (h0 : N 7 0 = 0) (q1 : 0 ≤ N 7 1) (q2 : N 7 1 ≤ 10) : tk_At l "TrackKeeperModel" prog_8_method_29_code 3 (some .int) 6 90 (tk_z (d_count w k N)) 5 [some (.inr 7), some (.inl w), some (.inl k)] [] N := by
  have ed : d_count w k N = if ¬ (0 ≤ w ∧ w ≤ 7) ∨ (5 < w ∧ ¬ (0 ≤ k ∧ k ≤ N 7 1 - 1)) then (.inl (some 0), tk_up N 7 0 1) else (.inl (some (m_cnt N w k)), N) := rfl
  generalize d_count w k N = Z at *
  have kR : ∀ c : Int, Z = (.inl (some 0), tk_up N 7 0 c) → tk_At l "TrackKeeperModel" prog_8_method_29_code 3 (some .int) 6 90 (tk_z Z) 47 [some (.inr 7), some (.inl w), some (.inl k)] [] (tk_up N 7 0 c) := fun c e => by
    rw [e]
    refine tk_goA fo_Mo co_Mo tg_Mo_count 60 [] ?_
    exact ⟨rfl, rfl⟩
  have kA : (¬ (0 ≤ w ∧ w ≤ 7) ∨ (5 < w ∧ ¬ (0 ≤ k ∧ k ≤ N 7 1 - 1))) → tk_At l "TrackKeeperModel" prog_8_method_29_code 3 (some .int) 6 90 (tk_z Z) 35 [some (.inr 7), some (.inl w), some (.inl k)] [.inl (.inr 7)] N := fun h => by
    rw [if_pos h] at ed
    refine tk_goA fo_Mo co_Mo tg_Mo_count 60 [47] ?_
    refine ⟨(), ma_f1 h0 (by decide) tg_Mo_count rfl (by decide) (by decide) ?_⟩
    refine tk_goA fo_Mo co_Mo tg_Mo_count 60 [47] ?_
    repeat' first | refine And.intro ?_ ?_ | intro _
    all_goals first | exact Or.inl rfl | exact Or.inr rfl | rfl | skip
    all_goals try simp only [tk_c, not_true_eq_false, not_false_eq_true, Int.toNat_natCast] at *
    all_goals first | omega | skip
    exact ⟨(), kR _ ed⟩
  have kB : ¬ (¬ (0 ≤ w ∧ w ≤ 7) ∨ (5 < w ∧ ¬ (0 ≤ k ∧ k ≤ N 7 1 - 1))) → tk_At l "TrackKeeperModel" prog_8_method_29_code 3 (some .int) 6 90 (tk_z Z) 39 [some (.inr 7), some (.inl w), some (.inl k)] [.inl (.inr 7)] N := fun h => by
    rw [if_neg h] at ed
    unfold m_cnt f_b at ed
    rw [ed]
    clear kR kA
    refine tk_goA fo_Mo co_Mo tg_Mo_count 60 [47] ?_
    refine ⟨(), ma_f0 h0 tg_Mo_count rfl (by decide) (by decide) ?_⟩
    refine tk_goA fo_Mo co_Mo tg_Mo_count 60 [] ?_
    repeat' first | refine And.intro ?_ ?_ | intro _
    all_goals first | exact Or.inl rfl | exact Or.inr rfl | rfl | skip
    all_goals try simp only [tk_c, not_true_eq_false, not_false_eq_true, Int.toNat_natCast] at *
    all_goals first | omega | skip
    all_goals first | trivial | ((repeat' split) <;> first | rfl | omega)
  refine tk_goA fo_Mo co_Mo tg_Mo_count 60 [35, 39] ?_
  refine ⟨(), ma_in tg_Mo_count rfl (by decide) (by decide) ?_⟩
  generalize hy : f_in w 0 7 = y
  have hy0 := f_in_0 w 0 7
  rw [hy] at hy0
  refine tk_goA fo_Mo co_Mo tg_Mo_count 60 [35, 39] ?_
  repeat' first | refine And.intro ?_ ?_ | intro _
  all_goals first | exact Or.inl rfl | exact Or.inr rfl | rfl | skip
  all_goals try simp only [tk_c, not_true_eq_false, not_false_eq_true, Int.toNat_natCast, hy0] at *
  all_goals first | omega | skip
  · exact ⟨(), kA (by omega)⟩
  · exact ⟨(), kB (by omega)⟩
  refine ⟨(), ma_in tg_Mo_count rfl (by decide) (by decide) ?_⟩
  generalize hz : f_in k 0 (N 7 1 - 1) = z
  have hz0 := f_in_0 k 0 (N 7 1 - 1)
  rw [hz] at hz0
  refine tk_goA fo_Mo co_Mo tg_Mo_count 60 [35, 39] ?_
  repeat' first | refine And.intro ?_ ?_ | intro _
  all_goals first | exact Or.inl rfl | exact Or.inr rfl | rfl | skip
  all_goals try simp only [tk_c, not_true_eq_false, not_false_eq_true, Int.toNat_natCast, hz0] at *
  all_goals first | omega | skip
  · exact ⟨(), kB (by omega)⟩
  · exact ⟨(), kA (by omega)⟩
theorem k_Mo_count (l : Launch) (M : tk_M) (w : Int) (k : Int) (q1 : 0 ≤ M 7 1) (q2 : M 7 1 ≤ 10) : tk_C l y_Mo_count 6 90 [.inr 7, .inl w, .inl k] M (tk_z (d_count w k (m0 M))) := by
  refine tk_C.of wc_Mo_count rfl (Nat.le_of_ble_eq_true rfl) fun hr hM => ?_
  have h := kn_Mo_count l (m0 M) w k (m0_0 M) (by rw [m0_o (by omega)]; exact q1) (by rw [m0_o (by omega)]; exact q2)
  have e : m0 M = tk_up M 7 0 0 := rfl
  generalize d_count w k (m0 M) = Z at *
  rw [e] at h
  refine tk_goA fo_Mo co_Mo tg_Mo_count 40 [5] ?_
  repeat' first | refine And.intro ?_ ?_ | intro _
  all_goals first | omega | skip
  exact ⟨(), h⟩
