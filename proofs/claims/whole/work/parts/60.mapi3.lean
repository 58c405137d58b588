/-! THE REFERENCE: report, tick, request -/
def m_rp1 (N : tk_M) (t : Nat) (pl it : Int) : tk_M := if N 19 t = 0 ∨ it = 1 then tk_up N 23 t (if pl - N 21 t < 0 then 0 else pl - N 21 t) else N
def m_rp2 (N : tk_M) (t : Nat) (pl tm : Int) : tk_M := tk_up (tk_up (tk_up N 19 t 1) 22 t pl) 24 t tm
def m_rp3 (N : tk_M) (t : Nat) (it tm : Int) : tk_M := if it = 1 then tk_up (tk_up N 20 t 1) 25 t tm else if it = 2 then tk_up N 20 t 0 else N
def m_rep (N : tk_M) (t : Nat) (pl it : Int) : tk_M := m_rp3 (m_rp2 (m_rp1 N t pl it) t pl (N 7 3)) t it (N 7 3)
theorem kn_Mo_rep3 (l : Launch) (X : tk_M) (t : Nat) (ht : t < 8) (pl it b tm : Int) (h7 : X 7 3 = tm) (Z : tk_Z) (hq : q_fi (m_rp3 (m_rp2 X t pl tm) t it tm)) (ed : Z = (.inl (some 1), m_set (m_rp3 (m_rp2 X t pl tm) t it tm))) : tk_At l "TrackKeeperModel" prog_8_method_22_code 5 (some .boolean) 6 90 (tk_z Z) 161 [some (.inr 7), some (.inl (t : Int)), some (.inl pl), some (.inl it), some (.inl b)] [] X := by
  have u1 : tk_up (tk_up X 19 t 1) 22 t pl 7 3 = tm := by rw [tk_up_n (by omega), tk_up_n (by omega)]; exact h7
  have e2 : m_rp2 X t pl tm = tk_up (tk_up (tk_up X 19 t 1) 22 t pl) 24 t tm := rfl
  rw [e2] at hq ed
  have u2 : tk_up (tk_up (tk_up (tk_up X 19 t 1) 22 t pl) 24 t tm) 20 t 1 7 3 = tm := by rw [tk_up_n (by omega), tk_up_n (by omega), u1]
  unfold m_rp3 at hq ed
  refine tk_goA fo_Mo co_Mo tg_Mo_report 60 [219] ?_
  repeat' first | refine And.intro ?_ ?_ | intro _
  all_goals first | exact Or.inl rfl | exact Or.inr rfl | rfl | skip
  all_goals try simp only [tk_c, not_true_eq_false, not_false_eq_true, Int.toNat_natCast, u1, u2] at *
  all_goals first | omega | skip
  · rw [if_neg (by omega), if_neg (by omega)] at hq ed
    rw [ed]
    refine ⟨(), ?_⟩
    refine tk_goA fo_Mo co_Mo tg_Mo_report 60 [] ?_
    refine ⟨(), ma_settle hq tg_Mo_report rfl (by decide) (by decide) ?_⟩
    refine tk_goA fo_Mo co_Mo tg_Mo_report 60 [] ?_
    exact ⟨Or.inr rfl, rfl, rfl⟩
  · rw [if_neg (by omega), if_pos (by omega)] at hq ed
    rw [ed]
    refine ⟨(), ?_⟩
    refine tk_goA fo_Mo co_Mo tg_Mo_report 60 [] ?_
    refine ⟨(), ma_settle hq tg_Mo_report rfl (by decide) (by decide) ?_⟩
    refine tk_goA fo_Mo co_Mo tg_Mo_report 60 [] ?_
    exact ⟨Or.inr rfl, rfl, rfl⟩
  · rw [if_pos (by omega)] at hq ed
    rw [ed]
    refine ⟨(), ?_⟩
    refine tk_goA fo_Mo co_Mo tg_Mo_report 60 [] ?_
    refine ⟨(), ma_settle hq tg_Mo_report rfl (by decide) (by decide) ?_⟩
    refine tk_goA fo_Mo co_Mo tg_Mo_report 60 [] ?_
    exact ⟨Or.inr rfl, rfl, rfl⟩
def d_report (t : Int) (pl : Int) (it : Int) (N : tk_M) : tk_Z := if N 7 11 = 0 then (.inl (some 0), tk_up N 7 0 1) else if ¬ (0 ≤ t ∧ t ≤ 7) ∨ ¬ (0 ≤ it ∧ it ≤ 2) ∨ ¬ (0 ≤ pl ∧ pl ≤ N 7 10) then (.inl (some 0), tk_up N 7 0 2) else if N 18 t.toNat = 0 then (.inl (some 0), tk_up N 7 0 3) else if ¬ N 19 t.toNat = 0 ∧ pl < N 22 t.toNat then (.inl (some 0), N) else (.inl (some 1), m_set (m_rep N t.toNat pl it))
theorem kn_Mo_report (l : Launch) (N : tk_M) (t : Int) (pl : Int) (it : Int) (h0 : N 7 0 = 0) (q1 : ¬ N 7 11 = 0 → ∀ t : Nat, t < 8 → ¬ N 18 t = 0 → 0 ≤ N 21 t) (hq : 0 ≤ t → t ≤ 7 → 0 ≤ it → it ≤ 2 → 0 ≤ pl → pl ≤ N 7 10 → ¬ N 7 11 = 0 → ¬ N 18 t.toNat = 0 → ¬ (¬ N 19 t.toNat = 0 ∧ pl < N 22 t.toNat) → q_fi (m_rep N t.toNat pl it)) : tk_At l "TrackKeeperModel" prog_8_method_22_code 5 (some .boolean) 6 90 (tk_z (d_report t pl it N)) 5 [some (.inr 7), some (.inl t), some (.inl pl), some (.inl it), none] [] N := by
  have ed : d_report t pl it N = if N 7 11 = 0 then (.inl (some 0), tk_up N 7 0 1) else if ¬ (0 ≤ t ∧ t ≤ 7) ∨ ¬ (0 ≤ it ∧ it ≤ 2) ∨ ¬ (0 ≤ pl ∧ pl ≤ N 7 10) then (.inl (some 0), tk_up N 7 0 2) else if N 18 t.toNat = 0 then (.inl (some 0), tk_up N 7 0 3) else if ¬ N 19 t.toNat = 0 ∧ pl < N 22 t.toNat then (.inl (some 0), N) else (.inl (some 1), m_set (m_rep N t.toNat pl it)) := rfl
  generalize d_report t pl it N = Z at *
  have kR : ∀ c : Int, Z = (.inl (some 0), tk_up N 7 0 c) → tk_At l "TrackKeeperModel" prog_8_method_22_code 5 (some .boolean) 6 90 (tk_z Z) 91 [some (.inr 7), some (.inl t), some (.inl pl), some (.inl it), none] [] (tk_up N 7 0 c) := fun c e => by
    rw [e]
    refine tk_goA fo_Mo co_Mo tg_Mo_report 60 [] ?_
    exact ⟨Or.inl rfl, rfl, rfl⟩
  refine tk_goA fo_Mo co_Mo tg_Mo_report 60 [91] ?_
  repeat' first | refine And.intro ?_ ?_ | intro _
  all_goals first | exact Or.inl rfl | exact Or.inr rfl | rfl | skip
  all_goals try simp only [tk_c, not_true_eq_false, not_false_eq_true, Int.toNat_natCast] at *
  all_goals first | omega | skip
  rotate_left
  · rw [if_pos (by omega)] at ed
    refine ⟨(), ma_f1 h0 (by decide) tg_Mo_report rfl (by decide) (by decide) ?_⟩
    refine tk_goA fo_Mo co_Mo tg_Mo_report 60 [91] ?_
    repeat' first | refine And.intro ?_ ?_ | intro _
    all_goals first | exact Or.inl rfl | exact Or.inr rfl | rfl | skip
    all_goals try simp only [tk_c, not_true_eq_false, not_false_eq_true, Int.toNat_natCast] at *
    all_goals first | omega | skip
    exact ⟨(), kR _ ed⟩
  rename_i hbg
  replace q1 := q1 hbg
  rw [if_neg hbg] at ed
  refine ⟨(), ma_f0 h0 tg_Mo_report rfl (by decide) (by decide) ?_⟩
  have kA : (¬ (0 ≤ t ∧ t ≤ 7) ∨ ¬ (0 ≤ it ∧ it ≤ 2) ∨ ¬ (0 ≤ pl ∧ pl ≤ N 7 10)) → tk_At l "TrackKeeperModel" prog_8_method_22_code 5 (some .boolean) 6 90 (tk_z Z) 57 [some (.inr 7), some (.inl t), some (.inl pl), some (.inl it), none] [.inl (.inr 7)] N := fun h => by
    rw [if_pos h] at ed
    refine tk_goA fo_Mo co_Mo tg_Mo_report 60 [91] ?_
    refine ⟨(), ma_f1 h0 (by decide) tg_Mo_report rfl (by decide) (by decide) ?_⟩
    refine tk_goA fo_Mo co_Mo tg_Mo_report 60 [91] ?_
    repeat' first | refine And.intro ?_ ?_ | intro _
    all_goals first | exact Or.inl rfl | exact Or.inr rfl | rfl | skip
    all_goals try simp only [tk_c, not_true_eq_false, not_false_eq_true, Int.toNat_natCast] at *
    all_goals first | omega | skip
    exact ⟨(), kR _ ed⟩
  refine tk_goA fo_Mo co_Mo tg_Mo_report 60 [57] ?_
  repeat' first | refine And.intro ?_ ?_ | intro _
  all_goals first | exact Or.inl rfl | exact Or.inr rfl | rfl | skip
  all_goals try simp only [tk_c, not_true_eq_false, not_false_eq_true, Int.toNat_natCast] at *
  all_goals first | omega | skip
  refine ⟨(), ma_in tg_Mo_report rfl (by decide) (by decide) ?_⟩
  generalize hy : f_in t 0 7 = y
  have hy0 := f_in_0 t 0 7
  rw [hy] at hy0
  refine tk_goA fo_Mo co_Mo tg_Mo_report 60 [57] ?_
  repeat' first | refine And.intro ?_ ?_ | intro _
  all_goals first | exact Or.inl rfl | exact Or.inr rfl | rfl | skip
  all_goals try simp only [tk_c, not_true_eq_false, not_false_eq_true, Int.toNat_natCast, hy0] at *
  all_goals first | omega | skip
  · exact ⟨(), kA (by omega)⟩
  refine ⟨(), ma_in tg_Mo_report rfl (by decide) (by decide) ?_⟩
  generalize hz : f_in it 0 2 = z
  have hz0 := f_in_0 it 0 2
  rw [hz] at hz0
  refine tk_goA fo_Mo co_Mo tg_Mo_report 60 [57] ?_
  repeat' first | refine And.intro ?_ ?_ | intro _
  all_goals first | exact Or.inl rfl | exact Or.inr rfl | rfl | skip
  all_goals try simp only [tk_c, not_true_eq_false, not_false_eq_true, Int.toNat_natCast, hz0] at *
  all_goals first | omega | skip
  · exact ⟨(), kA (by omega)⟩
  refine ⟨(), ma_in tg_Mo_report rfl (by decide) (by decide) ?_⟩
  generalize hx : f_in pl 0 (N 7 10) = x
  have hx0 := f_in_0 pl 0 (N 7 10)
  rw [hx] at hx0
  refine tk_goA fo_Mo co_Mo tg_Mo_report 60 [57] ?_
  repeat' first | refine And.intro ?_ ?_ | intro _
  all_goals first | exact Or.inl rfl | exact Or.inr rfl | rfl | skip
  all_goals try simp only [tk_c, not_true_eq_false, not_false_eq_true, Int.toNat_natCast, hx0] at *
  all_goals first | omega | skip
  rotate_left
  · exact ⟨(), kA (by omega)⟩
  rw [if_neg (by omega)] at ed
  clear kA
  obtain ⟨u, rfl⟩ : ∃ u : Nat, t = (u : Int) := ⟨t.toNat, by omega⟩
  simp only [Int.toNat_natCast] at ed
  refine ⟨(), ma_f0 h0 tg_Mo_report rfl (by decide) (by decide) ?_⟩
  refine tk_goA fo_Mo co_Mo tg_Mo_report 60 [91] ?_
  repeat' first | refine And.intro ?_ ?_ | intro _
  all_goals first | exact Or.inl rfl | exact Or.inr rfl | rfl | skip
  all_goals try simp only [tk_c, not_true_eq_false, not_false_eq_true, Int.toNat_natCast] at *
  all_goals first | omega | skip
  rotate_left
  · rw [if_pos (by omega)] at ed
    refine ⟨(), ma_f1 h0 (by decide) tg_Mo_report rfl (by decide) (by decide) ?_⟩
    refine tk_goA fo_Mo co_Mo tg_Mo_report 60 [91] ?_
    repeat' first | refine And.intro ?_ ?_ | intro _
    all_goals first | exact Or.inl rfl | exact Or.inr rfl | rfl | skip
    all_goals try simp only [tk_c, not_true_eq_false, not_false_eq_true, Int.toNat_natCast] at *
    all_goals first | omega | skip
    exact ⟨(), kR _ ed⟩
  have hc : ¬ N 18 u = 0 := by assumption
  rw [if_neg hc] at ed
  have qu := q1 u (by omega) hc
  have k153 : ∀ b : Int, b = (if pl - N 21 u < 0 then 0 else pl - N 21 u) → ¬ (¬ N 19 u = 0 ∧ pl < N 22 u) → tk_At l "TrackKeeperModel" prog_8_method_22_code 5 (some .boolean) 6 90 (tk_z Z) 139 [some (.inr 7), some (.inl (u : Int)), some (.inl pl), some (.inl it), some (.inl b)] [] N := fun b eb hw => by
    rw [if_neg hw] at ed
    have hq := hq (by omega) (by omega) (by omega) (by omega) (by omega) (by omega) hbg hc hw
    have er : m_rep N u pl it = m_rp3 (m_rp2 (m_rp1 N u pl it) u pl (N 7 3)) u it (N 7 3) := rfl
    rw [er] at ed hq
    have kX : ∀ X : tk_M, m_rp1 N u pl it = X → X 7 3 = N 7 3 → tk_At l "TrackKeeperModel" prog_8_method_22_code 5 (some .boolean) 6 90 (tk_z Z) 161 [some (.inr 7), some (.inl (u : Int)), some (.inl pl), some (.inl it), some (.inl b)] [] X := fun X eX e7 => by
      rw [eX] at ed hq
      exact kn_Mo_rep3 l X u (by omega) pl it b (N 7 3) e7 Z hq ed
    have e1 : m_rp1 N u pl it = if N 19 u = 0 ∨ it = 1 then tk_up N 23 u (if pl - N 21 u < 0 then 0 else pl - N 21 u) else N := rfl
    rw [← eb] at e1
    have k9 : (N 19 u = 0 ∨ it = 1) → tk_At l "TrackKeeperModel" prog_8_method_22_code 5 (some .boolean) 6 90 (tk_z Z) 153 [some (.inr 7), some (.inl (u : Int)), some (.inl pl), some (.inl it), some (.inl b)] [] N := fun h => by
      rw [if_pos h] at e1
      refine tk_goA fo_Mo co_Mo tg_Mo_report 60 [161] ?_
      repeat' first | refine And.intro ?_ ?_ | intro _
      all_goals first | exact Or.inl rfl | exact Or.inr rfl | rfl | skip
      all_goals try simp only [tk_c, not_true_eq_false, not_false_eq_true, Int.toNat_natCast] at *
      all_goals first | omega | skip
      exact ⟨(), kX _ e1 (tk_up_n (by omega))⟩
    refine tk_goA fo_Mo co_Mo tg_Mo_report 60 [153, 161] ?_
    repeat' first | refine And.intro ?_ ?_ | intro _
    all_goals first | exact Or.inl rfl | exact Or.inr rfl | rfl | skip
    all_goals try simp only [tk_c, not_true_eq_false, not_false_eq_true, Int.toNat_natCast] at *
    all_goals first | omega | skip
    · exact ⟨(), k9 (by omega)⟩
    · rw [if_neg (by omega)] at e1
      exact ⟨(), kX _ e1 rfl⟩
    · exact ⟨(), k9 (by omega)⟩
  refine ⟨(), ma_f0 h0 tg_Mo_report rfl (by decide) (by decide) ?_⟩
  clear kR hq
  have k114 : ¬ (¬ N 19 u = 0 ∧ pl < N 22 u) → tk_At l "TrackKeeperModel" prog_8_method_22_code 5 (some .boolean) 6 90 (tk_z Z) 114 [some (.inr 7), some (.inl (u : Int)), some (.inl pl), some (.inl it), none] [] N := fun hw => by
    refine tk_goA fo_Mo co_Mo tg_Mo_report 60 [139] ?_
    repeat' first | refine And.intro ?_ ?_ | intro _
    all_goals first | exact Or.inl rfl | exact Or.inr rfl | rfl | skip
    all_goals try simp only [tk_c, not_true_eq_false, not_false_eq_true, Int.toNat_natCast] at *
    all_goals first | omega | skip
    · exact ⟨(), k153 _ (by rw [if_neg (by omega)]) hw⟩
    · exact ⟨(), k153 _ (by rw [if_pos (by omega)]) hw⟩
  refine tk_goA fo_Mo co_Mo tg_Mo_report 60 [114] ?_
  repeat' first | refine And.intro ?_ ?_ | intro _
  all_goals first | exact Or.inl rfl | exact Or.inr rfl | rfl | skip
  all_goals try simp only [tk_c, not_true_eq_false, not_false_eq_true, Int.toNat_natCast] at *
  all_goals first | omega | skip
  · exact ⟨(), k114 (by omega)⟩
  · exact ⟨(), k114 (by omega)⟩
  · rw [if_pos (by omega)] at ed
    rw [ed]
  · rw [if_pos (by omega)] at ed
    rw [ed]
theorem k_Mo_report (l : Launch) (M : tk_M) (t : Int) (pl : Int) (it : Int) (q1 : ¬ M 7 11 = 0 → ∀ t : Nat, t < 8 → ¬ M 18 t = 0 → 0 ≤ M 21 t) (hq : 0 ≤ t → t ≤ 7 → 0 ≤ it → it ≤ 2 → 0 ≤ pl → pl ≤ M 7 10 → ¬ M 7 11 = 0 → ¬ M 18 t.toNat = 0 → ¬ (¬ M 19 t.toNat = 0 ∧ pl < M 22 t.toNat) → q_fi (m_rep (m0 M) t.toNat pl it)) : tk_C l y_Mo_report 6 90 [.inr 7, .inl t, .inl pl, .inl it] M (tk_z (d_report t pl it (m0 M))) := by
  refine tk_C.of wc_Mo_report rfl (Nat.le_of_ble_eq_true rfl) fun hr hM => ?_
  have h := kn_Mo_report l (m0 M) t pl it (m0_0 M) (fun hb t ht => by rw [m0_o (by omega), m0_o (by omega)]; rw [m0_o (by omega)] at hb; exact q1 hb t ht) (by rw [m0_o (by omega), m0_o (by omega), m0_o (by omega), m0_o (by omega), m0_o (by omega)]; exact hq)
  have e : m0 M = tk_up M 7 0 0 := rfl
  generalize d_report t pl it (m0 M) = Z at *
  rw [e] at h
  refine tk_goA fo_Mo co_Mo tg_Mo_report 40 [5] ?_
  repeat' first | refine And.intro ?_ ?_ | intro _
  all_goals first | omega | skip
  exact ⟨(), h⟩
