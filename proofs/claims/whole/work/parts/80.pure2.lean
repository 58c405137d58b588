/-! EACH CALL OF THE LAW: the contracts of helper and reference, packed -/
theorem r_lay {M M1 : tk_M} {K : Int} (jn : j_all M (m0 M1) K) : M1 7 1 = M 2 2 ∧ M1 7 2 = M 2 3 ∧ (0 ≤ M 2 2 ∧ M 2 2 ≤ 10 ∧ 0 ≤ M 2 3 ∧ M 2 3 ≤ 32) ∧ M1 9 (M 2 3).toNat = M 2 4 ∧ M1 7 11 = M 1 3 ∧ (0 ≤ M 2 4 ∧ M 2 4 ≤ 3200000) := by
  obtain ⟨h1, h2, h3, h4, h5, h6, h7⟩ := jn
  obtain ⟨l1, l2, l3, l4, l5, -⟩ := h2
  obtain ⟨-, -, -, -, ⟨-, -, -, -, -, -, k7, k8⟩, -⟩ := h1
  rw [m0_o (by omega)] at l1 l2 l5 h3
  exact ⟨l1, l2, l3, l5, h3, k7, by omega⟩
section RX
variable {M : tk_M} {K : Int}
theorem r_section (l : Launch) (hst : l.stackTraces = false) (h : j_all M M K) : r_val l y_La_section y_Mo_section [.inr 1, .inr 0] [.inr 7] M (K + 2002) (fun _ => True) := by
  have jn := r_jn (Z := c_section M) h (fun c j h7 h30 => fc_section h7 h30)
  obtain ⟨e1, e2, e3, e4, e5, e6⟩ := r_lay jn
  exact r_pack (s_section jn (m0_0 _)) (fun c j hc => fd_section hc) (k_La_section (k_TK_section l hst M h.1) (t_section M)) (k_Mo_section l _ (by omega) (by omega)) (u_section _) (fun _ _ => trivial)
theorem r_sub (l : Launch) (hst : l.stackTraces = false) (h : j_all M M K) (x : Int) : r_val l y_La_sub y_Mo_sub [.inr 1, .inl x, .inr 0] [.inr 7, .inl x] M (K + 2002) (fun _ => True) := by
  have jn := r_jn (Z := c_sub x M) h (fun c j h7 h30 => fc_sub h7 h30)
  obtain ⟨e1, e2, e3, e4, e5, e6⟩ := r_lay jn
  exact r_pack (s_sub jn (m0_0 _) x) (fun c j hc => fd_sub hc) (k_La_sub x (k_TK_sub l hst M x h.1) (t_sub M x)) (k_Mo_sub l _ x (by omega) (by omega) (by omega) (by omega) (by rw [e2, e4]; omega) (by rw [e2, e4]; omega)) (u_sub _ _) (fun _ _ => trivial)
theorem r_begin (l : Launch) (hst : l.stackTraces = false) (h : j_all M M K) (h0 : 0 ≤ K) (m k s : Int) : r_val l y_La_begin y_Mo_begin [.inr 1, .inl m, .inl k, .inl s, .inr 0] [.inr 7, .inl m, .inl k, .inl s] M (K + 2002) (fun _ => True) := by
  have jn := r_jn (Z := c_begin m k s M) h (fun c j h7 h30 => fc_begin h7 h30)
  obtain ⟨e1, e2, e3, e4, e5, e6⟩ := r_lay jn
  exact r_pack (s_begin jn h0 (m0_0 _) m k s) (fun c j hc => fd_begin hc) (k_La_begin m k s (k_TK_begin l hst M m k s h.1) (t_begin M m k s)) (k_Mo_begin l _ m k s (by omega) (by omega) (by omega) (by omega)) (u_begin _ _ _ _) (fun _ _ => trivial)
theorem r_state (l : Launch) (hst : l.stackTraces = false) (h : j_all M M K) (k : Int) : r_val l y_La_state y_Mo_state [.inr 1, .inl k, .inr 0] [.inr 7, .inl k] M (K + 2002) (fun _ => True) := by
  have jn := r_jn (Z := c_state k M) h (fun c j h7 h30 => fc_state)
  obtain ⟨e1, e2, e3, e4, e5, e6⟩ := r_lay jn
  exact r_pack (s_state jn (m0_0 _) k) (fun c j hc => fd_state hc) (k_La_state k (k_TK_state l hst M k h.1) (t_state M k)) (k_Mo_state l _ k (by omega) (by omega)) (u_state _ _) (fun _ _ => trivial)
theorem r_train (l : Launch) (hst : l.stackTraces = false) (h : j_all M M K) (t w : Int) : r_val l y_La_train y_Mo_train [.inr 1, .inl t, .inl w, .inr 0] [.inr 7, .inl t, .inl w] M (K + 2002) (fun _ => True) := by
  have jn := r_jn (Z := c_train t w M) h (fun c j h7 h30 => fc_train)
  obtain ⟨e1, e2, e3, e4, e5, e6⟩ := r_lay jn
  exact r_pack (s_train jn (m0_0 _) t w) (fun c j hc => fd_train hc) (k_La_train t w (k_TK_train l hst M t w) (t_train M t w)) (k_Mo_train l _ t w (by omega) jn.2.2.2.2.1) (u_train _ _ _) (fun _ _ => trivial)
theorem r_count (l : Launch) (hst : l.stackTraces = false) (h : j_all M M K) (w k : Int) : r_val l y_La_count y_Mo_count [.inr 1, .inl w, .inl k, .inr 0] [.inr 7, .inl w, .inl k] M (K + 2002) (fun _ => True) := by
  have jn := r_jn (Z := c_count w k M) h (fun c j h7 h30 => fc_count)
  obtain ⟨e1, e2, e3, e4, e5, e6⟩ := r_lay jn
  exact r_pack (s_count jn (m0_0 _) w k) (fun c j hc => fd_count hc) (k_La_count w k (k_TK_count l hst M w k h.1) (t_count M w k)) (k_Mo_count l _ w k (by omega) (by omega)) (u_count _ _ _) (fun _ _ => trivial)
theorem r_detect (l : Launch) (hst : l.stackTraces = false) (h : j_all M M K) (h0 : 0 ≤ K) (hK : K ≤ 9000000) (s b : Int) (hb : b = 0 ∨ b = 1) : r_void l y_La_detect y_Mo_detect [.inr 1, .inl s, .inl b] [.inr 7, .inl s, .inl b] M (K + 2002) := by
  have jn := r_jn (Z := c_detect s b M) h (fun c j h7 h30 => fc_detect h hK h7 h30)
  obtain ⟨e1, e2, e3, e4, e5, e6⟩ := r_lay jn
  exact r_packV (s_detect jn h0 hK (m0_0 _) s b) (fun c j hc => fd_detect hc) (k_La_detect s b (k_TK_detect l hst M s b hb h.1 (by omega) (fun s hs hg => (j_det h hg hs b).an (by omega))) (t_detect M s b)) (k_Mo_detect l _ s b (by omega) (by omega) hb (fun g1 g2 g3 => (j_det jn (by omega) (s := s.toNat) (by omega) b).fi (by omega))) (u_detect _ _ _)
theorem r_connect (l : Launch) (hst : l.stackTraces = false) (h : j_all M M K) (h0 : 0 ≤ K) (hK : K ≤ 9000000) (t x : Int) : r_void l y_La_connect y_Mo_connect [.inr 1, .inl t, .inl x] [.inr 7, .inl t, .inl x] M (K + 2002) := by
  have jn := r_jn (Z := c_connect t x M) h (fun c j h7 h30 => fc_connect h hK h7 h30)
  obtain ⟨e1, e2, e3, e4, e5, e6⟩ := r_lay jn
  exact r_packV (s_connect jn h0 hK (m0_0 _) t x) (fun c j hc => fd_connect hc) (k_La_connect t x (k_TK_connect l hst M t x (fun t ht hx hg => (j_con h hg ht hx).an (by omega))) (t_connect M t x)) (k_Mo_connect l _ t x (fun g1 g2 g3 g4 g5 => (j_con jn (by omega) (t := t.toNat) (by omega) g3).fi (by omega))) (u_connect _ _ _)
theorem r_leave (l : Launch) (hst : l.stackTraces = false) (h : j_all M M K) (h0 : 0 ≤ K) (hK : K ≤ 9000000) (t : Int) : r_void l y_La_leave y_Mo_leave [.inr 1, .inl t] [.inr 7, .inl t] M (K + 2002) := by
  have jn := r_jn (Z := c_leave t M) h (fun c j h7 h30 => fc_leave h hK h7 h30)
  obtain ⟨e1, e2, e3, e4, e5, e6⟩ := r_lay jn
  exact r_packV (s_leave jn h0 hK (m0_0 _) t) (fun c j hc => fd_leave hc) (k_La_leave t (k_TK_leave l hst M t (fun t ht hg => (j_lv h hg ht).an (by omega))) (t_leave M t)) (k_Mo_leave l _ t (fun g1 g2 g3 g4 => (j_lv jn (by omega) (t := t.toNat) (by omega)).fi (by omega))) (u_leave _ _)
theorem u_report1 (N : tk_M) (t pl it : Int) : ∀ w, (d_report t pl it N).1 = .inl (some w) → w = 0 ∨ w = 1 := by
  intro w
  unfold d_report
  repeat' split
  all_goals intro h
  all_goals first | (cases h; done) | (cases h; simp)
theorem r_report (l : Launch) (hst : l.stackTraces = false) (h : j_all M M K) (h0 : 0 ≤ K) (hK : K ≤ 9000000) (t pl it : Int) : r_val l y_La_report y_Mo_report [.inr 1, .inl t, .inl pl, .inl it, .inr 0] [.inr 7, .inl t, .inl pl, .inl it] M (K + 2002) (fun b => b = 0 ∨ b = 1) := by
  have jn := r_jn (Z := c_report t pl it M) h (fun c j h7 h30 => fc_report h hK h7 h30)
  obtain ⟨e1, e2, e3, e4, e5, e6⟩ := r_lay jn
  have jt : ¬ M 1 3 = 0 → ∀ u : Nat, u < 8 → j_tr M (m0 (h_m (c_report t pl it M))) u := fun hb u hu => (jn.2.2.2.2.2.1 hb).1.2.2.2.2 u hu
  have pi := h.1.2.2.2.1
  have e10 : ¬ M 1 3 = 0 → m0 (h_m (c_report t pl it M)) 7 10 = M 2 4 := fun hb => (jn.2.2.2.2.2.1 hb).1.1.2.2.2.2.2.2.2
  have o : ∀ c j, ¬ (c = 7 ∧ j = 0) → m0 (h_m (c_report t pl it M)) c j = h_m (c_report t pl it M) c j := fun c j hc => m0_o hc
  refine r_pack (s_report jn h0 hK (m0_0 _) t pl it) (fun c j hc => fd_report hc) (k_La_report t pl it (k_TK_report l hst M t pl it h.1 (fun t ht g1 g2 g3 g4 g5 => (j_rep h g3 ht g1 g4 g5).an (by omega))) (t_report M t pl it) (t_report1 M t pl it)) (k_Mo_report l _ t pl it (fun hb u hu hc => ?_) (fun g1 g2 g3 g4 g5 g6 g7 g8 g9 => ?_)) (u_report _ _ _ _) (u_report1 _ _ _ _)
  · obtain ⟨q1, q2, q3, q4⟩ := jt (by omega) u hu
    rw [o 18 u (by omega)] at q1
    have q5 := (q4 (by omega)).2.2.1.1
    rw [o 21 u (by omega)] at q5
    have := (pi u hu).2.2.2
    omega
  · obtain ⟨q1, q2, q3, q4⟩ := jt (by omega) t.toNat (by omega)
    rw [o 18 _ (by omega)] at q1
    have hc : ¬ M (73 + t.toNat) 0 = 0 := by omega
    obtain ⟨r1, r2, r3, r4⟩ := q4 hc
    rw [o 19 _ (by omega)] at r1
    refine (j_rep jn (by omega) (t := t.toNat) (by omega) g5 hc (fun hw => g9 ⟨by rw [r1]; exact hw.1, ?_⟩)).fi (by omega)
    have r5 := (r4 hw.1).1
    rw [o 22 _ (by omega)] at r5
    rw [r5]
    exact hw.2
theorem r_tick (l : Launch) (hst : l.stackTraces = false) (h : j_all M M K) (h0 : 0 ≤ K) (hK : K ≤ 9000000) (n : Int) : r_val l y_La_tick y_Mo_tick [.inr 1, .inl n, .inr 0] [.inr 7, .inl n] M (K + 2002) (fun _ => True) := by
  have jn := r_jn (Z := c_tick n M) h (fun c j h7 h30 => fc_tick h h0 hK h7 h30)
  obtain ⟨e1, e2, e3, e4, e5, e6⟩ := r_lay jn
  have q3 := jn.2.2.2.2.1.1
  have q4 : m0 (h_m (c_tick n M)) 7 3 ≤ 2000000000 := by
    by_cases hb : M 1 3 = 0
    · have := (jn.2.2.2.2.2.2 hb).1
      omega
    · have h1 := (jn.2.2.2.2.2.1 hb).1.1.1
      have h2 := h.1.2.2.2.2.1.2.1
      omega
  rw [m0_o (by omega)] at q3 q4
  exact r_pack (s_tick jn h0 hK (m0_0 _) n) (fun c j hc => fd_tick hc) (k_La_tick n (k_TK_tick l hst M n h.1 h0 (by omega)) (t_tick M n)) (k_Mo_tick l _ n q3 q4 (fun g1 g2 g3 => (j_ticks n.toNat jn h0 (by omega) (by omega)).2)) (u_tick _ _) (fun _ _ => trivial)
theorem r_request (l : Launch) (hst : l.stackTraces = false) (h : j_all M M K) (t s : Int) : r_val l y_La_request y_Mo_request [.inr 1, .inl t, .inl s, .inr 0] [.inr 7, .inl t, .inl s] M (K + 2002) (fun _ => True) := by
  have jn := r_jn (Z := c_request t s M) h (fun c j h7 h30 => fc_request h7 h30)
  obtain ⟨e1, e2, e3, e4, e5, e6⟩ := r_lay jn
  refine r_pack (s_request jn (m0_0 _) t s) (fun c j hc => fd_request hc) (k_La_request t s (k_TK_request l hst M t s h.1 (fun u hu hg h9 => ?_)) (t_request M t s)) (k_Mo_request l _ t s (by omega) (by omega) jn.2.2.2.2.1) (u_request _ _ _) (fun _ _ => trivial)
  obtain ⟨hp, hf⟩ := h.2.2.2.2.2.1 hg
  obtain ⟨f1, f2, f3⟩ := hf u hu
  rw [f1] at h9
  obtain ⟨y1, y2⟩ := f_loc_ok h9
  have pm := (h.1.2.2.2.2.2 hg).2 u hu y1 y2
  unfold p_mk at pm
  omega
theorem r_clear (l : Launch) (h : j_all M M K) : ∃ M1 M2 : tk_M, tk_C l y_TK_clear 7 94 [.inr 1] M (fun r M' => r = .inl none ∧ M' = M1) ∧ tk_C l y_Mo_clear 6 90 [.inr 7] M1 (fun r M' => r = .inl none ∧ M' = M2) ∧ j_all M2 M2 (K + 2002) := by
  refine ⟨tk_up (tk_up (tk_up (tk_up M 2 2 0) 2 3 0) 2 4 0) 1 3 0, _, k_TK_clear l M, k_Mo_clear l _, ?_⟩
  have jn : j_all M (m0 (tk_up (tk_up (tk_up (tk_up M 2 2 0) 2 3 0) 2 4 0) 1 3 0)) K := h.eq (fun _ _ _ => rfl) (fun c j hk => by
    unfold k_d at hk
    rw [m0_o (by omega), tk_up_n (by omega), tk_up_n (by omega), tk_up_n (by omega), tk_up_n (by omega)])
  refine (s_clear jn).eq (fun c j hk => ?_) (fun _ _ _ => rfl)
  unfold k_c at hk
  show m_reset _ c j = _
  rw [m_reset_o (by omega), tk_up_n (by omega), tk_up_n (by omega), tk_up_n (by omega), m0_o (by omega)]
end RX
