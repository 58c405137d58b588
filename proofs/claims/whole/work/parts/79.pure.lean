/-! EACH CALL OF THE LAW, as numbers: what the helper and the reference answer, and what stands behind them -/
theorem z_ifc {c : Prop} {d : Decidable c} {Z W : tk_Z} {Q : tk_Z → Prop} (h1 : c → Q Z) (h2 : ¬ c → Q W) : Q (if c then Z else W) := by
  by_cases h : c
  · rw [if_pos h]; exact h1 h
  · rw [if_neg h]; exact h2 h
def r_val (l : Launch) (yh ym : MethodName) (ps qs : List tk_U) (M : tk_M) (K : Int) (B : Int → Prop) : Prop := ∃ (v b : Int) (M1 M2 : tk_M), tk_H l yh 8 120 ps M (fun v' M' => v' = v ∧ M' = M1) ∧ tk_C l ym 6 90 qs M1 (fun r M' => r = .inl (some b) ∧ M' = M2) ∧ M2 7 0 = v ∧ (v = 0 → M2 0 0 = b) ∧ j_all M2 M2 K ∧ B b
def r_void (l : Launch) (yh ym : MethodName) (ps qs : List tk_U) (M : tk_M) (K : Int) : Prop := ∃ (v : Int) (M1 M2 : tk_M), tk_H l yh 8 120 ps M (fun v' M' => v' = v ∧ M' = M1) ∧ tk_C l ym 6 90 qs M1 (fun r M' => r = .inl none ∧ M' = M2) ∧ M2 7 0 = v ∧ j_all M2 M2 K
theorem h_m_o {Z : tk_Z} {c j : Nat} (h : c ≠ 0) : h_m Z c j = Z.2 c j := by
  obtain ⟨r, M⟩ := Z
  cases r with
  | inl v =>
    cases v with
    | some y => exact tk_up_ne h j
    | none => rfl
  | inr x => rfl
theorem r_jn {Z : tk_Z} {M : tk_M} {K : Int} (h : j_all M M K) (fc : ∀ c j, 7 ≤ c → c ≤ 30 → Z.2 c j = M c j) : j_all M (m0 (h_m Z)) K :=
  h.eq (fun _ _ _ => rfl) (fun c j hk => by
    unfold k_d at hk
    rw [m0_o (by omega), h_m_o (by omega), fc c j (by omega) (by omega)])
theorem r_gen {cd : Nat → Int} {Z W : tk_Z} {K : Int} (hs : s_ok cd Z W K) (fd : ∀ c j, (c < 7 ∨ 31 ≤ c) → W.2 c j = m0 (h_m Z) c j) : W.2 7 0 = h_v cd Z ∧ (∀ b, h_v cd Z = 0 → W.1 = .inl (some b) → W.2 0 0 = b) ∧ j_all W.2 W.2 K := by
  obtain ⟨h1, h2⟩ := hs
  refine ⟨?_, fun b hv hb => ?_, h2.eq (fun c j hk => by unfold k_c at hk; rw [fd c j (by omega), m0_o (by omega), h_m_o (by omega)]) (fun _ _ _ => rfl)⟩
  · unfold h_v
    cases hz : Z.1 with
    | inl v => rw [hz] at h1; exact h1.1
    | inr e => rw [hz] at h1; exact h1.1
  · rw [fd 0 0 (by omega), m0_o (by omega)]
    unfold h_v at hv
    unfold h_m
    cases hz : Z.1 with
    | inl v =>
      rw [hz] at h1
      have h3 := h1.2
      rw [hb] at h3
      cases h3
      exact tk_up_s _ _ _ _
    | inr e =>
      rw [hz] at h1 hv
      exact absurd hv h1.2
theorem r_pack {l : Launch} {yh ym : MethodName} {ps qs : List tk_U} {M : tk_M} {cd : Nat → Int} {Z W : tk_Z} {K : Int} (hs : s_ok cd Z W K) (fd : ∀ c j, (c < 7 ∨ 31 ≤ c) → W.2 c j = m0 (h_m Z) c j) (c1 : tk_H l yh 8 120 ps M (tk_h cd Z)) (c2 : tk_C l ym 6 90 qs (h_m Z) (tk_z W)) (hw : v_ok W [] true) {B : Int → Prop} (hB : ∀ b, W.1 = .inl (some b) → B b) : r_val l yh ym ps qs M K B := by
  obtain ⟨g1, g2, g3⟩ := r_gen hs fd
  have hb : ∃ b, W.1 = .inl (some b) := by
    cases hz : W.1 with
    | inl v =>
      obtain ⟨b, rfl⟩ := v_some hw hz.symm
      exact ⟨b, rfl⟩
    | inr x => exact absurd (hw.2 x hz) List.not_mem_nil
  obtain ⟨b, hb⟩ := hb
  refine ⟨h_v cd Z, b, h_m Z, W.2, c1, ?_, g1, fun hv => g2 b hv hb, g3, hB b hb⟩
  rw [← hb]
  exact c2
theorem r_packV {l : Launch} {yh ym : MethodName} {ps qs : List tk_U} {M : tk_M} {cd : Nat → Int} {Z W : tk_Z} {K : Int} (hs : s_ok cd Z W K) (fd : ∀ c j, (c < 7 ∨ 31 ≤ c) → W.2 c j = m0 (h_m Z) c j) (c1 : tk_H l yh 8 120 ps M (tk_h cd Z)) (c2 : tk_C l ym 6 90 qs (h_m Z) (tk_z W)) (hw : v_ok W [] false) : r_void l yh ym ps qs M K := by
  obtain ⟨g1, -, g3⟩ := r_gen hs fd
  have hb : W.1 = .inl none := by
    cases hz : W.1 with
    | inl v => rw [v_none hw hz.symm]
    | inr x => exact absurd (hw.2 x hz) List.not_mem_nil
  refine ⟨h_v cd Z, h_m Z, W.2, c1, ?_, g1, g3⟩
  rw [← hb]
  exact c2
theorem u_section (N : tk_M) : v_ok (d_section N) [] true := by
  unfold d_section
  repeat' first | exact v_ok.s | refine v_ok.if ?_ ?_
theorem u_sub (N : tk_M) (x : Int) : v_ok (d_sub x N) [] true := by
  unfold d_sub
  repeat' first | exact v_ok.s | refine v_ok.if ?_ ?_
theorem u_begin (N : tk_M) (m k s : Int) : v_ok (d_begin m k s N) [] true := by
  unfold d_begin
  repeat' first | exact v_ok.s | refine v_ok.if ?_ ?_
theorem u_detect (N : tk_M) (s b : Int) : v_ok (d_detect s b N) [] false := by
  unfold d_detect
  repeat' first | exact v_ok.n | refine v_ok.if ?_ ?_
theorem u_connect (N : tk_M) (t x : Int) : v_ok (d_connect t x N) [] false := by
  unfold d_connect
  repeat' first | exact v_ok.n | refine v_ok.if ?_ ?_
theorem u_leave (N : tk_M) (t : Int) : v_ok (d_leave t N) [] false := by
  unfold d_leave
  repeat' first | exact v_ok.n | refine v_ok.if ?_ ?_
theorem u_report (N : tk_M) (t pl it : Int) : v_ok (d_report t pl it N) [] true := by
  unfold d_report
  repeat' first | exact v_ok.s | refine v_ok.if ?_ ?_
theorem u_tick (N : tk_M) (n : Int) : v_ok (d_tick n N) [] true := by
  unfold d_tick
  repeat' first | exact v_ok.s | refine v_ok.if ?_ ?_
theorem u_request (N : tk_M) (t w : Int) : v_ok (d_request t w N) [] true := by
  unfold d_request
  repeat' first | exact v_ok.s | refine v_ok.if ?_ ?_
theorem u_state (N : tk_M) (k : Int) : v_ok (d_state k N) [] true := by
  unfold d_state
  repeat' first | exact v_ok.s | refine v_ok.if ?_ ?_
theorem u_train (N : tk_M) (t w : Int) : v_ok (d_train t w N) [] true := by
  unfold d_train
  repeat' first | exact v_ok.s | refine v_ok.if ?_ ?_
theorem u_count (N : tk_M) (w k : Int) : v_ok (d_count w k N) [] true := by
  unfold d_count
  repeat' first | exact v_ok.s | refine v_ok.if ?_ ?_
/-! the reference leaves the class's cells -/
section FD
variable {N : tk_M} {c j : Nat}
theorem fd_section (h : c < 7 ∨ 31 ≤ c) : (d_section N).2 c j = N c j := by
  unfold d_section
  refine z_ifc (Q := fun Z => Z.2 c j = N c j) (fun _ => tk_up_n (by omega)) fun _ => z_ifc (Q := fun Z => Z.2 c j = N c j) (fun _ => tk_up_n (by omega)) fun _ => ?_
  show tk_up (tk_up _ _ _ _) _ _ _ c j = _
  rw [tk_up_n (by omega), tk_up_n (by omega)]
theorem fd_sub {x : Int} (h : c < 7 ∨ 31 ≤ c) : (d_sub x N).2 c j = N c j := by
  unfold d_sub
  refine z_ifc (Q := fun Z => Z.2 c j = N c j) (fun _ => tk_up_n (by omega)) fun _ => z_ifc (Q := fun Z => Z.2 c j = N c j) (fun _ => tk_up_n (by omega)) fun _ => z_ifc (Q := fun Z => Z.2 c j = N c j) (fun _ => tk_up_n (by omega)) fun _ => ?_
  show tk_up (tk_up (tk_up _ _ _ _) _ _ _) _ _ _ c j = _
  rw [tk_up_n (by omega), tk_up_n (by omega), tk_up_n (by omega)]
theorem fd_begin {m k s : Int} (h : c < 7 ∨ 31 ≤ c) : (d_begin m k s N).2 c j = N c j := by
  unfold d_begin
  refine z_ifc (Q := fun Z => Z.2 c j = N c j) (fun _ => tk_up_n (by omega)) fun _ => z_ifc (Q := fun Z => Z.2 c j = N c j) (fun _ => tk_up_n (by omega)) fun _ => ?_
  show m_reset (d_beg0 N m k s) c j = _
  rw [m_reset_o (by omega)]
  unfold d_beg0
  rw [tk_up_n (by omega), tk_up_n (by omega), tk_up_n (by omega), tk_up_n (by omega), tk_up_n (by omega)]
theorem fd_detect {s b : Int} (h : c < 7 ∨ 31 ≤ c) : (d_detect s b N).2 c j = N c j := by
  unfold d_detect
  refine z_ifc (Q := fun Z => Z.2 c j = N c j) (fun _ => tk_up_n (by omega)) fun _ => z_ifc (Q := fun Z => Z.2 c j = N c j) (fun _ => tk_up_n (by omega)) fun _ => ?_
  show m_set _ c j = _
  rw [m_set_o (by unfold q_ms; omega), tk_up_n (by omega)]
theorem fd_connect {t x : Int} (h : c < 7 ∨ 31 ≤ c) : (d_connect t x N).2 c j = N c j := by
  unfold d_connect
  refine z_ifc (Q := fun Z => Z.2 c j = N c j) (fun _ => tk_up_n (by omega)) fun _ => z_ifc (Q := fun Z => Z.2 c j = N c j) (fun _ => tk_up_n (by omega)) fun _ => ?_
  show m_set _ c j = _
  rw [m_set_o (by unfold q_ms; omega)]
  unfold m_con
  rw [tk_up_n (by omega), tk_up_n (by omega), tk_up_n (by omega), tk_up_n (by omega)]
theorem fd_leave {t : Int} (h : c < 7 ∨ 31 ≤ c) : (d_leave t N).2 c j = N c j := by
  unfold d_leave
  refine z_ifc (Q := fun Z => Z.2 c j = N c j) (fun _ => tk_up_n (by omega)) fun _ => z_ifc (Q := fun Z => Z.2 c j = N c j) (fun _ => tk_up_n (by omega)) fun _ => z_ifc (Q := fun Z => Z.2 c j = N c j) (fun _ => tk_up_n (by omega)) fun _ => ?_
  show m_set _ c j = _
  rw [m_set_o (by unfold q_ms; omega)]
  unfold m_lv
  rw [tk_up_n (by omega), tk_up_n (by omega), tk_up_n (by omega)]
theorem fd_report {t pl it : Int} (h : c < 7 ∨ 31 ≤ c) : (d_report t pl it N).2 c j = N c j := by
  unfold d_report
  refine z_ifc (Q := fun Z => Z.2 c j = N c j) (fun _ => tk_up_n (by omega)) fun _ => z_ifc (Q := fun Z => Z.2 c j = N c j) (fun _ => tk_up_n (by omega)) fun _ => z_ifc (Q := fun Z => Z.2 c j = N c j) (fun _ => tk_up_n (by omega)) fun _ => z_ifc (Q := fun Z => Z.2 c j = N c j) (fun _ => rfl) fun _ => ?_
  show m_set _ c j = _
  rw [m_set_o (by unfold q_ms; omega)]
  unfold m_rep
  rw [m_rp3_o (by omega), m_rp2_o (by omega), m_rp1_o (by omega)]
theorem h_tick_f (h : c < 7 ∨ 31 ≤ c) : ∀ (n : Nat) (N : tk_M), h_tick n N c j = N c j
  | 0, N => rfl
  | n + 1, N => by
    show h_tick n (m_tick N) c j = _
    rw [h_tick_f h n]
    unfold m_tick
    rw [m_set_o (by unfold q_ms; omega), m_cs_o (by omega) _ (by omega), tk_up_n (by omega)]
theorem fd_tick {n : Int} (h : c < 7 ∨ 31 ≤ c) : (d_tick n N).2 c j = N c j := by
  unfold d_tick
  exact z_ifc (Q := fun Z => Z.2 c j = N c j) (fun _ => tk_up_n (by omega)) fun _ => z_ifc (Q := fun Z => Z.2 c j = N c j) (fun _ => tk_up_n (by omega)) fun _ => z_ifc (Q := fun Z => Z.2 c j = N c j) (fun _ => tk_up_n (by omega)) fun _ => h_tick_f h _ _
theorem fd_request {t w : Int} (h : c < 7 ∨ 31 ≤ c) : (d_request t w N).2 c j = N c j := by
  unfold d_request
  refine z_ifc (Q := fun Z => Z.2 c j = N c j) (fun _ => tk_up_n (by omega)) fun _ => z_ifc (Q := fun Z => Z.2 c j = N c j) (fun _ => tk_up_n (by omega)) fun _ => z_ifc (Q := fun Z => Z.2 c j = N c j) (fun _ => tk_up_n (by omega)) fun _ => ?_
  show m_rq N _ _ c j = _
  unfold m_rq
  split
  · exact tk_up_n (by omega)
  · rfl
theorem fd_state {k : Int} (h : c < 7 ∨ 31 ≤ c) : (d_state k N).2 c j = N c j := by
  unfold d_state
  exact z_ifc (Q := fun Z => Z.2 c j = N c j) (fun _ => tk_up_n (by omega)) fun _ => z_ifc (Q := fun Z => Z.2 c j = N c j) (fun _ => tk_up_n (by omega)) fun _ => rfl
theorem fd_train {t w : Int} (h : c < 7 ∨ 31 ≤ c) : (d_train t w N).2 c j = N c j := by
  unfold d_train
  exact z_ifc (Q := fun Z => Z.2 c j = N c j) (fun _ => tk_up_n (by omega)) fun _ => z_ifc (Q := fun Z => Z.2 c j = N c j) (fun _ => tk_up_n (by omega)) fun _ => rfl
theorem fd_count {w k : Int} (h : c < 7 ∨ 31 ≤ c) : (d_count w k N).2 c j = N c j := by
  unfold d_count
  exact z_ifc (Q := fun Z => Z.2 c j = N c j) (fun _ => tk_up_n (by omega)) fun _ => rfl
end FD
/-! the class leaves the reference's cells -/
section FC
variable {M N : tk_M} {K : Int} {c j : Nat}
theorem fc_section (h7 : 7 ≤ c) (h30 : c ≤ 30) : (c_section M).2 c j = M c j := by
  unfold c_section
  refine z_ifc (Q := fun Z => Z.2 c j = M c j) (fun _ => rfl) fun _ => z_ifc (Q := fun Z => Z.2 c j = M c j) (fun _ => rfl) fun _ => ?_
  show f_adds M c j = _
  unfold f_adds
  rw [tk_up_n (by omega), tk_up_n (by omega), tk_up_n (by omega)]
theorem fc_sub {x : Int} (h7 : 7 ≤ c) (h30 : c ≤ 30) : (c_sub x M).2 c j = M c j := by
  unfold c_sub
  refine z_ifc (Q := fun Z => Z.2 c j = M c j) (fun _ => rfl) fun _ => z_ifc (Q := fun Z => Z.2 c j = M c j) (fun _ => rfl) fun _ => z_ifc (Q := fun Z => Z.2 c j = M c j) (fun _ => rfl) fun _ => ?_
  show f_addu M x c j = _
  unfold f_addu
  rw [tk_up_n (by omega), tk_up_n (by omega), tk_up_n (by omega), tk_up_n (by omega), tk_up_n (by omega)]
theorem fc_begin {m k s : Int} (h7 : 7 ≤ c) (h30 : c ≤ 30) : (c_begin m k s M).2 c j = M c j := by
  unfold c_begin
  refine z_ifc (Q := fun Z => Z.2 c j = M c j) (fun _ => rfl) fun _ => z_ifc (Q := fun Z => Z.2 c j = M c j) (fun _ => rfl) fun _ => ?_
  show f_beg M m k s c j = _
  unfold f_beg f_fg
  rw [if_neg (by omega), tk_up_n (by omega), tk_up_n (by omega), f_emp_o (by omega) (by omega) (by omega)]
  unfold f_beg0
  rw [tk_up_n (by omega), tk_up_n (by omega), tk_up_n (by omega), tk_up_n (by omega), tk_up_n (by omega)]
theorem fc_detect {s b : Int} (hj : j_all M N K) (hK : K ≤ 9000000) (h7 : 7 ≤ c) (h30 : c ≤ 30) : (c_detect s b M).2 c j = M c j := by
  unfold c_detect
  refine z_ifc (Q := fun Z => Z.2 c j = M c j) (fun _ => rfl) fun hb => z_ifc (Q := fun Z => Z.2 c j = M c j) (fun _ => rfl) fun hr => ?_
  show f_all _ c j = _
  rw [f_all_o ((j_det hj hb (s := s.toNat) (by omega) b).an (by omega)) (by unfold q_all q_fs q_mk; omega), tk_up_n (by omega)]
theorem fc_connect {t x : Int} (hj : j_all M N K) (hK : K ≤ 9000000) (h7 : 7 ≤ c) (h30 : c ≤ 30) : (c_connect t x M).2 c j = M c j := by
  unfold c_connect
  refine z_ifc (Q := fun Z => Z.2 c j = M c j) (fun _ => rfl) fun hb => z_ifc (Q := fun Z => Z.2 c j = M c j) (fun _ => rfl) fun hr => ?_
  show f_all _ c j = _
  rw [f_all_o ((j_con hj hb (t := t.toNat) (by omega) (by omega)).an (by omega)) (by unfold q_all q_fs q_mk; omega)]
  unfold f_join
  rw [tk_up_n (by omega), tk_up_n (by omega), tk_up_n (by omega), tk_up_n (by omega)]
theorem fc_leave {t : Int} (hj : j_all M N K) (hK : K ≤ 9000000) (h7 : 7 ≤ c) (h30 : c ≤ 30) : (c_leave t M).2 c j = M c j := by
  unfold c_leave
  refine z_ifc (Q := fun Z => Z.2 c j = M c j) (fun _ => rfl) fun hb => z_ifc (Q := fun Z => Z.2 c j = M c j) (fun _ => rfl) fun hr => z_ifc (Q := fun Z => Z.2 c j = M c j) (fun _ => rfl) fun _ => ?_
  show f_all _ c j = _
  rw [f_all_o ((j_lv hj hb (t := t.toNat) (by omega)).an (by omega)) (by unfold q_all q_fs q_mk; omega), tk_up_n (by omega)]
theorem fc_report {t pl it : Int} (hj : j_all M N K) (hK : K ≤ 9000000) (h7 : 7 ≤ c) (h30 : c ≤ 30) : (c_report t pl it M).2 c j = M c j := by
  unfold c_report
  refine z_ifc (Q := fun Z => Z.2 c j = M c j) (fun _ => rfl) fun hb => z_ifc (Q := fun Z => Z.2 c j = M c j) (fun _ => rfl) fun hr => z_ifc (Q := fun Z => Z.2 c j = M c j) (fun _ => rfl) fun hc => z_ifc (Q := fun Z => Z.2 c j = M c j) (fun _ => rfl) fun hw => ?_
  show f_all _ c j = _
  rw [f_all_o ((j_rep hj hb (t := t.toNat) (by omega) (by omega) hc hw).an (by omega)) (by unfold q_all q_fs q_mk; omega)]
  unfold f_take
  rw [f_tk3_o (by omega), f_tk2_o (by omega), f_tk1_o (by omega)]
theorem g_tick_f (h7 : 7 ≤ c) (h30 : c ≤ 30) : ∀ (n : Nat) {C N : tk_M} {K : Int}, j_all C N K → 0 ≤ K → K + 2 * n < 9999990 → ¬ C 1 3 = 0 → g_tick n C c j = C c j
  | 0, C, N, K, _, _, _, _ => rfl
  | n + 1, C, N, K, h, h0, hK, hb => by
    obtain ⟨a, b, e⟩ := j_tick h h0 (by omega) hb
    show g_tick n (f_tick C) c j = _
    rw [g_tick_f h7 h30 n a (by omega) (by omega) e]
    unfold f_tick
    rw [f_all_o ((j_tk h h0 hb).an (by omega)) (by unfold q_all q_fs q_mk; omega), g_cs_o (by omega) _ (by omega), tk_up_n (by omega)]
theorem fc_tick {n : Int} (hj : j_all M N K) (h0 : 0 ≤ K) (hK : K ≤ 9000000) (h7 : 7 ≤ c) (h30 : c ≤ 30) : (c_tick n M).2 c j = M c j := by
  unfold c_tick
  exact z_ifc (Q := fun Z => Z.2 c j = M c j) (fun _ => rfl) fun hb => z_ifc (Q := fun Z => Z.2 c j = M c j) (fun _ => rfl) fun hr => z_ifc (Q := fun Z => Z.2 c j = M c j) (fun _ => rfl) fun _ => g_tick_f h7 h30 _ hj h0 (by omega) hb
theorem fc_request {t w : Int} (h7 : 7 ≤ c) (h30 : c ≤ 30) : (c_request t w M).2 c j = M c j := by
  unfold c_request
  refine z_ifc (Q := fun Z => Z.2 c j = M c j) (fun _ => rfl) fun _ => z_ifc (Q := fun Z => Z.2 c j = M c j) (fun _ => rfl) fun _ => z_ifc (Q := fun Z => Z.2 c j = M c j) (fun _ => rfl) fun _ => ?_
  show f_ext M _ _ c j = _
  unfold f_ext
  split
  · exact tk_up_n (by omega)
  · rfl
theorem fc_state {k : Int} : (c_state k M).2 c j = M c j := by
  unfold c_state
  exact z_ifc (Q := fun Z => Z.2 c j = M c j) (fun _ => rfl) fun _ => z_ifc (Q := fun Z => Z.2 c j = M c j) (fun _ => rfl) fun _ => rfl
theorem fc_train {t w : Int} : (c_train t w M).2 c j = M c j := by
  unfold c_train
  exact z_ifc (Q := fun Z => Z.2 c j = M c j) (fun _ => rfl) fun _ => z_ifc (Q := fun Z => Z.2 c j = M c j) (fun _ => rfl) fun _ => rfl
theorem fc_count {w k : Int} : (c_count w k M).2 c j = M c j := by
  unfold c_count
  exact z_ifc (Q := fun Z => Z.2 c j = M c j) (fun _ => rfl) fun _ => rfl
end FC
