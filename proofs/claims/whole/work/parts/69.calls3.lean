/-! SIDE BY SIDE: detect; calls that change a train; ticks; requests -/
/-- ready to find all anew -/
def j_one (C D : tk_M) (K : Int) : Prop := p_inv C K ∧ j_lay C D ∧ j_pre C D ∧ q_tm D ∧ D 7 11 = C 1 3 ∧ ¬ C 1 3 = 0 ∧ ∀ s : Nat, C 2 2 ≤ (s : Int) → s < 10 → D 17 s = 0 ∧ C (31 + s) 4 = 0
theorem j_one.an {C D : tk_M} {K : Int} (h : j_one C D K) (hK : K ≤ 10000000) : p_an C := h.1.an hK h.2.2.2.2.2.1
theorem j_one.fi {C D : tk_M} {K : Int} (h : j_one C D K) (hK : K ≤ 10000000) : q_fi D := j_fi h.1 hK h.2.2.2.2.2.1 h.2.1 h.2.2.1 h.2.2.2.1
theorem j_one.set {C D : tk_M} {K : Int} (h : j_one C D K) (h0 : 0 ≤ K) (hK : K ≤ 10000000) : j_all (f_all C) (m_set D) (K + 1) := s_set h.1 h0 hK h.2.2.2.2.2.1 h.2.1 h.2.2.1 h.2.2.2.1 h.2.2.2.2.1 h.2.2.2.2.2.2
theorem j_one.of {C D : tk_M} {K : Int} (h : j_all C D K) (hb : ¬ C 1 3 = 0) : j_one C D K := by
  obtain ⟨h1, h2, h3, h4, h5, h6, h7⟩ := h
  exact ⟨h1, h2, (h6 hb).1, h5, h3, hb, fun s _ hs => h4 s hs⟩
theorem j_det {C N : tk_M} {K : Int} (h : j_all C N K) (hb : ¬ C 1 3 = 0) {s : Nat} (hs : (s : Int) < C 2 2) (b : Int) : j_one (tk_up C (31 + s) 2 b) (tk_up N 16 s b) K := by
  obtain ⟨h1, h2, ⟨p1, p2, p3, p4, p5⟩, h4, h5, h6, h7⟩ := j_one.of h hb
  have hS := h1.1.2.1
  have u : ∀ c j, ¬ (c = 31 + s ∧ j = 2) → tk_up C (31 + s) 2 b c j = C c j := fun c j g => tk_up_n g
  have us : tk_up C (31 + s) 2 b (31 + s) 2 = b := tk_up_s _ _ _ _
  have d : ∀ c j, ¬ (c = 16 ∧ j = s) → tk_up N 16 s b c j = N c j := fun c j g => tk_up_n g
  have ds : tk_up N 16 s b 16 s = b := tk_up_s _ _ _ _
  generalize tk_up C (31 + s) 2 b = C' at *
  generalize tk_up N 16 s b = N' at *
  have e22 := u 2 2 (by omega)
  have e23 := u 2 3 (by omega)
  have e13 := u 1 3 (by omega)
  obtain ⟨a1, a2, a3, a4, ⟨k1, k2, k3, k4, k5, k6, k7, k8⟩, a6⟩ := h1
  refine ⟨⟨p_trk_eq e22 e23 (fun i hi => u _ _ (by omega)) (fun i hi => u _ _ (by omega)) a1, fun i hi => ?_, fun i hi => ?_, fun t ht => ?_, ⟨by rw [u _ _ (by omega)]; exact k1, by rw [u _ _ (by omega)]; exact k2, by rw [u _ _ (by omega)]; exact k3, by rw [u _ _ (by omega)]; exact k4, by rw [u _ _ (by omega)]; exact k5, fun i hi => by rw [u _ _ (by omega)]; exact k6 i hi, by rw [u _ _ (by omega)]; exact k7, by rw [u _ _ (by omega), e23]; exact k8⟩, fun hb => ⟨by rw [e13] at hb; have := (a6 hb).1; omega, fun t ht hc hr => ?_⟩⟩, h2.eq e22 e23 (u _ _ (by omega)) (fun i hi => ⟨u _ _ (by omega), u _ _ (by omega)⟩) (fun i hi => ⟨u _ _ (by omega), u _ _ (by omega)⟩) (d _ _ (by omega)) (d _ _ (by omega)) (fun j => d _ _ (by omega)) (fun j => d _ _ (by omega)) (fun j => d _ _ (by omega)), ⟨?_, by omega, fun k hk => ?_, fun i hi => ?_, fun t ht => ?_⟩, ⟨by rw [d _ _ (by omega)]; exact h4.1, fun t ht => by rw [d _ _ (by omega), d _ _ (by omega)]; exact h4.2 t ht⟩, by rw [d _ _ (by omega), e13]; exact h5, by rw [e13]; exact h6, fun i hi h10 => ?_⟩
  · rw [u _ _ (by omega)]; exact a2 i hi
  · rw [e22] at hi
    rw [u _ 0 (by omega), u _ 1 (by omega)]; exact a3 i hi
  · rw [u _ 12 (by omega), u _ 3 (by omega), u _ 8 (by omega), u _ 1 (by omega)]; exact a4 t ht
  · rw [e13] at hb
    rw [u _ 0 (by omega)] at hc
    rw [u _ 2 (by omega)] at hr
    have := (a6 hb).2 t ht hc hr
    unfold p_mk at this ⊢
    rw [u _ 6 (by omega), u _ 5 (by omega), e23]
    exact this
  · rw [d 7 3 (by omega), d 7 4 (by omega), d 7 5 (by omega), d 7 6 (by omega), d 7 7 (by omega), d 7 8 (by omega), d 7 9 (by omega), d 7 10 (by omega), u 1 7 (by omega), u 1 4 (by omega), u 1 5 (by omega), u 1 6 (by omega), u 3 0 (by omega), u 3 1 (by omega), u 2 5 (by omega), u 2 4 (by omega)]
    exact p1
  · rw [e23] at hk
    rw [d _ _ (by omega), d _ _ (by omega), u _ 2 (by omega), u _ 4 (by omega)]; exact p3 k hk
  · rw [e22] at hi
    have q := p4 i hi
    rw [d 11 i (by omega), d 17 i (by omega), u _ 3 (by omega), u _ 4 (by omega)]
    by_cases e : i = s
    · subst e
      rw [us, ds]; exact ⟨q.1, rfl, q.2.2⟩
    · rw [d _ _ (by omega), u _ _ (by omega)]; exact q
  · have q := p5 t ht
    have ea : m_a N' t = m_a N t := by
      unfold m_a
      rw [d 23 t (by omega), m_at_eq (d _ _ (by omega)) (fun k => d _ _ (by omega))]
    have ez : m_z N' t = m_z N t := by
      unfold m_z
      rw [d 22 t (by omega), m_at_eq (d _ _ (by omega)) (fun k => d _ _ (by omega))]
    unfold j_tr at q ⊢
    rw [ea, ez, d 18 t (by omega), d 19 t (by omega), d 20 t (by omega), d 21 t (by omega), d 22 t (by omega), d 23 t (by omega), d 24 t (by omega), d 25 t (by omega), d 26 t (by omega), e23, u (73 + t) 0 (by omega), u (73 + t) 1 (by omega), u (73 + t) 2 (by omega), u (73 + t) 3 (by omega), u (73 + t) 4 (by omega), u (73 + t) 5 (by omega), u (73 + t) 6 (by omega), u (73 + t) 7 (by omega), u (73 + t) 8 (by omega), u (73 + t) 12 (by omega)]
    exact q
  · rw [e22] at hi
    rw [d _ _ (by omega), u _ _ (by omega)]; exact h7 i hi h10
/-- one train changed in both -/
theorem j_one.tr {C N C' N' : tk_M} {K : Int} (h : j_one C N K) {t : Nat} (ht : t < 8) (u : ∀ c j, c ≠ 73 + t → C' c j = C c j) (d : ∀ c j, ¬ (18 ≤ c ∧ c ≤ 25 ∧ j = t) → N' c j = N c j) (hj : j_tr C' N' t) (hq : 0 ≤ N' 24 t ∧ 0 ≤ N' 25 t) (ha : C' (73 + t) 12 < 32 ∧ 0 ≤ C' (73 + t) 3 ∧ 0 ≤ C' (73 + t) 8 ∧ 0 ≤ C' (73 + t) 1) (hm : ¬ C' (73 + t) 0 = 0 → ¬ C' (73 + t) 2 = 0 → p_mk C' t) : j_one C' N' K := by
  obtain ⟨h1, h2, ⟨p1, p2, p3, p4, p5⟩, h4, h5, h6, h7⟩ := h
  have e22 := u 2 2 (by omega)
  have e23 := u 2 3 (by omega)
  have e13 := u 1 3 (by omega)
  obtain ⟨a1, a2, a3, a4, ⟨k1, k2, k3, k4, k5, k6, k7, k8⟩, a6⟩ := h1
  have s10 := a1.2.1
  have s32 := a1.2.2.2.1
  refine ⟨⟨p_trk_eq e22 e23 (fun i hi => u _ _ (by omega)) (fun i hi => u _ _ (by omega)) a1, fun i hi => ?_, fun i hi => ?_, fun i hi => ?_, ⟨by rw [u _ _ (by omega)]; exact k1, by rw [u _ _ (by omega)]; exact k2, by rw [u _ _ (by omega)]; exact k3, by rw [u _ _ (by omega)]; exact k4, by rw [u _ _ (by omega)]; exact k5, fun i hi => by rw [u _ _ (by omega)]; exact k6 i hi, by rw [u _ _ (by omega)]; exact k7, by rw [u _ _ (by omega), e23]; exact k8⟩, fun hb => ⟨by rw [e13] at hb; have := (a6 hb).1; omega, fun i hi hc hr => ?_⟩⟩, h2.eq e22 e23 (u _ _ (by omega)) (fun i hi => ⟨u _ _ (by omega), u _ _ (by omega)⟩) (fun i hi => ⟨u _ _ (by omega), u _ _ (by omega)⟩) (d _ _ (by omega)) (d _ _ (by omega)) (fun j => d _ _ (by omega)) (fun j => d _ _ (by omega)) (fun j => d _ _ (by omega)), ⟨?_, by omega, fun k hk => ?_, fun i hi => ?_, fun i hi => ?_⟩, ⟨by rw [d _ _ (by omega)]; exact h4.1, fun i hi => ?_⟩, by rw [d _ _ (by omega), e13]; exact h5, by rw [e13]; exact h6, fun i hi h10 => ?_⟩
  · rw [u _ _ (by omega)]; exact a2 i hi
  · rw [e22] at hi
    rw [u _ 0 (by omega), u _ 1 (by omega)]; exact a3 i hi
  · by_cases e : i = t
    · subst e; exact ha
    · rw [u _ 12 (by omega), u _ 3 (by omega), u _ 8 (by omega), u _ 1 (by omega)]; exact a4 i hi
  · by_cases e : i = t
    · subst e; exact hm hc hr
    · rw [e13] at hb
      rw [u _ 0 (by omega)] at hc
      rw [u _ 2 (by omega)] at hr
      have := (a6 hb).2 i hi hc hr
      unfold p_mk at this ⊢
      rw [u _ 6 (by omega), u _ 5 (by omega), e23]
      exact this
  · rw [d 7 3 (by omega), d 7 4 (by omega), d 7 5 (by omega), d 7 6 (by omega), d 7 7 (by omega), d 7 8 (by omega), d 7 9 (by omega), d 7 10 (by omega), u 1 7 (by omega), u 1 4 (by omega), u 1 5 (by omega), u 1 6 (by omega), u 3 0 (by omega), u 3 1 (by omega), u 2 5 (by omega), u 2 4 (by omega)]
    exact p1
  · rw [e23] at hk
    rw [d _ _ (by omega), d _ _ (by omega), u _ 2 (by omega), u _ 4 (by omega)]; exact p3 k hk
  · rw [e22] at hi
    rw [d 11 i (by omega), d 17 i (by omega), d 16 i (by omega), u _ 3 (by omega), u _ 4 (by omega), u _ 2 (by omega)]; exact p4 i hi
  · by_cases e : i = t
    · subst e; exact hj
    · have q := p5 i hi
      have ea : m_a N' i = m_a N i := by
        unfold m_a
        rw [d 23 i (by omega), m_at_eq (d _ _ (by omega)) (fun k => d _ _ (by omega))]
      have ez : m_z N' i = m_z N i := by
        unfold m_z
        rw [d 22 i (by omega), m_at_eq (d _ _ (by omega)) (fun k => d _ _ (by omega))]
      unfold j_tr at q ⊢
      rw [ea, ez, d 18 i (by omega), d 19 i (by omega), d 20 i (by omega), d 21 i (by omega), d 22 i (by omega), d 23 i (by omega), d 24 i (by omega), d 25 i (by omega), d 26 i (by omega), e23, u (73 + i) 0 (by omega), u (73 + i) 1 (by omega), u (73 + i) 2 (by omega), u (73 + i) 3 (by omega), u (73 + i) 4 (by omega), u (73 + i) 5 (by omega), u (73 + i) 6 (by omega), u (73 + i) 7 (by omega), u (73 + i) 8 (by omega), u (73 + i) 12 (by omega)]
      exact q
  · by_cases e : i = t
    · subst e; exact hq
    · rw [d _ _ (by omega), d _ _ (by omega)]; exact h4.2 i hi
  · rw [e22] at hi
    rw [d _ _ (by omega), u _ _ (by omega)]; exact h7 i hi h10
theorem j_con {C N : tk_M} {K : Int} (h : j_all C N K) (hb : ¬ C 1 3 = 0) {t : Nat} (ht : t < 8) {x : Int} (hx : 1 ≤ x) : j_one (f_join C t x) (m_con N t x) K := by
  have h1 := j_one.of h hb
  obtain ⟨q1, q2, q3, q4⟩ := h1.2.2.1.2.2.2.2 t ht
  have a := h1.1.2.2.2.1 t ht
  have qt := h1.2.2.2.1.2 t ht
  have u : ∀ c j, c ≠ 73 + t → f_join C t x c j = C c j := fun c j g => by unfold f_join; rw [tk_up_n (by omega), tk_up_n (by omega), tk_up_n (by omega), tk_up_n (by omega)]
  have uo : ∀ j, j ≠ 0 → j ≠ 1 → j ≠ 2 → j ≠ 7 → f_join C t x (73 + t) j = C (73 + t) j := fun j g1 g2 g3 g4 => by unfold f_join; rw [tk_up_n (by omega), tk_up_n (by omega), tk_up_n (by omega), tk_up_n (by omega)]
  have u0 : f_join C t x (73 + t) 0 = 1 := by unfold f_join; rw [tk_up_n (by omega), tk_up_n (by omega), tk_up_n (by omega), tk_up_s]
  have u1 : f_join C t x (73 + t) 1 = x := by unfold f_join; rw [tk_up_n (by omega), tk_up_n (by omega), tk_up_s]
  have u2 : f_join C t x (73 + t) 2 = 0 := by unfold f_join; rw [tk_up_n (by omega), tk_up_s]
  have u7 : f_join C t x (73 + t) 7 = 0 := by unfold f_join; rw [tk_up_s]
  have d : ∀ c j, ¬ (18 ≤ c ∧ c ≤ 21 ∧ j = t) → m_con N t x c j = N c j := fun c j g => by unfold m_con; rw [tk_up_n (by omega), tk_up_n (by omega), tk_up_n (by omega), tk_up_n (by omega)]
  have d18 : m_con N t x 18 t = 1 := by unfold m_con; rw [tk_up_n (by omega), tk_up_n (by omega), tk_up_n (by omega), tk_up_s]
  have d19 : m_con N t x 19 t = 0 := by unfold m_con; rw [tk_up_n (by omega), tk_up_n (by omega), tk_up_s]
  have d20 : m_con N t x 20 t = 0 := by unfold m_con; rw [tk_up_n (by omega), tk_up_s]
  have d21 : m_con N t x 21 t = x := by unfold m_con; rw [tk_up_s]
  refine h1.tr ht u (fun c j g => d c j (by omega)) ?_ ?_ ?_ ?_
  · refine ⟨by rw [d18, u0], ?_, ?_, fun _ => ⟨by rw [d19, u2], by rw [d20, u7], ⟨by rw [d21, u1], fun g => absurd u7 g⟩, fun g => absurd u2 g⟩⟩
    · rw [d _ _ (by omega), uo _ (by decide) (by decide) (by decide) (by decide)]; exact q2
    · rw [uo _ (by decide) (by decide) (by decide) (by decide), u 2 3 (by omega)]; exact q3
  · rw [d _ _ (by omega), d _ _ (by omega)]; exact qt
  · rw [uo _ (by decide) (by decide) (by decide) (by decide), uo _ (by decide) (by decide) (by decide) (by decide), uo _ (by decide) (by decide) (by decide) (by decide), u1]
    exact ⟨a.1, a.2.1, a.2.2.1, by omega⟩
  · exact fun _ g => absurd u2 g
theorem j_lv {C N : tk_M} {K : Int} (h : j_all C N K) (hb : ¬ C 1 3 = 0) {t : Nat} (ht : t < 8) : j_one (tk_up C (73 + t) 0 0) (m_lv N t) K := by
  have h1 := j_one.of h hb
  obtain ⟨q1, q2, q3, q4⟩ := h1.2.2.1.2.2.2.2 t ht
  have a := h1.1.2.2.2.1 t ht
  have qt := h1.2.2.2.1.2 t ht
  have d : ∀ c j, ¬ (18 ≤ c ∧ c ≤ 20 ∧ j = t) → m_lv N t c j = N c j := fun c j g => by unfold m_lv; rw [tk_up_n (by omega), tk_up_n (by omega), tk_up_n (by omega)]
  have d18 : m_lv N t 18 t = 0 := by unfold m_lv; rw [tk_up_n (by omega), tk_up_n (by omega), tk_up_s]
  refine h1.tr ht (fun c j g => tk_up_n (by omega)) (fun c j g => d c j (by omega)) ?_ ?_ ?_ ?_
  · refine ⟨by rw [d18, tk_up_s], ?_, ?_, fun g => absurd (tk_up_s _ _ _ _) g⟩
    · rw [d _ _ (by omega), tk_up_n (by omega)]; exact q2
    · rw [tk_up_n (by omega), tk_up_n (by omega)]; exact q3
  · rw [d _ _ (by omega), d _ _ (by omega)]; exact qt
  · rw [tk_up_n (by omega), tk_up_n (by omega), tk_up_n (by omega), tk_up_n (by omega)]
    exact a
  · exact fun g => absurd (tk_up_s _ _ _ _) g
theorem s_detect {C N : tk_M} {K : Int} (h : j_all C N K) (hK0 : 0 ≤ K) (hK : K ≤ 9000000) (h0 : N 7 0 = 0) (s b : Int) : s_ok cd_4 (c_detect s b C) (d_detect s b N) (K + 2002) := by
  obtain ⟨h1, h2, h3, h4, h5, h6, h7⟩ := id h
  unfold c_detect d_detect
  rw [h3, h2.1]
  by_cases c1 : C 1 3 = 0
  · rw [if_pos c1, if_pos c1]; exact s_ok.thr h (by omega) rfl (by decide) _
  · rw [if_neg c1, if_neg c1]
    by_cases c2 : ¬ (0 ≤ s ∧ s ≤ C 2 2 - 1)
    · rw [if_pos c2, if_pos c2]; exact s_ok.thr h (by omega) rfl (by decide) _
    · rw [if_neg c2, if_neg c2]
      exact s_ok.ret ((j_det h c1 (s := s.toNat) (by omega) b).set hK0 (by omega)) (by omega) (by rw [m_set_0, tk_up_n (by omega)]; exact h0) _
theorem s_connect {C N : tk_M} {K : Int} (h : j_all C N K) (hK0 : 0 ≤ K) (hK : K ≤ 9000000) (h0 : N 7 0 = 0) (t x : Int) : s_ok cd_4 (c_connect t x C) (d_connect t x N) (K + 2002) := by
  obtain ⟨h1, h2, h3, h4, h5, h6, h7⟩ := id h
  unfold c_connect d_connect
  rw [h3]
  by_cases c1 : C 1 3 = 0
  · rw [if_pos c1, if_pos c1]; exact s_ok.thr h (by omega) rfl (by decide) _
  · rw [if_neg c1, if_neg c1]
    by_cases c2 : ¬ (0 ≤ t ∧ t ≤ 7) ∨ ¬ (1 ≤ x ∧ x ≤ 100000)
    · rw [if_pos c2, if_pos c2]; exact s_ok.thr h (by omega) rfl (by decide) _
    · rw [if_neg c2, if_neg c2]
      exact s_ok.ret ((j_con h c1 (t := t.toNat) (by omega) (by omega)).set hK0 (by omega)) (by omega) (by rw [m_set_0]; unfold m_con; rw [tk_up_n (by omega), tk_up_n (by omega), tk_up_n (by omega), tk_up_n (by omega)]; exact h0) _
theorem s_leave {C N : tk_M} {K : Int} (h : j_all C N K) (hK0 : 0 ≤ K) (hK : K ≤ 9000000) (h0 : N 7 0 = 0) (t : Int) : s_ok cd_4 (c_leave t C) (d_leave t N) (K + 2002) := by
  obtain ⟨h1, h2, h3, h4, h5, h6, h7⟩ := id h
  unfold c_leave d_leave
  rw [h3]
  by_cases c1 : C 1 3 = 0
  · rw [if_pos c1, if_pos c1]; exact s_ok.thr h (by omega) rfl (by decide) _
  · rw [if_neg c1, if_neg c1]
    by_cases c2 : ¬ (0 ≤ t ∧ t ≤ 7)
    · rw [if_pos c2, if_pos c2]; exact s_ok.thr h (by omega) rfl (by decide) _
    · rw [if_neg c2, if_neg c2, ((h6 c1).1.2.2.2.2 t.toNat (by omega)).1]
      by_cases c3 : C (73 + t.toNat) 0 = 0
      · rw [if_pos c3, if_pos c3]; exact s_ok.thr h (by omega) rfl (by decide) _
      · rw [if_neg c3, if_neg c3]
        exact s_ok.ret ((j_lv h c1 (t := t.toNat) (by omega)).set hK0 (by omega)) (by omega) (by rw [m_set_0]; unfold m_lv; rw [tk_up_n (by omega), tk_up_n (by omega), tk_up_n (by omega)]; exact h0) _
