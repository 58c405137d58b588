/-! SIDE BY SIDE: what holds between calls -/
def j_idle (D : tk_M) : Prop := D 7 3 = 0 ∧ D 7 7 = 0 ∧ D 7 8 = 0 ∧ D 7 9 = 0 ∧ ∀ s : Nat, s < 10 → D 11 s = 0 ∧ D 16 s = 0
def j_fr (C : tk_M) : Prop := ∀ t : Nat, t < 8 → C (73 + t) 9 = f_loc C (73 + t) (C 1 7) (C 1 4) ∧ C (73 + t) 10 = f_who C (73 + t) (C 1 7) (C 1 4) (C 1 5) ∧ (C (73 + t) 12 = -1 ∨ ¬ C (73 + t) 9 = 0)
def j_all (C D : tk_M) (K : Int) : Prop := p_inv C K ∧ j_lay C D ∧ D 7 11 = C 1 3 ∧ (∀ s : Nat, s < 10 → D 17 s = 0 ∧ C (31 + s) 4 = 0) ∧ q_tm D ∧ (¬ C 1 3 = 0 → j_pre C D ∧ j_fr C) ∧ (C 1 3 = 0 → j_idle D)
def k_c (c : Nat) : Prop := (1 ≤ c ∧ c < 7) ∨ 31 ≤ c
def k_d (c j : Nat) : Prop := 7 ≤ c ∧ c ≤ 30 ∧ ¬ (c = 7 ∧ j = 0)
theorem p_inv.mono {C : tk_M} {K K' : Int} (h : p_inv C K) (hK : K ≤ K') : p_inv C K' := by
  obtain ⟨h1, h2, h3, h4, ⟨k1, k2, k3, k4, k5, k6, k7, k8⟩, h6⟩ := h
  exact ⟨h1, h2, h3, h4, ⟨k1, by omega, by omega, by omega, by omega, fun i hi => by have := k6 i hi; omega, k7, k8⟩, h6⟩
theorem p_inv.eq {C C' : tk_M} {K : Int} (h : p_inv C K) (o : ∀ c j, k_c c → C' c j = C c j) : p_inv C' K := by
  obtain ⟨h1, h2, h3, h4, ⟨k1, k2, k3, k4, k5, k6, k7, k8⟩, h6⟩ := h
  have e22 := o 2 2 (by unfold k_c; omega)
  have e23 := o 2 3 (by unfold k_c; omega)
  have e24 := o 2 4 (by unfold k_c; omega)
  have e25 := o 2 5 (by unfold k_c; omega)
  have e13 := o 1 3 (by unfold k_c; omega)
  have e17 := o 1 7 (by unfold k_c; omega)
  have e30 := o 3 0 (by unfold k_c; omega)
  have e31 := o 3 1 (by unfold k_c; omega)
  refine ⟨p_trk_eq e22 e23 (fun i hi => o _ _ (by unfold k_c; omega)) (fun i hi => o _ _ (by unfold k_c; omega)) h1, fun i hi => ?_, fun i hi => ?_, fun t ht => ?_, ⟨by omega, by omega, by omega, by omega, by omega, fun i hi => ?_, by omega, by omega⟩, fun hb => ⟨?_, fun t ht hc hr => ?_⟩⟩
  · rw [o _ _ (by unfold k_c; omega)]; exact h2 i hi
  · rw [e22] at hi
    rw [o _ 0 (by unfold k_c; omega), o _ 1 (by unfold k_c; omega)]
    exact h3 i hi
  · rw [o _ 12 (by unfold k_c; omega), o _ 3 (by unfold k_c; omega), o _ 8 (by unfold k_c; omega), o _ 1 (by unfold k_c; omega)]
    exact h4 t ht
  · rw [o _ _ (by unfold k_c; omega)]; exact k6 i hi
  · rw [e13] at hb
    have := (h6 hb).1
    omega
  · rw [e13] at hb
    rw [o _ 0 (by unfold k_c; omega)] at hc
    rw [o _ 2 (by unfold k_c; omega)] at hr
    have := (h6 hb).2 t ht hc hr
    unfold p_mk at this ⊢
    rw [o _ 6 (by unfold k_c; omega), o _ 5 (by unfold k_c; omega), e23]
    exact this
theorem j_lay.eq2 {C D C' D' : tk_M} (h : j_lay C D) (o : ∀ c j, k_c c → C' c j = C c j) (d : ∀ c j, k_d c j → D' c j = D c j) : j_lay C' D' :=
  h.eq (o _ _ (by unfold k_c; omega)) (o _ _ (by unfold k_c; omega)) (o _ _ (by unfold k_c; omega)) (fun k hk => ⟨o _ _ (by unfold k_c; omega), o _ _ (by unfold k_c; omega)⟩) (fun s hs => ⟨o _ _ (by unfold k_c; omega), o _ _ (by unfold k_c; omega)⟩) (d _ _ (by unfold k_d; omega)) (d _ _ (by unfold k_d; omega)) (fun j => d _ _ (by unfold k_d; omega)) (fun j => d _ _ (by unfold k_d; omega)) (fun j => d _ _ (by unfold k_d; omega))
theorem j_tr.eq2 {C D C' D' : tk_M} {t : Nat} (h : j_tr C D t) (o : ∀ c j, k_c c → C' c j = C c j) (d : ∀ c j, k_d c j → D' c j = D c j) : j_tr C' D' t := by
  have ec : ∀ j, C' (73 + t) j = C (73 + t) j := fun j => o _ _ (by unfold k_c; omega)
  have ed : ∀ c, 18 ≤ c → c ≤ 26 → D' c t = D c t := fun c h1 h2 => d _ _ (by unfold k_d; omega)
  have ea : m_a D' t = m_a D t := by
    unfold m_a
    rw [ed 23 (by omega) (by omega), m_at_eq (d _ _ (by unfold k_d; omega)) (fun k => d _ _ (by unfold k_d; omega))]
  have ez : m_z D' t = m_z D t := by
    unfold m_z
    rw [ed 22 (by omega) (by omega), m_at_eq (d _ _ (by unfold k_d; omega)) (fun k => d _ _ (by unfold k_d; omega))]
  unfold j_tr
  rw [ec, ec, ec, ec, ec, ec, ec, ec, ec, ec, o 2 3 (by unfold k_c; omega), ed 18 (by omega) (by omega), ed 19 (by omega) (by omega), ed 20 (by omega) (by omega), ed 21 (by omega) (by omega), ed 22 (by omega) (by omega), ed 23 (by omega) (by omega), ed 24 (by omega) (by omega), ed 25 (by omega) (by omega), ed 26 (by omega) (by omega), ea, ez]
  exact h
theorem j_pre.eq2 {C D C' D' : tk_M} (h : j_pre C D) (hN : C 2 3 ≤ 32) (hS : C 2 2 ≤ 10) (o : ∀ c j, k_c c → C' c j = C c j) (d : ∀ c j, k_d c j → D' c j = D c j) : j_pre C' D' := by
  obtain ⟨a, b, c, e, f⟩ := h
  have e22 := o 2 2 (by unfold k_c; omega)
  have e23 := o 2 3 (by unfold k_c; omega)
  refine ⟨?_, by omega, fun k hk => ?_, fun s hs => ?_, fun t ht => (f t ht).eq2 o d⟩
  · rw [d 7 3 (by unfold k_d; omega), d 7 4 (by unfold k_d; omega), d 7 5 (by unfold k_d; omega), d 7 6 (by unfold k_d; omega), d 7 7 (by unfold k_d; omega), d 7 8 (by unfold k_d; omega), d 7 9 (by unfold k_d; omega), d 7 10 (by unfold k_d; omega), o 1 7 (by unfold k_c; omega), o 1 4 (by unfold k_c; omega), o 1 5 (by unfold k_c; omega), o 1 6 (by unfold k_c; omega), o 3 0 (by unfold k_c; omega), o 3 1 (by unfold k_c; omega), o 2 5 (by unfold k_c; omega), o 2 4 (by unfold k_c; omega)]
    exact a
  · rw [e23] at hk
    rw [d 12 k (by unfold k_d; omega), d 14 k (by unfold k_d; omega), o (41 + k) 2 (by unfold k_c; omega), o (41 + k) 4 (by unfold k_c; omega)]
    exact c k hk
  · rw [e22] at hs
    rw [d 11 s (by unfold k_d; omega), d 16 s (by unfold k_d; omega), d 17 s (by unfold k_d; omega), o (31 + s) 3 (by unfold k_c; omega), o (31 + s) 2 (by unfold k_c; omega), o (31 + s) 4 (by unfold k_c; omega)]
    exact e s hs
theorem j_fr.eq2 {C C' : tk_M} (h : j_fr C) (o : ∀ c j, k_c c → C' c j = C c j) : j_fr C' := by
  intro t ht
  have ec : ∀ j, C' (73 + t) j = C (73 + t) j := fun j => o _ _ (by unfold k_c; omega)
  unfold f_loc f_who
  rw [ec, ec, ec, ec, ec, ec, ec, ec, o 1 7 (by unfold k_c; omega), o 1 4 (by unfold k_c; omega), o 1 5 (by unfold k_c; omega)]
  exact h t ht
theorem q_tm.eq2 {D D' : tk_M} (h : q_tm D) (d : ∀ c j, k_d c j → D' c j = D c j) : q_tm D' :=
  ⟨by rw [d _ _ (by unfold k_d; omega)]; exact h.1, fun t ht => by rw [d _ _ (by unfold k_d; omega), d _ _ (by unfold k_d; omega)]; exact h.2 t ht⟩
theorem j_all.eq {C D C' D' : tk_M} {K : Int} (h : j_all C D K) (o : ∀ c j, k_c c → C' c j = C c j) (d : ∀ c j, k_d c j → D' c j = D c j) : j_all C' D' K := by
  obtain ⟨h1, h2, h3, h4, h5, h6, h7⟩ := h
  have e13 := o 1 3 (by unfold k_c; omega)
  refine ⟨h1.eq o, h2.eq2 o d, by rw [d _ _ (by unfold k_d; omega), e13]; exact h3, fun s hs => ?_, h5.eq2 d, fun hb => ?_, fun hb => ?_⟩
  · rw [d _ _ (by unfold k_d; omega), o _ _ (by unfold k_c; omega)]; exact h4 s hs
  · rw [e13] at hb
    exact ⟨(h6 hb).1.eq2 h1.1.2.2.2.1 h1.1.2.1 o d, (h6 hb).2.eq2 o⟩
  · rw [e13] at hb
    obtain ⟨i1, i2, i3, i4, i5⟩ := h7 hb
    exact ⟨by rw [d _ _ (by unfold k_d; omega)]; exact i1, by rw [d _ _ (by unfold k_d; omega)]; exact i2, by rw [d _ _ (by unfold k_d; omega)]; exact i3, by rw [d _ _ (by unfold k_d; omega)]; exact i4, fun s hs => by rw [d _ _ (by unfold k_d; omega), d _ _ (by unfold k_d; omega)]; exact i5 s hs⟩
theorem j_all.mono {C D : tk_M} {K K' : Int} (h : j_all C D K) (hK : K ≤ K') : j_all C D K' := ⟨h.1.mono hK, h.2⟩
theorem f_so_e {M : tk_M} {t : Nat} : f_so M t (73 + t) 12 = -1 ∨ ¬ M (73 + t) 9 = 0 := by
  by_cases h : M (73 + t) 9 = 0
  · left
    unfold f_so
    rw [if_pos h, tk_up_n (by omega), tk_up_s]
  · exact Or.inr h
theorem g_set_e {M : tk_M} : ∀ n t : Nat, t < n → g_set M n (73 + t) 12 = -1 ∨ ¬ M (73 + t) 9 = 0
  | 0, t, h => absurd h (Nat.not_lt_zero _)
  | n + 1, t, h => by
    unfold g_set
    by_cases e : t = n
    · subst e
      split
      · rename_i hz; exact Or.inl hz
      · have := f_so_e (M := g_set M t) (t := t)
        rw [g_set_o (c := 73 + t) (j := 9) (by omega) t (by omega)] at this
        exact this
    · have ih := g_set_e (M := M) n t (by omega)
      split
      · exact ih
      · rw [f_so_o (by omega) (by omega)]; exact ih
theorem f_all_e {C : tk_M} {t : Nat} (ht : t < 8) : f_all C (73 + t) 12 = -1 ∨ ¬ f_all C (73 + t) 9 = 0 := by
  unfold f_all
  rw [g_set_o (c := 73 + t) (j := 9) (by omega) 8 (by omega)]
  exact g_set_e 8 t ht
/-- all found anew, from what is the same in both -/
theorem s_set {C D : tk_M} {K : Int} (hi : p_inv C K) (h0 : 0 ≤ K) (hK : K ≤ 10000000) (hb : ¬ C 1 3 = 0) (hl : j_lay C D) (hp : j_pre C D) (ht : q_tm D) (h11 : D 7 11 = C 1 3) (hd : ∀ s : Nat, C 2 2 ≤ (s : Int) → s < 10 → D 17 s = 0 ∧ C (31 + s) 4 = 0) : j_all (f_all C) (m_set D) (K + 1) := by
  have ha := hi.an hK hb
  obtain ⟨r1, r2, r3, r4⟩ := j_set hi hK hb hl hp
  have e13 : f_all C 1 3 = C 1 3 := f_all_o ha (by unfold q_all q_fs q_mk; omega)
  refine ⟨hi.all hK h0 hb, r1, ?_, fun s hs => ?_, ?_, fun _ => ⟨r2, fun t h => ⟨(r4 t h).1, (r4 t h).2, f_all_e h⟩⟩, fun hz => ?_⟩
  · rw [m_set_o (by unfold q_ms; omega), e13]; exact h11
  · by_cases hc : (s : Int) < C 2 2
    · exact r3 s hc
    · have l2 := hl.1
      have c2 := ha.1.1
      have h4 := hd s (by omega) hs
      constructor
      · unfold m_set
        rw [m_se_o (by omega) (by omega), m_find_o (by omega)]
        exact h4.1
      · have e22 : g_j C 8 2 2 = C 2 2 := g_j_o (by omega)
        unfold f_all f_fs g_sec
        rw [g_set_o (by omega) 8 (by omega), e22]
        rw [if_neg (by omega), g_stt_o (by omega), (g_mts8 (g_j_trk ha.1) (g_j_tr ha)).1 _ _ (by unfold q_mk; omega), g_j_o (by omega)]
        exact h4.2
  · exact ⟨by rw [m_set_o (by unfold q_ms; omega)]; exact ht.1, fun t h => by rw [m_set_o (by unfold q_ms; omega), m_set_o (by unfold q_ms; omega)]; exact ht.2 t h⟩
  · rw [e13] at hz
    exact absurd hz hb
/-- a call in both: the exception's number, or the answer; and what holds then -/
def s_ok (cd : Nat → Int) (Z W : tk_Z) (K : Int) : Prop := (match Z.1 with
  | .inr e => W.2 7 0 = cd e ∧ ¬ cd e = 0
  | .inl v => W.2 7 0 = 0 ∧ W.1 = .inl v) ∧ j_all Z.2 W.2 K
theorem s_ok.thr {cd : Nat → Int} {C N : tk_M} {K K' : Int} (h : j_all C N K) (hK : K ≤ K') {e : Nat} {x : Int} (hx : cd e = x) (h0 : ¬ x = 0) (w : Option Int ⊕ Nat) : s_ok cd (.inr e, C) (w, tk_up N 7 0 x) K' :=
  ⟨⟨by show tk_up N 7 0 x 7 0 = cd e; rw [tk_up_s, hx], by rw [hx]; exact h0⟩, (h.mono hK).eq (fun _ _ _ => rfl) (fun c j hc => by unfold k_d at hc; exact tk_up_n (by omega))⟩
theorem s_ok.ret {cd : Nat → Int} {C D : tk_M} {K K' : Int} (h : j_all C D K) (hK : K ≤ K') (h0 : D 7 0 = 0) (v : Option Int) : s_ok cd (.inl v, C) (.inl v, D) K' := ⟨⟨h0, rfl⟩, h.mono hK⟩
def cd_1 (e : Nat) : Int := match e with
  | 0 => 1
  | 2 => 2
  | _ => 9
def cd_2 (e : Nat) : Int := match e with
  | 0 => 2
  | 1 => 1
  | 2 => 3
  | _ => 9
def cd_3 (e : Nat) : Int := match e with
  | 0 => 2
  | 1 => 1
  | _ => 9
def cd_4 (e : Nat) : Int := match e with
  | 0 => 1
  | 1 => 2
  | 3 => 3
  | _ => 9
def cd_5 (e : Nat) : Int := match e with
  | 0 => 1
  | 1 => 2
  | 2 => 3
  | _ => 9
def cd_6 (e : Nat) : Int := match e with
  | 1 => 1
  | _ => 9
theorem m_set_0 {D : tk_M} : m_set D 7 0 = D 7 0 := m_set_o (by unfold q_ms; omega)
/-- the latest section is bare, in both -/
theorem j_bare {C D : tk_M} (hl : j_lay C D) : f_wait D = f_bare C := by
  obtain ⟨l1, l2, l3, l4, l5, l6, l7, l8, l9, l10⟩ := hl
  unfold f_wait f_bare
  rw [l1, l2]
  by_cases h : 0 < C 2 2
  · have h8 := l8 (C 2 2 - 1).toNat (by omega)
    rw [h8.1, l10 h]
    by_cases h2 : C (31 + (C 2 2 - 1).toNat) 0 = C 2 3
    · rw [if_pos ⟨h, h2⟩, if_pos ⟨h, by omega⟩]
    · rw [if_neg (by omega), if_neg (by omega)]
  · rw [if_neg (by omega), if_neg (by omega)]
theorem s_state {C N : tk_M} {K : Int} (h : j_all C N K) (h0 : N 7 0 = 0) (k : Int) : s_ok cd_4 (c_state k C) (d_state k N) (K + 2002) := by
  obtain ⟨h1, h2, h3, h4, h5, h6, h7⟩ := id h
  obtain ⟨l1, l2, -⟩ := id h2
  unfold c_state d_state
  rw [h3, l2]
  by_cases c1 : C 1 3 = 0
  · rw [if_pos c1, if_pos c1]; exact s_ok.thr h (by omega) rfl (by decide) _
  · rw [if_neg c1, if_neg c1]
    by_cases c2 : 0 ≤ k ∧ k ≤ C 2 3 - 1
    · rw [if_neg (by omega), if_neg (by omega), ((h6 c1).1.2.2.1 k.toNat (by omega)).1]
      exact s_ok.ret h (by omega) h0 _
    · rw [if_pos c2, if_pos c2]; exact s_ok.thr h (by omega) rfl (by decide) _
theorem s_train {C N : tk_M} {K : Int} (h : j_all C N K) (h0 : N 7 0 = 0) (t w : Int) : s_ok cd_4 (c_train t w C) (d_train t w N) (K + 2002) := by
  obtain ⟨h1, h2, h3, h4, h5, h6, h7⟩ := id h
  unfold c_train d_train
  rw [h3]
  by_cases c1 : C 1 3 = 0
  · rw [if_pos c1, if_pos c1]; exact s_ok.thr h (by omega) rfl (by decide) _
  · rw [if_neg c1, if_neg c1]
    by_cases c2 : ¬ (0 ≤ t ∧ t ≤ 7) ∨ ¬ (0 ≤ w ∧ w ≤ 5)
    · rw [if_pos c2, if_pos c2]; exact s_ok.thr h (by omega) rfl (by decide) _
    · rw [if_neg c2, if_neg c2]
      obtain ⟨u, rfl⟩ : ∃ u : Nat, t = (u : Int) := ⟨t.toNat, by omega⟩
      rw [Int.toNat_natCast]
      obtain ⟨hp, hf⟩ := h6 c1
      have e1 := j_loc hp (t := u) (by omega)
      have e2 := j_who hp (t := u) (by omega)
      obtain ⟨f1, f2, -⟩ := hf u (by omega)
      obtain ⟨t1, t2, t3, t4⟩ := hp.2.2.2.2 u (by omega)
      have ev : m_tell N u w = f_tell C (73 + u) w := by
        unfold m_tell f_tell
        rw [e1, e2, t1, t2, ← f1, ← f2]
        by_cases hz : C (73 + u) 9 = 0
        · simp only [hz, if_true]
          (repeat' split) <;> first | rfl | omega
        · have hz' := hz
          rw [f1] at hz'
          obtain ⟨q1, q2⟩ := f_loc_ok hz'
          have tr := (t4 q1).2.2.2 q2
          rw [tr.2.2.1, tr.2.2.2.1]
          simp only [hz, if_false]
      rw [ev]
      exact s_ok.ret h (by omega) h0 _
theorem s_count {C N : tk_M} {K : Int} (h : j_all C N K) (h0 : N 7 0 = 0) (w k : Int) : s_ok cd_6 (c_count w k C) (d_count w k N) (K + 2002) := by
  obtain ⟨h1, h2, h3, h4, h5, h6, h7⟩ := id h
  obtain ⟨l1, l2, l3, -⟩ := id h2
  unfold c_count d_count
  rw [l1]
  by_cases c2 : ¬ (0 ≤ w ∧ w ≤ 7) ∨ (6 ≤ w ∧ ¬ (0 ≤ k ∧ k ≤ C 2 2 - 1))
  · rw [if_pos c2, if_pos (by omega)]; exact s_ok.thr h (by omega) rfl (by decide) _
  · rw [if_neg c2, if_neg (show ¬ (¬ (0 ≤ w ∧ w ≤ 7) ∨ (5 < w ∧ ¬ (0 ≤ k ∧ k ≤ C 2 2 - 1))) by omega)]
    have ev : m_cnt N w k = if w = 0 then C 2 2 else if w = 1 then C 2 3 else if C 1 3 = 0 then 0 else f_csb C w k := by
      unfold m_cnt f_csb
      rw [l1, l2]
      by_cases c1 : C 1 3 = 0
      · obtain ⟨i1, i2, i3, i4, i5⟩ := h7 c1
        rw [i1, i2, i3, i4, if_pos c1]
        by_cases w6 : 6 ≤ w
        · rw [(i5 k.toNat (by omega)).1, (i5 k.toNat (by omega)).2]
          unfold f_b
          (repeat' split) <;> first | rfl | omega
        · (repeat' split) <;> first | rfl | omega
      · obtain ⟨⟨a1, a2, a3, a4, a5, a6, a7, a8⟩, -, -, b4, -⟩ := (h6 c1).1
        rw [a1, a5, a6, a7, if_neg c1]
        by_cases w6 : 6 ≤ w
        · rw [(b4 k.toNat (by omega)).1, (b4 k.toNat (by omega)).2.1]
        · (repeat' split) <;> first | rfl | omega
    rw [ev]
    exact s_ok.ret h (by omega) h0 _
