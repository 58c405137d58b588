/-! SIDE BY SIDE: authorities; all found anew -/
theorem j_run {X Y : tk_M} {e : Int} : ∀ (n : Nat) (f : Int), 0 ≤ f → (∀ k : Nat, f < (k : Int) → (k : Int) ≤ e → Y 12 k = X (41 + k) 2) → m_run Y e n (f + 1) = g_run X e n f + 1
  | 0, f, _, _ => rfl
  | n + 1, f, h0, h => by
    unfold m_run g_run
    by_cases hc : f < e
    · have hk := h (f + 1).toNat (by omega) (by omega)
      rw [hk]
      by_cases hz : X (41 + (f + 1).toNat) 2 = 0
      · rw [if_pos ⟨by omega, hz⟩, if_pos ⟨hc, hz⟩]
        exact j_run n (f + 1) (by omega) (fun k h1 h2 => h k (by omega) h2)
      · rw [if_neg (fun z => hz z.2), if_neg (fun z => hz z.2)]
    · rw [if_neg (by omega), if_neg (by omega)]
def j_au (X Y : tk_M) (N : Int) : Prop := (∀ t : Nat, t < 8 → Y 26 t = X (73 + t) 12 ∧ (X (73 + t) 12 = -1 ∨ 0 ≤ X (73 + t) 12) ∧ X (73 + t) 12 < N) ∧ Y 7 7 = X 3 0 ∧ Y 7 8 = X 3 1
theorem j_au1 {X Y : tk_M} {N : Int} {n : Nat} (hn : n < 8) (h : j_au X Y N) (hN : 0 < N) (hN32 : N ≤ 32) (h9 : Y 28 n = X (73 + n) 9) (h5 : ¬ X (73 + n) 9 = 0 → Y 30 n = X (73 + n) 5 ∧ 0 ≤ X (73 + n) 5 ∧ X (73 + n) 5 < N) (hs : ∀ k : Nat, (k : Int) < N → Y 12 k = X (41 + k) 2) : j_au (if X (73 + n) 12 = -1 then X else f_so X n) (m_au Y n) N := by
  obtain ⟨a1, a2, a3⟩ := h
  obtain ⟨e1, e2, e3⟩ := a1 n hn
  by_cases hz : X (73 + n) 12 = -1
  · rw [if_pos hz]
    have em : m_au Y n = Y := by unfold m_au; rw [if_pos (by omega)]
    rw [em]
    exact ⟨a1, a2, a3⟩
  · rw [if_neg hz]
    unfold m_au f_so
    rw [if_neg (show ¬ Y 26 n < 0 by omega), h9, e1]
    by_cases hl : X (73 + n) 9 = 0
    · rw [if_pos hl, if_pos hl]
      refine ⟨fun t ht => ?_, ?_, ?_⟩
      · rw [tk_up_n (by omega), tk_up_n (M := tk_up X (73 + n) 12 (-1)) (by omega)]
        by_cases e : t = n
        · subst e
          rw [tk_up_s, tk_up_s]
          exact ⟨rfl, Or.inl rfl, by omega⟩
        · rw [tk_up_n (by omega), tk_up_n (by omega)]
          exact a1 t ht
      · rw [tk_up_n (by omega), tk_up_n (by omega), tk_up_n (by omega), tk_up_n (by omega)]
        exact a2
      · rw [tk_up_s, tk_up_s, a3]
    · obtain ⟨f1, f2, f3⟩ := h5 hl
      have hr := j_run (X := X) (Y := Y) (e := X (73 + n) 12) 40 (X (73 + n) 5) f2 (fun k h1 h2 => hs k (by omega))
      have hg := g_run_in X (X (73 + n) 12) 40 (X (73 + n) 5)
      rw [if_neg hl, if_neg hl, f1, hr]
      dsimp only
      generalize g_run X (X (73 + n) 12) 40 (X (73 + n) 5) = r at *
      rw [show r + 1 - 1 = r by omega]
      by_cases c1 : r < X (73 + n) 12
      · rw [if_pos (show r + 1 ≤ X (73 + n) 12 by omega), if_pos c1]
        by_cases c2 : r ≤ X (73 + n) 5
        · rw [if_pos c2, if_pos c2]
          refine ⟨fun t ht => ?_, ?_, ?_⟩
          · by_cases e : t = n
            · subst e
              rw [tk_up_s, tk_up_s]
              exact ⟨rfl, Or.inl rfl, by omega⟩
            · rw [tk_up_n (by omega), tk_up_n (by omega), tk_up_n (by omega), tk_up_n (by omega), tk_up_n (by omega), tk_up_n (by omega)]
              exact a1 t ht
          · rw [tk_up_n (by omega), tk_up_s, tk_up_n (by omega), tk_up_s, a2]
          · rw [tk_up_n (by omega), tk_up_n (by omega), tk_up_n (by omega), tk_up_n (by omega), tk_up_n (by omega), tk_up_n (by omega)]
            exact a3
        · rw [if_neg c2, if_neg c2]
          refine ⟨fun t ht => ?_, ?_, ?_⟩
          · rw [tk_up_n (by omega), tk_up_n (M := tk_up X (73 + n) 12 r) (by omega)]
            by_cases e : t = n
            · subst e
              rw [tk_up_s, tk_up_s]
              exact ⟨rfl, by omega, by omega⟩
            · rw [tk_up_n (by omega), tk_up_n (by omega)]
              exact a1 t ht
          · rw [tk_up_s, tk_up_s, a2]
          · rw [tk_up_n (by omega), tk_up_n (by omega), tk_up_n (by omega), tk_up_n (by omega)]
            exact a3
      · rw [if_neg (show ¬ r + 1 ≤ X (73 + n) 12 by omega), if_neg c1]
        by_cases c2 : X (73 + n) 12 ≤ X (73 + n) 5
        · rw [if_pos c2, if_pos c2]
          refine ⟨fun t ht => ?_, ?_, ?_⟩
          · by_cases e : t = n
            · subst e
              rw [tk_up_s, tk_up_s]
              exact ⟨rfl, Or.inl rfl, by omega⟩
            · rw [tk_up_n (by omega), tk_up_n (by omega)]
              exact a1 t ht
          · rw [tk_up_n (by omega), tk_up_n (by omega)]
            exact a2
          · rw [tk_up_n (by omega), tk_up_n (by omega)]
            exact a3
        · rw [if_neg c2, if_neg c2]
          exact ⟨a1, a2, a3⟩
theorem j_aus {X Y : tk_M} {N : Int} (h : j_au X Y N) (hN : 0 < N) (hN32 : N ≤ 32) (h9 : ∀ n, n < 8 → Y 28 n = X (73 + n) 9) (h5 : ∀ n, n < 8 → ¬ X (73 + n) 9 = 0 → Y 30 n = X (73 + n) 5 ∧ 0 ≤ X (73 + n) 5 ∧ X (73 + n) 5 < N) (hs : ∀ k : Nat, (k : Int) < N → Y 12 k = X (41 + k) 2) : ∀ n : Nat, n ≤ 8 → j_au (g_set X n) (m_aus Y n) N
  | 0, _ => h
  | n + 1, hn => by
    have ih := j_aus h hN hN32 h9 h5 hs n (by omega)
    have oX : ∀ c j, ¬ (c = 3 ∧ j < 2) → j ≠ 12 → g_set X n c j = X c j := fun c j h1 h2 => g_set_o h1 n (by omega)
    have oY : ∀ c j, c ≠ 7 → c ≠ 26 → m_aus Y n c j = Y c j := fun c j h1 h2 => m_aus_o (by omega) n (by omega)
    refine j_au1 (by omega) ih hN hN32 ?_ ?_ ?_
    · rw [oY _ _ (by decide) (by decide), oX _ _ (by omega) (by decide)]
      exact h9 n (by omega)
    · rw [oX _ _ (by omega) (by decide), oY _ _ (by decide) (by decide), oX _ _ (by omega) (by decide)]
      exact h5 n (by omega)
    · intro k hk
      rw [oY _ _ (by decide) (by decide), oX _ _ (by omega) (by decide)]
      exact hs k hk
theorem j_lay.eq {C D C' D' : tk_M} (h : j_lay C D) (c1 : C' 2 2 = C 2 2) (c2 : C' 2 3 = C 2 3) (c3 : C' 2 4 = C 2 4) (c4 : ∀ k, k < 32 → C' (41 + k) 0 = C (41 + k) 0 ∧ C' (41 + k) 1 = C (41 + k) 1) (c5 : ∀ s, s < 10 → C' (31 + s) 0 = C (31 + s) 0 ∧ C' (31 + s) 1 = C (31 + s) 1)
    (d1 : D' 7 1 = D 7 1) (d2 : D' 7 2 = D 7 2) (d3 : ∀ j, D' 8 j = D 8 j) (d4 : ∀ j, D' 9 j = D 9 j) (d5 : ∀ j, D' 10 j = D 10 j) : j_lay C' D' := by
  obtain ⟨l1, l2, l3, l4, l5, l6, l7, l8, l9, l10⟩ := h
  refine ⟨by rw [c1, d1]; exact l1, by rw [c2, d2]; exact l2, by rw [c1, c2]; exact l3, fun k hk => ?_, by rw [d4, c2, c3]; exact l5, by rw [d4]; exact l6, fun k hk => ?_, fun s hs => ?_, fun k s hk hs => ?_, fun h0 => ?_⟩
  · rw [c2] at hk
    rw [d3, d4, (c4 k (by omega)).1, (c4 k (by omega)).2, c1]
    exact l4 k hk
  · rw [c2] at hk
    rw [d4, d4]
    exact l7 k hk
  · rw [c1] at hs
    rw [d5, (c5 s (by omega)).1, (c5 s (by omega)).2, c2]
    exact l8 s hs
  · rw [c2] at hk
    rw [c1] at hs
    rw [(c4 k (by omega)).1, (c5 s (by omega)).1, (c5 s (by omega)).2]
    exact l9 k s hk hs
  · rw [c1] at h0
    rw [c1, c2, (c5 _ (by omega)).2]
    exact l10 h0
def q_ms (c j : Nat) : Prop := c = 11 ∨ c = 12 ∨ c = 13 ∨ c = 14 ∨ c = 15 ∨ c = 17 ∨ c = 26 ∨ c = 27 ∨ c = 28 ∨ c = 29 ∨ c = 30 ∨ (c = 7 ∧ (j = 7 ∨ j = 8))
theorem m_find_o {D : tk_M} {c j : Nat} (h : ¬ (c = 12 ∨ c = 13 ∨ c = 14 ∨ c = 15 ∨ c = 26 ∨ c = 27 ∨ c = 28 ∨ c = 29 ∨ c = 30 ∨ (c = 7 ∧ (j = 7 ∨ j = 8)))) : m_find D c j = D c j := by
  unfold m_find
  rw [m_aus_o (by omega) 8 (by omega), m_st_o (by omega), m_mk_o (by unfold q_m; omega)]
theorem m_set_o {D : tk_M} {c j : Nat} (h : ¬ q_ms c j) : m_set D c j = D c j := by
  unfold q_ms at h
  unfold m_set
  rw [m_se_o (by omega) (by omega), m_find_o (by omega)]
/-- what the reference asks, from what holds in both -/
theorem j_fi {C D : tk_M} {K : Int} (hi : p_inv C K) (hK : K ≤ 10000000) (hb : ¬ C 1 3 = 0) (hl : j_lay C D) (hp : j_pre C D) (ht : q_tm D) : q_fi D := by
  obtain ⟨l1, l2, l3, l4, l5, l6, l7, l8, l9, l10⟩ := id hl
  obtain ⟨b1, b2, b3, b4, b5⟩ := id hp
  have k5 := hi.2.2.2.2.1
  refine ⟨⟨by omega, by omega, by omega, by omega, fun k hk => ?_, ht⟩, fun k hk => (j_fd (hi.an hK hb) hl hp (by omega)).2.1, fun t h => ?_, by omega, by omega⟩
  · have := l4 k (by omega)
    omega
  · have := b5 t h
    have := (hi.2.2.2.1 t h).1
    unfold j_tr at *
    omega
/-- all found anew, side by side -/
theorem j_set {C D : tk_M} {K : Int} (hi : p_inv C K) (hK : K ≤ 10000000) (hb : ¬ C 1 3 = 0) (hl : j_lay C D) (hp : j_pre C D) : j_lay (f_all C) (m_set D) ∧ j_pre (f_all C) (m_set D) ∧ (∀ s : Nat, (s : Int) < C 2 2 → m_set D 17 s = 0 ∧ f_all C (31 + s) 4 = 0) ∧ (∀ t : Nat, t < 8 → f_all C (73 + t) 9 = f_loc (f_all C) (73 + t) (f_all C 1 7) (f_all C 1 4) ∧ f_all C (73 + t) 10 = f_who (f_all C) (73 + t) (f_all C 1 7) (f_all C 1 4) (f_all C 1 5)) := by
  have ha := hi.an hK hb
  obtain ⟨l1, l2, l3, l4, l5, l6, l7, l8, l9, l10⟩ := id hl
  obtain ⟨b1, b2, b3, b4, b5⟩ := id hp
  have o : ∀ c j, ¬ q_all c j → f_all C c j = C c j := fun c j h => f_all_o ha h
  have od : ∀ c j, ¬ q_ms c j → m_set D c j = D c j := fun c j h => m_set_o h
  have hT : p_trk (g_j C 8) := g_j_trk ha.1
  have hR : p_tr (g_j C 8) := g_j_tr ha
  have o8 := (g_mts8 hT hR).1
  have e22 : g_j C 8 2 2 = C 2 2 := g_j_o (by omega)
  have e23 : g_j C 8 2 3 = C 2 3 := g_j_o (by omega)
  have e0 : f_m0 (g_j C 8) = j_0 C := rfl
  have eF : f_fs (g_j C 8) = g_sec (g_stt (g_mts (j_0 C) 8) (C 2 3).toNat) (C 2 2).toNat := by unfold f_fs; rw [e22, e23, e0]
  rw [e0] at o8
  have eA : f_all C = g_set (f_fs (g_j C 8)) 8 := rfl
  have eM : m_find D = m_aus (m_st (m_mk D) (D 7 2).toNat) 8 := rfl
  -- the states
  have st : ∀ k : Nat, (k : Int) < C 2 3 → f_fs (g_j C 8) (41 + k) 2 = f_ns (g_mts (j_0 C) 8) k := fun k hk => by
    rw [eF, g_sec_o (by omega)]
    unfold g_stt
    rw [if_pos (by omega)]
    congr 1
    omega
  have sd : ∀ k : Nat, (k : Int) < C 2 3 → m_st (m_mk D) (D 7 2).toNat 12 k = m_fd (m_mk D) k := fun k hk => by
    unfold m_st
    rw [if_pos (by omega)]
  have x9 : ∀ t, t < 8 → f_fs (g_j C 8) (73 + t) 9 = f_loc C (73 + t) (C 1 7) (C 1 4) := fun t h => by rw [f_fs_o hT hR (by unfold q_fs q_mk; omega), g_j_9 h]
  have x10 : ∀ t, t < 8 → f_fs (g_j C 8) (73 + t) 10 = f_who C (73 + t) (C 1 7) (C 1 4) (C 1 5) := fun t h => by rw [f_fs_o hT hR (by unfold q_fs q_mk; omega), g_j_10 h]
  have xo : ∀ t j, t < 8 → j ≠ 9 → j ≠ 10 → j ≠ 11 → f_fs (g_j C 8) (73 + t) j = C (73 + t) j := fun t j h h1 h2 h3 => by rw [f_fs_o hT hR (by unfold q_fs q_mk; omega), g_j_o (by omega)]
  have au : j_au (g_set (f_fs (g_j C 8)) 8) (m_aus (m_st (m_mk D) (D 7 2).toNat) 8) (C 2 3) := by
    refine j_aus ⟨fun t h => ?_, ?_, ?_⟩ (by omega) (by omega) (fun t h => ?_) (fun t h hz => ?_) (fun k hk => ?_) 8 (by omega)
    · have := b5 t h
      unfold j_tr at this
      rw [m_st_o (by decide), m_mk_o (by unfold q_m; omega), xo t 12 h (by decide) (by decide) (by decide)]
      exact ⟨this.2.1, this.2.2.1.1, this.2.2.1.2⟩
    · rw [m_st_o (by decide), m_mk_o (by unfold q_m; omega), f_fs_o hT hR (by unfold q_fs q_mk; omega), g_j_o (by omega)]
      omega
    · rw [m_st_o (by decide), m_mk_o (by unfold q_m; omega), f_fs_o hT hR (by unfold q_fs q_mk; omega), g_j_o (by omega)]
      omega
    · rw [m_st_o (by decide), (m_mk_at h).1, x9 t h]
      exact j_loc hp h
    · rw [x9 t h] at hz
      obtain ⟨q1, q2⟩ := f_loc_ok hz
      have tr := ((b5 t h).2.2.2 q1).2.2.2 q2
      have pm := (ha.2.2.2.1 t h).1 q1 q2
      unfold p_mk at pm
      rw [m_st_o (by decide), ((m_mk_at h).2 (by rw [j_loc hp h]; exact hz)).2, xo t 5 h (by decide) (by decide) (by decide)]
      exact ⟨tr.2.2.2.1, by omega, by omega⟩
    · rw [sd k hk, st k hk]
      exact (j_fd ha hl hp hk).1.symm
  rw [← eA, ← eM] at au
  have hl' : j_lay (f_all C) (m_find D) := hl.eq (o _ _ (by unfold q_all q_fs q_mk; omega)) (o _ _ (by unfold q_all q_fs q_mk; omega)) (o _ _ (by unfold q_all q_fs q_mk; omega)) (fun k hk => ⟨o _ _ (by unfold q_all q_fs q_mk; omega), o _ _ (by unfold q_all q_fs q_mk; omega)⟩) (fun s hs => ⟨o _ _ (by unfold q_all q_fs q_mk; omega), o _ _ (by unfold q_all q_fs q_mk; omega)⟩) (m_find_o (by omega)) (m_find_o (by omega)) (fun j => m_find_o (by omega)) (fun j => m_find_o (by omega)) (fun j => m_find_o (by omega))
  have hl2 : j_lay (f_all C) (m_set D) := hl.eq (o _ _ (by unfold q_all q_fs q_mk; omega)) (o _ _ (by unfold q_all q_fs q_mk; omega)) (o _ _ (by unfold q_all q_fs q_mk; omega)) (fun k hk => ⟨o _ _ (by unfold q_all q_fs q_mk; omega), o _ _ (by unfold q_all q_fs q_mk; omega)⟩) (fun s hs => ⟨o _ _ (by unfold q_all q_fs q_mk; omega), o _ _ (by unfold q_all q_fs q_mk; omega)⟩) (od _ _ (by unfold q_ms; omega)) (od _ _ (by unfold q_ms; omega)) (fun j => od _ _ (by unfold q_ms; omega)) (fun j => od _ _ (by unfold q_ms; omega)) (fun j => od _ _ (by unfold q_ms; omega))
  have c22 : f_all C 2 2 = C 2 2 := o _ _ (by unfold q_all q_fs q_mk; omega)
  have c23 : f_all C 2 3 = C 2 3 := o _ _ (by unfold q_all q_fs q_mk; omega)
  have cs : ∀ k : Nat, (k : Int) < C 2 3 → f_all C (41 + k) 2 = f_ns (g_mts (j_0 C) 8) k := fun k hk => by rw [eA, g_set_o (by omega) 8 (by omega), st k hk]
  have ds : ∀ k : Nat, (k : Int) < C 2 3 → m_find D 12 k = m_fd (m_mk D) k := fun k hk => by rw [eM, m_aus_o (by omega) 8 (by omega), sd k hk]
  have un : ∀ s : Nat, (s : Int) < C 2 2 → m_hld (m_find D) s = f_uns (g_stt (g_mts (j_0 C) 8) (C 2 3).toNat) (31 + s) := fun s hs => by
    rw [j_uns hl' (fun k hk => by rw [c23] at hk; rw [ds k hk, cs k hk]; exact (j_fd ha hl hp hk).1.symm) (s := s) (by rw [c22]; exact hs) (by rw [m_find_o (by omega), o _ _ (by unfold q_all q_fs q_mk; omega)]; exact (b4 s hs).2.1)]
    have ef : ∀ c j, ¬ (31 ≤ c ∧ c < 41 ∧ (j = 4 ∨ j = 3)) → ¬ (c = 3 ∧ j < 2) → ¬ (73 ≤ c ∧ j = 12) → f_all C c j = g_stt (g_mts (j_0 C) 8) (C 2 3).toNat c j := fun c j h1 h2 h3 => by
      rw [eA, g_set_o h2 8 (by omega), eF, g_sec_o (by omega)]
    exact f_uns_eq (ef _ _ (by omega) (by omega) (by omega)) (ef _ _ (by omega) (by omega) (by omega)) (ef _ _ (by omega) (by omega) (by omega)) (fun i hi => ef _ _ (by omega) (by omega) (by omega))
  have due : ∀ s : Nat, (s : Int) < C 2 2 → m_set D 17 s = 0 ∧ f_all C (31 + s) 4 = 0 := fun s hs => by
    constructor
    · unfold m_set m_se
      rw [if_pos (by omega)]
    · rw [eA, g_set_o (by omega) 8 (by omega), eF]
      unfold g_sec
      rw [if_pos (by omega)]
  refine ⟨hl2, ⟨⟨?_, ?_, ?_, ?_, ?_, ?_, ?_, ?_⟩, by omega, fun k hk => ?_, fun s hs => ?_, fun t h => ?_⟩, due, fun t h => ?_⟩
  · rw [od _ _ (by unfold q_ms; omega), o _ _ (by unfold q_all q_fs q_mk; omega)]; omega
  · rw [od _ _ (by unfold q_ms; omega), o _ _ (by unfold q_all q_fs q_mk; omega)]; omega
  · rw [od _ _ (by unfold q_ms; omega), o _ _ (by unfold q_all q_fs q_mk; omega)]; omega
  · rw [od _ _ (by unfold q_ms; omega), o _ _ (by unfold q_all q_fs q_mk; omega)]; omega
  · unfold m_set
    rw [m_se_o (by omega) (by omega)]
    exact au.2.1
  · unfold m_set
    rw [m_se_o (by omega) (by omega)]
    exact au.2.2
  · rw [od _ _ (by unfold q_ms; omega), o _ _ (by unfold q_all q_fs q_mk; omega)]; omega
  · rw [od _ _ (by unfold q_ms; omega), o _ _ (by unfold q_all q_fs q_mk; omega)]; omega
  · rw [c23] at hk
    obtain ⟨f1, f2, f3, f4, f5⟩ := j_fd ha hl hp hk
    have e14 : m_set D 14 k = m_mk D 14 k := by
      unfold m_set
      rw [m_se_o (by omega) (by omega), eM, m_aus_o (by omega) 8 (by omega), m_st_o (by decide)]
    have e12 : m_set D 12 k = m_fd (m_mk D) k := by
      unfold m_set
      rw [m_se_o (by omega) (by omega), ds k hk]
    have e4 : f_all C (41 + k) 4 = g_mts (j_0 C) 8 (41 + k) 4 := by rw [eA, g_set_o (by omega) 8 (by omega), eF, g_sec_o (by omega), g_stt_o (by omega)]
    rw [e12, e14, cs k hk, e4]
    exact ⟨f1.symm, f4, f5, f2.2.2.1, f2.2.2.2.1, f3⟩
  · rw [c22] at hs
    have e16 : m_set D 16 s = D 16 s := od _ _ (by unfold q_ms; omega)
    have e2 : f_all C (31 + s) 2 = C (31 + s) 2 := o _ _ (by unfold q_all q_fs q_mk; omega)
    rw [e16, e2, (due s hs).1, (due s hs).2]
    refine ⟨?_, (b4 s hs).2.1, rfl⟩
    rw [eA, g_set_o (by omega) 8 (by omega), eF]
    unfold m_set m_se g_sec
    rw [if_neg (by omega), un s hs]
    by_cases hz : f_uns (g_stt (g_mts (j_0 C) 8) (C 2 3).toNat) (31 + s) = 0
    · rw [if_pos ⟨rfl, by omega, hz⟩, if_pos ⟨by omega, by omega, Or.inr ⟨rfl, hz⟩⟩]
    · rw [if_neg (fun z => hz z.2.2), if_neg (fun z => by omega), g_stt_o (by omega), o8 _ _ (by unfold q_mk; omega), m_find_o (by omega), g_j_o (by omega)]
      exact (b4 s hs).1
  · obtain ⟨t1, t2, t3, t4⟩ := b5 t h
    have em : ∀ j, j ≠ 9 → j ≠ 10 → j ≠ 11 → j ≠ 12 → f_all C (73 + t) j = C (73 + t) j := fun j h1 h2 h3 h4 => o _ _ (by unfold q_all q_fs q_mk; omega)
    have ed : ∀ c, 18 ≤ c → c < 26 → m_set D c t = D c t := fun c h1 h2 => od _ _ (by unfold q_ms; omega)
    have ea : m_a (m_set D) t = m_a D t := by
      unfold m_a
      rw [ed 23 (by omega) (by omega), m_at_eq (od _ _ (by unfold q_ms; omega)) (fun k => od _ _ (by unfold q_ms; omega))]
    have ez : m_z (m_set D) t = m_z D t := by
      unfold m_z
      rw [ed 22 (by omega) (by omega), m_at_eq (od _ _ (by unfold q_ms; omega)) (fun k => od _ _ (by unfold q_ms; omega))]
    have a26 : m_set D 26 t = m_find D 26 t := by
      unfold m_set
      rw [m_se_o (by omega) (by omega)]
    unfold j_tr
    rw [ed 18 (by omega) (by omega), ed 19 (by omega) (by omega), ed 20 (by omega) (by omega), ed 21 (by omega) (by omega), ed 22 (by omega) (by omega), ed 23 (by omega) (by omega), ed 24 (by omega) (by omega), ed 25 (by omega) (by omega), ea, ez, a26, c23,
      em 0 (by decide) (by decide) (by decide) (by decide), em 1 (by decide) (by decide) (by decide) (by decide), em 2 (by decide) (by decide) (by decide) (by decide), em 3 (by decide) (by decide) (by decide) (by decide), em 4 (by decide) (by decide) (by decide) (by decide), em 5 (by decide) (by decide) (by decide) (by decide), em 6 (by decide) (by decide) (by decide) (by decide), em 7 (by decide) (by decide) (by decide) (by decide), em 8 (by decide) (by decide) (by decide) (by decide)]
    have a := au.1 t h
    exact ⟨t1, a.1, a.2, t4⟩
  · have em : ∀ j, j ≠ 9 → j ≠ 10 → j ≠ 11 → j ≠ 12 → f_all C (73 + t) j = C (73 + t) j := fun j h1 h2 h3 h4 => o _ _ (by unfold q_all q_fs q_mk; omega)
    have e9 : f_all C (73 + t) 9 = f_loc C (73 + t) (C 1 7) (C 1 4) := by rw [eA, g_set_o (by omega) 8 (by omega), x9 t h]
    have e10 : f_all C (73 + t) 10 = f_who C (73 + t) (C 1 7) (C 1 4) (C 1 5) := by rw [eA, g_set_o (by omega) 8 (by omega), x10 t h]
    rw [e9, e10, o 1 7 (by unfold q_all q_fs q_mk; omega), o 1 4 (by unfold q_all q_fs q_mk; omega), o 1 5 (by unfold q_all q_fs q_mk; omega)]
    unfold f_loc f_who
    rw [em 0 (by decide) (by decide) (by decide) (by decide), em 2 (by decide) (by decide) (by decide) (by decide), em 3 (by decide) (by decide) (by decide) (by decide), em 7 (by decide) (by decide) (by decide) (by decide), em 8 (by decide) (by decide) (by decide) (by decide)]
    exact ⟨rfl, rfl⟩
