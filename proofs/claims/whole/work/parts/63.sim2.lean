/-! SIDE BY SIDE: the marking of trains -/
def j_mk (C : tk_M) (n : Nat) (X Y : tk_M) : Prop := (∀ k : Nat, (k : Int) < C 2 3 → rc n (Y 14 k) (X (41 + k) 3) (X (41 + k) 4) (C (41 + k) 4)) ∧ ∀ s : Nat, (s : Int) < C 2 2 → Y 27 s = X (31 + s) 5
theorem j_inn {C X Y : tk_M} {n a : Nat} (hn : n < 8) (hN : C 2 3 ≤ 32) (hS : C 2 2 ≤ 10) (hs : ∀ k : Nat, (k : Int) < C 2 3 → Y 8 k = X (41 + k) 0 ∧ 0 ≤ X (41 + k) 0 ∧ X (41 + k) 0 < C 2 2) (h0 : j_mk C n X Y) : ∀ i : Nat, ((a + i : Nat) : Int) ≤ C 2 3 →
    (∀ k : Nat, (k : Int) < C 2 3 → rc (if a ≤ k ∧ k < a + i then n + 1 else n) (m_inn Y n a i 14 k) (g_mk X (n : Int) a i (41 + k) 3) (g_mk X (n : Int) a i (41 + k) 4) (C (41 + k) 4)) ∧ ∀ s : Nat, (s : Int) < C 2 2 → m_inn Y n a i 27 s = g_mk X (n : Int) a i (31 + s) 5
  | 0, _ => by
    refine ⟨fun k hk => ?_, fun s h => h0.2 s h⟩
    rw [if_neg (by omega)]
    exact h0.1 k hk
  | i + 1, hi => by
    obtain ⟨r1, r2⟩ := j_inn (a := a) hn hN hS hs h0 i (by omega)
    obtain ⟨s1, s2, s3⟩ := hs (a + i) (by omega)
    have eX : g_mk X (n : Int) a (i + 1) = tk_up (tk_up (tk_up (g_mk X (n : Int) a i) (41 + (a + i)) 3 (g_mk X (n : Int) a i (41 + (a + i)) 3 + 1)) (41 + (a + i)) 4 (n : Int)) (31 + (X (41 + (a + i)) 0).toNat) 5 1 := rfl
    have eY : m_inn Y n a (i + 1) = tk_up (tk_up (m_inn Y n a i) 14 (a + i) (m_or (m_inn Y n a i 14 (a + i)) n)) 27 (Y 8 (a + i)).toNat 1 := rfl
    rw [eX, eY, s1]
    generalize g_mk X (n : Int) a i = G at *
    generalize m_inn Y n a i = H at *
    refine ⟨fun k hk => ?_, fun s h => ?_⟩
    · rw [tk_up_n (by omega), tk_up_n (M := tk_up (tk_up G (41 + (a + i)) 3 _) (41 + (a + i)) 4 _) (by omega), tk_up_n (M := tk_up (tk_up G (41 + (a + i)) 3 _) (41 + (a + i)) 4 _) (by omega)]
      have q := r1 k hk
      by_cases e : k = a + i
      · subst e
        rw [if_neg (by omega)] at q
        rw [if_pos (by omega), tk_up_s, tk_up_n (by omega), tk_up_s, tk_up_s]
        exact q.step hn
      · rw [tk_up_n (by omega), tk_up_n (M := tk_up G (41 + (a + i)) 3 _) (by omega), tk_up_n (M := G) (by omega), tk_up_n (M := tk_up G (41 + (a + i)) 3 _) (by omega), tk_up_n (M := G) (by omega)]
        by_cases e2 : a ≤ k ∧ k < a + i
        · rw [if_pos e2] at q
          rw [if_pos (by omega)]
          exact q
        · rw [if_neg e2] at q
          rw [if_neg (by omega)]
          exact q
    · by_cases e : s = (X (41 + (a + i)) 0).toNat
      · subst e
        rw [tk_up_s, tk_up_s]
      · rw [tk_up_n (by omega), tk_up_n (by omega), tk_up_n (by omega), tk_up_n (M := tk_up G (41 + (a + i)) 3 _) (by omega), tk_up_n (M := G) (by omega)]
        exact r2 s h
theorem j_step {C X Y : tk_M} {n : Nat} (hn : n < 8) (hN : C 2 3 ≤ 32) (hS : C 2 2 ≤ 10) (h23 : X 2 3 = C 2 3) (h72 : Y 7 2 = C 2 3) (hs : ∀ k : Nat, (k : Int) < C 2 3 → Y 8 k = X (41 + k) 0 ∧ 0 ≤ X (41 + k) 0 ∧ X (41 + k) 0 < C 2 2)
    (hl : ¬ m_loc Y n = 0) (ha : (m_a Y n : Int) = X (73 + n) 6) (hz : (m_z Y n : Int) = X (73 + n) 5) (hp : p_mk X n) (h0 : j_mk C n X Y) : j_mk C (n + 1) (f_mk X n) (m_tr Y n) := by
  obtain ⟨p1, p2, p3⟩ := hp
  have h0' : j_mk C n (tk_up X (73 + n) 11 (f_occ X n)) (m_t0 Y n) := by
    refine ⟨fun k hk => ?_, fun s h => ?_⟩
    · rw [m_t0_o (by decide) (by decide) (by decide), tk_up_n (by omega), tk_up_n (by omega)]
      exact h0.1 k hk
    · rw [m_t0_o (by decide) (by decide) (by decide), tk_up_n (by omega)]
      exact h0.2 s h
  have hs' : ∀ k : Nat, (k : Int) < C 2 3 → m_t0 Y n 8 k = tk_up X (73 + n) 11 (f_occ X n) (41 + k) 0 ∧ 0 ≤ tk_up X (73 + n) 11 (f_occ X n) (41 + k) 0 ∧ tk_up X (73 + n) 11 (f_occ X n) (41 + k) 0 < C 2 2 := fun k hk => by
    rw [m_t0_o (by decide) (by decide) (by decide), tk_up_n (by omega)]
    exact hs k hk
  have hi := j_inn hn hN hS hs' h0' (a := m_a Y n) (m_z Y n + 1 - m_a Y n) (by omega)
  have ea : (X (73 + n) 6).toNat = m_a Y n := by omega
  have ez : (X (73 + n) 5).toNat = m_z Y n := by omega
  have ez1 : (X (73 + n) 5 + 1).toNat = m_z Y n + 1 := by omega
  have em : m_tr Y n = if (m_z Y n : Int) + 1 < Y 7 2 ∧ ¬ Y 8 (m_z Y n + 1) = Y 8 (m_z Y n) then tk_up (m_inn (m_t0 Y n) n (m_a Y n) (m_z Y n + 1 - m_a Y n)) 27 (Y 8 (m_z Y n + 1)).toNat 1
    else m_inn (m_t0 Y n) n (m_a Y n) (m_z Y n + 1 - m_a Y n) := by unfold m_tr; rw [if_neg hl]
  have ef : f_mk X n = if X (73 + n) 5 + 1 < X 2 3 then tk_up (g_mk (tk_up X (73 + n) 11 (f_occ X n)) (n : Int) (m_a Y n) (m_z Y n + 1 - m_a Y n)) (31 + (X (41 + (m_z Y n + 1)) 0).toNat) 5 1 else g_mk (tk_up X (73 + n) 11 (f_occ X n)) (n : Int) (m_a Y n) (m_z Y n + 1 - m_a Y n) := by
    unfold f_mk
    rw [ea, ez, ez1]
  have hone : g_mk (tk_up X (73 + n) 11 (f_occ X n)) (n : Int) (m_a Y n) (m_z Y n + 1 - m_a Y n) (31 + (X (41 + m_z Y n) 0).toNat) 5 = 1 := by
    obtain ⟨i, ei⟩ : ∃ i, m_z Y n + 1 - m_a Y n = i + 1 := ⟨m_z Y n - m_a Y n, by omega⟩
    rw [ei]
    unfold g_mk
    rw [show m_a Y n + i = m_z Y n by omega, tk_up_n (M := X) (by omega), tk_up_s]
  have fin : j_mk C (n + 1) (g_mk (tk_up X (73 + n) 11 (f_occ X n)) (n : Int) (m_a Y n) (m_z Y n + 1 - m_a Y n)) (m_inn (m_t0 Y n) n (m_a Y n) (m_z Y n + 1 - m_a Y n)) := by
    refine ⟨fun k hk => ?_, hi.2⟩
    have q := hi.1 k hk
    by_cases e2 : m_a Y n ≤ k ∧ k < m_a Y n + (m_z Y n + 1 - m_a Y n)
    · rw [if_pos e2] at q
      exact q
    · rw [if_neg e2] at q
      exact q.mono hn
  rw [em, ef]
  generalize g_mk (tk_up X (73 + n) 11 (f_occ X n)) (n : Int) (m_a Y n) (m_z Y n + 1 - m_a Y n) = G at *
  generalize m_inn (m_t0 Y n) n (m_a Y n) (m_z Y n + 1 - m_a Y n) = H at *
  clear hi
  by_cases h1 : X (73 + n) 5 + 1 < X 2 3
  · rw [if_pos h1]
    obtain ⟨s1, s2, s3⟩ := hs (m_z Y n + 1) (by omega)
    obtain ⟨s4, s5, s6⟩ := hs (m_z Y n) (by omega)
    have hX : ∀ k j, tk_up G (31 + (X (41 + (m_z Y n + 1)) 0).toNat) 5 1 (41 + k) j = G (41 + k) j := fun k j => tk_up_n (by omega)
    by_cases h2 : Y 8 (m_z Y n + 1) = Y 8 (m_z Y n)
    · rw [if_neg (by omega)]
      refine ⟨fun k hk => by rw [hX, hX]; exact fin.1 k hk, fun s h => ?_⟩
      by_cases e : s = (X (41 + (m_z Y n + 1)) 0).toNat
      · subst e
        rw [tk_up_s, fin.2 _ h, ← s1, h2, s4]
        exact hone
      · rw [tk_up_n (by omega)]
        exact fin.2 s h
    · rw [if_pos ⟨by omega, h2⟩]
      refine ⟨fun k hk => by rw [hX, hX, tk_up_n (by omega)]; exact fin.1 k hk, fun s h => ?_⟩
      rw [s1]
      by_cases e : s = (X (41 + (m_z Y n + 1)) 0).toNat
      · subst e
        rw [tk_up_s, tk_up_s]
      · rw [tk_up_n (by omega), tk_up_n (by omega)]
        exact fin.2 s h
  · rw [if_neg h1, if_neg (by omega)]
    exact fin
/-- a train that isn't located marks nothing -/
theorem j_skip {C X Y : tk_M} {n : Nat} (hn : n < 8) (hl : m_loc Y n = 0) (h0 : j_mk C n X Y) : j_mk C (n + 1) X (m_tr Y n) := by
  have em : m_tr Y n = tk_up Y 28 n (m_loc Y n) := by unfold m_tr; rw [if_pos hl]
  rw [em]
  refine ⟨fun k hk => ?_, fun s h => ?_⟩
  · rw [tk_up_n (by omega)]
    exact (h0.1 k hk).mono hn
  · rw [tk_up_n (by omega)]
    exact h0.2 s h
/-- what finding anew begins with, in both -/
def j_0 (C : tk_M) : tk_M := f_m0 (g_j C 8)
def j_n (D : tk_M) : tk_M := m_f2 (m_f1 D (D 7 2).toNat) (D 7 1).toNat
theorem j_0_o {C : tk_M} {c j : Nat} (h : ¬ (31 ≤ c ∧ c < 73 ∧ (j = 5 ∨ j = 3))) (h2 : ¬ (73 ≤ c ∧ c < 81 ∧ (j = 9 ∨ j = 10))) (h22 : C 2 2 ≤ 10) (h23 : C 2 3 ≤ 32) : j_0 C c j = C c j := by
  unfold j_0
  have e22 : g_j C 8 2 2 = C 2 2 := g_j_o (by omega)
  have e23 : g_j C 8 2 3 = C 2 3 := g_j_o (by omega)
  rw [f_m0_o (by rw [e22]; omega) (by rw [e23]; omega), g_j_o (by omega)]
theorem j_n_o {D : tk_M} {c j : Nat} (h : q_m c) : j_n D c j = D c j := by
  unfold q_m at h
  unfold j_n
  rw [m_f2_o (by omega), m_f1_o (by omega)]
theorem j_base {C D : tk_M} (hl : j_lay C D) : j_mk C 0 (j_0 C) (j_n D) := by
  obtain ⟨l1, l2, l3, l4, l5, l6, l7, l8, l9, l10⟩ := hl
  have e22 : g_j C 8 2 2 = C 2 2 := g_j_o (by omega)
  have e23 : g_j C 8 2 3 = C 2 3 := g_j_o (by omega)
  refine ⟨fun k hk => ?_, fun s h => ?_⟩
  · have e1 : j_n D 14 k = 0 := by
      unfold j_n m_f2 m_f1
      rw [if_neg (by omega), if_pos (by omega), if_neg (by omega), if_neg (by omega), if_pos rfl]
    have e2 : j_0 C (41 + k) 3 = 0 := by
      unfold j_0 f_m0
      rw [e22, e23, tk_st_o (by omega), tk_st_i (by omega) (by omega)]
    have e3 : j_0 C (41 + k) 4 = C (41 + k) 4 := j_0_o (by omega) (by omega) (by omega) (by omega)
    rw [e1, e2, e3]
    exact ⟨by decide, by decide, m_pc_0, by decide, fun h => absurd h (by decide), fun _ => rfl⟩
  · have e1 : j_n D 27 s = 0 := by
      unfold j_n m_f2
      rw [if_pos (by omega)]
    have e2 : j_0 C (31 + s) 5 = 0 := by
      unfold j_0 f_m0
      rw [e22, e23, tk_st_i (by omega) (by omega)]
    rw [e1, e2]
theorem j_marks {C D : tk_M} (ha : p_an C) (hl : j_lay C D) (hp : j_pre C D) : ∀ n : Nat, n ≤ 8 → j_mk C n (g_mts (j_0 C) n) (m_trs (j_n D) n)
  | 0, _ => j_base hl
  | n + 1, hn => by
    have ih := j_marks ha hl hp n (by omega)
    obtain ⟨l1, l2, l3, l4, l5, l6, l7, l8, l9, l10⟩ := id hl
    have hT : p_trk (g_j C 8) := g_j_trk ha.1
    have hR : p_tr (g_j C 8) := g_j_tr ha
    obtain ⟨a1, a2, a3, a4⟩ := g_mts_inv (f_m0_trk hT) (f_m0_3 hT) (f_m0_tr hT hR) n (by omega)
    have oX : ∀ c j, ¬ q_mk c j → ¬ (31 ≤ c ∧ c < 73 ∧ (j = 5 ∨ j = 3)) → ¬ (73 ≤ c ∧ c < 81 ∧ (j = 9 ∨ j = 10)) → g_mts (j_0 C) n c j = C c j := fun c j h1 h2 h3 => by
      have := a1 c j h1
      unfold j_0
      rw [this]
      exact j_0_o h2 h3 (by omega) (by omega)
    have oY : ∀ c j, q_m c → m_trs (j_n D) n c j = D c j := fun c j h => by
      have h' := h
      unfold q_m at h'
      rw [m_trs_o (by omega), j_n_o h]
    have e9 : g_mts (j_0 C) n (73 + n) 9 = f_loc C (73 + n) (C 1 7) (C 1 4) := by
      have := a1 (73 + n) 9 (by unfold q_mk; omega)
      unfold j_0
      rw [this, f_m0_o (by omega) (by omega), g_j_9 (by omega)]
    have eL : m_loc (m_trs (j_n D) n) n = m_loc D n := m_f_loc oY
    have eJ := j_loc hp (show n < 8 by omega)
    show j_mk C (n + 1) (if g_mts (j_0 C) n (73 + n) 9 = 0 then g_mts (j_0 C) n else f_mk (g_mts (j_0 C) n) n) (m_tr (m_trs (j_n D) n) n)
    rw [e9]
    by_cases hz : f_loc C (73 + n) (C 1 7) (C 1 4) = 0
    · rw [if_pos hz]
      exact j_skip (by omega) (by rw [eL, eJ]; exact hz) ih
    · rw [if_neg hz]
      have hfl : ¬ C (73 + n) 0 = 0 ∧ ¬ C (73 + n) 2 = 0 := by
        unfold f_loc at hz
        split at hz
        · rename_i hc; exact ⟨hc.1, hc.2.1⟩
        · exact absurd rfl hz
      have ht := ((hp.2.2.2.2 n (by omega)).2.2.2 hfl.1).2.2.2 hfl.2
      have pm : p_mk (g_mts (j_0 C) n) n := a3 n (by omega) (by rw [show g_mts (f_m0 (g_j C 8)) n (73 + n) 9 = g_mts (j_0 C) n (73 + n) 9 from rfl, e9]; exact hz)
      refine j_step (by omega) (by omega) (by omega) (oX 2 3 (by unfold q_mk; omega) (by omega) (by omega)) (by rw [oY 7 2 (by unfold q_m; omega)]; exact l2) (fun k hk => ?_) (by rw [eL, eJ]; exact hz) ?_ ?_ pm ih
      · rw [oY 8 k (by unfold q_m; omega), oX (41 + k) 0 (by unfold q_mk; omega) (by omega) (by omega)]
        have := l4 k hk
        exact ⟨this.1, this.2.1, this.2.2.1⟩
      · rw [m_f_a oY, oX (73 + n) 6 (by unfold q_mk; omega) (by omega) (by omega)]
        exact ht.2.2.1
      · rw [m_f_z oY, oX (73 + n) 5 (by unfold q_mk; omega) (by omega) (by omega)]
        exact ht.2.2.2.1
