/-! SIDE BY SIDE: clear, begin; calls that change a train -/
theorem m_reset_o {M : tk_M} {c j : Nat} (h : ¬ (c = 7 ∧ (j = 3 ∨ j = 7 ∨ j = 8 ∨ j = 9)) ∧ ¬ (c = 11 ∨ c = 12 ∨ c = 14 ∨ c = 16 ∨ c = 18 ∨ c = 19 ∨ c = 20 ∨ c = 26)) : m_reset M c j = M c j := by
  unfold m_reset m_r3 m_r2 m_r1 m_r0
  rw [if_neg (by omega), if_neg (by omega), if_neg (by omega), if_neg (by omega), tk_up_n (by omega), tk_up_n (by omega), tk_up_n (by omega), tk_up_n (by omega)]
theorem m_reset_3 {M : tk_M} {c j : Nat} (h : (c = 18 ∨ c = 19 ∨ c = 20) ∧ j < 8) : m_reset M c j = 0 := by
  unfold m_reset m_r3
  rw [if_pos h]
theorem m_reset_e {M : tk_M} {j : Nat} (h : j < 8) : m_reset M 26 j = -1 := by
  unfold m_reset m_r3
  rw [if_neg (by omega), if_pos ⟨rfl, h⟩]
theorem m_reset_2 {M : tk_M} {c j : Nat} (h : (c = 16 ∨ c = 11) ∧ j < 10) : m_reset M c j = 0 := by
  unfold m_reset m_r3 m_r2
  rw [if_neg (by omega), if_neg (by omega), if_pos h]
theorem m_reset_1 {M : tk_M} {c j : Nat} (h : (c = 12 ∨ c = 14) ∧ j < 32) : m_reset M c j = 0 := by
  unfold m_reset m_r3 m_r2 m_r1
  rw [if_neg (by omega), if_neg (by omega), if_neg (by omega), if_pos h]
theorem m_reset_0 {M : tk_M} {j : Nat} (h : j = 3 ∨ j = 7 ∨ j = 8 ∨ j = 9) : m_reset M 7 j = 0 := by
  unfold m_reset m_r3 m_r2 m_r1 m_r0
  rw [if_neg (by omega), if_neg (by omega), if_neg (by omega), if_neg (by omega)]
  rcases h with rfl | rfl | rfl | rfl
  · rw [tk_up_n (by omega), tk_up_n (by omega), tk_up_n (by omega), tk_up_s]
  · rw [tk_up_n (by omega), tk_up_n (by omega), tk_up_s]
  · rw [tk_up_n (by omega), tk_up_s]
  · rw [tk_up_s]
theorem s_clear {C N : tk_M} {K : Int} (h : j_all C N K) : j_all (tk_up (tk_up (tk_up (tk_up C 2 2 0) 2 3 0) 2 4 0) 1 3 0) (m_reset (tk_up (tk_up (tk_up N 7 11 0) 7 1 0) 7 2 0)) (K + 2002) := by
  obtain ⟨h1, h2, h3, h4, h5, h6, h7⟩ := (h.mono (show K ≤ K + 2002 by omega))
  obtain ⟨l1, l2, l3, l4, l5, l6, l7, l8, l9, l10⟩ := h2
  obtain ⟨a1, a2, a3, a4, ⟨k1, k2, k3, k4, k5, k6, k7, k8⟩, a6⟩ := h1
  have u : ∀ c j, ¬ (c = 2 ∧ (j = 2 ∨ j = 3 ∨ j = 4)) → ¬ (c = 1 ∧ j = 3) → tk_up (tk_up (tk_up (tk_up C 2 2 0) 2 3 0) 2 4 0) 1 3 0 c j = C c j := fun c j g1 g2 => by rw [tk_up_n (by omega), tk_up_n (by omega), tk_up_n (by omega), tk_up_n (by omega)]
  have u22 : tk_up (tk_up (tk_up (tk_up C 2 2 0) 2 3 0) 2 4 0) 1 3 0 2 2 = 0 := by rw [tk_up_n (by omega), tk_up_n (by omega), tk_up_n (by omega), tk_up_s]
  have u23 : tk_up (tk_up (tk_up (tk_up C 2 2 0) 2 3 0) 2 4 0) 1 3 0 2 3 = 0 := by rw [tk_up_n (by omega), tk_up_n (by omega), tk_up_s]
  have u24 : tk_up (tk_up (tk_up (tk_up C 2 2 0) 2 3 0) 2 4 0) 1 3 0 2 4 = 0 := by rw [tk_up_n (by omega), tk_up_s]
  have u13 : tk_up (tk_up (tk_up (tk_up C 2 2 0) 2 3 0) 2 4 0) 1 3 0 1 3 = 0 := by rw [tk_up_s]
  have d : ∀ c j, c ≠ 7 → c ≠ 11 → c ≠ 12 → c ≠ 14 → c ≠ 16 → c ≠ 18 → c ≠ 19 → c ≠ 20 → c ≠ 26 → m_reset (tk_up (tk_up (tk_up N 7 11 0) 7 1 0) 7 2 0) c j = N c j := fun c j g1 g2 g3 g4 g5 g6 g7 g8 g9 => by rw [m_reset_o (by omega), tk_up_n (by omega), tk_up_n (by omega), tk_up_n (by omega)]
  have d71 : m_reset (tk_up (tk_up (tk_up N 7 11 0) 7 1 0) 7 2 0) 7 1 = 0 := by rw [m_reset_o (by omega), tk_up_n (by omega), tk_up_s]
  have d72 : m_reset (tk_up (tk_up (tk_up N 7 11 0) 7 1 0) 7 2 0) 7 2 = 0 := by rw [m_reset_o (by omega), tk_up_s]
  have d711 : m_reset (tk_up (tk_up (tk_up N 7 11 0) 7 1 0) 7 2 0) 7 11 = 0 := by rw [m_reset_o (by omega), tk_up_n (by omega), tk_up_n (by omega), tk_up_s]
  have z0 : ∀ j, j = 3 ∨ j = 7 ∨ j = 8 ∨ j = 9 → m_reset (tk_up (tk_up (tk_up N 7 11 0) 7 1 0) 7 2 0) 7 j = 0 := fun j hj => m_reset_0 hj
  have z2 : ∀ s, s < 10 → m_reset (tk_up (tk_up (tk_up N 7 11 0) 7 1 0) 7 2 0) 11 s = 0 ∧ m_reset (tk_up (tk_up (tk_up N 7 11 0) 7 1 0) 7 2 0) 16 s = 0 := fun s hs => ⟨m_reset_2 ⟨Or.inr rfl, hs⟩, m_reset_2 ⟨Or.inl rfl, hs⟩⟩
  generalize tk_up (tk_up (tk_up (tk_up C 2 2 0) 2 3 0) 2 4 0) 1 3 0 = C' at *
  generalize m_reset (tk_up (tk_up (tk_up N 7 11 0) 7 1 0) 7 2 0) = N' at *
  refine ⟨⟨⟨by omega, by omega, by omega, by omega, fun i hi => by omega, fun g => by omega⟩, fun i hi => ?_, fun i hi => by omega, fun t ht => ?_, ⟨by rw [u _ _ (by omega) (by omega)]; exact k1, by rw [u _ _ (by omega) (by omega)]; exact k2, by rw [u _ _ (by omega) (by omega)]; exact k3, by rw [u _ _ (by omega) (by omega)]; exact k4, by rw [u _ _ (by omega) (by omega)]; exact k5, fun i hi => by rw [u _ _ (by omega) (by omega)]; exact k6 i hi, by omega, by omega⟩, fun g => absurd u13 g⟩, ⟨by omega, by omega, by omega, fun k hk => by omega, ?_, ?_, fun k hk => by omega, fun s hs => by omega, fun k s hk hs => by omega, fun g => by omega⟩, by omega, fun s hs => ?_, ⟨by rw [z0 3 (by omega)]; decide, fun t ht => ?_⟩, fun g => absurd u13 g, fun _ => ⟨z0 3 (by omega), z0 7 (by omega), z0 8 (by omega), z0 9 (by omega), z2⟩⟩
  · rw [u _ _ (by omega) (by omega)]; exact a2 i hi
  · rw [u _ _ (by omega) (by omega), u _ _ (by omega) (by omega), u _ _ (by omega) (by omega), u _ _ (by omega) (by omega)]; exact a4 t ht
  · rw [u23, u24]
    show N' 9 0 = 0
    rw [d _ _ (by omega) (by omega) (by omega) (by omega) (by omega) (by omega) (by omega) (by omega) (by omega)]; exact l6
  · rw [d _ _ (by omega) (by omega) (by omega) (by omega) (by omega) (by omega) (by omega) (by omega) (by omega)]; exact l6
  · rw [d _ _ (by omega) (by omega) (by omega) (by omega) (by omega) (by omega) (by omega) (by omega) (by omega), u _ _ (by omega) (by omega)]; exact h4 s hs
  · rw [d _ _ (by omega) (by omega) (by omega) (by omega) (by omega) (by omega) (by omega) (by omega) (by omega), d _ _ (by omega) (by omega) (by omega) (by omega) (by omega) (by omega) (by omega) (by omega) (by omega)]; exact h5.2 t ht
theorem s_begin {C N : tk_M} {K : Int} (h : j_all C N K) (hK0 : 0 ≤ K) (h0 : N 7 0 = 0) (m k s : Int) : s_ok cd_3 (c_begin m k s C) (d_begin m k s N) (K + 2002) := by
  obtain ⟨h1, h2, h3, h4, h5, h6, h7⟩ := id h
  obtain ⟨l1, l2, l3, l4, l5, l6, l7, l8, l9, l10⟩ := id h2
  unfold c_begin d_begin
  rw [j_bare h2, l1, l2, l5]
  by_cases c0 : ¬ (1 ≤ m ∧ m ≤ 100000) ∨ ¬ (1 ≤ k ∧ k ≤ 100000) ∨ ¬ (1 ≤ s ∧ s ≤ 100000)
  · rw [if_pos c0, if_pos c0]; exact s_ok.thr h (by omega) rfl (by decide) _
  · rw [if_neg c0, if_neg c0]
    by_cases c1 : C 2 2 = 0 ∨ ¬ f_bare C = 0
    · rw [if_pos c1, if_pos c1]; exact s_ok.thr h (by omega) rfl (by decide) _
    · rw [if_neg c1, if_neg c1]
      have hbare : f_bare C = 0 := by omega
      have hS : 1 ≤ C 2 2 := by omega
      have hN : 1 ≤ C 2 3 := by
        unfold f_bare at hbare
        have q := l10 (by omega)
        have q8 := l8 (C 2 2 - 1).toNat (by omega)
        split at hbare
        · omega
        · omega
      obtain ⟨a1, a2, a3, a4, ⟨k1, k2, k3, k4, k5, k6, k7, k8⟩, a6⟩ := h1
      have ob : ∀ c j, c ≠ 1 → f_beg0 C m k s c j = C c j := fun c j g => f_beg0_o g
      have e2 : f_beg0 C m k s 2 2 = C 2 2 := ob _ _ (by decide)
      have e3 : f_beg0 C m k s 2 3 = C 2 3 := ob _ _ (by decide)
      have ul : ∀ c j, c < 73 → c ≠ 3 → f_beg C m k s c j = f_emp (f_beg0 C m k s) c j := fun c j g1 g2 => by
        unfold f_beg f_fg
        rw [if_neg (by omega), tk_up_c _ _ _ _ g2, tk_up_c _ _ _ _ g2]
      have u1 : ∀ j, f_beg C m k s 1 j = f_beg0 C m k s 1 j := fun j => by rw [ul _ _ (by omega) (by omega), f_emp_o (by omega) (by omega) (by omega)]
      have u13 : f_beg C m k s 1 3 = 1 := by rw [u1]; unfold f_beg0; rw [tk_up_s]
      have u14 : f_beg C m k s 1 4 = m := by rw [u1]; unfold f_beg0; rw [tk_up_n (by omega), tk_up_n (by omega), tk_up_n (by omega), tk_up_n (by omega), tk_up_s]
      have u15 : f_beg C m k s 1 5 = k := by rw [u1]; unfold f_beg0; rw [tk_up_n (by omega), tk_up_n (by omega), tk_up_n (by omega), tk_up_s]
      have u16 : f_beg C m k s 1 6 = s := by rw [u1]; unfold f_beg0; rw [tk_up_n (by omega), tk_up_n (by omega), tk_up_s]
      have u17 : f_beg C m k s 1 7 = 0 := by rw [u1]; unfold f_beg0; rw [tk_up_n (by omega), tk_up_s]
      have u2 : ∀ j, j ≠ 5 → f_beg C m k s 2 j = C 2 j := fun j g => by rw [ul _ _ (by omega) (by omega), f_emp_o (by omega) (by omega) (by omega), ob _ _ (by decide)]
      have u25 : f_beg C m k s 2 5 = 0 := by rw [ul _ _ (by omega) (by omega)]; unfold f_emp; rw [tk_up_s]
      have u30 : f_beg C m k s 3 0 = 0 := by unfold f_beg f_fg; rw [if_neg (by omega), tk_up_n (by omega), tk_up_s]
      have u31 : f_beg C m k s 3 1 = 0 := by unfold f_beg f_fg; rw [if_neg (by omega), tk_up_s]
      have uo : ∀ c j, 31 ≤ c → c < 73 → ¬ (31 ≤ c ∧ c < 31 + (C 2 2).toNat ∧ (j = 2 ∨ j = 3)) → ¬ (41 ≤ c ∧ c < 41 + (C 2 3).toNat ∧ j = 2) → f_beg C m k s c j = C c j := fun c j g1 g2 g3 g4 => by rw [ul _ _ g2 (by omega), f_emp_o (by omega) (by rw [e2]; exact g3) (by rw [e3]; exact g4), ob _ _ (by omega)]
      have us : ∀ i : Nat, (i : Int) < C 2 2 → f_beg C m k s (31 + i) 2 = 0 ∧ f_beg C m k s (31 + i) 3 = 0 := fun i hi => by
        rw [ul _ _ (by omega) (by omega), ul _ _ (by omega) (by omega)]
        unfold f_emp tk_st2
        rw [e2, e3, tk_up_n (by omega), tk_st_o (by omega), tk_st_o (by omega), tk_st_i (by omega) (by omega), tk_up_n (by omega), tk_st_o (by omega), tk_st_i (by omega) (by omega)]
        exact ⟨rfl, rfl⟩
      have uk : ∀ i : Nat, (i : Int) < C 2 3 → f_beg C m k s (41 + i) 2 = 0 := fun i hi => by
        rw [ul _ _ (by omega) (by omega)]
        unfold f_emp
        rw [e2, e3, tk_up_n (by omega), tk_st_i (by omega) (by omega)]
      have ut : ∀ t j, t < 8 → j ≠ 0 → j ≠ 9 → j ≠ 10 → j ≠ 12 → f_beg C m k s (73 + t) j = C (73 + t) j := fun t j g g1 g2 g3 g4 => by
        unfold f_beg f_fg
        rw [if_pos (by omega), if_neg (by omega), if_neg (by omega), tk_up_n (by omega), tk_up_n (by omega), f_emp_o (by omega) (by omega) (by omega), ob _ _ (by omega)]
      have ut0 : ∀ t j, t < 8 → j = 0 ∨ j = 9 ∨ j = 10 → f_beg C m k s (73 + t) j = 0 := fun t j g g1 => by
        unfold f_beg f_fg
        rw [if_pos (by omega), if_pos g1]
      have ut12 : ∀ t, t < 8 → f_beg C m k s (73 + t) 12 = -1 := fun t g => by
        unfold f_beg f_fg
        rw [if_pos (by omega), if_neg (by omega), if_pos rfl]
      have ed : d_beg0 N m k s = tk_up (tk_up (tk_up (tk_up (tk_up N 7 11 1) 7 4 m) 7 5 k) 7 6 s) 7 10 (C 2 4) := by unfold d_beg0; rw [l2, l5]
      have d : ∀ c j, c ≠ 7 → c ≠ 11 → c ≠ 12 → c ≠ 14 → c ≠ 16 → c ≠ 18 → c ≠ 19 → c ≠ 20 → c ≠ 26 → m_reset (d_beg0 N m k s) c j = N c j := fun c j g1 g2 g3 g4 g5 g6 g7 g8 g9 => by rw [m_reset_o (by omega), ed, tk_up_n (by omega), tk_up_n (by omega), tk_up_n (by omega), tk_up_n (by omega), tk_up_n (by omega)]
      have d7 : ∀ j, j = 0 ∨ j = 1 ∨ j = 2 → m_reset (d_beg0 N m k s) 7 j = N 7 j := fun j g => by rw [m_reset_o (by omega), ed, tk_up_n (by omega), tk_up_n (by omega), tk_up_n (by omega), tk_up_n (by omega), tk_up_n (by omega)]
      have d711 : m_reset (d_beg0 N m k s) 7 11 = 1 := by rw [m_reset_o (by omega), ed, tk_up_n (by omega), tk_up_n (by omega), tk_up_n (by omega), tk_up_n (by omega), tk_up_s]
      have d74 : m_reset (d_beg0 N m k s) 7 4 = m := by rw [m_reset_o (by omega), ed, tk_up_n (by omega), tk_up_n (by omega), tk_up_n (by omega), tk_up_s]
      have d75 : m_reset (d_beg0 N m k s) 7 5 = k := by rw [m_reset_o (by omega), ed, tk_up_n (by omega), tk_up_n (by omega), tk_up_s]
      have d76 : m_reset (d_beg0 N m k s) 7 6 = s := by rw [m_reset_o (by omega), ed, tk_up_n (by omega), tk_up_s]
      have d710 : m_reset (d_beg0 N m k s) 7 10 = C 2 4 := by rw [m_reset_o (by omega), ed, tk_up_s]
      have z0 : ∀ j, j = 3 ∨ j = 7 ∨ j = 8 ∨ j = 9 → m_reset (d_beg0 N m k s) 7 j = 0 := fun j hj => m_reset_0 hj
      have z2 : ∀ s' : Nat, s' < 10 → m_reset (d_beg0 N m k s) 11 s' = 0 ∧ m_reset (d_beg0 N m k s) 16 s' = 0 := fun s' hs => ⟨m_reset_2 ⟨Or.inr rfl, hs⟩, m_reset_2 ⟨Or.inl rfl, hs⟩⟩
      have z1 : ∀ i : Nat, i < 32 → m_reset (d_beg0 N m k s) 12 i = 0 ∧ m_reset (d_beg0 N m k s) 14 i = 0 := fun i hi => ⟨m_reset_1 ⟨Or.inl rfl, hi⟩, m_reset_1 ⟨Or.inr rfl, hi⟩⟩
      have z3 : ∀ t : Nat, t < 8 → m_reset (d_beg0 N m k s) 18 t = 0 ∧ m_reset (d_beg0 N m k s) 26 t = -1 := fun t ht => ⟨m_reset_3 ⟨Or.inl rfl, ht⟩, m_reset_e ht⟩
      clear ed e2 e3 ob ul u1
      generalize f_beg C m k s = C' at *
      generalize m_reset (d_beg0 N m k s) = N' at *
      have c22 := u2 2 (by decide)
      have c23 := u2 3 (by decide)
      have c24 := u2 4 (by decide)
      have lay : j_lay C' N' := h2.eq c22 c23 c24 (fun i hi => ⟨uo _ _ (by omega) (by omega) (by omega) (by omega), uo _ _ (by omega) (by omega) (by omega) (by omega)⟩) (fun i hi => ⟨uo _ _ (by omega) (by omega) (by omega) (by omega), uo _ _ (by omega) (by omega) (by omega) (by omega)⟩) (d7 1 (by omega)) (d7 2 (by omega)) (fun j => d _ _ (by omega) (by omega) (by omega) (by omega) (by omega) (by omega) (by omega) (by omega) (by omega)) (fun j => d _ _ (by omega) (by omega) (by omega) (by omega) (by omega) (by omega) (by omega) (by omega) (by omega)) (fun j => d _ _ (by omega) (by omega) (by omega) (by omega) (by omega) (by omega) (by omega) (by omega) (by omega))
      have inv : p_inv C' K := by
        refine ⟨p_trk_eq c22 c23 (fun i hi => uo _ _ (by omega) (by omega) (by omega) (by omega)) (fun i hi => uo _ _ (by omega) (by omega) (by omega) (by omega)) a1, fun i hi => ?_, fun i hi => ?_, fun t ht => ?_, ⟨by omega, by omega, by omega, by omega, by omega, fun i hi => ?_, by omega, by omega⟩, fun _ => ⟨by omega, fun t ht hc => absurd (ut0 t 0 ht (Or.inl rfl)) hc⟩⟩
        · rw [uo _ _ (by omega) (by omega) (by omega) (by omega)]; exact a2 i hi
        · rw [c22] at hi
          rw [uo _ 0 (by omega) (by omega) (by omega) (by omega), uo _ 1 (by omega) (by omega) (by omega) (by omega)]; exact a3 i hi
        · rw [ut12 t ht, ut t 3 ht (by decide) (by decide) (by decide) (by decide), ut t 8 ht (by decide) (by decide) (by decide) (by decide), ut t 1 ht (by decide) (by decide) (by decide) (by decide)]
          exact ⟨by decide, (a4 t ht).2⟩
        · by_cases e : (i : Int) < C 2 2
          · rw [(us i e).2]; exact hK0
          · rw [uo _ _ (by omega) (by omega) (by omega) (by omega)]; exact k6 i hi
      have pre : j_pre C' N' := by
        refine ⟨⟨by rw [z0 3 (by omega), u17], by rw [d74, u14], by rw [d75, u15], by rw [d76, u16], by rw [z0 7 (by omega), u30], by rw [z0 8 (by omega), u31], by rw [z0 9 (by omega), u25], by rw [d710, c24]⟩, by omega, fun i hi => ?_, fun i hi => ?_, fun t ht => ⟨?_, ?_, ?_, fun hc => absurd (ut0 t 0 ht (Or.inl rfl)) hc⟩⟩
        · rw [c23] at hi
          rw [(z1 i (by omega)).1, (z1 i (by omega)).2, uk i hi]
          exact ⟨rfl, by decide, by decide, by decide, by decide, fun g => absurd g (by decide)⟩
        · rw [c22] at hi
          rw [(z2 i (by omega)).1, (z2 i (by omega)).2, (us i hi).1, (us i hi).2, d _ _ (by omega) (by omega) (by omega) (by omega) (by omega) (by omega) (by omega) (by omega) (by omega), uo _ _ (by omega) (by omega) (by omega) (by omega), (h4 i (by omega)).1, (h4 i (by omega)).2]
          exact ⟨rfl, rfl, rfl⟩
        · rw [(z3 t ht).1, ut0 t 0 ht (Or.inl rfl)]
        · rw [(z3 t ht).2, ut12 t ht]
        · rw [ut12 t ht]
          exact ⟨Or.inl rfl, by omega⟩
      have fin : j_all C' N' K := by
        refine ⟨inv, lay, by rw [d711, u13], fun i hi => ?_, ⟨by rw [z0 3 (by omega)]; decide, fun t ht => ?_⟩, fun _ => ⟨pre, fun t ht => ?_⟩, fun g => by omega⟩
        · rw [d _ _ (by omega) (by omega) (by omega) (by omega) (by omega) (by omega) (by omega) (by omega) (by omega), uo _ _ (by omega) (by omega) (by omega) (by omega)]; exact h4 i hi
        · rw [d _ _ (by omega) (by omega) (by omega) (by omega) (by omega) (by omega) (by omega) (by omega) (by omega), d _ _ (by omega) (by omega) (by omega) (by omega) (by omega) (by omega) (by omega) (by omega) (by omega)]; exact h5.2 t ht
        · unfold f_loc f_who
          rw [ut0 t 0 ht (Or.inl rfl), ut0 t 9 ht (Or.inr (Or.inl rfl)), ut0 t 10 ht (Or.inr (Or.inr rfl))]
          rw [if_neg (by omega), if_neg (by omega)]
          exact ⟨rfl, rfl, Or.inl (ut12 t ht)⟩
      exact s_ok.ret fin (by omega) (by rw [d7 0 (by omega)]; exact h0) _
