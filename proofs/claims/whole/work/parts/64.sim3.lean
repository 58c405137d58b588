/-! SIDE BY SIDE: the new states -/
theorem g_mk_34 {M : tk_M} {num : Int} {a : Nat} : ∀ n : Nat, (∀ i : Nat, i < n → (M (41 + (a + i)) 0).toNat < 10) → ∀ c : Nat, 41 ≤ c → (g_mk M num a n c 3 = M c 3 ∧ g_mk M num a n c 4 = M c 4) ∨ g_mk M num a n c 4 = num
  | 0, _, c, _ => Or.inl ⟨rfl, rfl⟩
  | n + 1, hs, c, hc => by
    have ih := g_mk_34 (M := M) (num := num) (a := a) n (fun i hi => hs i (by omega)) c hc
    have hn := hs n (by omega)
    have e : g_mk M num a (n + 1) = tk_up (tk_up (tk_up (g_mk M num a n) (41 + (a + n)) 3 (g_mk M num a n (41 + (a + n)) 3 + 1)) (41 + (a + n)) 4 num) (31 + (M (41 + (a + n)) 0).toNat) 5 1 := rfl
    rw [e]
    generalize g_mk M num a n = G at *
    by_cases h : c = 41 + (a + n)
    · subst h
      right
      rw [tk_up_n (by omega), tk_up_s]
    · rw [tk_up_n (by omega), tk_up_n (by omega), tk_up_n (by omega), tk_up_n (by omega), tk_up_n (by omega), tk_up_n (by omega)]
      exact ih
theorem f_mk_34 {M : tk_M} {t : Nat} (ht : t < 8) (hp : p_mk M t) (hs : p_sub M) {k : Nat} : (f_mk M t (41 + k) 3 = M (41 + k) 3 ∧ f_mk M t (41 + k) 4 = M (41 + k) 4) ∨ f_mk M t (41 + k) 4 = (t : Int) := by
  by_cases hk : k < 32
  · obtain ⟨p1, p2, p3⟩ := hp
    obtain ⟨s1, s2, s3, s4⟩ := hs
    have hg := g_mk_34 (M := tk_up M (73 + t) 11 (f_occ M t)) (num := (t : Int)) (a := (M (73 + t) 6).toNat) ((M (73 + t) 5).toNat + 1 - (M (73 + t) 6).toNat) (fun k hk => by
      have := s3 ((M (73 + t) 6).toNat + k) (by omega)
      rw [tk_up_c _ _ _ _ (by omega)]
      omega) (41 + k) (by omega)
    rw [tk_up_n (M := M) (by omega), tk_up_n (M := M) (by omega)] at hg
    unfold f_mk
    split
    · have := s3 (M (73 + t) 5 + 1).toNat (by omega)
      rw [tk_up_n (by omega), tk_up_n (by omega)]
      exact hg
    · exact hg
  · left
    by_cases e : 41 + k = 73 + t
    · exact ⟨f_mk_o hp hs (by omega) (by omega) (by omega), f_mk_o hp hs (by omega) (by omega) (by omega)⟩
    · exact ⟨f_mk_o hp hs (by omega) (by omega) (by omega), f_mk_o hp hs (by omega) (by omega) (by omega)⟩
theorem f_mk_11 {M : tk_M} {t : Nat} (hp : p_mk M t) (hs : p_sub M) : f_mk M t (73 + t) 11 = f_occ M t := by
  obtain ⟨p1, p2, p3⟩ := hp
  obtain ⟨s1, s2, s3, s4⟩ := hs
  have hg : g_mk (tk_up M (73 + t) 11 (f_occ M t)) (t : Int) (M (73 + t) 6).toNat ((M (73 + t) 5).toNat + 1 - (M (73 + t) 6).toNat) (73 + t) 11 = f_occ M t := by
    rw [g_mk_o (by omega) _ (fun k hk => by
      have := s3 ((M (73 + t) 6).toNat + k) (by omega)
      rw [tk_up_c _ _ _ _ (by omega)]
      omega) (by omega), tk_up_s]
  unfold f_mk
  split
  · have := s3 (M (73 + t) 5 + 1).toNat (by omega)
    rw [tk_up_n (by omega)]
    exact hg
  · exact hg
theorem f_occ_eq {M N : tk_M} {t : Nat} (h10 : N (73 + t) 10 = M (73 + t) 10) (h6 : N (73 + t) 6 = M (73 + t) 6) (hs : ∀ c, 41 ≤ c → c < 73 → N c 0 = M c 0 ∧ N c 2 = M c 2) (hf : ∀ c, 31 ≤ c → c < 41 → N c 0 = M c 0) (r1 : 0 ≤ M (73 + t) 6) (r2 : M (73 + t) 6 < 32) (r3 : (M (41 + (M (73 + t) 6).toNat) 0).toNat < 10) : f_occ N t = f_occ M t := by
  unfold f_occ f_ncf
  rw [h10, h6, (hs (41 + (M (73 + t) 6).toNat) (by omega) (by omega)).1, hf (31 + (M (41 + (M (73 + t) 6).toNat) 0).toNat) (by omega) (by omega), (hs (41 + (M (73 + t) 6 - 1).toNat) (by omega) (by omega)).2]
/-- whose mark it is; how trains occupy -/
theorem g_mts_cv {M : tk_M} (hT : p_trk M) (h0 : ∀ i : Nat, (i : Int) < M 2 3 → M (41 + i) 3 = 0) (hR : p_tr M) : ∀ n : Nat, n ≤ 8 → (∀ k : Nat, (k : Int) < M 2 3 → ¬ g_mts M n (41 + k) 3 = 0 → ∃ v : Nat, v < n ∧ g_mts M n (41 + k) 4 = (v : Int) ∧ ¬ M (73 + v) 9 = 0) ∧ (∀ t : Nat, t < n → ¬ M (73 + t) 9 = 0 → g_mts M n (73 + t) 11 = f_occ M t)
  | 0, _ => ⟨fun k hk h => absurd (h0 k hk) h, fun t ht => absurd ht (Nat.not_lt_zero _)⟩
  | n + 1, hn => by
    obtain ⟨i1, i2⟩ := g_mts_cv hT h0 hR n (by omega)
    obtain ⟨a1, a2, a3, a4⟩ := g_mts_inv hT h0 hR n (by omega)
    have ew : g_mts M (n + 1) = if g_mts M n (73 + n) 9 = 0 then g_mts M n else f_mk (g_mts M n) n := rfl
    have e9 : g_mts M n (73 + n) 9 = M (73 + n) 9 := a1 _ _ (by unfold q_mk; omega)
    rw [e9] at ew
    by_cases hz : M (73 + n) 9 = 0
    · rw [ew, if_pos hz]
      refine ⟨fun k hk h => ?_, fun t ht hl => ?_⟩
      · obtain ⟨v, v1, v2, v3⟩ := i1 k hk h
        exact ⟨v, by omega, v2, v3⟩
      · by_cases e : t = n
        · subst e; exact absurd hz hl
        · exact i2 t (by omega) hl
    · rw [ew, if_neg hz]
      have pm := a3 n (by omega) (by rw [e9]; exact hz)
      refine ⟨fun k hk h => ?_, fun t ht hl => ?_⟩
      · rcases f_mk_34 (by omega) pm a2 (k := k) with ⟨g1, g2⟩ | g
        · rw [g1] at h
          rw [g2]
          obtain ⟨v, v1, v2, v3⟩ := i1 k hk h
          exact ⟨v, by omega, v2, v3⟩
        · exact ⟨n, by omega, g, hz⟩
      · by_cases e : t = n
        · subst e
          rw [f_mk_11 pm a2]
          obtain ⟨p1, p2, p3⟩ := pm
          have e23 : g_mts M t 2 3 = M 2 3 := a1 _ _ (by unfold q_mk; omega)
          have e6 : g_mts M t (73 + t) 6 = M (73 + t) 6 := a1 _ _ (by unfold q_mk; omega)
          have e5 : g_mts M t (73 + t) 5 = M (73 + t) 5 := a1 _ _ (by unfold q_mk; omega)
          have t5 := hT.2.2.2.2.1 (M (73 + t) 6).toNat (by omega)
          have t4 := hT.2.2.2.1
          exact f_occ_eq (a1 _ _ (by unfold q_mk; omega)) e6 (fun c h1 h2 => ⟨a1 _ _ (by unfold q_mk; omega), a1 _ _ (by unfold q_mk; omega)⟩) (fun c h1 h2 => a1 _ _ (by unfold q_mk; omega)) (by omega) (by omega) (by omega)
        · rw [f_mk_o pm a2 (by omega) (by omega) (by omega)]
          exact i2 t (by omega) hl
theorem m_low_pw : ∀ t : Fin 8, m_low (pw t.val) = t.val ∧ 0 < pw t.val ∧ pw t.val < 256 := by decide +kernel
theorem f_loc_ok {C : tk_M} {c : Nat} {a b : Int} (h : ¬ f_loc C c a b = 0) : ¬ C c 0 = 0 ∧ ¬ C c 2 = 0 := by
  unfold f_loc at h
  split at h
  · rename_i hc; exact ⟨hc.1, hc.2.1⟩
  · exact absurd rfl h
theorem f_who_loc {C : tk_M} {c : Nat} {a b d : Int} (h : ¬ f_who C c a b d = 0) : ¬ f_loc C c a b = 0 := by
  unfold f_who at h
  unfold f_loc
  split at h
  · rename_i hc; rw [if_pos hc.1]; decide
  · exact absurd rfl h
/-- the same new states, and what the reference asks for them -/
theorem j_fd {C D : tk_M} (ha : p_an C) (hl : j_lay C D) (hp : j_pre C D) {k : Nat} (hk : (k : Int) < C 2 3) : f_ns (g_mts (j_0 C) 8) k = m_fd (m_mk D) k ∧ q_fd (m_mk D) k ∧ (f_ns (g_mts (j_0 C) 8) k = 1 → m_mk D 14 k = pw (g_mts (j_0 C) 8 (41 + k) 4).toNat) ∧ 0 ≤ f_ns (g_mts (j_0 C) 8) k ∧ f_ns (g_mts (j_0 C) 8) k ≤ 3 := by
  have hM := j_marks ha hl hp 8 (by omega)
  have hT : p_trk (g_j C 8) := g_j_trk ha.1
  have hR : p_tr (g_j C 8) := g_j_tr ha
  obtain ⟨a1, a2, a3, a4⟩ := g_mts_inv (f_m0_trk hT) (f_m0_3 hT) (f_m0_tr hT hR) 8 (by omega)
  obtain ⟨c1, c2⟩ := g_mts_cv (f_m0_trk hT) (f_m0_3 hT) (f_m0_tr hT hR) 8 (by omega)
  have e0 : f_m0 (g_j C 8) = j_0 C := rfl
  have em : m_trs (j_n D) 8 = m_mk D := rfl
  rw [e0] at a1 c1 c2
  rw [em] at hM
  obtain ⟨l1, l2, l3, l4, l5, l6, l7, l8, l9, l10⟩ := id hl
  obtain ⟨b1, b2, b3, b4, b5⟩ := id hp
  have o0 : ∀ c j, ¬ (31 ≤ c ∧ c < 73 ∧ (j = 5 ∨ j = 3)) → ¬ (73 ≤ c ∧ c < 81 ∧ (j = 9 ∨ j = 10)) → j_0 C c j = C c j := fun c j h2 h3 => j_0_o h2 h3 (by omega) (by omega)
  have oX : ∀ c j, ¬ q_mk c j → ¬ (31 ≤ c ∧ c < 73 ∧ (j = 5 ∨ j = 3)) → ¬ (73 ≤ c ∧ c < 81 ∧ (j = 9 ∨ j = 10)) → g_mts (j_0 C) 8 c j = C c j := fun c j h1 h2 h3 => by
    rw [a1 c j h1]
    exact o0 c j h2 h3
  have x9 : ∀ t, t < 8 → j_0 C (73 + t) 9 = f_loc C (73 + t) (C 1 7) (C 1 4) := fun t ht => by
    unfold j_0
    rw [f_m0_o (by omega) (by omega), g_j_9 ht]
  have x10 : ∀ t, t < 8 → j_0 C (73 + t) 10 = f_who C (73 + t) (C 1 7) (C 1 4) (C 1 5) := fun t ht => by
    unfold j_0
    rw [f_m0_o (by omega) (by omega), g_j_10 ht]
  have y10 : ∀ t, t < 8 → g_mts (j_0 C) 8 (73 + t) 10 = f_who C (73 + t) (C 1 7) (C 1 4) (C 1 5) := fun t ht => by
    rw [a1 _ _ (by unfold q_mk; omega), x10 t ht]
  have hw : ∀ t, t < 8 → m_who (m_mk D) t = f_who C (73 + t) (C 1 7) (C 1 4) (C 1 5) := fun t ht => by
    rw [m_f_who (fun c j h => m_mk_o h), j_who hp ht]
  have was : ∀ j : Nat, (j : Int) < C 2 3 → m_mk D 13 j = C (41 + j) 2 := fun j hj => by
    rw [show m_mk D 13 j = j_n D 13 j from m_trs_o (by omega) 8]
    unfold j_n
    rw [m_f2_o (by omega)]
    unfold m_f1
    rw [if_pos (by omega), if_pos rfl]
    exact (b3 j hj).1
  have bef : m_mk D 15 k = D 14 k := by
    rw [show m_mk D 15 k = j_n D 15 k from m_trs_o (by omega) 8]
    unfold j_n
    rw [m_f2_o (by omega)]
    unfold m_f1
    rw [if_pos (by omega), if_neg (by omega), if_pos rfl]
  have s1 := l4 k hk
  have sc : (((C (41 + k) 0).toNat : Nat) : Int) < C 2 2 := by omega
  have d4 := b4 _ sc
  have k3 := b3 k hk
  have rk := hM.1 k hk
  have rs := hM.2 _ sc
  have X0 : g_mts (j_0 C) 8 (41 + k) 0 = C (41 + k) 0 := oX _ _ (by unfold q_mk; omega) (by omega) (by omega)
  have X2 : g_mts (j_0 C) 8 (41 + k) 2 = C (41 + k) 2 := oX _ _ (by unfold q_mk; omega) (by omega) (by omega)
  have XS2 : g_mts (j_0 C) 8 (31 + (C (41 + k) 0).toNat) 2 = C (31 + (C (41 + k) 0).toNat) 2 := oX _ _ (by unfold q_mk; omega) (by omega) (by omega)
  have XS4 : g_mts (j_0 C) 8 (31 + (C (41 + k) 0).toNat) 4 = C (31 + (C (41 + k) 0).toNat) 4 := oX _ _ (by unfold q_mk; omega) (by omega) (by omega)
  have Y8 : ∀ j, m_mk D 8 j = D 8 j := fun j => m_mk_o (by unfold q_m; omega)
  have Y10 : ∀ j, m_mk D 10 j = D 10 j := fun j => m_mk_o (by unfold q_m; omega)
  have Y16 : ∀ j, m_mk D 16 j = D 16 j := fun j => m_mk_o (by unfold q_m; omega)
  have Y17 : ∀ j, m_mk D 17 j = D 17 j := fun j => m_mk_o (by unfold q_m; omega)
  have p8 : pw 8 = 256 := by decide
  obtain ⟨r1, r2, r3, r4, r5, r6⟩ := rk
  rw [p8] at r2
  -- the only coverer
  have one : g_mts (j_0 C) 8 (41 + k) 3 = 1 → ∃ v : Nat, v < 8 ∧ g_mts (j_0 C) 8 (41 + k) 4 = (v : Int) ∧ m_low (m_mk D 14 k) = (v : Int) ∧ m_mk D 29 v = C (73 + v) 6 ∧ 0 ≤ C (73 + v) 6 ∧ C (73 + v) 6 < C 2 3 ∧ g_mts (j_0 C) 8 (73 + v) 11 = f_occ (j_0 C) v := fun h => by
    obtain ⟨v, v1, v2, v3⟩ := c1 k (by rw [o0 2 3 (by omega) (by omega)]; exact hk) (by omega)
    have h5 := (r5 h).1
    rw [v2, Int.toNat_natCast] at h5
    have hv9 := v3
    rw [x9 v v1] at v3
    obtain ⟨q1, q2⟩ := f_loc_ok v3
    have ht := ((b5 v v1).2.2.2 q1).2.2.2 q2
    have pm := ((ha.2.2.2.1 v v1).1 q1 q2)
    unfold p_mk at pm
    refine ⟨v, v1, v2, ?_, ?_, by omega, by omega, c2 v v1 hv9⟩
    · rw [h5]; exact (m_low_pw ⟨v, v1⟩).1
    · rw [((m_mk_at v1).2 (by rw [j_loc hp v1]; exact v3)).1]
      exact ht.2.2.1
  have hq : q_fd (m_mk D) k := by
    refine ⟨by rw [Y8, s1.1]; exact s1.2.1, by rw [Y8, s1.1]; omega, r1, r2, by rw [bef]; exact k3.2.2.2.1, by rw [bef]; exact k3.2.2.2.2.1, fun h => ?_⟩
    obtain ⟨v, v1, v2, v3, v4, v5, v6, v7⟩ := one (by omega)
    rw [v3, Int.toNat_natCast, v4]
    have s2 := l4 (C (73 + v) 6).toNat (by omega)
    rw [Y8, s2.1]
    refine ⟨v5, by omega, s2.2.1, by omega, fun h0 => ?_⟩
    have t6 := ha.1.2.2.2.2.2 (by omega)
    have s3 := l4 0 (by omega)
    simp only [Nat.add_zero] at s3
    rw [Y8, Y10, s3.1]
    have s4 := l8 (C 41 0).toNat (by omega)
    rw [s4.1]
    exact t6
  refine ⟨?_, hq, ?_⟩
  · unfold f_ns m_fd
    rw [X0, X2, XS2, XS4, r3, Y8, s1.1, Y16, d4.2.1, Y17, d4.2.2, rs, was k hk, bef]
    by_cases g1 : C (31 + (C (41 + k) 0).toNat) 2 = 0
    · rw [if_pos g1, if_pos g1]
    · rw [if_neg g1, if_neg g1]
      by_cases g2 : 1 < g_mts (j_0 C) 8 (41 + k) 3
      · rw [if_pos g2, if_pos g2]
      · rw [if_neg g2, if_neg g2]
        by_cases g3 : g_mts (j_0 C) 8 (41 + k) 3 = 1
        · rw [if_pos g3, if_pos g3]
          obtain ⟨v, v1, v2, v3, v4, v5, v6, v7⟩ := one g3
          rw [v2, v3, Int.toNat_natCast, v4, v7, hw v v1, Y8, Y10]
          have s2 := l4 (C (73 + v) 6).toNat (by omega)
          have s4 := l8 (C (41 + (C (73 + v) 6).toNat) 0).toNat (by omega)
          rw [s2.1, s4.1]
          have eo : f_occ (j_0 C) v = if ¬ f_who C (73 + v) (C 1 7) (C 1 4) (C 1 5) = 0 ∧ (C (31 + (C (41 + (C (73 + v) 6).toNat) 0).toNat) 0 = C (73 + v) 6 ∨ C (41 + (C (73 + v) 6 - 1).toNat) 2 = 0) then 1 else 0 := by
            unfold f_occ f_ncf
            rw [x10 v v1, o0 (73 + v) 6 (by omega) (by omega), o0 (41 + (C (73 + v) 6).toNat) 0 (by omega) (by omega), o0 (31 + (C (41 + (C (73 + v) 6).toNat) 0).toNat) 0 (by omega) (by omega), o0 (41 + (C (73 + v) 6 - 1).toNat) 2 (by omega) (by omega)]
            by_cases z : C (31 + (C (41 + (C (73 + v) 6).toNat) 0).toNat) 0 = C (73 + v) 6 ∨ C (41 + (C (73 + v) 6 - 1).toNat) 2 = 0
            · rw [if_pos z]
              by_cases z2 : f_who C (73 + v) (C 1 7) (C 1 4) (C 1 5) = 0
              · rw [if_neg (by omega), if_neg (by omega)]
              · rw [if_pos ⟨z2, rfl⟩, if_pos ⟨z2, z⟩]
            · rw [if_neg z, if_neg (by omega), if_neg (fun y => z y.2)]
          rw [eo]
          have ez : (C (73 + v) 6 = C (31 + (C (41 + (C (73 + v) 6).toNat) 0).toNat) 0 ∨ m_mk D 13 (C (73 + v) 6 - 1).toNat = 0) ↔ (C (31 + (C (41 + (C (73 + v) 6).toNat) 0).toNat) 0 = C (73 + v) 6 ∨ C (41 + (C (73 + v) 6 - 1).toNat) 2 = 0) := by
            by_cases z : C (73 + v) 6 = 0
            · have t6 := ha.1.2.2.2.2.2 (by omega)
              have e : C (31 + (C (41 + (C (73 + v) 6).toNat) 0).toNat) 0 = C (73 + v) 6 := by rw [z]; exact t6
              exact ⟨fun _ => Or.inl e, fun _ => Or.inl e.symm⟩
            · rw [was _ (by omega)]
              constructor
              · rintro (h | h)
                · exact Or.inl h.symm
                · exact Or.inr h
              · rintro (h | h)
                · exact Or.inl h.symm
                · exact Or.inr h
          by_cases z : ¬ f_who C (73 + v) (C 1 7) (C 1 4) (C 1 5) = 0 ∧ (C (31 + (C (41 + (C (73 + v) 6).toNat) 0).toNat) 0 = C (73 + v) 6 ∨ C (41 + (C (73 + v) 6 - 1).toNat) 2 = 0)
          · rw [if_pos z, if_neg (by decide), if_pos ⟨z.1, ez.mpr z.2⟩]
          · rw [if_neg z, if_pos rfl, if_neg (fun y => z ⟨y.1, ez.mp y.2⟩)]
        · rw [if_neg g3, if_neg g3]
          by_cases g4 : C (41 + k) 2 = 1
          · rw [if_pos g4, if_neg (show ¬ (C (41 + k) 2 = 3 ∨ C (41 + k) 2 = 2) by omega), if_pos g4]
            have cov := ha.2.1 k (by omega)
            obtain ⟨v, ev⟩ : ∃ v : Nat, C (41 + k) 4 = (v : Int) := ⟨(C (41 + k) 4).toNat, by omega⟩
            have v1 : v < 8 := by omega
            have h14 := k3.2.2.2.2.2 g4
            rw [ev, Int.toNat_natCast] at h14
            have hml : m_low (pw v) = (v : Int) := (m_low_pw ⟨v, v1⟩).1
            rw [r6 (by omega), ev, h14, hml, Int.toNat_natCast]
            rw [y10 v v1, oX (73 + v) 6 (by unfold q_mk; omega) (by omega) (by omega), hw v v1]
            have hpw := (m_low_pw ⟨v, v1⟩).2.1
            simp only at hpw
            by_cases z : f_who C (73 + v) (C 1 7) (C 1 4) (C 1 5) = 0
            · rw [if_neg (by omega), if_neg (by omega)]
            · have zl := f_who_loc z
              obtain ⟨q1, q2⟩ := f_loc_ok zl
              have ht := ((b5 v v1).2.2.2 q1).2.2.2 q2
              rw [((m_mk_at v1).2 (by rw [j_loc hp v1]; exact zl)).1, ht.2.2.1]
              by_cases z2 : (k : Int) < C (73 + v) 6
              · rw [if_pos ⟨z, z2⟩, if_pos ⟨by omega, z, z2⟩]
              · rw [if_neg (by omega), if_neg (by omega)]
          · rw [if_neg g4]
            by_cases g5 : C (41 + k) 2 = 0
            · rw [if_neg (show ¬ ¬ C (41 + k) 2 = 0 by omega), if_neg (show ¬ (C (41 + k) 2 = 3 ∨ C (41 + k) 2 = 2) by omega), if_neg g4]
              by_cases g6 : C (31 + (C (41 + k) 0).toNat) 4 = 0
              · rw [if_neg (show ¬ ¬ C (31 + (C (41 + k) 0).toNat) 4 = 0 by omega)]
                by_cases g7 : g_mts (j_0 C) 8 (31 + (C (41 + k) 0).toNat) 5 = 0
                · rw [if_pos (show ¬ C (31 + (C (41 + k) 0).toNat) 4 = 0 ∨ g_mts (j_0 C) 8 (31 + (C (41 + k) 0).toNat) 5 = 0 from Or.inr g7), if_pos g7]
                · rw [if_neg (show ¬ (¬ C (31 + (C (41 + k) 0).toNat) 4 = 0 ∨ g_mts (j_0 C) 8 (31 + (C (41 + k) 0).toNat) 5 = 0) from fun z => z.elim (fun y => y g6) g7), if_neg g7]
              · rw [if_pos (show ¬ C (31 + (C (41 + k) 0).toNat) 4 = 0 ∨ g_mts (j_0 C) 8 (31 + (C (41 + k) 0).toNat) 5 = 0 from Or.inl g6), if_pos (show ¬ C (31 + (C (41 + k) 0).toNat) 4 = 0 from g6)]
            · rw [if_pos (show ¬ C (41 + k) 2 = 0 from g5), if_pos (show C (41 + k) 2 = 3 ∨ C (41 + k) 2 = 2 by omega)]
  · refine ⟨fun h1 => ?_, ?_⟩
    · unfold f_ns at h1
      have g3 : g_mts (j_0 C) 8 (41 + k) 3 = 1 := by
        (repeat' split at h1) <;> first | omega | assumption
      exact (r5 g3).1
    · unfold f_ns
      (repeat' split) <;> omega
