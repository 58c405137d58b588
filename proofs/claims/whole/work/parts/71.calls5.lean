/-! SIDE BY SIDE: ticks, requests -/
theorem j_tk {C N : tk_M} {K : Int} (h : j_all C N K) (h0 : 0 ≤ K) (hb : ¬ C 1 3 = 0) : j_one (g_cs (tk_up C 1 7 (C 1 7 + 1)) (C 1 6) (C 2 2).toNat) (m_cs (tk_up N 7 3 (N 7 3 + 1)) (N 7 1).toNat) (K + 1) := by
  obtain ⟨h1, h2, ⟨p1, p2, p3, p4, p5⟩, h4, h5, h6, h7⟩ := j_one.of h hb
  have hi := h1.tick0 h0
  have S10 := h1.1.2.1
  have S0 := h1.1.1
  have N32 := h1.1.2.2.2.1
  have l1 := h2.1
  have u : ∀ c j, ¬ (c = 1 ∧ j = 7) → tk_up C 1 7 (C 1 7 + 1) c j = C c j := fun c j g => tk_up_n g
  have u17 : tk_up C 1 7 (C 1 7 + 1) 1 7 = C 1 7 + 1 := tk_up_s _ _ _ _
  have d : ∀ c j, ¬ (c = 7 ∧ j = 3) → tk_up N 7 3 (N 7 3 + 1) c j = N c j := fun c j g => tk_up_n g
  have d73 : tk_up N 7 3 (N 7 3 + 1) 7 3 = N 7 3 + 1 := tk_up_s _ _ _ _
  have e16 : C 1 6 = tk_up C 1 7 (C 1 7 + 1) 1 6 := (u _ _ (by omega)).symm
  have e22' : C 2 2 = tk_up C 1 7 (C 1 7 + 1) 2 2 := (u _ _ (by omega)).symm
  have lay1 : j_lay (tk_up C 1 7 (C 1 7 + 1)) (tk_up N 7 3 (N 7 3 + 1)) := h2.eq (u _ _ (by omega)) (u _ _ (by omega)) (u _ _ (by omega)) (fun k hk => ⟨u _ _ (by omega), u _ _ (by omega)⟩) (fun s hs => ⟨u _ _ (by omega), u _ _ (by omega)⟩) (d _ _ (by omega)) (d _ _ (by omega)) (fun j => d _ _ (by omega)) (fun j => d _ _ (by omega)) (fun j => d _ _ (by omega))
  have pre1 : j_pre (tk_up C 1 7 (C 1 7 + 1)) (tk_up N 7 3 (N 7 3 + 1)) := by
    refine ⟨?_, ?_, fun k hk => ?_, fun s hs => ?_, fun t ht => ?_⟩
    · rw [d73, u17, d 7 4 (by omega), d 7 5 (by omega), d 7 6 (by omega), d 7 7 (by omega), d 7 8 (by omega), d 7 9 (by omega), d 7 10 (by omega), u 1 4 (by omega), u 1 5 (by omega), u 1 6 (by omega), u 3 0 (by omega), u 3 1 (by omega), u 2 5 (by omega), u 2 4 (by omega)]
      exact ⟨by omega, p1.2⟩
    · rw [u 2 2 (by omega), u 2 3 (by omega)]; exact p2
    · rw [u 2 3 (by omega)] at hk
      rw [d _ _ (by omega), d _ _ (by omega), u _ 2 (by omega), u _ 4 (by omega)]; exact p3 k hk
    · rw [u 2 2 (by omega)] at hs
      rw [d _ _ (by omega), d _ _ (by omega), d _ _ (by omega), u _ 3 (by omega), u _ 2 (by omega), u _ 4 (by omega)]; exact p4 s hs
    · have q := p5 t ht
      have ea : m_a (tk_up N 7 3 (N 7 3 + 1)) t = m_a N t := by
        unfold m_a
        rw [d 23 t (by omega), m_at_eq (d _ _ (by omega)) (fun k => d _ _ (by omega))]
      have ez : m_z (tk_up N 7 3 (N 7 3 + 1)) t = m_z N t := by
        unfold m_z
        rw [d 22 t (by omega), m_at_eq (d _ _ (by omega)) (fun k => d _ _ (by omega))]
      unfold j_tr at q ⊢
      rw [ea, ez, d 18 t (by omega), d 19 t (by omega), d 20 t (by omega), d 21 t (by omega), d 22 t (by omega), d 23 t (by omega), d 24 t (by omega), d 25 t (by omega), d 26 t (by omega), u 2 3 (by omega), u (73 + t) 0 (by omega), u (73 + t) 1 (by omega), u (73 + t) 2 (by omega), u (73 + t) 3 (by omega), u (73 + t) 4 (by omega), u (73 + t) 5 (by omega), u (73 + t) 6 (by omega), u (73 + t) 7 (by omega), u (73 + t) 8 (by omega), u (73 + t) 12 (by omega)]
      exact q
  have qtm : q_tm (tk_up N 7 3 (N 7 3 + 1)) := ⟨by rw [d73]; have := h4.1; omega, fun t ht => by rw [d _ _ (by omega), d _ _ (by omega)]; exact h4.2 t ht⟩
  have cs := j_cs lay1 pre1 (fun s hs => by rw [u 2 2 (by omega)] at hs; rw [u _ 0 (by omega), u _ 1 (by omega)]; exact h1.2.2.1 s hs) (C 2 2).toNat (by rw [u 2 2 (by omega)]; omega)
  rw [← e16, ← e22'] at cs
  rw [show (N 7 1).toNat = (C 2 2).toNat by rw [l1]]
  have oX : ∀ c j, ¬ (c = 2 ∧ j = 5) → ¬ (31 ≤ c ∧ c < 31 + (C 2 2).toNat ∧ (j = 3 ∨ j = 4)) → g_cs (tk_up C 1 7 (C 1 7 + 1)) (C 1 6) (C 2 2).toNat c j = tk_up C 1 7 (C 1 7 + 1) c j := fun c j g1 g2 => g_cs_o g1 _ g2
  have oY : ∀ c j, ¬ (c = 7 ∧ j = 9) → ¬ ((c = 11 ∨ c = 17) ∧ j < (C 2 2).toNat) → m_cs (tk_up N 7 3 (N 7 3 + 1)) (C 2 2).toNat c j = tk_up N 7 3 (N 7 3 + 1) c j := fun c j g1 g2 => m_cs_o g1 _ g2
  generalize tk_up C 1 7 (C 1 7 + 1) = C1 at *
  generalize tk_up N 7 3 (N 7 3 + 1) = N1 at *
  generalize g_cs C1 (C 1 6) (C 2 2).toNat = X at *
  generalize m_cs N1 (C 2 2).toNat = Y at *
  have x22 : X 2 2 = C 2 2 := by rw [oX _ _ (by omega) (by omega), u _ _ (by omega)]
  have x23 : X 2 3 = C1 2 3 := oX _ _ (by omega) (by omega)
  have x13 : X 1 3 = C 1 3 := by rw [oX _ _ (by omega) (by omega), u _ _ (by omega)]
  have c22 : C1 2 2 = C 2 2 := u _ _ (by omega)
  have c23 : C1 2 3 = C 2 3 := u _ _ (by omega)
  obtain ⟨r1, r2, r3, r4, r5⟩ := pre1
  refine ⟨hi, lay1.eq (oX _ _ (by omega) (by omega)) x23 (oX _ _ (by omega) (by omega)) (fun k hk => ⟨oX _ _ (by omega) (by omega), oX _ _ (by omega) (by omega)⟩) (fun s hs => ⟨oX _ _ (by omega) (by omega), oX _ _ (by omega) (by omega)⟩) (oY _ _ (by omega) (by omega)) (oY _ _ (by omega) (by omega)) (fun j => oY _ _ (by omega) (by omega)) (fun j => oY _ _ (by omega) (by omega)) (fun j => oY _ _ (by omega) (by omega)), ⟨?_, ?_, fun k hk => ?_, fun s hs => ?_, fun t ht => ?_⟩, ⟨by rw [oY _ _ (by omega) (by omega)]; exact qtm.1, fun t ht => by rw [oY _ _ (by omega) (by omega), oY _ _ (by omega) (by omega)]; exact qtm.2 t ht⟩, ?_, by rw [x13]; exact h6, fun s hs h10 => ?_⟩
  · rw [cs.2, oY 7 3 (by omega) (by omega), oY 7 4 (by omega) (by omega), oY 7 5 (by omega) (by omega), oY 7 6 (by omega) (by omega), oY 7 7 (by omega) (by omega), oY 7 8 (by omega) (by omega), oY 7 10 (by omega) (by omega), oX 1 7 (by omega) (by omega), oX 1 4 (by omega) (by omega), oX 1 5 (by omega) (by omega), oX 1 6 (by omega) (by omega), oX 3 0 (by omega) (by omega), oX 3 1 (by omega) (by omega), oX 2 4 (by omega) (by omega)]
    exact ⟨r1.1, r1.2.1, r1.2.2.1, r1.2.2.2.1, r1.2.2.2.2.1, r1.2.2.2.2.2.1, rfl, r1.2.2.2.2.2.2.2⟩
  · rw [x22, x23, c23]; exact p2
  · rw [x23] at hk
    rw [oY _ _ (by omega) (by omega), oY _ _ (by omega) (by omega), oX _ 2 (by omega) (by omega), oX _ 4 (by omega) (by omega)]; exact r3 k hk
  · rw [x22] at hs
    rw [oY 16 s (by omega) (by omega), oX _ 2 (by omega) (by omega)]
    have q := cs.1 s hs
    exact ⟨q.1, (r4 s (by rw [c22]; exact hs)).2.1, q.2⟩
  · have q := r5 t ht
    have ea : m_a Y t = m_a N1 t := by
      unfold m_a
      rw [oY 23 t (by omega) (by omega), m_at_eq (oY _ _ (by omega) (by omega)) (fun k => oY _ _ (by omega) (by omega))]
    have ez : m_z Y t = m_z N1 t := by
      unfold m_z
      rw [oY 22 t (by omega) (by omega), m_at_eq (oY _ _ (by omega) (by omega)) (fun k => oY _ _ (by omega) (by omega))]
    unfold j_tr at q ⊢
    rw [ea, ez, oY 18 t (by omega) (by omega), oY 19 t (by omega) (by omega), oY 20 t (by omega) (by omega), oY 21 t (by omega) (by omega), oY 22 t (by omega) (by omega), oY 23 t (by omega) (by omega), oY 24 t (by omega) (by omega), oY 25 t (by omega) (by omega), oY 26 t (by omega) (by omega), x23, oX (73 + t) 0 (by omega) (by omega), oX (73 + t) 1 (by omega) (by omega), oX (73 + t) 2 (by omega) (by omega), oX (73 + t) 3 (by omega) (by omega), oX (73 + t) 4 (by omega) (by omega), oX (73 + t) 5 (by omega) (by omega), oX (73 + t) 6 (by omega) (by omega), oX (73 + t) 7 (by omega) (by omega), oX (73 + t) 8 (by omega) (by omega), oX (73 + t) 12 (by omega) (by omega)]
    exact q
  · rw [oY _ _ (by omega) (by omega), d _ _ (by omega), x13]; exact h5
  · rw [x22] at hs
    rw [oY _ _ (by omega) (by omega), oX _ _ (by omega) (by omega), d _ _ (by omega), u _ _ (by omega)]; exact h7 s hs h10
theorem j_tick {C N : tk_M} {K : Int} (h : j_all C N K) (h0 : 0 ≤ K) (hK : K < 9999990) (hb : ¬ C 1 3 = 0) : j_all (f_tick C) (m_tick N) (K + 2) ∧ q_tk N ∧ ¬ f_tick C 1 3 = 0 := by
  have h1 := j_tk h h0 hb
  have h2 := h1.set (by omega) (by omega)
  have e : K + 1 + 1 = K + 2 := by omega
  rw [e] at h2
  obtain ⟨g1, g2, g3, g4, g5, g6, g7⟩ := h
  have k5 := g1.2.2.2.2.1
  obtain ⟨⟨a1, a2, a3, a4, a5, a6, a7, a8⟩, -, -, b4, -⟩ := (g6 hb).1
  refine ⟨h2, ⟨⟨?_, ?_, ?_, ?_, ?_, fun s hs => ?_⟩, ?_, ?_, h1.fi (by omega)⟩, ?_⟩
  · rw [g2.1]; exact g1.1.1
  · rw [g2.1]; exact g1.1.2.1
  · rw [g2.2.1]; exact g1.1.2.2.1
  · rw [g2.2.1]; exact g1.1.2.2.2.1
  · omega
  · rw [g2.1] at hs
    rw [(b4 s hs).1]
    have := k5.2.2.2.2.2.1 s (by have := g1.1.2.1; omega)
    omega
  · omega
  · omega
  · rw [(f_tick_17 g1 h0 (by omega) hb).2]; exact hb
theorem j_ticks : ∀ (n : Nat) {C N : tk_M} {K : Int}, j_all C N K → 0 ≤ K → K + 2 * n < 9999990 → ¬ C 1 3 = 0 → j_all (g_tick n C) (h_tick n N) (K + 2 * n) ∧ ∀ j : Nat, j < n → q_tk (h_tick j N)
  | 0, C, N, K, h, _, _, _ => ⟨by have e : K + 2 * ((0 : Nat) : Int) = K := by omega
                                  rw [e]; exact h, fun j hj => absurd hj (Nat.not_lt_zero _)⟩
  | n + 1, C, N, K, h, h0, hK, hb => by
    obtain ⟨a, b, c⟩ := j_tick h h0 (by omega) hb
    obtain ⟨i1, i2⟩ := j_ticks n a (by omega) (by omega) c
    have e : K + 2 + 2 * (n : Int) = K + 2 * ((n + 1 : Nat) : Int) := by omega
    rw [e] at i1
    refine ⟨i1, fun j hj => ?_⟩
    cases j with
    | zero => exact b
    | succ j => exact i2 j (by omega)
theorem m_tick_0 {N : tk_M} : m_tick N 7 0 = N 7 0 := by
  unfold m_tick
  rw [m_set_0, m_cs_o (by omega) _ (by omega), tk_up_n (by omega)]
theorem h_tick_0 : ∀ (n : Nat) (N : tk_M), h_tick n N 7 0 = N 7 0
  | 0, N => rfl
  | n + 1, N => by
    show h_tick n (m_tick N) 7 0 = N 7 0
    rw [h_tick_0 n, m_tick_0]
theorem s_tick {C N : tk_M} {K : Int} (h : j_all C N K) (hK0 : 0 ≤ K) (hK : K ≤ 9000000) (h0 : N 7 0 = 0) (n : Int) : s_ok cd_5 (c_tick n C) (d_tick n N) (K + 2002) := by
  obtain ⟨h1, h2, h3, h4, h5, h6, h7⟩ := id h
  unfold c_tick d_tick
  rw [h3]
  by_cases c1 : C 1 3 = 0
  · rw [if_pos c1, if_pos c1]; exact s_ok.thr h (by omega) rfl (by decide) _
  · rw [if_neg c1, if_neg c1, (h6 c1).1.1.1]
    by_cases c2 : ¬ (1 ≤ n ∧ n ≤ 1000)
    · rw [if_pos c2, if_pos c2]; exact s_ok.thr h (by omega) rfl (by decide) _
    · rw [if_neg c2, if_neg c2]
      by_cases c3 : 100000000 - C 1 7 < n
      · rw [if_pos c3, if_pos (show 100000000 < C 1 7 + n by omega)]; exact s_ok.thr h (by omega) rfl (by decide) _
      · rw [if_neg c3, if_neg (show ¬ 100000000 < C 1 7 + n by omega)]
        exact s_ok.ret (j_ticks n.toNat h hK0 (by omega) c1).1 (by omega) (by rw [h_tick_0]; exact h0) _
theorem j_held {C N : tk_M} (hp : j_pre C N) (hf : j_fr C) {x num : Int} (hx : 0 < x) : ∀ n i : Nat, i + n = 8 → m_tkn N x num n i = g_held C num x n i
  | 0, i, _ => rfl
  | n + 1, i, hi => by
    unfold m_tkn g_held
    rw [j_held hp hf hx n (i + 1) (by omega)]
    obtain ⟨q1, q2, q3, q4⟩ := hp.2.2.2.2 i (by omega)
    obtain ⟨f1, f2, f3⟩ := hf i (by omega)
    have el := j_loc hp (t := i) (by omega)
    have ec : (¬ (i : Int) = num ∧ x ≤ N 26 i ∧ ¬ m_loc N i = 0 ∧ (m_z N i : Int) < x) ↔ (¬ (i : Int) = num ∧ f_hold C i x = 1) := by
      unfold f_hold
      rw [q2, el, ← f1]
      constructor
      · rintro ⟨z1, z2, z3, z4⟩
        have hl := z3
        rw [f1] at hl
        obtain ⟨y1, y2⟩ := f_loc_ok hl
        have tr := (q4 y1).2.2.2 y2
        refine ⟨z1, if_pos ⟨by omega, by omega, z2⟩⟩
      · rintro ⟨z1, z2⟩
        split at z2
        · rename_i z
          have hl : ¬ C (73 + i) 9 = 0 := f3.resolve_left z.1
          have hl' := hl
          rw [f1] at hl'
          obtain ⟨y1, y2⟩ := f_loc_ok hl'
          have tr := (q4 y1).2.2.2 y2
          exact ⟨z1, z.2.2, hl, by omega⟩
        · omega
    by_cases z : ¬ (i : Int) = num ∧ f_hold C i x = 1
    · rw [if_pos z, if_pos (ec.mpr z)]
    · rw [if_neg z, if_neg (fun y => z (ec.mp y))]
theorem j_ext {C N : tk_M} (hp : j_pre C N) (hf : j_fr C) {w num : Int} (hw : w < C 2 3) : ∀ (n : Nat) (f : Int), 0 ≤ f → m_ext N num w n (f + 1) = g_ext C num w n f + 1
  | 0, f, _ => rfl
  | n + 1, f, h0 => by
    unfold m_ext g_ext
    by_cases hc : f < w
    · have hk := (hp.2.2.1 (f + 1).toNat (by omega)).1
      rw [hk, j_held hp hf (show 0 < f + 1 by omega) 8 0 rfl]
      by_cases hz : C (41 + (f + 1).toNat) 2 = 0 ∧ g_held C num (f + 1) 8 0 = 0
      · rw [if_pos ⟨by omega, hz⟩, if_pos ⟨hc, hz⟩]
        exact j_ext hp hf hw n (f + 1) (by omega)
      · rw [if_neg (fun z => hz z.2), if_neg (fun z => hz z.2)]
    · rw [if_neg (by omega), if_neg (by omega)]
theorem g_ext_in (M : tk_M) (num w : Int) : ∀ (n : Nat) (f : Int), f ≤ g_ext M num w n f ∧ (g_ext M num w n f ≤ w ∨ g_ext M num w n f = f)
  | 0, f => ⟨Int.le_refl _, Or.inr rfl⟩
  | n + 1, f => by
    unfold g_ext
    split
    · have := g_ext_in M num w n (f + 1)
      omega
    · exact ⟨Int.le_refl _, Or.inr rfl⟩
theorem s_request {C N : tk_M} {K : Int} (h : j_all C N K) (h0 : N 7 0 = 0) (t w : Int) : s_ok cd_4 (c_request t w C) (d_request t w N) (K + 2002) := by
  obtain ⟨h1, h2, h3, h4, h5, h6, h7⟩ := id h
  unfold c_request d_request
  rw [h3, h2.2.1]
  by_cases c1 : C 1 3 = 0
  · rw [if_pos c1, if_pos c1]; exact s_ok.thr h (by omega) rfl (by decide) _
  · rw [if_neg c1, if_neg c1]
    by_cases c2 : ¬ (0 ≤ t ∧ t ≤ 7) ∨ ¬ (0 ≤ w ∧ w ≤ C 2 3 - 1)
    · rw [if_pos c2, if_pos c2]; exact s_ok.thr h (by omega) rfl (by decide) _
    · obtain ⟨u, rfl⟩ : ∃ u : Nat, t = (u : Int) := ⟨t.toNat, by omega⟩
      rw [if_neg c2, if_neg c2, Int.toNat_natCast]
      obtain ⟨hp, hf⟩ := h6 c1
      have el := j_loc hp (t := u) (by omega)
      obtain ⟨f1, f2, f3⟩ := hf u (by omega)
      rw [el, ← f1]
      by_cases c3 : C (73 + u) 9 = 0
      · rw [if_pos c3, if_pos c3]; exact s_ok.thr h (by omega) rfl (by decide) _
      · rw [if_neg c3, if_neg c3]
        have c3' := c3
        rw [f1] at c3'
        obtain ⟨y1, y2⟩ := f_loc_ok c3'
        obtain ⟨q1, q2, q3, q4⟩ := hp.2.2.2.2 u (by omega)
        have tr := (q4 y1).2.2.2 y2
        have ez := tr.2.2.2.1
        have pm := (h1.2.2.2.2.2 c1).2 u (by omega) y1 y2
        unfold p_mk at pm
        have hx := j_ext hp hf (w := w) (num := (u : Int)) (by omega) 40 (C (73 + u) 5) (by omega)
        have hg := g_ext_in C (u : Int) w 40 (C (73 + u) 5)
        unfold f_ext m_rq
        rw [ez, hx, q2]
        generalize g_ext C (u : Int) w 40 (C (73 + u) 5) = g at *
        rw [show g + 1 - 1 = g by omega]
        by_cases c4 : C (73 + u) 5 < g ∧ C (73 + u) 12 < g
        · rw [if_pos c4, if_pos c4, tk_up_s, tk_up_s]
          refine s_ok.ret ?_ (show K ≤ K + 2002 by omega) (by rw [tk_up_n (by omega)]; exact h0) _
          have N32 := h1.1.2.2.2.1
          have uu : ∀ c j, ¬ (c = 73 + u ∧ j = 12) → tk_up C (73 + u) 12 g c j = C c j := fun c j g => tk_up_n g
          have us : tk_up C (73 + u) 12 g (73 + u) 12 = g := tk_up_s _ _ _ _
          have dd : ∀ c j, ¬ (c = 26 ∧ j = u) → tk_up N 26 u g c j = N c j := fun c j g => tk_up_n g
          have ds : tk_up N 26 u g 26 u = g := tk_up_s _ _ _ _
          generalize tk_up C (73 + u) 12 g = C' at *
          generalize tk_up N 26 u g = N' at *
          have e22 := uu 2 2 (by omega)
          have e23 := uu 2 3 (by omega)
          have e13 := uu 1 3 (by omega)
          obtain ⟨a1, a2, a3, a4, ⟨k1, k2, k3, k4, k5, k6, k7, k8⟩, a6⟩ := h1
          obtain ⟨p1, p2, p3, p4, p5⟩ := hp
          have S10 := a1.2.1
          refine ⟨⟨p_trk_eq e22 e23 (fun i hi => uu _ _ (by omega)) (fun i hi => uu _ _ (by omega)) a1, fun i hi => ?_, fun i hi => ?_, fun i hi => ?_, ⟨by rw [uu _ _ (by omega)]; exact k1, by rw [uu _ _ (by omega)]; exact k2, by rw [uu _ _ (by omega)]; exact k3, by rw [uu _ _ (by omega)]; exact k4, by rw [uu _ _ (by omega)]; exact k5, fun i hi => by rw [uu _ _ (by omega)]; exact k6 i hi, by rw [uu _ _ (by omega)]; exact k7, by rw [uu _ _ (by omega), e23]; exact k8⟩, fun hb => ⟨by rw [e13] at hb; have := (a6 hb).1; omega, fun i hi hc hr => ?_⟩⟩, h2.eq e22 e23 (uu _ _ (by omega)) (fun i hi => ⟨uu _ _ (by omega), uu _ _ (by omega)⟩) (fun i hi => ⟨uu _ _ (by omega), uu _ _ (by omega)⟩) (dd _ _ (by omega)) (dd _ _ (by omega)) (fun j => dd _ _ (by omega)) (fun j => dd _ _ (by omega)) (fun j => dd _ _ (by omega)), by rw [dd _ _ (by omega), e13]; exact h3, fun s hs => by rw [dd _ _ (by omega), uu _ _ (by omega)]; exact h4 s hs, ⟨by rw [dd _ _ (by omega)]; exact h5.1, fun i hi => by rw [dd _ _ (by omega), dd _ _ (by omega)]; exact h5.2 i hi⟩, fun hb => ⟨⟨?_, by omega, fun k hk => ?_, fun i hi => ?_, fun i hi => ?_⟩, fun i hi => ?_⟩, fun hb => by rw [e13] at hb; exact absurd hb c1⟩
          · rw [uu _ _ (by omega)]; exact a2 i hi
          · rw [e22] at hi
            rw [uu _ 0 (by omega), uu _ 1 (by omega)]; exact a3 i hi
          · rw [uu _ 3 (by omega), uu _ 8 (by omega), uu _ 1 (by omega)]
            refine ⟨?_, (a4 i hi).2⟩
            by_cases e : i = u
            · subst e; rw [us]; omega
            · rw [uu _ _ (by omega)]; exact (a4 i hi).1
          · rw [e13] at hb
            rw [uu _ 0 (by omega)] at hc
            rw [uu _ 2 (by omega)] at hr
            have := (a6 hb).2 i hi hc hr
            unfold p_mk at this ⊢
            rw [uu _ 6 (by omega), uu _ 5 (by omega), e23]
            exact this
          · rw [dd 7 3 (by omega), dd 7 4 (by omega), dd 7 5 (by omega), dd 7 6 (by omega), dd 7 7 (by omega), dd 7 8 (by omega), dd 7 9 (by omega), dd 7 10 (by omega), uu 1 7 (by omega), uu 1 4 (by omega), uu 1 5 (by omega), uu 1 6 (by omega), uu 3 0 (by omega), uu 3 1 (by omega), uu 2 5 (by omega), uu 2 4 (by omega)]
            exact p1
          · rw [e23] at hk
            rw [dd _ _ (by omega), dd _ _ (by omega), uu _ 2 (by omega), uu _ 4 (by omega)]; exact p3 k hk
          · rw [e22] at hi
            rw [dd _ _ (by omega), dd _ _ (by omega), dd _ _ (by omega), uu _ 3 (by omega), uu _ 2 (by omega), uu _ 4 (by omega)]; exact p4 i hi
          · obtain ⟨v1, v2, v3, v4⟩ := p5 i hi
            have ea : m_a N' i = m_a N i := by
              unfold m_a
              rw [dd 23 i (by omega), m_at_eq (dd _ _ (by omega)) (fun k => dd _ _ (by omega))]
            have ez : m_z N' i = m_z N i := by
              unfold m_z
              rw [dd 22 i (by omega), m_at_eq (dd _ _ (by omega)) (fun k => dd _ _ (by omega))]
            unfold j_tr
            rw [ea, ez, dd 18 i (by omega), dd 19 i (by omega), dd 20 i (by omega), dd 21 i (by omega), dd 22 i (by omega), dd 23 i (by omega), dd 24 i (by omega), dd 25 i (by omega), e23, uu (73 + i) 0 (by omega), uu (73 + i) 1 (by omega), uu (73 + i) 2 (by omega), uu (73 + i) 3 (by omega), uu (73 + i) 4 (by omega), uu (73 + i) 5 (by omega), uu (73 + i) 6 (by omega), uu (73 + i) 7 (by omega), uu (73 + i) 8 (by omega)]
            by_cases e : i = u
            · subst e
              rw [us, ds]
              exact ⟨v1, rfl, by omega, v4⟩
            · rw [uu _ _ (by omega), dd _ _ (by omega)]
              exact ⟨v1, v2, v3, v4⟩
          · have q := hf i hi
            unfold f_loc f_who at q ⊢
            rw [uu (73 + i) 0 (by omega), uu (73 + i) 2 (by omega), uu (73 + i) 3 (by omega), uu (73 + i) 7 (by omega), uu (73 + i) 8 (by omega), uu (73 + i) 9 (by omega), uu (73 + i) 10 (by omega), uu 1 7 (by omega), uu 1 4 (by omega), uu 1 5 (by omega)]
            refine ⟨q.1, q.2.1, ?_⟩
            by_cases e : i = u
            · subst e; exact Or.inr c3
            · rw [uu _ _ (by omega)]; exact q.2.2
        · rw [if_neg c4, if_neg c4, q2]
          exact s_ok.ret h (by omega) h0 _
