/-! SIDE BY SIDE: report, tick, request -/
theorem f_tk1_o {C : tk_M} {t : Nat} {pl it : Int} {c j : Nat} (h : ¬ (c = 73 + t ∧ j = 6)) : f_tk1 C t pl it c j = C c j := by
  unfold f_tk1
  split
  · exact tk_up_n h
  · rfl
theorem f_tk2_o {C : tk_M} {t : Nat} {pl it tm : Int} {c j : Nat} (h : ¬ (c = 73 + t ∧ (j = 2 ∨ j = 3 ∨ j = 4 ∨ j = 5))) : f_tk2 C t pl it tm c j = C c j := by
  unfold f_tk2
  rw [tk_up_n (by omega), tk_up_n (by omega), tk_up_n (by omega), tk_up_n (by omega)]
theorem f_tk3_o {C : tk_M} {t : Nat} {it tm : Int} {c j : Nat} (h : ¬ (c = 73 + t ∧ (j = 7 ∨ j = 8))) : f_tk3 C t it tm c j = C c j := by
  unfold f_tk3
  split
  · rw [tk_up_n (by omega), tk_up_n (by omega)]
  · split
    · rw [tk_up_n (by omega)]
    · rfl
theorem m_rp1_o {N : tk_M} {t : Nat} {pl it : Int} {c j : Nat} (h : ¬ (c = 23 ∧ j = t)) : m_rp1 N t pl it c j = N c j := by
  unfold m_rp1
  split
  · exact tk_up_n h
  · rfl
theorem m_rp2_o {N : tk_M} {t : Nat} {pl tm : Int} {c j : Nat} (h : ¬ ((c = 19 ∨ c = 22 ∨ c = 24) ∧ j = t)) : m_rp2 N t pl tm c j = N c j := by
  unfold m_rp2
  rw [tk_up_n (by omega), tk_up_n (by omega), tk_up_n (by omega)]
theorem m_rp3_o {N : tk_M} {t : Nat} {it tm : Int} {c j : Nat} (h : ¬ ((c = 20 ∨ c = 25) ∧ j = t)) : m_rp3 N t it tm c j = N c j := by
  unfold m_rp3
  split
  · rw [tk_up_n (by omega), tk_up_n (by omega)]
  · split
    · rw [tk_up_n (by omega)]
    · rfl
theorem j_rep {C N : tk_M} {K : Int} (h : j_all C N K) (hb : ¬ C 1 3 = 0) {t : Nat} (ht : t < 8) {pl it : Int} (g1 : 0 ≤ pl) (hc : ¬ C (73 + t) 0 = 0) (hw : ¬ (¬ C (73 + t) 2 = 0 ∧ pl < C (73 + t) 4)) : j_one (f_take C t pl it (C 1 7)) (m_rep N t pl it) K := by
  have h1 := j_one.of h hb
  have hlay := h1.2.1
  have hp := h1.2.2.1
  obtain ⟨q1, q2, q3, q4⟩ := hp.2.2.2.2 t ht
  obtain ⟨r1, r2, ⟨r3, r3'⟩, r4⟩ := q4 hc
  have a := h1.1.2.2.2.1 t ht
  have qt := h1.2.2.2.1.2 t ht
  have hN := (h1.1.2.2.2.2.2 hb).1
  have hN32 := h1.1.1.2.2.2.1
  have e73 : N 7 3 = C 1 7 := hp.1.1
  have tm0 : 0 ≤ C 1 7 := h1.1.2.2.2.2.1.1
  have u : ∀ c j, c ≠ 73 + t → f_take C t pl it (C 1 7) c j = C c j := fun c j g => by unfold f_take; rw [f_tk3_o (by omega), f_tk2_o (by omega), f_tk1_o (by omega)]
  have uo : ∀ j, j = 0 ∨ j = 1 ∨ j = 12 → f_take C t pl it (C 1 7) (73 + t) j = C (73 + t) j := fun j g => by unfold f_take; rw [f_tk3_o (by omega), f_tk2_o (by omega), f_tk1_o (by omega)]
  have u2 : f_take C t pl it (C 1 7) (73 + t) 2 = 1 := by unfold f_take; rw [f_tk3_o (by omega)]; unfold f_tk2; rw [tk_up_n (by omega), tk_up_s]
  have u3 : f_take C t pl it (C 1 7) (73 + t) 3 = C 1 7 := by unfold f_take; rw [f_tk3_o (by omega)]; unfold f_tk2; rw [tk_up_s]
  have u4 : f_take C t pl it (C 1 7) (73 + t) 4 = pl := by unfold f_take; rw [f_tk3_o (by omega)]; unfold f_tk2; rw [tk_up_n (by omega), tk_up_n (by omega), tk_up_n (by omega), tk_up_s]
  have u5 : f_take C t pl it (C 1 7) (73 + t) 5 = f_at C pl (C 2 3 - 1).toNat := by
    unfold f_take
    rw [f_tk3_o (by omega)]
    unfold f_tk2
    rw [tk_up_n (by omega), tk_up_n (by omega), tk_up_s, f_tk1_o (by omega)]
    exact f_at_eq (n := 31) (fun k hk => by rw [tk_up_n (by omega), f_tk1_o (by omega)]) pl _ (by omega)
  have u6 : f_take C t pl it (C 1 7) (73 + t) 6 = if C (73 + t) 2 = 0 ∨ it = 1 then f_at C (f_max 0 (pl - C (73 + t) 1)) (C 2 3 - 1).toNat else C (73 + t) 6 := by
    unfold f_take
    rw [f_tk3_o (by omega), f_tk2_o (by omega)]
    unfold f_tk1
    split
    · rw [tk_up_s]
    · rfl
  have u7 : f_take C t pl it (C 1 7) (73 + t) 7 = if it = 1 then 1 else if it = 2 then 0 else C (73 + t) 7 := by
    unfold f_take f_tk3
    split
    · rw [tk_up_n (by omega), tk_up_s]
    · split
      · rw [tk_up_s]
      · rw [f_tk2_o (by omega), f_tk1_o (by omega)]
  have u8 : f_take C t pl it (C 1 7) (73 + t) 8 = if it = 1 then C 1 7 else C (73 + t) 8 := by
    unfold f_take f_tk3
    split
    · rw [tk_up_s]
    · split
      · rw [tk_up_n (by omega), f_tk2_o (by omega), f_tk1_o (by omega)]
      · rw [f_tk2_o (by omega), f_tk1_o (by omega)]
  have d : ∀ c j, ¬ (19 ≤ c ∧ c ≤ 25 ∧ j = t) → m_rep N t pl it c j = N c j := fun c j g => by unfold m_rep; rw [m_rp3_o (by omega), m_rp2_o (by omega), m_rp1_o (by omega)]
  have d21 : m_rep N t pl it 21 t = N 21 t := by unfold m_rep; rw [m_rp3_o (by omega), m_rp2_o (by omega), m_rp1_o (by omega)]
  have d19 : m_rep N t pl it 19 t = 1 := by unfold m_rep; rw [m_rp3_o (by omega)]; unfold m_rp2; rw [tk_up_n (by omega), tk_up_n (by omega), tk_up_s]
  have d22 : m_rep N t pl it 22 t = pl := by unfold m_rep; rw [m_rp3_o (by omega)]; unfold m_rp2; rw [tk_up_n (by omega), tk_up_s]
  have d24 : m_rep N t pl it 24 t = C 1 7 := by unfold m_rep; rw [m_rp3_o (by omega)]; unfold m_rp2; rw [tk_up_s, e73]
  have d23 : m_rep N t pl it 23 t = if C (73 + t) 2 = 0 ∨ it = 1 then f_max 0 (pl - C (73 + t) 1) else N 23 t := by
    unfold m_rep
    rw [m_rp3_o (by omega), m_rp2_o (by omega)]
    unfold m_rp1
    rw [r1, r3]
    split
    · rw [tk_up_s]
      unfold f_max
      (repeat' split) <;> omega
    · rfl
  have d20 : m_rep N t pl it 20 t = if it = 1 then 1 else if it = 2 then 0 else C (73 + t) 7 := by
    unfold m_rep m_rp3
    split
    · rw [tk_up_n (by omega), tk_up_s]
    · split
      · rw [tk_up_s]
      · rw [m_rp2_o (by omega), m_rp1_o (by omega), r2]
  have d25 : m_rep N t pl it 25 t = if it = 1 then C 1 7 else N 25 t := by
    unfold m_rep m_rp3
    split
    · rw [tk_up_s, e73]
    · split
      · rw [tk_up_n (by omega), m_rp2_o (by omega), m_rp1_o (by omega)]
      · rw [m_rp2_o (by omega), m_rp1_o (by omega)]
  generalize f_take C t pl it (C 1 7) = C' at *
  generalize m_rep N t pl it = N' at *
  have lay' : j_lay C' N' := hlay.eq (u _ _ (by omega)) (u _ _ (by omega)) (u _ _ (by omega)) (fun k hk => ⟨u _ _ (by omega), u _ _ (by omega)⟩) (fun s hs => ⟨u _ _ (by omega), u _ _ (by omega)⟩) (d _ _ (by omega)) (d _ _ (by omega)) (fun j => d _ _ (by omega)) (fun j => d _ _ (by omega)) (fun j => d _ _ (by omega))
  have eat : ∀ p : Int, ((m_at N' p 32 0 : Nat) : Int) = f_at C p (C 2 3 - 1).toNat := fun p => by
    rw [m_at_eq (N := N') (M := N) (d _ _ (by omega)) (fun k => d _ _ (by omega))]
    exact j_at hlay hN p
  have eold : ∀ p : Int, ((m_at N p 32 0 : Nat) : Int) = f_at C p (C 2 3 - 1).toNat := fun p => j_at hlay hN p
  have fin := f_at_in C pl (C 2 3 - 1).toNat
  have ea : (m_a N' t : Int) = C' (73 + t) 6 := by
    unfold m_a
    rw [eat, d23, u6]
    by_cases g : C (73 + t) 2 = 0 ∨ it = 1
    · rw [if_pos g, if_pos g]
    · rw [if_neg g, if_neg g]
      have := (r4 (by omega)).2.2.1
      rw [← this]
      unfold m_a
      exact (eold _).symm
  have ez : (m_z N' t : Int) = C' (73 + t) 5 := by
    unfold m_z
    rw [eat, d22, u5]
  have le : N' 23 t ≤ N' 22 t := by
    rw [d23, d22]
    by_cases g : C (73 + t) 2 = 0 ∨ it = 1
    · rw [if_pos g]
      unfold f_max
      split <;> omega
    · rw [if_neg g]
      have := r4 (by omega)
      omega
  refine h1.tr ht u (fun c j g => d c j (by omega)) ?_ ?_ ?_ ?_
  · refine ⟨?_, ?_, ?_, fun _ => ⟨by rw [d19, u2], by rw [d20, u7], ⟨?_, fun _ => by rw [u2]; decide⟩, fun _ => ⟨by rw [d22, u4], by rw [d24, u3], ea, ez, le, fun g7 => ?_⟩⟩⟩
    · rw [d _ _ (by omega), uo 0 (by omega)]; exact q1
    · rw [d _ _ (by omega), uo 12 (by omega)]; exact q2
    · rw [uo 12 (by omega), u 2 3 (by omega)]; exact q3
    · rw [d21, uo 1 (by omega)]; exact r3
    · rw [d25, u8]
      by_cases g : it = 1
      · rw [if_pos g, if_pos g]
      · rw [if_neg g, if_neg g]
        rw [u7, if_neg g] at g7
        by_cases g2 : it = 2
        · rw [if_pos g2] at g7; exact absurd rfl g7
        · rw [if_neg g2] at g7
          exact (r4 (r3' g7)).2.2.2.2.2 g7
  · rw [d24, d25]
    refine ⟨tm0, ?_⟩
    split
    · exact tm0
    · exact qt.2
  · rw [uo 12 (by omega), u3, u8, uo 1 (by omega)]
    refine ⟨a.1, tm0, ?_, a.2.2.2⟩
    split
    · exact tm0
    · exact a.2.2.1
  · intro _ _
    have hm : m_a N' t ≤ m_z N' t := by
      have : (m_a N' t : Int) ≤ (m_z N' t : Int) := by
        unfold m_a m_z
        rw [eat, eat]
        exact f_at_mono C le _
      omega
    unfold p_mk
    rw [← ea, ← ez, u 2 3 (by omega)]
    refine ⟨by omega, by omega, ?_⟩
    rw [ez, u5]
    omega
theorem s_report {C N : tk_M} {K : Int} (h : j_all C N K) (hK0 : 0 ≤ K) (hK : K ≤ 9000000) (h0 : N 7 0 = 0) (t pl it : Int) : s_ok cd_4 (c_report t pl it C) (d_report t pl it N) (K + 2002) := by
  obtain ⟨h1, h2, h3, h4, h5, h6, h7⟩ := id h
  unfold c_report d_report
  rw [h3]
  by_cases c1 : C 1 3 = 0
  · rw [if_pos c1, if_pos c1]; exact s_ok.thr h (by omega) rfl (by decide) _
  · rw [if_neg c1, if_neg c1, (h6 c1).1.1.2.2.2.2.2.2.2]
    by_cases c2 : ¬ (0 ≤ t ∧ t ≤ 7) ∨ ¬ (0 ≤ it ∧ it ≤ 2) ∨ ¬ (0 ≤ pl ∧ pl ≤ C 2 4)
    · rw [if_pos c2, if_pos c2]; exact s_ok.thr h (by omega) rfl (by decide) _
    · obtain ⟨q1, q2, q3, q4⟩ := (h6 c1).1.2.2.2.2 t.toNat (by omega)
      rw [if_neg c2, if_neg c2, q1]
      by_cases c3 : C (73 + t.toNat) 0 = 0
      · rw [if_pos c3, if_pos c3]; exact s_ok.thr h (by omega) rfl (by decide) _
      · obtain ⟨r1, r2, r3, r4⟩ := q4 c3
        rw [if_neg c3, if_neg c3, r1]
        have ew : (¬ C (73 + t.toNat) 2 = 0 ∧ pl < N 22 t.toNat) ↔ (¬ C (73 + t.toNat) 2 = 0 ∧ pl < C (73 + t.toNat) 4) := by
          by_cases g : C (73 + t.toNat) 2 = 0
          · exact ⟨fun z => absurd g z.1, fun z => absurd g z.1⟩
          · rw [(r4 g).1]
        by_cases c4 : ¬ C (73 + t.toNat) 2 = 0 ∧ pl < C (73 + t.toNat) 4
        · rw [if_pos c4, if_pos (ew.mpr c4)]
          exact s_ok.ret h (by omega) h0 _
        · rw [if_neg c4, if_neg (fun z => c4 (ew.mp z))]
          exact s_ok.ret ((j_rep h c1 (t := t.toNat) (by omega) (by omega) c3 c4).set hK0 (by omega)) (by omega) (by rw [m_set_0]; unfold m_rep; rw [m_rp3_o (by omega), m_rp2_o (by omega), m_rp1_o (by omega)]; exact h0) _
/-- counting for spreads in both -/
theorem j_cs {C N : tk_M} (hl : j_lay C N) (hp : j_pre C N) (hr : ∀ s : Nat, (s : Int) < C 2 2 → 0 ≤ C (31 + s) 0 ∧ C (31 + s) 1 < 32) : ∀ n : Nat, (n : Int) ≤ C 2 2 → (∀ s : Nat, (s : Int) < C 2 2 → m_cs N n 11 s = g_cs C (C 1 6) n (31 + s) 3 ∧ m_cs N n 17 s = g_cs C (C 1 6) n (31 + s) 4) ∧ m_cs N n 7 9 = g_cs C (C 1 6) n 2 5
  | 0, _ => ⟨fun s hs => ⟨(hp.2.2.2.1 s hs).1, (hp.2.2.2.1 s hs).2.2⟩, hp.1.2.2.2.2.2.2.1⟩
  | n + 1, hn => by
    obtain ⟨i1, i2⟩ := j_cs hl hp hr n (by omega)
    have h10 := hl.2.2.1
    have oX : ∀ c j, ¬ (c = 2 ∧ j = 5) → ¬ (j = 3 ∨ j = 4) → g_cs C (C 1 6) n c j = C c j := fun c j g1 g2 => g_cs_o g1 n (by omega)
    have oY : ∀ c j, ¬ (c = 7 ∧ j = 9) → c ≠ 11 → c ≠ 17 → m_cs N n c j = N c j := fun c j g1 g2 g3 => m_cs_o g1 n (by omega)
    have eu : f_uns (g_cs C (C 1 6) n) (31 + n) = f_uns C (31 + n) := f_uns_eq (oX _ _ (by omega) (by omega)) (oX _ _ (by omega) (by omega)) (oX _ _ (by omega) (by omega)) (fun i hi => oX _ _ (by omega) (by omega))
    have eh : m_hld (m_cs N n) n = m_hld N n := m_hld_eq (oY _ _ (by omega) (by omega) (by omega)) (oY _ _ (by omega) (by omega) (by omega)) (fun k => oY _ _ (by omega) (by omega) (by omega)) (fun k => oY _ _ (by omega) (by omega) (by omega))
    have ej : m_hld N n = f_uns C (31 + n) := j_uns hl (fun k hk => (hp.2.2.1 k hk).1) (by omega) (hp.2.2.2.1 n (by omega)).2.1
    have e6 : m_cs N n 7 6 = C 1 6 := by rw [oY _ _ (by omega) (by omega) (by omega)]; exact hp.1.2.2.2.1
    have eX : g_cs C (C 1 6) (n + 1) = if f_uns (g_cs C (C 1 6) n) (31 + n) = 1 then f_cs (g_cs C (C 1 6) n) (31 + n) (C 1 6) else g_cs C (C 1 6) n := rfl
    have eY : m_cs N (n + 1) = m_c1 (m_cs N n) n := rfl
    rw [eX, eY, eu]
    unfold m_c1
    rw [eh, ej, e6, (i1 n (by omega)).1, i2]
    have h01 := f_uns01 C (31 + n)
    generalize g_cs C (C 1 6) n = X at *
    generalize m_cs N n = Y at *
    by_cases hz : f_uns C (31 + n) = 0
    · rw [if_pos hz, if_neg (show ¬ f_uns C (31 + n) = 1 by omega)]
      exact ⟨i1, i2⟩
    · rw [if_neg hz, if_pos (show f_uns C (31 + n) = 1 by omega)]
      unfold f_cs
      by_cases hc : X (31 + n) 3 + 1 < C 1 6
      · rw [if_pos hc, if_pos hc]
        refine ⟨fun s hs => ?_, ?_⟩
        · rw [tk_up_n (c := 11) (a := 17) (by omega), tk_up_n (b := 4) (by omega)]
          refine ⟨?_, (i1 s hs).2⟩
          by_cases e : s = n
          · subst e; rw [tk_up_s, tk_up_s]
          · rw [tk_up_n (by omega), tk_up_n (by omega)]; exact (i1 s hs).1
        · rw [tk_up_n (by omega), tk_up_n (by omega)]; exact i2
      · rw [if_neg hc, if_neg hc]
        refine ⟨fun s hs => ?_, ?_⟩
        · by_cases e : s = n
          · subst e
            refine ⟨?_, ?_⟩
            · rw [tk_up_s, tk_up_n (by omega), tk_up_n (by omega), tk_up_s]
            · rw [tk_up_n (by omega), tk_up_n (by omega), tk_up_s, tk_up_n (by omega), tk_up_s]
          · refine ⟨?_, ?_⟩
            · rw [tk_up_n (by omega), tk_up_n (by omega), tk_up_n (by omega), tk_up_n (by omega), tk_up_n (by omega), tk_up_n (by omega), tk_up_n (by omega), tk_up_n (by omega)]; exact (i1 s hs).1
            · rw [tk_up_n (by omega), tk_up_n (by omega), tk_up_n (by omega), tk_up_n (by omega), tk_up_n (by omega), tk_up_n (by omega), tk_up_n (by omega), tk_up_n (by omega)]; exact (i1 s hs).2
        · rw [tk_up_n (by omega), tk_up_s, tk_up_s]
