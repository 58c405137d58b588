/-! SIDE BY SIDE: calls that build the track; that begin; that clear -/
theorem s_section {C N : tk_M} {K : Int} (h : j_all C N K) (h0 : N 7 0 = 0) : s_ok cd_1 (c_section C) (d_section N) (K + 2002) := by
  obtain ⟨h1, h2, h3, h4, h5, h6, h7⟩ := id h
  obtain ⟨l1, l2, l3, l4, l5, l6, l7, l8, l9, l10⟩ := id h2
  unfold c_section d_section
  rw [h3, j_bare h2, l1, l2]
  by_cases c1 : ¬ C 1 3 = 0 ∨ ¬ f_bare C = 0
  · rw [if_pos c1, if_pos c1]; exact s_ok.thr h (by omega) rfl (by decide) _
  · rw [if_neg c1, if_neg c1]
    by_cases c2 : C 2 2 = 10
    · rw [if_pos (by omega), if_pos c2]; exact s_ok.thr h (by omega) rfl (by decide) _
    · rw [if_neg (by omega), if_neg c2]
      have hb : C 1 3 = 0 := by omega
      have hbare : f_bare C = 0 := by omega
      obtain ⟨S, eS⟩ : ∃ S : Nat, C 2 2 = (S : Int) := ⟨(C 2 2).toNat, by omega⟩
      have e0 : (C 2 2).toNat = S := by omega
      have ef : f_adds C = tk_up (tk_up (tk_up C (31 + S) 0 (C 2 3)) (31 + S) 1 (C 2 3 - 1)) 2 2 (C 2 2 + 1) := by unfold f_adds; rw [e0]
      rw [e0, ef]
      obtain ⟨a1, a2, a3, a4, ⟨k1, k2, k3, k4, k5, k6, k7, k8⟩, a6⟩ := h1
      obtain ⟨t1, t2, t3, t4, t5, t6⟩ := id a1
      have u : ∀ c j, ¬ (c = 31 + S ∧ j < 2) → ¬ (c = 2 ∧ j = 2) → tk_up (tk_up (tk_up C (31 + S) 0 (C 2 3)) (31 + S) 1 (C 2 3 - 1)) 2 2 (C 2 2 + 1) c j = C c j := fun c j g1 g2 => by
        rw [tk_up_n g2, tk_up_n (by omega), tk_up_n (by omega)]
      have u22 : tk_up (tk_up (tk_up C (31 + S) 0 (C 2 3)) (31 + S) 1 (C 2 3 - 1)) 2 2 (C 2 2 + 1) 2 2 = C 2 2 + 1 := tk_up_s _ _ _ _
      have uS0 : tk_up (tk_up (tk_up C (31 + S) 0 (C 2 3)) (31 + S) 1 (C 2 3 - 1)) 2 2 (C 2 2 + 1) (31 + S) 0 = C 2 3 := by rw [tk_up_n (by omega), tk_up_n (by omega), tk_up_s]
      have uS1 : tk_up (tk_up (tk_up C (31 + S) 0 (C 2 3)) (31 + S) 1 (C 2 3 - 1)) 2 2 (C 2 2 + 1) (31 + S) 1 = C 2 3 - 1 := by rw [tk_up_n (by omega), tk_up_s]
      have d : ∀ c j, ¬ (c = 10 ∧ j = S) → ¬ (c = 7 ∧ j = 1) → tk_up (tk_up N 10 S (C 2 3)) 7 1 (C 2 2 + 1) c j = N c j := fun c j g1 g2 => by rw [tk_up_n g2, tk_up_n g1]
      have d71 : tk_up (tk_up N 10 S (C 2 3)) 7 1 (C 2 2 + 1) 7 1 = C 2 2 + 1 := tk_up_s _ _ _ _
      have d10 : tk_up (tk_up N 10 S (C 2 3)) 7 1 (C 2 2 + 1) 10 S = C 2 3 := by rw [tk_up_n (by omega), tk_up_s]
      generalize tk_up (tk_up (tk_up C (31 + S) 0 (C 2 3)) (31 + S) 1 (C 2 3 - 1)) 2 2 (C 2 2 + 1) = C' at *
      generalize tk_up (tk_up N 10 S (C 2 3)) 7 1 (C 2 2 + 1) = N' at *
      have c23 : C' 2 3 = C 2 3 := u _ _ (by omega) (by omega)
      have c24 : C' 2 4 = C 2 4 := u _ _ (by omega) (by omega)
      have c13 : C' 1 3 = C 1 3 := u _ _ (by omega) (by omega)
      have fin : j_all C' N' K := by
        refine ⟨⟨⟨by omega, by omega, by omega, by omega, fun i hi => ?_, fun g => ?_⟩, fun i hi => ?_, fun i hi => ?_, fun t ht => ?_, ⟨by rw [u _ _ (by omega) (by omega)]; exact k1, by rw [u _ _ (by omega) (by omega)]; exact k2, by rw [u _ _ (by omega) (by omega)]; exact k3, by rw [u _ _ (by omega) (by omega)]; exact k4, by rw [u _ _ (by omega) (by omega)]; exact k5, fun i hi => by rw [u _ _ (by omega) (by omega)]; exact k6 i hi, by omega, by omega⟩, fun g => absurd (by omega) g⟩, ⟨by omega, by rw [d _ _ (by omega) (by omega)]; omega, by omega, fun k hk => ?_, ?_, by rw [d _ _ (by omega) (by omega)]; exact l6, fun k hk => ?_, fun s hs => ?_, fun k s hk hs => ?_, fun g => ?_⟩, by rw [d _ _ (by omega) (by omega), c13]; exact h3, fun s hs => ?_, ⟨by rw [d _ _ (by omega) (by omega)]; exact h5.1, fun t ht => by rw [d _ _ (by omega) (by omega), d _ _ (by omega) (by omega)]; exact h5.2 t ht⟩, fun g => absurd (by omega) g, fun _ => ?_⟩
        · rw [c23] at hi
          rw [u _ _ (by omega) (by omega)]; exact t5 i hi
        · rw [c23] at g
          have q := t5 0 (by omega)
          have q2 := l4 0 (by omega)
          simp only [Nat.add_zero] at q q2
          rw [u 41 0 (by omega) (by omega), u _ _ (by omega) (by omega)]
          exact t6 g
        · rw [u _ _ (by omega) (by omega)]; exact a2 i hi
        · by_cases e : i = S
          · subst e
            rw [uS0, uS1]; omega
          · rw [u _ _ (by omega) (by omega), u _ _ (by omega) (by omega)]; exact a3 i (by omega)
        · rw [u _ _ (by omega) (by omega), u _ _ (by omega) (by omega), u _ _ (by omega) (by omega), u _ _ (by omega) (by omega)]; exact a4 t ht
        · rw [c23] at hk
          have := l4 k hk
          rw [d _ _ (by omega) (by omega), d _ _ (by omega) (by omega), u (41 + k) 0 (by omega) (by omega), u (41 + k) 1 (by omega) (by omega), u22]
          omega
        · rw [c23, c24, d _ _ (by omega) (by omega)]; exact l5
        · rw [c23] at hk
          rw [d _ _ (by omega) (by omega), d _ _ (by omega) (by omega)]; exact l7 k hk
        · rw [c23]
          by_cases e : s = S
          · subst e
            rw [d10, uS0, uS1]; omega
          · rw [d _ _ (by omega) (by omega), u _ _ (by omega) (by omega), u _ _ (by omega) (by omega)]; exact l8 s (by omega)
        · rw [c23] at hk
          rw [u (41 + k) 0 (by omega) (by omega)]
          by_cases e : s = S
          · subst e
            have := l4 k hk
            rw [uS0, uS1]; omega
          · rw [u _ _ (by omega) (by omega), u _ _ (by omega) (by omega)]; exact l9 k s hk (by omega)
        · rw [u22, show (C 2 2 + 1 - 1).toNat = S by omega, uS1, c23]
        · rw [d _ _ (by omega) (by omega), u _ _ (by omega) (by omega)]; exact h4 s hs
        · obtain ⟨i1, i2, i3, i4, i5⟩ := h7 hb
          exact ⟨by rw [d _ _ (by omega) (by omega)]; exact i1, by rw [d _ _ (by omega) (by omega)]; exact i2, by rw [d _ _ (by omega) (by omega)]; exact i3, by rw [d _ _ (by omega) (by omega)]; exact i4, fun s hs => by rw [d _ _ (by omega) (by omega), d _ _ (by omega) (by omega)]; exact i5 s hs⟩
      exact s_ok.ret fin (by omega) (by rw [d _ _ (by omega) (by omega)]; exact h0) _
theorem s_sub {C N : tk_M} {K : Int} (h : j_all C N K) (h0 : N 7 0 = 0) (x : Int) : s_ok cd_2 (c_sub x C) (d_sub x N) (K + 2002) := by
  obtain ⟨h1, h2, h3, h4, h5, h6, h7⟩ := id h
  obtain ⟨l1, l2, l3, l4, l5, l6, l7, l8, l9, l10⟩ := id h2
  unfold c_sub d_sub
  rw [h3, l1, l2]
  by_cases c0 : ¬ (1 ≤ x ∧ x ≤ 100000)
  · rw [if_pos c0, if_pos c0]; exact s_ok.thr h (by omega) rfl (by decide) _
  · rw [if_neg c0, if_neg c0]
    by_cases c1 : ¬ C 1 3 = 0 ∨ C 2 2 = 0
    · rw [if_pos c1, if_pos c1]; exact s_ok.thr h (by omega) rfl (by decide) _
    · rw [if_neg c1, if_neg c1]
      by_cases c2 : C 2 3 = 32
      · rw [if_pos (by omega), if_pos c2]; exact s_ok.thr h (by omega) rfl (by decide) _
      · rw [if_neg (by omega), if_neg c2]
        have hb : C 1 3 = 0 := by omega
        obtain ⟨n, en⟩ : ∃ n : Nat, C 2 3 = (n : Int) := ⟨(C 2 3).toNat, by omega⟩
        obtain ⟨S, eS⟩ : ∃ S : Nat, C 2 2 = (S : Int) + 1 := ⟨(C 2 2 - 1).toNat, by omega⟩
        have e0 : (C 2 3).toNat = n := by omega
        have e1 : (C 2 3 + 1).toNat = n + 1 := by omega
        have e2 : (C 2 2 - 1).toNat = S := by omega
        have ef : f_addu C x = tk_up (tk_up (tk_up (tk_up (tk_up C (41 + n) 0 (C 2 2 - 1)) (41 + n) 1 (C 2 4)) (31 + S) 1 (C 2 3)) 2 4 (C 2 4 + x)) 2 3 (C 2 3 + 1) := by unfold f_addu; rw [e0, e2]
        rw [e0] at l5
        rw [e0, e1, ef, l5]
        obtain ⟨a1, a2, a3, a4, ⟨k1, k2, k3, k4, k5, k6, k7, k8⟩, a6⟩ := h1
        obtain ⟨t1, t2, t3, t4, t5, t6⟩ := id a1
        have l10 := l10 (by omega)
        rw [e2] at l10
        have u : ∀ c j, ¬ (c = 41 + n ∧ j < 2) → ¬ (c = 31 + S ∧ j = 1) → ¬ (c = 2 ∧ (j = 3 ∨ j = 4)) → tk_up (tk_up (tk_up (tk_up (tk_up C (41 + n) 0 (C 2 2 - 1)) (41 + n) 1 (C 2 4)) (31 + S) 1 (C 2 3)) 2 4 (C 2 4 + x)) 2 3 (C 2 3 + 1) c j = C c j := fun c j g1 g2 g3 => by
          rw [tk_up_n (by omega), tk_up_n (by omega), tk_up_n (by omega), tk_up_n (by omega), tk_up_n (by omega)]
        have u23 : tk_up (tk_up (tk_up (tk_up (tk_up C (41 + n) 0 (C 2 2 - 1)) (41 + n) 1 (C 2 4)) (31 + S) 1 (C 2 3)) 2 4 (C 2 4 + x)) 2 3 (C 2 3 + 1) 2 3 = C 2 3 + 1 := tk_up_s _ _ _ _
        have u24 : tk_up (tk_up (tk_up (tk_up (tk_up C (41 + n) 0 (C 2 2 - 1)) (41 + n) 1 (C 2 4)) (31 + S) 1 (C 2 3)) 2 4 (C 2 4 + x)) 2 3 (C 2 3 + 1) 2 4 = C 2 4 + x := by rw [tk_up_n (by omega), tk_up_s]
        have uS1 : tk_up (tk_up (tk_up (tk_up (tk_up C (41 + n) 0 (C 2 2 - 1)) (41 + n) 1 (C 2 4)) (31 + S) 1 (C 2 3)) 2 4 (C 2 4 + x)) 2 3 (C 2 3 + 1) (31 + S) 1 = C 2 3 := by rw [tk_up_n (by omega), tk_up_n (by omega), tk_up_s]
        have un0 : tk_up (tk_up (tk_up (tk_up (tk_up C (41 + n) 0 (C 2 2 - 1)) (41 + n) 1 (C 2 4)) (31 + S) 1 (C 2 3)) 2 4 (C 2 4 + x)) 2 3 (C 2 3 + 1) (41 + n) 0 = C 2 2 - 1 := by rw [tk_up_n (by omega), tk_up_n (by omega), tk_up_n (by omega), tk_up_n (by omega), tk_up_s]
        have un1 : tk_up (tk_up (tk_up (tk_up (tk_up C (41 + n) 0 (C 2 2 - 1)) (41 + n) 1 (C 2 4)) (31 + S) 1 (C 2 3)) 2 4 (C 2 4 + x)) 2 3 (C 2 3 + 1) (41 + n) 1 = C 2 4 := by rw [tk_up_n (by omega), tk_up_n (by omega), tk_up_n (by omega), tk_up_s]
        have d : ∀ c j, ¬ (c = 8 ∧ j = n) → ¬ (c = 9 ∧ j = n + 1) → ¬ (c = 7 ∧ j = 2) → tk_up (tk_up (tk_up N 8 n (C 2 2 - 1)) 9 (n + 1) (C 2 4 + x)) 7 2 (C 2 3 + 1) c j = N c j := fun c j g1 g2 g3 => by rw [tk_up_n g3, tk_up_n g2, tk_up_n g1]
        have d72 : tk_up (tk_up (tk_up N 8 n (C 2 2 - 1)) 9 (n + 1) (C 2 4 + x)) 7 2 (C 2 3 + 1) 7 2 = C 2 3 + 1 := tk_up_s _ _ _ _
        have d8 : tk_up (tk_up (tk_up N 8 n (C 2 2 - 1)) 9 (n + 1) (C 2 4 + x)) 7 2 (C 2 3 + 1) 8 n = C 2 2 - 1 := by rw [tk_up_n (by omega), tk_up_n (by omega), tk_up_s]
        have d9 : tk_up (tk_up (tk_up N 8 n (C 2 2 - 1)) 9 (n + 1) (C 2 4 + x)) 7 2 (C 2 3 + 1) 9 (n + 1) = C 2 4 + x := by rw [tk_up_n (by omega), tk_up_s]
        generalize tk_up (tk_up (tk_up (tk_up (tk_up C (41 + n) 0 (C 2 2 - 1)) (41 + n) 1 (C 2 4)) (31 + S) 1 (C 2 3)) 2 4 (C 2 4 + x)) 2 3 (C 2 3 + 1) = C' at *
        generalize tk_up (tk_up (tk_up N 8 n (C 2 2 - 1)) 9 (n + 1) (C 2 4 + x)) 7 2 (C 2 3 + 1) = N' at *
        have c22 : C' 2 2 = C 2 2 := u _ _ (by omega) (by omega) (by omega)
        have c13 : C' 1 3 = C 1 3 := u _ _ (by omega) (by omega) (by omega)
        have hS8 := l8 S (by omega)
        have fin : j_all C' N' K := by
          refine ⟨⟨⟨by omega, by omega, by omega, by omega, fun i hi => ?_, fun g => ?_⟩, fun i hi => ?_, fun i hi => ?_, fun t ht => ?_, ⟨by rw [u _ _ (by omega) (by omega) (by omega)]; exact k1, by rw [u _ _ (by omega) (by omega) (by omega)]; exact k2, by rw [u _ _ (by omega) (by omega) (by omega)]; exact k3, by rw [u _ _ (by omega) (by omega) (by omega)]; exact k4, by rw [u _ _ (by omega) (by omega) (by omega)]; exact k5, fun i hi => by rw [u _ _ (by omega) (by omega) (by omega)]; exact k6 i hi, by omega, by omega⟩, fun g => absurd (by omega) g⟩, ⟨by rw [d _ _ (by omega) (by omega) (by omega)]; omega, by omega, by omega, fun k hk => ?_, ?_, by rw [d _ _ (by omega) (by omega) (by omega)]; exact l6, fun k hk => ?_, fun s hs => ?_, fun k s hk hs => ?_, fun g => ?_⟩, by rw [d _ _ (by omega) (by omega) (by omega), c13]; exact h3, fun s hs => ?_, ⟨by rw [d _ _ (by omega) (by omega) (by omega)]; exact h5.1, fun t ht => by rw [d _ _ (by omega) (by omega) (by omega), d _ _ (by omega) (by omega) (by omega)]; exact h5.2 t ht⟩, fun g => absurd (by omega) g, fun _ => ?_⟩
          · by_cases e : i = n
            · subst e; rw [un0]; omega
            · rw [u _ _ (by omega) (by omega) (by omega)]; exact t5 i (by omega)
          · by_cases e : n = 0
            · subst e
              simp only [Nat.add_zero] at un0
              rw [un0, e2, u _ _ (by omega) (by omega) (by omega)]
              omega
            · have q := t5 0 (by omega)
              simp only [Nat.add_zero] at q
              rw [u 41 0 (by omega) (by omega) (by omega), u _ _ (by omega) (by omega) (by omega)]
              exact t6 (by omega)
          · rw [u _ _ (by omega) (by omega) (by omega)]; exact a2 i hi
          · rw [c22] at hi
            rw [u _ 0 (by omega) (by omega) (by omega)]
            by_cases e : i = S
            · subst e; rw [uS1]; omega
            · rw [u _ _ (by omega) (by omega) (by omega)]; exact a3 i hi
          · rw [u _ _ (by omega) (by omega) (by omega), u _ _ (by omega) (by omega) (by omega), u _ _ (by omega) (by omega) (by omega), u _ _ (by omega) (by omega) (by omega)]; exact a4 t ht
          · by_cases e : k = n
            · subst e
              rw [d8, un0, un1, d _ _ (by omega) (by omega) (by omega)]
              omega
            · have := l4 k (by omega)
              rw [d _ _ (by omega) (by omega) (by omega), d _ _ (by omega) (by omega) (by omega), u (41 + k) 0 (by omega) (by omega) (by omega), u (41 + k) 1 (by omega) (by omega) (by omega), c22]
              exact this
          · rw [u23, e1, d9, u24]
          · by_cases e : k = n
            · subst e
              rw [d9, d _ _ (by omega) (by omega) (by omega)]
              omega
            · rw [d _ _ (by omega) (by omega) (by omega), d _ _ (by omega) (by omega) (by omega)]; exact l7 k (by omega)
          · rw [c22] at hs
            have := l8 s hs
            rw [d _ _ (by omega) (by omega) (by omega), u _ 0 (by omega) (by omega) (by omega), u23]
            by_cases e : s = S
            · subst e; rw [uS1]; omega
            · rw [u _ _ (by omega) (by omega) (by omega)]; omega
          · rw [c22] at hs
            have q8 := l8 s hs
            rw [u (31 + s) 0 (by omega) (by omega) (by omega)]
            by_cases ek : k = n
            · subst ek
              rw [un0]
              by_cases e : s = S
              · subst e; rw [uS1]; omega
              · rw [u _ _ (by omega) (by omega) (by omega)]; omega
            · have q9 := l9 k s (by omega) hs
              rw [u (41 + k) 0 (by omega) (by omega) (by omega)]
              by_cases e : s = S
              · subst e
                rw [l10] at q9
                rw [uS1, q9]
                omega
              · rw [u _ _ (by omega) (by omega) (by omega)]; exact q9
          · rw [c22, e2, uS1, u23]; omega
          · rw [d _ _ (by omega) (by omega) (by omega), u _ _ (by omega) (by omega) (by omega)]; exact h4 s hs
          · obtain ⟨i1, i2, i3, i4, i5⟩ := h7 hb
            exact ⟨by rw [d _ _ (by omega) (by omega) (by omega)]; exact i1, by rw [d _ _ (by omega) (by omega) (by omega)]; exact i2, by rw [d _ _ (by omega) (by omega) (by omega)]; exact i3, by rw [d _ _ (by omega) (by omega) (by omega)]; exact i4, fun s hs => by rw [d _ _ (by omega) (by omega) (by omega), d _ _ (by omega) (by omega) (by omega)]; exact i5 s hs⟩
        exact s_ok.ret fin (by omega) (by rw [d _ _ (by omega) (by omega) (by omega)]; exact h0) _
