/-! THE REFERENCE: what a section holds; its reset; a new state; an authority -/
def m_an (M : tk_M) (s : Nat) (n : Nat) : Bool := (List.range n).any fun k => decide (M 8 k = (s : Int)) && decide (M 12 k = 3)
theorem m_an_s (M : tk_M) (s n : Nat) : m_an M s (n + 1) = (m_an M s n || (decide (M 8 n = (s : Int)) && decide (M 12 n = 3))) := by
  unfold m_an
  rw [List.range_succ, List.any_append]
  simp
theorem m_an_iff {M : tk_M} {s n : Nat} : m_an M s n = true ↔ ∃ k : Nat, k < n ∧ M 8 k = (s : Int) ∧ M 12 k = 3 := by
  unfold m_an
  simp
def m_b (b : Bool) : Int := bif b then 1 else 0
def m_hld (M : tk_M) (s : Nat) : Int := if ¬ M 16 s = 0 ∧ m_an M s (M 7 2).toNat = true then 1 else 0
theorem m_hld01 (M : tk_M) (s : Nat) : m_hld M s = 0 ∨ m_hld M s = 1 := by unfold m_hld; split <;> simp
theorem m_or01 : ∀ a b : Bool, (Int32.ofInt (m_b a) ||| Int32.ofInt (m_b b)).toInt = m_b (a || b) := by decide +kernel
theorem lp_Mo_holds (l : Launch) (M : tk_M) (s : Nat) (hs : s < 10) (h0 : 0 ≤ M 7 2) (h1 : M 7 2 ≤ 32) : ∀ (n i : Nat), i + n = (M 7 2).toNat →
    tk_At l "TrackKeeperModel" prog_8_method_18_code 4 (some .boolean) 0 0 (fun q M' => q = .inl (some (m_hld M s)) ∧ M' = M) 4 [some (.inr 7), some (.inl (s : Int)), some (.inl (m_b (m_an M s i))), some (.inl (i : Int))] [] M := by
  intro n
  induction n with
  | zero =>
    intro i hi
    have e : i = (M 7 2).toNat := by omega
    have ef : m_hld M s = if ¬ M 16 s = 0 ∧ m_an M s (M 7 2).toNat = true then 1 else 0 := rfl
    rw [← e] at ef
    rw [ef]
    refine tk_goA fo_Mo co_Mo tg_Mo_holds 40 [4] ?_
    cases m_an M s i
    · repeat' first | refine And.intro ?_ ?_ | intro _
      all_goals first | rfl | exact Or.inl rfl | exact Or.inr rfl | skip
      all_goals try simp only [tk_c, Int.toNat_natCast, m_b, cond_true, cond_false] at *
      all_goals first | omega | (split <;> simp_all)
    · repeat' first | refine And.intro ?_ ?_ | intro _
      all_goals first | rfl | exact Or.inl rfl | exact Or.inr rfl | skip
      all_goals try simp only [tk_c, Int.toNat_natCast, m_b, cond_true, cond_false] at *
      all_goals first | omega | (split <;> simp_all)
  | succ n ih =>
    intro i hi
    have h9 := ih (i + 1) (by omega)
    have o1 := m_or01 (m_an M s i) true
    have o0 := m_or01 (m_an M s i) false
    simp only [Bool.or_true, Bool.or_false] at o1 o0
    refine tk_goA fo_Mo co_Mo tg_Mo_holds 40 [4] ?_
    repeat' first | refine And.intro ?_ ?_ | intro _
    all_goals try simp only [tk_c, Int.toNat_natCast] at *
    all_goals first | omega | skip
    · have e : m_an M s (i + 1) = m_an M s i := by rw [m_an_s]; simp_all
      rw [e, ← o0] at h9
      exact ⟨(), h9⟩
    · have e : m_an M s (i + 1) = m_an M s i := by rw [m_an_s]; simp_all
      rw [e, ← o0] at h9
      exact ⟨(), h9⟩
    · have e : m_an M s (i + 1) = true := by rw [m_an_s]; simp_all
      rw [e, ← o1] at h9
      exact ⟨(), h9⟩
theorem k_Mo_holds (l : Launch) (M : tk_M) (s : Nat) (hs : s < 10) (h0 : 0 ≤ M 7 2) (h1 : M 7 2 ≤ 32) : tk_C l y_Mo_holds 0 0 [.inr 7, .inl (s : Int)] M (fun q M' => q = .inl (some (m_hld M s)) ∧ M' = M) := by
  refine tk_C.of wc_Mo_holds rfl (Nat.le_of_ble_eq_true rfl) fun hr hM => ?_
  refine tk_goA fo_Mo co_Mo tg_Mo_holds 40 [4] ?_
  exact ⟨(), lp_Mo_holds l M s hs h0 h1 (M 7 2).toNat 0 (by omega)⟩
def m_r1 (M : tk_M) (n : Nat) : tk_M := fun c k => if (c = 12 ∨ c = 14) ∧ k < n then 0 else M c k
def m_r2 (M : tk_M) (n : Nat) : tk_M := fun c k => if (c = 16 ∨ c = 11) ∧ k < n then 0 else M c k
def m_r3 (M : tk_M) (n : Nat) : tk_M := fun c k => if (c = 18 ∨ c = 19 ∨ c = 20) ∧ k < n then 0 else if c = 26 ∧ k < n then -1 else M c k
theorem m_r1_s (M : tk_M) (n : Nat) : tk_up (tk_up (m_r1 M n) 12 n 0) 14 n 0 = m_r1 M (n + 1) := by
  funext c k
  unfold tk_up m_r1
  (repeat' split) <;> first | rfl | omega
theorem m_r2_s (M : tk_M) (n : Nat) : tk_up (tk_up (m_r2 M n) 16 n 0) 11 n 0 = m_r2 M (n + 1) := by
  funext c k
  unfold tk_up m_r2
  (repeat' split) <;> first | rfl | omega
theorem m_r3_s (M : tk_M) (n : Nat) : tk_up (tk_up (tk_up (tk_up (m_r3 M n) 18 n 0) 19 n 0) 20 n 0) 26 n (-1) = m_r3 M (n + 1) := by
  funext c k
  unfold tk_up m_r3
  (repeat' split) <;> first | rfl | omega
theorem lp_Mo_reset1 (l : Launch) (M : tk_M) (P : (Option Int ⊕ Nat) → tk_M → Prop) (hP : tk_At l "TrackKeeperModel" prog_8_method_9_code 2 none 0 0 P 48 [some (.inr 7), some (.inl 32)] [] (m_r1 M 32)) : ∀ (n i : Nat), i + n = 32 →
    tk_At l "TrackKeeperModel" prog_8_method_9_code 2 none 0 0 P 22 [some (.inr 7), some (.inl (i : Int))] [] (m_r1 M i) := by
  intro n
  induction n with
  | zero =>
    intro i hi
    have e : i = 32 := by omega
    subst e
    refine tk_goA fo_Mo co_Mo tg_Mo_reset 40 [22, 48] ?_
    repeat' first | refine And.intro ?_ ?_ | intro _
    all_goals try simp only [tk_c] at *
    all_goals first | omega | skip
    exact ⟨(), hP⟩
  | succ n ih =>
    intro i hi
    have h9 := ih (i + 1) (by omega)
    rw [← m_r1_s M i] at h9
    generalize m_r1 M i = N at *
    refine tk_goA fo_Mo co_Mo tg_Mo_reset 40 [22, 48] ?_
    repeat' first | refine And.intro ?_ ?_ | intro _
    all_goals first | exact Or.inl rfl | skip
    all_goals try simp only [tk_c, Int.toNat_natCast] at *
    all_goals first | omega | skip
    exact ⟨(), h9⟩
theorem lp_Mo_reset2 (l : Launch) (M : tk_M) (P : (Option Int ⊕ Nat) → tk_M → Prop) (hP : tk_At l "TrackKeeperModel" prog_8_method_9_code 2 none 0 0 P 76 [some (.inr 7), some (.inl 10)] [] (m_r2 M 10)) : ∀ (n i : Nat), i + n = 10 →
    tk_At l "TrackKeeperModel" prog_8_method_9_code 2 none 0 0 P 50 [some (.inr 7), some (.inl (i : Int))] [] (m_r2 M i) := by
  intro n
  induction n with
  | zero =>
    intro i hi
    have e : i = 10 := by omega
    subst e
    refine tk_goA fo_Mo co_Mo tg_Mo_reset 40 [50, 76] ?_
    repeat' first | refine And.intro ?_ ?_ | intro _
    all_goals try simp only [tk_c] at *
    all_goals first | omega | skip
    exact ⟨(), hP⟩
  | succ n ih =>
    intro i hi
    have h9 := ih (i + 1) (by omega)
    rw [← m_r2_s M i] at h9
    generalize m_r2 M i = N at *
    refine tk_goA fo_Mo co_Mo tg_Mo_reset 40 [50, 76] ?_
    repeat' first | refine And.intro ?_ ?_ | intro _
    all_goals first | exact Or.inl rfl | skip
    all_goals try simp only [tk_c, Int.toNat_natCast] at *
    all_goals first | omega | skip
    exact ⟨(), h9⟩
theorem lp_Mo_reset3 (l : Launch) (M : tk_M) : ∀ (n i : Nat), i + n = 8 →
    tk_At l "TrackKeeperModel" prog_8_method_9_code 2 none 0 0 (fun r M' => r = .inl none ∧ M' = m_r3 M 8) 78 [some (.inr 7), some (.inl (i : Int))] [] (m_r3 M i) := by
  intro n
  induction n with
  | zero =>
    intro i hi
    have e : i = 8 := by omega
    subst e
    refine tk_goA fo_Mo co_Mo tg_Mo_reset 40 [78] ?_
    repeat' first | refine And.intro ?_ ?_ | intro _
    all_goals first | rfl | skip
    all_goals try simp only [tk_c] at *
    all_goals first | omega | skip
  | succ n ih =>
    intro i hi
    have h9 := ih (i + 1) (by omega)
    rw [← m_r3_s M i] at h9
    have ef : m_r3 M 8 = m_r3 M 8 := rfl
    generalize m_r3 M i = N at *
    refine tk_goA fo_Mo co_Mo tg_Mo_reset 40 [78] ?_
    repeat' first | refine And.intro ?_ ?_ | intro _
    all_goals first | exact Or.inl rfl | skip
    all_goals try simp only [tk_c, Int.toNat_natCast] at *
    all_goals first | omega | skip
    exact ⟨(), h9⟩
def m_r0 (M : tk_M) : tk_M := tk_up (tk_up (tk_up (tk_up M 7 3 0) 7 7 0) 7 8 0) 7 9 0
def m_reset (M : tk_M) : tk_M := m_r3 (m_r2 (m_r1 (m_r0 M) 32) 10) 8
theorem m_r1_0 (M : tk_M) : m_r1 M 0 = M := by funext c k; unfold m_r1; rw [if_neg (by omega)]
theorem m_r2_0 (M : tk_M) : m_r2 M 0 = M := by funext c k; unfold m_r2; rw [if_neg (by omega)]
theorem m_r3_0 (M : tk_M) : m_r3 M 0 = M := by funext c k; unfold m_r3; rw [if_neg (by omega), if_neg (by omega)]
theorem k_Mo_reset (l : Launch) (M : tk_M) : tk_C l y_Mo_reset 0 0 [.inr 7] M (fun r M' => r = .inl none ∧ M' = m_reset M) := by
  refine tk_C.of wc_Mo_reset rfl (Nat.le_of_ble_eq_true rfl) fun hr hM => ?_
  have ef : m_reset M = m_r3 (m_r2 (m_r1 (m_r0 M) 32) 10) 8 := rfl
  have e0 : m_r0 M = tk_up (tk_up (tk_up (tk_up M 7 3 0) 7 7 0) 7 8 0) 7 9 0 := rfl
  refine tk_goA fo_Mo co_Mo tg_Mo_reset 40 [22] ?_
  repeat' first | refine And.intro ?_ ?_ | intro _
  all_goals first | omega | skip
  refine ⟨(), ?_⟩
  rw [← e0]
  have h := lp_Mo_reset1 l (m_r0 M) (fun r M' => r = .inl none ∧ M' = m_reset M) ?_ 32 0 rfl
  · rw [m_r1_0] at h
    exact h
  · refine tk_goA fo_Mo co_Mo tg_Mo_reset 40 [50] ?_
    refine ⟨(), ?_⟩
    have h := lp_Mo_reset2 l (m_r1 (m_r0 M) 32) (fun r M' => r = .inl none ∧ M' = m_reset M) ?_ 10 0 rfl
    · rw [m_r2_0] at h
      exact h
    · refine tk_goA fo_Mo co_Mo tg_Mo_reset 40 [78] ?_
      refine ⟨(), ?_⟩
      have h := lp_Mo_reset3 l (m_r2 (m_r1 (m_r0 M) 32) 10) 8 0 rfl
      rw [m_r3_0, ← ef] at h
      exact h
/-- a new state -/
def m_fd (M : tk_M) (k : Nat) : Int :=
  if M 16 (M 8 k).toNat = 0 then 0
  else if 1 < m_pc (M 14 k) then 2
  else if m_pc (M 14 k) = 1 then (if ¬ m_who M (m_low (M 14 k)).toNat = 0 ∧ (M 29 (m_low (M 14 k)).toNat = M 10 (M 8 (M 29 (m_low (M 14 k)).toNat).toNat).toNat ∨ M 13 (M 29 (m_low (M 14 k)).toNat - 1).toNat = 0) then 1 else 2)
  else if M 13 k = 3 ∨ M 13 k = 2 then 3
  else if M 13 k = 1 then (if ¬ M 15 k = 0 ∧ ¬ m_who M (m_low (M 15 k)).toNat = 0 ∧ (k : Int) < M 29 (m_low (M 15 k)).toNat then 0 else 3)
  else if ¬ M 17 (M 8 k).toNat = 0 then 3 else if M 27 (M 8 k).toNat = 0 then 3 else 0
def q_fd (M : tk_M) (k : Nat) : Prop := 0 ≤ M 8 k ∧ M 8 k < 10 ∧ 0 ≤ M 14 k ∧ M 14 k < 256 ∧ 0 ≤ M 15 k ∧ M 15 k < 256 ∧
  (m_pc (M 14 k) = 1 → 0 ≤ M 29 (m_low (M 14 k)).toNat ∧ M 29 (m_low (M 14 k)).toNat < 32 ∧ 0 ≤ M 8 (M 29 (m_low (M 14 k)).toNat).toNat ∧ M 8 (M 29 (m_low (M 14 k)).toNat).toNat < 10 ∧ (M 29 (m_low (M 14 k)).toNat = 0 → M 10 (M 8 0).toNat = 0))
theorem m_low_in (x : Int) : 0 ≤ m_low x ∧ m_low x < 8 := by
  unfold m_low
  (repeat' split) <;> omega
theorem m_pc_0 : m_pc 0 = 0 := by decide
theorem lp_Mo_found1 (l : Launch) (M : tk_M) (k : Nat) (hk : k < 32) (ht : q_tm M) (t : Nat) (ht8 : t < 8) (el : m_low (M 14 k) = (t : Int)) (q3 : 0 < M 14 k) (q4 : M 14 k < 256) (r1 : 0 ≤ M 29 t) (r2 : M 29 t < 32) (r3 : 0 ≤ M 8 (M 29 t).toNat) (r4 : M 8 (M 29 t).toNat < 10) (r5 : M 29 t = 0 → M 10 (M 8 0).toNat = 0) (x y res : Int) (hres : res = if ¬ m_who M t = 0 ∧ (M 29 t = M 10 (M 8 (M 29 t).toNat).toNat ∨ M 13 (M 29 t - 1).toNat = 0) then 1 else 2) :
    tk_At l "TrackKeeperModel" prog_8_method_16_code 7 (some .int) 2 26 (fun q M' => q = .inl (some res) ∧ M' = M) 40 [some (.inr 7), some (.inl (k : Int)), some (.inl x), some (.inl y), none, none, none] [] M := by
  have con := k_Mo_only l M (M 14 k) q3 q4
  rw [el] at con
  refine tk_goA fo_Mo co_Mo tg_Mo_found 40 [] ?_
  repeat' first | refine And.intro ?_ ?_ | intro _
  all_goals try simp only [Int.toNat_natCast] at *
  all_goals first | omega | skip
  refine ⟨(), tk_aS con wc_Mo_only lk_Mo_154 wst_Mo_only wn_Mo tg_Mo_found rfl rfl rfl (by decide) (Nat.le_of_ble_eq_true rfl) ?_ (fun x M' h => by cases h.1)⟩
  rintro v' N2 ⟨h1, rfl⟩ hro
  cases h1
  have k94 : ∀ b : Int, (b = 0 ∨ b = 1) → (b = 1 ↔ (N2 29 t = N2 10 (N2 8 (N2 29 t).toNat).toNat ∨ N2 13 (N2 29 t - 1).toNat = 0)) → tk_At l "TrackKeeperModel" prog_8_method_16_code 7 (some .int) 2 26 (fun q M' => q = .inl (some res) ∧ M' = N2) 94 [some (.inr 7), some (.inl (k : Int)), some (.inl x), some (.inl y), some (.inl (t : Int)), some (.inl (N2 29 t)), none] [.inl (.inl b)] N2 := fun b hb hbi => by
    refine tk_goA fo_Mo co_Mo tg_Mo_found 40 [] ?_
    refine ⟨(), tk_aV (k := 6) (k_Mo_isWhole l N2 t ht8 ht) wc_Mo_isWhole lk_Mo_157 wi_Mo_isWhole wsl_Mo_isWhole tg_Mo_found rfl rfl (by decide) rfl rfl rfl (by decide) (Nat.le_of_ble_eq_true rfl) ?_ (fun x M' h => by cases h.1)⟩
    rintro v' N3 ⟨h1, rfl⟩ hro
    cases h1
    generalize m_who N3 t = w at *
    refine tk_goA fo_Mo co_Mo tg_Mo_found 40 [] ?_
    repeat' first | refine And.intro ?_ ?_ | intro _
    all_goals first | rfl | skip
    all_goals try simp only [tk_c, Int.toNat_natCast] at *
    · rw [hres, if_neg (by omega)]
    · rw [hres, if_neg (fun z => by have := hbi.mpr z.2; omega)]
    · rw [hres, if_pos ⟨by assumption, hbi.mp (by omega)⟩]
  refine tk_goA fo_Mo co_Mo tg_Mo_found 40 [94] ?_
  repeat' first | refine And.intro ?_ ?_ | intro _
  all_goals try simp only [tk_c, Int.toNat_natCast] at *
  all_goals first | omega | skip
  · exact ⟨(), k94 1 (Or.inr rfl) ⟨fun _ => by omega, fun _ => rfl⟩⟩
  · have : ¬ N2 29 t = 0 := fun e0 => by
      have e1 := r5 e0
      rename_i hne
      rw [e0] at hne
      simp only [Int.toNat_zero] at hne
      omega
    omega
  · exact ⟨(), k94 0 (Or.inl rfl) ⟨fun h => absurd h (by decide), fun h => by omega⟩⟩
  · exact ⟨(), k94 1 (Or.inr rfl) ⟨fun _ => by omega, fun _ => rfl⟩⟩
theorem lp_Mo_found2 (l : Launch) (M : tk_M) (k : Nat) (hk : k < 32) (ht : q_tm M) (q1 : 0 ≤ M 8 k) (q2 : M 8 k < 10) (q3 : 0 ≤ M 15 k) (q4 : M 15 k < 256) (y res : Int) (hres : res = if M 13 k = 3 ∨ M 13 k = 2 then 3
    else if M 13 k = 1 then (if ¬ M 15 k = 0 ∧ ¬ m_who M (m_low (M 15 k)).toNat = 0 ∧ (k : Int) < M 29 (m_low (M 15 k)).toNat then 0 else 3)
    else if ¬ M 17 (M 8 k).toNat = 0 then 3 else if M 27 (M 8 k).toNat = 0 then 3 else 0) :
    tk_At l "TrackKeeperModel" prog_8_method_16_code 7 (some .int) 2 26 (fun q M' => q = .inl (some res) ∧ M' = M) 116 [some (.inr 7), some (.inl (k : Int)), some (.inl (M 8 k)), some (.inl y), none, none, none] [] M := by
  have hlow := m_low_in (M 15 k)
  have con : 0 < M 15 k → _ := fun h => k_Mo_only l M (M 15 k) h q4
  generalize m_low (M 15 k) = lw at *
  obtain ⟨t, rfl⟩ : ∃ t : Nat, lw = (t : Int) := ⟨lw.toNat, by omega⟩
  simp only [Int.toNat_natCast] at *
  by_cases h1 : M 13 k = 3 ∨ M 13 k = 2
  · rw [if_pos h1] at hres
    subst hres
    refine tk_goA fo_Mo co_Mo tg_Mo_found 40 [138] ?_
    repeat' first | refine And.intro ?_ ?_ | intro _
    all_goals first | rfl | skip
    all_goals try simp only [tk_c, Int.toNat_natCast] at *
    all_goals first | omega | skip
  · rw [if_neg h1] at hres
    by_cases h2 : M 13 k = 1
    · rw [if_pos h2] at hres
      have k201 : ∀ u : Int, ¬ (¬ M 15 k = 0 ∧ ¬ m_who M t = 0 ∧ (k : Int) < M 29 t) → tk_At l "TrackKeeperModel" prog_8_method_16_code 7 (some .int) 2 26 (fun q M' => q = .inl (some res) ∧ M' = M) 201 [some (.inr 7), some (.inl (k : Int)), some (.inl (M 8 k)), some (.inl y), some (.inl u), none, none] [] M := fun u e => by
        rw [if_neg e] at hres
        subst hres
        refine tk_goA fo_Mo co_Mo tg_Mo_found 40 [] ?_
        exact ⟨rfl, rfl⟩
      refine tk_goA fo_Mo co_Mo tg_Mo_found 60 [201] ?_
      repeat' first | refine And.intro ?_ ?_ | intro _
      all_goals first | rfl | skip
      all_goals try simp only [tk_c, Int.toNat_natCast] at *
      all_goals first | omega | skip
      · refine ⟨(), tk_aS (con (by omega)) wc_Mo_only lk_Mo_154 wst_Mo_only wn_Mo tg_Mo_found rfl rfl rfl (by decide) (Nat.le_of_ble_eq_true rfl) ?_ (fun x M' h => by cases h.1)⟩
        rintro v' N2 ⟨g1, rfl⟩ hro
        cases g1
        refine tk_goA fo_Mo co_Mo tg_Mo_found 40 [201] ?_
        repeat' first | refine And.intro ?_ ?_ | intro _
        all_goals first | rfl | skip
        all_goals try simp only [tk_c, Int.toNat_natCast] at *
        all_goals first | omega | skip
        refine ⟨(), tk_aV (k := 6) (k_Mo_isWhole l N2 t (by omega) ht) wc_Mo_isWhole lk_Mo_157 wi_Mo_isWhole wsl_Mo_isWhole tg_Mo_found rfl rfl (by decide) rfl rfl rfl (by decide) (Nat.le_of_ble_eq_true rfl) ?_ (fun x M' h => by cases h.1)⟩
        rintro v' N3 ⟨g1, rfl⟩ hro
        cases g1
        have k201 := k201 (t : Int)
        have ha : (¬ N3 15 k = 0 ∧ ¬ m_who N3 t = 0 ∧ (k : Int) < N3 29 t) → res = 0 := fun h => by rw [hres, if_pos h]
        clear hres
        rename_i k201'
        clear k201'
        generalize m_who N3 t = w at *
        refine tk_goA fo_Mo co_Mo tg_Mo_found 40 [201] ?_
        repeat' first | refine And.intro ?_ ?_ | intro _
        all_goals first | rfl | skip
        all_goals try simp only [tk_c, Int.toNat_natCast] at *
        all_goals first | omega | exact ⟨(), k201 (by omega)⟩ | skip
        rw [ha (by omega)]
      · exact ⟨(), k201 (-1) (by omega)⟩
    · rw [if_neg h2] at hres
      refine tk_goA fo_Mo co_Mo tg_Mo_found 60 [] ?_
      repeat' first | refine And.intro ?_ ?_ | intro _
      all_goals first | rfl | skip
      all_goals try simp only [tk_c, Int.toNat_natCast] at *
      all_goals first | omega | (rw [hres]; (repeat' split) <;> first | rfl | omega)
theorem k_Mo_found (l : Launch) (M : tk_M) (k : Nat) (hk : k < 32) (hq : q_fd M k) (ht : q_tm M) : tk_C l y_Mo_found 2 26 [.inr 7, .inl (k : Int)] M (fun q M' => q = .inl (some (m_fd M k)) ∧ M' = M) := by
  refine tk_C.of wc_Mo_found rfl (Nat.le_of_ble_eq_true rfl) fun hr hM => ?_
  obtain ⟨q1, q2, q3, q4, q5, q6, q7⟩ := hq
  have hz : m_pc (M 14 k) = 1 → 0 < M 14 k := fun h => by
    rcases Int.lt_or_eq_of_le q3 with g | g
    · exact g
    · rw [← g, m_pc_0] at h; omega
  have f1 := fun hm : m_pc (M 14 k) = 1 => lp_Mo_found1 l M k hk ht (m_low (M 14 k)).toNat (by have := m_low_in (M 14 k); omega) (by have := m_low_in (M 14 k); omega) (hz hm) q4 (q7 hm).1 (q7 hm).2.1 (q7 hm).2.2.1 (q7 hm).2.2.2.1 (q7 hm).2.2.2.2 (M 8 k) (m_pc (M 14 k)) _ rfl
  have f2 := lp_Mo_found2 l M k hk ht q1 q2 q5 q6 (m_pc (M 14 k)) _ rfl
  refine tk_goA fo_Mo co_Mo tg_Mo_found 40 [] ?_
  repeat' first | refine And.intro ?_ ?_ | intro _
  all_goals try simp only [Int.toNat_natCast] at *
  all_goals first | omega | skip
  refine ⟨(), tk_aS (k_In_bitCount l M (M 14 k) q3 q4) wc_In_bitCount lk_Mo_149 wst_In_bitCount wn_In tg_Mo_found rfl rfl rfl (by decide) (Nat.le_of_ble_eq_true rfl) ?_ (fun x M' h => by cases h.1)⟩
  rintro v' N' ⟨h1, rfl⟩ hro
  cases h1
  unfold m_fd
  generalize m_pc (N' 14 k) = many at *
  refine tk_goA fo_Mo co_Mo tg_Mo_found 60 [40, 116] ?_
  repeat' first | refine And.intro ?_ ?_ | intro _
  all_goals first | rfl | skip
  all_goals try simp only [tk_c, Int.toNat_natCast] at *
  all_goals first | omega | skip
  · simp only [if_neg (show ¬ N' 16 (N' 8 k).toNat = 0 by assumption), if_neg (show ¬ 1 < many by omega), if_neg (show ¬ many = 1 by omega)]
    exact ⟨(), f2⟩
  · simp only [if_neg (show ¬ N' 16 (N' 8 k).toNat = 0 by assumption), if_neg (show ¬ 1 < many by omega), if_pos (show many = 1 by omega)]
    exact ⟨(), f1 (by omega)⟩
  · rw [if_neg (by omega), if_pos (by omega)]
  · rw [if_pos (by omega)]
