/-! CONTRACTS: all states found anew -/
def p_cov (M : tk_M) : Prop := ∀ i : Nat, i < 32 → 0 ≤ M (41 + i) 4 ∧ M (41 + i) 4 < 8
def p_sec (M : tk_M) : Prop := ∀ i : Nat, (i : Int) < M 2 2 → 0 ≤ M (31 + i) 0 ∧ M (31 + i) 1 < 32
theorem g_mk_4 {M : tk_M} {num : Int} {a : Nat} : ∀ n : Nat, (∀ i : Nat, i < n → (M (41 + (a + i)) 0).toNat < 10) → ∀ c : Nat, 41 ≤ c → g_mk M num a n c 4 = M c 4 ∨ g_mk M num a n c 4 = num
  | 0, _, c, _ => Or.inl rfl
  | n + 1, hs, c, hc => by
    have ih := g_mk_4 (M := M) (num := num) (a := a) n (fun i hi => hs i (by omega)) c hc
    have hn := hs n (by omega)
    show tk_up _ _ _ _ c 4 = _ ∨ tk_up _ _ _ _ c 4 = _
    rw [tk_up_c _ _ _ _ (by omega), tk_up]
    by_cases e : c = 41 + (a + n) ∧ 4 = 4
    · rw [if_pos e]
      exact Or.inr rfl
    · rw [if_neg e]
      unfold tk_up
      rw [if_neg (by omega)]
      exact ih
theorem f_mk_4 {M : tk_M} {t : Nat} (ht : t < 8) (hp : p_mk M t) (hs : p_sub M) (hc : p_cov M) : p_cov (f_mk M t) := by
  obtain ⟨p1, p2, p3⟩ := hp
  obtain ⟨s1, s2, s3, s4⟩ := hs
  intro i hi
  have hg := g_mk_4 (M := tk_up M (73 + t) 11 (f_occ M t)) (num := (t : Int)) (a := (M (73 + t) 6).toNat) ((M (73 + t) 5).toNat + 1 - (M (73 + t) 6).toNat) (fun k hk => by
    have := s3 ((M (73 + t) 6).toNat + k) (by omega)
    rw [tk_up_c _ _ _ _ (by omega)]
    omega) (41 + i) (by omega)
  rw [tk_up_c _ _ _ _ (by omega)] at hg
  have := hc i hi
  unfold f_mk
  split
  · have := s3 (M (73 + t) 5 + 1).toNat (by omega)
    rw [tk_up_c _ _ _ _ (by omega)]
    omega
  · omega
theorem g_mts_4 {M : tk_M} (hT : p_trk M) (h0 : ∀ i : Nat, (i : Int) < M 2 3 → M (41 + i) 3 = 0) (hR : p_tr M) (hc : p_cov M) : ∀ n : Nat, n ≤ 8 → p_cov (g_mts M n)
  | 0, _ => hc
  | n + 1, hn => by
    have ih := g_mts_4 hT h0 hR hc n (by omega)
    obtain ⟨a1, a2, a3, a4⟩ := g_mts_inv hT h0 hR n (by omega)
    show p_cov (if g_mts M n (73 + n) 9 = 0 then g_mts M n else f_mk (g_mts M n) n)
    by_cases hz : g_mts M n (73 + n) 9 = 0
    · rw [if_pos hz]; exact ih
    · rw [if_neg hz]; exact f_mk_4 (by omega) (a3 n (by omega) hz) a2 ih
/-- the states of the first n subsections found anew -/
def g_stt (N : tk_M) (n : Nat) : tk_M := fun c k => if 41 ≤ c ∧ c < 41 + n ∧ k = 2 then f_ns N (c - 41) else N c k
theorem g_stt_o {N : tk_M} {n c k : Nat} (h : ¬ (41 ≤ c ∧ c < 41 + n ∧ k = 2)) : g_stt N n c k = N c k := by
  unfold g_stt
  rw [if_neg h]
theorem g_stt_s (N : tk_M) (n : Nat) : tk_up (g_stt N n) (41 + n) 2 (f_ns N n) = g_stt N (n + 1) := by
  funext c k
  unfold tk_up g_stt
  by_cases h : c = 41 + n ∧ k = 2
  · rw [if_pos h, if_pos (by omega), h.1]
    congr 1
    omega
  · rw [if_neg h]
    by_cases h2 : 41 ≤ c ∧ c < 41 + n ∧ k = 2
    · rw [if_pos h2, if_pos (by omega)]
    · rw [if_neg h2, if_neg (by omega)]
theorem g_stt_0 (N : tk_M) : g_stt N 0 = N := by
  funext c k
  exact g_stt_o (by omega)
theorem f_ns_stt {N : tk_M} {n : Nat} (h : (N (41 + n) 0).toNat < 10) : f_ns (g_stt N n) n = f_ns N n := by
  have e0 : g_stt N n (41 + n) 0 = N (41 + n) 0 := g_stt_o (by omega)
  have e2 : g_stt N n (41 + n) 2 = N (41 + n) 2 := g_stt_o (by omega)
  have e3 : g_stt N n (41 + n) 3 = N (41 + n) 3 := g_stt_o (by omega)
  have e4 : g_stt N n (41 + n) 4 = N (41 + n) 4 := g_stt_o (by omega)
  have s : ∀ j, g_stt N n (31 + (N (41 + n) 0).toNat) j = N (31 + (N (41 + n) 0).toNat) j := fun j => g_stt_o (by omega)
  have t : ∀ x j, j ≠ 2 → g_stt N n x j = N x j := fun x j hj => g_stt_o (by omega)
  unfold f_ns
  rw [e0, e2, e3, e4, s 2, s 4, s 5, t _ 11 (by decide), t _ 10 (by decide), t _ 6 (by decide)]
/-- behind that, of the first n sections: nothing is due any more, and what isn't unsure has counted nothing -/
def g_sec (S : tk_M) (n : Nat) : tk_M := fun c k => if 31 ≤ c ∧ c < 31 + n ∧ (k = 4 ∨ (k = 3 ∧ f_uns S c = 0)) then 0 else S c k
theorem g_sec_o {S : tk_M} {n c k : Nat} (h : ¬ (31 ≤ c ∧ c < 31 + n ∧ (k = 4 ∨ k = 3))) : g_sec S n c k = S c k := by
  unfold g_sec
  rw [if_neg (fun z => h ⟨z.1, z.2.1, z.2.2.elim Or.inl (fun y => Or.inr y.1)⟩)]
theorem g_sec_0 (S : tk_M) : g_sec S 0 = S := by
  funext c k
  exact g_sec_o (by omega)
theorem f_uns_eq {M N : tk_M} {c : Nat} (h0 : M c 0 = N c 0) (h1 : M c 1 = N c 1) (h2 : M c 2 = N c 2) (h : ∀ i : Nat, i < 32 → M (41 + i) 2 = N (41 + i) 2) : f_uns M c = f_uns N c := by
  have e : f_any M c = true ↔ f_any N c = true := by
    rw [f_any_iff, f_any_iff, h0, h1]
    constructor
    · rintro ⟨i, a, b, d, k⟩
      exact ⟨i, a, b, d, by rw [← h i a]; exact k⟩
    · rintro ⟨i, a, b, d, k⟩
      exact ⟨i, a, b, d, by rw [h i a]; exact k⟩
  unfold f_uns
  rw [h2]
  by_cases z : ¬ N c 2 = 0 ∧ f_any N c = true
  · rw [if_pos z, if_pos ⟨z.1, e.mpr z.2⟩]
  · rw [if_neg z, if_neg (fun y => z ⟨y.1, e.mp y.2⟩)]
theorem g_sec_s1 (S : tk_M) (n : Nat) (h : f_uns S (31 + n) = 0) : tk_up (tk_up (g_sec S n) (31 + n) 4 0) (31 + n) 3 0 = g_sec S (n + 1) := by
  funext c k
  unfold tk_up g_sec
  by_cases h1 : c = 31 + n ∧ k = 3
  · rw [if_pos h1, if_pos (by refine ⟨by omega, by omega, Or.inr ⟨h1.2, ?_⟩⟩; rw [h1.1]; exact h)]
  · rw [if_neg h1]
    by_cases h2 : c = 31 + n ∧ k = 4
    · rw [if_pos h2, if_pos ⟨by omega, by omega, Or.inl h2.2⟩]
    · rw [if_neg h2]
      by_cases h3 : 31 ≤ c ∧ c < 31 + n ∧ (k = 4 ∨ (k = 3 ∧ f_uns S c = 0))
      · rw [if_pos h3, if_pos ⟨h3.1, by omega, h3.2.2⟩]
      · rw [if_neg h3, if_neg (fun z => h3 ⟨z.1, by rcases z.2.2 with y | y <;> omega, z.2.2⟩)]
theorem g_sec_s0 (S : tk_M) (n : Nat) (h : ¬ f_uns S (31 + n) = 0) : tk_up (g_sec S n) (31 + n) 4 0 = g_sec S (n + 1) := by
  funext c k
  unfold tk_up g_sec
  by_cases h2 : c = 31 + n ∧ k = 4
  · rw [if_pos h2, if_pos ⟨by omega, by omega, Or.inl h2.2⟩]
  · rw [if_neg h2]
    by_cases h3 : 31 ≤ c ∧ c < 31 + n ∧ (k = 4 ∨ (k = 3 ∧ f_uns S c = 0))
    · rw [if_pos h3, if_pos ⟨h3.1, by omega, h3.2.2⟩]
    · rw [if_neg h3, if_neg (fun z => ?_)]
      rcases z.2.2 with y | y
      · exact h3 ⟨z.1, by omega, z.2.2⟩
      · by_cases e : c = 31 + n
        · rw [e] at y; exact h y.2
        · exact h3 ⟨z.1, by omega, z.2.2⟩
theorem lp_Tr_findStates1 (l : Launch) (N : tk_M) (h4 : N 2 3 ≤ 32) (h3 : 0 ≤ N 2 3) (hs : ∀ i : Nat, (i : Int) < N 2 3 → 0 ≤ N (41 + i) 0 ∧ N (41 + i) 0 < 10) (hc : p_cov N) (P : (Option Int ⊕ Nat) → tk_M → Prop) (hP : tk_At l "TrackKeeper$Track" prog_5_method_13_code 3 none 3 43 P 42 [some (.inr 2), some (.inr 4), some (.inl (N 2 3))] [] (g_stt N (N 2 3).toNat)) : ∀ (n i : Nat), i + n = (N 2 3).toNat →
    tk_At l "TrackKeeper$Track" prog_5_method_13_code 3 none 3 43 P 7 [some (.inr 2), some (.inr 4), some (.inl (i : Int))] [] (g_stt N i) := by
  intro n
  induction n with
  | zero =>
    intro i hi
    have e2 : g_stt N i 2 3 = N 2 3 := g_stt_o (by omega)
    refine tk_goA fo_Tr co_Tr tg_Tr_findStates 40 [7, 42] ?_
    refine And.intro ⟨by decide, by decide⟩ fun _ _ => And.intro (fun _ => ⟨(), ?_⟩) (fun h => ?_)
    · rw [show (i : Int) = N 2 3 by omega, show i = (N 2 3).toNat by omega]
      exact hP
    · exact absurd (show g_stt N i 2 3 ≤ (i : Int) by rw [e2]; omega) h
  | succ n ih =>
    intro i hi
    have e2 : g_stt N i 2 3 = N 2 3 := g_stt_o (by omega)
    have h9 := ih (i + 1) (by omega)
    have hsi := hs i (by omega)
    have hci := hc i (by omega)
    rw [← g_stt_s, ← f_ns_stt (by omega)] at h9
    have e0 : g_stt N i (41 + i) 0 = N (41 + i) 0 := g_stt_o (by omega)
    have e4 : g_stt N i (41 + i) 4 = N (41 + i) 4 := g_stt_o (by omega)
    have con := k_Tr_newState l (g_stt N i) i (by omega) (by rw [e0]; exact hsi.1) (by rw [e0]; exact hsi.2) (by rw [e4]; exact hci.1) (by rw [e4]; exact hci.2)
    generalize g_stt N i = S at *
    refine tk_goA fo_Tr co_Tr tg_Tr_findStates 40 [7, 42] ?_
    repeat' first | refine And.intro ?_ ?_ | intro _
    all_goals first | rfl | skip
    all_goals try simp only [tk_c, Int.toNat_natCast] at *
    all_goals try rw [e2] at *
    all_goals first | omega | skip
    refine ⟨(), tk_aV (k := 1) con wc_Tr_newState lk_Tr_79 wi_Tr_newState wsl_Tr_newState tg_Tr_findStates rfl rfl (by decide) rfl rfl rfl (by decide) (Nat.le_of_ble_eq_true rfl) ?_ (fun x M' h => by cases h.1)⟩
    rintro v' M' ⟨h1, rfl⟩ hro
    cases h1
    refine tk_goA fo_Tr co_Tr tg_Tr_findStates 40 [7, 42] ?_
    repeat' first | refine And.intro ?_ ?_ | intro _
    all_goals first | omega | skip
    exact ⟨(), h9⟩
theorem lp_Tr_findStates2 (l : Launch) (S : tk_M) (h4 : S 2 2 ≤ 10) (h3 : 0 ≤ S 2 2) (hs : p_sec S) : ∀ (n i : Nat), i + n = (S 2 2).toNat →
    tk_At l "TrackKeeper$Track" prog_5_method_13_code 3 none 3 43 (fun r M' => r = .inl none ∧ M' = g_sec S (S 2 2).toNat) 44 [some (.inr 2), some (.inr 4), some (.inl (i : Int))] [] (g_sec S i) := by
  intro n
  induction n with
  | zero =>
    intro i hi
    have e2 : g_sec S i 2 2 = S 2 2 := g_sec_o (by omega)
    refine tk_goA fo_Tr co_Tr tg_Tr_findStates 40 [44] ?_
    refine And.intro ⟨by decide, by decide⟩ fun _ _ => And.intro (fun _ => ⟨rfl, ?_⟩) (fun h => ?_)
    · rw [show i = (S 2 2).toNat by omega]
    · exact absurd (show g_sec S i 2 2 ≤ (i : Int) by rw [e2]; omega) h
  | succ n ih =>
    intro i hi
    have e2 : g_sec S i 2 2 = S 2 2 := g_sec_o (by omega)
    have h9 := ih (i + 1) (by omega)
    have hsi := hs i (by omega)
    have o : ∀ c k, k ≠ 3 → k ≠ 4 → tk_up (g_sec S i) (31 + i) 4 0 c k = S c k := fun c k a b => by
      unfold tk_up
      rw [if_neg (by omega), g_sec_o (by omega)]
    have eu : f_uns (tk_up (g_sec S i) (31 + i) 4 0) (31 + i) = f_uns S (31 + i) := f_uns_eq (o _ 0 (by decide) (by decide)) (o _ 1 (by decide) (by decide)) (o _ 2 (by decide) (by decide)) (fun k _ => o _ 2 (by decide) (by decide))
    have con := k_Tr_isUnsure l (tk_up (g_sec S i) (31 + i) 4 0) (31 + i) (by omega) (by omega) (by rw [o _ 0 (by decide) (by decide)]; exact hsi.1) (by rw [o _ 1 (by decide) (by decide)]; exact hsi.2)
    rw [eu] at con
    have s0 := g_sec_s0 S i
    have s1 := g_sec_s1 S i
    generalize g_sec S (i + 1) = S9 at *
    generalize g_sec S i = S8 at *
    refine tk_goA fo_Tr co_Tr tg_Tr_findStates 40 [44] ?_
    repeat' first | refine And.intro ?_ ?_ | intro _
    all_goals first | rfl | exact Or.inl rfl | skip
    all_goals try simp only [tk_c, Int.toNat_natCast] at *
    all_goals try rw [e2] at *
    all_goals first | omega | skip
    refine ⟨(), tk_aV (k := 1) con wc_Tr_isUnsure lk_Tr_64 wi_Tr_isUnsure wsl_Tr_isUnsure tg_Tr_findStates rfl rfl (by decide) rfl rfl rfl (by decide) (Nat.le_of_ble_eq_true rfl) ?_ (fun x M' h => by cases h.1)⟩
    rintro v' M' ⟨h1, rfl⟩ hro
    cases h1
    refine tk_goA fo_Tr co_Tr tg_Tr_findStates 40 [44] ?_
    repeat' first | refine And.intro ?_ ?_ | intro _
    all_goals first | rfl | exact Or.inl rfl | skip
    all_goals try simp only [tk_c, Int.toNat_natCast] at *
    all_goals first | omega | skip
    · rename_i hz
      rw [← s0 hz] at h9
      exact ⟨(), h9⟩
    · rw [← s1 (by omega)] at h9
      exact ⟨(), h9⟩
def f_fs (M : tk_M) : tk_M := g_sec (g_stt (g_mts (f_m0 M) 8) (M 2 3).toNat) (M 2 2).toNat
theorem k_Tr_findStates (l : Launch) (M : tk_M) (hT : p_trk M) (hR : p_tr M) (hC : p_cov M) (hS : p_sec M) : tk_C l y_Tr_findStates 3 43 [.inr 2, .inr 4] M (fun r M' => r = .inl none ∧ M' = f_fs M) := by
  refine tk_C.of wc_Tr_findStates rfl (Nat.le_of_ble_eq_true rfl) fun hr hM => ?_
  obtain ⟨t1, t2, t3, t4, t5, t6⟩ := id hT
  obtain ⟨a1, a2, a3, a4⟩ := g_mts_inv (f_m0_trk hT) (f_m0_3 hT) (f_m0_tr hT hR) 8 (by omega)
  have hC0 : p_cov (f_m0 M) := fun i hi => by rw [f_m0_o (by omega) (by omega)]; exact hC i hi
  have hC8 := g_mts_4 (f_m0_trk hT) (f_m0_3 hT) (f_m0_tr hT hR) hC0 8 (by omega)
  have o : ∀ c j, ¬ q_mk c j → ¬ (31 ≤ c ∧ c < 41 ∧ j = 5) → ¬ (41 ≤ c ∧ c < 73 ∧ j = 3) → g_mts (f_m0 M) 8 c j = M c j := fun c j h1 h2 h3 => by rw [a1 c j h1, f_m0_o (by omega) (by omega)]
  have e23 : g_mts (f_m0 M) 8 2 3 = M 2 3 := o 2 3 (by unfold q_mk; omega) (by omega) (by omega)
  have e22 : g_mts (f_m0 M) 8 2 2 = M 2 2 := o 2 2 (by unfold q_mk; omega) (by omega) (by omega)
  have hs : ∀ i : Nat, (i : Int) < M 2 3 → 0 ≤ g_mts (f_m0 M) 8 (41 + i) 0 ∧ g_mts (f_m0 M) 8 (41 + i) 0 < 10 := fun i hi => by rw [o _ 0 (by unfold q_mk; omega) (by omega) (by omega)]; exact t5 i hi
  have hse : ∀ i j : Nat, i < 10 → j < 2 → g_mts (f_m0 M) 8 (31 + i) j = M (31 + i) j := fun i j hi hj => o _ j (by unfold q_mk; omega) (by omega) (by omega)
  have ef : f_fs M = g_sec (g_stt (g_mts (f_m0 M) 8) (M 2 3).toNat) (M 2 2).toNat := rfl
  refine tk_goA fo_Tr co_Tr tg_Tr_findStates 40 [7] ?_
  refine ⟨(), tk_aV (k := 1) (k_Tr_markTrains l M hT hR) wc_Tr_markTrains lk_Tr_75 wi_Tr_markTrains wsl_Tr_markTrains tg_Tr_findStates rfl rfl (by decide) rfl rfl rfl (by decide) (Nat.le_of_ble_eq_true rfl) ?_ (fun x M' h => by cases h.1)⟩
  rintro v' M' ⟨h1, rfl⟩ hro
  cases h1
  generalize g_mts (f_m0 M) 8 = N at *
  refine tk_goA fo_Tr co_Tr tg_Tr_findStates 40 [7] ?_
  refine ⟨(), ?_⟩
  have h := lp_Tr_findStates1 l N (by rw [e23]; exact t4) (by rw [e23]; exact t3) (by rw [e23]; exact hs) hC8 (fun r M' => r = .inl none ∧ M' = f_fs M) ?_ (M 2 3).toNat 0 (by rw [e23]; omega)
  · rw [g_stt_0] at h
    exact h
  · refine tk_goA fo_Tr co_Tr tg_Tr_findStates 40 [44] ?_
    refine ⟨(), ?_⟩
    rw [e23]
    have g22 : g_stt N (M 2 3).toNat 2 2 = M 2 2 := by rw [g_stt_o (by omega), e22]
    have h := lp_Tr_findStates2 l (g_stt N (M 2 3).toNat) (by rw [g22]; exact t2) (by rw [g22]; exact t1) (fun i hi => by
      rw [g22] at hi
      rw [g_stt_o (by omega), g_stt_o (by omega), hse i 0 (by omega) (by decide), hse i 1 (by omega) (by decide)]
      exact hS i hi) (M 2 2).toNat 0 (by rw [g22]; omega)
    rw [g_sec_0, g22, ← ef] at h
    exact h
