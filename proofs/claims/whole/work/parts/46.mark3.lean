/-! CONTRACTS: all trains marked -/
def p_trk (M : tk_M) : Prop := 0 ≤ M 2 2 ∧ M 2 2 ≤ 10 ∧ 0 ≤ M 2 3 ∧ M 2 3 ≤ 32 ∧ (∀ i : Nat, (i : Int) < M 2 3 → 0 ≤ M (41 + i) 0 ∧ M (41 + i) 0 < 10) ∧ (0 < M 2 3 → M (31 + (M 41 0).toNat) 0 = 0)
def p_tr (M : tk_M) : Prop := ∀ t : Nat, t < 8 → ¬ M (73 + t) 9 = 0 → p_mk M t
theorem g_mk_3 {M : tk_M} {num : Int} {a : Nat} : ∀ n : Nat, (∀ i : Nat, i < n → (M (41 + (a + i)) 0).toNat < 10) → ∀ c : Nat, 41 ≤ c → M c 3 ≤ g_mk M num a n c 3 ∧ g_mk M num a n c 3 ≤ M c 3 + 1
  | 0, _, c, _ => ⟨Int.le_refl _, by show M c 3 ≤ _; omega⟩
  | n + 1, hs, c, hc => by
    have ih := g_mk_3 (M := M) (num := num) (a := a) n (fun i hi => hs i (by omega)) c hc
    have hn := hs n (by omega)
    have e3 : g_mk M num a n (41 + (a + n)) 3 = M (41 + (a + n)) 3 := g_mk_o (by omega) n (fun i hi => hs i (by omega)) (by omega)
    show _ ≤ tk_up _ _ _ _ c 3 ∧ tk_up _ _ _ _ c 3 ≤ _
    rw [tk_up_c _ _ _ _ (by omega), tk_up]
    rw [if_neg (by omega)]
    unfold tk_up
    by_cases e : c = 41 + (a + n) ∧ 3 = 3
    · rw [if_pos e, e3, e.1]
      omega
    · rw [if_neg e]
      exact ih
theorem f_mk_3 {M : tk_M} {t : Nat} (ht : t < 8) (hp : p_mk M t) (hs : p_sub M) (i : Nat) (hi : i < 32) : M (41 + i) 3 ≤ f_mk M t (41 + i) 3 ∧ f_mk M t (41 + i) 3 ≤ M (41 + i) 3 + 1 := by
  obtain ⟨p1, p2, p3⟩ := hp
  obtain ⟨s1, s2, s3, s4⟩ := hs
  have hg := g_mk_3 (M := tk_up M (73 + t) 11 (f_occ M t)) (num := (t : Int)) (a := (M (73 + t) 6).toNat) ((M (73 + t) 5).toNat + 1 - (M (73 + t) 6).toNat) (fun k hk => by
    have := s3 ((M (73 + t) 6).toNat + k) (by omega)
    rw [tk_up_c _ _ _ _ (by omega)]
    omega) (41 + i) (by omega)
  rw [tk_up_c _ _ _ _ (by omega)] at hg
  unfold f_mk
  split
  · have := s3 (M (73 + t) 5 + 1).toNat (by omega)
    rw [tk_up_c _ _ _ _ (by omega)]
    exact hg
  · exact hg
/-- cells and slots that the marking writes -/
def q_mk (c j : Nat) : Prop := (73 ≤ c ∧ c < 81 ∧ j = 11) ∨ (31 ≤ c ∧ c < 41 ∧ j = 5) ∨ (41 ≤ c ∧ c < 73 ∧ (j = 3 ∨ j = 4))
theorem g_mts_inv {M : tk_M} (hT : p_trk M) (h0 : ∀ i : Nat, (i : Int) < M 2 3 → M (41 + i) 3 = 0) (hR : p_tr M) : ∀ n : Nat, n ≤ 8 → (∀ c j, ¬ q_mk c j → g_mts M n c j = M c j) ∧ p_sub (g_mts M n) ∧ p_tr (g_mts M n) ∧ ∀ i : Nat, (i : Int) < M 2 3 → 0 ≤ g_mts M n (41 + i) 3 ∧ g_mts M n (41 + i) 3 ≤ n
  | 0, _ => by
    obtain ⟨t1, t2, t3, t4, t5, t6⟩ := hT
    refine ⟨fun _ _ _ => rfl, ⟨t3, t4, fun i hi => ⟨(t5 i hi).1, (t5 i hi).2, ?_, ?_⟩, t6⟩, hR, fun i hi => ⟨?_, ?_⟩⟩
    · show -1000 ≤ M (41 + i) 3
      rw [h0 i hi]; decide
    · show M (41 + i) 3 < 1000
      rw [h0 i hi]; decide
    · show 0 ≤ M (41 + i) 3
      rw [h0 i hi]; decide
    · show M (41 + i) 3 ≤ _
      rw [h0 i hi]; decide
  | n + 1, hn => by
    obtain ⟨a1, a2, a3, a4⟩ := g_mts_inv hT h0 hR n (by omega)
    obtain ⟨t1, t2, t3, t4, t5, t6⟩ := hT
    have ew : g_mts M (n + 1) = if g_mts M n (73 + n) 9 = 0 then g_mts M n else f_mk (g_mts M n) n := rfl
    by_cases hz : g_mts M n (73 + n) 9 = 0
    · rw [ew, if_pos hz]
      exact ⟨a1, a2, a3, fun i hi => by have := a4 i hi; omega⟩
    · rw [ew, if_neg hz]
      have pm := a3 n (by omega) hz
      have o : ∀ c j, ¬ q_mk c j → f_mk (g_mts M n) n c j = M c j := fun c j h => by
        unfold q_mk at h
        rw [f_mk_o pm a2 (by omega) (by omega) (by omega)]
        exact a1 c j (by unfold q_mk; omega)
      have o3 : ∀ i : Nat, (i : Int) < M 2 3 → 0 ≤ f_mk (g_mts M n) n (41 + i) 3 ∧ f_mk (g_mts M n) n (41 + i) 3 ≤ n + 1 := fun i hi => by
        have := f_mk_3 (by omega) pm a2 i (by omega)
        have := a4 i hi
        omega
      have e23 : f_mk (g_mts M n) n 2 3 = M 2 3 := o 2 3 (by unfold q_mk; omega)
      refine ⟨o, ⟨by rw [e23]; exact t3, by rw [e23]; exact t4, fun i hi => ?_, fun h => ?_⟩, fun t ht hl => ?_, fun i hi => by have := o3 i hi; omega⟩
      · rw [e23] at hi
        have := o3 i hi
        rw [o (41 + i) 0 (by unfold q_mk; omega)]
        have := t5 i hi
        omega
      · rw [e23] at h
        rw [o 41 0 (by unfold q_mk; omega), o _ 0 (by unfold q_mk; omega)]
        exact t6 h
      · rw [o (73 + t) 9 (by unfold q_mk; omega)] at hl
        have := hR t ht hl
        unfold p_mk at this ⊢
        rw [o (73 + t) 6 (by unfold q_mk; omega), o (73 + t) 5 (by unfold q_mk; omega), e23]
        exact this
theorem lp_Tr_markTrains3 (l : Launch) (M : tk_M) (hT : p_trk M) (h0 : ∀ i : Nat, (i : Int) < M 2 3 → M (41 + i) 3 = 0) (hR : p_tr M) : ∀ (n i : Nat), i + n = 8 →
    tk_At l "TrackKeeper$Track" prog_5_method_14_code 3 none 2 29 (fun r M' => r = .inl none ∧ M' = g_mts M 8) 54 [some (.inr 2), some (.inr 4), some (.inl (i : Int))] [] (g_mts M i) := by
  intro n
  induction n with
  | zero =>
    intro i hi
    refine tk_goA fo_Tr co_Tr tg_Tr_markTrains 40 [54] ?_
    refine And.intro (fun _ => ⟨rfl, ?_⟩) (fun h => ?_)
    · rw [show i = 8 by omega]
    · exact absurd (show (8 : Int) ≤ (i : Int) by omega) h
  | succ n ih =>
    intro i hi
    have h9 := ih (i + 1) (by omega)
    obtain ⟨a1, a2, a3, a4⟩ := g_mts_inv hT h0 hR i (by omega)
    have en : g_mts M (i + 1) = if g_mts M i (73 + i) 9 = 0 then g_mts M i else f_mk (g_mts M i) i := rfl
    generalize g_mts M i = N at *
    refine tk_goA fo_Tr co_Tr tg_Tr_markTrains 40 [54] ?_
    repeat' first | refine And.intro ?_ ?_ | intro _
    all_goals first | rfl | skip
    all_goals try simp only [tk_c, Int.toNat_natCast] at *
    all_goals first | omega | skip
    · rename_i hz
      rw [if_pos hz] at en
      rw [en] at h9
      exact ⟨(), h9⟩
    · rename_i hz
      rw [if_neg hz] at en
      rw [en] at h9
      have con := k_Tr_markTrain l N i (by omega) (a3 i (by omega) hz) a2
      refine ⟨(), tk_aV (k := 1) con wc_Tr_markTrain lk_Tr_94 wi_Tr_markTrain wsl_Tr_markTrain tg_Tr_markTrains rfl rfl (by decide) rfl rfl rfl (by decide) (Nat.le_of_ble_eq_true rfl) ?_ (fun x M' h => by cases h.1)⟩
      rintro v' N' ⟨h1, rfl⟩ hro
      cases h1
      refine tk_goA fo_Tr co_Tr tg_Tr_markTrains 40 [54] ?_
      repeat' first | refine And.intro ?_ ?_ | intro _
      all_goals first | omega | skip
      exact ⟨(), h9⟩
theorem lp_Tr_markTrains1 (l : Launch) (M : tk_M) (h4 : M 2 3 ≤ 32) (h3 : 0 ≤ M 2 3) (P : (Option Int ⊕ Nat) → tk_M → Prop) (hP : tk_At l "TrackKeeper$Track" prog_5_method_14_code 3 none 2 29 P 26 [some (.inr 2), some (.inr 4), some (.inl (M 2 3))] [] (tk_st 41 (M 2 3).toNat 3 0 M)) : ∀ (n i : Nat), i + n = (M 2 3).toNat →
    tk_At l "TrackKeeper$Track" prog_5_method_14_code 3 none 2 29 P 2 [some (.inr 2), some (.inr 4), some (.inl (i : Int))] [] (tk_st 41 i 3 0 M) := by
  intro n
  induction n with
  | zero =>
    intro i hi
    have e2 : tk_st 41 i 3 0 M 2 3 = M 2 3 := tk_st_o (by omega)
    refine tk_goA fo_Tr co_Tr tg_Tr_markTrains 40 [2, 26] ?_
    refine And.intro ⟨by decide, by decide⟩ fun _ _ => And.intro (fun _ => ⟨(), ?_⟩) (fun h => ?_)
    · rw [show (i : Int) = M 2 3 by omega, show i = (M 2 3).toNat by omega]
      exact hP
    · exact absurd (show tk_st 41 i 3 0 M 2 3 ≤ (i : Int) by rw [e2]; omega) h
  | succ n ih =>
    intro i hi
    have e2 : tk_st 41 i 3 0 M 2 3 = M 2 3 := tk_st_o (by omega)
    have h9 := ih (i + 1) (by omega)
    refine tk_goA fo_Tr co_Tr tg_Tr_markTrains 40 [2, 26] ?_
    repeat' first | refine And.intro ?_ ?_ | intro _
    all_goals first | rfl | skip
    all_goals try simp only [tk_c, Int.toNat_natCast] at *
    all_goals try rw [e2] at *
    all_goals first | omega | skip
    rw [← tk_st_s] at h9
    exact ⟨(), h9⟩
theorem lp_Tr_markTrains2 (l : Launch) (M : tk_M) (h4 : M 2 2 ≤ 10) (h3 : 0 ≤ M 2 2) (P : (Option Int ⊕ Nat) → tk_M → Prop) (hP : tk_At l "TrackKeeper$Track" prog_5_method_14_code 3 none 2 29 P 52 [some (.inr 2), some (.inr 4), some (.inl (M 2 2))] [] (tk_st 31 (M 2 2).toNat 5 0 M)) : ∀ (n i : Nat), i + n = (M 2 2).toNat →
    tk_At l "TrackKeeper$Track" prog_5_method_14_code 3 none 2 29 P 28 [some (.inr 2), some (.inr 4), some (.inl (i : Int))] [] (tk_st 31 i 5 0 M) := by
  intro n
  induction n with
  | zero =>
    intro i hi
    have e2 : tk_st 31 i 5 0 M 2 2 = M 2 2 := tk_st_o (by omega)
    refine tk_goA fo_Tr co_Tr tg_Tr_markTrains 40 [28, 52] ?_
    refine And.intro ⟨by decide, by decide⟩ fun _ _ => And.intro (fun _ => ⟨(), ?_⟩) (fun h => ?_)
    · rw [show (i : Int) = M 2 2 by omega, show i = (M 2 2).toNat by omega]
      exact hP
    · exact absurd (show tk_st 31 i 5 0 M 2 2 ≤ (i : Int) by rw [e2]; omega) h
  | succ n ih =>
    intro i hi
    have e2 : tk_st 31 i 5 0 M 2 2 = M 2 2 := tk_st_o (by omega)
    have h9 := ih (i + 1) (by omega)
    refine tk_goA fo_Tr co_Tr tg_Tr_markTrains 40 [28, 52] ?_
    repeat' first | refine And.intro ?_ ?_ | intro _
    all_goals first | rfl | exact Or.inl rfl | skip
    all_goals try simp only [tk_c, Int.toNat_natCast] at *
    all_goals try rw [e2] at *
    all_goals first | omega | skip
    rw [← tk_st_s] at h9
    exact ⟨(), h9⟩
/-- covers and reaches, before any train is marked -/
def f_m0 (M : tk_M) : tk_M := tk_st 31 (M 2 2).toNat 5 0 (tk_st 41 (M 2 3).toNat 3 0 M)
theorem f_m0_o {M : tk_M} {c j : Nat} (h1 : ¬ (31 ≤ c ∧ c < 31 + (M 2 2).toNat ∧ j = 5)) (h2 : ¬ (41 ≤ c ∧ c < 41 + (M 2 3).toNat ∧ j = 3)) : f_m0 M c j = M c j := by
  unfold f_m0
  rw [tk_st_o h1, tk_st_o h2]
theorem f_m0_trk {M : tk_M} (hT : p_trk M) : p_trk (f_m0 M) := by
  obtain ⟨t1, t2, t3, t4, t5, t6⟩ := hT
  have o : ∀ c j, j ≠ 3 → j ≠ 5 → f_m0 M c j = M c j := fun c j h1 h2 => f_m0_o (by omega) (by omega)
  have o2 : ∀ j, f_m0 M 2 j = M 2 j := fun j => f_m0_o (by omega) (by omega)
  refine ⟨by rw [o2]; exact t1, by rw [o2]; exact t2, by rw [o2]; exact t3, by rw [o2]; exact t4, fun i hi => ?_, fun h => ?_⟩
  · rw [o2] at hi
    rw [o _ 0 (by decide) (by decide)]
    exact t5 i hi
  · rw [o2] at h
    rw [o 41 0 (by decide) (by decide), o _ 0 (by decide) (by decide)]
    exact t6 h
theorem f_m0_tr {M : tk_M} (hT : p_trk M) (hR : p_tr M) : p_tr (f_m0 M) := by
  obtain ⟨t1, t2, t3, t4, t5, t6⟩ := hT
  have o : ∀ t j, f_m0 M (73 + t) j = M (73 + t) j := fun t j => f_m0_o (by omega) (by omega)
  have o2 : f_m0 M 2 3 = M 2 3 := f_m0_o (by omega) (by omega)
  intro t ht hl
  rw [o] at hl
  have := hR t ht hl
  unfold p_mk at this ⊢
  rw [o, o, o2]
  exact this
theorem f_m0_3 {M : tk_M} (hT : p_trk M) : ∀ i : Nat, (i : Int) < f_m0 M 2 3 → f_m0 M (41 + i) 3 = 0 := by
  obtain ⟨t1, t2, t3, t4, t5, t6⟩ := hT
  intro i hi
  rw [show f_m0 M 2 3 = M 2 3 from f_m0_o (by omega) (by omega)] at hi
  unfold f_m0
  rw [tk_st_o (by omega), tk_st_i (by omega) (by omega)]
theorem k_Tr_markTrains (l : Launch) (M : tk_M) (hT : p_trk M) (hR : p_tr M) : tk_C l y_Tr_markTrains 2 29 [.inr 2, .inr 4] M (fun r M' => r = .inl none ∧ M' = g_mts (f_m0 M) 8) := by
  refine tk_C.of wc_Tr_markTrains rfl (Nat.le_of_ble_eq_true rfl) fun hr hM => ?_
  obtain ⟨t1, t2, t3, t4, t5, t6⟩ := id hT
  refine tk_goA fo_Tr co_Tr tg_Tr_markTrains 40 [2] ?_
  refine ⟨(), ?_⟩
  have h := lp_Tr_markTrains1 l M t4 t3 (fun r M' => r = .inl none ∧ M' = g_mts (f_m0 M) 8) ?_ (M 2 3).toNat 0 (by omega)
  · rw [tk_st_0] at h
    exact h
  · refine tk_goA fo_Tr co_Tr tg_Tr_markTrains 40 [28] ?_
    refine ⟨(), ?_⟩
    have e2 : tk_st 41 (M 2 3).toNat 3 0 M 2 2 = M 2 2 := tk_st_o (by omega)
    have h := lp_Tr_markTrains2 l (tk_st 41 (M 2 3).toNat 3 0 M) (by rw [e2]; exact t2) (by rw [e2]; exact t1) (fun r M' => r = .inl none ∧ M' = g_mts (f_m0 M) 8) ?_ (M 2 2).toNat 0 (by rw [e2]; omega)
    · rw [tk_st_0] at h
      exact h
    · refine tk_goA fo_Tr co_Tr tg_Tr_markTrains 40 [54] ?_
      refine ⟨(), ?_⟩
      rw [e2]
      exact lp_Tr_markTrains3 l (f_m0 M) (f_m0_trk hT) (f_m0_3 hT) (f_m0_tr hT hR) 8 0 rfl
