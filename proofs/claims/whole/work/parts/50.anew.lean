/-! CONTRACTS: all found anew, and what stays true -/
theorem g_mts8 {M : tk_M} (hT : p_trk M) (hR : p_tr M) : (∀ c j, ¬ q_mk c j → g_mts (f_m0 M) 8 c j = M c j) ∧ (p_cov M → p_cov (g_mts (f_m0 M) 8)) := by
  have hT' := id hT
  obtain ⟨t1, t2, t3, t4, t5, t6⟩ := hT'
  obtain ⟨a1, a2, a3, a4⟩ := g_mts_inv (f_m0_trk hT) (f_m0_3 hT) (f_m0_tr hT hR) 8 (by omega)
  refine ⟨fun c j h => ?_, fun hC => ?_⟩
  · rw [a1 c j h]
    unfold q_mk at h
    exact f_m0_o (by omega) (by omega)
  · have hC0 : p_cov (f_m0 M) := fun i hi => by rw [f_m0_o (by omega) (by omega)]; exact hC i hi
    exact g_mts_4 (f_m0_trk hT) (f_m0_3 hT) (f_m0_tr hT hR) hC0 8 (by omega)
def q_fs (c j : Nat) : Prop := q_mk c j ∨ (41 ≤ c ∧ c < 73 ∧ j = 2) ∨ (31 ≤ c ∧ c < 41 ∧ (j = 4 ∨ j = 3))
theorem f_fs_o {M : tk_M} (hT : p_trk M) (hR : p_tr M) {c j : Nat} (h : ¬ q_fs c j) : f_fs M c j = M c j := by
  obtain ⟨t1, t2, t3, t4, t5, t6⟩ := id hT
  unfold q_fs at h
  unfold f_fs
  rw [g_sec_o (by omega), g_stt_o (by omega), (g_mts8 hT hR).1 c j (fun z => h (Or.inl z))]
theorem f_fs_c {M : tk_M} (hT : p_trk M) (hR : p_tr M) (hC : p_cov M) : p_cov (f_fs M) := by
  obtain ⟨t1, t2, t3, t4, t5, t6⟩ := id hT
  intro i hi
  unfold f_fs
  rw [g_sec_o (by omega), g_stt_o (by omega)]
  exact (g_mts8 hT hR).2 hC i hi
theorem f_fs_3 {M : tk_M} (hT : p_trk M) (hR : p_tr M) (i : Nat) (hi : i < 10) : f_fs M (31 + i) 3 = M (31 + i) 3 ∨ f_fs M (31 + i) 3 = 0 := by
  unfold f_fs g_sec
  split
  · exact Or.inr rfl
  · rw [g_stt_o (by omega), (g_mts8 hT hR).1 _ _ (by unfold q_mk; omega)]
    exact Or.inl rfl
/-- what finding anew asks -/
def p_an (M : tk_M) : Prop := p_trk M ∧ p_cov M ∧ p_sec M ∧ (∀ t : Nat, t < 8 → (¬ M (73 + t) 0 = 0 → ¬ M (73 + t) 2 = 0 → p_mk M t) ∧ M (73 + t) 12 < 32 ∧ 0 ≤ M (73 + t) 3 ∧ 0 ≤ M (73 + t) 8) ∧ 0 ≤ M 1 7 ∧ M 3 0 < 2147483600 ∧ M 3 1 < 2147483600
theorem g_j_trk {M : tk_M} (h : p_trk M) : p_trk (g_j M 8) := by
  obtain ⟨t1, t2, t3, t4, t5, t6⟩ := h
  have o : ∀ c j, ¬ 73 ≤ c → g_j M 8 c j = M c j := fun c j h1 => g_j_o (by omega)
  refine ⟨by rw [o _ _ (by omega)]; exact t1, by rw [o _ _ (by omega)]; exact t2, by rw [o _ _ (by omega)]; exact t3, by rw [o _ _ (by omega)]; exact t4, fun i hi => ?_, fun h => ?_⟩
  · rw [o _ _ (by omega)] at hi
    rw [o _ _ (by omega)]
    exact t5 i hi
  · rw [o _ _ (by omega)] at h
    have h0 := t5 0 (by omega)
    simp only [Nat.add_zero] at h0
    rw [o 41 _ (by omega), o _ _ (by omega)]
    exact t6 h
theorem g_j_9 {M : tk_M} {t : Nat} (ht : t < 8) : g_j M 8 (73 + t) 9 = f_loc M (73 + t) (M 1 7) (M 1 4) := by
  unfold g_j
  rw [if_pos (by omega)]
theorem g_j_10 {M : tk_M} {t : Nat} (ht : t < 8) : g_j M 8 (73 + t) 10 = f_who M (73 + t) (M 1 7) (M 1 4) (M 1 5) := by
  unfold g_j
  rw [if_neg (by omega), if_pos (by omega)]
theorem g_j_tr {M : tk_M} (h : p_an M) : p_tr (g_j M 8) := by
  obtain ⟨h1, h2, h3, h4, h5, h6, h7⟩ := h
  intro t ht hl
  rw [g_j_9 ht] at hl
  unfold f_loc at hl
  split at hl
  · rename_i hc
    have := (h4 t ht).1 hc.1 hc.2.1
    unfold p_mk at this ⊢
    rw [g_j_o (by omega), g_j_o (by omega), g_j_o (by omega)]
    exact this
  · exact absurd rfl hl
def f_all (M : tk_M) : tk_M := g_set (f_fs (g_j M 8)) 8
theorem lp_TK_findAllAnew (l : Launch) (M : tk_M) (hp : p_an M) (P : (Option Int ⊕ Nat) → tk_M → Prop) (hP : tk_At l "TrackKeeper" prog_1_method_20_code 2 none 4 57 P 35 [some (.inr 1), some (.inl 8)] [] (g_j M 8)) : ∀ (n i : Nat), i + n = 8 →
    tk_At l "TrackKeeper" prog_1_method_20_code 2 none 4 57 P 2 [some (.inr 1), some (.inl (i : Int))] [] (g_j M i) := by
  obtain ⟨p1, p2, p3, p4, p5, p6, p7⟩ := hp
  intro n
  induction n with
  | zero =>
    intro i hi
    refine tk_goA fo_TK co_TK tg_TK_findAllAnew 40 [35, 2] ?_
    refine And.intro (fun _ => ⟨(), ?_⟩) (fun h => ?_)
    · rw [show i = 8 by omega]; exact hP
    · exact absurd (show (8 : Int) ≤ (i : Int) by omega) h
  | succ n ih =>
    intro i hi
    have h9 := ih (i + 1) (by omega)
    have hpi := p4 i (by omega)
    rw [← g_j_s] at h9
    have o : ∀ c j, j ≠ 9 → j ≠ 10 → g_j M i c j = M c j := fun c j h1 h2 => g_j_o (by omega)
    have con := k_Ti_judge l i (by omega) (M 1 7) (M 1 4) (M 1 5) (g_j M i) p5 (by rw [o _ _ (by decide) (by decide)]; omega) (by rw [o _ _ (by decide) (by decide)]; omega)
    rw [← o 1 7 (by decide) (by decide), ← o 1 4 (by decide) (by decide), ← o 1 5 (by decide) (by decide)] at con h9
    generalize g_j M i = N at *
    refine tk_goA fo_TK co_TK tg_TK_findAllAnew 40 [35, 2] ?_
    repeat' first | refine And.intro ?_ ?_ | intro _
    all_goals first | rfl | skip
    all_goals try simp only [tk_c, Int.toNat_natCast] at *
    all_goals first | omega | skip
    refine ⟨(), tk_aV (k := 5) con wc_Ti_judge lk_TK_181 wi_Ti_judge wsl_Ti_judge tg_TK_findAllAnew rfl rfl (show _ < 81 by omega) (tk_shT (by omega)) rfl rfl (by decide) (Nat.le_of_ble_eq_true rfl) ?_ (fun x M' h => by cases h.1)⟩
    rintro v' N' ⟨h1, rfl⟩ hro
    cases h1
    generalize f_loc N (73 + i) (N 1 7) (N 1 4) = u at *
    generalize f_who N (73 + i) (N 1 7) (N 1 4) (N 1 5) = w at *
    refine tk_goA fo_TK co_TK tg_TK_findAllAnew 40 [35, 2] ?_
    repeat' first | refine And.intro ?_ ?_ | intro _
    all_goals first | omega | skip
    exact ⟨(), h9⟩
theorem k_TK_findAllAnew (l : Launch) (M : tk_M) (hp : p_an M) : tk_C l y_TK_findAllAnew 4 57 [.inr 1] M (fun r M' => r = .inl none ∧ M' = f_all M) := by
  refine tk_C.of wc_TK_findAllAnew rfl (Nat.le_of_ble_eq_true rfl) fun hr hM => ?_
  obtain ⟨p1, p2, p3, p4, p5, p6, p7⟩ := id hp
  have o : ∀ c j, j ≠ 9 → j ≠ 10 → g_j M 8 c j = M c j := fun c j h1 h2 => g_j_o (by omega)
  have hT := g_j_trk p1
  have hR := g_j_tr hp
  have e : ∀ c j, ¬ q_fs c j → f_fs (g_j M 8) c j = g_j M 8 c j := fun c j h => f_fs_o hT hR h
  refine tk_goA fo_TK co_TK tg_TK_findAllAnew 40 [2] ?_
  refine ⟨(), ?_⟩
  have h := lp_TK_findAllAnew l M hp (fun r M' => r = .inl none ∧ M' = f_all M) ?_ 8 0 rfl
  · rw [g_j_0] at h
    exact h
  · refine tk_goA fo_TK co_TK tg_TK_findAllAnew 40 [2] ?_
    repeat' first | refine And.intro ?_ ?_ | intro _
    all_goals first | omega | skip
    refine ⟨(), tk_aV (k := 1) (k_Tr_findStates l (g_j M 8) hT hR (fun i hi => by rw [g_j_o (by omega)]; exact p2 i hi) (fun i hi => by
      rw [g_j_o (by omega)] at hi
      rw [g_j_o (by have := p1.2.1; omega), g_j_o (by have := p1.2.1; omega)]
      exact p3 i hi)) wc_Tr_findStates lk_TK_185 wi_Tr_findStates wsl_Tr_findStates tg_TK_findAllAnew rfl rfl (by decide) rfl rfl rfl (by decide) (Nat.le_of_ble_eq_true rfl) ?_ (fun x M' h => by cases h.1)⟩
    rintro v' N' ⟨h1, rfl⟩ hro
    cases h1
    have con := k_Au_settle l (f_fs (g_j M 8)) (fun t ht => ⟨fun hl => by
        rw [e _ 9 (by unfold q_fs q_mk; omega)] at hl
        have := hR t ht hl
        unfold p_mk at this
        rw [e _ 5 (by unfold q_fs q_mk; omega)]
        have h23 := hT.2.2.2.1
        omega, by
        rw [e _ 12 (by unfold q_fs q_mk; omega), o _ _ (by decide) (by decide)]
        exact (p4 t ht).2.1⟩) (by rw [e _ _ (by unfold q_fs q_mk; omega), o _ _ (by decide) (by decide)]; exact p6) (by rw [e _ _ (by unfold q_fs q_mk; omega), o _ _ (by decide) (by decide)]; exact p7)
    have ef : f_all M = g_set (f_fs (g_j M 8)) 8 := rfl
    generalize f_fs (g_j M 8) = N at *
    refine tk_goA fo_TK co_TK tg_TK_findAllAnew 40 [2] ?_
    repeat' first | refine And.intro ?_ ?_ | intro _
    all_goals first | omega | skip
    refine ⟨(), tk_aV (k := 2) con wc_Au_settle lk_TK_189 wi_Au_settle wsl_Au_settle tg_TK_findAllAnew rfl rfl (by decide) rfl rfl rfl (by decide) (Nat.le_of_ble_eq_true rfl) ?_ (fun x M' h => by cases h.1)⟩
    rintro v' N' ⟨h1, rfl⟩ hro
    cases h1
    refine tk_goA fo_TK co_TK tg_TK_findAllAnew 40 [2] ?_
    exact ⟨rfl, ef.symm⟩
def q_all (c j : Nat) : Prop := q_fs c j ∨ (73 ≤ c ∧ c < 81 ∧ (j = 9 ∨ j = 10 ∨ j = 12)) ∨ (c = 3 ∧ j < 2)
theorem f_all_o {M : tk_M} (hp : p_an M) {c j : Nat} (h : ¬ q_all c j) : f_all M c j = M c j := by
  unfold q_all at h
  unfold f_all
  rw [g_set_o (by omega) 8 (by omega), f_fs_o (g_j_trk hp.1) (g_j_tr hp) (fun z => h (Or.inl z)), g_j_o (by omega)]
theorem f_so_12 {M : tk_M} {t : Nat} (h : M (73 + t) 12 < 32) : f_so M t (73 + t) 12 < 32 := by
  unfold f_so
  dsimp only
  split
  · rw [tk_up_n (by omega), tk_up_s]; decide
  · split
    · split
      · rw [tk_up_s]; decide
      · rw [tk_up_n (by omega), tk_up_s]; omega
    · split
      · rw [tk_up_s]; decide
      · exact h
theorem g_set_12 {M : tk_M} {t : Nat} (h : M (73 + t) 12 < 32) : ∀ n : Nat, g_set M n (73 + t) 12 < 32
  | 0 => h
  | n + 1 => by
    have ih := g_set_12 h n
    unfold g_set
    split
    · exact ih
    · by_cases e : t = n
      · subst e; exact f_so_12 ih
      · rw [f_so_o (by omega) (by omega)]; exact ih
theorem f_all_12 {M : tk_M} (hp : p_an M) {t : Nat} (ht : t < 8) : f_all M (73 + t) 12 < 32 := by
  unfold f_all
  refine g_set_12 ?_ 8
  rw [f_fs_o (g_j_trk hp.1) (g_j_tr hp) (by unfold q_fs q_mk; omega), g_j_o (by omega)]
  exact (hp.2.2.2.1 t ht).2.1
theorem f_all_3 {M : tk_M} (hp : p_an M) (k : Nat) : f_all M 3 k ≤ M 3 k + 8 := by
  have h := (g_set_3 (f_fs (g_j M 8)) k 8).2
  rw [f_fs_o (g_j_trk hp.1) (g_j_tr hp) (by unfold q_fs q_mk; omega), g_j_o (by omega)] at h
  exact h
theorem f_all_c {M : tk_M} (hp : p_an M) : p_cov (f_all M) := by
  intro i hi
  unfold f_all
  rw [g_set_o (by omega) 8 (by omega)]
  exact f_fs_c (g_j_trk hp.1) (g_j_tr hp) (fun i hi => by rw [g_j_o (by omega)]; exact hp.2.1 i hi) i hi
theorem f_all_cnt {M : tk_M} (hp : p_an M) (i : Nat) (hi : i < 10) : f_all M (31 + i) 3 = M (31 + i) 3 ∨ f_all M (31 + i) 3 = 0 := by
  unfold f_all
  rw [g_set_o (by omega) 8 (by omega)]
  have := f_fs_3 (g_j_trk hp.1) (g_j_tr hp) i hi
  rw [g_j_o (by omega)] at this
  exact this
/-- what holds of the class between calls: K bounds how often all was found anew -/
def p_inv (M : tk_M) (K : Int) : Prop := p_trk M ∧ p_cov M ∧ p_sec M ∧ (∀ t : Nat, t < 8 → M (73 + t) 12 < 32 ∧ 0 ≤ M (73 + t) 3 ∧ 0 ≤ M (73 + t) 8 ∧ 0 ≤ M (73 + t) 1) ∧
  (0 ≤ M 1 7 ∧ M 1 7 ≤ K ∧ M 3 0 ≤ 8 * K ∧ M 3 1 ≤ 8 * K ∧ M 2 5 ≤ 10 * K ∧ (∀ i : Nat, i < 10 → M (31 + i) 3 ≤ K) ∧ 0 ≤ M 2 4 ∧ M 2 4 ≤ 100000 * M 2 3) ∧
  (¬ M 1 3 = 0 → 1 ≤ M 2 3 ∧ ∀ t : Nat, t < 8 → ¬ M (73 + t) 0 = 0 → ¬ M (73 + t) 2 = 0 → p_mk M t)
theorem p_inv.an {M : tk_M} {K : Int} (h : p_inv M K) (hK : K ≤ 10000000) (hb : ¬ M 1 3 = 0) : p_an M := by
  obtain ⟨h1, h2, h3, h4, ⟨k1, k2, k3, k4, k5, k6, k7, k8⟩, h6⟩ := h
  exact ⟨h1, h2, h3, fun t ht => ⟨(h6 hb).2 t ht, (h4 t ht).1, (h4 t ht).2.1, (h4 t ht).2.2.1⟩, k1, by omega, by omega⟩
theorem p_trk_eq {M N : tk_M} (h22 : N 2 2 = M 2 2) (h23 : N 2 3 = M 2 3) (hs : ∀ i, i < 32 → N (41 + i) 0 = M (41 + i) 0) (hf : ∀ i, i < 10 → N (31 + i) 0 = M (31 + i) 0) (h : p_trk M) : p_trk N := by
  obtain ⟨t1, t2, t3, t4, t5, t6⟩ := h
  refine ⟨by omega, by omega, by omega, by omega, fun i hi => ?_, fun h => ?_⟩
  · rw [hs i (by omega)]
    exact t5 i (by omega)
  · have := t5 0 (by omega)
    have e := hs 0 (by omega)
    simp only [Nat.add_zero] at e
    simp only [Nat.add_zero] at this
    rw [e, hf _ (by omega)]
    exact t6 (by omega)
theorem p_inv.all {M : tk_M} {K : Int} (h : p_inv M K) (hK : K ≤ 10000000) (h0 : 0 ≤ K) (hb : ¬ M 1 3 = 0) : p_inv (f_all M) (K + 1) := by
  have ha := h.an hK hb
  obtain ⟨h1, h2, h3, h4, ⟨k1, k2, k3, k4, k5, k6, k7, k8⟩, h6⟩ := h
  have o : ∀ c j, ¬ q_all c j → f_all M c j = M c j := fun c j h => f_all_o ha h
  have b0 := f_all_3 ha 0
  have b1 := f_all_3 ha 1
  have e22 := o 2 2 (by unfold q_all q_fs q_mk; omega)
  have e23 := o 2 3 (by unfold q_all q_fs q_mk; omega)
  have e24 := o 2 4 (by unfold q_all q_fs q_mk; omega)
  have e25 := o 2 5 (by unfold q_all q_fs q_mk; omega)
  have e13 := o 1 3 (by unfold q_all q_fs q_mk; omega)
  have e17 := o 1 7 (by unfold q_all q_fs q_mk; omega)
  refine ⟨p_trk_eq e22 e23 (fun i hi => o _ _ (by unfold q_all q_fs q_mk; omega)) (fun i hi => o _ _ (by unfold q_all q_fs q_mk; omega)) h1, f_all_c ha, fun i hi => ?_, fun t ht => ?_, ⟨by omega, by omega, by omega, by omega, by omega, fun i hi => ?_, by omega, by omega⟩, fun hb => ⟨?_, fun t ht hc hr => ?_⟩⟩
  · rw [e22] at hi
    have := h1.2.1
    rw [o _ 0 (by unfold q_all q_fs q_mk; omega), o _ 1 (by unfold q_all q_fs q_mk; omega)]
    exact h3 i hi
  · rw [o _ 3 (by unfold q_all q_fs q_mk; omega), o _ 8 (by unfold q_all q_fs q_mk; omega), o _ 1 (by unfold q_all q_fs q_mk; omega)]
    exact ⟨f_all_12 ha ht, (h4 t ht).2⟩
  · have := k6 i hi
    rcases f_all_cnt ha i hi with e | e <;> omega
  · rw [e13] at hb
    have := (h6 hb).1
    omega
  · rw [e13] at hb
    rw [o _ 0 (by unfold q_all q_fs q_mk; omega)] at hc
    rw [o _ 2 (by unfold q_all q_fs q_mk; omega)] at hr
    have := (h6 hb).2 t ht hc hr
    unfold p_mk at this ⊢
    rw [o _ 6 (by unfold q_all q_fs q_mk; omega), o _ 5 (by unfold q_all q_fs q_mk; omega), e23]
    exact this
