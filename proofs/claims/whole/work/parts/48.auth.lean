/-! CONTRACTS: authorities -/
/-- how far all is free from subsection f on, up to e: from f, at most n further -/
def g_run (M : tk_M) (e : Int) : Nat → Int → Int
  | 0, f => f
  | n + 1, f => if f < e ∧ M (41 + (f + 1).toNat) 2 = 0 then g_run M e n (f + 1) else f
theorem g_run_in (M : tk_M) (e : Int) : ∀ (n : Nat) (f : Int), f ≤ g_run M e n f ∧ (g_run M e n f ≤ e ∨ g_run M e n f = f)
  | 0, f => ⟨Int.le_refl _, Or.inr rfl⟩
  | n + 1, f => by
    unfold g_run
    split
    · have := g_run_in M e n (f + 1)
      omega
    · exact ⟨Int.le_refl _, Or.inr rfl⟩
def f_so (M : tk_M) (t : Nat) : tk_M :=
  if M (73 + t) 9 = 0 then tk_up (tk_up M (73 + t) 12 (-1)) 3 1 (M 3 1 + 1)
  else
    let r := g_run M (M (73 + t) 12) 40 (M (73 + t) 5)
    if r < M (73 + t) 12 then (if r ≤ M (73 + t) 5 then tk_up (tk_up (tk_up M (73 + t) 12 r) 3 0 (M 3 0 + 1)) (73 + t) 12 (-1) else tk_up (tk_up M (73 + t) 12 r) 3 0 (M 3 0 + 1))
    else (if M (73 + t) 12 ≤ M (73 + t) 5 then tk_up M (73 + t) 12 (-1) else M)
theorem lp_Au_settleOne (l : Launch) (M : tk_M) (t : Nat) (ht : t < 8) (h5 : 0 ≤ M (73 + t) 5) (h12 : M (73 + t) 12 < 32) (P : (Option Int ⊕ Nat) → tk_M → Prop) (g : Int)
    (hP : tk_At l "TrackKeeper$Authorities" prog_2_method_6_code 4 none 0 0 P 56 [some (.inr 3), some (.inr (73 + t)), some (.inr 2), some (.inl g)] [] M) : ∀ (n : Nat) (f : Int), M (73 + t) 5 ≤ f → M (73 + t) 12 - f ≤ n → g_run M (M (73 + t) 12) n f = g → f < 40 →
    tk_At l "TrackKeeper$Authorities" prog_2_method_6_code 4 none 0 0 P 28 [some (.inr 3), some (.inr (73 + t)), some (.inr 2), some (.inl f)] [] M := by
  intro n
  induction n with
  | zero =>
    intro f h1 h2 h3 h4
    have h3 : f = g := h3
    subst h3
    refine tk_goA fo_Au co_Au tg_Au_settleOne 40 [28, 56] ?_
    repeat' first | refine And.intro ?_ ?_ | intro _
    all_goals first | rfl | skip
    all_goals try simp only [tk_c] at *
    all_goals first | omega | skip
    exact ⟨(), hP⟩
  | succ n ih =>
    intro f h1 h2 h3 h4
    unfold g_run at h3
    refine tk_goA fo_Au co_Au tg_Au_settleOne 40 [28, 56] ?_
    repeat' first | refine And.intro ?_ ?_ | intro _
    all_goals first | rfl | skip
    all_goals try simp only [tk_c] at *
    all_goals first | omega | skip
    · rename_i hge
      rw [if_neg (by omega)] at h3
      subst h3
      exact ⟨(), hP⟩
    · rename_i hne
      rw [if_neg (fun z => hne z.2)] at h3
      subst h3
      exact ⟨(), hP⟩
    · rw [if_pos ⟨by omega, by omega⟩] at h3
      exact ⟨(), ih (f + 1) (by omega) (by omega) h3 (by omega)⟩
theorem k_Au_settleOne (l : Launch) (M : tk_M) (t : Nat) (ht : t < 8) (h5 : ¬ M (73 + t) 9 = 0 → 0 ≤ M (73 + t) 5 ∧ M (73 + t) 5 < 32) (h12 : M (73 + t) 12 < 32) (hc0 : M 3 0 < 2147483647) (hc1 : M 3 1 < 2147483647) : tk_C l y_Au_settleOne 0 0 [.inr 3, .inr (73 + t), .inr 2] M (fun r M' => r = .inl none ∧ M' = f_so M t) := by
  refine tk_C.of wc_Au_settleOne rfl (Nat.le_of_ble_eq_true rfl) fun hr hM => ?_
  have b0 := hM 3 0
  have b1 := hM 3 1
  have u : ∀ v : Int, ∀ k, tk_up M (73 + t) 12 v 3 k = M 3 k := fun v k => tk_up_c _ _ _ _ (by omega) _
  by_cases hl : M (73 + t) 9 = 0
  · refine tk_goA fo_Au co_Au tg_Au_settleOne 40 [28] ?_
    repeat' first | refine And.intro ?_ ?_ | intro _
    all_goals first | rfl | skip
    all_goals try simp only [tk_c, u] at *
    all_goals first | omega | skip
    unfold f_so
    rw [if_pos hl]
  · obtain ⟨q1, q2⟩ := h5 hl
    have hg := g_run_in M (M (73 + t) 12) 40 (M (73 + t) 5)
    have ef : f_so M t = if g_run M (M (73 + t) 12) 40 (M (73 + t) 5) < M (73 + t) 12 then (if g_run M (M (73 + t) 12) 40 (M (73 + t) 5) ≤ M (73 + t) 5 then tk_up (tk_up (tk_up M (73 + t) 12 (g_run M (M (73 + t) 12) 40 (M (73 + t) 5))) 3 0 (M 3 0 + 1)) (73 + t) 12 (-1) else tk_up (tk_up M (73 + t) 12 (g_run M (M (73 + t) 12) 40 (M (73 + t) 5))) 3 0 (M 3 0 + 1)) else (if M (73 + t) 12 ≤ M (73 + t) 5 then tk_up M (73 + t) 12 (-1) else M) := by
      unfold f_so
      rw [if_neg hl]
    have hlp := lp_Au_settleOne l M t ht q1 h12 (fun r M' => r = .inl none ∧ M' = f_so M t) (g_run M (M (73 + t) 12) 40 (M (73 + t) 5)) ?_ 40 (M (73 + t) 5) (Int.le_refl _) (by omega) rfl (by omega)
    · refine tk_goA fo_Au co_Au tg_Au_settleOne 40 [28] ?_
      repeat' first | refine And.intro ?_ ?_ | intro _
      all_goals first | rfl | skip
      all_goals try simp only [tk_c] at *
      all_goals first | omega | skip
      exact ⟨(), hlp⟩
    · generalize g_run M (M (73 + t) 12) 40 (M (73 + t) 5) = g at *
      have w1 : ∀ x y : Int, tk_up (tk_up M (73 + t) 12 x) 3 0 y (73 + t) 12 = x := fun x y => by rw [tk_up_c _ _ _ _ (by omega), tk_up_s]
      have w2 : ∀ x y : Int, tk_up (tk_up M (73 + t) 12 x) 3 0 y (73 + t) 5 = M (73 + t) 5 := fun x y => by rw [tk_up_c _ _ _ _ (by omega), tk_up_j _ _ _ _ (by decide)]
      refine tk_goA fo_Au co_Au tg_Au_settleOne 40 [] ?_
      repeat' first | refine And.intro ?_ ?_ | intro _
      all_goals first | rfl | skip
      all_goals try simp only [tk_c, u, w1, w2] at *
      all_goals first | omega | skip
      · rw [ef, if_neg (by omega), if_neg (by omega)]
      · rw [ef, if_neg (by omega), if_pos (by omega)]
      · rw [ef, if_pos (by omega), if_neg (by omega)]
      · rw [ef, if_pos (by omega), if_pos (by omega)]
theorem tk_up_n {M : tk_M} {c j a b : Nat} {v : Int} (h : ¬ (a = c ∧ b = j)) : tk_up M c j v a b = M a b := by
  unfold tk_up
  rw [if_neg h]
theorem f_so_o {M : tk_M} {t c j : Nat} (h1 : ¬ (c = 73 + t ∧ j = 12)) (h2 : ¬ (c = 3 ∧ j < 2)) : f_so M t c j = M c j := by
  unfold f_so
  dsimp only
  split
  · rw [tk_up_n (by omega), tk_up_n (by omega)]
  · split
    · split
      · rw [tk_up_n (by omega), tk_up_n (by omega), tk_up_n (by omega)]
      · rw [tk_up_n (by omega), tk_up_n (by omega)]
    · split
      · rw [tk_up_n (by omega)]
      · rfl
theorem f_so_3 {M : tk_M} {t : Nat} (k : Nat) : M 3 k ≤ f_so M t 3 k ∧ f_so M t 3 k ≤ M 3 k + 1 := by
  unfold f_so
  dsimp only
  split
  · by_cases e : k = 1
    · subst e; rw [tk_up_s]; omega
    · rw [tk_up_n (by omega), tk_up_n (by omega)]; omega
  · split
    · split
      · rw [tk_up_n (by omega)]
        by_cases e : k = 0
        · subst e; rw [tk_up_s]; omega
        · rw [tk_up_n (by omega), tk_up_n (by omega)]; omega
      · by_cases e : k = 0
        · subst e; rw [tk_up_s]; omega
        · rw [tk_up_n (by omega), tk_up_n (by omega)]; omega
    · split
      · rw [tk_up_n (by omega)]; omega
      · omega
def g_set (M : tk_M) : Nat → tk_M
  | 0 => M
  | n + 1 => if g_set M n (73 + n) 12 = -1 then g_set M n else f_so (g_set M n) n
theorem g_set_o {M : tk_M} {c j : Nat} (h2 : ¬ (c = 3 ∧ j < 2)) : ∀ n : Nat, ¬ (73 ≤ c ∧ c < 73 + n ∧ j = 12) → g_set M n c j = M c j
  | 0, _ => rfl
  | n + 1, h1 => by
    have ih := g_set_o (M := M) h2 n (by omega)
    unfold g_set
    split
    · exact ih
    · rw [f_so_o (by omega) h2]; exact ih
theorem g_set_3 (M : tk_M) (k : Nat) : ∀ n : Nat, M 3 k ≤ g_set M n 3 k ∧ g_set M n 3 k ≤ M 3 k + n
  | 0 => ⟨Int.le_refl _, by show M 3 k ≤ _; omega⟩
  | n + 1 => by
    have ih := g_set_3 M k n
    have h := f_so_3 (M := g_set M n) (t := n) k
    unfold g_set
    split <;> omega
/-- what the settling asks of the trains -/
def p_ath (M : tk_M) : Prop := ∀ t : Nat, t < 8 → (¬ M (73 + t) 9 = 0 → 0 ≤ M (73 + t) 5 ∧ M (73 + t) 5 < 32) ∧ M (73 + t) 12 < 32
theorem lp_Au_settle (l : Launch) (M : tk_M) (hp : p_ath M) (h0 : M 3 0 < 2147483600) (h1 : M 3 1 < 2147483600) : ∀ (n i : Nat), i + n = 8 →
    tk_At l "TrackKeeper$Authorities" prog_2_method_5_code 4 none 1 15 (fun r M' => r = .inl none ∧ M' = g_set M 8) 2 [some (.inr 3), some (.inr 2), some (.inr 4), some (.inl (i : Int))] [] (g_set M i) := by
  intro n
  induction n with
  | zero =>
    intro i hi
    refine tk_goA fo_Au co_Au tg_Au_settle 40 [2] ?_
    refine And.intro (fun _ => ⟨rfl, ?_⟩) (fun h => ?_)
    · rw [show i = 8 by omega]
    · exact absurd (show (8 : Int) ≤ (i : Int) by omega) h
  | succ n ih =>
    intro i hi
    have h9 := ih (i + 1) (by omega)
    have hpi := hp i (by omega)
    have en : g_set M (i + 1) = if g_set M i (73 + i) 12 = -1 then g_set M i else f_so (g_set M i) i := rfl
    have k9 : g_set M i (73 + i) 9 = M (73 + i) 9 := g_set_o (by omega) i (by omega)
    have k5 : g_set M i (73 + i) 5 = M (73 + i) 5 := g_set_o (by omega) i (by omega)
    have k12 : g_set M i (73 + i) 12 = M (73 + i) 12 := g_set_o (by omega) i (by omega)
    have c0 := g_set_3 M 0 i
    have c1 := g_set_3 M 1 i
    have con := k_Au_settleOne l (g_set M i) i (by omega) (by rw [k9, k5]; exact hpi.1) (by rw [k12]; exact hpi.2) (by omega) (by omega)
    generalize g_set M i = N at *
    refine tk_goA fo_Au co_Au tg_Au_settle 40 [2] ?_
    repeat' first | refine And.intro ?_ ?_ | intro _
    all_goals first | rfl | skip
    all_goals try simp only [tk_c, Int.toNat_natCast] at *
    all_goals first | omega | skip
    · rename_i hz
      rw [if_pos hz] at en
      rw [en] at h9
      exact ⟨(), h9⟩
    · rename_i hz
      rw [if_neg hz] at en
      rw [en] at h9
      refine ⟨(), tk_aV (k := 2) con wc_Au_settleOne lk_Au_45 wi_Au_settleOne wsl_Au_settleOne tg_Au_settle rfl rfl (by decide) rfl rfl rfl (by decide) (Nat.le_of_ble_eq_true rfl) ?_ (fun x M' h => by cases h.1)⟩
      rintro v' N' ⟨h1, rfl⟩ hro
      cases h1
      refine tk_goA fo_Au co_Au tg_Au_settle 40 [2] ?_
      repeat' first | refine And.intro ?_ ?_ | intro _
      all_goals first | omega | skip
      exact ⟨(), h9⟩
theorem k_Au_settle (l : Launch) (M : tk_M) (hp : p_ath M) (h0 : M 3 0 < 2147483600) (h1 : M 3 1 < 2147483600) : tk_C l y_Au_settle 1 15 [.inr 3, .inr 2, .inr 4] M (fun r M' => r = .inl none ∧ M' = g_set M 8) := by
  refine tk_C.of wc_Au_settle rfl (Nat.le_of_ble_eq_true rfl) fun hr hM => ?_
  refine tk_goA fo_Au co_Au tg_Au_settle 40 [2] ?_
  exact ⟨(), lp_Au_settle l M hp h0 h1 8 0 rfl⟩
def f_hold (M : tk_M) (t : Nat) (x : Int) : Int := if ¬ M (73 + t) 12 = -1 ∧ M (73 + t) 5 < x ∧ x ≤ M (73 + t) 12 then 1 else 0
/-- does one of the trains from n on, but num, hold x -/
def g_held (M : tk_M) (num x : Int) : Nat → Nat → Int
  | 0, _ => 0
  | n + 1, i => if ¬ (i : Int) = num ∧ f_hold M i x = 1 then 1 else g_held M num x n (i + 1)
theorem g_held01 (M : tk_M) (num x : Int) : ∀ n i : Nat, g_held M num x n i = 0 ∨ g_held M num x n i = 1
  | 0, _ => Or.inl rfl
  | n + 1, i => by
    unfold g_held
    split
    · exact Or.inr rfl
    · exact g_held01 M num x n (i + 1)
theorem lp_Au_isHeldByOther (l : Launch) (M : tk_M) (num x : Int) (r : Int) : ∀ (n i : Nat), i + n = 8 → g_held M num x n i = r →
    tk_At l "TrackKeeper$Authorities" prog_2_method_4_code 5 (some .boolean) 1 13 (fun q M' => q = .inl (some r) ∧ M' = M) 3 [some (.inr 3), some (.inl num), some (.inl x), some (.inr 4), some (.inl (i : Int))] [] M := by
  intro n
  induction n with
  | zero =>
    intro i hi hg
    have hg : 0 = r := hg
    refine tk_goA fo_Au co_Au tg_Au_isHeldByOther 40 [3] ?_
    refine And.intro (fun _ => And.intro (Or.inl rfl) ⟨by rw [hg], rfl⟩) (fun h => ?_)
    exact absurd (show (8 : Int) ≤ (i : Int) by omega) h
  | succ n ih =>
    intro i hi hg
    unfold g_held at hg
    have h9 := ih (i + 1) (by omega)
    refine tk_goA fo_Au co_Au tg_Au_isHeldByOther 40 [3] ?_
    repeat' first | refine And.intro ?_ ?_ | intro _
    all_goals first | rfl | skip
    all_goals try simp only [tk_c, Int.toNat_natCast] at *
    all_goals first | omega | skip
    · rename_i hz
      rw [if_neg (fun z => z.1 hz)] at hg
      exact ⟨(), h9 hg⟩
    · rename_i hz
      refine ⟨(), tk_aV (k := 5) (k_Ti_holds l i (by omega) x M) wc_Ti_holds lk_Au_41 wi_Ti_holds wsl_Ti_holds tg_Au_isHeldByOther rfl rfl (show _ < 81 by omega) (tk_shT (by omega)) rfl rfl (by decide) (Nat.le_of_ble_eq_true rfl) ?_ (fun x M' h => by cases h.1)⟩
      rintro v' N' ⟨h1, rfl⟩ hro
      cases h1
      have ef : (if ¬ N' (73 + i) 12 = -1 ∧ N' (73 + i) 5 < x ∧ x ≤ N' (73 + i) 12 then (1 : Int) else 0) = f_hold N' i x := rfl
      rw [ef]
      have h01 : f_hold N' i x = 0 ∨ f_hold N' i x = 1 := by unfold f_hold; split <;> simp
      refine tk_goA fo_Au co_Au tg_Au_isHeldByOther 40 [3] ?_
      repeat' first | refine And.intro ?_ ?_ | intro _
      all_goals first | rfl | exact Or.inr rfl | skip
      all_goals try simp only [tk_c] at *
      all_goals first | omega | skip
      · rename_i h0
        rw [if_neg (by omega)] at hg
        exact ⟨(), h9 hg⟩
      · rename_i h0
        rw [if_pos ⟨hz, by omega⟩] at hg
        rw [hg]
theorem k_Au_isHeldByOther (l : Launch) (M : tk_M) (num x : Int) : tk_C l y_Au_isHeldByOther 1 13 [.inr 3, .inl num, .inl x, .inr 4] M (fun q M' => q = .inl (some (g_held M num x 8 0)) ∧ M' = M) := by
  refine tk_C.of wc_Au_isHeldByOther rfl (Nat.le_of_ble_eq_true rfl) fun hr hM => ?_
  refine tk_goA fo_Au co_Au tg_Au_isHeldByOther 40 [3] ?_
  exact ⟨(), lp_Au_isHeldByOther l M num x _ 8 0 rfl rfl⟩
/-- how far train num may go from f on, at most n further, not beyond w -/
def g_ext (M : tk_M) (num w : Int) : Nat → Int → Int
  | 0, f => f
  | n + 1, f => if f < w ∧ M (41 + (f + 1).toNat) 2 = 0 ∧ g_held M num (f + 1) 8 0 = 0 then g_ext M num w n (f + 1) else f
theorem lp_Au_extend (l : Launch) (M : tk_M) (num w : Int) (t : Nat) (hw : w < 32) (P : (Option Int ⊕ Nat) → tk_M → Prop) (g : Int)
    (hP : tk_At l "TrackKeeper$Authorities" prog_2_method_3_code 7 none 2 29 P 54 [some (.inr 3), some (.inl num), some (.inl w), some (.inr 2), some (.inr 4), some (.inr (73 + t)), some (.inl g)] [] M) : ∀ (n : Nat) (f : Int), 0 ≤ f → f < 40 → w - f ≤ n → g_ext M num w n f = g →
    tk_At l "TrackKeeper$Authorities" prog_2_method_3_code 7 none 2 29 P 13 [some (.inr 3), some (.inl num), some (.inl w), some (.inr 2), some (.inr 4), some (.inr (73 + t)), some (.inl f)] [] M := by
  intro n
  induction n with
  | zero =>
    intro f h1 h4 h2 h3
    have h3 : f = g := h3
    subst h3
    refine tk_goA fo_Au co_Au tg_Au_extend 40 [13, 54] ?_
    refine And.intro (fun _ => ⟨(), hP⟩) (fun h => ?_)
    exact absurd (show w ≤ f by omega) h
  | succ n ih =>
    intro f h1 h4 h2 h3
    unfold g_ext at h3
    refine tk_goA fo_Au co_Au tg_Au_extend 40 [13, 54] ?_
    repeat' first | refine And.intro ?_ ?_ | intro _
    all_goals first | rfl | skip
    all_goals try simp only [tk_c] at *
    all_goals first | omega | skip
    · rename_i hge
      rw [if_neg (by omega)] at h3
      subst h3
      exact ⟨(), hP⟩
    · rename_i hne
      rw [if_neg (fun z => hne z.2.1)] at h3
      subst h3
      exact ⟨(), hP⟩
    · refine ⟨(), tk_aV (k := 2) (k_Au_isHeldByOther l M num (f + 1)) wc_Au_isHeldByOther lk_Au_34 wi_Au_isHeldByOther wsl_Au_isHeldByOther tg_Au_extend rfl rfl (by decide) rfl rfl rfl (by decide) (Nat.le_of_ble_eq_true rfl) ?_ (fun x M' h => by cases h.1)⟩
      rintro v' N' ⟨h1, rfl⟩ hro
      cases h1
      refine tk_goA fo_Au co_Au tg_Au_extend 40 [13, 54] ?_
      repeat' first | refine And.intro ?_ ?_ | intro _
      all_goals first | rfl | skip
      all_goals try simp only [tk_c] at *
      all_goals first | omega | skip
      · rename_i hh
        rw [if_neg (fun z => hh z.2.2)] at h3
        subst h3
        exact ⟨(), hP⟩
      · rw [if_pos ⟨by omega, by omega, by omega⟩] at h3
        exact ⟨(), ih (f + 1) (by omega) (by omega) (by omega) h3⟩
def f_ext (M : tk_M) (t : Nat) (w : Int) : tk_M := if M (73 + t) 5 < g_ext M (t : Int) w 40 (M (73 + t) 5) ∧ M (73 + t) 12 < g_ext M (t : Int) w 40 (M (73 + t) 5) then tk_up M (73 + t) 12 (g_ext M (t : Int) w 40 (M (73 + t) 5)) else M
theorem k_Au_extend (l : Launch) (M : tk_M) (t : Nat) (ht : t < 8) (w : Int) (hw : w < 32) (h0 : 0 ≤ M (73 + t) 5) (h1 : M (73 + t) 5 < 32) : tk_C l y_Au_extend 2 29 [.inr 3, .inl (t : Int), .inl w, .inr 2, .inr 4] M (fun q M' => q = .inl none ∧ M' = f_ext M t w) := by
  refine tk_C.of wc_Au_extend rfl (Nat.le_of_ble_eq_true rfl) fun hr hM => ?_
  have hwr := hr (.inl w) (by simp)
  simp only [tk_ru] at hwr
  have ef : f_ext M t w = if M (73 + t) 5 < g_ext M (t : Int) w 40 (M (73 + t) 5) ∧ M (73 + t) 12 < g_ext M (t : Int) w 40 (M (73 + t) 5) then tk_up M (73 + t) 12 (g_ext M (t : Int) w 40 (M (73 + t) 5)) else M := rfl
  have hlp := lp_Au_extend l M (t : Int) w t hw (fun q M' => q = .inl none ∧ M' = f_ext M t w) (g_ext M (t : Int) w 40 (M (73 + t) 5)) ?_ 40 (M (73 + t) 5) h0 (by omega) (by omega) rfl
  · refine tk_goA fo_Au co_Au tg_Au_extend 40 [13] ?_
    repeat' first | refine And.intro ?_ ?_ | intro _
    all_goals first | rfl | skip
    all_goals try simp only [tk_c, Int.toNat_natCast] at *
    all_goals first | omega | skip
    exact ⟨(), hlp⟩
  · generalize g_ext M (t : Int) w 40 (M (73 + t) 5) = g at *
    refine tk_goA fo_Au co_Au tg_Au_extend 40 [] ?_
    repeat' first | refine And.intro ?_ ?_ | intro _
    all_goals first | rfl | skip
    all_goals try simp only [tk_c] at *
    all_goals first | omega | skip
    · rw [ef, if_neg (by omega)]
    · rw [ef, if_neg (by omega)]
    · rw [ef, if_pos (by omega)]
