/-! CONTRACTS: the counting for spreads; the marking of trains -/
def g_cs (M : tk_M) (sp : Int) : Nat → tk_M
  | 0 => M
  | n + 1 => if f_uns (g_cs M sp n) (31 + n) = 1 then f_cs (g_cs M sp n) (31 + n) sp else g_cs M sp n
theorem f_cs_o {M : tk_M} {c : Nat} {sp : Int} {a b : Nat} (h1 : ¬ (a = c ∧ (b = 3 ∨ b = 4))) (h2 : ¬ (a = 2 ∧ b = 5)) : f_cs M c sp a b = M a b := by
  unfold f_cs tk_up
  split
  · dsimp only; rw [if_neg (by omega)]
  · dsimp only; rw [if_neg (by omega), if_neg (by omega), if_neg (by omega), if_neg (by omega)]
theorem f_cs_25 {M : tk_M} {c : Nat} (hc : c ≠ 2) {sp : Int} : M 2 5 ≤ f_cs M c sp 2 5 ∧ f_cs M c sp 2 5 ≤ M 2 5 + 1 := by
  unfold f_cs
  split
  · rw [tk_up_c _ _ _ _ (Ne.symm hc)]; omega
  · rw [tk_up_s]; omega
theorem g_cs_o {M : tk_M} {sp : Int} {a b : Nat} (h2 : ¬ (a = 2 ∧ b = 5)) : ∀ n : Nat, ¬ (31 ≤ a ∧ a < 31 + n ∧ (b = 3 ∨ b = 4)) → g_cs M sp n a b = M a b
  | 0, _ => rfl
  | n + 1, h1 => by
    have ih := g_cs_o (M := M) (sp := sp) h2 n (by omega)
    unfold g_cs
    split
    · rw [f_cs_o (by omega) h2]; exact ih
    · exact ih
theorem g_cs_25 (M : tk_M) (sp : Int) : ∀ n : Nat, M 2 5 ≤ g_cs M sp n 2 5 ∧ g_cs M sp n 2 5 ≤ M 2 5 + n
  | 0 => ⟨Int.le_refl _, by show M 2 5 ≤ _; omega⟩
  | n + 1 => by
    have ih := g_cs_25 M sp n
    have h := f_cs_25 (M := g_cs M sp n) (c := 31 + n) (by omega) (sp := sp)
    unfold g_cs
    split <;> omega
theorem lp_Tr_countForSpreads (l : Launch) (M : tk_M) (sp : Int) (hS0 : 0 ≤ M 2 2) (hS : M 2 2 ≤ 10) (h0 : ∀ i : Nat, (i : Int) < M 2 2 → 0 ≤ M (31 + i) 0 ∧ M (31 + i) 1 < 32 ∧ M (31 + i) 3 < 2147483647) (h5 : M 2 5 < 2147483600) : ∀ (n i : Nat), i + n = (M 2 2).toNat →
    tk_At l "TrackKeeper$Track" prog_5_method_10_code 3 none 1 15 (fun r M' => r = .inl none ∧ M' = g_cs M sp (M 2 2).toNat) 2 [some (.inr 2), some (.inl sp), some (.inl (i : Int))] [] (g_cs M sp i) := by
  intro n
  induction n with
  | zero =>
    intro i hi
    have e2 : g_cs M sp i 2 2 = M 2 2 := g_cs_o (by omega) i (by omega)
    refine tk_goA fo_Tr co_Tr tg_Tr_countForSpreads 40 [2] ?_
    refine And.intro ⟨by decide, by decide⟩ fun _ _ => And.intro (fun _ => ⟨rfl, ?_⟩) (fun h => ?_)
    · rw [show i = (M 2 2).toNat by omega]
    · exact absurd (show g_cs M sp i 2 2 ≤ (i : Int) by rw [e2]; omega) h
  | succ n ih =>
    intro i hi
    have e2 : g_cs M sp i 2 2 = M 2 2 := g_cs_o (by omega) i (by omega)
    have hi0 := h0 i (by omega)
    have h9 := ih (i + 1) (by omega)
    have k0 : g_cs M sp i (31 + i) 0 = M (31 + i) 0 := g_cs_o (by omega) i (by omega)
    have k1 : g_cs M sp i (31 + i) 1 = M (31 + i) 1 := g_cs_o (by omega) i (by omega)
    have k3 : g_cs M sp i (31 + i) 3 = M (31 + i) 3 := g_cs_o (by omega) i (by omega)
    have k5 := g_cs_25 M sp i
    have en : g_cs M sp (i + 1) = if f_uns (g_cs M sp i) (31 + i) = 1 then f_cs (g_cs M sp i) (31 + i) sp else g_cs M sp i := rfl
    generalize g_cs M sp i = N at *
    refine tk_goA fo_Tr co_Tr tg_Tr_countForSpreads 40 [2] ?_
    repeat' first | refine And.intro ?_ ?_ | intro _
    all_goals first | rfl | skip
    all_goals try simp only [tk_c, Int.toNat_natCast] at *
    all_goals try rw [e2] at *
    all_goals first | omega | skip
    refine ⟨(), tk_aV (k := 1) (k_Tr_isUnsure l N (31 + (i : Int).toNat) (by omega) (by omega) (by rw [Int.toNat_natCast, k0]; exact hi0.1) (by rw [Int.toNat_natCast, k1]; exact hi0.2.1)) wc_Tr_isUnsure lk_Tr_64 wi_Tr_isUnsure wsl_Tr_isUnsure tg_Tr_countForSpreads rfl rfl (by decide) rfl rfl rfl (by decide) (by decide) ?_ (fun x M' h => by cases h.1)⟩
    rintro v' M' ⟨h1, rfl⟩ hro
    cases h1
    rw [Int.toNat_natCast]
    refine tk_goA fo_Tr co_Tr tg_Tr_countForSpreads 40 [2] ?_
    repeat' first | refine And.intro ?_ ?_ | intro _
    all_goals first | rfl | skip
    all_goals try simp only [tk_c, Int.toNat_natCast] at *
    all_goals first | omega | skip
    · rename_i hz
      rw [if_neg (by omega)] at en
      rw [en] at h9
      exact ⟨(), h9⟩
    · rename_i hz
      have h01 := f_uns01 M' (31 + i)
      rw [if_pos (by omega)] at en
      rw [en] at h9
      refine ⟨(), tk_aV (k := 1) (k_Tr_countForSpread l M' (31 + (i : Int).toNat) sp (by omega) (by omega) (by rw [Int.toNat_natCast, k3]; exact hi0.2.2) (by omega)) wc_Tr_countForSpread lk_Tr_68 wi_Tr_countForSpread wsl_Tr_countForSpread tg_Tr_countForSpreads rfl rfl (by decide) rfl rfl rfl (by decide) (by decide) ?_ (fun x M' h => by cases h.1)⟩
      rintro v' N' ⟨h1, rfl⟩ hro
      cases h1
      rw [Int.toNat_natCast]
      refine tk_goA fo_Tr co_Tr tg_Tr_countForSpreads 40 [2] ?_
      repeat' first | refine And.intro ?_ ?_ | intro _
      all_goals first | omega | skip
      exact ⟨(), h9⟩
theorem k_Tr_countForSpreads (l : Launch) (M : tk_M) (sp : Int) (hS0 : 0 ≤ M 2 2) (hS : M 2 2 ≤ 10) (h0 : ∀ i : Nat, (i : Int) < M 2 2 → 0 ≤ M (31 + i) 0 ∧ M (31 + i) 1 < 32 ∧ M (31 + i) 3 < 2147483647) (h5 : M 2 5 < 2147483600) : tk_C l y_Tr_countForSpreads 1 15 [.inr 2, .inl sp] M (fun r M' => r = .inl none ∧ M' = g_cs M sp (M 2 2).toNat) := by
  refine tk_C.of wc_Tr_countForSpreads rfl (Nat.le_of_ble_eq_true rfl) fun hr hM => ?_
  refine tk_goA fo_Tr co_Tr tg_Tr_countForSpreads 40 [2] ?_
  exact ⟨(), lp_Tr_countForSpreads l M sp hS0 hS h0 h5 (M 2 2).toNat 0 (by omega)⟩
