/-! CONTRACTS of the track's loops -/
def f_any (M : tk_M) (c : Nat) : Bool := (List.range 32).any fun i => decide (M c 0 ≤ (i : Int)) && (decide ((i : Int) ≤ M c 1) && decide (M (41 + i) 2 = 3))
theorem f_any_iff {M : tk_M} {c : Nat} : f_any M c = true ↔ ∃ i : Nat, i < 32 ∧ M c 0 ≤ (i : Int) ∧ (i : Int) ≤ M c 1 ∧ M (41 + i) 2 = 3 := by
  simp [f_any, List.any_eq_true]
def f_uns (M : tk_M) (c : Nat) : Int := if ¬ M c 2 = 0 ∧ f_any M c = true then 1 else 0
theorem f_uns01 (M : tk_M) (c : Nat) : f_uns M c = 0 ∨ f_uns M c = 1 := by unfold f_uns; split <;> simp
theorem lp_Tr_isUnsure (l : Launch) (M : tk_M) (c : Nat) (hc : 31 ≤ c) (hc2 : c < 41) (h0 : 0 ≤ M c 0) (h1 : M c 1 < 32) (hf : ¬ M c 2 = 0) : ∀ (n : Nat) (i : Int), (M c 1 + 1 - i).toNat = n → M c 0 ≤ i → (∀ k : Nat, M c 0 ≤ (k : Int) → (k : Int) < i → ¬ M (41 + k) 2 = 3) →
    tk_At l "TrackKeeper$Track" prog_5_method_12_code 3 (some .boolean) 0 0 (fun r M' => r = .inl (some (f_uns M c)) ∧ M' = M) 14 [some (.inr 2), some (.inr c), some (.inl i)] [] M := by
  intro n
  induction n using Nat.strongRecOn with
  | _ n ih =>
    intro i hn hi hk
    refine tk_goA fo_Tr co_Tr tg_Tr_isUnsure 40 [14] ?_
    repeat' first | refine And.intro ?_ ?_ | intro _
    all_goals first | rfl | exact Or.inl rfl | exact Or.inr rfl | skip
    all_goals try simp only [tk_c] at *
    all_goals first | omega | skip
    · rename_i hgt
      have hno : ¬ f_any M c = true := by
        rw [f_any_iff]
        rintro ⟨k, k1, k2, k3, k4⟩
        exact hk k k2 (by omega) k4
      unfold f_uns
      rw [if_neg (fun z => hno z.2)]
    · rename_i hle _ _ hne
      refine ⟨(), ih (M c 1 + 1 - (i + 1)).toNat (by omega) (i + 1) rfl (by omega) fun k k1 k2 k3 => ?_⟩
      by_cases e : (k : Int) = i
      · apply hne
        rw [← e, Int.toNat_natCast]
        exact k3
      · exact hk k k1 (by omega) k3
    · rename_i hle _ _ hne
      have hyes : f_any M c = true := by
        rw [f_any_iff]
        refine ⟨i.toNat, by omega, by omega, by omega, ?_⟩
        exact Classical.not_not.mp hne
      unfold f_uns
      rw [if_pos ⟨hf, hyes⟩]
theorem k_Tr_isUnsure (l : Launch) (M : tk_M) (c : Nat) (hc : 31 ≤ c) (hc2 : c < 41) (h0 : 0 ≤ M c 0) (h1 : M c 1 < 32) : tk_C l y_Tr_isUnsure 0 0 [.inr 2, .inr c] M (fun r M' => r = .inl (some (f_uns M c)) ∧ M' = M) := by
  refine tk_C.of wc_Tr_isUnsure rfl (Nat.le_of_ble_eq_true rfl) fun hr hM => ?_
  refine tk_goA fo_Tr co_Tr tg_Tr_isUnsure 40 [14] ?_
  repeat' first | refine And.intro ?_ ?_ | intro _
  all_goals first | rfl | exact Or.inl rfl | exact Or.inr rfl | skip
  all_goals try simp only [tk_c] at *
  all_goals first | omega | skip
  · rename_i hne _ _
    exact ⟨(), lp_Tr_isUnsure l M c hc hc2 h0 h1 hne _ _ rfl (Int.le_refl _) (fun k k1 k2 => by omega)⟩
  · rename_i hz
    unfold f_uns
    rw [if_neg (fun z => z.1 (Classical.not_not.mp hz))]
/-- the subsection at a place: from n downwards -/
def f_at (M : tk_M) (pl : Int) : Nat → Int
  | 0 => 0
  | n + 1 => if M (41 + (n + 1)) 1 ≤ pl then ((n + 1 : Nat) : Int) else f_at M pl n
theorem f_at_in (M : tk_M) (pl : Int) : ∀ n : Nat, 0 ≤ f_at M pl n ∧ f_at M pl n ≤ (n : Int)
  | 0 => ⟨Int.le_refl _, Int.le_refl _⟩
  | n + 1 => by
    have := f_at_in M pl n
    unfold f_at
    split <;> omega
theorem lp_Tr_subsectionAt (l : Launch) (M : tk_M) (pl : Int) : ∀ (n : Nat), n < 32 → 
    tk_At l "TrackKeeper$Track" prog_5_method_9_code 3 (some .int) 0 0 (fun r M' => r = .inl (some (f_at M pl n)) ∧ M' = M) 7 [some (.inr 2), some (.inl pl), some (.inl (n : Int))] [] M := by
  intro n
  induction n with
  | zero =>
    intro _
    refine tk_goA fo_Tr co_Tr tg_Tr_subsectionAt 40 [7] ?_
    refine And.intro (fun _ => ⟨rfl, rfl⟩) (fun h => ?_)
    exact absurd (show (0 : Int) ≤ 0 by omega) h
  | succ n ih =>
    intro hn
    refine tk_goA fo_Tr co_Tr tg_Tr_subsectionAt 40 [7] ?_
    repeat' first | refine And.intro ?_ ?_ | intro _
    all_goals first | rfl | skip
    all_goals try simp only [tk_c, Int.toNat_natCast] at *
    all_goals first | omega | skip
    · rename_i h1 _ _ h2
      unfold f_at
      rw [if_pos h2]
    · rename_i h1 _ _ h2
      have e1 : (((n + 1 : Nat) : Int) + -1) = (n : Int) := by omega
      have e2 : f_at M pl (n + 1) = f_at M pl n := by
        show (if M (41 + (n + 1)) 1 ≤ pl then _ else _) = _
        rw [if_neg h2]
      rw [e2]
      refine ⟨(), ?_⟩
      show tk_At _ _ _ _ _ _ _ _ _ [some (.inr 2), some (.inl pl), some (.inl (((n + 1 : Nat) : Int) + -1))] _ _
      rw [e1]
      exact ih (by omega)
theorem k_Tr_subsectionAt (l : Launch) (M : tk_M) (pl : Int) (h0 : 1 ≤ M 2 3) (h1 : M 2 3 ≤ 32) : tk_C l y_Tr_subsectionAt 0 0 [.inr 2, .inl pl] M (fun r M' => r = .inl (some (f_at M pl (M 2 3 - 1).toNat)) ∧ M' = M) := by
  refine tk_C.of wc_Tr_subsectionAt rfl (Nat.le_of_ble_eq_true rfl) fun hr hM => ?_
  refine tk_goA fo_Tr co_Tr tg_Tr_subsectionAt 40 [7] ?_
  repeat' first | refine And.intro ?_ ?_ | intro _
  all_goals first | omega | skip
  have h := lp_Tr_subsectionAt l M pl (M 2 3 - 1).toNat (by omega)
  rw [show (((M 2 3 - 1).toNat : Nat) : Int) = M 2 3 - 1 by omega] at h
  exact ⟨(), h⟩
