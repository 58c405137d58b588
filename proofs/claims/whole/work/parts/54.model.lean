/-! THE REFERENCE: contracts of its small methods -/
theorem k_Mo_thrown (l : Launch) (M : tk_M) : tk_C l y_Mo_thrown 0 0 [.inr 7] M (fun r M' => r = .inl (some (M 7 0)) ∧ M' = M) := by
  refine tk_C.of wc_Mo_thrown rfl (Nat.le_of_ble_eq_true rfl) fun hr hM => ?_
  refine tk_goA fo_Mo co_Mo tg_Mo_thrown 20 [] ?_
  repeat' first | refine And.intro ?_ ?_ | intro _
  all_goals first | omega | rfl
theorem k_Mo_in (l : Launch) (v a b : Int) (M : tk_M) : tk_C l y_Mo_in 0 0 [.inl v, .inl a, .inl b] M (fun r M' => r = .inl (some (f_in v a b)) ∧ M' = M) := by
  refine tk_C.of wc_Mo_in rfl (Nat.le_of_ble_eq_true rfl) fun hr hM => ?_
  refine tk_goA fo_Mo co_Mo tg_Mo_in 20 [] ?_
  repeat' first | refine And.intro ?_ ?_ | intro _
  all_goals first | rfl | exact Or.inl rfl | exact Or.inr rfl | skip
  all_goals try simp only [tk_c] at *
  all_goals (unfold f_in; split <;> first | rfl | omega)
theorem k_Mo_fails0 (l : Launch) (M : tk_M) (x : Int) (h : M 7 0 = 0) : tk_C l y_Mo_fails 0 0 [.inr 7, .inl 0, .inl x] M (fun r M' => r = .inl (some 0) ∧ M' = M) := by
  refine tk_C.of wc_Mo_fails rfl (Nat.le_of_ble_eq_true rfl) fun hr hM => ?_
  refine tk_goA fo_Mo co_Mo tg_Mo_fails 20 [] ?_
  repeat' first | refine And.intro ?_ ?_ | intro _
  all_goals first | rfl | exact Or.inl rfl | exact Or.inr rfl | skip
  all_goals try simp only [tk_c] at *
  all_goals first | omega | rfl | exact absurd trivial (by assumption)
theorem k_Mo_fails1 (l : Launch) (M : tk_M) (x : Int) (h : M 7 0 = 0) (hx : ¬ x = 0) : tk_C l y_Mo_fails 0 0 [.inr 7, .inl 1, .inl x] M (fun r M' => r = .inl (some 1) ∧ M' = tk_up M 7 0 x) := by
  refine tk_C.of wc_Mo_fails rfl (Nat.le_of_ble_eq_true rfl) fun hr hM => ?_
  refine tk_goA fo_Mo co_Mo tg_Mo_fails 20 [] ?_
  repeat' first | refine And.intro ?_ ?_ | intro _
  all_goals first | rfl | exact Or.inl rfl | exact Or.inr rfl | skip
  all_goals try simp only [tk_c, tk_up_s] at *
  all_goals first | omega | rfl | exact absurd trivial (by assumption)
def f_wait (M : tk_M) : Int := if 0 < M 7 1 ∧ M 10 (M 7 1 - 1).toNat = M 7 2 then 1 else 0
theorem f_wait01 (M : tk_M) : f_wait M = 0 ∨ f_wait M = 1 := by unfold f_wait; split <;> simp
theorem k_Mo_isWaiting (l : Launch) (M : tk_M) (h : M 7 1 ≤ 10) : tk_C l y_Mo_isWaiting 0 0 [.inr 7] M (fun r M' => r = .inl (some (f_wait M)) ∧ M' = M) := by
  refine tk_C.of wc_Mo_isWaiting rfl (Nat.le_of_ble_eq_true rfl) fun hr hM => ?_
  refine tk_goA fo_Mo co_Mo tg_Mo_isWaiting 30 [] ?_
  repeat' first | refine And.intro ?_ ?_ | intro _
  all_goals first | rfl | exact Or.inl rfl | exact Or.inr rfl | skip
  all_goals try simp only [tk_c] at *
  all_goals first | omega | (unfold f_wait; split <;> first | rfl | omega)
def m_loc (M : tk_M) (t : Nat) : Int := if ¬ M 18 t = 0 ∧ ¬ M 19 t = 0 ∧ M 7 3 - M 24 t ≤ M 7 4 then 1 else 0
theorem m_loc01 (M : tk_M) (t : Nat) : m_loc M t = 0 ∨ m_loc M t = 1 := by unfold m_loc; split <;> simp
/-- what the times of the reference must be -/
def q_tm (M : tk_M) : Prop := 0 ≤ M 7 3 ∧ ∀ t : Nat, t < 8 → 0 ≤ M 24 t ∧ 0 ≤ M 25 t
theorem k_Mo_isLocated (l : Launch) (M : tk_M) (t : Nat) (ht : t < 8) (hq : q_tm M) : tk_C l y_Mo_isLocated 0 0 [.inr 7, .inl (t : Int)] M (fun r M' => r = .inl (some (m_loc M t)) ∧ M' = M) := by
  refine tk_C.of wc_Mo_isLocated rfl (Nat.le_of_ble_eq_true rfl) fun hr hM => ?_
  obtain ⟨q1, q2⟩ := hq
  have q3 := q2 t ht
  refine tk_goA fo_Mo co_Mo tg_Mo_isLocated 40 [] ?_
  repeat' first | refine And.intro ?_ ?_ | intro _
  all_goals first | rfl | exact Or.inl rfl | exact Or.inr rfl | skip
  all_goals try simp only [tk_c, Int.toNat_natCast] at *
  all_goals first | omega | (unfold m_loc; split <;> first | rfl | omega)
def m_who (M : tk_M) (t : Nat) : Int := if ¬ m_loc M t = 0 ∧ ¬ M 20 t = 0 ∧ M 7 3 - M 25 t ≤ M 7 5 then 1 else 0
theorem m_who01 (M : tk_M) (t : Nat) : m_who M t = 0 ∨ m_who M t = 1 := by unfold m_who; split <;> simp
theorem k_Mo_isWhole (l : Launch) (M : tk_M) (t : Nat) (ht : t < 8) (hq : q_tm M) : tk_C l y_Mo_isWhole 1 13 [.inr 7, .inl (t : Int)] M (fun r M' => r = .inl (some (m_who M t)) ∧ M' = M) := by
  refine tk_C.of wc_Mo_isWhole rfl (Nat.le_of_ble_eq_true rfl) fun hr hM => ?_
  refine tk_goA fo_Mo co_Mo tg_Mo_isWhole 40 [] ?_
  refine ⟨(), tk_aV (k := 6) (k_Mo_isLocated l M t ht hq) wc_Mo_isLocated lk_Mo_134 wi_Mo_isLocated wsl_Mo_isLocated tg_Mo_isWhole rfl rfl (by decide) rfl rfl rfl (by decide) (Nat.le_of_ble_eq_true rfl) ?_ (fun x M' h => by cases h.1)⟩
  rintro v' M' ⟨h1, rfl⟩ hro
  cases h1
  obtain ⟨q1, q2⟩ := hq
  have q3 := q2 t ht
  have ef : m_who M' t = if ¬ m_loc M' t = 0 ∧ ¬ M' 20 t = 0 ∧ M' 7 3 - M' 25 t ≤ M' 7 5 then 1 else 0 := rfl
  rw [ef]
  generalize m_loc M' t = y at *
  refine tk_goA fo_Mo co_Mo tg_Mo_isWhole 40 [] ?_
  repeat' first | refine And.intro ?_ ?_ | intro _
  all_goals first | rfl | exact Or.inl rfl | exact Or.inr rfl | skip
  all_goals try simp only [tk_c, Int.toNat_natCast] at *
  all_goals first | omega | (split <;> first | rfl | omega)
/-- the subsection at a place: from k upwards, at most n further -/
def m_at (M : tk_M) (pl : Int) : Nat → Nat → Nat
  | 0, k => k
  | n + 1, k => if (k : Int) + 1 < M 7 2 ∧ M 9 (k + 1) ≤ pl then m_at M pl n (k + 1) else k
theorem m_at_in (M : tk_M) (pl : Int) : ∀ n k : Nat, k ≤ m_at M pl n k ∧ ((m_at M pl n k : Int) < M 7 2 ∨ m_at M pl n k = k)
  | 0, k => ⟨Nat.le_refl _, Or.inr rfl⟩
  | n + 1, k => by
    have := m_at_in M pl n (k + 1)
    unfold m_at
    split <;> omega
theorem lp_Mo_subOf (l : Launch) (M : tk_M) (pl : Int) (h : M 7 2 ≤ 32) (r : Int) : ∀ (n k : Nat), M 7 2 ≤ k + n + 1 → k < 32 → (m_at M pl n k : Int) = r →
    tk_At l "TrackKeeperModel" prog_8_method_11_code 3 (some .int) 0 0 (fun q M' => q = .inl (some r) ∧ M' = M) 2 [some (.inr 7), some (.inl pl), some (.inl (k : Int))] [] M := by
  intro n
  induction n with
  | zero =>
    intro k h1 h2 h3
    have h3 : (k : Int) = r := h3
    refine tk_goA fo_Mo co_Mo tg_Mo_subOf 40 [2] ?_
    repeat' first | refine And.intro ?_ ?_ | intro _
    all_goals try simp only [tk_c] at *
    all_goals first | omega | rfl | rw [h3] | skip
  | succ n ih =>
    intro k h1 h2 h3
    unfold m_at at h3
    have e1 : ((k : Int) + 1).toNat = k + 1 := by omega
    refine tk_goA fo_Mo co_Mo tg_Mo_subOf 40 [2] ?_
    repeat' first | refine And.intro ?_ ?_ | intro _
    all_goals try simp only [tk_c, e1] at *
    all_goals first | omega | rfl | skip
    · rw [if_neg (by omega)] at h3
      rw [h3]
    · rw [if_neg (by omega)] at h3
      rw [h3]
    · rw [if_pos (by omega)] at h3
      exact ⟨(), ih (k + 1) (by omega) (by omega) h3⟩
theorem k_Mo_subOf (l : Launch) (M : tk_M) (pl : Int) (h : M 7 2 ≤ 32) : tk_C l y_Mo_subOf 0 0 [.inr 7, .inl pl] M (fun r M' => r = .inl (some ((m_at M pl 32 0 : Nat) : Int)) ∧ M' = M) := by
  refine tk_C.of wc_Mo_subOf rfl (Nat.le_of_ble_eq_true rfl) fun hr hM => ?_
  refine tk_goA fo_Mo co_Mo tg_Mo_subOf 40 [2] ?_
  exact ⟨(), lp_Mo_subOf l M pl h _ 32 0 (by omega) (by decide) rfl⟩
/-- how many bits are set -/
def m_pc (x : Int) : Int := x % 2 + x / 2 % 2 + x / 4 % 2 + x / 8 % 2 + x / 16 % 2 + x / 32 % 2 + x / 64 % 2 + x / 128 % 2
theorem k_In_bitCount (l : Launch) (M : tk_M) (x : Int) (h0 : 0 ≤ x) (h1 : x < 256) : tk_C l y_In_bitCount 0 0 [.inl x] M (fun r M' => r = .inl (some (m_pc x)) ∧ M' = M) := by
  obtain ⟨n, rfl⟩ : ∃ n : Fin 256, x = (n.val : Int) := ⟨⟨x.toNat, by omega⟩, by show x = ((x.toNat : Nat) : Int); omega⟩
  clear h0 h1
  refine tk_C.of wc_In_bitCount rfl (Nat.le_of_ble_eq_true rfl) fun hr hM => ?_
  clear hr hM
  refine tk_goA fo_In co_In tg_In_bitCount 60 [] ?_
  repeat' first | refine And.intro ?_ ?_ | intro _
  all_goals first | rfl | skip
  all_goals clear M
  all_goals revert n
  all_goals decide +kernel
/-- the lowest bit that is set -/
def m_low (x : Int) : Int := if x % 2 = 1 then 0 else if x / 2 % 2 = 1 then 1 else if x / 4 % 2 = 1 then 2 else if x / 8 % 2 = 1 then 3 else if x / 16 % 2 = 1 then 4 else if x / 32 % 2 = 1 then 5 else if x / 64 % 2 = 1 then 6 else 7
def m_bt (x : Int) (t : Int) : Int := (Int32.ofInt ((Int32.ofInt x >>> (Int32.ofInt t &&& 31)).toInt) &&& Int32.ofInt 1).toInt
theorem m_bt_eq : ∀ n : Fin 256, m_bt n.val 0 = (n.val : Int) % 2 ∧ m_bt n.val 1 = (n.val : Int) / 2 % 2 ∧ m_bt n.val 2 = (n.val : Int) / 4 % 2 ∧ m_bt n.val 3 = (n.val : Int) / 8 % 2 ∧ m_bt n.val 4 = (n.val : Int) / 16 % 2 ∧ m_bt n.val 5 = (n.val : Int) / 32 % 2 ∧ m_bt n.val 6 = (n.val : Int) / 64 % 2 ∧ m_bt n.val 7 = (n.val : Int) / 128 % 2 := by decide +kernel
theorem lp_Mo_only (l : Launch) (M : tk_M) (x : Int) (r : Int) (k : Nat) (hk : k < 8) (h0 : ¬ m_bt x k = 0) (hr : r = k) : ∀ (n t : Nat), t + n = k → (∀ j : Nat, j < k → m_bt x j = 0) →
    tk_At l "TrackKeeperModel" prog_8_method_15_code 2 (some .int) 0 0 (fun q M' => q = .inl (some r) ∧ M' = M) 2 [some (.inl x), some (.inl (t : Int))] [] M := by
  intro n
  induction n with
  | zero =>
    intro t h1 h2
    have e : t = k := by omega
    subst e
    subst hr
    refine tk_goA fo_Mo co_Mo tg_Mo_only 40 [2] ?_
    repeat' first | refine And.intro ?_ ?_ | intro _
    all_goals first | rfl | skip
    all_goals first | omega | (rename_i h; exact absurd h0 h) | skip
  | succ n ih =>
    intro t h1 h2
    have h3 := h2 t (by omega)
    refine tk_goA fo_Mo co_Mo tg_Mo_only 40 [2] ?_
    repeat' first | refine And.intro ?_ ?_ | intro _
    all_goals first | omega | (rename_i h; exact absurd h3 h) | skip
    exact ⟨(), ih (t + 1) (by omega) h2⟩
theorem m_low_at : ∀ n : Fin 256, n.val = 0 ∨ ((∃ k : Fin 8, m_low n.val = k.val ∧ ¬ m_bt n.val k.val = 0 ∧ ∀ j : Fin 8, j.val < k.val → m_bt n.val j.val = 0)) := by decide +kernel
theorem k_Mo_only (l : Launch) (M : tk_M) (x : Int) (h0 : 0 < x) (h1 : x < 256) : tk_C l y_Mo_only 0 0 [.inl x] M (fun r M' => r = .inl (some (m_low x)) ∧ M' = M) := by
  obtain ⟨n, rfl⟩ : ∃ n : Fin 256, x = (n.val : Int) := ⟨⟨x.toNat, by omega⟩, by show x = ((x.toNat : Nat) : Int); omega⟩
  rcases m_low_at n with h | ⟨k, e1, e2, e3⟩
  · omega
  · refine tk_C.of wc_Mo_only rfl (Nat.le_of_ble_eq_true rfl) fun hr hM => ?_
    refine tk_goA fo_Mo co_Mo tg_Mo_only 40 [2] ?_
    exact ⟨(), lp_Mo_only l M _ _ k.val k.isLt e2 e1 k.val 0 (by omega) (fun j hj => e3 ⟨j, by omega⟩ hj)⟩
