/-! CONTRACTS: the marking of trains -/
def g_mk (M : tk_M) (num : Int) (a : Nat) : Nat → tk_M
  | 0 => M
  | n + 1 => tk_up (tk_up (tk_up (g_mk M num a n) (41 + (a + n)) 3 (g_mk M num a n (41 + (a + n)) 3 + 1)) (41 + (a + n)) 4 num) (31 + (M (41 + (a + n)) 0).toNat) 5 1
theorem g_mk_o {M : tk_M} {num : Int} {a c j : Nat} (h2 : ¬ (31 ≤ c ∧ c < 41 ∧ j = 5)) : ∀ n : Nat, (∀ i : Nat, i < n → (M (41 + (a + i)) 0).toNat < 10) → ¬ (41 + a ≤ c ∧ c < 41 + (a + n) ∧ (j = 3 ∨ j = 4)) → g_mk M num a n c j = M c j
  | 0, _, _ => rfl
  | n + 1, hs, h1 => by
    have ih := g_mk_o (M := M) (num := num) h2 n (fun i hi => hs i (by omega)) (by omega)
    have hn := hs n (by omega)
    show tk_up _ _ _ _ c j = _
    unfold tk_up
    rw [if_neg (by omega), if_neg (by omega), if_neg (by omega)]
    exact ih
theorem lp_Tr_markTrain (l : Launch) (M : tk_M) (t : Nat) (ht : t < 8) (num : Int) (a f : Nat) (hf : f < 32) (haf : a ≤ f + 1) (ef : M (73 + t) 5 = (f : Int)) (hs : ∀ i : Nat, i ≤ f → 0 ≤ M (41 + i) 0 ∧ M (41 + i) 0 < 10 ∧ -1000 ≤ M (41 + i) 3 ∧ M (41 + i) 3 < 1000) (P : (Option Int ⊕ Nat) → tk_M → Prop)
    (hP : tk_At l "TrackKeeper$Track" prog_5_method_15_code 4 none 1 14 P 89 [some (.inr 2), some (.inr (73 + t)), some (.inl num), some (.inl ((f : Int) + 1))] [] (g_mk M num a (f + 1 - a))) : ∀ (n i : Nat), a + i + n = f + 1 →
    tk_At l "TrackKeeper$Track" prog_5_method_15_code 4 none 1 14 P 32 [some (.inr 2), some (.inr (73 + t)), some (.inl num), some (.inl ((a + i : Nat) : Int))] [] (g_mk M num a i) := by
  intro n
  induction n with
  | zero =>
    intro i hi
    have e2 : g_mk M num a i (73 + t) 5 = M (73 + t) 5 := g_mk_o (by omega) i (fun k hk => by have := hs (a + k) (by omega); omega) (by omega)
    refine tk_goA fo_Tr co_Tr tg_Tr_markTrain 60 [32, 89] ?_
    refine And.intro ⟨by omega, by omega⟩ fun _ _ => And.intro (fun _ => ⟨(), ?_⟩) (fun h => ?_)
    · rw [show i = f + 1 - a by omega]
      rw [show ((a + (f + 1 - a) : Nat) : Int) = (f : Int) + 1 by omega]
      exact hP
    · exact absurd (show g_mk M num a i (73 + t) 5 < ((a + i : Nat) : Int) by rw [e2, ef]; omega) h
  | succ n ih =>
    intro i hi
    have hsi := hs (a + i) (by omega)
    have hs' : ∀ k : Nat, k < i → (M (41 + (a + k)) 0).toNat < 10 := fun k hk => by have := hs (a + k) (by omega); omega
    have e2 : g_mk M num a i (73 + t) 5 = (f : Int) := by rw [← ef]; exact g_mk_o (by omega) i hs' (by omega)
    have e3 : g_mk M num a i (41 + (a + i)) 3 = M (41 + (a + i)) 3 := g_mk_o (by omega) i hs' (by omega)
    have e0 : g_mk M num a i (41 + (a + i)) 0 = M (41 + (a + i)) 0 := g_mk_o (by omega) i hs' (by omega)
    have h9 := ih (i + 1) (by omega)
    have en : g_mk M num a (i + 1) = tk_up (tk_up (tk_up (g_mk M num a i) (41 + (a + i)) 3 (g_mk M num a i (41 + (a + i)) 3 + 1)) (41 + (a + i)) 4 num) (31 + (M (41 + (a + i)) 0).toNat) 5 1 := rfl
    rw [en] at h9
    generalize g_mk M num a i = N at *
    have e00 : ∀ v w : Int, tk_up (tk_up N (41 + (a + i)) 3 v) (41 + (a + i)) 4 w (41 + (a + i)) 0 = M (41 + (a + i)) 0 := fun v w => by rw [tk_up_j _ _ _ _ (by decide), tk_up_j _ _ _ _ (by decide)]; exact e0
    refine tk_goA fo_Tr co_Tr tg_Tr_markTrain 60 [32, 89] ?_
    repeat' first | refine And.intro ?_ ?_ | intro _
    all_goals first | rfl | exact Or.inr rfl | skip
    all_goals try simp only [tk_c, Int.toNat_natCast] at *
    all_goals try simp only [e00] at *
    all_goals first | omega | skip
    refine ⟨(), ?_⟩
    exact h9
def f_occ (M : tk_M) (t : Nat) : Int := if ¬ M (73 + t) 10 = 0 ∧ f_ncf M (M (73 + t) 6) = 1 then 1 else 0
def f_mk (M : tk_M) (t : Nat) : tk_M := if M (73 + t) 5 + 1 < M 2 3 then tk_up (g_mk (tk_up M (73 + t) 11 (f_occ M t)) (t : Int) (M (73 + t) 6).toNat ((M (73 + t) 5).toNat + 1 - (M (73 + t) 6).toNat)) (31 + (M (41 + (M (73 + t) 5 + 1).toNat) 0).toNat) 5 1
  else g_mk (tk_up M (73 + t) 11 (f_occ M t)) (t : Int) (M (73 + t) 6).toNat ((M (73 + t) 5).toNat + 1 - (M (73 + t) 6).toNat)
/-- what marking a train asks -/
def p_mk (M : tk_M) (t : Nat) : Prop := 0 ≤ M (73 + t) 6 ∧ M (73 + t) 6 ≤ M (73 + t) 5 ∧ M (73 + t) 5 < M 2 3
def p_sub (M : tk_M) : Prop := 0 ≤ M 2 3 ∧ M 2 3 ≤ 32 ∧ (∀ i : Nat, (i : Int) < M 2 3 → 0 ≤ M (41 + i) 0 ∧ M (41 + i) 0 < 10 ∧ -1000 ≤ M (41 + i) 3 ∧ M (41 + i) 3 < 1000) ∧ (0 < M 2 3 → M (31 + (M 41 0).toNat) 0 = 0)
theorem k_Tr_markTrain (l : Launch) (M : tk_M) (t : Nat) (ht : t < 8) (hp : p_mk M t) (hs : p_sub M) : tk_C l y_Tr_markTrain 1 14 [.inr 2, .inr (73 + t), .inl (t : Int)] M (fun r M' => r = .inl none ∧ M' = f_mk M t) := by
  refine tk_C.of wc_Tr_markTrain rfl (Nat.le_of_ble_eq_true rfl) fun hr hM => ?_
  obtain ⟨p1, p2, p3⟩ := hp
  obtain ⟨s1, s2, s3, s4⟩ := hs
  -- behind the first store
  have key : tk_At l "TrackKeeper$Track" prog_5_method_15_code 4 none 1 14 (fun r M' => r = .inl none ∧ M' = f_mk M t) 27 [some (.inr 2), some (.inr (73 + t)), some (.inl (t : Int)), none] [] (tk_up M (73 + t) 11 (f_occ M t)) := by
    have ef : tk_up M (73 + t) 11 (f_occ M t) (73 + t) 5 = M (73 + t) 5 := tk_up_j _ _ _ _ (by decide)
    have er : tk_up M (73 + t) 11 (f_occ M t) (73 + t) 6 = M (73 + t) 6 := tk_up_j _ _ _ _ (by decide)
    have eu : ∀ i j : Nat, i < 32 → tk_up M (73 + t) 11 (f_occ M t) (41 + i) j = M (41 + i) j := fun i j hi => tk_up_c _ _ _ _ (by omega) _
    have e23 : tk_up M (73 + t) 11 (f_occ M t) 2 3 = M 2 3 := tk_up_c _ _ _ _ (by omega) _
    have hfm : f_mk M t = if M (73 + t) 5 + 1 < M 2 3 then tk_up (g_mk (tk_up M (73 + t) 11 (f_occ M t)) (t : Int) (M (73 + t) 6).toNat ((M (73 + t) 5).toNat + 1 - (M (73 + t) 6).toNat)) (31 + (M (41 + (M (73 + t) 5 + 1).toNat) 0).toNat) 5 1 else g_mk (tk_up M (73 + t) 11 (f_occ M t)) (t : Int) (M (73 + t) 6).toNat ((M (73 + t) 5).toNat + 1 - (M (73 + t) 6).toNat) := rfl
    generalize tk_up M (73 + t) 11 (f_occ M t) = N at *
    obtain ⟨a, ha⟩ : ∃ a : Nat, M (73 + t) 6 = (a : Int) := ⟨(M (73 + t) 6).toNat, by omega⟩
    obtain ⟨f, hf⟩ : ∃ f : Nat, M (73 + t) 5 = (f : Int) := ⟨(M (73 + t) 5).toNat, by omega⟩
    have hs9 : ∀ i : Nat, i ≤ f → 0 ≤ N (41 + i) 0 ∧ N (41 + i) 0 < 10 ∧ -1000 ≤ N (41 + i) 3 ∧ N (41 + i) 3 < 1000 := fun i hi => by
      rw [eu i 0 (by omega), eu i 3 (by omega)]; exact s3 i (by omega)
    have hgs : ∀ i : Nat, i < f + 1 - a → (N (41 + (a + i)) 0).toNat < 10 := fun i hi => by have := hs9 (a + i) (by omega); omega
    have hloop := lp_Tr_markTrain l N t ht (t : Int) a f (by omega) (by omega) (by rw [ef, hf]) hs9 (fun r M' => r = .inl none ∧ M' = f_mk M t) ?_ (f + 1 - a) 0 (by omega)
    · refine tk_goA fo_Tr co_Tr tg_Tr_markTrain 60 [32] ?_
      refine And.intro ⟨by omega, by omega⟩ fun _ _ => ⟨(), ?_⟩
      show tk_At _ _ _ _ _ _ _ _ 32 [some (.inr 2), some (.inr (73 + t)), some (.inl (t : Int)), some (.inl (N (73 + t) 6))] [] N
      rw [er, ha]
      exact hloop
    · have g5 : g_mk N (t : Int) a (f + 1 - a) (73 + t) 5 = (f : Int) := by rw [g_mk_o (by omega) _ hgs (by omega), ef, hf]
      have g23 : g_mk N (t : Int) a (f + 1 - a) 2 3 = M 2 3 := by rw [g_mk_o (by omega) _ hgs (by omega), e23]
      have gs : ∀ i : Nat, i < 32 → g_mk N (t : Int) a (f + 1 - a) (41 + i) 0 = M (41 + i) 0 := fun i hi => by rw [g_mk_o (by omega) _ hgs (by omega), eu i 0 hi]
      rw [ha, hf, Int.toNat_natCast, Int.toNat_natCast] at hfm
      generalize g_mk N (t : Int) a (f + 1 - a) = N2 at *
      refine tk_goA fo_Tr co_Tr tg_Tr_markTrain 60 [] ?_
      repeat' first | refine And.intro ?_ ?_ | intro _
      all_goals first | rfl | exact Or.inr rfl | skip
      all_goals try simp only [tk_c, g5, g23] at *
      all_goals first | omega | skip
      · rw [hfm, if_neg (by omega)]
      · rename_i hlt _ _ _ _ _ _
        have := s3 (f + 1) (by omega)
        rw [gs _ (by omega), show ((f : Int) + 1).toNat = f + 1 by omega]
        omega
      · have := s3 (f + 1) (by omega)
        rw [gs _ (by omega), show ((f : Int) + 1).toNat = f + 1 by omega]
        omega
      · have := s3 (f + 1) (by omega)
        rw [gs _ (by omega), show ((f : Int) + 1).toNat = f + 1 by omega]
        omega
      · have := s3 (f + 1) (by omega)
        rw [hfm, if_pos (by omega), gs _ (by omega)]
  have sr := s3 (M (73 + t) 6).toNat (by omega)
  refine tk_goA fo_Tr co_Tr tg_Tr_markTrain 60 [27] ?_
  refine And.intro ⟨by omega, by omega⟩ fun _ _ => And.intro (fun h => ?_) (fun h => ?_)
  · refine And.intro ⟨by omega, by omega⟩ (And.intro (Or.inl rfl) ⟨(), ?_⟩)
    have e : f_occ M t = 0 := by unfold f_occ; rw [if_neg (fun z => z.1 h)]
    rw [e] at key
    exact key
  · refine And.intro ⟨by omega, by omega⟩ fun _ _ => ⟨(), tk_aV (k := 1) (k_Tr_nothingCanFollow l M (M (73 + t) 6) p1 (by omega) sr.1 sr.2.1 (fun z => ?_)) wc_Tr_nothingCanFollow lk_Tr_104 wi_Tr_nothingCanFollow wsl_Tr_nothingCanFollow tg_Tr_markTrain rfl rfl (by decide) rfl rfl rfl (by decide) (Nat.le_of_ble_eq_true rfl) ?_ (fun x M' h => by cases h.1)⟩
    · rcases Int.lt_or_le 0 (M (73 + t) 6) with h9 | h9
      · omega
      · have h8 : M (73 + t) 6 = 0 := by omega
        rw [h8] at z
        exact absurd (s4 (by omega)) z
    · rintro v' M' ⟨h1, rfl⟩ hro
      cases h1
      refine tk_goA fo_Tr co_Tr tg_Tr_markTrain 60 [27] ?_
      refine And.intro (fun h2 => ?_) (fun h2 => ?_)
      · refine And.intro ⟨by omega, by omega⟩ (And.intro (Or.inl rfl) ⟨(), ?_⟩)
        have e : f_occ M' t = 0 := by unfold f_occ; rw [if_neg (fun z => by have := z.2; rw [show f_ncf M' (M' (73 + t) 6) = 0 from h2] at this; cases this)]
        rw [e] at key
        exact key
      · refine And.intro ⟨by omega, by omega⟩ (And.intro (Or.inr rfl) ⟨(), ?_⟩)
        have e : f_occ M' t = 1 := by
          unfold f_occ
          have h01 : f_ncf M' (M' (73 + t) 6) = 0 ∨ f_ncf M' (M' (73 + t) 6) = 1 := by unfold f_ncf; split <;> simp
          rw [if_pos ⟨h, by rcases h01 with z | z; exact absurd z h2; exact z⟩]
        rw [e] at key
        exact key
/-- what the marking leaves as it was -/
theorem f_mk_o {M : tk_M} {t : Nat} (hp : p_mk M t) (hs : p_sub M) {c j : Nat} (h1 : ¬ (c = 73 + t ∧ j = 11)) (h2 : ¬ (31 ≤ c ∧ c < 41 ∧ j = 5)) (h3 : ¬ (41 ≤ c ∧ c < 73 ∧ (j = 3 ∨ j = 4))) : f_mk M t c j = M c j := by
  obtain ⟨p1, p2, p3⟩ := hp
  obtain ⟨s1, s2, s3, s4⟩ := hs
  have hg : g_mk (tk_up M (73 + t) 11 (f_occ M t)) (t : Int) (M (73 + t) 6).toNat ((M (73 + t) 5).toNat + 1 - (M (73 + t) 6).toNat) c j = M c j := by
    rw [g_mk_o h2 _ (fun i hi => ?_) (by omega)]
    · unfold tk_up
      rw [if_neg h1]
    · have := s3 ((M (73 + t) 6).toNat + i) (by omega)
      rw [tk_up_c _ _ _ _ (by omega)]
      omega
  unfold f_mk
  split
  · have := s3 (M (73 + t) 5 + 1).toNat (by omega)
    unfold tk_up
    rw [if_neg (by omega)]
    exact hg
  · exact hg
def g_mts (M : tk_M) : Nat → tk_M
  | 0 => M
  | n + 1 => if g_mts M n (73 + n) 9 = 0 then g_mts M n else f_mk (g_mts M n) n
