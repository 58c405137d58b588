/-! THE LAW'S CASES, written by a program -/
set_option maxHeartbeats 2000000 in
set_option maxRecDepth 100000 in
theorem law_section {l : Launch} {L : Nat} {xs : Nat → Int32} {k n : Nat} {i : Int} {x5 x6 : Option tk_U} {M : tk_M} {K : Int} (hst : l.stackTraces = false) (hk : k + 2 ≤ 661476) (hn : n + 12 ≤ 7111676) (hi : 0 ≤ i) (hi2 : i + 3 < (L : Int)) (hL : L ≤ 2048) (h : j_all M M K) (h0 : 0 ≤ K) (hK : K ≤ 9000000) (kk : ∀ (M2 : tk_M) (y5 y6 : Option tk_U), j_all M2 M2 (K + 2002) → tk_AL l L xs (k + 1) (n + 6) 846 [some (.inr 99), some (.inr 1), some (.inr 7), some (.inr 0), some (.inl i), y5, y6] [] M2) : tk_AL l L xs k n 104 [some (.inr 99), some (.inr 1), some (.inr 7), some (.inr 0), some (.inl i), x5, x6] [] M := by
  refine tk_goL tg_La_law (by omega) (by omega) 40 [846] ?_
  obtain ⟨v, b, M1, M2, c1, c2, e1, e2, h2, hB⟩ := r_section l hst h  
  refine ⟨(), tk_aHL c1 wh_section lk_La_65 wst_La_section wn_La tg_La_law rfl rfl rfl (by decide) (by decide) (by omega) (by omega) ?_⟩
  rintro v M1 ⟨rfl, rfl⟩
  refine tk_goL tg_La_law (by omega) (by omega) 40 [846] ?_
  refine ⟨(), tk_aVL c2 wc_Mo_section lk_La_70 wi_Mo_section wsl_Mo_section tg_La_law rfl rfl (by decide) rfl rfl rfl (by decide) (by decide) (by omega) (by omega) ?_ (fun x M9 hx => by cases hx.1)⟩
  rintro w M2 ⟨ew, rfl⟩ hro
  cases ew
  refine tk_goL tg_La_law (by omega) (by omega) 40 [846] ?_
  refine ⟨(), tk_aVL (k_Mo_thrown l _) wc_Mo_thrown lk_La_71 wi_Mo_thrown wsl_Mo_thrown tg_La_law rfl rfl (by decide) rfl rfl rfl (by decide) (by decide) (by omega) (by omega) ?_ (fun x M9 hx => by cases hx.1)⟩
  rintro w M2 ⟨ew, rfl⟩ hro
  cases ew
  refine tk_goL tg_La_law (by omega) (by omega) 40 [846] ?_
  refine ⟨fun _ => ⟨fun _ => ⟨(), kk _ _ _ h2⟩, fun g => ⟨by decide, fun _ _ => ⟨fun _ => ⟨(), kk _ _ _ h2⟩, fun g3 => absurd ?_ g3⟩⟩⟩, fun g => absurd e1 g⟩
  have g : ¬ ¬ v = 0 := g
  show tk_cmp (M2 0 0) b = 0
  rw [e2 (Classical.not_not.mp g)]
  exact tk_cmp_eq b
set_option maxHeartbeats 2000000 in
set_option maxRecDepth 100000 in
theorem law_sub {l : Launch} {L : Nat} {xs : Nat → Int32} {k n : Nat} {i : Int} {x5 x6 : Option tk_U} {M : tk_M} {K : Int} (hst : l.stackTraces = false) (hk : k + 2 ≤ 661476) (hn : n + 12 ≤ 7111676) (hi : 0 ≤ i) (hi2 : i + 3 < (L : Int)) (hL : L ≤ 2048) (h : j_all M M K) (h0 : 0 ≤ K) (hK : K ≤ 9000000) (kk : ∀ (M2 : tk_M) (y5 y6 : Option tk_U), j_all M2 M2 (K + 2002) → tk_AL l L xs (k + 1) (n + 6) 846 [some (.inr 99), some (.inr 1), some (.inr 7), some (.inr 0), some (.inl i), y5, y6] [] M2) : tk_AL l L xs k n 148 [some (.inr 99), some (.inr 1), some (.inr 7), some (.inr 0), some (.inl i), x5, x6] [] M := by
  refine tk_goL tg_La_law (by omega) (by omega) 40 [846] ?_
  refine ⟨by omega, by omega, ⟨by omega, by omega⟩, ?_⟩
  obtain ⟨v, b, M1, M2, c1, c2, e1, e2, h2, hB⟩ := r_sub l hst h  (xs (i + 1).toNat).toInt
  refine ⟨(), tk_aHL c1 wh_sub lk_La_74 wst_La_sub wn_La tg_La_law rfl rfl rfl (by decide) (by decide) (by omega) (by omega) ?_⟩
  rintro v M1 ⟨rfl, rfl⟩
  refine tk_goL tg_La_law (by omega) (by omega) 40 [846] ?_
  refine ⟨by omega, by omega, ⟨by omega, by omega⟩, ?_⟩
  refine ⟨(), tk_aVL c2 wc_Mo_sub lk_La_77 wi_Mo_sub wsl_Mo_sub tg_La_law rfl rfl (by decide) rfl rfl rfl (by decide) (by decide) (by omega) (by omega) ?_ (fun x M9 hx => by cases hx.1)⟩
  rintro w M2 ⟨ew, rfl⟩ hro
  cases ew
  refine tk_goL tg_La_law (by omega) (by omega) 40 [846] ?_
  refine ⟨(), tk_aVL (k_Mo_thrown l _) wc_Mo_thrown lk_La_71 wi_Mo_thrown wsl_Mo_thrown tg_La_law rfl rfl (by decide) rfl rfl rfl (by decide) (by decide) (by omega) (by omega) ?_ (fun x M9 hx => by cases hx.1)⟩
  rintro w M2 ⟨ew, rfl⟩ hro
  cases ew
  refine tk_goL tg_La_law (by omega) (by omega) 40 [846] ?_
  refine ⟨fun _ => ⟨fun _ => ⟨(), kk _ _ _ h2⟩, fun g => ⟨by decide, fun _ _ => ⟨fun _ => ⟨(), kk _ _ _ h2⟩, fun g3 => absurd ?_ g3⟩⟩⟩, fun g => absurd e1 g⟩
  have g : ¬ ¬ v = 0 := g
  show tk_cmp (M2 0 0) b = 0
  rw [e2 (Classical.not_not.mp g)]
  exact tk_cmp_eq b
set_option maxHeartbeats 2000000 in
set_option maxRecDepth 100000 in
theorem law_begin {l : Launch} {L : Nat} {xs : Nat → Int32} {k n : Nat} {i : Int} {x5 x6 : Option tk_U} {M : tk_M} {K : Int} (hst : l.stackTraces = false) (hk : k + 2 ≤ 661476) (hn : n + 12 ≤ 7111676) (hi : 0 ≤ i) (hi2 : i + 3 < (L : Int)) (hL : L ≤ 2048) (h : j_all M M K) (h0 : 0 ≤ K) (hK : K ≤ 9000000) (kk : ∀ (M2 : tk_M) (y5 y6 : Option tk_U), j_all M2 M2 (K + 2002) → tk_AL l L xs (k + 1) (n + 6) 846 [some (.inr 99), some (.inr 1), some (.inr 7), some (.inr 0), some (.inl i), y5, y6] [] M2) : tk_AL l L xs k n 204 [some (.inr 99), some (.inr 1), some (.inr 7), some (.inr 0), some (.inl i), x5, x6] [] M := by
  refine tk_goL tg_La_law (by omega) (by omega) 40 [846] ?_
  refine ⟨by omega, by omega, ⟨by omega, by omega⟩, ⟨by omega, by omega, ⟨by omega, by omega⟩, ⟨by omega, by omega, ⟨by omega, by omega⟩, ?_⟩⟩⟩
  obtain ⟨v, b, M1, M2, c1, c2, e1, e2, h2, hB⟩ := r_begin l hst h h0 (xs (i + 1).toNat).toInt (xs (i + 2).toNat).toInt (xs (i + 3).toNat).toInt
  refine ⟨(), tk_aHL c1 wh_begin lk_La_78 wst_La_begin wn_La tg_La_law rfl rfl rfl (by decide) (by decide) (by omega) (by omega) ?_⟩
  rintro v M1 ⟨rfl, rfl⟩
  refine tk_goL tg_La_law (by omega) (by omega) 40 [846] ?_
  refine ⟨by omega, by omega, ⟨by omega, by omega⟩, ⟨by omega, by omega, ⟨by omega, by omega⟩, ⟨by omega, by omega, ⟨by omega, by omega⟩, ?_⟩⟩⟩
  refine ⟨(), tk_aVL c2 wc_Mo_begin lk_La_81 wi_Mo_begin wsl_Mo_begin tg_La_law rfl rfl (by decide) rfl rfl rfl (by decide) (by decide) (by omega) (by omega) ?_ (fun x M9 hx => by cases hx.1)⟩
  rintro w M2 ⟨ew, rfl⟩ hro
  cases ew
  refine tk_goL tg_La_law (by omega) (by omega) 40 [846] ?_
  refine ⟨(), tk_aVL (k_Mo_thrown l _) wc_Mo_thrown lk_La_71 wi_Mo_thrown wsl_Mo_thrown tg_La_law rfl rfl (by decide) rfl rfl rfl (by decide) (by decide) (by omega) (by omega) ?_ (fun x M9 hx => by cases hx.1)⟩
  rintro w M2 ⟨ew, rfl⟩ hro
  cases ew
  refine tk_goL tg_La_law (by omega) (by omega) 40 [846] ?_
  refine ⟨fun _ => ⟨fun _ => ⟨(), kk _ _ _ h2⟩, fun g => ⟨by decide, fun _ _ => ⟨fun _ => ⟨(), kk _ _ _ h2⟩, fun g3 => absurd ?_ g3⟩⟩⟩, fun g => absurd e1 g⟩
  have g : ¬ ¬ v = 0 := g
  show tk_cmp (M2 0 0) b = 0
  rw [e2 (Classical.not_not.mp g)]
  exact tk_cmp_eq b
set_option maxHeartbeats 2000000 in
set_option maxRecDepth 100000 in
theorem law_report {l : Launch} {L : Nat} {xs : Nat → Int32} {k n : Nat} {i : Int} {x5 x6 : Option tk_U} {M : tk_M} {K : Int} (hst : l.stackTraces = false) (hk : k + 2 ≤ 661476) (hn : n + 12 ≤ 7111676) (hi : 0 ≤ i) (hi2 : i + 3 < (L : Int)) (hL : L ≤ 2048) (h : j_all M M K) (h0 : 0 ≤ K) (hK : K ≤ 9000000) (kk : ∀ (M2 : tk_M) (y5 y6 : Option tk_U), j_all M2 M2 (K + 2002) → tk_AL l L xs (k + 1) (n + 6) 846 [some (.inr 99), some (.inr 1), some (.inr 7), some (.inr 0), some (.inl i), y5, y6] [] M2) : tk_AL l L xs k n 407 [some (.inr 99), some (.inr 1), some (.inr 7), some (.inr 0), some (.inl i), x5, x6] [] M := by
  refine tk_goL tg_La_law (by omega) (by omega) 40 [846] ?_
  refine ⟨by omega, by omega, ⟨by omega, by omega⟩, ⟨by omega, by omega, ⟨by omega, by omega⟩, ⟨by omega, by omega, ⟨by omega, by omega⟩, ?_⟩⟩⟩
  obtain ⟨v, b, M1, M2, c1, c2, e1, e2, h2, hB⟩ := r_report l hst h h0 hK (xs (i + 1).toNat).toInt (xs (i + 2).toNat).toInt (xs (i + 3).toNat).toInt
  refine ⟨(), tk_aHL c1 wh_report lk_La_94 wst_La_report wn_La tg_La_law rfl rfl rfl (by decide) (by decide) (by omega) (by omega) ?_⟩
  rintro v M1 ⟨rfl, rfl⟩
  refine tk_goL tg_La_law (by omega) (by omega) 40 [846] ?_
  refine ⟨by omega, by omega, ⟨by omega, by omega⟩, ⟨by omega, by omega, ⟨by omega, by omega⟩, ⟨by omega, by omega, ⟨by omega, by omega⟩, ?_⟩⟩⟩
  refine ⟨(), tk_aVL c2 wc_Mo_report lk_La_96 wi_Mo_report wsl_Mo_report tg_La_law rfl rfl (by decide) rfl rfl rfl (by decide) (by decide) (by omega) (by omega) ?_ (fun x M9 hx => by cases hx.1)⟩
  rintro w M2 ⟨ew, rfl⟩ hro
  cases ew
  refine tk_goL tg_La_law (by omega) (by omega) 40 [846] ?_
  refine ⟨(), tk_aVL (k_Mo_thrown l _) wc_Mo_thrown lk_La_71 wi_Mo_thrown wsl_Mo_thrown tg_La_law rfl rfl (by decide) rfl rfl rfl (by decide) (by decide) (by omega) (by omega) ?_ (fun x M9 hx => by cases hx.1)⟩
  rintro w M2 ⟨ew, rfl⟩ hro
  cases ew
  refine tk_goL tg_La_law (by omega) (by omega) 40 [846] ?_
  refine ⟨fun _ => ⟨fun _ => ⟨(), kk _ _ _ h2⟩, fun g => ⟨by decide, fun _ _ => ⟨fun g2 => ⟨fun _ => ⟨(), kk _ _ _ h2⟩, fun g3 => absurd ?_ g3⟩, fun g2 => ⟨fun _ => ⟨(), kk _ _ _ h2⟩, fun g3 => absurd ?_ g3⟩⟩⟩⟩, fun g => absurd e1 g⟩
  · have g : ¬ ¬ v = 0 := g
    have g2 : b = 0 := g2
    show tk_cmp (M2 0 0) 0 = 0
    rw [e2 (Classical.not_not.mp g), g2]
    rfl
  · have g : ¬ ¬ v = 0 := g
    have g2 : ¬ b = 0 := g2
    show tk_cmp (M2 0 0) 1 = 0
    rw [e2 (Classical.not_not.mp g), hB.resolve_left g2]
    rfl
set_option maxHeartbeats 2000000 in
set_option maxRecDepth 100000 in
theorem law_tick {l : Launch} {L : Nat} {xs : Nat → Int32} {k n : Nat} {i : Int} {x5 x6 : Option tk_U} {M : tk_M} {K : Int} (hst : l.stackTraces = false) (hk : k + 2 ≤ 661476) (hn : n + 12 ≤ 7111676) (hi : 0 ≤ i) (hi2 : i + 3 < (L : Int)) (hL : L ≤ 2048) (h : j_all M M K) (h0 : 0 ≤ K) (hK : K ≤ 9000000) (kk : ∀ (M2 : tk_M) (y5 y6 : Option tk_U), j_all M2 M2 (K + 2002) → tk_AL l L xs (k + 1) (n + 6) 846 [some (.inr 99), some (.inr 1), some (.inr 7), some (.inr 0), some (.inl i), y5, y6] [] M2) : tk_AL l L xs k n 530 [some (.inr 99), some (.inr 1), some (.inr 7), some (.inr 0), some (.inl i), x5, x6] [] M := by
  refine tk_goL tg_La_law (by omega) (by omega) 40 [846] ?_
  refine ⟨by omega, by omega, ⟨by omega, by omega⟩, ?_⟩
  obtain ⟨v, b, M1, M2, c1, c2, e1, e2, h2, hB⟩ := r_tick l hst h h0 hK (xs (i + 1).toNat).toInt
  refine ⟨(), tk_aHL c1 wh_tick lk_La_101 wst_La_tick wn_La tg_La_law rfl rfl rfl (by decide) (by decide) (by omega) (by omega) ?_⟩
  rintro v M1 ⟨rfl, rfl⟩
  refine tk_goL tg_La_law (by omega) (by omega) 40 [846] ?_
  refine ⟨by omega, by omega, ⟨by omega, by omega⟩, ?_⟩
  refine ⟨(), tk_aVL c2 wc_Mo_tick lk_La_103 wi_Mo_tick wsl_Mo_tick tg_La_law rfl rfl (by decide) rfl rfl rfl (by decide) (by decide) (by omega) (by omega) ?_ (fun x M9 hx => by cases hx.1)⟩
  rintro w M2 ⟨ew, rfl⟩ hro
  cases ew
  refine tk_goL tg_La_law (by omega) (by omega) 40 [846] ?_
  refine ⟨(), tk_aVL (k_Mo_thrown l _) wc_Mo_thrown lk_La_71 wi_Mo_thrown wsl_Mo_thrown tg_La_law rfl rfl (by decide) rfl rfl rfl (by decide) (by decide) (by omega) (by omega) ?_ (fun x M9 hx => by cases hx.1)⟩
  rintro w M2 ⟨ew, rfl⟩ hro
  cases ew
  refine tk_goL tg_La_law (by omega) (by omega) 40 [846] ?_
  refine ⟨fun _ => ⟨fun _ => ⟨(), kk _ _ _ h2⟩, fun g => ⟨by decide, fun _ _ => ⟨fun _ => ⟨(), kk _ _ _ h2⟩, fun g3 => absurd ?_ g3⟩⟩⟩, fun g => absurd e1 g⟩
  have g : ¬ ¬ v = 0 := g
  show tk_cmp (M2 0 0) b = 0
  rw [e2 (Classical.not_not.mp g)]
  exact tk_cmp_eq b
set_option maxHeartbeats 2000000 in
set_option maxRecDepth 100000 in
theorem law_request {l : Launch} {L : Nat} {xs : Nat → Int32} {k n : Nat} {i : Int} {x5 x6 : Option tk_U} {M : tk_M} {K : Int} (hst : l.stackTraces = false) (hk : k + 2 ≤ 661476) (hn : n + 12 ≤ 7111676) (hi : 0 ≤ i) (hi2 : i + 3 < (L : Int)) (hL : L ≤ 2048) (h : j_all M M K) (h0 : 0 ≤ K) (hK : K ≤ 9000000) (kk : ∀ (M2 : tk_M) (y5 y6 : Option tk_U), j_all M2 M2 (K + 2002) → tk_AL l L xs (k + 1) (n + 6) 846 [some (.inr 99), some (.inr 1), some (.inr 7), some (.inr 0), some (.inl i), y5, y6] [] M2) : tk_AL l L xs k n 586 [some (.inr 99), some (.inr 1), some (.inr 7), some (.inr 0), some (.inl i), x5, x6] [] M := by
  refine tk_goL tg_La_law (by omega) (by omega) 40 [846] ?_
  refine ⟨by omega, by omega, ⟨by omega, by omega⟩, ⟨by omega, by omega, ⟨by omega, by omega⟩, ?_⟩⟩
  obtain ⟨v, b, M1, M2, c1, c2, e1, e2, h2, hB⟩ := r_request l hst h  (xs (i + 1).toNat).toInt (xs (i + 2).toNat).toInt
  refine ⟨(), tk_aHL c1 wh_request lk_La_104 wst_La_request wn_La tg_La_law rfl rfl rfl (by decide) (by decide) (by omega) (by omega) ?_⟩
  rintro v M1 ⟨rfl, rfl⟩
  refine tk_goL tg_La_law (by omega) (by omega) 40 [846] ?_
  refine ⟨by omega, by omega, ⟨by omega, by omega⟩, ⟨by omega, by omega, ⟨by omega, by omega⟩, ?_⟩⟩
  refine ⟨(), tk_aVL c2 wc_Mo_request lk_La_107 wi_Mo_request wsl_Mo_request tg_La_law rfl rfl (by decide) rfl rfl rfl (by decide) (by decide) (by omega) (by omega) ?_ (fun x M9 hx => by cases hx.1)⟩
  rintro w M2 ⟨ew, rfl⟩ hro
  cases ew
  refine tk_goL tg_La_law (by omega) (by omega) 40 [846] ?_
  refine ⟨(), tk_aVL (k_Mo_thrown l _) wc_Mo_thrown lk_La_71 wi_Mo_thrown wsl_Mo_thrown tg_La_law rfl rfl (by decide) rfl rfl rfl (by decide) (by decide) (by omega) (by omega) ?_ (fun x M9 hx => by cases hx.1)⟩
  rintro w M2 ⟨ew, rfl⟩ hro
  cases ew
  refine tk_goL tg_La_law (by omega) (by omega) 40 [846] ?_
  refine ⟨fun _ => ⟨fun _ => ⟨(), kk _ _ _ h2⟩, fun g => ⟨by decide, fun _ _ => ⟨fun _ => ⟨(), kk _ _ _ h2⟩, fun g3 => absurd ?_ g3⟩⟩⟩, fun g => absurd e1 g⟩
  have g : ¬ ¬ v = 0 := g
  show tk_cmp (M2 0 0) b = 0
  rw [e2 (Classical.not_not.mp g)]
  exact tk_cmp_eq b
set_option maxHeartbeats 2000000 in
set_option maxRecDepth 100000 in
theorem law_state {l : Launch} {L : Nat} {xs : Nat → Int32} {k n : Nat} {i : Int} {x5 x6 : Option tk_U} {M : tk_M} {K : Int} (hst : l.stackTraces = false) (hk : k + 2 ≤ 661476) (hn : n + 12 ≤ 7111676) (hi : 0 ≤ i) (hi2 : i + 3 < (L : Int)) (hL : L ≤ 2048) (h : j_all M M K) (h0 : 0 ≤ K) (hK : K ≤ 9000000) (kk : ∀ (M2 : tk_M) (y5 y6 : Option tk_U), j_all M2 M2 (K + 2002) → tk_AL l L xs (k + 1) (n + 6) 846 [some (.inr 99), some (.inr 1), some (.inr 7), some (.inr 0), some (.inl i), y5, y6] [] M2) : tk_AL l L xs k n 654 [some (.inr 99), some (.inr 1), some (.inr 7), some (.inr 0), some (.inl i), x5, x6] [] M := by
  refine tk_goL tg_La_law (by omega) (by omega) 40 [846] ?_
  refine ⟨by omega, by omega, ⟨by omega, by omega⟩, ?_⟩
  obtain ⟨v, b, M1, M2, c1, c2, e1, e2, h2, hB⟩ := r_state l hst h  (xs (i + 1).toNat).toInt
  refine ⟨(), tk_aHL c1 wh_state lk_La_108 wst_La_state wn_La tg_La_law rfl rfl rfl (by decide) (by decide) (by omega) (by omega) ?_⟩
  rintro v M1 ⟨rfl, rfl⟩
  refine tk_goL tg_La_law (by omega) (by omega) 40 [846] ?_
  refine ⟨by omega, by omega, ⟨by omega, by omega⟩, ?_⟩
  refine ⟨(), tk_aVL c2 wc_Mo_state lk_La_110 wi_Mo_state wsl_Mo_state tg_La_law rfl rfl (by decide) rfl rfl rfl (by decide) (by decide) (by omega) (by omega) ?_ (fun x M9 hx => by cases hx.1)⟩
  rintro w M2 ⟨ew, rfl⟩ hro
  cases ew
  refine tk_goL tg_La_law (by omega) (by omega) 40 [846] ?_
  refine ⟨(), tk_aVL (k_Mo_thrown l _) wc_Mo_thrown lk_La_71 wi_Mo_thrown wsl_Mo_thrown tg_La_law rfl rfl (by decide) rfl rfl rfl (by decide) (by decide) (by omega) (by omega) ?_ (fun x M9 hx => by cases hx.1)⟩
  rintro w M2 ⟨ew, rfl⟩ hro
  cases ew
  refine tk_goL tg_La_law (by omega) (by omega) 40 [846] ?_
  refine ⟨fun _ => ⟨fun _ => ⟨(), kk _ _ _ h2⟩, fun g => ⟨by decide, fun _ _ => ⟨fun _ => ⟨(), kk _ _ _ h2⟩, fun g3 => absurd ?_ g3⟩⟩⟩, fun g => absurd e1 g⟩
  have g : ¬ ¬ v = 0 := g
  show tk_cmp (M2 0 0) b = 0
  rw [e2 (Classical.not_not.mp g)]
  exact tk_cmp_eq b
set_option maxHeartbeats 2000000 in
set_option maxRecDepth 100000 in
theorem law_train {l : Launch} {L : Nat} {xs : Nat → Int32} {k n : Nat} {i : Int} {x5 x6 : Option tk_U} {M : tk_M} {K : Int} (hst : l.stackTraces = false) (hk : k + 2 ≤ 661476) (hn : n + 12 ≤ 7111676) (hi : 0 ≤ i) (hi2 : i + 3 < (L : Int)) (hL : L ≤ 2048) (h : j_all M M K) (h0 : 0 ≤ K) (hK : K ≤ 9000000) (kk : ∀ (M2 : tk_M) (y5 y6 : Option tk_U), j_all M2 M2 (K + 2002) → tk_AL l L xs (k + 1) (n + 6) 846 [some (.inr 99), some (.inr 1), some (.inr 7), some (.inr 0), some (.inl i), y5, y6] [] M2) : tk_AL l L xs k n 710 [some (.inr 99), some (.inr 1), some (.inr 7), some (.inr 0), some (.inl i), x5, x6] [] M := by
  refine tk_goL tg_La_law (by omega) (by omega) 40 [846] ?_
  refine ⟨by omega, by omega, ⟨by omega, by omega⟩, ⟨by omega, by omega, ⟨by omega, by omega⟩, ?_⟩⟩
  obtain ⟨v, b, M1, M2, c1, c2, e1, e2, h2, hB⟩ := r_train l hst h  (xs (i + 1).toNat).toInt (xs (i + 2).toNat).toInt
  refine ⟨(), tk_aHL c1 wh_train lk_La_111 wst_La_train wn_La tg_La_law rfl rfl rfl (by decide) (by decide) (by omega) (by omega) ?_⟩
  rintro v M1 ⟨rfl, rfl⟩
  refine tk_goL tg_La_law (by omega) (by omega) 40 [846] ?_
  refine ⟨by omega, by omega, ⟨by omega, by omega⟩, ⟨by omega, by omega, ⟨by omega, by omega⟩, ?_⟩⟩
  refine ⟨(), tk_aVL c2 wc_Mo_train lk_La_113 wi_Mo_train wsl_Mo_train tg_La_law rfl rfl (by decide) rfl rfl rfl (by decide) (by decide) (by omega) (by omega) ?_ (fun x M9 hx => by cases hx.1)⟩
  rintro w M2 ⟨ew, rfl⟩ hro
  cases ew
  refine tk_goL tg_La_law (by omega) (by omega) 40 [846] ?_
  refine ⟨(), tk_aVL (k_Mo_thrown l _) wc_Mo_thrown lk_La_71 wi_Mo_thrown wsl_Mo_thrown tg_La_law rfl rfl (by decide) rfl rfl rfl (by decide) (by decide) (by omega) (by omega) ?_ (fun x M9 hx => by cases hx.1)⟩
  rintro w M2 ⟨ew, rfl⟩ hro
  cases ew
  refine tk_goL tg_La_law (by omega) (by omega) 40 [846] ?_
  refine ⟨fun _ => ⟨fun _ => ⟨(), kk _ _ _ h2⟩, fun g => ⟨by decide, fun _ _ => ⟨fun _ => ⟨(), kk _ _ _ h2⟩, fun g3 => absurd ?_ g3⟩⟩⟩, fun g => absurd e1 g⟩
  have g : ¬ ¬ v = 0 := g
  show tk_cmp (M2 0 0) b = 0
  rw [e2 (Classical.not_not.mp g)]
  exact tk_cmp_eq b
set_option maxHeartbeats 2000000 in
set_option maxRecDepth 100000 in
theorem law_count {l : Launch} {L : Nat} {xs : Nat → Int32} {k n : Nat} {i : Int} {x5 x6 : Option tk_U} {M : tk_M} {K : Int} (hst : l.stackTraces = false) (hk : k + 2 ≤ 661476) (hn : n + 12 ≤ 7111676) (hi : 0 ≤ i) (hi2 : i + 3 < (L : Int)) (hL : L ≤ 2048) (h : j_all M M K) (h0 : 0 ≤ K) (hK : K ≤ 9000000) (kk : ∀ (M2 : tk_M) (y5 y6 : Option tk_U), j_all M2 M2 (K + 2002) → tk_AL l L xs (k + 1) (n + 6) 846 [some (.inr 99), some (.inr 1), some (.inr 7), some (.inr 0), some (.inl i), y5, y6] [] M2) : tk_AL l L xs k n 778 [some (.inr 99), some (.inr 1), some (.inr 7), some (.inr 0), some (.inl i), x5, x6] [] M := by
  refine tk_goL tg_La_law (by omega) (by omega) 40 [846] ?_
  refine ⟨by omega, by omega, ⟨by omega, by omega⟩, ⟨by omega, by omega, ⟨by omega, by omega⟩, ?_⟩⟩
  obtain ⟨v, b, M1, M2, c1, c2, e1, e2, h2, hB⟩ := r_count l hst h  (xs (i + 1).toNat).toInt (xs (i + 2).toNat).toInt
  refine ⟨(), tk_aHL c1 wh_count lk_La_114 wst_La_count wn_La tg_La_law rfl rfl rfl (by decide) (by decide) (by omega) (by omega) ?_⟩
  rintro v M1 ⟨rfl, rfl⟩
  refine tk_goL tg_La_law (by omega) (by omega) 40 [846] ?_
  refine ⟨by omega, by omega, ⟨by omega, by omega⟩, ⟨by omega, by omega, ⟨by omega, by omega⟩, ?_⟩⟩
  refine ⟨(), tk_aVL c2 wc_Mo_count lk_La_116 wi_Mo_count wsl_Mo_count tg_La_law rfl rfl (by decide) rfl rfl rfl (by decide) (by decide) (by omega) (by omega) ?_ (fun x M9 hx => by cases hx.1)⟩
  rintro w M2 ⟨ew, rfl⟩ hro
  cases ew
  refine tk_goL tg_La_law (by omega) (by omega) 40 [846] ?_
  refine ⟨(), tk_aVL (k_Mo_thrown l _) wc_Mo_thrown lk_La_71 wi_Mo_thrown wsl_Mo_thrown tg_La_law rfl rfl (by decide) rfl rfl rfl (by decide) (by decide) (by omega) (by omega) ?_ (fun x M9 hx => by cases hx.1)⟩
  rintro w M2 ⟨ew, rfl⟩ hro
  cases ew
  refine tk_goL tg_La_law (by omega) (by omega) 40 [846] ?_
  refine ⟨fun _ => ⟨fun _ => ⟨(), kk _ _ _ h2⟩, fun g => ⟨by decide, fun _ _ => ⟨fun _ => ⟨(), kk _ _ _ h2⟩, fun g3 => absurd ?_ g3⟩⟩⟩, fun g => absurd e1 g⟩
  have g : ¬ ¬ v = 0 := g
  show tk_cmp (M2 0 0) b = 0
  rw [e2 (Classical.not_not.mp g)]
  exact tk_cmp_eq b
set_option maxHeartbeats 2000000 in
set_option maxRecDepth 100000 in
theorem law_connect {l : Launch} {L : Nat} {xs : Nat → Int32} {k n : Nat} {i : Int} {x5 x6 : Option tk_U} {M : tk_M} {K : Int} (hst : l.stackTraces = false) (hk : k + 2 ≤ 661476) (hn : n + 12 ≤ 7111676) (hi : 0 ≤ i) (hi2 : i + 3 < (L : Int)) (hL : L ≤ 2048) (h : j_all M M K) (h0 : 0 ≤ K) (hK : K ≤ 9000000) (kk : ∀ (M2 : tk_M) (y5 y6 : Option tk_U), j_all M2 M2 (K + 2002) → tk_AL l L xs (k + 1) (n + 6) 846 [some (.inr 99), some (.inr 1), some (.inr 7), some (.inr 0), some (.inl i), y5, y6] [] M2) : tk_AL l L xs k n 359 [some (.inr 99), some (.inr 1), some (.inr 7), some (.inr 0), some (.inl i), x5, x6] [] M := by
  refine tk_goL tg_La_law (by omega) (by omega) 40 [846] ?_
  refine ⟨by omega, by omega, ⟨by omega, by omega⟩, ⟨by omega, by omega, ⟨by omega, by omega⟩, ?_⟩⟩
  obtain ⟨v, M1, M2, c1, c2, e1, h2⟩ := r_connect l hst h h0 hK (xs (i + 1).toNat).toInt (xs (i + 2).toNat).toInt
  refine ⟨(), tk_aHL c1 wh_connect lk_La_90 wst_La_connect wn_La tg_La_law rfl rfl rfl (by decide) (by decide) (by omega) (by omega) ?_⟩
  rintro v M1 ⟨rfl, rfl⟩
  refine tk_goL tg_La_law (by omega) (by omega) 40 [846] ?_
  refine ⟨by omega, by omega, ⟨by omega, by omega⟩, ⟨by omega, by omega, ⟨by omega, by omega⟩, ?_⟩⟩
  refine ⟨(), tk_aVL c2 wc_Mo_connect lk_La_93 wi_Mo_connect wsl_Mo_connect tg_La_law rfl rfl (by decide) rfl rfl rfl (by decide) (by decide) (by omega) (by omega) ?_ (fun x M9 hx => by cases hx.1)⟩
  rintro w M2 ⟨ew, rfl⟩ hro
  cases ew
  refine tk_goL tg_La_law (by omega) (by omega) 40 [846] ?_
  refine ⟨(), tk_aVL (k_Mo_thrown l _) wc_Mo_thrown lk_La_71 wi_Mo_thrown wsl_Mo_thrown tg_La_law rfl rfl (by decide) rfl rfl rfl (by decide) (by decide) (by omega) (by omega) ?_ (fun x M9 hx => by cases hx.1)⟩
  rintro w M2 ⟨ew, rfl⟩ hro
  cases ew
  refine tk_goL tg_La_law (by omega) (by omega) 40 [846] ?_
  refine ⟨fun _ => ⟨(), kk _ _ _ h2⟩, fun g => absurd e1 g⟩
set_option maxHeartbeats 2000000 in
set_option maxRecDepth 100000 in
theorem law_leave {l : Launch} {L : Nat} {xs : Nat → Int32} {k n : Nat} {i : Int} {x5 x6 : Option tk_U} {M : tk_M} {K : Int} (hst : l.stackTraces = false) (hk : k + 2 ≤ 661476) (hn : n + 12 ≤ 7111676) (hi : 0 ≤ i) (hi2 : i + 3 < (L : Int)) (hL : L ≤ 2048) (h : j_all M M K) (h0 : 0 ≤ K) (hK : K ≤ 9000000) (kk : ∀ (M2 : tk_M) (y5 y6 : Option tk_U), j_all M2 M2 (K + 2002) → tk_AL l L xs (k + 1) (n + 6) 846 [some (.inr 99), some (.inr 1), some (.inr 7), some (.inr 0), some (.inl i), y5, y6] [] M2) : tk_AL l L xs k n 494 [some (.inr 99), some (.inr 1), some (.inr 7), some (.inr 0), some (.inl i), x5, x6] [] M := by
  refine tk_goL tg_La_law (by omega) (by omega) 40 [846] ?_
  refine ⟨by omega, by omega, ⟨by omega, by omega⟩, ?_⟩
  obtain ⟨v, M1, M2, c1, c2, e1, h2⟩ := r_leave l hst h h0 hK (xs (i + 1).toNat).toInt
  refine ⟨(), tk_aHL c1 wh_leave lk_La_97 wst_La_leave wn_La tg_La_law rfl rfl rfl (by decide) (by decide) (by omega) (by omega) ?_⟩
  rintro v M1 ⟨rfl, rfl⟩
  refine tk_goL tg_La_law (by omega) (by omega) 40 [846] ?_
  refine ⟨by omega, by omega, ⟨by omega, by omega⟩, ?_⟩
  refine ⟨(), tk_aVL c2 wc_Mo_leave lk_La_100 wi_Mo_leave wsl_Mo_leave tg_La_law rfl rfl (by decide) rfl rfl rfl (by decide) (by decide) (by omega) (by omega) ?_ (fun x M9 hx => by cases hx.1)⟩
  rintro w M2 ⟨ew, rfl⟩ hro
  cases ew
  refine tk_goL tg_La_law (by omega) (by omega) 40 [846] ?_
  refine ⟨(), tk_aVL (k_Mo_thrown l _) wc_Mo_thrown lk_La_71 wi_Mo_thrown wsl_Mo_thrown tg_La_law rfl rfl (by decide) rfl rfl rfl (by decide) (by decide) (by omega) (by omega) ?_ (fun x M9 hx => by cases hx.1)⟩
  rintro w M2 ⟨ew, rfl⟩ hro
  cases ew
  refine tk_goL tg_La_law (by omega) (by omega) 40 [846] ?_
  refine ⟨fun _ => ⟨(), kk _ _ _ h2⟩, fun g => absurd e1 g⟩
set_option maxHeartbeats 2000000 in
set_option maxRecDepth 100000 in
theorem law_detect {l : Launch} {L : Nat} {xs : Nat → Int32} {k n : Nat} {i : Int} {x5 x6 : Option tk_U} {M : tk_M} {K : Int} (hst : l.stackTraces = false) (hk : k + 2 ≤ 661476) (hn : n + 12 ≤ 7111676) (hi : 0 ≤ i) (hi2 : i + 3 < (L : Int)) (hL : L ≤ 2048) (h : j_all M M K) (h0 : 0 ≤ K) (hK : K ≤ 9000000) (kk : ∀ (M2 : tk_M) (y5 y6 : Option tk_U), j_all M2 M2 (K + 2002) → tk_AL l L xs (k + 1) (n + 6) 846 [some (.inr 99), some (.inr 1), some (.inr 7), some (.inr 0), some (.inl i), y5, y6] [] M2) : tk_AL l L xs k n 295 [some (.inr 99), some (.inr 1), some (.inr 7), some (.inr 0), some (.inl i), x5, x6] [] M := by
  refine tk_goL tg_La_law (by omega) (by omega) 40 [846] ?_
  refine ⟨by omega, by omega, ⟨by omega, by omega⟩, ⟨by omega, by omega, ⟨by omega, by omega⟩, ?_⟩⟩
  refine ⟨fun hz => ?_, fun hz => ?_⟩
  · obtain ⟨v, M1, M2, c1, c2, e1, h2⟩ := r_detect l hst h h0 hK (xs (i + 1).toNat).toInt 0 (by omega)
    refine ⟨(), tk_aHL c1 wh_detect lk_La_86 wst_La_detect wn_La tg_La_law rfl rfl rfl (by decide) (by decide) (by omega) (by omega) ?_⟩
    rintro v M1 ⟨rfl, rfl⟩
    refine tk_goL tg_La_law (by omega) (by omega) 40 [846] ?_
    refine ⟨by omega, by omega, ⟨by omega, by omega⟩, ⟨by omega, by omega, ⟨by omega, by omega⟩, ?_⟩⟩
    refine ⟨fun _ => ?_, fun hz2 => absurd hz hz2⟩
    refine ⟨(), tk_aVL c2 wc_Mo_detect lk_La_89 wi_Mo_detect wsl_Mo_detect tg_La_law rfl rfl (by decide) rfl rfl rfl (by decide) (by decide) (by omega) (by omega) ?_ (fun x M9 hx => by cases hx.1)⟩
    rintro w M2 ⟨ew, rfl⟩ hro
    cases ew
    refine tk_goL tg_La_law (by omega) (by omega) 40 [846] ?_
    refine ⟨(), tk_aVL (k_Mo_thrown l _) wc_Mo_thrown lk_La_71 wi_Mo_thrown wsl_Mo_thrown tg_La_law rfl rfl (by decide) rfl rfl rfl (by decide) (by decide) (by omega) (by omega) ?_ (fun x M9 hx => by cases hx.1)⟩
    rintro w M2 ⟨ew, rfl⟩ hro
    cases ew
    refine tk_goL tg_La_law (by omega) (by omega) 40 [846] ?_
    refine ⟨fun _ => ⟨(), kk _ _ _ h2⟩, fun g => absurd e1 g⟩
  · obtain ⟨v, M1, M2, c1, c2, e1, h2⟩ := r_detect l hst h h0 hK (xs (i + 1).toNat).toInt 1 (by omega)
    refine ⟨(), tk_aHL c1 wh_detect lk_La_86 wst_La_detect wn_La tg_La_law rfl rfl rfl (by decide) (by decide) (by omega) (by omega) ?_⟩
    rintro v M1 ⟨rfl, rfl⟩
    refine tk_goL tg_La_law (by omega) (by omega) 40 [846] ?_
    refine ⟨by omega, by omega, ⟨by omega, by omega⟩, ⟨by omega, by omega, ⟨by omega, by omega⟩, ?_⟩⟩
    refine ⟨fun hz2 => absurd hz2 hz, fun _ => ?_⟩
    refine ⟨(), tk_aVL c2 wc_Mo_detect lk_La_89 wi_Mo_detect wsl_Mo_detect tg_La_law rfl rfl (by decide) rfl rfl rfl (by decide) (by decide) (by omega) (by omega) ?_ (fun x M9 hx => by cases hx.1)⟩
    rintro w M2 ⟨ew, rfl⟩ hro
    cases ew
    refine tk_goL tg_La_law (by omega) (by omega) 40 [846] ?_
    refine ⟨(), tk_aVL (k_Mo_thrown l _) wc_Mo_thrown lk_La_71 wi_Mo_thrown wsl_Mo_thrown tg_La_law rfl rfl (by decide) rfl rfl rfl (by decide) (by decide) (by omega) (by omega) ?_ (fun x M9 hx => by cases hx.1)⟩
    rintro w M2 ⟨ew, rfl⟩ hro
    cases ew
    refine tk_goL tg_La_law (by omega) (by omega) 40 [846] ?_
    refine ⟨fun _ => ⟨(), kk _ _ _ h2⟩, fun g => absurd e1 g⟩
set_option maxHeartbeats 2000000 in
set_option maxRecDepth 100000 in
theorem law_clear {l : Launch} {L : Nat} {xs : Nat → Int32} {k n : Nat} {i : Int} {x5 x6 : Option tk_U} {M : tk_M} {K : Int} (hk : k + 2 ≤ 661476) (hn : n + 12 ≤ 7111676) (h : j_all M M K) (kk : ∀ (M2 : tk_M) (y5 y6 : Option tk_U), j_all M2 M2 (K + 2002) → tk_AL l L xs (k + 1) (n + 6) 846 [some (.inr 99), some (.inr 1), some (.inr 7), some (.inr 0), some (.inl i), y5, y6] [] M2) : tk_AL l L xs k n 284 [some (.inr 99), some (.inr 1), some (.inr 7), some (.inr 0), some (.inl i), x5, x6] [] M := by
  obtain ⟨M1, M2, c1, c2, h2⟩ := r_clear l h
  refine tk_goL tg_La_law (by omega) (by omega) 40 [846] ?_
  refine ⟨(), tk_aVL c1 wc_TK_clear lk_La_82 wi_TK_clear wsl_TK_clear tg_La_law rfl rfl (by decide) rfl rfl rfl (by decide) (by decide) (by omega) (by omega) ?_ (fun x M9 hx => by cases hx.1)⟩
  rintro w M9 ⟨ew, rfl⟩ hro
  cases ew
  refine tk_goL tg_La_law (by omega) (by omega) 40 [846] ?_
  refine ⟨(), tk_aVL c2 wc_Mo_clear lk_La_85 wi_Mo_clear wsl_Mo_clear tg_La_law rfl rfl (by decide) rfl rfl rfl (by decide) (by decide) (by omega) (by omega) ?_ (fun x M9 hx => by cases hx.1)⟩
  rintro w M9 ⟨ew, rfl⟩ hro
  cases ew
  refine tk_goL tg_La_law (by omega) (by omega) 40 [846] ?_
  exact ⟨(), (kk _ _ _ h2).widen (by omega) (by omega)⟩
