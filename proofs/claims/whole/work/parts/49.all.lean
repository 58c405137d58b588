/-! CONTRACTS: a report taken in; the track built; all found anew -/
theorem fo_0 (own : String) : tk_flok own [] := fun q hq => by cases hq
theorem co_0 (own : String) : tk_csok own [] := fun q hq => by cases hq
set_option maxRecDepth 100000 in
theorem wc_max : Cond.code Lib.Math.max.name Lib.Math.max.code 2 (some .int) ∈ tk_tbl := tk_mw 497 rfl rfl
set_option maxRecDepth 100000 in
theorem wst_max : Cond.static Lib.Math.max.name ∈ tk_tbl := tk_mw 496 rfl rfl
set_option maxRecDepth 100000 in
theorem wn_max : Cond.initialized Lib.Math.max.name.cls ∈ tk_tbl := tk_mw 41 rfl rfl
set_option maxRecDepth 100000 in
theorem wl_max : Cond.methodLink "TrackKeeper$Train" 37 Lib.Math.max.name ∈ tk_tbl := tk_mw 495 rfl rfl
def f_max (a b : Int) : Int := if a < b then b else a
/-- the greater of two numbers -/
theorem tk_aMax {l : Launch} {cc : ByteArray} {nL : Nat} {ret : Option FieldType} {nf nw : Nat} {P : (Option Int ⊕ Nat) → tk_M → Prop} {tab : List tk_E} {pc : Nat} {lo : tk_Lc} {st : List tk_V} {M : tk_M} {a b : Int} (htab : tk_good cc nL tab) (hd : tk_ia tab pc = some (.invokestatic 37, pc + 3)) (hfr : 1 ≤ nf) (hlo : tk_sv st + 13 ≤ nw)
    (k : tk_At l "TrackKeeper$Train" cc nL ret nf nw P (pc + 3) lo (.inl (.inl (f_max a b)) :: st) M) : tk_At l "TrackKeeper$Train" cc nL ret nf nw P pc lo (.inl (.inl b) :: .inl (.inl a) :: st) M := by
  intro p e R s m args below meth c G A B H locs ls hW hS hl hr
  obtain ⟨hF, X, h1, h2, h3, h4, hlocks, hret, het⟩ := id B
  obtain ⟨hx, hb, hml, hown, hts, hKn, hSt, hA, -⟩ := id X
  have rb : -2147483648 ≤ b ∧ b < 2147483648 := hr (.inl (.inl b)) (by simp)
  have ra : -2147483648 ≤ a ∧ a < 2147483648 := hr (.inl (.inl a)) (by simp)
  have rr : tk_rs st := fun v hv => hr v (by simp [hv])
  have e1 : (if Int32.ofInt a < Int32.ofInt b then Int32.ofInt b else Int32.ofInt a) = Int32.ofInt (f_max a b) := by
    unfold f_max
    by_cases h : a < b
    · rw [if_pos h, if_pos ((tk_ltI ra rb).mpr h)]
    · rw [if_neg h, if_neg (fun z => h ((tk_ltI ra rb).mp z))]
  have rm : -2147483648 ≤ f_max a b ∧ f_max a b < 2147483648 := by
    unfold f_max; split <;> omega
  refine va_mmax (x := Int32.ofInt a) (y := Int32.ofInt b) hx hb (by rw [hml, hl.2.1.1]) hown (hts _ wl_max) (hts _ wst_max) (hts _ wn_max) (hts _ wc_max) (by omega) (by rw [tk_sv_eq]; omega) (by omega) (by omega) (tk_dec3 htab hd) ?_
  rw [e1]
  exact k p e R s m args below meth c G A B H locs ls hW hS hl (tk_rs.cons (v := .inl (.inl (f_max a b))) rm rr)
def f_tk1 (M : tk_M) (t : Nat) (pl it : Int) : tk_M := if M (73 + t) 2 = 0 ∨ it = 1 then tk_up M (73 + t) 6 (f_at M (f_max 0 (pl - M (73 + t) 1)) (M 2 3 - 1).toNat) else M
def f_tk2 (M : tk_M) (t : Nat) (pl it tm : Int) : tk_M := tk_up (tk_up (tk_up (tk_up M (73 + t) 4 pl) (73 + t) 5 (f_at (tk_up M (73 + t) 4 pl) pl (M 2 3 - 1).toNat)) (73 + t) 2 1) (73 + t) 3 tm
def f_tk3 (M : tk_M) (t : Nat) (it tm : Int) : tk_M := if it = 1 then tk_up (tk_up M (73 + t) 7 1) (73 + t) 8 tm else if it = 2 then tk_up M (73 + t) 7 0 else M
def f_take (M : tk_M) (t : Nat) (pl it tm : Int) : tk_M := f_tk3 (f_tk2 (f_tk1 M t pl it) t pl it tm) t it tm
theorem k_Ti_take2 (l : Launch) (t : Nat) (ht : t < 8) (pl it tm : Int) (M : tk_M) (h1 : 1 ≤ M 2 3) (h2 : M 2 3 ≤ 32) : tk_At l "TrackKeeper$Train" prog_6_method_5_code 5 none 1 15 (fun r M' => r = .inl none ∧ M' = f_tk3 (f_tk2 M t pl it tm) t it tm) 31 [some (.inr (73 + t)), some (.inl pl), some (.inl it), some (.inl tm), some (.inr 2)] [] M := by
  refine tk_goA fo_Ti co_Ti tg_Ti_take 40 [] ?_
  repeat' first | refine And.intro ?_ ?_ | intro _
  all_goals first | omega | skip
  have e23 : tk_up M (73 + t) 4 pl 2 3 = M 2 3 := tk_up_c _ _ _ _ (by omega) _
  refine ⟨(), tk_aV (k := 1) (k_Tr_subsectionAt l (tk_up M (73 + t) 4 pl) pl (by rw [e23]; exact h1) (by rw [e23]; exact h2)) wc_Tr_subsectionAt lk_Ti_43 wi_Tr_subsectionAt wsl_Tr_subsectionAt tg_Ti_take rfl rfl (by decide) rfl rfl rfl (by decide) (Nat.le_of_ble_eq_true rfl) ?_ (fun x M' h => by cases h.1)⟩
  rintro v' M' ⟨h1, rfl⟩ hro
  cases h1
  rw [e23]
  have e9 : f_tk2 M t pl it tm = tk_up (tk_up (tk_up (tk_up M (73 + t) 4 pl) (73 + t) 5 (f_at (tk_up M (73 + t) 4 pl) pl (M 2 3 - 1).toNat)) (73 + t) 2 1) (73 + t) 3 tm := rfl
  rw [e9]
  generalize f_at (tk_up M (73 + t) 4 pl) pl (M 2 3 - 1).toNat = g
  refine tk_goA fo_Ti co_Ti tg_Ti_take 40 [] ?_
  repeat' first | refine And.intro ?_ ?_ | intro _
  all_goals first | rfl | exact Or.inl rfl | exact Or.inr rfl | skip
  all_goals try simp only [tk_c] at *
  all_goals first | omega | skip
  all_goals unfold f_tk3
  · rw [if_neg (by omega), if_neg (by omega)]
  · rw [if_neg (by omega), if_pos (by omega)]
  · rw [if_pos (by omega)]
theorem k_Ti_take (l : Launch) (t : Nat) (ht : t < 8) (pl it tm : Int) (M : tk_M) (h1 : 1 ≤ M 2 3) (h2 : M 2 3 ≤ 32) (h3 : 0 ≤ pl) (h4 : 0 ≤ M (73 + t) 1) : tk_C l y_Ti_take 1 15 [.inr (73 + t), .inl pl, .inl it, .inl tm, .inr 2] M (fun r M' => r = .inl none ∧ M' = f_take M t pl it tm) := by
  refine tk_C.of wc_Ti_take rfl (Nat.le_of_ble_eq_true rfl) fun hr hM => ?_
  have hpl := hr (.inl pl) (by simp)
  simp only [tk_ru] at hpl
  have hlast : ∀ N : tk_M, f_tk1 M t pl it = N → N 2 3 = M 2 3 → tk_At l "TrackKeeper$Train" prog_6_method_5_code 5 none 1 15 (fun r M' => r = .inl none ∧ M' = f_take M t pl it tm) 31 [some (.inr (73 + t)), some (.inl pl), some (.inl it), some (.inl tm), some (.inr 2)] [] N := fun N hN e => by
    have h := k_Ti_take2 l t ht pl it tm N (by omega) (by omega)
    have e9 : f_take M t pl it tm = f_tk3 (f_tk2 N t pl it tm) t it tm := by unfold f_take; rw [hN]
    rw [e9]
    exact h
  refine tk_goA fo_Ti co_Ti tg_Ti_take 40 [12, 31] ?_
  have key : (M (73 + t) 2 = 0 ∨ it = 1) → tk_At l "TrackKeeper$Train" prog_6_method_5_code 5 none 1 15 (fun r M' => r = .inl none ∧ M' = f_take M t pl it tm) 12 [some (.inr (73 + t)), some (.inl pl), some (.inl it), some (.inl tm), some (.inr 2)] [] M := fun hc => by
    refine tk_goA fo_Ti co_Ti tg_Ti_take 40 [31] ?_
    repeat' first | refine And.intro ?_ ?_ | intro _
    all_goals first | omega | skip
    refine ⟨(), tk_aMax tg_Ti_take rfl (by decide) (Nat.le_of_ble_eq_true rfl) ?_⟩
    refine tk_aV (k := 1) (k_Tr_subsectionAt l M (f_max 0 (pl - M (73 + t) 1)) (by omega) (by omega)) wc_Tr_subsectionAt lk_Ti_43 wi_Tr_subsectionAt wsl_Tr_subsectionAt tg_Ti_take rfl rfl (by decide) rfl rfl rfl (by decide) (Nat.le_of_ble_eq_true rfl) ?_ (fun x M' h => by cases h.1)
    rintro v' M' ⟨h1, rfl⟩ hro
    cases h1
    have e9 : f_tk1 M' t pl it = tk_up M' (73 + t) 6 (f_at M' (f_max 0 (pl - M' (73 + t) 1)) (M' 2 3 - 1).toNat) := by
      unfold f_tk1
      rw [if_pos hc]
    have h9 := hlast _ e9 (tk_up_c _ _ _ _ (by omega) _)
    generalize f_at M' (f_max 0 (pl - M' (73 + t) 1)) (M' 2 3 - 1).toNat = g at *
    refine tk_goA fo_Ti co_Ti tg_Ti_take 40 [31] ?_
    repeat' first | refine And.intro ?_ ?_ | intro _
    all_goals first | omega | skip
    exact ⟨(), h9⟩
  repeat' first | refine And.intro ?_ ?_ | intro _
  all_goals first | rfl | skip
  all_goals try simp only [tk_c] at *
  all_goals first | omega | skip
  · exact ⟨(), key (by omega)⟩
  · exact ⟨(), hlast M (by unfold f_tk1; rw [if_neg (by omega)]) rfl⟩
  · exact ⟨(), key (by omega)⟩
def f_adds (M : tk_M) : tk_M := tk_up (tk_up (tk_up M (31 + (M 2 2).toNat) 0 (M 2 3)) (31 + (M 2 2).toNat) 1 (M 2 3 - 1)) 2 2 (M 2 2 + 1)
theorem k_Tr_addSection (l : Launch) (M : tk_M) (h0 : 0 ≤ M 2 2) (h1 : M 2 2 < 10) (h2 : 0 ≤ M 2 3) : tk_C l y_Tr_addSection 0 0 [.inr 2] M (fun r M' => r = .inl (some (M 2 2)) ∧ M' = f_adds M) := by
  refine tk_C.of wc_Tr_addSection rfl (Nat.le_of_ble_eq_true rfl) fun hr hM => ?_
  have u : ∀ (c j : Nat) (v : Int), 31 ≤ c → ∀ k, tk_up M c j v 2 k = M 2 k := fun c j v hc k => tk_up_c _ _ _ _ (by omega) _
  have u2 : ∀ (c j : Nat) (v : Int) (c' j' : Nat) (v' : Int), 31 ≤ c → 31 ≤ c' → ∀ k, tk_up (tk_up M c j v) c' j' v' 2 k = M 2 k := fun c j v c' j' v' hc hc' k => by rw [tk_up_c _ _ _ _ (by omega), tk_up_c _ _ _ _ (by omega)]
  refine tk_goA fo_Tr co_Tr tg_Tr_addSection 60 [] ?_
  repeat' first | refine And.intro ?_ ?_ | intro _
  all_goals try simp only [u _ _ _ (Nat.le_add_right 31 _), u2 _ _ _ _ _ _ (Nat.le_add_right 31 _) (Nat.le_add_right 31 _), tk_up_s] at *
  all_goals first | omega | rfl | skip
  · congr 2
    omega
def f_addu (M : tk_M) (x : Int) : tk_M := tk_up (tk_up (tk_up (tk_up (tk_up M (41 + (M 2 3).toNat) 0 (M 2 2 - 1)) (41 + (M 2 3).toNat) 1 (M 2 4)) (31 + (M 2 2 - 1).toNat) 1 (M 2 3)) 2 4 (M 2 4 + x)) 2 3 (M 2 3 + 1)
theorem k_Tr_addSubsection (l : Launch) (M : tk_M) (x : Int) (h0 : 1 ≤ M 2 2) (h1 : M 2 2 ≤ 10) (h2 : 0 ≤ M 2 3) (h3 : M 2 3 < 32) (h4 : 0 ≤ M 2 4) (h5 : M 2 4 ≤ 3200000) (h6 : 0 ≤ x) (h7 : x ≤ 100000) : tk_C l y_Tr_addSubsection 0 0 [.inr 2, .inl x] M (fun r M' => r = .inl (some (M 2 3)) ∧ M' = f_addu M x) := by
  refine tk_C.of wc_Tr_addSubsection rfl (Nat.le_of_ble_eq_true rfl) fun hr hM => ?_
  have u : ∀ (c j : Nat) (v : Int), 31 ≤ c → ∀ k, tk_up M c j v 2 k = M 2 k := fun c j v hc k => tk_up_c _ _ _ _ (by omega) _
  have u2 : ∀ (c j : Nat) (v : Int) (c' j' : Nat) (v' : Int), 31 ≤ c → 31 ≤ c' → ∀ k, tk_up (tk_up M c j v) c' j' v' 2 k = M 2 k := fun c j v c' j' v' hc hc' k => by rw [tk_up_c _ _ _ _ (by omega), tk_up_c _ _ _ _ (by omega)]
  have u3 : ∀ (c j : Nat) (v : Int) (c' j' : Nat) (v' : Int) (c2 j2 : Nat) (v2 : Int), 31 ≤ c → 31 ≤ c' → 31 ≤ c2 → ∀ k, tk_up (tk_up (tk_up M c j v) c' j' v') c2 j2 v2 2 k = M 2 k := fun c j v c' j' v' c2 j2 v2 hc hc' h2 k => by rw [tk_up_c _ _ _ _ (by omega), tk_up_c _ _ _ _ (by omega), tk_up_c _ _ _ _ (by omega)]
  have u4 : ∀ (N : tk_M) (v : Int), tk_up N 2 4 v 2 3 = N 2 3 := fun N v => tk_up_j _ _ _ _ (by decide)
  refine tk_goA fo_Tr co_Tr tg_Tr_addSubsection 80 [] ?_
  repeat' first | refine And.intro ?_ ?_ | intro _
  all_goals try simp only [u _ _ _ (Nat.le_trans (by decide) (Nat.le_add_right 41 _)), u2 _ _ _ _ _ _ (Nat.le_trans (by decide) (Nat.le_add_right 41 _)) (Nat.le_trans (by decide) (Nat.le_add_right 41 _)), u3 _ _ _ _ _ _ _ _ _ (Nat.le_trans (by decide) (Nat.le_add_right 41 _)) (Nat.le_trans (by decide) (Nat.le_add_right 41 _)) (Nat.le_add_right 31 _), u4, tk_up_s] at *
  all_goals first | omega | rfl | skip
  · congr 2
    omega
theorem k_TK_requireConnected (l : Launch) (hst : l.stackTraces = false) (M : tk_M) (t : Nat) (ht : t < 8) : tk_C l y_TK_requireConnected 6 81 [.inr 1, .inl (t : Int)] M (fun r M' => r = (if M (73 + t) 0 = 0 then .inr 3 else .inl none) ∧ M' = M) := by
  refine tk_C.of wc_TK_requireConnected rfl (Nat.le_of_ble_eq_true rfl) fun hr hM => ?_
  refine tk_goA fo_TK co_TK tg_TK_requireConnected 20 [] ?_
  repeat' first | refine And.intro ?_ ?_ | intro _
  all_goals try simp only [tk_c, Int.toNat_natCast] at *
  all_goals first | omega | rfl | skip
  · rename_i h
    rw [if_neg h]
  · rename_i h
    exact ⟨(), tk_aN hst tn_TK_3 tg_TK_requireConnected rfl rfl rfl rfl (by decide) (by decide) ⟨by rw [if_pos (Classical.not_not.mp h)], rfl⟩⟩
def g_j (M : tk_M) (n : Nat) : tk_M := fun c k => if 73 ≤ c ∧ c < 73 + n ∧ k = 9 then f_loc M c (M 1 7) (M 1 4) else if 73 ≤ c ∧ c < 73 + n ∧ k = 10 then f_who M c (M 1 7) (M 1 4) (M 1 5) else M c k
theorem g_j_o {M : tk_M} {n c k : Nat} (h : ¬ (73 ≤ c ∧ c < 73 + n ∧ (k = 9 ∨ k = 10))) : g_j M n c k = M c k := by
  unfold g_j
  rw [if_neg (by omega), if_neg (by omega)]
theorem g_j_0 (M : tk_M) : g_j M 0 = M := by
  funext c k
  exact g_j_o (by omega)
theorem g_j_s (M : tk_M) (n : Nat) : tk_up (tk_up (g_j M n) (73 + n) 9 (f_loc (g_j M n) (73 + n) (M 1 7) (M 1 4))) (73 + n) 10 (f_who (g_j M n) (73 + n) (M 1 7) (M 1 4) (M 1 5)) = g_j M (n + 1) := by
  have e : ∀ k, k ≠ 9 → k ≠ 10 → g_j M n (73 + n) k = M (73 + n) k := fun k h1 h2 => g_j_o (by omega)
  have e1 : f_loc (g_j M n) (73 + n) (M 1 7) (M 1 4) = f_loc M (73 + n) (M 1 7) (M 1 4) := by
    unfold f_loc
    rw [e 0 (by decide) (by decide), e 2 (by decide) (by decide), e 3 (by decide) (by decide)]
  have e2 : f_who (g_j M n) (73 + n) (M 1 7) (M 1 4) (M 1 5) = f_who M (73 + n) (M 1 7) (M 1 4) (M 1 5) := by
    unfold f_who
    rw [e 0 (by decide) (by decide), e 2 (by decide) (by decide), e 3 (by decide) (by decide), e 7 (by decide) (by decide), e 8 (by decide) (by decide)]
  rw [e1, e2]
  funext c k
  by_cases h : c = 73 + n ∧ (k = 9 ∨ k = 10)
  · obtain ⟨rfl, rfl | rfl⟩ := h
    · rw [tk_up_n (by omega), tk_up_s]
      unfold g_j
      rw [if_pos (by omega)]
    · rw [tk_up_s]
      unfold g_j
      rw [if_neg (by omega), if_pos (by omega)]
  · rw [tk_up_n (by omega), tk_up_n (by omega)]
    unfold g_j
    (repeat' split) <;> first | rfl | omega
