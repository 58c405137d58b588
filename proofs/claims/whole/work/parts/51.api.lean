/-! CONTRACTS of the public calls -/
theorem f_in_0 (v a b : Int) : (f_in v a b = 0) = ¬ (a ≤ v ∧ v ≤ b) := propext ⟨fun h => by unfold f_in at h; split at h <;> first | omega | assumption, fun h => by unfold f_in; rw [if_neg h]⟩
section TKP
variable {l : Launch} {cc : ByteArray} {nL : Nat} {ret : Option FieldType} {nf nw : Nat} {P : (Option Int ⊕ Nat) → tk_M → Prop} {tab : List tk_E} {pc : Nat} {lo : tk_Lc} {st : List tk_V} {M : tk_M}
theorem ka_begun (hst : l.stackTraces = false) (htab : tk_good cc nL tab) (hd : tk_ia tab 1 = some (.invokevirtual 94, 1 + 3)) (hfr : 7 ≤ nf) (hlo : 93 ≤ nw) (h0 : M 1 3 = 0 → P (.inr 0) M) (h1 : ¬ M 1 3 = 0 → tk_At l "TrackKeeper" cc nL ret nf nw P 4 lo [] M) : tk_At l "TrackKeeper" cc nL ret nf nw P 1 lo [.inl (.inr 1)] M := by
  have con := k_TK_requireBegun l hst M
  refine tk_aV (k := 0) (ps := []) (st := []) con wc_TK_requireBegun lk_TK_94 wi_TK_requireBegun wsl_TK_requireBegun htab hd rfl (by decide) rfl rfl rfl (by omega) (show 0 + (1 + 11) + 81 ≤ nw by omega) ?_ ?_
  · rintro v' M' ⟨e1, rfl⟩ hro
    by_cases hb : M' 1 3 = 0
    · rw [if_pos hb] at e1; cases e1
    · rw [if_neg hb] at e1; cases e1; exact h1 hb
  · rintro x M' ⟨e1, rfl⟩
    by_cases hb : M' 1 3 = 0
    · rw [if_pos hb] at e1; cases e1; exact h0 hb
    · rw [if_neg hb] at e1; cases e1
theorem ka_conn (hst : l.stackTraces = false) (htab : tk_good cc nL tab) (hd : tk_ia tab pc = some (.invokevirtual 120, pc + 3)) (hfr : 7 ≤ nf) (hlo : 94 ≤ nw) {t : Nat} (ht : t < 8) (h0 : M (73 + t) 0 = 0 → P (.inr 3) M) (h1 : ¬ M (73 + t) 0 = 0 → tk_At l "TrackKeeper" cc nL ret nf nw P (pc + 3) lo [] M) : tk_At l "TrackKeeper" cc nL ret nf nw P pc lo [.inl (.inl (t : Int)), .inl (.inr 1)] M := by
  have con := k_TK_requireConnected l hst M t ht
  refine tk_aV (k := 0) (ps := [.inl (t : Int)]) (st := []) con wc_TK_requireConnected lk_TK_120 wi_TK_requireConnected wsl_TK_requireConnected htab hd rfl (by decide) rfl rfl rfl (by omega) (show 0 + (2 + 11) + 81 ≤ nw by omega) ?_ ?_
  · rintro v' M' ⟨e1, rfl⟩ hro
    by_cases hb : M' (73 + t) 0 = 0
    · rw [if_pos hb] at e1; cases e1
    · rw [if_neg hb] at e1; cases e1; exact h1 hb
  · rintro x M' ⟨e1, rfl⟩
    by_cases hb : M' (73 + t) 0 = 0
    · rw [if_pos hb] at e1; cases e1; exact h0 hb
    · rw [if_neg hb] at e1; cases e1
theorem ka_in {v a b : Int} (htab : tk_good cc nL tab) (hd : tk_ia tab pc = some (.invokestatic 53, pc + 3)) (hfr : 1 ≤ nf) (hlo : tk_sv st + 14 ≤ nw) (k : tk_At l "TrackKeeper" cc nL ret nf nw P (pc + 3) lo (.inl (.inl (f_in v a b)) :: st) M) : tk_At l "TrackKeeper" cc nL ret nf nw P pc lo (.inl (.inl b) :: .inl (.inl a) :: .inl (.inl v) :: st) M := by
  refine tk_aS (ps := [.inl v, .inl a, .inl b]) (st := st) (k_TK_isWithin l v a b M) wc_TK_isWithin lk_TK_53 wst_TK_isWithin wn_TK htab hd rfl rfl (by omega) (by omega) ?_ (fun x M' h => by cases h.1)
  rintro v' M' ⟨e1, rfl⟩ hro
  cases e1
  exact k
theorem ka_train {v : Int} (htab : tk_good cc nL tab) (hd : tk_ia tab pc = some (.invokestatic 113, pc + 3)) (hfr : 2 ≤ nf) (hlo : tk_sv st + 26 ≤ nw) (k : tk_At l "TrackKeeper" cc nL ret nf nw P (pc + 3) lo (.inl (.inl (f_in v 0 7)) :: st) M) : tk_At l "TrackKeeper" cc nL ret nf nw P pc lo (.inl (.inl v) :: st) M := by
  refine tk_aS (ps := [.inl v]) (st := st) (k_TK_isTrain l v M) wc_TK_isTrain lk_TK_113 wst_TK_isTrain wn_TK htab hd rfl rfl (by omega) (by omega) ?_ (fun x M' h => by cases h.1)
  rintro v' M' ⟨e1, rfl⟩ hro
  cases e1
  exact k
theorem ka_sec {v : Int} (h0 : 0 ≤ M 2 2) (htab : tk_good cc nL tab) (hd : tk_ia tab pc = some (.invokevirtual 97, pc + 3)) (hfr : 2 ≤ nf) (hlo : tk_sv st + 27 ≤ nw) (k : tk_At l "TrackKeeper" cc nL ret nf nw P (pc + 3) lo (.inl (.inl (f_in v 0 (M 2 2 - 1))) :: st) M) : tk_At l "TrackKeeper" cc nL ret nf nw P pc lo (.inl (.inl v) :: .inl (.inr 2) :: st) M := by
  refine tk_aV (k := 1) (ps := [.inl v]) (st := st) (k_Tr_hasSection l v M (by omega)) wc_Tr_hasSection lk_TK_97 wi_Tr_hasSection wsl_Tr_hasSection htab hd rfl (by decide) rfl rfl rfl (by omega) (show _ + (2 + 11) + 14 ≤ nw by omega) ?_ (fun x M' h => by cases h.1)
  rintro v' M' ⟨e1, rfl⟩ hro
  cases e1
  exact k
theorem ka_sub {v : Int} (h0 : 0 ≤ M 2 3) (htab : tk_good cc nL tab) (hd : tk_ia tab pc = some (.invokevirtual 137, pc + 3)) (hfr : 2 ≤ nf) (hlo : tk_sv st + 27 ≤ nw) (k : tk_At l "TrackKeeper" cc nL ret nf nw P (pc + 3) lo (.inl (.inl (f_in v 0 (M 2 3 - 1))) :: st) M) : tk_At l "TrackKeeper" cc nL ret nf nw P pc lo (.inl (.inl v) :: .inl (.inr 2) :: st) M := by
  refine tk_aV (k := 1) (ps := [.inl v]) (st := st) (k_Tr_hasSubsection l v M (by omega)) wc_Tr_hasSubsection lk_TK_137 wi_Tr_hasSubsection wsl_Tr_hasSubsection htab hd rfl (by decide) rfl rfl rfl (by omega) (show _ + (2 + 11) + 14 ≤ nw by omega) ?_ (fun x M' h => by cases h.1)
  rintro v' M' ⟨e1, rfl⟩ hro
  cases e1
  exact k
theorem ka_bare (h0 : 0 ≤ M 2 2) (h1 : M 2 2 ≤ 10) (htab : tk_good cc nL tab) (hd : tk_ia tab pc = some (.invokevirtual 34, pc + 3)) (hfr : 2 ≤ nf) (hlo : tk_sv st + 27 ≤ nw) (k : tk_At l "TrackKeeper" cc nL ret nf nw P (pc + 3) lo (.inl (.inl (f_bare M)) :: st) M) : tk_At l "TrackKeeper" cc nL ret nf nw P pc lo (.inl (.inr 2) :: st) M := by
  refine tk_aV (k := 1) (ps := []) (st := st) (k_Tr_latestIsBare l M h0 h1) wc_Tr_latestIsBare lk_TK_34 wi_Tr_latestIsBare wsl_Tr_latestIsBare htab hd rfl (by decide) rfl rfl rfl (by omega) (show _ + (1 + 11) + 0 ≤ nw by omega) ?_ (fun x M' h => by cases h.1)
  rintro v' M' ⟨e1, rfl⟩ hro
  cases e1
  exact k
theorem ka_anew (h : p_an M) (htab : tk_good cc nL tab) (hd : tk_ia tab pc = some (.invokevirtual 110, pc + 3)) (hfr : 5 ≤ nf) (hlo : tk_sv st + 70 ≤ nw) (k : tk_At l "TrackKeeper" cc nL ret nf nw P (pc + 3) lo st (f_all M)) : tk_At l "TrackKeeper" cc nL ret nf nw P pc lo (.inl (.inr 1) :: st) M := by
  refine tk_aV (k := 0) (ps := []) (st := st) (k_TK_findAllAnew l M h) wc_TK_findAllAnew lk_TK_110 wi_TK_findAllAnew wsl_TK_findAllAnew htab hd rfl (by decide) rfl rfl rfl (by omega) (show _ + (2 + 11) + 57 ≤ nw by omega) ?_ (fun x M' h => by cases h.1)
  rintro v' M' ⟨e1, rfl⟩ hro
  cases e1
  exact k
end TKP
/-- a call's end: what it answers, or which exception it throws, and the memory then -/
abbrev tk_Z : Type := (Option Int ⊕ Nat) × tk_M
def tk_z (z : tk_Z) : (Option Int ⊕ Nat) → tk_M → Prop := fun r M => r = z.1 ∧ M = z.2
theorem tk_z.i {z : tk_Z} {r : Option Int ⊕ Nat} {M : tk_M} (h : z = (r, M)) : tk_z z r M := by rw [h]; exact ⟨rfl, rfl⟩
theorem f_bare01 (M : tk_M) : f_bare M = 0 ∨ f_bare M = 1 := by unfold f_bare; split <;> simp
def c_section (M : tk_M) : tk_Z := if ¬ M 1 3 = 0 ∨ ¬ f_bare M = 0 then (.inr 0, M) else if 10 ≤ M 2 2 then (.inr 2, M) else (.inl (some (M 2 2)), f_adds M)
theorem k_TK_section (l : Launch) (hst : l.stackTraces = false) (M : tk_M) {K : Int} (hi : p_inv M K) : tk_C l y_TK_section 7 94 [.inr 1] M (tk_z (c_section M)) := by
  refine tk_C.of wc_TK_section rfl (Nat.le_of_ble_eq_true rfl) fun hr hM => ?_
  obtain ⟨t1, t2, t3, t4, t5, t6⟩ := hi.1
  have k17 : (¬ M 1 3 = 0 ∨ ¬ f_bare M = 0) → tk_At l "TrackKeeper" prog_1_method_2_code 1 (some .int) 7 94 (tk_z (c_section M)) 17 [some (.inr 1)] [] M := fun h => by
    exact tk_aN hst tn_TK_0 tg_TK_section rfl rfl rfl rfl (by decide) (by decide) (tk_z.i (by unfold c_section; rw [if_pos h]))
  refine tk_goA fo_TK co_TK tg_TK_section 40 [17] ?_
  repeat' first | refine And.intro ?_ ?_ | intro _
  all_goals try simp only [tk_c] at *
  all_goals first | omega | skip
  · rename_i h; exact ⟨(), k17 (Or.inl h)⟩
  · refine ⟨(), ka_bare t1 t2 tg_TK_section rfl (by decide) (by decide) ?_⟩
    generalize hbr : f_bare M = br at *
    refine tk_goA fo_TK co_TK tg_TK_section 40 [17] ?_
    repeat' first | refine And.intro ?_ ?_ | intro _
    all_goals try simp only [tk_c] at *
    all_goals first | omega | skip
    · refine ⟨(), ?_⟩
      have e9 : c_section M = (.inl (some (M 2 2)), f_adds M) := by unfold c_section; rw [hbr, if_neg (by omega), if_neg (by omega)]
      rw [e9]
      refine tk_aV (k := 1) (ps := []) (st := []) (k_Tr_addSection l M t1 (by omega) t3) wc_Tr_addSection lk_TK_48 wi_Tr_addSection wsl_Tr_addSection tg_TK_section rfl rfl (by decide) rfl rfl rfl (by decide) (Nat.le_of_ble_eq_true rfl) ?_ (fun x M' h => by cases h.1)
      rintro v' M' ⟨e1, rfl⟩ hro
      cases e1
      generalize M 2 2 = x
      refine tk_goA fo_TK co_TK tg_TK_section 40 [] ?_
      exact ⟨rfl, rfl⟩
    · exact ⟨(), tk_aN hst tn_TK_2 tg_TK_section rfl rfl rfl rfl (by decide) (by decide) (tk_z.i (by unfold c_section; rw [hbr, if_neg (by omega), if_pos (by omega)]))⟩
    · exact ⟨(), k17 (by omega)⟩
def c_sub (x : Int) (M : tk_M) : tk_Z := if ¬ (1 ≤ x ∧ x ≤ 100000) then (.inr 1, M) else if ¬ M 1 3 = 0 ∨ M 2 2 = 0 then (.inr 0, M) else if 32 ≤ M 2 3 then (.inr 2, M) else (.inl (some (M 2 3)), f_addu M x)
theorem k_TK_sub (l : Launch) (hst : l.stackTraces = false) (M : tk_M) (x : Int) {K : Int} (hi : p_inv M K) : tk_C l y_TK_sub 7 94 [.inr 1, .inl x] M (tk_z (c_sub x M)) := by
  refine tk_C.of wc_TK_sub rfl (Nat.le_of_ble_eq_true rfl) fun hr hM => ?_
  obtain ⟨t1, t2, t3, t4, t5, t6⟩ := hi.1
  obtain ⟨-, -, -, -, ⟨-, -, -, -, -, -, k7, k8⟩, -⟩ := id hi
  refine tk_goA fo_TK co_TK tg_TK_sub 40 [35] ?_
  refine ⟨(), ka_in tg_TK_sub rfl (by decide) (by decide) ?_⟩
  generalize hx : f_in x 1 100000 = y
  have hx0 := f_in_0 x 1 100000
  rw [hx] at hx0
  have k35 : (1 ≤ x ∧ x ≤ 100000) → (¬ M 1 3 = 0 ∨ M 2 2 = 0) → tk_At l "TrackKeeper" prog_1_method_3_code 2 (some .int) 7 94 (tk_z (c_sub x M)) 35 [some (.inr 1), some (.inl x)] [] M := fun h0 h => by
    exact tk_aN hst tn_TK_0 tg_TK_sub rfl rfl rfl rfl (by decide) (by decide) (tk_z.i (by unfold c_sub; rw [if_neg (by omega), if_pos h]))
  refine tk_goA fo_TK co_TK tg_TK_sub 40 [35] ?_
  repeat' first | refine And.intro ?_ ?_ | intro _
  all_goals try simp only [tk_c, hx0] at *
  all_goals first | omega | skip
  · exact ⟨(), k35 (by omega) (by omega)⟩
  · refine ⟨(), ?_⟩
    have e9 : c_sub x M = (.inl (some (M 2 3)), f_addu M x) := by unfold c_sub; rw [if_neg (by omega), if_neg (by omega), if_neg (by omega)]
    rw [e9]
    refine tk_aV (k := 1) (ps := [.inl x]) (st := []) (k_Tr_addSubsection l M x (by omega) t2 t3 (by omega) k7 (by omega) (by omega) (by omega)) wc_Tr_addSubsection lk_TK_63 wi_Tr_addSubsection wsl_Tr_addSubsection tg_TK_sub rfl rfl (by decide) rfl rfl rfl (by decide) (Nat.le_of_ble_eq_true rfl) ?_ (fun x M' h => by cases h.1)
    rintro v' M' ⟨e1, rfl⟩ hro
    cases e1
    generalize M 2 3 = x
    refine tk_goA fo_TK co_TK tg_TK_sub 40 [] ?_
    exact ⟨rfl, rfl⟩
  · exact ⟨(), tk_aN hst tn_TK_2 tg_TK_sub rfl rfl rfl rfl (by decide) (by decide) (tk_z.i (by unfold c_sub; rw [if_neg (by omega), if_neg (by omega), if_pos (by omega)]))⟩
  · exact ⟨(), k35 (by omega) (by omega)⟩
  · exact ⟨(), tk_aN hst tn_TK_1 tg_TK_sub rfl rfl rfl rfl (by decide) (by decide) (tk_z.i (by unfold c_sub; rw [if_pos (by omega)]))⟩
theorem k_TK_clear (l : Launch) (M : tk_M) : tk_C l y_TK_clear 7 94 [.inr 1] M (tk_z (.inl none, tk_up (tk_up (tk_up (tk_up M 2 2 0) 2 3 0) 2 4 0) 1 3 0)) := by
  refine tk_C.of wc_TK_clear rfl (Nat.le_of_ble_eq_true rfl) fun hr hM => ?_
  refine tk_goA fo_TK co_TK tg_TK_clear 40 [] ?_
  repeat' first | refine And.intro ?_ ?_ | intro _
  all_goals first | omega | skip
  refine ⟨(), tk_aV (k := 1) (ps := []) (st := []) (k_Tr_removeAll l M) wc_Tr_removeAll lk_TK_91 wi_Tr_removeAll wsl_Tr_removeAll tg_TK_clear rfl rfl (by decide) rfl rfl rfl (by decide) (Nat.le_of_ble_eq_true rfl) ?_ (fun x M' h => by cases h.1)⟩
  rintro v' M' ⟨e1, rfl⟩ hro
  cases e1
  refine tk_goA fo_TK co_TK tg_TK_clear 40 [] ?_
  repeat' first | refine And.intro ?_ ?_ | intro _
  all_goals first | omega | exact Or.inl rfl | rfl
def c_detect (s b : Int) (M : tk_M) : tk_Z := if M 1 3 = 0 then (.inr 0, M) else if ¬ (0 ≤ s ∧ s ≤ M 2 2 - 1) then (.inr 1, M) else (.inl none, f_all (tk_up M (31 + s.toNat) 2 b))
theorem k_TK_detect (l : Launch) (hst : l.stackTraces = false) (M : tk_M) (s b : Int) (hb : b = 0 ∨ b = 1) {K : Int} (hi : p_inv M K) (hK : K ≤ 10000000) (hq : ∀ s : Nat, (s : Int) < M 2 2 → ¬ M 1 3 = 0 → p_an (tk_up M (31 + s) 2 b)) : tk_C l y_TK_detect 7 94 [.inr 1, .inl s, .inl b] M (tk_z (c_detect s b M)) := by
  refine tk_C.of wc_TK_detect rfl (Nat.le_of_ble_eq_true rfl) fun hr hM => ?_
  obtain ⟨t1, t2, t3, t4, t5, t6⟩ := hi.1
  refine tk_goA fo_TK co_TK tg_TK_detect 40 [] ?_
  refine ⟨(), ka_begun hst tg_TK_detect rfl (by decide) (by decide) (fun h => tk_z.i (by unfold c_detect; rw [if_pos h])) fun hbg => ?_⟩
  refine tk_goA fo_TK co_TK tg_TK_detect 40 [] ?_
  repeat' first | refine And.intro ?_ ?_ | intro _
  all_goals first | omega | skip
  refine ⟨(), ka_sec t1 tg_TK_detect rfl (by decide) (by decide) ?_⟩
  generalize hx : f_in s 0 (M 2 2 - 1) = y
  have hx0 := f_in_0 s 0 (M 2 2 - 1)
  rw [hx] at hx0
  refine tk_goA fo_TK co_TK tg_TK_detect 40 [] ?_
  repeat' first | refine And.intro ?_ ?_ | intro _
  all_goals try simp only [tk_c, hx0] at *
  all_goals first | omega | skip
  · have h9 := hq s.toNat (by omega) hbg
    have e9 : c_detect s b M = (.inl none, f_all (tk_up M (31 + s.toNat) 2 b)) := by unfold c_detect; rw [if_neg hbg, if_neg (by omega)]
    rw [e9]
    refine ⟨(), ka_anew h9 tg_TK_detect rfl (by decide) (by decide) ?_⟩
    refine tk_goA fo_TK co_TK tg_TK_detect 40 [] ?_
    exact ⟨rfl, rfl⟩
  · exact ⟨(), tk_aN hst tn_TK_1 tg_TK_detect rfl rfl rfl rfl (by decide) (by decide) (tk_z.i (by unfold c_detect; rw [if_neg hbg, if_pos (by omega)]))⟩
def f_join (M : tk_M) (t : Nat) (x : Int) : tk_M := tk_up (tk_up (tk_up (tk_up M (73 + t) 0 1) (73 + t) 1 x) (73 + t) 2 0) (73 + t) 7 0
def c_connect (t x : Int) (M : tk_M) : tk_Z := if M 1 3 = 0 then (.inr 0, M) else if ¬ (0 ≤ t ∧ t ≤ 7) ∨ ¬ (1 ≤ x ∧ x ≤ 100000) then (.inr 1, M) else (.inl none, f_all (f_join M t.toNat x))
theorem k_TK_connect (l : Launch) (hst : l.stackTraces = false) (M : tk_M) (t x : Int) (hq : ∀ t : Nat, t < 8 → 1 ≤ x → ¬ M 1 3 = 0 → p_an (f_join M t x)) : tk_C l y_TK_connect 7 94 [.inr 1, .inl t, .inl x] M (tk_z (c_connect t x M)) := by
  refine tk_C.of wc_TK_connect rfl (Nat.le_of_ble_eq_true rfl) fun hr hM => ?_
  refine tk_goA fo_TK co_TK tg_TK_connect 40 [] ?_
  refine ⟨(), ka_begun hst tg_TK_connect rfl (by decide) (by decide) (fun h => tk_z.i (by unfold c_connect; rw [if_pos h])) fun hbg => ?_⟩
  have k21 : (¬ (0 ≤ t ∧ t ≤ 7) ∨ ¬ (1 ≤ x ∧ x ≤ 100000)) → tk_At l "TrackKeeper" prog_1_method_7_code 3 none 7 94 (tk_z (c_connect t x M)) 21 [some (.inr 1), some (.inl t), some (.inl x)] [] M := fun h => by
    exact tk_aN hst tn_TK_1 tg_TK_connect rfl rfl rfl rfl (by decide) (by decide) (tk_z.i (by unfold c_connect; rw [if_neg hbg, if_pos h]))
  refine tk_goA fo_TK co_TK tg_TK_connect 40 [21] ?_
  refine ⟨(), ka_train tg_TK_connect rfl (by decide) (by decide) ?_⟩
  generalize hx : f_in t 0 7 = y
  have hx0 := f_in_0 t 0 7
  rw [hx] at hx0
  refine tk_goA fo_TK co_TK tg_TK_connect 40 [21] ?_
  repeat' first | refine And.intro ?_ ?_ | intro _
  all_goals try simp only [tk_c, hx0] at *
  all_goals first | omega | skip
  · exact ⟨(), k21 (by omega)⟩
  refine ⟨(), ka_in tg_TK_connect rfl (by decide) (by decide) ?_⟩
  generalize hz : f_in x 1 100000 = z
  have hz0 := f_in_0 x 1 100000
  rw [hz] at hz0
  refine tk_goA fo_TK co_TK tg_TK_connect 40 [21] ?_
  repeat' first | refine And.intro ?_ ?_ | intro _
  all_goals try simp only [tk_c, hz0] at *
  all_goals first | omega | skip
  · have e9 : c_connect t x M = (.inl none, f_all (f_join M t.toNat x)) := by unfold c_connect; rw [if_neg hbg, if_neg (by omega)]
    rw [e9]
    refine ⟨(), tk_aV (k := 5) (k_Ti_join l t.toNat (by omega) x M) wc_Ti_join lk_TK_116 wi_Ti_join wsl_Ti_join tg_TK_connect rfl rfl (show _ < 81 by omega) (tk_shT (by omega)) rfl rfl (by decide) (Nat.le_of_ble_eq_true rfl) ?_ (fun x M' h => by cases h.1)⟩
    rintro v' M' ⟨e1, rfl⟩ hro
    cases e1
    have h9 := hq t.toNat (by omega) (by omega) hbg
    have ef : f_join M t.toNat x = tk_up (tk_up (tk_up (tk_up M (73 + t.toNat) 0 1) (73 + t.toNat) 1 x) (73 + t.toNat) 2 0) (73 + t.toNat) 7 0 := rfl
    rw [← ef]
    generalize f_join M t.toNat x = N at *
    refine tk_goA fo_TK co_TK tg_TK_connect 40 [21] ?_
    refine ⟨(), ka_anew h9 tg_TK_connect rfl (by decide) (by decide) ?_⟩
    refine tk_goA fo_TK co_TK tg_TK_connect 40 [] ?_
    exact ⟨rfl, rfl⟩
  · exact ⟨(), k21 (by omega)⟩
