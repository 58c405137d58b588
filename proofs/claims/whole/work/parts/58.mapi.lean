/-! THE REFERENCE: its public calls -/
section TKQ
variable {l : Launch} {cc : ByteArray} {nL : Nat} {ret : Option FieldType} {nf nw : Nat} {P : (Option Int ⊕ Nat) → tk_M → Prop} {tab : List tk_E} {pc : Nat} {lo : tk_Lc} {st : List tk_V} {M : tk_M}
theorem ma_f0 {x : Int} (h : M 7 0 = 0) (htab : tk_good cc nL tab) (hd : tk_ia tab pc = some (.invokevirtual 98, pc + 3)) (hfr : 1 ≤ nf) (hlo : tk_sv st + 14 ≤ nw) (k : tk_At l "TrackKeeperModel" cc nL ret nf nw P (pc + 3) lo (.inl (.inl 0) :: st) M) : tk_At l "TrackKeeperModel" cc nL ret nf nw P pc lo (.inl (.inl x) :: .inl (.inl 0) :: .inl (.inr 7) :: st) M := by
  refine tk_aV (k := 6) (ps := [.inl 0, .inl x]) (st := st) (k_Mo_fails0 l M x h) wc_Mo_fails lk_Mo_98 wi_Mo_fails wsl_Mo_fails htab hd rfl (by decide) rfl rfl rfl (by omega) (show _ + (3 + 11) + 0 ≤ nw by omega) ?_ (fun x M' h => by cases h.1)
  rintro v' M' ⟨e1, rfl⟩ hro
  cases e1
  exact k
theorem ma_f1 {x : Int} (h : M 7 0 = 0) (hx : ¬ x = 0) (htab : tk_good cc nL tab) (hd : tk_ia tab pc = some (.invokevirtual 98, pc + 3)) (hfr : 1 ≤ nf) (hlo : tk_sv st + 14 ≤ nw) (k : tk_At l "TrackKeeperModel" cc nL ret nf nw P (pc + 3) lo (.inl (.inl 1) :: st) (tk_up M 7 0 x)) : tk_At l "TrackKeeperModel" cc nL ret nf nw P pc lo (.inl (.inl x) :: .inl (.inl 1) :: .inl (.inr 7) :: st) M := by
  refine tk_aV (k := 6) (ps := [.inl 1, .inl x]) (st := st) (k_Mo_fails1 l M x h hx) wc_Mo_fails lk_Mo_98 wi_Mo_fails wsl_Mo_fails htab hd rfl (by decide) rfl rfl rfl (by omega) (show _ + (3 + 11) + 0 ≤ nw by omega) ?_ (fun x M' h => by cases h.1)
  rintro v' M' ⟨e1, rfl⟩ hro
  cases e1
  exact k
theorem ma_in {v a b : Int} (htab : tk_good cc nL tab) (hd : tk_ia tab pc = some (.invokestatic 103, pc + 3)) (hfr : 1 ≤ nf) (hlo : tk_sv st + 14 ≤ nw) (k : tk_At l "TrackKeeperModel" cc nL ret nf nw P (pc + 3) lo (.inl (.inl (f_in v a b)) :: st) M) : tk_At l "TrackKeeperModel" cc nL ret nf nw P pc lo (.inl (.inl b) :: .inl (.inl a) :: .inl (.inl v) :: st) M := by
  refine tk_aS (ps := [.inl v, .inl a, .inl b]) (st := st) (k_Mo_in l v a b M) wc_Mo_in lk_Mo_103 wst_Mo_in wn_Mo htab hd rfl rfl (by omega) (by omega) ?_ (fun x M' h => by cases h.1)
  rintro v' M' ⟨e1, rfl⟩ hro
  cases e1
  exact k
theorem ma_wait (h : M 7 1 ≤ 10) (htab : tk_good cc nL tab) (hd : tk_ia tab pc = some (.invokevirtual 94, pc + 3)) (hfr : 1 ≤ nf) (hlo : tk_sv st + 12 ≤ nw) (k : tk_At l "TrackKeeperModel" cc nL ret nf nw P (pc + 3) lo (.inl (.inl (f_wait M)) :: st) M) : tk_At l "TrackKeeperModel" cc nL ret nf nw P pc lo (.inl (.inr 7) :: st) M := by
  refine tk_aV (k := 6) (ps := []) (st := st) (k_Mo_isWaiting l M h) wc_Mo_isWaiting lk_Mo_94 wi_Mo_isWaiting wsl_Mo_isWaiting htab hd rfl (by decide) rfl rfl rfl (by omega) (show _ + (1 + 11) + 0 ≤ nw by omega) ?_ (fun x M' h => by cases h.1)
  rintro v' M' ⟨e1, rfl⟩ hro
  cases e1
  exact k
theorem ma_reset (htab : tk_good cc nL tab) (hd : tk_ia tab pc = some (.invokevirtual 119, pc + 3)) (hfr : 1 ≤ nf) (hlo : tk_sv st + 13 ≤ nw) (k : tk_At l "TrackKeeperModel" cc nL ret nf nw P (pc + 3) lo st (m_reset M)) : tk_At l "TrackKeeperModel" cc nL ret nf nw P pc lo (.inl (.inr 7) :: st) M := by
  refine tk_aV (k := 6) (ps := []) (st := st) (k_Mo_reset l M) wc_Mo_reset lk_Mo_119 wi_Mo_reset wsl_Mo_reset htab hd rfl (by decide) rfl rfl rfl (by omega) (show _ + (2 + 11) + 0 ≤ nw by omega) ?_ (fun x M' h => by cases h.1)
  rintro v' M' ⟨e1, rfl⟩ hro
  cases e1
  exact k
theorem ma_settle (h : q_fi M) (htab : tk_good cc nL tab) (hd : tk_ia tab pc = some (.invokevirtual 166, pc + 3)) (hfr : 5 ≤ nf) (hlo : tk_sv st + 73 ≤ nw) (k : tk_At l "TrackKeeperModel" cc nL ret nf nw P (pc + 3) lo st (m_set M)) : tk_At l "TrackKeeperModel" cc nL ret nf nw P pc lo (.inl (.inr 7) :: st) M := by
  refine tk_aV (k := 6) (ps := []) (st := st) (k_Mo_settle l M h) wc_Mo_settle lk_Mo_166 wi_Mo_settle wsl_Mo_settle htab hd rfl (by decide) rfl rfl rfl (by omega) (show _ + (2 + 11) + 60 ≤ nw by omega) ?_ (fun x M' h => by cases h.1)
  rintro v' M' ⟨e1, rfl⟩ hro
  cases e1
  exact k
theorem ma_loc {t : Nat} (ht : t < 8) (h : q_tm M) (htab : tk_good cc nL tab) (hd : tk_ia tab pc = some (.invokevirtual 134, pc + 3)) (hfr : 1 ≤ nf) (hlo : tk_sv st + 13 ≤ nw) (k : tk_At l "TrackKeeperModel" cc nL ret nf nw P (pc + 3) lo (.inl (.inl (m_loc M t)) :: st) M) : tk_At l "TrackKeeperModel" cc nL ret nf nw P pc lo (.inl (.inl (t : Int)) :: .inl (.inr 7) :: st) M := by
  refine tk_aV (k := 6) (ps := [.inl (t : Int)]) (st := st) (k_Mo_isLocated l M t ht h) wc_Mo_isLocated lk_Mo_134 wi_Mo_isLocated wsl_Mo_isLocated htab hd rfl (by decide) rfl rfl rfl (by omega) (show _ + (2 + 11) + 0 ≤ nw by omega) ?_ (fun x M' h => by cases h.1)
  rintro v' M' ⟨e1, rfl⟩ hro
  cases e1
  exact k
theorem ma_who {t : Nat} (ht : t < 8) (h : q_tm M) (htab : tk_good cc nL tab) (hd : tk_ia tab pc = some (.invokevirtual 157, pc + 3)) (hfr : 2 ≤ nf) (hlo : tk_sv st + 26 ≤ nw) (k : tk_At l "TrackKeeperModel" cc nL ret nf nw P (pc + 3) lo (.inl (.inl (m_who M t)) :: st) M) : tk_At l "TrackKeeperModel" cc nL ret nf nw P pc lo (.inl (.inl (t : Int)) :: .inl (.inr 7) :: st) M := by
  refine tk_aV (k := 6) (ps := [.inl (t : Int)]) (st := st) (k_Mo_isWhole l M t ht h) wc_Mo_isWhole lk_Mo_157 wi_Mo_isWhole wsl_Mo_isWhole htab hd rfl (by decide) rfl rfl rfl (by omega) (show _ + (2 + 11) + 13 ≤ nw by omega) ?_ (fun x M' h => by cases h.1)
  rintro v' M' ⟨e1, rfl⟩ hro
  cases e1
  exact k
theorem ma_at {x : Int} (h : M 7 2 ≤ 32) (htab : tk_good cc nL tab) (hd : tk_ia tab pc = some (.invokevirtual 138, pc + 3)) (hfr : 1 ≤ nf) (hlo : tk_sv st + 14 ≤ nw) (k : tk_At l "TrackKeeperModel" cc nL ret nf nw P (pc + 3) lo (.inl (.inl ((m_at M x 32 0 : Nat) : Int)) :: st) M) : tk_At l "TrackKeeperModel" cc nL ret nf nw P pc lo (.inl (.inl x) :: .inl (.inr 7) :: st) M := by
  refine tk_aV (k := 6) (ps := [.inl x]) (st := st) (k_Mo_subOf l M x h) wc_Mo_subOf lk_Mo_138 wi_Mo_subOf wsl_Mo_subOf htab hd rfl (by decide) rfl rfl rfl (by omega) (show _ + (3 + 11) + 0 ≤ nw by omega) ?_ (fun x M' h => by cases h.1)
  rintro v' M' ⟨e1, rfl⟩ hro
  cases e1
  exact k
theorem ma_holds {s : Nat} (hs : s < 10) (h0 : 0 ≤ M 7 2) (h1 : M 7 2 ≤ 32) (htab : tk_good cc nL tab) (hd : tk_ia tab pc = some (.invokevirtual 163, pc + 3)) (hfr : 1 ≤ nf) (hlo : tk_sv st + 15 ≤ nw) (k : tk_At l "TrackKeeperModel" cc nL ret nf nw P (pc + 3) lo (.inl (.inl (m_hld M s)) :: st) M) : tk_At l "TrackKeeperModel" cc nL ret nf nw P pc lo (.inl (.inl (s : Int)) :: .inl (.inr 7) :: st) M := by
  refine tk_aV (k := 6) (ps := [.inl (s : Int)]) (st := st) (k_Mo_holds l M s hs h0 h1) wc_Mo_holds lk_Mo_163 wi_Mo_holds wsl_Mo_holds htab hd rfl (by decide) rfl rfl rfl (by omega) (show _ + (4 + 11) + 0 ≤ nw by omega) ?_ (fun x M' h => by cases h.1)
  rintro v' M' ⟨e1, rfl⟩ hro
  cases e1
  exact k
end TKQ
def m0 (M : tk_M) : tk_M := tk_up M 7 0 0
theorem m0_0 (M : tk_M) : m0 M 7 0 = 0 := tk_up_s _ _ _ _
theorem m0_o {M : tk_M} {c j : Nat} (h : ¬ (c = 7 ∧ j = 0)) : m0 M c j = M c j := tk_up_n h
def d_section (N : tk_M) : tk_Z := if ¬ N 7 11 = 0 ∨ ¬ f_wait N = 0 then (.inl (some 0), tk_up N 7 0 1) else if N 7 1 = 10 then (.inl (some 0), tk_up N 7 0 2) else (.inl (some (N 7 1)), tk_up (tk_up N 10 (N 7 1).toNat (N 7 2)) 7 1 (N 7 1 + 1))
theorem kn_Mo_section (l : Launch) (N : tk_M) (h0 : N 7 0 = 0) (q1 : 0 ≤ N 7 1) (q2 : N 7 1 ≤ 10) : tk_At l "TrackKeeperModel" prog_8_method_6_code 1 (some .int) 6 90 (tk_z (d_section N)) 5 [some (.inr 7)] [] N := by
  have kA : (¬ N 7 11 = 0 ∨ ¬ f_wait N = 0) → tk_At l "TrackKeeperModel" prog_8_method_6_code 1 (some .int) 6 90 (tk_z (d_section N)) 20 [some (.inr 7)] [.inl (.inr 7)] N := fun h => by
    have e : d_section N = (.inl (some 0), tk_up N 7 0 1) := by unfold d_section; rw [if_pos h]
    rw [e]
    refine tk_goA fo_Mo co_Mo tg_Mo_section 60 [] ?_
    refine ⟨(), ma_f1 h0 (by decide) tg_Mo_section rfl (by decide) (by decide) ?_⟩
    refine tk_goA fo_Mo co_Mo tg_Mo_section 60 [] ?_
    repeat' first | refine And.intro ?_ ?_ | intro _
    all_goals first | exact Or.inl rfl | exact Or.inr rfl | rfl | skip
    all_goals try simp only [tk_c, not_true_eq_false, not_false_eq_true, Int.toNat_natCast] at *
    all_goals first | omega | skip
  have kB : ¬ (¬ N 7 11 = 0 ∨ ¬ f_wait N = 0) → tk_At l "TrackKeeperModel" prog_8_method_6_code 1 (some .int) 6 90 (tk_z (d_section N)) 24 [some (.inr 7)] [.inl (.inr 7)] N := fun h => by
    have e : d_section N = if N 7 1 = 10 then (.inl (some 0), tk_up N 7 0 2) else (.inl (some (N 7 1)), tk_up (tk_up N 10 (N 7 1).toNat (N 7 2)) 7 1 (N 7 1 + 1)) := by unfold d_section; rw [if_neg h]
    refine tk_goA fo_Mo co_Mo tg_Mo_section 60 [] ?_
    refine ⟨(), ma_f0 h0 tg_Mo_section rfl (by decide) (by decide) ?_⟩
    refine tk_goA fo_Mo co_Mo tg_Mo_section 60 [] ?_
    repeat' first | refine And.intro ?_ ?_ | intro _
    all_goals first | exact Or.inl rfl | exact Or.inr rfl | rfl | skip
    all_goals try simp only [tk_c, not_true_eq_false, not_false_eq_true, Int.toNat_natCast] at *
    all_goals first | omega | skip
    · rw [if_neg (by omega)] at e
      rw [e]
      have u : ∀ x j, tk_up N 10 (N 7 1).toNat x 7 j = N 7 j := fun x j => tk_up_n (by omega)
      refine ⟨(), ma_f0 h0 tg_Mo_section rfl (by decide) (by decide) ?_⟩
      refine tk_goA fo_Mo co_Mo tg_Mo_section 60 [] ?_
      repeat' first | refine And.intro ?_ ?_ | intro _
      all_goals first | exact Or.inl rfl | exact Or.inr rfl | rfl | skip
      all_goals try simp only [tk_c, not_true_eq_false, not_false_eq_true, Int.toNat_natCast, u] at *
      all_goals first | omega | skip
    · rw [if_pos (by omega)] at e
      rw [e]
      refine ⟨(), ma_f1 h0 (by decide) tg_Mo_section rfl (by decide) (by decide) ?_⟩
      refine tk_goA fo_Mo co_Mo tg_Mo_section 60 [] ?_
      repeat' first | refine And.intro ?_ ?_ | intro _
      all_goals first | exact Or.inl rfl | exact Or.inr rfl | rfl | skip
      all_goals try simp only [tk_c, not_true_eq_false, not_false_eq_true, Int.toNat_natCast] at *
      all_goals first | omega | skip
  refine tk_goA fo_Mo co_Mo tg_Mo_section 60 [20, 24] ?_
  repeat' first | refine And.intro ?_ ?_ | intro _
  all_goals first | exact Or.inl rfl | exact Or.inr rfl | rfl | skip
  all_goals try simp only [tk_c, not_true_eq_false, not_false_eq_true, Int.toNat_natCast] at *
  all_goals first | omega | skip
  · exact ⟨(), kA (by omega)⟩
  · refine ⟨(), ma_wait q2 tg_Mo_section rfl (by decide) (by decide) ?_⟩
    generalize f_wait N = w at *
    refine tk_goA fo_Mo co_Mo tg_Mo_section 60 [20, 24] ?_
    repeat' first | refine And.intro ?_ ?_ | intro _
    all_goals first | exact Or.inl rfl | exact Or.inr rfl | rfl | skip
    all_goals try simp only [tk_c, not_true_eq_false, not_false_eq_true, Int.toNat_natCast] at *
    all_goals first | omega | skip
    · exact ⟨(), kB (by omega)⟩
    · exact ⟨(), kA (by omega)⟩
theorem k_Mo_section (l : Launch) (M : tk_M)  (q1 : 0 ≤ M 7 1) (q2 : M 7 1 ≤ 10) : tk_C l y_Mo_section 6 90 [.inr 7] M (tk_z (d_section (m0 M))) := by
  refine tk_C.of wc_Mo_section rfl (Nat.le_of_ble_eq_true rfl) fun hr hM => ?_
  have h := kn_Mo_section l (m0 M)  (m0_0 M) (by rw [m0_o (by omega)]; exact q1) (by rw [m0_o (by omega)]; exact q2)
  have e : m0 M = tk_up M 7 0 0 := rfl
  generalize d_section  (m0 M) = Z at *
  rw [e] at h
  refine tk_goA fo_Mo co_Mo tg_Mo_section 40 [5] ?_
  repeat' first | refine And.intro ?_ ?_ | intro _
  all_goals first | omega | skip
  exact ⟨(), h⟩
def d_sub (x : Int) (N : tk_M) : tk_Z := if ¬ (1 ≤ x ∧ x ≤ 100000) then (.inl (some 0), tk_up N 7 0 1) else if ¬ N 7 11 = 0 ∨ N 7 1 = 0 then (.inl (some 0), tk_up N 7 0 2) else if N 7 2 = 32 then (.inl (some 0), tk_up N 7 0 3) else (.inl (some (N 7 2)), tk_up (tk_up (tk_up N 8 (N 7 2).toNat (N 7 1 - 1)) 9 (N 7 2 + 1).toNat (N 9 (N 7 2).toNat + x)) 7 2 (N 7 2 + 1))
theorem kn_Mo_sub (l : Launch) (N : tk_M) (x : Int) (h0 : N 7 0 = 0) (q1 : 0 ≤ N 7 1) (q2 : N 7 1 ≤ 10) (q3 : 0 ≤ N 7 2) (q4 : N 7 2 ≤ 32) (q5 : 0 ≤ N 9 (N 7 2).toNat) (q6 : N 9 (N 7 2).toNat ≤ 3200000) : tk_At l "TrackKeeperModel" prog_8_method_7_code 2 (some .int) 6 90 (tk_z (d_sub x N)) 5 [some (.inr 7), some (.inl x)] [] N := by
  have ed : d_sub x N = if ¬ (1 ≤ x ∧ x ≤ 100000) then (.inl (some 0), tk_up N 7 0 1) else if ¬ N 7 11 = 0 ∨ N 7 1 = 0 then (.inl (some 0), tk_up N 7 0 2) else if N 7 2 = 32 then (.inl (some 0), tk_up N 7 0 3) else (.inl (some (N 7 2)), tk_up (tk_up (tk_up N 8 (N 7 2).toNat (N 7 1 - 1)) 9 (N 7 2 + 1).toNat (N 9 (N 7 2).toNat + x)) 7 2 (N 7 2 + 1)) := rfl
  generalize d_sub x N = Z at *
  have kR : ∀ c : Int, Z = (.inl (some 0), tk_up N 7 0 c) → tk_At l "TrackKeeperModel" prog_8_method_7_code 2 (some .int) 6 90 (tk_z Z) 77 [some (.inr 7), some (.inl x)] [] (tk_up N 7 0 c) := fun c e => by
    rw [e]
    refine tk_goA fo_Mo co_Mo tg_Mo_sub 60 [] ?_
    exact ⟨rfl, rfl⟩
  refine tk_goA fo_Mo co_Mo tg_Mo_sub 60 [77] ?_
  refine ⟨(), ma_in tg_Mo_sub rfl (by decide) (by decide) ?_⟩
  generalize hx : f_in x 1 100000 = y
  have hx0 := f_in_0 x 1 100000
  rw [hx] at hx0
  refine tk_goA fo_Mo co_Mo tg_Mo_sub 60 [77] ?_
  repeat' first | refine And.intro ?_ ?_ | intro _
  all_goals first | exact Or.inl rfl | exact Or.inr rfl | rfl | skip
  all_goals try simp only [tk_c, not_true_eq_false, not_false_eq_true, Int.toNat_natCast, hx0] at *
  all_goals first | omega | skip
  · rw [if_neg (by omega)] at ed
    refine ⟨(), ma_f0 h0 tg_Mo_sub rfl (by decide) (by decide) ?_⟩
    have kA : (¬ N 7 11 = 0 ∨ N 7 1 = 0) → tk_At l "TrackKeeperModel" prog_8_method_7_code 2 (some .int) 6 90 (tk_z Z) 43 [some (.inr 7), some (.inl x)] [.inl (.inr 7)] N := fun h => by
      rw [if_pos h] at ed
      refine tk_goA fo_Mo co_Mo tg_Mo_sub 60 [77] ?_
      refine ⟨(), ma_f1 h0 (by decide) tg_Mo_sub rfl (by decide) (by decide) ?_⟩
      refine tk_goA fo_Mo co_Mo tg_Mo_sub 60 [77] ?_
      repeat' first | refine And.intro ?_ ?_ | intro _
      all_goals first | exact Or.inl rfl | exact Or.inr rfl | rfl | skip
      all_goals try simp only [tk_c, not_true_eq_false, not_false_eq_true, Int.toNat_natCast] at *
      all_goals first | omega | skip
      exact ⟨(), kR _ ed⟩
    refine tk_goA fo_Mo co_Mo tg_Mo_sub 60 [77, 43] ?_
    repeat' first | refine And.intro ?_ ?_ | intro _
    all_goals first | exact Or.inl rfl | exact Or.inr rfl | rfl | skip
    all_goals try simp only [tk_c, not_true_eq_false, not_false_eq_true, Int.toNat_natCast] at *
    all_goals first | omega | skip
    · exact ⟨(), kA (by omega)⟩
    · rw [if_neg (by omega)] at ed
      refine ⟨(), ma_f0 h0 tg_Mo_sub rfl (by decide) (by decide) ?_⟩
      refine tk_goA fo_Mo co_Mo tg_Mo_sub 60 [77] ?_
      repeat' first | refine And.intro ?_ ?_ | intro _
      all_goals first | exact Or.inl rfl | exact Or.inr rfl | rfl | skip
      all_goals try simp only [tk_c, not_true_eq_false, not_false_eq_true, Int.toNat_natCast] at *
      all_goals first | omega | skip
      · rw [if_neg (by omega)] at ed
        rw [ed]
        refine ⟨(), ma_f0 h0 tg_Mo_sub rfl (by decide) (by decide) ?_⟩
        have u : ∀ x j, tk_up N 8 (N 7 2).toNat x 7 j = N 7 j := fun x j => tk_up_n (by omega)
        have u9 : ∀ x j, tk_up N 8 (N 7 2).toNat x 9 j = N 9 j := fun x j => tk_up_n (by omega)
        have u2 : ∀ x y i j, tk_up (tk_up N 8 (N 7 2).toNat x) 9 i y 7 j = N 7 j := fun x y i j => by rw [tk_up_n (by omega), tk_up_n (by omega)]
        refine tk_goA fo_Mo co_Mo tg_Mo_sub 80 [] ?_
        repeat' first | refine And.intro ?_ ?_ | intro _
        all_goals first | exact Or.inl rfl | exact Or.inr rfl | rfl | skip
        all_goals try simp only [tk_c, not_true_eq_false, not_false_eq_true, Int.toNat_natCast, u, u9, u2] at *
        all_goals first | omega | skip
      · rw [if_pos (by omega)] at ed
        refine ⟨(), ma_f1 h0 (by decide) tg_Mo_sub rfl (by decide) (by decide) ?_⟩
        refine tk_goA fo_Mo co_Mo tg_Mo_sub 60 [77] ?_
        repeat' first | refine And.intro ?_ ?_ | intro _
        all_goals first | exact Or.inl rfl | exact Or.inr rfl | rfl | skip
        all_goals try simp only [tk_c, not_true_eq_false, not_false_eq_true, Int.toNat_natCast] at *
        all_goals first | omega | skip
        exact ⟨(), kR _ ed⟩
    · exact ⟨(), kA (by omega)⟩
  · rw [if_pos (by omega)] at ed
    refine ⟨(), ma_f1 h0 (by decide) tg_Mo_sub rfl (by decide) (by decide) ?_⟩
    refine tk_goA fo_Mo co_Mo tg_Mo_sub 60 [77] ?_
    repeat' first | refine And.intro ?_ ?_ | intro _
    all_goals first | exact Or.inl rfl | exact Or.inr rfl | rfl | skip
    all_goals try simp only [tk_c, not_true_eq_false, not_false_eq_true, Int.toNat_natCast] at *
    all_goals first | omega | skip
    exact ⟨(), kR _ ed⟩
theorem k_Mo_sub (l : Launch) (M : tk_M) (x : Int) (q1 : 0 ≤ M 7 1) (q2 : M 7 1 ≤ 10) (q3 : 0 ≤ M 7 2) (q4 : M 7 2 ≤ 32) (q5 : 0 ≤ M 9 (M 7 2).toNat) (q6 : M 9 (M 7 2).toNat ≤ 3200000) : tk_C l y_Mo_sub 6 90 [.inr 7, .inl x] M (tk_z (d_sub x (m0 M))) := by
  refine tk_C.of wc_Mo_sub rfl (Nat.le_of_ble_eq_true rfl) fun hr hM => ?_
  have h := kn_Mo_sub l (m0 M) x (m0_0 M) (by rw [m0_o (by omega)]; exact q1) (by rw [m0_o (by omega)]; exact q2) (by rw [m0_o (by omega)]; exact q3) (by rw [m0_o (by omega)]; exact q4) (by rw [m0_o (by omega), m0_o (by omega)]; exact q5) (by rw [m0_o (by omega), m0_o (by omega)]; exact q6)
  have e : m0 M = tk_up M 7 0 0 := rfl
  generalize d_sub x (m0 M) = Z at *
  rw [e] at h
  refine tk_goA fo_Mo co_Mo tg_Mo_sub 40 [5] ?_
  repeat' first | refine And.intro ?_ ?_ | intro _
  all_goals first | omega | skip
  exact ⟨(), h⟩
theorem k_Mo_clear (l : Launch) (M : tk_M) : tk_C l y_Mo_clear 6 90 [.inr 7] M (tk_z (.inl none, m_reset (tk_up (tk_up (tk_up (m0 M) 7 11 0) 7 1 0) 7 2 0))) := by
  refine tk_C.of wc_Mo_clear rfl (Nat.le_of_ble_eq_true rfl) fun hr hM => ?_
  have e : m0 M = tk_up M 7 0 0 := rfl
  rw [e]
  refine tk_goA fo_Mo co_Mo tg_Mo_clear 60 [] ?_
  repeat' first | refine And.intro ?_ ?_ | intro _
  all_goals first | exact Or.inl rfl | exact Or.inr rfl | rfl | skip
  all_goals try simp only [tk_c, not_true_eq_false, not_false_eq_true, Int.toNat_natCast] at *
  all_goals first | omega | skip
  refine ⟨(), ma_reset tg_Mo_clear rfl (by decide) (by decide) ?_⟩
  generalize m_reset (tk_up (tk_up (tk_up (tk_up M 7 0 0) 7 11 0) 7 1 0) 7 2 0) = N
  refine tk_goA fo_Mo co_Mo tg_Mo_clear 60 [] ?_
  exact ⟨rfl, rfl⟩
def d_beg0 (N : tk_M) (m k s : Int) : tk_M := tk_up (tk_up (tk_up (tk_up (tk_up N 7 11 1) 7 4 m) 7 5 k) 7 6 s) 7 10 (N 9 (N 7 2).toNat)
def d_begin (m k s : Int) (N : tk_M) : tk_Z := if ¬ (1 ≤ m ∧ m ≤ 100000) ∨ ¬ (1 ≤ k ∧ k ≤ 100000) ∨ ¬ (1 ≤ s ∧ s ≤ 100000) then (.inl (some 0), tk_up N 7 0 1) else if N 7 1 = 0 ∨ ¬ f_wait N = 0 then (.inl (some 0), tk_up N 7 0 2) else (.inl (some (N 9 (N 7 2).toNat)), m_reset (d_beg0 N m k s))
theorem m_reset_7 {M : tk_M} {j : Nat} (h : j ≠ 3 ∧ j ≠ 7 ∧ j ≠ 8 ∧ j ≠ 9) : m_reset M 7 j = M 7 j := by
  unfold m_reset m_r3 m_r2 m_r1 m_r0
  simp only [show ¬ (7 : Nat) = 18 by decide, show ¬ (7 : Nat) = 19 by decide, show ¬ (7 : Nat) = 20 by decide, show ¬ (7 : Nat) = 26 by decide, show ¬ (7 : Nat) = 16 by decide, show ¬ (7 : Nat) = 11 by decide, show ¬ (7 : Nat) = 12 by decide, show ¬ (7 : Nat) = 14 by decide, false_or, false_and, if_false]
  rw [tk_up_n (by omega), tk_up_n (by omega), tk_up_n (by omega), tk_up_n (by omega)]
theorem kn_Mo_begin (l : Launch) (N : tk_M) (m k s : Int) (h0 : N 7 0 = 0) (q1 : 0 ≤ N 7 1) (q2 : N 7 1 ≤ 10) (q3 : 0 ≤ N 7 2) (q4 : N 7 2 ≤ 32) : tk_At l "TrackKeeperModel" prog_8_method_8_code 4 (some .int) 6 90 (tk_z (d_begin m k s N)) 5 [some (.inr 7), some (.inl m), some (.inl k), some (.inl s)] [] N := by
  have ed : d_begin m k s N = if ¬ (1 ≤ m ∧ m ≤ 100000) ∨ ¬ (1 ≤ k ∧ k ≤ 100000) ∨ ¬ (1 ≤ s ∧ s ≤ 100000) then (.inl (some 0), tk_up N 7 0 1) else if N 7 1 = 0 ∨ ¬ f_wait N = 0 then (.inl (some 0), tk_up N 7 0 2) else (.inl (some (N 9 (N 7 2).toNat)), m_reset (d_beg0 N m k s)) := rfl
  generalize d_begin m k s N = Z at *
  have kR : ∀ c : Int, Z = (.inl (some 0), tk_up N 7 0 c) → tk_At l "TrackKeeperModel" prog_8_method_8_code 4 (some .int) 6 90 (tk_z Z) 75 [some (.inr 7), some (.inl m), some (.inl k), some (.inl s)] [] (tk_up N 7 0 c) := fun c e => by
    rw [e]
    refine tk_goA fo_Mo co_Mo tg_Mo_begin 60 [] ?_
    exact ⟨rfl, rfl⟩
  have kA : (¬ (1 ≤ m ∧ m ≤ 100000) ∨ ¬ (1 ≤ k ∧ k ≤ 100000) ∨ ¬ (1 ≤ s ∧ s ≤ 100000)) → tk_At l "TrackKeeperModel" prog_8_method_8_code 4 (some .int) 6 90 (tk_z Z) 36 [some (.inr 7), some (.inl m), some (.inl k), some (.inl s)] [.inl (.inr 7)] N := fun h => by
    rw [if_pos h] at ed
    refine tk_goA fo_Mo co_Mo tg_Mo_begin 60 [75] ?_
    refine ⟨(), ma_f1 h0 (by decide) tg_Mo_begin rfl (by decide) (by decide) ?_⟩
    refine tk_goA fo_Mo co_Mo tg_Mo_begin 60 [75] ?_
    repeat' first | refine And.intro ?_ ?_ | intro _
    all_goals first | exact Or.inl rfl | exact Or.inr rfl | rfl | skip
    all_goals try simp only [tk_c, not_true_eq_false, not_false_eq_true, Int.toNat_natCast] at *
    all_goals first | omega | skip
    exact ⟨(), kR _ ed⟩
  have kC : ¬ (¬ (1 ≤ m ∧ m ≤ 100000) ∨ ¬ (1 ≤ k ∧ k ≤ 100000) ∨ ¬ (1 ≤ s ∧ s ≤ 100000)) → (N 7 1 = 0 ∨ ¬ f_wait N = 0) → tk_At l "TrackKeeperModel" prog_8_method_8_code 4 (some .int) 6 90 (tk_z Z) 63 [some (.inr 7), some (.inl m), some (.inl k), some (.inl s)] [.inl (.inr 7)] N := fun h g => by
    rw [if_neg h, if_pos g] at ed
    refine tk_goA fo_Mo co_Mo tg_Mo_begin 60 [75] ?_
    refine ⟨(), ma_f1 h0 (by decide) tg_Mo_begin rfl (by decide) (by decide) ?_⟩
    refine tk_goA fo_Mo co_Mo tg_Mo_begin 60 [75] ?_
    repeat' first | refine And.intro ?_ ?_ | intro _
    all_goals first | exact Or.inl rfl | exact Or.inr rfl | rfl | skip
    all_goals try simp only [tk_c, not_true_eq_false, not_false_eq_true, Int.toNat_natCast] at *
    all_goals first | omega | skip
    exact ⟨(), kR _ ed⟩
  have kD : ¬ (¬ (1 ≤ m ∧ m ≤ 100000) ∨ ¬ (1 ≤ k ∧ k ≤ 100000) ∨ ¬ (1 ≤ s ∧ s ≤ 100000)) → ¬ (N 7 1 = 0 ∨ ¬ f_wait N = 0) → tk_At l "TrackKeeperModel" prog_8_method_8_code 4 (some .int) 6 90 (tk_z Z) 67 [some (.inr 7), some (.inl m), some (.inl k), some (.inl s)] [.inl (.inr 7)] N := fun h g => by
    rw [if_neg h, if_neg g] at ed
    rw [ed]
    refine tk_goA fo_Mo co_Mo tg_Mo_begin 60 [75] ?_
    refine ⟨(), ma_f0 h0 tg_Mo_begin rfl (by decide) (by decide) ?_⟩
    have u7 : tk_up (tk_up (tk_up (tk_up N 7 11 1) 7 4 m) 7 5 k) 7 6 s 7 2 = N 7 2 := by rw [tk_up_n (by omega), tk_up_n (by omega), tk_up_n (by omega), tk_up_n (by omega)]
    have u9 : ∀ j, tk_up (tk_up (tk_up (tk_up N 7 11 1) 7 4 m) 7 5 k) 7 6 s 9 j = N 9 j := fun j => by rw [tk_up_n (by omega), tk_up_n (by omega), tk_up_n (by omega), tk_up_n (by omega)]
    have eb : d_beg0 N m k s = tk_up (tk_up (tk_up (tk_up (tk_up N 7 11 1) 7 4 m) 7 5 k) 7 6 s) 7 10 (N 9 (N 7 2).toNat) := rfl
    refine tk_goA fo_Mo co_Mo tg_Mo_begin 60 [75] ?_
    repeat' first | refine And.intro ?_ ?_ | intro _
    all_goals first | exact Or.inl rfl | exact Or.inr rfl | rfl | skip
    all_goals try simp only [tk_c, not_true_eq_false, not_false_eq_true, Int.toNat_natCast, u7, u9] at *
    all_goals first | omega | skip
    rw [← eb]
    refine ⟨(), ma_reset tg_Mo_begin rfl (by decide) (by decide) ?_⟩
    have e10 : m_reset (d_beg0 N m k s) 7 10 = N 9 (N 7 2).toNat := by rw [m_reset_7 (by decide), eb, tk_up_s]
    generalize m_reset (d_beg0 N m k s) = X at *
    refine tk_goA fo_Mo co_Mo tg_Mo_begin 60 [] ?_
    repeat' first | refine And.intro ?_ ?_ | intro _
    all_goals first | exact Or.inl rfl | exact Or.inr rfl | rfl | skip
    all_goals try simp only [tk_c, not_true_eq_false, not_false_eq_true, Int.toNat_natCast, e10] at *
    all_goals first | omega | skip
  have kE : ¬ (¬ (1 ≤ m ∧ m ≤ 100000) ∨ ¬ (1 ≤ k ∧ k ≤ 100000) ∨ ¬ (1 ≤ s ∧ s ≤ 100000)) → tk_At l "TrackKeeperModel" prog_8_method_8_code 4 (some .int) 6 90 (tk_z Z) 40 [some (.inr 7), some (.inl m), some (.inl k), some (.inl s)] [.inl (.inr 7)] N := fun h => by
    refine tk_goA fo_Mo co_Mo tg_Mo_begin 60 [75] ?_
    refine ⟨(), ma_f0 h0 tg_Mo_begin rfl (by decide) (by decide) ?_⟩
    refine tk_goA fo_Mo co_Mo tg_Mo_begin 60 [63, 67] ?_
    repeat' first | refine And.intro ?_ ?_ | intro _
    all_goals first | exact Or.inl rfl | exact Or.inr rfl | rfl | skip
    all_goals try simp only [tk_c, not_true_eq_false, not_false_eq_true, Int.toNat_natCast] at *
    all_goals first | omega | skip
    · exact ⟨(), kC h (by omega)⟩
    · refine ⟨(), ma_wait q2 tg_Mo_begin rfl (by decide) (by decide) ?_⟩
      generalize f_wait N = w at *
      refine tk_goA fo_Mo co_Mo tg_Mo_begin 60 [63, 67] ?_
      repeat' first | refine And.intro ?_ ?_ | intro _
      all_goals first | exact Or.inl rfl | exact Or.inr rfl | rfl | skip
      all_goals try simp only [tk_c, not_true_eq_false, not_false_eq_true, Int.toNat_natCast] at *
      all_goals first | omega | skip
      · exact ⟨(), kD h (by omega)⟩
      · exact ⟨(), kC h (by omega)⟩
  refine tk_goA fo_Mo co_Mo tg_Mo_begin 60 [36, 40] ?_
  refine ⟨(), ma_in tg_Mo_begin rfl (by decide) (by decide) ?_⟩
  generalize hx : f_in m 1 100000 = x
  have hx0 := f_in_0 m 1 100000
  rw [hx] at hx0
  refine tk_goA fo_Mo co_Mo tg_Mo_begin 60 [36, 40] ?_
  repeat' first | refine And.intro ?_ ?_ | intro _
  all_goals first | exact Or.inl rfl | exact Or.inr rfl | rfl | skip
  all_goals try simp only [tk_c, not_true_eq_false, not_false_eq_true, Int.toNat_natCast, hx0] at *
  all_goals first | omega | skip
  · exact ⟨(), kA (by omega)⟩
  refine ⟨(), ma_in tg_Mo_begin rfl (by decide) (by decide) ?_⟩
  generalize hy : f_in k 1 100000 = y
  have hy0 := f_in_0 k 1 100000
  rw [hy] at hy0
  refine tk_goA fo_Mo co_Mo tg_Mo_begin 60 [36, 40] ?_
  repeat' first | refine And.intro ?_ ?_ | intro _
  all_goals first | exact Or.inl rfl | exact Or.inr rfl | rfl | skip
  all_goals try simp only [tk_c, not_true_eq_false, not_false_eq_true, Int.toNat_natCast, hy0] at *
  all_goals first | omega | skip
  · exact ⟨(), kA (by omega)⟩
  refine ⟨(), ma_in tg_Mo_begin rfl (by decide) (by decide) ?_⟩
  generalize hz : f_in s 1 100000 = z
  have hz0 := f_in_0 s 1 100000
  rw [hz] at hz0
  refine tk_goA fo_Mo co_Mo tg_Mo_begin 60 [36, 40] ?_
  repeat' first | refine And.intro ?_ ?_ | intro _
  all_goals first | exact Or.inl rfl | exact Or.inr rfl | rfl | skip
  all_goals try simp only [tk_c, not_true_eq_false, not_false_eq_true, Int.toNat_natCast, hz0] at *
  all_goals first | omega | skip
  · exact ⟨(), kE (by omega)⟩
  · exact ⟨(), kA (by omega)⟩
theorem k_Mo_begin (l : Launch) (M : tk_M) (m : Int) (k : Int) (s : Int) (q1 : 0 ≤ M 7 1) (q2 : M 7 1 ≤ 10) (q3 : 0 ≤ M 7 2) (q4 : M 7 2 ≤ 32) : tk_C l y_Mo_begin 6 90 [.inr 7, .inl m, .inl k, .inl s] M (tk_z (d_begin m k s (m0 M))) := by
  refine tk_C.of wc_Mo_begin rfl (Nat.le_of_ble_eq_true rfl) fun hr hM => ?_
  have h := kn_Mo_begin l (m0 M) m k s (m0_0 M) (by rw [m0_o (by omega)]; exact q1) (by rw [m0_o (by omega)]; exact q2) (by rw [m0_o (by omega)]; exact q3) (by rw [m0_o (by omega)]; exact q4)
  have e : m0 M = tk_up M 7 0 0 := rfl
  generalize d_begin m k s (m0 M) = Z at *
  rw [e] at h
  refine tk_goA fo_Mo co_Mo tg_Mo_begin 40 [5] ?_
  repeat' first | refine And.intro ?_ ?_ | intro _
  all_goals first | omega | skip
  exact ⟨(), h⟩
