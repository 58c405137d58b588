/-! THE START: what the tables and the Statement say of it -/
section TKW
variable {s : State} {args : Array Value}
theorem tk_ins {k : Nat} {C : String} {T : u_T} {N : Nat} (h : tk_cl[k]? = some (C, T, N)) : Cond.instantiable C N ∈ tk_tbl := by
  match k, h with
  | 0, h => cases h; exact wm_TK
  | 1, h => cases h; exact wm_Tr
  | 2, h => cases h; exact wm_Au
  | 3, h => cases h; exact wm_Se
  | 4, h => cases h; exact wm_Su
  | 5, h => cases h; exact wm_Ti
  | 6, h => cases h; exact wm_Mo
theorem tk_wD (hts : ∀ w ∈ tk_tbl, w.before args s = true) : ∃ D : va_G, ∀ (c : Nat) (q : vw_C), tk_cl[c]? = some q → u_Kn s q.1 q.2.1 q.2.2 (D.1 c) (D.2 c) := by
  have h : ∀ c : Nat, ∃ z : ClassId × (Nat → Nat), ∀ q : vw_C, tk_cl[c]? = some q → u_Kn s q.1 q.2.1 q.2.2 z.1 z.2 := by
    intro c
    cases hc : tk_cl[c]? with
    | none => exact ⟨(0, fun _ => 0), fun q h => by cases h⟩
    | some q =>
      obtain ⟨C, T, N⟩ := q
      obtain ⟨cC, iS, h⟩ := u_known hts (tk_cls hc) (hts _ (tk_ins hc))
      exact ⟨(cC, iS), fun q hq => by cases hq; exact h⟩
  obtain ⟨f, hf⟩ := Classical.axiomOfChoice h
  exact ⟨(fun c => (f c).1, fun c => (f c).2), fun c q hq => hf c q hq⟩
theorem tk_arO {c : ClassId} {k : Class} {comp : ClassId} {ty : FieldType} (h2 : s.vm.classes[c]? = some k) (h3 : k.kind = .array comp ty) : ArrOfT s c ty := fun n z => ⟨fun k h => (by cases h), k, h2, comp, h3⟩
theorem tk_wK (hts : ∀ w ∈ tk_tbl, w.before args s = true) (hov : ∀ C ∈ tk_aos, va_AO C s) (D : va_G) : ∃ K : Nat → ClassId, ∀ (k : Nat) (q : ClassId × FieldType), (tk_tys (fun _ => 0, D, K))[k]? = some q → ArrOfT s q.1 q.2 ∧ va_RA s q.1 q.2 := by
  obtain ⟨c0, k0, m0, a1, a2, a3⟩ := Cond.arrayClass_spec (hts _ wa_i)
  obtain ⟨c1, k1, m1, b1, b2, b3⟩ := Cond.arrayClass_spec (hts _ wa_z)
  obtain ⟨c2, k2, m2, d1, d2, d3⟩ := Cond.arrayClass_spec (hts _ wa_j)
  obtain ⟨m3, c3, k3, e1, -, e2, e3, e4⟩ := Cond.arrayOver_spec (hov "TrackKeeper$Train" (by decide))
  obtain ⟨m4, c4, k4, f1, -, f2, f3, f4⟩ := Cond.arrayOver_spec (hov "TrackKeeper$Section" (by decide))
  obtain ⟨m5, c5, k5, g1, -, g2, g3, g4⟩ := Cond.arrayOver_spec (hov "TrackKeeper$Subsection" (by decide))
  refine ⟨fun t => match t with | 0 => c0 | 1 => c1 | 2 => c2 | 3 => c3 | 4 => c4 | _ => c5, fun k q hk => ?_⟩
  match k, hk with
  | 0, hk => cases hk; exact ⟨tk_arO a2 a3, a1⟩
  | 1, hk => cases hk; exact ⟨tk_arO b2 b3, b1⟩
  | 2, hk => cases hk; exact ⟨tk_arO d2 d3, d1⟩
  | 3, hk => cases hk; exact ⟨tk_arO e2 e3, k3, m3, e2, e3, e1, e4⟩
  | 4, hk => cases hk; exact ⟨tk_arO f2 f3, k4, m4, f2, f3, f1, f4⟩
  | 5, hk => cases hk; exact ⟨tk_arO g2 g3, k5, m5, g2, g3, g1, g4⟩
set_option maxRecDepth 100000 in
theorem tk_ncw : ∀ w ∈ tk_nst ++ tk_cw, w ∈ lw_tbl ∧ w.onTables = true := by decide +kernel
set_option maxRecDepth 100000 in
theorem tk_aow : ∀ C ∈ tk_aos, Cond.arrayOver (.object C) ∈ lw_tbl := by decide +kernel
set_option maxRecDepth 100000 in
theorem tk_ncc : ∀ x, x < 4 → ∀ y, y < 4 → x ≠ y → Cond.not (.castable (tk_xn x) (tk_xn y)) ∈ flatC (Jvm.Cond.and given_1 narrow_1) := by decide +kernel
set_option maxRecDepth 100000 in
theorem tk_sa1 : Cond.laysStatic Bundle.tN "UNASSIGNED_STACK" Bundle.steD ∈ lw_tbl ∧ Cond.laysStatic Bundle.tN "SUPPRESSED_SENTINEL" Bundle.listD ∈ lw_tbl ∧ Cond.initialized Bundle.tN ∈ lw_tbl := by decide +kernel
set_option maxRecDepth 100000 in
theorem tk_sa2 : Cond.isRef (.static Bundle.tN "UNASSIGNED_STACK" Bundle.steD) ∈ flatC (Jvm.Cond.and given_1 narrow_1) ∧ Cond.isRef (.static Bundle.tN "SUPPRESSED_SENTINEL" Bundle.listD) ∈ flatC (Jvm.Cond.and given_1 narrow_1) := by decide +kernel
theorem tk_more0 (hts : ∀ w ∈ lw_tbl, w.before args s = true) (hgv : (Jvm.Cond.and given_1 narrow_1).before args s = true) {A : Nat → Prop} (hA : ∀ a : Nat, a < s.heap.size → ¬ A a) : tk_more A s := by
  have hs := flat_of_before _ hgv
  obtain ⟨t1, t2, t3⟩ := tk_sa1
  obtain ⟨u1, u2⟩ := tk_sa2
  exact ⟨vx_Zqof (hts _ t1) (hts _ t3) (hs _ u1) hA, vx_Zqof (hts _ t2) (hts _ t3) (hs _ u2) hA, fun w hw => va_Nw.of (tk_ncw w hw).2 (hts _ (tk_ncw w hw).1), fun x y hx hy hn => va_Nc.of (hs _ (tk_ncc x hx y hy hn))⟩
end TKW
theorem mo_fs_cg {a a' : Nat → Nat} (h : ∀ i, i < 23 → a' (57 + i) = a (57 + i)) : mo_fs a' 23 = mo_fs a 23 := by
  unfold mo_fs
  congr 1
  apply List.map_congr_left
  intro i hi
  have hi : i < 23 := List.mem_range.mp hi
  rw [if_pos hi, if_pos hi, h i hi]
theorem e_tk_cg {K : Nat → ClassId} {a a' : Nat → Nat} {p : Nat} (hp : p < 56) (h : ∀ q, q < 56 → a' q = a q) : e_tk K a' p = e_tk K a p := by
  unfold e_tk
  rw [h 1 (by decide), h 47 (by decide), h 46 (by decide)]
  by_cases g0 : p = 0
  · rw [if_pos g0, if_pos g0]
  rw [if_neg g0, if_neg g0]
  by_cases g1 : p < 46
  · rw [if_pos g1, if_pos g1]
    exact e_tr_ne g0 g1 (fun q hq => (h q (by omega)).symm)
  rw [if_neg g1, if_neg g1]
  have e1 : (fun j => if j < 8 then some (a' (48 + j)) else none) = (fun j => if j < 8 then some (a (48 + j)) else none) := by
    funext j
    by_cases hj : j < 8
    · rw [if_pos hj, if_pos hj, h (48 + j) (by omega)]
    · rw [if_neg hj, if_neg hj]
  rw [e1]
theorem tk_lv_sub {ls : Array Slot} {nL : Nat} {a b : List (Nat × Value)} (h : lv_has ls nL a) (hs : ∀ q ∈ b, q ∈ a) : lv_has ls nL b := ⟨h.1, h.2.1, fun q hq => h.2.2 q (hs q hq)⟩
set_option maxHeartbeats 2000000 in
set_option maxRecDepth 100000 in
/-- from the entry, for every script of at most 2048 ints, the law comes to its end with true -/
theorem whole_start {p : Program} {e : Env} {s : State} {m : MethodId} {below : List Frame} {meth : Method} {c : Code} (l : Launch) (hst : l.stackTraces = false) {b L : Nat} {xs : Nat → Int32} (hL : L ≤ 2048) (C0 : lw_At p s m meth c b L xs) : W p l e room_1 s m #[Value.ref b] below meth c s.heap [] 0 0 (lw_Z below #[Value.ref b] s) (entryFrame m ([Value.ref b] : List Value).toArray 7) := by
  obtain ⟨hx, hb, hr, hml, hown, hts, hX, hbl, hlocks, hgv⟩ := C0
  have htk : ∀ w ∈ tk_tbl, w.before #[Value.ref b] s = true := fun w hw => hts w (List.mem_filter.mp hw).1
  have htk0 : ∀ w ∈ tk_tbl, w.before #[] s = true := fun w hw => tk_wAny hw (State.WarmedH.refl s) (htk w hw)
  have hov : ∀ C ∈ tk_aos, va_AO C s := fun C hC => va_AO.of (hts _ (tk_aow C hC))
  obtain ⟨D, hD⟩ := tk_wD htk
  obtain ⟨K, hK⟩ := tk_wK htk hov D
  have hA : ∀ a : Nat, a < s.heap.size → ¬ (fun q => s.heap.size ≤ q) a := fun a h1 h2 => by
    have h2 : s.heap.size ≤ a := h2
    omega
  have hmore : tk_more (fun q => s.heap.size ≤ q) s := tk_more0 hts hgv hA
  generalize hAe : (fun q => s.heap.size ≤ q) = A at hmore hA
  have hA1 : ∀ q, A q → s.heap.size ≤ q := fun q h => by rw [← hAe] at h; exact h
  have hA2 : ∀ q : Nat, s.heap.size ≤ q → A q := fun q h => by rw [← hAe]; exact h
  have hFc : tk_Fc D K A s := ⟨htk0, ⟨hD, hK⟩, hA2, fun w hw => hmore.2.2.1 w (List.mem_append_left _ hw), hov⟩
  have X : tk_Xc p s m #[Value.ref b] c D K A "TrackKeeperLaw" code 7 := ⟨hx, hb, hml, hown, htk, hFc⟩
  have hl := lv_entry ([Value.ref b]) (n := 7) (Nat.le_of_ble_eq_true rfl)
  rw [lg_entry_eq]
  generalize (lg_sl ([Value.ref b]) ++ List.replicate (7 - (lg_sl ([Value.ref b])).length) Slot.unset).toArray = ls at hl ⊢
  have hl : lv_has ls 7 [(0, .ref b)] := hl
  have hV0 : tk_Vw D A 0 (fun _ => 0) (fun _ => e_au) s.heap := ⟨fun i h => absurd h (Nat.not_lt_zero _), fun i j h => absurd h (Nat.not_lt_zero _), fun i h => absurd h (Nat.not_lt_zero _)⟩
  refine tk_vnew (ci := 0) (fs := [.null, .null, .null, .int 0, .int 0, .int 0, .int 0, .int 0]) X rfl wk_La8 wm_TK wn_TK (by decide +kernel) (by decide) (by decide) (tk_dec3 tg_La_law rfl) hV0 va_S.rf fun a1 H1 ha1 hV1 hS1 => ?_
  refine lv_dup hx hb (tk_dec1 tg_La_law rfl) rfl ?_
  refine tk_vcall X (k_TK_init l D K a1 _ (by rw [if_pos rfl]) rfl) wc_TK_init wi_TK_init (Or.inl lk_La_61.1) rfl (by decide) (by decide +kernel) (by decide +kernel) (tk_dec3 tg_La_law rfl) hl.1 (by decide) (by show 1 + 0 + (2 + 11) + 60 ≤ 380; decide) (by decide) (by decide) hV1 hS1 ?_
  rintro _ a2 E2 H2 locs2 ⟨rfl, ha2, hE2⟩ hV2 hS2
  refine lv_astore_n (lv' := [(1, .ref (a1 0)), (0, .ref b)]) hx hb (tk_dec1 tg_La_law rfl) rfl hl (by decide) rfl fun ls1 hl1 => ?_
  refine tk_vnew (ci := 6) (fs := List.replicate 12 (.int 0) ++ List.replicate 23 .null) X rfl wk_La62 wm_Mo wn_Mo (by decide +kernel) (by decide) (by decide) (tk_dec3 tg_La_law rfl) hV2 hS2 fun a3 H3 ha3 hV3 hS3 => ?_
  refine lv_dup hx hb (tk_dec1 tg_La_law rfl) rfl ?_
  refine tk_vcall X (k_Mo_init l D K a3 _ (by rw [if_pos rfl]; rfl) rfl) wc_Mo_init wi_Mo_init (Or.inl lk_La_64.1) rfl (by decide) (by decide +kernel) (by decide +kernel) (tk_dec3 tg_La_law rfl) hl1.1 (by decide) (by show 1 + 0 + (1 + 11) + 20 ≤ 380; decide) (by decide) (by decide) hV3 hS3 ?_
  rintro _ a4 E4 H4 locs4 ⟨rfl, ha4, hE4⟩ hV4 hS4
  refine lv_astore_n (lv' := [(2, .ref (a3 56)), (1, .ref (a1 0)), (0, .ref b)]) hx hb (tk_dec1 tg_La_law rfl) rfl hl1 (by decide) rfl fun ls2 hl2 => ?_
  refine lv_iconst (v := nI 1) hx hb (tk_dec1 tg_La_law rfl) (by decide) ?_
  refine tk_newa (t := 2) (ty := .long) (N := 1) (a0 := (1, .inr (.inl fun _ => 0))) X rfl (fun _ h => h) rfl wa_j (fun _ => rfl) (by decide) (by decide) (by decide) (by decide) (by decide) (tk_dec2 tg_La_law rfl) hV4 hS4 fun a5 H5 ha5 hV5 hS5 => ?_
  refine lv_astore_n (lv' := [(3, .ref (a5 80)), (2, .ref (a3 56)), (1, .ref (a1 0)), (0, .ref b)]) hx hb (tk_dec1 tg_La_law rfl) rfl hl2 (by decide) rfl fun ls3 hl3 => ?_
  refine lv_iconst (v := 0) hx hb (tk_dec1 tg_La_law rfl) (by decide) ?_
  refine lv_istore (lv' := [(4, .int 0), (3, .ref (a5 80)), (2, .ref (a3 56)), (1, .ref (a1 0)), (0, .ref b)]) hx hb (tk_dec2 tg_La_law rfl) hl3 (by decide) rfl fun ls4 hl4 => ?_
  have f0 : a5 0 = a1 0 := by rw [ha5 0 (by decide), ha4 0 (by decide), ha3 0 (by decide), ha2 0 (by decide)]
  have f56 : a5 56 = a3 56 := by rw [ha5 56 (by decide), ha4 56 (by decide)]
  have hE5 : ∀ q, q < 81 → (fun i => if i = 80 then (.inl (K 2, 1, .inr (.inl fun _ => 0)) : va_E) else E4 i) q = e_all K a5 q := by
    intro q hq
    show (if q = 80 then _ else E4 q) = _
    unfold e_all
    by_cases g0 : q = 80
    · rw [if_pos g0, if_pos g0]
    rw [if_neg g0, if_neg g0, hE4 q (by omega)]
    unfold e_mo
    by_cases g1 : q = 56
    · rw [if_pos g1, if_neg (by omega), if_pos g1, mo_fs_cg (fun i hi => ha5 (57 + i) (by omega))]
    rw [if_neg g1]
    by_cases g2 : q < 56
    · rw [if_pos (show q < 57 by omega), if_pos g2]
      show (if q = 56 then _ else E2 q) = _
      rw [if_neg g1, hE2 q g2]
      exact (e_tk_cg g2 (fun z hz => by rw [ha5 z (by omega), ha4 z (by omega), ha3 z (by omega)])).symm
    · rw [if_neg (show ¬ q < 57 by omega), if_neg g2, if_neg g1]
  obtain ⟨hWd, hSt⟩ := tk_zW (b := b) (K := K) hV5 hE5
  have hF : tk_F (tk_Gz a5 b D K) A s := ⟨htk0, ⟨hD, hK⟩, hSt, hA2, hmore⟩
  have hB : tk_BL p s m b meth c (tk_Gz a5 b D K) A L xs := ⟨hF, ⟨hx, hb, hml, hown, htk, ⟨hD, hK⟩, hSt, hA2, fun _ => ⟨hX, hbl, hA b hbl, by omega⟩⟩, hlocks, hr, hA1⟩
  have hlv : lv_has ls4 7 (tk_lv (tk_Gz a5 b D K) 0 [some (.inr 99), some (.inr 1), some (.inr 7), some (.inr 0), some (.inl (4 * ((0 : Nat) : Int))), none, none]) := by
    refine tk_lv_sub hl4 fun q hq => ?_
    have hq : q ∈ [((0 : Nat), Value.ref b), (1, .ref (a5 0)), (2, .ref (a5 56)), (3, .ref (a5 80)), (4, .int 0)] := hq
    rw [f0, f56] at hq
    simp only [List.mem_cons, List.not_mem_nil, or_false] at hq ⊢
    rcases hq with rfl | rfl | rfl | rfl | rfl
    · exact Or.inr (Or.inr (Or.inr (Or.inr rfl)))
    · exact Or.inr (Or.inr (Or.inr (Or.inl rfl)))
    · exact Or.inr (Or.inr (Or.inl rfl))
    · exact Or.inr (Or.inl rfl)
    · exact Or.inl rfl
  exact law_loop (c0 := 81) (s0 := 765) (xs := xs) hst hL (by decide) (by decide) 513 0 (by omega) (by omega) tk_M0 none none j_zero p e s m b below meth c (tk_Gz a5 b D K) A hB H5 locs4 ls4 hWd hS5 ⟨rfl, hlv, fun n v hv => by
    match n, hv with
    | 0, hv => cases hv; trivial
    | 1, hv => cases hv; trivial
    | 2, hv => cases hv; trivial
    | 3, hv => cases hv; trivial
    | 4, hv => cases hv; exact ⟨by decide, by decide⟩
    | 5, hv => cases hv
    | 6, hv => cases hv
    | n + 7, hv => cases hv⟩ tk_rs.nil
