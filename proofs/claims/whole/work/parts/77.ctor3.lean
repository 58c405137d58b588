/-! THE CONSTRUCTOR of the reference: 23 arrays, one field each -/
def mo_n (j : Nat) : Nat := [32, 33, 10, 10, 32, 32, 32, 32, 10, 10, 8, 8, 8, 8, 8, 8, 8, 8, 8, 10, 8, 8, 8].getD j 0
def mo_b (j : Nat) : Bool := [false, false, false, false, false, false, false, false, true, true, true, true, true, false, false, false, false, false, false, true, true, false, false].getD j false
def mo_x (j : Nat) : Nat := [9, 13, 16, 19, 22, 25, 28, 31, 34, 38, 41, 44, 47, 50, 53, 56, 59, 62, 65, 68, 71, 74, 77].getD j 0
def mo_s : Nat → Nat
  | 0 => 0
  | j + 1 => mo_s j + mo_n j
def mo_t (j : Nat) : Nat := if mo_b j then 1 else 0
def mo_fs (a : Nat → Nat) (j : Nat) : List Value := List.replicate 12 (.int 0) ++ (List.range 23).map (fun i => if i < j then .ref (a (57 + i)) else .null)
def e_mo (K : Nat → ClassId) (E : Nat → va_E) (a : Nat → Nat) (j : Nat) : Nat → va_E := fun p => if p = 56 then .inr (6, mo_fs a j) else if p < 57 then E p else .inl (K (mo_t (p - 57)), mo_n (p - 57), .inl fun _ => 0)
theorem mo_s_le : ∀ j, j < 24 → mo_s j ≤ 339 := by decide
theorem mo_n_ok : ∀ j, j < 23 → (Int8.ofInt (mo_n j)).toInt32 = nI (mo_n j) ∧ mo_n j < 1000 := by decide
set_option maxRecDepth 10000 in
theorem mo_d : ∀ j, j < 23 → decode prog_8_method_1_code (4 + 8 * j) = .ok (.aload_n 0, 1) ∧ decode prog_8_method_1_code (4 + 8 * j + 1) = .ok (.bipush (mo_n j), 2) ∧ decode prog_8_method_1_code (4 + 8 * j + 1 + 2) = .ok (.newarray (if mo_b j then .boolean else .int), 2) ∧ decode prog_8_method_1_code (4 + 8 * j + 1 + 2 + 2) = .ok (.putfield (mo_x j), 3) := by decide +kernel
theorem mo_f : ∀ j, j < 23 → (mo_x j, 6, 12 + j, 7, 8, 10 + j) ∈ fl_Mo := by decide
theorem mo_g : ∀ j, j < 23 → (tk_T6 (12 + j)).2.2.2 = true ∧ (tk_T6 (12 + j)).1 = "TrackKeeperModel" ∧ ((parseFieldDescriptor (tk_T6 (12 + j)).2.2.1).map fun ty => (match ty with | .object _ => true | .array _ => true | _ => false)) = some true := by decide +kernel
theorem mo_w {j : Nat} (h : j < 23) : Cond.fieldLink "TrackKeeperModel" (mo_x j) (tk_T6 (12 + j)).1 (tk_T6 (12 + j)).2.1 (tk_T6 (12 + j)).2.2.1 ∈ tk_tbl := by
  obtain ⟨C, T, N, fs, hc, h1, h2, -⟩ := tk_flok.get fo_Mo (mo_f j h) (Nat.le_refl 7) (by decide)
  cases hc.symm.trans (rfl : tk_cl[6]? = some ("TrackKeeperModel", tk_T6, 35))
  exact h2
theorem mo_set {a a' : Nat → Nat} {j : Nat} (hj : j < 23) (ha : ∀ p, p < 57 + j → a' p = a p) : (mo_fs a j).set (12 + j) (.ref (a' (57 + j))) = mo_fs a' (j + 1) := by
  unfold mo_fs
  rw [List.set_append, if_neg (by simp)]
  congr 1
  apply List.ext_getElem?
  intro k
  rw [List.getElem?_set]
  simp only [List.length_replicate, Nat.add_sub_cancel_left, List.length_map, List.length_range, List.getElem?_map]
  by_cases e : j = k
  · subst e
    rw [if_pos rfl, if_pos hj, List.getElem?_range hj]
    simp
  · rw [if_neg e]
    by_cases hk : k < 23
    · rw [List.getElem?_range hk]
      simp only [Option.map_some]
      by_cases h1 : k < j
      · rw [if_pos h1, if_pos (by omega), ha (57 + k) (by omega)]
      · rw [if_neg h1, if_neg (by omega)]
    · have : (List.range 23)[k]? = none := by
        rw [List.getElem?_eq_none_iff]
        simp
        omega
      rw [this]
      rfl
theorem mo_len (a : Nat → Nat) (j : Nat) : (mo_fs a j).length = 35 := by simp [mo_fs]
theorem d_Mo_0 : decode prog_8_method_1_code 0 = .ok (.aload_n 0, 1) := by decide +kernel
theorem d_Mo_1 : decode prog_8_method_1_code 1 = .ok (.invokespecial 1, 3) := by decide +kernel
theorem d_Mo_188 : decode prog_8_method_1_code (4 + 8 * 23) = .ok (.return_, 1) := by decide +kernel
set_option maxHeartbeats 1000000 in
theorem lp_Mo {p : Program} {l : Launch} {e : Env} {R : Room} {s : State} {m : MethodId} {args : Array Value} {below : List Frame} {meth : Method} {c : Code} {Q : State → Prop} {D : va_G} {K : Nat → ClassId} {A : Nat → Prop} (X : tk_Xc p s m args c D K A "TrackKeeperModel" prog_8_method_1_code 1) (hin : meth.name = "<init>") {h0 : Nat} {ls : Array Slot} (hl : lv_has ls 1 [(0, .ref h0)]) {E : Nat → va_E} {a0 : Nat → Nat} (hh0 : a0 56 = h0) (hcl : 23 ≤ R.cells) (hsl : 339 ≤ R.slots)
    (kk : ∀ (a : Nat → Nat) (H : Heap) (locs : List Loc), (∀ p, p < 57 → a p = a0 p) → tk_Vw D A 80 a (e_mo K E a 23) H → va_S A s.heap H locs → W p l e R s m args below meth c H locs 23 (mo_s 23) Q (F0 m (4 + 8 * 23) ls [])) :
    ∀ (r j : Nat), j + r = 23 → ∀ (a : Nat → Nat) (H : Heap) (locs : List Loc), (∀ p, p < 57 → a p = a0 p) → tk_Vw D A (57 + j) a (e_mo K E a j) H → va_S A s.heap H locs → W p l e R s m args below meth c H locs j (mo_s j) Q (F0 m (4 + 8 * j) ls []) := by
  intro r
  induction r with
  | zero =>
    intro j hj a H locs ha hV hS
    have e1 : j = 23 := by omega
    subst e1
    exact kk a H locs ha hV hS
  | succ r ih =>
    intro j hj a H locs ha hV hS
    have hj1 : j < 23 := by omega
    obtain ⟨d0, d1, d2, d3⟩ := mo_d j hj1
    obtain ⟨n1, n2⟩ := mo_n_ok j hj1
    obtain ⟨g1, g2, g3⟩ := mo_g j hj1
    have hs1 : mo_s (j + 1) ≤ 339 := mo_s_le (j + 1) (by omega)
    have hs2 : mo_s (j + 1) = mo_s j + mo_n j := rfl
    refine lv_aload_n X.1 X.2.1 d0 rfl (lv_at hl 0 rfl) ?_
    refine lv_bipush X.1 X.2.1 d1 n1 ?_
    have key : ∀ (a' : Nat → Nat) (H1 : Heap), (∀ i, i < 57 + j → a' i = a i) → tk_Vw D A (57 + j + 1) a' (fun i => if i = 57 + j then .inl (K (mo_t j), mo_n j, .inl fun _ => 0) else e_mo K E a j i) H1 → va_S A s.heap H1 locs → W p l e R s m args below meth c H1 locs (j + 1) (mo_s j + mo_n j) Q (F0 m (4 + 8 * j + 1 + 2 + 2) ls (.ref (a' (57 + j)) :: .ref h0 :: [])) := by
      intro a' H1 ha1 hV1 hS1
      refine tk_vput (k := 56) (j := 12 + j) (ci := 6) (fs := mo_fs a j) X hin rfl (by omega) (by omega) (by rw [if_neg (by omega)]; unfold e_mo; rw [if_pos rfl]) (mo_w hj1) g1 g2 g3 (by rw [mo_len]; omega) (by rw [ha1 56 (by omega), ha 56 (by omega)]; exact hh0) d3 hV1 hS1 fun H2 locs2 hV2 hS2 => ?_
      have hV3 : tk_Vw D A (57 + (j + 1)) a' (e_mo K E a' (j + 1)) H2 := by
        refine tk_Vw.eq hV2 fun q hq => ?_
        unfold e_mo
        by_cases e1 : q = 56
        · rw [if_pos e1, if_pos e1, mo_set hj1 ha1]
        · rw [if_neg e1, if_neg e1]
          by_cases e2 : q = 57 + j
          · rw [if_neg (show ¬ q < 57 by omega), if_pos e2, show q - 57 = j by omega]
          · rw [if_neg e2, if_neg e1]
      have h9 := ih (j + 1) (by omega) a' H2 locs2 (fun q hq => by rw [ha1 q (by omega)]; exact ha q hq) hV3 hS2
      exact h9
    cases hbj : mo_b j with
    | true =>
      rw [hbj] at d2
      have ht : mo_t j = 1 := by unfold mo_t; rw [hbj]; rfl
      rw [ht] at key
      exact tk_newa (t := 1) (ty := .boolean) (N := mo_n j) (a0 := (mo_n j, .inl fun _ => 0)) X rfl (fun _ h => h) rfl wa_z (fun _ => rfl) (nI_pos (by omega)) (nI_clamp (by omega)) (by show mo_n j * 1 ≤ _; omega) (by omega) (by omega) d2 hV hS key
    | false =>
      rw [hbj] at d2
      have ht : mo_t j = 0 := by unfold mo_t; rw [hbj]; rfl
      rw [ht] at key
      exact tk_newa (t := 0) (ty := .int) (N := mo_n j) (a0 := (mo_n j, .inl fun _ => 0)) X rfl (fun _ h => h) rfl wa_i (fun _ => rfl) (nI_pos (by omega)) (nI_clamp (by omega)) (by show mo_n j * 4 ≤ _; omega) (by omega) (by omega) d2 hV hS key
theorem k_Mo_init (l : Launch) (D : va_G) (K : Nat → ClassId) (a : Nat → Nat) (E : Nat → va_E) (hE : E 56 = .inr (6, mo_fs a 0)) {h0 : Nat} (hh0 : a 56 = h0) :
    tk_Ci l y_Mo_init 1 20 23 339 D K h0 57 a E (fun n' a' E' => n' = 80 ∧ (∀ p, p < 57 → a' p = a p) ∧ ∀ p, p < 80 → E' p = e_mo K E a' 23 p) := by
  refine tk_Ci.of wc_Mo_init rfl rfl (by decide) fun p e R s m below meth c A ls X hlk hret hin h1 h2 h3 h4 hV hl => ?_
  refine lv_aload_n X.1 X.2.1 d_Mo_0 rfl (lv_at hl 0 rfl) ?_
  refine tk_vobj X wo_Mo hl.1 d_Mo_1 (by omega) (by show 0 + 12 ≤ _; omega) wo_i wo_c ?_
  refine lp_Mo (E := E) (a0 := a) X hin hl hh0 h3 h4 (fun a' H locs ha' hV' hS' => ?_) 23 0 rfl a s.heap [] (fun _ _ => rfl) (tk_Vw.eq hV fun q hq => ?_) va_S.rf
  · exact tk_vret X hlk hret (Nat.le_refl _) (mo_s_le 23 (by decide)) d_Mo_188 hV' hS' ⟨rfl, ha', fun q _ => rfl⟩
  · unfold e_mo
    by_cases e1 : q = 56
    · rw [if_pos e1, e1, hE]
    · rw [if_neg e1, if_pos (show q < 57 by omega)]
