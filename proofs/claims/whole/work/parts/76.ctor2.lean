/-! THE CONSTRUCTORS of the track, of the class, of the reference -/
theorem d_Tr_0 : decode prog_5_method_1_code 0 = .ok (.aload_n 0, 1) := by decide +kernel
theorem d_Tr_1 : decode prog_5_method_1_code 1 = .ok (.invokespecial 3, 3) := by decide +kernel
theorem d_Tr_4 : decode prog_5_method_1_code 4 = .ok (.aload_n 0, 1) := by decide +kernel
theorem d_Tr_5 : decode prog_5_method_1_code 5 = .ok (.bipush 10, 2) := by decide +kernel
theorem d_Tr_7 : decode prog_5_method_1_code 7 = .ok (.anewarray 9, 3) := by decide +kernel
theorem d_Tr_10 : decode prog_5_method_1_code 10 = .ok (.putfield 11, 3) := by decide +kernel
theorem d_Tr_13 : decode prog_5_method_1_code 13 = .ok (.aload_n 0, 1) := by decide +kernel
theorem d_Tr_14 : decode prog_5_method_1_code 14 = .ok (.bipush 32, 2) := by decide +kernel
theorem d_Tr_16 : decode prog_5_method_1_code 16 = .ok (.anewarray 17, 3) := by decide +kernel
theorem d_Tr_19 : decode prog_5_method_1_code 19 = .ok (.putfield 19, 3) := by decide +kernel
theorem d_Tr_22 : decode prog_5_method_1_code 22 = .ok (.iconst 0, 1) := by decide +kernel
theorem d_Tr_23 : decode prog_5_method_1_code 23 = .ok (.istore_n 1, 1) := by decide +kernel
theorem d_Tr_24 : decode prog_5_method_1_code 24 = .ok (.iload_n 1, 1) := by decide +kernel
theorem d_Tr_25 : decode prog_5_method_1_code 25 = .ok (.bipush 10, 2) := by decide +kernel
theorem d_Tr_27 : decode prog_5_method_1_code 27 = .ok (.if_icmp .ge 22, 3) := by decide +kernel
theorem d_Tr_30 : decode prog_5_method_1_code 30 = .ok (.aload_n 0, 1) := by decide +kernel
theorem d_Tr_31 : decode prog_5_method_1_code 31 = .ok (.getfield 11, 3) := by decide +kernel
theorem d_Tr_34 : decode prog_5_method_1_code 34 = .ok (.iload_n 1, 1) := by decide +kernel
theorem d_Tr_35 : decode prog_5_method_1_code 35 = .ok (.new 9, 3) := by decide +kernel
theorem d_Tr_38 : decode prog_5_method_1_code 38 = .ok (.dup, 1) := by decide +kernel
theorem d_Tr_39 : decode prog_5_method_1_code 39 = .ok (.invokespecial 23, 3) := by decide +kernel
theorem d_Tr_42 : decode prog_5_method_1_code 42 = .ok (.aastore, 1) := by decide +kernel
theorem d_Tr_43 : decode prog_5_method_1_code 43 = .ok (.iinc 1 1, 3) := by decide +kernel
theorem d_Tr_46 : decode prog_5_method_1_code 46 = .ok (.goto (-22), 3) := by decide +kernel
theorem d_Tr_49 : decode prog_5_method_1_code 49 = .ok (.iconst 0, 1) := by decide +kernel
theorem d_Tr_50 : decode prog_5_method_1_code 50 = .ok (.istore_n 1, 1) := by decide +kernel
theorem d_Tr_51 : decode prog_5_method_1_code 51 = .ok (.iload_n 1, 1) := by decide +kernel
theorem d_Tr_52 : decode prog_5_method_1_code 52 = .ok (.bipush 32, 2) := by decide +kernel
theorem d_Tr_54 : decode prog_5_method_1_code 54 = .ok (.if_icmp .ge 22, 3) := by decide +kernel
theorem d_Tr_57 : decode prog_5_method_1_code 57 = .ok (.aload_n 0, 1) := by decide +kernel
theorem d_Tr_58 : decode prog_5_method_1_code 58 = .ok (.getfield 19, 3) := by decide +kernel
theorem d_Tr_61 : decode prog_5_method_1_code 61 = .ok (.iload_n 1, 1) := by decide +kernel
theorem d_Tr_62 : decode prog_5_method_1_code 62 = .ok (.new 17, 3) := by decide +kernel
theorem d_Tr_65 : decode prog_5_method_1_code 65 = .ok (.dup, 1) := by decide +kernel
theorem d_Tr_66 : decode prog_5_method_1_code 66 = .ok (.invokespecial 24, 3) := by decide +kernel
theorem d_Tr_69 : decode prog_5_method_1_code 69 = .ok (.aastore, 1) := by decide +kernel
theorem d_Tr_70 : decode prog_5_method_1_code 70 = .ok (.iinc 1 1, 3) := by decide +kernel
theorem d_Tr_73 : decode prog_5_method_1_code 73 = .ok (.goto (-22), 3) := by decide +kernel
theorem d_Tr_76 : decode prog_5_method_1_code 76 = .ok (.return_, 1) := by decide +kernel
theorem d_TK_0 : decode prog_1_method_1_code 0 = .ok (.aload_n 0, 1) := by decide +kernel
theorem d_TK_1 : decode prog_1_method_1_code 1 = .ok (.invokespecial 1, 3) := by decide +kernel
theorem d_TK_4 : decode prog_1_method_1_code 4 = .ok (.aload_n 0, 1) := by decide +kernel
theorem d_TK_5 : decode prog_1_method_1_code 5 = .ok (.new 7, 3) := by decide +kernel
theorem d_TK_8 : decode prog_1_method_1_code 8 = .ok (.dup, 1) := by decide +kernel
theorem d_TK_9 : decode prog_1_method_1_code 9 = .ok (.invokespecial 9, 3) := by decide +kernel
theorem d_TK_12 : decode prog_1_method_1_code 12 = .ok (.putfield 10, 3) := by decide +kernel
theorem d_TK_15 : decode prog_1_method_1_code 15 = .ok (.aload_n 0, 1) := by decide +kernel
theorem d_TK_16 : decode prog_1_method_1_code 16 = .ok (.new 16, 3) := by decide +kernel
theorem d_TK_19 : decode prog_1_method_1_code 19 = .ok (.dup, 1) := by decide +kernel
theorem d_TK_20 : decode prog_1_method_1_code 20 = .ok (.invokespecial 18, 3) := by decide +kernel
theorem d_TK_23 : decode prog_1_method_1_code 23 = .ok (.putfield 19, 3) := by decide +kernel
theorem d_TK_26 : decode prog_1_method_1_code 26 = .ok (.aload_n 0, 1) := by decide +kernel
theorem d_TK_27 : decode prog_1_method_1_code 27 = .ok (.bipush 8, 2) := by decide +kernel
theorem d_TK_29 : decode prog_1_method_1_code 29 = .ok (.anewarray 23, 3) := by decide +kernel
theorem d_TK_32 : decode prog_1_method_1_code 32 = .ok (.putfield 25, 3) := by decide +kernel
theorem d_TK_35 : decode prog_1_method_1_code 35 = .ok (.iconst 0, 1) := by decide +kernel
theorem d_TK_36 : decode prog_1_method_1_code 36 = .ok (.istore_n 1, 1) := by decide +kernel
theorem d_TK_37 : decode prog_1_method_1_code 37 = .ok (.iload_n 1, 1) := by decide +kernel
theorem d_TK_38 : decode prog_1_method_1_code 38 = .ok (.bipush 8, 2) := by decide +kernel
theorem d_TK_40 : decode prog_1_method_1_code 40 = .ok (.if_icmp .ge 22, 3) := by decide +kernel
theorem d_TK_43 : decode prog_1_method_1_code 43 = .ok (.aload_n 0, 1) := by decide +kernel
theorem d_TK_44 : decode prog_1_method_1_code 44 = .ok (.getfield 25, 3) := by decide +kernel
theorem d_TK_47 : decode prog_1_method_1_code 47 = .ok (.iload_n 1, 1) := by decide +kernel
theorem d_TK_48 : decode prog_1_method_1_code 48 = .ok (.new 23, 3) := by decide +kernel
theorem d_TK_51 : decode prog_1_method_1_code 51 = .ok (.dup, 1) := by decide +kernel
theorem d_TK_52 : decode prog_1_method_1_code 52 = .ok (.invokespecial 29, 3) := by decide +kernel
theorem d_TK_55 : decode prog_1_method_1_code 55 = .ok (.aastore, 1) := by decide +kernel
theorem d_TK_56 : decode prog_1_method_1_code 56 = .ok (.iinc 1 1, 3) := by decide +kernel
theorem d_TK_59 : decode prog_1_method_1_code 59 = .ok (.goto (-22), 3) := by decide +kernel
theorem d_TK_62 : decode prog_1_method_1_code 62 = .ok (.return_, 1) := by decide +kernel
def e_tr (K : Nat → ClassId) (e0 : va_E) (a : Nat → Nat) : Nat → va_E := fun p => if p = 0 then e0 else if p = 1 then .inr (1, [.ref (a 2), .ref (a 3), .int 0, .int 0, .int 0, .int 0]) else if p = 2 then e_rf (K 4) 10 (fun j => if j < 10 then some (a (4 + j)) else none) else if p = 3 then e_rf (K 5) 32 (fun j => if j < 32 then some (a (14 + j)) else none) else if p < 14 then e_se else e_su
set_option maxHeartbeats 1000000 in
theorem k_Tr_init (l : Launch) (D : va_G) (K : Nat → ClassId) (a : Nat → Nat) (E : Nat → va_E) (hE : E 1 = .inr (1, [.null, .null, .int 0, .int 0, .int 0, .int 0])) {h0 : Nat} (hh0 : a 1 = h0) :
    tk_Ci l y_Tr_init 2 30 44 262 D K h0 2 a E (fun n' a' E' => n' = 46 ∧ (∀ p, p < 2 → a' p = a p) ∧ ∀ p, p < 46 → E' p = e_tr K (E 0) a' p) := by
  refine tk_Ci.of wc_Tr_init rfl rfl (by decide) fun p e R s m below meth c A ls X hlk hret hin h1 h2 h3 h4 hV hl => ?_
  have hx := X.1
  have hb := X.2.1
  refine lv_aload_n hx hb d_Tr_0 rfl (lv_at hl 0 rfl) ?_
  refine tk_vobj X wo_Tr hl.1 d_Tr_1 (by omega) (by show 0 + 12 ≤ _; omega) wo_i wo_c ?_
  refine lv_aload_n hx hb d_Tr_4 rfl (lv_at hl 0 rfl) ?_
  refine lv_bipush (v := nI 10) hx hb d_Tr_5 (by decide) ?_
  refine tk_newq (t := 4) (C := "TrackKeeper$Section") (N := 10) X rfl wk_Tr9 (by decide) (by decide) (by decide) (by decide) (by omega) (by omega) d_Tr_7 hV va_S.rf fun a1 H1 ha1 hV1 hS1 => ?_
  refine tk_vput (k := 1) (j := 0) (ci := 1) (fs := [.null, .null, .int 0, .int 0, .int 0, .int 0]) X hin rfl (by decide) (by decide) (by rw [if_neg (by decide)]; exact hE) wf_Tr11 rfl rfl (by decide +kernel) (by decide) (by rw [ha1 1 (by decide)]; exact hh0) d_Tr_10 hV1 hS1 fun H2 locs2 hV2 hS2 => ?_
  refine lv_aload_n hx hb d_Tr_13 rfl (lv_at hl 0 rfl) ?_
  refine lv_bipush (v := nI 32) hx hb d_Tr_14 (by decide) ?_
  refine tk_newq (t := 5) (C := "TrackKeeper$Subsection") (N := 32) X rfl wk_Tr17 (by decide) (by decide) (by decide) (by decide) (by omega) (by omega) d_Tr_16 hV2 hS2 fun a2 H3 ha2 hV3 hS3 => ?_
  refine tk_vput (k := 1) (j := 1) (ci := 1) (fs := [.ref (a1 2), .null, .int 0, .int 0, .int 0, .int 0]) X hin rfl (by decide) (by decide) (by rw [if_neg (by decide), if_pos rfl]; rfl) wf_Tr19 rfl rfl (by decide +kernel) (Nat.le_of_ble_eq_true rfl) (by rw [ha2 1 (by decide), ha1 1 (by decide)]; exact hh0) d_Tr_19 hV3 hS3 fun H4 locs4 hV4 hS4 => ?_
  refine lv_iconst (v := nI 0) hx hb d_Tr_22 (by decide) ?_
  refine lv_istore_n hx hb d_Tr_23 rfl hl (by decide) rfl fun ls1 hl1 => ?_
  have e22 : a2 2 = a1 2 := ha2 2 (by decide)
  have hV5 : tk_Vw D A (4 + 0) a2 (e_fl (fun p => if p = 0 then E 0 else if p = 1 then .inr (1, [.ref (a2 2), .ref (a2 3), .int 0, .int 0, .int 0, .int 0]) else e_rf (K 5) 32 (fun _ => none)) e_se (K 4) 10 2 4 0 a2) H4 := by
    refine tk_Vw.eq hV4 fun p hp => ?_
    have h9 : p = 0 ∨ p = 1 ∨ p = 2 ∨ p = 3 := by omega
    rcases h9 with rfl | rfl | rfl | rfl
    · rfl
    · show _ = Sum.inr (1, [Value.ref (a1 2), .ref (a2 3), .int 0, .int 0, .int 0, .int 0])
      rw [← e22]
      rfl
    · show e_rf _ _ _ = e_rf _ _ (fun _ => none)
      congr 1
    · rfl
  refine tk_fill (C := "TrackKeeper$Section") (N := 10) (b := 4) (ka := 2) (kr := 1) (t := 4) (c0 := 2) (s0 := 42) (ci := 3) (cr := 1) (jf := 0) (a0 := a2) X d_Tr_24 d_Tr_25 d_Tr_27 d_Tr_30 d_Tr_31 d_Tr_34 d_Tr_35 d_Tr_38 d_Tr_39 d_Tr_42 d_Tr_43 d_Tr_46 (by decide) (by decide) (by decide) (by decide) (by decide) (by rw [ha2 1 (by decide), ha1 1 (by decide)]; exact hh0) rfl (by decide) rfl wf_Tr11 rfl rfl wk_Tr9 wm_Se wn_Se (by decide +kernel) rfl (k_Se_init l D K) wc_Se_init wi_Se_init ⟨"TrackKeeper", by decide⟩ rfl (by decide) (by decide +kernel) (by decide +kernel) (by omega) (by omega) (by omega) (by omega) ?_ 10 0 rfl a2 H4 locs4 ls1 (fun _ _ => rfl) hV5 hS4 hl1
  intro a3 H5 locs5 ls2 ha3 hV6 hS5 hl2
  refine lv_iconst (v := nI 0) hx hb d_Tr_49 (by decide) ?_
  refine lv_istore_n hx hb d_Tr_50 rfl hl2 (by decide) rfl fun ls3 hl3 => ?_
  have hV7 : tk_Vw D A (14 + 0) a3 (e_fl (e_fl (fun p => if p = 0 then E 0 else if p = 1 then .inr (1, [.ref (a2 2), .ref (a2 3), .int 0, .int 0, .int 0, .int 0]) else e_rf (K 5) 32 (fun _ => none)) e_se (K 4) 10 2 4 10 a3) e_su (K 5) 32 3 14 0 a3) H5 := by
    refine tk_Vw.eq hV6 fun p hp => ?_
    by_cases h9 : p = 3
    · subst h9
      show e_rf _ _ _ = e_rf _ _ (fun _ => none)
      congr 1
    · conv => lhs; unfold e_fl
      rw [if_neg h9, if_pos (by omega)]
      rfl
  refine tk_fill (C := "TrackKeeper$Subsection") (N := 32) (b := 14) (ka := 3) (kr := 1) (t := 5) (c0 := 12) (s0 := 102) (ci := 4) (cr := 1) (jf := 1) (a0 := a3) X d_Tr_51 d_Tr_52 d_Tr_54 d_Tr_57 d_Tr_58 d_Tr_61 d_Tr_62 d_Tr_65 d_Tr_66 d_Tr_69 d_Tr_70 d_Tr_73 (by decide) (by decide) (by decide) (by decide) (by decide) (by rw [ha3 1 (by decide), ha2 1 (by decide), ha1 1 (by decide)]; exact hh0) rfl (by decide) rfl wf_Tr19 (by show some (Value.ref (a2 3)) = _; rw [ha3 3 (by decide)]) rfl wk_Tr17 wm_Su wn_Su (by decide +kernel) rfl (k_Su_init l D K) wc_Su_init wi_Su_init ⟨"TrackKeeper", by decide⟩ rfl (by decide) (by decide +kernel) (by decide +kernel) (by omega) (by omega) (by omega) (by omega) ?_ 32 0 rfl a3 H5 locs5 ls3 (fun _ _ => rfl) hV7 hS5 hl3
  intro a4 H6 locs6 ls4 ha4 hV8 hS6 hl4
  refine tk_vret X hlk hret (by omega) (by omega) d_Tr_76 hV8 hS6 ⟨rfl, fun q hq => by rw [ha4 q (by omega), ha3 q (by omega), ha2 q (by omega), ha1 q (by omega)], fun q hq => ?_⟩
  unfold e_tr
  by_cases g0 : q = 0
  · subst g0; rfl
  rw [if_neg g0]
  by_cases g1 : q = 1
  · subst g1
    rw [if_pos rfl, ha4 2 (by decide), ha4 3 (by decide), ha3 2 (by decide), ha3 3 (by decide)]
    rfl
  rw [if_neg g1]
  by_cases g2 : q = 2
  · subst g2
    rw [if_pos rfl]
    show e_rf _ _ _ = e_rf _ _ _
    congr 1
    funext j
    by_cases hj : j < 10
    · rw [if_pos hj, if_pos hj, ha4 (4 + j) (by omega)]
    · rw [if_neg hj, if_neg hj]
  rw [if_neg g2]
  by_cases g3 : q = 3
  · subst g3; rfl
  rw [if_neg g3]
  unfold e_fl
  rw [if_neg g3]
  by_cases g4 : q < 14
  · rw [if_pos g4, if_pos g4, if_neg g2, if_neg (by omega)]
  · rw [if_neg g4, if_neg g4]
    rfl
def e_tk (K : Nat → ClassId) (a : Nat → Nat) : Nat → va_E := fun p => if p = 0 then .inr (0, [.ref (a 1), .ref (a 47), .ref (a 46), .int 0, .int 0, .int 0, .int 0, .int 0]) else if p < 46 then e_tr K e_au a p else if p = 46 then e_au else if p = 47 then e_rf (K 3) 8 (fun j => if j < 8 then some (a (48 + j)) else none) else e_ti
def e_k0 (K : Nat → ClassId) (a : Nat → Nat) : Nat → va_E := fun p => if p = 0 then .inr (0, [.ref (a 1), .ref (a 47), .ref (a 46), .int 0, .int 0, .int 0, .int 0, .int 0]) else if p < 46 then e_tr K e_au a p else e_au
theorem e_tr_ne {K : Nat → ClassId} {e e' : va_E} {a a' : Nat → Nat} {p : Nat} (h : p ≠ 0) (h1 : p < 46) (ha : ∀ q, q < 46 → a' q = a q) : e_tr K e a p = e_tr K e' a' p := by
  unfold e_tr
  rw [if_neg h, if_neg h, ha 2 (by decide), ha 3 (by decide)]
  have e1 : (fun j => if j < 10 then some (a (4 + j)) else none) = (fun j => if j < 10 then some (a' (4 + j)) else none) := by
    funext j
    by_cases hj : j < 10
    · rw [if_pos hj, if_pos hj, ha (4 + j) (by omega)]
    · rw [if_neg hj, if_neg hj]
  have e2 : (fun j => if j < 32 then some (a (14 + j)) else none) = (fun j => if j < 32 then some (a' (14 + j)) else none) := by
    funext j
    by_cases hj : j < 32
    · rw [if_pos hj, if_pos hj, ha (14 + j) (by omega)]
    · rw [if_neg hj, if_neg hj]
  rw [e1, e2]
set_option maxHeartbeats 1000000 in
theorem k_TK_init (l : Launch) (D : va_G) (K : Nat → ClassId) (a : Nat → Nat) (E : Nat → va_E) (hE : E 0 = .inr (0, [.null, .null, .null, .int 0, .int 0, .int 0, .int 0, .int 0])) {h0 : Nat} (hh0 : a 0 = h0) :
    tk_Ci l y_TK_init 3 60 55 382 D K h0 1 a E (fun n' a' E' => n' = 56 ∧ (∀ p, p < 1 → a' p = a p) ∧ ∀ p, p < 56 → E' p = e_tk K a' p) := by
  refine tk_Ci.of wc_TK_init rfl rfl (by decide) fun p e R s m below meth c A ls X hlk hret hin h1 h2 h3 h4 hV hl => ?_
  have hx := X.1
  have hb := X.2.1
  refine lv_aload_n hx hb d_TK_0 rfl (lv_at hl 0 rfl) ?_
  refine tk_vobj X wo_TK hl.1 d_TK_1 (by omega) (by show 0 + 12 ≤ _; omega) wo_i wo_c ?_
  refine lv_aload_n hx hb d_TK_4 rfl (lv_at hl 0 rfl) ?_
  refine tk_vnew (ci := 1) (fs := [.null, .null, .int 0, .int 0, .int 0, .int 0]) X rfl wk_TK7 wm_Tr wn_Tr (by decide +kernel) (by omega) (by omega) d_TK_5 hV va_S.rf fun a1 H1 ha1 hV1 hS1 => ?_
  refine lv_dup hx hb d_TK_8 rfl ?_
  refine tk_vcall X (k_Tr_init l D K a1 _ (by rw [if_pos rfl]) rfl) wc_Tr_init wi_Tr_init (Or.inl lk_TK_9.1) rfl (by decide) (by decide +kernel) (by decide +kernel) d_TK_9 hl.1 (by omega) (by show 1 + (1 + 0) + (2 + 11) + 30 ≤ _; omega) (by omega) (by omega) hV1 hS1 ?_
  rintro _ a2 E2 H2 locs2 ⟨rfl, ha2, hE2⟩ hV2 hS2
  have e20 : a2 0 = h0 := by rw [ha2 0 (by decide), ha1 0 (by decide)]; exact hh0
  have e21 : a2 1 = a1 1 := ha2 1 (by decide)
  refine tk_vput (k := 0) (j := 0) (ci := 0) (fs := [.null, .null, .null, .int 0, .int 0, .int 0, .int 0, .int 0]) X hin rfl (by decide) (by decide) (by rw [hE2 0 (by decide)]; exact hE) wf_TK10 rfl rfl (by decide +kernel) (by decide) e20 d_TK_12 hV2 hS2 fun H3 locs3 hV3 hS3 => ?_
  refine lv_aload_n hx hb d_TK_15 rfl (lv_at hl 0 rfl) ?_
  refine tk_vnew (ci := 2) (fs := [.int 0, .int 0]) X rfl wk_TK16 wm_Au wn_Au (by decide +kernel) (by omega) (by omega) d_TK_16 hV3 hS3 fun a3 H4 ha3 hV4 hS4 => ?_
  refine lv_dup hx hb d_TK_19 rfl ?_
  refine tk_vcall X (k_Au_init l D K (a3 46) 47 a3 _) wc_Au_init wi_Au_init (Or.inr ⟨"TrackKeeper", by decide⟩) rfl (by decide) (by decide +kernel) (by decide +kernel) d_TK_20 hl.1 (by omega) (by show 1 + (1 + 0) + (1 + 11) + 12 ≤ _; omega) (by omega) (by omega) hV4 hS4 ?_
  rintro _ a3 _ H5 locs5 ⟨rfl, rfl, rfl⟩ hV5 hS5
  have e30 : a3 0 = h0 := by rw [ha3 0 (by decide)]; exact e20
  refine tk_vput (k := 0) (j := 2) (ci := 0) (fs := [.ref (a1 1), .null, .null, .int 0, .int 0, .int 0, .int 0, .int 0]) X hin rfl (by decide) (by decide) (by rw [if_neg (by decide), if_pos rfl]; rfl) wf_TK19 rfl rfl (by decide +kernel) (Nat.le_of_ble_eq_true rfl) e30 d_TK_23 hV5 hS5 fun H6 locs6 hV6 hS6 => ?_
  refine lv_aload_n hx hb d_TK_26 rfl (lv_at hl 0 rfl) ?_
  refine lv_bipush (v := nI 8) hx hb d_TK_27 (by decide) ?_
  refine tk_newq (t := 3) (C := "TrackKeeper$Train") (N := 8) X rfl wk_TK23 (by decide) (by decide) (by decide) (by decide) (by omega) (by omega) d_TK_29 hV6 hS6 fun a4 H7 ha4 hV7 hS7 => ?_
  have e40 : a4 0 = h0 := by rw [ha4 0 (by decide)]; exact e30
  refine tk_vput (k := 0) (j := 1) (ci := 0) (fs := [.ref (a1 1), .null, .ref (a3 46), .int 0, .int 0, .int 0, .int 0, .int 0]) X hin rfl (by decide) (by decide) (by rw [if_neg (by decide), if_pos rfl]; rfl) wf_TK25 rfl rfl (by decide +kernel) (Nat.le_of_ble_eq_true rfl) e40 d_TK_32 hV7 hS7 fun H8 locs8 hV8 hS8 => ?_
  refine lv_iconst (v := nI 0) hx hb d_TK_35 (by decide) ?_
  refine lv_istore_n hx hb d_TK_36 rfl hl (by decide) rfl fun ls1 hl1 => ?_
  have f1 : a4 1 = a1 1 := by rw [ha4 1 (by decide), ha3 1 (by decide), e21]
  have f46 : a4 46 = a3 46 := ha4 46 (by decide)
  have fa : ∀ q, q < 46 → a4 q = a2 q := fun q hq => by rw [ha4 q (by omega), ha3 q (by omega)]
  have hV9 : tk_Vw D A (48 + 0) a4 (e_fl (e_k0 K a4) e_ti (K 3) 8 47 48 0 a4) H8 := by
    refine tk_Vw.eq hV8 fun q hq => ?_
    unfold e_fl
    by_cases g0 : q = 0
    · subst g0
      rw [if_neg (by decide), if_pos (by decide), if_pos rfl]
      unfold e_k0
      rw [if_pos rfl, f1, f46]
      rfl
    by_cases g1 : q = 47
    · subst g1
      rw [if_pos rfl, if_neg (by decide), if_pos rfl]
      show e_rf _ _ _ = e_rf _ _ (fun _ => none)
      congr 1
    unfold e_k0
    rw [if_neg g1, if_pos (show q < 48 by omega), if_neg g0, if_neg g0, if_neg g1, if_neg g0]
    by_cases g2 : q = 46
    · subst g2
      rw [if_pos rfl, if_neg (by decide)]
      rfl
    · rw [if_neg g2, if_neg g0, if_pos (show q < 46 by omega), hE2 q (by omega)]
      exact (e_tr_ne g0 (by omega) fa).symm
  refine tk_fill (C := "TrackKeeper$Train") (N := 8) (b := 48) (ka := 47) (kr := 0) (t := 3) (c0 := 47) (s0 := 278) (ci := 5) (cr := 0) (jf := 1) (a0 := a4) X d_TK_37 d_TK_38 d_TK_40 d_TK_43 d_TK_44 d_TK_47 d_TK_48 d_TK_51 d_TK_52 d_TK_55 d_TK_56 d_TK_59 (by decide) (by decide) (by decide) (by decide) (by decide) e40 rfl (by decide) rfl wf_TK25 rfl rfl wk_TK23 wm_Ti wn_Ti (by decide +kernel) rfl (k_Ti_init l D K) wc_Ti_init wi_Ti_init ⟨"TrackKeeper", by decide⟩ rfl (by decide) (by decide +kernel) (by decide +kernel) (by omega) (by omega) (by omega) (by omega) ?_ 8 0 rfl a4 H8 locs8 ls1 (fun _ _ => rfl) hV9 hS8 hl1
  intro a5 H9 locs9 ls2 ha5 hV10 hS9 hl2
  refine tk_vret X hlk hret (by omega) (by omega) d_TK_62 hV10 hS9 ⟨rfl, fun q hq => ?_, fun q hq => ?_⟩
  · have e9 : q = 0 := by omega
    subst e9
    rw [ha5 0 (by decide), e40, hh0]
  unfold e_tk e_fl e_k0
  by_cases g0 : q = 0
  · subst g0
    rw [if_neg (by decide), if_pos (by decide), if_pos rfl, if_pos rfl, ha5 1 (by decide), ha5 46 (by decide), ha5 47 (by decide)]
  rw [if_neg g0]
  by_cases g1 : q = 47
  · subst g1
    rfl
  rw [if_neg g1, if_neg g1]
  by_cases g2 : q < 48
  · rw [if_pos g2, if_neg g0]
    by_cases g3 : q < 46
    · rw [if_pos g3, if_pos g3]
      exact e_tr_ne g0 (by omega) (fun z hz => ha5 z (by omega))
    · rw [if_neg g3, if_neg g3, if_pos (by omega)]
  · rw [if_neg g2, if_neg (show ¬ q < 46 by omega), if_neg (show ¬ q = 46 by omega), if_neg g0]
    rfl
