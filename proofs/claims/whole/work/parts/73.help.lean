/-! THE LAW'S HELPERS, written by a program -/
theorem tk_dec2 {cc : ByteArray} {nL : Nat} {tab : List tk_E} (htab : tk_good cc nL tab) {pc : Nat} {i : Instr} (h : tk_ia tab pc = some (i, pc + 2)) : decode cc pc = .ok (i, 2) := by
  obtain ⟨len, h1, h2⟩ := tk_dec htab h
  have : len = 2 := by omega
  rw [this] at h1
  exact h1
def h_v (cd : Nat → Int) (Z : tk_Z) : Int := match Z.1 with
  | .inl _ => 0
  | .inr x => cd x
def h_m (Z : tk_Z) : tk_M := match Z.1 with
  | .inl (some y) => tk_up Z.2 0 0 y
  | _ => Z.2
def tk_h (cd : Nat → Int) (Z : tk_Z) : Int → tk_M → Prop := fun v M => v = h_v cd Z ∧ M = h_m Z
/-- what a call can answer: a number or none, and the kinds that it can throw -/
def v_ok (Z : tk_Z) (ks : List Nat) (b : Bool) : Prop := (∀ v, Z.1 = .inl v → v.isSome = b) ∧ ∀ x, Z.1 = .inr x → x ∈ ks
theorem v_ok.i {M : tk_M} {x : Nat} {ks : List Nat} {b : Bool} (h : x ∈ ks) : v_ok (.inr x, M) ks b := ⟨fun v h => (by cases h), fun y hy => (by cases hy; exact h)⟩
theorem v_ok.s {M : tk_M} {x : Int} {ks : List Nat} : v_ok (.inl (some x), M) ks true := ⟨fun v h => (by cases h; rfl), fun y hy => (by cases hy)⟩
theorem v_ok.n {M : tk_M} {ks : List Nat} : v_ok (.inl none, M) ks false := ⟨fun v h => (by cases h; rfl), fun y hy => (by cases hy)⟩
theorem v_ok.if {c : Prop} {d : Decidable c} {Z W : tk_Z} {ks : List Nat} {b : Bool} (h1 : v_ok Z ks b) (h2 : v_ok W ks b) : v_ok (if c then Z else W) ks b := by
  by_cases h : c
  · rw [if_pos h]; exact h1
  · rw [if_neg h]; exact h2
theorem h_r {cd : Nat → Int} {Z : tk_Z} {w : Int} (e : (.inl (some w) : Option Int ⊕ Nat) = Z.1) : tk_h cd Z 0 (tk_up Z.2 0 0 w) := by
  unfold tk_h h_v h_m
  rw [← e]
  exact ⟨rfl, rfl⟩
theorem h_n {cd : Nat → Int} {Z : tk_Z} (e : (.inl none : Option Int ⊕ Nat) = Z.1) : tk_h cd Z 0 Z.2 := by
  unfold tk_h h_v h_m
  rw [← e]
  exact ⟨rfl, rfl⟩
theorem h_t {cd : Nat → Int} {Z : tk_Z} {x : Nat} {v : Int} (e : (.inr x : Option Int ⊕ Nat) = Z.1) (h : v = cd x) : tk_h cd Z v Z.2 := by
  unfold tk_h h_v h_m
  rw [← e]
  exact ⟨h, rfl⟩
theorem v_some {Z : tk_Z} {ks : List Nat} {v : Option Int} (h : v_ok Z ks true) (e : (.inl v : Option Int ⊕ Nat) = Z.1) : ∃ w, v = some w := Option.isSome_iff_exists.mp (h.1 v e.symm)
theorem v_none {Z : tk_Z} {ks : List Nat} {v : Option Int} (h : v_ok Z ks false) (e : (.inl v : Option Int ⊕ Nat) = Z.1) : v = none := by
  have h1 := h.1 v e.symm
  cases v with
  | none => rfl
  | some x => cases h1
set_option maxRecDepth 100000 in
theorem wl_13 : Cond.classLink "TrackKeeperLaw" 13 (tk_xn 0) ∈ tk_tbl := tk_mw 243 rfl rfl
set_option maxRecDepth 100000 in
theorem wl_15 : Cond.classLink "TrackKeeperLaw" 15 (tk_xn 2) ∈ tk_tbl := tk_mw 244 rfl rfl
set_option maxRecDepth 100000 in
theorem wl_21 : Cond.classLink "TrackKeeperLaw" 21 (tk_xn 1) ∈ tk_tbl := tk_mw 339 rfl rfl
set_option maxRecDepth 100000 in
theorem wl_39 : Cond.classLink "TrackKeeperLaw" 39 (tk_xn 3) ∈ tk_tbl := tk_mw 463 rfl rfl
set_option maxRecDepth 100000 in
theorem wh_section : Cond.codeWith y_La_section method_3_code 3 (some .int) [(0, 8, 11, 13), (0, 8, 14, 15)] ∈ tk_tbl := tk_mw 242 rfl rfl
theorem k_La_section {l : Launch} {M : tk_M} {Z : tk_Z} (con : tk_C l y_TK_section 7 94 [.inr 1] M (tk_z Z)) (hv : v_ok Z [0, 2] true) : tk_H l y_La_section 8 120 [.inr 1, .inr 0] M (tk_h cd_1 Z) := by
  refine tk_H.of wh_section rfl (Nat.le_of_ble_eq_true rfl) fun hr hM => ?_
  refine tk_go1 fo_La co_La tg_La_section (Nat.le_of_ble_eq_true rfl) (Nat.le_of_ble_eq_true rfl) 40 [] ?_
  refine ⟨(), tk_aV1 con wc_TK_section lk_La_7 wi_TK_section wsl_TK_section tg_La_section rfl rfl (by decide) rfl rfl rfl (by decide) (by decide) (fun v M' hz hro => ?_) (fun x M' hz => ?_)⟩
  · obtain ⟨e1, rfl⟩ := hz
    obtain ⟨w, rfl⟩ := v_some hv e1
    refine tk_go1 fo_La co_La tg_La_section (Nat.le_of_ble_eq_true rfl) (Nat.le_of_ble_eq_true rfl) 40 [] ?_
    exact ⟨by decide, h_r e1⟩
  · obtain ⟨e1, rfl⟩ := hz
    have hx := hv.2 x e1.symm
    simp only [List.mem_cons, List.not_mem_nil, or_false] at hx
    rcases hx with rfl | rfl
    · refine ⟨12, ⟨[], (0, 8, 11, 13), [(0, 8, 14, 15)], 2, rfl, (fun z hz => by cases hz), by decide, by decide, by decide, wl_13, by decide, rfl, Or.inl ⟨2, rfl, tk_dec1 tg_La_section rfl, rfl⟩⟩, ?_⟩
      refine tk_go1 fo_La co_La tg_La_section (Nat.le_of_ble_eq_true rfl) (Nat.le_of_ble_eq_true rfl) 40 [] ?_
      exact h_t e1 rfl
    · refine ⟨15, ⟨[((0, 8, 11, 13), 0)], (0, 8, 14, 15), [], 2, rfl, (fun z hz => by simp only [List.mem_cons, List.not_mem_nil, or_false] at hz; subst hz; exact ⟨by decide, by decide, by decide, wl_13⟩), by decide, by decide, by decide, wl_15, by decide, rfl, Or.inl ⟨2, rfl, tk_dec1 tg_La_section rfl, rfl⟩⟩, ?_⟩
      refine tk_go1 fo_La co_La tg_La_section (Nat.le_of_ble_eq_true rfl) (Nat.le_of_ble_eq_true rfl) 40 [] ?_
      exact h_t e1 rfl
set_option maxRecDepth 100000 in
theorem wh_sub : Cond.codeWith y_La_sub method_4_code 4 (some .int) [(0, 9, 12, 21), (0, 9, 15, 13), (0, 9, 18, 15)] ∈ tk_tbl := tk_mw 338 rfl rfl
theorem k_La_sub {l : Launch} {M : tk_M} (x : Int) {Z : tk_Z} (con : tk_C l y_TK_sub 7 94 [.inr 1, .inl x] M (tk_z Z)) (hv : v_ok Z [1, 0, 2] true) : tk_H l y_La_sub 8 120 [.inr 1, .inl x, .inr 0] M (tk_h cd_2 Z) := by
  refine tk_H.of wh_sub rfl (Nat.le_of_ble_eq_true rfl) fun hr hM => ?_
  refine tk_go1 fo_La co_La tg_La_sub (Nat.le_of_ble_eq_true rfl) (Nat.le_of_ble_eq_true rfl) 40 [] ?_
  refine ⟨(), tk_aV1 con wc_TK_sub lk_La_17 wi_TK_sub wsl_TK_sub tg_La_sub rfl rfl (by decide) rfl rfl rfl (by decide) (by decide) (fun v M' hz hro => ?_) (fun x M' hz => ?_)⟩
  · obtain ⟨e1, rfl⟩ := hz
    obtain ⟨w, rfl⟩ := v_some hv e1
    refine tk_go1 fo_La co_La tg_La_sub (Nat.le_of_ble_eq_true rfl) (Nat.le_of_ble_eq_true rfl) 40 [] ?_
    exact ⟨by decide, h_r e1⟩
  · obtain ⟨e1, rfl⟩ := hz
    have hx := hv.2 x e1.symm
    simp only [List.mem_cons, List.not_mem_nil, or_false] at hx
    rcases hx with rfl | rfl | rfl
    · refine ⟨13, ⟨[], (0, 9, 12, 21), [(0, 9, 15, 13), (0, 9, 18, 15)], 3, rfl, (fun z hz => by cases hz), by decide, by decide, by decide, wl_21, by decide, rfl, Or.inl ⟨3, rfl, tk_dec1 tg_La_sub rfl, rfl⟩⟩, ?_⟩
      refine tk_go1 fo_La co_La tg_La_sub (Nat.le_of_ble_eq_true rfl) (Nat.le_of_ble_eq_true rfl) 40 [] ?_
      exact h_t e1 rfl
    · refine ⟨16, ⟨[((0, 9, 12, 21), 1)], (0, 9, 15, 13), [(0, 9, 18, 15)], 3, rfl, (fun z hz => by simp only [List.mem_cons, List.not_mem_nil, or_false] at hz; subst hz; exact ⟨by decide, by decide, by decide, wl_21⟩), by decide, by decide, by decide, wl_13, by decide, rfl, Or.inl ⟨3, rfl, tk_dec1 tg_La_sub rfl, rfl⟩⟩, ?_⟩
      refine tk_go1 fo_La co_La tg_La_sub (Nat.le_of_ble_eq_true rfl) (Nat.le_of_ble_eq_true rfl) 40 [] ?_
      exact h_t e1 rfl
    · refine ⟨19, ⟨[((0, 9, 12, 21), 1), ((0, 9, 15, 13), 0)], (0, 9, 18, 15), [], 3, rfl, (fun z hz => by simp only [List.mem_cons, List.not_mem_nil, or_false] at hz; rcases hz with rfl | rfl<;> (first | exact ⟨by decide, by decide, by decide, wl_21⟩ | exact ⟨by decide, by decide, by decide, wl_13⟩)), by decide, by decide, by decide, wl_15, by decide, rfl, Or.inl ⟨3, rfl, tk_dec1 tg_La_sub rfl, rfl⟩⟩, ?_⟩
      refine tk_go1 fo_La co_La tg_La_sub (Nat.le_of_ble_eq_true rfl) (Nat.le_of_ble_eq_true rfl) 40 [] ?_
      exact h_t e1 rfl
set_option maxRecDepth 100000 in
theorem wh_begin : Cond.codeWith y_La_begin method_5_code 6 (some .int) [(0, 12, 15, 21), (0, 12, 19, 13)] ∈ tk_tbl := tk_mw 369 rfl rfl
theorem k_La_begin {l : Launch} {M : tk_M} (m k s : Int) {Z : tk_Z} (con : tk_C l y_TK_begin 7 94 [.inr 1, .inl m, .inl k, .inl s] M (tk_z Z)) (hv : v_ok Z [1, 0] true) : tk_H l y_La_begin 8 120 [.inr 1, .inl m, .inl k, .inl s, .inr 0] M (tk_h cd_3 Z) := by
  refine tk_H.of wh_begin rfl (Nat.le_of_ble_eq_true rfl) fun hr hM => ?_
  refine tk_go1 fo_La co_La tg_La_begin (Nat.le_of_ble_eq_true rfl) (Nat.le_of_ble_eq_true rfl) 40 [] ?_
  refine ⟨(), tk_aV1 con wc_TK_begin lk_La_23 wi_TK_begin wsl_TK_begin tg_La_begin rfl rfl (by decide) rfl rfl rfl (by decide) (by decide) (fun v M' hz hro => ?_) (fun x M' hz => ?_)⟩
  · obtain ⟨e1, rfl⟩ := hz
    obtain ⟨w, rfl⟩ := v_some hv e1
    refine tk_go1 fo_La co_La tg_La_begin (Nat.le_of_ble_eq_true rfl) (Nat.le_of_ble_eq_true rfl) 40 [] ?_
    exact ⟨by decide, h_r e1⟩
  · obtain ⟨e1, rfl⟩ := hz
    have hx := hv.2 x e1.symm
    simp only [List.mem_cons, List.not_mem_nil, or_false] at hx
    rcases hx with rfl | rfl
    · refine ⟨17, ⟨[], (0, 12, 15, 21), [(0, 12, 19, 13)], 5, rfl, (fun z hz => by cases hz), by decide, by decide, by decide, wl_21, by decide, rfl, Or.inr ⟨tk_dec2 tg_La_begin rfl, rfl⟩⟩, ?_⟩
      refine tk_go1 fo_La co_La tg_La_begin (Nat.le_of_ble_eq_true rfl) (Nat.le_of_ble_eq_true rfl) 40 [] ?_
      exact h_t e1 rfl
    · refine ⟨21, ⟨[((0, 12, 15, 21), 1)], (0, 12, 19, 13), [], 5, rfl, (fun z hz => by simp only [List.mem_cons, List.not_mem_nil, or_false] at hz; subst hz; exact ⟨by decide, by decide, by decide, wl_21⟩), by decide, by decide, by decide, wl_13, by decide, rfl, Or.inr ⟨tk_dec2 tg_La_begin rfl, rfl⟩⟩, ?_⟩
      refine tk_go1 fo_La co_La tg_La_begin (Nat.le_of_ble_eq_true rfl) (Nat.le_of_ble_eq_true rfl) 40 [] ?_
      exact h_t e1 rfl
set_option maxRecDepth 100000 in
theorem wh_detect : Cond.codeWith y_La_detect method_6_code 4 (some .int) [(0, 6, 9, 13), (0, 6, 12, 21)] ∈ tk_tbl := tk_mw 388 rfl rfl
theorem k_La_detect {l : Launch} {M : tk_M} (s b : Int) {Z : tk_Z} (con : tk_C l y_TK_detect 7 94 [.inr 1, .inl s, .inl b] M (tk_z Z)) (hv : v_ok Z [0, 1] false) : tk_H l y_La_detect 8 120 [.inr 1, .inl s, .inl b] M (tk_h cd_4 Z) := by
  refine tk_H.of wh_detect rfl (Nat.le_of_ble_eq_true rfl) fun hr hM => ?_
  refine tk_go1 fo_La co_La tg_La_detect (Nat.le_of_ble_eq_true rfl) (Nat.le_of_ble_eq_true rfl) 40 [] ?_
  refine ⟨(), tk_aV1 con wc_TK_detect lk_La_27 wi_TK_detect wsl_TK_detect tg_La_detect rfl rfl (by decide) rfl rfl rfl (by decide) (by decide) (fun v M' hz hro => ?_) (fun x M' hz => ?_)⟩
  · obtain ⟨e1, rfl⟩ := hz
    obtain rfl := v_none hv e1
    refine tk_go1 fo_La co_La tg_La_detect (Nat.le_of_ble_eq_true rfl) (Nat.le_of_ble_eq_true rfl) 40 [] ?_
    exact h_n e1
  · obtain ⟨e1, rfl⟩ := hz
    have hx := hv.2 x e1.symm
    simp only [List.mem_cons, List.not_mem_nil, or_false] at hx
    rcases hx with rfl | rfl
    · refine ⟨10, ⟨[], (0, 6, 9, 13), [(0, 6, 12, 21)], 3, rfl, (fun z hz => by cases hz), by decide, by decide, by decide, wl_13, by decide, rfl, Or.inl ⟨3, rfl, tk_dec1 tg_La_detect rfl, rfl⟩⟩, ?_⟩
      refine tk_go1 fo_La co_La tg_La_detect (Nat.le_of_ble_eq_true rfl) (Nat.le_of_ble_eq_true rfl) 40 [] ?_
      exact h_t e1 rfl
    · refine ⟨13, ⟨[((0, 6, 9, 13), 0)], (0, 6, 12, 21), [], 3, rfl, (fun z hz => by simp only [List.mem_cons, List.not_mem_nil, or_false] at hz; subst hz; exact ⟨by decide, by decide, by decide, wl_13⟩), by decide, by decide, by decide, wl_21, by decide, rfl, Or.inl ⟨3, rfl, tk_dec1 tg_La_detect rfl, rfl⟩⟩, ?_⟩
      refine tk_go1 fo_La co_La tg_La_detect (Nat.le_of_ble_eq_true rfl) (Nat.le_of_ble_eq_true rfl) 40 [] ?_
      exact h_t e1 rfl
set_option maxRecDepth 100000 in
theorem wh_connect : Cond.codeWith y_La_connect method_7_code 4 (some .int) [(0, 6, 9, 13), (0, 6, 12, 21)] ∈ tk_tbl := tk_mw 448 rfl rfl
theorem k_La_connect {l : Launch} {M : tk_M} (t x : Int) {Z : tk_Z} (con : tk_C l y_TK_connect 7 94 [.inr 1, .inl t, .inl x] M (tk_z Z)) (hv : v_ok Z [0, 1] false) : tk_H l y_La_connect 8 120 [.inr 1, .inl t, .inl x] M (tk_h cd_4 Z) := by
  refine tk_H.of wh_connect rfl (Nat.le_of_ble_eq_true rfl) fun hr hM => ?_
  refine tk_go1 fo_La co_La tg_La_connect (Nat.le_of_ble_eq_true rfl) (Nat.le_of_ble_eq_true rfl) 40 [] ?_
  refine ⟨(), tk_aV1 con wc_TK_connect lk_La_31 wi_TK_connect wsl_TK_connect tg_La_connect rfl rfl (by decide) rfl rfl rfl (by decide) (by decide) (fun v M' hz hro => ?_) (fun x M' hz => ?_)⟩
  · obtain ⟨e1, rfl⟩ := hz
    obtain rfl := v_none hv e1
    refine tk_go1 fo_La co_La tg_La_connect (Nat.le_of_ble_eq_true rfl) (Nat.le_of_ble_eq_true rfl) 40 [] ?_
    exact h_n e1
  · obtain ⟨e1, rfl⟩ := hz
    have hx := hv.2 x e1.symm
    simp only [List.mem_cons, List.not_mem_nil, or_false] at hx
    rcases hx with rfl | rfl
    · refine ⟨10, ⟨[], (0, 6, 9, 13), [(0, 6, 12, 21)], 3, rfl, (fun z hz => by cases hz), by decide, by decide, by decide, wl_13, by decide, rfl, Or.inl ⟨3, rfl, tk_dec1 tg_La_connect rfl, rfl⟩⟩, ?_⟩
      refine tk_go1 fo_La co_La tg_La_connect (Nat.le_of_ble_eq_true rfl) (Nat.le_of_ble_eq_true rfl) 40 [] ?_
      exact h_t e1 rfl
    · refine ⟨13, ⟨[((0, 6, 9, 13), 0)], (0, 6, 12, 21), [], 3, rfl, (fun z hz => by simp only [List.mem_cons, List.not_mem_nil, or_false] at hz; subst hz; exact ⟨by decide, by decide, by decide, wl_13⟩), by decide, by decide, by decide, wl_21, by decide, rfl, Or.inl ⟨3, rfl, tk_dec1 tg_La_connect rfl, rfl⟩⟩, ?_⟩
      refine tk_go1 fo_La co_La tg_La_connect (Nat.le_of_ble_eq_true rfl) (Nat.le_of_ble_eq_true rfl) 40 [] ?_
      exact h_t e1 rfl
set_option maxRecDepth 100000 in
theorem wh_report : Cond.codeWith y_La_report method_8_code 6 (some .int) [(0, 19, 22, 13), (0, 19, 26, 21), (0, 19, 30, 39)] ∈ tk_tbl := tk_mw 462 rfl rfl
theorem k_La_report {l : Launch} {M : tk_M} (t pl it : Int) {Z : tk_Z} (con : tk_C l y_TK_report 7 94 [.inr 1, .inl t, .inl pl, .inl it] M (tk_z Z)) (hv : v_ok Z [0, 1, 3] true) (h1 : ∀ w, Z.1 = .inl (some w) → w = 0 ∨ w = 1) : tk_H l y_La_report 8 120 [.inr 1, .inl t, .inl pl, .inl it, .inr 0] M (tk_h cd_4 Z) := by
  refine tk_H.of wh_report rfl (Nat.le_of_ble_eq_true rfl) fun hr hM => ?_
  refine tk_go1 fo_La co_La tg_La_report (Nat.le_of_ble_eq_true rfl) (Nat.le_of_ble_eq_true rfl) 40 [] ?_
  refine ⟨(), tk_aV1 con wc_TK_report lk_La_35 wi_TK_report wsl_TK_report tg_La_report rfl rfl (by decide) rfl rfl rfl (by decide) (by decide) (fun v M' hz hro => ?_) (fun x M' hz => ?_)⟩
  · obtain ⟨e1, rfl⟩ := hz
    obtain ⟨w, rfl⟩ := v_some hv e1
    refine tk_go1 fo_La co_La tg_La_report (Nat.le_of_ble_eq_true rfl) (Nat.le_of_ble_eq_true rfl) 40 [] ?_
    refine ⟨fun h => ⟨by decide, ?_⟩, fun h => ⟨by decide, ?_⟩⟩
    · have h : w = 0 := h
      subst h
      exact h_r e1
    · have h : ¬ w = 0 := h
      have e : w = 1 := (h1 w e1.symm).resolve_left h
      subst e
      exact h_r e1
  · obtain ⟨e1, rfl⟩ := hz
    have hx := hv.2 x e1.symm
    simp only [List.mem_cons, List.not_mem_nil, or_false] at hx
    rcases hx with rfl | rfl | rfl
    · refine ⟨24, ⟨[], (0, 19, 22, 13), [(0, 19, 26, 21), (0, 19, 30, 39)], 5, rfl, (fun z hz => by cases hz), by decide, by decide, by decide, wl_13, by decide, rfl, Or.inr ⟨tk_dec2 tg_La_report rfl, rfl⟩⟩, ?_⟩
      refine tk_go1 fo_La co_La tg_La_report (Nat.le_of_ble_eq_true rfl) (Nat.le_of_ble_eq_true rfl) 40 [] ?_
      exact h_t e1 rfl
    · refine ⟨28, ⟨[((0, 19, 22, 13), 0)], (0, 19, 26, 21), [(0, 19, 30, 39)], 5, rfl, (fun z hz => by simp only [List.mem_cons, List.not_mem_nil, or_false] at hz; subst hz; exact ⟨by decide, by decide, by decide, wl_13⟩), by decide, by decide, by decide, wl_21, by decide, rfl, Or.inr ⟨tk_dec2 tg_La_report rfl, rfl⟩⟩, ?_⟩
      refine tk_go1 fo_La co_La tg_La_report (Nat.le_of_ble_eq_true rfl) (Nat.le_of_ble_eq_true rfl) 40 [] ?_
      exact h_t e1 rfl
    · refine ⟨32, ⟨[((0, 19, 22, 13), 0), ((0, 19, 26, 21), 1)], (0, 19, 30, 39), [], 5, rfl, (fun z hz => by simp only [List.mem_cons, List.not_mem_nil, or_false] at hz; rcases hz with rfl | rfl<;> (first | exact ⟨by decide, by decide, by decide, wl_13⟩ | exact ⟨by decide, by decide, by decide, wl_21⟩)), by decide, by decide, by decide, wl_39, by decide, rfl, Or.inr ⟨tk_dec2 tg_La_report rfl, rfl⟩⟩, ?_⟩
      refine tk_go1 fo_La co_La tg_La_report (Nat.le_of_ble_eq_true rfl) (Nat.le_of_ble_eq_true rfl) 40 [] ?_
      exact h_t e1 rfl
set_option maxRecDepth 100000 in
theorem wh_leave : Cond.codeWith y_La_leave method_9_code 3 (some .int) [(0, 5, 8, 13), (0, 5, 11, 21), (0, 5, 14, 39)] ∈ tk_tbl := tk_mw 504 rfl rfl
theorem k_La_leave {l : Launch} {M : tk_M} (t : Int) {Z : tk_Z} (con : tk_C l y_TK_leave 7 94 [.inr 1, .inl t] M (tk_z Z)) (hv : v_ok Z [0, 1, 3] false) : tk_H l y_La_leave 8 120 [.inr 1, .inl t] M (tk_h cd_4 Z) := by
  refine tk_H.of wh_leave rfl (Nat.le_of_ble_eq_true rfl) fun hr hM => ?_
  refine tk_go1 fo_La co_La tg_La_leave (Nat.le_of_ble_eq_true rfl) (Nat.le_of_ble_eq_true rfl) 40 [] ?_
  refine ⟨(), tk_aV1 con wc_TK_leave lk_La_41 wi_TK_leave wsl_TK_leave tg_La_leave rfl rfl (by decide) rfl rfl rfl (by decide) (by decide) (fun v M' hz hro => ?_) (fun x M' hz => ?_)⟩
  · obtain ⟨e1, rfl⟩ := hz
    obtain rfl := v_none hv e1
    refine tk_go1 fo_La co_La tg_La_leave (Nat.le_of_ble_eq_true rfl) (Nat.le_of_ble_eq_true rfl) 40 [] ?_
    exact h_n e1
  · obtain ⟨e1, rfl⟩ := hz
    have hx := hv.2 x e1.symm
    simp only [List.mem_cons, List.not_mem_nil, or_false] at hx
    rcases hx with rfl | rfl | rfl
    · refine ⟨9, ⟨[], (0, 5, 8, 13), [(0, 5, 11, 21), (0, 5, 14, 39)], 2, rfl, (fun z hz => by cases hz), by decide, by decide, by decide, wl_13, by decide, rfl, Or.inl ⟨2, rfl, tk_dec1 tg_La_leave rfl, rfl⟩⟩, ?_⟩
      refine tk_go1 fo_La co_La tg_La_leave (Nat.le_of_ble_eq_true rfl) (Nat.le_of_ble_eq_true rfl) 40 [] ?_
      exact h_t e1 rfl
    · refine ⟨12, ⟨[((0, 5, 8, 13), 0)], (0, 5, 11, 21), [(0, 5, 14, 39)], 2, rfl, (fun z hz => by simp only [List.mem_cons, List.not_mem_nil, or_false] at hz; subst hz; exact ⟨by decide, by decide, by decide, wl_13⟩), by decide, by decide, by decide, wl_21, by decide, rfl, Or.inl ⟨2, rfl, tk_dec1 tg_La_leave rfl, rfl⟩⟩, ?_⟩
      refine tk_go1 fo_La co_La tg_La_leave (Nat.le_of_ble_eq_true rfl) (Nat.le_of_ble_eq_true rfl) 40 [] ?_
      exact h_t e1 rfl
    · refine ⟨15, ⟨[((0, 5, 8, 13), 0), ((0, 5, 11, 21), 1)], (0, 5, 14, 39), [], 2, rfl, (fun z hz => by simp only [List.mem_cons, List.not_mem_nil, or_false] at hz; rcases hz with rfl | rfl<;> (first | exact ⟨by decide, by decide, by decide, wl_13⟩ | exact ⟨by decide, by decide, by decide, wl_21⟩)), by decide, by decide, by decide, wl_39, by decide, rfl, Or.inl ⟨2, rfl, tk_dec1 tg_La_leave rfl, rfl⟩⟩, ?_⟩
      refine tk_go1 fo_La co_La tg_La_leave (Nat.le_of_ble_eq_true rfl) (Nat.le_of_ble_eq_true rfl) 40 [] ?_
      exact h_t e1 rfl
set_option maxRecDepth 100000 in
theorem wh_tick : Cond.codeWith y_La_tick method_10_code 4 (some .int) [(0, 9, 12, 13), (0, 9, 15, 21), (0, 9, 18, 15)] ∈ tk_tbl := tk_mw 511 rfl rfl
theorem k_La_tick {l : Launch} {M : tk_M} (n : Int) {Z : tk_Z} (con : tk_C l y_TK_tick 7 94 [.inr 1, .inl n] M (tk_z Z)) (hv : v_ok Z [0, 1, 2] true) : tk_H l y_La_tick 8 120 [.inr 1, .inl n, .inr 0] M (tk_h cd_5 Z) := by
  refine tk_H.of wh_tick rfl (Nat.le_of_ble_eq_true rfl) fun hr hM => ?_
  refine tk_go1 fo_La co_La tg_La_tick (Nat.le_of_ble_eq_true rfl) (Nat.le_of_ble_eq_true rfl) 40 [] ?_
  refine ⟨(), tk_aV1 con wc_TK_tick lk_La_45 wi_TK_tick wsl_TK_tick tg_La_tick rfl rfl (by decide) rfl rfl rfl (by decide) (by decide) (fun v M' hz hro => ?_) (fun x M' hz => ?_)⟩
  · obtain ⟨e1, rfl⟩ := hz
    obtain ⟨w, rfl⟩ := v_some hv e1
    refine tk_go1 fo_La co_La tg_La_tick (Nat.le_of_ble_eq_true rfl) (Nat.le_of_ble_eq_true rfl) 40 [] ?_
    exact ⟨by decide, h_r e1⟩
  · obtain ⟨e1, rfl⟩ := hz
    have hx := hv.2 x e1.symm
    simp only [List.mem_cons, List.not_mem_nil, or_false] at hx
    rcases hx with rfl | rfl | rfl
    · refine ⟨13, ⟨[], (0, 9, 12, 13), [(0, 9, 15, 21), (0, 9, 18, 15)], 3, rfl, (fun z hz => by cases hz), by decide, by decide, by decide, wl_13, by decide, rfl, Or.inl ⟨3, rfl, tk_dec1 tg_La_tick rfl, rfl⟩⟩, ?_⟩
      refine tk_go1 fo_La co_La tg_La_tick (Nat.le_of_ble_eq_true rfl) (Nat.le_of_ble_eq_true rfl) 40 [] ?_
      exact h_t e1 rfl
    · refine ⟨16, ⟨[((0, 9, 12, 13), 0)], (0, 9, 15, 21), [(0, 9, 18, 15)], 3, rfl, (fun z hz => by simp only [List.mem_cons, List.not_mem_nil, or_false] at hz; subst hz; exact ⟨by decide, by decide, by decide, wl_13⟩), by decide, by decide, by decide, wl_21, by decide, rfl, Or.inl ⟨3, rfl, tk_dec1 tg_La_tick rfl, rfl⟩⟩, ?_⟩
      refine tk_go1 fo_La co_La tg_La_tick (Nat.le_of_ble_eq_true rfl) (Nat.le_of_ble_eq_true rfl) 40 [] ?_
      exact h_t e1 rfl
    · refine ⟨19, ⟨[((0, 9, 12, 13), 0), ((0, 9, 15, 21), 1)], (0, 9, 18, 15), [], 3, rfl, (fun z hz => by simp only [List.mem_cons, List.not_mem_nil, or_false] at hz; rcases hz with rfl | rfl<;> (first | exact ⟨by decide, by decide, by decide, wl_13⟩ | exact ⟨by decide, by decide, by decide, wl_21⟩)), by decide, by decide, by decide, wl_15, by decide, rfl, Or.inl ⟨3, rfl, tk_dec1 tg_La_tick rfl, rfl⟩⟩, ?_⟩
      refine tk_go1 fo_La co_La tg_La_tick (Nat.le_of_ble_eq_true rfl) (Nat.le_of_ble_eq_true rfl) 40 [] ?_
      exact h_t e1 rfl
set_option maxRecDepth 100000 in
theorem wh_request : Cond.codeWith y_La_request method_11_code 5 (some .int) [(0, 10, 13, 13), (0, 10, 17, 21), (0, 10, 21, 39)] ∈ tk_tbl := tk_mw 527 rfl rfl
theorem k_La_request {l : Launch} {M : tk_M} (t s : Int) {Z : tk_Z} (con : tk_C l y_TK_request 7 94 [.inr 1, .inl t, .inl s] M (tk_z Z)) (hv : v_ok Z [0, 1, 3] true) : tk_H l y_La_request 8 120 [.inr 1, .inl t, .inl s, .inr 0] M (tk_h cd_4 Z) := by
  refine tk_H.of wh_request rfl (Nat.le_of_ble_eq_true rfl) fun hr hM => ?_
  refine tk_go1 fo_La co_La tg_La_request (Nat.le_of_ble_eq_true rfl) (Nat.le_of_ble_eq_true rfl) 40 [] ?_
  refine ⟨(), tk_aV1 con wc_TK_request lk_La_48 wi_TK_request wsl_TK_request tg_La_request rfl rfl (by decide) rfl rfl rfl (by decide) (by decide) (fun v M' hz hro => ?_) (fun x M' hz => ?_)⟩
  · obtain ⟨e1, rfl⟩ := hz
    obtain ⟨w, rfl⟩ := v_some hv e1
    refine tk_go1 fo_La co_La tg_La_request (Nat.le_of_ble_eq_true rfl) (Nat.le_of_ble_eq_true rfl) 40 [] ?_
    exact ⟨by decide, h_r e1⟩
  · obtain ⟨e1, rfl⟩ := hz
    have hx := hv.2 x e1.symm
    simp only [List.mem_cons, List.not_mem_nil, or_false] at hx
    rcases hx with rfl | rfl | rfl
    · refine ⟨15, ⟨[], (0, 10, 13, 13), [(0, 10, 17, 21), (0, 10, 21, 39)], 4, rfl, (fun z hz => by cases hz), by decide, by decide, by decide, wl_13, by decide, rfl, Or.inr ⟨tk_dec2 tg_La_request rfl, rfl⟩⟩, ?_⟩
      refine tk_go1 fo_La co_La tg_La_request (Nat.le_of_ble_eq_true rfl) (Nat.le_of_ble_eq_true rfl) 40 [] ?_
      exact h_t e1 rfl
    · refine ⟨19, ⟨[((0, 10, 13, 13), 0)], (0, 10, 17, 21), [(0, 10, 21, 39)], 4, rfl, (fun z hz => by simp only [List.mem_cons, List.not_mem_nil, or_false] at hz; subst hz; exact ⟨by decide, by decide, by decide, wl_13⟩), by decide, by decide, by decide, wl_21, by decide, rfl, Or.inr ⟨tk_dec2 tg_La_request rfl, rfl⟩⟩, ?_⟩
      refine tk_go1 fo_La co_La tg_La_request (Nat.le_of_ble_eq_true rfl) (Nat.le_of_ble_eq_true rfl) 40 [] ?_
      exact h_t e1 rfl
    · refine ⟨23, ⟨[((0, 10, 13, 13), 0), ((0, 10, 17, 21), 1)], (0, 10, 21, 39), [], 4, rfl, (fun z hz => by simp only [List.mem_cons, List.not_mem_nil, or_false] at hz; rcases hz with rfl | rfl<;> (first | exact ⟨by decide, by decide, by decide, wl_13⟩ | exact ⟨by decide, by decide, by decide, wl_21⟩)), by decide, by decide, by decide, wl_39, by decide, rfl, Or.inr ⟨tk_dec2 tg_La_request rfl, rfl⟩⟩, ?_⟩
      refine tk_go1 fo_La co_La tg_La_request (Nat.le_of_ble_eq_true rfl) (Nat.le_of_ble_eq_true rfl) 40 [] ?_
      exact h_t e1 rfl
set_option maxRecDepth 100000 in
theorem wh_state : Cond.codeWith y_La_state method_12_code 4 (some .int) [(0, 9, 12, 13), (0, 9, 15, 21)] ∈ tk_tbl := tk_mw 550 rfl rfl
theorem k_La_state {l : Launch} {M : tk_M} (k : Int) {Z : tk_Z} (con : tk_C l y_TK_state 7 94 [.inr 1, .inl k] M (tk_z Z)) (hv : v_ok Z [0, 1] true) : tk_H l y_La_state 8 120 [.inr 1, .inl k, .inr 0] M (tk_h cd_4 Z) := by
  refine tk_H.of wh_state rfl (Nat.le_of_ble_eq_true rfl) fun hr hM => ?_
  refine tk_go1 fo_La co_La tg_La_state (Nat.le_of_ble_eq_true rfl) (Nat.le_of_ble_eq_true rfl) 40 [] ?_
  refine ⟨(), tk_aV1 con wc_TK_state lk_La_52 wi_TK_state wsl_TK_state tg_La_state rfl rfl (by decide) rfl rfl rfl (by decide) (by decide) (fun v M' hz hro => ?_) (fun x M' hz => ?_)⟩
  · obtain ⟨e1, rfl⟩ := hz
    obtain ⟨w, rfl⟩ := v_some hv e1
    refine tk_go1 fo_La co_La tg_La_state (Nat.le_of_ble_eq_true rfl) (Nat.le_of_ble_eq_true rfl) 40 [] ?_
    exact ⟨by decide, h_r e1⟩
  · obtain ⟨e1, rfl⟩ := hz
    have hx := hv.2 x e1.symm
    simp only [List.mem_cons, List.not_mem_nil, or_false] at hx
    rcases hx with rfl | rfl
    · refine ⟨13, ⟨[], (0, 9, 12, 13), [(0, 9, 15, 21)], 3, rfl, (fun z hz => by cases hz), by decide, by decide, by decide, wl_13, by decide, rfl, Or.inl ⟨3, rfl, tk_dec1 tg_La_state rfl, rfl⟩⟩, ?_⟩
      refine tk_go1 fo_La co_La tg_La_state (Nat.le_of_ble_eq_true rfl) (Nat.le_of_ble_eq_true rfl) 40 [] ?_
      exact h_t e1 rfl
    · refine ⟨16, ⟨[((0, 9, 12, 13), 0)], (0, 9, 15, 21), [], 3, rfl, (fun z hz => by simp only [List.mem_cons, List.not_mem_nil, or_false] at hz; subst hz; exact ⟨by decide, by decide, by decide, wl_13⟩), by decide, by decide, by decide, wl_21, by decide, rfl, Or.inl ⟨3, rfl, tk_dec1 tg_La_state rfl, rfl⟩⟩, ?_⟩
      refine tk_go1 fo_La co_La tg_La_state (Nat.le_of_ble_eq_true rfl) (Nat.le_of_ble_eq_true rfl) 40 [] ?_
      exact h_t e1 rfl
set_option maxRecDepth 100000 in
theorem wh_train : Cond.codeWith y_La_train method_13_code 5 (some .int) [(0, 10, 13, 13), (0, 10, 17, 21)] ∈ tk_tbl := tk_mw 557 rfl rfl
theorem k_La_train {l : Launch} {M : tk_M} (t w : Int) {Z : tk_Z} (con : tk_C l y_TK_train 7 94 [.inr 1, .inl t, .inl w] M (tk_z Z)) (hv : v_ok Z [0, 1] true) : tk_H l y_La_train 8 120 [.inr 1, .inl t, .inl w, .inr 0] M (tk_h cd_4 Z) := by
  refine tk_H.of wh_train rfl (Nat.le_of_ble_eq_true rfl) fun hr hM => ?_
  refine tk_go1 fo_La co_La tg_La_train (Nat.le_of_ble_eq_true rfl) (Nat.le_of_ble_eq_true rfl) 40 [] ?_
  refine ⟨(), tk_aV1 con wc_TK_train lk_La_55 wi_TK_train wsl_TK_train tg_La_train rfl rfl (by decide) rfl rfl rfl (by decide) (by decide) (fun v M' hz hro => ?_) (fun x M' hz => ?_)⟩
  · obtain ⟨e1, rfl⟩ := hz
    obtain ⟨w, rfl⟩ := v_some hv e1
    refine tk_go1 fo_La co_La tg_La_train (Nat.le_of_ble_eq_true rfl) (Nat.le_of_ble_eq_true rfl) 40 [] ?_
    exact ⟨by decide, h_r e1⟩
  · obtain ⟨e1, rfl⟩ := hz
    have hx := hv.2 x e1.symm
    simp only [List.mem_cons, List.not_mem_nil, or_false] at hx
    rcases hx with rfl | rfl
    · refine ⟨15, ⟨[], (0, 10, 13, 13), [(0, 10, 17, 21)], 4, rfl, (fun z hz => by cases hz), by decide, by decide, by decide, wl_13, by decide, rfl, Or.inr ⟨tk_dec2 tg_La_train rfl, rfl⟩⟩, ?_⟩
      refine tk_go1 fo_La co_La tg_La_train (Nat.le_of_ble_eq_true rfl) (Nat.le_of_ble_eq_true rfl) 40 [] ?_
      exact h_t e1 rfl
    · refine ⟨19, ⟨[((0, 10, 13, 13), 0)], (0, 10, 17, 21), [], 4, rfl, (fun z hz => by simp only [List.mem_cons, List.not_mem_nil, or_false] at hz; subst hz; exact ⟨by decide, by decide, by decide, wl_13⟩), by decide, by decide, by decide, wl_21, by decide, rfl, Or.inr ⟨tk_dec2 tg_La_train rfl, rfl⟩⟩, ?_⟩
      refine tk_go1 fo_La co_La tg_La_train (Nat.le_of_ble_eq_true rfl) (Nat.le_of_ble_eq_true rfl) 40 [] ?_
      exact h_t e1 rfl
set_option maxRecDepth 100000 in
theorem wh_count : Cond.codeWith y_La_count method_14_code 5 (some .int) [(0, 10, 13, 21)] ∈ tk_tbl := tk_mw 568 rfl rfl
theorem k_La_count {l : Launch} {M : tk_M} (w k : Int) {Z : tk_Z} (con : tk_C l y_TK_count 7 94 [.inr 1, .inl w, .inl k] M (tk_z Z)) (hv : v_ok Z [1] true) : tk_H l y_La_count 8 120 [.inr 1, .inl w, .inl k, .inr 0] M (tk_h cd_6 Z) := by
  refine tk_H.of wh_count rfl (Nat.le_of_ble_eq_true rfl) fun hr hM => ?_
  refine tk_go1 fo_La co_La tg_La_count (Nat.le_of_ble_eq_true rfl) (Nat.le_of_ble_eq_true rfl) 40 [] ?_
  refine ⟨(), tk_aV1 con wc_TK_count lk_La_58 wi_TK_count wsl_TK_count tg_La_count rfl rfl (by decide) rfl rfl rfl (by decide) (by decide) (fun v M' hz hro => ?_) (fun x M' hz => ?_)⟩
  · obtain ⟨e1, rfl⟩ := hz
    obtain ⟨w, rfl⟩ := v_some hv e1
    refine tk_go1 fo_La co_La tg_La_count (Nat.le_of_ble_eq_true rfl) (Nat.le_of_ble_eq_true rfl) 40 [] ?_
    exact ⟨by decide, h_r e1⟩
  · obtain ⟨e1, rfl⟩ := hz
    have hx := hv.2 x e1.symm
    simp only [List.mem_cons, List.not_mem_nil, or_false] at hx
    subst hx
    refine ⟨15, ⟨[], (0, 10, 13, 21), [], 4, rfl, (fun z hz => by cases hz), by decide, by decide, by decide, wl_21, by decide, rfl, Or.inr ⟨tk_dec2 tg_La_count rfl, rfl⟩⟩, ?_⟩
    refine tk_go1 fo_La co_La tg_La_count (Nat.le_of_ble_eq_true rfl) (Nat.le_of_ble_eq_true rfl) 40 [] ?_
    exact h_t e1 rfl
theorem t_section (M : tk_M)  : v_ok (c_section M) [0, 2] true := by
  unfold c_section
  repeat' first | exact v_ok.s | exact v_ok.n | exact v_ok.i (by decide) | refine v_ok.if ?_ ?_
theorem t_sub (M : tk_M) (x : Int) : v_ok (c_sub x M) [1, 0, 2] true := by
  unfold c_sub
  repeat' first | exact v_ok.s | exact v_ok.n | exact v_ok.i (by decide) | refine v_ok.if ?_ ?_
theorem t_begin (M : tk_M) (m k s : Int) : v_ok (c_begin m k s M) [1, 0] true := by
  unfold c_begin
  repeat' first | exact v_ok.s | exact v_ok.n | exact v_ok.i (by decide) | refine v_ok.if ?_ ?_
theorem t_detect (M : tk_M) (s b : Int) : v_ok (c_detect s b M) [0, 1] false := by
  unfold c_detect
  repeat' first | exact v_ok.s | exact v_ok.n | exact v_ok.i (by decide) | refine v_ok.if ?_ ?_
theorem t_connect (M : tk_M) (t x : Int) : v_ok (c_connect t x M) [0, 1] false := by
  unfold c_connect
  repeat' first | exact v_ok.s | exact v_ok.n | exact v_ok.i (by decide) | refine v_ok.if ?_ ?_
theorem t_report (M : tk_M) (t pl it : Int) : v_ok (c_report t pl it M) [0, 1, 3] true := by
  unfold c_report
  repeat' first | exact v_ok.s | exact v_ok.n | exact v_ok.i (by decide) | refine v_ok.if ?_ ?_
theorem t_leave (M : tk_M) (t : Int) : v_ok (c_leave t M) [0, 1, 3] false := by
  unfold c_leave
  repeat' first | exact v_ok.s | exact v_ok.n | exact v_ok.i (by decide) | refine v_ok.if ?_ ?_
theorem t_tick (M : tk_M) (n : Int) : v_ok (c_tick n M) [0, 1, 2] true := by
  unfold c_tick
  repeat' first | exact v_ok.s | exact v_ok.n | exact v_ok.i (by decide) | refine v_ok.if ?_ ?_
theorem t_request (M : tk_M) (t s : Int) : v_ok (c_request t s M) [0, 1, 3] true := by
  unfold c_request
  repeat' first | exact v_ok.s | exact v_ok.n | exact v_ok.i (by decide) | refine v_ok.if ?_ ?_
theorem t_state (M : tk_M) (k : Int) : v_ok (c_state k M) [0, 1] true := by
  unfold c_state
  repeat' first | exact v_ok.s | exact v_ok.n | exact v_ok.i (by decide) | refine v_ok.if ?_ ?_
theorem t_train (M : tk_M) (t w : Int) : v_ok (c_train t w M) [0, 1] true := by
  unfold c_train
  repeat' first | exact v_ok.s | exact v_ok.n | exact v_ok.i (by decide) | refine v_ok.if ?_ ?_
theorem t_count (M : tk_M) (w k : Int) : v_ok (c_count w k M) [1] true := by
  unfold c_count
  repeat' first | exact v_ok.s | exact v_ok.n | exact v_ok.i (by decide) | refine v_ok.if ?_ ?_
theorem t_report1 (M : tk_M) (t pl it : Int) : ∀ w, (c_report t pl it M).1 = .inl (some w) → w = 0 ∨ w = 1 := by
  intro w
  unfold c_report
  repeat' split
  all_goals intro h
  all_goals first | (cases h; done) | (cases h; simp)
