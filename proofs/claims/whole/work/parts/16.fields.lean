/-! what the rows of a field table say -/
def tk_ho (ty : Nat) : Option Nat := match ty with
  | 0 => none
  | 1 => none
  | r + 2 => some r
def tk_shok (z : (Nat × List (Option Nat)) ⊕ (Nat × Nat × Option Nat)) (k j ty : Nat) : Bool := match z with
  | .inl q => decide (q.1 = k) && decide (j < q.2.length) && decide (q.2.getD j none = tk_ho ty)
  | .inr _ => false
def tk_fchk (own : String) (q : Nat × Nat × Nat × Nat × Nat × Nat) : Bool := match tk_cl[q.2.1]? with
  | some z => decide (q.2.2.1 < z.2.2) && decide (Jvm.Cond.fieldLink own q.1 (z.2.1 q.2.2.1).1 (z.2.1 q.2.2.1).2.1 (z.2.1 q.2.2.1).2.2.1 ∈ tk_tbl) && decide (q.2.2.2.2.1 ≤ tk_nc) &&
    (List.range tk_nc).all (fun c => !(decide (q.2.2.2.1 ≤ c) && decide (c < q.2.2.2.2.1)) || tk_shok (tk_sh c) q.2.1 q.2.2.1 q.2.2.2.2.2) &&
    (match q.2.2.2.2.2 with
      | 0 => decide ((z.2.1 q.2.2.1).2.2.1 = "I") && decide ((z.2.1 q.2.2.1).2.2.2 = false)
      | 1 => decide ((z.2.1 q.2.2.1).2.2.1 = "Z") && decide ((z.2.1 q.2.2.1).2.2.2 = false)
      | _ => true)
  | none => false
def tk_flok (own : String) (fl : List (Nat × Nat × Nat × Nat × Nat × Nat)) : Prop := ∀ q ∈ fl, tk_fchk own q = true
theorem tk_flok.get {own : String} {fl : List (Nat × Nat × Nat × Nat × Nat × Nat)} {x k j lw hg ty a : Nat} (h : tk_flok own fl) (hm : (x, k, j, lw, hg, ty) ∈ fl) (g1 : lw ≤ a) (g2 : a < hg) :
    ∃ (C : String) (T : u_T) (N : Nat) (fs : List (Option Nat)), tk_cl[k]? = some (C, T, N) ∧ j < N ∧ Jvm.Cond.fieldLink own x (T j).1 (T j).2.1 (T j).2.2.1 ∈ tk_tbl ∧ a < tk_nc ∧ tk_sh a = .inl (k, fs) ∧ (j < fs.length ∧ fs.getD j none = tk_ho ty) := by
  have h1 := h _ hm
  unfold tk_fchk at h1
  dsimp only at h1
  cases hz : tk_cl[k]? with
  | none => rw [hz] at h1; cases h1
  | some z =>
    obtain ⟨C, T, N⟩ := z
    rw [hz] at h1
    simp only [Bool.and_eq_true, decide_eq_true_eq] at h1
    obtain ⟨⟨⟨⟨h2, h3⟩, h4⟩, h5⟩, -⟩ := h1
    have ha : a < tk_nc := Nat.lt_of_lt_of_le g2 h4
    have h6 := List.all_eq_true.mp h5 a (List.mem_range.mpr ha)
    rw [show (decide (lw ≤ a) && decide (a < hg)) = true by simp [g1, g2]] at h6
    simp only [Bool.not_true, Bool.false_or] at h6
    unfold tk_shok at h6
    cases hs : tk_sh a with
    | inr y => rw [hs] at h6; cases h6
    | inl y =>
      rw [hs] at h6
      obtain ⟨k2, fs⟩ := y
      simp only [Bool.and_eq_true, decide_eq_true_eq] at h6
      obtain ⟨⟨rfl, h7⟩, h8⟩ := h6
      exact ⟨C, T, N, fs, rfl, h2, h3, ha, rfl, h7, h8⟩
theorem tk_flok.int {own : String} {fl : List (Nat × Nat × Nat × Nat × Nat × Nat)} {x k j lw hg ty a : Nat} (h : tk_flok own fl) (hm : (x, k, j, lw, hg, ty) ∈ fl) (ht : ty = 0 ∨ ty = 1) (g1 : lw ≤ a) (g2 : a < hg) :
    ∃ (C : String) (T : u_T) (N : Nat) (fs : List (Option Nat)), tk_cl[k]? = some (C, T, N) ∧ j < N ∧ Jvm.Cond.fieldLink own x (T j).1 (T j).2.1 (T j).2.2.1 ∈ tk_tbl ∧ a < tk_nc ∧ tk_sh a = .inl (k, fs) ∧ (j < fs.length ∧ fs.getD j none = none) := by
  have h1 := h.get hm g1 g2
  rcases ht with rfl | rfl <;> exact h1
theorem tk_flok.ref {own : String} {fl : List (Nat × Nat × Nat × Nat × Nat × Nat)} {x k j lw hg r a : Nat} (h : tk_flok own fl) (hm : (x, k, j, lw, hg, r + 2) ∈ fl) (g1 : lw ≤ a) (g2 : a < hg) :
    ∃ (C : String) (T : u_T) (N : Nat) (fs : List (Option Nat)), tk_cl[k]? = some (C, T, N) ∧ j < N ∧ Jvm.Cond.fieldLink own x (T j).1 (T j).2.1 (T j).2.2.1 ∈ tk_tbl ∧ a < tk_nc ∧ tk_sh a = .inl (k, fs) ∧ (j < fs.length ∧ fs.getD j none = some r) := h.get hm g1 g2
theorem tk_pI : parseFieldDescriptor "I" = some .int := by decide +kernel
theorem tk_pZ : parseFieldDescriptor "Z" = some .boolean := by decide +kernel
theorem tk_flok.typ {own : String} {fl : List (Nat × Nat × Nat × Nat × Nat × Nat)} {x k j lw hg ty : Nat} {C : String} {T : u_T} {N : Nat} (h : tk_flok own fl) (hm : (x, k, j, lw, hg, ty) ∈ fl) (hc : tk_cl[k]? = some (C, T, N)) :
    (ty < 2 → (T j).2.2.2 = false) ∧ (ty = 0 → parseFieldDescriptor (T j).2.2.1 = some .int) ∧ (ty = 1 → parseFieldDescriptor (T j).2.2.1 = some .boolean) := by
  have h1 := h _ hm
  unfold tk_fchk at h1
  dsimp only at h1
  rw [hc] at h1
  simp only [Bool.and_eq_true, decide_eq_true_eq] at h1
  have h2 := h1.2
  match ty, h2 with
  | 0, h2 =>
    simp only [Bool.and_eq_true, decide_eq_true_eq] at h2
    exact ⟨fun _ => h2.2, fun _ => by rw [h2.1]; exact tk_pI, fun z => (by cases z)⟩
  | 1, h2 =>
    simp only [Bool.and_eq_true, decide_eq_true_eq] at h2
    exact ⟨fun _ => h2.2, fun z => (by cases z), fun _ => by rw [h2.1]; exact tk_pZ⟩
  | r + 2, h2 => exact ⟨fun z => by omega, fun z => by omega, fun z => by omega⟩
def tk_clchk (z : vw_C) : Bool := (u_ws z.1 z.2.1 z.2.2).all (fun w => decide (w ∈ tk_tbl)) && (List.range z.2.2).all (fun k => (parseFieldDescriptor (z.2.1 k).2.2.1).isSome && (List.range z.2.2).all (fun j => decide (k = j) || !decide ((z.2.1 k).2.1 = (z.2.1 j).2.1)))
set_option maxRecDepth 100000 in
theorem tk_clall : tk_cl.all tk_clchk = true := by decide +kernel
theorem tk_clk {k : Nat} {C : String} {T : u_T} {N : Nat} (h : tk_cl[k]? = some (C, T, N)) : tk_clchk (C, T, N) = true := List.all_eq_true.mp tk_clall _ (List.mem_of_getElem? h)
theorem tk_cls {k : Nat} {C : String} {T : u_T} {N : Nat} (h : tk_cl[k]? = some (C, T, N)) : ∀ w ∈ u_ws C T N, w ∈ tk_tbl := by
  have h1 := tk_clk h
  unfold tk_clchk at h1
  simp only [Bool.and_eq_true] at h1
  exact fun w hw => of_decide_eq_true (List.all_eq_true.mp h1.1 w hw)
theorem tk_tyok {k : Nat} {C : String} {T : u_T} {N : Nat} (h : tk_cl[k]? = some (C, T, N)) : ∃ ty : Nat → FieldType, (∀ k, k < N → parseFieldDescriptor (T k).2.2.1 = some (ty k)) ∧ (∀ a, a < N → ∀ b, b < N → a ≠ b → (T a).2.1 ≠ (T b).2.1) := by
  have h1 := tk_clk h
  unfold tk_clchk at h1
  simp only [Bool.and_eq_true] at h1
  have h2 := List.all_eq_true.mp h1.2
  refine ⟨fun k => (parseFieldDescriptor (T k).2.2.1).getD .int, fun k hk => ?_, fun a ha b hb hne => ?_⟩
  · have h3 := h2 k (List.mem_range.mpr hk)
    simp only [Bool.and_eq_true] at h3
    obtain ⟨y, hy⟩ := Option.isSome_iff_exists.mp h3.1
    show _ = some ((parseFieldDescriptor (T k).2.2.1).getD .int)
    rw [hy]
    rfl
  · have h3 := h2 a (List.mem_range.mpr ha)
    simp only [Bool.and_eq_true] at h3
    have h4 := List.all_eq_true.mp h3.2 b (List.mem_range.mpr hb)
    simp [hne] at h4
    exact h4
