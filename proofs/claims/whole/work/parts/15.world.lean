/-! THE ONE WORLD: all cells that the class and its reference hold once they are made, by their places: 0 the law's long[1]; then the class's objects, then the reference's -/
abbrev tk_M : Type := Nat → Nat → Int
/-- where a run is: the cells' addresses, the kinds' numbers and slots, the array kinds' numbers -/
abbrev tk_G : Type := (Nat → Nat) × va_G × (Nat → ClassId)
def tk_up (M : tk_M) (c j : Nat) (v : Int) : tk_M := fun a b => if a = c ∧ b = j then v else M a b
def tk_cv (G : tk_G) (v : (Int ⊕ Nat) ⊕ Int) : Value := match v with
  | .inl (.inl x) => .int (Int32.ofInt x)
  | .inl (.inr c) => .ref (G.1 c)
  | .inr x => .long (Int64.ofInt x)
def tk_fv (G : tk_G) (o : Option Nat) (x : Int) : Value := match o with
  | none => .int (Int32.ofInt x)
  | some r => .ref (G.1 r)

def tk_ent (G : tk_G) (M : tk_M) (c : Nat) : va_E := match tk_sh c with
  | .inl (ci, fs) => .inr (ci, (List.range fs.length).map fun j => tk_fv G (fs.getD j none) (M c j))
  | .inr (ty, n, some b) => .inl (G.2.2 ty, n, .inr (.inr (.inr (.inr fun j => some (G.1 (b + j))))))
  | .inr (ty, n, none) => .inl (G.2.2 ty, n, if ty = 2 then .inr (.inl fun j => Int64.ofInt (M c j)) else .inl fun j => Int32.ofInt (M c j))
def tk_ws (G : tk_G) (M : tk_M) : va_W := (List.range tk_nc).map fun c => (G.1 c, tk_ent G M c)
def tk_Wd (G : tk_G) (M : tk_M) (H : Heap) : Prop := va_P G.2.1 tk_cl (tk_ws G M) H ∧ ∀ c j, -2147483648 ≤ M c j ∧ M c j < 2147483648
def tk_St (G : tk_G) (A : Nat → Prop) : Prop := (∀ i j, i < tk_nc → j < tk_nc → G.1 i = G.1 j → i = j) ∧ ∀ i, i < tk_nc → A (G.1 i)
theorem tk_ws_at {G : tk_G} {M : tk_M} {c : Nat} (h : c < tk_nc) : (tk_ws G M)[c]? = some (G.1 c, tk_ent G M c) := by
  simp [tk_ws, List.getElem?_range, h]
theorem tk_ws_some {G : tk_G} {M : tk_M} {c : Nat} {q : Nat × va_E} (h : (tk_ws G M)[c]? = some q) : c < tk_nc ∧ q = (G.1 c, tk_ent G M c) := by
  by_cases hc : c < tk_nc
  · rw [tk_ws_at hc] at h
    exact ⟨hc, (Option.some.inj h).symm⟩
  · have : (tk_ws G M)[c]? = none := by
      rw [List.getElem?_eq_none_iff]
      simp [tk_ws]
      omega
    rw [this] at h
    cases h
theorem tk_St.D {G : tk_G} {A : Nat → Prop} (h : tk_St G A) {M : tk_M} : va_D A (tk_ws G M) := by
  refine ⟨fun i j p q hi hj e => ?_, fun k q hk => ?_⟩
  · obtain ⟨h1, rfl⟩ := tk_ws_some hi
    obtain ⟨h2, rfl⟩ := tk_ws_some hj
    exact h.1 i j h1 h2 e
  · obtain ⟨h1, rfl⟩ := tk_ws_some hk
    exact h.2 k h1
theorem tk_ent_eq {G : tk_G} {M M' : tk_M} {c : Nat} (h : ∀ j, M' c j = M c j) : tk_ent G M' c = tk_ent G M c := by
  have e : M' c = M c := funext h
  unfold tk_ent
  rw [e]
theorem tk_ws_set {G : tk_G} {M M' : tk_M} {c : Nat} {E : va_E} (hc : c < tk_nc) (h : ∀ a, a ≠ c → ∀ j, M' a j = M a j) (he : tk_ent G M' c = E) : (tk_ws G M).set c (G.1 c, E) = tk_ws G M' := by
  apply List.ext_getElem?
  intro k
  rw [List.getElem?_set]
  have hlen : (tk_ws G M).length = tk_nc := by simp [tk_ws]
  by_cases hk : k < tk_nc
  · rw [tk_ws_at (M := M') hk]
    by_cases e : c = k
    · subst e
      rw [if_pos rfl, hlen, if_pos hk, he]
    · rw [if_neg e, tk_ws_at (M := M) hk, tk_ent_eq (h k (fun z => e z.symm))]
  · have e1 : (tk_ws G M')[k]? = none := by
      rw [List.getElem?_eq_none_iff]
      simp [tk_ws]
      omega
    have e2 : (tk_ws G M)[k]? = none := by
      rw [List.getElem?_eq_none_iff]
      simp [tk_ws]
      omega
    have e3 : c ≠ k := by omega
    rw [if_neg e3, e1, e2]
theorem tk_up_ne {M : tk_M} {c j : Nat} {v : Int} {a : Nat} (h : a ≠ c) (b : Nat) : tk_up M c j v a b = M a b := by
  unfold tk_up
  rw [if_neg (fun z => h z.1)]
theorem tk_up_r {M : tk_M} {c j : Nat} {v : Int} (hM : ∀ c j, -2147483648 ≤ M c j ∧ M c j < 2147483648) (hv : -2147483648 ≤ v ∧ v < 2147483648) (a b : Nat) : -2147483648 ≤ tk_up M c j v a b ∧ tk_up M c j v a b < 2147483648 := by
  unfold tk_up
  split
  · exact hv
  · exact hM a b
theorem tk_ws_obj {G : tk_G} {M : tk_M} {c ci : Nat} {fs : List (Option Nat)} (hc : c < tk_nc) (hs : tk_sh c = .inl (ci, fs)) : (tk_ws G M)[c]? = some (G.1 c, .inr (ci, (List.range fs.length).map fun j => tk_fv G (fs.getD j none) (M c j))) := by
  rw [tk_ws_at hc]
  unfold tk_ent
  rw [hs]
theorem tk_fs_int {G : tk_G} {M : tk_M} {c j : Nat} {fs : List (Option Nat)} (h : j < fs.length ∧ fs.getD j none = none) : ((List.range fs.length).map fun j => tk_fv G (fs.getD j none) (M c j))[j]? = some (.int (Int32.ofInt (M c j))) := by
  rw [List.getElem?_map, List.getElem?_range h.1]
  show some (tk_fv G (fs.getD j none) (M c j)) = _
  rw [h.2]
  rfl
theorem tk_fs_ref {G : tk_G} {M : tk_M} {c j r : Nat} {fs : List (Option Nat)} (h : j < fs.length ∧ fs.getD j none = some r) : ((List.range fs.length).map fun j => tk_fv G (fs.getD j none) (M c j))[j]? = some (.ref (G.1 r)) := by
  rw [List.getElem?_map, List.getElem?_range h.1]
  show some (tk_fv G (fs.getD j none) (M c j)) = _
  rw [h.2]
  rfl
theorem tk_fs_len {G : tk_G} {M : tk_M} {c j : Nat} {o : Option Nat} {fs : List (Option Nat)} (h : j < fs.length ∧ fs.getD j none = o) : j < ((List.range fs.length).map fun j => tk_fv G (fs.getD j none) (M c j)).length := by
  simp
  exact h.1
theorem tk_ws_put {G : tk_G} {M : tk_M} {c ci j : Nat} {v : Int} {fs : List (Option Nat)} (hc : c < tk_nc) (hs : tk_sh c = .inl (ci, fs)) (h : j < fs.length ∧ fs.getD j none = none) :
    (tk_ws G M).set c (G.1 c, .inr (ci, ((List.range fs.length).map fun j => tk_fv G (fs.getD j none) (M c j)).set j (.int (Int32.ofInt v)))) = tk_ws G (tk_up M c j v) := by
  refine tk_ws_set hc (fun a ha b => tk_up_ne ha b) ?_
  unfold tk_ent
  rw [hs]
  show Sum.inr (ci, _) = Sum.inr (ci, _)
  congr 2
  apply List.ext_getElem?
  intro k
  rw [List.getElem?_set, List.getElem?_map, List.getElem?_map]
  by_cases e : j = k
  · subst e
    rw [if_pos rfl, List.getElem?_range h.1]
    simp only [List.length_map, List.length_range, h.1, if_true, Option.map_some]
    show some (tk_fv G (fs.getD j none) (tk_up M c j v c j)) = _
    rw [h.2]
    simp [tk_fv, tk_up]
  · rw [if_neg e]
    by_cases hk : k < fs.length
    · rw [List.getElem?_range hk]
      show some (tk_fv G (fs.getD k none) (tk_up M c j v c k)) = some (tk_fv G (fs.getD k none) (M c k))
      have : tk_up M c j v c k = M c k := by
        unfold tk_up
        rw [if_neg (fun z => e z.2.symm)]
      rw [this]
    · have : (List.range fs.length)[k]? = none := by
        rw [List.getElem?_eq_none_iff]
        simp
        omega
      rw [this]
      rfl
theorem tk_ws_arr {G : tk_G} {M : tk_M} {c ty n b : Nat} (h : (c, ty, n, b) ∈ tk_ars) (ht : ty < 2) : (tk_ws G M)[c]? = some (G.1 c, .inl (G.2.2 ty, n, .inl fun j => Int32.ofInt (M c j))) := by
  obtain ⟨h1, h2, -⟩ := tk_ars_ok _ h
  dsimp only at h1 h2
  rw [tk_ws_at h1]
  unfold tk_ent
  rw [h2, if_pos (by omega)]
  show some (G.1 c, Sum.inl (G.2.2 ty, n, if ty = 2 then _ else _)) = _
  rw [if_neg (by omega)]
theorem tk_ws_lng {G : tk_G} {M : tk_M} {c n b : Nat} (h : (c, 2, n, b) ∈ tk_ars) : (tk_ws G M)[c]? = some (G.1 c, .inl (G.2.2 2, n, .inr (.inl fun j => Int64.ofInt (M c j)))) := by
  obtain ⟨h1, h2, -⟩ := tk_ars_ok _ h
  dsimp only at h1 h2
  rw [tk_ws_at h1]
  unfold tk_ent
  rw [h2, if_pos (by omega)]
  rfl
theorem tk_ws_rfs {G : tk_G} {M : tk_M} {c ty n b : Nat} (h : (c, ty + 3, n, b) ∈ tk_ars) : (tk_ws G M)[c]? = some (G.1 c, .inl (G.2.2 (ty + 3), n, .inr (.inr (.inr (.inr fun j => some (G.1 (b + j))))))) := by
  obtain ⟨h1, h2, -⟩ := tk_ars_ok _ h
  dsimp only at h1 h2
  rw [tk_ws_at h1]
  unfold tk_ent
  rw [h2, if_neg (by omega)]
theorem tk_ws_ast {G : tk_G} {M : tk_M} {c ty n b : Nat} (h : (c, ty, n, b) ∈ tk_ars) (ht : ty < 2) (i : Nat) (v : Int) : (tk_ws G M).set c (G.1 c, .inl (G.2.2 ty, n, .inl (upd (fun j => Int32.ofInt (M c j)) i (Int32.ofInt v)))) = tk_ws G (tk_up M c i v) := by
  obtain ⟨h1, h2, -⟩ := tk_ars_ok _ h
  dsimp only at h1 h2
  refine tk_ws_set h1 (fun a ha b => tk_up_ne ha b) ?_
  unfold tk_ent
  rw [h2, if_pos (by omega)]
  show Sum.inl (G.2.2 ty, n, if ty = 2 then _ else _) = _
  rw [if_neg (by omega)]
  congr 3
  congr 1
  funext j
  unfold upd tk_up
  by_cases e : j = i
  · simp [e]
  · simp [e]
theorem tk_ws_lst {G : tk_G} {M : tk_M} {c n b : Nat} (h : (c, 2, n, b) ∈ tk_ars) (i : Nat) (v : Int) : (tk_ws G M).set c (G.1 c, .inl (G.2.2 2, n, .inr (.inl (vp_updL (fun j => Int64.ofInt (M c j)) i (Int64.ofInt v))))) = tk_ws G (tk_up M c i v) := by
  obtain ⟨h1, h2, -⟩ := tk_ars_ok _ h
  dsimp only at h1 h2
  refine tk_ws_set h1 (fun a ha b => tk_up_ne ha b) ?_
  unfold tk_ent
  rw [h2, if_pos (by omega)]
  show Sum.inl (G.2.2 2, n, Sum.inr (Sum.inl _)) = _
  congr 4
  congr 1
  funext j
  unfold vp_updL tk_up
  by_cases e : j = i
  · simp [e]
  · simp [e]
def tk_tys (G : tk_G) : List (ClassId × FieldType) := [(G.2.2 0, .int), (G.2.2 1, .boolean), (G.2.2 2, .long), (G.2.2 3, .object "TrackKeeper$Train"), (G.2.2 4, .object "TrackKeeper$Section"), (G.2.2 5, .object "TrackKeeper$Subsection")]
theorem tk_tys_at {G : tk_G} {c ty n b : Nat} (h : (c, ty, n, b) ∈ tk_ars) : ∃ y, (tk_tys G)[ty]? = some (G.2.2 ty, y) := by
  have h1 := (tk_ars_ok _ h).2.2.2
  dsimp only at h1
  match ty, h1 with
  | 0, _ => exact ⟨_, rfl⟩
  | 1, _ => exact ⟨_, rfl⟩
  | 2, _ => exact ⟨_, rfl⟩
  | 3, _ => exact ⟨_, rfl⟩
  | 4, _ => exact ⟨_, rfl⟩
  | 5, _ => exact ⟨_, rfl⟩
theorem tk_tys_rf {G : tk_G} {c ty n b : Nat} (h : (c, ty + 3, n, b) ∈ tk_ars) : ∃ C, (tk_tys G)[ty + 3]? = some (G.2.2 (ty + 3), .object C) := by
  have h1 := (tk_ars_ok _ h).2.2.2
  dsimp only at h1
  match ty, h1 with
  | 0, _ => exact ⟨_, rfl⟩
  | 1, _ => exact ⟨_, rfl⟩
  | 2, _ => exact ⟨_, rfl⟩
theorem tk_ws_any {G : tk_G} {M : tk_M} {c ty n b : Nat} (h : (c, ty, n, b) ∈ tk_ars) : ∃ x : vp_A, (tk_ws G M)[c]? = some (G.1 c, .inl (G.2.2 ty, x)) ∧ x.1 = n ∧ True := by
  match ty, h with
  | 0, h => exact ⟨_, tk_ws_arr h (by decide), rfl, trivial⟩
  | 1, h => exact ⟨_, tk_ws_arr h (by decide), rfl, trivial⟩
  | 2, h => exact ⟨_, tk_ws_lng h, rfl, trivial⟩
  | z + 3, h => exact ⟨_, tk_ws_rfs h, rfl, trivial⟩
