/-! THE WORLD AT ITS START: every cell of the one world stands, all numbers are 0 -/
def tk_M0 : tk_M := fun _ _ => 0
def px (c : Nat) : Nat := if c = 0 then 80 else if c = 1 then 0 else if c = 2 then 1 else if c = 3 then 46 else if c = 4 then 47 else if c = 5 then 2 else if c = 6 then 3 else if c = 7 then 56 else if c < 31 then c + 49 else if c < 73 then c - 27 else c - 25
def e_all (K : Nat → ClassId) (a : Nat → Nat) : Nat → va_E := fun p => if p = 80 then .inl (K 2, 1, .inr (.inl fun _ => 0)) else if p < 56 then e_tk K a p else if p = 56 then .inr (6, mo_fs a 23) else .inl (K (mo_t (p - 57)), mo_n (p - 57), .inl fun _ => 0)
def tk_Gz (a : Nat → Nat) (b : Nat) (D : va_G) (K : Nat → ClassId) : tk_G := (fun c => if c = 99 then b else a (px c), D, K)
theorem px_lt : ∀ c, c < 81 → px c < 81 := by decide +kernel
theorem px_inj : ∀ c, c < 81 → ∀ d, d < 81 → px c = px d → c = d := by decide +kernel
theorem arrV_cg {cI : ClassId} {N : Nat} {f g : Nat → Value} (h : ∀ j, j < N → f j = g j) : arrV cI N f = arrV cI N g := by
  unfold arrV
  congr 1
  congr 1
  funext j
  exact h j.val j.isLt
theorem va_at_rf {D : va_G} {x n : Nat} {cA : ClassId} {f g : Nat → Option Nat} {H : Heap} (h : ∀ j, j < n → f j = g j) (hv : va_at D tk_cl (x, e_rf cA n f) H) : va_at D tk_cl (x, .inl (cA, n, .inr (.inr (.inr (.inr g))))) H := by
  have h1 : H[x]? = some (vp_cell cA (n, .inr (.inr (.inr (.inr f))))) := hv
  show H[x]? = some (vp_cell cA (n, .inr (.inr (.inr (.inr g)))))
  rw [h1, vp_cell_q, vp_cell_q, arrV_cg (fun j hj => by rw [h j hj])]
set_option maxRecDepth 100000 in
theorem tk_z31 {G : tk_G} {c : Nat} (h1 : 31 ≤ c) (h2 : c < 41) : tk_ent G tk_M0 c = e_se := by
  obtain ⟨d, rfl⟩ : ∃ d, c = d + 31 := ⟨c - 31, by omega⟩
  have : tk_sh (d + 31) = .inl (3, [none, none, none, none, none, none]) := by
    show (if d < 10 then _ else _) = _
    rw [if_pos (by omega)]
  unfold tk_ent
  rw [this]
  rfl
theorem tk_z41 {G : tk_G} {c : Nat} (h1 : 41 ≤ c) (h2 : c < 73) : tk_ent G tk_M0 c = e_su := by
  obtain ⟨d, rfl⟩ : ∃ d, c = d + 31 := ⟨c - 31, by omega⟩
  have : tk_sh (d + 31) = .inl (4, [none, none, none, none, none]) := by
    show (if d < 10 then _ else if d < 42 then _ else _) = _
    rw [if_neg (by omega), if_pos (by omega)]
  unfold tk_ent
  rw [this]
  rfl
theorem tk_z73 {G : tk_G} {c : Nat} (h1 : 73 ≤ c) : tk_ent G tk_M0 c = e_ti := by
  obtain ⟨d, rfl⟩ : ∃ d, c = d + 31 := ⟨c - 31, by omega⟩
  have : tk_sh (d + 31) = .inl (5, [none, none, none, none, none, none, none, none, none, none, none, none, none]) := by
    show (if d < 10 then _ else if d < 42 then _ else _) = _
    rw [if_neg (by omega), if_neg (by omega)]
  unfold tk_ent
  rw [this]
  rfl
theorem px_r1 {c : Nat} (h1 : 31 ≤ c) (h2 : c < 73) : px c = c - 27 := by
  unfold px
  rw [if_neg (by omega), if_neg (by omega), if_neg (by omega), if_neg (by omega), if_neg (by omega), if_neg (by omega), if_neg (by omega), if_neg (by omega), if_neg (by omega), if_pos h2]
theorem px_r2 {c : Nat} (h1 : 73 ≤ c) : px c = c - 25 := by
  unfold px
  rw [if_neg (by omega), if_neg (by omega), if_neg (by omega), if_neg (by omega), if_neg (by omega), if_neg (by omega), if_neg (by omega), if_neg (by omega), if_neg (by omega), if_neg (by omega)]
theorem tk_Gz_at {a : Nat → Nat} {b : Nat} {D : va_G} {K : Nat → ClassId} {c : Nat} (h : c < 81) : (tk_Gz a b D K).1 c = a (px c) := by
  show (if c = 99 then b else a (px c)) = _
  rw [if_neg (by omega)]
set_option maxRecDepth 100000 in
set_option maxHeartbeats 1000000 in
theorem tk_zat {a : Nat → Nat} {b : Nat} {D : va_G} {K : Nat → ClassId} {H : Heap} {c : Nat} (hc : c < 81) (h : va_at D tk_cl (a (px c), e_all K a (px c)) H) : va_at D tk_cl (a (px c), tk_ent (tk_Gz a b D K) tk_M0 c) H := by
  by_cases g1 : 73 ≤ c
  · rw [tk_z73 g1]
    rw [px_r2 g1] at h ⊢
    unfold e_all e_tk at h
    rw [if_neg (by omega), if_pos (by omega), if_neg (by omega), if_neg (by omega), if_neg (by omega), if_neg (by omega)] at h
    exact h
  by_cases g2 : 41 ≤ c
  · rw [tk_z41 g2 (by omega)]
    rw [px_r1 (by omega) (by omega)] at h ⊢
    unfold e_all e_tk e_tr at h
    rw [if_neg (by omega), if_pos (by omega), if_neg (by omega), if_pos (by omega), if_neg (by omega), if_neg (by omega), if_neg (by omega), if_neg (by omega), if_neg (by omega)] at h
    exact h
  by_cases g3 : 31 ≤ c
  · rw [tk_z31 g3 (by omega)]
    rw [px_r1 (by omega) (by omega)] at h ⊢
    unfold e_all e_tk e_tr at h
    rw [if_neg (by omega), if_pos (by omega), if_neg (by omega), if_pos (by omega), if_neg (by omega), if_neg (by omega), if_neg (by omega), if_neg (by omega), if_pos (by omega)] at h
    exact h
  by_cases g4 : c = 4
  · subst g4
    exact va_at_rf (f := fun j => if j < 8 then some (a (48 + j)) else none) (fun j hj => by rw [if_pos hj, tk_Gz_at (by omega), px_r2 (by omega)]; congr 2; omega) h
  by_cases g5 : c = 5
  · subst g5
    exact va_at_rf (f := fun j => if j < 10 then some (a (4 + j)) else none) (fun j hj => by rw [if_pos hj, tk_Gz_at (by omega), px_r1 (by omega) (by omega)]; congr 2; omega) h
  by_cases g6 : c = 6
  · subst g6
    exact va_at_rf (f := fun j => if j < 32 then some (a (14 + j)) else none) (fun j hj => by rw [if_pos hj, tk_Gz_at (by omega), px_r1 (by omega) (by omega)]; congr 2; omega) h
  match c, hc with
  | 0, _ => exact h
  | 1, _ => exact h
  | 2, _ => exact h
  | 3, _ => exact h
  | 7, _ => exact h
  | 8, _ => exact h
  | 9, _ => exact h
  | 10, _ => exact h
  | 11, _ => exact h
  | 12, _ => exact h
  | 13, _ => exact h
  | 14, _ => exact h
  | 15, _ => exact h
  | 16, _ => exact h
  | 17, _ => exact h
  | 18, _ => exact h
  | 19, _ => exact h
  | 20, _ => exact h
  | 21, _ => exact h
  | 22, _ => exact h
  | 23, _ => exact h
  | 24, _ => exact h
  | 25, _ => exact h
  | 26, _ => exact h
  | 27, _ => exact h
  | 28, _ => exact h
  | 29, _ => exact h
  | 30, _ => exact h
  | 4, _ => exact absurd rfl g4
  | 5, _ => exact absurd rfl g5
  | 6, _ => exact absurd rfl g6
  | n + 31, _ => exact absurd (Nat.le_add_left 31 n) g3
theorem tk_zW {a : Nat → Nat} {b : Nat} {D : va_G} {K : Nat → ClassId} {A : Nat → Prop} {E : Nat → va_E} {H : Heap} (hV : tk_Vw D A 81 a E H) (hE : ∀ p, p < 81 → E p = e_all K a p) : tk_Wd (tk_Gz a b D K) tk_M0 H ∧ tk_St (tk_Gz a b D K) A := by
  refine ⟨⟨fun k q hk => ?_, fun c j => by show (_ : Int) ≤ 0 ∧ (0 : Int) < _; decide⟩, fun i j hi hj e => ?_, fun i hi => ?_⟩
  · obtain ⟨h1, rfl⟩ := tk_ws_some hk
    have h1 : k < 81 := h1
    rw [tk_Gz_at h1]
    have h2 := hV.1 (px k) (px_lt k h1)
    rw [hE (px k) (px_lt k h1)] at h2
    exact tk_zat h1 h2
  · have hi : i < 81 := hi
    have hj : j < 81 := hj
    rw [tk_Gz_at hi, tk_Gz_at hj] at e
    exact px_inj i hi j hj (hV.2.1 _ _ (px_lt i hi) (px_lt j hj) e)
  · have hi : i < 81 := hi
    rw [tk_Gz_at hi]
    exact hV.2.2 _ (px_lt i hi)
