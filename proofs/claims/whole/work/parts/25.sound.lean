/-! THE WALKER IS RIGHT: a stretch that the walker grants is a stretch of the machine -/
section TKS
theorem tk_ti {x : Int} (h1 : -2147483648 ≤ x) (h2 : x < 2147483648) : (Int32.ofInt x).toInt = x := Int32.toInt_ofInt_of_le (by simpa using h1) (by simpa using h2)
theorem tk_tiL {x : Int} (h1 : -2147483648 ≤ x) (h2 : x < 2147483648) : (Int64.ofInt x).toInt = x := Int64.toInt_ofInt_of_le (by omega) (by omega)
theorem tk_eqI {x y : Int} (h1 : -2147483648 ≤ x ∧ x < 2147483648) (h2 : -2147483648 ≤ y ∧ y < 2147483648) : Int32.ofInt x = Int32.ofInt y ↔ x = y := by
  rw [← Int32.toInt_inj, tk_ti h1.1 h1.2, tk_ti h2.1 h2.2]
theorem tk_ltI {x y : Int} (h1 : -2147483648 ≤ x ∧ x < 2147483648) (h2 : -2147483648 ≤ y ∧ y < 2147483648) : Int32.ofInt x < Int32.ofInt y ↔ x < y := by
  rw [Int32.lt_iff_toInt_lt, tk_ti h1.1 h1.2, tk_ti h2.1 h2.2]
theorem tk_leI {x y : Int} (h1 : -2147483648 ≤ x ∧ x < 2147483648) (h2 : -2147483648 ≤ y ∧ y < 2147483648) : Int32.ofInt x ≤ Int32.ofInt y ↔ x ≤ y := by
  rw [Int32.le_iff_toInt_le, tk_ti h1.1 h1.2, tk_ti h2.1 h2.2]
theorem tk_rT (z : Int32) : -2147483648 ≤ z.toInt ∧ z.toInt < 2147483648 := ⟨by have := Int32.le_toInt z; omega, by have := Int32.toInt_lt z; omega⟩
theorem tk_clm {x : Int} (h1 : 0 ≤ x) (h2 : x < 2147483648) : (Int32.ofInt x).toNatClampNeg = x.toNat := by
  show (Int32.ofInt x).toInt.toNat = x.toNat
  rw [tk_ti (by omega) h2]
theorem tk_in {x : Int} {n : Nat} (h1 : 0 ≤ x) (h2 : x < (n : Int)) (hn : x < 2147483648) : vp_in (Int32.ofInt x) n := by
  rw [vp_in_iff, tk_ti (by omega) hn]
  exact ⟨h1, h2⟩
theorem tk_gt_se {α : Type} (v : α) : ∀ (lo : List (Option α)) (i n : Nat), i < lo.length → tk_gt (tk_se lo i v) n = if n = i then some v else tk_gt lo n
  | [], i, n, h => absurd h (Nat.not_lt_zero _)
  | a :: t, 0, 0, _ => rfl
  | a :: t, 0, n + 1, _ => rfl
  | a :: t, i + 1, 0, _ => rfl
  | a :: t, i + 1, n + 1, h => by
    show tk_gt (tk_se t i v) n = if n + 1 = i + 1 then some v else tk_gt t n
    rw [tk_gt_se v t i n (Nat.lt_of_succ_lt_succ h)]
    simp
theorem tk_se_len {α : Type} (v : α) : ∀ (lo : List (Option α)) (i : Nat), (tk_se lo i v).length = lo.length
  | [], _ => rfl
  | _ :: _, 0 => rfl
  | a :: t, i + 1 => congrArg Nat.succ (tk_se_len v t i)
def tk_lv (G : tk_G) : Nat → tk_Lc → List (Nat × Value)
  | _, [] => []
  | k, none :: t => tk_lv G (k + 1) t
  | k, some v :: t => (k, tk_cv G (.inl v)) :: tk_lv G (k + 1) t
theorem tk_lv_mem {G : tk_G} {q : Nat × Value} : ∀ {lo : tk_Lc} {k : Nat}, q ∈ tk_lv G k lo ↔ ∃ n v, q = (k + n, tk_cv G (.inl v)) ∧ tk_gt lo n = some v
  | [], k => ⟨fun h => (by cases h), fun ⟨n, v, _, h⟩ => (by cases h)⟩
  | none :: t, k => by
    show q ∈ tk_lv G (k + 1) t ↔ _
    rw [tk_lv_mem (lo := t) (k := k + 1)]
    constructor
    · rintro ⟨n, v, e1, e2⟩
      exact ⟨n + 1, v, by rw [e1]; congr 1; omega, e2⟩
    · rintro ⟨n, v, e1, e2⟩
      cases n with
      | zero => cases e2
      | succ n => exact ⟨n, v, by rw [e1]; congr 1; omega, e2⟩
  | some w :: t, k => by
    show q ∈ (k, tk_cv G (.inl w)) :: tk_lv G (k + 1) t ↔ _
    rw [List.mem_cons, tk_lv_mem (lo := t) (k := k + 1)]
    constructor
    · rintro (e1 | ⟨n, v, e1, e2⟩)
      · exact ⟨0, w, e1, rfl⟩
      · exact ⟨n + 1, v, by rw [e1]; congr 1; omega, e2⟩
    · rintro ⟨n, v, e1, e2⟩
      cases n with
      | zero =>
        cases e2
        exact Or.inl e1
      | succ n => exact Or.inr ⟨n, v, by rw [e1]; congr 1; omega, e2⟩
theorem tk_cat {G : tk_G} (v : tk_U) : (tk_cv G (.inl v)).category = 1 := by cases v <;> rfl
def tk_ru (v : tk_U) : Prop := match v with
  | .inl x => -2147483648 ≤ x ∧ x < 2147483648
  | .inr _ => True
def tk_rv (v : tk_V) : Prop := match v with
  | .inl u => tk_ru u
  | .inr x => -2147483648 ≤ x ∧ x < 2147483648
def tk_rs (st : List tk_V) : Prop := ∀ v ∈ st, tk_rv v
theorem tk_rs.nil : tk_rs [] := fun _ h => by cases h
theorem tk_rs.cons {v : tk_V} {st : List tk_V} (h : tk_rv v) (hs : tk_rs st) : tk_rs (v :: st) := fun w hw => by
  rcases List.mem_cons.mp hw with e | e
  · rw [e]; exact h
  · exact hs w e
theorem tk_rs.tl {v : tk_V} {st : List tk_V} (hs : tk_rs (v :: st)) : tk_rs st := fun w hw => hs w (List.mem_cons_of_mem _ hw)
theorem tk_rs.hd {v : tk_V} {st : List tk_V} (hs : tk_rs (v :: st)) : tk_rv v := hs v List.mem_cons_self
def tk_L (G : tk_G) (ls : Array Slot) (nL : Nat) (lo : tk_Lc) : Prop := lo.length = nL ∧ lv_has ls nL (tk_lv G 0 lo) ∧ ∀ n v, tk_gt lo n = some v → tk_ru v
theorem tk_L.at {G : tk_G} {ls : Array Slot} {nL : Nat} {lo : tk_Lc} (h : tk_L G ls nL lo) {n : Nat} {v : tk_U} (hn : tk_gt lo n = some v) : ls[n]? = some (.val (tk_cv G (.inl v))) := by
  have h1 : (n, tk_cv G (.inl v)) ∈ tk_lv G 0 lo := tk_lv_mem.mpr ⟨n, v, by rw [Nat.zero_add], hn⟩
  exact h.2.1.2.2 _ h1
theorem tk_L.store {G : tk_G} {ls ls' : Array Slot} {nL : Nat} {lo : tk_Lc} (h : tk_L G ls nL lo) {i : Nat} (hi : i < nL) {v : tk_U} (hv : tk_ru v) (h' : lv_has ls' nL ((i, tk_cv G (.inl v)) :: (tk_lv G 0 lo).filter (fun q => !(q.1 == i) && !(q.1 + 1 == i && q.2.category == 2)))) : tk_L G ls' nL (tk_se lo i v) := by
  have hl : i < lo.length := by rw [h.1]; exact hi
  refine ⟨by rw [tk_se_len]; exact h.1, ⟨h'.1, h'.2.1, fun q hq => h'.2.2 q ?_⟩, fun n w hn => ?_⟩
  · obtain ⟨n, w, e1, e2⟩ := tk_lv_mem.mp hq
    rw [tk_gt_se v lo i n hl] at e2
    by_cases e : n = i
    · rw [if_pos e] at e2
      cases e2
      rw [e1, e, Nat.zero_add]
      exact List.mem_cons_self
    · rw [if_neg e] at e2
      refine List.mem_cons_of_mem _ (List.mem_filter.mpr ⟨tk_lv_mem.mpr ⟨n, w, e1, e2⟩, ?_⟩)
      rw [e1]
      simp [e, tk_cat]
  · rw [tk_gt_se v lo i n hl] at hn
    by_cases e : n = i
    · rw [if_pos e] at hn
      cases hn
      exact hv
    · rw [if_neg e] at hn
      exact h.2.2 n w hn
variable (p : Program) (l : Launch) (e : Env) (R : Room) (s : State) (m : MethodId) (args : Array Value) (below : List Frame) (meth : Method) (c : Code) (cells slots : Nat) (Q : State → Prop) (G : tk_G) (A : Nat → Prop) (nL : Nat)
/-- at pc, with these locals, this stack and this memory, the machine comes to Q -/
def tk_W (pc : Nat) (lo : tk_Lc) (st : List tk_V) (M : tk_M) : Prop :=
  ∀ (H : Heap) (locs : List Loc) (ls : Array Slot), tk_Wd G M H → va_S A s.heap H locs → tk_L G ls nL lo → tk_rs st → W p l e R s m args below meth c H locs cells slots Q (F0 m pc ls (st.map (tk_cv G)))
/-- what holds all through a method's walk -/
def tk_X (own : String) (cc : ByteArray) (b9 : Bool) (L : Nat) (xs : Nat → Int32) : Prop :=
  p.tables.exec = Jvm.exec ∧ c.code = cc ∧ c.maxLocals = nL ∧ s.vm.findClass own = some m.cls ∧ (∀ w ∈ tk_tbl, w.before args s = true) ∧ va_K G.2.1 tk_cl (tk_tys G) s ∧ tk_St G A ∧ (∀ q : Nat, s.heap.size ≤ q → A q) ∧
  (b9 = true → va_X (G.1 tk_sc) L xs s s.heap ∧ G.1 tk_sc < s.heap.size ∧ ¬ A (G.1 tk_sc) ∧ L < 2147483648)
def tk_csok (own : String) (cs : List (Nat × Int)) : Prop := ∀ q ∈ cs, Jvm.Cond.constant own q.1 (Int32.ofInt q.2) ∈ tk_tbl ∧ -2147483648 ≤ q.2 ∧ q.2 < 2147483648
/-- a return at pc -/
def tk_Rt (cc : ByteArray) (RQ : Option Int → tk_M → Prop) : Prop :=
  ∀ (v : Option Int) (M : tk_M) (H : Heap) (locs : List Loc) (ls : Array Slot) (pc : Nat) (st : List tk_V), RQ v M → tk_Wd G M H → va_S A s.heap H locs → tk_rs st →
    ((∃ x, v = some x ∧ st = [.inl (.inl x)] ∧ decode cc pc = .ok (.ireturn, 1)) ∨ (v = none ∧ st = [] ∧ decode cc pc = .ok (.return_, 1))) → W p l e R s m args below meth c H locs cells slots Q (F0 m pc ls (st.map (tk_cv G)))
variable {p l e R s m args below meth c cells slots Q G A nL}
theorem tk_sw_at {J : Nat → Prop} {x : Int} : ∀ {n : Int} {ts : List Nat}, tk_sw J x n ts → ∀ (k : Nat) (t : Nat), ts[k]? = some t → x = n + (k : Int) → J t
  | n, [], _, k, t, h, _ => by simp at h
  | n, t0 :: ts, hs, 0, t, h, hx => by
    simp at h
    subst h
    exact hs.1 (by simpa using hx)
  | n, t0 :: ts, hs, k + 1, t, h, hx => by
    simp at h
    exact tk_sw_at hs.2 k t h (by rw [hx]; push_cast; omega)
end TKS
