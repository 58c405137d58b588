/-! CONTRACTS AND CALLS: a method returns, or throws; nothing outside A changes -/
section TKC
theorem tk_weaken {tb : Tables} {e : Env} {g : JFrame} {below : List Frame} {a b : State} (h : Steps tb e (.java g :: below) a b) : Steps tb e below a b := by
  obtain ⟨n, hn, w⟩ := h
  refine ⟨n, hn, fun k hk => ?_⟩
  obtain ⟨ab, h1, h2, h3⟩ := w k hk
  refine ⟨ab ++ [.java g], by rw [h1]; simp, by simp, fun x hx => ?_⟩
  cases ab with
  | nil => exact h2 rfl
  | cons y t =>
    cases t with
    | nil => simp at hx
    | cons z t => simp at hx
/-- the four kinds of exception -/
def tk_xn (x : Nat) : String := match x with
  | 0 => "java/lang/IllegalStateException"
  | 1 => "java/lang/IllegalArgumentException"
  | 2 => "java/lang/IndexOutOfBoundsException"
  | _ => "java/lang/UnsupportedOperationException"
def tk_ex (s : State) (x : Nat) (a : Nat) (H : Heap) : Prop := ∃ cell : Cell, H[a]? = some cell ∧ cell.vm = .none ∧ s.vm.findClass (tk_xn x) = some cell.cls
def tk_vo (v : Option Int) : Option Value := v.map fun x => Value.int (Int32.ofInt x)
def tk_ro (v : Option Int) : Prop := ∀ x, v = some x → -2147483648 ≤ x ∧ x < 2147483648
/-- how a method ends -/
def tk_Q (below : List Frame) (s : State) (G : tk_G) (A : Nat → Prop) (P : (Option Int ⊕ Nat) → tk_M → Prop) : State → Prop := fun t =>
  t.status = .running ∧ s.WarmedH t.vm ∧ va_F A s t ∧ ∃ (L : List Loc) (M : tk_M), (∀ q ∈ L, A q.base) ∧ tk_Wd G M t.heap ∧
    ((∃ v : Option Int, Ended t below (.returned (tk_vo v)) ∧ tk_ro v ∧ s.sameButNew ({ t with vm := s.vm } : State) L 0 0 ∧ P (.inl v) M) ∨
     (∃ a x : Nat, Ended t below (.threw a) ∧ tk_ex s x a t.heap ∧ s.sameButNew ({ t with vm := s.vm } : State) L 1 6 ∧ P (.inr x) M))
section
variable {p : Program} {l : Launch} {e : Env} {R : Room} {s : State} {m : MethodId} {args : Array Value} {below : List Frame} {meth : Method} {c : Code} {cells slots : Nat} {Q : State → Prop} {G : tk_G} {A : Nat → Prop} {nL : Nat} {H : Heap} {locs : List Loc}
theorem tk_Wmono {Q1 Q2 : State → Prop} (h : ∀ t, Q1 t → Q2 t) {g : JFrame} (k : W p l e R s m args below meth c H locs cells slots Q1 g) : W p l e R s m args below meth c H locs cells slots Q2 g := fun T hT X => by
  obtain ⟨t, a, b⟩ := k T hT X
  exact ⟨t, a, h t b⟩
def tk_RI (P : (Option Int ⊕ Nat) → tk_M → Prop) (v : Option Int) (M : tk_M) : Prop := match v with
  | some x => P (.inl (some x)) M
  | none => False
def tk_RZ (P : (Option Int ⊕ Nat) → tk_M → Prop) (v : Option Int) (M : tk_M) : Prop := match v with
  | some x => (x = 0 ∨ x = 1) ∧ P (.inl (some x)) M
  | none => False
def tk_RV (P : (Option Int ⊕ Nat) → tk_M → Prop) (v : Option Int) (M : tk_M) : Prop := match v with
  | some _ => False
  | none => P (.inl none) M
theorem tk_rtI {cc : ByteArray} {P : (Option Int ⊕ Nat) → tk_M → Prop} (hx : p.tables.exec = Jvm.exec) (hb : c.code = cc) (hlocks : meth.locks = false) (hr : meth.sig.returnType = some .int) : tk_Rt p l e R s m args below meth c 0 0 (tk_Q below s G A P) G A cc (tk_RI P) := by
  intro v M H locs ls pc st hR hW hS hrs hc
  rcases hc with ⟨x, rfl, rfl, hd⟩ | ⟨rfl, rfl, hd⟩
  · refine tk_Wmono ?_ (W.iret (v := Int32.ofInt x) (Qc := fun _ _ o t => o = .returned (some (.int (Int32.ofInt x))) ∧ t.heap = H) (free := A) hx hb hr (fun t ht _ => ⟨rfl, ht⟩) hS.2.2 hd)
    rintro t ⟨o, h1, h2, ⟨rfl, h4⟩, L, ⟨-, h5, h6⟩, h7⟩
    exact ⟨h1, h5, hS.F h4, L, M, h7, by rw [h4]; exact hW, Or.inl ⟨some x, h2, fun y hy => by cases hy; exact hrs.hd, h6, hR⟩⟩
  · exact hR.elim
theorem tk_rtZ {cc : ByteArray} {P : (Option Int ⊕ Nat) → tk_M → Prop} (hx : p.tables.exec = Jvm.exec) (hb : c.code = cc) (hlocks : meth.locks = false) (hr : meth.sig.returnType = some .boolean) : tk_Rt p l e R s m args below meth c 0 0 (tk_Q below s G A P) G A cc (tk_RZ P) := by
  intro v M H locs ls pc st hR hW hS hrs hc
  rcases hc with ⟨x, rfl, rfl, hd⟩ | ⟨rfl, rfl, hd⟩
  · refine tk_Wmono ?_ (W.zret (v := Int32.ofInt x) (ty := .boolean) (Qc := fun _ _ o t => o = .returned (some (.int (Int32.ofInt x))) ∧ t.heap = H) (free := A) hx hb hr (by rcases hR.1 with rfl | rfl <;> rfl) (fun t ht _ => ⟨rfl, ht⟩) hS.2.2 hd)
    rintro t ⟨o, h1, h2, ⟨rfl, h4⟩, L, ⟨-, h5, h6⟩, h7⟩
    exact ⟨h1, h5, hS.F h4, L, M, h7, by rw [h4]; exact hW, Or.inl ⟨some x, h2, fun y hy => by cases hy; exact hrs.hd, h6, hR.2⟩⟩
  · exact hR.elim
theorem tk_rtV {cc : ByteArray} {P : (Option Int ⊕ Nat) → tk_M → Prop} (hx : p.tables.exec = Jvm.exec) (hb : c.code = cc) (hlocks : meth.locks = false) (hr : meth.sig.returnType = none) : tk_Rt p l e R s m args below meth c 0 0 (tk_Q below s G A P) G A cc (tk_RV P) := by
  intro v M H locs ls pc st hR hW hS hrs hc
  rcases hc with ⟨x, rfl, rfl, hd⟩ | ⟨rfl, rfl, hd⟩
  · exact hR.elim
  · refine tk_Wmono ?_ (W.vret (Qc := fun _ _ o t => o = .returned none ∧ t.heap = H) (free := A) hx hb hr (fun t ht _ => ⟨rfl, ht⟩) hS.2.2 hd)
    rintro t ⟨o, h1, h2, ⟨rfl, h4⟩, L, ⟨-, h5, h6⟩, h7⟩
    exact ⟨h1, h5, hS.F h4, L, M, h7, by rw [h4]; exact hW, Or.inl ⟨none, h2, fun y hy => by (cases hy), h6, hR⟩⟩
end
theorem tk_goodall : ∀ w ∈ tk_tbl, (w.onTables && w.keeps) = true ∨ ∃ ty, w = .arrayClass ty := fun w hw => good_of_word (List.mem_filter.mp hw).2
/-- words that are carried by themselves: a nest mate's method; an exception is of its own kind; pairs of exceptions that are not -/
def tk_nst : List Cond := [.methodLinkNest "TrackKeeper$Track" 23 ⟨"TrackKeeper$Section", "<init>", "()V"⟩ "TrackKeeper", .methodLinkNest "TrackKeeper$Track" 24 ⟨"TrackKeeper$Subsection", "<init>", "()V"⟩ "TrackKeeper", .methodLinkNest "TrackKeeper" 18 ⟨"TrackKeeper$Authorities", "<init>", "()V"⟩ "TrackKeeper", .methodLinkNest "TrackKeeper" 29 ⟨"TrackKeeper$Train", "<init>", "()V"⟩ "TrackKeeper", .methodLinkNest "TrackKeeper$Track" 41 ⟨"TrackKeeper", "isWithin", "(III)Z"⟩ "TrackKeeper"]
def tk_isN (w : Cond) : Bool := match w with
  | .methodLinkNest .. => true
  | .castable .. => true
  | .declares _ => true
  | _ => false
def tk_cw : List Cond := [.declares ⟨"java/lang/RuntimeException", "<init>", "()V"⟩, .declares ⟨"java/lang/Exception", "<init>", "()V"⟩, .declares ⟨"java/lang/Throwable", "<init>", "()V"⟩, .castable "java/lang/IllegalStateException" "java/lang/IllegalStateException", .castable "java/lang/IllegalArgumentException" "java/lang/IllegalArgumentException", .castable "java/lang/IndexOutOfBoundsException" "java/lang/IndexOutOfBoundsException", .castable "java/lang/UnsupportedOperationException" "java/lang/UnsupportedOperationException"]
theorem tk_Nw_warm {w : Cond} (hw : tk_isN w = true) {s U : State} (hW : s.WarmedH U.vm) (h : va_Nw w s) : va_Nw w U := by
  cases w with
  | methodLinkNest a i x b => exact va_Nw.warmM hW h
  | declares x => exact va_Nw.warmD hW h
  | castable a b =>
    have h1 := Cond.castable_setVm (args := #[]) (s := s) hW.alike a b
    have h2 : (Cond.castable a b).before #[] (s.setVm U.vm) = true := by rw [h1]; exact h
    exact va_tabs rfl (rfl : (s.setVm U.vm).vm = U.vm) h2
  | _ => cases hw
theorem tk_Nc_warm {a b : String} {s U : State} (hW : s.WarmedH U.vm) (h : va_Nc a b s) : va_Nc a b U := by
  obtain ⟨c, t, h1, h2, h3⟩ := h
  have hal := hW.alike
  exact ⟨c, t, by rw [hal.findClass]; exact h1, by rw [hal.findClass]; exact h2, by rw [hal.assignable]; exact h3⟩
def tk_more (A : Nat → Prop) (s : State) : Prop := vx_Zq Bundle.tN "UNASSIGNED_STACK" Bundle.steD A s s.heap ∧ vx_Zq Bundle.tN "SUPPRESSED_SENTINEL" Bundle.listD A s s.heap ∧ (∀ w ∈ tk_nst ++ tk_cw, va_Nw w s) ∧ ∀ x y, x < 4 → y < 4 → x ≠ y → va_Nc (tk_xn x) (tk_xn y) s
theorem tk_isN_all : ∀ w ∈ tk_nst ++ tk_cw, tk_isN w = true := by decide +kernel
theorem tk_more.call {A : Nat → Prop} {s U : State} (h : tk_more A s) (hW : s.WarmedH U.vm) (hk : ∀ q : Nat, q < s.heap.size → ¬ A q → U.heap[q]? = s.heap[q]?) : tk_more A U :=
  ⟨vx_Zq.moved hW.alike (h.1.kept hk), vx_Zq.moved hW.alike (h.2.1.kept hk), fun w hw => tk_Nw_warm (tk_isN_all w hw) hW (h.2.2.1 w hw), fun x y hx hy hn => tk_Nc_warm hW (h.2.2.2 x y hx hy hn)⟩
/-- what holds at the start of every method -/
def tk_F (G : tk_G) (A : Nat → Prop) (s : State) : Prop :=
  (∀ w ∈ tk_tbl, w.before #[] s = true) ∧ va_K G.2.1 tk_cl (tk_tys G) s ∧ tk_St G A ∧ (∀ q : Nat, s.heap.size ≤ q → A q) ∧ tk_more A s
def tk_Con (l : Launch) (y : MethodName) (nf nw : Nat) (Pre : List tk_U → tk_M → Prop) (Post : List tk_U → tk_M → (Option Int ⊕ Nat) → tk_M → Prop) : Prop :=
  ∀ (p : Program) (e : Env) (R : Room) (s : State) (m : MethodId) (below : List Frame) (meth : Method) (c : Code) (G : tk_G) (A : Nat → Prop) (as : List tk_U) (M : tk_M),
    p.tables.exec = Jvm.exec → tk_F G A s → s.methodNamed? y = some m → nf ≤ R.frames → nw ≤ R.locals → 1 ≤ R.cells → 6 ≤ R.slots → Pre as M → (∀ u ∈ as, tk_ru u) → tk_Wd G M s.heap → s.vm.method? m = some meth → meth.code = some c →
    W p l e R s m (as.map fun u => tk_cv G (.inl u)).toArray below meth c s.heap [] 0 0 (tk_Q below s G A (Post as M)) (entryFrame m (as.map fun u => tk_cv G (.inl u)).toArray c.maxLocals)
end TKC
