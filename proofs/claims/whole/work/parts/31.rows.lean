/-! the rows: a method out of its walk; calls; a throw -/
section TKR
variable {p : Program} {l : Launch} {e : Env} {R : Room} {s : State} {m : MethodId} {args : Array Value} {below : List Frame} {meth : Method} {c : Code} {cells slots : Nat} {Q : State → Prop} {G : tk_G} {A : Nat → Prop} {nL : Nat} {T : State} {locs : List Loc} {L : Nat} {xs : Nat → Int32}
theorem tk_wAny {w : Cond} (hw : w ∈ tk_tbl) {a a' : Array Value} {s U : State} (hW : s.WarmedH U.vm) (h : w.before a s = true) : w.before a' U = true := word_at hW (tk_goodall w hw) h
theorem tk_F.words (h : tk_F G A s) (args : Array Value) : ∀ w ∈ tk_tbl, w.before args s = true := fun w hw => tk_wAny hw (State.WarmedH.refl s) (h.1 w hw)
theorem tk_F.call (h : tk_F G A s) {U : State} (hW : s.WarmedH U.vm) (hz : s.heap.size ≤ U.heap.size) (hk : ∀ q : Nat, q < s.heap.size → ¬ A q → U.heap[q]? = s.heap[q]?) : tk_F G A U :=
  ⟨fun w hw => tk_wAny hw hW (h.1 w hw), va_K.moved hW.alike h.2.1, h.2.2.1, fun q hq => h.2.2.2.1 q (Nat.le_trans hz hq), tk_more.call h.2.2.2.2 hW hk⟩
theorem tk_entry_lv (G : tk_G) : ∀ (as : List tk_U) (k : Nat), lv_args k (as.map fun u => tk_cv G (.inl u)) = tk_lv G k (as.map some)
  | [], k => rfl
  | u :: t, k => by
    have h1 : (tk_cv G (.inl u)).category = 1 := tk_cat u
    show lv_args k (tk_cv G (.inl u) :: t.map fun u => tk_cv G (.inl u)) = (k, tk_cv G (.inl u)) :: tk_lv G (k + 1) (t.map some)
    rw [← tk_entry_lv G t (k + 1)]
    simp [lv_args, h1]
theorem tk_gt_app {α : Type} : ∀ (as : List α) (r n : Nat) (v : α), tk_gt (as.map some ++ List.replicate r none) n = some v → tk_gt (as.map some) n = some v ∧ v ∈ as
  | [], 0, n, v, h => by cases h
  | [], r + 1, 0, v, h => by cases h
  | [], r + 1, n + 1, v, h => by
    have := tk_gt_app ([] : List α) r n v h
    exact absurd this.2 List.not_mem_nil
  | a :: t, r, 0, v, h => by
    cases h
    exact ⟨rfl, List.mem_cons_self⟩
  | a :: t, r, n + 1, v, h => by
    have := tk_gt_app t r n v h
    exact ⟨this.1, List.mem_cons_of_mem _ this.2⟩
theorem tk_lgl (G : tk_G) : ∀ (as : List tk_U), (lg_sl (as.map fun u => tk_cv G (.inl u))).length = as.length
  | [] => rfl
  | u :: t => by
    have h1 : (tk_cv G (.inl u)).category = 1 := tk_cat u
    have h2 := tk_lgl G t
    simp [lg_sl, h1] at h2 ⊢
    exact h2
/-- a contract out of a walk from the method's entry -/
theorem tk_Con.of {y : MethodName} {cc : ByteArray} {nL : Nat} {ret : Option FieldType} {nf nw : Nat} {Pre : List tk_U → tk_M → Prop} {Post : List tk_U → tk_M → (Option Int ⊕ Nat) → tk_M → Prop} (hw : Cond.code y cc nL ret ∈ tk_tbl)
    (body : ∀ (p : Program) (e : Env) (R : Room) (s : State) (m : MethodId) (below : List Frame) (meth : Method) (c : Code) (G : tk_G) (A : Nat → Prop) (as : List tk_U) (M : tk_M), tk_F G A s → tk_X p s m (as.map fun u => tk_cv G (.inl u)).toArray c G A nL y.cls cc false 0 (fun _ => 0) → nf ≤ R.frames → nw ≤ R.locals → 1 ≤ R.cells → 6 ≤ R.slots → meth.locks = false → meth.sig.returnType = ret → c.exceptionTable.toList = [] → s.vm.method? m = some meth → (∀ u ∈ as, tk_ru u) → (∀ c j, -2147483648 ≤ M c j ∧ M c j < 2147483648) → Pre as M → as.length ≤ nL ∧
      tk_W p l e R s m (as.map fun u => tk_cv G (.inl u)).toArray below meth c 0 0 (tk_Q below s G A (Post as M)) G A nL 0 (as.map some ++ List.replicate (nL - as.length) none) [] M) : tk_Con l y nf nw Pre Post := by
  intro p e R s m below meth c G A as M hx hF hn h1 h2 h3 h4 hP hr hW hm hc
  obtain ⟨meth', c', hm', hc', hb, hl, hret, hlk, het, -⟩ := Cond.code_spec hn (hF.1 _ hw)
  cases hm.symm.trans hm'
  cases hc.symm.trans hc'
  have het' : c.exceptionTable.toList = [] := by
    have h9 : c.exceptionTable.isEmpty = true := het
    cases hz : c.exceptionTable with
    | mk l9 =>
      rw [hz] at h9
      cases l9 with
      | nil => rfl
      | cons _ _ => cases h9
  obtain ⟨hlen, k⟩ := body p e R s m below meth c G A as M hF ⟨hx, hb, hl, findClass_of_methodNamed hn, hF.words _, hF.2.1, hF.2.2.1, hF.2.2.2.1, fun z => by cases z⟩ h1 h2 h3 h4 hlk hret het' hm hr hW.2 hP
  have hle : (lg_sl (as.map fun u => tk_cv G (.inl u))).length ≤ nL := by rw [tk_lgl]; exact hlen
  have hlv := lv_entry (as.map fun u => tk_cv G (.inl u)) (n := nL) hle
  rw [hl, lg_entry_eq]
  refine k s.heap [] _ hW va_S.rf ⟨by simp; omega, ⟨hlv.1, hlv.2.1, fun q hq => hlv.2.2 q ?_⟩, fun n v hv => hr v (tk_gt_app as _ n v hv).2⟩ tk_rs.nil
  rw [tk_entry_lv]
  obtain ⟨n, v, e1, e2⟩ := tk_lv_mem.mp hq
  exact tk_lv_mem.mpr ⟨n, v, e1, (tk_gt_app as _ n v e2).1⟩
/-- behind the resolution of a call: in, and back, or thrown -/
theorem tk_inv {y : MethodName} {cc : ByteArray} {mL : Nat} {ret : Option FieldType} {nf nw : Nat} {Pre : List tk_U → tk_M → Prop} {Post : List tk_U → tk_M → (Option Int ⊕ Nat) → tk_M → Prop} (con : tk_Con l y nf nw Pre Post) (hw : Cond.code y cc mL ret ∈ tk_tbl) (hy : plainName y.cls = true)
    (hx : p.tables.exec = Jvm.exec) (hF : tk_F G A s) (X : Stand p l e R s m args below meth c T locs cells slots) (hS : va_S A s.heap T.heap locs) {M : tk_M} (hWd : tk_Wd G M T.heap) {g : JFrame} (hg : g.method = m) (hsize : g.locals.size = c.maxLocals) {ig : Instr} (hdg : decode c.code g.pc = .ok (ig, 3)) {mk : MethodId} (hn : s.methodNamed? y = some mk)
    {as : List tk_U} (hpre : Pre as M) (hr : ∀ u ∈ as, tk_ru u) (hfr : nf + 1 ≤ R.frames) (hlo : 2 * g.monitorRoom + (g.stack.map fun v => v.category).sum + (mL + 11) + nw ≤ R.locals) (hcl : cells + 1 ≤ R.cells) (hsl : slots + 6 ≤ R.slots)
    (kr : ∀ (v : Option Int) (M' : tk_M) (T' : State) (locs' : List Loc), Post as M (.inl v) M' → tk_ro v → Stand p l e R s m args below meth c T' locs' cells slots → tk_Wd G M' T'.heap → va_S A s.heap T'.heap locs' → ∃ t, Steps p.tables e below (T'.setTop { g with pc := g.pc + 3, stack := (tk_vo v).toList ++ g.stack }) t ∧ Q t)
    (kt : ∀ (a x : Nat) (M' : tk_M) (T' : State) (locs' : List Loc), Post as M (.inr x) M' → Stand p l e R s m args below meth c T' locs' (cells + 1) (slots + 6) → tk_Wd G M' T'.heap → va_S A s.heap T'.heap locs' → tk_ex s x a T'.heap → ∃ t, Steps p.tables e below ((T'.setTop g).pushFrame (.throwing a)) t ∧ Q t) :
    ∃ t, (∀ acts, Steps p.tables e below (doInvoke e (T.setTop g) acts mk (as.map fun u => tk_cv G (.inl u)).toArray).1 t) ∧ Q t := by
  obtain ⟨methk, ck, hmk, hck, hb, hl, hret, hlk, -, -⟩ := Cond.code_spec hn (hF.1 _ hw)
  have hal := X.warmed.alike
  have hmkT : T.vm.method? mk = some methk := by rw [hal.method?]; exact hmk
  have hpl : T.plainMethod mk := by
    obtain ⟨k, hk, hnm⟩ := className_of_methodNamed hn
    exact X.warmed.plainAt fun k2 hk2 => by cases hk.symm.trans hk2; rw [hnm]; exact hy
  obtain ⟨Y, hdo⟩ := X.into hg hsize hdg (as.map fun u => tk_cv G (.inl u)).toArray (R' := { frames := R.frames - 1, cells := R.cells - cells, slots := R.slots - slots, locals := nw }) hmkT hck hlk hpl (by show R.frames - 1 + 1 ≤ R.frames; omega) (by rw [hl]; exact hlo) (by show cells + (R.cells - cells) ≤ R.cells; omega) (by show slots + (R.slots - slots) ≤ R.slots; omega)
  have hWc : s.WarmedH (T.calling g mk (as.map fun u => tk_cv G (.inl u)).toArray).vm := X.warmed
  have hFc : tk_F G A (T.calling g mk (as.map fun u => tk_cv G (.inl u)).toArray) := hF.call hWc hS.1 hS.2.1
  have hnc : (T.calling g mk (as.map fun u => tk_cv G (.inl u)).toArray).methodNamed? y = some mk := X.named hn
  obtain ⟨t, hst, hq⟩ := con p e { frames := R.frames - 1, cells := R.cells - cells, slots := R.slots - slots, locals := nw } (T.calling g mk (as.map fun u => tk_cv G (.inl u)).toArray) mk (.java g :: below) methk ck G A as M hx hFc hnc (by show nf ≤ R.frames - 1; omega) (Nat.le_refl _) (by show 1 ≤ R.cells - cells; omega) (by show 6 ≤ R.slots - slots; omega) hpre hr hWd hmkT hck ((T.setTop g).pushFrame (.java (entryFrame mk (as.map fun u => tk_cv G (.inl u)).toArray ck.maxLocals))) rfl Y
  obtain ⟨q1, q2, q3, L, M', q4, q5, q6⟩ := hq
  have hzT : (T.calling g mk (as.map fun u => tk_cv G (.inl u)).toArray).heap = T.heap := rfl
  have hSn : va_S A s.heap t.heap (locs ++ L) := ⟨Nat.le_trans hS.1 (by rw [← hzT]; exact q3.1), fun q h1 h2 => by rw [q3.2 q (Nat.lt_of_lt_of_le h1 hS.1) h2]; exact hS.2.1 q h1 h2, fun q hq => by
    rcases List.mem_append.mp hq with h | h
    · exact hS.2.2 q h
    · exact q4 q h⟩
  rcases q6 with ⟨v, r1, r2, r3, r4⟩ | ⟨a, x, r1, r2, r3, r4⟩
  · obtain ⟨T', X', hW', hsm, ht⟩ := X.outOf hg hdg r1 q2 r3
    have hh : T'.heap = t.heap := by rw [ht]; rfl
    obtain ⟨t2, a1, b1⟩ := kr v M' T' (locs ++ L) r4 r2 X' (by rw [hh]; exact q5) (by rw [hh]; exact hSn)
    refine ⟨t2, fun acts => ?_, b1⟩
    rw [hdo acts]
    refine Steps.trans (tk_weaken hst) ?_
    rw [ht]
    exact a1
  · obtain ⟨T', X', hW', hsm, ht⟩ := X.outOfThrown hg r1 q2 r3
    have hh : T'.heap = t.heap := by rw [ht, Stand.throwing_heap]
    obtain ⟨cell, c1, c2, c3⟩ := r2
    have hfc : s.vm.findClass (tk_xn x) = some cell.cls := by
      have c4 : T.vm.findClass (tk_xn x) = some cell.cls := c3
      rw [X.warmed.alike.findClass] at c4
      exact c4
    obtain ⟨t2, a1, b1⟩ := kt a x M' T' (locs ++ L) r4 X' (by rw [hh]; exact q5) (by rw [hh]; exact hSn) ⟨cell, by rw [hh]; exact c1, c2, hfc⟩
    refine ⟨t2, fun acts => ?_, b1⟩
    rw [hdo acts]
    refine Steps.trans (tk_weaken hst) ?_
    rw [ht]
    exact a1
def tk_pv (v : Option Int) : List tk_V := match v with
  | some x => [.inl (.inl x)]
  | none => []
theorem tk_pv_map (G : tk_G) (v : Option Int) (st : List tk_V) : (tk_pv v ++ st).map (tk_cv G) = (tk_vo v).toList ++ st.map (tk_cv G) := by
  cases v <;> rfl
theorem tk_pv_rs {v : Option Int} {st : List tk_V} (h : tk_ro v) (hs : tk_rs st) : tk_rs (tk_pv v ++ st) := by
  cases v with
  | none => exact hs
  | some x => exact tk_rs.cons (h x rfl) hs
/-- an exception of kind x is on its way, thrown at pc -/
def tk_Th (p : Program) (l : Launch) (e : Env) (R : Room) (s : State) (m : MethodId) (args : Array Value) (below : List Frame) (meth : Method) (c : Code) (cells slots : Nat) (Q : State → Prop) (G : tk_G) (A : Nat → Prop) (nL : Nat) (pc : Nat) (lo : tk_Lc) (x : Nat) (M : tk_M) : Prop :=
  ∀ (T : State) (locs : List Loc) (a : Nat) (ls : Array Slot) (st : List Value), Stand p l e R s m args below meth c T locs (cells + 1) (slots + 6) → tk_Wd G M T.heap → va_S A s.heap T.heap locs → tk_ex s x a T.heap → tk_L G ls nL lo → ∃ t, Steps p.tables e below ((T.setTop (F0 m pc ls st)).pushFrame (.throwing a)) t ∧ Q t
theorem tk_Th.out {P : (Option Int ⊕ Nat) → tk_M → Prop} (hout : c.exceptionTable.toList = []) (hlocks : meth.locks = false) {pc x : Nat} {lo : tk_Lc} {M : tk_M} (h : P (.inr x) M) : tk_Th p l e R s m args below meth c 0 0 (tk_Q below s G A P) G A nL pc lo x M := by
  intro T locs a ls st X hW hS hx _
  obtain ⟨st1, hrun, hend, hWm, hsm⟩ := X.leaveThrown a (g := F0 m pc ls st) rfl rfl rfl (fun y hy => by rw [hout] at hy; cases hy) hlocks
  exact ⟨_, st1, hrun, hWm, hS.F rfl, locs, M, hS.2.2, hW, Or.inr ⟨a, x, hend, hx, hsm, h⟩⟩
def tk_lnk (own : String) (ix : Nat) (y : MethodName) (n : Nat) : Prop := Cond.methodLink own ix y ∈ tk_tbl ∧ (y.cls ≠ "java/lang/invoke/MethodHandle" ∧ y.cls ≠ "java/lang/invoke/VarHandle") ∧ plainName y.cls = true ∧ (parseMethodDescriptor y.desc).map (fun d => d.parameters.length) = some n
theorem tk_plen {y : MethodName} {n : Nat} (h : (parseMethodDescriptor y.desc).map (fun d => d.parameters.length) = some n) {sig : MethodDescriptor} (hs : parseMethodDescriptor y.desc = some sig) : n = sig.parameters.length := by
  rw [hs] at h
  exact (Option.some.inj h).symm
/-- a call by a receiver -/
theorem tk_callV {own : String} {cc : ByteArray} {b9 : Bool} (X0 : tk_X p s m args c G A nL own cc b9 L xs) (hF : tk_F G A s) {y : MethodName} {cy : ByteArray} {mL : Nat} {ret : Option FieldType} {nf nw ix n k : Nat} {C : String} {T0 : u_T} {N0 : Nat} {fs : List (Option Nat)} {Pre : List tk_U → tk_M → Prop} {Post : List tk_U → tk_M → (Option Int ⊕ Nat) → tk_M → Prop}
    (con : tk_Con l y nf nw Pre Post) (hw : Cond.code y cy mL ret ∈ tk_tbl) (hlk : tk_lnk own ix y n) (hinst : Cond.instanceMethod y ∈ tk_tbl) (hsel : Cond.selects C y y ∈ tk_tbl) {pc : Nat} (hd : decode cc pc = .ok (.invokevirtual ix, 3))
    {r : Nat} {ps : List tk_U} (hk : tk_cl[k]? = some (C, T0, N0)) (hr0 : r < tk_nc) (hsh : tk_sh r = .inl (k, fs)) (hn : ps.length = n) {lo : tk_Lc} {st : List tk_V} {M : tk_M} (hpre : Pre (.inr r :: ps) M)
    (hfr : nf + 1 ≤ R.frames) (hlo : ((st.map (tk_cv G)).map fun v => v.category).sum + (mL + 11) + nw ≤ R.locals) (hcl : cells + 1 ≤ R.cells) (hsl : slots + 6 ≤ R.slots)
    (kr : ∀ (v : Option Int) (M' : tk_M), Post (.inr r :: ps) M (.inl v) M' → tk_ro v → tk_W p l e R s m args below meth c cells slots Q G A nL (pc + 3) lo (tk_pv v ++ st) M')
    (kt : ∀ (x : Nat) (M' : tk_M), Post (.inr r :: ps) M (.inr x) M' → tk_Th p l e R s m args below meth c cells slots Q G A nL pc lo x M') :
    tk_W p l e R s m args below meth c cells slots Q G A nL pc lo ((ps.reverse.map Sum.inl) ++ (.inl (.inr r) :: st)) M := by
  intro H locs ls hW hS hl hr T hT X
  obtain ⟨hx, hb, hml, hown, hts, hKn, hSt, hA, -⟩ := X0
  obtain ⟨hl1, hl2, hl3, hl4⟩ := hlk
  obtain ⟨mk, methM, hnamed, hmethM, hstM, habM⟩ := Cond.instanceMethod_spec (hts _ hinst)
  obtain ⟨c2, r2, m2, q1, q2, q3, q4, kP, hkP, hkPi⟩ := Cond.selects_spec (hts _ hsel)
  obtain ⟨methM', cM, hmethM', -, -, -, -, -, -, hsigM⟩ := Cond.code_spec hnamed (hts _ hw)
  cases hmethM.symm.trans hmethM'
  obtain ⟨r9, h9, cell, g1, g2, g3, g4⟩ := hW.1 r _ (tk_ws_obj hr0 hsh)
  have hr9 : r9 = (C, T0, N0) := Option.some.inj (h9.symm.trans hk)
  subst hr9
  obtain ⟨-, hfc, -⟩ := hKn.1 k _ hk
  have hfc2 : s.vm.findClass C = some cell.cls := by rw [g2]; exact hfc
  cases hfc2.symm.trans q1
  cases (State.methodFound?_of_named hnamed hl2).symm.trans q2
  cases hnamed.symm.trans q3
  have hselP : selectMethod e.platform s.vm cell.cls mk = .method mk := by rw [Launch.admits_selectMethod X.admits]; exact q4
  have hstk : ((((ps.reverse.map Sum.inl) ++ (Sum.inl (Sum.inr r) :: st) : List tk_V)).map (tk_cv G)) = (ps.map fun u => tk_cv G (.inl u)).reverse ++ .ref (G.1 r) :: st.map (tk_cv G) := by
    simp [List.map_reverse, Function.comp_def, tk_cv]
  obtain ⟨vm₁, X₁, hstep⟩ := X.invokevirtual hx hown (hts _ hl1) hnamed hmethM hstM hkP hkPi hl2 (a := G.1 r) (cell := cell) (by rw [hT]; exact g1) (fun z h => by rw [g3] at h; cases h) hselP hmethM habM hkP hkPi (g := F0 m pc ls ((((ps.reverse.map Sum.inl) ++ (Sum.inl (Sum.inr r) :: st) : List tk_V)).map (tk_cv G))) rfl
    (argsL := ps.map fun u => tk_cv G (.inl u)) (rest := st.map (tk_cv G)) (by rw [List.length_map, hn]; exact tk_plen hl4 hsigM) hstk (by rw [hb]; exact hd)
  have hru : ∀ u ∈ ((.inr r :: ps) : List tk_U), tk_ru u := by
    intro u hu
    rcases List.mem_cons.mp hu with e1 | e1
    · rw [e1]; trivial
    · exact hr (.inl u) (List.mem_append_left _ (List.mem_map.mpr ⟨u, List.mem_reverse.mpr e1, rfl⟩))
  have hrs : tk_rs st := fun v hv => hr v (List.mem_append_right _ (List.mem_cons_of_mem _ hv))
  obtain ⟨t, k1, k2⟩ := tk_inv (Q := Q) con hw hl3 hx hF X₁ (by rw [show (T.setVm vm₁).heap = H from hT]; exact hS) (M := M) (by rw [show (T.setVm vm₁).heap = H from hT]; exact hW) (g := F0 m pc ls (st.map (tk_cv G))) rfl (by rw [hml]; exact hl.2.1.1) (ig := .invokevirtual ix) (by rw [hb]; exact hd) hnamed hpre hru hfr
    (by show 2 * 0 + ((st.map (tk_cv G)).map fun v => v.category).sum + _ + _ ≤ _; omega) hcl hsl
    (fun v M' T' locs' hp hro X' hW' hS' => by
      have h9 := kr v M' hp hro T'.heap locs' ls hW' hS' hl (tk_pv_rs hro hrs) T' rfl X'
      rw [tk_pv_map] at h9
      exact h9)
    (fun a x M' T' locs' hp X' hW' hS' hex => kt x M' hp T' locs' a ls _ X' hW' hS' hex hl)
  exact ⟨t, hstep t k1, k2⟩
/-- a call without a receiver -/
theorem tk_callS {own : String} {cc : ByteArray} {b9 : Bool} (X0 : tk_X p s m args c G A nL own cc b9 L xs) (hF : tk_F G A s) {y : MethodName} {cy : ByteArray} {mL : Nat} {ret : Option FieldType} {nf nw ix n : Nat} {Pre : List tk_U → tk_M → Prop} {Post : List tk_U → tk_M → (Option Int ⊕ Nat) → tk_M → Prop}
    (con : tk_Con l y nf nw Pre Post) (hw : Cond.code y cy mL ret ∈ tk_tbl) (hlk : tk_lnk own ix y n) (hsta : Cond.static y ∈ tk_tbl) (hini : Cond.initialized y.cls ∈ tk_tbl) {pc : Nat} (hd : decode cc pc = .ok (.invokestatic ix, 3))
    {ps : List tk_U} (hn : ps.length = n) {lo : tk_Lc} {st : List tk_V} {M : tk_M} (hpre : Pre ps M)
    (hfr : nf + 1 ≤ R.frames) (hlo : ((st.map (tk_cv G)).map fun v => v.category).sum + (mL + 11) + nw ≤ R.locals) (hcl : cells + 1 ≤ R.cells) (hsl : slots + 6 ≤ R.slots)
    (kr : ∀ (v : Option Int) (M' : tk_M), Post ps M (.inl v) M' → tk_ro v → tk_W p l e R s m args below meth c cells slots Q G A nL (pc + 3) lo (tk_pv v ++ st) M')
    (kt : ∀ (x : Nat) (M' : tk_M), Post ps M (.inr x) M' → tk_Th p l e R s m args below meth c cells slots Q G A nL pc lo x M') :
    tk_W p l e R s m args below meth c cells slots Q G A nL pc lo ((ps.reverse.map Sum.inl) ++ st) M := by
  intro H locs ls hW hS hl hr T hT X
  obtain ⟨hx, hb, hml, hown, hts, hKn, hSt, hA, -⟩ := X0
  obtain ⟨hl1, hl2, hl3, hl4⟩ := hlk
  obtain ⟨mk, hnamed⟩ := Cond.code_named (hts _ hw)
  obtain ⟨methM, cM, hmethM, -, -, -, -, -, -, hsigM⟩ := Cond.code_spec hnamed (hts _ hw)
  have hstatic : methM.isStatic = true := Cond.static_spec hnamed hmethM (hts _ hsta)
  obtain ⟨kP, hkP, -⟩ := className_of_methodNamed hnamed
  have hinitP : kP.init = .initialized := Cond.initialized_spec (findClass_of_methodNamed hnamed) hkP (hts _ hini)
  have hstk : (((ps.reverse.map Sum.inl) ++ st : List tk_V).map (tk_cv G)) = (ps.map fun u => tk_cv G (.inl u)).reverse ++ st.map (tk_cv G) := by
    simp [List.map_reverse, Function.comp_def]
  obtain ⟨vm₁, X₁, hstep⟩ := X.invokestatic hx hown (hts _ hl1) hnamed hmethM hstatic hkP hinitP hl2 (g := F0 m pc ls (((ps.reverse.map Sum.inl) ++ st : List tk_V).map (tk_cv G))) rfl
    (argsL := ps.map fun u => tk_cv G (.inl u)) (rest := st.map (tk_cv G)) (by rw [List.length_map, hn]; exact tk_plen hl4 hsigM) hstk (by rw [hb]; exact hd)
  have hru : ∀ u ∈ ps, tk_ru u := fun u hu => hr (.inl u) (List.mem_append_left _ (List.mem_map.mpr ⟨u, List.mem_reverse.mpr hu, rfl⟩))
  have hrs : tk_rs st := fun v hv => hr v (List.mem_append_right _ hv)
  obtain ⟨t, k1, k2⟩ := tk_inv (Q := Q) con hw hl3 hx hF X₁ (by rw [show (T.setVm vm₁).heap = H from hT]; exact hS) (M := M) (by rw [show (T.setVm vm₁).heap = H from hT]; exact hW) (g := F0 m pc ls (st.map (tk_cv G))) rfl (by rw [hml]; exact hl.2.1.1) (ig := .invokestatic ix) (by rw [hb]; exact hd) hnamed hpre hru hfr
    (by show 2 * 0 + ((st.map (tk_cv G)).map fun v => v.category).sum + _ + _ ≤ _; omega) hcl hsl
    (fun v M' T' locs' hp hro X' hW' hS' => by
      have h9 := kr v M' hp hro T'.heap locs' ls hW' hS' hl (tk_pv_rs hro hrs) T' rfl X'
      rw [tk_pv_map] at h9
      exact h9)
    (fun a x M' T' locs' hp X' hW' hS' hex => kt x M' hp T' locs' a ls _ X' hW' hS' hex hl)
  exact ⟨t, hstep t k1, k2⟩
/-- the same, of a nest mate -/
theorem tk_callSN {own host : String} {cc : ByteArray} {b9 : Bool} (X0 : tk_X p s m args c G A nL own cc b9 L xs) (hF : tk_F G A s) {y : MethodName} {cy : ByteArray} {mL : Nat} {ret : Option FieldType} {nf nw ix n : Nat} {Pre : List tk_U → tk_M → Prop} {Post : List tk_U → tk_M → (Option Int ⊕ Nat) → tk_M → Prop}
    (con : tk_Con l y nf nw Pre Post) (hw : Cond.code y cy mL ret ∈ tk_tbl) (hlk : Cond.methodLinkNest own ix y host ∈ tk_nst ∧ (y.cls ≠ "java/lang/invoke/MethodHandle" ∧ y.cls ≠ "java/lang/invoke/VarHandle") ∧ plainName y.cls = true ∧ (parseMethodDescriptor y.desc).map (fun d => d.parameters.length) = some n) (hsta : Cond.static y ∈ tk_tbl) (hini : Cond.initialized y.cls ∈ tk_tbl) {pc : Nat} (hd : decode cc pc = .ok (.invokestatic ix, 3))
    {ps : List tk_U} (hn : ps.length = n) {lo : tk_Lc} {st : List tk_V} {M : tk_M} (hpre : Pre ps M)
    (hfr : nf + 1 ≤ R.frames) (hlo : ((st.map (tk_cv G)).map fun v => v.category).sum + (mL + 11) + nw ≤ R.locals) (hcl : cells + 1 ≤ R.cells) (hsl : slots + 6 ≤ R.slots)
    (kr : ∀ (v : Option Int) (M' : tk_M), Post ps M (.inl v) M' → tk_ro v → tk_W p l e R s m args below meth c cells slots Q G A nL (pc + 3) lo (tk_pv v ++ st) M')
    (kt : ∀ (x : Nat) (M' : tk_M), Post ps M (.inr x) M' → tk_Th p l e R s m args below meth c cells slots Q G A nL pc lo x M') :
    tk_W p l e R s m args below meth c cells slots Q G A nL pc lo ((ps.reverse.map Sum.inl) ++ st) M := by
  intro H locs ls hW hS hl hr T hT X
  obtain ⟨hx, hb, hml, hown, hts, hKn, hSt, hA, -⟩ := X0
  obtain ⟨hl1, hl2, hl3, hl4⟩ := hlk
  obtain ⟨mk, hnamed⟩ := Cond.code_named (hts _ hw)
  obtain ⟨methM, cM, hmethM, -, -, -, -, -, -, hsigM⟩ := Cond.code_spec hnamed (hts _ hw)
  have hstatic : methM.isStatic = true := Cond.static_spec hnamed hmethM (hts _ hsta)
  obtain ⟨kP, hkP, -⟩ := className_of_methodNamed hnamed
  have hinitP : kP.init = .initialized := Cond.initialized_spec (findClass_of_methodNamed hnamed) hkP (hts _ hini)
  have hstk : (((ps.reverse.map Sum.inl) ++ st : List tk_V).map (tk_cv G)) = (ps.map fun u => tk_cv G (.inl u)).reverse ++ st.map (tk_cv G) := by
    simp [List.map_reverse, Function.comp_def]
  have hnw : (Cond.methodLinkNest own ix y host).before args s = true := va_Nw.use rfl (hF.2.2.2.2.2.2.1 _ (List.mem_append_left _ hl1))
  obtain ⟨vm₁, X₁, hstep⟩ := X.invokestaticNest hx hown hnw hnamed hmethM hstatic hkP hinitP hl2 (g := F0 m pc ls (((ps.reverse.map Sum.inl) ++ st : List tk_V).map (tk_cv G))) rfl
    (argsL := ps.map fun u => tk_cv G (.inl u)) (rest := st.map (tk_cv G)) (by rw [List.length_map, hn]; exact tk_plen hl4 hsigM) hstk (by rw [hb]; exact hd)
  have hru : ∀ u ∈ ps, tk_ru u := fun u hu => hr (.inl u) (List.mem_append_left _ (List.mem_map.mpr ⟨u, List.mem_reverse.mpr hu, rfl⟩))
  have hrs : tk_rs st := fun v hv => hr v (List.mem_append_right _ hv)
  obtain ⟨t, k1, k2⟩ := tk_inv (Q := Q) con hw hl3 hx hF X₁ (by rw [show (T.setVm vm₁).heap = H from hT]; exact hS) (M := M) (by rw [show (T.setVm vm₁).heap = H from hT]; exact hW) (g := F0 m pc ls (st.map (tk_cv G))) rfl (by rw [hml]; exact hl.2.1.1) (ig := .invokestatic ix) (by rw [hb]; exact hd) hnamed hpre hru hfr
    (by show 2 * 0 + ((st.map (tk_cv G)).map fun v => v.category).sum + _ + _ ≤ _; omega) hcl hsl
    (fun v M' T' locs' hp hro X' hW' hS' => by
      have h9 := kr v M' hp hro T'.heap locs' ls hW' hS' hl (tk_pv_rs hro hrs) T' rfl X'
      rw [tk_pv_map] at h9
      exact h9)
    (fun a x M' T' locs' hp X' hW' hS' hex => kt x M' hp T' locs' a ls _ X' hW' hS' hex hl)
  exact ⟨t, hstep t k1, k2⟩
theorem tk_Wd.kept {M : tk_M} {H H1 : Heap} (h : tk_Wd G M H) (hk : ∀ q : Nat, q < H.size → H1[q]? = H[q]?) : tk_Wd G M H1 := ⟨fun k q hq => (h.1 k q hq).kept (hk _ (h.1 k q hq).lt), h.2⟩
def tk_xs : List String := ["java/lang/RuntimeException", "java/lang/Exception"]
def tk_thr (own : String) (ik ic x : Nat) : Prop := Cond.classLink own ik (tk_xn x) ∈ tk_tbl ∧ Cond.initialized (tk_xn x) ∈ tk_tbl ∧ (∀ w ∈ (vx_at0 own ic (tk_xn x) tk_xs).filter goodWord, w ∈ tk_tbl) ∧ (∀ w ∈ (vx_at0 own ic (tk_xn x) tk_xs).filter (fun w => !goodWord w), w ∈ tk_cw) ∧ (∀ w ∈ Cond.classLink own ik (tk_xn x) :: Cond.initialized (tk_xn x) :: vx_at0 own ic (tk_xn x) tk_xs, vx_ot w = true) ∧ Bundle.fit (tk_xn x) = true ∧ ∀ n ∈ tk_xs, Bundle.fit n = true
theorem tk_cw_ot : ∀ w ∈ tk_cw, w.onTables = true := by decide +kernel
/-- throw new ..() -/
theorem tk_new {own : String} {cc : ByteArray} {b9 : Bool} (X0 : tk_X p s m args c G A nL own cc b9 L xs) (hF : tk_F G A s) (hst : l.stackTraces = false) {ik ic x pc : Nat} (hw : tk_thr own ik ic x)
    (d0 : decode cc pc = .ok (.new ik, 3)) (d3 : decode cc (pc + 3) = .ok (.dup, 1)) (d4 : decode cc (pc + 4) = .ok (.invokespecial ic, 3)) (d7 : decode cc (pc + 7) = .ok (.athrow, 1)) (hout : c.exceptionTable.toList = []) (hlocks : meth.locks = false)
    {lo : tk_Lc} {st : List tk_V} {M : tk_M} (hRf : 6 ≤ R.frames) (hRl : ((st.map (tk_cv G)).map fun v => v.category).sum + 81 ≤ R.locals) (hRc : 1 ≤ R.cells) (hRs : 6 ≤ R.slots) {P : (Option Int ⊕ Nat) → tk_M → Prop} (h : P (.inr x) M) :
    tk_W p l e R s m args below meth c 0 0 (tk_Q below s G A P) G A nL pc lo st M := by
  intro H locs ls hW hS hl hr
  obtain ⟨hx, hb, hml, hown, hts, hKn, hSt, hA, -⟩ := X0
  obtain ⟨w1, w2, w3, w4, w5, w6, w7⟩ := hw
  refine tk_Wmono ?_ (vx_throw0 (A := A) (free := A) (mc := 1) (ms := 6) (names := tk_xs) (Qc := fun _ _ _ _ => False) (XC := fun E st t => E = tk_xn x ∧ va_F A st t ∧ tk_Wd G M t.heap) hx hb hst hown w6 w7 (hts _ w1) (hts _ w2)
    (vx_hat (B := tk_cw) (fun w hw => hts _ (w3 w hw)) w4 (fun w hw => va_Nw.use (tk_cw_ot w hw) (hF.2.2.2.2.2.2.1 w (List.mem_append_right _ hw)))) w5 hF.2.2.2.2.1 hF.2.2.2.2.2.1 hS (by rw [hml]; exact hl.2.1.1) d0 d3 d4 d7 (fun y hy => by rw [hout] at hy; cases hy)
    (show 2 + 3 < R.frames by omega) (show _ + (13 * (2 + 1) + 42) ≤ _ by omega) (by omega) (by omega) hlocks
    (fun t _ hz hk => ⟨rfl, ⟨Nat.le_trans hS.1 hz, fun q h1 h2 => by rw [hk q (Nat.lt_of_lt_of_le h1 hS.1)]; exact hS.2.1 q h1 h2⟩, hW.kept hk⟩) hS.2.2 (Nat.le_refl _) (Nat.le_refl _))
  rintro t ⟨o, h1, h2, h3 | ⟨q, rfl, E, ce, L, ⟨rfl, hFt, hWt⟩, k1, k2, k3, k4, k5, k6⟩⟩
  · exact h3.1.elim
  · exact ⟨h1, k4, hFt, L, M, k6, hWt, Or.inr ⟨q, x, h2, ⟨ce, k1, k2, k3⟩, k5, h⟩⟩
end TKR
