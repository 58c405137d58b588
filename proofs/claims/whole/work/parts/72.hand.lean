/-! METHODS WITH HANDLERS: the law's helpers, and their calls -/
section TKH
/-- how a helper ends: it returns an int; at most one cell is new -/
def tk_Q1 (below : List Frame) (s : State) (G : tk_G) (A : Nat → Prop) (P : Int → tk_M → Prop) : State → Prop := fun t =>
  t.status = .running ∧ s.WarmedH t.vm ∧ va_F A s t ∧ ∃ (L : List Loc) (M : tk_M) (v : Int), (∀ q ∈ L, A q.base) ∧ tk_Wd G M t.heap ∧ Ended t below (.returned (some (.int (Int32.ofInt v)))) ∧ (-2147483648 ≤ v ∧ v < 2147483648) ∧ s.sameButNew ({ t with vm := s.vm } : State) L 1 6 ∧ P v M
def tk_H (l : Launch) (y : MethodName) (nf nw : Nat) (as : List tk_U) (M : tk_M) (P : Int → tk_M → Prop) : Prop :=
  ∀ (p : Program) (e : Env) (R : Room) (s : State) (m : MethodId) (below : List Frame) (meth : Method) (c : Code) (G : tk_G) (A : Nat → Prop),
    p.tables.exec = Jvm.exec → tk_F G A s → s.methodNamed? y = some m → nf ≤ R.frames → nw ≤ R.locals → 1 ≤ R.cells → 6 ≤ R.slots → (∀ u ∈ as, tk_ru u) → tk_Wd G M s.heap → s.vm.method? m = some meth → meth.code = some c →
    W p l e R s m (as.map fun u => tk_cv G (.inl u)).toArray below meth c s.heap [] 0 0 (tk_Q1 below s G A P) (entryFrame m (as.map fun u => tk_cv G (.inl u)).toArray c.maxLocals)
def tk_R1 (P : Int → tk_M → Prop) (v : Option Int) (M : tk_M) : Prop := match v with
  | some x => P x M
  | none => False
section
variable {p : Program} {l : Launch} {e : Env} {R : Room} {s : State} {m : MethodId} {args : Array Value} {below : List Frame} {meth : Method} {c : Code} {cells slots : Nat} {Q : State → Prop} {G : tk_G} {A : Nat → Prop} {nL : Nat} {T : State} {locs : List Loc} {L : Nat} {xs : Nat → Int32}
theorem tk_rt1 {cc : ByteArray} {P : Int → tk_M → Prop} (h1 : cells ≤ 1) (h2 : slots ≤ 6) (hx : p.tables.exec = Jvm.exec) (hb : c.code = cc) (hlocks : meth.locks = false) (hr : meth.sig.returnType = some .int) : tk_Rt p l e R s m args below meth c cells slots (tk_Q1 below s G A P) G A cc (tk_R1 P) := by
  intro v M H locs ls pc st hR hW hS hrs hc
  rcases hc with ⟨x, rfl, rfl, hd⟩ | ⟨rfl, rfl, hd⟩
  · refine tk_Wmono ?_ (W.iret (v := Int32.ofInt x) (Qc := fun _ _ o t => o = .returned (some (.int (Int32.ofInt x))) ∧ t.heap = H) (free := A) hx hb hr (fun t ht _ => ⟨rfl, ht⟩) hS.2.2 hd)
    rintro t ⟨o, g1, g2, ⟨rfl, g4⟩, L, ⟨-, g5, g6⟩, g7⟩
    exact ⟨g1, g5, hS.F g4, L, M, x, g7, by rw [g4]; exact hW, g2, hrs.hd, g6.mono h1 h2, hR⟩
  · exact hR.elim
/-- in and back -/
theorem tk_invH {y : MethodName} {cc : ByteArray} {mL : Nat} {ret : Option FieldType} {hh : List (Nat × Nat × Nat × Nat)} {nf nw : Nat} {as : List tk_U} {M : tk_M} {P : Int → tk_M → Prop} (con : tk_H l y nf nw as M P) (hw : Cond.codeWith y cc mL ret hh ∈ tk_tbl) (hy : plainName y.cls = true)
    (hx : p.tables.exec = Jvm.exec) (hF : tk_F G A s) (X : Stand p l e R s m args below meth c T locs cells slots) (hS : va_S A s.heap T.heap locs) (hWd : tk_Wd G M T.heap) {g : JFrame} (hg : g.method = m) (hsize : g.locals.size = c.maxLocals) {ig : Instr} (hdg : decode c.code g.pc = .ok (ig, 3)) {mk : MethodId} (hn : s.methodNamed? y = some mk)
    (hr : ∀ u ∈ as, tk_ru u) (hfr : nf + 1 ≤ R.frames) (hlo : 2 * g.monitorRoom + (g.stack.map fun v => v.category).sum + (mL + 11) + nw ≤ R.locals) (hcl : cells + 1 ≤ R.cells) (hsl : slots + 6 ≤ R.slots)
    (kr : ∀ (v : Int) (M' : tk_M) (T' : State) (locs' : List Loc), P v M' → (-2147483648 ≤ v ∧ v < 2147483648) → Stand p l e R s m args below meth c T' locs' (cells + 1) (slots + 6) → tk_Wd G M' T'.heap → va_S A s.heap T'.heap locs' → ∃ t, Steps p.tables e below (T'.setTop { g with pc := g.pc + 3, stack := [.int (Int32.ofInt v)] ++ g.stack }) t ∧ Q t) :
    ∃ t, (∀ acts, Steps p.tables e below (doInvoke e (T.setTop g) acts mk (as.map fun u => tk_cv G (.inl u)).toArray).1 t) ∧ Q t := by
  obtain ⟨mk', methk, ck, hn', hmk, hck, hb, hl, -, hret, hlk, -⟩ := Cond.codeWith_spec (hF.1 _ hw)
  cases Option.some.inj (hn.symm.trans hn')
  have hal := X.warmed.alike
  have hmkT : T.vm.method? mk = some methk := by rw [hal.method?]; exact hmk
  have hpl : T.plainMethod mk := by
    obtain ⟨k, hk, hnm⟩ := className_of_methodNamed hn
    exact X.warmed.plainAt fun k2 hk2 => by cases hk.symm.trans hk2; rw [hnm]; exact hy
  obtain ⟨Y, hdo⟩ := X.into hg hsize hdg (as.map fun u => tk_cv G (.inl u)).toArray (R' := { frames := R.frames - 1, cells := R.cells - cells, slots := R.slots - slots, locals := nw }) hmkT hck hlk hpl (by show R.frames - 1 + 1 ≤ R.frames; omega) (by rw [hl]; exact hlo) (by show cells + (R.cells - cells) ≤ R.cells; omega) (by show slots + (R.slots - slots) ≤ R.slots; omega)
  have hWc : s.WarmedH (T.calling g mk (as.map fun u => tk_cv G (.inl u)).toArray).vm := X.warmed
  have hFc : tk_F G A (T.calling g mk (as.map fun u => tk_cv G (.inl u)).toArray) := hF.call hWc hS.1 hS.2.1
  have hnc : (T.calling g mk (as.map fun u => tk_cv G (.inl u)).toArray).methodNamed? y = some mk := X.named hn
  obtain ⟨t, hst, hq⟩ := con p e { frames := R.frames - 1, cells := R.cells - cells, slots := R.slots - slots, locals := nw } (T.calling g mk (as.map fun u => tk_cv G (.inl u)).toArray) mk (.java g :: below) methk ck G A hx hFc hnc (by show nf ≤ R.frames - 1; omega) (Nat.le_refl _) (by show 1 ≤ R.cells - cells; omega) (by show 6 ≤ R.slots - slots; omega) hr hWd hmkT hck ((T.setTop g).pushFrame (.java (entryFrame mk (as.map fun u => tk_cv G (.inl u)).toArray ck.maxLocals))) rfl Y
  obtain ⟨q1, q2, q3, L, M', v, q4, q5, r1, r2, r3, r4⟩ := hq
  have hzT : (T.calling g mk (as.map fun u => tk_cv G (.inl u)).toArray).heap = T.heap := rfl
  have hSn : va_S A s.heap t.heap (locs ++ L) := ⟨Nat.le_trans hS.1 (by rw [← hzT]; exact q3.1), fun q h1 h2 => by rw [q3.2 q (Nat.lt_of_lt_of_le h1 hS.1) h2]; exact hS.2.1 q h1 h2, fun q hq => by
    rcases List.mem_append.mp hq with h | h
    · exact hS.2.2 q h
    · exact q4 q h⟩
  obtain ⟨T', X', hW', hsm, ht⟩ := X.outOf hg hdg r1 q2 r3
  have hh : T'.heap = t.heap := by rw [ht]; rfl
  obtain ⟨t2, a1, b1⟩ := kr v M' T' (locs ++ L) r4 r2 X' (by rw [hh]; exact q5) (by rw [hh]; exact hSn)
  refine ⟨t2, fun acts => ?_, b1⟩
  rw [hdo acts]
  refine Steps.trans (tk_weaken hst) ?_
  rw [ht]
  exact a1
/-- a call of a helper -/
theorem tk_callH {own : String} {cc : ByteArray} {b9 : Bool} (X0 : tk_X p s m args c G A nL own cc b9 L xs) (hF : tk_F G A s) {y : MethodName} {cy : ByteArray} {mL : Nat} {ret : Option FieldType} {hh : List (Nat × Nat × Nat × Nat)} {nf nw ix n : Nat} {ps : List tk_U} {M : tk_M} {P : Int → tk_M → Prop}
    (con : tk_H l y nf nw ps M P) (hw : Cond.codeWith y cy mL ret hh ∈ tk_tbl) (hlk : tk_lnk own ix y n) (hsta : Cond.static y ∈ tk_tbl) (hini : Cond.initialized y.cls ∈ tk_tbl) {pc : Nat} (hd : decode cc pc = .ok (.invokestatic ix, 3))
    (hn : ps.length = n) {lo : tk_Lc} {st : List tk_V}
    (hfr : nf + 1 ≤ R.frames) (hlo : ((st.map (tk_cv G)).map fun v => v.category).sum + (mL + 11) + nw ≤ R.locals) (hcl : cells + 1 ≤ R.cells) (hsl : slots + 6 ≤ R.slots)
    (kr : ∀ (v : Int) (M' : tk_M), P v M' → tk_W p l e R s m args below meth c (cells + 1) (slots + 6) Q G A nL (pc + 3) lo (.inl (.inl v) :: st) M') :
    tk_W p l e R s m args below meth c cells slots Q G A nL pc lo ((ps.reverse.map Sum.inl) ++ st) M := by
  intro H locs ls hW hS hl hr T hT X
  obtain ⟨hx, hb, hml, hown, hts, hKn, hSt, hA, -⟩ := X0
  obtain ⟨hl1, hl2, hl3, hl4⟩ := hlk
  obtain ⟨mk, methM, cM, hnamed, hmethM, -, -, -, -, -, -, hsigM⟩ := Cond.codeWith_spec (hts _ hw)
  have hstatic : methM.isStatic = true := Cond.static_spec hnamed hmethM (hts _ hsta)
  obtain ⟨kP, hkP, -⟩ := className_of_methodNamed hnamed
  have hinitP : kP.init = .initialized := Cond.initialized_spec (findClass_of_methodNamed hnamed) hkP (hts _ hini)
  have hstk : (((ps.reverse.map Sum.inl) ++ st : List tk_V).map (tk_cv G)) = (ps.map fun u => tk_cv G (.inl u)).reverse ++ st.map (tk_cv G) := by
    simp [List.map_reverse, Function.comp_def]
  obtain ⟨vm₁, X₁, hstep⟩ := X.invokestatic hx hown (hts _ hl1) hnamed hmethM hstatic hkP hinitP hl2 (g := F0 m pc ls (((ps.reverse.map Sum.inl) ++ st : List tk_V).map (tk_cv G))) rfl
    (argsL := ps.map fun u => tk_cv G (.inl u)) (rest := st.map (tk_cv G)) (by rw [List.length_map, hn]; exact tk_plen hl4 hsigM) hstk (by rw [hb]; exact hd)
  have hru : ∀ u ∈ ps, tk_ru u := fun u hu => hr (.inl u) (List.mem_append_left _ (List.mem_map.mpr ⟨u, List.mem_reverse.mpr hu, rfl⟩))
  have hrs : tk_rs st := fun v hv => hr v (List.mem_append_right _ hv)
  obtain ⟨t, k1, k2⟩ := tk_invH (Q := Q) con hw hl3 hx hF X₁ (by rw [show (T.setVm vm₁).heap = H from hT]; exact hS) (by rw [show (T.setVm vm₁).heap = H from hT]; exact hW) (g := F0 m pc ls (st.map (tk_cv G))) rfl (by rw [hml]; exact hl.2.1.1) (ig := .invokestatic ix) (by rw [hb]; exact hd) hnamed hru hfr
    (by show 2 * 0 + ((st.map (tk_cv G)).map fun v => v.category).sum + _ + _ ≤ _; omega) hcl hsl
    (fun v M' T' locs' hp hro X' hW' hS' => kr v M' hp T'.heap locs' ls hW' hS' hl (tk_rs.cons hro hrs) T' rfl X')
  exact ⟨t, hstep t k1, k2⟩
theorem tk_L.lose {ls ls' : Array Slot} {lo : tk_Lc} (h : tk_L G ls nL lo) {i : Nat} (h0 : tk_gt lo i = none) {v : Value} (h' : lv_has ls' nL ((i, v) :: (tk_lv G 0 lo).filter (fun q => !(q.1 == i) && !(q.1 + 1 == i && q.2.category == 2)))) : tk_L G ls' nL lo := by
  refine ⟨h.1, ⟨h'.1, h'.2.1, fun q hq => h'.2.2 q ?_⟩, h.2.2⟩
  obtain ⟨n, w, e1, e2⟩ := tk_lv_mem.mp hq
  have hne : n ≠ i := fun z => by rw [z, h0] at e2; cases e2
  refine List.mem_cons_of_mem _ (List.mem_filter.mpr ⟨hq, ?_⟩)
  rw [e1]
  simp [hne, tk_cat]
/-- an exception of kind x thrown at pc is caught: the walk goes on at np, with nothing on the stack -/
def tk_hnd (own : String) (cc : ByteArray) (nL : Nat) (hh : List (Nat × Nat × Nat × Nat)) (pc : Nat) (lo : tk_Lc) (x np : Nat) : Prop :=
  ∃ (pre : List ((Nat × Nat × Nat × Nat) × Nat)) (r : Nat × Nat × Nat × Nat) (suf : List (Nat × Nat × Nat × Nat)) (i : Nat), hh = pre.map Prod.fst ++ r :: suf ∧ (∀ z ∈ pre, z.2 < 4 ∧ x ≠ z.2 ∧ z.1.2.2.2 ≠ 0 ∧ Cond.classLink own z.1.2.2.2 (tk_xn z.2) ∈ tk_tbl) ∧ x < 4 ∧ (r.1 ≤ pc ∧ pc < r.2.1) ∧ r.2.2.2 ≠ 0 ∧ Cond.classLink own r.2.2.2 (tk_xn x) ∈ tk_tbl ∧ i < nL ∧ tk_gt lo i = none ∧
    ((∃ k : Fin 4, (k : Nat) = i ∧ decode cc r.2.2.1 = .ok (.astore_n k, 1) ∧ np = r.2.2.1 + 1) ∨ (decode cc r.2.2.1 = .ok (.astore i, 2) ∧ np = r.2.2.1 + 2))
theorem tk_cast {x : Nat} (hx : x < 4) : Cond.castable (tk_xn x) (tk_xn x) ∈ tk_cw := by
  match x, hx with
  | 0, _ => simp [tk_cw, tk_xn]
  | 1, _ => simp [tk_cw, tk_xn]
  | 2, _ => simp [tk_cw, tk_xn]
  | 3, _ => simp [tk_cw, tk_xn]
theorem tk_Th.caught {own : String} {cc : ByteArray} {b9 : Bool} (X0 : tk_X p s m args c G A nL own cc b9 L xs) (hF : tk_F G A s) {hh : List (Nat × Nat × Nat × Nat)} (het : c.exceptionTable.toList = tableOf hh) {pc x np : Nat} {lo : tk_Lc} {M : tk_M} (hh0 : tk_hnd own cc nL hh pc lo x np)
    (k : tk_W p l e R s m args below meth c (cells + 1) (slots + 6) Q G A nL np lo [] M) : tk_Th p l e R s m args below meth c cells slots Q G A nL pc lo x M := by
  intro T locs a ls st X hW hS hex hl
  obtain ⟨hx, hb, hml, hown, hts, hKn, hSt, hA, -⟩ := X0
  obtain ⟨pre, r, suf, i, e1, hpre, hx4, hcov, hr0, hlink, hi, hlo, hst⟩ := hh0
  obtain ⟨cell, c1, c2, c3⟩ := hex
  refine vx_catch (pc := pc) (ls := ls) (rest := st) (E := tk_xn x) (name := tk_xn x) hown ((pre.map Prod.fst).map fun q => ⟨q.1, q.2.1, q.2.2.1, q.2.2.2⟩) ⟨r.1, r.2.1, r.2.2.1, r.2.2.2⟩ (tableOf suf) (by rw [het, e1]; simp [tableOf]) (fun z hz => ?_) (by simp [covers, hcov.1, hcov.2]) hr0 (hts _ hlink) (va_Nw.use rfl (hF.2.2.2.2.2.2.1 _ (List.mem_append_right _ (tk_cast hx4)))) c1 c2 c3 ?_ T rfl X
  · obtain ⟨w, hw, rfl⟩ := List.mem_map.mp hz
    obtain ⟨w2, hw2, rfl⟩ := List.mem_map.mp hw
    obtain ⟨p1, p2, p3, p4⟩ := hpre w2 hw2
    exact Or.inr ⟨p3, tk_xn w2.2, hts _ p4, hF.2.2.2.2.2.2.2 x w2.2 hx4 p1 p2⟩
  · rcases hst with ⟨k9, f1, f2, f3⟩ | ⟨f2, f3⟩
    · refine lv_astore_n hx hb f2 f1 hl.2.1 hi rfl fun ls' h' => ?_
      rw [f3] at k
      exact k T.heap locs ls' hW hS (hl.lose hlo h') tk_rs.nil
    · refine lv_astore hx hb f2 hl.2.1 hi rfl fun ls' h' => ?_
      rw [f3] at k
      exact k T.heap locs ls' hW hS (hl.lose hlo h') tk_rs.nil
end
/-! a helper's walk with its surroundings left free -/
def tk_B1 (l : Launch) (p : Program) (R : Room) (s : State) (m : MethodId) (args : Array Value) (meth : Method) (c : Code) (G : tk_G) (A : Nat → Prop) (own : String) (cc : ByteArray) (nL : Nat) (hh : List (Nat × Nat × Nat × Nat)) (nf nw : Nat) : Prop :=
  tk_F G A s ∧ tk_X p s m args c G A nL own cc false 0 (fun _ => 0) ∧ nf ≤ R.frames ∧ nw ≤ R.locals ∧ 1 ≤ R.cells ∧ 6 ≤ R.slots ∧ meth.locks = false ∧ meth.sig.returnType = some .int ∧ c.exceptionTable.toList = tableOf hh
def tk_A1 (l : Launch) (own : String) (cc : ByteArray) (nL : Nat) (hh : List (Nat × Nat × Nat × Nat)) (nf nw : Nat) (k n : Nat) (P : Int → tk_M → Prop) (pc : Nat) (lo : tk_Lc) (st : List tk_V) (M : tk_M) : Prop :=
  ∀ (p : Program) (e : Env) (R : Room) (s : State) (m : MethodId) (args : Array Value) (below : List Frame) (meth : Method) (c : Code) (G : tk_G) (A : Nat → Prop), tk_B1 l p R s m args meth c G A own cc nL hh nf nw → tk_W p l e R s m args below meth c k n (tk_Q1 below s G A P) G A nL pc lo st M
variable {l : Launch} {own : String} {cc : ByteArray} {nL : Nat} {hh : List (Nat × Nat × Nat × Nat)} {nf nw : Nat} {P : Int → tk_M → Prop}
theorem tk_go1 {fl : tk_FL} {cs : List (Nat × Int)} (hfl : tk_flok own fl) (hcs : tk_csok own cs) {tab : List tk_E} (htab : tk_good cc nL tab) {k9 n9 : Nat} (h1 : k9 ≤ 1) (h2 : n9 ≤ 6) (n : Nat) (cut : List Nat) {pc : Nat} {lo : tk_Lc} {st : List tk_V} {M : tk_M}
    (h : tk_R fl cs false 0 (fun _ => 0) cut tab (fun pc lo st M => tk_Lf (tk_A1 l own cc nL hh nf nw k9 n9 P pc lo st M)) (tk_R1 P) n (tk_to tab pc) lo st M) : tk_A1 l own cc nL hh nf nw k9 n9 P pc lo st M :=
  fun p e R s m args below meth c G A B => tk_goP B.2.1 hfl hcs htab (tk_rt1 h1 h2 B.2.1.1 B.2.1.2.1 B.2.2.2.2.2.2.1 B.2.2.2.2.2.2.2.1) (fun pc lo st M h => h.elim fun _ h => h p e R s m args below meth c G A B) n cut h
/-- a call by a receiver, within a try -/
theorem tk_aV1 {y : MethodName} {cy : ByteArray} {mL : Nat} {rty : Option FieldType} {nf' nw' ix n k : Nat} {C : String} {T0 : u_T} {N0 : Nat} {fs : List (Option Nat)} {r : Nat} {ps : List tk_U} {P' : (Option Int ⊕ Nat) → tk_M → Prop} {M : tk_M} {tab : List tk_E} {pc : Nat} {lo : tk_Lc} {stk st : List tk_V}
    (con : tk_C l y nf' nw' (.inr r :: ps) M P') (hw : Cond.code y cy mL rty ∈ tk_tbl) (hlk : tk_lnk own ix y n) (hinst : Cond.instanceMethod y ∈ tk_tbl) (hsel : Cond.selects C y y ∈ tk_tbl) (htab : tk_good cc nL tab) (hd : tk_ia tab pc = some (.invokevirtual ix, pc + 3))
    (hk : tk_cl[k]? = some (C, T0, N0)) (hr0 : r < tk_nc) (hsh : tk_sh r = .inl (k, fs)) (hn : ps.length = n) (hst : stk = (ps.reverse.map Sum.inl) ++ (.inl (.inr r) :: st)) (hfr : nf' + 1 ≤ nf) (hlo : tk_sv st + (mL + 11) + nw' ≤ nw)
    (kr : ∀ (v : Option Int) (M' : tk_M), P' (.inl v) M' → tk_ro v → tk_A1 l own cc nL hh nf nw 0 0 P (pc + 3) lo (tk_pv v ++ st) M') (kt : ∀ (x : Nat) (M' : tk_M), P' (.inr x) M' → ∃ np, tk_hnd own cc nL hh pc lo x np ∧ tk_A1 l own cc nL hh nf nw 1 6 P np lo [] M') : tk_A1 l own cc nL hh nf nw 0 0 P pc lo stk M := by
  intro p e R s m args below meth c G A B
  obtain ⟨hF, X, h1, h2, h3, h4, hlocks, hret, het⟩ := id B
  rw [hst]
  exact tk_callV X hF con hw hlk hinst hsel (tk_dec3 htab hd) hk hr0 hsh hn ⟨rfl, rfl⟩ (by omega) (by rw [tk_sv_eq]; omega) (by omega) (by omega) (fun v M' hp hro => kr v M' hp hro p e R s m args below meth c G A B) (fun x M' hp => by
    obtain ⟨np, g1, g2⟩ := kt x M' hp
    exact tk_Th.caught X hF het g1 (g2 p e R s m args below meth c G A B))
theorem tk_H.of {y : MethodName} {as : List tk_U} {M : tk_M} (hw : Cond.codeWith y cc nL (some .int) hh ∈ tk_tbl) (ho : y.cls = own) (hlen : as.length ≤ nL) (body : (∀ u ∈ as, tk_ru u) → (∀ c j, -2147483648 ≤ M c j ∧ M c j < 2147483648) → tk_A1 l own cc nL hh nf nw 0 0 P 0 (as.map some ++ List.replicate (nL - as.length) none) [] M) : tk_H l y nf nw as M P := by
  subst ho
  intro p e R s m below meth c G A hx hF hn h1 h2 h3 h4 hr hW hm hc
  obtain ⟨m', meth', c', hn', hm', hc', hb, hl, h6, hret, hlk, -⟩ := Cond.codeWith_spec (hF.1 _ hw)
  cases Option.some.inj (hn.symm.trans hn')
  cases hm.symm.trans hm'
  cases hc.symm.trans hc'
  have het : c.exceptionTable.toList = tableOf hh := by rw [← h6, table_eq]
  have k := body hr hW.2 p e R s m (as.map fun u => tk_cv G (.inl u)).toArray below meth c G A ⟨hF, ⟨hx, hb, hl, findClass_of_methodNamed hn, hF.words _, hF.2.1, hF.2.2.1, hF.2.2.2.1, fun z => by cases z⟩, h1, h2, h3, h4, hlk, hret, het⟩
  have hle : (lg_sl (as.map fun u => tk_cv G (.inl u))).length ≤ nL := by rw [tk_lgl]; exact hlen
  have hlv := lv_entry (as.map fun u => tk_cv G (.inl u)) (n := nL) hle
  rw [hl, lg_entry_eq]
  refine k s.heap [] _ hW va_S.rf ⟨by simp; omega, ⟨hlv.1, hlv.2.1, fun q hq => hlv.2.2 q ?_⟩, fun n v hv => hr v (tk_gt_app as _ n v hv).2⟩ tk_rs.nil
  rw [tk_entry_lv]
  obtain ⟨n, v, e1, e2⟩ := tk_lv_mem.mp hq
  exact tk_lv_mem.mpr ⟨n, v, e1, (tk_gt_app as _ n v e2).1⟩
end TKH
