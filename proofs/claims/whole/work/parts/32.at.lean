/-! A METHOD'S WALK with its surroundings left open: what the parts behind this one speak of -/
section TKA
def tk_B (l : Launch) (p : Program) (R : Room) (s : State) (m : MethodId) (args : Array Value) (meth : Method) (c : Code) (G : tk_G) (A : Nat → Prop) (own : String) (cc : ByteArray) (nL : Nat) (ret : Option FieldType) (nf nw : Nat) : Prop :=
  tk_F G A s ∧ tk_X p s m args c G A nL own cc false 0 (fun _ => 0) ∧ nf ≤ R.frames ∧ nw ≤ R.locals ∧ 1 ≤ R.cells ∧ 6 ≤ R.slots ∧ meth.locks = false ∧ meth.sig.returnType = ret ∧ c.exceptionTable.toList = []
/-- from pc on, with these locals, this stack and this memory, every run of the method ends as P says -/
def tk_At (l : Launch) (own : String) (cc : ByteArray) (nL : Nat) (ret : Option FieldType) (nf nw : Nat) (P : (Option Int ⊕ Nat) → tk_M → Prop) (pc : Nat) (lo : tk_Lc) (st : List tk_V) (M : tk_M) : Prop :=
  ∀ (p : Program) (e : Env) (R : Room) (s : State) (m : MethodId) (args : Array Value) (below : List Frame) (meth : Method) (c : Code) (G : tk_G) (A : Nat → Prop), tk_B l p R s m args meth c G A own cc nL ret nf nw → tk_W p l e R s m args below meth c 0 0 (tk_Q below s G A P) G A nL pc lo st M
def tk_RQ (ret : Option FieldType) (P : (Option Int ⊕ Nat) → tk_M → Prop) : Option Int → tk_M → Prop := match ret with
  | none => tk_RV P
  | some .int => tk_RI P
  | some .boolean => tk_RZ P
  | _ => fun _ _ => False
/-- the contract of a method at these arguments and this memory -/
def tk_C (l : Launch) (y : MethodName) (nf nw : Nat) (as : List tk_U) (M : tk_M) (P : (Option Int ⊕ Nat) → tk_M → Prop) : Prop := tk_Con l y nf nw (fun a N => a = as ∧ N = M) (fun _ _ => P)
variable {l : Launch} {own : String} {cc : ByteArray} {nL : Nat} {ret : Option FieldType} {nf nw : Nat} {P : (Option Int ⊕ Nat) → tk_M → Prop}
/-- the numbers at hand are ints -/
theorem tk_At.r {pc : Nat} {lo : tk_Lc} {st : List tk_V} {M : tk_M} (h : (∀ c j, -2147483648 ≤ M c j ∧ M c j < 2147483648) → (∀ n v, tk_gt lo n = some v → tk_ru v) → tk_rs st → tk_At l own cc nL ret nf nw P pc lo st M) : tk_At l own cc nL ret nf nw P pc lo st M :=
  fun p e R s m args below meth c G A B H locs ls hW hS hl hr => h hW.2 hl.2.2 hr p e R s m args below meth c G A B H locs ls hW hS hl hr
theorem tk_At.mono {P' : (Option Int ⊕ Nat) → tk_M → Prop} (hP : ∀ r M, P r M → P' r M) {pc : Nat} {lo : tk_Lc} {st : List tk_V} {M : tk_M} (h : tk_At l own cc nL ret nf nw P pc lo st M) : tk_At l own cc nL ret nf nw P' pc lo st M :=
  fun p e R s m args below meth c G A B H locs ls hW hS hl hr => tk_Wmono (fun t ht => by
    obtain ⟨h1, h2, h3, L, M', h4, h5, h6⟩ := ht
    refine ⟨h1, h2, h3, L, M', h4, h5, ?_⟩
    rcases h6 with ⟨v, r1, r2, r3, r4⟩ | ⟨a, x, r1, r2, r3, r4⟩
    · exact Or.inl ⟨v, r1, r2, r3, hP _ _ r4⟩
    · exact Or.inr ⟨a, x, r1, r2, r3, hP _ _ r4⟩) (h p e R s m args below meth c G A B H locs ls hW hS hl hr)
/-- a contract out of the walk from the entry -/
theorem tk_C.of {y : MethodName} {as : List tk_U} {M : tk_M} (hw : Cond.code y cc nL ret ∈ tk_tbl) (ho : y.cls = own) (hlen : as.length ≤ nL) (body : (∀ u ∈ as, tk_ru u) → (∀ c j, -2147483648 ≤ M c j ∧ M c j < 2147483648) → tk_At l own cc nL ret nf nw P 0 (as.map some ++ List.replicate (nL - as.length) none) [] M) : tk_C l y nf nw as M P := by
  subst ho
  refine tk_Con.of hw fun p e R s m below meth c G A a N hF X h1 h2 h3 h4 hlk hret het hm hr hM hpre => ?_
  obtain ⟨rfl, rfl⟩ := hpre
  exact ⟨hlen, body hr hM p e R s m _ below meth c G A ⟨hF, X, h1, h2, h3, h4, hlk, hret, het⟩⟩
theorem tk_RQ_ok {p : Program} {e : Env} {R : Room} {s : State} {m : MethodId} {args : Array Value} {below : List Frame} {meth : Method} {c : Code} {G : tk_G} {A : Nat → Prop} (hx : p.tables.exec = Jvm.exec) (hb : c.code = cc) (hlocks : meth.locks = false) (hr : meth.sig.returnType = ret) : tk_Rt p l e R s m args below meth c 0 0 (tk_Q below s G A P) G A cc (tk_RQ ret P) := by
  have nope : ∀ v M, (fun (_ : Option Int) (_ : tk_M) => False) v M → False := fun _ _ h => h
  cases ret with
  | none => exact tk_rtV hx hb hlocks hr
  | some f =>
    cases f with
    | int => exact tk_rtI hx hb hlocks hr
    | boolean => exact tk_rtZ hx hb hlocks hr
    | _ => intro v M H locs ls pc st hR; exact hR.elim
/-- where a stretch stops, said so that nothing looks into it -/
def tk_Lf (q : Prop) : Prop := ∃ _ : Unit, q
/-- a stretch -/
theorem tk_goA {fl : tk_FL} {cs : List (Nat × Int)} (hfl : tk_flok own fl) (hcs : tk_csok own cs) {tab : List tk_E} (htab : tk_good cc nL tab) (n : Nat) (cut : List Nat) {pc : Nat} {lo : tk_Lc} {st : List tk_V} {M : tk_M}
    (h : tk_R fl cs false 0 (fun _ => 0) cut tab (fun pc lo st M => tk_Lf (tk_At l own cc nL ret nf nw P pc lo st M)) (tk_RQ ret P) n (tk_to tab pc) lo st M) : tk_At l own cc nL ret nf nw P pc lo st M :=
  fun p e R s m args below meth c G A B => tk_goP B.2.1 hfl hcs htab (tk_RQ_ok B.2.1.1 B.2.1.2.1 B.2.2.2.2.2.2.1 B.2.2.2.2.2.2.2.1) (fun pc lo st M h => h.elim fun _ h => h p e R s m args below meth c G A B) n cut h
def tk_sv : List tk_V → Nat
  | [] => 0
  | .inl _ :: t => tk_sv t + 1
  | .inr _ :: t => tk_sv t + 2
theorem tk_sv_eq (G : tk_G) : ∀ st : List tk_V, ((st.map (tk_cv G)).map fun v => v.category).sum = tk_sv st
  | [] => rfl
  | .inl u :: t => by
    simp only [List.map_cons, List.sum_cons, tk_sv, tk_cat, tk_sv_eq G t]
    omega
  | .inr u :: t => by
    simp only [List.map_cons, List.sum_cons, tk_sv, tk_sv_eq G t]
    show 2 + _ = _
    omega
def tk_ia (tab : List tk_E) (pc : Nat) : Option (Instr × Nat) := match tk_to tab pc with
  | q :: _ => some (q.2.1, q.2.2.1)
  | [] => none
theorem tk_dec {tab : List tk_E} (htab : tk_good cc nL tab) {pc nx : Nat} {i : Instr} (h : tk_ia tab pc = some (i, nx)) : ∃ len, decode cc pc = .ok (i, len) ∧ pc + len = nx := by
  unfold tk_ia at h
  cases ht : tk_to tab pc with
  | nil => rw [ht] at h; cases h
  | cons q t =>
    rw [ht] at h
    have hg : tk_good cc nL (tk_to tab pc) := htab.to
    rw [ht] at hg
    obtain ⟨len, h1, h2, -⟩ := tk_ok_dec (hg.1 q List.mem_cons_self)
    have e1 := tk_to_head ht
    have e2 := Option.some.inj h
    simp only [Prod.mk.injEq] at e2
    rw [e1, e2.1] at h1
    rw [e1, e2.2] at h2
    exact ⟨len, h1, h2⟩
theorem tk_dec3 {tab : List tk_E} (htab : tk_good cc nL tab) {pc : Nat} {i : Instr} (h : tk_ia tab pc = some (i, pc + 3)) : decode cc pc = .ok (i, 3) := by
  obtain ⟨len, h1, h2⟩ := tk_dec htab h
  have : len = 3 := by omega
  rw [this] at h1
  exact h1
theorem tk_dec1 {tab : List tk_E} (htab : tk_good cc nL tab) {pc : Nat} {i : Instr} (h : tk_ia tab pc = some (i, pc + 1)) : decode cc pc = .ok (i, 1) := by
  obtain ⟨len, h1, h2⟩ := tk_dec htab h
  have : len = 1 := by omega
  rw [this] at h1
  exact h1
theorem tk_kl {k r : Nat} {fs : List (Option Nat)} (h : tk_sh r = .inl (k, fs)) (hr : r < tk_nc) : r < tk_nc := hr
/-- a call by a receiver -/
theorem tk_aV {y : MethodName} {cy : ByteArray} {mL : Nat} {rty : Option FieldType} {nf' nw' ix n k : Nat} {C : String} {T0 : u_T} {N0 : Nat} {fs : List (Option Nat)} {r : Nat} {ps : List tk_U} {P' : (Option Int ⊕ Nat) → tk_M → Prop} {M : tk_M} {tab : List tk_E} {pc : Nat} {lo : tk_Lc} {stk st : List tk_V}
    (con : tk_C l y nf' nw' (.inr r :: ps) M P') (hw : Cond.code y cy mL rty ∈ tk_tbl) (hlk : tk_lnk own ix y n) (hinst : Cond.instanceMethod y ∈ tk_tbl) (hsel : Cond.selects C y y ∈ tk_tbl) (htab : tk_good cc nL tab) (hd : tk_ia tab pc = some (.invokevirtual ix, pc + 3))
    (hk : tk_cl[k]? = some (C, T0, N0)) (hr0 : r < tk_nc) (hsh : tk_sh r = .inl (k, fs)) (hn : ps.length = n) (hst : stk = (ps.reverse.map Sum.inl) ++ (.inl (.inr r) :: st)) (hfr : nf' + 1 ≤ nf) (hlo : tk_sv st + (mL + 11) + nw' ≤ nw)
    (kr : ∀ (v : Option Int) (M' : tk_M), P' (.inl v) M' → tk_ro v → tk_At l own cc nL ret nf nw P (pc + 3) lo (tk_pv v ++ st) M') (kt : ∀ (x : Nat) (M' : tk_M), P' (.inr x) M' → P (.inr x) M') : tk_At l own cc nL ret nf nw P pc lo stk M := by
  intro p e R s m args below meth c G A B
  obtain ⟨hF, X, h1, h2, h3, h4, hlocks, hret, het⟩ := id B
  rw [hst]
  exact tk_callV X hF con hw hlk hinst hsel (tk_dec3 htab hd) hk hr0 hsh hn ⟨rfl, rfl⟩ (by omega) (by rw [tk_sv_eq]; omega) (by omega) (by omega) (fun v M' hp hro => kr v M' hp hro p e R s m args below meth c G A B) (fun x M' hp => tk_Th.out het hlocks (kt x M' hp))
/-- a call without a receiver -/
theorem tk_aS {y : MethodName} {cy : ByteArray} {mL : Nat} {rty : Option FieldType} {nf' nw' ix n : Nat} {ps : List tk_U} {P' : (Option Int ⊕ Nat) → tk_M → Prop} {M : tk_M} {tab : List tk_E} {pc : Nat} {lo : tk_Lc} {stk st : List tk_V}
    (con : tk_C l y nf' nw' ps M P') (hw : Cond.code y cy mL rty ∈ tk_tbl) (hlk : tk_lnk own ix y n) (hsta : Cond.static y ∈ tk_tbl) (hini : Cond.initialized y.cls ∈ tk_tbl) (htab : tk_good cc nL tab) (hd : tk_ia tab pc = some (.invokestatic ix, pc + 3))
    (hn : ps.length = n) (hst : stk = (ps.reverse.map Sum.inl) ++ st) (hfr : nf' + 1 ≤ nf) (hlo : tk_sv st + (mL + 11) + nw' ≤ nw)
    (kr : ∀ (v : Option Int) (M' : tk_M), P' (.inl v) M' → tk_ro v → tk_At l own cc nL ret nf nw P (pc + 3) lo (tk_pv v ++ st) M') (kt : ∀ (x : Nat) (M' : tk_M), P' (.inr x) M' → P (.inr x) M') : tk_At l own cc nL ret nf nw P pc lo stk M := by
  intro p e R s m args below meth c G A B
  obtain ⟨hF, X, h1, h2, h3, h4, hlocks, hret, het⟩ := id B
  rw [hst]
  exact tk_callS X hF con hw hlk hsta hini (tk_dec3 htab hd) hn ⟨rfl, rfl⟩ (by omega) (by rw [tk_sv_eq]; omega) (by omega) (by omega) (fun v M' hp hro => kr v M' hp hro p e R s m args below meth c G A B) (fun x M' hp => tk_Th.out het hlocks (kt x M' hp))
/-- the same, of a nest mate -/
theorem tk_aSN {host : String} {y : MethodName} {cy : ByteArray} {mL : Nat} {rty : Option FieldType} {nf' nw' ix n : Nat} {ps : List tk_U} {P' : (Option Int ⊕ Nat) → tk_M → Prop} {M : tk_M} {tab : List tk_E} {pc : Nat} {lo : tk_Lc} {stk st : List tk_V}
    (con : tk_C l y nf' nw' ps M P') (hw : Cond.code y cy mL rty ∈ tk_tbl) (hlk : Cond.methodLinkNest own ix y host ∈ tk_nst ∧ (y.cls ≠ "java/lang/invoke/MethodHandle" ∧ y.cls ≠ "java/lang/invoke/VarHandle") ∧ plainName y.cls = true ∧ (parseMethodDescriptor y.desc).map (fun d => d.parameters.length) = some n) (hsta : Cond.static y ∈ tk_tbl) (hini : Cond.initialized y.cls ∈ tk_tbl) (htab : tk_good cc nL tab) (hd : tk_ia tab pc = some (.invokestatic ix, pc + 3))
    (hn : ps.length = n) (hst : stk = (ps.reverse.map Sum.inl) ++ st) (hfr : nf' + 1 ≤ nf) (hlo : tk_sv st + (mL + 11) + nw' ≤ nw)
    (kr : ∀ (v : Option Int) (M' : tk_M), P' (.inl v) M' → tk_ro v → tk_At l own cc nL ret nf nw P (pc + 3) lo (tk_pv v ++ st) M') (kt : ∀ (x : Nat) (M' : tk_M), P' (.inr x) M' → P (.inr x) M') : tk_At l own cc nL ret nf nw P pc lo stk M := by
  intro p e R s m args below meth c G A B
  obtain ⟨hF, X, h1, h2, h3, h4, hlocks, hret, het⟩ := id B
  rw [hst]
  exact tk_callSN X hF con hw hlk hsta hini (tk_dec3 htab hd) hn ⟨rfl, rfl⟩ (by omega) (by rw [tk_sv_eq]; omega) (by omega) (by omega) (fun v M' hp hro => kr v M' hp hro p e R s m args below meth c G A B) (fun x M' hp => tk_Th.out het hlocks (kt x M' hp))
/-- throw new ..() -/
theorem tk_aN (hst : l.stackTraces = false) {ik ic x pc : Nat} (hw : tk_thr own ik ic x) {tab : List tk_E} (htab : tk_good cc nL tab) (d0 : tk_ia tab pc = some (.new ik, pc + 3)) (d3 : tk_ia tab (pc + 3) = some (.dup, pc + 3 + 1)) (d4 : tk_ia tab (pc + 4) = some (.invokespecial ic, pc + 4 + 3)) (d7 : tk_ia tab (pc + 7) = some (.athrow, pc + 7 + 1))
    {lo : tk_Lc} {st : List tk_V} {M : tk_M} (hRf : 6 ≤ nf) (hRl : tk_sv st + 81 ≤ nw) (h : P (.inr x) M) : tk_At l own cc nL ret nf nw P pc lo st M := by
  intro p e R s m args below meth c G A B
  obtain ⟨hF, X, h1, h2, h3, h4, hlocks, hret, het⟩ := id B
  exact tk_new X hF hst hw (tk_dec3 htab d0) (tk_dec1 htab d3) (tk_dec3 htab d4) (tk_dec1 htab d7) het hlocks (by omega) (by rw [tk_sv_eq]; omega) h3 h4 h
end TKA
