/-! THE LAW: what its end is, and its walk with the surroundings left free -/
def R_law : String := "TrackKeeperLaw"
def lw_P (b : Addr) (xs : List Int32) (args : Array Value) (s : State) : Prop := args = #[.ref b] ∧ s.IntsAt b xs ∧ xs.length ≤ 2048 ∧ (Jvm.Cond.and given_1 narrow_1).before args s = true
def lw_Q (_ : Array Value) (s : State) (o : Outcome) (t : State) : Prop := o = .returned (some (.int 1)) ∧ Framed s o t [] 661476 7111676
def lw_Z (below : List Frame) (a : Array Value) (s : State) : State → Prop := fun t => ∃ o, t.status = .running ∧ Ended t below o ∧ lw_Q a s o t
/-- the law's own end, with 1 on the stack, nothing written that was there before, its room as the claim has it -/
theorem lw_ret {p : Program} {l : Launch} {e : Env} {s : State} {m : MethodId} {below : List Frame} {meth : Method} {c : Code} {b : Nat} (hx : p.tables.exec = Jvm.exec) (hb : c.code = code) (hr : meth.sig.returnType = ret) (hlocks : meth.locks = false) {pc : Nat} {H : Heap} {ls : Array Slot} (hdg : decode code pc = .ok (.ireturn, 1)) : W p l e room_1 s m #[Value.ref b] below meth c H [] 661476 7111676 (lw_Z below #[Value.ref b] s) (F0 m pc ls [.int 1]) := by
  intro T hT X
  obtain ⟨fs, hret, hrun, hended, hW, hframe⟩ := X.leave (v := some (.int 1)) (hlocks := hlocks) (fun h => by rw [hr] at h; cases h)
  have hmeth' : T.vm.method? m = some meth := X.method'
  refine ⟨T.setFrames fs, ?_, .returned (some (.int 1)), hrun, hended, rfl, ⟨_, rfl⟩, hW, hframe⟩
  jvm_step X.here [X.here.top, hx, hb, hdg, hmeth', hr, ret, narrow_b1]
  (try refine ⟨rfl, ?_⟩); (try refine ⟨rfl, ?_⟩)
  first | (intro acts; rw [hret _ acts rfl rfl rfl]) | rw [hret _ _ rfl rfl rfl]
  exact Steps.refl _
/-- what holds at the law's entry: the machine, the code, the tables' words (any of lw_tbl by 'hts w (by decide +kernel)'), the script of L ints xs at the cell b, what the Statement gives of the start (any of its parts by flat_of_before) -/
def lw_At (p : Program) (s : State) (m : MethodId) (meth : Method) (c : Code) (b L : Nat) (xs : Nat → Int32) : Prop :=
  p.tables.exec = Jvm.exec ∧ c.code = code ∧ meth.sig.returnType = ret ∧ c.maxLocals = 7 ∧ s.vm.findClass R_law = some m.cls ∧ (∀ w ∈ lw_tbl, w.before #[Value.ref b] s = true) ∧ va_X b L xs s s.heap ∧ b < s.heap.size ∧ meth.locks = false ∧ (Jvm.Cond.and given_1 narrow_1).before #[Value.ref b] s = true
section TKL
def tk_BL (p : Program) (s : State) (m : MethodId) (b : Nat) (meth : Method) (c : Code) (G : tk_G) (A : Nat → Prop) (L : Nat) (xs : Nat → Int32) : Prop :=
  tk_F G A s ∧ tk_X p s m #[.ref b] c G A 7 "TrackKeeperLaw" code true L xs ∧ meth.locks = false ∧ meth.sig.returnType = ret ∧ ∀ q, A q → s.heap.size ≤ q
def tk_AL (l : Launch) (L : Nat) (xs : Nat → Int32) (k n : Nat) (pc : Nat) (lo : tk_Lc) (st : List tk_V) (M : tk_M) : Prop :=
  ∀ (p : Program) (e : Env) (s : State) (m : MethodId) (b : Nat) (below : List Frame) (meth : Method) (c : Code) (G : tk_G) (A : Nat → Prop), tk_BL p s m b meth c G A L xs → tk_W p l e room_1 s m #[.ref b] below meth c k n (lw_Z below #[Value.ref b] s) G A 7 pc lo st M
def tk_RL (v : Option Int) (_ : tk_M) : Prop := v = some 1
variable {l : Launch} {L : Nat} {xs : Nat → Int32} {k n : Nat}
theorem tk_rtL {p : Program} {e : Env} {s : State} {m : MethodId} {b : Nat} {below : List Frame} {meth : Method} {c : Code} {G : tk_G} {A : Nat → Prop} (B : tk_BL p s m b meth c G A L xs) (h1 : k ≤ 661476) (h2 : n ≤ 7111676) : tk_Rt p l e room_1 s m #[.ref b] below meth c k n (lw_Z below #[Value.ref b] s) G A code tk_RL := by
  intro v M H locs ls pc st hR hW hS hrs hc
  obtain ⟨hF, X, hlocks, hr, hA⟩ := B
  rcases hc with ⟨x, rfl, rfl, hd⟩ | ⟨rfl, rfl, hd⟩
  · have e1 : x = 1 := Option.some.inj hR
    subst e1
    refine W.widen h1 h2 (va_forget (fun q hq => hA _ (hS.2.2 q hq)) ?_)
    exact lw_ret X.1 X.2.1 hr hlocks hd
  · cases hR
theorem tk_AL.widen {k' n' : Nat} (h1 : k ≤ k') (h2 : n ≤ n') {pc : Nat} {lo : tk_Lc} {st : List tk_V} {M : tk_M} (h : tk_AL l L xs k' n' pc lo st M) : tk_AL l L xs k n pc lo st M :=
  fun p e s m b below meth c G A B H locs ls hW hS hl hr => W.widen h1 h2 (h p e s m b below meth c G A B H locs ls hW hS hl hr)
theorem tk_goL {tab : List tk_E} (htab : tk_good code 7 tab) (h1 : k ≤ 661476) (h2 : n ≤ 7111676) (f : Nat) (cut : List Nat) {pc : Nat} {lo : tk_Lc} {st : List tk_V} {M : tk_M}
    (h : tk_R fl_La cs_La true L xs cut tab (fun pc lo st M => tk_Lf (tk_AL l L xs k n pc lo st M)) tk_RL f (tk_to tab pc) lo st M) : tk_AL l L xs k n pc lo st M :=
  fun p e s m b below meth c G A B => tk_goP B.2.1 fo_La co_La htab (tk_rtL B h1 h2) (fun pc lo st M h => h.elim fun _ h => h p e s m b below meth c G A B) f cut h
/-- a call by a receiver that does not throw -/
theorem tk_aVL {y : MethodName} {cy : ByteArray} {mL : Nat} {rty : Option FieldType} {nf' nw' ix na k9 : Nat} {C : String} {T0 : u_T} {N0 : Nat} {fs : List (Option Nat)} {r : Nat} {ps : List tk_U} {P' : (Option Int ⊕ Nat) → tk_M → Prop} {M : tk_M} {tab : List tk_E} {pc : Nat} {lo : tk_Lc} {stk st : List tk_V}
    (con : tk_C l y nf' nw' (.inr r :: ps) M P') (hw : Cond.code y cy mL rty ∈ tk_tbl) (hlk : tk_lnk "TrackKeeperLaw" ix y na) (hinst : Cond.instanceMethod y ∈ tk_tbl) (hsel : Cond.selects C y y ∈ tk_tbl) (htab : tk_good code 7 tab) (hd : tk_ia tab pc = some (.invokevirtual ix, pc + 3))
    (hk : tk_cl[k9]? = some (C, T0, N0)) (hr0 : r < tk_nc) (hsh : tk_sh r = .inl (k9, fs)) (hn : ps.length = na) (hst : stk = (ps.reverse.map Sum.inl) ++ (.inl (.inr r) :: st)) (hfr : nf' + 1 ≤ 11) (hlo : tk_sv st + (mL + 11) + nw' ≤ 380) (h1 : k + 1 ≤ 661476) (h2 : n + 6 ≤ 7111676)
    (kr : ∀ (v : Option Int) (M' : tk_M), P' (.inl v) M' → tk_ro v → tk_AL l L xs k n (pc + 3) lo (tk_pv v ++ st) M') (kt : ∀ (x : Nat) (M' : tk_M), ¬ P' (.inr x) M') : tk_AL l L xs k n pc lo stk M := by
  intro p e s m b below meth c G A B
  obtain ⟨hF, X, hlocks, hret, hA⟩ := id B
  rw [hst]
  exact tk_callV X hF con hw hlk hinst hsel (tk_dec3 htab hd) hk hr0 hsh hn ⟨rfl, rfl⟩ (show nf' + 1 ≤ 11 from hfr) (by rw [tk_sv_eq]; exact hlo) h1 h2 (fun v M' hp hro => kr v M' hp hro p e s m b below meth c G A B) (fun x M' hp => absurd hp (kt x M'))
/-- a call of a helper -/
theorem tk_aHL {y : MethodName} {cy : ByteArray} {mL : Nat} {rty : Option FieldType} {hh : List (Nat × Nat × Nat × Nat)} {nf' nw' ix na : Nat} {ps : List tk_U} {P' : Int → tk_M → Prop} {M : tk_M} {tab : List tk_E} {pc : Nat} {lo : tk_Lc} {stk st : List tk_V}
    (con : tk_H l y nf' nw' ps M P') (hw : Cond.codeWith y cy mL rty hh ∈ tk_tbl) (hlk : tk_lnk "TrackKeeperLaw" ix y na) (hsta : Cond.static y ∈ tk_tbl) (hini : Cond.initialized y.cls ∈ tk_tbl) (htab : tk_good code 7 tab) (hd : tk_ia tab pc = some (.invokestatic ix, pc + 3))
    (hn : ps.length = na) (hst : stk = (ps.reverse.map Sum.inl) ++ st) (hfr : nf' + 1 ≤ 11) (hlo : tk_sv st + (mL + 11) + nw' ≤ 380) (h1 : k + 1 ≤ 661476) (h2 : n + 6 ≤ 7111676)
    (kr : ∀ (v : Int) (M' : tk_M), P' v M' → tk_AL l L xs (k + 1) (n + 6) (pc + 3) lo (.inl (.inl v) :: st) M') : tk_AL l L xs k n pc lo stk M := by
  intro p e s m b below meth c G A B
  obtain ⟨hF, X, hlocks, hret, hA⟩ := id B
  rw [hst]
  exact tk_callH X hF con hw hlk hsta hini (tk_dec3 htab hd) hn (show nf' + 1 ≤ 11 from hfr) (by rw [tk_sv_eq]; exact hlo) h1 h2 (fun v M' hp => kr v M' hp p e s m b below meth c G A B)
theorem tk_cmp_eq (a : Int) : tk_cmp a a = 0 := by
  unfold tk_cmp
  rw [if_neg (by omega), if_pos rfl]
end TKL
