/-! OBJECTS MADE: the world while it grows; its n cells lie at a 0, a 1 .. and hold E 0, E 1 .. -/
section TKN
def tk_Vw (D : va_G) (A : Nat → Prop) (n : Nat) (a : Nat → Nat) (E : Nat → va_E) (H : Heap) : Prop :=
  (∀ i, i < n → va_at D tk_cl (a i, E i) H) ∧ (∀ i j, i < n → j < n → a i = a j → i = j) ∧ ∀ i, i < n → A (a i)
def tk_vl (n : Nat) (a : Nat → Nat) (E : Nat → va_E) : va_W := (List.range n).map fun i => (a i, E i)
theorem tk_vl_at {n : Nat} {a : Nat → Nat} {E : Nat → va_E} {i : Nat} (h : i < n) : (tk_vl n a E)[i]? = some (a i, E i) := by
  simp [tk_vl, List.getElem?_range, h]
theorem tk_vl_len {n : Nat} {a : Nat → Nat} {E : Nat → va_E} : (tk_vl n a E).length = n := by simp [tk_vl]
theorem tk_vl_some {n : Nat} {a : Nat → Nat} {E : Nat → va_E} {i : Nat} {q : Nat × va_E} (h : (tk_vl n a E)[i]? = some q) : i < n ∧ q = (a i, E i) := by
  have hi : i < n := by
    have := (List.getElem?_eq_some_iff.mp h).1
    rw [tk_vl_len] at this
    exact this
  rw [tk_vl_at hi] at h
  exact ⟨hi, (Option.some.inj h).symm⟩
variable {D : va_G} {A : Nat → Prop} {n : Nat} {a : Nat → Nat} {E : Nat → va_E} {H : Heap}
theorem tk_Vw.P (h : tk_Vw D A n a E H) : va_P D tk_cl (tk_vl n a E) H := fun k q hk => by
  obtain ⟨h1, rfl⟩ := tk_vl_some hk
  exact h.1 k h1
theorem tk_Vw.Ds (h : tk_Vw D A n a E H) : va_D A (tk_vl n a E) := by
  refine ⟨fun i j p q hi hj e => ?_, fun k q hk => ?_⟩
  · obtain ⟨h1, rfl⟩ := tk_vl_some hi
    obtain ⟨h2, rfl⟩ := tk_vl_some hj
    exact h.2.1 i j h1 h2 e
  · obtain ⟨h1, rfl⟩ := tk_vl_some hk
    exact h.2.2 k h1
theorem tk_Vw.ofL {ws : va_W} {H1 : Heap} {n' : Nat} {a' : Nat → Nat} {E' : Nat → va_E} (hP : va_P D tk_cl ws H1) (hD : va_D A ws) (h : ∀ i, i < n' → ws[i]? = some (a' i, E' i)) : tk_Vw D A n' a' E' H1 :=
  ⟨fun i hi => hP i _ (h i hi), fun i j hi hj e => hD.1 i j _ _ (h i hi) (h j hj) e, fun i hi => hD.2 i _ (h i hi)⟩
theorem tk_Vw.push {q : Nat} {x : va_E} {H1 : Heap} (hP : va_P D tk_cl (tk_vl n a E ++ [(q, x)]) H1) (hD : va_D A (tk_vl n a E ++ [(q, x)])) : tk_Vw D A (n + 1) (fun i => if i = n then q else a i) (fun i => if i = n then x else E i) H1 := by
  refine tk_Vw.ofL hP hD fun i hi => ?_
  by_cases h : i = n
  · rw [h, List.getElem?_append_right (by rw [tk_vl_len]; omega), tk_vl_len, Nat.sub_self]
    simp
  · rw [List.getElem?_append_left (by rw [tk_vl_len]; omega), tk_vl_at (by omega), if_neg h, if_neg h]
theorem tk_Vw.put {k : Nat} {x : va_E} {H1 : Heap} (hk : k < n) (hP : va_P D tk_cl ((tk_vl n a E).set k (a k, x)) H1) (hD : va_D A ((tk_vl n a E).set k (a k, x))) : tk_Vw D A n a (fun i => if i = k then x else E i) H1 := by
  refine tk_Vw.ofL hP hD fun i hi => ?_
  rw [List.getElem?_set]
  by_cases h : k = i
  · subst h
    rw [if_pos rfl, tk_vl_len, if_pos hk, if_pos rfl]
  · rw [if_neg h, tk_vl_at hi, if_neg (fun z => h z.symm)]
theorem tk_Vw.eq {E' : Nat → va_E} (h : tk_Vw D A n a E H) (he : ∀ i, i < n → E' i = E i) : tk_Vw D A n a E' H := ⟨fun i hi => by rw [he i hi]; exact h.1 i hi, h.2.1, h.2.2⟩
theorem tk_Vw.eqv {E' : Nat → va_E} (h : tk_Vw D A n a E H) (he : ∀ i, i < n → va_at D tk_cl (a i, E i) H → va_at D tk_cl (a i, E' i) H) : tk_Vw D A n a E' H := ⟨fun i hi => he i hi (h.1 i hi), h.2.1, h.2.2⟩
def tk_aos : List String := ["TrackKeeper$Section", "TrackKeeper$Subsection", "TrackKeeper$Train"]
/-- what holds where objects are made -/
def tk_Fc (D : va_G) (K : Nat → ClassId) (A : Nat → Prop) (s : State) : Prop :=
  (∀ w ∈ tk_tbl, w.before #[] s = true) ∧ va_K D tk_cl (tk_tys (fun _ => 0, D, K)) s ∧ (∀ q : Nat, s.heap.size ≤ q → A q) ∧ (∀ w ∈ tk_nst, va_Nw w s) ∧ ∀ C ∈ tk_aos, va_AO C s
theorem tk_nst_N : ∀ w ∈ tk_nst, tk_isN w = true := by decide +kernel
theorem tk_Fc.call {K : Nat → ClassId} {s U : State} (h : tk_Fc D K A s) (hW : s.WarmedH U.vm) (hz : s.heap.size ≤ U.heap.size) : tk_Fc D K A U :=
  ⟨fun w hw => tk_wAny hw hW (h.1 w hw), va_K.moved hW.alike h.2.1, fun q hq => h.2.2.1 q (Nat.le_trans hz hq), fun w hw => tk_Nw_warm (tk_nst_N w hw) hW (h.2.2.2.1 w hw), fun C hC => va_AO.moved hW.alike (h.2.2.2.2 C hC)⟩
theorem tk_Fc.words {K : Nat → ClassId} {s : State} (h : tk_Fc D K A s) (args : Array Value) : ∀ w ∈ tk_tbl, w.before args s = true := fun w hw => tk_wAny hw (State.WarmedH.refl s) (h.1 w hw)
/-- how a constructor ends -/
def tk_Qi (below : List Frame) (s : State) (D : va_G) (A : Nat → Prop) (nc ns : Nat) (P : Nat → (Nat → Nat) → (Nat → va_E) → Prop) : State → Prop := fun t =>
  t.status = .running ∧ s.WarmedH t.vm ∧ va_F A s t ∧ Ended t below (.returned none) ∧ ∃ (L : List Loc) (n : Nat) (a : Nat → Nat) (E : Nat → va_E), (∀ q ∈ L, A q.base) ∧ tk_Vw D A n a E t.heap ∧ s.sameButNew ({ t with vm := s.vm } : State) L nc ns ∧ P n a E
def tk_Ci (l : Launch) (y : MethodName) (nf nw nc ns : Nat) (D : va_G) (K : Nat → ClassId) (h0 n : Nat) (a : Nat → Nat) (E : Nat → va_E) (P : Nat → (Nat → Nat) → (Nat → va_E) → Prop) : Prop :=
  ∀ (p : Program) (e : Env) (R : Room) (s : State) (m : MethodId) (below : List Frame) (meth : Method) (c : Code) (A : Nat → Prop),
    p.tables.exec = Jvm.exec → tk_Fc D K A s → s.methodNamed? y = some m → nf ≤ R.frames → nw ≤ R.locals → nc ≤ R.cells → ns ≤ R.slots → tk_Vw D A n a E s.heap → s.vm.method? m = some meth → meth.code = some c →
    W p l e R s m #[.ref h0] below meth c s.heap [] 0 0 (tk_Qi below s D A nc ns P) (entryFrame m #[.ref h0] c.maxLocals)
end TKN
section TKNR
variable {p : Program} {l : Launch} {e : Env} {R : Room} {s : State} {m : MethodId} {args : Array Value} {below : List Frame} {meth : Method} {c : Code} {H : Heap} {locs : List Loc} {cells slots : Nat} {Q : State → Prop} {D : va_G} {K : Nat → ClassId} {A : Nat → Prop} {n : Nat} {a : Nat → Nat} {E : Nat → va_E} {own : String} {cc : ByteArray} {pc : Nat} {ls : Array Slot} {rest : List Value} {nL : Nat}
/-- the surroundings of a constructor's walk -/
def tk_Xc (p : Program) (s : State) (m : MethodId) (args : Array Value) (c : Code) (D : va_G) (K : Nat → ClassId) (A : Nat → Prop) (own : String) (cc : ByteArray) (nL : Nat) : Prop :=
  p.tables.exec = Jvm.exec ∧ c.code = cc ∧ c.maxLocals = nL ∧ s.vm.findClass own = some m.cls ∧ (∀ w ∈ tk_tbl, w.before args s = true) ∧ tk_Fc D K A s
theorem tk_vnew (X : tk_Xc p s m args c D K A own cc nL) {C : String} {T : u_T} {N ci ix : Nat} (hc : tk_cl[ci]? = some (C, T, N)) (hl : Cond.classLink own ix C ∈ tk_tbl) (hi : Cond.instantiable C N ∈ tk_tbl) (hini : Cond.initialized C ∈ tk_tbl) {fs : List Value}
    (hfs : ∀ j, j < N → (parseFieldDescriptor (T j).2.2.1).map defaultValue = some (vp_V fs j)) (hcl : cells + 1 ≤ R.cells) (hsl : slots + N ≤ R.slots) (hd : decode cc pc = .ok (.new ix, 3)) (hV : tk_Vw D A n a E H) (hS : va_S A s.heap H locs)
    (kk : ∀ (a' : Nat → Nat) (H1 : Heap), (∀ i, i < n → a' i = a i) → tk_Vw D A (n + 1) a' (fun i => if i = n then .inr (ci, fs) else E i) H1 → va_S A s.heap H1 locs → W p l e R s m args below meth c H1 locs (cells + 1) (slots + N) Q (F0 m (pc + 3) ls (.ref (a' n) :: rest))) :
    W p l e R s m args below meth c H locs cells slots Q (F0 m pc ls rest) := by
  obtain ⟨hx, hb, hml, hown, hts, hF⟩ := X
  obtain ⟨ty, hty, -⟩ := tk_tyok hc
  refine va_new (ci := ci) (fs := fs) hx hb hts (tk_cls hc) ty hty hown (hts _ hl) (hts _ hi) (hts _ hini) hF.2.1 hV.P hV.Ds hS hF.2.2.1 hc (fun j hj => ?_) hcl hsl hd fun q H1 hP hD hS1 => ?_
  · have h1 := hfs j hj
    rw [hty j hj] at h1
    exact Option.some.inj h1
  · have := kk (fun i => if i = n then q else a i) H1 (fun i hi => by rw [if_neg (by omega)]) (tk_Vw.push hP hD) hS1
    rw [if_pos rfl] at this
    exact this
theorem tk_newq (X : tk_Xc p s m args c D K A own cc nL) {C : String} {ix t : Nat} (ht : (tk_tys (fun _ => 0, D, K))[t]? = some (K t, .object C)) (hl : Cond.classLink own ix C ∈ tk_tbl) (hov : C ∈ tk_aos) {v : Int32} {N : Nat} (hn : ¬ v < 0) (hN : v.toNatClampNeg = N) (hby : N * 4 ≤ 536870912) (hcl : cells + 1 ≤ R.cells) (hsl : slots + N ≤ R.slots) (hd : decode cc pc = .ok (.anewarray ix, 3)) (hV : tk_Vw D A n a E H) (hS : va_S A s.heap H locs)
    (kk : ∀ (a' : Nat → Nat) (H1 : Heap), (∀ i, i < n → a' i = a i) → tk_Vw D A (n + 1) a' (fun i => if i = n then .inl (K t, N, .inr (.inr (.inr (.inr (fun _ => none))))) else E i) H1 → va_S A s.heap H1 locs → W p l e R s m args below meth c H1 locs (cells + 1) (slots + N) Q (F0 m (pc + 3) ls (.ref (a' n) :: rest))) :
    W p l e R s m args below meth c H locs cells slots Q (F0 m pc ls (.int v :: rest)) := by
  obtain ⟨hx, hb, hml, hown, hts, hF⟩ := X
  refine va_newq hx hb hown (hts _ hl) (hF.2.2.2.2 C hov) hF.2.1 hV.P hV.Ds hS hF.2.2.1 hn hN hby hcl hsl hd fun q cA H1 hK hP hD hS1 => ?_
  have e1 : cA = K t := by
    obtain ⟨-, -, -, -, -, g1⟩ := (hF.2.1.2 t _ ht).2
    obtain ⟨-, -, -, -, -, g2⟩ := (hK.2 6 (cA, .object C) rfl).2
    exact Option.some.inj (g2.symm.trans g1)
  subst e1
  have := kk (fun i => if i = n then q else a i) H1 (fun i hi => by rw [if_neg (by omega)]) (tk_Vw.push hP hD) hS1
  rw [if_pos rfl] at this
  exact this
theorem tk_newa (X : tk_Xc p s m args c D K A own cc nL) {at9 : ArrayType} {ty : FieldType} {t : Nat} (hty : newarray.typeOf at9 = ty) (hr : ∀ cA, va_RA s cA ty → s.vm.findClass ("[" ++ ty.toString) = some cA) (ht : (tk_tys (fun _ => 0, D, K))[t]? = some (K t, ty)) (har : Cond.arrayClass ty ∈ tk_tbl) {v : Int32} {N : Nat} {a0 : vp_A} (ha : ∀ cA : ClassId, vp_cell cA a0 = arrV cA N (fun _ => defaultValue ty)) (hn : ¬ v < 0) (hN : v.toNatClampNeg = N) (hby : N * componentBytes ty ≤ 536870912) (hcl : cells + 1 ≤ R.cells) (hsl : slots + N ≤ R.slots) (hd : decode cc pc = .ok (.newarray at9, 2)) (hV : tk_Vw D A n a E H) (hS : va_S A s.heap H locs)
    (kk : ∀ (a' : Nat → Nat) (H1 : Heap), (∀ i, i < n → a' i = a i) → tk_Vw D A (n + 1) a' (fun i => if i = n then .inl (K t, a0) else E i) H1 → va_S A s.heap H1 locs → W p l e R s m args below meth c H1 locs (cells + 1) (slots + N) Q (F0 m (pc + 2) ls (.ref (a' n) :: rest))) :
    W p l e R s m args below meth c H locs cells slots Q (F0 m pc ls (.int v :: rest)) := by
  obtain ⟨hx, hb, hml, hown, hts, hF⟩ := X
  refine va_newa hx hb (by rw [hty]; exact hts _ har) hty hF.2.1 hV.P hV.Ds hS hF.2.2.1 ha hn hN hby hcl hsl hd fun q cA H1 hK hP hD hS1 => ?_
  have e1 : cA = K t := Option.some.inj ((hr cA (hK.2 6 (cA, ty) rfl).2).symm.trans (hr _ (hF.2.1.2 t _ ht).2))
  subst e1
  have := kk (fun i => if i = n then q else a i) H1 (fun i hi => by rw [if_neg (by omega)]) (tk_Vw.push hP hD) hS1
  rw [if_pos rfl] at this
  exact this
/-- a final field gets its reference -/
theorem tk_vput (X : tk_Xc p s m args c D K A own cc nL) (hin : meth.name = "<init>") {C : String} {T : u_T} {N ci ix k j v : Nat} {fs : List Value} (hc : tk_cl[ci]? = some (C, T, N)) (hj : j < N) (hk : k < n) (he : E k = .inr (ci, fs)) (hl : Cond.fieldLink own ix (T j).1 (T j).2.1 (T j).2.2.1 ∈ tk_tbl) (hfin : (T j).2.2.2 = true) (hdc : (T j).1 = own) (hfit : ((parseFieldDescriptor (T j).2.2.1).map fun ty => (match ty with | .object _ => true | .array _ => true | _ => false)) = some true) (hfl : j < fs.length) {h9 : Nat} (hh9 : a k = h9) (hd : decode cc pc = .ok (.putfield ix, 3)) (hV : tk_Vw D A n a E H) (hS : va_S A s.heap H locs)
    (kk : ∀ (H1 : Heap) (locs1 : List Loc), tk_Vw D A n a (fun i => if i = k then .inr (ci, fs.set j (.ref v)) else E i) H1 → va_S A s.heap H1 locs1 → W p l e R s m args below meth c H1 locs1 cells slots Q (F0 m (pc + 3) ls rest)) :
    W p l e R s m args below meth c H locs cells slots Q (F0 m pc ls (.ref v :: .ref h9 :: rest)) := by
  subst hh9
  obtain ⟨hx, hb, hml, hown, hts, hF⟩ := X
  obtain ⟨ty0, hty, hnm⟩ := tk_tyok hc
  have h1 := hty j hj
  rw [h1] at hfit
  have h2 := Option.some.inj hfit
  refine va_putF (ty := ty0 j) (v := .ref v) hx hb hts (tk_cls hc) ty0 hty hnm hown hF.2.1 hV.P hV.Ds hS k (by rw [tk_vl_at hk, he]) hc j hj (hts _ hl) (fun _ h9 => h9) hfin hin hdc h1 ?_ ?_ hfl hd fun H1 locs1 hP hD hS1 => ?_
  · cases hz : ty0 j <;> first | rfl | (rw [hz] at h2; exact absurd h2 (by decide))
  · cases hz : ty0 j <;> first | rfl | (rw [hz] at h2; exact absurd h2 (by decide))
  · exact kk H1 locs1 (tk_Vw.put hk hP hD) hS1
theorem tk_vget (X : tk_Xc p s m args c D K A own cc nL) {C : String} {T : u_T} {N ci ix k j : Nat} {v : Value} {fs : List Value} (hc : tk_cl[ci]? = some (C, T, N)) (hj : j < N) (hk : k < n) (he : E k = .inr (ci, fs)) (hl : Cond.fieldLink own ix (T j).1 (T j).2.1 (T j).2.2.1 ∈ tk_tbl) (hv : fs[j]? = some v) {h9 : Nat} (hh9 : a k = h9) (hd : decode cc pc = .ok (.getfield ix, 3)) (hV : tk_Vw D A n a E H)
    (kk : W p l e R s m args below meth c H locs cells slots Q (F0 m (pc + 3) ls (v :: rest))) : W p l e R s m args below meth c H locs cells slots Q (F0 m pc ls (.ref h9 :: rest)) := by
  subst hh9
  obtain ⟨hx, hb, hml, hown, hts, hF⟩ := X
  exact va_get hx hb hts (tk_cls hc) hown hF.2.1 hV.P k (by rw [tk_vl_at hk, he]) hc j hj (hts _ hl) (fun _ h9 => h9) hv hd kk
theorem tk_vast (X : tk_Xc p s m args c D K A own cc nL) {C : String} {T : u_T} {N ci k t i9 w : Nat} {f : Nat → Option Nat} {vs : List Value} {N9 : Nat} (ht : (tk_tys (fun _ => 0, D, K))[t]? = some (K t, .object C)) (hc : tk_cl[ci]? = some (C, T, N)) (hk : k < n) (he : E k = .inl (K t, N9, .inr (.inr (.inr (.inr f))))) (hw : w < n) (hev : E w = .inr (ci, vs)) (hi : i9 < N9) (hN : N9 < 1000) {h9 : Nat} (hh9 : a k = h9) (hd : decode cc pc = .ok (.aastore, 1)) (hV : tk_Vw D A n a E H) (hS : va_S A s.heap H locs)
    (kk : ∀ (H1 : Heap) (locs1 : List Loc), tk_Vw D A n a (fun i => if i = k then .inl (K t, N9, .inr (.inr (.inr (.inr (va_up f i9 (some (a w))))))) else E i) H1 → va_S A s.heap H1 locs1 → W p l e R s m args below meth c H1 locs1 cells slots Q (F0 m (pc + 1) ls rest)) :
    W p l e R s m args below meth c H locs cells slots Q (F0 m pc ls (.ref (a w) :: .int (nI i9) :: .ref h9 :: rest)) := by
  subst hh9
  obtain ⟨hx, hb, hml, hown, hts, hF⟩ := X
  have hcl : (nI i9).toNatClampNeg = i9 := nI_clamp (by omega)
  refine va_astq (r := (C, T, N)) (i := nI i9) hx hb hF.2.1 hV.P hV.Ds hS k t w ci (by rw [tk_vl_at hk, he]) ht (by rw [tk_vl_at hw, hev]) hc (vp_in_nI hi (by omega)) hd fun H1 locs1 hP hD hS1 => ?_
  rw [hcl] at hP hD
  exact kk H1 locs1 (tk_Vw.put hk hP hD) hS1
/-- a constructor is called -/
theorem tk_vcall (X0 : tk_Xc p s m args c D K A own cc nL) {y : MethodName} {cy : ByteArray} {mL nf nw nc ns ix h0 : Nat} {P : Nat → (Nat → Nat) → (Nat → va_E) → Prop} (con : tk_Ci l y nf nw nc ns D K h0 n a E P) (hw : Cond.code y cy mL none ∈ tk_tbl) (hinst : Cond.instanceMethod y ∈ tk_tbl) (hlk : Cond.methodLink own ix y ∈ tk_tbl ∨ ∃ host, Cond.methodLinkNest own ix y host ∈ tk_nst) (hy1 : y.name = "<init>") (hy : y.cls ≠ "java/lang/invoke/MethodHandle" ∧ y.cls ≠ "java/lang/invoke/VarHandle") (hyp : plainName y.cls = true) (hyd : (parseMethodDescriptor y.desc).map (fun d => d.parameters.length) = some 0)
    (hd : decode cc pc = .ok (.invokespecial ix, 3)) (hsz : ls.size = nL) (hfr : nf + 1 ≤ R.frames) (hlo : (rest.map fun v => v.category).sum + (mL + 11) + nw ≤ R.locals) (hcl : cells + nc ≤ R.cells) (hsl : slots + ns ≤ R.slots) (hV : tk_Vw D A n a E H) (hS : va_S A s.heap H locs)
    (kk : ∀ (n' : Nat) (a' : Nat → Nat) (E' : Nat → va_E) (H1 : Heap) (locs1 : List Loc), P n' a' E' → tk_Vw D A n' a' E' H1 → va_S A s.heap H1 locs1 → W p l e R s m args below meth c H1 locs1 (cells + nc) (slots + ns) Q (F0 m (pc + 3) ls rest)) :
    W p l e R s m args below meth c H locs cells slots Q (F0 m pc ls (.ref h0 :: rest)) := by
  intro T hT X
  obtain ⟨hx, hb, hml, hown, hts, hF⟩ := X0
  have hpl9 : e.platform.magicAccessors = ({} : Platform).magicAccessors := by rw [X.admits.platform]
  have hlen : ∀ sig, parseMethodDescriptor y.desc = some sig → ([] : List Value).length = sig.parameters.length := fun sig hs => tk_plen hyd hs
  have hm9 : (F0 m pc ls (.ref h0 :: rest)).method = m := rfl
  have key : ∃ tm methM cM vm', s.methodNamed? y = some tm ∧ s.vm.method? tm = some methM ∧ methM.code = some cM ∧ cM.maxLocals = mL ∧ methM.locks = false ∧ s.WarmedH vm' ∧
      ∀ target, (∀ acts, Steps p.tables e below (doInvoke e ((T.setVm vm').setTop (F0 m pc ls rest)) acts tm #[.ref h0]).1 target) → Steps p.tables e below (T.setTop (F0 m pc ls (.ref h0 :: rest))) target := by
    rcases hlk with h | ⟨host, h⟩
    · obtain ⟨tm, methM, cM, kP, vm', g1, g2, g3, -, g5, g6, -, -, g9, g10⟩ := Steps.initColdArgs (e := e) X.here hx X.warmed hpl9 hown hy1 hy (hts _ h) (hts _ hinst) (hts _ hw) (f := F0 m pc ls (.ref h0 :: rest)) rfl (argsL := []) (rest := rest) hlen rfl (by rw [hb]; exact hd)
      exact ⟨tm, methM, cM, vm', g1, g2, g3, g5, g6, g9, g10⟩
    · obtain ⟨tm, methM, cM, kP, vm', g1, g2, g3, -, g5, g6, -, -, g9, g10⟩ := Steps.initColdArgsNest (e := e) X.here hx X.warmed hpl9 hown hy1 hy (va_Nw.use (A := args) rfl (hF.2.2.2.1 _ h)) (hts _ hinst) (hts _ hw) (f := F0 m pc ls (.ref h0 :: rest)) rfl (argsL := []) (rest := rest) hlen rfl (by rw [hb]; exact hd)
      exact ⟨tm, methM, cM, vm', g1, g2, g3, g5, g6, g9, g10⟩
  obtain ⟨mk, methk, ck, vm₁, hn, hmk, hck, hl, hlk9, hW₁, hstep⟩ := key
  have X₁ := X.noted hW₁
  have hal := X₁.warmed.alike
  have hmkT : (T.setVm vm₁).vm.method? mk = some methk := by rw [hal.method?]; exact hmk
  have hpl : (T.setVm vm₁).plainMethod mk := by
    obtain ⟨k, hk, hnm⟩ := className_of_methodNamed hn
    exact X₁.warmed.plainAt fun k2 hk2 => by cases hk.symm.trans hk2; rw [hnm]; exact hyp
  obtain ⟨Y, hdo⟩ := X₁.into (g := F0 m pc ls rest) rfl (by rw [hml]; exact hsz) (by rw [hb]; exact hd) #[.ref h0] (R' := { frames := R.frames - 1, cells := R.cells - cells, slots := R.slots - slots, locals := nw }) hmkT hck hlk9 hpl (by show R.frames - 1 + 1 ≤ R.frames; omega) (by rw [hl]; show 2 * 0 + _ + _ + _ ≤ _; show 2 * 0 + (rest.map fun v => v.category).sum + (mL + 11) + nw ≤ R.locals; omega) (by show cells + (R.cells - cells) ≤ R.cells; omega) (by show slots + (R.slots - slots) ≤ R.slots; omega)
  have hTh : (T.setVm vm₁).heap = H := hT
  have hFc : tk_Fc D K A ((T.setVm vm₁).calling (F0 m pc ls rest) mk #[.ref h0]) := hF.call X₁.warmed (by show s.heap.size ≤ (T.setVm vm₁).heap.size; rw [hTh]; exact hS.1)
  have hnc : ((T.setVm vm₁).calling (F0 m pc ls rest) mk #[.ref h0]).methodNamed? y = some mk := X₁.named hn
  obtain ⟨t, hst, q1, q2, q3, r1, L, n', a', E', q4, q5, r3, r4⟩ := con p e { frames := R.frames - 1, cells := R.cells - cells, slots := R.slots - slots, locals := nw } ((T.setVm vm₁).calling (F0 m pc ls rest) mk #[.ref h0]) mk (.java (F0 m pc ls rest) :: below) methk ck A hx hFc hnc (by show nf ≤ R.frames - 1; omega) (Nat.le_refl _) (by show nc ≤ R.cells - cells; omega) (by show ns ≤ R.slots - slots; omega) (by show tk_Vw D A n a E (T.setVm vm₁).heap; rw [hTh]; exact hV) hmkT hck (((T.setVm vm₁).setTop (F0 m pc ls rest)).pushFrame (.java (entryFrame mk #[.ref h0] ck.maxLocals))) rfl Y
  have hzT : ((T.setVm vm₁).calling (F0 m pc ls rest) mk #[.ref h0]).heap = H := hTh
  have hSn : va_S A s.heap t.heap (locs ++ L) := ⟨Nat.le_trans hS.1 (by rw [← hzT]; exact q3.1), fun q h1 h2 => by rw [q3.2 q (by rw [hzT]; exact Nat.lt_of_lt_of_le h1 hS.1) h2, hzT]; exact hS.2.1 q h1 h2, fun q hq => by
    rcases List.mem_append.mp hq with h | h
    · exact hS.2.2 q h
    · exact q4 q h⟩
  obtain ⟨T', X', hW', hsm, ht⟩ := X₁.outOf (g := F0 m pc ls rest) rfl (by rw [hb]; exact hd) r1 q2 r3
  have hh : T'.heap = t.heap := by rw [ht]; rfl
  obtain ⟨t2, a1, b1⟩ := kk n' a' E' T'.heap (locs ++ L) r4 (by rw [hh]; exact q5) (by rw [hh]; exact hSn) T' rfl X'
  refine ⟨t2, hstep t2 fun acts => ?_, b1⟩
  rw [hdo acts]
  refine Steps.trans (tk_weaken hst) ?_
  rw [ht]
  exact a1
/-- a constructor out of its walk -/
theorem tk_Ci.of {y : MethodName} {nf nw nc ns h0 : Nat} {P : Nat → (Nat → Nat) → (Nat → va_E) → Prop} (hw : Cond.code y cc nL none ∈ tk_tbl) (hy1 : y.name = "<init>") (ho : y.cls = own) (hnL : 1 ≤ nL)
    (body : ∀ (p : Program) (e : Env) (R : Room) (s : State) (m : MethodId) (below : List Frame) (meth : Method) (c : Code) (A : Nat → Prop) (ls : Array Slot), tk_Xc p s m #[.ref h0] c D K A own cc nL → meth.locks = false → meth.sig.returnType = none → meth.name = "<init>" → nf ≤ R.frames → nw ≤ R.locals → nc ≤ R.cells → ns ≤ R.slots → tk_Vw D A n a E s.heap → lv_has ls nL [(0, .ref h0)] →
      W p l e R s m #[.ref h0] below meth c s.heap [] 0 0 (tk_Qi below s D A nc ns P) (F0 m 0 ls [])) : tk_Ci l y nf nw nc ns D K h0 n a E P := by
  intro p e R s m below meth c A hx hF hn h1 h2 h3 h4 hV hm hc
  obtain ⟨meth', c', hm', hc', hb, hl, hret, hlk, -, -⟩ := Cond.code_spec hn (hF.1 _ hw)
  cases hm.symm.trans hm'
  cases hc.symm.trans hc'
  have hlv := lv_entry ([.ref h0]) (n := nL) (by show 1 ≤ nL; exact hnL)
  rw [hl]
  show W p l e R s m ([Value.ref h0] : List Value).toArray below meth c s.heap [] 0 0 _ (entryFrame m ([Value.ref h0] : List Value).toArray nL)
  rw [lg_entry_eq]
  exact body p e R s m below meth c A _ ⟨hx, hb, hl, by rw [← ho]; exact findClass_of_methodNamed hn, hF.words _, hF⟩ hlk hret ((name_of_methodNamed hn hm).1.trans hy1) h1 h2 h3 h4 hV hlv
/-- the return of a constructor -/
theorem tk_vret {nc ns : Nat} {P : Nat → (Nat → Nat) → (Nat → va_E) → Prop} (X : tk_Xc p s m args c D K A own cc nL) (hlocks : meth.locks = false) (hr : meth.sig.returnType = none) (h1 : cells ≤ nc) (h2 : slots ≤ ns) (hd : decode cc pc = .ok (.return_, 1)) (hV : tk_Vw D A n a E H) (hS : va_S A s.heap H locs) (hP : P n a E) : W p l e R s m args below meth c H locs cells slots (tk_Qi below s D A nc ns P) (F0 m pc ls []) := by
  obtain ⟨hx, hb, hml, hown, hts, hF⟩ := X
  refine tk_Wmono ?_ (W.vret (Qc := fun _ _ o t => o = .returned none ∧ t.heap = H) (free := A) hx hb hr (fun t ht _ => ⟨rfl, ht⟩) hS.2.2 hd)
  rintro t ⟨o, g1, g2, ⟨rfl, g4⟩, L, ⟨-, g5, g6⟩, g7⟩
  exact ⟨g1, g5, hS.F g4, g2, L, n, a, E, g7, by rw [g4]; exact hV, g6.mono h1 h2, hP⟩
theorem tk_vobj (X : tk_Xc p s m args c D K A own cc nL) {ix h0 : Nat} (hl : Cond.methodLink own ix Lib.objectInit ∈ tk_tbl) (hsz : ls.size = nL) (hd : decode cc pc = .ok (.invokespecial ix, 3)) (hf : 1 ≤ R.frames) (hlo : (rest.map fun v => v.category).sum + 12 ≤ R.locals) (hi : Cond.instanceMethod Lib.objectInit ∈ tk_tbl) (hc : Cond.code Lib.objectInit ⟨#[0xb1]⟩ 1 none ∈ tk_tbl)
    (kk : W p l e R s m args below meth c H locs cells slots Q (F0 m (pc + 3) ls rest)) : W p l e R s m args below meth c H locs cells slots Q (F0 m pc ls (.ref h0 :: rest)) := by
  obtain ⟨hx, hb, hml, hown, hts, hF⟩ := X
  exact W.objInit hx hb hown (hts _ hl) (hts _ hi) (hts _ hc) rfl (by rw [hml]; exact hsz) rfl hd hf (by show 2 * 0 + _ + 12 ≤ _; omega) kk
end TKNR
