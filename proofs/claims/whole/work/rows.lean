section
-- ===== PART A: goes FIRST, ahead of the names: the tables' words, and 'selects' of the private methods out of them =====
/-- a private method of a class that the tables say can be made, by its rows of tables_1 -/
def lw_okq (q : MethodName × Nat) : Prop := (q.1.cls ≠ "java/lang/invoke/MethodHandle" ∧ q.1.cls ≠ "java/lang/invoke/VarHandle") ∧ Cond.instantiable q.1.cls q.2 ∈ tables_1 ∧ Cond.privateMethod q.1 ∈ tables_1 ∧ Cond.instanceMethod q.1 ∈ tables_1
theorem lw_p0 : lw_okq (⟨"java/lang/Throwable", "fillInStackTrace", "(I)Ljava/lang/Throwable;"⟩, 6) := ⟨⟨by decide +kernel, by decide +kernel⟩, List.mem_of_getElem? (i := 268) (by decide +kernel), List.mem_of_getElem? (i := 266) (by decide +kernel), List.mem_of_getElem? (i := 267) (by decide +kernel)⟩
theorem lw_p1 : lw_okq (⟨"TrackKeeper", "requireBegun", "()V"⟩, 8) := ⟨⟨by decide +kernel, by decide +kernel⟩, List.mem_of_getElem? (i := 18) (by decide +kernel), List.mem_of_getElem? (i := 369) (by decide +kernel), List.mem_of_getElem? (i := 370) (by decide +kernel)⟩
theorem lw_p2 : lw_okq (⟨"TrackKeeper", "findAllAnew", "()V"⟩, 8) := ⟨⟨by decide +kernel, by decide +kernel⟩, List.mem_of_getElem? (i := 18) (by decide +kernel), List.mem_of_getElem? (i := 378) (by decide +kernel), List.mem_of_getElem? (i := 379) (by decide +kernel)⟩
theorem lw_p3 : lw_okq (⟨"TrackKeeper$Track", "markTrains", "([LTrackKeeper$Train;)V"⟩, 6) := ⟨⟨by decide +kernel, by decide +kernel⟩, List.mem_of_getElem? (i := 26) (by decide +kernel), List.mem_of_getElem? (i := 390) (by decide +kernel), List.mem_of_getElem? (i := 391) (by decide +kernel)⟩
theorem lw_p4 : lw_okq (⟨"TrackKeeper$Track", "markTrain", "(LTrackKeeper$Train;I)V"⟩, 6) := ⟨⟨by decide +kernel, by decide +kernel⟩, List.mem_of_getElem? (i := 26) (by decide +kernel), List.mem_of_getElem? (i := 394) (by decide +kernel), List.mem_of_getElem? (i := 395) (by decide +kernel)⟩
theorem lw_p5 : lw_okq (⟨"TrackKeeper$Track", "nothingCanFollow", "(I)Z"⟩, 6) := ⟨⟨by decide +kernel, by decide +kernel⟩, List.mem_of_getElem? (i := 26) (by decide +kernel), List.mem_of_getElem? (i := 398) (by decide +kernel), List.mem_of_getElem? (i := 399) (by decide +kernel)⟩
theorem lw_p6 : lw_okq (⟨"TrackKeeper$Track", "newState", "(LTrackKeeper$Subsection;I[LTrackKeeper$Train;)I"⟩, 6) := ⟨⟨by decide +kernel, by decide +kernel⟩, List.mem_of_getElem? (i := 26) (by decide +kernel), List.mem_of_getElem? (i := 402) (by decide +kernel), List.mem_of_getElem? (i := 403) (by decide +kernel)⟩
theorem lw_p7 : lw_okq (⟨"TrackKeeper$Track", "isUnsure", "(LTrackKeeper$Section;)Z"⟩, 6) := ⟨⟨by decide +kernel, by decide +kernel⟩, List.mem_of_getElem? (i := 26) (by decide +kernel), List.mem_of_getElem? (i := 410) (by decide +kernel), List.mem_of_getElem? (i := 411) (by decide +kernel)⟩
theorem lw_p8 : lw_okq (⟨"TrackKeeper$Authorities", "settleOne", "(LTrackKeeper$Train;LTrackKeeper$Track;)V"⟩, 2) := ⟨⟨by decide +kernel, by decide +kernel⟩, List.mem_of_getElem? (i := 111) (by decide +kernel), List.mem_of_getElem? (i := 418) (by decide +kernel), List.mem_of_getElem? (i := 419) (by decide +kernel)⟩
theorem lw_p9 : lw_okq (⟨"TrackKeeper", "requireConnected", "(I)V"⟩, 8) := ⟨⟨by decide +kernel, by decide +kernel⟩, List.mem_of_getElem? (i := 18) (by decide +kernel), List.mem_of_getElem? (i := 444) (by decide +kernel), List.mem_of_getElem? (i := 445) (by decide +kernel)⟩
theorem lw_p10 : lw_okq (⟨"TrackKeeper$Track", "countForSpread", "(LTrackKeeper$Section;I)V"⟩, 6) := ⟨⟨by decide +kernel, by decide +kernel⟩, List.mem_of_getElem? (i := 26) (by decide +kernel), List.mem_of_getElem? (i := 497) (by decide +kernel), List.mem_of_getElem? (i := 498) (by decide +kernel)⟩
theorem lw_p11 : lw_okq (⟨"TrackKeeper$Authorities", "isHeldByOther", "(II[LTrackKeeper$Train;)Z"⟩, 2) := ⟨⟨by decide +kernel, by decide +kernel⟩, List.mem_of_getElem? (i := 111) (by decide +kernel), List.mem_of_getElem? (i := 516) (by decide +kernel), List.mem_of_getElem? (i := 517) (by decide +kernel)⟩
theorem lw_p12 : lw_okq (⟨"TrackKeeper", "countSinceBegin", "(II)I"⟩, 8) := ⟨⟨by decide +kernel, by decide +kernel⟩, List.mem_of_getElem? (i := 18) (by decide +kernel), List.mem_of_getElem? (i := 549) (by decide +kernel), List.mem_of_getElem? (i := 550) (by decide +kernel)⟩
theorem lw_p13 : lw_okq (⟨"TrackKeeperModel", "isWaiting", "()Z"⟩, 35) := ⟨⟨by decide +kernel, by decide +kernel⟩, List.mem_of_getElem? (i := 553) (by decide +kernel), List.mem_of_getElem? (i := 675) (by decide +kernel), List.mem_of_getElem? (i := 676) (by decide +kernel)⟩
theorem lw_p14 : lw_okq (⟨"TrackKeeperModel", "fails", "(ZI)Z"⟩, 35) := ⟨⟨by decide +kernel, by decide +kernel⟩, List.mem_of_getElem? (i := 553) (by decide +kernel), List.mem_of_getElem? (i := 679) (by decide +kernel), List.mem_of_getElem? (i := 680) (by decide +kernel)⟩
theorem lw_p15 : lw_okq (⟨"TrackKeeperModel", "reset", "()V"⟩, 35) := ⟨⟨by decide +kernel, by decide +kernel⟩, List.mem_of_getElem? (i := 553) (by decide +kernel), List.mem_of_getElem? (i := 695) (by decide +kernel), List.mem_of_getElem? (i := 696) (by decide +kernel)⟩
def lw_privs_1 : List (MethodName × Nat) := [(⟨"java/lang/Throwable", "fillInStackTrace", "(I)Ljava/lang/Throwable;"⟩, 6), (⟨"TrackKeeper", "requireBegun", "()V"⟩, 8), (⟨"TrackKeeper", "findAllAnew", "()V"⟩, 8), (⟨"TrackKeeper$Track", "markTrains", "([LTrackKeeper$Train;)V"⟩, 6), (⟨"TrackKeeper$Track", "markTrain", "(LTrackKeeper$Train;I)V"⟩, 6), (⟨"TrackKeeper$Track", "nothingCanFollow", "(I)Z"⟩, 6), (⟨"TrackKeeper$Track", "newState", "(LTrackKeeper$Subsection;I[LTrackKeeper$Train;)I"⟩, 6), (⟨"TrackKeeper$Track", "isUnsure", "(LTrackKeeper$Section;)Z"⟩, 6), (⟨"TrackKeeper$Authorities", "settleOne", "(LTrackKeeper$Train;LTrackKeeper$Track;)V"⟩, 2), (⟨"TrackKeeper", "requireConnected", "(I)V"⟩, 8), (⟨"TrackKeeper$Track", "countForSpread", "(LTrackKeeper$Section;I)V"⟩, 6), (⟨"TrackKeeper$Authorities", "isHeldByOther", "(II[LTrackKeeper$Train;)Z"⟩, 2), (⟨"TrackKeeper", "countSinceBegin", "(II)I"⟩, 8), (⟨"TrackKeeperModel", "isWaiting", "()Z"⟩, 35), (⟨"TrackKeeperModel", "fails", "(ZI)Z"⟩, 35), (⟨"TrackKeeperModel", "reset", "()V"⟩, 35)]
theorem lw_r1 : ∀ q ∈ lw_privs_1, lw_okq q := List.forall_mem_cons.mpr ⟨lw_p0, List.forall_mem_cons.mpr ⟨lw_p1, List.forall_mem_cons.mpr ⟨lw_p2, List.forall_mem_cons.mpr ⟨lw_p3, List.forall_mem_cons.mpr ⟨lw_p4, List.forall_mem_cons.mpr ⟨lw_p5, List.forall_mem_cons.mpr ⟨lw_p6, List.forall_mem_cons.mpr ⟨lw_p7, List.forall_mem_cons.mpr ⟨lw_p8, List.forall_mem_cons.mpr ⟨lw_p9, List.forall_mem_cons.mpr ⟨lw_p10, List.forall_mem_cons.mpr ⟨lw_p11, List.forall_mem_cons.mpr ⟨lw_p12, List.forall_mem_cons.mpr ⟨lw_p13, List.forall_mem_cons.mpr ⟨lw_p14, List.forall_mem_cons.mpr ⟨lw_p15, fun _ h => absurd h List.not_mem_nil⟩⟩⟩⟩⟩⟩⟩⟩⟩⟩⟩⟩⟩⟩⟩⟩
theorem lw_p16 : lw_okq (⟨"TrackKeeperModel", "settle", "()V"⟩, 35) := ⟨⟨by decide +kernel, by decide +kernel⟩, List.mem_of_getElem? (i := 553) (by decide +kernel), List.mem_of_getElem? (i := 707) (by decide +kernel), List.mem_of_getElem? (i := 708) (by decide +kernel)⟩
theorem lw_p17 : lw_okq (⟨"TrackKeeperModel", "find", "()V"⟩, 35) := ⟨⟨by decide +kernel, by decide +kernel⟩, List.mem_of_getElem? (i := 553) (by decide +kernel), List.mem_of_getElem? (i := 711) (by decide +kernel), List.mem_of_getElem? (i := 712) (by decide +kernel)⟩
theorem lw_p18 : lw_okq (⟨"TrackKeeperModel", "isLocated", "(I)Z"⟩, 35) := ⟨⟨by decide +kernel, by decide +kernel⟩, List.mem_of_getElem? (i := 553) (by decide +kernel), List.mem_of_getElem? (i := 715) (by decide +kernel), List.mem_of_getElem? (i := 716) (by decide +kernel)⟩
theorem lw_p19 : lw_okq (⟨"TrackKeeperModel", "subOf", "(I)I"⟩, 35) := ⟨⟨by decide +kernel, by decide +kernel⟩, List.mem_of_getElem? (i := 553) (by decide +kernel), List.mem_of_getElem? (i := 719) (by decide +kernel), List.mem_of_getElem? (i := 720) (by decide +kernel)⟩
theorem lw_p20 : lw_okq (⟨"TrackKeeperModel", "found", "(I)I"⟩, 35) := ⟨⟨by decide +kernel, by decide +kernel⟩, List.mem_of_getElem? (i := 553) (by decide +kernel), List.mem_of_getElem? (i := 723) (by decide +kernel), List.mem_of_getElem? (i := 724) (by decide +kernel)⟩
theorem lw_p21 : lw_okq (⟨"TrackKeeperModel", "isWhole", "(I)Z"⟩, 35) := ⟨⟨by decide +kernel, by decide +kernel⟩, List.mem_of_getElem? (i := 553) (by decide +kernel), List.mem_of_getElem? (i := 736) (by decide +kernel), List.mem_of_getElem? (i := 737) (by decide +kernel)⟩
theorem lw_p22 : lw_okq (⟨"TrackKeeperModel", "authority", "(I)V"⟩, 35) := ⟨⟨by decide +kernel, by decide +kernel⟩, List.mem_of_getElem? (i := 553) (by decide +kernel), List.mem_of_getElem? (i := 740) (by decide +kernel), List.mem_of_getElem? (i := 741) (by decide +kernel)⟩
theorem lw_p23 : lw_okq (⟨"TrackKeeperModel", "holds", "(I)Z"⟩, 35) := ⟨⟨by decide +kernel, by decide +kernel⟩, List.mem_of_getElem? (i := 553) (by decide +kernel), List.mem_of_getElem? (i := 744) (by decide +kernel), List.mem_of_getElem? (i := 745) (by decide +kernel)⟩
theorem lw_p24 : lw_okq (⟨"TrackKeeperModel", "isTaken", "(II)Z"⟩, 35) := ⟨⟨by decide +kernel, by decide +kernel⟩, List.mem_of_getElem? (i := 553) (by decide +kernel), List.mem_of_getElem? (i := 769) (by decide +kernel), List.mem_of_getElem? (i := 770) (by decide +kernel)⟩
def lw_privs_2 : List (MethodName × Nat) := [(⟨"TrackKeeperModel", "settle", "()V"⟩, 35), (⟨"TrackKeeperModel", "find", "()V"⟩, 35), (⟨"TrackKeeperModel", "isLocated", "(I)Z"⟩, 35), (⟨"TrackKeeperModel", "subOf", "(I)I"⟩, 35), (⟨"TrackKeeperModel", "found", "(I)I"⟩, 35), (⟨"TrackKeeperModel", "isWhole", "(I)Z"⟩, 35), (⟨"TrackKeeperModel", "authority", "(I)V"⟩, 35), (⟨"TrackKeeperModel", "holds", "(I)Z"⟩, 35), (⟨"TrackKeeperModel", "isTaken", "(II)Z"⟩, 35)]
theorem lw_r2 : ∀ q ∈ lw_privs_2, lw_okq q := List.forall_mem_cons.mpr ⟨lw_p16, List.forall_mem_cons.mpr ⟨lw_p17, List.forall_mem_cons.mpr ⟨lw_p18, List.forall_mem_cons.mpr ⟨lw_p19, List.forall_mem_cons.mpr ⟨lw_p20, List.forall_mem_cons.mpr ⟨lw_p21, List.forall_mem_cons.mpr ⟨lw_p22, List.forall_mem_cons.mpr ⟨lw_p23, List.forall_mem_cons.mpr ⟨lw_p24, fun _ h => absurd h List.not_mem_nil⟩⟩⟩⟩⟩⟩⟩⟩⟩
def lw_privs : List (MethodName × Nat) := lw_privs_1 ++ (lw_privs_2)
def lw_tbl : List Cond := k2_sels lw_privs ++ tables_1
theorem lw_privs_ok : ∀ q ∈ lw_privs, lw_okq q := by
  show ∀ q ∈ lw_privs_1 ++ (lw_privs_2), lw_okq q
  exact List.forall_mem_append.mpr ⟨lw_r1, lw_r2⟩
/-- the words that stay true through every call -/
def tk_tbl : List Cond := lw_tbl.filter goodWord
end
section
/-! ===== BEGIN words of one list among another's, by their places ===== -/
theorem goodIn_r {big : List Cond} (ws : List Cond) (ps : List Nat) (hp : ws = ps.filterMap (fun i => big[i]?)) (h : ws.all goodWord = true) : GoodIn big ws := by
  intro w hw
  have h1 := List.all_eq_true.mp h w hw
  rw [hp] at hw
  obtain ⟨i, -, hi⟩ := List.mem_filterMap.mp hw
  have hm : w ∈ big := by first | exact List.mem_of_getElem? hi | exact List.getElem?_mem hi
  exact ⟨hm, good_of_word h1⟩
theorem goodIn_app {big a b : List Cond} (ha : GoodIn big a) (hb : GoodIn big b) : GoodIn big (a ++ b) := fun w h => (List.mem_append.mp h).elim (ha w) (hb w)
theorem goodIn_ca {big a b : List Cond} {c : Cond} (ha : GoodIn big (c :: a)) (hb : GoodIn big b) : GoodIn big (c :: (a ++ b)) := fun w h => (List.mem_cons.mp h).elim (fun e => ha w (List.mem_cons.mpr (Or.inl e))) (fun h => (List.mem_append.mp h).elim (fun h => ha w (List.mem_cons.mpr (Or.inr h))) (hb w))
theorem goodIn_sub {big ws : List Cond} (hm : ∀ w ∈ ws, w ∈ big) (h : ws.all goodWord = true) : GoodIn big ws := fun w hw => ⟨hm w hw, good_of_word (List.all_eq_true.mp h w hw)⟩
/-! ===== END ===== -/

/-! ===== BEGIN exceptions that leave a method, and their catching by the caller (launches without stack traces) ===== -/
section VXA
/-! The laws vx_back, vx_callV, vx_callS, vx_callSW, vx_throw0, vx_throwS follow proofs of the library, with one case more: JvmDerived/Free/Laws.lean (Back.of_free), Shelf42/LK1.lean (callV, callS), Shelf/KitTraced.lean (throwNew0V, throwNewS). -/
/-- where a method has thrown q: the class by its name, the cell, what was written, the world -/
def vx_T (XC : String → State → State → Prop) (st : State) (q : Addr) (t : State) (mc ms : Nat) (free : Addr → Prop) : Prop :=
  ∃ (E : String) (ce : Cell) (L : List Loc), XC E st t ∧ t.heap[q]? = some ce ∧ ce.vm = .none ∧ st.vm.findClass E = some ce.cls ∧ st.WarmedH t.vm ∧ st.sameButNew ({ t with vm := st.vm } : State) L mc ms ∧ ∀ z ∈ L, free z.base
def vx_Q (Qc : Array Value → State → Outcome → State → Prop) (XC : String → State → State → Prop) (mc ms : Nat) (free : Addr → Prop) : Array Value → State → Outcome → State → Prop := fun a st o t =>
  (Qc a st o t ∧ ∃ L, FrameEnd st o t L mc ms ∧ ∀ q ∈ L, free q.base) ∨ ∃ q, o = .threw q ∧ vx_T XC st q t mc ms free
/-- a callee that returns or throws -/
def vx_Met (l : Launch) (y : MethodName) (ws : List Cond) (rm : Room) (Pc : Array Value → State → Prop) (Qc : Array Value → State → Outcome → State → Prop) (XC : String → State → State → Prop) (mc ms : Nat) (free : Addr → Prop) : Prop :=
  MetFree l y (headSpec ws rm) Pc (fun _ _ _ _ _ => True) (vx_Q Qc XC mc ms free)
def vx_Post (XC : String → State → State → Prop) (mc ms : Nat) (free : Addr → Prop) : Pt → Array Value → Addr → Pt → Prop := fun A a q B =>
  ∃ (g : JFrame) (mk : MethodId) (t : State) (L : List Loc) (E : String) (ce : Cell), B.U.heap = t.heap ∧ B.U.vm = t.vm ∧ XC E (A.U.calling g mk a) t ∧ t.heap[q]? = some ce ∧ ce.vm = .none ∧ A.U.vm.findClass E = some ce.cls ∧ B.locs = A.locs ++ L ∧ (∀ z ∈ L, free z.base) ∧ B.cells = A.cells + mc ∧ B.slots = A.slots + ms
def vx_Back (l : Launch) (R : Room) (p : Program) (e : Env) (below : List Frame) (s : State) (sargs : Array Value) (y : MethodName) (len W9 : Nat)
    (Pre : Pt → Array Value → Prop) (Post : Pt → Array Value → Option Value → Pt → Prop) (PostX : Pt → Array Value → Addr → Pt → Prop) : Prop :=
  ∀ (m : MethodId) (meth : Method) (c : Code) (A : Pt) (g : JFrame) (ig : Instr) (mk : MethodId) (a : Array Value),
    Stand p l e R s m sargs below meth c A.U A.locs A.cells A.slots → g.method = m → g.locals.size = c.maxLocals → decode c.code g.pc = .ok (ig, len) →
    2 * g.monitorRoom + (g.stack.map fun v => v.category).sum ≤ W9 → A.U.methodNamed? y = some mk → Pre A a →
    (∃ (v : Option Value) (B : Pt), Stand p l e R s m sargs below meth c B.U B.locs B.cells B.slots ∧ Post A a v B ∧
      Steps p.tables e below (doInvoke e (A.U.setTop g) [] mk a).1 (B.U.setTop { g with pc := g.pc + len, stack := v.toList ++ g.stack })) ∨
    (∃ (q : Addr) (B : Pt), Stand p l e R s m sargs below meth c B.U B.locs B.cells B.slots ∧ PostX A a q B ∧
      Steps p.tables e below (doInvoke e (A.U.setTop g) [] mk a).1 ((B.U.setTop g).pushFrame (.throwing q)))
section Payer
variable {l : Launch} {R : Room} {p : Program} {e : Env} {below : List Frame} {s : State} {sargs : Array Value} {y : MethodName} {len W9 : Nat}
theorem vx_back {ws : List Cond} {rm : Room} {Pc : Array Value → State → Prop} {Qc : Array Value → State → Outcome → State → Prop} {XC : String → State → State → Prop} {mc ms : Nat} {free : Addr → Prop} {bytes : ByteArray} {maxL : Nat} {ret : Option FieldType}
    (hM : vx_Met l y ws rm Pc Qc XC mc ms free) (hblind : FrameBlind Pc) (hrc : rm.cells = mc) (hrs : rm.slots = ms)
    (hframes : rm.frames + 1 ≤ R.frames) (hlocals : W9 + (maxL + 11) + rm.locals ≤ R.locals)
    (hws : ∀ w ∈ ws, ∀ a' U, s.WarmedH U.vm → w.before a' U = true) (hcode : Cond.code y bytes maxL ret ∈ ws) (hinit : ∀ a' U, s.WarmedH U.vm → (Cond.initialized y.cls).before a' U = true) :
    vx_Back l R p e below s sargs y len W9 (PreOf R mc ms Pc) (PostOf Qc mc ms free) (vx_Post XC mc ms free) := by
  intro m meth c A g ig mk a X hg hsize hdg hW hn hp
  have h1 : (headSpec ws rm).pre.before a A.U = true := atoms_intro fun w hw => hws w hw _ _ X.warmed
  have h2 : (Cond.code y bytes maxL ret).before a A.U = true := hws _ hcode _ _ X.warmed
  have h3 : (Cond.initialized y.cls).before a A.U = true := hinit _ _ X.warmed
  have h4 : A.cells + (headSpec ws rm).room.cells ≤ R.cells := by rw [show (headSpec ws rm).room.cells = mc from hrc]; exact hp.1
  have h5 : A.slots + (headSpec ws rm).room.slots ≤ R.slots := by rw [show (headSpec ws rm).room.slots = ms from hrs]; exact hp.2.1
  have hPc : Pc a (A.U.calling g mk a) := hblind _ _ _ _ hp.2.2
  obtain ⟨U, Ls, c0, s0⟩ := A
  dsimp only [Pt.U, Pt.locs, Pt.cells, Pt.slots] at h1 h2 h3 h4 h5 X hn hPc ⊢
  obtain ⟨methY, cY, hmY, hcY, -, hlY, -, -, -, -⟩ := Cond.code_spec hn h2
  obtain ⟨kY, hkY, -⟩ := className_of_methodNamed hn
  have hinitY : kY.init = .initialized := Cond.initialized_spec (findClass_of_methodNamed hn) hkY h3
  have h : At U g.method c below := by rw [hg]; exact X.here
  have hlocals9 : W9 + (maxL + 11) + (headSpec ws rm).room.locals ≤ R.locals := hlocals
  have happ : (headSpec ws rm).appliesLoose y e.platform (U.calling g mk a) = true :=
    Spec.appliesLoose_calling (g := g) h hdg hn hkY hinitY
      (X.room_calling (g := g) (R' := (headSpec ws rm).room) hsize hmY hcY hframes (by rw [hlY]; omega) h4 h5) h1
  obtain ⟨mid, hmid⟩ := h.above
  have hfr : (U.setTop g).frames = (.java g :: mid) ++ below := by rw [State.frames_setTop' g h.top, hmid]; rfl
  obtain ⟨o, s₂, hsteps, -, hend, hq⟩ := Steps.callFree hM p X.admits X.cas X.clock (acts := []) hfr happ hPc trivial
  have hq' : vx_Q Qc XC mc ms free a (U.calling g mk a) o s₂ := hq
  rw [State.frames_setTop' g h.top] at hend
  obtain ⟨g₀, hg0⟩ := Option.isSome_iff_exists.mp h.top
  obtain ⟨r, hr⟩ := State.topJava?_eq_some.mp hg0
  have hr' : (({ U with heap := s₂.heap, slotsUsed := s₂.slotsUsed } : State).setVm s₂.vm).frames = .java g₀ :: r := hr
  rcases hq' with ⟨hqc, L, hfe, hL⟩ | ⟨q, rfl, E, ce, L, hx, hce, hcv, hcl, hW₂, hsm, hL⟩
  · obtain ⟨⟨v, rfl⟩, hW₂, e2, q2, q3, q4, q5, q6⟩ := id hfe
    have e3 : s₂ = ({ (U.calling g mk a).setFrames s₂.frames with heap := s₂.heap, slotsUsed := s₂.slotsUsed } : State).setVm s₂.vm := by
      have : s₂ = ({ s₂ with vm := (U.calling g mk a).vm } : State).setVm s₂.vm := rfl
      rw [e2] at this
      exact this
    obtain ⟨c₂, i₂, len₂, hc₂, hd₂, hf₂⟩ := hend
    have hW' : U.WarmedH s₂.vm := hW₂
    have hcc : c₂ = c := by
      have h1 : s₂.code? g.method = U.code? g.method := by
        rw [State.code?_eq, State.code?_eq, hW'.alike.method?]
      exact Option.some.inj (hc₂.symm.trans (h1.trans h.code))
    subst hcc
    have hlen : len₂ = len := by rw [hdg] at hd₂; cases hd₂; rfl
    subst hlen
    have hs₂ : s₂ = (({ U with heap := s₂.heap, slotsUsed := s₂.slotsUsed } : State).setVm s₂.vm).setTop { g with pc := g.pc + len₂, stack := v.toList ++ g.stack } := by
      refine e3.trans ?_
      rw [hf₂, State.calling_eq h.top, State.setFrames_setFrames, State.setTop_of_frames _ hr', hr]
      rfl
    have hsame : U.sameButNew ({ U with heap := s₂.heap, slotsUsed := s₂.slotsUsed } : State) L mc ms := by
      refine ⟨?_, q2, q3, q4, q5, q6⟩
      obtain ⟨t, ht, -⟩ := State.frames_cons hr
      show ({ U with heap := s₂.heap, slotsUsed := s₂.slotsUsed } : State) = { U.setFrames U.frames with heap := s₂.heap, slotsUsed := s₂.slotsUsed }
      rw [State.setFrames_self ht]
    subst hg
    refine Or.inl ⟨v, ⟨(({ U with heap := s₂.heap, slotsUsed := s₂.slotsUsed } : State).setVm s₂.vm), Ls ++ L, c0 + mc, s0 + ms⟩,
      ⟨X.admits, X.cas, X.clock, X.frames, X.room, X.hears, X.method, X.code, (X.here.setHeapUsed s₂.heap s₂.slotsUsed).setVm hW'.alike, X.tail, State.WarmedH.trans X.warmed hW', X.limits, X.bytes, X.same.trans (hsame.setVm s.vm)⟩,
      ⟨g, mk, s₂, L, rfl, rfl, hqc, rfl, hL, rfl, rfl⟩, ?_⟩
    show Steps p.tables e below _ ((({ U with heap := s₂.heap, slotsUsed := s₂.slotsUsed } : State).setVm s₂.vm).setTop { g with pc := g.pc + len₂, stack := v.toList ++ g.stack })
    rw [← hs₂]
    exact hsteps
  · obtain ⟨e2, q2, q3, q4, q5, q6⟩ := id hsm
    have e3 : s₂ = ({ (U.calling g mk a).setFrames s₂.frames with heap := s₂.heap, slotsUsed := s₂.slotsUsed } : State).setVm s₂.vm := by
      have : s₂ = ({ s₂ with vm := (U.calling g mk a).vm } : State).setVm s₂.vm := rfl
      rw [e2] at this
      exact this
    have hf₂ : s₂.frames = .throwing q :: .java g :: U.frames.tail := hend
    have hW' : U.WarmedH s₂.vm := hW₂
    have hs₂ : s₂ = ((({ U with heap := s₂.heap, slotsUsed := s₂.slotsUsed } : State).setVm s₂.vm).setTop g).pushFrame (.throwing q) := by
      refine e3.trans ?_
      rw [hf₂, State.calling_eq h.top, State.setFrames_setFrames, State.pushFrame, State.frames_setTop _ hr', State.setTop_of_frames _ hr', State.setFrames_setFrames, hr]
      rfl
    have hsame : U.sameButNew ({ U with heap := s₂.heap, slotsUsed := s₂.slotsUsed } : State) L mc ms := by
      refine ⟨?_, q2, q3, q4, q5, q6⟩
      obtain ⟨t, ht, -⟩ := State.frames_cons hr
      show ({ U with heap := s₂.heap, slotsUsed := s₂.slotsUsed } : State) = { U.setFrames U.frames with heap := s₂.heap, slotsUsed := s₂.slotsUsed }
      rw [State.setFrames_self ht]
    subst hg
    refine Or.inr ⟨q, ⟨(({ U with heap := s₂.heap, slotsUsed := s₂.slotsUsed } : State).setVm s₂.vm), Ls ++ L, c0 + mc, s0 + ms⟩,
      ⟨X.admits, X.cas, X.clock, X.frames, X.room, X.hears, X.method, X.code, (X.here.setHeapUsed s₂.heap s₂.slotsUsed).setVm hW'.alike, X.tail, State.WarmedH.trans X.warmed hW', X.limits, X.bytes, X.same.trans (hsame.setVm s.vm)⟩,
      ⟨g, mk, s₂, L, E, ce, rfl, rfl, hx, hce, hcv, hcl, rfl, hL, rfl, rfl⟩, ?_⟩
    show Steps p.tables e below _ (((({ U with heap := s₂.heap, slotsUsed := s₂.slotsUsed } : State).setVm s₂.vm).setTop g).pushFrame (.throwing q))
    rw [← hs₂]
    exact hsteps
end Payer
section Calls
variable {p : Program} {l : Launch} {e : Env} {R : Room} {s : State} {m : MethodId} {args : Array Value} {below : List Frame} {meth : Method} {c : Code} {T : State} {locs : List Loc} {cells slots : Nat}
theorem vx_callV (X : Stand p l e R s m args below meth c T locs cells slots) (hexec : p.tables.exec = Jvm.exec) {own C : String} {index : Nat} {y : MethodName} {bytes : ByteArray} {maxL : Nat} {ret : Option FieldType}
    (hown : s.vm.findClass own = some m.cls) (hlink : (Cond.methodLink own index y).before args s = true) (hinst : (Cond.instanceMethod y).before args s = true) (hsel : (Cond.selects C y y).before args s = true)
    (hcode : (Cond.code y bytes maxL ret).before args s = true) (hy : y.cls ≠ "java/lang/invoke/MethodHandle" ∧ y.cls ≠ "java/lang/invoke/VarHandle")
    {W9 : Nat} {Pre : Pt → Array Value → Prop} {Post : Pt → Array Value → Option Value → Pt → Prop} {PostX : Pt → Array Value → Addr → Pt → Prop} (hK : vx_Back l R p e below s args y 3 W9 Pre Post PostX)
    {b : Addr} {cellB : Cell} (hcell : T.heap[b]? = some cellB) (hobj : cellB.vm.isStatics = false) (hcls : s.vm.findClass C = some cellB.cls)
    {g : JFrame} (hg : g.method = m) (hsize : g.locals.size = c.maxLocals) {argsL rest : List Value} (hlen : ∀ sig, parseMethodDescriptor y.desc = some sig → argsL.length = sig.parameters.length)
    (hstack : g.stack = argsL.reverse ++ .ref b :: rest) (hW : 2 * g.monitorRoom + (rest.map fun v => v.category).sum ≤ W9) (hdg : decode c.code g.pc = .ok (.invokevirtual index, 3))
    (hpre : ∀ vm₁, s.WarmedH vm₁ → Pre ⟨T.setVm vm₁, locs, cells, slots⟩ (Value.ref b :: argsL).toArray) :
    (∃ (v : Option Value) (vm₁ : Vm) (B : Pt), s.WarmedH vm₁ ∧ Stand p l e R s m args below meth c B.U B.locs B.cells B.slots ∧ Post ⟨T.setVm vm₁, locs, cells, slots⟩ (Value.ref b :: argsL).toArray v B ∧
      ∀ target, Steps p.tables e below (B.U.setTop { g with pc := g.pc + 3, stack := v.toList ++ rest }) target → Steps p.tables e below (T.setTop g) target) ∨
    (∃ (q : Addr) (vm₁ : Vm) (B : Pt), s.WarmedH vm₁ ∧ Stand p l e R s m args below meth c B.U B.locs B.cells B.slots ∧ PostX ⟨T.setVm vm₁, locs, cells, slots⟩ (Value.ref b :: argsL).toArray q B ∧
      Steps p.tables e below (T.setTop g) ((B.U.setTop { g with stack := rest }).pushFrame (.throwing q))) := by
  obtain ⟨mk, methM, hnamed, hmethM, hstM, habM⟩ := Cond.instanceMethod_spec hinst
  obtain ⟨methM', cM, hmethM', -, -, -, -, -, -, hsigM⟩ := Cond.code_spec hnamed hcode
  cases hmethM.symm.trans hmethM'
  obtain ⟨c2, r2, m2, q1, q2, q3, q4, kP, hkP, hkPi⟩ := Cond.selects_spec hsel
  cases hcls.symm.trans q1
  cases (State.methodFound?_of_named hnamed hy).symm.trans q2
  cases hnamed.symm.trans q3
  have hselP : selectMethod e.platform s.vm cellB.cls mk = .method mk := by rw [Launch.admits_selectMethod X.admits]; exact q4
  obtain ⟨vm₁, X₁, hstep₁⟩ := X.invokevirtual hexec hown hlink hnamed hmethM hstM hkP hkPi hy (a := b) (cell := cellB) hcell
    (fun z h => by rw [h] at hobj; cases hobj) hselP hmethM habM hkP hkPi (g := g) hg (argsL := argsL) (rest := rest) (hlen _ hsigM) hstack hdg
  rcases hK m meth c ⟨T.setVm vm₁, locs, cells, slots⟩ { g with stack := rest } (.invokevirtual index) mk (Value.ref b :: argsL).toArray X₁ hg hsize hdg hW (X₁.named hnamed) (hpre vm₁ X₁.warmed) with ⟨v, B, X', hpost, hsteps⟩ | ⟨q, B, X', hpost, hsteps⟩
  · exact Or.inl ⟨v, vm₁, B, X₁.warmed, X', hpost, fun target h => hstep₁ _ fun acts => by rw [doInvoke_state]; exact hsteps.trans h⟩
  · exact Or.inr ⟨q, vm₁, B, X₁.warmed, X', hpost, hstep₁ _ fun acts => by rw [doInvoke_state]; exact hsteps⟩
theorem vx_callS (X : Stand p l e R s m args below meth c T locs cells slots) (hexec : p.tables.exec = Jvm.exec) {own : String} {index : Nat} {y : MethodName} {bytes : ByteArray} {maxL : Nat} {ret : Option FieldType}
    (hown : s.vm.findClass own = some m.cls) (hlink : (Cond.methodLink own index y).before args s = true) (hstat : (Cond.static y).before args s = true) (hinit : (Cond.initialized y.cls).before args s = true)
    (hcode : (Cond.code y bytes maxL ret).before args s = true) (hy : y.cls ≠ "java/lang/invoke/MethodHandle" ∧ y.cls ≠ "java/lang/invoke/VarHandle")
    {W9 : Nat} {Pre : Pt → Array Value → Prop} {Post : Pt → Array Value → Option Value → Pt → Prop} {PostX : Pt → Array Value → Addr → Pt → Prop} (hK : vx_Back l R p e below s args y 3 W9 Pre Post PostX)
    {g : JFrame} (hg : g.method = m) (hsize : g.locals.size = c.maxLocals) {argsL rest : List Value} (hlen : ∀ sig, parseMethodDescriptor y.desc = some sig → argsL.length = sig.parameters.length)
    (hstack : g.stack = argsL.reverse ++ rest) (hW : 2 * g.monitorRoom + (rest.map fun v => v.category).sum ≤ W9) (hdg : decode c.code g.pc = .ok (.invokestatic index, 3))
    (hpre : ∀ vm₁, s.WarmedH vm₁ → Pre ⟨T.setVm vm₁, locs, cells, slots⟩ argsL.toArray) :
    (∃ (v : Option Value) (vm₁ : Vm) (B : Pt), s.WarmedH vm₁ ∧ Stand p l e R s m args below meth c B.U B.locs B.cells B.slots ∧ Post ⟨T.setVm vm₁, locs, cells, slots⟩ argsL.toArray v B ∧
      ∀ target, Steps p.tables e below (B.U.setTop { g with pc := g.pc + 3, stack := v.toList ++ rest }) target → Steps p.tables e below (T.setTop g) target) ∨
    (∃ (q : Addr) (vm₁ : Vm) (B : Pt), s.WarmedH vm₁ ∧ Stand p l e R s m args below meth c B.U B.locs B.cells B.slots ∧ PostX ⟨T.setVm vm₁, locs, cells, slots⟩ argsL.toArray q B ∧
      Steps p.tables e below (T.setTop g) ((B.U.setTop { g with stack := rest }).pushFrame (.throwing q))) := by
  obtain ⟨mk, hnamed⟩ := Cond.code_named hcode
  obtain ⟨methM, cM, hmethM, -, -, -, -, -, -, hsigM⟩ := Cond.code_spec hnamed hcode
  have hstatic : methM.isStatic = true := Cond.static_spec hnamed hmethM hstat
  obtain ⟨kP, hkP, -⟩ := className_of_methodNamed hnamed
  have hinitP : kP.init = .initialized := Cond.initialized_spec (findClass_of_methodNamed hnamed) hkP hinit
  obtain ⟨vm₁, X₁, hstep₁⟩ := X.invokestatic hexec hown hlink hnamed hmethM hstatic hkP hinitP hy (g := g) hg (argsL := argsL) (rest := rest) (hlen _ hsigM) hstack hdg
  rcases hK m meth c ⟨T.setVm vm₁, locs, cells, slots⟩ { g with stack := rest } (.invokestatic index) mk argsL.toArray X₁ hg hsize hdg hW (X₁.named hnamed) (hpre vm₁ X₁.warmed) with ⟨v, B, X', hpost, hsteps⟩ | ⟨q, B, X', hpost, hsteps⟩
  · exact Or.inl ⟨v, vm₁, B, X₁.warmed, X', hpost, fun target h => hstep₁ _ fun acts => by rw [doInvoke_state]; exact hsteps.trans h⟩
  · exact Or.inr ⟨q, vm₁, B, X₁.warmed, X', hpost, hstep₁ _ fun acts => by rw [doInvoke_state]; exact hsteps⟩
end Calls
theorem vx_cls {s : State} {T : State} {vm₁ : Vm} {E : String} {k : ClassId} (hW : s.WarmedH vm₁) (h : (T.setVm vm₁).vm.findClass E = some k) : s.vm.findClass E = some k := by
  have h1 : vm₁.findClass E = some k := h
  rw [hW.alike.findClass] at h1
  exact h1
/-- the method's frame g, with q thrown over it -/
def vx_W (p : Program) (l : Launch) (e : Env) (R : Room) (s : State) (m : MethodId) (args : Array Value) (below : List Frame) (meth : Method) (c : Code) (H : Heap) (locs : List Loc) (cells slots : Nat) (Q : State → Prop) (g : JFrame) (q : Addr) : Prop :=
  ∀ T : State, T.heap = H → Stand p l e R s m args below meth c T locs cells slots → ∃ t, Steps p.tables e below ((T.setTop g).pushFrame (.throwing q)) t ∧ Q t
def vx_Run (p : Program) (l : Launch) (e : Env) (R : Room) (s : State) (m : MethodId) (args : Array Value) (below : List Frame) (meth : Method) (c : Code) (H : Heap) (locs : List Loc) (cells slots mc ms : Nat) (g : JFrame) (rest : List Value) (Qa : State → Outcome → State → Prop) (XC : String → State → State → Prop) (free : Addr → Prop) : Prop :=
  ∀ T : State, T.heap = H → Stand p l e R s m args below meth c T locs cells slots →
    (∃ (v : Option Value) (st₀ t T' : State) (L : List Loc), st₀.heap = H ∧ Stand p l e R s m args below meth c T' (locs ++ L) (cells + mc) (slots + ms) ∧ (∀ q ∈ L, free q.base) ∧ T'.heap = t.heap ∧ T'.vm = t.vm ∧ Qa st₀ (.returned v) t ∧
      Goes p e below T g T' { g with pc := g.pc + 3, stack := v.toList ++ rest }) ∨
    (∃ (q : Addr) (st₀ t T' : State) (L : List Loc) (E : String) (ce : Cell), st₀.heap = H ∧ Stand p l e R s m args below meth c T' (locs ++ L) (cells + mc) (slots + ms) ∧ (∀ z ∈ L, free z.base) ∧ T'.heap = t.heap ∧ T'.vm = t.vm ∧ XC E st₀ t ∧ t.heap[q]? = some ce ∧ ce.vm = .none ∧ s.vm.findClass E = some ce.cls ∧
      Steps p.tables e below (T.setTop g) ((T'.setTop { g with stack := rest }).pushFrame (.throwing q)))
def vx_X {S : Type} (px : S → Prop) (B : String → S → State → Prop) (A : Nat → Prop) : String → State → State → Prop := fun E st t => ∃ u : S, px u ∧ B E u t ∧ va_F A st t
section Runs
variable {p : Program} {l : Launch} {e : Env} {R : Room} {s : State} {m : MethodId} {args : Array Value} {below : List Frame} {meth : Method} {c : Code} {H : Heap} {locs : List Loc} {cells slots : Nat}
variable {y : MethodName} {bytes cc : ByteArray} {maxL nL mc ms n index : Nat} {ret : Option FieldType} {ws : List Cond} {rm : Room} {Pc : Array Value → State → Prop} {Qc : Array Value → State → Outcome → State → Prop} {XC : String → State → State → Prop} {free : Addr → Prop} {Ts : List Cond} {own C : String} {b : Addr} {As rest : List Value} {g : JFrame}
theorem vx_callBack (cb : CallB R s args own index y bytes maxL ret ws rm mc ms n) (hM : vx_Met l y ws rm Pc Qc XC mc ms free) (hbl : FrameBlind Pc) : vx_Back l R p e below s args y 3 8 (PreOf R mc ms Pc) (PostOf Qc mc ms free) (vx_Post XC mc ms free) := by
  obtain ⟨hrc, hrs, hfr, hlo, hws, hcw, -, hini, -⟩ := cb
  exact vx_back (bytes := bytes) (maxL := maxL) (ret := ret) hM hbl hrc hrs hfr hlo hws hcw (fun a' U hW => word_at hW (Or.inl (by first | rfl | simp [Cond.onTables, Cond.keeps, Cond.steady])) hini)
theorem vx_runV (S : CallFix p m c cc nL s args Ts own) (hM : vx_Met l y ws rm Pc Qc XC mc ms free) (cw : CallW R s args own C index y bytes maxL ret ws rm mc ms n) (hp : PreV s H C b Pc As)
    (hg : g.method = m) (hn : As.length = n) (hsize : g.locals.size = nL) (hstack : g.stack = As.reverse ++ .ref b :: rest) (hW : 2 * g.monitorRoom + (rest.map fun v => v.category).sum ≤ 8) (hdg : decode cc g.pc = .ok (.invokevirtual index, 3)) (hf : cells + mc ≤ R.cells ∧ slots + ms ≤ R.slots) :
    vx_Run p l e R s m args below meth c H locs cells slots mc ms g rest (Qc (Value.ref b :: As).toArray) XC free := by
  have hK : vx_Back l R p e below s args y 3 8 (PreOf R mc ms Pc) (PostOf Qc mc ms free) (vx_Post XC mc ms free) := vx_callBack cw.1 hM hp.1
  obtain ⟨⟨-, -, -, -, -, -, hcode, -, hy, hlen, hl⟩, hin, hse⟩ := cw
  obtain ⟨hx, hb, hml, ho, -⟩ := S
  obtain ⟨-, ⟨cellB, hcB, hoB, hclB⟩, hPc⟩ := hp
  intro T hT X
  rcases vx_callV X hx (C := C) (bytes := bytes) (maxL := maxL) (ret := ret) ho hl hin hse hcode hy hK (by rw [hT]; exact hcB) hoB hclB hg (hsize.trans hml.symm) (argsL := As) (rest := rest) (fun sig h => hn.trans (hlen sig h)) hstack hW (by rw [hb]; exact hdg)
    (fun vm₁ hW₁ => ⟨hf.1, hf.2, hPc (T.setVm vm₁) hT hW₁⟩) with ⟨v, vm₁, ⟨U', l2, c2, s2⟩, hW₁, X', ⟨g', mk, t, L, e1, e2, hq, h1, hL, h2, h3⟩, st⟩ | ⟨q, vm₁, ⟨U', l2, c2, s2⟩, hW₁, X', ⟨g', mk, t, L, E, ce, e1, e2, hq, hce, hcv, hcl, h1, hL, h2, h3⟩, st⟩
  · dsimp only [Pt.U, Pt.locs, Pt.cells, Pt.slots] at X' e1 e2 h1 h2 h3 st
    subst h1; subst h2; subst h3
    exact Or.inl ⟨v, (T.setVm vm₁).calling g' mk (Value.ref b :: As).toArray, t, U', L, hT, X', hL, e1, e2, hq, st⟩
  · dsimp only [Pt.U, Pt.locs, Pt.cells, Pt.slots] at X' e1 e2 h1 h2 h3 st hcl
    subst h1; subst h2; subst h3
    exact Or.inr ⟨q, (T.setVm vm₁).calling g' mk (Value.ref b :: As).toArray, t, U', L, E, ce, hT, X', hL, e1, e2, hq, hce, hcv, vx_cls hW₁ hcl, st⟩
theorem vx_runS (S : CallFix p m c cc nL s args Ts own) (hM : vx_Met l y ws rm Pc Qc XC mc ms free) (cw : CallB R s args own index y bytes maxL ret ws rm mc ms n ∧ (Cond.static y).before args s = true) (hp : PreS s H Pc As)
    (hg : g.method = m) (hn : As.length = n) (hsize : g.locals.size = nL) (hstack : g.stack = As.reverse ++ rest) (hW : 2 * g.monitorRoom + (rest.map fun v => v.category).sum ≤ 8) (hdg : decode cc g.pc = .ok (.invokestatic index, 3)) (hf : cells + mc ≤ R.cells ∧ slots + ms ≤ R.slots) :
    vx_Run p l e R s m args below meth c H locs cells slots mc ms g rest (Qc As.toArray) XC free := by
  have hK : vx_Back l R p e below s args y 3 8 (PreOf R mc ms Pc) (PostOf Qc mc ms free) (vx_Post XC mc ms free) := vx_callBack cw.1 hM hp.1
  obtain ⟨⟨-, -, -, -, -, -, hcode, hini, hy, hlen, hl⟩, hstt⟩ := cw
  obtain ⟨hx, hb, hml, ho, -⟩ := S
  intro T hT X
  rcases vx_callS X hx (bytes := bytes) (maxL := maxL) (ret := ret) ho hl hstt hini hcode hy hK hg (hsize.trans hml.symm) (argsL := As) (rest := rest) (fun sig h => hn.trans (hlen sig h)) hstack hW (by rw [hb]; exact hdg)
    (fun vm₁ hW₁ => ⟨hf.1, hf.2, hp.2 (T.setVm vm₁) hT hW₁⟩) with ⟨v, vm₁, ⟨U', l2, c2, s2⟩, hW₁, X', ⟨g', mk, t, L, e1, e2, hq, h1, hL, h2, h3⟩, st⟩ | ⟨q, vm₁, ⟨U', l2, c2, s2⟩, hW₁, X', ⟨g', mk, t, L, E, ce, e1, e2, hq, hce, hcv, hcl, h1, hL, h2, h3⟩, st⟩
  · dsimp only [Pt.U, Pt.locs, Pt.cells, Pt.slots] at X' e1 e2 h1 h2 h3 st
    subst h1; subst h2; subst h3
    exact Or.inl ⟨v, (T.setVm vm₁).calling g' mk As.toArray, t, U', L, hT, X', hL, e1, e2, hq, st⟩
  · dsimp only [Pt.U, Pt.locs, Pt.cells, Pt.slots] at X' e1 e2 h1 h2 h3 st hcl
    subst h1; subst h2; subst h3
    exact Or.inr ⟨q, (T.setVm vm₁).calling g' mk As.toArray, t, U', L, E, ce, hT, X', hL, e1, e2, hq, hce, hcv, vx_cls hW₁ hcl, st⟩
end Runs
section Rows
variable {p : Program} {l : Launch} {e : Env} {R : Room} {s : State} {m : MethodId} {args : Array Value} {below : List Frame} {meth : Method} {c : Code} {H : Heap} {locs : List Loc} {cells slots : Nat} {Q : State → Prop}
variable {mc ms : Nat} {free : Addr → Prop} {A0 A1 : Nat → Prop} {H0 : Heap} {a : Array Value} {pc : Nat} {ls : Array Slot} {st0 rest : List Value}
theorem vx_keep {st₀ t T' : State} {L : List Loc} (h0 : st₀.heap = H) (e1 : T'.heap = t.heap) (hS : va_S A0 H0 H locs) (hA : ∀ q, q < H.size → A1 q → A0 q) (hf : ∀ q, free q → A0 q) (hL : ∀ q ∈ L, free q.base) (hF : va_F A1 st₀ t) :
    H.size ≤ T'.heap.size ∧ (∀ q : Nat, q < H.size → ¬ A1 q → T'.heap[q]? = H[q]?) ∧ va_S A0 H0 T'.heap (locs ++ L) := by
  obtain ⟨hz, hk⟩ := hF
  rw [h0] at hz hk
  exact ⟨by rw [e1]; exact hz, fun q h1 h2 => by rw [e1]; exact hk q h1 h2,
    ⟨Nat.le_trans hS.1 (by rw [e1]; exact hz), fun q h1 h2 => by rw [e1, hk q (Nat.lt_of_lt_of_le h1 hS.1) (fun z => h2 (hA q (Nat.lt_of_lt_of_le h1 hS.1) z))]; exact hS.2.1 q h1 h2, fun q hq => by
      rcases List.mem_append.mp hq with h | h
      · exact hS.2.2 q h
      · exact hf _ (hL q h)⟩⟩
theorem vx_calli {S SX : Type} {post : Int32 → S → Prop} {px : SX → Prop} {B : S → State → Prop} {BX : String → SX → State → Prop} {AX : Nat → Prop} (hr : vx_Run p l e R s m args below meth c H locs cells slots mc ms (F0 m pc ls st0) rest (va_Qi post B A1 a) (vx_X px BX AX) free) (hS : va_S A0 H0 H locs) (hA : ∀ q, q < H.size → A1 q → A0 q) (hf : ∀ q, free q → A0 q) (hAX : ∀ q, q < H.size → AX q → A0 q)
    (kx : ∀ (E : String) (ce : Cell) (q9 : Addr) (u : SX) (t : State) (H1 : Heap) (locs1 : List Loc), t.heap = H1 → s.vm.Alike t.vm → px u → BX E u t → H.size ≤ H1.size → (∀ q : Nat, q < H.size → ¬ AX q → H1[q]? = H[q]?) → va_S A0 H0 H1 locs1 → H1[q9]? = some ce → ce.vm = .none → s.vm.findClass E = some ce.cls → vx_W p l e R s m args below meth c H1 locs1 (cells + mc) (slots + ms) Q (F0 m pc ls rest) q9)
    (kk : ∀ (r : Int32) (u : S) (t : State) (H1 : Heap) (locs1 : List Loc), t.heap = H1 → s.vm.Alike t.vm → post r u → B u t → H.size ≤ H1.size → (∀ q : Nat, q < H.size → ¬ A1 q → H1[q]? = H[q]?) → va_S A0 H0 H1 locs1 → W p l e R s m args below meth c H1 locs1 (cells + mc) (slots + ms) Q (F0 m (pc + 3) ls (.int r :: rest))) : W p l e R s m args below meth c H locs cells slots Q (F0 m pc ls st0) := by
  intro T hT X
  rcases hr T hT X with ⟨v, st₀, t, T', L, h0, X', hL, e1, e2, ⟨⟨r, u, hv, hp, hb⟩, hF⟩, st⟩ | ⟨q, st₀, t, T', L, E, ce, h0, X', hL, e1, e2, ⟨u, hp, hb, hF⟩, hce, hcv, hcl, st⟩
  · cases hv
    obtain ⟨k1, k2, k3⟩ := vx_keep h0 e1 hS hA hf hL hF
    obtain ⟨t2, a1, b1⟩ := kk r u t T'.heap (locs ++ L) e1.symm (by rw [← e2]; exact X'.warmed.alike) hp hb k1 k2 k3 T' rfl X'
    exact ⟨t2, st t2 a1, b1⟩
  · obtain ⟨k1, k2, k3⟩ := vx_keep h0 e1 hS hAX hf hL hF
    obtain ⟨t2, a1, b1⟩ := kx E ce q u t T'.heap (locs ++ L) e1.symm (by rw [← e2]; exact X'.warmed.alike) hp hb k1 k2 k3 (by rw [e1]; exact hce) hcv hcl T' rfl X'
    exact ⟨t2, st.trans a1, b1⟩
theorem vx_calll {S SX : Type} {post : Int64 → S → Prop} {px : SX → Prop} {B : S → State → Prop} {BX : String → SX → State → Prop} {AX : Nat → Prop} (hr : vx_Run p l e R s m args below meth c H locs cells slots mc ms (F0 m pc ls st0) rest (va_Ql post B A1 a) (vx_X px BX AX) free) (hS : va_S A0 H0 H locs) (hA : ∀ q, q < H.size → A1 q → A0 q) (hf : ∀ q, free q → A0 q) (hAX : ∀ q, q < H.size → AX q → A0 q)
    (kx : ∀ (E : String) (ce : Cell) (q9 : Addr) (u : SX) (t : State) (H1 : Heap) (locs1 : List Loc), t.heap = H1 → s.vm.Alike t.vm → px u → BX E u t → H.size ≤ H1.size → (∀ q : Nat, q < H.size → ¬ AX q → H1[q]? = H[q]?) → va_S A0 H0 H1 locs1 → H1[q9]? = some ce → ce.vm = .none → s.vm.findClass E = some ce.cls → vx_W p l e R s m args below meth c H1 locs1 (cells + mc) (slots + ms) Q (F0 m pc ls rest) q9)
    (kk : ∀ (r : Int64) (u : S) (t : State) (H1 : Heap) (locs1 : List Loc), t.heap = H1 → s.vm.Alike t.vm → post r u → B u t → H.size ≤ H1.size → (∀ q : Nat, q < H.size → ¬ A1 q → H1[q]? = H[q]?) → va_S A0 H0 H1 locs1 → W p l e R s m args below meth c H1 locs1 (cells + mc) (slots + ms) Q (F0 m (pc + 3) ls (.long r :: rest))) : W p l e R s m args below meth c H locs cells slots Q (F0 m pc ls st0) := by
  intro T hT X
  rcases hr T hT X with ⟨v, st₀, t, T', L, h0, X', hL, e1, e2, ⟨⟨r, u, hv, hp, hb⟩, hF⟩, st⟩ | ⟨q, st₀, t, T', L, E, ce, h0, X', hL, e1, e2, ⟨u, hp, hb, hF⟩, hce, hcv, hcl, st⟩
  · cases hv
    obtain ⟨k1, k2, k3⟩ := vx_keep h0 e1 hS hA hf hL hF
    obtain ⟨t2, a1, b1⟩ := kk r u t T'.heap (locs ++ L) e1.symm (by rw [← e2]; exact X'.warmed.alike) hp hb k1 k2 k3 T' rfl X'
    exact ⟨t2, st t2 a1, b1⟩
  · obtain ⟨k1, k2, k3⟩ := vx_keep h0 e1 hS hAX hf hL hF
    obtain ⟨t2, a1, b1⟩ := kx E ce q u t T'.heap (locs ++ L) e1.symm (by rw [← e2]; exact X'.warmed.alike) hp hb k1 k2 k3 (by rw [e1]; exact hce) hcv hcl T' rfl X'
    exact ⟨t2, st.trans a1, b1⟩
theorem vx_callf {S SX : Type} {post : UInt32 → S → Prop} {px : SX → Prop} {B : S → State → Prop} {BX : String → SX → State → Prop} {AX : Nat → Prop} (hr : vx_Run p l e R s m args below meth c H locs cells slots mc ms (F0 m pc ls st0) rest (va_Qf post B A1 a) (vx_X px BX AX) free) (hS : va_S A0 H0 H locs) (hA : ∀ q, q < H.size → A1 q → A0 q) (hf : ∀ q, free q → A0 q) (hAX : ∀ q, q < H.size → AX q → A0 q)
    (kx : ∀ (E : String) (ce : Cell) (q9 : Addr) (u : SX) (t : State) (H1 : Heap) (locs1 : List Loc), t.heap = H1 → s.vm.Alike t.vm → px u → BX E u t → H.size ≤ H1.size → (∀ q : Nat, q < H.size → ¬ AX q → H1[q]? = H[q]?) → va_S A0 H0 H1 locs1 → H1[q9]? = some ce → ce.vm = .none → s.vm.findClass E = some ce.cls → vx_W p l e R s m args below meth c H1 locs1 (cells + mc) (slots + ms) Q (F0 m pc ls rest) q9)
    (kk : ∀ (r : UInt32) (u : S) (t : State) (H1 : Heap) (locs1 : List Loc), t.heap = H1 → s.vm.Alike t.vm → post r u → B u t → H.size ≤ H1.size → (∀ q : Nat, q < H.size → ¬ A1 q → H1[q]? = H[q]?) → va_S A0 H0 H1 locs1 → W p l e R s m args below meth c H1 locs1 (cells + mc) (slots + ms) Q (F0 m (pc + 3) ls (.float r :: rest))) : W p l e R s m args below meth c H locs cells slots Q (F0 m pc ls st0) := by
  intro T hT X
  rcases hr T hT X with ⟨v, st₀, t, T', L, h0, X', hL, e1, e2, ⟨⟨r, u, hv, hp, hb⟩, hF⟩, st⟩ | ⟨q, st₀, t, T', L, E, ce, h0, X', hL, e1, e2, ⟨u, hp, hb, hF⟩, hce, hcv, hcl, st⟩
  · cases hv
    obtain ⟨k1, k2, k3⟩ := vx_keep h0 e1 hS hA hf hL hF
    obtain ⟨t2, a1, b1⟩ := kk r u t T'.heap (locs ++ L) e1.symm (by rw [← e2]; exact X'.warmed.alike) hp hb k1 k2 k3 T' rfl X'
    exact ⟨t2, st t2 a1, b1⟩
  · obtain ⟨k1, k2, k3⟩ := vx_keep h0 e1 hS hAX hf hL hF
    obtain ⟨t2, a1, b1⟩ := kx E ce q u t T'.heap (locs ++ L) e1.symm (by rw [← e2]; exact X'.warmed.alike) hp hb k1 k2 k3 (by rw [e1]; exact hce) hcv hcl T' rfl X'
    exact ⟨t2, st.trans a1, b1⟩
theorem vx_calld {S SX : Type} {post : UInt64 → S → Prop} {px : SX → Prop} {B : S → State → Prop} {BX : String → SX → State → Prop} {AX : Nat → Prop} (hr : vx_Run p l e R s m args below meth c H locs cells slots mc ms (F0 m pc ls st0) rest (va_Qd post B A1 a) (vx_X px BX AX) free) (hS : va_S A0 H0 H locs) (hA : ∀ q, q < H.size → A1 q → A0 q) (hf : ∀ q, free q → A0 q) (hAX : ∀ q, q < H.size → AX q → A0 q)
    (kx : ∀ (E : String) (ce : Cell) (q9 : Addr) (u : SX) (t : State) (H1 : Heap) (locs1 : List Loc), t.heap = H1 → s.vm.Alike t.vm → px u → BX E u t → H.size ≤ H1.size → (∀ q : Nat, q < H.size → ¬ AX q → H1[q]? = H[q]?) → va_S A0 H0 H1 locs1 → H1[q9]? = some ce → ce.vm = .none → s.vm.findClass E = some ce.cls → vx_W p l e R s m args below meth c H1 locs1 (cells + mc) (slots + ms) Q (F0 m pc ls rest) q9)
    (kk : ∀ (r : UInt64) (u : S) (t : State) (H1 : Heap) (locs1 : List Loc), t.heap = H1 → s.vm.Alike t.vm → post r u → B u t → H.size ≤ H1.size → (∀ q : Nat, q < H.size → ¬ A1 q → H1[q]? = H[q]?) → va_S A0 H0 H1 locs1 → W p l e R s m args below meth c H1 locs1 (cells + mc) (slots + ms) Q (F0 m (pc + 3) ls (.double r :: rest))) : W p l e R s m args below meth c H locs cells slots Q (F0 m pc ls st0) := by
  intro T hT X
  rcases hr T hT X with ⟨v, st₀, t, T', L, h0, X', hL, e1, e2, ⟨⟨r, u, hv, hp, hb⟩, hF⟩, st⟩ | ⟨q, st₀, t, T', L, E, ce, h0, X', hL, e1, e2, ⟨u, hp, hb, hF⟩, hce, hcv, hcl, st⟩
  · cases hv
    obtain ⟨k1, k2, k3⟩ := vx_keep h0 e1 hS hA hf hL hF
    obtain ⟨t2, a1, b1⟩ := kk r u t T'.heap (locs ++ L) e1.symm (by rw [← e2]; exact X'.warmed.alike) hp hb k1 k2 k3 T' rfl X'
    exact ⟨t2, st t2 a1, b1⟩
  · obtain ⟨k1, k2, k3⟩ := vx_keep h0 e1 hS hAX hf hL hF
    obtain ⟨t2, a1, b1⟩ := kx E ce q u t T'.heap (locs ++ L) e1.symm (by rw [← e2]; exact X'.warmed.alike) hp hb k1 k2 k3 (by rw [e1]; exact hce) hcv hcl T' rfl X'
    exact ⟨t2, st.trans a1, b1⟩
theorem vx_callv {S SX : Type} {post : S → Prop} {px : SX → Prop} {B : S → State → Prop} {BX : String → SX → State → Prop} {AX : Nat → Prop} (hr : vx_Run p l e R s m args below meth c H locs cells slots mc ms (F0 m pc ls st0) rest (va_Qv post B A1 a) (vx_X px BX AX) free) (hS : va_S A0 H0 H locs) (hA : ∀ q, q < H.size → A1 q → A0 q) (hf : ∀ q, free q → A0 q) (hAX : ∀ q, q < H.size → AX q → A0 q)
    (kx : ∀ (E : String) (ce : Cell) (q9 : Addr) (u : SX) (t : State) (H1 : Heap) (locs1 : List Loc), t.heap = H1 → s.vm.Alike t.vm → px u → BX E u t → H.size ≤ H1.size → (∀ q : Nat, q < H.size → ¬ AX q → H1[q]? = H[q]?) → va_S A0 H0 H1 locs1 → H1[q9]? = some ce → ce.vm = .none → s.vm.findClass E = some ce.cls → vx_W p l e R s m args below meth c H1 locs1 (cells + mc) (slots + ms) Q (F0 m pc ls rest) q9)
    (kk : ∀ (u : S) (t : State) (H1 : Heap) (locs1 : List Loc), t.heap = H1 → s.vm.Alike t.vm → post u → B u t → H.size ≤ H1.size → (∀ q : Nat, q < H.size → ¬ A1 q → H1[q]? = H[q]?) → va_S A0 H0 H1 locs1 → W p l e R s m args below meth c H1 locs1 (cells + mc) (slots + ms) Q (F0 m (pc + 3) ls (rest))) : W p l e R s m args below meth c H locs cells slots Q (F0 m pc ls st0) := by
  intro T hT X
  rcases hr T hT X with ⟨v, st₀, t, T', L, h0, X', hL, e1, e2, ⟨⟨u, hv, hp, hb⟩, hF⟩, st⟩ | ⟨q, st₀, t, T', L, E, ce, h0, X', hL, e1, e2, ⟨u, hp, hb, hF⟩, hce, hcv, hcl, st⟩
  · cases hv
    obtain ⟨k1, k2, k3⟩ := vx_keep h0 e1 hS hA hf hL hF
    obtain ⟨t2, a1, b1⟩ := kk u t T'.heap (locs ++ L) e1.symm (by rw [← e2]; exact X'.warmed.alike) hp hb k1 k2 k3 T' rfl X'
    exact ⟨t2, st t2 a1, b1⟩
  · obtain ⟨k1, k2, k3⟩ := vx_keep h0 e1 hS hAX hf hL hF
    obtain ⟨t2, a1, b1⟩ := kx E ce q u t T'.heap (locs ++ L) e1.symm (by rw [← e2]; exact X'.warmed.alike) hp hb k1 k2 k3 (by rw [e1]; exact hce) hcv hcl T' rfl X'
    exact ⟨t2, st.trans a1, b1⟩
/-- caught by the row x of this method's table; the rows ahead don't take it -/
theorem vx_catch {own name : String} {E : String} {ce : Cell} {q : Addr} (hown : s.vm.findClass own = some m.cls) (pre : List ExceptionTableEntry) (x : ExceptionTableEntry) (suf : List ExceptionTableEntry) (hsplit : c.exceptionTable.toList = pre ++ x :: suf)
    (hpass : ∀ z ∈ pre, covers z pc = false ∨ (z.catchType ≠ 0 ∧ ∃ nm : String, (Cond.classLink own z.catchType nm).before args s = true ∧ va_Nc E nm s)) (hx : covers x pc = true) (h0 : x.catchType ≠ 0)
    (hlink : (Cond.classLink own x.catchType name).before args s = true) (hcast : (Cond.castable E name).before args s = true) (hcell : H[q]? = some ce) (hv : ce.vm = .none) (hcl : s.vm.findClass E = some ce.cls)
    (kk : W p l e R s m args below meth c H locs cells slots Q (F0 m x.handlerPc ls [.ref q])) : vx_W p l e R s m args below meth c H locs cells slots Q (F0 m pc ls rest) q := by
  intro T hT X
  have hpl : e.platform.magicAccessors = ({} : Platform).magicAccessors := by rw [X.admits.platform]
  obtain ⟨c3, c4, hc3, hc4, hasg⟩ := Cond.castable_spec hcast
  cases Option.some.inj (hc3.symm.trans hcl)
  obtain ⟨c5, hc5, hcl5⟩ := Cond.classLink_spec hown hlink e.platform hpl
  cases Option.some.inj (hc4.symm.trans hc5)
  obtain ⟨vm', X', st⟩ := X.thenCaughtThrough q (g := F0 m pc ls rest) rfl (Steps.refl _) (by rw [hT]; exact hcell) (by rw [hv]; rfl) (by obtain ⟨k9, h9, -⟩ := Vm.findClass_spec hcl; exact ⟨k9, h9⟩) pre x suf hsplit
    (fun z hz => by
      rcases hpass z hz with h | ⟨hz0, nm, hl1, hn1⟩
      · exact Or.inl h
      · obtain ⟨c6, hc6, hcl6⟩ := Cond.classLink_spec hown hl1 e.platform hpl
        obtain ⟨a8, b8, h1, h2, h3⟩ := hn1
        cases Option.some.inj (h1.symm.trans hcl)
        cases Option.some.inj (h2.symm.trans hc6)
        exact Or.inr ⟨hz0, _, hcl6, h3⟩) hx (Or.inr ⟨h0, c4, hcl5, hasg⟩)
  obtain ⟨t, a1, b1⟩ := kk (T.setVm vm') hT X'
  exact ⟨t, st.trans a1, b1⟩
end Rows
section Ends
variable {p : Program} {l : Launch} {e : Env} {R : Room} {s : State} {m : MethodId} {args : Array Value} {below : List Frame} {meth : Method} {c : Code} {H : Heap} {locs : List Loc} {cells slots : Nat} {Q : State → Prop}
variable {mc ms : Nat} {free : Addr → Prop} {A0 A1 : Nat → Prop} {H0 : Heap} {a : Array Value} {ls : Array Slot} {st0 rest : List Value}
variable {Qc : Array Value → State → Outcome → State → Prop} {XC : String → State → State → Prop}
/-- what a body that may throw owes at its end -/
def vx_MQ (below : List Frame) (Qc : Array Value → State → Outcome → State → Prop) (XC : String → State → State → Prop) (a : Array Value) (s : State) (mc ms : Nat) (free : Addr → Prop) : State → Prop := fun t =>
  ∃ o, t.status = .running ∧ Ended t below o ∧ vx_Q Qc XC mc ms free a s o t
theorem vx_ret {g : JFrame} {mc ms : Nat} (k : W p l e R s m args below meth c H locs cells slots (MQ below Qc args s mc ms free) g) : W p l e R s m args below meth c H locs cells slots (vx_MQ below Qc XC args s mc ms free) g := by
  intro T hT X
  obtain ⟨t, a1, o, b1, b2, b3, b4⟩ := k T hT X
  exact ⟨t, a1, o, b1, b2, Or.inl ⟨b3, b4⟩⟩
/-- not caught here: it goes on to the caller -/
theorem vx_widen {g : JFrame} {q : Addr} {k n : Nat} (h1 : cells ≤ k) (h2 : slots ≤ n) (kk : vx_W p l e R s m args below meth c H locs k n Q g q) : vx_W p l e R s m args below meth c H locs cells slots Q g q := fun T hT X => kk T hT (stand_widen X h1 h2)
theorem vx_out {pc : Nat} {E : String} {ce : Cell} {q : Addr} {mc ms : Nat} (hout : ∀ x ∈ c.exceptionTable.toList, covers x pc = false) (hlocks : meth.locks = false) (hcell : H[q]? = some ce) (hv : ce.vm = .none) (hcl : s.vm.findClass E = some ce.cls)
    (hx : ∀ t : State, t.heap = H → s.vm.Alike t.vm → XC E s t) (hf : ∀ z ∈ locs, free z.base) (hc : cells ≤ mc) (hs : slots ≤ ms) :
    vx_W p l e R s m args below meth c H locs cells slots (vx_MQ below Qc XC args s mc ms free) (F0 m pc ls rest) q := by
  intro T hT X
  obtain ⟨st1, hrun, hend, hW, hsm⟩ := X.leaveThrown q (g := F0 m pc ls rest) rfl rfl rfl hout hlocks
  have hcell9 : (T.setFrames (.throwing q :: below)).heap[q]? = some ce := by
    show T.heap[q]? = some ce
    rw [hT]; exact hcell
  exact ⟨_, st1, .threw q, hrun, hend, Or.inr ⟨q, rfl, E, ce, locs, hx _ hT hW.alike, hcell9, hv, hcl, hW, hsm.mono hc hs, hf⟩⟩
theorem vx_frame {U : State} {k n : Nat} (h : s.sameButNew ({ U with vm := s.vm } : State) locs k n) : s.heap.size ≤ U.heap.size ∧ ∀ q : Nat, q < s.heap.size → (∀ z ∈ locs, z.base ≠ q) → U.heap[q]? = s.heap[q]? := by
  obtain ⟨-, h2, -, -, -, h6⟩ := h
  refine ⟨h2, fun q hq hz => ?_⟩
  obtain ⟨c9, e1, e2, e3, e4⟩ := h6 q _ (Array.getElem?_eq_getElem hq)
  have hs : c9.slots = (s.heap[q]).slots := Array.ext_getElem? fun i => e4 i fun hm => hz _ hm rfl
  have h9 : c9 = s.heap[q] := by
    rw [hs] at e2
    exact e2
  have e5 : U.heap[q]? = some c9 := e1
  rw [e5, h9, Array.getElem?_eq_getElem hq]
/-- the words of a throw but the four that speak of the heap -/
def vx_no (w : Cond) : Bool := decide (w ≠ .isRef (.static Bundle.tN "UNASSIGNED_STACK" Bundle.steD)) && decide (w ≠ .isRef (.static Bundle.tN "SUPPRESSED_SENTINEL" Bundle.listD)) && decide (w ≠ .laysStatic Bundle.tN "UNASSIGNED_STACK" Bundle.steD) && decide (w ≠ .laysStatic Bundle.tN "SUPPRESSED_SENTINEL" Bundle.listD)
def vx_at0 (own : String) (ic : Nat) (X : String) (names : List String) : List Cond := (Bundle.ownAtoms0 own ic X names).filter vx_no
def vx_atS (own : String) (ic : Nat) (X : String) (names : List String) : List Cond := (Bundle.ownAtoms own ic X names).filter vx_no
/-- a word that the tables alone decide, or a good one -/
def vx_ot (w : Cond) : Bool := w.onTables || goodWord w
theorem vx_ot_at {args a' : Array Value} {s U : State} {w : Cond} (hW : s.WarmedH U.vm) (hvm : s.vm = U.vm) (hg : vx_ot w = true) (h : w.before args s = true) : w.before a' U = true := by
  simp only [vx_ot, Bool.or_eq_true] at hg
  rcases hg with hg | hg
  · exact va_tabs hg hvm h
  · exact word_at hW (good_of_word hg) h
/-- a list's words: the good ones out of the method's own list, the others by premises of their own -/
theorem vx_hat {args : Array Value} {s : State} {L B : List Cond} (h1 : ∀ w ∈ L.filter goodWord, w.before args s = true) (h2 : ∀ w ∈ L.filter (fun w => !goodWord w), w ∈ B) (h3 : ∀ w ∈ B, w.before args s = true) : ∀ w ∈ L, w.before args s = true := by
  intro w hw
  by_cases g : goodWord w = true
  · exact h1 w (List.mem_filter.mpr ⟨hw, g⟩)
  · refine h3 w (h2 w (List.mem_filter.mpr ⟨hw, ?_⟩))
    show (!goodWord w) = true
    cases hgw : goodWord w
    · rfl
    · exact absurd hgw g
theorem vx_c {args : Array Value} {s : State} {w : Cond} {B : List Cond} (h : w.before args s = true) (t : ∀ w ∈ B, w.before args s = true) : ∀ w' ∈ w :: B, w'.before args s = true := fun w' h' => (List.mem_cons.mp h').elim (fun e => by rw [e]; exact h) (t w')
theorem vx_n {args : Array Value} {s : State} : ∀ w ∈ ([] : List Cond), w.before args s = true := fun _ h => nomatch h
theorem vx_own {args : Array Value} {s : State} {L : List Cond} (h1 : ∀ w ∈ L.filter vx_no, w.before args s = true)
    (hU : (Cond.isRef (.static Bundle.tN "UNASSIGNED_STACK" Bundle.steD)).before args s = true) (hN : (Cond.isRef (.static Bundle.tN "SUPPRESSED_SENTINEL" Bundle.listD)).before args s = true)
    (lU : (Cond.laysStatic Bundle.tN "UNASSIGNED_STACK" Bundle.steD).before args s = true) (lN : (Cond.laysStatic Bundle.tN "SUPPRESSED_SENTINEL" Bundle.listD).before args s = true) : ∀ w ∈ L, w.before args s = true := by
  intro w hw
  by_cases e1 : w = .isRef (.static Bundle.tN "UNASSIGNED_STACK" Bundle.steD)
  · rw [e1]; exact hU
  · by_cases e2 : w = .isRef (.static Bundle.tN "SUPPRESSED_SENTINEL" Bundle.listD)
    · rw [e2]; exact hN
    · by_cases e3 : w = .laysStatic Bundle.tN "UNASSIGNED_STACK" Bundle.steD
      · rw [e3]; exact lU
      · by_cases e4 : w = .laysStatic Bundle.tN "SUPPRESSED_SENTINEL" Bundle.listD
        · rw [e4]; exact lN
        · exact h1 w (List.mem_filter.mpr ⟨hw, by unfold vx_no; rw [decide_eq_true e1, decide_eq_true e2, decide_eq_true e3, decide_eq_true e4]; rfl⟩)
/-- where a static field lies, its class's statics cell in H -/
def vx_L (C n d : String) (A : Nat → Prop) (U : State) (H : Heap) : Prop := ∃ (c : ClassId) (k : Class) (i : Nat) (f : Field) (a : Nat) (cell : Cell), U.vm.findClass C = some c ∧ U.fieldFound? C n d = some (c, k, i, f) ∧ f.isStatic = true ∧ k.statics = some a ∧ H[a]? = some cell ∧ cell.vm.isStatics = true ∧ cell.cls = c ∧ f.slot < cell.slots.size ∧ k.staticTypes[f.slot]? = some f.type ∧ ¬ A a
theorem vx_L.moved {C n d : String} {A : Nat → Prop} {u U : State} {H : Heap} (hvm : u.vm.Alike U.vm) (h : vx_L C n d A u H) : vx_L C n d A U H := by
  obtain ⟨c, k, i, f, a, cell, h1, h2, h3, h4, h5, h6, h7, h8, h9, h10⟩ := h
  obtain ⟨k', hi', he⟩ := State.fieldFound?_setVm hvm h2
  exact ⟨c, k', i, f, a, cell, by rw [hvm.findClass]; exact h1, hi', h3, by rw [he]; exact h4, h5, h6, h7, h8, by rw [he]; exact h9, h10⟩
theorem vx_L.kept {C n d : String} {A : Nat → Prop} {U : State} {H H1 : Heap} (h : vx_L C n d A U H) (hq : ∀ a : Nat, a < H.size → ¬ A a → H1[a]? = H[a]?) : vx_L C n d A U H1 := by
  obtain ⟨c, k, i, f, a, cell, h1, h2, h3, h4, h5, h6, h7, h8, h9, h10⟩ := h
  exact ⟨c, k, i, f, a, cell, h1, h2, h3, h4, by rw [hq a (Array.getElem?_eq_some_iff.mp h5).1 h10]; exact h5, h6, h7, h8, h9, h10⟩
theorem vx_L.narrow {C n d : String} {A B : Nat → Prop} {U : State} {H : Heap} (h : vx_L C n d A U H) (hAB : ∀ q, B q → A q) : vx_L C n d B U H := by
  obtain ⟨c, k, i, f, a, cell, h1, h2, h3, h4, h5, h6, h7, h8, h9, h10⟩ := h
  exact ⟨c, k, i, f, a, cell, h1, h2, h3, h4, h5, h6, h7, h8, h9, fun z => h10 (hAB _ z)⟩
theorem vx_L.word {C n d : String} {A : Nat → Prop} {s : State} {args : Array Value} (h : vx_L C n d A s s.heap) : (Cond.laysStatic C n d).before args s = true := by
  obtain ⟨c, k, i, f, a, cell, h1, h2, h3, h4, h5, h6, h7, h8, h9, -⟩ := h
  show (Cond.laysStatic C n d).holds args s none s [] = true
  exact Cond.laysStatic_of h1 h2 h3 h4 h5 h6 h7 h8 h9
/-- .. and what it holds: null or some reference -/
def vx_Zq (C n d : String) (A : Nat → Prop) (U : State) (H : Heap) : Prop := va_Zq C n d A U H ∧ vx_L C n d A U H
theorem vx_Zq.moved {C n d : String} {A : Nat → Prop} {u U : State} {H : Heap} (hvm : u.vm.Alike U.vm) (h : vx_Zq C n d A u H) : vx_Zq C n d A U H := ⟨va_Zq.moved hvm h.1, vx_L.moved hvm h.2⟩
theorem vx_Zq.kept {C n d : String} {A : Nat → Prop} {U : State} {H H1 : Heap} (h : vx_Zq C n d A U H) (hq : ∀ a : Nat, a < H.size → ¬ A a → H1[a]? = H[a]?) : vx_Zq C n d A U H1 := ⟨va_Zq.kept h.1 hq, vx_L.kept h.2 hq⟩
theorem vx_Zq.narrow {C n d : String} {A B : Nat → Prop} {U : State} {H : Heap} (h : vx_Zq C n d A U H) (hAB : ∀ q, B q → A q) : vx_Zq C n d B U H := ⟨va_Zq.narrow h.1 hAB, vx_L.narrow h.2 hAB⟩
theorem vx_Zqof {args : Array Value} {s : State} {C n d : String} {A : Nat → Prop} (hl : (Cond.laysStatic C n d).before args s = true) (hini : (Cond.initialized C).before args s = true) (h : (Cond.isRef (.static C n d)).before args s = true) (hA : ∀ a : Nat, a < s.heap.size → ¬ A a) : vx_Zq C n d A s s.heap := by
  refine ⟨va_Zqof hl hini h hA, ?_⟩
  obtain ⟨c, k, i, f, a, cell, h1, h2, h3, h4, h5, h6, h7, h8, h9⟩ := Cond.laysStatic_spec hl
  exact ⟨c, k, i, f, a, cell, h1, h2, h3, h4, h5, h6, h7, h8, h9, hA a (Array.getElem?_eq_some_iff.mp h5).1⟩
theorem vx_isRef {C n d : String} {v : Value} {A : Nat → Prop} {s : State} {args : Array Value} (h : va_Z C n d v A s s.heap) (hv : v.isRef = true) : (Cond.isRef (.static C n d)).before args s = true := by
  obtain ⟨cf, kf, fi, f, a, cell, h1, h2, h3, h4, h5, h6, h7, -⟩ := h
  have he : (Term.static C n d).eval args s none [] s = some v := by
    simp [Term.eval, State.fieldNamed?, h1, h2, h4, h5, h6, h7]
  simp only [Cond.before, Cond.holds, Cond.value, he]
  cases v <;> simp_all [Value.isRef]
theorem vx_isRefq {C n d : String} {A : Nat → Prop} {s : State} {args : Array Value} (h : va_Zq C n d A s s.heap) : (Cond.isRef (.static C n d)).before args s = true := by
  rcases h with h | ⟨t, h⟩
  · exact vx_isRef h rfl
  · exact vx_isRef h rfl
/-- the same frame, seen from here: as if the method were called anew in this heap -/
theorem vx_rebase {T : State} (X : Stand p l e R s m args below meth c T locs cells slots) {R' : Room} (hf : R'.frames ≤ R.frames) (hl : R'.locals ≤ R.locals) (hc : cells + R'.cells ≤ R.cells) (hs : slots + R'.slots ≤ R.slots) :
    Stand p l e R' ((T.setVm s.vm).setFrames (.invoking m args :: below)) m args below meth c T [] 0 0 := by
  have htop : (T.setVm s.vm).topJava?.isSome := X.here.top
  have hF : ((T.setVm s.vm).setFrames (.invoking m args :: below)).frames = .invoking m args :: below := State.frames_setFrames _ (State.cur_lt_of_top htop)
  obtain ⟨g₀, hg0⟩ := Option.isSome_iff_exists.mp htop
  obtain ⟨r, hr⟩ := State.topJava?_eq_some.mp hg0
  have hl9 : e.platform.stackLimits (T.setVm s.vm).me = e.platform.stackLimits s.me := X.limits
  have hb9 : (T.setVm s.vm).me.stackBytes = s.me.stackBytes := X.bytes
  refine ⟨X.admits, X.cas, X.clock, hF, ?_, X.hears, X.method, X.code, X.here, X.tail, X.warmed, ?_, ?_, ?_⟩
  · have h := X.room
    have hU : ((T.setVm s.vm).setFrames (.invoking m args :: below)).localsInUse = s.localsInUse := by
      rw [State.localsInUse_invoking hF (meth := meth) (c := c) X.method X.code, State.localsInUse_invoking X.frames X.method X.code]
    simp only [State.hasRoom, Bool.and_eq_true, decide_eq_true_eq] at h ⊢
    obtain ⟨⟨⟨⟨h1, h2, h3, h4, h5, h6⟩, h7⟩, h8⟩, h9⟩ := h
    rw [X.frames, List.length_cons] at h2 h3
    have q1 := X.heapSize
    have q2 := X.used
    simp only [hF, hU, List.length_cons, State.stackLimits_setFrames, State.stackBytes_setFrames, hl9, hb9]
    refine ⟨⟨⟨⟨by omega, by omega, by omega, by omega, by omega, h6⟩, ?_⟩, ?_⟩, X.book⟩
    · show T.heap.size + R'.cells ≤ e.platform.maxCells
      omega
    · show T.slotsUsed + R'.slots ≤ e.platform.maxSlots
      omega
  · rw [State.stackLimits_setFrames]; rfl
  · rw [State.stackBytes_setFrames]; rfl
  · refine ⟨?_, Nat.le_refl _, Nat.le_refl _, ?_, ?_, fun a c9 h9 => ⟨c9, h9, rfl, rfl, fun _ _ => rfl⟩⟩
    · obtain ⟨t, ht, -⟩ := State.frames_cons hr
      show T.setVm s.vm = { ((T.setVm s.vm).setFrames (.invoking m args :: below)).setFrames (T.setVm s.vm).frames with heap := T.heap, slotsUsed := T.slotsUsed }
      rw [State.setFrames_setFrames, State.setFrames_self ht]
      rfl
    · show T.slotsUsed = T.slotsUsed + ((T.heap.toList.drop T.heap.size).map (·.slots.size)).sum
      rw [List.drop_eq_nil_of_le (Nat.le_of_eq Array.length_toList)]
      rfl
    · show ((T.heap.toList.drop T.heap.size).map (·.slots.size)).sum ≤ 0
      rw [List.drop_eq_nil_of_le (Nat.le_of_eq Array.length_toList)]
      exact Nat.le_refl _
/-- 'throw new E()': new; dup; invokespecial; athrow -/
theorem vx_throw0 {cc : ByteArray} {pc : Nat} (hexec : p.tables.exec = Jvm.exec) (hb : c.code = cc) (hl : l.stackTraces = false) {own cls : String} {names : List String} {ik ic mc ms : Nat} {A : Nat → Prop}
    (hown : s.vm.findClass own = some m.cls) (hcls : Bundle.fit cls = true) (hnames : ∀ n ∈ names, Bundle.fit n = true)
    (hk : (Cond.classLink own ik cls).before args s = true) (hini : (Cond.initialized cls).before args s = true) (hat : ∀ w ∈ vx_at0 own ic cls names, w.before args s = true)
    (hgood : ∀ w ∈ Cond.classLink own ik cls :: Cond.initialized cls :: vx_at0 own ic cls names, vx_ot w = true)
    (hU : vx_Zq Bundle.tN "UNASSIGNED_STACK" Bundle.steD A s s.heap) (hN : vx_Zq Bundle.tN "SUPPRESSED_SENTINEL" Bundle.listD A s s.heap) (hS : va_S A s.heap H locs) (hsize : ls.size = c.maxLocals)
    (d0 : decode cc pc = .ok (.new ik, 3)) (d3 : decode cc (pc + 3) = .ok (.dup, 1)) (d4 : decode cc (pc + 4) = .ok (.invokespecial ic, 3)) (d7 : decode cc (pc + 7) = .ok (.athrow, 1))
    (hout : ∀ x ∈ c.exceptionTable.toList, covers x (pc + 7) = false)
    (hRframes : names.length + 3 < R.frames) (hRlocals : (rest.map fun v => v.category).sum + (13 * (names.length + 1) + 42) ≤ R.locals) (hRcells : cells + 1 ≤ R.cells) (hRslots : slots + 6 ≤ R.slots) (hlocks : meth.locks = false)
    (hx : ∀ t : State, s.vm.Alike t.vm → H.size ≤ t.heap.size → (∀ q : Nat, q < H.size → t.heap[q]? = H[q]?) → XC cls s t)
    (hf : ∀ z ∈ locs, free z.base) (hc : cells + 1 ≤ mc) (hs : slots + 6 ≤ ms) :
    W p l e R s m args below meth c H locs cells slots (vx_MQ below Qc XC args s mc ms free) (F0 m pc ls rest) := by
  intro T hT X
  have htr : e.platform.stackTraces = false := (show e.platform.stackTraces = l.stackTraces by rw [X.admits.platform]).trans hl
  have Y := vx_rebase X (R' := { frames := R.frames, locals := R.locals, cells := 1, slots := 6 }) (Nat.le_refl _) (Nat.le_refl _) hRcells hRslots
  obtain ⟨s', hA⟩ : ∃ z, z = (T.setVm s.vm).setFrames (.invoking m args :: below) := ⟨_, rfl⟩
  rw [← hA] at Y
  have hvm : s'.vm = s.vm := by rw [hA]; rfl
  have hhp : s'.heap = H := by rw [hA]; exact hT
  have hW0 : s.WarmedH s'.vm := by rw [hvm]; exact State.WarmedH.refl s
  have hat' : ∀ w ∈ vx_at0 own ic cls names, w.before args s' = true := fun w hw => vx_ot_at hW0 hvm.symm (hgood w (List.mem_cons_of_mem _ (List.mem_cons_of_mem _ hw))) (hat w hw)
  have hk' : (Cond.classLink own ik cls).before args s' = true := vx_ot_at hW0 hvm.symm (hgood _ List.mem_cons_self) hk
  have hini' : (Cond.initialized cls).before args s' = true := vx_ot_at hW0 hvm.symm (hgood _ (List.mem_cons_of_mem _ List.mem_cons_self)) hini
  have hU' : vx_Zq Bundle.tN "UNASSIGNED_STACK" Bundle.steD A s' s'.heap := by rw [hhp]; exact vx_Zq.moved hW0.alike (hU.kept hS.2.1)
  have hN' : vx_Zq Bundle.tN "SUPPRESSED_SENTINEL" Bundle.listD A s' s'.heap := by rw [hhp]; exact vx_Zq.moved hW0.alike (hN.kept hS.2.1)
  have h : ∀ w ∈ Bundle.ownAtoms0 own ic cls names, w.before args s' = true := vx_own hat' (vx_isRefq hU'.1) (vx_isRefq hN'.1) hU'.2.word hN'.2.word
  have hown' : s'.vm.findClass own = some m.cls := by rw [hvm]; exact hown
  have hins : (Cond.instantiable cls 6).before args s' = true := h _ (by simp [Bundle.ownAtoms0])
  obtain ⟨vm₁, cX, kX, hfX, hkX, -, -, X₁, st1⟩ := Y.newCold hexec (own := own) (C := cls) (index := ik) (n := 6) hown' hk' hins hini'
    (g := F0 m pc ls rest) rfl (by rw [hb]; exact d0) (Nat.le_refl _) (Nat.le_refl _)
  generalize hT1 : (T.setVm vm₁).pushCell { cls := cX, slots := kX.instanceTypes.map defaultValue, vm := .none } = T1 at X₁ st1
  have hcat : (Value.ref T.heap.size).category = 1 := rfl
  have hcellA : T1.heap[T.heap.size]? = some (freshCell cX kX) := by rw [← hT1]; exact State.heap_pushCell_size _ _
  have d3' : decode c.code (pc + 3) = .ok (.dup, 1) := by rw [hb]; exact d3
  obtain ⟨U, hsteps, hrun, hend, hW, hsame, ce, hce, hO⟩ := X₁.ctorThrow0 hexec htr (own := own) (cls := cls) (names := names) (ic := ic) hown' hcls hnames h (fun x hx => nomatch hx) hfX hkX hcellA (by rw [hhp, hT]; exact Nat.le_refl _)
    (g := { method := m, pc := pc + 4, locals := ls, stack := .ref T.heap.size :: .ref T.heap.size :: rest, locked := none }) rfl hsize rfl rfl (rest := rest) rfl
    (by rw [hb]; exact d4) (by rw [hb]; exact d7) hout hRframes (by simp only [List.map_cons, List.sum_cons, hcat]; omega) hlocks
  obtain ⟨f1, f2⟩ := vx_frame hsame
  rw [hhp] at f1 f2
  have hWs : s.WarmedH U.vm := State.WarmedH.trans hW0 hW
  have hcl : s.vm.findClass cls = some ce.cls := by
    have h9 := hO.cls
    rw [hvm] at h9
    exact h9
  have hall : s.sameButNew ({ U with vm := s.vm } : State) locs mc ms := by
    subst hA
    obtain ⟨e1, e2⟩ := hsame
    rw [State.setFrames_setFrames] at e1
    have h2 : (T.setVm s.vm).sameButNew ({ U with vm := s.vm } : State) [] (0 + 1) (0 + 6) := ⟨e1, e2⟩
    have h3 := X.same.trans h2
    rw [List.append_nil] at h3
    exact h3.mono hc hs
  refine ⟨U, ?_, .threw T.heap.size, hrun, hend, Or.inr ⟨T.heap.size, rfl, cls, ce, locs, hx U hWs.alike f1 (fun q hq => f2 q hq (fun z hz => nomatch hz)), hce, hO.vm, hcl, hWs, hall, hf⟩⟩
  refine st1 _ ?_
  show Steps p.tables e below (T1.setTop { method := m, pc := pc + 3, locals := ls, stack := .ref T.heap.size :: rest, locked := none }) _
  jvm_step X₁.here [X₁.here.top, hexec, d3', Value.category]
  exact hsteps
/-- 'throw new E("text")': new; dup; ldc; invokespecial; athrow -/
theorem vx_throwS {cc : ByteArray} {pc : Nat} (hexec : p.tables.exec = Jvm.exec) (hb : c.code = cc) (hl : l.stackTraces = false) {own cls text : String} {names : List String} {ik is ic mc ms sa : Nat} {A : Nat → Prop}
    (hown : s.vm.findClass own = some m.cls) (hcls : Bundle.fit cls = true) (hnames : ∀ n ∈ names, Bundle.fit n = true)
    (hk : (Cond.classLink own ik cls).before args s = true) (hini : (Cond.initialized cls).before args s = true) (hstr : vk_R own is text sa s) (hat : ∀ w ∈ vx_atS own ic cls names, w.before args s = true)
    (hgood : ∀ w ∈ Cond.classLink own ik cls :: Cond.initialized cls :: vx_atS own ic cls names, vx_ot w = true)
    (hU : vx_Zq Bundle.tN "UNASSIGNED_STACK" Bundle.steD A s s.heap) (hN : vx_Zq Bundle.tN "SUPPRESSED_SENTINEL" Bundle.listD A s s.heap) (hS : va_S A s.heap H locs) (hsize : ls.size = c.maxLocals)
    (d0 : decode cc pc = .ok (.new ik, 3)) (d3 : decode cc (pc + 3) = .ok (.dup, 1)) (d4 : decode cc (pc + 4) = .ok (.ldc is, 2)) (d6 : decode cc (pc + 6) = .ok (.invokespecial ic, 3)) (d9 : decode cc (pc + 9) = .ok (.athrow, 1))
    (hout : ∀ x ∈ c.exceptionTable.toList, covers x (pc + 9) = false)
    (hRframes : names.length + 3 < R.frames) (hRlocals : (rest.map fun v => v.category).sum + (13 * (names.length + 1) + 43) ≤ R.locals) (hRcells : cells + 1 ≤ R.cells) (hRslots : slots + 6 ≤ R.slots) (hlocks : meth.locks = false)
    (hx : ∀ t : State, s.vm.Alike t.vm → H.size ≤ t.heap.size → (∀ q : Nat, q < H.size → t.heap[q]? = H[q]?) → XC cls s t)
    (hf : ∀ z ∈ locs, free z.base) (hc : cells + 1 ≤ mc) (hs : slots + 6 ≤ ms) :
    W p l e R s m args below meth c H locs cells slots (vx_MQ below Qc XC args s mc ms free) (F0 m pc ls rest) := by
  intro T hT X
  have htr : e.platform.stackTraces = false := (show e.platform.stackTraces = l.stackTraces by rw [X.admits.platform]).trans hl
  have Y := vx_rebase X (R' := { frames := R.frames, locals := R.locals, cells := 1, slots := 6 }) (Nat.le_refl _) (Nat.le_refl _) hRcells hRslots
  obtain ⟨s', hA⟩ : ∃ z, z = (T.setVm s.vm).setFrames (.invoking m args :: below) := ⟨_, rfl⟩
  rw [← hA] at Y
  have hvm : s'.vm = s.vm := by rw [hA]; rfl
  have hhp : s'.heap = H := by rw [hA]; exact hT
  have hW0 : s.WarmedH s'.vm := by rw [hvm]; exact State.WarmedH.refl s
  have hat' : ∀ w ∈ vx_atS own ic cls names, w.before args s' = true := fun w hw => vx_ot_at hW0 hvm.symm (hgood w (List.mem_cons_of_mem _ (List.mem_cons_of_mem _ hw))) (hat w hw)
  have hk' : (Cond.classLink own ik cls).before args s' = true := vx_ot_at hW0 hvm.symm (hgood _ List.mem_cons_self) hk
  have hini' : (Cond.initialized cls).before args s' = true := vx_ot_at hW0 hvm.symm (hgood _ (List.mem_cons_of_mem _ List.mem_cons_self)) hini
  have hU' : vx_Zq Bundle.tN "UNASSIGNED_STACK" Bundle.steD A s' s'.heap := by rw [hhp]; exact vx_Zq.moved hW0.alike (hU.kept hS.2.1)
  have hN' : vx_Zq Bundle.tN "SUPPRESSED_SENTINEL" Bundle.listD A s' s'.heap := by rw [hhp]; exact vx_Zq.moved hW0.alike (hN.kept hS.2.1)
  have h : ∀ w ∈ Bundle.ownAtoms own ic cls names, w.before args s' = true := vx_own hat' (vx_isRefq hU'.1) (vx_isRefq hN'.1) hU'.2.word hN'.2.word
  have hown' : s'.vm.findClass own = some m.cls := by rw [hvm]; exact hown
  have hins : (Cond.instantiable cls 6).before args s' = true := h _ (by simp [Bundle.ownAtoms])
  obtain ⟨vm₁, cX, kX, hfX, hkX, -, -, X₁, st1⟩ := Y.newCold hexec (own := own) (C := cls) (index := ik) (n := 6) hown' hk' hins hini'
    (g := F0 m pc ls rest) rfl (by rw [hb]; exact d0) (Nat.le_refl _) (Nat.le_refl _)
  generalize hT1 : (T.setVm vm₁).pushCell { cls := cX, slots := kX.instanceTypes.map defaultValue, vm := .none } = T1 at X₁ st1
  have hcat : (Value.ref T.heap.size).category = 1 := rfl
  have hcellA : T1.heap[T.heap.size]? = some (freshCell cX kX) := by rw [← hT1]; exact State.heap_pushCell_size _ _
  have d3' : decode c.code (pc + 3) = .ok (.dup, 1) := by rw [hb]; exact d3
  have d4' : decode c.code (pc + 4) = .ok (.ldc is, 2) := by rw [hb]; exact d4
  have hstr' : vk_R own is text sa s' := vk_R.warm hW0 hstr
  obtain ⟨U, hsteps, hrun, hend, hW, hsame, ce, hce, hO⟩ := X₁.ctorThrowS hexec htr (own := own) (cls := cls) (names := names) (ic := ic) hown' hcls hnames h (fun x hx => nomatch hx) hfX hkX hcellA (by rw [hhp, hT]; exact Nat.le_refl _) (msg := .ref sa) rfl
    (g := { method := m, pc := pc + 6, locals := ls, stack := .ref sa :: .ref T.heap.size :: .ref T.heap.size :: rest, locked := none }) rfl hsize rfl rfl (rest := rest) rfl
    (by rw [hb]; exact d6) (by rw [hb]; exact d9) hout hRframes (by simp only [List.map_cons, List.sum_cons, hcat]; omega) hlocks
  obtain ⟨f1, f2⟩ := vx_frame hsame
  rw [hhp] at f1 f2
  have hWs : s.WarmedH U.vm := State.WarmedH.trans hW0 hW
  have hcl : s.vm.findClass cls = some ce.cls := by
    have h9 := hO.cls
    rw [hvm] at h9
    exact h9
  have hall : s.sameButNew ({ U with vm := s.vm } : State) locs mc ms := by
    subst hA
    obtain ⟨e1, e2⟩ := hsame
    rw [State.setFrames_setFrames] at e1
    have h2 : (T.setVm s.vm).sameButNew ({ U with vm := s.vm } : State) [] (0 + 1) (0 + 6) := ⟨e1, e2⟩
    have h3 := X.same.trans h2
    rw [List.append_nil] at h3
    exact h3.mono hc hs
  refine ⟨U, ?_, .threw T.heap.size, hrun, hend, Or.inr ⟨T.heap.size, rfl, cls, ce, locs, hx U hWs.alike f1 (fun q hq => f2 q hq (fun z hz => nomatch hz)), hce, hO.vm, hcl, hWs, hall, hf⟩⟩
  refine st1 _ ?_
  show Steps p.tables e below (T1.setTop { method := m, pc := pc + 3, locals := ls, stack := .ref T.heap.size :: rest, locked := none }) _
  jvm_step X₁.here [X₁.here.top, hexec, d3', Value.category]
  exact X₁.ldcString hexec (own := own) (text := text) (index := is) (a := sa) hown' hstr'.1 hstr'.2
    (g := { method := m, pc := pc + 4, locals := ls, stack := .ref T.heap.size :: .ref T.heap.size :: rest, locked := none }) rfl d4' _ hsteps
/-- 'throw new E("text")', the text by a wide index -/
theorem vx_throwSW {cc : ByteArray} {pc : Nat} (hexec : p.tables.exec = Jvm.exec) (hb : c.code = cc) (hl : l.stackTraces = false) {own cls text : String} {names : List String} {ik is ic mc ms sa : Nat} {A : Nat → Prop}
    (hown : s.vm.findClass own = some m.cls) (hcls : Bundle.fit cls = true) (hnames : ∀ n ∈ names, Bundle.fit n = true)
    (hk : (Cond.classLink own ik cls).before args s = true) (hini : (Cond.initialized cls).before args s = true) (hstr : vk_R own is text sa s) (hat : ∀ w ∈ vx_atS own ic cls names, w.before args s = true)
    (hgood : ∀ w ∈ Cond.classLink own ik cls :: Cond.initialized cls :: vx_atS own ic cls names, vx_ot w = true)
    (hU : vx_Zq Bundle.tN "UNASSIGNED_STACK" Bundle.steD A s s.heap) (hN : vx_Zq Bundle.tN "SUPPRESSED_SENTINEL" Bundle.listD A s s.heap) (hS : va_S A s.heap H locs) (hsize : ls.size = c.maxLocals)
    (d0 : decode cc pc = .ok (.new ik, 3)) (d3 : decode cc (pc + 3) = .ok (.dup, 1)) (d4 : decode cc (pc + 4) = .ok (.ldc_w is, 3)) (d7 : decode cc (pc + 7) = .ok (.invokespecial ic, 3)) (d10 : decode cc (pc + 10) = .ok (.athrow, 1))
    (hout : ∀ x ∈ c.exceptionTable.toList, covers x (pc + 10) = false)
    (hRframes : names.length + 3 < R.frames) (hRlocals : (rest.map fun v => v.category).sum + (13 * (names.length + 1) + 43) ≤ R.locals) (hRcells : cells + 1 ≤ R.cells) (hRslots : slots + 6 ≤ R.slots) (hlocks : meth.locks = false)
    (hx : ∀ t : State, s.vm.Alike t.vm → H.size ≤ t.heap.size → (∀ q : Nat, q < H.size → t.heap[q]? = H[q]?) → XC cls s t)
    (hf : ∀ z ∈ locs, free z.base) (hc : cells + 1 ≤ mc) (hs : slots + 6 ≤ ms) :
    W p l e R s m args below meth c H locs cells slots (vx_MQ below Qc XC args s mc ms free) (F0 m pc ls rest) := by
  intro T hT X
  have htr : e.platform.stackTraces = false := (show e.platform.stackTraces = l.stackTraces by rw [X.admits.platform]).trans hl
  have Y := vx_rebase X (R' := { frames := R.frames, locals := R.locals, cells := 1, slots := 6 }) (Nat.le_refl _) (Nat.le_refl _) hRcells hRslots
  obtain ⟨s', hA⟩ : ∃ z, z = (T.setVm s.vm).setFrames (.invoking m args :: below) := ⟨_, rfl⟩
  rw [← hA] at Y
  have hvm : s'.vm = s.vm := by rw [hA]; rfl
  have hhp : s'.heap = H := by rw [hA]; exact hT
  have hW0 : s.WarmedH s'.vm := by rw [hvm]; exact State.WarmedH.refl s
  have hat' : ∀ w ∈ vx_atS own ic cls names, w.before args s' = true := fun w hw => vx_ot_at hW0 hvm.symm (hgood w (List.mem_cons_of_mem _ (List.mem_cons_of_mem _ hw))) (hat w hw)
  have hk' : (Cond.classLink own ik cls).before args s' = true := vx_ot_at hW0 hvm.symm (hgood _ List.mem_cons_self) hk
  have hini' : (Cond.initialized cls).before args s' = true := vx_ot_at hW0 hvm.symm (hgood _ (List.mem_cons_of_mem _ List.mem_cons_self)) hini
  have hU' : vx_Zq Bundle.tN "UNASSIGNED_STACK" Bundle.steD A s' s'.heap := by rw [hhp]; exact vx_Zq.moved hW0.alike (hU.kept hS.2.1)
  have hN' : vx_Zq Bundle.tN "SUPPRESSED_SENTINEL" Bundle.listD A s' s'.heap := by rw [hhp]; exact vx_Zq.moved hW0.alike (hN.kept hS.2.1)
  have h : ∀ w ∈ Bundle.ownAtoms own ic cls names, w.before args s' = true := vx_own hat' (vx_isRefq hU'.1) (vx_isRefq hN'.1) hU'.2.word hN'.2.word
  have hown' : s'.vm.findClass own = some m.cls := by rw [hvm]; exact hown
  have hins : (Cond.instantiable cls 6).before args s' = true := h _ (by simp [Bundle.ownAtoms])
  obtain ⟨vm₁, cX, kX, hfX, hkX, -, -, X₁, st1⟩ := Y.newCold hexec (own := own) (C := cls) (index := ik) (n := 6) hown' hk' hins hini'
    (g := F0 m pc ls rest) rfl (by rw [hb]; exact d0) (Nat.le_refl _) (Nat.le_refl _)
  generalize hT1 : (T.setVm vm₁).pushCell { cls := cX, slots := kX.instanceTypes.map defaultValue, vm := .none } = T1 at X₁ st1
  have hcat : (Value.ref T.heap.size).category = 1 := rfl
  have hcellA : T1.heap[T.heap.size]? = some (freshCell cX kX) := by rw [← hT1]; exact State.heap_pushCell_size _ _
  have d3' : decode c.code (pc + 3) = .ok (.dup, 1) := by rw [hb]; exact d3
  have d4' : decode c.code (pc + 4) = .ok (.ldc_w is, 3) := by rw [hb]; exact d4
  have hstr' : vk_R own is text sa s' := vk_R.warm hW0 hstr
  obtain ⟨U, hsteps, hrun, hend, hW, hsame, ce, hce, hO⟩ := X₁.ctorThrowS hexec htr (own := own) (cls := cls) (names := names) (ic := ic) hown' hcls hnames h (fun x hx => nomatch hx) hfX hkX hcellA (by rw [hhp, hT]; exact Nat.le_refl _) (msg := .ref sa) rfl
    (g := { method := m, pc := pc + 7, locals := ls, stack := .ref sa :: .ref T.heap.size :: .ref T.heap.size :: rest, locked := none }) rfl hsize rfl rfl (rest := rest) rfl
    (by rw [hb]; exact d7) (by rw [hb]; exact d10) hout hRframes (by simp only [List.map_cons, List.sum_cons, hcat]; omega) hlocks
  obtain ⟨f1, f2⟩ := vx_frame hsame
  rw [hhp] at f1 f2
  have hWs : s.WarmedH U.vm := State.WarmedH.trans hW0 hW
  have hcl : s.vm.findClass cls = some ce.cls := by
    have h9 := hO.cls
    rw [hvm] at h9
    exact h9
  have hall : s.sameButNew ({ U with vm := s.vm } : State) locs mc ms := by
    subst hA
    obtain ⟨e1, e2⟩ := hsame
    rw [State.setFrames_setFrames] at e1
    have h2 : (T.setVm s.vm).sameButNew ({ U with vm := s.vm } : State) [] (0 + 1) (0 + 6) := ⟨e1, e2⟩
    have h3 := X.same.trans h2
    rw [List.append_nil] at h3
    exact h3.mono hc hs
  refine ⟨U, ?_, .threw T.heap.size, hrun, hend, Or.inr ⟨T.heap.size, rfl, cls, ce, locs, hx U hWs.alike f1 (fun q hq => f2 q hq (fun z hz => nomatch hz)), hce, hO.vm, hcl, hWs, hall, hf⟩⟩
  refine st1 _ ?_
  show Steps p.tables e below (T1.setTop { method := m, pc := pc + 3, locals := ls, stack := .ref T.heap.size :: rest, locked := none }) _
  jvm_step X₁.here [X₁.here.top, hexec, d3', Value.category]
  exact X₁.ldcStringW hexec (own := own) (text := text) (index := is) (a := sa) hown' hstr'.1 hstr'.2
    (g := { method := m, pc := pc + 4, locals := ls, stack := .ref T.heap.size :: .ref T.heap.size :: rest, locked := none }) rfl d4' _ hsteps
end Ends
section Bodies
variable {l : Launch}
theorem vx_ofW {y : MethodName} {ws ws' : List Cond} {rm : Room} {Pc : Array Value → State → Prop} {Qc : Array Value → State → Outcome → State → Prop} {XC : String → State → State → Prop} {mc ms : Nat} {free : Addr → Prop} {cc : ByteArray} {maxL : Nat} {ret : Option FieldType}
    (hy : plainName y.cls = true) (hw : ws = Cond.code y cc maxL ret :: ws')
    (body : ∀ p e s m args below meth c s₁, BodyLoose p l y (headSpec ws rm) cc maxL ret e s m args below meth c s₁ → c.maxLocals = maxL → (∀ x ∈ c.exceptionTable.toList, False) → Pc args s →
      W p l e (headSpec ws rm).room s m args below meth c s.heap [] 0 0 (vx_MQ below Qc XC args s mc ms free) (entryFrame m args maxL)) : vx_Met l y ws rm Pc Qc XC mc ms free := by
  refine MetFree.of_bodyS (code := cc) (maxLocals := maxL) (ret := ret) hy ?_ ?_
  · intro args s m h hn
    obtain ⟨meth, c, h1, h2, h3, h4, h5, h6, -, -⟩ := Cond.code_spec hn (atoms_spec (ws := ws) h _ (by rw [hw]; exact List.mem_cons_self))
    exact ⟨meth, c, h1, h2, h3, h4, h5, h6⟩
  · intro p e s m args below meth c s₁ B hml hP _
    have hh0 : s₁.heap = s.heap := by rw [B.state]; rfl
    have ht : ∀ x ∈ c.exceptionTable.toList, False := by
      obtain ⟨meth9, c9, h1, h2, -, -, -, -, h7, -⟩ := Cond.code_spec B.named (atoms_spec (ws := ws) B.pre _ (by rw [hw]; exact List.mem_cons_self))
      cases Option.some.inj (h1.symm.trans B.method)
      cases Option.some.inj (h2.symm.trans (Stand.of_body B).code)
      intro x hx
      rw [Array.isEmpty_iff.mp h7] at hx
      cases hx
    obtain ⟨t, a1, o, b1, b2, b3⟩ := body p e s m args below meth c s₁ B hml ht hP s₁ hh0 (Stand.of_body B)
    exact ⟨t, o, a1, b1, b2, b3⟩
/-- the table of a body with handlers -/
theorem vx_table {p : Program} {x y : MethodName} {S : Spec} {cc bytes : ByteArray} {maxL maxL' : Nat} {ret ret' : Option FieldType} {e : Env} {s s₁ : State} {m : MethodId} {args : Array Value} {below : List Frame} {meth : Method} {c : Code} {hh : List (Nat × Nat × Nat × Nat)}
    (B : BodyLoose p l y S cc maxL ret e s m args below meth c s₁) (h : (Cond.codeWith y bytes maxL' ret' hh).before args s = true) : c.exceptionTable.toList = tableOf hh := by
  obtain ⟨m9, meth9, c9, hn9, h1, h2, -, -, h6, -⟩ := Cond.codeWith_spec h
  cases Option.some.inj (hn9.symm.trans B.named)
  cases Option.some.inj (h1.symm.trans B.method)
  cases Option.some.inj (h2.symm.trans (Stand.of_body B).code)
  rw [← h6, table_eq]
end Bodies
end VXA
/-! ===== END ===== -/
/-! ===== BEGIN a static call of a method with an exception table ===== -/
section VXS
variable {p : Program} {l : Launch} {e : Env} {R : Room} {s : State} {m : MethodId} {args : Array Value} {below : List Frame} {meth : Method} {c : Code} {T : State} {H : Heap} {locs : List Loc} {cells slots : Nat}
abbrev vx_CSW (R : Room) (s : State) (args : Array Value) (own : String) (index : Nat) (y : MethodName) (bytes : ByteArray) (maxL : Nat) (ret : Option FieldType) (hh : List (Nat × Nat × Nat × Nat)) (ws : List Cond) (rm : Room) (mc ms n : Nat) : Prop :=
  (rm.cells = mc ∧ rm.slots = ms ∧ rm.frames + 1 ≤ R.frames ∧ 8 + (maxL + 11) + rm.locals ≤ R.locals ∧ (∀ w ∈ ws, ∀ (a' : Array Value) (U : State), s.WarmedH U.vm → w.before a' U = true) ∧ Cond.codeWith y bytes maxL ret hh ∈ ws) ∧
  (Cond.codeWith y bytes maxL ret hh).before args s = true ∧ (Cond.initialized y.cls).before args s = true ∧ (y.cls ≠ "java/lang/invoke/MethodHandle" ∧ y.cls ≠ "java/lang/invoke/VarHandle") ∧
  (∀ sig, parseMethodDescriptor y.desc = some sig → n = sig.parameters.length) ∧ (Cond.methodLink own index y).before args s = true ∧ (Cond.static y).before args s = true
theorem vx_cwSW {own : String} {index maxL mc ms : Nat} {y : MethodName} {bytes : ByteArray} {ret : Option FieldType} {hh : List (Nat × Nat × Nat × Nat)} {Ts ws ws' : List Cond} {rm : Room} (n : Nat) (ht : ∀ w ∈ Ts, w.before args s = true) (hT : GoodIn Ts (va_wsS own index y ws)) (hw : ws = Cond.codeWith y bytes maxL ret hh :: ws') (hrc : rm.cells = mc) (hrs : rm.slots = ms)
    (hd : y.cls ≠ "java/lang/invoke/MethodHandle" ∧ y.cls ≠ "java/lang/invoke/VarHandle" ∧ (parseMethodDescriptor y.desc).map (fun d => d.parameters.length) = some n) (hR : rm.frames + 1 ≤ R.frames ∧ 8 + (maxL + 11) + rm.locals ≤ R.locals) :
    vx_CSW R s args own index y bytes maxL ret hh ws rm mc ms n := by
  have ok : ∀ w ∈ va_wsS own index y ws, w.before args s = true := fun w h => ht w (hT w h).1
  have hG : GoodIn Ts ws := fun w h => hT w (by unfold va_wsS; exact List.mem_append_right _ h)
  have hc : Cond.codeWith y bytes maxL ret hh ∈ ws := by rw [hw]; exact List.mem_cons_self
  refine ⟨⟨hrc, hrs, hR.1, hR.2, pay_in ht hG, hc⟩, ht _ (hG _ hc).1, ok _ (by simp [va_wsS]), ⟨hd.1, hd.2.1⟩, fun sig h => ?_, ok _ (by simp [va_wsS]), ok _ (by simp [va_wsS])⟩
  have h2 := hd.2.2
  rw [h] at h2
  exact (Option.some.inj h2).symm
theorem vx_callSW (X : Stand p l e R s m args below meth c T locs cells slots) (hexec : p.tables.exec = Jvm.exec) {own : String} {index : Nat} {y : MethodName} {bytes : ByteArray} {maxL : Nat} {ret : Option FieldType} {hh : List (Nat × Nat × Nat × Nat)}
    (hown : s.vm.findClass own = some m.cls) (hlink : (Cond.methodLink own index y).before args s = true) (hstat : (Cond.static y).before args s = true) (hinit : (Cond.initialized y.cls).before args s = true)
    (hcode : (Cond.codeWith y bytes maxL ret hh).before args s = true) (hy : y.cls ≠ "java/lang/invoke/MethodHandle" ∧ y.cls ≠ "java/lang/invoke/VarHandle")
    {W9 : Nat} {Pre : Pt → Array Value → Prop} {Post : Pt → Array Value → Option Value → Pt → Prop} (hK : Back l R p e below s args y 3 W9 Pre Post)
    {g : JFrame} (hg : g.method = m) (hsize : g.locals.size = c.maxLocals) {argsL rest : List Value} (hlen : ∀ sig, parseMethodDescriptor y.desc = some sig → argsL.length = sig.parameters.length)
    (hstack : g.stack = argsL.reverse ++ rest) (hW : 2 * g.monitorRoom + (rest.map fun v => v.category).sum ≤ W9) (hdg : decode c.code g.pc = .ok (.invokestatic index, 3))
    (hpre : ∀ vm₁, s.WarmedH vm₁ → Pre ⟨T.setVm vm₁, locs, cells, slots⟩ argsL.toArray) :
    ∃ (v : Option Value) (vm₁ : Vm) (B : Pt), s.WarmedH vm₁ ∧ Stand p l e R s m args below meth c B.U B.locs B.cells B.slots ∧ Post ⟨T.setVm vm₁, locs, cells, slots⟩ argsL.toArray v B ∧
      ∀ target, Steps p.tables e below (B.U.setTop { g with pc := g.pc + 3, stack := v.toList ++ rest }) target → Steps p.tables e below (T.setTop g) target := by
  obtain ⟨mk, methM, cM, hnamed, hmethM, -, -, -, -, -, -, hsigM⟩ := Cond.codeWith_spec hcode
  have hstatic : methM.isStatic = true := Cond.static_spec hnamed hmethM hstat
  obtain ⟨kP, hkP, -⟩ := className_of_methodNamed hnamed
  have hinitP : kP.init = .initialized := Cond.initialized_spec (findClass_of_methodNamed hnamed) hkP hinit
  obtain ⟨vm₁, X₁, hstep₁⟩ := X.invokestatic hexec hown hlink hnamed hmethM hstatic hkP hinitP hy (g := g) hg (argsL := argsL) (rest := rest) (hlen _ hsigM) hstack hdg
  obtain ⟨v, B, X', hpost, hsteps⟩ := hK m meth c ⟨T.setVm vm₁, locs, cells, slots⟩ { g with stack := rest } (.invokestatic index) mk argsL.toArray X₁ hg hsize hdg hW (X₁.named hnamed) (hpre vm₁ X₁.warmed)
  exact ⟨v, vm₁, B, X₁.warmed, X', hpost, fun target h => hstep₁ _ fun acts => by rw [doInvoke_state]; exact hsteps.trans h⟩
theorem vx_runSW {y : MethodName} {bytes cc : ByteArray} {maxL nL mc ms n index : Nat} {ret : Option FieldType} {hh : List (Nat × Nat × Nat × Nat)} {ws : List Cond} {rm : Room} {Pc : Array Value → State → Prop} {Qc : Array Value → State → Outcome → State → Prop} {free : Addr → Prop} {Ts : List Cond} {own : String} {As rest : List Value} {g : JFrame}
    (S : CallFix p m c cc nL s args Ts own) (hM : Met l y ws rm Pc Qc mc ms free) (cw : vx_CSW R s args own index y bytes maxL ret hh ws rm mc ms n) (hp : PreS s H Pc As)
    (hg : g.method = m) (hn : As.length = n) (hsize : g.locals.size = nL) (hstack : g.stack = As.reverse ++ rest) (hW : 2 * g.monitorRoom + (rest.map fun v => v.category).sum ≤ 8) (hdg : decode cc g.pc = .ok (.invokestatic index, 3)) (hf : cells + mc ≤ R.cells ∧ slots + ms ≤ R.slots) :
    va_Run p l e R s m args below meth c H locs cells slots mc ms g rest (Qc As.toArray) (free) := by
  obtain ⟨⟨hrc, hrs, hfr, hlo, hws, hcw⟩, hcode, hini, hy, hlen, hl, hstt⟩ := cw
  have hK : Back l R p e below s args y 3 8 (PreOf R mc ms Pc) (PostOf Qc mc ms free) := va_backW (hh := hh) (bytes := bytes) (maxL := maxL) (ret := ret) hM hp.1 hrc hrs hfr hlo hws hcw (fun a' U hW => word_at hW (Or.inl (by first | rfl | simp [Cond.onTables, Cond.keeps, Cond.steady])) hini)
  obtain ⟨hx, hb, hml, ho, -⟩ := S
  intro T hT X
  obtain ⟨v, vm₁, ⟨U', l2, c2, s2⟩, hW₁, X', ⟨g', mk, t, L, e1, e2, hq, h1, hL, h2, h3⟩, st⟩ := vx_callSW X hx (hh := hh) (bytes := bytes) (maxL := maxL) (ret := ret) ho hl hstt hini hcode hy hK hg (hsize.trans hml.symm) (argsL := As) (rest := rest) (fun sig h => hn.trans (hlen sig h)) hstack hW (by rw [hb]; exact hdg)
    (fun vm₁ hW₁ => ⟨hf.1, hf.2, hp.2 (T.setVm vm₁) hT hW₁⟩)
  dsimp only [Pt.U, Pt.locs, Pt.cells, Pt.slots] at X' e1 e2 h1 h2 h3 st
  subst h1; subst h2; subst h3
  exact ⟨v, (T.setVm vm₁).calling g' mk As.toArray, t, U', L, hT, X', hL, e1, e2, hq, st⟩
/-- not caught here, past rows that name other classes: it goes on to the caller -/
theorem vx_outP {p : Program} {l : Launch} {e : Env} {R : Room} {s : State} {m : MethodId} {args : Array Value} {below : List Frame} {meth : Method} {c : Code} {H : Heap} {locs : List Loc} {cells slots : Nat} {free : Addr → Prop} {ls : Array Slot} {rest : List Value} {Qc : Array Value → State → Outcome → State → Prop} {XC : String → State → State → Prop}
    {pc : Nat} {own E : String} {ce : Cell} {q : Addr} {mc ms : Nat} (hown : s.vm.findClass own = some m.cls) (hlocks : meth.locks = false)
    (hpass : ∀ z ∈ c.exceptionTable.toList, covers z pc = false ∨ (z.catchType ≠ 0 ∧ ∃ nm : String, (Cond.classLink own z.catchType nm).before args s = true ∧ va_Nc E nm s)) (hcell : H[q]? = some ce) (hv : ce.vm = .none) (hcl : s.vm.findClass E = some ce.cls)
    (hx : ∀ t : State, t.heap = H → s.vm.Alike t.vm → XC E s t) (hf : ∀ z ∈ locs, free z.base) (hc : cells ≤ mc) (hs : slots ≤ ms) :
    vx_W p l e R s m args below meth c H locs cells slots (vx_MQ below Qc XC args s mc ms free) (F0 m pc ls rest) q := by
  intro T hT X
  have hpl : e.platform.magicAccessors = ({} : Platform).magicAccessors := by rw [X.admits.platform]
  obtain ⟨vm', hW', X', st⟩ := X.outThrough hlocks q (g := F0 m pc ls rest) rfl rfl rfl (cell := ce) (by rw [hT]; exact hcell) (by rw [hv]; rfl)
    (by obtain ⟨k9, h9, -⟩ := Vm.findClass_spec hcl; exact ⟨k9, h9⟩) (fun z hz => by
      rcases hpass z hz with h | ⟨hz0, nm, hl1, hn1⟩
      · exact Or.inl h
      · obtain ⟨c6, hc6, hcl6⟩ := Cond.classLink_spec hown hl1 e.platform hpl
        obtain ⟨a8, b8, h1, h2, h3⟩ := hn1
        cases Option.some.inj (h1.symm.trans hcl)
        cases Option.some.inj (h2.symm.trans hc6)
        exact Or.inr ⟨hz0, _, hcl6, h3⟩)
  obtain ⟨g₀, hfr⟩ := X'.frames_eq
  have hcell9 : ((T.setVm vm').setFrames (.throwing q :: below)).heap[q]? = some ce := by
    show T.heap[q]? = some ce
    rw [hT]; exact hcell
  have hend : Ended ((T.setVm vm').setFrames (.throwing q :: below)) below (.threw q) := State.frames_setFrames _ (State.cur_lt_of_frames hfr)
  refine ⟨(T.setVm vm').setFrames (.throwing q :: below), ?_, .threw q, X'.here.running, hend, Or.inr ⟨q, rfl, E, ce, locs, hx _ hT (X'.ends _).1.alike, hcell9, hv, hcl, (X'.ends _).1, (X'.ends _).2.mono hc hs, hf⟩⟩
  rw [X.pushThrowing_eq]
  exact st
/-- a thing of a world lies in the heap -/
theorem vx_lt {D : va_G} {cl : List vw_C} {ws : va_W} {H1 : Heap} (h : va_P D cl ws H1) {k : Nat} {q : Nat × va_E} (hk : ws[k]? = some q) : q.1 < H1.size := (h k q hk).lt
end VXS
/-! ===== END ===== -/
/-! ===== BEGIN methods with a table of their own: called by a name, returning or throwing ===== -/
section VXH
/-! vx_backW, vx_callVX, vx_callSX, vx_callVW, vx_runVW, vx_runVX, vx_runSX, vx_ofWH follow the same proofs as their sisters above (Free/Laws.lean, Shelf42/LK1.lean); vx_outP calls Shelf42/NT130.lean (outThrough). -/
section
variable {l : Launch} {R : Room} {p : Program} {e : Env} {below : List Frame} {s : State} {sargs : Array Value} {y : MethodName} {len W9 : Nat}
theorem vx_backW {ws : List Cond} {rm : Room} {Pc : Array Value → State → Prop} {Qc : Array Value → State → Outcome → State → Prop} {XC : String → State → State → Prop} {mc ms : Nat} {free : Addr → Prop} {bytes : ByteArray} {maxL : Nat} {ret : Option FieldType} {hh : List (Nat × Nat × Nat × Nat)}
    (hM : vx_Met l y ws rm Pc Qc XC mc ms free) (hblind : FrameBlind Pc) (hrc : rm.cells = mc) (hrs : rm.slots = ms)
    (hframes : rm.frames + 1 ≤ R.frames) (hlocals : W9 + (maxL + 11) + rm.locals ≤ R.locals)
    (hws : ∀ w ∈ ws, ∀ a' U, s.WarmedH U.vm → w.before a' U = true) (hcode : Cond.codeWith y bytes maxL ret hh ∈ ws) (hinit : ∀ a' U, s.WarmedH U.vm → (Cond.initialized y.cls).before a' U = true) :
    vx_Back l R p e below s sargs y len W9 (PreOf R mc ms Pc) (PostOf Qc mc ms free) (vx_Post XC mc ms free) := by
  intro m meth c A g ig mk a X hg hsize hdg hW hn hp
  have h1 : (headSpec ws rm).pre.before a A.U = true := atoms_intro fun w hw => hws w hw _ _ X.warmed
  have h2 : (Cond.codeWith y bytes maxL ret hh).before a A.U = true := hws _ hcode _ _ X.warmed
  have h3 : (Cond.initialized y.cls).before a A.U = true := hinit _ _ X.warmed
  have h4 : A.cells + (headSpec ws rm).room.cells ≤ R.cells := by rw [show (headSpec ws rm).room.cells = mc from hrc]; exact hp.1
  have h5 : A.slots + (headSpec ws rm).room.slots ≤ R.slots := by rw [show (headSpec ws rm).room.slots = ms from hrs]; exact hp.2.1
  have hPc : Pc a (A.U.calling g mk a) := hblind _ _ _ _ hp.2.2
  obtain ⟨U, Ls, c0, s0⟩ := A
  dsimp only [Pt.U, Pt.locs, Pt.cells, Pt.slots] at h1 h2 h3 h4 h5 X hn hPc ⊢
  obtain ⟨m9, methY, cY, hn9, hmY, hcY, -, hlY, -⟩ := Cond.codeWith_spec h2
  cases Option.some.inj (hn9.symm.trans hn)
  obtain ⟨kY, hkY, -⟩ := className_of_methodNamed hn
  have hinitY : kY.init = .initialized := Cond.initialized_spec (findClass_of_methodNamed hn) hkY h3
  have h : At U g.method c below := by rw [hg]; exact X.here
  have hlocals9 : W9 + (maxL + 11) + (headSpec ws rm).room.locals ≤ R.locals := hlocals
  have happ : (headSpec ws rm).appliesLoose y e.platform (U.calling g mk a) = true :=
    Spec.appliesLoose_calling (g := g) h hdg hn hkY hinitY
      (X.room_calling (g := g) (R' := (headSpec ws rm).room) hsize hmY hcY hframes (by rw [hlY]; omega) h4 h5) h1
  obtain ⟨mid, hmid⟩ := h.above
  have hfr : (U.setTop g).frames = (.java g :: mid) ++ below := by rw [State.frames_setTop' g h.top, hmid]; rfl
  obtain ⟨o, s₂, hsteps, -, hend, hq⟩ := Steps.callFree hM p X.admits X.cas X.clock (acts := []) hfr happ hPc trivial
  have hq' : vx_Q Qc XC mc ms free a (U.calling g mk a) o s₂ := hq
  rw [State.frames_setTop' g h.top] at hend
  obtain ⟨g₀, hg0⟩ := Option.isSome_iff_exists.mp h.top
  obtain ⟨r, hr⟩ := State.topJava?_eq_some.mp hg0
  have hr' : (({ U with heap := s₂.heap, slotsUsed := s₂.slotsUsed } : State).setVm s₂.vm).frames = .java g₀ :: r := hr
  rcases hq' with ⟨hqc, L, hfe, hL⟩ | ⟨q, rfl, E, ce, L, hx, hce, hcv, hcl, hW₂, hsm, hL⟩
  · obtain ⟨⟨v, rfl⟩, hW₂, e2, q2, q3, q4, q5, q6⟩ := id hfe
    have e3 : s₂ = ({ (U.calling g mk a).setFrames s₂.frames with heap := s₂.heap, slotsUsed := s₂.slotsUsed } : State).setVm s₂.vm := by
      have : s₂ = ({ s₂ with vm := (U.calling g mk a).vm } : State).setVm s₂.vm := rfl
      rw [e2] at this
      exact this
    obtain ⟨c₂, i₂, len₂, hc₂, hd₂, hf₂⟩ := hend
    have hW' : U.WarmedH s₂.vm := hW₂
    have hcc : c₂ = c := by
      have h1 : s₂.code? g.method = U.code? g.method := by
        rw [State.code?_eq, State.code?_eq, hW'.alike.method?]
      exact Option.some.inj (hc₂.symm.trans (h1.trans h.code))
    subst hcc
    have hlen : len₂ = len := by rw [hdg] at hd₂; cases hd₂; rfl
    subst hlen
    have hs₂ : s₂ = (({ U with heap := s₂.heap, slotsUsed := s₂.slotsUsed } : State).setVm s₂.vm).setTop { g with pc := g.pc + len₂, stack := v.toList ++ g.stack } := by
      refine e3.trans ?_
      rw [hf₂, State.calling_eq h.top, State.setFrames_setFrames, State.setTop_of_frames _ hr', hr]
      rfl
    have hsame : U.sameButNew ({ U with heap := s₂.heap, slotsUsed := s₂.slotsUsed } : State) L mc ms := by
      refine ⟨?_, q2, q3, q4, q5, q6⟩
      obtain ⟨t, ht, -⟩ := State.frames_cons hr
      show ({ U with heap := s₂.heap, slotsUsed := s₂.slotsUsed } : State) = { U.setFrames U.frames with heap := s₂.heap, slotsUsed := s₂.slotsUsed }
      rw [State.setFrames_self ht]
    subst hg
    refine Or.inl ⟨v, ⟨(({ U with heap := s₂.heap, slotsUsed := s₂.slotsUsed } : State).setVm s₂.vm), Ls ++ L, c0 + mc, s0 + ms⟩,
      ⟨X.admits, X.cas, X.clock, X.frames, X.room, X.hears, X.method, X.code, (X.here.setHeapUsed s₂.heap s₂.slotsUsed).setVm hW'.alike, X.tail, State.WarmedH.trans X.warmed hW', X.limits, X.bytes, X.same.trans (hsame.setVm s.vm)⟩,
      ⟨g, mk, s₂, L, rfl, rfl, hqc, rfl, hL, rfl, rfl⟩, ?_⟩
    show Steps p.tables e below _ ((({ U with heap := s₂.heap, slotsUsed := s₂.slotsUsed } : State).setVm s₂.vm).setTop { g with pc := g.pc + len₂, stack := v.toList ++ g.stack })
    rw [← hs₂]
    exact hsteps
  · obtain ⟨e2, q2, q3, q4, q5, q6⟩ := id hsm
    have e3 : s₂ = ({ (U.calling g mk a).setFrames s₂.frames with heap := s₂.heap, slotsUsed := s₂.slotsUsed } : State).setVm s₂.vm := by
      have : s₂ = ({ s₂ with vm := (U.calling g mk a).vm } : State).setVm s₂.vm := rfl
      rw [e2] at this
      exact this
    have hf₂ : s₂.frames = .throwing q :: .java g :: U.frames.tail := hend
    have hW' : U.WarmedH s₂.vm := hW₂
    have hs₂ : s₂ = ((({ U with heap := s₂.heap, slotsUsed := s₂.slotsUsed } : State).setVm s₂.vm).setTop g).pushFrame (.throwing q) := by
      refine e3.trans ?_
      rw [hf₂, State.calling_eq h.top, State.setFrames_setFrames, State.pushFrame, State.frames_setTop _ hr', State.setTop_of_frames _ hr', State.setFrames_setFrames, hr]
      rfl
    have hsame : U.sameButNew ({ U with heap := s₂.heap, slotsUsed := s₂.slotsUsed } : State) L mc ms := by
      refine ⟨?_, q2, q3, q4, q5, q6⟩
      obtain ⟨t, ht, -⟩ := State.frames_cons hr
      show ({ U with heap := s₂.heap, slotsUsed := s₂.slotsUsed } : State) = { U.setFrames U.frames with heap := s₂.heap, slotsUsed := s₂.slotsUsed }
      rw [State.setFrames_self ht]
    subst hg
    refine Or.inr ⟨q, ⟨(({ U with heap := s₂.heap, slotsUsed := s₂.slotsUsed } : State).setVm s₂.vm), Ls ++ L, c0 + mc, s0 + ms⟩,
      ⟨X.admits, X.cas, X.clock, X.frames, X.room, X.hears, X.method, X.code, (X.here.setHeapUsed s₂.heap s₂.slotsUsed).setVm hW'.alike, X.tail, State.WarmedH.trans X.warmed hW', X.limits, X.bytes, X.same.trans (hsame.setVm s.vm)⟩,
      ⟨g, mk, s₂, L, E, ce, rfl, rfl, hx, hce, hcv, hcl, rfl, hL, rfl, rfl⟩, ?_⟩
    show Steps p.tables e below _ (((({ U with heap := s₂.heap, slotsUsed := s₂.slotsUsed } : State).setVm s₂.vm).setTop g).pushFrame (.throwing q))
    rw [← hs₂]
    exact hsteps
end
variable {p : Program} {l : Launch} {e : Env} {R : Room} {s : State} {m : MethodId} {args : Array Value} {below : List Frame} {meth : Method} {c : Code} {T : State} {H : Heap} {locs : List Loc} {cells slots : Nat}
theorem vx_callVX (X : Stand p l e R s m args below meth c T locs cells slots) (hexec : p.tables.exec = Jvm.exec) {own C : String} {index : Nat} {y : MethodName} {bytes : ByteArray} {maxL : Nat} {ret : Option FieldType} {hh : List (Nat × Nat × Nat × Nat)}
    (hown : s.vm.findClass own = some m.cls) (hlink : (Cond.methodLink own index y).before args s = true) (hinst : (Cond.instanceMethod y).before args s = true) (hsel : (Cond.selects C y y).before args s = true)
    (hcode : (Cond.codeWith y bytes maxL ret hh).before args s = true) (hy : y.cls ≠ "java/lang/invoke/MethodHandle" ∧ y.cls ≠ "java/lang/invoke/VarHandle")
    {W9 : Nat} {Pre : Pt → Array Value → Prop} {Post : Pt → Array Value → Option Value → Pt → Prop} {PostX : Pt → Array Value → Addr → Pt → Prop} (hK : vx_Back l R p e below s args y 3 W9 Pre Post PostX)
    {b : Addr} {cellB : Cell} (hcell : T.heap[b]? = some cellB) (hobj : cellB.vm.isStatics = false) (hcls : s.vm.findClass C = some cellB.cls)
    {g : JFrame} (hg : g.method = m) (hsize : g.locals.size = c.maxLocals) {argsL rest : List Value} (hlen : ∀ sig, parseMethodDescriptor y.desc = some sig → argsL.length = sig.parameters.length)
    (hstack : g.stack = argsL.reverse ++ .ref b :: rest) (hW : 2 * g.monitorRoom + (rest.map fun v => v.category).sum ≤ W9) (hdg : decode c.code g.pc = .ok (.invokevirtual index, 3))
    (hpre : ∀ vm₁, s.WarmedH vm₁ → Pre ⟨T.setVm vm₁, locs, cells, slots⟩ (Value.ref b :: argsL).toArray) :
    (∃ (v : Option Value) (vm₁ : Vm) (B : Pt), s.WarmedH vm₁ ∧ Stand p l e R s m args below meth c B.U B.locs B.cells B.slots ∧ Post ⟨T.setVm vm₁, locs, cells, slots⟩ (Value.ref b :: argsL).toArray v B ∧
      ∀ target, Steps p.tables e below (B.U.setTop { g with pc := g.pc + 3, stack := v.toList ++ rest }) target → Steps p.tables e below (T.setTop g) target) ∨
    (∃ (q : Addr) (vm₁ : Vm) (B : Pt), s.WarmedH vm₁ ∧ Stand p l e R s m args below meth c B.U B.locs B.cells B.slots ∧ PostX ⟨T.setVm vm₁, locs, cells, slots⟩ (Value.ref b :: argsL).toArray q B ∧
      Steps p.tables e below (T.setTop g) ((B.U.setTop { g with stack := rest }).pushFrame (.throwing q))) := by
  obtain ⟨mk, methM, hnamed, hmethM, hstM, habM⟩ := Cond.instanceMethod_spec hinst
  obtain ⟨m8, methM', cM, hn8, hmethM', -, -, -, -, -, -, hsigM⟩ := Cond.codeWith_spec hcode
  cases Option.some.inj (hn8.symm.trans hnamed)
  cases hmethM.symm.trans hmethM'
  obtain ⟨c2, r2, m2, q1, q2, q3, q4, kP, hkP, hkPi⟩ := Cond.selects_spec hsel
  cases hcls.symm.trans q1
  cases (State.methodFound?_of_named hnamed hy).symm.trans q2
  cases hnamed.symm.trans q3
  have hselP : selectMethod e.platform s.vm cellB.cls mk = .method mk := by rw [Launch.admits_selectMethod X.admits]; exact q4
  obtain ⟨vm₁, X₁, hstep₁⟩ := X.invokevirtual hexec hown hlink hnamed hmethM hstM hkP hkPi hy (a := b) (cell := cellB) hcell
    (fun z h => by rw [h] at hobj; cases hobj) hselP hmethM habM hkP hkPi (g := g) hg (argsL := argsL) (rest := rest) (hlen _ hsigM) hstack hdg
  rcases hK m meth c ⟨T.setVm vm₁, locs, cells, slots⟩ { g with stack := rest } (.invokevirtual index) mk (Value.ref b :: argsL).toArray X₁ hg hsize hdg hW (X₁.named hnamed) (hpre vm₁ X₁.warmed) with ⟨v, B, X', hpost, hsteps⟩ | ⟨q, B, X', hpost, hsteps⟩
  · exact Or.inl ⟨v, vm₁, B, X₁.warmed, X', hpost, fun target h => hstep₁ _ fun acts => by rw [doInvoke_state]; exact hsteps.trans h⟩
  · exact Or.inr ⟨q, vm₁, B, X₁.warmed, X', hpost, hstep₁ _ fun acts => by rw [doInvoke_state]; exact hsteps⟩
theorem vx_callSX (X : Stand p l e R s m args below meth c T locs cells slots) (hexec : p.tables.exec = Jvm.exec) {own : String} {index : Nat} {y : MethodName} {bytes : ByteArray} {maxL : Nat} {ret : Option FieldType} {hh : List (Nat × Nat × Nat × Nat)}
    (hown : s.vm.findClass own = some m.cls) (hlink : (Cond.methodLink own index y).before args s = true) (hstat : (Cond.static y).before args s = true) (hinit : (Cond.initialized y.cls).before args s = true)
    (hcode : (Cond.codeWith y bytes maxL ret hh).before args s = true) (hy : y.cls ≠ "java/lang/invoke/MethodHandle" ∧ y.cls ≠ "java/lang/invoke/VarHandle")
    {W9 : Nat} {Pre : Pt → Array Value → Prop} {Post : Pt → Array Value → Option Value → Pt → Prop} {PostX : Pt → Array Value → Addr → Pt → Prop} (hK : vx_Back l R p e below s args y 3 W9 Pre Post PostX)
    {g : JFrame} (hg : g.method = m) (hsize : g.locals.size = c.maxLocals) {argsL rest : List Value} (hlen : ∀ sig, parseMethodDescriptor y.desc = some sig → argsL.length = sig.parameters.length)
    (hstack : g.stack = argsL.reverse ++ rest) (hW : 2 * g.monitorRoom + (rest.map fun v => v.category).sum ≤ W9) (hdg : decode c.code g.pc = .ok (.invokestatic index, 3))
    (hpre : ∀ vm₁, s.WarmedH vm₁ → Pre ⟨T.setVm vm₁, locs, cells, slots⟩ argsL.toArray) :
    (∃ (v : Option Value) (vm₁ : Vm) (B : Pt), s.WarmedH vm₁ ∧ Stand p l e R s m args below meth c B.U B.locs B.cells B.slots ∧ Post ⟨T.setVm vm₁, locs, cells, slots⟩ argsL.toArray v B ∧
      ∀ target, Steps p.tables e below (B.U.setTop { g with pc := g.pc + 3, stack := v.toList ++ rest }) target → Steps p.tables e below (T.setTop g) target) ∨
    (∃ (q : Addr) (vm₁ : Vm) (B : Pt), s.WarmedH vm₁ ∧ Stand p l e R s m args below meth c B.U B.locs B.cells B.slots ∧ PostX ⟨T.setVm vm₁, locs, cells, slots⟩ argsL.toArray q B ∧
      Steps p.tables e below (T.setTop g) ((B.U.setTop { g with stack := rest }).pushFrame (.throwing q))) := by
  obtain ⟨mk, methM, cM, hnamed, hmethM, -, -, -, -, -, -, hsigM⟩ := Cond.codeWith_spec hcode
  have hstatic : methM.isStatic = true := Cond.static_spec hnamed hmethM hstat
  obtain ⟨kP, hkP, -⟩ := className_of_methodNamed hnamed
  have hinitP : kP.init = .initialized := Cond.initialized_spec (findClass_of_methodNamed hnamed) hkP hinit
  obtain ⟨vm₁, X₁, hstep₁⟩ := X.invokestatic hexec hown hlink hnamed hmethM hstatic hkP hinitP hy (g := g) hg (argsL := argsL) (rest := rest) (hlen _ hsigM) hstack hdg
  rcases hK m meth c ⟨T.setVm vm₁, locs, cells, slots⟩ { g with stack := rest } (.invokestatic index) mk argsL.toArray X₁ hg hsize hdg hW (X₁.named hnamed) (hpre vm₁ X₁.warmed) with ⟨v, B, X', hpost, hsteps⟩ | ⟨q, B, X', hpost, hsteps⟩
  · exact Or.inl ⟨v, vm₁, B, X₁.warmed, X', hpost, fun target h => hstep₁ _ fun acts => by rw [doInvoke_state]; exact hsteps.trans h⟩
  · exact Or.inr ⟨q, vm₁, B, X₁.warmed, X', hpost, hstep₁ _ fun acts => by rw [doInvoke_state]; exact hsteps⟩
theorem vx_callVW (X : Stand p l e R s m args below meth c T locs cells slots) (hexec : p.tables.exec = Jvm.exec) {own C : String} {index : Nat} {y : MethodName} {bytes : ByteArray} {maxL : Nat} {ret : Option FieldType} {hh : List (Nat × Nat × Nat × Nat)}
    (hown : s.vm.findClass own = some m.cls) (hlink : (Cond.methodLink own index y).before args s = true) (hinst : (Cond.instanceMethod y).before args s = true) (hsel : (Cond.selects C y y).before args s = true)
    (hcode : (Cond.codeWith y bytes maxL ret hh).before args s = true) (hy : y.cls ≠ "java/lang/invoke/MethodHandle" ∧ y.cls ≠ "java/lang/invoke/VarHandle")
    {W9 : Nat} {Pre : Pt → Array Value → Prop} {Post : Pt → Array Value → Option Value → Pt → Prop} (hK : Back l R p e below s args y 3 W9 Pre Post)
    {b : Addr} {cellB : Cell} (hcell : T.heap[b]? = some cellB) (hobj : cellB.vm.isStatics = false) (hcls : s.vm.findClass C = some cellB.cls)
    {g : JFrame} (hg : g.method = m) (hsize : g.locals.size = c.maxLocals) {argsL rest : List Value} (hlen : ∀ sig, parseMethodDescriptor y.desc = some sig → argsL.length = sig.parameters.length)
    (hstack : g.stack = argsL.reverse ++ .ref b :: rest) (hW : 2 * g.monitorRoom + (rest.map fun v => v.category).sum ≤ W9) (hdg : decode c.code g.pc = .ok (.invokevirtual index, 3))
    (hpre : ∀ vm₁, s.WarmedH vm₁ → Pre ⟨T.setVm vm₁, locs, cells, slots⟩ (Value.ref b :: argsL).toArray) :
    ∃ (v : Option Value) (vm₁ : Vm) (B : Pt), s.WarmedH vm₁ ∧ Stand p l e R s m args below meth c B.U B.locs B.cells B.slots ∧ Post ⟨T.setVm vm₁, locs, cells, slots⟩ (Value.ref b :: argsL).toArray v B ∧
      ∀ target, Steps p.tables e below (B.U.setTop { g with pc := g.pc + 3, stack := v.toList ++ rest }) target → Steps p.tables e below (T.setTop g) target := by
  obtain ⟨mk, methM, hnamed, hmethM, hstM, habM⟩ := Cond.instanceMethod_spec hinst
  obtain ⟨m8, methM', cM, hn8, hmethM', -, -, -, -, -, -, hsigM⟩ := Cond.codeWith_spec hcode
  cases Option.some.inj (hn8.symm.trans hnamed)
  cases hmethM.symm.trans hmethM'
  obtain ⟨c2, r2, m2, q1, q2, q3, q4, kP, hkP, hkPi⟩ := Cond.selects_spec hsel
  cases hcls.symm.trans q1
  cases (State.methodFound?_of_named hnamed hy).symm.trans q2
  cases hnamed.symm.trans q3
  have hselP : selectMethod e.platform s.vm cellB.cls mk = .method mk := by rw [Launch.admits_selectMethod X.admits]; exact q4
  obtain ⟨vm₁, X₁, hstep₁⟩ := X.invokevirtual hexec hown hlink hnamed hmethM hstM hkP hkPi hy (a := b) (cell := cellB) hcell
    (fun z h => by rw [h] at hobj; cases hobj) hselP hmethM habM hkP hkPi (g := g) hg (argsL := argsL) (rest := rest) (hlen _ hsigM) hstack hdg
  obtain ⟨v, B, X', hpost, hsteps⟩ := hK m meth c ⟨T.setVm vm₁, locs, cells, slots⟩ { g with stack := rest } (.invokevirtual index) mk (Value.ref b :: argsL).toArray X₁ hg hsize hdg hW (X₁.named hnamed) (hpre vm₁ X₁.warmed)
  exact ⟨v, vm₁, B, X₁.warmed, X', hpost, fun target h => hstep₁ _ fun acts => by rw [doInvoke_state]; exact hsteps.trans h⟩
abbrev vx_CVW (R : Room) (s : State) (args : Array Value) (own C : String) (index : Nat) (y : MethodName) (bytes : ByteArray) (maxL : Nat) (ret : Option FieldType) (hh : List (Nat × Nat × Nat × Nat)) (ws : List Cond) (rm : Room) (mc ms n : Nat) : Prop :=
  (rm.cells = mc ∧ rm.slots = ms ∧ rm.frames + 1 ≤ R.frames ∧ 8 + (maxL + 11) + rm.locals ≤ R.locals ∧ (∀ w ∈ ws, ∀ (a' : Array Value) (U : State), s.WarmedH U.vm → w.before a' U = true) ∧ Cond.codeWith y bytes maxL ret hh ∈ ws) ∧
  (Cond.codeWith y bytes maxL ret hh).before args s = true ∧ (Cond.initialized y.cls).before args s = true ∧ (y.cls ≠ "java/lang/invoke/MethodHandle" ∧ y.cls ≠ "java/lang/invoke/VarHandle") ∧
  (∀ sig, parseMethodDescriptor y.desc = some sig → n = sig.parameters.length) ∧ (Cond.methodLink own index y).before args s = true ∧ (Cond.instanceMethod y).before args s = true ∧ (Cond.selects C y y).before args s = true
theorem vx_cwVW {own C : String} {index maxL mc ms : Nat} {y : MethodName} {bytes : ByteArray} {ret : Option FieldType} {hh : List (Nat × Nat × Nat × Nat)} {Ts ws ws' : List Cond} {rm : Room} (n : Nat) (ht : ∀ w ∈ Ts, w.before args s = true) (hT : GoodIn Ts (wsV own index C y ws)) (hw : ws = Cond.codeWith y bytes maxL ret hh :: ws') (hrc : rm.cells = mc) (hrs : rm.slots = ms)
    (hd : y.cls = C ∧ y.cls ≠ "java/lang/invoke/MethodHandle" ∧ y.cls ≠ "java/lang/invoke/VarHandle" ∧ (parseMethodDescriptor y.desc).map (fun d => d.parameters.length) = some n) (hR : rm.frames + 1 ≤ R.frames ∧ 8 + (maxL + 11) + rm.locals ≤ R.locals) :
    vx_CVW R s args own C index y bytes maxL ret hh ws rm mc ms n := by
  obtain ⟨hC, hd⟩ := hd
  subst hC
  have ok : ∀ w ∈ wsV own index y.cls y ws, w.before args s = true := fun w h => ht w (hT w h).1
  have hG : GoodIn Ts ws := fun w h => hT w (by unfold wsV; exact List.mem_append_right _ h)
  have hc : Cond.codeWith y bytes maxL ret hh ∈ ws := by rw [hw]; exact List.mem_cons_self
  refine ⟨⟨hrc, hrs, hR.1, hR.2, pay_in ht hG, hc⟩, ht _ (hG _ hc).1, ok _ (by simp [wsV]), ⟨hd.1, hd.2.1⟩, fun sig h => ?_, ok _ (by simp [wsV]), ok _ (by simp [wsV]), ok _ (by simp [wsV])⟩
  have h2 := hd.2.2
  rw [h] at h2
  exact (Option.some.inj h2).symm
theorem vx_runVW {y : MethodName} {bytes cc : ByteArray} {maxL nL mc ms n index : Nat} {ret : Option FieldType} {hh : List (Nat × Nat × Nat × Nat)} {ws : List Cond} {rm : Room} {Pc : Array Value → State → Prop} {Qc : Array Value → State → Outcome → State → Prop} {free : Addr → Prop} {Ts : List Cond} {own C : String} {b : Addr} {As rest : List Value} {g : JFrame}
    (S : CallFix p m c cc nL s args Ts own) (hM : Met l y ws rm Pc Qc mc ms free) (cw : vx_CVW R s args own C index y bytes maxL ret hh ws rm mc ms n) (hp : PreV s H C b Pc As)
    (hg : g.method = m) (hn : As.length = n) (hsize : g.locals.size = nL) (hstack : g.stack = As.reverse ++ .ref b :: rest) (hW : 2 * g.monitorRoom + (rest.map fun v => v.category).sum ≤ 8) (hdg : decode cc g.pc = .ok (.invokevirtual index, 3)) (hf : cells + mc ≤ R.cells ∧ slots + ms ≤ R.slots) :
    va_Run p l e R s m args below meth c H locs cells slots mc ms g rest (Qc (Value.ref b :: As).toArray) free := by
  obtain ⟨⟨hrc, hrs, hfr, hlo, hws, hcw⟩, hcode, hini, hy, hlen, hl, hin, hse⟩ := cw
  have hK : Back l R p e below s args y 3 8 (PreOf R mc ms Pc) (PostOf Qc mc ms free) := va_backW (hh := hh) (bytes := bytes) (maxL := maxL) (ret := ret) hM hp.1 hrc hrs hfr hlo hws hcw (fun a' U hW => word_at hW (Or.inl (by first | rfl | simp [Cond.onTables, Cond.keeps, Cond.steady])) hini)
  obtain ⟨hx, hb, hml, ho, -⟩ := S
  obtain ⟨-, ⟨cellB, hcB, hoB, hclB⟩, hPc⟩ := hp
  intro T hT X
  obtain ⟨v, vm₁, ⟨U', l2, c2, s2⟩, hW₁, X', ⟨g', mk, t, L, e1, e2, hq, h1, hL, h2, h3⟩, st⟩ := vx_callVW X hx (C := C) (hh := hh) (bytes := bytes) (maxL := maxL) (ret := ret) ho hl hin hse hcode hy hK (by rw [hT]; exact hcB) hoB hclB hg (hsize.trans hml.symm) (argsL := As) (rest := rest) (fun sig h => hn.trans (hlen sig h)) hstack hW (by rw [hb]; exact hdg)
    (fun vm₁ hW₁ => ⟨hf.1, hf.2, hPc (T.setVm vm₁) hT hW₁⟩)
  dsimp only [Pt.U, Pt.locs, Pt.cells, Pt.slots] at X' e1 e2 h1 h2 h3 st
  subst h1; subst h2; subst h3
  exact ⟨v, (T.setVm vm₁).calling g' mk (Value.ref b :: As).toArray, t, U', L, hT, X', hL, e1, e2, hq, st⟩
section
variable {y : MethodName} {bytes cc : ByteArray} {maxL nL mc ms n index : Nat} {ret : Option FieldType} {ws : List Cond} {rm : Room} {Pc : Array Value → State → Prop} {Qc : Array Value → State → Outcome → State → Prop} {XC : String → State → State → Prop} {free : Addr → Prop} {Ts : List Cond} {own C : String} {b : Addr} {As rest : List Value} {g : JFrame}
theorem vx_runVX {hh : List (Nat × Nat × Nat × Nat)} (S : CallFix p m c cc nL s args Ts own) (hM : vx_Met l y ws rm Pc Qc XC mc ms free) (cw : vx_CVW R s args own C index y bytes maxL ret hh ws rm mc ms n) (hp : PreV s H C b Pc As)
    (hg : g.method = m) (hn : As.length = n) (hsize : g.locals.size = nL) (hstack : g.stack = As.reverse ++ .ref b :: rest) (hW : 2 * g.monitorRoom + (rest.map fun v => v.category).sum ≤ 8) (hdg : decode cc g.pc = .ok (.invokevirtual index, 3)) (hf : cells + mc ≤ R.cells ∧ slots + ms ≤ R.slots) :
    vx_Run p l e R s m args below meth c H locs cells slots mc ms g rest (Qc (Value.ref b :: As).toArray) XC free := by
  obtain ⟨⟨hrc, hrs, hfr, hlo, hws, hcw⟩, hcode, hini, hy, hlen, hl, hin, hse⟩ := cw
  have hK : vx_Back l R p e below s args y 3 8 (PreOf R mc ms Pc) (PostOf Qc mc ms free) (vx_Post XC mc ms free) := vx_backW (hh := hh) (bytes := bytes) (maxL := maxL) (ret := ret) hM hp.1 hrc hrs hfr hlo hws hcw (fun a' U hW => word_at hW (Or.inl (by first | rfl | simp [Cond.onTables, Cond.keeps, Cond.steady])) hini)
  obtain ⟨hx, hb, hml, ho, -⟩ := S
  obtain ⟨-, ⟨cellB, hcB, hoB, hclB⟩, hPc⟩ := hp
  intro T hT X
  rcases vx_callVX X hx (C := C) (hh := hh) (bytes := bytes) (maxL := maxL) (ret := ret) ho hl hin hse hcode hy hK (by rw [hT]; exact hcB) hoB hclB hg (hsize.trans hml.symm) (argsL := As) (rest := rest) (fun sig h => hn.trans (hlen sig h)) hstack hW (by rw [hb]; exact hdg)
    (fun vm₁ hW₁ => ⟨hf.1, hf.2, hPc (T.setVm vm₁) hT hW₁⟩) with ⟨v, vm₁, ⟨U', l2, c2, s2⟩, hW₁, X', ⟨g', mk, t, L, e1, e2, hq, h1, hL, h2, h3⟩, st⟩ | ⟨q, vm₁, ⟨U', l2, c2, s2⟩, hW₁, X', ⟨g', mk, t, L, E, ce, e1, e2, hq, hce, hcv, hcl, h1, hL, h2, h3⟩, st⟩
  · dsimp only [Pt.U, Pt.locs, Pt.cells, Pt.slots] at X' e1 e2 h1 h2 h3 st
    subst h1; subst h2; subst h3
    exact Or.inl ⟨v, (T.setVm vm₁).calling g' mk (Value.ref b :: As).toArray, t, U', L, hT, X', hL, e1, e2, hq, st⟩
  · dsimp only [Pt.U, Pt.locs, Pt.cells, Pt.slots] at X' e1 e2 h1 h2 h3 st hcl
    subst h1; subst h2; subst h3
    exact Or.inr ⟨q, (T.setVm vm₁).calling g' mk (Value.ref b :: As).toArray, t, U', L, E, ce, hT, X', hL, e1, e2, hq, hce, hcv, vx_cls hW₁ hcl, st⟩
theorem vx_runSX {hh : List (Nat × Nat × Nat × Nat)} (S : CallFix p m c cc nL s args Ts own) (hM : vx_Met l y ws rm Pc Qc XC mc ms free) (cw : vx_CSW R s args own index y bytes maxL ret hh ws rm mc ms n) (hp : PreS s H Pc As)
    (hg : g.method = m) (hn : As.length = n) (hsize : g.locals.size = nL) (hstack : g.stack = As.reverse ++ rest) (hW : 2 * g.monitorRoom + (rest.map fun v => v.category).sum ≤ 8) (hdg : decode cc g.pc = .ok (.invokestatic index, 3)) (hf : cells + mc ≤ R.cells ∧ slots + ms ≤ R.slots) :
    vx_Run p l e R s m args below meth c H locs cells slots mc ms g rest (Qc As.toArray) XC free := by
  obtain ⟨⟨hrc, hrs, hfr, hlo, hws, hcw⟩, hcode, hini, hy, hlen, hl, hstt⟩ := cw
  have hK : vx_Back l R p e below s args y 3 8 (PreOf R mc ms Pc) (PostOf Qc mc ms free) (vx_Post XC mc ms free) := vx_backW (hh := hh) (bytes := bytes) (maxL := maxL) (ret := ret) hM hp.1 hrc hrs hfr hlo hws hcw (fun a' U hW => word_at hW (Or.inl (by first | rfl | simp [Cond.onTables, Cond.keeps, Cond.steady])) hini)
  obtain ⟨hx, hb, hml, ho, -⟩ := S
  intro T hT X
  rcases vx_callSX X hx (hh := hh) (bytes := bytes) (maxL := maxL) (ret := ret) ho hl hstt hini hcode hy hK hg (hsize.trans hml.symm) (argsL := As) (rest := rest) (fun sig h => hn.trans (hlen sig h)) hstack hW (by rw [hb]; exact hdg)
    (fun vm₁ hW₁ => ⟨hf.1, hf.2, hp.2 (T.setVm vm₁) hT hW₁⟩) with ⟨v, vm₁, ⟨U', l2, c2, s2⟩, hW₁, X', ⟨g', mk, t, L, e1, e2, hq, h1, hL, h2, h3⟩, st⟩ | ⟨q, vm₁, ⟨U', l2, c2, s2⟩, hW₁, X', ⟨g', mk, t, L, E, ce, e1, e2, hq, hce, hcv, hcl, h1, hL, h2, h3⟩, st⟩
  · dsimp only [Pt.U, Pt.locs, Pt.cells, Pt.slots] at X' e1 e2 h1 h2 h3 st
    subst h1; subst h2; subst h3
    exact Or.inl ⟨v, (T.setVm vm₁).calling g' mk As.toArray, t, U', L, hT, X', hL, e1, e2, hq, st⟩
  · dsimp only [Pt.U, Pt.locs, Pt.cells, Pt.slots] at X' e1 e2 h1 h2 h3 st hcl
    subst h1; subst h2; subst h3
    exact Or.inr ⟨q, (T.setVm vm₁).calling g' mk As.toArray, t, U', L, E, ce, hT, X', hL, e1, e2, hq, hce, hcv, vx_cls hW₁ hcl, st⟩
end
end VXH
theorem vx_ofWH {l : Launch} {y : MethodName} {ws ws' : List Cond} {rm : Room} {Pc : Array Value → State → Prop} {Qc : Array Value → State → Outcome → State → Prop} {XC : String → State → State → Prop} {mc ms : Nat} {free : Addr → Prop} {cc : ByteArray} {maxL : Nat} {ret : Option FieldType} {hh : List (Nat × Nat × Nat × Nat)}
    (hy : plainName y.cls = true) (hw : ws = Cond.codeWith y cc maxL ret hh :: ws')
    (body : ∀ p e s m args below meth c s₁, BodyLoose p l y (headSpec ws rm) cc maxL ret e s m args below meth c s₁ → c.maxLocals = maxL → Pc args s →
      W p l e (headSpec ws rm).room s m args below meth c s.heap [] 0 0 (vx_MQ below Qc XC args s mc ms free) (entryFrame m args maxL)) : vx_Met l y ws rm Pc Qc XC mc ms free := by
  refine MetFree.of_bodyS (code := cc) (maxLocals := maxL) (ret := ret) hy ?_ ?_
  · intro args s m h hn
    obtain ⟨m9, meth, c, hn9, h1, h2, h3, h4, -, h5, h6, -⟩ := Cond.codeWith_spec (atoms_spec (ws := ws) h _ (by rw [hw]; exact List.mem_cons_self))
    cases hn.symm.trans hn9
    exact ⟨meth, c, h1, h2, h3, h4, h5, h6⟩
  · intro p e s m args below meth c s₁ B hml hP _
    have hh0 : s₁.heap = s.heap := by rw [B.state]; rfl
    obtain ⟨t, a1, o, b1, b2, b3⟩ := body p e s m args below meth c s₁ B hml hP s₁ hh0 (Stand.of_body B)
    exact ⟨t, o, a1, b1, b2, b3⟩
/-! ===== END ===== -/
end
section
/-! NAMES of methods, written by a program out of the listing -/
def y_TK_init : MethodName := ⟨"TrackKeeper", "<init>", "()V"⟩
def y_TK_section : MethodName := ⟨"TrackKeeper", "section", "()I"⟩
def y_TK_sub : MethodName := ⟨"TrackKeeper", "sub", "(I)I"⟩
def y_TK_begin : MethodName := ⟨"TrackKeeper", "begin", "(III)I"⟩
def y_TK_clear : MethodName := ⟨"TrackKeeper", "clear", "()V"⟩
def y_TK_detect : MethodName := ⟨"TrackKeeper", "detect", "(IZ)V"⟩
def y_TK_connect : MethodName := ⟨"TrackKeeper", "connect", "(II)V"⟩
def y_TK_report : MethodName := ⟨"TrackKeeper", "report", "(III)Z"⟩
def y_TK_leave : MethodName := ⟨"TrackKeeper", "leave", "(I)V"⟩
def y_TK_tick : MethodName := ⟨"TrackKeeper", "tick", "(I)I"⟩
def y_TK_request : MethodName := ⟨"TrackKeeper", "request", "(II)I"⟩
def y_TK_state : MethodName := ⟨"TrackKeeper", "state", "(I)I"⟩
def y_TK_train : MethodName := ⟨"TrackKeeper", "train", "(II)I"⟩
def y_TK_count : MethodName := ⟨"TrackKeeper", "count", "(II)I"⟩
def y_TK_countSinceBegin : MethodName := ⟨"TrackKeeper", "countSinceBegin", "(II)I"⟩
def y_TK_requireBegun : MethodName := ⟨"TrackKeeper", "requireBegun", "()V"⟩
def y_TK_requireConnected : MethodName := ⟨"TrackKeeper", "requireConnected", "(I)V"⟩
def y_TK_isTrain : MethodName := ⟨"TrackKeeper", "isTrain", "(I)Z"⟩
def y_TK_isWithin : MethodName := ⟨"TrackKeeper", "isWithin", "(III)Z"⟩
def y_TK_findAllAnew : MethodName := ⟨"TrackKeeper", "findAllAnew", "()V"⟩
def y_Mo_init : MethodName := ⟨"TrackKeeperModel", "<init>", "()V"⟩
def y_Mo_thrown : MethodName := ⟨"TrackKeeperModel", "thrown", "()I"⟩
def y_Mo_in : MethodName := ⟨"TrackKeeperModel", "in", "(III)Z"⟩
def y_Mo_fails : MethodName := ⟨"TrackKeeperModel", "fails", "(ZI)Z"⟩
def y_Mo_isWaiting : MethodName := ⟨"TrackKeeperModel", "isWaiting", "()Z"⟩
def y_Mo_section : MethodName := ⟨"TrackKeeperModel", "section", "()I"⟩
def y_Mo_sub : MethodName := ⟨"TrackKeeperModel", "sub", "(I)I"⟩
def y_Mo_begin : MethodName := ⟨"TrackKeeperModel", "begin", "(III)I"⟩
def y_Mo_reset : MethodName := ⟨"TrackKeeperModel", "reset", "()V"⟩
def y_Mo_clear : MethodName := ⟨"TrackKeeperModel", "clear", "()V"⟩
def y_Mo_subOf : MethodName := ⟨"TrackKeeperModel", "subOf", "(I)I"⟩
def y_Mo_isLocated : MethodName := ⟨"TrackKeeperModel", "isLocated", "(I)Z"⟩
def y_Mo_isWhole : MethodName := ⟨"TrackKeeperModel", "isWhole", "(I)Z"⟩
def y_Mo_find : MethodName := ⟨"TrackKeeperModel", "find", "()V"⟩
def y_Mo_only : MethodName := ⟨"TrackKeeperModel", "only", "(I)I"⟩
def y_Mo_found : MethodName := ⟨"TrackKeeperModel", "found", "(I)I"⟩
def y_Mo_authority : MethodName := ⟨"TrackKeeperModel", "authority", "(I)V"⟩
def y_Mo_holds : MethodName := ⟨"TrackKeeperModel", "holds", "(I)Z"⟩
def y_Mo_settle : MethodName := ⟨"TrackKeeperModel", "settle", "()V"⟩
def y_Mo_detect : MethodName := ⟨"TrackKeeperModel", "detect", "(IZ)V"⟩
def y_Mo_connect : MethodName := ⟨"TrackKeeperModel", "connect", "(II)V"⟩
def y_Mo_report : MethodName := ⟨"TrackKeeperModel", "report", "(III)Z"⟩
def y_Mo_leave : MethodName := ⟨"TrackKeeperModel", "leave", "(I)V"⟩
def y_Mo_tick : MethodName := ⟨"TrackKeeperModel", "tick", "(I)I"⟩
def y_Mo_request : MethodName := ⟨"TrackKeeperModel", "request", "(II)I"⟩
def y_Mo_isTaken : MethodName := ⟨"TrackKeeperModel", "isTaken", "(II)Z"⟩
def y_Mo_state : MethodName := ⟨"TrackKeeperModel", "state", "(I)I"⟩
def y_Mo_train : MethodName := ⟨"TrackKeeperModel", "train", "(II)I"⟩
def y_Mo_count : MethodName := ⟨"TrackKeeperModel", "count", "(II)I"⟩
def y_Au_init : MethodName := ⟨"TrackKeeper$Authorities", "<init>", "()V"⟩
def y_Au_forgetCounts : MethodName := ⟨"TrackKeeper$Authorities", "forgetCounts", "()V"⟩
def y_Au_extend : MethodName := ⟨"TrackKeeper$Authorities", "extend", "(IILTrackKeeper$Track;[LTrackKeeper$Train;)V"⟩
def y_Au_isHeldByOther : MethodName := ⟨"TrackKeeper$Authorities", "isHeldByOther", "(II[LTrackKeeper$Train;)Z"⟩
def y_Au_settle : MethodName := ⟨"TrackKeeper$Authorities", "settle", "(LTrackKeeper$Track;[LTrackKeeper$Train;)V"⟩
def y_Au_settleOne : MethodName := ⟨"TrackKeeper$Authorities", "settleOne", "(LTrackKeeper$Train;LTrackKeeper$Track;)V"⟩
def y_Se_init : MethodName := ⟨"TrackKeeper$Section", "<init>", "()V"⟩
def y_Su_init : MethodName := ⟨"TrackKeeper$Subsection", "<init>", "()V"⟩
def y_Tr_init : MethodName := ⟨"TrackKeeper$Track", "<init>", "()V"⟩
def y_Tr_removeAll : MethodName := ⟨"TrackKeeper$Track", "removeAll", "()V"⟩
def y_Tr_latestIsBare : MethodName := ⟨"TrackKeeper$Track", "latestIsBare", "()Z"⟩
def y_Tr_hasSection : MethodName := ⟨"TrackKeeper$Track", "hasSection", "(I)Z"⟩
def y_Tr_hasSubsection : MethodName := ⟨"TrackKeeper$Track", "hasSubsection", "(I)Z"⟩
def y_Tr_addSection : MethodName := ⟨"TrackKeeper$Track", "addSection", "()I"⟩
def y_Tr_addSubsection : MethodName := ⟨"TrackKeeper$Track", "addSubsection", "(I)I"⟩
def y_Tr_emptyAll : MethodName := ⟨"TrackKeeper$Track", "emptyAll", "()V"⟩
def y_Tr_subsectionAt : MethodName := ⟨"TrackKeeper$Track", "subsectionAt", "(I)I"⟩
def y_Tr_countForSpreads : MethodName := ⟨"TrackKeeper$Track", "countForSpreads", "(I)V"⟩
def y_Tr_countForSpread : MethodName := ⟨"TrackKeeper$Track", "countForSpread", "(LTrackKeeper$Section;I)V"⟩
def y_Tr_isUnsure : MethodName := ⟨"TrackKeeper$Track", "isUnsure", "(LTrackKeeper$Section;)Z"⟩
def y_Tr_findStates : MethodName := ⟨"TrackKeeper$Track", "findStates", "([LTrackKeeper$Train;)V"⟩
def y_Tr_markTrains : MethodName := ⟨"TrackKeeper$Track", "markTrains", "([LTrackKeeper$Train;)V"⟩
def y_Tr_markTrain : MethodName := ⟨"TrackKeeper$Track", "markTrain", "(LTrackKeeper$Train;I)V"⟩
def y_Tr_nothingCanFollow : MethodName := ⟨"TrackKeeper$Track", "nothingCanFollow", "(I)Z"⟩
def y_Tr_newState : MethodName := ⟨"TrackKeeper$Track", "newState", "(LTrackKeeper$Subsection;I[LTrackKeeper$Train;)I"⟩
def y_Ti_init : MethodName := ⟨"TrackKeeper$Train", "<init>", "()V"⟩
def y_Ti_forgetAll : MethodName := ⟨"TrackKeeper$Train", "forgetAll", "()V"⟩
def y_Ti_join : MethodName := ⟨"TrackKeeper$Train", "join", "(I)V"⟩
def y_Ti_wasBeyond : MethodName := ⟨"TrackKeeper$Train", "wasBeyond", "(I)Z"⟩
def y_Ti_take : MethodName := ⟨"TrackKeeper$Train", "take", "(IIILTrackKeeper$Track;)V"⟩
def y_Ti_judge : MethodName := ⟨"TrackKeeper$Train", "judge", "(III)V"⟩
def y_Ti_hasLeft : MethodName := ⟨"TrackKeeper$Train", "hasLeft", "(I)Z"⟩
def y_Ti_holds : MethodName := ⟨"TrackKeeper$Train", "holds", "(I)Z"⟩
def y_Ti_tell : MethodName := ⟨"TrackKeeper$Train", "tell", "(I)I"⟩
def y_La_section : MethodName := ⟨"TrackKeeperLaw", "section", "(LTrackKeeper;[J)I"⟩
def y_La_sub : MethodName := ⟨"TrackKeeperLaw", "sub", "(LTrackKeeper;I[J)I"⟩
def y_La_begin : MethodName := ⟨"TrackKeeperLaw", "begin", "(LTrackKeeper;III[J)I"⟩
def y_La_detect : MethodName := ⟨"TrackKeeperLaw", "detect", "(LTrackKeeper;IZ)I"⟩
def y_La_connect : MethodName := ⟨"TrackKeeperLaw", "connect", "(LTrackKeeper;II)I"⟩
def y_La_report : MethodName := ⟨"TrackKeeperLaw", "report", "(LTrackKeeper;III[J)I"⟩
def y_La_leave : MethodName := ⟨"TrackKeeperLaw", "leave", "(LTrackKeeper;I)I"⟩
def y_La_tick : MethodName := ⟨"TrackKeeperLaw", "tick", "(LTrackKeeper;I[J)I"⟩
def y_La_request : MethodName := ⟨"TrackKeeperLaw", "request", "(LTrackKeeper;II[J)I"⟩
def y_La_state : MethodName := ⟨"TrackKeeperLaw", "state", "(LTrackKeeper;I[J)I"⟩
def y_La_train : MethodName := ⟨"TrackKeeperLaw", "train", "(LTrackKeeper;II[J)I"⟩
def y_La_count : MethodName := ⟨"TrackKeeperLaw", "count", "(LTrackKeeper;II[J)I"⟩
def y_La_law : MethodName := ⟨"TrackKeeperLaw", "law", "([I)Z"⟩
def y_In_bitCount : MethodName := ⟨"java/lang/Integer", "bitCount", "(I)I"⟩
end
section
/-! KINDS of objects and their slots, written by a program -/
def tk_T0 : u_T := fun k => match k with
  | 0 => ("TrackKeeper", "track", "LTrackKeeper$Track;", true)
  | 1 => ("TrackKeeper", "trains", "[LTrackKeeper$Train;", true)
  | 2 => ("TrackKeeper", "authorities", "LTrackKeeper$Authorities;", true)
  | 3 => ("TrackKeeper", "begun", "Z", false)
  | 4 => ("TrackKeeper", "mute", "I", false)
  | 5 => ("TrackKeeper", "keep", "I", false)
  | 6 => ("TrackKeeper", "spread", "I", false)
  | _ => ("TrackKeeper", "time", "I", false)
def tk_T1 : u_T := fun k => match k with
  | 0 => ("TrackKeeper$Track", "sections", "[LTrackKeeper$Section;", true)
  | 1 => ("TrackKeeper$Track", "subs", "[LTrackKeeper$Subsection;", true)
  | 2 => ("TrackKeeper$Track", "sectionCount", "I", false)
  | 3 => ("TrackKeeper$Track", "subCount", "I", false)
  | 4 => ("TrackKeeper$Track", "length", "I", false)
  | _ => ("TrackKeeper$Track", "spreadsDue", "I", false)
def tk_T2 : u_T := fun k => match k with
  | 0 => ("TrackKeeper$Authorities", "shortened", "I", false)
  | _ => ("TrackKeeper$Authorities", "withdrawn", "I", false)
def tk_T3 : u_T := fun k => match k with
  | 0 => ("TrackKeeper$Section", "first", "I", false)
  | 1 => ("TrackKeeper$Section", "last", "I", false)
  | 2 => ("TrackKeeper$Section", "filled", "Z", false)
  | 3 => ("TrackKeeper$Section", "counted", "I", false)
  | 4 => ("TrackKeeper$Section", "due", "Z", false)
  | _ => ("TrackKeeper$Section", "reached", "Z", false)
def tk_T4 : u_T := fun k => match k with
  | 0 => ("TrackKeeper$Subsection", "section", "I", false)
  | 1 => ("TrackKeeper$Subsection", "start", "I", false)
  | 2 => ("TrackKeeper$Subsection", "state", "I", false)
  | 3 => ("TrackKeeper$Subsection", "covers", "I", false)
  | _ => ("TrackKeeper$Subsection", "coverer", "I", false)
def tk_T5 : u_T := fun k => match k with
  | 0 => ("TrackKeeper$Train", "connected", "Z", false)
  | 1 => ("TrackKeeper$Train", "length", "I", false)
  | 2 => ("TrackKeeper$Train", "reported", "Z", false)
  | 3 => ("TrackKeeper$Train", "reportTime", "I", false)
  | 4 => ("TrackKeeper$Train", "front", "I", false)
  | 5 => ("TrackKeeper$Train", "frontSub", "I", false)
  | 6 => ("TrackKeeper$Train", "rearSub", "I", false)
  | 7 => ("TrackKeeper$Train", "confirmed", "Z", false)
  | 8 => ("TrackKeeper$Train", "confirmTime", "I", false)
  | 9 => ("TrackKeeper$Train", "located", "Z", false)
  | 10 => ("TrackKeeper$Train", "whole", "Z", false)
  | 11 => ("TrackKeeper$Train", "occupies", "Z", false)
  | _ => ("TrackKeeper$Train", "end", "I", false)
def tk_T6 : u_T := fun k => match k with
  | 0 => ("TrackKeeperModel", "err", "I", false)
  | 1 => ("TrackKeeperModel", "sections", "I", false)
  | 2 => ("TrackKeeperModel", "subs", "I", false)
  | 3 => ("TrackKeeperModel", "time", "I", false)
  | 4 => ("TrackKeeperModel", "mute", "I", false)
  | 5 => ("TrackKeeperModel", "keep", "I", false)
  | 6 => ("TrackKeeperModel", "spread", "I", false)
  | 7 => ("TrackKeeperModel", "shortened", "I", false)
  | 8 => ("TrackKeeperModel", "withdrawn", "I", false)
  | 9 => ("TrackKeeperModel", "dues", "I", false)
  | 10 => ("TrackKeeperModel", "length", "I", false)
  | 11 => ("TrackKeeperModel", "begun", "Z", false)
  | 12 => ("TrackKeeperModel", "sectionOf", "[I", true)
  | 13 => ("TrackKeeperModel", "start", "[I", true)
  | 14 => ("TrackKeeperModel", "firstOf", "[I", true)
  | 15 => ("TrackKeeperModel", "counted", "[I", true)
  | 16 => ("TrackKeeperModel", "state", "[I", true)
  | 17 => ("TrackKeeperModel", "was", "[I", true)
  | 18 => ("TrackKeeperModel", "cover", "[I", true)
  | 19 => ("TrackKeeperModel", "before", "[I", true)
  | 20 => ("TrackKeeperModel", "full", "[Z", true)
  | 21 => ("TrackKeeperModel", "due", "[Z", true)
  | 22 => ("TrackKeeperModel", "connected", "[Z", true)
  | 23 => ("TrackKeeperModel", "reported", "[Z", true)
  | 24 => ("TrackKeeperModel", "confirmed", "[Z", true)
  | 25 => ("TrackKeeperModel", "size", "[I", true)
  | 26 => ("TrackKeeperModel", "front", "[I", true)
  | 27 => ("TrackKeeperModel", "rear", "[I", true)
  | 28 => ("TrackKeeperModel", "reportAt", "[I", true)
  | 29 => ("TrackKeeperModel", "confirmedAt", "[I", true)
  | 30 => ("TrackKeeperModel", "end", "[I", true)
  | 31 => ("TrackKeeperModel", "told", "[Z", true)
  | 32 => ("TrackKeeperModel", "located", "[Z", true)
  | 33 => ("TrackKeeperModel", "first", "[I", true)
  | _ => ("TrackKeeperModel", "last", "[I", true)
def tk_cl : List vw_C := [("TrackKeeper", tk_T0, 8), ("TrackKeeper$Track", tk_T1, 6), ("TrackKeeper$Authorities", tk_T2, 2), ("TrackKeeper$Section", tk_T3, 6), ("TrackKeeper$Subsection", tk_T4, 5), ("TrackKeeper$Train", tk_T5, 13), ("TrackKeeperModel", tk_T6, 35)]
def tk_nc : Nat := 81
def tk_sc : Nat := 99
/-- arrays: cell, type (0 int, 1 boolean, 2 long, 3 Train, 4 Section, 5 Subsection), length, the cell of its first object -/
def tk_ars : List (Nat × Nat × Nat × Nat) := [(0, 2, 1, 0), (4, 3, 8, 73), (5, 4, 10, 31), (6, 5, 32, 41), (8, 0, 32, 0), (9, 0, 33, 0), (10, 0, 10, 0), (11, 0, 10, 0), (12, 0, 32, 0), (13, 0, 32, 0), (14, 0, 32, 0), (15, 0, 32, 0), (16, 1, 10, 0), (17, 1, 10, 0), (18, 1, 8, 0), (19, 1, 8, 0), (20, 1, 8, 0), (21, 0, 8, 0), (22, 0, 8, 0), (23, 0, 8, 0), (24, 0, 8, 0), (25, 0, 8, 0), (26, 0, 8, 0), (27, 1, 10, 0), (28, 1, 8, 0), (29, 0, 8, 0), (30, 0, 8, 0)]
def tk_sh (c : Nat) : (Nat × List (Option Nat)) ⊕ (Nat × Nat × Option Nat) := match c with
  | 0 => .inr (2, 1, none)
  | 1 => .inl (0, [some 2, some 4, some 3, none, none, none, none, none])
  | 2 => .inl (1, [some 5, some 6, none, none, none, none])
  | 3 => .inl (2, [none, none])
  | 4 => .inr (3, 8, some 73)
  | 5 => .inr (4, 10, some 31)
  | 6 => .inr (5, 32, some 41)
  | 7 => .inl (6, [none, none, none, none, none, none, none, none, none, none, none, none, some 8, some 9, some 10, some 11, some 12, some 13, some 14, some 15, some 16, some 17, some 18, some 19, some 20, some 21, some 22, some 23, some 24, some 25, some 26, some 27, some 28, some 29, some 30])
  | 8 => .inr (0, 32, none)
  | 9 => .inr (0, 33, none)
  | 10 => .inr (0, 10, none)
  | 11 => .inr (0, 10, none)
  | 12 => .inr (0, 32, none)
  | 13 => .inr (0, 32, none)
  | 14 => .inr (0, 32, none)
  | 15 => .inr (0, 32, none)
  | 16 => .inr (1, 10, none)
  | 17 => .inr (1, 10, none)
  | 18 => .inr (1, 8, none)
  | 19 => .inr (1, 8, none)
  | 20 => .inr (1, 8, none)
  | 21 => .inr (0, 8, none)
  | 22 => .inr (0, 8, none)
  | 23 => .inr (0, 8, none)
  | 24 => .inr (0, 8, none)
  | 25 => .inr (0, 8, none)
  | 26 => .inr (0, 8, none)
  | 27 => .inr (1, 10, none)
  | 28 => .inr (1, 8, none)
  | 29 => .inr (0, 8, none)
  | 30 => .inr (0, 8, none)
  | n + 31 => if n < 10 then .inl (3, [none, none, none, none, none, none]) else if n < 42 then .inl (4, [none, none, none, none, none]) else .inl (5, [none, none, none, none, none, none, none, none, none, none, none, none, none])
theorem tk_ars_ok : ∀ q ∈ tk_ars, q.1 < tk_nc ∧ tk_sh q.1 = .inr (q.2.1, q.2.2.1, if q.2.1 < 3 then none else some q.2.2.2) ∧ q.2.2.1 < 1000 ∧ q.2.1 < 6 := by decide +kernel
end
section
/-! THE ONE WORLD: all cells that the class and its reference hold once they are made, by their places: 0 the law's long[1]; then the class's objects, then the reference's -/
abbrev tk_M : Type := Nat → Nat → Int
/-- where a run is: the cells' addresses, the kinds' numbers and slots, the array kinds' numbers -/
abbrev tk_G : Type := (Nat → Nat) × va_G × (Nat → ClassId)
def tk_up (M : tk_M) (c j : Nat) (v : Int) : tk_M := fun a b => if a = c ∧ b = j then v else M a b
def tk_cv (G : tk_G) (v : (Int ⊕ Nat) ⊕ Int) : Value := match v with
  | .inl (.inl x) => .int (Int32.ofInt x)
  | .inl (.inr c) => .ref (G.1 c)
  | .inr x => .long (Int64.ofInt x)
def tk_fv (G : tk_G) (o : Option Nat) (x : Int) : Value := match o with
  | none => .int (Int32.ofInt x)
  | some r => .ref (G.1 r)

def tk_ent (G : tk_G) (M : tk_M) (c : Nat) : va_E := match tk_sh c with
  | .inl (ci, fs) => .inr (ci, (List.range fs.length).map fun j => tk_fv G (fs.getD j none) (M c j))
  | .inr (ty, n, some b) => .inl (G.2.2 ty, n, .inr (.inr (.inr (.inr fun j => some (G.1 (b + j))))))
  | .inr (ty, n, none) => .inl (G.2.2 ty, n, if ty = 2 then .inr (.inl fun j => Int64.ofInt (M c j)) else .inl fun j => Int32.ofInt (M c j))
def tk_ws (G : tk_G) (M : tk_M) : va_W := (List.range tk_nc).map fun c => (G.1 c, tk_ent G M c)
def tk_Wd (G : tk_G) (M : tk_M) (H : Heap) : Prop := va_P G.2.1 tk_cl (tk_ws G M) H ∧ ∀ c j, -2147483648 ≤ M c j ∧ M c j < 2147483648
def tk_St (G : tk_G) (A : Nat → Prop) : Prop := (∀ i j, i < tk_nc → j < tk_nc → G.1 i = G.1 j → i = j) ∧ ∀ i, i < tk_nc → A (G.1 i)
theorem tk_ws_at {G : tk_G} {M : tk_M} {c : Nat} (h : c < tk_nc) : (tk_ws G M)[c]? = some (G.1 c, tk_ent G M c) := by
  simp [tk_ws, List.getElem?_range, h]
theorem tk_ws_some {G : tk_G} {M : tk_M} {c : Nat} {q : Nat × va_E} (h : (tk_ws G M)[c]? = some q) : c < tk_nc ∧ q = (G.1 c, tk_ent G M c) := by
  by_cases hc : c < tk_nc
  · rw [tk_ws_at hc] at h
    exact ⟨hc, (Option.some.inj h).symm⟩
  · have : (tk_ws G M)[c]? = none := by
      rw [List.getElem?_eq_none_iff]
      simp [tk_ws]
      omega
    rw [this] at h
    cases h
theorem tk_St.D {G : tk_G} {A : Nat → Prop} (h : tk_St G A) {M : tk_M} : va_D A (tk_ws G M) := by
  refine ⟨fun i j p q hi hj e => ?_, fun k q hk => ?_⟩
  · obtain ⟨h1, rfl⟩ := tk_ws_some hi
    obtain ⟨h2, rfl⟩ := tk_ws_some hj
    exact h.1 i j h1 h2 e
  · obtain ⟨h1, rfl⟩ := tk_ws_some hk
    exact h.2 k h1
theorem tk_ent_eq {G : tk_G} {M M' : tk_M} {c : Nat} (h : ∀ j, M' c j = M c j) : tk_ent G M' c = tk_ent G M c := by
  have e : M' c = M c := funext h
  unfold tk_ent
  rw [e]
theorem tk_ws_set {G : tk_G} {M M' : tk_M} {c : Nat} {E : va_E} (hc : c < tk_nc) (h : ∀ a, a ≠ c → ∀ j, M' a j = M a j) (he : tk_ent G M' c = E) : (tk_ws G M).set c (G.1 c, E) = tk_ws G M' := by
  apply List.ext_getElem?
  intro k
  rw [List.getElem?_set]
  have hlen : (tk_ws G M).length = tk_nc := by simp [tk_ws]
  by_cases hk : k < tk_nc
  · rw [tk_ws_at (M := M') hk]
    by_cases e : c = k
    · subst e
      rw [if_pos rfl, hlen, if_pos hk, he]
    · rw [if_neg e, tk_ws_at (M := M) hk, tk_ent_eq (h k (fun z => e z.symm))]
  · have e1 : (tk_ws G M')[k]? = none := by
      rw [List.getElem?_eq_none_iff]
      simp [tk_ws]
      omega
    have e2 : (tk_ws G M)[k]? = none := by
      rw [List.getElem?_eq_none_iff]
      simp [tk_ws]
      omega
    have e3 : c ≠ k := by omega
    rw [if_neg e3, e1, e2]
theorem tk_up_ne {M : tk_M} {c j : Nat} {v : Int} {a : Nat} (h : a ≠ c) (b : Nat) : tk_up M c j v a b = M a b := by
  unfold tk_up
  rw [if_neg (fun z => h z.1)]
theorem tk_up_r {M : tk_M} {c j : Nat} {v : Int} (hM : ∀ c j, -2147483648 ≤ M c j ∧ M c j < 2147483648) (hv : -2147483648 ≤ v ∧ v < 2147483648) (a b : Nat) : -2147483648 ≤ tk_up M c j v a b ∧ tk_up M c j v a b < 2147483648 := by
  unfold tk_up
  split
  · exact hv
  · exact hM a b
theorem tk_ws_obj {G : tk_G} {M : tk_M} {c ci : Nat} {fs : List (Option Nat)} (hc : c < tk_nc) (hs : tk_sh c = .inl (ci, fs)) : (tk_ws G M)[c]? = some (G.1 c, .inr (ci, (List.range fs.length).map fun j => tk_fv G (fs.getD j none) (M c j))) := by
  rw [tk_ws_at hc]
  unfold tk_ent
  rw [hs]
theorem tk_fs_int {G : tk_G} {M : tk_M} {c j : Nat} {fs : List (Option Nat)} (h : j < fs.length ∧ fs.getD j none = none) : ((List.range fs.length).map fun j => tk_fv G (fs.getD j none) (M c j))[j]? = some (.int (Int32.ofInt (M c j))) := by
  rw [List.getElem?_map, List.getElem?_range h.1]
  show some (tk_fv G (fs.getD j none) (M c j)) = _
  rw [h.2]
  rfl
theorem tk_fs_ref {G : tk_G} {M : tk_M} {c j r : Nat} {fs : List (Option Nat)} (h : j < fs.length ∧ fs.getD j none = some r) : ((List.range fs.length).map fun j => tk_fv G (fs.getD j none) (M c j))[j]? = some (.ref (G.1 r)) := by
  rw [List.getElem?_map, List.getElem?_range h.1]
  show some (tk_fv G (fs.getD j none) (M c j)) = _
  rw [h.2]
  rfl
theorem tk_fs_len {G : tk_G} {M : tk_M} {c j : Nat} {o : Option Nat} {fs : List (Option Nat)} (h : j < fs.length ∧ fs.getD j none = o) : j < ((List.range fs.length).map fun j => tk_fv G (fs.getD j none) (M c j)).length := by
  simp
  exact h.1
theorem tk_ws_put {G : tk_G} {M : tk_M} {c ci j : Nat} {v : Int} {fs : List (Option Nat)} (hc : c < tk_nc) (hs : tk_sh c = .inl (ci, fs)) (h : j < fs.length ∧ fs.getD j none = none) :
    (tk_ws G M).set c (G.1 c, .inr (ci, ((List.range fs.length).map fun j => tk_fv G (fs.getD j none) (M c j)).set j (.int (Int32.ofInt v)))) = tk_ws G (tk_up M c j v) := by
  refine tk_ws_set hc (fun a ha b => tk_up_ne ha b) ?_
  unfold tk_ent
  rw [hs]
  show Sum.inr (ci, _) = Sum.inr (ci, _)
  congr 2
  apply List.ext_getElem?
  intro k
  rw [List.getElem?_set, List.getElem?_map, List.getElem?_map]
  by_cases e : j = k
  · subst e
    rw [if_pos rfl, List.getElem?_range h.1]
    simp only [List.length_map, List.length_range, h.1, if_true, Option.map_some]
    show some (tk_fv G (fs.getD j none) (tk_up M c j v c j)) = _
    rw [h.2]
    simp [tk_fv, tk_up]
  · rw [if_neg e]
    by_cases hk : k < fs.length
    · rw [List.getElem?_range hk]
      show some (tk_fv G (fs.getD k none) (tk_up M c j v c k)) = some (tk_fv G (fs.getD k none) (M c k))
      have : tk_up M c j v c k = M c k := by
        unfold tk_up
        rw [if_neg (fun z => e z.2.symm)]
      rw [this]
    · have : (List.range fs.length)[k]? = none := by
        rw [List.getElem?_eq_none_iff]
        simp
        omega
      rw [this]
      rfl
theorem tk_ws_arr {G : tk_G} {M : tk_M} {c ty n b : Nat} (h : (c, ty, n, b) ∈ tk_ars) (ht : ty < 2) : (tk_ws G M)[c]? = some (G.1 c, .inl (G.2.2 ty, n, .inl fun j => Int32.ofInt (M c j))) := by
  obtain ⟨h1, h2, -⟩ := tk_ars_ok _ h
  dsimp only at h1 h2
  rw [tk_ws_at h1]
  unfold tk_ent
  rw [h2, if_pos (by omega)]
  show some (G.1 c, Sum.inl (G.2.2 ty, n, if ty = 2 then _ else _)) = _
  rw [if_neg (by omega)]
theorem tk_ws_lng {G : tk_G} {M : tk_M} {c n b : Nat} (h : (c, 2, n, b) ∈ tk_ars) : (tk_ws G M)[c]? = some (G.1 c, .inl (G.2.2 2, n, .inr (.inl fun j => Int64.ofInt (M c j)))) := by
  obtain ⟨h1, h2, -⟩ := tk_ars_ok _ h
  dsimp only at h1 h2
  rw [tk_ws_at h1]
  unfold tk_ent
  rw [h2, if_pos (by omega)]
  rfl
theorem tk_ws_rfs {G : tk_G} {M : tk_M} {c ty n b : Nat} (h : (c, ty + 3, n, b) ∈ tk_ars) : (tk_ws G M)[c]? = some (G.1 c, .inl (G.2.2 (ty + 3), n, .inr (.inr (.inr (.inr fun j => some (G.1 (b + j))))))) := by
  obtain ⟨h1, h2, -⟩ := tk_ars_ok _ h
  dsimp only at h1 h2
  rw [tk_ws_at h1]
  unfold tk_ent
  rw [h2, if_neg (by omega)]
theorem tk_ws_ast {G : tk_G} {M : tk_M} {c ty n b : Nat} (h : (c, ty, n, b) ∈ tk_ars) (ht : ty < 2) (i : Nat) (v : Int) : (tk_ws G M).set c (G.1 c, .inl (G.2.2 ty, n, .inl (upd (fun j => Int32.ofInt (M c j)) i (Int32.ofInt v)))) = tk_ws G (tk_up M c i v) := by
  obtain ⟨h1, h2, -⟩ := tk_ars_ok _ h
  dsimp only at h1 h2
  refine tk_ws_set h1 (fun a ha b => tk_up_ne ha b) ?_
  unfold tk_ent
  rw [h2, if_pos (by omega)]
  show Sum.inl (G.2.2 ty, n, if ty = 2 then _ else _) = _
  rw [if_neg (by omega)]
  congr 3
  congr 1
  funext j
  unfold upd tk_up
  by_cases e : j = i
  · simp [e]
  · simp [e]
theorem tk_ws_lst {G : tk_G} {M : tk_M} {c n b : Nat} (h : (c, 2, n, b) ∈ tk_ars) (i : Nat) (v : Int) : (tk_ws G M).set c (G.1 c, .inl (G.2.2 2, n, .inr (.inl (vp_updL (fun j => Int64.ofInt (M c j)) i (Int64.ofInt v))))) = tk_ws G (tk_up M c i v) := by
  obtain ⟨h1, h2, -⟩ := tk_ars_ok _ h
  dsimp only at h1 h2
  refine tk_ws_set h1 (fun a ha b => tk_up_ne ha b) ?_
  unfold tk_ent
  rw [h2, if_pos (by omega)]
  show Sum.inl (G.2.2 2, n, Sum.inr (Sum.inl _)) = _
  congr 4
  congr 1
  funext j
  unfold vp_updL tk_up
  by_cases e : j = i
  · simp [e]
  · simp [e]
def tk_tys (G : tk_G) : List (ClassId × FieldType) := [(G.2.2 0, .int), (G.2.2 1, .boolean), (G.2.2 2, .long), (G.2.2 3, .object "TrackKeeper$Train"), (G.2.2 4, .object "TrackKeeper$Section"), (G.2.2 5, .object "TrackKeeper$Subsection")]
theorem tk_tys_at {G : tk_G} {c ty n b : Nat} (h : (c, ty, n, b) ∈ tk_ars) : ∃ y, (tk_tys G)[ty]? = some (G.2.2 ty, y) := by
  have h1 := (tk_ars_ok _ h).2.2.2
  dsimp only at h1
  match ty, h1 with
  | 0, _ => exact ⟨_, rfl⟩
  | 1, _ => exact ⟨_, rfl⟩
  | 2, _ => exact ⟨_, rfl⟩
  | 3, _ => exact ⟨_, rfl⟩
  | 4, _ => exact ⟨_, rfl⟩
  | 5, _ => exact ⟨_, rfl⟩
theorem tk_tys_rf {G : tk_G} {c ty n b : Nat} (h : (c, ty + 3, n, b) ∈ tk_ars) : ∃ C, (tk_tys G)[ty + 3]? = some (G.2.2 (ty + 3), .object C) := by
  have h1 := (tk_ars_ok _ h).2.2.2
  dsimp only at h1
  match ty, h1 with
  | 0, _ => exact ⟨_, rfl⟩
  | 1, _ => exact ⟨_, rfl⟩
  | 2, _ => exact ⟨_, rfl⟩
theorem tk_ws_any {G : tk_G} {M : tk_M} {c ty n b : Nat} (h : (c, ty, n, b) ∈ tk_ars) : ∃ x : vp_A, (tk_ws G M)[c]? = some (G.1 c, .inl (G.2.2 ty, x)) ∧ x.1 = n ∧ True := by
  match ty, h with
  | 0, h => exact ⟨_, tk_ws_arr h (by decide), rfl, trivial⟩
  | 1, h => exact ⟨_, tk_ws_arr h (by decide), rfl, trivial⟩
  | 2, h => exact ⟨_, tk_ws_lng h, rfl, trivial⟩
  | z + 3, h => exact ⟨_, tk_ws_rfs h, rfl, trivial⟩
end
section
/-! what the rows of a field table say -/
def tk_ho (ty : Nat) : Option Nat := match ty with
  | 0 => none
  | 1 => none
  | r + 2 => some r
def tk_shok (z : (Nat × List (Option Nat)) ⊕ (Nat × Nat × Option Nat)) (k j ty : Nat) : Bool := match z with
  | .inl q => decide (q.1 = k) && decide (j < q.2.length) && decide (q.2.getD j none = tk_ho ty)
  | .inr _ => false
def tk_fchk (own : String) (q : Nat × Nat × Nat × Nat × Nat × Nat) : Bool := match tk_cl[q.2.1]? with
  | some z => decide (q.2.2.1 < z.2.2) && decide (Jvm.Cond.fieldLink own q.1 (z.2.1 q.2.2.1).1 (z.2.1 q.2.2.1).2.1 (z.2.1 q.2.2.1).2.2.1 ∈ tk_tbl) && decide (q.2.2.2.2.1 ≤ tk_nc) &&
    (List.range tk_nc).all (fun c => !(decide (q.2.2.2.1 ≤ c) && decide (c < q.2.2.2.2.1)) || tk_shok (tk_sh c) q.2.1 q.2.2.1 q.2.2.2.2.2) &&
    (match q.2.2.2.2.2 with
      | 0 => decide ((z.2.1 q.2.2.1).2.2.1 = "I") && decide ((z.2.1 q.2.2.1).2.2.2 = false)
      | 1 => decide ((z.2.1 q.2.2.1).2.2.1 = "Z") && decide ((z.2.1 q.2.2.1).2.2.2 = false)
      | _ => true)
  | none => false
def tk_flok (own : String) (fl : List (Nat × Nat × Nat × Nat × Nat × Nat)) : Prop := ∀ q ∈ fl, tk_fchk own q = true
theorem tk_flok.get {own : String} {fl : List (Nat × Nat × Nat × Nat × Nat × Nat)} {x k j lw hg ty a : Nat} (h : tk_flok own fl) (hm : (x, k, j, lw, hg, ty) ∈ fl) (g1 : lw ≤ a) (g2 : a < hg) :
    ∃ (C : String) (T : u_T) (N : Nat) (fs : List (Option Nat)), tk_cl[k]? = some (C, T, N) ∧ j < N ∧ Jvm.Cond.fieldLink own x (T j).1 (T j).2.1 (T j).2.2.1 ∈ tk_tbl ∧ a < tk_nc ∧ tk_sh a = .inl (k, fs) ∧ (j < fs.length ∧ fs.getD j none = tk_ho ty) := by
  have h1 := h _ hm
  unfold tk_fchk at h1
  dsimp only at h1
  cases hz : tk_cl[k]? with
  | none => rw [hz] at h1; cases h1
  | some z =>
    obtain ⟨C, T, N⟩ := z
    rw [hz] at h1
    simp only [Bool.and_eq_true, decide_eq_true_eq] at h1
    obtain ⟨⟨⟨⟨h2, h3⟩, h4⟩, h5⟩, -⟩ := h1
    have ha : a < tk_nc := Nat.lt_of_lt_of_le g2 h4
    have h6 := List.all_eq_true.mp h5 a (List.mem_range.mpr ha)
    rw [show (decide (lw ≤ a) && decide (a < hg)) = true by simp [g1, g2]] at h6
    simp only [Bool.not_true, Bool.false_or] at h6
    unfold tk_shok at h6
    cases hs : tk_sh a with
    | inr y => rw [hs] at h6; cases h6
    | inl y =>
      rw [hs] at h6
      obtain ⟨k2, fs⟩ := y
      simp only [Bool.and_eq_true, decide_eq_true_eq] at h6
      obtain ⟨⟨rfl, h7⟩, h8⟩ := h6
      exact ⟨C, T, N, fs, rfl, h2, h3, ha, rfl, h7, h8⟩
theorem tk_flok.int {own : String} {fl : List (Nat × Nat × Nat × Nat × Nat × Nat)} {x k j lw hg ty a : Nat} (h : tk_flok own fl) (hm : (x, k, j, lw, hg, ty) ∈ fl) (ht : ty = 0 ∨ ty = 1) (g1 : lw ≤ a) (g2 : a < hg) :
    ∃ (C : String) (T : u_T) (N : Nat) (fs : List (Option Nat)), tk_cl[k]? = some (C, T, N) ∧ j < N ∧ Jvm.Cond.fieldLink own x (T j).1 (T j).2.1 (T j).2.2.1 ∈ tk_tbl ∧ a < tk_nc ∧ tk_sh a = .inl (k, fs) ∧ (j < fs.length ∧ fs.getD j none = none) := by
  have h1 := h.get hm g1 g2
  rcases ht with rfl | rfl <;> exact h1
theorem tk_flok.ref {own : String} {fl : List (Nat × Nat × Nat × Nat × Nat × Nat)} {x k j lw hg r a : Nat} (h : tk_flok own fl) (hm : (x, k, j, lw, hg, r + 2) ∈ fl) (g1 : lw ≤ a) (g2 : a < hg) :
    ∃ (C : String) (T : u_T) (N : Nat) (fs : List (Option Nat)), tk_cl[k]? = some (C, T, N) ∧ j < N ∧ Jvm.Cond.fieldLink own x (T j).1 (T j).2.1 (T j).2.2.1 ∈ tk_tbl ∧ a < tk_nc ∧ tk_sh a = .inl (k, fs) ∧ (j < fs.length ∧ fs.getD j none = some r) := h.get hm g1 g2
theorem tk_pI : parseFieldDescriptor "I" = some .int := by decide +kernel
theorem tk_pZ : parseFieldDescriptor "Z" = some .boolean := by decide +kernel
theorem tk_flok.typ {own : String} {fl : List (Nat × Nat × Nat × Nat × Nat × Nat)} {x k j lw hg ty : Nat} {C : String} {T : u_T} {N : Nat} (h : tk_flok own fl) (hm : (x, k, j, lw, hg, ty) ∈ fl) (hc : tk_cl[k]? = some (C, T, N)) :
    (ty < 2 → (T j).2.2.2 = false) ∧ (ty = 0 → parseFieldDescriptor (T j).2.2.1 = some .int) ∧ (ty = 1 → parseFieldDescriptor (T j).2.2.1 = some .boolean) := by
  have h1 := h _ hm
  unfold tk_fchk at h1
  dsimp only at h1
  rw [hc] at h1
  simp only [Bool.and_eq_true, decide_eq_true_eq] at h1
  have h2 := h1.2
  match ty, h2 with
  | 0, h2 =>
    simp only [Bool.and_eq_true, decide_eq_true_eq] at h2
    exact ⟨fun _ => h2.2, fun _ => by rw [h2.1]; exact tk_pI, fun z => (by cases z)⟩
  | 1, h2 =>
    simp only [Bool.and_eq_true, decide_eq_true_eq] at h2
    exact ⟨fun _ => h2.2, fun z => (by cases z), fun _ => by rw [h2.1]; exact tk_pZ⟩
  | r + 2, h2 => exact ⟨fun z => by omega, fun z => by omega, fun z => by omega⟩
def tk_clchk (z : vw_C) : Bool := (u_ws z.1 z.2.1 z.2.2).all (fun w => decide (w ∈ tk_tbl)) && (List.range z.2.2).all (fun k => (parseFieldDescriptor (z.2.1 k).2.2.1).isSome && (List.range z.2.2).all (fun j => decide (k = j) || !decide ((z.2.1 k).2.1 = (z.2.1 j).2.1)))
set_option maxRecDepth 100000 in
theorem tk_clall : tk_cl.all tk_clchk = true := by decide +kernel
theorem tk_clk {k : Nat} {C : String} {T : u_T} {N : Nat} (h : tk_cl[k]? = some (C, T, N)) : tk_clchk (C, T, N) = true := List.all_eq_true.mp tk_clall _ (List.mem_of_getElem? h)
theorem tk_cls {k : Nat} {C : String} {T : u_T} {N : Nat} (h : tk_cl[k]? = some (C, T, N)) : ∀ w ∈ u_ws C T N, w ∈ tk_tbl := by
  have h1 := tk_clk h
  unfold tk_clchk at h1
  simp only [Bool.and_eq_true] at h1
  exact fun w hw => of_decide_eq_true (List.all_eq_true.mp h1.1 w hw)
theorem tk_tyok {k : Nat} {C : String} {T : u_T} {N : Nat} (h : tk_cl[k]? = some (C, T, N)) : ∃ ty : Nat → FieldType, (∀ k, k < N → parseFieldDescriptor (T k).2.2.1 = some (ty k)) ∧ (∀ a, a < N → ∀ b, b < N → a ≠ b → (T a).2.1 ≠ (T b).2.1) := by
  have h1 := tk_clk h
  unfold tk_clchk at h1
  simp only [Bool.and_eq_true] at h1
  have h2 := List.all_eq_true.mp h1.2
  refine ⟨fun k => (parseFieldDescriptor (T k).2.2.1).getD .int, fun k hk => ?_, fun a ha b hb hne => ?_⟩
  · have h3 := h2 k (List.mem_range.mpr hk)
    simp only [Bool.and_eq_true] at h3
    obtain ⟨y, hy⟩ := Option.isSome_iff_exists.mp h3.1
    show _ = some ((parseFieldDescriptor (T k).2.2.1).getD .int)
    rw [hy]
    rfl
  · have h3 := h2 a (List.mem_range.mpr ha)
    simp only [Bool.and_eq_true] at h3
    have h4 := List.all_eq_true.mp h3.2 b (List.mem_range.mpr hb)
    simp [hne] at h4
    exact h4
end
section
/-! THE WALKER: a stretch of bytecode as a proposition over numbers. Ints are held as numbers (Int), cells by their places in one world (see 15.world). -/
/-- a one-word value: an int, or a cell of the world; on the stack also a long -/
abbrev tk_U : Type := Int ⊕ Nat
abbrev tk_V : Type := tk_U ⊕ Int
abbrev tk_Lc : Type := List (Option tk_U)
/-- a row of a method's table: where it stands, the instruction, where the next one stands, where it may jump -/
abbrev tk_E : Type := Nat × Instr × Nat × List Nat
def tk_gt {α : Type} : List (Option α) → Nat → Option α
  | [], _ => none
  | a :: _, 0 => a
  | _ :: t, n + 1 => tk_gt t n
def tk_se {α : Type} : List (Option α) → Nat → α → List (Option α)
  | [], _, _ => []
  | _ :: t, 0, v => some v :: t
  | a :: t, n + 1, v => a :: tk_se t n v
def tk_lk {α : Type} : List (Nat × α) → Nat → Option α
  | [], _ => none
  | q :: t, n => bif Nat.beq q.1 n then some q.2 else tk_lk t n
def tk_to : List tk_E → Nat → List tk_E
  | [], _ => []
  | q :: t, n => bif Nat.beq q.1 n then q :: t else tk_to t n
def tk_c (c : Jvm.ClassFile.Cond) (a b : Int) : Prop := match c with
  | .eq => a = b
  | .ne => ¬ a = b
  | .lt => a < b
  | .ge => b ≤ a
  | .gt => b < a
  | .le => a ≤ b
def tk_cmp (a b : Int) : Int := if a < b then -1 else if a = b then 0 else 1
/-- the targets of a table switch: one behind the other, from the least number on -/
def tk_sw (J : Nat → Prop) (x : Int) : Int → List Nat → Prop
  | _, [] => True
  | n, t :: ts => (x = n → J t) ∧ tk_sw J x (n + 1) ts
/-- fields that a method's pool entries name: entry, number of the kind of object, slot, first and last place of that kind (the last excluded), what the slot holds: 0 an int, 1 a boolean, r + 2 the cell r -/
abbrev tk_FL : Type := List (Nat × Nat × Nat × Nat × Nat × Nat)
/-- one instruction: K goes on behind it, J jumps, RQ ends the method -/
def tk_I (fl : tk_FL) (cs : List (Nat × Int)) (b9 : Bool) (L : Nat) (xs : Nat → Int32) (K : tk_Lc → List tk_V → tk_M → Prop) (J : Nat → tk_Lc → List tk_V → tk_M → Prop) (RQ : Option Int → tk_M → Prop)
    (i : Instr) (tg : List Nat) (lo : tk_Lc) (st : List tk_V) (M : tk_M) : Prop :=
  match i with
  | .iconst n => K lo (.inl (.inl n) :: st) M
  | .bipush n => K lo (.inl (.inl n) :: st) M
  | .sipush n => K lo (.inl (.inl n) :: st) M
  | .ldc x => (match tk_lk cs x with
    | some n => K lo (.inl (.inl n) :: st) M
    | none => False)
  | .iload_n k => (match tk_gt lo k.val with
    | some (.inl x) => K lo (.inl (.inl x) :: st) M
    | _ => False)
  | .iload k => (match tk_gt lo k with
    | some (.inl x) => K lo (.inl (.inl x) :: st) M
    | _ => False)
  | .aload_n k => (match tk_gt lo k.val with
    | some (.inr x) => K lo (.inl (.inr x) :: st) M
    | _ => False)
  | .aload k => (match tk_gt lo k with
    | some (.inr x) => K lo (.inl (.inr x) :: st) M
    | _ => False)
  | .istore_n k => (match st with
    | .inl (.inl x) :: st => K (tk_se lo k.val (.inl x)) st M
    | _ => False)
  | .istore k => (match st with
    | .inl (.inl x) :: st => K (tk_se lo k (.inl x)) st M
    | _ => False)
  | .astore_n k => (match st with
    | .inl (.inr x) :: st => K (tk_se lo k.val (.inr x)) st M
    | _ => False)
  | .astore k => (match st with
    | .inl (.inr x) :: st => K (tk_se lo k (.inr x)) st M
    | _ => False)
  | .iinc k n => (match tk_gt lo k with
    | some (.inl x) => -2147483648 ≤ x + n ∧ x + n < 2147483648 ∧ K (tk_se lo k (.inl (x + n))) st M
    | _ => False)
  | .iadd => (match st with
    | .inl (.inl b) :: .inl (.inl a) :: st => -2147483648 ≤ a + b ∧ a + b < 2147483648 ∧ K lo (.inl (.inl (a + b)) :: st) M
    | _ => False)
  | .isub => (match st with
    | .inl (.inl b) :: .inl (.inl a) :: st => -2147483648 ≤ a - b ∧ a - b < 2147483648 ∧ K lo (.inl (.inl (a - b)) :: st) M
    | _ => False)
  | .iand => (match st with
    | .inl (.inl b) :: .inl (.inl a) :: st => K lo (.inl (.inl (Int32.ofInt a &&& Int32.ofInt b).toInt) :: st) M
    | _ => False)
  | .ior => (match st with
    | .inl (.inl b) :: .inl (.inl a) :: st => K lo (.inl (.inl (Int32.ofInt a ||| Int32.ofInt b).toInt) :: st) M
    | _ => False)
  | .ishl => (match st with
    | .inl (.inl b) :: .inl (.inl a) :: st => K lo (.inl (.inl (Int32.ofInt a <<< (Int32.ofInt b &&& 31)).toInt) :: st) M
    | _ => False)
  | .ishr => (match st with
    | .inl (.inl b) :: .inl (.inl a) :: st => K lo (.inl (.inl (Int32.ofInt a >>> (Int32.ofInt b &&& 31)).toInt) :: st) M
    | _ => False)
  | .iushr => (match st with
    | .inl (.inl b) :: .inl (.inl a) :: st => K lo (.inl (.inl ((Int32.ofInt a).toUInt32 >>> ((Int32.ofInt b).toUInt32 &&& Int32.toUInt32 31)).toInt32.toInt) :: st) M
    | _ => False)
  | .ldc_w x => (match tk_lk cs x with
    | some n => K lo (.inl (.inl n) :: st) M
    | none => False)
  | .ifCond c _ => (match st, tg with
    | .inl (.inl a) :: st, [t] => (tk_c c a 0 → J t lo st M) ∧ (¬ tk_c c a 0 → K lo st M)
    | _, _ => False)
  | .if_icmp c _ => (match st, tg with
    | .inl (.inl b) :: .inl (.inl a) :: st, [t] => (tk_c c a b → J t lo st M) ∧ (¬ tk_c c a b → K lo st M)
    | _, _ => False)
  | .goto _ => (match tg with
    | [t] => J t lo st M
    | _ => False)
  | .tableswitch _ l h _ => (match st, tg with
    | .inl (.inl x) :: st, d :: ts => (x < l ∨ h < x → J d lo st M) ∧ tk_sw (fun t => J t lo st M) x l ts
    | _, _ => False)
  | .dup => (match st with
    | .inl v :: st => K lo (.inl v :: .inl v :: st) M
    | _ => False)
  | .dup_x1 => (match st with
    | .inl v :: .inl w :: st => K lo (.inl v :: .inl w :: .inl v :: st) M
    | _ => False)
  | .dup_x2 => (match st with
    | .inl v :: .inl w :: .inl z :: st => K lo (.inl v :: .inl w :: .inl z :: .inl v :: st) M
    | _ => False)
  | .dup2 => (match st with
    | .inl v :: .inl w :: st => K lo (.inl v :: .inl w :: .inl v :: .inl w :: st) M
    | _ => False)
  | .pop => (match st with
    | .inl _ :: st => K lo st M
    | _ => False)
  | .i2l => (match st with
    | .inl (.inl x) :: st => K lo (.inr x :: st) M
    | _ => False)
  | .lconst k => K lo (.inr (k.val : Int) :: st) M
  | .lcmp => (match st with
    | .inr b :: .inr a :: st => K lo (.inl (.inl (tk_cmp a b)) :: st) M
    | _ => False)
  | .getfield x => (match st, tk_lk fl x with
    | .inl (.inr c) :: st, some (_, j, l, h, 0) => (l ≤ c ∧ c < h) ∧ (-2147483648 ≤ M c j → M c j < 2147483648 → K lo (.inl (.inl (M c j)) :: st) M)
    | .inl (.inr c) :: st, some (_, j, l, h, 1) => (l ≤ c ∧ c < h) ∧ (-2147483648 ≤ M c j → M c j < 2147483648 → K lo (.inl (.inl (M c j)) :: st) M)
    | .inl (.inr c) :: st, some (_, _, l, h, r + 2) => (l ≤ c ∧ c < h) ∧ K lo (.inl (.inr r) :: st) M
    | _, _ => False)
  | .putfield x => (match st, tk_lk fl x with
    | .inl (.inl v) :: .inl (.inr c) :: st, some (_, j, l, h, 0) => (l ≤ c ∧ c < h) ∧ K lo st (tk_up M c j v)
    | .inl (.inl v) :: .inl (.inr c) :: st, some (_, j, l, h, 1) => (l ≤ c ∧ c < h) ∧ (v = 0 ∨ v = 1) ∧ K lo st (tk_up M c j v)
    | _, _ => False)
  | .iaload => (match st with
    | .inl (.inl i) :: .inl (.inr c) :: st => (match tk_lk tk_ars c with
      | some (0, n, _) => (0 ≤ i ∧ i < (n : Int)) ∧ (-2147483648 ≤ M c i.toNat → M c i.toNat < 2147483648 → K lo (.inl (.inl (M c i.toNat)) :: st) M)
      | _ => (bif b9 && Nat.beq c tk_sc then (0 ≤ i ∧ i < (L : Int)) ∧ K lo (.inl (.inl (xs i.toNat).toInt) :: st) M else False))
    | _ => False)
  | .baload => (match st with
    | .inl (.inl i) :: .inl (.inr c) :: st => (match tk_lk tk_ars c with
      | some (1, n, _) => (0 ≤ i ∧ i < (n : Int)) ∧ (-2147483648 ≤ M c i.toNat → M c i.toNat < 2147483648 → K lo (.inl (.inl (M c i.toNat)) :: st) M)
      | _ => False)
    | _ => False)
  | .laload => (match st with
    | .inl (.inl i) :: .inl (.inr c) :: st => (match tk_lk tk_ars c with
      | some (2, n, _) => (0 ≤ i ∧ i < (n : Int)) ∧ (-2147483648 ≤ M c i.toNat → M c i.toNat < 2147483648 → K lo (.inr (M c i.toNat) :: st) M)
      | _ => False)
    | _ => False)
  | .aaload => (match st with
    | .inl (.inl i) :: .inl (.inr c) :: st => (match tk_lk tk_ars c with
      | some (_ + 3, n, b) => (0 ≤ i ∧ i < (n : Int)) ∧ K lo (.inl (.inr (b + i.toNat)) :: st) M
      | _ => False)
    | _ => False)
  | .iastore => (match st with
    | .inl (.inl v) :: .inl (.inl i) :: .inl (.inr c) :: st => (match tk_lk tk_ars c with
      | some (0, n, _) => (0 ≤ i ∧ i < (n : Int)) ∧ K lo st (tk_up M c i.toNat v)
      | _ => False)
    | _ => False)
  | .bastore => (match st with
    | .inl (.inl v) :: .inl (.inl i) :: .inl (.inr c) :: st => (match tk_lk tk_ars c with
      | some (1, n, _) => (0 ≤ i ∧ i < (n : Int)) ∧ (v = 0 ∨ v = 1) ∧ K lo st (tk_up M c i.toNat v)
      | _ => False)
    | _ => False)
  | .lastore => (match st with
    | .inr v :: .inl (.inl i) :: .inl (.inr c) :: st => (match tk_lk tk_ars c with
      | some (2, n, _) => (0 ≤ i ∧ i < (n : Int)) ∧ K lo st (tk_up M c i.toNat v)
      | _ => False)
    | _ => False)
  | .arraylength => (match st with
    | .inl (.inr c) :: st => (match tk_lk tk_ars c with
      | some (_, n, _) => K lo (.inl (.inl (n : Int)) :: st) M
      | none => (bif b9 && Nat.beq c tk_sc then K lo (.inl (.inl (L : Int)) :: st) M else False))
    | _ => False)
  | .ireturn => (match st with
    | [.inl (.inl v)] => RQ (some v) M
    | _ => False)
  | .return_ => (match st with
    | [] => RQ none M
    | _ => False)
  | _ => False
/-- the walk stops ahead of calls, of what makes objects, and of the places named in 'cut' -/
def tk_stop (i : Instr) : Bool := match i with
  | .invokevirtual _ => true
  | .invokespecial _ => true
  | .invokestatic _ => true
  | .new _ => true
  | _ => false
/-- n instructions from the head of 'code' on; 'tab' is the whole table; P holds where the walk stops -/
def tk_N (fl : tk_FL) (cs : List (Nat × Int)) (b9 : Bool) (L : Nat) (xs : Nat → Int32) (cut : List Nat) (tab : List tk_E) (P : Nat → tk_Lc → List tk_V → tk_M → Prop) (RQ : Option Int → tk_M → Prop) : Nat → List tk_E → tk_Lc → List tk_V → tk_M → Prop
  | _, [], _, _, _ => False
  | 0, q :: _, lo, st, M => P q.1 lo st M
  | n + 1, q :: t, lo, st, M => bif (cut.elem q.1 || tk_stop q.2.1) then P q.1 lo st M
    else tk_I fl cs b9 L xs (fun lo st M => tk_N fl cs b9 L xs cut tab P RQ n t lo st M) (fun a lo st M => tk_N fl cs b9 L xs cut tab P RQ n (tk_to tab a) lo st M) RQ q.2.1 q.2.2.2 lo st M
/-- the same, with its first instruction whatever 'cut' says -/
def tk_R (fl : tk_FL) (cs : List (Nat × Int)) (b9 : Bool) (L : Nat) (xs : Nat → Int32) (cut : List Nat) (tab : List tk_E) (P : Nat → tk_Lc → List tk_V → tk_M → Prop) (RQ : Option Int → tk_M → Prop) (n : Nat) (code : List tk_E) (lo : tk_Lc) (st : List tk_V) (M : tk_M) : Prop :=
  match code with
  | [] => False
  | q :: t => tk_I fl cs b9 L xs (fun lo st M => tk_N fl cs b9 L xs cut tab P RQ n t lo st M) (fun a lo st M => tk_N fl cs b9 L xs cut tab P RQ n (tk_to tab a) lo st M) RQ q.2.1 q.2.2.2 lo st M
/-- what a row of the table must be, beside the bytes 'cc' of a method with nL locals -/
def tk_okI (nL : Nat) (pc : Nat) (i : Instr) (len : Nat) (tg : List Nat) : Bool := match i with
  | .bipush n => decide (-128 ≤ n) && decide (n < 128) && len == 2
  | .sipush n => decide (-32768 ≤ n) && decide (n < 32768) && len == 3
  | .iconst n => decide (-1 ≤ n) && decide (n < 6) && len == 1
  | .istore_n k => decide (k.val < nL) && len == 1
  | .istore k => decide (k < nL) && len == 2
  | .astore_n k => decide (k.val < nL) && len == 1
  | .astore k => decide (k < nL) && len == 2
  | .iinc k n => decide (k < nL) && decide (-128 ≤ n) && decide (n < 128) && len == 3
  | .ldc _ => len == 2
  | .ldc_w _ => len == 3
  | .iload _ => len == 2
  | .aload _ => len == 2
  | .ifCond _ o => len == 3 && (match tg with
    | [t] => decide ((pc : Int) + o = (t : Int))
    | _ => false)
  | .if_icmp _ o => len == 3 && (match tg with
    | [t] => decide ((pc : Int) + o = (t : Int))
    | _ => false)
  | .goto o => len == 3 && (match tg with
    | [t] => decide ((pc : Int) + o = (t : Int))
    | _ => false)
  | .tableswitch d l h os => (match tg with
    | t :: ts => decide ((pc : Int) + d = (t : Int)) && decide (os.toList.map (fun o => (pc : Int) + o) = ts.map (fun (z : Nat) => (z : Int))) && decide (l + (ts.length : Int) = h + 1)
    | _ => false)
  | .getfield _ => len == 3
  | .putfield _ => len == 3
  | .invokevirtual _ => len == 3
  | .invokespecial _ => len == 3
  | .invokestatic _ => len == 3
  | .new _ => len == 3
  | .anewarray _ => len == 3
  | .newarray _ => len == 2
  | _ => len == 1
def tk_ok (cc : ByteArray) (nL : Nat) (q : tk_E) : Bool := (match decode cc q.1 with
  | .ok (i, len) => decide (i = q.2.1) && decide (q.1 + len = q.2.2.1) && tk_okI nL q.1 q.2.1 len q.2.2.2
  | _ => false)
def tk_ch : List tk_E → Bool
  | [] => true
  | [_] => true
  | q :: r :: t => Nat.beq q.2.2.1 r.1 && tk_ch (r :: t)
def tk_good (cc : ByteArray) (nL : Nat) (tab : List tk_E) : Prop := (∀ q ∈ tab, tk_ok cc nL q = true) ∧ tk_ch tab = true
theorem tk_ok_dec {cc : ByteArray} {nL : Nat} {q : tk_E} (h : tk_ok cc nL q = true) : ∃ len, decode cc q.1 = .ok (q.2.1, len) ∧ q.1 + len = q.2.2.1 ∧ tk_okI nL q.1 q.2.1 len q.2.2.2 = true := by
  unfold tk_ok at h
  split at h
  · rename_i i len hd
    simp only [Bool.and_eq_true, decide_eq_true_eq] at h
    obtain ⟨⟨h1, h2⟩, h3⟩ := h
    subst h1
    exact ⟨len, hd, h2, h3⟩
  · cases h
theorem tk_ch_tail {q : tk_E} {t : List tk_E} (h : tk_ch (q :: t) = true) : tk_ch t = true := by
  cases t with
  | nil => rfl
  | cons r t =>
    simp only [tk_ch, Bool.and_eq_true] at h
    exact h.2
theorem tk_ch_next {q r : tk_E} {t : List tk_E} (h : tk_ch (q :: r :: t) = true) : q.2.2.1 = r.1 := by
  simp only [tk_ch, Bool.and_eq_true] at h
  exact Nat.eq_of_beq_eq_true h.1
theorem tk_good.tail {cc : ByteArray} {nL : Nat} {q : tk_E} {t : List tk_E} (h : tk_good cc nL (q :: t)) : tk_good cc nL t := ⟨fun r hr => h.1 r (List.mem_cons_of_mem _ hr), tk_ch_tail h.2⟩
theorem tk_good.to {cc : ByteArray} {nL : Nat} {n : Nat} : ∀ {tab : List tk_E}, tk_good cc nL tab → tk_good cc nL (tk_to tab n)
  | [], h => h
  | q :: t, h => by
    unfold tk_to
    cases hb : Nat.beq q.1 n with
    | true => exact h
    | false => exact tk_good.to h.tail
theorem tk_to_head {n : Nat} : ∀ {tab : List tk_E} {q : tk_E} {t : List tk_E}, tk_to tab n = q :: t → q.1 = n
  | [], _, _, h => by cases h
  | r :: tab, q, t, h => by
    unfold tk_to at h
    cases hb : Nat.beq r.1 n with
    | true =>
      rw [hb] at h
      cases h
      exact Nat.eq_of_beq_eq_true hb
    | false =>
      rw [hb] at h
      exact tk_to_head h
theorem tk_lk_mem {α : Type} {n : Nat} {a : α} : ∀ {l : List (Nat × α)}, tk_lk l n = some a → (n, a) ∈ l
  | [], h => by cases h
  | q :: t, h => by
    unfold tk_lk at h
    cases hb : Nat.beq q.1 n with
    | true =>
      rw [hb] at h
      have e1 : q.2 = a := Option.some.inj h
      have e2 : q.1 = n := Nat.eq_of_beq_eq_true hb
      rw [← e1, ← e2]
      exact List.mem_cons_self
    | false =>
      rw [hb] at h
      exact List.mem_cons_of_mem _ (tk_lk_mem h)
end
section
/-! THE WALKER IS RIGHT: a stretch that the walker grants is a stretch of the machine -/
section TKS
theorem tk_ti {x : Int} (h1 : -2147483648 ≤ x) (h2 : x < 2147483648) : (Int32.ofInt x).toInt = x := Int32.toInt_ofInt_of_le (by simpa using h1) (by simpa using h2)
theorem tk_tiL {x : Int} (h1 : -2147483648 ≤ x) (h2 : x < 2147483648) : (Int64.ofInt x).toInt = x := Int64.toInt_ofInt_of_le (by omega) (by omega)
theorem tk_eqI {x y : Int} (h1 : -2147483648 ≤ x ∧ x < 2147483648) (h2 : -2147483648 ≤ y ∧ y < 2147483648) : Int32.ofInt x = Int32.ofInt y ↔ x = y := by
  rw [← Int32.toInt_inj, tk_ti h1.1 h1.2, tk_ti h2.1 h2.2]
theorem tk_ltI {x y : Int} (h1 : -2147483648 ≤ x ∧ x < 2147483648) (h2 : -2147483648 ≤ y ∧ y < 2147483648) : Int32.ofInt x < Int32.ofInt y ↔ x < y := by
  rw [Int32.lt_iff_toInt_lt, tk_ti h1.1 h1.2, tk_ti h2.1 h2.2]
theorem tk_leI {x y : Int} (h1 : -2147483648 ≤ x ∧ x < 2147483648) (h2 : -2147483648 ≤ y ∧ y < 2147483648) : Int32.ofInt x ≤ Int32.ofInt y ↔ x ≤ y := by
  rw [Int32.le_iff_toInt_le, tk_ti h1.1 h1.2, tk_ti h2.1 h2.2]
theorem tk_rT (z : Int32) : -2147483648 ≤ z.toInt ∧ z.toInt < 2147483648 := ⟨by have := Int32.le_toInt z; omega, by have := Int32.toInt_lt z; omega⟩
theorem tk_clm {x : Int} (h1 : 0 ≤ x) (h2 : x < 2147483648) : (Int32.ofInt x).toNatClampNeg = x.toNat := by
  show (Int32.ofInt x).toInt.toNat = x.toNat
  rw [tk_ti (by omega) h2]
theorem tk_in {x : Int} {n : Nat} (h1 : 0 ≤ x) (h2 : x < (n : Int)) (hn : x < 2147483648) : vp_in (Int32.ofInt x) n := by
  rw [vp_in_iff, tk_ti (by omega) hn]
  exact ⟨h1, h2⟩
theorem tk_gt_se {α : Type} (v : α) : ∀ (lo : List (Option α)) (i n : Nat), i < lo.length → tk_gt (tk_se lo i v) n = if n = i then some v else tk_gt lo n
  | [], i, n, h => absurd h (Nat.not_lt_zero _)
  | a :: t, 0, 0, _ => rfl
  | a :: t, 0, n + 1, _ => rfl
  | a :: t, i + 1, 0, _ => rfl
  | a :: t, i + 1, n + 1, h => by
    show tk_gt (tk_se t i v) n = if n + 1 = i + 1 then some v else tk_gt t n
    rw [tk_gt_se v t i n (Nat.lt_of_succ_lt_succ h)]
    simp
theorem tk_se_len {α : Type} (v : α) : ∀ (lo : List (Option α)) (i : Nat), (tk_se lo i v).length = lo.length
  | [], _ => rfl
  | _ :: _, 0 => rfl
  | a :: t, i + 1 => congrArg Nat.succ (tk_se_len v t i)
def tk_lv (G : tk_G) : Nat → tk_Lc → List (Nat × Value)
  | _, [] => []
  | k, none :: t => tk_lv G (k + 1) t
  | k, some v :: t => (k, tk_cv G (.inl v)) :: tk_lv G (k + 1) t
theorem tk_lv_mem {G : tk_G} {q : Nat × Value} : ∀ {lo : tk_Lc} {k : Nat}, q ∈ tk_lv G k lo ↔ ∃ n v, q = (k + n, tk_cv G (.inl v)) ∧ tk_gt lo n = some v
  | [], k => ⟨fun h => (by cases h), fun ⟨n, v, _, h⟩ => (by cases h)⟩
  | none :: t, k => by
    show q ∈ tk_lv G (k + 1) t ↔ _
    rw [tk_lv_mem (lo := t) (k := k + 1)]
    constructor
    · rintro ⟨n, v, e1, e2⟩
      exact ⟨n + 1, v, by rw [e1]; congr 1; omega, e2⟩
    · rintro ⟨n, v, e1, e2⟩
      cases n with
      | zero => cases e2
      | succ n => exact ⟨n, v, by rw [e1]; congr 1; omega, e2⟩
  | some w :: t, k => by
    show q ∈ (k, tk_cv G (.inl w)) :: tk_lv G (k + 1) t ↔ _
    rw [List.mem_cons, tk_lv_mem (lo := t) (k := k + 1)]
    constructor
    · rintro (e1 | ⟨n, v, e1, e2⟩)
      · exact ⟨0, w, e1, rfl⟩
      · exact ⟨n + 1, v, by rw [e1]; congr 1; omega, e2⟩
    · rintro ⟨n, v, e1, e2⟩
      cases n with
      | zero =>
        cases e2
        exact Or.inl e1
      | succ n => exact Or.inr ⟨n, v, by rw [e1]; congr 1; omega, e2⟩
theorem tk_cat {G : tk_G} (v : tk_U) : (tk_cv G (.inl v)).category = 1 := by cases v <;> rfl
def tk_ru (v : tk_U) : Prop := match v with
  | .inl x => -2147483648 ≤ x ∧ x < 2147483648
  | .inr _ => True
def tk_rv (v : tk_V) : Prop := match v with
  | .inl u => tk_ru u
  | .inr x => -2147483648 ≤ x ∧ x < 2147483648
def tk_rs (st : List tk_V) : Prop := ∀ v ∈ st, tk_rv v
theorem tk_rs.nil : tk_rs [] := fun _ h => by cases h
theorem tk_rs.cons {v : tk_V} {st : List tk_V} (h : tk_rv v) (hs : tk_rs st) : tk_rs (v :: st) := fun w hw => by
  rcases List.mem_cons.mp hw with e | e
  · rw [e]; exact h
  · exact hs w e
theorem tk_rs.tl {v : tk_V} {st : List tk_V} (hs : tk_rs (v :: st)) : tk_rs st := fun w hw => hs w (List.mem_cons_of_mem _ hw)
theorem tk_rs.hd {v : tk_V} {st : List tk_V} (hs : tk_rs (v :: st)) : tk_rv v := hs v List.mem_cons_self
def tk_L (G : tk_G) (ls : Array Slot) (nL : Nat) (lo : tk_Lc) : Prop := lo.length = nL ∧ lv_has ls nL (tk_lv G 0 lo) ∧ ∀ n v, tk_gt lo n = some v → tk_ru v
theorem tk_L.at {G : tk_G} {ls : Array Slot} {nL : Nat} {lo : tk_Lc} (h : tk_L G ls nL lo) {n : Nat} {v : tk_U} (hn : tk_gt lo n = some v) : ls[n]? = some (.val (tk_cv G (.inl v))) := by
  have h1 : (n, tk_cv G (.inl v)) ∈ tk_lv G 0 lo := tk_lv_mem.mpr ⟨n, v, by rw [Nat.zero_add], hn⟩
  exact h.2.1.2.2 _ h1
theorem tk_L.store {G : tk_G} {ls ls' : Array Slot} {nL : Nat} {lo : tk_Lc} (h : tk_L G ls nL lo) {i : Nat} (hi : i < nL) {v : tk_U} (hv : tk_ru v) (h' : lv_has ls' nL ((i, tk_cv G (.inl v)) :: (tk_lv G 0 lo).filter (fun q => !(q.1 == i) && !(q.1 + 1 == i && q.2.category == 2)))) : tk_L G ls' nL (tk_se lo i v) := by
  have hl : i < lo.length := by rw [h.1]; exact hi
  refine ⟨by rw [tk_se_len]; exact h.1, ⟨h'.1, h'.2.1, fun q hq => h'.2.2 q ?_⟩, fun n w hn => ?_⟩
  · obtain ⟨n, w, e1, e2⟩ := tk_lv_mem.mp hq
    rw [tk_gt_se v lo i n hl] at e2
    by_cases e : n = i
    · rw [if_pos e] at e2
      cases e2
      rw [e1, e, Nat.zero_add]
      exact List.mem_cons_self
    · rw [if_neg e] at e2
      refine List.mem_cons_of_mem _ (List.mem_filter.mpr ⟨tk_lv_mem.mpr ⟨n, w, e1, e2⟩, ?_⟩)
      rw [e1]
      simp [e, tk_cat]
  · rw [tk_gt_se v lo i n hl] at hn
    by_cases e : n = i
    · rw [if_pos e] at hn
      cases hn
      exact hv
    · rw [if_neg e] at hn
      exact h.2.2 n w hn
variable (p : Program) (l : Launch) (e : Env) (R : Room) (s : State) (m : MethodId) (args : Array Value) (below : List Frame) (meth : Method) (c : Code) (cells slots : Nat) (Q : State → Prop) (G : tk_G) (A : Nat → Prop) (nL : Nat)
/-- at pc, with these locals, this stack and this memory, the machine comes to Q -/
def tk_W (pc : Nat) (lo : tk_Lc) (st : List tk_V) (M : tk_M) : Prop :=
  ∀ (H : Heap) (locs : List Loc) (ls : Array Slot), tk_Wd G M H → va_S A s.heap H locs → tk_L G ls nL lo → tk_rs st → W p l e R s m args below meth c H locs cells slots Q (F0 m pc ls (st.map (tk_cv G)))
/-- what holds all through a method's walk -/
def tk_X (own : String) (cc : ByteArray) (b9 : Bool) (L : Nat) (xs : Nat → Int32) : Prop :=
  p.tables.exec = Jvm.exec ∧ c.code = cc ∧ c.maxLocals = nL ∧ s.vm.findClass own = some m.cls ∧ (∀ w ∈ tk_tbl, w.before args s = true) ∧ va_K G.2.1 tk_cl (tk_tys G) s ∧ tk_St G A ∧ (∀ q : Nat, s.heap.size ≤ q → A q) ∧
  (b9 = true → va_X (G.1 tk_sc) L xs s s.heap ∧ G.1 tk_sc < s.heap.size ∧ ¬ A (G.1 tk_sc) ∧ L < 2147483648)
def tk_csok (own : String) (cs : List (Nat × Int)) : Prop := ∀ q ∈ cs, Jvm.Cond.constant own q.1 (Int32.ofInt q.2) ∈ tk_tbl ∧ -2147483648 ≤ q.2 ∧ q.2 < 2147483648
/-- a return at pc -/
def tk_Rt (cc : ByteArray) (RQ : Option Int → tk_M → Prop) : Prop :=
  ∀ (v : Option Int) (M : tk_M) (H : Heap) (locs : List Loc) (ls : Array Slot) (pc : Nat) (st : List tk_V), RQ v M → tk_Wd G M H → va_S A s.heap H locs → tk_rs st →
    ((∃ x, v = some x ∧ st = [.inl (.inl x)] ∧ decode cc pc = .ok (.ireturn, 1)) ∨ (v = none ∧ st = [] ∧ decode cc pc = .ok (.return_, 1))) → W p l e R s m args below meth c H locs cells slots Q (F0 m pc ls (st.map (tk_cv G)))
variable {p l e R s m args below meth c cells slots Q G A nL}
theorem tk_sw_at {J : Nat → Prop} {x : Int} : ∀ {n : Int} {ts : List Nat}, tk_sw J x n ts → ∀ (k : Nat) (t : Nat), ts[k]? = some t → x = n + (k : Int) → J t
  | n, [], _, k, t, h, _ => by simp at h
  | n, t0 :: ts, hs, 0, t, h, hx => by
    simp at h
    subst h
    exact hs.1 (by simpa using hx)
  | n, t0 :: ts, hs, k + 1, t, h, hx => by
    simp at h
    exact tk_sw_at hs.2 k t h (by rw [hx]; push_cast; omega)
end TKS
end
section
/-! one instruction of the walker is one of the machine -/
section TKO
variable {p : Program} {l : Launch} {e : Env} {R : Room} {s : State} {m : MethodId} {args : Array Value} {below : List Frame} {meth : Method} {c : Code} {cells slots : Nat} {Q : State → Prop} {G : tk_G} {A : Nat → Prop} {nL : Nat} {L : Nat} {xs : Nat → Int32}
theorem tk_ifW {cc : ByteArray} (hx : p.tables.exec = Jvm.exec) (hb : c.code = cc) {H : Heap} {locs : List Loc} {ls : Array Slot} {rest : List Value} {pc t : Nat} {o : Int} (cd : Jvm.ClassFile.Cond) {a : Int} (ha : -2147483648 ≤ a ∧ a < 2147483648) (hd : decode cc pc = .ok (.ifCond cd o, 3)) (ht : (pc : Int) + o = (t : Int))
    (kt : tk_c cd a 0 → W p l e R s m args below meth c H locs cells slots Q (F0 m t ls rest)) (kf : ¬ tk_c cd a 0 → W p l e R s m args below meth c H locs cells slots Q (F0 m (pc + 3) ls rest)) : W p l e R s m args below meth c H locs cells slots Q (F0 m pc ls (.int (Int32.ofInt a) :: rest)) := by
  have h0 : -2147483648 ≤ (0 : Int) ∧ (0 : Int) < 2147483648 := by decide
  cases cd with
  | eq => exact lv_if_eq hx hb hd ht (fun h => kt ((tk_eqI ha h0).mp h)) (fun h => kf (fun q => h ((tk_eqI ha h0).mpr q)))
  | ne => exact lv_if_ne hx hb hd ht (fun h => kt (fun q => h ((tk_eqI ha h0).mpr q))) (fun h => kf (fun q => q ((tk_eqI ha h0).mp h)))
  | lt => exact lv_if_lt hx hb hd ht (fun h => kt ((tk_ltI ha h0).mp h)) (fun h => kf (fun q => h ((tk_ltI ha h0).mpr q)))
  | ge => exact lv_if_ge hx hb hd ht (fun h => kt ((tk_leI h0 ha).mp h)) (fun h => kf (fun q => h ((tk_leI h0 ha).mpr q)))
  | gt => exact lv_if_gt hx hb hd ht (fun h => kt ((tk_ltI h0 ha).mp h)) (fun h => kf (fun q => h ((tk_ltI h0 ha).mpr q)))
  | le => exact lv_if_le hx hb hd ht (fun h => kt ((tk_leI ha h0).mp h)) (fun h => kf (fun q => h ((tk_leI ha h0).mpr q)))
theorem tk_cmpW {cc : ByteArray} (hx : p.tables.exec = Jvm.exec) (hb : c.code = cc) {H : Heap} {locs : List Loc} {ls : Array Slot} {rest : List Value} {pc t : Nat} {o : Int} (cd : Jvm.ClassFile.Cond) {a b : Int} (ha : -2147483648 ≤ a ∧ a < 2147483648) (h0 : -2147483648 ≤ b ∧ b < 2147483648) (hd : decode cc pc = .ok (.if_icmp cd o, 3)) (ht : (pc : Int) + o = (t : Int))
    (kt : tk_c cd a b → W p l e R s m args below meth c H locs cells slots Q (F0 m t ls rest)) (kf : ¬ tk_c cd a b → W p l e R s m args below meth c H locs cells slots Q (F0 m (pc + 3) ls rest)) : W p l e R s m args below meth c H locs cells slots Q (F0 m pc ls (.int (Int32.ofInt b) :: .int (Int32.ofInt a) :: rest)) := by
  cases cd with
  | eq => exact lv_icmp_eq hx hb hd ht (fun h => kt ((tk_eqI ha h0).mp h)) (fun h => kf (fun q => h ((tk_eqI ha h0).mpr q)))
  | ne => exact lv_icmp_ne hx hb hd ht (fun h => kt (fun q => h ((tk_eqI ha h0).mpr q))) (fun h => kf (fun q => q ((tk_eqI ha h0).mp h)))
  | lt => exact lv_icmp_lt hx hb hd ht (fun h => kt ((tk_ltI ha h0).mp h)) (fun h => kf (fun q => h ((tk_ltI ha h0).mpr q)))
  | ge => exact lv_icmp_ge hx hb hd ht (fun h => kt ((tk_leI h0 ha).mp h)) (fun h => kf (fun q => h ((tk_leI h0 ha).mpr q)))
  | gt => exact lv_icmp_gt hx hb hd ht (fun h => kt ((tk_ltI h0 ha).mp h)) (fun h => kf (fun q => h ((tk_ltI h0 ha).mpr q)))
  | le => exact lv_icmp_le hx hb hd ht (fun h => kt ((tk_leI ha h0).mp h)) (fun h => kf (fun q => h ((tk_leI ha h0).mpr q)))
theorem tk_cmp_r (a b : Int) : tk_rv (.inl (.inl (tk_cmp a b))) := by
  show -2147483648 ≤ tk_cmp a b ∧ tk_cmp a b < 2147483648
  unfold tk_cmp
  by_cases h1 : a < b
  · rw [if_pos h1]; decide
  · rw [if_neg h1]
    by_cases h2 : a = b
    · rw [if_pos h2]; decide
    · rw [if_neg h2]; decide
theorem tk_lgcmp {a b : Int} (ha : -2147483648 ≤ a ∧ a < 2147483648) (hb : -2147483648 ≤ b ∧ b < 2147483648) : lg_cmp (Int64.ofInt a) (Int64.ofInt b) = Int32.ofInt (tk_cmp a b) := by
  unfold lg_cmp tk_cmp
  simp only [gt_iff_lt, Int64.lt_iff_toInt_lt, ← Int64.toInt_inj, tk_tiL ha.1 ha.2, tk_tiL hb.1 hb.2]
  by_cases h1 : a < b
  · rw [if_pos h1, if_neg (by omega : ¬ b < a), if_neg (by omega : ¬ a = b)]; rfl
  · by_cases h2 : a = b
    · rw [if_neg h1, if_pos h2, if_neg (by omega : ¬ b < a), if_pos h2]; rfl
    · rw [if_pos (by omega : b < a), if_neg h1, if_neg h2]; rfl
theorem tk_scno {α : Prop} {b9 : Bool} {a ty n b : Nat} {P : Prop} (hm : (a, ty + 1, n, b) ∈ tk_ars) (h : (bif b9 && Nat.beq a tk_sc then P else False)) : α := by
  have h1 := (tk_ars_ok _ hm).1
  dsimp only at h1
  cases h8 : (b9 && Nat.beq a tk_sc) with
  | false => rw [h8] at h; exact h.elim
  | true =>
    rw [Bool.and_eq_true] at h8
    have ea : a = tk_sc := Nat.eq_of_beq_eq_true h8.2
    rw [ea] at h1
    exact absurd h1 (by decide)
theorem tk_scld {cc : ByteArray} {b9 : Bool} {H : Heap} {locs : List Loc} {ls : Array Slot} {rest : List Value} {pc a : Nat} {i : Int} {P : Prop} (hx : p.tables.exec = Jvm.exec) (hb : c.code = cc) (h9 : b9 = true → va_X (G.1 tk_sc) L xs s s.heap ∧ G.1 tk_sc < s.heap.size ∧ ¬ A (G.1 tk_sc) ∧ L < 2147483648) (hS : va_S A s.heap H locs) (hir : -2147483648 ≤ i ∧ i < 2147483648) (hd : decode cc pc = .ok (.iaload, 1))
    (h : (bif b9 && Nat.beq a tk_sc then (0 ≤ i ∧ i < (L : Int)) ∧ P else False)) (k : P → W p l e R s m args below meth c H locs cells slots Q (F0 m (pc + 1) ls (.int (Int32.ofInt (xs i.toNat).toInt) :: rest))) : W p l e R s m args below meth c H locs cells slots Q (F0 m pc ls (.int (Int32.ofInt i) :: .ref (G.1 a) :: rest)) := by
  cases h8 : (b9 && Nat.beq a tk_sc) with
  | false => rw [h8] at h; exact h.elim
  | true =>
    rw [h8] at h
    rw [Bool.and_eq_true] at h8
    have ea : a = tk_sc := Nat.eq_of_beq_eq_true h8.2
    subst ea
    obtain ⟨k1, k2, k3, k4⟩ := h9 h8.1
    obtain ⟨⟨g1, g2⟩, h⟩ := h
    refine va_sld hx hb k1 k2 k3 hS (tk_in g1 g2 hir.2) hd ?_
    rw [tk_clm g1 hir.2]
    have := k h
    rw [Int32.ofInt_toInt] at this
    exact this
set_option maxHeartbeats 4000000 in
set_option maxRecDepth 100000 in
theorem tk_one {own : String} {cc : ByteArray} {b9 : Bool} {fl : tk_FL} {cs : List (Nat × Int)} (X : tk_X p s m args c G A nL own cc b9 L xs) (hfl : tk_flok own fl) (hcs : tk_csok own cs) {K : tk_Lc → List tk_V → tk_M → Prop} {J : Nat → tk_Lc → List tk_V → tk_M → Prop} {RQ : Option Int → tk_M → Prop}
    {q : tk_E} (hq : tk_ok cc nL q = true) {lo : tk_Lc} {st : List tk_V} {M : tk_M} (h : tk_I fl cs b9 L xs K J RQ q.2.1 q.2.2.2 lo st M)
    (hK : ∀ lo st M, K lo st M → tk_W p l e R s m args below meth c cells slots Q G A nL q.2.2.1 lo st M) (hJ : ∀ t lo st M, J t lo st M → tk_W p l e R s m args below meth c cells slots Q G A nL t lo st M)
    (hRQ : tk_Rt p l e R s m args below meth c cells slots Q G A cc RQ) : tk_W p l e R s m args below meth c cells slots Q G A nL q.1 lo st M := by
  obtain ⟨len, hd, hlen, hi⟩ := tk_ok_dec hq
  obtain ⟨pc, i, nx, tg⟩ := q
  dsimp only at hd hlen hi h hK ⊢
  obtain ⟨hx, hb, hml, hown, hts, hKn, hSt, hA, h9⟩ := X
  subst hlen
  intro H locs ls hW hS hl hr
  have hP := hW.1
  have hM := hW.2
  have hD := hSt.D (M := M)
  cases i with
  | iconst n =>
    simp only [tk_okI, Bool.and_eq_true, decide_eq_true_eq, beq_iff_eq] at hi
    obtain ⟨⟨h1, h2⟩, rfl⟩ := hi
    exact lv_iconst hx hb hd rfl (hK _ _ _ h H locs ls hW hS hl (tk_rs.cons ⟨by omega, by omega⟩ hr))
  | bipush n =>
    simp only [tk_okI, Bool.and_eq_true, decide_eq_true_eq, beq_iff_eq] at hi
    obtain ⟨⟨h1, h2⟩, rfl⟩ := hi
    refine lv_bipush hx hb hd ?_ (hK _ _ _ h H locs ls hW hS hl (tk_rs.cons ⟨by omega, by omega⟩ hr))
    apply Int32.toInt_inj.mp
    rw [tk_ti (by omega) (by omega), Int8.toInt_toInt32, Int8.toInt_ofInt_of_le (by omega) (by omega)]
  | sipush n =>
    simp only [tk_okI, Bool.and_eq_true, decide_eq_true_eq, beq_iff_eq] at hi
    obtain ⟨⟨h1, h2⟩, rfl⟩ := hi
    refine lv_sipush hx hb hd ?_ (hK _ _ _ h H locs ls hW hS hl (tk_rs.cons ⟨by omega, by omega⟩ hr))
    apply Int32.toInt_inj.mp
    rw [tk_ti (by omega) (by omega), Int16.toInt_toInt32, Int16.toInt_ofInt_of_le (by omega) (by omega)]
  | ldc x =>
    simp only [tk_okI, beq_iff_eq] at hi
    subst hi
    simp only [tk_I] at h
    cases hc : tk_lk cs x with
    | none => rw [hc] at h; exact h.elim
    | some n =>
      rw [hc] at h
      obtain ⟨c1, c2, c3⟩ := hcs _ (tk_lk_mem hc)
      exact lv_ldc hx hb hown (hts _ c1) hd (hK _ _ _ h H locs ls hW hS hl (tk_rs.cons ⟨c2, c3⟩ hr))
  | iload_n k =>
    simp only [tk_okI, beq_iff_eq] at hi
    subst hi
    simp only [tk_I] at h
    cases hc : tk_gt lo k.val with
    | none => rw [hc] at h; exact h.elim
    | some u =>
      cases u with
      | inr a => rw [hc] at h; exact h.elim
      | inl x =>
        rw [hc] at h
        exact lv_iload_n hx hb hd rfl (hl.at hc) (hK _ _ _ h H locs ls hW hS hl (tk_rs.cons (hl.2.2 _ _ hc) hr))
  | iload k =>
    simp only [tk_okI, beq_iff_eq] at hi
    subst hi
    simp only [tk_I] at h
    cases hc : tk_gt lo k with
    | none => rw [hc] at h; exact h.elim
    | some u =>
      cases u with
      | inr a => rw [hc] at h; exact h.elim
      | inl x =>
        rw [hc] at h
        exact lv_iload hx hb hd (hl.at hc) (hK _ _ _ h H locs ls hW hS hl (tk_rs.cons (hl.2.2 _ _ hc) hr))
  | aload_n k =>
    simp only [tk_okI, beq_iff_eq] at hi
    subst hi
    simp only [tk_I] at h
    cases hc : tk_gt lo k.val with
    | none => rw [hc] at h; exact h.elim
    | some u =>
      cases u with
      | inl a => rw [hc] at h; exact h.elim
      | inr x =>
        rw [hc] at h
        exact lv_aload_n hx hb hd rfl (hl.at hc) (hK _ _ _ h H locs ls hW hS hl (tk_rs.cons (hl.2.2 _ _ hc) hr))
  | aload k =>
    simp only [tk_okI, beq_iff_eq] at hi
    subst hi
    simp only [tk_I] at h
    cases hc : tk_gt lo k with
    | none => rw [hc] at h; exact h.elim
    | some u =>
      cases u with
      | inl a => rw [hc] at h; exact h.elim
      | inr x =>
        rw [hc] at h
        exact lv_aload hx hb hd (hl.at hc) (hK _ _ _ h H locs ls hW hS hl (tk_rs.cons (hl.2.2 _ _ hc) hr))
  | istore_n k =>
    simp only [tk_okI, Bool.and_eq_true, decide_eq_true_eq, beq_iff_eq] at hi
    obtain ⟨h1, rfl⟩ := hi
    simp only [tk_I] at h
    match st, h, hr with
    | .inl (.inl x) :: st, h, hr => exact lv_istore_n hx hb hd rfl hl.2.1 h1 rfl (fun ls' hl' => hK _ _ _ h H locs ls' hW hS (hl.store (v := .inl x) h1 hr.hd hl') hr.tl)
    | .inl (.inr x) :: st, h, hr => exact h.elim
    | .inr x :: st, h, hr => exact h.elim
    | [], h, hr => exact h.elim
  | istore k =>
    simp only [tk_okI, Bool.and_eq_true, decide_eq_true_eq, beq_iff_eq] at hi
    obtain ⟨h1, rfl⟩ := hi
    simp only [tk_I] at h
    match st, h, hr with
    | .inl (.inl x) :: st, h, hr => exact lv_istore hx hb hd hl.2.1 h1 rfl (fun ls' hl' => hK _ _ _ h H locs ls' hW hS (hl.store (v := .inl x) h1 hr.hd hl') hr.tl)
    | .inl (.inr x) :: st, h, hr => exact h.elim
    | .inr x :: st, h, hr => exact h.elim
    | [], h, hr => exact h.elim
  | astore_n k =>
    simp only [tk_okI, Bool.and_eq_true, decide_eq_true_eq, beq_iff_eq] at hi
    obtain ⟨h1, rfl⟩ := hi
    simp only [tk_I] at h
    match st, h, hr with
    | .inl (.inr x) :: st, h, hr => exact lv_astore_n hx hb hd rfl hl.2.1 h1 rfl (fun ls' hl' => hK _ _ _ h H locs ls' hW hS (hl.store (v := .inr x) h1 hr.hd hl') hr.tl)
    | .inl (.inl x) :: st, h, hr => exact h.elim
    | .inr x :: st, h, hr => exact h.elim
    | [], h, hr => exact h.elim
  | astore k =>
    simp only [tk_okI, Bool.and_eq_true, decide_eq_true_eq, beq_iff_eq] at hi
    obtain ⟨h1, rfl⟩ := hi
    simp only [tk_I] at h
    match st, h, hr with
    | .inl (.inr x) :: st, h, hr => exact lv_astore hx hb hd hl.2.1 h1 rfl (fun ls' hl' => hK _ _ _ h H locs ls' hW hS (hl.store (v := .inr x) h1 hr.hd hl') hr.tl)
    | .inl (.inl x) :: st, h, hr => exact h.elim
    | .inr x :: st, h, hr => exact h.elim
    | [], h, hr => exact h.elim
  | iinc k n =>
    simp only [tk_okI, Bool.and_eq_true, decide_eq_true_eq, beq_iff_eq] at hi
    obtain ⟨⟨⟨h1, h2⟩, h3⟩, rfl⟩ := hi
    simp only [tk_I] at h
    cases hc : tk_gt lo k with
    | none => rw [hc] at h; exact h.elim
    | some u =>
      cases u with
      | inr a => rw [hc] at h; exact h.elim
      | inl x =>
        rw [hc] at h
        obtain ⟨r1, r2, h⟩ := h
        have hm : (k, tk_cv G (.inl (.inl x))) ∈ tk_lv G 0 lo := tk_lv_mem.mpr ⟨k, .inl x, by rw [Nat.zero_add], hc⟩
        obtain ⟨kk, hkk⟩ := List.getElem?_of_mem hm
        exact lv_iinc (v := Int32.ofInt (x + n)) hx hb hd hl.2.1 hkk (by rw [Int32.ofInt_add]) h1 rfl (fun ls' hl' => hK _ _ _ h H locs ls' hW hS (hl.store (v := .inl (x + n)) h1 ⟨r1, r2⟩ hl') hr)
  | iadd =>
    simp only [tk_okI, beq_iff_eq] at hi
    subst hi
    simp only [tk_I] at h
    match st, h, hr with
    | .inl (.inl b) :: .inl (.inl a) :: st, h, hr =>
      obtain ⟨r1, r2, h⟩ := h
      have h3 := hK _ _ _ h H locs ls hW hS hl (tk_rs.cons ⟨r1, r2⟩ hr.tl.tl)
      refine lv_iadd hx hb hd ?_
      rw [← Int32.ofInt_add]
      exact h3
    | .inl (.inl b) :: .inl (.inr a) :: st, h, hr => exact h.elim
    | .inl (.inl b) :: .inr a :: st, h, hr => exact h.elim
    | [.inl (.inl b)], h, hr => exact h.elim
    | .inl (.inr x) :: st, h, hr => exact h.elim
    | .inr x :: st, h, hr => exact h.elim
    | [], h, hr => exact h.elim
  | isub =>
    simp only [tk_okI, beq_iff_eq] at hi
    subst hi
    simp only [tk_I] at h
    match st, h, hr with
    | .inl (.inl b) :: .inl (.inl a) :: st, h, hr =>
      obtain ⟨r1, r2, h⟩ := h
      have h3 := hK _ _ _ h H locs ls hW hS hl (tk_rs.cons ⟨r1, r2⟩ hr.tl.tl)
      refine lv_isub hx hb hd ?_
      rw [← Int32.ofInt_sub]
      exact h3
    | .inl (.inl b) :: .inl (.inr a) :: st, h, hr => exact h.elim
    | .inl (.inl b) :: .inr a :: st, h, hr => exact h.elim
    | [.inl (.inl b)], h, hr => exact h.elim
    | .inl (.inr x) :: st, h, hr => exact h.elim
    | .inr x :: st, h, hr => exact h.elim
    | [], h, hr => exact h.elim
  | iand =>
    simp only [tk_okI, beq_iff_eq] at hi
    subst hi
    simp only [tk_I] at h
    match st, h, hr with
    | .inl (.inl b) :: .inl (.inl a) :: st, h, hr =>
      have h3 := hK _ _ _ h H locs ls hW hS hl (tk_rs.cons (tk_rT _) hr.tl.tl)
      refine lv_iand hx hb hd ?_
      rw [← Int32.ofInt_toInt (Int32.ofInt a &&& Int32.ofInt b)]
      exact h3
    | .inl (.inl b) :: .inl (.inr a) :: st, h, hr => exact h.elim
    | .inl (.inl b) :: .inr a :: st, h, hr => exact h.elim
    | [.inl (.inl b)], h, hr => exact h.elim
    | .inl (.inr x) :: st, h, hr => exact h.elim
    | .inr x :: st, h, hr => exact h.elim
    | [], h, hr => exact h.elim
  | ior =>
    simp only [tk_okI, beq_iff_eq] at hi
    subst hi
    simp only [tk_I] at h
    match st, h, hr with
    | .inl (.inl b) :: .inl (.inl a) :: st, h, hr =>
      have h3 := hK _ _ _ h H locs ls hW hS hl (tk_rs.cons (tk_rT _) hr.tl.tl)
      refine lv_ior hx hb hd ?_
      rw [← Int32.ofInt_toInt (Int32.ofInt a ||| Int32.ofInt b)]
      exact h3
    | .inl (.inl b) :: .inl (.inr a) :: st, h, hr => exact h.elim
    | .inl (.inl b) :: .inr a :: st, h, hr => exact h.elim
    | [.inl (.inl b)], h, hr => exact h.elim
    | .inl (.inr x) :: st, h, hr => exact h.elim
    | .inr x :: st, h, hr => exact h.elim
    | [], h, hr => exact h.elim
  | ishl =>
    simp only [tk_okI, beq_iff_eq] at hi
    subst hi
    simp only [tk_I] at h
    match st, h, hr with
    | .inl (.inl b) :: .inl (.inl a) :: st, h, hr =>
      have h3 := hK _ _ _ h H locs ls hW hS hl (tk_rs.cons (tk_rT _) hr.tl.tl)
      refine lv_ishl hx hb hd ?_
      rw [← Int32.ofInt_toInt (Int32.ofInt a <<< (Int32.ofInt b &&& 31))]
      exact h3
    | .inl (.inl b) :: .inl (.inr a) :: st, h, hr => exact h.elim
    | .inl (.inl b) :: .inr a :: st, h, hr => exact h.elim
    | [.inl (.inl b)], h, hr => exact h.elim
    | .inl (.inr x) :: st, h, hr => exact h.elim
    | .inr x :: st, h, hr => exact h.elim
    | [], h, hr => exact h.elim
  | ishr =>
    simp only [tk_okI, beq_iff_eq] at hi
    subst hi
    simp only [tk_I] at h
    match st, h, hr with
    | .inl (.inl b) :: .inl (.inl a) :: st, h, hr =>
      have h3 := hK _ _ _ h H locs ls hW hS hl (tk_rs.cons (tk_rT _) hr.tl.tl)
      refine lv_ishr hx hb hd ?_
      rw [← Int32.ofInt_toInt (Int32.ofInt a >>> (Int32.ofInt b &&& 31))]
      exact h3
    | .inl (.inl b) :: .inl (.inr a) :: st, h, hr => exact h.elim
    | .inl (.inl b) :: .inr a :: st, h, hr => exact h.elim
    | [.inl (.inl b)], h, hr => exact h.elim
    | .inl (.inr x) :: st, h, hr => exact h.elim
    | .inr x :: st, h, hr => exact h.elim
    | [], h, hr => exact h.elim
  | iushr =>
    simp only [tk_okI, beq_iff_eq] at hi
    subst hi
    simp only [tk_I] at h
    match st, h, hr with
    | .inl (.inl b) :: .inl (.inl a) :: st, h, hr =>
      have h3 := hK _ _ _ h H locs ls hW hS hl (tk_rs.cons (tk_rT _) hr.tl.tl)
      refine lv_iushr hx hb hd rfl ?_
      rw [← Int32.ofInt_toInt ((Int32.ofInt a).toUInt32 >>> ((Int32.ofInt b).toUInt32 &&& Int32.toUInt32 31)).toInt32]
      exact h3
    | .inl (.inl b) :: .inl (.inr a) :: st, h, hr => exact h.elim
    | .inl (.inl b) :: .inr a :: st, h, hr => exact h.elim
    | [.inl (.inl b)], h, hr => exact h.elim
    | .inl (.inr x) :: st, h, hr => exact h.elim
    | .inr x :: st, h, hr => exact h.elim
    | [], h, hr => exact h.elim
  | ldc_w x =>
    simp only [tk_okI, beq_iff_eq] at hi
    subst hi
    simp only [tk_I] at h
    cases hc : tk_lk cs x with
    | none => rw [hc] at h; exact h.elim
    | some n =>
      rw [hc] at h
      obtain ⟨c1, c2, c3⟩ := hcs _ (tk_lk_mem hc)
      exact lv_ldcw hx hb hown (hts _ c1) hd (hK _ _ _ h H locs ls hW hS hl (tk_rs.cons ⟨c2, c3⟩ hr))
  | ifCond cd o =>
    simp only [tk_okI, Bool.and_eq_true, beq_iff_eq] at hi
    obtain ⟨rfl, hi⟩ := hi
    simp only [tk_I] at h
    match tg, hi with
    | [t], hi =>
      match st, h, hr with
      | .inl (.inl a) :: st, h, hr => exact tk_ifW hx hb cd hr.hd hd (of_decide_eq_true hi) (fun z => hJ _ _ _ _ (h.1 z) H locs ls hW hS hl hr.tl) (fun z => hK _ _ _ (h.2 z) H locs ls hW hS hl hr.tl)
      | .inl (.inr a) :: st, h, hr => exact h.elim
      | .inr a :: st, h, hr => exact h.elim
      | [], h, hr => exact h.elim
    | [], hi => cases hi
    | _ :: _ :: _, hi => cases hi
  | if_icmp cd o =>
    simp only [tk_okI, Bool.and_eq_true, beq_iff_eq] at hi
    obtain ⟨rfl, hi⟩ := hi
    simp only [tk_I] at h
    match tg, hi with
    | [t], hi =>
      match st, h, hr with
      | .inl (.inl b) :: .inl (.inl a) :: st, h, hr => exact tk_cmpW hx hb cd hr.tl.hd hr.hd hd (of_decide_eq_true hi) (fun z => hJ _ _ _ _ (h.1 z) H locs ls hW hS hl hr.tl.tl) (fun z => hK _ _ _ (h.2 z) H locs ls hW hS hl hr.tl.tl)
      | .inl (.inl b) :: .inl (.inr a) :: st, h, hr => exact h.elim
      | .inl (.inl b) :: .inr a :: st, h, hr => exact h.elim
      | [.inl (.inl b)], h, hr => exact h.elim
      | .inl (.inr a) :: st, h, hr => exact h.elim
      | .inr a :: st, h, hr => exact h.elim
      | [], h, hr => exact h.elim
    | [], hi => cases hi
    | _ :: _ :: _, hi => cases hi
  | goto o =>
    simp only [tk_okI, Bool.and_eq_true, beq_iff_eq] at hi
    obtain ⟨rfl, hi⟩ := hi
    simp only [tk_I] at h
    match tg, hi, h with
    | [t], hi, h => exact lv_goto hx hb hd (of_decide_eq_true hi) (hJ _ _ _ _ h H locs ls hW hS hl hr)
    | [], hi, h => cases hi
    | _ :: _ :: _, hi, h => cases hi
  | tableswitch d lw hg os =>
    simp only [tk_okI] at hi
    simp only [tk_I] at h
    match tg, hi with
    | [], hi => cases hi
    | t :: ts, hi =>
      simp only [Bool.and_eq_true, decide_eq_true_eq] at hi
      obtain ⟨⟨h1, h2⟩, h3⟩ := hi
      match st, h, hr with
      | .inl (.inl x) :: st, h, hr =>
        have hxr := hr.hd
        have ex : (Int32.ofInt x).toInt = x := tk_ti hxr.1 hxr.2
        by_cases ho : x < lw ∨ hg < x
        · exact lv_tableOut hx hb hd (by rw [ex]; exact ho) h1 (hJ _ _ _ _ (h.1 ho) H locs ls hW hS hl hr.tl)
        · have l1 : ¬ x < lw := fun z => ho (Or.inl z)
          have l2 : ¬ hg < x := fun z => ho (Or.inr z)
          have hk : (x - lw).toNat < ts.length := by omega
          have ht : ts[(x - lw).toNat]? = some ts[(x - lw).toNat] := List.getElem?_eq_getElem hk
          have hos : (os.toList.map (fun o => (pc : Int) + o))[(x - lw).toNat]? = some ((ts[(x - lw).toNat] : Nat) : Int) := by
            rw [h2, List.getElem?_map, ht]; rfl
          rw [List.getElem?_map] at hos
          cases hq9 : os.toList[(x - lw).toNat]? with
          | none => rw [hq9] at hos; cases hos
          | some off =>
            rw [hq9] at hos
            have e1 : (pc : Int) + off = ((ts[(x - lw).toNat] : Nat) : Int) := Option.some.inj hos
            refine lv_tableIn hx hb hd (by rw [ex]; exact l1) (by rw [ex]; exact l2) (off := off) (by rw [ex, ← Array.getElem?_toList]; exact hq9) e1 (hJ _ _ _ _ (tk_sw_at h.2 (x - lw).toNat _ ht (by omega)) H locs ls hW hS hl hr.tl)
      | .inl (.inr a) :: st, h, hr => exact h.elim
      | .inr a :: st, h, hr => exact h.elim
      | [], h, hr => exact h.elim
  | dup =>
    simp only [tk_okI, beq_iff_eq] at hi
    subst hi
    simp only [tk_I] at h
    match st, h, hr with
    | .inl v :: st, h, hr => exact lv_dup hx hb hd (tk_cat v) (hK _ _ _ h H locs ls hW hS hl (tk_rs.cons hr.hd hr))
    | .inr a :: st, h, hr => exact h.elim
    | [], h, hr => exact h.elim
  | dup_x1 =>
    simp only [tk_okI, beq_iff_eq] at hi
    subst hi
    simp only [tk_I] at h
    match st, h, hr with
    | .inl v :: .inl w :: st, h, hr => exact lv_dup_x1 hx hb hd (tk_cat v) (tk_cat w) (hK _ _ _ h H locs ls hW hS hl (tk_rs.cons hr.hd (tk_rs.cons hr.tl.hd (tk_rs.cons hr.hd hr.tl.tl))))
    | .inl v :: .inr w :: st, h, hr => exact h.elim
    | [.inl v], h, hr => exact h.elim
    | .inr a :: st, h, hr => exact h.elim
    | [], h, hr => exact h.elim
  | dup_x2 =>
    simp only [tk_okI, beq_iff_eq] at hi
    subst hi
    simp only [tk_I] at h
    match st, h, hr with
    | .inl v :: .inl w :: .inl z :: st, h, hr => exact lv_dup_x2 hx hb hd (tk_cat v) (tk_cat w) (tk_cat z) (hK _ _ _ h H locs ls hW hS hl (tk_rs.cons hr.hd (tk_rs.cons hr.tl.hd (tk_rs.cons hr.tl.tl.hd (tk_rs.cons hr.hd hr.tl.tl.tl)))))
    | .inl v :: .inl w :: .inr z :: st, h, hr => exact h.elim
    | [.inl v, .inl w], h, hr => exact h.elim
    | .inl v :: .inr w :: st, h, hr => exact h.elim
    | [.inl v], h, hr => exact h.elim
    | .inr a :: st, h, hr => exact h.elim
    | [], h, hr => exact h.elim
  | dup2 =>
    simp only [tk_okI, beq_iff_eq] at hi
    subst hi
    simp only [tk_I] at h
    match st, h, hr with
    | .inl v :: .inl w :: st, h, hr => exact lv_dup2_11 hx hb hd (tk_cat v) (tk_cat w) (hK _ _ _ h H locs ls hW hS hl (tk_rs.cons hr.hd (tk_rs.cons hr.tl.hd hr)))
    | .inl v :: .inr w :: st, h, hr => exact h.elim
    | [.inl v], h, hr => exact h.elim
    | .inr a :: st, h, hr => exact h.elim
    | [], h, hr => exact h.elim
  | pop =>
    simp only [tk_okI, beq_iff_eq] at hi
    subst hi
    simp only [tk_I] at h
    match st, h, hr with
    | .inl v :: st, h, hr => exact lv_pop hx hb hd (tk_cat v) (hK _ _ _ h H locs ls hW hS hl hr.tl)
    | .inr a :: st, h, hr => exact h.elim
    | [], h, hr => exact h.elim
  | i2l =>
    simp only [tk_okI, beq_iff_eq] at hi
    subst hi
    simp only [tk_I] at h
    match st, h, hr with
    | .inl (.inl x) :: st, h, hr =>
      have hxr := hr.hd
      exact lv_i2l (v := Int64.ofInt x) hx hb hd (Int64.toInt_inj.mp (by rw [Int32.toInt_toInt64, tk_ti hxr.1 hxr.2, tk_tiL hxr.1 hxr.2])) (hK _ _ _ h H locs ls hW hS hl (tk_rs.cons hxr hr.tl))
    | .inl (.inr a) :: st, h, hr => exact h.elim
    | .inr a :: st, h, hr => exact h.elim
    | [], h, hr => exact h.elim
  | lconst k =>
    simp only [tk_okI, beq_iff_eq] at hi
    subst hi
    simp only [tk_I] at h
    have hk2 : k.val < 2 := k.isLt
    exact lv_lconst (v := Int64.ofInt (k.val : Int)) hx hb hd rfl (hK _ _ _ h H locs ls hW hS hl (tk_rs.cons ⟨by omega, by omega⟩ hr))
  | lcmp =>
    simp only [tk_okI, beq_iff_eq] at hi
    subst hi
    simp only [tk_I] at h
    match st, h, hr with
    | .inr b :: .inr a :: st, h, hr =>
      have hbr := hr.hd
      have har := hr.tl.hd
      have h3 := hK _ _ _ h H locs ls hW hS hl (tk_rs.cons (tk_cmp_r a b) hr.tl.tl)
      refine W.lcmp hx hb hd ?_
      have e1 : lg_cmp (Int64.ofInt a) (Int64.ofInt b) = Int32.ofInt (tk_cmp a b) := tk_lgcmp har hbr
      rw [e1]
      exact h3
    | .inr b :: .inl a :: st, h, hr => exact h.elim
    | [.inr b], h, hr => exact h.elim
    | .inl a :: st, h, hr => exact h.elim
    | [], h, hr => exact h.elim
  | getfield x =>
    simp only [tk_okI, beq_iff_eq] at hi
    subst hi
    simp only [tk_I] at h
    match st, h, hr with
    | .inl (.inr a) :: st, h, hr =>
      cases hc : tk_lk fl x with
      | none => rw [hc] at h; exact h.elim
      | some q =>
        obtain ⟨k, j, lw, hg, ty⟩ := q
        rw [hc] at h
        match ty, h, hc with
        | 0, h, hc =>
          obtain ⟨⟨g1, g2⟩, h⟩ := h
          obtain ⟨C, T, N, fs, f1, f2, f3, f4, f5, f6⟩ := tk_flok.int hfl (tk_lk_mem hc) (Or.inl rfl) g1 g2
          exact va_get hx hb hts (tk_cls f1) hown hKn hP a (tk_ws_obj f4 f5) f1 j f2 (hts _ f3) (fun _ z => z) (tk_fs_int f6) hd (hK _ _ _ (h (hM a j).1 (hM a j).2) H locs ls hW hS hl (tk_rs.cons (hM a j) hr.tl))
        | 1, h, hc =>
          obtain ⟨⟨g1, g2⟩, h⟩ := h
          obtain ⟨C, T, N, fs, f1, f2, f3, f4, f5, f6⟩ := tk_flok.int hfl (tk_lk_mem hc) (Or.inr rfl) g1 g2
          exact va_get hx hb hts (tk_cls f1) hown hKn hP a (tk_ws_obj f4 f5) f1 j f2 (hts _ f3) (fun _ z => z) (tk_fs_int f6) hd (hK _ _ _ (h (hM a j).1 (hM a j).2) H locs ls hW hS hl (tk_rs.cons (hM a j) hr.tl))
        | r + 2, h, hc =>
          obtain ⟨⟨g1, g2⟩, h⟩ := h
          obtain ⟨C, T, N, fs, f1, f2, f3, f4, f5, f6⟩ := tk_flok.ref hfl (tk_lk_mem hc) g1 g2
          exact va_get hx hb hts (tk_cls f1) hown hKn hP a (tk_ws_obj f4 f5) f1 j f2 (hts _ f3) (fun _ z => z) (tk_fs_ref f6) hd (hK _ _ _ h H locs ls hW hS hl (tk_rs.cons trivial hr.tl))
    | .inl (.inl a) :: st, h, hr => exact h.elim
    | .inr a :: st, h, hr => exact h.elim
    | [], h, hr => exact h.elim
  | putfield x =>
    simp only [tk_okI, beq_iff_eq] at hi
    subst hi
    simp only [tk_I] at h
    match st, h, hr with
    | .inl (.inl v) :: .inl (.inr a) :: st, h, hr =>
      have hvr := hr.hd
      cases hc : tk_lk fl x with
      | none => rw [hc] at h; exact h.elim
      | some q =>
        obtain ⟨k, j, lw, hg, ty⟩ := q
        rw [hc] at h
        match ty, h, hc with
        | 0, h, hc =>
          obtain ⟨⟨g1, g2⟩, h⟩ := h
          obtain ⟨C, T, N, fs, f1, f2, f3, f4, f5, f6⟩ := tk_flok.int hfl (tk_lk_mem hc) (Or.inl rfl) g1 g2
          obtain ⟨f7, f8⟩ := tk_flok.typ hfl (tk_lk_mem hc) f1
          obtain ⟨ty0, t1, t2⟩ := tk_tyok f1
          refine va_put hx hb hts (tk_cls f1) ty0 t1 t2 hown hKn hP hD hS a (tk_ws_obj f4 f5) f1 j f2 (hts _ f3) (fun _ z => z) (f7 (by decide)) (ty := .int) (f8.1 rfl) rfl rfl (tk_fs_len f6) hd (fun H1 locs1 hP1 _ hS1 => ?_)
          have hP2 : va_P G.2.1 tk_cl (tk_ws G (tk_up M a j v)) H1 := by rw [← tk_ws_put f4 f5 f6]; exact hP1
          exact hK _ _ _ h H1 locs1 ls ⟨hP2, tk_up_r hM hvr⟩ hS1 hl hr.tl.tl
        | 1, h, hc =>
          obtain ⟨⟨g1, g2⟩, hz, h⟩ := h
          obtain ⟨C, T, N, fs, f1, f2, f3, f4, f5, f6⟩ := tk_flok.int hfl (tk_lk_mem hc) (Or.inr rfl) g1 g2
          obtain ⟨f7, f8⟩ := tk_flok.typ hfl (tk_lk_mem hc) f1
          obtain ⟨ty0, t1, t2⟩ := tk_tyok f1
          refine va_put hx hb hts (tk_cls f1) ty0 t1 t2 hown hKn hP hD hS a (tk_ws_obj f4 f5) f1 j f2 (hts _ f3) (fun _ z => z) (f7 (by decide)) (ty := .boolean) (f8.2 rfl) (by rcases hz with rfl | rfl <;> rfl) (by rcases hz with rfl | rfl <;> rfl) (tk_fs_len f6) hd (fun H1 locs1 hP1 _ hS1 => ?_)
          have hP2 : va_P G.2.1 tk_cl (tk_ws G (tk_up M a j v)) H1 := by rw [← tk_ws_put f4 f5 f6]; exact hP1
          exact hK _ _ _ h H1 locs1 ls ⟨hP2, tk_up_r hM hvr⟩ hS1 hl hr.tl.tl
        | r + 2, h, hc => exact h.elim
    | .inl (.inl v) :: .inl (.inl a) :: st, h, hr => exact h.elim
    | .inl (.inl v) :: .inr a :: st, h, hr => exact h.elim
    | [.inl (.inl v)], h, hr => exact h.elim
    | .inl (.inr a) :: st, h, hr => exact h.elim
    | .inr a :: st, h, hr => exact h.elim
    | [], h, hr => exact h.elim
  | iaload =>
    simp only [tk_okI, beq_iff_eq] at hi
    subst hi
    simp only [tk_I] at h
    match st, h, hr with
    | .inl (.inl i) :: .inl (.inr a) :: st, h, hr =>
      have hir := hr.hd
      dsimp only at h
      cases hc : tk_lk tk_ars a with
      | some q =>
        obtain ⟨ty, n, b⟩ := q
        rw [hc] at h
        have hmem := tk_lk_mem hc
        match ty, h, hmem with
        | 0, h, hmem =>
          obtain ⟨⟨g1, g2⟩, h⟩ := h
          refine va_iald hx hb hKn hP a 0 (tk_ws_arr hmem (by decide)) rfl (tk_in g1 g2 hir.2) hd ?_
          rw [tk_clm g1 hir.2]
          exact hK _ _ _ (h (hM _ _).1 (hM _ _).2) H locs ls hW hS hl (tk_rs.cons (hM _ _) hr.tl.tl)
        | z + 1, h, hmem => exact tk_scno hmem h
      | none =>
        rw [hc] at h
        exact tk_scld hx hb h9 hS hir hd h (fun z => hK _ _ _ z H locs ls hW hS hl (tk_rs.cons (tk_rT _) hr.tl.tl))
    | .inl (.inl i) :: .inl (.inl a) :: st, h, hr => exact h.elim
    | .inl (.inl i) :: .inr a :: st, h, hr => exact h.elim
    | [.inl (.inl i)], h, hr => exact h.elim
    | .inl (.inr a) :: st, h, hr => exact h.elim
    | .inr a :: st, h, hr => exact h.elim
    | [], h, hr => exact h.elim
  | baload =>
    simp only [tk_okI, beq_iff_eq] at hi
    subst hi
    simp only [tk_I] at h
    match st, h, hr with
    | .inl (.inl i) :: .inl (.inr a) :: st, h, hr =>
      have hir := hr.hd
      dsimp only at h
      cases hc : tk_lk tk_ars a with
      | some q =>
        obtain ⟨ty, n, b⟩ := q
        rw [hc] at h
        have hmem := tk_lk_mem hc
        match ty, h, hmem with
        | 0, h, hmem => exact h.elim
        | 1, h, hmem =>
          obtain ⟨⟨g1, g2⟩, h⟩ := h
          refine va_zald hx hb hKn hP a 1 (tk_ws_arr hmem (by decide)) rfl (tk_in g1 g2 hir.2) hd ?_
          rw [tk_clm g1 hir.2]
          exact hK _ _ _ (h (hM _ _).1 (hM _ _).2) H locs ls hW hS hl (tk_rs.cons (hM _ _) hr.tl.tl)
        | z + 2, h, hmem => exact h.elim
      | none => rw [hc] at h; exact h.elim
    | .inl (.inl i) :: .inl (.inl a) :: st, h, hr => exact h.elim
    | .inl (.inl i) :: .inr a :: st, h, hr => exact h.elim
    | [.inl (.inl i)], h, hr => exact h.elim
    | .inl (.inr a) :: st, h, hr => exact h.elim
    | .inr a :: st, h, hr => exact h.elim
    | [], h, hr => exact h.elim
  | laload =>
    simp only [tk_okI, beq_iff_eq] at hi
    subst hi
    simp only [tk_I] at h
    match st, h, hr with
    | .inl (.inl i) :: .inl (.inr a) :: st, h, hr =>
      have hir := hr.hd
      dsimp only at h
      cases hc : tk_lk tk_ars a with
      | some q =>
        obtain ⟨ty, n, b⟩ := q
        rw [hc] at h
        have hmem := tk_lk_mem hc
        match ty, h, hmem with
        | 0, h, hmem => exact h.elim
        | 1, h, hmem => exact h.elim
        | 2, h, hmem =>
          obtain ⟨⟨g1, g2⟩, h⟩ := h
          refine va_lald hx hb hKn hP a 2 (tk_ws_lng hmem) rfl (tk_in g1 g2 hir.2) hd ?_
          rw [tk_clm g1 hir.2]
          exact hK _ _ _ (h (hM _ _).1 (hM _ _).2) H locs ls hW hS hl (tk_rs.cons (hM _ _) hr.tl.tl)
        | z + 3, h, hmem => exact h.elim
      | none => rw [hc] at h; exact h.elim
    | .inl (.inl i) :: .inl (.inl a) :: st, h, hr => exact h.elim
    | .inl (.inl i) :: .inr a :: st, h, hr => exact h.elim
    | [.inl (.inl i)], h, hr => exact h.elim
    | .inl (.inr a) :: st, h, hr => exact h.elim
    | .inr a :: st, h, hr => exact h.elim
    | [], h, hr => exact h.elim
  | aaload =>
    simp only [tk_okI, beq_iff_eq] at hi
    subst hi
    simp only [tk_I] at h
    match st, h, hr with
    | .inl (.inl i) :: .inl (.inr a) :: st, h, hr =>
      have hir := hr.hd
      dsimp only at h
      cases hc : tk_lk tk_ars a with
      | some q =>
        obtain ⟨ty, n, b⟩ := q
        rw [hc] at h
        have hmem := tk_lk_mem hc
        match ty, h, hmem with
        | 0, h, hmem => exact h.elim
        | 1, h, hmem => exact h.elim
        | 2, h, hmem => exact h.elim
        | z + 3, h, hmem =>
          obtain ⟨⟨g1, g2⟩, h⟩ := h
          obtain ⟨C, hC⟩ := tk_tys_rf (G := G) hmem
          refine va_aldq hx hb hKn hP a (z + 3) (tk_ws_rfs hmem) hC (tk_in g1 g2 hir.2) hd ?_
          rw [tk_clm g1 hir.2]
          exact hK _ _ _ h H locs ls hW hS hl (tk_rs.cons trivial hr.tl.tl)
      | none => rw [hc] at h; exact h.elim
    | .inl (.inl i) :: .inl (.inl a) :: st, h, hr => exact h.elim
    | .inl (.inl i) :: .inr a :: st, h, hr => exact h.elim
    | [.inl (.inl i)], h, hr => exact h.elim
    | .inl (.inr a) :: st, h, hr => exact h.elim
    | .inr a :: st, h, hr => exact h.elim
    | [], h, hr => exact h.elim
  | iastore =>
    simp only [tk_okI, beq_iff_eq] at hi
    subst hi
    simp only [tk_I] at h
    match st, h, hr with
    | .inl (.inl v) :: .inl (.inl i) :: .inl (.inr a) :: st, h, hr =>
      have hvr := hr.hd
      have hir := hr.tl.hd
      dsimp only at h
      cases hc : tk_lk tk_ars a with
      | some q =>
        obtain ⟨ty, n, b⟩ := q
        rw [hc] at h
        have hmem := tk_lk_mem hc
        match ty, h, hmem with
        | 0, h, hmem =>
          obtain ⟨⟨g1, g2⟩, h⟩ := h
          refine va_iast hx hb hKn hP hD hS a 0 (tk_ws_arr hmem (by decide)) rfl (tk_in g1 g2 hir.2) hd (fun H1 locs1 hP1 _ hS1 => ?_)
          rw [tk_clm g1 hir.2, tk_ws_ast hmem (by decide)] at hP1
          exact hK _ _ _ h H1 locs1 ls ⟨hP1, tk_up_r hM hvr⟩ hS1 hl hr.tl.tl.tl
        | z + 1, h, hmem => exact h.elim
      | none => rw [hc] at h; exact h.elim
    | .inl (.inl v) :: .inl (.inl i) :: .inl (.inl a) :: st, h, hr => exact h.elim
    | .inl (.inl v) :: .inl (.inl i) :: .inr a :: st, h, hr => exact h.elim
    | [.inl (.inl v), .inl (.inl i)], h, hr => exact h.elim
    | .inl (.inl v) :: .inl (.inr a) :: st, h, hr => exact h.elim
    | .inl (.inl v) :: .inr a :: st, h, hr => exact h.elim
    | [.inl (.inl v)], h, hr => exact h.elim
    | .inl (.inr a) :: st, h, hr => exact h.elim
    | .inr a :: st, h, hr => exact h.elim
    | [], h, hr => exact h.elim
  | bastore =>
    simp only [tk_okI, beq_iff_eq] at hi
    subst hi
    simp only [tk_I] at h
    match st, h, hr with
    | .inl (.inl v) :: .inl (.inl i) :: .inl (.inr a) :: st, h, hr =>
      have hvr := hr.hd
      have hir := hr.tl.hd
      dsimp only at h
      cases hc : tk_lk tk_ars a with
      | some q =>
        obtain ⟨ty, n, b⟩ := q
        rw [hc] at h
        have hmem := tk_lk_mem hc
        match ty, h, hmem with
        | 0, h, hmem => exact h.elim
        | 1, h, hmem =>
          obtain ⟨⟨g1, g2⟩, hz, h⟩ := h
          refine va_zast hx hb hKn hP hD hS a 1 (tk_ws_arr hmem (by decide)) rfl (tk_in g1 g2 hir.2) hd (fun H1 locs1 hP1 _ hS1 => ?_)
          rw [show vp_nar .boolean (Int32.ofInt v) = Int32.ofInt v by rcases hz with rfl | rfl <;> rfl, tk_clm g1 hir.2, tk_ws_ast hmem (by decide)] at hP1
          exact hK _ _ _ h H1 locs1 ls ⟨hP1, tk_up_r hM hvr⟩ hS1 hl hr.tl.tl.tl
        | z + 2, h, hmem => exact h.elim
      | none => rw [hc] at h; exact h.elim
    | .inl (.inl v) :: .inl (.inl i) :: .inl (.inl a) :: st, h, hr => exact h.elim
    | .inl (.inl v) :: .inl (.inl i) :: .inr a :: st, h, hr => exact h.elim
    | [.inl (.inl v), .inl (.inl i)], h, hr => exact h.elim
    | .inl (.inl v) :: .inl (.inr a) :: st, h, hr => exact h.elim
    | .inl (.inl v) :: .inr a :: st, h, hr => exact h.elim
    | [.inl (.inl v)], h, hr => exact h.elim
    | .inl (.inr a) :: st, h, hr => exact h.elim
    | .inr a :: st, h, hr => exact h.elim
    | [], h, hr => exact h.elim
  | lastore =>
    simp only [tk_okI, beq_iff_eq] at hi
    subst hi
    simp only [tk_I] at h
    match st, h, hr with
    | .inr v :: .inl (.inl i) :: .inl (.inr a) :: st, h, hr =>
      have hvr := hr.hd
      have hir := hr.tl.hd
      dsimp only at h
      cases hc : tk_lk tk_ars a with
      | some q =>
        obtain ⟨ty, n, b⟩ := q
        rw [hc] at h
        have hmem := tk_lk_mem hc
        match ty, h, hmem with
        | 0, h, hmem => exact h.elim
        | 1, h, hmem => exact h.elim
        | 2, h, hmem =>
          obtain ⟨⟨g1, g2⟩, h⟩ := h
          refine va_last hx hb hKn hP hD hS a 2 (tk_ws_lng hmem) rfl (tk_in g1 g2 hir.2) hd (fun H1 locs1 hP1 _ hS1 => ?_)
          rw [tk_clm g1 hir.2, tk_ws_lst hmem] at hP1
          exact hK _ _ _ h H1 locs1 ls ⟨hP1, tk_up_r hM hvr⟩ hS1 hl hr.tl.tl.tl
        | z + 3, h, hmem => exact h.elim
      | none => rw [hc] at h; exact h.elim
    | .inr v :: .inl (.inl i) :: .inl (.inl a) :: st, h, hr => exact h.elim
    | .inr v :: .inl (.inl i) :: .inr a :: st, h, hr => exact h.elim
    | [.inr v, .inl (.inl i)], h, hr => exact h.elim
    | .inr v :: .inl (.inr a) :: st, h, hr => exact h.elim
    | .inr v :: .inr a :: st, h, hr => exact h.elim
    | [.inr v], h, hr => exact h.elim
    | .inl a :: st, h, hr => exact h.elim
    | [], h, hr => exact h.elim
  | arraylength =>
    simp only [tk_okI, beq_iff_eq] at hi
    subst hi
    simp only [tk_I] at h
    match st, h, hr with
    | .inl (.inr a) :: st, h, hr =>
      dsimp only at h
      cases hc : tk_lk tk_ars a with
      | some q =>
        obtain ⟨ty, n, b⟩ := q
        rw [hc] at h
        have hmem := tk_lk_mem hc
        obtain ⟨x, g1, g2, g3⟩ := tk_ws_any (G := G) (M := M) hmem
        obtain ⟨y, hy⟩ := tk_tys_at (G := G) hmem
        have hn := (tk_ars_ok _ hmem).2.2.1
        dsimp only at hn
        refine va_alen (v := Int32.ofInt (n : Int)) hx hb hKn hP a ty g1 hy (by rw [g2]; rfl) hd ?_
        exact hK _ _ _ h H locs ls hW hS hl (tk_rs.cons ⟨by omega, by omega⟩ hr.tl)
      | none =>
        rw [hc] at h
        cases h8 : (b9 && Nat.beq a tk_sc) with
        | false => rw [h8] at h; exact h.elim
        | true =>
          rw [h8] at h
          rw [Bool.and_eq_true] at h8
          obtain ⟨h8, h7⟩ := h8
          have ea : a = tk_sc := Nat.eq_of_beq_eq_true h7
          subst ea
          obtain ⟨k1, k2, k3, k4⟩ := h9 h8
          exact va_slen hx hb k1 k2 k3 hS hd (hK _ _ _ h H locs ls hW hS hl (tk_rs.cons ⟨by omega, by omega⟩ hr.tl))
    | .inl (.inl a) :: st, h, hr => exact h.elim
    | .inr a :: st, h, hr => exact h.elim
    | [], h, hr => exact h.elim
  | ireturn =>
    simp only [tk_okI, beq_iff_eq] at hi
    subst hi
    simp only [tk_I] at h
    match st, h, hr with
    | [.inl (.inl v)], h, hr => exact hRQ (some v) M H locs ls pc _ h hW hS hr (Or.inl ⟨v, rfl, rfl, hd⟩)
    | .inl (.inl v) :: _ :: _, h, hr => exact h.elim
    | .inl (.inr a) :: st, h, hr => exact h.elim
    | .inr a :: st, h, hr => exact h.elim
    | [], h, hr => exact h.elim
  | return_ =>
    simp only [tk_okI, beq_iff_eq] at hi
    subst hi
    simp only [tk_I] at h
    match st, h, hr with
    | [], h, hr => exact hRQ none M H locs ls pc _ h hW hS hr (Or.inr ⟨rfl, rfl, hd⟩)
    | _ :: _, h, hr => exact h.elim
  | _ => exact h.elim
end TKO
end
section
/-! whole stretches -/
section TKG
variable {p : Program} {l : Launch} {e : Env} {R : Room} {s : State} {m : MethodId} {args : Array Value} {below : List Frame} {meth : Method} {c : Code} {cells slots : Nat} {Q : State → Prop} {G : tk_G} {A : Nat → Prop} {nL : Nat} {L : Nat} {xs : Nat → Int32}
theorem tk_snd {own : String} {cc : ByteArray} {b9 : Bool} {fl : tk_FL} {cs : List (Nat × Int)} (X : tk_X p s m args c G A nL own cc b9 L xs) (hfl : tk_flok own fl) (hcs : tk_csok own cs) {tab : List tk_E} (htab : tk_good cc nL tab) {cut : List Nat} {P : Nat → tk_Lc → List tk_V → tk_M → Prop} {RQ : Option Int → tk_M → Prop}
    (hRQ : tk_Rt p l e R s m args below meth c cells slots Q G A cc RQ) (hP : ∀ pc lo st M, P pc lo st M → tk_W p l e R s m args below meth c cells slots Q G A nL pc lo st M) :
    ∀ (n : Nat) (q : tk_E) (t : List tk_E), tk_good cc nL (q :: t) → ∀ (lo : tk_Lc) (st : List tk_V) (M : tk_M), tk_N fl cs b9 L xs cut tab P RQ n (q :: t) lo st M → tk_W p l e R s m args below meth c cells slots Q G A nL q.1 lo st M := by
  intro n
  induction n with
  | zero => intro q t hg lo st M h; exact hP _ _ _ _ h
  | succ n ih =>
    intro q t hg lo st M h
    unfold tk_N at h
    cases hc : (cut.elem q.1 || tk_stop q.2.1) with
    | true => rw [hc] at h; exact hP _ _ _ _ h
    | false =>
      rw [hc] at h
      refine tk_one X hfl hcs (hg.1 q List.mem_cons_self) h (fun lo st M hk => ?_) (fun a lo st M hj => ?_) hRQ
      · cases t with
        | nil => unfold tk_N at hk; exact hk.elim
        | cons r t =>
          rw [tk_ch_next hg.2]
          exact ih r t hg.tail lo st M hk
      · cases ht : tk_to tab a with
        | nil => rw [ht] at hj; unfold tk_N at hj; exact hj.elim
        | cons r t =>
          rw [ht] at hj
          have hg2 : tk_good cc nL (tk_to tab a) := htab.to
          rw [ht] at hg2
          rw [← tk_to_head ht]
          exact ih r t hg2 lo st M hj
/-- THE ROW TO USE: from pc on, up to n + 1 instructions; the walk stops at calls and in 'cut', where P must hold -/
theorem tk_goP {own : String} {cc : ByteArray} {b9 : Bool} {fl : tk_FL} {cs : List (Nat × Int)} (X : tk_X p s m args c G A nL own cc b9 L xs) (hfl : tk_flok own fl) (hcs : tk_csok own cs) {tab : List tk_E} (htab : tk_good cc nL tab) {P : Nat → tk_Lc → List tk_V → tk_M → Prop} {RQ : Option Int → tk_M → Prop} (hRQ : tk_Rt p l e R s m args below meth c cells slots Q G A cc RQ)
    (hP : ∀ pc lo st M, P pc lo st M → tk_W p l e R s m args below meth c cells slots Q G A nL pc lo st M) (n : Nat) (cut : List Nat) {pc : Nat} {lo : tk_Lc} {st : List tk_V} {M : tk_M} (h : tk_R fl cs b9 L xs cut tab P RQ n (tk_to tab pc) lo st M) : tk_W p l e R s m args below meth c cells slots Q G A nL pc lo st M := by
  cases ht : tk_to tab pc with
  | nil => rw [ht] at h; exact h.elim
  | cons q t =>
    rw [ht] at h
    have hg : tk_good cc nL (tk_to tab pc) := htab.to
    rw [ht] at hg
    rw [← tk_to_head ht]
    refine tk_one X hfl hcs (hg.1 q List.mem_cons_self) h (fun lo st M hk => ?_) (fun a lo st M hj => ?_) hRQ
    · cases t with
      | nil => unfold tk_N at hk; exact hk.elim
      | cons r t =>
        rw [tk_ch_next hg.2]
        exact tk_snd X hfl hcs htab hRQ hP n r t hg.tail lo st M hk
    · cases ht2 : tk_to tab a with
      | nil => rw [ht2] at hj; unfold tk_N at hj; exact hj.elim
      | cons r t =>
        rw [ht2] at hj
        have hg2 : tk_good cc nL (tk_to tab a) := htab.to
        rw [ht2] at hg2
        rw [← tk_to_head ht2]
        exact tk_snd X hfl hcs htab hRQ hP n r t hg2 lo st M hj
end TKG
end
section
/-! FIELD TABLES and CONSTANTS by the owner of the pool, written by a program -/
def fl_TK : List (Nat × Nat × Nat × Nat × Nat × Nat) := [(10, 0, 0, 1, 2, 4), (19, 0, 2, 1, 2, 5), (25, 0, 1, 1, 2, 6), (30, 0, 3, 1, 2, 1), (41, 1, 2, 2, 3, 0), (60, 1, 3, 2, 3, 0), (67, 0, 4, 1, 2, 0), (70, 0, 5, 1, 2, 0), (73, 0, 6, 1, 2, 0), (76, 0, 7, 1, 2, 0), (88, 1, 4, 2, 3, 0), (101, 1, 0, 2, 3, 7), (105, 3, 2, 31, 41, 1), (130, 5, 0, 73, 81, 1), (140, 5, 9, 73, 81, 1), (150, 5, 12, 73, 81, 0), (153, 1, 1, 2, 3, 8), (157, 4, 2, 41, 73, 0), (169, 2, 0, 3, 4, 0), (172, 2, 1, 3, 4, 0), (175, 1, 5, 2, 3, 0), (178, 3, 3, 31, 41, 0)]
def cs_TK : List (Nat × Int) := [(52, 100000), (133, 100000000)]
def fl_Tr : List (Nat × Nat × Nat × Nat × Nat × Nat) := [(11, 1, 0, 2, 3, 7), (19, 1, 1, 2, 3, 8), (25, 1, 2, 2, 3, 0), (29, 1, 3, 2, 3, 0), (32, 1, 4, 2, 3, 0), (35, 3, 1, 31, 41, 0), (38, 3, 0, 31, 41, 0), (45, 4, 0, 41, 73, 0), (48, 4, 1, 41, 73, 0), (51, 3, 2, 31, 41, 1), (55, 3, 3, 31, 41, 0), (58, 4, 2, 41, 73, 0), (61, 1, 5, 2, 3, 0), (72, 3, 4, 31, 41, 1), (83, 4, 3, 41, 73, 0), (86, 3, 5, 31, 41, 1), (89, 5, 9, 73, 81, 1), (98, 5, 10, 73, 81, 1), (101, 5, 6, 73, 81, 0), (108, 5, 11, 73, 81, 1), (111, 5, 5, 73, 81, 0), (114, 4, 4, 41, 73, 0)]
def cs_Tr : List (Nat × Int) := []
def fl_Au : List (Nat × Nat × Nat × Nat × Nat × Nat) := [(9, 2, 0, 3, 4, 0), (15, 2, 1, 3, 4, 0), (18, 5, 5, 73, 81, 0), (23, 1, 1, 2, 3, 8), (29, 4, 2, 41, 73, 0), (38, 5, 12, 73, 81, 0), (49, 5, 9, 73, 81, 1)]
def cs_Au : List (Nat × Int) := []
def fl_Se : List (Nat × Nat × Nat × Nat × Nat × Nat) := []
def cs_Se : List (Nat × Int) := []
def fl_Su : List (Nat × Nat × Nat × Nat × Nat × Nat) := []
def cs_Su : List (Nat × Int) := []
def fl_Ti : List (Nat × Nat × Nat × Nat × Nat × Nat) := [(9, 5, 0, 73, 81, 1), (15, 5, 9, 73, 81, 1), (18, 5, 10, 73, 81, 1), (21, 5, 12, 73, 81, 0), (25, 5, 1, 73, 81, 0), (28, 5, 2, 73, 81, 1), (31, 5, 7, 73, 81, 1), (34, 5, 4, 73, 81, 0), (49, 5, 6, 73, 81, 0), (52, 5, 5, 73, 81, 0), (55, 5, 3, 73, 81, 0), (58, 5, 8, 73, 81, 0)]
def cs_Ti : List (Nat × Int) := []
def fl_Mo : List (Nat × Nat × Nat × Nat × Nat × Nat) := [(9, 6, 12, 7, 8, 10), (13, 6, 13, 7, 8, 11), (16, 6, 14, 7, 8, 12), (19, 6, 15, 7, 8, 13), (22, 6, 16, 7, 8, 14), (25, 6, 17, 7, 8, 15), (28, 6, 18, 7, 8, 16), (31, 6, 19, 7, 8, 17), (34, 6, 20, 7, 8, 18), (38, 6, 21, 7, 8, 19), (41, 6, 22, 7, 8, 20), (44, 6, 23, 7, 8, 21), (47, 6, 24, 7, 8, 22), (50, 6, 25, 7, 8, 23), (53, 6, 26, 7, 8, 24), (56, 6, 27, 7, 8, 25), (59, 6, 28, 7, 8, 26), (62, 6, 29, 7, 8, 27), (65, 6, 30, 7, 8, 28), (68, 6, 31, 7, 8, 29), (71, 6, 32, 7, 8, 30), (74, 6, 33, 7, 8, 31), (77, 6, 34, 7, 8, 32), (80, 6, 0, 7, 8, 0), (84, 6, 1, 7, 8, 0), (87, 6, 2, 7, 8, 0), (90, 6, 11, 7, 8, 1), (107, 6, 4, 7, 8, 0), (110, 6, 5, 7, 8, 0), (113, 6, 6, 7, 8, 0), (116, 6, 10, 7, 8, 0), (122, 6, 3, 7, 8, 0), (125, 6, 7, 7, 8, 0), (128, 6, 8, 7, 8, 0), (131, 6, 9, 7, 8, 0)]
def cs_Mo : List (Nat × Int) := [(102, 100000), (169, 100000000)]
def fl_In : List (Nat × Nat × Nat × Nat × Nat × Nat) := []
def cs_In : List (Nat × Int) := [(265, 1431655765), (266, 858993459), (267, 252645135)]
def fl_La : List (Nat × Nat × Nat × Nat × Nat × Nat) := []
def cs_La : List (Nat × Int) := []
set_option maxRecDepth 100000 in
theorem fo_TK : tk_flok "TrackKeeper" fl_TK := by unfold tk_flok; decide +kernel
set_option maxRecDepth 100000 in
theorem co_TK : tk_csok "TrackKeeper" cs_TK := by unfold tk_csok; decide +kernel
set_option maxRecDepth 100000 in
theorem fo_Tr : tk_flok "TrackKeeper$Track" fl_Tr := by unfold tk_flok; decide +kernel
set_option maxRecDepth 100000 in
theorem co_Tr : tk_csok "TrackKeeper$Track" cs_Tr := by unfold tk_csok; decide +kernel
set_option maxRecDepth 100000 in
theorem fo_Au : tk_flok "TrackKeeper$Authorities" fl_Au := by unfold tk_flok; decide +kernel
set_option maxRecDepth 100000 in
theorem co_Au : tk_csok "TrackKeeper$Authorities" cs_Au := by unfold tk_csok; decide +kernel
set_option maxRecDepth 100000 in
theorem fo_Se : tk_flok "TrackKeeper$Section" fl_Se := by unfold tk_flok; decide +kernel
set_option maxRecDepth 100000 in
theorem co_Se : tk_csok "TrackKeeper$Section" cs_Se := by unfold tk_csok; decide +kernel
set_option maxRecDepth 100000 in
theorem fo_Su : tk_flok "TrackKeeper$Subsection" fl_Su := by unfold tk_flok; decide +kernel
set_option maxRecDepth 100000 in
theorem co_Su : tk_csok "TrackKeeper$Subsection" cs_Su := by unfold tk_csok; decide +kernel
set_option maxRecDepth 100000 in
theorem fo_Ti : tk_flok "TrackKeeper$Train" fl_Ti := by unfold tk_flok; decide +kernel
set_option maxRecDepth 100000 in
theorem co_Ti : tk_csok "TrackKeeper$Train" cs_Ti := by unfold tk_csok; decide +kernel
set_option maxRecDepth 100000 in
theorem fo_Mo : tk_flok "TrackKeeperModel" fl_Mo := by unfold tk_flok; decide +kernel
set_option maxRecDepth 100000 in
theorem co_Mo : tk_csok "TrackKeeperModel" cs_Mo := by unfold tk_csok; decide +kernel
set_option maxRecDepth 100000 in
theorem fo_La : tk_flok "TrackKeeperLaw" fl_La := by unfold tk_flok; decide +kernel
set_option maxRecDepth 100000 in
theorem co_La : tk_csok "TrackKeeperLaw" cs_La := by unfold tk_csok; decide +kernel
set_option maxRecDepth 100000 in
theorem fo_In : tk_flok "java/lang/Integer" fl_In := by unfold tk_flok; decide +kernel
set_option maxRecDepth 100000 in
theorem co_In : tk_csok "java/lang/Integer" cs_In := by unfold tk_csok; decide +kernel
end
section
/-! CODE TABLES, written by a program -/
def tb_TK_section : List tk_E := [(0, .aload_n 0, 1, []), (1, .getfield 30, 4, []), (4, .ifCond .ne 13, 7, [17]), (7, .aload_n 0, 8, []), (8, .getfield 10, 11, []), (11, .invokevirtual 34, 14, []), (14, .ifCond .eq 11, 17, [25]), (17, .new 38, 20, []), (20, .dup, 21, []), (21, .invokespecial 40, 24, []), (24, .athrow, 25, []), (25, .aload_n 0, 26, []), (26, .getfield 10, 29, []), (29, .getfield 41, 32, []), (32, .bipush 10, 34, []), (34, .if_icmp .lt 11, 37, [45]), (37, .new 45, 40, []), (40, .dup, 41, []), (41, .invokespecial 47, 44, []), (44, .athrow, 45, []), (45, .aload_n 0, 46, []), (46, .getfield 10, 49, []), (49, .invokevirtual 48, 52, []), (52, .ireturn, 53, [])]
def tb_TK_sub : List tk_E := [(0, .iload_n 1, 1, []), (1, .iconst 1, 2, []), (2, .ldc 52, 4, []), (4, .invokestatic 53, 7, []), (7, .ifCond .ne 11, 10, [18]), (10, .new 57, 13, []), (13, .dup, 14, []), (14, .invokespecial 59, 17, []), (17, .athrow, 18, []), (18, .aload_n 0, 19, []), (19, .getfield 30, 22, []), (22, .ifCond .ne 13, 25, [35]), (25, .aload_n 0, 26, []), (26, .getfield 10, 29, []), (29, .getfield 41, 32, []), (32, .ifCond .ne 11, 35, [43]), (35, .new 38, 38, []), (38, .dup, 39, []), (39, .invokespecial 40, 42, []), (42, .athrow, 43, []), (43, .aload_n 0, 44, []), (44, .getfield 10, 47, []), (47, .getfield 60, 50, []), (50, .bipush 32, 52, []), (52, .if_icmp .lt 11, 55, [63]), (55, .new 45, 58, []), (58, .dup, 59, []), (59, .invokespecial 47, 62, []), (62, .athrow, 63, []), (63, .aload_n 0, 64, []), (64, .getfield 10, 67, []), (67, .iload_n 1, 68, []), (68, .invokevirtual 63, 71, []), (71, .ireturn, 72, [])]
def tb_TK_begin : List tk_E := [(0, .iload_n 1, 1, []), (1, .iconst 1, 2, []), (2, .ldc 52, 4, []), (4, .invokestatic 53, 7, []), (7, .ifCond .eq 23, 10, [30]), (10, .iload_n 2, 11, []), (11, .iconst 1, 12, []), (12, .ldc 52, 14, []), (14, .invokestatic 53, 17, []), (17, .ifCond .eq 13, 20, [30]), (20, .iload_n 3, 21, []), (21, .iconst 1, 22, []), (22, .ldc 52, 24, []), (24, .invokestatic 53, 27, []), (27, .ifCond .ne 11, 30, [38]), (30, .new 57, 33, []), (33, .dup, 34, []), (34, .invokespecial 59, 37, []), (37, .athrow, 38, []), (38, .aload_n 0, 39, []), (39, .getfield 10, 42, []), (42, .getfield 41, 45, []), (45, .ifCond .eq 13, 48, [58]), (48, .aload_n 0, 49, []), (49, .getfield 10, 52, []), (52, .invokevirtual 34, 55, []), (55, .ifCond .eq 11, 58, [66]), (58, .new 38, 61, []), (61, .dup, 62, []), (62, .invokespecial 40, 65, []), (65, .athrow, 66, []), (66, .aload_n 0, 67, []), (67, .iload_n 1, 68, []), (68, .putfield 67, 71, []), (71, .aload_n 0, 72, []), (72, .iload_n 2, 73, []), (73, .putfield 70, 76, []), (76, .aload_n 0, 77, []), (77, .iload_n 3, 78, []), (78, .putfield 73, 81, []), (81, .aload_n 0, 82, []), (82, .iconst 0, 83, []), (83, .putfield 76, 86, []), (86, .aload_n 0, 87, []), (87, .iconst 1, 88, []), (88, .putfield 30, 91, []), (91, .aload_n 0, 92, []), (92, .getfield 10, 95, []), (95, .invokevirtual 79, 98, []), (98, .aload_n 0, 99, []), (99, .getfield 19, 102, []), (102, .invokevirtual 82, 105, []), (105, .iconst 0, 106, []), (106, .istore 4, 108, []), (108, .iload 4, 110, []), (110, .bipush 8, 112, []), (112, .if_icmp .ge 19, 115, [131]), (115, .aload_n 0, 116, []), (116, .getfield 25, 119, []), (119, .iload 4, 121, []), (121, .aaload, 122, []), (122, .invokevirtual 85, 125, []), (125, .iinc 4 1, 128, []), (128, .goto (-20), 131, [108]), (131, .aload_n 0, 132, []), (132, .getfield 10, 135, []), (135, .getfield 88, 138, []), (138, .ireturn, 139, [])]
def tb_TK_clear : List tk_E := [(0, .aload_n 0, 1, []), (1, .getfield 10, 4, []), (4, .invokevirtual 91, 7, []), (7, .aload_n 0, 8, []), (8, .iconst 0, 9, []), (9, .putfield 30, 12, []), (12, .return_, 13, [])]
def tb_TK_detect : List tk_E := [(0, .aload_n 0, 1, []), (1, .invokevirtual 94, 4, []), (4, .aload_n 0, 5, []), (5, .getfield 10, 8, []), (8, .iload_n 1, 9, []), (9, .invokevirtual 97, 12, []), (12, .ifCond .ne 11, 15, [23]), (15, .new 57, 18, []), (18, .dup, 19, []), (19, .invokespecial 59, 22, []), (22, .athrow, 23, []), (23, .aload_n 0, 24, []), (24, .getfield 10, 27, []), (27, .getfield 101, 30, []), (30, .iload_n 1, 31, []), (31, .aaload, 32, []), (32, .iload_n 2, 33, []), (33, .putfield 105, 36, []), (36, .aload_n 0, 37, []), (37, .invokevirtual 110, 40, []), (40, .return_, 41, [])]
def tb_TK_connect : List tk_E := [(0, .aload_n 0, 1, []), (1, .invokevirtual 94, 4, []), (4, .iload_n 1, 5, []), (5, .invokestatic 113, 8, []), (8, .ifCond .eq 13, 11, [21]), (11, .iload_n 2, 12, []), (12, .iconst 1, 13, []), (13, .ldc 52, 15, []), (15, .invokestatic 53, 18, []), (18, .ifCond .ne 11, 21, [29]), (21, .new 57, 24, []), (24, .dup, 25, []), (25, .invokespecial 59, 28, []), (28, .athrow, 29, []), (29, .aload_n 0, 30, []), (30, .getfield 25, 33, []), (33, .iload_n 1, 34, []), (34, .aaload, 35, []), (35, .iload_n 2, 36, []), (36, .invokevirtual 116, 39, []), (39, .aload_n 0, 40, []), (40, .invokevirtual 110, 43, []), (43, .return_, 44, [])]
def tb_TK_report : List tk_E := [(0, .aload_n 0, 1, []), (1, .invokevirtual 94, 4, []), (4, .iload_n 1, 5, []), (5, .invokestatic 113, 8, []), (8, .ifCond .eq 27, 11, [35]), (11, .iload_n 3, 12, []), (12, .iconst 0, 13, []), (13, .iconst 2, 14, []), (14, .invokestatic 53, 17, []), (17, .ifCond .eq 18, 20, [35]), (20, .iload_n 2, 21, []), (21, .iconst 0, 22, []), (22, .aload_n 0, 23, []), (23, .getfield 10, 26, []), (26, .getfield 88, 29, []), (29, .invokestatic 53, 32, []), (32, .ifCond .ne 11, 35, [43]), (35, .new 57, 38, []), (38, .dup, 39, []), (39, .invokespecial 59, 42, []), (42, .athrow, 43, []), (43, .aload_n 0, 44, []), (44, .iload_n 1, 45, []), (45, .invokevirtual 120, 48, []), (48, .aload_n 0, 49, []), (49, .getfield 25, 52, []), (52, .iload_n 1, 53, []), (53, .aaload, 54, []), (54, .iload_n 2, 55, []), (55, .invokevirtual 123, 58, []), (58, .ifCond .eq 5, 61, [63]), (61, .iconst 0, 62, []), (62, .ireturn, 63, []), (63, .aload_n 0, 64, []), (64, .getfield 25, 67, []), (67, .iload_n 1, 68, []), (68, .aaload, 69, []), (69, .iload_n 2, 70, []), (70, .iload_n 3, 71, []), (71, .aload_n 0, 72, []), (72, .getfield 76, 75, []), (75, .aload_n 0, 76, []), (76, .getfield 10, 79, []), (79, .invokevirtual 126, 82, []), (82, .aload_n 0, 83, []), (83, .invokevirtual 110, 86, []), (86, .iconst 1, 87, []), (87, .ireturn, 88, [])]
def tb_TK_leave : List tk_E := [(0, .aload_n 0, 1, []), (1, .invokevirtual 94, 4, []), (4, .iload_n 1, 5, []), (5, .invokestatic 113, 8, []), (8, .ifCond .ne 11, 11, [19]), (11, .new 57, 14, []), (14, .dup, 15, []), (15, .invokespecial 59, 18, []), (18, .athrow, 19, []), (19, .aload_n 0, 20, []), (20, .iload_n 1, 21, []), (21, .invokevirtual 120, 24, []), (24, .aload_n 0, 25, []), (25, .getfield 25, 28, []), (28, .iload_n 1, 29, []), (29, .aaload, 30, []), (30, .iconst 0, 31, []), (31, .putfield 130, 34, []), (34, .aload_n 0, 35, []), (35, .invokevirtual 110, 38, []), (38, .return_, 39, [])]
def tb_TK_tick : List tk_E := [(0, .aload_n 0, 1, []), (1, .invokevirtual 94, 4, []), (4, .iload_n 1, 5, []), (5, .iconst 1, 6, []), (6, .sipush 1000, 9, []), (9, .invokestatic 53, 12, []), (12, .ifCond .ne 11, 15, [23]), (15, .new 57, 18, []), (18, .dup, 19, []), (19, .invokespecial 59, 22, []), (22, .athrow, 23, []), (23, .iload_n 1, 24, []), (24, .ldc 133, 26, []), (26, .aload_n 0, 27, []), (27, .getfield 76, 30, []), (30, .isub, 31, []), (31, .if_icmp .le 11, 34, [42]), (34, .new 45, 37, []), (37, .dup, 38, []), (38, .invokespecial 47, 41, []), (41, .athrow, 42, []), (42, .iconst 0, 43, []), (43, .istore_n 2, 44, []), (44, .iload_n 2, 45, []), (45, .iload_n 1, 46, []), (46, .if_icmp .ge 34, 49, [80]), (49, .aload_n 0, 50, []), (50, .dup, 51, []), (51, .getfield 76, 54, []), (54, .iconst 1, 55, []), (55, .iadd, 56, []), (56, .putfield 76, 59, []), (59, .aload_n 0, 60, []), (60, .getfield 10, 63, []), (63, .aload_n 0, 64, []), (64, .getfield 73, 67, []), (67, .invokevirtual 134, 70, []), (70, .aload_n 0, 71, []), (71, .invokevirtual 110, 74, []), (74, .iinc 2 1, 77, []), (77, .goto (-33), 80, [44]), (80, .aload_n 0, 81, []), (81, .getfield 76, 84, []), (84, .ireturn, 85, [])]
def tb_TK_request : List tk_E := [(0, .aload_n 0, 1, []), (1, .invokevirtual 94, 4, []), (4, .iload_n 1, 5, []), (5, .invokestatic 113, 8, []), (8, .ifCond .eq 14, 11, [22]), (11, .aload_n 0, 12, []), (12, .getfield 10, 15, []), (15, .iload_n 2, 16, []), (16, .invokevirtual 137, 19, []), (19, .ifCond .ne 11, 22, [30]), (22, .new 57, 25, []), (25, .dup, 26, []), (26, .invokespecial 59, 29, []), (29, .athrow, 30, []), (30, .aload_n 0, 31, []), (31, .getfield 25, 34, []), (34, .iload_n 1, 35, []), (35, .aaload, 36, []), (36, .getfield 140, 39, []), (39, .ifCond .ne 11, 42, [50]), (42, .new 143, 45, []), (45, .dup, 46, []), (46, .invokespecial 145, 49, []), (49, .athrow, 50, []), (50, .aload_n 0, 51, []), (51, .getfield 19, 54, []), (54, .iload_n 1, 55, []), (55, .iload_n 2, 56, []), (56, .aload_n 0, 57, []), (57, .getfield 10, 60, []), (60, .aload_n 0, 61, []), (61, .getfield 25, 64, []), (64, .invokevirtual 146, 67, []), (67, .aload_n 0, 68, []), (68, .getfield 25, 71, []), (71, .iload_n 1, 72, []), (72, .aaload, 73, []), (73, .getfield 150, 76, []), (76, .ireturn, 77, [])]
def tb_TK_state : List tk_E := [(0, .aload_n 0, 1, []), (1, .invokevirtual 94, 4, []), (4, .aload_n 0, 5, []), (5, .getfield 10, 8, []), (8, .iload_n 1, 9, []), (9, .invokevirtual 137, 12, []), (12, .ifCond .ne 11, 15, [23]), (15, .new 57, 18, []), (18, .dup, 19, []), (19, .invokespecial 59, 22, []), (22, .athrow, 23, []), (23, .aload_n 0, 24, []), (24, .getfield 10, 27, []), (27, .getfield 153, 30, []), (30, .iload_n 1, 31, []), (31, .aaload, 32, []), (32, .getfield 157, 35, []), (35, .ireturn, 36, [])]
def tb_TK_train : List tk_E := [(0, .aload_n 0, 1, []), (1, .invokevirtual 94, 4, []), (4, .iload_n 1, 5, []), (5, .invokestatic 113, 8, []), (8, .ifCond .eq 12, 11, [20]), (11, .iload_n 2, 12, []), (12, .iconst 0, 13, []), (13, .iconst 5, 14, []), (14, .invokestatic 53, 17, []), (17, .ifCond .ne 11, 20, [28]), (20, .new 57, 23, []), (23, .dup, 24, []), (24, .invokespecial 59, 27, []), (27, .athrow, 28, []), (28, .aload_n 0, 29, []), (29, .getfield 25, 32, []), (32, .iload_n 1, 33, []), (33, .aaload, 34, []), (34, .iload_n 2, 35, []), (35, .invokevirtual 162, 38, []), (38, .ireturn, 39, [])]
def tb_TK_count : List tk_E := [(0, .iload_n 1, 1, []), (1, .iconst 0, 2, []), (2, .bipush 7, 4, []), (4, .invokestatic 53, 7, []), (7, .ifCond .eq 20, 10, [27]), (10, .iload_n 1, 11, []), (11, .bipush 6, 13, []), (13, .if_icmp .lt 22, 16, [35]), (16, .aload_n 0, 17, []), (17, .getfield 10, 20, []), (20, .iload_n 2, 21, []), (21, .invokevirtual 97, 24, []), (24, .ifCond .ne 11, 27, [35]), (27, .new 57, 30, []), (30, .dup, 31, []), (31, .invokespecial 59, 34, []), (34, .athrow, 35, []), (35, .iload_n 1, 36, []), (36, .ifCond .ne 11, 39, [47]), (39, .aload_n 0, 40, []), (40, .getfield 10, 43, []), (43, .getfield 41, 46, []), (46, .ireturn, 47, []), (47, .iload_n 1, 48, []), (48, .iconst 1, 49, []), (49, .if_icmp .ne 11, 52, [60]), (52, .aload_n 0, 53, []), (53, .getfield 10, 56, []), (56, .getfield 60, 59, []), (59, .ireturn, 60, []), (60, .aload_n 0, 61, []), (61, .getfield 30, 64, []), (64, .ifCond .eq 12, 67, [76]), (67, .aload_n 0, 68, []), (68, .iload_n 1, 69, []), (69, .iload_n 2, 70, []), (70, .invokevirtual 165, 73, []), (73, .goto 4, 76, [77]), (76, .iconst 0, 77, []), (77, .ireturn, 78, [])]
def tb_TK_countSinceBegin : List tk_E := [(0, .iload_n 1, 1, []), (1, .tableswitch 77 2 6 #[35, 40, 48, 56, 64], 36, [78, 36, 41, 49, 57, 65]), (36, .aload_n 0, 37, []), (37, .getfield 76, 40, []), (40, .ireturn, 41, []), (41, .aload_n 0, 42, []), (42, .getfield 19, 45, []), (45, .getfield 169, 48, []), (48, .ireturn, 49, []), (49, .aload_n 0, 50, []), (50, .getfield 19, 53, []), (53, .getfield 172, 56, []), (56, .ireturn, 57, []), (57, .aload_n 0, 58, []), (58, .getfield 10, 61, []), (61, .getfield 175, 64, []), (64, .ireturn, 65, []), (65, .aload_n 0, 66, []), (66, .getfield 10, 69, []), (69, .getfield 101, 72, []), (72, .iload_n 2, 73, []), (73, .aaload, 74, []), (74, .getfield 178, 77, []), (77, .ireturn, 78, []), (78, .aload_n 0, 79, []), (79, .getfield 10, 82, []), (82, .getfield 101, 85, []), (85, .iload_n 2, 86, []), (86, .aaload, 87, []), (87, .getfield 105, 90, []), (90, .ifCond .eq 7, 93, [97]), (93, .iconst 1, 94, []), (94, .goto 4, 97, [98]), (97, .iconst 0, 98, []), (98, .ireturn, 99, [])]
def tb_TK_requireBegun : List tk_E := [(0, .aload_n 0, 1, []), (1, .getfield 30, 4, []), (4, .ifCond .ne 11, 7, [15]), (7, .new 38, 10, []), (10, .dup, 11, []), (11, .invokespecial 40, 14, []), (14, .athrow, 15, []), (15, .return_, 16, [])]
def tb_TK_requireConnected : List tk_E := [(0, .aload_n 0, 1, []), (1, .getfield 25, 4, []), (4, .iload_n 1, 5, []), (5, .aaload, 6, []), (6, .getfield 130, 9, []), (9, .ifCond .ne 11, 12, [20]), (12, .new 143, 15, []), (15, .dup, 16, []), (16, .invokespecial 145, 19, []), (19, .athrow, 20, []), (20, .return_, 21, [])]
def tb_TK_isTrain : List tk_E := [(0, .iload_n 0, 1, []), (1, .iconst 0, 2, []), (2, .bipush 7, 4, []), (4, .invokestatic 53, 7, []), (7, .ireturn, 8, [])]
def tb_TK_isWithin : List tk_E := [(0, .iload_n 0, 1, []), (1, .iload_n 1, 2, []), (2, .if_icmp .lt 12, 5, [14]), (5, .iload_n 0, 6, []), (6, .iload_n 2, 7, []), (7, .if_icmp .gt 7, 10, [14]), (10, .iconst 1, 11, []), (11, .goto 4, 14, [15]), (14, .iconst 0, 15, []), (15, .ireturn, 16, [])]
def tb_TK_findAllAnew : List tk_E := [(0, .iconst 0, 1, []), (1, .istore_n 1, 2, []), (2, .iload_n 1, 3, []), (3, .bipush 8, 5, []), (5, .if_icmp .ge 30, 8, [35]), (8, .aload_n 0, 9, []), (9, .getfield 25, 12, []), (12, .iload_n 1, 13, []), (13, .aaload, 14, []), (14, .aload_n 0, 15, []), (15, .getfield 76, 18, []), (18, .aload_n 0, 19, []), (19, .getfield 67, 22, []), (22, .aload_n 0, 23, []), (23, .getfield 70, 26, []), (26, .invokevirtual 181, 29, []), (29, .iinc 1 1, 32, []), (32, .goto (-30), 35, [2]), (35, .aload_n 0, 36, []), (36, .getfield 10, 39, []), (39, .aload_n 0, 40, []), (40, .getfield 25, 43, []), (43, .invokevirtual 185, 46, []), (46, .aload_n 0, 47, []), (47, .getfield 19, 50, []), (50, .aload_n 0, 51, []), (51, .getfield 10, 54, []), (54, .aload_n 0, 55, []), (55, .getfield 25, 58, []), (58, .invokevirtual 189, 61, []), (61, .return_, 62, [])]
def tb_Mo_thrown : List tk_E := [(0, .aload_n 0, 1, []), (1, .getfield 80, 4, []), (4, .ireturn, 5, [])]
def tb_Mo_in : List tk_E := [(0, .iload_n 0, 1, []), (1, .iload_n 1, 2, []), (2, .if_icmp .lt 12, 5, [14]), (5, .iload_n 0, 6, []), (6, .iload_n 2, 7, []), (7, .if_icmp .gt 7, 10, [14]), (10, .iconst 1, 11, []), (11, .goto 4, 14, [15]), (14, .iconst 0, 15, []), (15, .ireturn, 16, [])]
def tb_Mo_fails : List tk_E := [(0, .iload_n 1, 1, []), (1, .ifCond .eq 15, 4, [16]), (4, .aload_n 0, 5, []), (5, .getfield 80, 8, []), (8, .ifCond .ne 8, 11, [16]), (11, .aload_n 0, 12, []), (12, .iload_n 2, 13, []), (13, .putfield 80, 16, []), (16, .aload_n 0, 17, []), (17, .getfield 80, 20, []), (20, .ifCond .eq 7, 23, [27]), (23, .iconst 1, 24, []), (24, .goto 4, 27, [28]), (27, .iconst 0, 28, []), (28, .ireturn, 29, [])]
def tb_Mo_isWaiting : List tk_E := [(0, .aload_n 0, 1, []), (1, .getfield 84, 4, []), (4, .ifCond .le 25, 7, [29]), (7, .aload_n 0, 8, []), (8, .getfield 16, 11, []), (11, .aload_n 0, 12, []), (12, .getfield 84, 15, []), (15, .iconst 1, 16, []), (16, .isub, 17, []), (17, .iaload, 18, []), (18, .aload_n 0, 19, []), (19, .getfield 87, 22, []), (22, .if_icmp .ne 7, 25, [29]), (25, .iconst 1, 26, []), (26, .goto 4, 29, [30]), (29, .iconst 0, 30, []), (30, .ireturn, 31, [])]
def tb_Mo_section : List tk_E := [(0, .aload_n 0, 1, []), (1, .iconst 0, 2, []), (2, .putfield 80, 5, []), (5, .aload_n 0, 6, []), (6, .aload_n 0, 7, []), (7, .getfield 90, 10, []), (10, .ifCond .ne 10, 13, [20]), (13, .aload_n 0, 14, []), (14, .invokevirtual 94, 17, []), (17, .ifCond .eq 7, 20, [24]), (20, .iconst 1, 21, []), (21, .goto 4, 24, [25]), (24, .iconst 0, 25, []), (25, .iconst 1, 26, []), (26, .invokevirtual 98, 29, []), (29, .ifCond .ne 25, 32, [54]), (32, .aload_n 0, 33, []), (33, .aload_n 0, 34, []), (34, .getfield 84, 37, []), (37, .bipush 10, 39, []), (39, .if_icmp .ne 7, 42, [46]), (42, .iconst 1, 43, []), (43, .goto 4, 46, [47]), (46, .iconst 0, 47, []), (47, .iconst 2, 48, []), (48, .invokevirtual 98, 51, []), (51, .ifCond .eq 5, 54, [56]), (54, .iconst 0, 55, []), (55, .ireturn, 56, []), (56, .aload_n 0, 57, []), (57, .getfield 16, 60, []), (60, .aload_n 0, 61, []), (61, .getfield 84, 64, []), (64, .aload_n 0, 65, []), (65, .getfield 87, 68, []), (68, .iastore, 69, []), (69, .aload_n 0, 70, []), (70, .dup, 71, []), (71, .getfield 84, 74, []), (74, .dup_x1, 75, []), (75, .iconst 1, 76, []), (76, .iadd, 77, []), (77, .putfield 84, 80, []), (80, .ireturn, 81, [])]
def tb_Mo_sub : List tk_E := [(0, .aload_n 0, 1, []), (1, .iconst 0, 2, []), (2, .putfield 80, 5, []), (5, .aload_n 0, 6, []), (6, .iload_n 1, 7, []), (7, .iconst 1, 8, []), (8, .ldc 102, 10, []), (10, .invokestatic 103, 13, []), (13, .ifCond .ne 7, 16, [20]), (16, .iconst 1, 17, []), (17, .goto 4, 20, [21]), (20, .iconst 0, 21, []), (21, .iconst 1, 22, []), (22, .invokevirtual 98, 25, []), (25, .ifCond .ne 52, 28, [77]), (28, .aload_n 0, 29, []), (29, .aload_n 0, 30, []), (30, .getfield 90, 33, []), (33, .ifCond .ne 10, 36, [43]), (36, .aload_n 0, 37, []), (37, .getfield 84, 40, []), (40, .ifCond .ne 7, 43, [47]), (43, .iconst 1, 44, []), (44, .goto 4, 47, [48]), (47, .iconst 0, 48, []), (48, .iconst 2, 49, []), (49, .invokevirtual 98, 52, []), (52, .ifCond .ne 25, 55, [77]), (55, .aload_n 0, 56, []), (56, .aload_n 0, 57, []), (57, .getfield 87, 60, []), (60, .bipush 32, 62, []), (62, .if_icmp .ne 7, 65, [69]), (65, .iconst 1, 66, []), (66, .goto 4, 69, [70]), (69, .iconst 0, 70, []), (70, .iconst 3, 71, []), (71, .invokevirtual 98, 74, []), (74, .ifCond .eq 5, 77, [79]), (77, .iconst 0, 78, []), (78, .ireturn, 79, []), (79, .aload_n 0, 80, []), (80, .getfield 9, 83, []), (83, .aload_n 0, 84, []), (84, .getfield 87, 87, []), (87, .aload_n 0, 88, []), (88, .getfield 84, 91, []), (91, .iconst 1, 92, []), (92, .isub, 93, []), (93, .iastore, 94, []), (94, .aload_n 0, 95, []), (95, .getfield 13, 98, []), (98, .aload_n 0, 99, []), (99, .getfield 87, 102, []), (102, .iconst 1, 103, []), (103, .iadd, 104, []), (104, .aload_n 0, 105, []), (105, .getfield 13, 108, []), (108, .aload_n 0, 109, []), (109, .getfield 87, 112, []), (112, .iaload, 113, []), (113, .iload_n 1, 114, []), (114, .iadd, 115, []), (115, .iastore, 116, []), (116, .aload_n 0, 117, []), (117, .dup, 118, []), (118, .getfield 87, 121, []), (121, .dup_x1, 122, []), (122, .iconst 1, 123, []), (123, .iadd, 124, []), (124, .putfield 87, 127, []), (127, .ireturn, 128, [])]
def tb_Mo_begin : List tk_E := [(0, .aload_n 0, 1, []), (1, .iconst 0, 2, []), (2, .putfield 80, 5, []), (5, .aload_n 0, 6, []), (6, .iload_n 1, 7, []), (7, .iconst 1, 8, []), (8, .ldc 102, 10, []), (10, .invokestatic 103, 13, []), (13, .ifCond .eq 23, 16, [36]), (16, .iload_n 2, 17, []), (17, .iconst 1, 18, []), (18, .ldc 102, 20, []), (20, .invokestatic 103, 23, []), (23, .ifCond .eq 13, 26, [36]), (26, .iload_n 3, 27, []), (27, .iconst 1, 28, []), (28, .ldc 102, 30, []), (30, .invokestatic 103, 33, []), (33, .ifCond .ne 7, 36, [40]), (36, .iconst 1, 37, []), (37, .goto 4, 40, [41]), (40, .iconst 0, 41, []), (41, .iconst 1, 42, []), (42, .invokevirtual 98, 45, []), (45, .ifCond .ne 30, 48, [75]), (48, .aload_n 0, 49, []), (49, .aload_n 0, 50, []), (50, .getfield 84, 53, []), (53, .ifCond .eq 10, 56, [63]), (56, .aload_n 0, 57, []), (57, .invokevirtual 94, 60, []), (60, .ifCond .eq 7, 63, [67]), (63, .iconst 1, 64, []), (64, .goto 4, 67, [68]), (67, .iconst 0, 68, []), (68, .iconst 2, 69, []), (69, .invokevirtual 98, 72, []), (72, .ifCond .eq 5, 75, [77]), (75, .iconst 0, 76, []), (76, .ireturn, 77, []), (77, .aload_n 0, 78, []), (78, .iconst 1, 79, []), (79, .putfield 90, 82, []), (82, .aload_n 0, 83, []), (83, .iload_n 1, 84, []), (84, .putfield 107, 87, []), (87, .aload_n 0, 88, []), (88, .iload_n 2, 89, []), (89, .putfield 110, 92, []), (92, .aload_n 0, 93, []), (93, .iload_n 3, 94, []), (94, .putfield 113, 97, []), (97, .aload_n 0, 98, []), (98, .aload_n 0, 99, []), (99, .getfield 13, 102, []), (102, .aload_n 0, 103, []), (103, .getfield 87, 106, []), (106, .iaload, 107, []), (107, .putfield 116, 110, []), (110, .aload_n 0, 111, []), (111, .invokevirtual 119, 114, []), (114, .aload_n 0, 115, []), (115, .getfield 116, 118, []), (118, .ireturn, 119, [])]
def tb_Mo_reset : List tk_E := [(0, .aload_n 0, 1, []), (1, .iconst 0, 2, []), (2, .putfield 122, 5, []), (5, .aload_n 0, 6, []), (6, .iconst 0, 7, []), (7, .putfield 125, 10, []), (10, .aload_n 0, 11, []), (11, .iconst 0, 12, []), (12, .putfield 128, 15, []), (15, .aload_n 0, 16, []), (16, .iconst 0, 17, []), (17, .putfield 131, 20, []), (20, .iconst 0, 21, []), (21, .istore_n 1, 22, []), (22, .iload_n 1, 23, []), (23, .bipush 32, 25, []), (25, .if_icmp .ge 23, 28, [48]), (28, .aload_n 0, 29, []), (29, .getfield 22, 32, []), (32, .iload_n 1, 33, []), (33, .iconst 0, 34, []), (34, .iastore, 35, []), (35, .aload_n 0, 36, []), (36, .getfield 28, 39, []), (39, .iload_n 1, 40, []), (40, .iconst 0, 41, []), (41, .iastore, 42, []), (42, .iinc 1 1, 45, []), (45, .goto (-23), 48, [22]), (48, .iconst 0, 49, []), (49, .istore_n 1, 50, []), (50, .iload_n 1, 51, []), (51, .bipush 10, 53, []), (53, .if_icmp .ge 23, 56, [76]), (56, .aload_n 0, 57, []), (57, .getfield 34, 60, []), (60, .iload_n 1, 61, []), (61, .iconst 0, 62, []), (62, .bastore, 63, []), (63, .aload_n 0, 64, []), (64, .getfield 19, 67, []), (67, .iload_n 1, 68, []), (68, .iconst 0, 69, []), (69, .iastore, 70, []), (70, .iinc 1 1, 73, []), (73, .goto (-23), 76, [50]), (76, .iconst 0, 77, []), (77, .istore_n 1, 78, []), (78, .iload_n 1, 79, []), (79, .bipush 8, 81, []), (81, .if_icmp .ge 37, 84, [118]), (84, .aload_n 0, 85, []), (85, .getfield 41, 88, []), (88, .iload_n 1, 89, []), (89, .iconst 0, 90, []), (90, .bastore, 91, []), (91, .aload_n 0, 92, []), (92, .getfield 44, 95, []), (95, .iload_n 1, 96, []), (96, .iconst 0, 97, []), (97, .bastore, 98, []), (98, .aload_n 0, 99, []), (99, .getfield 47, 102, []), (102, .iload_n 1, 103, []), (103, .iconst 0, 104, []), (104, .bastore, 105, []), (105, .aload_n 0, 106, []), (106, .getfield 65, 109, []), (109, .iload_n 1, 110, []), (110, .iconst (-1), 111, []), (111, .iastore, 112, []), (112, .iinc 1 1, 115, []), (115, .goto (-37), 118, [78]), (118, .return_, 119, [])]
def tb_Mo_clear : List tk_E := [(0, .aload_n 0, 1, []), (1, .iconst 0, 2, []), (2, .putfield 80, 5, []), (5, .aload_n 0, 6, []), (6, .iconst 0, 7, []), (7, .putfield 90, 10, []), (10, .aload_n 0, 11, []), (11, .iconst 0, 12, []), (12, .putfield 84, 15, []), (15, .aload_n 0, 16, []), (16, .iconst 0, 17, []), (17, .putfield 87, 20, []), (20, .aload_n 0, 21, []), (21, .invokevirtual 119, 24, []), (24, .return_, 25, [])]
def tb_Mo_subOf : List tk_E := [(0, .iconst 0, 1, []), (1, .istore_n 2, 2, []), (2, .iload_n 2, 3, []), (3, .iconst 1, 4, []), (4, .iadd, 5, []), (5, .aload_n 0, 6, []), (6, .getfield 87, 9, []), (9, .if_icmp .ge 21, 12, [30]), (12, .aload_n 0, 13, []), (13, .getfield 13, 16, []), (16, .iload_n 2, 17, []), (17, .iconst 1, 18, []), (18, .iadd, 19, []), (19, .iaload, 20, []), (20, .iload_n 1, 21, []), (21, .if_icmp .gt 9, 24, [30]), (24, .iinc 2 1, 27, []), (27, .goto (-25), 30, [2]), (30, .iload_n 2, 31, []), (31, .ireturn, 32, [])]
def tb_Mo_isLocated : List tk_E := [(0, .aload_n 0, 1, []), (1, .getfield 41, 4, []), (4, .iload_n 1, 5, []), (5, .baload, 6, []), (6, .ifCond .eq 34, 9, [40]), (9, .aload_n 0, 10, []), (10, .getfield 44, 13, []), (13, .iload_n 1, 14, []), (14, .baload, 15, []), (15, .ifCond .eq 25, 18, [40]), (18, .aload_n 0, 19, []), (19, .getfield 122, 22, []), (22, .aload_n 0, 23, []), (23, .getfield 59, 26, []), (26, .iload_n 1, 27, []), (27, .iaload, 28, []), (28, .isub, 29, []), (29, .aload_n 0, 30, []), (30, .getfield 107, 33, []), (33, .if_icmp .gt 7, 36, [40]), (36, .iconst 1, 37, []), (37, .goto 4, 40, [41]), (40, .iconst 0, 41, []), (41, .ireturn, 42, [])]
def tb_Mo_isWhole : List tk_E := [(0, .aload_n 0, 1, []), (1, .iload_n 1, 2, []), (2, .invokevirtual 134, 5, []), (5, .ifCond .eq 34, 8, [39]), (8, .aload_n 0, 9, []), (9, .getfield 47, 12, []), (12, .iload_n 1, 13, []), (13, .baload, 14, []), (14, .ifCond .eq 25, 17, [39]), (17, .aload_n 0, 18, []), (18, .getfield 122, 21, []), (21, .aload_n 0, 22, []), (22, .getfield 62, 25, []), (25, .iload_n 1, 26, []), (26, .iaload, 27, []), (27, .isub, 28, []), (28, .aload_n 0, 29, []), (29, .getfield 110, 32, []), (32, .if_icmp .gt 7, 35, [39]), (35, .iconst 1, 36, []), (36, .goto 4, 39, [40]), (39, .iconst 0, 40, []), (40, .ireturn, 41, [])]
def tb_Mo_find : List tk_E := [(0, .iconst 0, 1, []), (1, .istore_n 1, 2, []), (2, .iload_n 1, 3, []), (3, .aload_n 0, 4, []), (4, .getfield 87, 7, []), (7, .if_icmp .ge 40, 10, [47]), (10, .aload_n 0, 11, []), (11, .getfield 25, 14, []), (14, .iload_n 1, 15, []), (15, .aload_n 0, 16, []), (16, .getfield 22, 19, []), (19, .iload_n 1, 20, []), (20, .iaload, 21, []), (21, .iastore, 22, []), (22, .aload_n 0, 23, []), (23, .getfield 31, 26, []), (26, .iload_n 1, 27, []), (27, .aload_n 0, 28, []), (28, .getfield 28, 31, []), (31, .iload_n 1, 32, []), (32, .iaload, 33, []), (33, .iastore, 34, []), (34, .aload_n 0, 35, []), (35, .getfield 28, 38, []), (38, .iload_n 1, 39, []), (39, .iconst 0, 40, []), (40, .iastore, 41, []), (41, .iinc 1 1, 44, []), (44, .goto (-42), 47, [2]), (47, .iconst 0, 48, []), (48, .istore_n 1, 49, []), (49, .iload_n 1, 50, []), (50, .aload_n 0, 51, []), (51, .getfield 84, 54, []), (54, .if_icmp .ge 16, 57, [70]), (57, .aload_n 0, 58, []), (58, .getfield 68, 61, []), (61, .iload_n 1, 62, []), (62, .iconst 0, 63, []), (63, .bastore, 64, []), (64, .iinc 1 1, 67, []), (67, .goto (-18), 70, [49]), (70, .iconst 0, 71, []), (71, .istore_n 1, 72, []), (72, .iload_n 1, 73, []), (73, .bipush 8, 75, []), (75, .if_icmp .ge 172, 78, [247]), (78, .aload_n 0, 79, []), (79, .getfield 71, 82, []), (82, .iload_n 1, 83, []), (83, .aload_n 0, 84, []), (84, .iload_n 1, 85, []), (85, .invokevirtual 134, 88, []), (88, .bastore, 89, []), (89, .aload_n 0, 90, []), (90, .getfield 71, 93, []), (93, .iload_n 1, 94, []), (94, .baload, 95, []), (95, .ifCond .ne 6, 98, [101]), (98, .goto 143, 101, [241]), (101, .aload_n 0, 102, []), (102, .getfield 74, 105, []), (105, .iload_n 1, 106, []), (106, .aload_n 0, 107, []), (107, .aload_n 0, 108, []), (108, .getfield 56, 111, []), (111, .iload_n 1, 112, []), (112, .iaload, 113, []), (113, .invokevirtual 138, 116, []), (116, .iastore, 117, []), (117, .aload_n 0, 118, []), (118, .getfield 77, 121, []), (121, .iload_n 1, 122, []), (122, .aload_n 0, 123, []), (123, .aload_n 0, 124, []), (124, .getfield 53, 127, []), (127, .iload_n 1, 128, []), (128, .iaload, 129, []), (129, .invokevirtual 138, 132, []), (132, .iastore, 133, []), (133, .aload_n 0, 134, []), (134, .getfield 74, 137, []), (137, .iload_n 1, 138, []), (138, .iaload, 139, []), (139, .istore_n 2, 140, []), (140, .iload_n 2, 141, []), (141, .aload_n 0, 142, []), (142, .getfield 77, 145, []), (145, .iload_n 1, 146, []), (146, .iaload, 147, []), (147, .if_icmp .gt 33, 150, [180]), (150, .aload_n 0, 151, []), (151, .getfield 28, 154, []), (154, .iload_n 2, 155, []), (155, .dup2, 156, []), (156, .iaload, 157, []), (157, .iconst 1, 158, []), (158, .iload_n 1, 159, []), (159, .ishl, 160, []), (160, .ior, 161, []), (161, .iastore, 162, []), (162, .aload_n 0, 163, []), (163, .getfield 68, 166, []), (166, .aload_n 0, 167, []), (167, .getfield 9, 170, []), (170, .iload_n 2, 171, []), (171, .iaload, 172, []), (172, .iconst 1, 173, []), (173, .bastore, 174, []), (174, .iinc 2 1, 177, []), (177, .goto (-37), 180, [140]), (180, .aload_n 0, 181, []), (181, .getfield 77, 184, []), (184, .iload_n 1, 185, []), (185, .iaload, 186, []), (186, .iconst 1, 187, []), (187, .iadd, 188, []), (188, .aload_n 0, 189, []), (189, .getfield 87, 192, []), (192, .if_icmp .ge 49, 195, [241]), (195, .aload_n 0, 196, []), (196, .getfield 9, 199, []), (199, .aload_n 0, 200, []), (200, .getfield 77, 203, []), (203, .iload_n 1, 204, []), (204, .iaload, 205, []), (205, .iconst 1, 206, []), (206, .iadd, 207, []), (207, .iaload, 208, []), (208, .aload_n 0, 209, []), (209, .getfield 9, 212, []), (212, .aload_n 0, 213, []), (213, .getfield 77, 216, []), (216, .iload_n 1, 217, []), (217, .iaload, 218, []), (218, .iaload, 219, []), (219, .if_icmp .eq 22, 222, [241]), (222, .aload_n 0, 223, []), (223, .getfield 68, 226, []), (226, .aload_n 0, 227, []), (227, .getfield 9, 230, []), (230, .aload_n 0, 231, []), (231, .getfield 77, 234, []), (234, .iload_n 1, 235, []), (235, .iaload, 236, []), (236, .iconst 1, 237, []), (237, .iadd, 238, []), (238, .iaload, 239, []), (239, .iconst 1, 240, []), (240, .bastore, 241, []), (241, .iinc 1 1, 244, []), (244, .goto (-172), 247, [72]), (247, .iconst 0, 248, []), (248, .istore_n 1, 249, []), (249, .iload_n 1, 250, []), (250, .aload_n 0, 251, []), (251, .getfield 87, 254, []), (254, .if_icmp .ge 20, 257, [274]), (257, .aload_n 0, 258, []), (258, .getfield 22, 261, []), (261, .iload_n 1, 262, []), (262, .aload_n 0, 263, []), (263, .iload_n 1, 264, []), (264, .invokevirtual 142, 267, []), (267, .iastore, 268, []), (268, .iinc 1 1, 271, []), (271, .goto (-22), 274, [249]), (274, .iconst 0, 275, []), (275, .istore_n 1, 276, []), (276, .iload_n 1, 277, []), (277, .bipush 8, 279, []), (279, .if_icmp .ge 14, 282, [293]), (282, .aload_n 0, 283, []), (283, .iload_n 1, 284, []), (284, .invokevirtual 145, 287, []), (287, .iinc 1 1, 290, []), (290, .goto (-14), 293, [276]), (293, .return_, 294, [])]
def tb_Mo_only : List tk_E := [(0, .iconst 0, 1, []), (1, .istore_n 1, 2, []), (2, .iload_n 0, 3, []), (3, .iload_n 1, 4, []), (4, .ishr, 5, []), (5, .iconst 1, 6, []), (6, .iand, 7, []), (7, .ifCond .ne 9, 10, [16]), (10, .iinc 1 1, 13, []), (13, .goto (-11), 16, [2]), (16, .iload_n 1, 17, []), (17, .ireturn, 18, [])]
def tb_Mo_found : List tk_E := [(0, .aload_n 0, 1, []), (1, .getfield 9, 4, []), (4, .iload_n 1, 5, []), (5, .iaload, 6, []), (6, .istore_n 2, 7, []), (7, .aload_n 0, 8, []), (8, .getfield 28, 11, []), (11, .iload_n 1, 12, []), (12, .iaload, 13, []), (13, .invokestatic 149, 16, []), (16, .istore_n 3, 17, []), (17, .aload_n 0, 18, []), (18, .getfield 34, 21, []), (21, .iload_n 2, 22, []), (22, .baload, 23, []), (23, .ifCond .ne 5, 26, [28]), (26, .iconst 0, 27, []), (27, .ireturn, 28, []), (28, .iload_n 3, 29, []), (29, .iconst 1, 30, []), (30, .if_icmp .le 5, 33, [35]), (33, .iconst 2, 34, []), (34, .ireturn, 35, []), (35, .iload_n 3, 36, []), (36, .iconst 1, 37, []), (37, .if_icmp .ne 79, 40, [116]), (40, .aload_n 0, 41, []), (41, .getfield 28, 44, []), (44, .iload_n 1, 45, []), (45, .iaload, 46, []), (46, .invokestatic 154, 49, []), (49, .istore 4, 51, []), (51, .aload_n 0, 52, []), (52, .getfield 74, 55, []), (55, .iload 4, 57, []), (57, .iaload, 58, []), (58, .istore 5, 60, []), (60, .iload 5, 62, []), (62, .aload_n 0, 63, []), (63, .getfield 16, 66, []), (66, .aload_n 0, 67, []), (67, .getfield 9, 70, []), (70, .iload 5, 72, []), (72, .iaload, 73, []), (73, .iaload, 74, []), (74, .if_icmp .eq 15, 77, [89]), (77, .aload_n 0, 78, []), (78, .getfield 25, 81, []), (81, .iload 5, 83, []), (83, .iconst 1, 84, []), (84, .isub, 85, []), (85, .iaload, 86, []), (86, .ifCond .ne 7, 89, [93]), (89, .iconst 1, 90, []), (90, .goto 4, 93, [94]), (93, .iconst 0, 94, []), (94, .istore 6, 96, []), (96, .aload_n 0, 97, []), (97, .iload 4, 99, []), (99, .invokevirtual 157, 102, []), (102, .ifCond .eq 12, 105, [114]), (105, .iload 6, 107, []), (107, .ifCond .eq 7, 110, [114]), (110, .iconst 1, 111, []), (111, .goto 4, 114, [115]), (114, .iconst 2, 115, []), (115, .ireturn, 116, []), (116, .aload_n 0, 117, []), (117, .getfield 25, 120, []), (120, .iload_n 1, 121, []), (121, .iaload, 122, []), (122, .iconst 3, 123, []), (123, .if_icmp .eq 13, 126, [136]), (126, .aload_n 0, 127, []), (127, .getfield 25, 130, []), (130, .iload_n 1, 131, []), (131, .iaload, 132, []), (132, .iconst 2, 133, []), (133, .if_icmp .ne 5, 136, [138]), (136, .iconst 3, 137, []), (137, .ireturn, 138, []), (138, .aload_n 0, 139, []), (139, .getfield 25, 142, []), (142, .iload_n 1, 143, []), (143, .iaload, 144, []), (144, .iconst 1, 145, []), (145, .if_icmp .ne 58, 148, [203]), (148, .aload_n 0, 149, []), (149, .getfield 31, 152, []), (152, .iload_n 1, 153, []), (153, .iaload, 154, []), (154, .ifCond .ne 7, 157, [161]), (157, .iconst (-1), 158, []), (158, .goto 12, 161, [170]), (161, .aload_n 0, 162, []), (162, .getfield 31, 165, []), (165, .iload_n 1, 166, []), (166, .iaload, 167, []), (167, .invokestatic 154, 170, []), (170, .istore 4, 172, []), (172, .iload 4, 174, []), (174, .ifCond .lt 27, 177, [201]), (177, .aload_n 0, 178, []), (178, .iload 4, 180, []), (180, .invokevirtual 157, 183, []), (183, .ifCond .eq 18, 186, [201]), (186, .aload_n 0, 187, []), (187, .getfield 74, 190, []), (190, .iload 4, 192, []), (192, .iaload, 193, []), (193, .iload_n 1, 194, []), (194, .if_icmp .le 7, 197, [201]), (197, .iconst 0, 198, []), (198, .goto 4, 201, [202]), (201, .iconst 3, 202, []), (202, .ireturn, 203, []), (203, .aload_n 0, 204, []), (204, .getfield 38, 207, []), (207, .iload_n 2, 208, []), (208, .baload, 209, []), (209, .ifCond .eq 5, 212, [214]), (212, .iconst 3, 213, []), (213, .ireturn, 214, []), (214, .aload_n 0, 215, []), (215, .getfield 68, 218, []), (218, .iload_n 2, 219, []), (219, .baload, 220, []), (220, .ifCond .eq 7, 223, [227]), (223, .iconst 0, 224, []), (224, .goto 4, 227, [228]), (227, .iconst 3, 228, []), (228, .ireturn, 229, [])]
def tb_Mo_authority : List tk_E := [(0, .aload_n 0, 1, []), (1, .getfield 65, 4, []), (4, .iload_n 1, 5, []), (5, .iaload, 6, []), (6, .ifCond .ge 4, 9, [10]), (9, .return_, 10, []), (10, .aload_n 0, 11, []), (11, .getfield 71, 14, []), (14, .iload_n 1, 15, []), (15, .baload, 16, []), (16, .ifCond .ne 21, 19, [37]), (19, .aload_n 0, 20, []), (20, .getfield 65, 23, []), (23, .iload_n 1, 24, []), (24, .iconst (-1), 25, []), (25, .iastore, 26, []), (26, .aload_n 0, 27, []), (27, .dup, 28, []), (28, .getfield 128, 31, []), (31, .iconst 1, 32, []), (32, .iadd, 33, []), (33, .putfield 128, 36, []), (36, .return_, 37, []), (37, .aload_n 0, 38, []), (38, .getfield 77, 41, []), (41, .iload_n 1, 42, []), (42, .iaload, 43, []), (43, .istore_n 2, 44, []), (44, .iload_n 2, 45, []), (45, .iconst 1, 46, []), (46, .iadd, 47, []), (47, .istore_n 3, 48, []), (48, .iload_n 3, 49, []), (49, .aload_n 0, 50, []), (50, .getfield 65, 53, []), (53, .iload_n 1, 54, []), (54, .iaload, 55, []), (55, .if_icmp .gt 18, 58, [73]), (58, .aload_n 0, 59, []), (59, .getfield 22, 62, []), (62, .iload_n 3, 63, []), (63, .iaload, 64, []), (64, .ifCond .ne 9, 67, [73]), (67, .iinc 3 1, 70, []), (70, .goto (-22), 73, [48]), (73, .iload_n 3, 74, []), (74, .aload_n 0, 75, []), (75, .getfield 65, 78, []), (78, .iload_n 1, 79, []), (79, .iaload, 80, []), (80, .if_icmp .gt 22, 83, [102]), (83, .aload_n 0, 84, []), (84, .getfield 65, 87, []), (87, .iload_n 1, 88, []), (88, .iload_n 3, 89, []), (89, .iconst 1, 90, []), (90, .isub, 91, []), (91, .iastore, 92, []), (92, .aload_n 0, 93, []), (93, .dup, 94, []), (94, .getfield 125, 97, []), (97, .iconst 1, 98, []), (98, .iadd, 99, []), (99, .putfield 125, 102, []), (102, .aload_n 0, 103, []), (103, .getfield 65, 106, []), (106, .iload_n 1, 107, []), (107, .iaload, 108, []), (108, .iload_n 2, 109, []), (109, .if_icmp .gt 10, 112, [119]), (112, .aload_n 0, 113, []), (113, .getfield 65, 116, []), (116, .iload_n 1, 117, []), (117, .iconst (-1), 118, []), (118, .iastore, 119, []), (119, .return_, 120, [])]
def tb_Mo_holds : List tk_E := [(0, .iconst 0, 1, []), (1, .istore_n 2, 2, []), (2, .iconst 0, 3, []), (3, .istore_n 3, 4, []), (4, .iload_n 3, 5, []), (5, .aload_n 0, 6, []), (6, .getfield 87, 9, []), (9, .if_icmp .ge 37, 12, [46]), (12, .iload_n 2, 13, []), (13, .aload_n 0, 14, []), (14, .getfield 9, 17, []), (17, .iload_n 3, 18, []), (18, .iaload, 19, []), (19, .iload_n 1, 20, []), (20, .if_icmp .ne 17, 23, [37]), (23, .aload_n 0, 24, []), (24, .getfield 22, 27, []), (27, .iload_n 3, 28, []), (28, .iaload, 29, []), (29, .iconst 3, 30, []), (30, .if_icmp .ne 7, 33, [37]), (33, .iconst 1, 34, []), (34, .goto 4, 37, [38]), (37, .iconst 0, 38, []), (38, .ior, 39, []), (39, .istore_n 2, 40, []), (40, .iinc 3 1, 43, []), (43, .goto (-39), 46, [4]), (46, .aload_n 0, 47, []), (47, .getfield 34, 50, []), (50, .iload_n 1, 51, []), (51, .baload, 52, []), (52, .ifCond .eq 11, 55, [63]), (55, .iload_n 2, 56, []), (56, .ifCond .eq 7, 59, [63]), (59, .iconst 1, 60, []), (60, .goto 4, 63, [64]), (63, .iconst 0, 64, []), (64, .ireturn, 65, [])]
def tb_Mo_settle : List tk_E := [(0, .aload_n 0, 1, []), (1, .invokevirtual 160, 4, []), (4, .iconst 0, 5, []), (5, .istore_n 1, 6, []), (6, .iload_n 1, 7, []), (7, .aload_n 0, 8, []), (8, .getfield 84, 11, []), (11, .if_icmp .ge 31, 14, [42]), (14, .aload_n 0, 15, []), (15, .getfield 38, 18, []), (18, .iload_n 1, 19, []), (19, .iconst 0, 20, []), (20, .bastore, 21, []), (21, .aload_n 0, 22, []), (22, .iload_n 1, 23, []), (23, .invokevirtual 163, 26, []), (26, .ifCond .ne 10, 29, [36]), (29, .aload_n 0, 30, []), (30, .getfield 19, 33, []), (33, .iload_n 1, 34, []), (34, .iconst 0, 35, []), (35, .iastore, 36, []), (36, .iinc 1 1, 39, []), (39, .goto (-33), 42, [6]), (42, .return_, 43, [])]
def tb_Mo_detect : List tk_E := [(0, .aload_n 0, 1, []), (1, .iconst 0, 2, []), (2, .putfield 80, 5, []), (5, .aload_n 0, 6, []), (6, .aload_n 0, 7, []), (7, .getfield 90, 10, []), (10, .ifCond .ne 7, 13, [17]), (13, .iconst 1, 14, []), (14, .goto 4, 17, [18]), (17, .iconst 0, 18, []), (18, .iconst 1, 19, []), (19, .invokevirtual 98, 22, []), (22, .ifCond .ne 30, 25, [52]), (25, .aload_n 0, 26, []), (26, .iload_n 1, 27, []), (27, .iconst 0, 28, []), (28, .aload_n 0, 29, []), (29, .getfield 84, 32, []), (32, .iconst 1, 33, []), (33, .isub, 34, []), (34, .invokestatic 103, 37, []), (37, .ifCond .ne 7, 40, [44]), (40, .iconst 1, 41, []), (41, .goto 4, 44, [45]), (44, .iconst 0, 45, []), (45, .iconst 2, 46, []), (46, .invokevirtual 98, 49, []), (49, .ifCond .eq 4, 52, [53]), (52, .return_, 53, []), (53, .aload_n 0, 54, []), (54, .getfield 34, 57, []), (57, .iload_n 1, 58, []), (58, .iload_n 2, 59, []), (59, .bastore, 60, []), (60, .aload_n 0, 61, []), (61, .invokevirtual 166, 64, []), (64, .return_, 65, [])]
def tb_Mo_connect : List tk_E := [(0, .aload_n 0, 1, []), (1, .iconst 0, 2, []), (2, .putfield 80, 5, []), (5, .aload_n 0, 6, []), (6, .aload_n 0, 7, []), (7, .getfield 90, 10, []), (10, .ifCond .ne 7, 13, [17]), (13, .iconst 1, 14, []), (14, .goto 4, 17, [18]), (17, .iconst 0, 18, []), (18, .iconst 1, 19, []), (19, .invokevirtual 98, 22, []), (22, .ifCond .ne 36, 25, [58]), (25, .aload_n 0, 26, []), (26, .iload_n 1, 27, []), (27, .iconst 0, 28, []), (28, .bipush 7, 30, []), (30, .invokestatic 103, 33, []), (33, .ifCond .eq 13, 36, [46]), (36, .iload_n 2, 37, []), (37, .iconst 1, 38, []), (38, .ldc 102, 40, []), (40, .invokestatic 103, 43, []), (43, .ifCond .ne 7, 46, [50]), (46, .iconst 1, 47, []), (47, .goto 4, 50, [51]), (50, .iconst 0, 51, []), (51, .iconst 2, 52, []), (52, .invokevirtual 98, 55, []), (55, .ifCond .eq 4, 58, [59]), (58, .return_, 59, []), (59, .aload_n 0, 60, []), (60, .getfield 41, 63, []), (63, .iload_n 1, 64, []), (64, .iconst 1, 65, []), (65, .bastore, 66, []), (66, .aload_n 0, 67, []), (67, .getfield 44, 70, []), (70, .iload_n 1, 71, []), (71, .iconst 0, 72, []), (72, .bastore, 73, []), (73, .aload_n 0, 74, []), (74, .getfield 47, 77, []), (77, .iload_n 1, 78, []), (78, .iconst 0, 79, []), (79, .bastore, 80, []), (80, .aload_n 0, 81, []), (81, .getfield 50, 84, []), (84, .iload_n 1, 85, []), (85, .iload_n 2, 86, []), (86, .iastore, 87, []), (87, .aload_n 0, 88, []), (88, .invokevirtual 166, 91, []), (91, .return_, 92, [])]
def tb_Mo_report : List tk_E := [(0, .aload_n 0, 1, []), (1, .iconst 0, 2, []), (2, .putfield 80, 5, []), (5, .aload_n 0, 6, []), (6, .aload_n 0, 7, []), (7, .getfield 90, 10, []), (10, .ifCond .ne 7, 13, [17]), (13, .iconst 1, 14, []), (14, .goto 4, 17, [18]), (17, .iconst 0, 18, []), (18, .iconst 1, 19, []), (19, .invokevirtual 98, 22, []), (22, .ifCond .ne 69, 25, [91]), (25, .aload_n 0, 26, []), (26, .iload_n 1, 27, []), (27, .iconst 0, 28, []), (28, .bipush 7, 30, []), (30, .invokestatic 103, 33, []), (33, .ifCond .eq 24, 36, [57]), (36, .iload_n 3, 37, []), (37, .iconst 0, 38, []), (38, .iconst 2, 39, []), (39, .invokestatic 103, 42, []), (42, .ifCond .eq 15, 45, [57]), (45, .iload_n 2, 46, []), (46, .iconst 0, 47, []), (47, .aload_n 0, 48, []), (48, .getfield 116, 51, []), (51, .invokestatic 103, 54, []), (54, .ifCond .ne 7, 57, [61]), (57, .iconst 1, 58, []), (58, .goto 4, 61, [62]), (61, .iconst 0, 62, []), (62, .iconst 2, 63, []), (63, .invokevirtual 98, 66, []), (66, .ifCond .ne 25, 69, [91]), (69, .aload_n 0, 70, []), (70, .aload_n 0, 71, []), (71, .getfield 41, 74, []), (74, .iload_n 1, 75, []), (75, .baload, 76, []), (76, .ifCond .ne 7, 79, [83]), (79, .iconst 1, 80, []), (80, .goto 4, 83, [84]), (83, .iconst 0, 84, []), (84, .iconst 3, 85, []), (85, .invokevirtual 98, 88, []), (88, .ifCond .eq 5, 91, [93]), (91, .iconst 0, 92, []), (92, .ireturn, 93, []), (93, .aload_n 0, 94, []), (94, .getfield 44, 97, []), (97, .iload_n 1, 98, []), (98, .baload, 99, []), (99, .ifCond .eq 15, 102, [114]), (102, .iload_n 2, 103, []), (103, .aload_n 0, 104, []), (104, .getfield 53, 107, []), (107, .iload_n 1, 108, []), (108, .iaload, 109, []), (109, .if_icmp .ge 5, 112, [114]), (112, .iconst 0, 113, []), (113, .ireturn, 114, []), (114, .iload_n 2, 115, []), (115, .aload_n 0, 116, []), (116, .getfield 50, 119, []), (119, .iload_n 1, 120, []), (120, .iaload, 121, []), (121, .isub, 122, []), (122, .ifCond .ge 7, 125, [129]), (125, .iconst 0, 126, []), (126, .goto 11, 129, [137]), (129, .iload_n 2, 130, []), (130, .aload_n 0, 131, []), (131, .getfield 50, 134, []), (134, .iload_n 1, 135, []), (135, .iaload, 136, []), (136, .isub, 137, []), (137, .istore 4, 139, []), (139, .aload_n 0, 140, []), (140, .getfield 44, 143, []), (143, .iload_n 1, 144, []), (144, .baload, 145, []), (145, .ifCond .eq 8, 148, [153]), (148, .iload_n 3, 149, []), (149, .iconst 1, 150, []), (150, .if_icmp .ne 11, 153, [161]), (153, .aload_n 0, 154, []), (154, .getfield 56, 157, []), (157, .iload_n 1, 158, []), (158, .iload 4, 160, []), (160, .iastore, 161, []), (161, .aload_n 0, 162, []), (162, .getfield 44, 165, []), (165, .iload_n 1, 166, []), (166, .iconst 1, 167, []), (167, .bastore, 168, []), (168, .aload_n 0, 169, []), (169, .getfield 53, 172, []), (172, .iload_n 1, 173, []), (173, .iload_n 2, 174, []), (174, .iastore, 175, []), (175, .aload_n 0, 176, []), (176, .getfield 59, 179, []), (179, .iload_n 1, 180, []), (180, .aload_n 0, 181, []), (181, .getfield 122, 184, []), (184, .iastore, 185, []), (185, .iload_n 3, 186, []), (186, .iconst 1, 187, []), (187, .if_icmp .ne 20, 190, [207]), (190, .aload_n 0, 191, []), (191, .getfield 47, 194, []), (194, .iload_n 1, 195, []), (195, .iconst 1, 196, []), (196, .bastore, 197, []), (197, .aload_n 0, 198, []), (198, .getfield 62, 201, []), (201, .iload_n 1, 202, []), (202, .aload_n 0, 203, []), (203, .getfield 122, 206, []), (206, .iastore, 207, []), (207, .iload_n 3, 208, []), (208, .iconst 2, 209, []), (209, .if_icmp .ne 10, 212, [219]), (212, .aload_n 0, 213, []), (213, .getfield 47, 216, []), (216, .iload_n 1, 217, []), (217, .iconst 0, 218, []), (218, .bastore, 219, []), (219, .aload_n 0, 220, []), (220, .invokevirtual 166, 223, []), (223, .iconst 1, 224, []), (224, .ireturn, 225, [])]
def tb_Mo_leave : List tk_E := [(0, .aload_n 0, 1, []), (1, .iconst 0, 2, []), (2, .putfield 80, 5, []), (5, .aload_n 0, 6, []), (6, .aload_n 0, 7, []), (7, .getfield 90, 10, []), (10, .ifCond .ne 7, 13, [17]), (13, .iconst 1, 14, []), (14, .goto 4, 17, [18]), (17, .iconst 0, 18, []), (18, .iconst 1, 19, []), (19, .invokevirtual 98, 22, []), (22, .ifCond .ne 48, 25, [70]), (25, .aload_n 0, 26, []), (26, .iload_n 1, 27, []), (27, .iconst 0, 28, []), (28, .bipush 7, 30, []), (30, .invokestatic 103, 33, []), (33, .ifCond .ne 7, 36, [40]), (36, .iconst 1, 37, []), (37, .goto 4, 40, [41]), (40, .iconst 0, 41, []), (41, .iconst 2, 42, []), (42, .invokevirtual 98, 45, []), (45, .ifCond .ne 25, 48, [70]), (48, .aload_n 0, 49, []), (49, .aload_n 0, 50, []), (50, .getfield 41, 53, []), (53, .iload_n 1, 54, []), (54, .baload, 55, []), (55, .ifCond .ne 7, 58, [62]), (58, .iconst 1, 59, []), (59, .goto 4, 62, [63]), (62, .iconst 0, 63, []), (63, .iconst 3, 64, []), (64, .invokevirtual 98, 67, []), (67, .ifCond .eq 4, 70, [71]), (70, .return_, 71, []), (71, .aload_n 0, 72, []), (72, .getfield 41, 75, []), (75, .iload_n 1, 76, []), (76, .iconst 0, 77, []), (77, .bastore, 78, []), (78, .aload_n 0, 79, []), (79, .getfield 44, 82, []), (82, .iload_n 1, 83, []), (83, .iconst 0, 84, []), (84, .bastore, 85, []), (85, .aload_n 0, 86, []), (86, .getfield 47, 89, []), (89, .iload_n 1, 90, []), (90, .iconst 0, 91, []), (91, .bastore, 92, []), (92, .aload_n 0, 93, []), (93, .invokevirtual 166, 96, []), (96, .return_, 97, [])]
def tb_Mo_tick : List tk_E := [(0, .aload_n 0, 1, []), (1, .iconst 0, 2, []), (2, .putfield 80, 5, []), (5, .aload_n 0, 6, []), (6, .aload_n 0, 7, []), (7, .getfield 90, 10, []), (10, .ifCond .ne 7, 13, [17]), (13, .iconst 1, 14, []), (14, .goto 4, 17, [18]), (17, .iconst 0, 18, []), (18, .iconst 1, 19, []), (19, .invokevirtual 98, 22, []), (22, .ifCond .ne 51, 25, [73]), (25, .aload_n 0, 26, []), (26, .iload_n 1, 27, []), (27, .iconst 1, 28, []), (28, .sipush 1000, 31, []), (31, .invokestatic 103, 34, []), (34, .ifCond .ne 7, 37, [41]), (37, .iconst 1, 38, []), (38, .goto 4, 41, [42]), (41, .iconst 0, 42, []), (42, .iconst 2, 43, []), (43, .invokevirtual 98, 46, []), (46, .ifCond .ne 27, 49, [73]), (49, .aload_n 0, 50, []), (50, .aload_n 0, 51, []), (51, .getfield 122, 54, []), (54, .iload_n 1, 55, []), (55, .iadd, 56, []), (56, .ldc 169, 58, []), (58, .if_icmp .le 7, 61, [65]), (61, .iconst 1, 62, []), (62, .goto 4, 65, [66]), (65, .iconst 0, 66, []), (66, .iconst 3, 67, []), (67, .invokevirtual 98, 70, []), (70, .ifCond .eq 5, 73, [75]), (73, .iconst 0, 74, []), (74, .ireturn, 75, []), (75, .iconst 0, 76, []), (76, .istore_n 2, 77, []), (77, .iload_n 2, 78, []), (78, .iload_n 1, 79, []), (79, .if_icmp .ge 92, 82, [171]), (82, .aload_n 0, 83, []), (83, .dup, 84, []), (84, .getfield 122, 87, []), (87, .iconst 1, 88, []), (88, .iadd, 89, []), (89, .putfield 122, 92, []), (92, .iconst 0, 93, []), (93, .istore_n 3, 94, []), (94, .iload_n 3, 95, []), (95, .aload_n 0, 96, []), (96, .getfield 84, 99, []), (99, .if_icmp .ge 62, 102, [161]), (102, .aload_n 0, 103, []), (103, .iload_n 3, 104, []), (104, .invokevirtual 163, 107, []), (107, .ifCond .eq 48, 110, [155]), (110, .aload_n 0, 111, []), (111, .getfield 19, 114, []), (114, .iload_n 3, 115, []), (115, .dup2, 116, []), (116, .iaload, 117, []), (117, .iconst 1, 118, []), (118, .iadd, 119, []), (119, .dup_x2, 120, []), (120, .iastore, 121, []), (121, .aload_n 0, 122, []), (122, .getfield 113, 125, []), (125, .if_icmp .ge 6, 128, [131]), (128, .goto 27, 131, [155]), (131, .aload_n 0, 132, []), (132, .getfield 38, 135, []), (135, .iload_n 3, 136, []), (136, .iconst 1, 137, []), (137, .bastore, 138, []), (138, .aload_n 0, 139, []), (139, .dup, 140, []), (140, .getfield 131, 143, []), (143, .iconst 1, 144, []), (144, .iadd, 145, []), (145, .putfield 131, 148, []), (148, .aload_n 0, 149, []), (149, .getfield 19, 152, []), (152, .iload_n 3, 153, []), (153, .iconst 0, 154, []), (154, .iastore, 155, []), (155, .iinc 3 1, 158, []), (158, .goto (-64), 161, [94]), (161, .aload_n 0, 162, []), (162, .invokevirtual 166, 165, []), (165, .iinc 2 1, 168, []), (168, .goto (-91), 171, [77]), (171, .aload_n 0, 172, []), (172, .getfield 122, 175, []), (175, .ireturn, 176, [])]
def tb_Mo_request : List tk_E := [(0, .aload_n 0, 1, []), (1, .iconst 0, 2, []), (2, .putfield 80, 5, []), (5, .aload_n 0, 6, []), (6, .aload_n 0, 7, []), (7, .getfield 90, 10, []), (10, .ifCond .ne 7, 13, [17]), (13, .iconst 1, 14, []), (14, .goto 4, 17, [18]), (17, .iconst 0, 18, []), (18, .iconst 1, 19, []), (19, .invokevirtual 98, 22, []), (22, .ifCond .ne 61, 25, [83]), (25, .aload_n 0, 26, []), (26, .iload_n 1, 27, []), (27, .iconst 0, 28, []), (28, .bipush 7, 30, []), (30, .invokestatic 103, 33, []), (33, .ifCond .eq 17, 36, [50]), (36, .iload_n 2, 37, []), (37, .iconst 0, 38, []), (38, .aload_n 0, 39, []), (39, .getfield 87, 42, []), (42, .iconst 1, 43, []), (43, .isub, 44, []), (44, .invokestatic 103, 47, []), (47, .ifCond .ne 7, 50, [54]), (50, .iconst 1, 51, []), (51, .goto 4, 54, [55]), (54, .iconst 0, 55, []), (55, .iconst 2, 56, []), (56, .invokevirtual 98, 59, []), (59, .ifCond .ne 24, 62, [83]), (62, .aload_n 0, 63, []), (63, .aload_n 0, 64, []), (64, .iload_n 1, 65, []), (65, .invokevirtual 134, 68, []), (68, .ifCond .ne 7, 71, [75]), (71, .iconst 1, 72, []), (72, .goto 4, 75, [76]), (75, .iconst 0, 76, []), (76, .iconst 3, 77, []), (77, .invokevirtual 98, 80, []), (80, .ifCond .eq 5, 83, [85]), (83, .iconst 0, 84, []), (84, .ireturn, 85, []), (85, .aload_n 0, 86, []), (86, .aload_n 0, 87, []), (87, .getfield 53, 90, []), (90, .iload_n 1, 91, []), (91, .iaload, 92, []), (92, .invokevirtual 138, 95, []), (95, .iconst 1, 96, []), (96, .iadd, 97, []), (97, .istore_n 3, 98, []), (98, .iload_n 3, 99, []), (99, .iload_n 2, 100, []), (100, .if_icmp .gt 27, 103, [127]), (103, .aload_n 0, 104, []), (104, .getfield 22, 107, []), (107, .iload_n 3, 108, []), (108, .iaload, 109, []), (109, .ifCond .ne 18, 112, [127]), (112, .aload_n 0, 113, []), (113, .iload_n 3, 114, []), (114, .iload_n 1, 115, []), (115, .invokevirtual 170, 118, []), (118, .ifCond .ne 9, 121, [127]), (121, .iinc 3 1, 124, []), (124, .goto (-26), 127, [98]), (127, .iload_n 3, 128, []), (128, .iconst 1, 129, []), (129, .isub, 130, []), (130, .aload_n 0, 131, []), (131, .aload_n 0, 132, []), (132, .getfield 53, 135, []), (135, .iload_n 1, 136, []), (136, .iaload, 137, []), (137, .invokevirtual 138, 140, []), (140, .if_icmp .le 24, 143, [164]), (143, .iload_n 3, 144, []), (144, .iconst 1, 145, []), (145, .isub, 146, []), (146, .aload_n 0, 147, []), (147, .getfield 65, 150, []), (150, .iload_n 1, 151, []), (151, .iaload, 152, []), (152, .if_icmp .le 12, 155, [164]), (155, .aload_n 0, 156, []), (156, .getfield 65, 159, []), (159, .iload_n 1, 160, []), (160, .iload_n 3, 161, []), (161, .iconst 1, 162, []), (162, .isub, 163, []), (163, .iastore, 164, []), (164, .aload_n 0, 165, []), (165, .getfield 65, 168, []), (168, .iload_n 1, 169, []), (169, .iaload, 170, []), (170, .ireturn, 171, [])]
def tb_Mo_isTaken : List tk_E := [(0, .iconst 0, 1, []), (1, .istore_n 3, 2, []), (2, .iload_n 3, 3, []), (3, .bipush 8, 5, []), (5, .if_icmp .ge 48, 8, [53]), (8, .iload_n 3, 9, []), (9, .iload_n 2, 10, []), (10, .if_icmp .eq 37, 13, [47]), (13, .aload_n 0, 14, []), (14, .getfield 65, 17, []), (17, .iload_n 3, 18, []), (18, .iaload, 19, []), (19, .iload_n 1, 20, []), (20, .if_icmp .lt 27, 23, [47]), (23, .aload_n 0, 24, []), (24, .iload_n 3, 25, []), (25, .invokevirtual 134, 28, []), (28, .ifCond .eq 19, 31, [47]), (31, .aload_n 0, 32, []), (32, .aload_n 0, 33, []), (33, .getfield 53, 36, []), (36, .iload_n 3, 37, []), (37, .iaload, 38, []), (38, .invokevirtual 138, 41, []), (41, .iload_n 1, 42, []), (42, .if_icmp .ge 5, 45, [47]), (45, .iconst 1, 46, []), (46, .ireturn, 47, []), (47, .iinc 3 1, 50, []), (50, .goto (-48), 53, [2]), (53, .iconst 0, 54, []), (54, .ireturn, 55, [])]
def tb_Mo_state : List tk_E := [(0, .aload_n 0, 1, []), (1, .iconst 0, 2, []), (2, .putfield 80, 5, []), (5, .aload_n 0, 6, []), (6, .aload_n 0, 7, []), (7, .getfield 90, 10, []), (10, .ifCond .ne 7, 13, [17]), (13, .iconst 1, 14, []), (14, .goto 4, 17, [18]), (17, .iconst 0, 18, []), (18, .iconst 1, 19, []), (19, .invokevirtual 98, 22, []), (22, .ifCond .ne 30, 25, [52]), (25, .aload_n 0, 26, []), (26, .iload_n 1, 27, []), (27, .iconst 0, 28, []), (28, .aload_n 0, 29, []), (29, .getfield 87, 32, []), (32, .iconst 1, 33, []), (33, .isub, 34, []), (34, .invokestatic 103, 37, []), (37, .ifCond .ne 7, 40, [44]), (40, .iconst 1, 41, []), (41, .goto 4, 44, [45]), (44, .iconst 0, 45, []), (45, .iconst 2, 46, []), (46, .invokevirtual 98, 49, []), (49, .ifCond .eq 5, 52, [54]), (52, .iconst 0, 53, []), (53, .ireturn, 54, []), (54, .aload_n 0, 55, []), (55, .getfield 22, 58, []), (58, .iload_n 1, 59, []), (59, .iaload, 60, []), (60, .ireturn, 61, [])]
def tb_Mo_train : List tk_E := [(0, .aload_n 0, 1, []), (1, .iconst 0, 2, []), (2, .putfield 80, 5, []), (5, .aload_n 0, 6, []), (6, .aload_n 0, 7, []), (7, .getfield 90, 10, []), (10, .ifCond .ne 7, 13, [17]), (13, .iconst 1, 14, []), (14, .goto 4, 17, [18]), (17, .iconst 0, 18, []), (18, .iconst 1, 19, []), (19, .invokevirtual 98, 22, []), (22, .ifCond .ne 35, 25, [57]), (25, .aload_n 0, 26, []), (26, .iload_n 1, 27, []), (27, .iconst 0, 28, []), (28, .bipush 7, 30, []), (30, .invokestatic 103, 33, []), (33, .ifCond .eq 12, 36, [45]), (36, .iload_n 2, 37, []), (37, .iconst 0, 38, []), (38, .iconst 5, 39, []), (39, .invokestatic 103, 42, []), (42, .ifCond .ne 7, 45, [49]), (45, .iconst 1, 46, []), (46, .goto 4, 49, [50]), (49, .iconst 0, 50, []), (50, .iconst 2, 51, []), (51, .invokevirtual 98, 54, []), (54, .ifCond .eq 5, 57, [59]), (57, .iconst 0, 58, []), (58, .ireturn, 59, []), (59, .iload_n 2, 60, []), (60, .tableswitch 82 0 3 #[32, 47, 61, 75], 92, [142, 92, 107, 121, 135]), (92, .aload_n 0, 93, []), (93, .getfield 41, 96, []), (96, .iload_n 1, 97, []), (97, .baload, 98, []), (98, .ifCond .eq 7, 101, [105]), (101, .iconst 1, 102, []), (102, .goto 4, 105, [106]), (105, .iconst 0, 106, []), (106, .ireturn, 107, []), (107, .aload_n 0, 108, []), (108, .iload_n 1, 109, []), (109, .invokevirtual 134, 112, []), (112, .ifCond .eq 7, 115, [119]), (115, .iconst 1, 116, []), (116, .goto 4, 119, [120]), (119, .iconst 0, 120, []), (120, .ireturn, 121, []), (121, .aload_n 0, 122, []), (122, .iload_n 1, 123, []), (123, .invokevirtual 157, 126, []), (126, .ifCond .eq 7, 129, [133]), (129, .iconst 1, 130, []), (130, .goto 4, 133, [134]), (133, .iconst 0, 134, []), (134, .ireturn, 135, []), (135, .aload_n 0, 136, []), (136, .getfield 65, 139, []), (139, .iload_n 1, 140, []), (140, .iaload, 141, []), (141, .ireturn, 142, []), (142, .aload_n 0, 143, []), (143, .iload_n 1, 144, []), (144, .invokevirtual 134, 147, []), (147, .ifCond .ne 7, 150, [154]), (150, .iconst (-1), 151, []), (151, .goto 27, 154, [178]), (154, .aload_n 0, 155, []), (155, .iload_n 2, 156, []), (156, .iconst 4, 157, []), (157, .if_icmp .ne 12, 160, [169]), (160, .aload_n 0, 161, []), (161, .getfield 56, 164, []), (164, .iload_n 1, 165, []), (165, .iaload, 166, []), (166, .goto 9, 169, [175]), (169, .aload_n 0, 170, []), (170, .getfield 53, 173, []), (173, .iload_n 1, 174, []), (174, .iaload, 175, []), (175, .invokevirtual 138, 178, []), (178, .ireturn, 179, [])]
def tb_Mo_count : List tk_E := [(0, .aload_n 0, 1, []), (1, .iconst 0, 2, []), (2, .putfield 80, 5, []), (5, .aload_n 0, 6, []), (6, .iload_n 1, 7, []), (7, .iconst 0, 8, []), (8, .bipush 7, 10, []), (10, .invokestatic 103, 13, []), (13, .ifCond .eq 22, 16, [35]), (16, .iload_n 1, 17, []), (17, .iconst 5, 18, []), (18, .if_icmp .le 21, 21, [39]), (21, .iload_n 2, 22, []), (22, .iconst 0, 23, []), (23, .aload_n 0, 24, []), (24, .getfield 84, 27, []), (27, .iconst 1, 28, []), (28, .isub, 29, []), (29, .invokestatic 103, 32, []), (32, .ifCond .ne 7, 35, [39]), (35, .iconst 1, 36, []), (36, .goto 4, 39, [40]), (39, .iconst 0, 40, []), (40, .iconst 1, 41, []), (41, .invokevirtual 98, 44, []), (44, .ifCond .eq 5, 47, [49]), (47, .iconst 0, 48, []), (48, .ireturn, 49, []), (49, .iload_n 1, 50, []), (50, .tableswitch 79 0 6 #[42, 47, 52, 57, 62, 67, 72], 92, [129, 92, 97, 102, 107, 112, 117, 122]), (92, .aload_n 0, 93, []), (93, .getfield 84, 96, []), (96, .ireturn, 97, []), (97, .aload_n 0, 98, []), (98, .getfield 87, 101, []), (101, .ireturn, 102, []), (102, .aload_n 0, 103, []), (103, .getfield 122, 106, []), (106, .ireturn, 107, []), (107, .aload_n 0, 108, []), (108, .getfield 125, 111, []), (111, .ireturn, 112, []), (112, .aload_n 0, 113, []), (113, .getfield 128, 116, []), (116, .ireturn, 117, []), (117, .aload_n 0, 118, []), (118, .getfield 131, 121, []), (121, .ireturn, 122, []), (122, .aload_n 0, 123, []), (123, .getfield 19, 126, []), (126, .iload_n 2, 127, []), (127, .iaload, 128, []), (128, .ireturn, 129, []), (129, .aload_n 0, 130, []), (130, .getfield 34, 133, []), (133, .iload_n 2, 134, []), (134, .baload, 135, []), (135, .ifCond .eq 7, 138, [142]), (138, .iconst 1, 139, []), (139, .goto 4, 142, [143]), (142, .iconst 0, 143, []), (143, .ireturn, 144, [])]
def tb_Au_forgetCounts : List tk_E := [(0, .aload_n 0, 1, []), (1, .iconst 0, 2, []), (2, .putfield 9, 5, []), (5, .aload_n 0, 6, []), (6, .iconst 0, 7, []), (7, .putfield 15, 10, []), (10, .return_, 11, [])]
def tb_Au_extend : List tk_E := [(0, .aload 4, 2, []), (2, .iload_n 1, 3, []), (3, .aaload, 4, []), (4, .astore 5, 6, []), (6, .aload 5, 8, []), (8, .getfield 18, 11, []), (11, .istore 6, 13, []), (13, .iload 6, 15, []), (15, .iload_n 2, 16, []), (16, .if_icmp .ge 38, 19, [54]), (19, .aload_n 3, 20, []), (20, .getfield 23, 23, []), (23, .iload 6, 25, []), (25, .iconst 1, 26, []), (26, .iadd, 27, []), (27, .aaload, 28, []), (28, .getfield 29, 31, []), (31, .ifCond .ne 23, 34, [54]), (34, .aload_n 0, 35, []), (35, .iload_n 1, 36, []), (36, .iload 6, 38, []), (38, .iconst 1, 39, []), (39, .iadd, 40, []), (40, .aload 4, 42, []), (42, .invokevirtual 34, 45, []), (45, .ifCond .ne 9, 48, [54]), (48, .iinc 6 1, 51, []), (51, .goto (-38), 54, [13]), (54, .iload 6, 56, []), (56, .aload 5, 58, []), (58, .getfield 18, 61, []), (61, .if_icmp .le 20, 64, [81]), (64, .iload 6, 66, []), (66, .aload 5, 68, []), (68, .getfield 38, 71, []), (71, .if_icmp .le 10, 74, [81]), (74, .aload 5, 76, []), (76, .iload 6, 78, []), (78, .putfield 38, 81, []), (81, .return_, 82, [])]
def tb_Au_isHeldByOther : List tk_E := [(0, .iconst 0, 1, []), (1, .istore 4, 3, []), (3, .iload 4, 5, []), (5, .aload_n 3, 6, []), (6, .arraylength, 7, []), (7, .if_icmp .ge 28, 10, [35]), (10, .iload 4, 12, []), (12, .iload_n 1, 13, []), (13, .if_icmp .eq 16, 16, [29]), (16, .aload_n 3, 17, []), (17, .iload 4, 19, []), (19, .aaload, 20, []), (20, .iload_n 2, 21, []), (21, .invokevirtual 41, 24, []), (24, .ifCond .eq 5, 27, [29]), (27, .iconst 1, 28, []), (28, .ireturn, 29, []), (29, .iinc 4 1, 32, []), (32, .goto (-29), 35, [3]), (35, .iconst 0, 36, []), (36, .ireturn, 37, [])]
def tb_Au_settle : List tk_E := [(0, .iconst 0, 1, []), (1, .istore_n 3, 2, []), (2, .iload_n 3, 3, []), (3, .aload_n 2, 4, []), (4, .arraylength, 5, []), (5, .if_icmp .ge 27, 8, [32]), (8, .aload_n 2, 9, []), (9, .iload_n 3, 10, []), (10, .aaload, 11, []), (11, .getfield 38, 14, []), (14, .iconst (-1), 15, []), (15, .if_icmp .eq 11, 18, [26]), (18, .aload_n 0, 19, []), (19, .aload_n 2, 20, []), (20, .iload_n 3, 21, []), (21, .aaload, 22, []), (22, .aload_n 1, 23, []), (23, .invokevirtual 45, 26, []), (26, .iinc 3 1, 29, []), (29, .goto (-27), 32, [2]), (32, .return_, 33, [])]
def tb_Au_settleOne : List tk_E := [(0, .aload_n 1, 1, []), (1, .getfield 49, 4, []), (4, .ifCond .ne 19, 7, [23]), (7, .aload_n 1, 8, []), (8, .iconst (-1), 9, []), (9, .putfield 38, 12, []), (12, .aload_n 0, 13, []), (13, .dup, 14, []), (14, .getfield 15, 17, []), (17, .iconst 1, 18, []), (18, .iadd, 19, []), (19, .putfield 15, 22, []), (22, .return_, 23, []), (23, .aload_n 1, 24, []), (24, .getfield 18, 27, []), (27, .istore_n 3, 28, []), (28, .iload_n 3, 29, []), (29, .aload_n 1, 30, []), (30, .getfield 38, 33, []), (33, .if_icmp .ge 23, 36, [56]), (36, .aload_n 2, 37, []), (37, .getfield 23, 40, []), (40, .iload_n 3, 41, []), (41, .iconst 1, 42, []), (42, .iadd, 43, []), (43, .aaload, 44, []), (44, .getfield 29, 47, []), (47, .ifCond .ne 9, 50, [56]), (50, .iinc 3 1, 53, []), (53, .goto (-25), 56, [28]), (56, .iload_n 3, 57, []), (57, .aload_n 1, 58, []), (58, .getfield 38, 61, []), (61, .if_icmp .ge 18, 64, [79]), (64, .aload_n 1, 65, []), (65, .iload_n 3, 66, []), (66, .putfield 38, 69, []), (69, .aload_n 0, 70, []), (70, .dup, 71, []), (71, .getfield 9, 74, []), (74, .iconst 1, 75, []), (75, .iadd, 76, []), (76, .putfield 9, 79, []), (79, .aload_n 1, 80, []), (80, .getfield 38, 83, []), (83, .aload_n 1, 84, []), (84, .getfield 18, 87, []), (87, .if_icmp .gt 8, 90, [95]), (90, .aload_n 1, 91, []), (91, .iconst (-1), 92, []), (92, .putfield 38, 95, []), (95, .return_, 96, [])]
def tb_Tr_removeAll : List tk_E := [(0, .aload_n 0, 1, []), (1, .iconst 0, 2, []), (2, .putfield 25, 5, []), (5, .aload_n 0, 6, []), (6, .iconst 0, 7, []), (7, .putfield 29, 10, []), (10, .aload_n 0, 11, []), (11, .iconst 0, 12, []), (12, .putfield 32, 15, []), (15, .return_, 16, [])]
def tb_Tr_latestIsBare : List tk_E := [(0, .aload_n 0, 1, []), (1, .getfield 25, 4, []), (4, .ifCond .le 38, 7, [42]), (7, .aload_n 0, 8, []), (8, .getfield 11, 11, []), (11, .aload_n 0, 12, []), (12, .getfield 25, 15, []), (15, .iconst 1, 16, []), (16, .isub, 17, []), (17, .aaload, 18, []), (18, .getfield 35, 21, []), (21, .aload_n 0, 22, []), (22, .getfield 11, 25, []), (25, .aload_n 0, 26, []), (26, .getfield 25, 29, []), (29, .iconst 1, 30, []), (30, .isub, 31, []), (31, .aaload, 32, []), (32, .getfield 38, 35, []), (35, .if_icmp .ge 7, 38, [42]), (38, .iconst 1, 39, []), (39, .goto 4, 42, [43]), (42, .iconst 0, 43, []), (43, .ireturn, 44, [])]
def tb_Tr_hasSection : List tk_E := [(0, .iload_n 1, 1, []), (1, .iconst 0, 2, []), (2, .aload_n 0, 3, []), (3, .getfield 25, 6, []), (6, .iconst 1, 7, []), (7, .isub, 8, []), (8, .invokestatic 41, 11, []), (11, .ireturn, 12, [])]
def tb_Tr_hasSubsection : List tk_E := [(0, .iload_n 1, 1, []), (1, .iconst 0, 2, []), (2, .aload_n 0, 3, []), (3, .getfield 29, 6, []), (6, .iconst 1, 7, []), (7, .isub, 8, []), (8, .invokestatic 41, 11, []), (11, .ireturn, 12, [])]
def tb_Tr_addSection : List tk_E := [(0, .aload_n 0, 1, []), (1, .getfield 11, 4, []), (4, .aload_n 0, 5, []), (5, .getfield 25, 8, []), (8, .aaload, 9, []), (9, .aload_n 0, 10, []), (10, .getfield 29, 13, []), (13, .putfield 38, 16, []), (16, .aload_n 0, 17, []), (17, .getfield 11, 20, []), (20, .aload_n 0, 21, []), (21, .getfield 25, 24, []), (24, .aaload, 25, []), (25, .aload_n 0, 26, []), (26, .getfield 29, 29, []), (29, .iconst 1, 30, []), (30, .isub, 31, []), (31, .putfield 35, 34, []), (34, .aload_n 0, 35, []), (35, .dup, 36, []), (36, .getfield 25, 39, []), (39, .iconst 1, 40, []), (40, .iadd, 41, []), (41, .putfield 25, 44, []), (44, .aload_n 0, 45, []), (45, .getfield 25, 48, []), (48, .iconst 1, 49, []), (49, .isub, 50, []), (50, .ireturn, 51, [])]
def tb_Tr_addSubsection : List tk_E := [(0, .aload_n 0, 1, []), (1, .getfield 19, 4, []), (4, .aload_n 0, 5, []), (5, .getfield 29, 8, []), (8, .aaload, 9, []), (9, .aload_n 0, 10, []), (10, .getfield 25, 13, []), (13, .iconst 1, 14, []), (14, .isub, 15, []), (15, .putfield 45, 18, []), (18, .aload_n 0, 19, []), (19, .getfield 19, 22, []), (22, .aload_n 0, 23, []), (23, .getfield 29, 26, []), (26, .aaload, 27, []), (27, .aload_n 0, 28, []), (28, .getfield 32, 31, []), (31, .putfield 48, 34, []), (34, .aload_n 0, 35, []), (35, .getfield 11, 38, []), (38, .aload_n 0, 39, []), (39, .getfield 25, 42, []), (42, .iconst 1, 43, []), (43, .isub, 44, []), (44, .aaload, 45, []), (45, .aload_n 0, 46, []), (46, .getfield 29, 49, []), (49, .putfield 35, 52, []), (52, .aload_n 0, 53, []), (53, .dup, 54, []), (54, .getfield 32, 57, []), (57, .iload_n 1, 58, []), (58, .iadd, 59, []), (59, .putfield 32, 62, []), (62, .aload_n 0, 63, []), (63, .dup, 64, []), (64, .getfield 29, 67, []), (67, .iconst 1, 68, []), (68, .iadd, 69, []), (69, .putfield 29, 72, []), (72, .aload_n 0, 73, []), (73, .getfield 29, 76, []), (76, .iconst 1, 77, []), (77, .isub, 78, []), (78, .ireturn, 79, [])]
def tb_Tr_emptyAll : List tk_E := [(0, .iconst 0, 1, []), (1, .istore_n 1, 2, []), (2, .iload_n 1, 3, []), (3, .aload_n 0, 4, []), (4, .getfield 25, 7, []), (7, .if_icmp .ge 29, 10, [36]), (10, .aload_n 0, 11, []), (11, .getfield 11, 14, []), (14, .iload_n 1, 15, []), (15, .aaload, 16, []), (16, .iconst 0, 17, []), (17, .putfield 51, 20, []), (20, .aload_n 0, 21, []), (21, .getfield 11, 24, []), (24, .iload_n 1, 25, []), (25, .aaload, 26, []), (26, .iconst 0, 27, []), (27, .putfield 55, 30, []), (30, .iinc 1 1, 33, []), (33, .goto (-31), 36, [2]), (36, .iconst 0, 37, []), (37, .istore_n 1, 38, []), (38, .iload_n 1, 39, []), (39, .aload_n 0, 40, []), (40, .getfield 29, 43, []), (43, .if_icmp .ge 19, 46, [62]), (46, .aload_n 0, 47, []), (47, .getfield 19, 50, []), (50, .iload_n 1, 51, []), (51, .aaload, 52, []), (52, .iconst 0, 53, []), (53, .putfield 58, 56, []), (56, .iinc 1 1, 59, []), (59, .goto (-21), 62, [38]), (62, .aload_n 0, 63, []), (63, .iconst 0, 64, []), (64, .putfield 61, 67, []), (67, .return_, 68, [])]
def tb_Tr_subsectionAt : List tk_E := [(0, .aload_n 0, 1, []), (1, .getfield 29, 4, []), (4, .iconst 1, 5, []), (5, .isub, 6, []), (6, .istore_n 2, 7, []), (7, .iload_n 2, 8, []), (8, .ifCond .le 22, 11, [30]), (11, .aload_n 0, 12, []), (12, .getfield 19, 15, []), (15, .iload_n 2, 16, []), (16, .aaload, 17, []), (17, .getfield 48, 20, []), (20, .iload_n 1, 21, []), (21, .if_icmp .le 9, 24, [30]), (24, .iinc 2 (-1), 27, []), (27, .goto (-20), 30, [7]), (30, .iload_n 2, 31, []), (31, .ireturn, 32, [])]
def tb_Tr_countForSpreads : List tk_E := [(0, .iconst 0, 1, []), (1, .istore_n 2, 2, []), (2, .iload_n 2, 3, []), (3, .aload_n 0, 4, []), (4, .getfield 25, 7, []), (7, .if_icmp .ge 33, 10, [40]), (10, .aload_n 0, 11, []), (11, .aload_n 0, 12, []), (12, .getfield 11, 15, []), (15, .iload_n 2, 16, []), (16, .aaload, 17, []), (17, .invokevirtual 64, 20, []), (20, .ifCond .eq 14, 23, [34]), (23, .aload_n 0, 24, []), (24, .aload_n 0, 25, []), (25, .getfield 11, 28, []), (28, .iload_n 2, 29, []), (29, .aaload, 30, []), (30, .iload_n 1, 31, []), (31, .invokevirtual 68, 34, []), (34, .iinc 2 1, 37, []), (37, .goto (-35), 40, [2]), (40, .return_, 41, [])]
def tb_Tr_countForSpread : List tk_E := [(0, .aload_n 1, 1, []), (1, .dup, 2, []), (2, .getfield 55, 5, []), (5, .iconst 1, 6, []), (6, .iadd, 7, []), (7, .putfield 55, 10, []), (10, .aload_n 1, 11, []), (11, .getfield 55, 14, []), (14, .iload_n 2, 15, []), (15, .if_icmp .lt 23, 18, [38]), (18, .aload_n 1, 19, []), (19, .iconst 0, 20, []), (20, .putfield 55, 23, []), (23, .aload_n 1, 24, []), (24, .iconst 1, 25, []), (25, .putfield 72, 28, []), (28, .aload_n 0, 29, []), (29, .dup, 30, []), (30, .getfield 61, 33, []), (33, .iconst 1, 34, []), (34, .iadd, 35, []), (35, .putfield 61, 38, []), (38, .return_, 39, [])]
def tb_Tr_isUnsure : List tk_E := [(0, .aload_n 1, 1, []), (1, .getfield 51, 4, []), (4, .ifCond .ne 5, 7, [9]), (7, .iconst 0, 8, []), (8, .ireturn, 9, []), (9, .aload_n 1, 10, []), (10, .getfield 38, 13, []), (13, .istore_n 2, 14, []), (14, .iload_n 2, 15, []), (15, .aload_n 1, 16, []), (16, .getfield 35, 19, []), (19, .if_icmp .gt 24, 22, [43]), (22, .aload_n 0, 23, []), (23, .getfield 19, 26, []), (26, .iload_n 2, 27, []), (27, .aaload, 28, []), (28, .getfield 58, 31, []), (31, .iconst 3, 32, []), (32, .if_icmp .ne 5, 35, [37]), (35, .iconst 1, 36, []), (36, .ireturn, 37, []), (37, .iinc 2 1, 40, []), (40, .goto (-26), 43, [14]), (43, .iconst 0, 44, []), (44, .ireturn, 45, [])]
def tb_Tr_findStates : List tk_E := [(0, .aload_n 0, 1, []), (1, .aload_n 1, 2, []), (2, .invokevirtual 75, 5, []), (5, .iconst 0, 6, []), (6, .istore_n 2, 7, []), (7, .iload_n 2, 8, []), (8, .aload_n 0, 9, []), (9, .getfield 29, 12, []), (12, .if_icmp .ge 30, 15, [42]), (15, .aload_n 0, 16, []), (16, .getfield 19, 19, []), (19, .iload_n 2, 20, []), (20, .aaload, 21, []), (21, .aload_n 0, 22, []), (22, .aload_n 0, 23, []), (23, .getfield 19, 26, []), (26, .iload_n 2, 27, []), (27, .aaload, 28, []), (28, .iload_n 2, 29, []), (29, .aload_n 1, 30, []), (30, .invokevirtual 79, 33, []), (33, .putfield 58, 36, []), (36, .iinc 2 1, 39, []), (39, .goto (-32), 42, [7]), (42, .iconst 0, 43, []), (43, .istore_n 2, 44, []), (44, .iload_n 2, 45, []), (45, .aload_n 0, 46, []), (46, .getfield 25, 49, []), (49, .if_icmp .ge 42, 52, [91]), (52, .aload_n 0, 53, []), (53, .getfield 11, 56, []), (56, .iload_n 2, 57, []), (57, .aaload, 58, []), (58, .iconst 0, 59, []), (59, .putfield 72, 62, []), (62, .aload_n 0, 63, []), (63, .aload_n 0, 64, []), (64, .getfield 11, 67, []), (67, .iload_n 2, 68, []), (68, .aaload, 69, []), (69, .invokevirtual 64, 72, []), (72, .ifCond .ne 13, 75, [85]), (75, .aload_n 0, 76, []), (76, .getfield 11, 79, []), (79, .iload_n 2, 80, []), (80, .aaload, 81, []), (81, .iconst 0, 82, []), (82, .putfield 55, 85, []), (85, .iinc 2 1, 88, []), (88, .goto (-44), 91, [44]), (91, .return_, 92, [])]
def tb_Tr_markTrains : List tk_E := [(0, .iconst 0, 1, []), (1, .istore_n 2, 2, []), (2, .iload_n 2, 3, []), (3, .aload_n 0, 4, []), (4, .getfield 29, 7, []), (7, .if_icmp .ge 19, 10, [26]), (10, .aload_n 0, 11, []), (11, .getfield 19, 14, []), (14, .iload_n 2, 15, []), (15, .aaload, 16, []), (16, .iconst 0, 17, []), (17, .putfield 83, 20, []), (20, .iinc 2 1, 23, []), (23, .goto (-21), 26, [2]), (26, .iconst 0, 27, []), (27, .istore_n 2, 28, []), (28, .iload_n 2, 29, []), (29, .aload_n 0, 30, []), (30, .getfield 25, 33, []), (33, .if_icmp .ge 19, 36, [52]), (36, .aload_n 0, 37, []), (37, .getfield 11, 40, []), (40, .iload_n 2, 41, []), (41, .aaload, 42, []), (42, .iconst 0, 43, []), (43, .putfield 86, 46, []), (46, .iinc 2 1, 49, []), (49, .goto (-21), 52, [28]), (52, .iconst 0, 53, []), (53, .istore_n 2, 54, []), (54, .iload_n 2, 55, []), (55, .aload_n 1, 56, []), (56, .arraylength, 57, []), (57, .if_icmp .ge 26, 60, [83]), (60, .aload_n 1, 61, []), (61, .iload_n 2, 62, []), (62, .aaload, 63, []), (63, .getfield 89, 66, []), (66, .ifCond .eq 11, 69, [77]), (69, .aload_n 0, 70, []), (70, .aload_n 1, 71, []), (71, .iload_n 2, 72, []), (72, .aaload, 73, []), (73, .iload_n 2, 74, []), (74, .invokevirtual 94, 77, []), (77, .iinc 2 1, 80, []), (80, .goto (-26), 83, [54]), (83, .return_, 84, [])]
def tb_Tr_markTrain : List tk_E := [(0, .aload_n 1, 1, []), (1, .aload_n 1, 2, []), (2, .getfield 98, 5, []), (5, .ifCond .eq 18, 8, [23]), (8, .aload_n 0, 9, []), (9, .aload_n 1, 10, []), (10, .getfield 101, 13, []), (13, .invokevirtual 104, 16, []), (16, .ifCond .eq 7, 19, [23]), (19, .iconst 1, 20, []), (20, .goto 4, 23, [24]), (23, .iconst 0, 24, []), (24, .putfield 108, 27, []), (27, .aload_n 1, 28, []), (28, .getfield 101, 31, []), (31, .istore_n 3, 32, []), (32, .iload_n 3, 33, []), (33, .aload_n 1, 34, []), (34, .getfield 111, 37, []), (37, .if_icmp .gt 52, 40, [89]), (40, .aload_n 0, 41, []), (41, .getfield 19, 44, []), (44, .iload_n 3, 45, []), (45, .aaload, 46, []), (46, .dup, 47, []), (47, .getfield 83, 50, []), (50, .iconst 1, 51, []), (51, .iadd, 52, []), (52, .putfield 83, 55, []), (55, .aload_n 0, 56, []), (56, .getfield 19, 59, []), (59, .iload_n 3, 60, []), (60, .aaload, 61, []), (61, .iload_n 2, 62, []), (62, .putfield 114, 65, []), (65, .aload_n 0, 66, []), (66, .getfield 11, 69, []), (69, .aload_n 0, 70, []), (70, .getfield 19, 73, []), (73, .iload_n 3, 74, []), (74, .aaload, 75, []), (75, .getfield 45, 78, []), (78, .aaload, 79, []), (79, .iconst 1, 80, []), (80, .putfield 86, 83, []), (83, .iinc 3 1, 86, []), (86, .goto (-54), 89, [32]), (89, .aload_n 1, 90, []), (90, .getfield 111, 93, []), (93, .iconst 1, 94, []), (94, .iadd, 95, []), (95, .aload_n 0, 96, []), (96, .getfield 29, 99, []), (99, .if_icmp .ge 26, 102, [125]), (102, .aload_n 0, 103, []), (103, .getfield 11, 106, []), (106, .aload_n 0, 107, []), (107, .getfield 19, 110, []), (110, .aload_n 1, 111, []), (111, .getfield 111, 114, []), (114, .iconst 1, 115, []), (115, .iadd, 116, []), (116, .aaload, 117, []), (117, .getfield 45, 120, []), (120, .aaload, 121, []), (121, .iconst 1, 122, []), (122, .putfield 86, 125, []), (125, .return_, 126, [])]
def tb_Tr_nothingCanFollow : List tk_E := [(0, .aload_n 0, 1, []), (1, .getfield 11, 4, []), (4, .aload_n 0, 5, []), (5, .getfield 19, 8, []), (8, .iload_n 1, 9, []), (9, .aaload, 10, []), (10, .getfield 45, 13, []), (13, .aaload, 14, []), (14, .getfield 38, 17, []), (17, .iload_n 1, 18, []), (18, .if_icmp .eq 17, 21, [35]), (21, .aload_n 0, 22, []), (22, .getfield 19, 25, []), (25, .iload_n 1, 26, []), (26, .iconst 1, 27, []), (27, .isub, 28, []), (28, .aaload, 29, []), (29, .getfield 58, 32, []), (32, .ifCond .ne 7, 35, [39]), (35, .iconst 1, 36, []), (36, .goto 4, 39, [40]), (39, .iconst 0, 40, []), (40, .ireturn, 41, [])]
def tb_Tr_newState : List tk_E := [(0, .aload_n 0, 1, []), (1, .getfield 11, 4, []), (4, .aload_n 1, 5, []), (5, .getfield 45, 8, []), (8, .aaload, 9, []), (9, .astore 4, 11, []), (11, .aload 4, 13, []), (13, .getfield 51, 16, []), (16, .ifCond .ne 5, 19, [21]), (19, .iconst 0, 20, []), (20, .ireturn, 21, []), (21, .aload_n 1, 22, []), (22, .getfield 83, 25, []), (25, .iconst 1, 26, []), (26, .if_icmp .le 5, 29, [31]), (29, .iconst 2, 30, []), (30, .ireturn, 31, []), (31, .aload_n 1, 32, []), (32, .getfield 83, 35, []), (35, .iconst 1, 36, []), (36, .if_icmp .ne 21, 39, [57]), (39, .aload_n 3, 40, []), (40, .aload_n 1, 41, []), (41, .getfield 114, 44, []), (44, .aaload, 45, []), (45, .getfield 108, 48, []), (48, .ifCond .eq 7, 51, [55]), (51, .iconst 1, 52, []), (52, .goto 4, 55, [56]), (55, .iconst 2, 56, []), (56, .ireturn, 57, []), (57, .aload_n 1, 58, []), (58, .getfield 58, 61, []), (61, .iconst 1, 62, []), (62, .if_icmp .ne 22, 65, [84]), (65, .aload_n 3, 66, []), (66, .aload_n 1, 67, []), (67, .getfield 114, 70, []), (70, .aaload, 71, []), (71, .iload_n 2, 72, []), (72, .invokevirtual 117, 75, []), (75, .ifCond .eq 7, 78, [82]), (78, .iconst 0, 79, []), (79, .goto 4, 82, [83]), (82, .iconst 3, 83, []), (83, .ireturn, 84, []), (84, .aload_n 1, 85, []), (85, .getfield 58, 88, []), (88, .ifCond .eq 5, 91, [93]), (91, .iconst 3, 92, []), (92, .ireturn, 93, []), (93, .aload 4, 95, []), (95, .getfield 72, 98, []), (98, .ifCond .ne 11, 101, [109]), (101, .aload 4, 103, []), (103, .getfield 86, 106, []), (106, .ifCond .ne 7, 109, [113]), (109, .iconst 3, 110, []), (110, .goto 4, 113, [114]), (113, .iconst 0, 114, []), (114, .ireturn, 115, [])]
def tb_Ti_forgetAll : List tk_E := [(0, .aload_n 0, 1, []), (1, .iconst 0, 2, []), (2, .putfield 9, 5, []), (5, .aload_n 0, 6, []), (6, .iconst 0, 7, []), (7, .putfield 15, 10, []), (10, .aload_n 0, 11, []), (11, .iconst 0, 12, []), (12, .putfield 18, 15, []), (15, .aload_n 0, 16, []), (16, .iconst (-1), 17, []), (17, .putfield 21, 20, []), (20, .return_, 21, [])]
def tb_Ti_join : List tk_E := [(0, .aload_n 0, 1, []), (1, .iconst 1, 2, []), (2, .putfield 9, 5, []), (5, .aload_n 0, 6, []), (6, .iload_n 1, 7, []), (7, .putfield 25, 10, []), (10, .aload_n 0, 11, []), (11, .iconst 0, 12, []), (12, .putfield 28, 15, []), (15, .aload_n 0, 16, []), (16, .iconst 0, 17, []), (17, .putfield 31, 20, []), (20, .return_, 21, [])]
def tb_Ti_wasBeyond : List tk_E := [(0, .aload_n 0, 1, []), (1, .getfield 28, 4, []), (4, .ifCond .eq 15, 7, [19]), (7, .iload_n 1, 8, []), (8, .aload_n 0, 9, []), (9, .getfield 34, 12, []), (12, .if_icmp .ge 7, 15, [19]), (15, .iconst 1, 16, []), (16, .goto 4, 19, [20]), (19, .iconst 0, 20, []), (20, .ireturn, 21, [])]
def tb_Ti_take : List tk_E := [(0, .aload_n 0, 1, []), (1, .getfield 28, 4, []), (4, .ifCond .eq 8, 7, [12]), (7, .iload_n 2, 8, []), (8, .iconst 1, 9, []), (9, .if_icmp .ne 22, 12, [31]), (12, .aload_n 0, 13, []), (13, .aload 4, 15, []), (15, .iconst 0, 16, []), (16, .iload_n 1, 17, []), (17, .aload_n 0, 18, []), (18, .getfield 25, 21, []), (21, .isub, 22, []), (22, .invokestatic 37, 25, []), (25, .invokevirtual 43, 28, []), (28, .putfield 49, 31, []), (31, .aload_n 0, 32, []), (32, .iload_n 1, 33, []), (33, .putfield 34, 36, []), (36, .aload_n 0, 37, []), (37, .aload 4, 39, []), (39, .iload_n 1, 40, []), (40, .invokevirtual 43, 43, []), (43, .putfield 52, 46, []), (46, .aload_n 0, 47, []), (47, .iconst 1, 48, []), (48, .putfield 28, 51, []), (51, .aload_n 0, 52, []), (52, .iload_n 3, 53, []), (53, .putfield 55, 56, []), (56, .iload_n 2, 57, []), (57, .iconst 1, 58, []), (58, .if_icmp .ne 13, 61, [71]), (61, .aload_n 0, 62, []), (62, .iconst 1, 63, []), (63, .putfield 31, 66, []), (66, .aload_n 0, 67, []), (67, .iload_n 3, 68, []), (68, .putfield 58, 71, []), (71, .iload_n 2, 72, []), (72, .iconst 2, 73, []), (73, .if_icmp .ne 8, 76, [81]), (76, .aload_n 0, 77, []), (77, .iconst 0, 78, []), (78, .putfield 31, 81, []), (81, .return_, 82, [])]
def tb_Ti_judge : List tk_E := [(0, .aload_n 0, 1, []), (1, .aload_n 0, 2, []), (2, .getfield 9, 5, []), (5, .ifCond .eq 24, 8, [29]), (8, .aload_n 0, 9, []), (9, .getfield 28, 12, []), (12, .ifCond .eq 17, 15, [29]), (15, .iload_n 1, 16, []), (16, .aload_n 0, 17, []), (17, .getfield 55, 20, []), (20, .isub, 21, []), (21, .iload_n 2, 22, []), (22, .if_icmp .gt 7, 25, [29]), (25, .iconst 1, 26, []), (26, .goto 4, 29, [30]), (29, .iconst 0, 30, []), (30, .putfield 15, 33, []), (33, .aload_n 0, 34, []), (34, .aload_n 0, 35, []), (35, .getfield 15, 38, []), (38, .ifCond .eq 24, 41, [62]), (41, .aload_n 0, 42, []), (42, .getfield 31, 45, []), (45, .ifCond .eq 17, 48, [62]), (48, .iload_n 1, 49, []), (49, .aload_n 0, 50, []), (50, .getfield 58, 53, []), (53, .isub, 54, []), (54, .iload_n 3, 55, []), (55, .if_icmp .gt 7, 58, [62]), (58, .iconst 1, 59, []), (59, .goto 4, 62, [63]), (62, .iconst 0, 63, []), (63, .putfield 18, 66, []), (66, .return_, 67, [])]
def tb_Ti_hasLeft : List tk_E := [(0, .aload_n 0, 1, []), (1, .getfield 18, 4, []), (4, .ifCond .eq 15, 7, [19]), (7, .aload_n 0, 8, []), (8, .getfield 49, 11, []), (11, .iload_n 1, 12, []), (12, .if_icmp .le 7, 15, [19]), (15, .iconst 1, 16, []), (16, .goto 4, 19, [20]), (19, .iconst 0, 20, []), (20, .ireturn, 21, [])]
def tb_Ti_holds : List tk_E := [(0, .aload_n 0, 1, []), (1, .getfield 21, 4, []), (4, .iconst (-1), 5, []), (5, .if_icmp .eq 23, 8, [28]), (8, .iload_n 1, 9, []), (9, .aload_n 0, 10, []), (10, .getfield 52, 13, []), (13, .if_icmp .le 15, 16, [28]), (16, .iload_n 1, 17, []), (17, .aload_n 0, 18, []), (18, .getfield 21, 21, []), (21, .if_icmp .gt 7, 24, [28]), (24, .iconst 1, 25, []), (25, .goto 4, 28, [29]), (28, .iconst 0, 29, []), (29, .ireturn, 30, [])]
def tb_Ti_tell : List tk_E := [(0, .iload_n 1, 1, []), (1, .tableswitch 95 0 4 #[35, 48, 61, 74, 79], 36, [96, 36, 49, 62, 75, 80]), (36, .aload_n 0, 37, []), (37, .getfield 9, 40, []), (40, .ifCond .eq 7, 43, [47]), (43, .iconst 1, 44, []), (44, .goto 4, 47, [48]), (47, .iconst 0, 48, []), (48, .ireturn, 49, []), (49, .aload_n 0, 50, []), (50, .getfield 15, 53, []), (53, .ifCond .eq 7, 56, [60]), (56, .iconst 1, 57, []), (57, .goto 4, 60, [61]), (60, .iconst 0, 61, []), (61, .ireturn, 62, []), (62, .aload_n 0, 63, []), (63, .getfield 18, 66, []), (66, .ifCond .eq 7, 69, [73]), (69, .iconst 1, 70, []), (70, .goto 4, 73, [74]), (73, .iconst 0, 74, []), (74, .ireturn, 75, []), (75, .aload_n 0, 76, []), (76, .getfield 21, 79, []), (79, .ireturn, 80, []), (80, .aload_n 0, 81, []), (81, .getfield 15, 84, []), (84, .ifCond .eq 10, 87, [94]), (87, .aload_n 0, 88, []), (88, .getfield 49, 91, []), (91, .goto 4, 94, [95]), (94, .iconst (-1), 95, []), (95, .ireturn, 96, []), (96, .aload_n 0, 97, []), (97, .getfield 15, 100, []), (100, .ifCond .eq 10, 103, [110]), (103, .aload_n 0, 104, []), (104, .getfield 52, 107, []), (107, .goto 4, 110, [111]), (110, .iconst (-1), 111, []), (111, .ireturn, 112, [])]
def tb_La_section : List tk_E := [(0, .aload_n 1, 1, []), (1, .iconst 0, 2, []), (2, .aload_n 0, 3, []), (3, .invokevirtual 7, 6, []), (6, .i2l, 7, []), (7, .lastore, 8, []), (8, .goto 9, 11, [17]), (11, .astore_n 2, 12, []), (12, .iconst 1, 13, []), (13, .ireturn, 14, []), (14, .astore_n 2, 15, []), (15, .iconst 2, 16, []), (16, .ireturn, 17, []), (17, .iconst 0, 18, []), (18, .ireturn, 19, [])]
def tb_La_sub : List tk_E := [(0, .aload_n 2, 1, []), (1, .iconst 0, 2, []), (2, .aload_n 0, 3, []), (3, .iload_n 1, 4, []), (4, .invokevirtual 17, 7, []), (7, .i2l, 8, []), (8, .lastore, 9, []), (9, .goto 12, 12, [21]), (12, .astore_n 3, 13, []), (13, .iconst 1, 14, []), (14, .ireturn, 15, []), (15, .astore_n 3, 16, []), (16, .iconst 2, 17, []), (17, .ireturn, 18, []), (18, .astore_n 3, 19, []), (19, .iconst 3, 20, []), (20, .ireturn, 21, []), (21, .iconst 0, 22, []), (22, .ireturn, 23, [])]
def tb_La_begin : List tk_E := [(0, .aload 4, 2, []), (2, .iconst 0, 3, []), (3, .aload_n 0, 4, []), (4, .iload_n 1, 5, []), (5, .iload_n 2, 6, []), (6, .iload_n 3, 7, []), (7, .invokevirtual 23, 10, []), (10, .i2l, 11, []), (11, .lastore, 12, []), (12, .goto 11, 15, [23]), (15, .astore 5, 17, []), (17, .iconst 1, 18, []), (18, .ireturn, 19, []), (19, .astore 5, 21, []), (21, .iconst 2, 22, []), (22, .ireturn, 23, []), (23, .iconst 0, 24, []), (24, .ireturn, 25, [])]
def tb_La_detect : List tk_E := [(0, .aload_n 0, 1, []), (1, .iload_n 1, 2, []), (2, .iload_n 2, 3, []), (3, .invokevirtual 27, 6, []), (6, .goto 9, 9, [15]), (9, .astore_n 3, 10, []), (10, .iconst 1, 11, []), (11, .ireturn, 12, []), (12, .astore_n 3, 13, []), (13, .iconst 2, 14, []), (14, .ireturn, 15, []), (15, .iconst 0, 16, []), (16, .ireturn, 17, [])]
def tb_La_connect : List tk_E := [(0, .aload_n 0, 1, []), (1, .iload_n 1, 2, []), (2, .iload_n 2, 3, []), (3, .invokevirtual 31, 6, []), (6, .goto 9, 9, [15]), (9, .astore_n 3, 10, []), (10, .iconst 1, 11, []), (11, .ireturn, 12, []), (12, .astore_n 3, 13, []), (13, .iconst 2, 14, []), (14, .ireturn, 15, []), (15, .iconst 0, 16, []), (16, .ireturn, 17, [])]
def tb_La_report : List tk_E := [(0, .aload 4, 2, []), (2, .iconst 0, 3, []), (3, .aload_n 0, 4, []), (4, .iload_n 1, 5, []), (5, .iload_n 2, 6, []), (6, .iload_n 3, 7, []), (7, .invokevirtual 35, 10, []), (10, .ifCond .eq 7, 13, [17]), (13, .lconst 1, 14, []), (14, .goto 4, 17, [18]), (17, .lconst 0, 18, []), (18, .lastore, 19, []), (19, .goto 15, 22, [34]), (22, .astore 5, 24, []), (24, .iconst 1, 25, []), (25, .ireturn, 26, []), (26, .astore 5, 28, []), (28, .iconst 2, 29, []), (29, .ireturn, 30, []), (30, .astore 5, 32, []), (32, .iconst 3, 33, []), (33, .ireturn, 34, []), (34, .iconst 0, 35, []), (35, .ireturn, 36, [])]
def tb_La_leave : List tk_E := [(0, .aload_n 0, 1, []), (1, .iload_n 1, 2, []), (2, .invokevirtual 41, 5, []), (5, .goto 12, 8, [17]), (8, .astore_n 2, 9, []), (9, .iconst 1, 10, []), (10, .ireturn, 11, []), (11, .astore_n 2, 12, []), (12, .iconst 2, 13, []), (13, .ireturn, 14, []), (14, .astore_n 2, 15, []), (15, .iconst 3, 16, []), (16, .ireturn, 17, []), (17, .iconst 0, 18, []), (18, .ireturn, 19, [])]
def tb_La_tick : List tk_E := [(0, .aload_n 2, 1, []), (1, .iconst 0, 2, []), (2, .aload_n 0, 3, []), (3, .iload_n 1, 4, []), (4, .invokevirtual 45, 7, []), (7, .i2l, 8, []), (8, .lastore, 9, []), (9, .goto 12, 12, [21]), (12, .astore_n 3, 13, []), (13, .iconst 1, 14, []), (14, .ireturn, 15, []), (15, .astore_n 3, 16, []), (16, .iconst 2, 17, []), (17, .ireturn, 18, []), (18, .astore_n 3, 19, []), (19, .iconst 3, 20, []), (20, .ireturn, 21, []), (21, .iconst 0, 22, []), (22, .ireturn, 23, [])]
def tb_La_request : List tk_E := [(0, .aload_n 3, 1, []), (1, .iconst 0, 2, []), (2, .aload_n 0, 3, []), (3, .iload_n 1, 4, []), (4, .iload_n 2, 5, []), (5, .invokevirtual 48, 8, []), (8, .i2l, 9, []), (9, .lastore, 10, []), (10, .goto 15, 13, [25]), (13, .astore 4, 15, []), (15, .iconst 1, 16, []), (16, .ireturn, 17, []), (17, .astore 4, 19, []), (19, .iconst 2, 20, []), (20, .ireturn, 21, []), (21, .astore 4, 23, []), (23, .iconst 3, 24, []), (24, .ireturn, 25, []), (25, .iconst 0, 26, []), (26, .ireturn, 27, [])]
def tb_La_state : List tk_E := [(0, .aload_n 2, 1, []), (1, .iconst 0, 2, []), (2, .aload_n 0, 3, []), (3, .iload_n 1, 4, []), (4, .invokevirtual 52, 7, []), (7, .i2l, 8, []), (8, .lastore, 9, []), (9, .goto 9, 12, [18]), (12, .astore_n 3, 13, []), (13, .iconst 1, 14, []), (14, .ireturn, 15, []), (15, .astore_n 3, 16, []), (16, .iconst 2, 17, []), (17, .ireturn, 18, []), (18, .iconst 0, 19, []), (19, .ireturn, 20, [])]
def tb_La_train : List tk_E := [(0, .aload_n 3, 1, []), (1, .iconst 0, 2, []), (2, .aload_n 0, 3, []), (3, .iload_n 1, 4, []), (4, .iload_n 2, 5, []), (5, .invokevirtual 55, 8, []), (8, .i2l, 9, []), (9, .lastore, 10, []), (10, .goto 11, 13, [21]), (13, .astore 4, 15, []), (15, .iconst 1, 16, []), (16, .ireturn, 17, []), (17, .astore 4, 19, []), (19, .iconst 2, 20, []), (20, .ireturn, 21, []), (21, .iconst 0, 22, []), (22, .ireturn, 23, [])]
def tb_La_count : List tk_E := [(0, .aload_n 3, 1, []), (1, .iconst 0, 2, []), (2, .aload_n 0, 3, []), (3, .iload_n 1, 4, []), (4, .iload_n 2, 5, []), (5, .invokevirtual 58, 8, []), (8, .i2l, 9, []), (9, .lastore, 10, []), (10, .goto 7, 13, [17]), (13, .astore 4, 15, []), (15, .iconst 1, 16, []), (16, .ireturn, 17, []), (17, .iconst 0, 18, []), (18, .ireturn, 19, [])]
def tb_In_bitCount : List tk_E := [(0, .iload_n 0, 1, []), (1, .iload_n 0, 2, []), (2, .iconst 1, 3, []), (3, .iushr, 4, []), (4, .ldc_w 265, 7, []), (7, .iand, 8, []), (8, .isub, 9, []), (9, .istore_n 0, 10, []), (10, .iload_n 0, 11, []), (11, .ldc_w 266, 14, []), (14, .iand, 15, []), (15, .iload_n 0, 16, []), (16, .iconst 2, 17, []), (17, .iushr, 18, []), (18, .ldc_w 266, 21, []), (21, .iand, 22, []), (22, .iadd, 23, []), (23, .istore_n 0, 24, []), (24, .iload_n 0, 25, []), (25, .iload_n 0, 26, []), (26, .iconst 4, 27, []), (27, .iushr, 28, []), (28, .iadd, 29, []), (29, .ldc_w 267, 32, []), (32, .iand, 33, []), (33, .istore_n 0, 34, []), (34, .iload_n 0, 35, []), (35, .iload_n 0, 36, []), (36, .bipush 8, 38, []), (38, .iushr, 39, []), (39, .iadd, 40, []), (40, .istore_n 0, 41, []), (41, .iload_n 0, 42, []), (42, .iload_n 0, 43, []), (43, .bipush 16, 45, []), (45, .iushr, 46, []), (46, .iadd, 47, []), (47, .istore_n 0, 48, []), (48, .iload_n 0, 49, []), (49, .bipush 63, 51, []), (51, .iand, 52, []), (52, .ireturn, 53, [])]
set_option maxRecDepth 100000 in
theorem tg_TK_section : tk_good prog_1_method_2_code 1 tb_TK_section := ⟨by decide +kernel, by decide +kernel⟩
set_option maxRecDepth 100000 in
theorem tg_TK_sub : tk_good prog_1_method_3_code 2 tb_TK_sub := ⟨by decide +kernel, by decide +kernel⟩
set_option maxRecDepth 100000 in
theorem tg_TK_begin : tk_good prog_1_method_4_code 5 tb_TK_begin := ⟨by decide +kernel, by decide +kernel⟩
set_option maxRecDepth 100000 in
theorem tg_TK_clear : tk_good prog_1_method_5_code 1 tb_TK_clear := ⟨by decide +kernel, by decide +kernel⟩
set_option maxRecDepth 100000 in
theorem tg_TK_detect : tk_good prog_1_method_6_code 3 tb_TK_detect := ⟨by decide +kernel, by decide +kernel⟩
set_option maxRecDepth 100000 in
theorem tg_TK_connect : tk_good prog_1_method_7_code 3 tb_TK_connect := ⟨by decide +kernel, by decide +kernel⟩
set_option maxRecDepth 100000 in
theorem tg_TK_report : tk_good prog_1_method_8_code 4 tb_TK_report := ⟨by decide +kernel, by decide +kernel⟩
set_option maxRecDepth 100000 in
theorem tg_TK_leave : tk_good prog_1_method_9_code 2 tb_TK_leave := ⟨by decide +kernel, by decide +kernel⟩
set_option maxRecDepth 100000 in
theorem tg_TK_tick : tk_good prog_1_method_10_code 3 tb_TK_tick := ⟨by decide +kernel, by decide +kernel⟩
set_option maxRecDepth 100000 in
theorem tg_TK_request : tk_good prog_1_method_11_code 3 tb_TK_request := ⟨by decide +kernel, by decide +kernel⟩
set_option maxRecDepth 100000 in
theorem tg_TK_state : tk_good prog_1_method_12_code 2 tb_TK_state := ⟨by decide +kernel, by decide +kernel⟩
set_option maxRecDepth 100000 in
theorem tg_TK_train : tk_good prog_1_method_13_code 3 tb_TK_train := ⟨by decide +kernel, by decide +kernel⟩
set_option maxRecDepth 100000 in
theorem tg_TK_count : tk_good prog_1_method_14_code 3 tb_TK_count := ⟨by decide +kernel, by decide +kernel⟩
set_option maxRecDepth 100000 in
theorem tg_TK_countSinceBegin : tk_good prog_1_method_15_code 3 tb_TK_countSinceBegin := ⟨by decide +kernel, by decide +kernel⟩
set_option maxRecDepth 100000 in
theorem tg_TK_requireBegun : tk_good prog_1_method_16_code 1 tb_TK_requireBegun := ⟨by decide +kernel, by decide +kernel⟩
set_option maxRecDepth 100000 in
theorem tg_TK_requireConnected : tk_good prog_1_method_17_code 2 tb_TK_requireConnected := ⟨by decide +kernel, by decide +kernel⟩
set_option maxRecDepth 100000 in
theorem tg_TK_isTrain : tk_good prog_1_method_18_code 1 tb_TK_isTrain := ⟨by decide +kernel, by decide +kernel⟩
set_option maxRecDepth 100000 in
theorem tg_TK_isWithin : tk_good prog_1_method_19_code 3 tb_TK_isWithin := ⟨by decide +kernel, by decide +kernel⟩
set_option maxRecDepth 100000 in
theorem tg_TK_findAllAnew : tk_good prog_1_method_20_code 2 tb_TK_findAllAnew := ⟨by decide +kernel, by decide +kernel⟩
set_option maxRecDepth 100000 in
theorem tg_Mo_thrown : tk_good prog_8_method_2_code 1 tb_Mo_thrown := ⟨by decide +kernel, by decide +kernel⟩
set_option maxRecDepth 100000 in
theorem tg_Mo_in : tk_good prog_8_method_3_code 3 tb_Mo_in := ⟨by decide +kernel, by decide +kernel⟩
set_option maxRecDepth 100000 in
theorem tg_Mo_fails : tk_good prog_8_method_4_code 3 tb_Mo_fails := ⟨by decide +kernel, by decide +kernel⟩
set_option maxRecDepth 100000 in
theorem tg_Mo_isWaiting : tk_good prog_8_method_5_code 1 tb_Mo_isWaiting := ⟨by decide +kernel, by decide +kernel⟩
set_option maxRecDepth 100000 in
theorem tg_Mo_section : tk_good prog_8_method_6_code 1 tb_Mo_section := ⟨by decide +kernel, by decide +kernel⟩
set_option maxRecDepth 100000 in
theorem tg_Mo_sub : tk_good prog_8_method_7_code 2 tb_Mo_sub := ⟨by decide +kernel, by decide +kernel⟩
set_option maxRecDepth 100000 in
theorem tg_Mo_begin : tk_good prog_8_method_8_code 4 tb_Mo_begin := ⟨by decide +kernel, by decide +kernel⟩
set_option maxRecDepth 100000 in
theorem tg_Mo_reset : tk_good prog_8_method_9_code 2 tb_Mo_reset := ⟨by decide +kernel, by decide +kernel⟩
set_option maxRecDepth 100000 in
theorem tg_Mo_clear : tk_good prog_8_method_10_code 1 tb_Mo_clear := ⟨by decide +kernel, by decide +kernel⟩
set_option maxRecDepth 100000 in
theorem tg_Mo_subOf : tk_good prog_8_method_11_code 3 tb_Mo_subOf := ⟨by decide +kernel, by decide +kernel⟩
set_option maxRecDepth 100000 in
theorem tg_Mo_isLocated : tk_good prog_8_method_12_code 2 tb_Mo_isLocated := ⟨by decide +kernel, by decide +kernel⟩
set_option maxRecDepth 100000 in
theorem tg_Mo_isWhole : tk_good prog_8_method_13_code 2 tb_Mo_isWhole := ⟨by decide +kernel, by decide +kernel⟩
set_option maxRecDepth 100000 in
theorem tg_Mo_find : tk_good prog_8_method_14_code 3 tb_Mo_find := ⟨by decide +kernel, by decide +kernel⟩
set_option maxRecDepth 100000 in
theorem tg_Mo_only : tk_good prog_8_method_15_code 2 tb_Mo_only := ⟨by decide +kernel, by decide +kernel⟩
set_option maxRecDepth 100000 in
theorem tg_Mo_found : tk_good prog_8_method_16_code 7 tb_Mo_found := ⟨by decide +kernel, by decide +kernel⟩
set_option maxRecDepth 100000 in
theorem tg_Mo_authority : tk_good prog_8_method_17_code 4 tb_Mo_authority := ⟨by decide +kernel, by decide +kernel⟩
set_option maxRecDepth 100000 in
theorem tg_Mo_holds : tk_good prog_8_method_18_code 4 tb_Mo_holds := ⟨by decide +kernel, by decide +kernel⟩
set_option maxRecDepth 100000 in
theorem tg_Mo_settle : tk_good prog_8_method_19_code 2 tb_Mo_settle := ⟨by decide +kernel, by decide +kernel⟩
set_option maxRecDepth 100000 in
theorem tg_Mo_detect : tk_good prog_8_method_20_code 3 tb_Mo_detect := ⟨by decide +kernel, by decide +kernel⟩
set_option maxRecDepth 100000 in
theorem tg_Mo_connect : tk_good prog_8_method_21_code 3 tb_Mo_connect := ⟨by decide +kernel, by decide +kernel⟩
set_option maxRecDepth 100000 in
theorem tg_Mo_report : tk_good prog_8_method_22_code 5 tb_Mo_report := ⟨by decide +kernel, by decide +kernel⟩
set_option maxRecDepth 100000 in
theorem tg_Mo_leave : tk_good prog_8_method_23_code 2 tb_Mo_leave := ⟨by decide +kernel, by decide +kernel⟩
set_option maxRecDepth 100000 in
theorem tg_Mo_tick : tk_good prog_8_method_24_code 4 tb_Mo_tick := ⟨by decide +kernel, by decide +kernel⟩
set_option maxRecDepth 100000 in
theorem tg_Mo_request : tk_good prog_8_method_25_code 4 tb_Mo_request := ⟨by decide +kernel, by decide +kernel⟩
set_option maxRecDepth 100000 in
theorem tg_Mo_isTaken : tk_good prog_8_method_26_code 4 tb_Mo_isTaken := ⟨by decide +kernel, by decide +kernel⟩
set_option maxRecDepth 100000 in
theorem tg_Mo_state : tk_good prog_8_method_27_code 2 tb_Mo_state := ⟨by decide +kernel, by decide +kernel⟩
set_option maxRecDepth 100000 in
theorem tg_Mo_train : tk_good prog_8_method_28_code 3 tb_Mo_train := ⟨by decide +kernel, by decide +kernel⟩
set_option maxRecDepth 100000 in
theorem tg_Mo_count : tk_good prog_8_method_29_code 3 tb_Mo_count := ⟨by decide +kernel, by decide +kernel⟩
set_option maxRecDepth 100000 in
theorem tg_Au_forgetCounts : tk_good prog_2_method_2_code 1 tb_Au_forgetCounts := ⟨by decide +kernel, by decide +kernel⟩
set_option maxRecDepth 100000 in
theorem tg_Au_extend : tk_good prog_2_method_3_code 7 tb_Au_extend := ⟨by decide +kernel, by decide +kernel⟩
set_option maxRecDepth 100000 in
theorem tg_Au_isHeldByOther : tk_good prog_2_method_4_code 5 tb_Au_isHeldByOther := ⟨by decide +kernel, by decide +kernel⟩
set_option maxRecDepth 100000 in
theorem tg_Au_settle : tk_good prog_2_method_5_code 4 tb_Au_settle := ⟨by decide +kernel, by decide +kernel⟩
set_option maxRecDepth 100000 in
theorem tg_Au_settleOne : tk_good prog_2_method_6_code 4 tb_Au_settleOne := ⟨by decide +kernel, by decide +kernel⟩
set_option maxRecDepth 100000 in
theorem tg_Tr_removeAll : tk_good prog_5_method_2_code 1 tb_Tr_removeAll := ⟨by decide +kernel, by decide +kernel⟩
set_option maxRecDepth 100000 in
theorem tg_Tr_latestIsBare : tk_good prog_5_method_3_code 1 tb_Tr_latestIsBare := ⟨by decide +kernel, by decide +kernel⟩
set_option maxRecDepth 100000 in
theorem tg_Tr_hasSection : tk_good prog_5_method_4_code 2 tb_Tr_hasSection := ⟨by decide +kernel, by decide +kernel⟩
set_option maxRecDepth 100000 in
theorem tg_Tr_hasSubsection : tk_good prog_5_method_5_code 2 tb_Tr_hasSubsection := ⟨by decide +kernel, by decide +kernel⟩
set_option maxRecDepth 100000 in
theorem tg_Tr_addSection : tk_good prog_5_method_6_code 1 tb_Tr_addSection := ⟨by decide +kernel, by decide +kernel⟩
set_option maxRecDepth 100000 in
theorem tg_Tr_addSubsection : tk_good prog_5_method_7_code 2 tb_Tr_addSubsection := ⟨by decide +kernel, by decide +kernel⟩
set_option maxRecDepth 100000 in
theorem tg_Tr_emptyAll : tk_good prog_5_method_8_code 2 tb_Tr_emptyAll := ⟨by decide +kernel, by decide +kernel⟩
set_option maxRecDepth 100000 in
theorem tg_Tr_subsectionAt : tk_good prog_5_method_9_code 3 tb_Tr_subsectionAt := ⟨by decide +kernel, by decide +kernel⟩
set_option maxRecDepth 100000 in
theorem tg_Tr_countForSpreads : tk_good prog_5_method_10_code 3 tb_Tr_countForSpreads := ⟨by decide +kernel, by decide +kernel⟩
set_option maxRecDepth 100000 in
theorem tg_Tr_countForSpread : tk_good prog_5_method_11_code 3 tb_Tr_countForSpread := ⟨by decide +kernel, by decide +kernel⟩
set_option maxRecDepth 100000 in
theorem tg_Tr_isUnsure : tk_good prog_5_method_12_code 3 tb_Tr_isUnsure := ⟨by decide +kernel, by decide +kernel⟩
set_option maxRecDepth 100000 in
theorem tg_Tr_findStates : tk_good prog_5_method_13_code 3 tb_Tr_findStates := ⟨by decide +kernel, by decide +kernel⟩
set_option maxRecDepth 100000 in
theorem tg_Tr_markTrains : tk_good prog_5_method_14_code 3 tb_Tr_markTrains := ⟨by decide +kernel, by decide +kernel⟩
set_option maxRecDepth 100000 in
theorem tg_Tr_markTrain : tk_good prog_5_method_15_code 4 tb_Tr_markTrain := ⟨by decide +kernel, by decide +kernel⟩
set_option maxRecDepth 100000 in
theorem tg_Tr_nothingCanFollow : tk_good prog_5_method_16_code 2 tb_Tr_nothingCanFollow := ⟨by decide +kernel, by decide +kernel⟩
set_option maxRecDepth 100000 in
theorem tg_Tr_newState : tk_good prog_5_method_17_code 5 tb_Tr_newState := ⟨by decide +kernel, by decide +kernel⟩
set_option maxRecDepth 100000 in
theorem tg_Ti_forgetAll : tk_good prog_6_method_2_code 1 tb_Ti_forgetAll := ⟨by decide +kernel, by decide +kernel⟩
set_option maxRecDepth 100000 in
theorem tg_Ti_join : tk_good prog_6_method_3_code 2 tb_Ti_join := ⟨by decide +kernel, by decide +kernel⟩
set_option maxRecDepth 100000 in
theorem tg_Ti_wasBeyond : tk_good prog_6_method_4_code 2 tb_Ti_wasBeyond := ⟨by decide +kernel, by decide +kernel⟩
set_option maxRecDepth 100000 in
theorem tg_Ti_take : tk_good prog_6_method_5_code 5 tb_Ti_take := ⟨by decide +kernel, by decide +kernel⟩
set_option maxRecDepth 100000 in
theorem tg_Ti_judge : tk_good prog_6_method_6_code 4 tb_Ti_judge := ⟨by decide +kernel, by decide +kernel⟩
set_option maxRecDepth 100000 in
theorem tg_Ti_hasLeft : tk_good prog_6_method_7_code 2 tb_Ti_hasLeft := ⟨by decide +kernel, by decide +kernel⟩
set_option maxRecDepth 100000 in
theorem tg_Ti_holds : tk_good prog_6_method_8_code 2 tb_Ti_holds := ⟨by decide +kernel, by decide +kernel⟩
set_option maxRecDepth 100000 in
theorem tg_Ti_tell : tk_good prog_6_method_9_code 2 tb_Ti_tell := ⟨by decide +kernel, by decide +kernel⟩
set_option maxRecDepth 100000 in
theorem tg_La_section : tk_good method_3_code 3 tb_La_section := ⟨by decide +kernel, by decide +kernel⟩
set_option maxRecDepth 100000 in
theorem tg_La_sub : tk_good method_4_code 4 tb_La_sub := ⟨by decide +kernel, by decide +kernel⟩
set_option maxRecDepth 100000 in
theorem tg_La_begin : tk_good method_5_code 6 tb_La_begin := ⟨by decide +kernel, by decide +kernel⟩
set_option maxRecDepth 100000 in
theorem tg_La_detect : tk_good method_6_code 4 tb_La_detect := ⟨by decide +kernel, by decide +kernel⟩
set_option maxRecDepth 100000 in
theorem tg_La_connect : tk_good method_7_code 4 tb_La_connect := ⟨by decide +kernel, by decide +kernel⟩
set_option maxRecDepth 100000 in
theorem tg_La_report : tk_good method_8_code 6 tb_La_report := ⟨by decide +kernel, by decide +kernel⟩
set_option maxRecDepth 100000 in
theorem tg_La_leave : tk_good method_9_code 3 tb_La_leave := ⟨by decide +kernel, by decide +kernel⟩
set_option maxRecDepth 100000 in
theorem tg_La_tick : tk_good method_10_code 4 tb_La_tick := ⟨by decide +kernel, by decide +kernel⟩
set_option maxRecDepth 100000 in
theorem tg_La_request : tk_good method_11_code 5 tb_La_request := ⟨by decide +kernel, by decide +kernel⟩
set_option maxRecDepth 100000 in
theorem tg_La_state : tk_good method_12_code 4 tb_La_state := ⟨by decide +kernel, by decide +kernel⟩
set_option maxRecDepth 100000 in
theorem tg_La_train : tk_good method_13_code 5 tb_La_train := ⟨by decide +kernel, by decide +kernel⟩
set_option maxRecDepth 100000 in
theorem tg_La_count : tk_good method_14_code 5 tb_La_count := ⟨by decide +kernel, by decide +kernel⟩
set_option maxRecDepth 100000 in
theorem tg_In_bitCount : tk_good prog_13_method_49_code 1 tb_In_bitCount := ⟨by decide +kernel, by decide +kernel⟩
end
section
/-! CONTRACTS AND CALLS: a method returns, or throws; nothing outside A changes -/
section TKC
theorem tk_weaken {tb : Tables} {e : Env} {g : JFrame} {below : List Frame} {a b : State} (h : Steps tb e (.java g :: below) a b) : Steps tb e below a b := by
  obtain ⟨n, hn, w⟩ := h
  refine ⟨n, hn, fun k hk => ?_⟩
  obtain ⟨ab, h1, h2, h3⟩ := w k hk
  refine ⟨ab ++ [.java g], by rw [h1]; simp, by simp, fun x hx => ?_⟩
  cases ab with
  | nil => exact h2 rfl
  | cons y t =>
    cases t with
    | nil => simp at hx
    | cons z t => simp at hx
/-- the four kinds of exception -/
def tk_xn (x : Nat) : String := match x with
  | 0 => "java/lang/IllegalStateException"
  | 1 => "java/lang/IllegalArgumentException"
  | 2 => "java/lang/IndexOutOfBoundsException"
  | _ => "java/lang/UnsupportedOperationException"
def tk_ex (s : State) (x : Nat) (a : Nat) (H : Heap) : Prop := ∃ cell : Cell, H[a]? = some cell ∧ cell.vm = .none ∧ s.vm.findClass (tk_xn x) = some cell.cls
def tk_vo (v : Option Int) : Option Value := v.map fun x => Value.int (Int32.ofInt x)
def tk_ro (v : Option Int) : Prop := ∀ x, v = some x → -2147483648 ≤ x ∧ x < 2147483648
/-- how a method ends -/
def tk_Q (below : List Frame) (s : State) (G : tk_G) (A : Nat → Prop) (P : (Option Int ⊕ Nat) → tk_M → Prop) : State → Prop := fun t =>
  t.status = .running ∧ s.WarmedH t.vm ∧ va_F A s t ∧ ∃ (L : List Loc) (M : tk_M), (∀ q ∈ L, A q.base) ∧ tk_Wd G M t.heap ∧
    ((∃ v : Option Int, Ended t below (.returned (tk_vo v)) ∧ tk_ro v ∧ s.sameButNew ({ t with vm := s.vm } : State) L 0 0 ∧ P (.inl v) M) ∨
     (∃ a x : Nat, Ended t below (.threw a) ∧ tk_ex s x a t.heap ∧ s.sameButNew ({ t with vm := s.vm } : State) L 1 6 ∧ P (.inr x) M))
section
variable {p : Program} {l : Launch} {e : Env} {R : Room} {s : State} {m : MethodId} {args : Array Value} {below : List Frame} {meth : Method} {c : Code} {cells slots : Nat} {Q : State → Prop} {G : tk_G} {A : Nat → Prop} {nL : Nat} {H : Heap} {locs : List Loc}
theorem tk_Wmono {Q1 Q2 : State → Prop} (h : ∀ t, Q1 t → Q2 t) {g : JFrame} (k : W p l e R s m args below meth c H locs cells slots Q1 g) : W p l e R s m args below meth c H locs cells slots Q2 g := fun T hT X => by
  obtain ⟨t, a, b⟩ := k T hT X
  exact ⟨t, a, h t b⟩
def tk_RI (P : (Option Int ⊕ Nat) → tk_M → Prop) (v : Option Int) (M : tk_M) : Prop := match v with
  | some x => P (.inl (some x)) M
  | none => False
def tk_RZ (P : (Option Int ⊕ Nat) → tk_M → Prop) (v : Option Int) (M : tk_M) : Prop := match v with
  | some x => (x = 0 ∨ x = 1) ∧ P (.inl (some x)) M
  | none => False
def tk_RV (P : (Option Int ⊕ Nat) → tk_M → Prop) (v : Option Int) (M : tk_M) : Prop := match v with
  | some _ => False
  | none => P (.inl none) M
theorem tk_rtI {cc : ByteArray} {P : (Option Int ⊕ Nat) → tk_M → Prop} (hx : p.tables.exec = Jvm.exec) (hb : c.code = cc) (hlocks : meth.locks = false) (hr : meth.sig.returnType = some .int) : tk_Rt p l e R s m args below meth c 0 0 (tk_Q below s G A P) G A cc (tk_RI P) := by
  intro v M H locs ls pc st hR hW hS hrs hc
  rcases hc with ⟨x, rfl, rfl, hd⟩ | ⟨rfl, rfl, hd⟩
  · refine tk_Wmono ?_ (W.iret (v := Int32.ofInt x) (Qc := fun _ _ o t => o = .returned (some (.int (Int32.ofInt x))) ∧ t.heap = H) (free := A) hx hb hr (fun t ht _ => ⟨rfl, ht⟩) hS.2.2 hd)
    rintro t ⟨o, h1, h2, ⟨rfl, h4⟩, L, ⟨-, h5, h6⟩, h7⟩
    exact ⟨h1, h5, hS.F h4, L, M, h7, by rw [h4]; exact hW, Or.inl ⟨some x, h2, fun y hy => by cases hy; exact hrs.hd, h6, hR⟩⟩
  · exact hR.elim
theorem tk_rtZ {cc : ByteArray} {P : (Option Int ⊕ Nat) → tk_M → Prop} (hx : p.tables.exec = Jvm.exec) (hb : c.code = cc) (hlocks : meth.locks = false) (hr : meth.sig.returnType = some .boolean) : tk_Rt p l e R s m args below meth c 0 0 (tk_Q below s G A P) G A cc (tk_RZ P) := by
  intro v M H locs ls pc st hR hW hS hrs hc
  rcases hc with ⟨x, rfl, rfl, hd⟩ | ⟨rfl, rfl, hd⟩
  · refine tk_Wmono ?_ (W.zret (v := Int32.ofInt x) (ty := .boolean) (Qc := fun _ _ o t => o = .returned (some (.int (Int32.ofInt x))) ∧ t.heap = H) (free := A) hx hb hr (by rcases hR.1 with rfl | rfl <;> rfl) (fun t ht _ => ⟨rfl, ht⟩) hS.2.2 hd)
    rintro t ⟨o, h1, h2, ⟨rfl, h4⟩, L, ⟨-, h5, h6⟩, h7⟩
    exact ⟨h1, h5, hS.F h4, L, M, h7, by rw [h4]; exact hW, Or.inl ⟨some x, h2, fun y hy => by cases hy; exact hrs.hd, h6, hR.2⟩⟩
  · exact hR.elim
theorem tk_rtV {cc : ByteArray} {P : (Option Int ⊕ Nat) → tk_M → Prop} (hx : p.tables.exec = Jvm.exec) (hb : c.code = cc) (hlocks : meth.locks = false) (hr : meth.sig.returnType = none) : tk_Rt p l e R s m args below meth c 0 0 (tk_Q below s G A P) G A cc (tk_RV P) := by
  intro v M H locs ls pc st hR hW hS hrs hc
  rcases hc with ⟨x, rfl, rfl, hd⟩ | ⟨rfl, rfl, hd⟩
  · exact hR.elim
  · refine tk_Wmono ?_ (W.vret (Qc := fun _ _ o t => o = .returned none ∧ t.heap = H) (free := A) hx hb hr (fun t ht _ => ⟨rfl, ht⟩) hS.2.2 hd)
    rintro t ⟨o, h1, h2, ⟨rfl, h4⟩, L, ⟨-, h5, h6⟩, h7⟩
    exact ⟨h1, h5, hS.F h4, L, M, h7, by rw [h4]; exact hW, Or.inl ⟨none, h2, fun y hy => by (cases hy), h6, hR⟩⟩
end
theorem tk_goodall : ∀ w ∈ tk_tbl, (w.onTables && w.keeps) = true ∨ ∃ ty, w = .arrayClass ty := fun w hw => good_of_word (List.mem_filter.mp hw).2
/-- words that are carried by themselves: a nest mate's method; an exception is of its own kind; pairs of exceptions that are not -/
def tk_nst : List Cond := [.methodLinkNest "TrackKeeper$Track" 23 ⟨"TrackKeeper$Section", "<init>", "()V"⟩ "TrackKeeper", .methodLinkNest "TrackKeeper$Track" 24 ⟨"TrackKeeper$Subsection", "<init>", "()V"⟩ "TrackKeeper", .methodLinkNest "TrackKeeper" 18 ⟨"TrackKeeper$Authorities", "<init>", "()V"⟩ "TrackKeeper", .methodLinkNest "TrackKeeper" 29 ⟨"TrackKeeper$Train", "<init>", "()V"⟩ "TrackKeeper", .methodLinkNest "TrackKeeper$Track" 41 ⟨"TrackKeeper", "isWithin", "(III)Z"⟩ "TrackKeeper"]
def tk_isN (w : Cond) : Bool := match w with
  | .methodLinkNest .. => true
  | .castable .. => true
  | .declares _ => true
  | _ => false
def tk_cw : List Cond := [.declares ⟨"java/lang/RuntimeException", "<init>", "()V"⟩, .declares ⟨"java/lang/Exception", "<init>", "()V"⟩, .declares ⟨"java/lang/Throwable", "<init>", "()V"⟩, .castable "java/lang/IllegalStateException" "java/lang/IllegalStateException", .castable "java/lang/IllegalArgumentException" "java/lang/IllegalArgumentException", .castable "java/lang/IndexOutOfBoundsException" "java/lang/IndexOutOfBoundsException", .castable "java/lang/UnsupportedOperationException" "java/lang/UnsupportedOperationException"]
theorem tk_Nw_warm {w : Cond} (hw : tk_isN w = true) {s U : State} (hW : s.WarmedH U.vm) (h : va_Nw w s) : va_Nw w U := by
  cases w with
  | methodLinkNest a i x b => exact va_Nw.warmM hW h
  | declares x => exact va_Nw.warmD hW h
  | castable a b =>
    have h1 := Cond.castable_setVm (args := #[]) (s := s) hW.alike a b
    have h2 : (Cond.castable a b).before #[] (s.setVm U.vm) = true := by rw [h1]; exact h
    exact va_tabs rfl (rfl : (s.setVm U.vm).vm = U.vm) h2
  | _ => cases hw
theorem tk_Nc_warm {a b : String} {s U : State} (hW : s.WarmedH U.vm) (h : va_Nc a b s) : va_Nc a b U := by
  obtain ⟨c, t, h1, h2, h3⟩ := h
  have hal := hW.alike
  exact ⟨c, t, by rw [hal.findClass]; exact h1, by rw [hal.findClass]; exact h2, by rw [hal.assignable]; exact h3⟩
def tk_more (A : Nat → Prop) (s : State) : Prop := vx_Zq Bundle.tN "UNASSIGNED_STACK" Bundle.steD A s s.heap ∧ vx_Zq Bundle.tN "SUPPRESSED_SENTINEL" Bundle.listD A s s.heap ∧ (∀ w ∈ tk_nst ++ tk_cw, va_Nw w s) ∧ ∀ x y, x < 4 → y < 4 → x ≠ y → va_Nc (tk_xn x) (tk_xn y) s
theorem tk_isN_all : ∀ w ∈ tk_nst ++ tk_cw, tk_isN w = true := by decide +kernel
theorem tk_more.call {A : Nat → Prop} {s U : State} (h : tk_more A s) (hW : s.WarmedH U.vm) (hk : ∀ q : Nat, q < s.heap.size → ¬ A q → U.heap[q]? = s.heap[q]?) : tk_more A U :=
  ⟨vx_Zq.moved hW.alike (h.1.kept hk), vx_Zq.moved hW.alike (h.2.1.kept hk), fun w hw => tk_Nw_warm (tk_isN_all w hw) hW (h.2.2.1 w hw), fun x y hx hy hn => tk_Nc_warm hW (h.2.2.2 x y hx hy hn)⟩
/-- what holds at the start of every method -/
def tk_F (G : tk_G) (A : Nat → Prop) (s : State) : Prop :=
  (∀ w ∈ tk_tbl, w.before #[] s = true) ∧ va_K G.2.1 tk_cl (tk_tys G) s ∧ tk_St G A ∧ (∀ q : Nat, s.heap.size ≤ q → A q) ∧ tk_more A s
def tk_Con (l : Launch) (y : MethodName) (nf nw : Nat) (Pre : List tk_U → tk_M → Prop) (Post : List tk_U → tk_M → (Option Int ⊕ Nat) → tk_M → Prop) : Prop :=
  ∀ (p : Program) (e : Env) (R : Room) (s : State) (m : MethodId) (below : List Frame) (meth : Method) (c : Code) (G : tk_G) (A : Nat → Prop) (as : List tk_U) (M : tk_M),
    p.tables.exec = Jvm.exec → tk_F G A s → s.methodNamed? y = some m → nf ≤ R.frames → nw ≤ R.locals → 1 ≤ R.cells → 6 ≤ R.slots → Pre as M → (∀ u ∈ as, tk_ru u) → tk_Wd G M s.heap → s.vm.method? m = some meth → meth.code = some c →
    W p l e R s m (as.map fun u => tk_cv G (.inl u)).toArray below meth c s.heap [] 0 0 (tk_Q below s G A (Post as M)) (entryFrame m (as.map fun u => tk_cv G (.inl u)).toArray c.maxLocals)
end TKC
end
section
/-! the rows: a method out of its walk; calls; a throw -/
section TKR
variable {p : Program} {l : Launch} {e : Env} {R : Room} {s : State} {m : MethodId} {args : Array Value} {below : List Frame} {meth : Method} {c : Code} {cells slots : Nat} {Q : State → Prop} {G : tk_G} {A : Nat → Prop} {nL : Nat} {T : State} {locs : List Loc} {L : Nat} {xs : Nat → Int32}
theorem tk_wAny {w : Cond} (hw : w ∈ tk_tbl) {a a' : Array Value} {s U : State} (hW : s.WarmedH U.vm) (h : w.before a s = true) : w.before a' U = true := word_at hW (tk_goodall w hw) h
theorem tk_F.words (h : tk_F G A s) (args : Array Value) : ∀ w ∈ tk_tbl, w.before args s = true := fun w hw => tk_wAny hw (State.WarmedH.refl s) (h.1 w hw)
theorem tk_F.call (h : tk_F G A s) {U : State} (hW : s.WarmedH U.vm) (hz : s.heap.size ≤ U.heap.size) (hk : ∀ q : Nat, q < s.heap.size → ¬ A q → U.heap[q]? = s.heap[q]?) : tk_F G A U :=
  ⟨fun w hw => tk_wAny hw hW (h.1 w hw), va_K.moved hW.alike h.2.1, h.2.2.1, fun q hq => h.2.2.2.1 q (Nat.le_trans hz hq), tk_more.call h.2.2.2.2 hW hk⟩
theorem tk_entry_lv (G : tk_G) : ∀ (as : List tk_U) (k : Nat), lv_args k (as.map fun u => tk_cv G (.inl u)) = tk_lv G k (as.map some)
  | [], k => rfl
  | u :: t, k => by
    have h1 : (tk_cv G (.inl u)).category = 1 := tk_cat u
    show lv_args k (tk_cv G (.inl u) :: t.map fun u => tk_cv G (.inl u)) = (k, tk_cv G (.inl u)) :: tk_lv G (k + 1) (t.map some)
    rw [← tk_entry_lv G t (k + 1)]
    simp [lv_args, h1]
theorem tk_gt_app {α : Type} : ∀ (as : List α) (r n : Nat) (v : α), tk_gt (as.map some ++ List.replicate r none) n = some v → tk_gt (as.map some) n = some v ∧ v ∈ as
  | [], 0, n, v, h => by cases h
  | [], r + 1, 0, v, h => by cases h
  | [], r + 1, n + 1, v, h => by
    have := tk_gt_app ([] : List α) r n v h
    exact absurd this.2 List.not_mem_nil
  | a :: t, r, 0, v, h => by
    cases h
    exact ⟨rfl, List.mem_cons_self⟩
  | a :: t, r, n + 1, v, h => by
    have := tk_gt_app t r n v h
    exact ⟨this.1, List.mem_cons_of_mem _ this.2⟩
theorem tk_lgl (G : tk_G) : ∀ (as : List tk_U), (lg_sl (as.map fun u => tk_cv G (.inl u))).length = as.length
  | [] => rfl
  | u :: t => by
    have h1 : (tk_cv G (.inl u)).category = 1 := tk_cat u
    have h2 := tk_lgl G t
    simp [lg_sl, h1] at h2 ⊢
    exact h2
/-- a contract out of a walk from the method's entry -/
theorem tk_Con.of {y : MethodName} {cc : ByteArray} {nL : Nat} {ret : Option FieldType} {nf nw : Nat} {Pre : List tk_U → tk_M → Prop} {Post : List tk_U → tk_M → (Option Int ⊕ Nat) → tk_M → Prop} (hw : Cond.code y cc nL ret ∈ tk_tbl)
    (body : ∀ (p : Program) (e : Env) (R : Room) (s : State) (m : MethodId) (below : List Frame) (meth : Method) (c : Code) (G : tk_G) (A : Nat → Prop) (as : List tk_U) (M : tk_M), tk_F G A s → tk_X p s m (as.map fun u => tk_cv G (.inl u)).toArray c G A nL y.cls cc false 0 (fun _ => 0) → nf ≤ R.frames → nw ≤ R.locals → 1 ≤ R.cells → 6 ≤ R.slots → meth.locks = false → meth.sig.returnType = ret → c.exceptionTable.toList = [] → s.vm.method? m = some meth → (∀ u ∈ as, tk_ru u) → (∀ c j, -2147483648 ≤ M c j ∧ M c j < 2147483648) → Pre as M → as.length ≤ nL ∧
      tk_W p l e R s m (as.map fun u => tk_cv G (.inl u)).toArray below meth c 0 0 (tk_Q below s G A (Post as M)) G A nL 0 (as.map some ++ List.replicate (nL - as.length) none) [] M) : tk_Con l y nf nw Pre Post := by
  intro p e R s m below meth c G A as M hx hF hn h1 h2 h3 h4 hP hr hW hm hc
  obtain ⟨meth', c', hm', hc', hb, hl, hret, hlk, het, -⟩ := Cond.code_spec hn (hF.1 _ hw)
  cases hm.symm.trans hm'
  cases hc.symm.trans hc'
  have het' : c.exceptionTable.toList = [] := by
    have h9 : c.exceptionTable.isEmpty = true := het
    cases hz : c.exceptionTable with
    | mk l9 =>
      rw [hz] at h9
      cases l9 with
      | nil => rfl
      | cons _ _ => cases h9
  obtain ⟨hlen, k⟩ := body p e R s m below meth c G A as M hF ⟨hx, hb, hl, findClass_of_methodNamed hn, hF.words _, hF.2.1, hF.2.2.1, hF.2.2.2.1, fun z => by cases z⟩ h1 h2 h3 h4 hlk hret het' hm hr hW.2 hP
  have hle : (lg_sl (as.map fun u => tk_cv G (.inl u))).length ≤ nL := by rw [tk_lgl]; exact hlen
  have hlv := lv_entry (as.map fun u => tk_cv G (.inl u)) (n := nL) hle
  rw [hl, lg_entry_eq]
  refine k s.heap [] _ hW va_S.rf ⟨by simp; omega, ⟨hlv.1, hlv.2.1, fun q hq => hlv.2.2 q ?_⟩, fun n v hv => hr v (tk_gt_app as _ n v hv).2⟩ tk_rs.nil
  rw [tk_entry_lv]
  obtain ⟨n, v, e1, e2⟩ := tk_lv_mem.mp hq
  exact tk_lv_mem.mpr ⟨n, v, e1, (tk_gt_app as _ n v e2).1⟩
/-- behind the resolution of a call: in, and back, or thrown -/
theorem tk_inv {y : MethodName} {cc : ByteArray} {mL : Nat} {ret : Option FieldType} {nf nw : Nat} {Pre : List tk_U → tk_M → Prop} {Post : List tk_U → tk_M → (Option Int ⊕ Nat) → tk_M → Prop} (con : tk_Con l y nf nw Pre Post) (hw : Cond.code y cc mL ret ∈ tk_tbl) (hy : plainName y.cls = true)
    (hx : p.tables.exec = Jvm.exec) (hF : tk_F G A s) (X : Stand p l e R s m args below meth c T locs cells slots) (hS : va_S A s.heap T.heap locs) {M : tk_M} (hWd : tk_Wd G M T.heap) {g : JFrame} (hg : g.method = m) (hsize : g.locals.size = c.maxLocals) {ig : Instr} (hdg : decode c.code g.pc = .ok (ig, 3)) {mk : MethodId} (hn : s.methodNamed? y = some mk)
    {as : List tk_U} (hpre : Pre as M) (hr : ∀ u ∈ as, tk_ru u) (hfr : nf + 1 ≤ R.frames) (hlo : 2 * g.monitorRoom + (g.stack.map fun v => v.category).sum + (mL + 11) + nw ≤ R.locals) (hcl : cells + 1 ≤ R.cells) (hsl : slots + 6 ≤ R.slots)
    (kr : ∀ (v : Option Int) (M' : tk_M) (T' : State) (locs' : List Loc), Post as M (.inl v) M' → tk_ro v → Stand p l e R s m args below meth c T' locs' cells slots → tk_Wd G M' T'.heap → va_S A s.heap T'.heap locs' → ∃ t, Steps p.tables e below (T'.setTop { g with pc := g.pc + 3, stack := (tk_vo v).toList ++ g.stack }) t ∧ Q t)
    (kt : ∀ (a x : Nat) (M' : tk_M) (T' : State) (locs' : List Loc), Post as M (.inr x) M' → Stand p l e R s m args below meth c T' locs' (cells + 1) (slots + 6) → tk_Wd G M' T'.heap → va_S A s.heap T'.heap locs' → tk_ex s x a T'.heap → ∃ t, Steps p.tables e below ((T'.setTop g).pushFrame (.throwing a)) t ∧ Q t) :
    ∃ t, (∀ acts, Steps p.tables e below (doInvoke e (T.setTop g) acts mk (as.map fun u => tk_cv G (.inl u)).toArray).1 t) ∧ Q t := by
  obtain ⟨methk, ck, hmk, hck, hb, hl, hret, hlk, -, -⟩ := Cond.code_spec hn (hF.1 _ hw)
  have hal := X.warmed.alike
  have hmkT : T.vm.method? mk = some methk := by rw [hal.method?]; exact hmk
  have hpl : T.plainMethod mk := by
    obtain ⟨k, hk, hnm⟩ := className_of_methodNamed hn
    exact X.warmed.plainAt fun k2 hk2 => by cases hk.symm.trans hk2; rw [hnm]; exact hy
  obtain ⟨Y, hdo⟩ := X.into hg hsize hdg (as.map fun u => tk_cv G (.inl u)).toArray (R' := { frames := R.frames - 1, cells := R.cells - cells, slots := R.slots - slots, locals := nw }) hmkT hck hlk hpl (by show R.frames - 1 + 1 ≤ R.frames; omega) (by rw [hl]; exact hlo) (by show cells + (R.cells - cells) ≤ R.cells; omega) (by show slots + (R.slots - slots) ≤ R.slots; omega)
  have hWc : s.WarmedH (T.calling g mk (as.map fun u => tk_cv G (.inl u)).toArray).vm := X.warmed
  have hFc : tk_F G A (T.calling g mk (as.map fun u => tk_cv G (.inl u)).toArray) := hF.call hWc hS.1 hS.2.1
  have hnc : (T.calling g mk (as.map fun u => tk_cv G (.inl u)).toArray).methodNamed? y = some mk := X.named hn
  obtain ⟨t, hst, hq⟩ := con p e { frames := R.frames - 1, cells := R.cells - cells, slots := R.slots - slots, locals := nw } (T.calling g mk (as.map fun u => tk_cv G (.inl u)).toArray) mk (.java g :: below) methk ck G A as M hx hFc hnc (by show nf ≤ R.frames - 1; omega) (Nat.le_refl _) (by show 1 ≤ R.cells - cells; omega) (by show 6 ≤ R.slots - slots; omega) hpre hr hWd hmkT hck ((T.setTop g).pushFrame (.java (entryFrame mk (as.map fun u => tk_cv G (.inl u)).toArray ck.maxLocals))) rfl Y
  obtain ⟨q1, q2, q3, L, M', q4, q5, q6⟩ := hq
  have hzT : (T.calling g mk (as.map fun u => tk_cv G (.inl u)).toArray).heap = T.heap := rfl
  have hSn : va_S A s.heap t.heap (locs ++ L) := ⟨Nat.le_trans hS.1 (by rw [← hzT]; exact q3.1), fun q h1 h2 => by rw [q3.2 q (Nat.lt_of_lt_of_le h1 hS.1) h2]; exact hS.2.1 q h1 h2, fun q hq => by
    rcases List.mem_append.mp hq with h | h
    · exact hS.2.2 q h
    · exact q4 q h⟩
  rcases q6 with ⟨v, r1, r2, r3, r4⟩ | ⟨a, x, r1, r2, r3, r4⟩
  · obtain ⟨T', X', hW', hsm, ht⟩ := X.outOf hg hdg r1 q2 r3
    have hh : T'.heap = t.heap := by rw [ht]; rfl
    obtain ⟨t2, a1, b1⟩ := kr v M' T' (locs ++ L) r4 r2 X' (by rw [hh]; exact q5) (by rw [hh]; exact hSn)
    refine ⟨t2, fun acts => ?_, b1⟩
    rw [hdo acts]
    refine Steps.trans (tk_weaken hst) ?_
    rw [ht]
    exact a1
  · obtain ⟨T', X', hW', hsm, ht⟩ := X.outOfThrown hg r1 q2 r3
    have hh : T'.heap = t.heap := by rw [ht, Stand.throwing_heap]
    obtain ⟨cell, c1, c2, c3⟩ := r2
    have hfc : s.vm.findClass (tk_xn x) = some cell.cls := by
      have c4 : T.vm.findClass (tk_xn x) = some cell.cls := c3
      rw [X.warmed.alike.findClass] at c4
      exact c4
    obtain ⟨t2, a1, b1⟩ := kt a x M' T' (locs ++ L) r4 X' (by rw [hh]; exact q5) (by rw [hh]; exact hSn) ⟨cell, by rw [hh]; exact c1, c2, hfc⟩
    refine ⟨t2, fun acts => ?_, b1⟩
    rw [hdo acts]
    refine Steps.trans (tk_weaken hst) ?_
    rw [ht]
    exact a1
def tk_pv (v : Option Int) : List tk_V := match v with
  | some x => [.inl (.inl x)]
  | none => []
theorem tk_pv_map (G : tk_G) (v : Option Int) (st : List tk_V) : (tk_pv v ++ st).map (tk_cv G) = (tk_vo v).toList ++ st.map (tk_cv G) := by
  cases v <;> rfl
theorem tk_pv_rs {v : Option Int} {st : List tk_V} (h : tk_ro v) (hs : tk_rs st) : tk_rs (tk_pv v ++ st) := by
  cases v with
  | none => exact hs
  | some x => exact tk_rs.cons (h x rfl) hs
/-- an exception of kind x is on its way, thrown at pc -/
def tk_Th (p : Program) (l : Launch) (e : Env) (R : Room) (s : State) (m : MethodId) (args : Array Value) (below : List Frame) (meth : Method) (c : Code) (cells slots : Nat) (Q : State → Prop) (G : tk_G) (A : Nat → Prop) (nL : Nat) (pc : Nat) (lo : tk_Lc) (x : Nat) (M : tk_M) : Prop :=
  ∀ (T : State) (locs : List Loc) (a : Nat) (ls : Array Slot) (st : List Value), Stand p l e R s m args below meth c T locs (cells + 1) (slots + 6) → tk_Wd G M T.heap → va_S A s.heap T.heap locs → tk_ex s x a T.heap → tk_L G ls nL lo → ∃ t, Steps p.tables e below ((T.setTop (F0 m pc ls st)).pushFrame (.throwing a)) t ∧ Q t
theorem tk_Th.out {P : (Option Int ⊕ Nat) → tk_M → Prop} (hout : c.exceptionTable.toList = []) (hlocks : meth.locks = false) {pc x : Nat} {lo : tk_Lc} {M : tk_M} (h : P (.inr x) M) : tk_Th p l e R s m args below meth c 0 0 (tk_Q below s G A P) G A nL pc lo x M := by
  intro T locs a ls st X hW hS hx _
  obtain ⟨st1, hrun, hend, hWm, hsm⟩ := X.leaveThrown a (g := F0 m pc ls st) rfl rfl rfl (fun y hy => by rw [hout] at hy; cases hy) hlocks
  exact ⟨_, st1, hrun, hWm, hS.F rfl, locs, M, hS.2.2, hW, Or.inr ⟨a, x, hend, hx, hsm, h⟩⟩
def tk_lnk (own : String) (ix : Nat) (y : MethodName) (n : Nat) : Prop := Cond.methodLink own ix y ∈ tk_tbl ∧ (y.cls ≠ "java/lang/invoke/MethodHandle" ∧ y.cls ≠ "java/lang/invoke/VarHandle") ∧ plainName y.cls = true ∧ (parseMethodDescriptor y.desc).map (fun d => d.parameters.length) = some n
theorem tk_plen {y : MethodName} {n : Nat} (h : (parseMethodDescriptor y.desc).map (fun d => d.parameters.length) = some n) {sig : MethodDescriptor} (hs : parseMethodDescriptor y.desc = some sig) : n = sig.parameters.length := by
  rw [hs] at h
  exact (Option.some.inj h).symm
/-- a call by a receiver -/
theorem tk_callV {own : String} {cc : ByteArray} {b9 : Bool} (X0 : tk_X p s m args c G A nL own cc b9 L xs) (hF : tk_F G A s) {y : MethodName} {cy : ByteArray} {mL : Nat} {ret : Option FieldType} {nf nw ix n k : Nat} {C : String} {T0 : u_T} {N0 : Nat} {fs : List (Option Nat)} {Pre : List tk_U → tk_M → Prop} {Post : List tk_U → tk_M → (Option Int ⊕ Nat) → tk_M → Prop}
    (con : tk_Con l y nf nw Pre Post) (hw : Cond.code y cy mL ret ∈ tk_tbl) (hlk : tk_lnk own ix y n) (hinst : Cond.instanceMethod y ∈ tk_tbl) (hsel : Cond.selects C y y ∈ tk_tbl) {pc : Nat} (hd : decode cc pc = .ok (.invokevirtual ix, 3))
    {r : Nat} {ps : List tk_U} (hk : tk_cl[k]? = some (C, T0, N0)) (hr0 : r < tk_nc) (hsh : tk_sh r = .inl (k, fs)) (hn : ps.length = n) {lo : tk_Lc} {st : List tk_V} {M : tk_M} (hpre : Pre (.inr r :: ps) M)
    (hfr : nf + 1 ≤ R.frames) (hlo : ((st.map (tk_cv G)).map fun v => v.category).sum + (mL + 11) + nw ≤ R.locals) (hcl : cells + 1 ≤ R.cells) (hsl : slots + 6 ≤ R.slots)
    (kr : ∀ (v : Option Int) (M' : tk_M), Post (.inr r :: ps) M (.inl v) M' → tk_ro v → tk_W p l e R s m args below meth c cells slots Q G A nL (pc + 3) lo (tk_pv v ++ st) M')
    (kt : ∀ (x : Nat) (M' : tk_M), Post (.inr r :: ps) M (.inr x) M' → tk_Th p l e R s m args below meth c cells slots Q G A nL pc lo x M') :
    tk_W p l e R s m args below meth c cells slots Q G A nL pc lo ((ps.reverse.map Sum.inl) ++ (.inl (.inr r) :: st)) M := by
  intro H locs ls hW hS hl hr T hT X
  obtain ⟨hx, hb, hml, hown, hts, hKn, hSt, hA, -⟩ := X0
  obtain ⟨hl1, hl2, hl3, hl4⟩ := hlk
  obtain ⟨mk, methM, hnamed, hmethM, hstM, habM⟩ := Cond.instanceMethod_spec (hts _ hinst)
  obtain ⟨c2, r2, m2, q1, q2, q3, q4, kP, hkP, hkPi⟩ := Cond.selects_spec (hts _ hsel)
  obtain ⟨methM', cM, hmethM', -, -, -, -, -, -, hsigM⟩ := Cond.code_spec hnamed (hts _ hw)
  cases hmethM.symm.trans hmethM'
  obtain ⟨r9, h9, cell, g1, g2, g3, g4⟩ := hW.1 r _ (tk_ws_obj hr0 hsh)
  have hr9 : r9 = (C, T0, N0) := Option.some.inj (h9.symm.trans hk)
  subst hr9
  obtain ⟨-, hfc, -⟩ := hKn.1 k _ hk
  have hfc2 : s.vm.findClass C = some cell.cls := by rw [g2]; exact hfc
  cases hfc2.symm.trans q1
  cases (State.methodFound?_of_named hnamed hl2).symm.trans q2
  cases hnamed.symm.trans q3
  have hselP : selectMethod e.platform s.vm cell.cls mk = .method mk := by rw [Launch.admits_selectMethod X.admits]; exact q4
  have hstk : ((((ps.reverse.map Sum.inl) ++ (Sum.inl (Sum.inr r) :: st) : List tk_V)).map (tk_cv G)) = (ps.map fun u => tk_cv G (.inl u)).reverse ++ .ref (G.1 r) :: st.map (tk_cv G) := by
    simp [List.map_reverse, Function.comp_def, tk_cv]
  obtain ⟨vm₁, X₁, hstep⟩ := X.invokevirtual hx hown (hts _ hl1) hnamed hmethM hstM hkP hkPi hl2 (a := G.1 r) (cell := cell) (by rw [hT]; exact g1) (fun z h => by rw [g3] at h; cases h) hselP hmethM habM hkP hkPi (g := F0 m pc ls ((((ps.reverse.map Sum.inl) ++ (Sum.inl (Sum.inr r) :: st) : List tk_V)).map (tk_cv G))) rfl
    (argsL := ps.map fun u => tk_cv G (.inl u)) (rest := st.map (tk_cv G)) (by rw [List.length_map, hn]; exact tk_plen hl4 hsigM) hstk (by rw [hb]; exact hd)
  have hru : ∀ u ∈ ((.inr r :: ps) : List tk_U), tk_ru u := by
    intro u hu
    rcases List.mem_cons.mp hu with e1 | e1
    · rw [e1]; trivial
    · exact hr (.inl u) (List.mem_append_left _ (List.mem_map.mpr ⟨u, List.mem_reverse.mpr e1, rfl⟩))
  have hrs : tk_rs st := fun v hv => hr v (List.mem_append_right _ (List.mem_cons_of_mem _ hv))
  obtain ⟨t, k1, k2⟩ := tk_inv (Q := Q) con hw hl3 hx hF X₁ (by rw [show (T.setVm vm₁).heap = H from hT]; exact hS) (M := M) (by rw [show (T.setVm vm₁).heap = H from hT]; exact hW) (g := F0 m pc ls (st.map (tk_cv G))) rfl (by rw [hml]; exact hl.2.1.1) (ig := .invokevirtual ix) (by rw [hb]; exact hd) hnamed hpre hru hfr
    (by show 2 * 0 + ((st.map (tk_cv G)).map fun v => v.category).sum + _ + _ ≤ _; omega) hcl hsl
    (fun v M' T' locs' hp hro X' hW' hS' => by
      have h9 := kr v M' hp hro T'.heap locs' ls hW' hS' hl (tk_pv_rs hro hrs) T' rfl X'
      rw [tk_pv_map] at h9
      exact h9)
    (fun a x M' T' locs' hp X' hW' hS' hex => kt x M' hp T' locs' a ls _ X' hW' hS' hex hl)
  exact ⟨t, hstep t k1, k2⟩
/-- a call without a receiver -/
theorem tk_callS {own : String} {cc : ByteArray} {b9 : Bool} (X0 : tk_X p s m args c G A nL own cc b9 L xs) (hF : tk_F G A s) {y : MethodName} {cy : ByteArray} {mL : Nat} {ret : Option FieldType} {nf nw ix n : Nat} {Pre : List tk_U → tk_M → Prop} {Post : List tk_U → tk_M → (Option Int ⊕ Nat) → tk_M → Prop}
    (con : tk_Con l y nf nw Pre Post) (hw : Cond.code y cy mL ret ∈ tk_tbl) (hlk : tk_lnk own ix y n) (hsta : Cond.static y ∈ tk_tbl) (hini : Cond.initialized y.cls ∈ tk_tbl) {pc : Nat} (hd : decode cc pc = .ok (.invokestatic ix, 3))
    {ps : List tk_U} (hn : ps.length = n) {lo : tk_Lc} {st : List tk_V} {M : tk_M} (hpre : Pre ps M)
    (hfr : nf + 1 ≤ R.frames) (hlo : ((st.map (tk_cv G)).map fun v => v.category).sum + (mL + 11) + nw ≤ R.locals) (hcl : cells + 1 ≤ R.cells) (hsl : slots + 6 ≤ R.slots)
    (kr : ∀ (v : Option Int) (M' : tk_M), Post ps M (.inl v) M' → tk_ro v → tk_W p l e R s m args below meth c cells slots Q G A nL (pc + 3) lo (tk_pv v ++ st) M')
    (kt : ∀ (x : Nat) (M' : tk_M), Post ps M (.inr x) M' → tk_Th p l e R s m args below meth c cells slots Q G A nL pc lo x M') :
    tk_W p l e R s m args below meth c cells slots Q G A nL pc lo ((ps.reverse.map Sum.inl) ++ st) M := by
  intro H locs ls hW hS hl hr T hT X
  obtain ⟨hx, hb, hml, hown, hts, hKn, hSt, hA, -⟩ := X0
  obtain ⟨hl1, hl2, hl3, hl4⟩ := hlk
  obtain ⟨mk, hnamed⟩ := Cond.code_named (hts _ hw)
  obtain ⟨methM, cM, hmethM, -, -, -, -, -, -, hsigM⟩ := Cond.code_spec hnamed (hts _ hw)
  have hstatic : methM.isStatic = true := Cond.static_spec hnamed hmethM (hts _ hsta)
  obtain ⟨kP, hkP, -⟩ := className_of_methodNamed hnamed
  have hinitP : kP.init = .initialized := Cond.initialized_spec (findClass_of_methodNamed hnamed) hkP (hts _ hini)
  have hstk : (((ps.reverse.map Sum.inl) ++ st : List tk_V).map (tk_cv G)) = (ps.map fun u => tk_cv G (.inl u)).reverse ++ st.map (tk_cv G) := by
    simp [List.map_reverse, Function.comp_def]
  obtain ⟨vm₁, X₁, hstep⟩ := X.invokestatic hx hown (hts _ hl1) hnamed hmethM hstatic hkP hinitP hl2 (g := F0 m pc ls (((ps.reverse.map Sum.inl) ++ st : List tk_V).map (tk_cv G))) rfl
    (argsL := ps.map fun u => tk_cv G (.inl u)) (rest := st.map (tk_cv G)) (by rw [List.length_map, hn]; exact tk_plen hl4 hsigM) hstk (by rw [hb]; exact hd)
  have hru : ∀ u ∈ ps, tk_ru u := fun u hu => hr (.inl u) (List.mem_append_left _ (List.mem_map.mpr ⟨u, List.mem_reverse.mpr hu, rfl⟩))
  have hrs : tk_rs st := fun v hv => hr v (List.mem_append_right _ hv)
  obtain ⟨t, k1, k2⟩ := tk_inv (Q := Q) con hw hl3 hx hF X₁ (by rw [show (T.setVm vm₁).heap = H from hT]; exact hS) (M := M) (by rw [show (T.setVm vm₁).heap = H from hT]; exact hW) (g := F0 m pc ls (st.map (tk_cv G))) rfl (by rw [hml]; exact hl.2.1.1) (ig := .invokestatic ix) (by rw [hb]; exact hd) hnamed hpre hru hfr
    (by show 2 * 0 + ((st.map (tk_cv G)).map fun v => v.category).sum + _ + _ ≤ _; omega) hcl hsl
    (fun v M' T' locs' hp hro X' hW' hS' => by
      have h9 := kr v M' hp hro T'.heap locs' ls hW' hS' hl (tk_pv_rs hro hrs) T' rfl X'
      rw [tk_pv_map] at h9
      exact h9)
    (fun a x M' T' locs' hp X' hW' hS' hex => kt x M' hp T' locs' a ls _ X' hW' hS' hex hl)
  exact ⟨t, hstep t k1, k2⟩
/-- the same, of a nest mate -/
theorem tk_callSN {own host : String} {cc : ByteArray} {b9 : Bool} (X0 : tk_X p s m args c G A nL own cc b9 L xs) (hF : tk_F G A s) {y : MethodName} {cy : ByteArray} {mL : Nat} {ret : Option FieldType} {nf nw ix n : Nat} {Pre : List tk_U → tk_M → Prop} {Post : List tk_U → tk_M → (Option Int ⊕ Nat) → tk_M → Prop}
    (con : tk_Con l y nf nw Pre Post) (hw : Cond.code y cy mL ret ∈ tk_tbl) (hlk : Cond.methodLinkNest own ix y host ∈ tk_nst ∧ (y.cls ≠ "java/lang/invoke/MethodHandle" ∧ y.cls ≠ "java/lang/invoke/VarHandle") ∧ plainName y.cls = true ∧ (parseMethodDescriptor y.desc).map (fun d => d.parameters.length) = some n) (hsta : Cond.static y ∈ tk_tbl) (hini : Cond.initialized y.cls ∈ tk_tbl) {pc : Nat} (hd : decode cc pc = .ok (.invokestatic ix, 3))
    {ps : List tk_U} (hn : ps.length = n) {lo : tk_Lc} {st : List tk_V} {M : tk_M} (hpre : Pre ps M)
    (hfr : nf + 1 ≤ R.frames) (hlo : ((st.map (tk_cv G)).map fun v => v.category).sum + (mL + 11) + nw ≤ R.locals) (hcl : cells + 1 ≤ R.cells) (hsl : slots + 6 ≤ R.slots)
    (kr : ∀ (v : Option Int) (M' : tk_M), Post ps M (.inl v) M' → tk_ro v → tk_W p l e R s m args below meth c cells slots Q G A nL (pc + 3) lo (tk_pv v ++ st) M')
    (kt : ∀ (x : Nat) (M' : tk_M), Post ps M (.inr x) M' → tk_Th p l e R s m args below meth c cells slots Q G A nL pc lo x M') :
    tk_W p l e R s m args below meth c cells slots Q G A nL pc lo ((ps.reverse.map Sum.inl) ++ st) M := by
  intro H locs ls hW hS hl hr T hT X
  obtain ⟨hx, hb, hml, hown, hts, hKn, hSt, hA, -⟩ := X0
  obtain ⟨hl1, hl2, hl3, hl4⟩ := hlk
  obtain ⟨mk, hnamed⟩ := Cond.code_named (hts _ hw)
  obtain ⟨methM, cM, hmethM, -, -, -, -, -, -, hsigM⟩ := Cond.code_spec hnamed (hts _ hw)
  have hstatic : methM.isStatic = true := Cond.static_spec hnamed hmethM (hts _ hsta)
  obtain ⟨kP, hkP, -⟩ := className_of_methodNamed hnamed
  have hinitP : kP.init = .initialized := Cond.initialized_spec (findClass_of_methodNamed hnamed) hkP (hts _ hini)
  have hstk : (((ps.reverse.map Sum.inl) ++ st : List tk_V).map (tk_cv G)) = (ps.map fun u => tk_cv G (.inl u)).reverse ++ st.map (tk_cv G) := by
    simp [List.map_reverse, Function.comp_def]
  have hnw : (Cond.methodLinkNest own ix y host).before args s = true := va_Nw.use rfl (hF.2.2.2.2.2.2.1 _ (List.mem_append_left _ hl1))
  obtain ⟨vm₁, X₁, hstep⟩ := X.invokestaticNest hx hown hnw hnamed hmethM hstatic hkP hinitP hl2 (g := F0 m pc ls (((ps.reverse.map Sum.inl) ++ st : List tk_V).map (tk_cv G))) rfl
    (argsL := ps.map fun u => tk_cv G (.inl u)) (rest := st.map (tk_cv G)) (by rw [List.length_map, hn]; exact tk_plen hl4 hsigM) hstk (by rw [hb]; exact hd)
  have hru : ∀ u ∈ ps, tk_ru u := fun u hu => hr (.inl u) (List.mem_append_left _ (List.mem_map.mpr ⟨u, List.mem_reverse.mpr hu, rfl⟩))
  have hrs : tk_rs st := fun v hv => hr v (List.mem_append_right _ hv)
  obtain ⟨t, k1, k2⟩ := tk_inv (Q := Q) con hw hl3 hx hF X₁ (by rw [show (T.setVm vm₁).heap = H from hT]; exact hS) (M := M) (by rw [show (T.setVm vm₁).heap = H from hT]; exact hW) (g := F0 m pc ls (st.map (tk_cv G))) rfl (by rw [hml]; exact hl.2.1.1) (ig := .invokestatic ix) (by rw [hb]; exact hd) hnamed hpre hru hfr
    (by show 2 * 0 + ((st.map (tk_cv G)).map fun v => v.category).sum + _ + _ ≤ _; omega) hcl hsl
    (fun v M' T' locs' hp hro X' hW' hS' => by
      have h9 := kr v M' hp hro T'.heap locs' ls hW' hS' hl (tk_pv_rs hro hrs) T' rfl X'
      rw [tk_pv_map] at h9
      exact h9)
    (fun a x M' T' locs' hp X' hW' hS' hex => kt x M' hp T' locs' a ls _ X' hW' hS' hex hl)
  exact ⟨t, hstep t k1, k2⟩
theorem tk_Wd.kept {M : tk_M} {H H1 : Heap} (h : tk_Wd G M H) (hk : ∀ q : Nat, q < H.size → H1[q]? = H[q]?) : tk_Wd G M H1 := ⟨fun k q hq => (h.1 k q hq).kept (hk _ (h.1 k q hq).lt), h.2⟩
def tk_xs : List String := ["java/lang/RuntimeException", "java/lang/Exception"]
def tk_thr (own : String) (ik ic x : Nat) : Prop := Cond.classLink own ik (tk_xn x) ∈ tk_tbl ∧ Cond.initialized (tk_xn x) ∈ tk_tbl ∧ (∀ w ∈ (vx_at0 own ic (tk_xn x) tk_xs).filter goodWord, w ∈ tk_tbl) ∧ (∀ w ∈ (vx_at0 own ic (tk_xn x) tk_xs).filter (fun w => !goodWord w), w ∈ tk_cw) ∧ (∀ w ∈ Cond.classLink own ik (tk_xn x) :: Cond.initialized (tk_xn x) :: vx_at0 own ic (tk_xn x) tk_xs, vx_ot w = true) ∧ Bundle.fit (tk_xn x) = true ∧ ∀ n ∈ tk_xs, Bundle.fit n = true
theorem tk_cw_ot : ∀ w ∈ tk_cw, w.onTables = true := by decide +kernel
/-- throw new ..() -/
theorem tk_new {own : String} {cc : ByteArray} {b9 : Bool} (X0 : tk_X p s m args c G A nL own cc b9 L xs) (hF : tk_F G A s) (hst : l.stackTraces = false) {ik ic x pc : Nat} (hw : tk_thr own ik ic x)
    (d0 : decode cc pc = .ok (.new ik, 3)) (d3 : decode cc (pc + 3) = .ok (.dup, 1)) (d4 : decode cc (pc + 4) = .ok (.invokespecial ic, 3)) (d7 : decode cc (pc + 7) = .ok (.athrow, 1)) (hout : c.exceptionTable.toList = []) (hlocks : meth.locks = false)
    {lo : tk_Lc} {st : List tk_V} {M : tk_M} (hRf : 6 ≤ R.frames) (hRl : ((st.map (tk_cv G)).map fun v => v.category).sum + 81 ≤ R.locals) (hRc : 1 ≤ R.cells) (hRs : 6 ≤ R.slots) {P : (Option Int ⊕ Nat) → tk_M → Prop} (h : P (.inr x) M) :
    tk_W p l e R s m args below meth c 0 0 (tk_Q below s G A P) G A nL pc lo st M := by
  intro H locs ls hW hS hl hr
  obtain ⟨hx, hb, hml, hown, hts, hKn, hSt, hA, -⟩ := X0
  obtain ⟨w1, w2, w3, w4, w5, w6, w7⟩ := hw
  refine tk_Wmono ?_ (vx_throw0 (A := A) (free := A) (mc := 1) (ms := 6) (names := tk_xs) (Qc := fun _ _ _ _ => False) (XC := fun E st t => E = tk_xn x ∧ va_F A st t ∧ tk_Wd G M t.heap) hx hb hst hown w6 w7 (hts _ w1) (hts _ w2)
    (vx_hat (B := tk_cw) (fun w hw => hts _ (w3 w hw)) w4 (fun w hw => va_Nw.use (tk_cw_ot w hw) (hF.2.2.2.2.2.2.1 w (List.mem_append_right _ hw)))) w5 hF.2.2.2.2.1 hF.2.2.2.2.2.1 hS (by rw [hml]; exact hl.2.1.1) d0 d3 d4 d7 (fun y hy => by rw [hout] at hy; cases hy)
    (show 2 + 3 < R.frames by omega) (show _ + (13 * (2 + 1) + 42) ≤ _ by omega) (by omega) (by omega) hlocks
    (fun t _ hz hk => ⟨rfl, ⟨Nat.le_trans hS.1 hz, fun q h1 h2 => by rw [hk q (Nat.lt_of_lt_of_le h1 hS.1)]; exact hS.2.1 q h1 h2⟩, hW.kept hk⟩) hS.2.2 (Nat.le_refl _) (Nat.le_refl _))
  rintro t ⟨o, h1, h2, h3 | ⟨q, rfl, E, ce, L, ⟨rfl, hFt, hWt⟩, k1, k2, k3, k4, k5, k6⟩⟩
  · exact h3.1.elim
  · exact ⟨h1, k4, hFt, L, M, k6, hWt, Or.inr ⟨q, x, h2, ⟨ce, k1, k2, k3⟩, k5, h⟩⟩
end TKR
end
section
/-! A METHOD'S WALK with its surroundings left open: what the parts behind this one speak of -/
section TKA
def tk_B (l : Launch) (p : Program) (R : Room) (s : State) (m : MethodId) (args : Array Value) (meth : Method) (c : Code) (G : tk_G) (A : Nat → Prop) (own : String) (cc : ByteArray) (nL : Nat) (ret : Option FieldType) (nf nw : Nat) : Prop :=
  tk_F G A s ∧ tk_X p s m args c G A nL own cc false 0 (fun _ => 0) ∧ nf ≤ R.frames ∧ nw ≤ R.locals ∧ 1 ≤ R.cells ∧ 6 ≤ R.slots ∧ meth.locks = false ∧ meth.sig.returnType = ret ∧ c.exceptionTable.toList = []
/-- from pc on, with these locals, this stack and this memory, every run of the method ends as P says -/
def tk_At (l : Launch) (own : String) (cc : ByteArray) (nL : Nat) (ret : Option FieldType) (nf nw : Nat) (P : (Option Int ⊕ Nat) → tk_M → Prop) (pc : Nat) (lo : tk_Lc) (st : List tk_V) (M : tk_M) : Prop :=
  ∀ (p : Program) (e : Env) (R : Room) (s : State) (m : MethodId) (args : Array Value) (below : List Frame) (meth : Method) (c : Code) (G : tk_G) (A : Nat → Prop), tk_B l p R s m args meth c G A own cc nL ret nf nw → tk_W p l e R s m args below meth c 0 0 (tk_Q below s G A P) G A nL pc lo st M
def tk_RQ (ret : Option FieldType) (P : (Option Int ⊕ Nat) → tk_M → Prop) : Option Int → tk_M → Prop := match ret with
  | none => tk_RV P
  | some .int => tk_RI P
  | some .boolean => tk_RZ P
  | _ => fun _ _ => False
/-- the contract of a method at these arguments and this memory -/
def tk_C (l : Launch) (y : MethodName) (nf nw : Nat) (as : List tk_U) (M : tk_M) (P : (Option Int ⊕ Nat) → tk_M → Prop) : Prop := tk_Con l y nf nw (fun a N => a = as ∧ N = M) (fun _ _ => P)
variable {l : Launch} {own : String} {cc : ByteArray} {nL : Nat} {ret : Option FieldType} {nf nw : Nat} {P : (Option Int ⊕ Nat) → tk_M → Prop}
/-- the numbers at hand are ints -/
theorem tk_At.r {pc : Nat} {lo : tk_Lc} {st : List tk_V} {M : tk_M} (h : (∀ c j, -2147483648 ≤ M c j ∧ M c j < 2147483648) → (∀ n v, tk_gt lo n = some v → tk_ru v) → tk_rs st → tk_At l own cc nL ret nf nw P pc lo st M) : tk_At l own cc nL ret nf nw P pc lo st M :=
  fun p e R s m args below meth c G A B H locs ls hW hS hl hr => h hW.2 hl.2.2 hr p e R s m args below meth c G A B H locs ls hW hS hl hr
theorem tk_At.mono {P' : (Option Int ⊕ Nat) → tk_M → Prop} (hP : ∀ r M, P r M → P' r M) {pc : Nat} {lo : tk_Lc} {st : List tk_V} {M : tk_M} (h : tk_At l own cc nL ret nf nw P pc lo st M) : tk_At l own cc nL ret nf nw P' pc lo st M :=
  fun p e R s m args below meth c G A B H locs ls hW hS hl hr => tk_Wmono (fun t ht => by
    obtain ⟨h1, h2, h3, L, M', h4, h5, h6⟩ := ht
    refine ⟨h1, h2, h3, L, M', h4, h5, ?_⟩
    rcases h6 with ⟨v, r1, r2, r3, r4⟩ | ⟨a, x, r1, r2, r3, r4⟩
    · exact Or.inl ⟨v, r1, r2, r3, hP _ _ r4⟩
    · exact Or.inr ⟨a, x, r1, r2, r3, hP _ _ r4⟩) (h p e R s m args below meth c G A B H locs ls hW hS hl hr)
/-- a contract out of the walk from the entry -/
theorem tk_C.of {y : MethodName} {as : List tk_U} {M : tk_M} (hw : Cond.code y cc nL ret ∈ tk_tbl) (ho : y.cls = own) (hlen : as.length ≤ nL) (body : (∀ u ∈ as, tk_ru u) → (∀ c j, -2147483648 ≤ M c j ∧ M c j < 2147483648) → tk_At l own cc nL ret nf nw P 0 (as.map some ++ List.replicate (nL - as.length) none) [] M) : tk_C l y nf nw as M P := by
  subst ho
  refine tk_Con.of hw fun p e R s m below meth c G A a N hF X h1 h2 h3 h4 hlk hret het hm hr hM hpre => ?_
  obtain ⟨rfl, rfl⟩ := hpre
  exact ⟨hlen, body hr hM p e R s m _ below meth c G A ⟨hF, X, h1, h2, h3, h4, hlk, hret, het⟩⟩
theorem tk_RQ_ok {p : Program} {e : Env} {R : Room} {s : State} {m : MethodId} {args : Array Value} {below : List Frame} {meth : Method} {c : Code} {G : tk_G} {A : Nat → Prop} (hx : p.tables.exec = Jvm.exec) (hb : c.code = cc) (hlocks : meth.locks = false) (hr : meth.sig.returnType = ret) : tk_Rt p l e R s m args below meth c 0 0 (tk_Q below s G A P) G A cc (tk_RQ ret P) := by
  have nope : ∀ v M, (fun (_ : Option Int) (_ : tk_M) => False) v M → False := fun _ _ h => h
  cases ret with
  | none => exact tk_rtV hx hb hlocks hr
  | some f =>
    cases f with
    | int => exact tk_rtI hx hb hlocks hr
    | boolean => exact tk_rtZ hx hb hlocks hr
    | _ => intro v M H locs ls pc st hR; exact hR.elim
/-- where a stretch stops, said so that nothing looks into it -/
def tk_Lf (q : Prop) : Prop := ∃ _ : Unit, q
/-- a stretch -/
theorem tk_goA {fl : tk_FL} {cs : List (Nat × Int)} (hfl : tk_flok own fl) (hcs : tk_csok own cs) {tab : List tk_E} (htab : tk_good cc nL tab) (n : Nat) (cut : List Nat) {pc : Nat} {lo : tk_Lc} {st : List tk_V} {M : tk_M}
    (h : tk_R fl cs false 0 (fun _ => 0) cut tab (fun pc lo st M => tk_Lf (tk_At l own cc nL ret nf nw P pc lo st M)) (tk_RQ ret P) n (tk_to tab pc) lo st M) : tk_At l own cc nL ret nf nw P pc lo st M :=
  fun p e R s m args below meth c G A B => tk_goP B.2.1 hfl hcs htab (tk_RQ_ok B.2.1.1 B.2.1.2.1 B.2.2.2.2.2.2.1 B.2.2.2.2.2.2.2.1) (fun pc lo st M h => h.elim fun _ h => h p e R s m args below meth c G A B) n cut h
def tk_sv : List tk_V → Nat
  | [] => 0
  | .inl _ :: t => tk_sv t + 1
  | .inr _ :: t => tk_sv t + 2
theorem tk_sv_eq (G : tk_G) : ∀ st : List tk_V, ((st.map (tk_cv G)).map fun v => v.category).sum = tk_sv st
  | [] => rfl
  | .inl u :: t => by
    simp only [List.map_cons, List.sum_cons, tk_sv, tk_cat, tk_sv_eq G t]
    omega
  | .inr u :: t => by
    simp only [List.map_cons, List.sum_cons, tk_sv, tk_sv_eq G t]
    show 2 + _ = _
    omega
def tk_ia (tab : List tk_E) (pc : Nat) : Option (Instr × Nat) := match tk_to tab pc with
  | q :: _ => some (q.2.1, q.2.2.1)
  | [] => none
theorem tk_dec {tab : List tk_E} (htab : tk_good cc nL tab) {pc nx : Nat} {i : Instr} (h : tk_ia tab pc = some (i, nx)) : ∃ len, decode cc pc = .ok (i, len) ∧ pc + len = nx := by
  unfold tk_ia at h
  cases ht : tk_to tab pc with
  | nil => rw [ht] at h; cases h
  | cons q t =>
    rw [ht] at h
    have hg : tk_good cc nL (tk_to tab pc) := htab.to
    rw [ht] at hg
    obtain ⟨len, h1, h2, -⟩ := tk_ok_dec (hg.1 q List.mem_cons_self)
    have e1 := tk_to_head ht
    have e2 := Option.some.inj h
    simp only [Prod.mk.injEq] at e2
    rw [e1, e2.1] at h1
    rw [e1, e2.2] at h2
    exact ⟨len, h1, h2⟩
theorem tk_dec3 {tab : List tk_E} (htab : tk_good cc nL tab) {pc : Nat} {i : Instr} (h : tk_ia tab pc = some (i, pc + 3)) : decode cc pc = .ok (i, 3) := by
  obtain ⟨len, h1, h2⟩ := tk_dec htab h
  have : len = 3 := by omega
  rw [this] at h1
  exact h1
theorem tk_dec1 {tab : List tk_E} (htab : tk_good cc nL tab) {pc : Nat} {i : Instr} (h : tk_ia tab pc = some (i, pc + 1)) : decode cc pc = .ok (i, 1) := by
  obtain ⟨len, h1, h2⟩ := tk_dec htab h
  have : len = 1 := by omega
  rw [this] at h1
  exact h1
theorem tk_kl {k r : Nat} {fs : List (Option Nat)} (h : tk_sh r = .inl (k, fs)) (hr : r < tk_nc) : r < tk_nc := hr
/-- a call by a receiver -/
theorem tk_aV {y : MethodName} {cy : ByteArray} {mL : Nat} {rty : Option FieldType} {nf' nw' ix n k : Nat} {C : String} {T0 : u_T} {N0 : Nat} {fs : List (Option Nat)} {r : Nat} {ps : List tk_U} {P' : (Option Int ⊕ Nat) → tk_M → Prop} {M : tk_M} {tab : List tk_E} {pc : Nat} {lo : tk_Lc} {stk st : List tk_V}
    (con : tk_C l y nf' nw' (.inr r :: ps) M P') (hw : Cond.code y cy mL rty ∈ tk_tbl) (hlk : tk_lnk own ix y n) (hinst : Cond.instanceMethod y ∈ tk_tbl) (hsel : Cond.selects C y y ∈ tk_tbl) (htab : tk_good cc nL tab) (hd : tk_ia tab pc = some (.invokevirtual ix, pc + 3))
    (hk : tk_cl[k]? = some (C, T0, N0)) (hr0 : r < tk_nc) (hsh : tk_sh r = .inl (k, fs)) (hn : ps.length = n) (hst : stk = (ps.reverse.map Sum.inl) ++ (.inl (.inr r) :: st)) (hfr : nf' + 1 ≤ nf) (hlo : tk_sv st + (mL + 11) + nw' ≤ nw)
    (kr : ∀ (v : Option Int) (M' : tk_M), P' (.inl v) M' → tk_ro v → tk_At l own cc nL ret nf nw P (pc + 3) lo (tk_pv v ++ st) M') (kt : ∀ (x : Nat) (M' : tk_M), P' (.inr x) M' → P (.inr x) M') : tk_At l own cc nL ret nf nw P pc lo stk M := by
  intro p e R s m args below meth c G A B
  obtain ⟨hF, X, h1, h2, h3, h4, hlocks, hret, het⟩ := id B
  rw [hst]
  exact tk_callV X hF con hw hlk hinst hsel (tk_dec3 htab hd) hk hr0 hsh hn ⟨rfl, rfl⟩ (by omega) (by rw [tk_sv_eq]; omega) (by omega) (by omega) (fun v M' hp hro => kr v M' hp hro p e R s m args below meth c G A B) (fun x M' hp => tk_Th.out het hlocks (kt x M' hp))
/-- a call without a receiver -/
theorem tk_aS {y : MethodName} {cy : ByteArray} {mL : Nat} {rty : Option FieldType} {nf' nw' ix n : Nat} {ps : List tk_U} {P' : (Option Int ⊕ Nat) → tk_M → Prop} {M : tk_M} {tab : List tk_E} {pc : Nat} {lo : tk_Lc} {stk st : List tk_V}
    (con : tk_C l y nf' nw' ps M P') (hw : Cond.code y cy mL rty ∈ tk_tbl) (hlk : tk_lnk own ix y n) (hsta : Cond.static y ∈ tk_tbl) (hini : Cond.initialized y.cls ∈ tk_tbl) (htab : tk_good cc nL tab) (hd : tk_ia tab pc = some (.invokestatic ix, pc + 3))
    (hn : ps.length = n) (hst : stk = (ps.reverse.map Sum.inl) ++ st) (hfr : nf' + 1 ≤ nf) (hlo : tk_sv st + (mL + 11) + nw' ≤ nw)
    (kr : ∀ (v : Option Int) (M' : tk_M), P' (.inl v) M' → tk_ro v → tk_At l own cc nL ret nf nw P (pc + 3) lo (tk_pv v ++ st) M') (kt : ∀ (x : Nat) (M' : tk_M), P' (.inr x) M' → P (.inr x) M') : tk_At l own cc nL ret nf nw P pc lo stk M := by
  intro p e R s m args below meth c G A B
  obtain ⟨hF, X, h1, h2, h3, h4, hlocks, hret, het⟩ := id B
  rw [hst]
  exact tk_callS X hF con hw hlk hsta hini (tk_dec3 htab hd) hn ⟨rfl, rfl⟩ (by omega) (by rw [tk_sv_eq]; omega) (by omega) (by omega) (fun v M' hp hro => kr v M' hp hro p e R s m args below meth c G A B) (fun x M' hp => tk_Th.out het hlocks (kt x M' hp))
/-- the same, of a nest mate -/
theorem tk_aSN {host : String} {y : MethodName} {cy : ByteArray} {mL : Nat} {rty : Option FieldType} {nf' nw' ix n : Nat} {ps : List tk_U} {P' : (Option Int ⊕ Nat) → tk_M → Prop} {M : tk_M} {tab : List tk_E} {pc : Nat} {lo : tk_Lc} {stk st : List tk_V}
    (con : tk_C l y nf' nw' ps M P') (hw : Cond.code y cy mL rty ∈ tk_tbl) (hlk : Cond.methodLinkNest own ix y host ∈ tk_nst ∧ (y.cls ≠ "java/lang/invoke/MethodHandle" ∧ y.cls ≠ "java/lang/invoke/VarHandle") ∧ plainName y.cls = true ∧ (parseMethodDescriptor y.desc).map (fun d => d.parameters.length) = some n) (hsta : Cond.static y ∈ tk_tbl) (hini : Cond.initialized y.cls ∈ tk_tbl) (htab : tk_good cc nL tab) (hd : tk_ia tab pc = some (.invokestatic ix, pc + 3))
    (hn : ps.length = n) (hst : stk = (ps.reverse.map Sum.inl) ++ st) (hfr : nf' + 1 ≤ nf) (hlo : tk_sv st + (mL + 11) + nw' ≤ nw)
    (kr : ∀ (v : Option Int) (M' : tk_M), P' (.inl v) M' → tk_ro v → tk_At l own cc nL ret nf nw P (pc + 3) lo (tk_pv v ++ st) M') (kt : ∀ (x : Nat) (M' : tk_M), P' (.inr x) M' → P (.inr x) M') : tk_At l own cc nL ret nf nw P pc lo stk M := by
  intro p e R s m args below meth c G A B
  obtain ⟨hF, X, h1, h2, h3, h4, hlocks, hret, het⟩ := id B
  rw [hst]
  exact tk_callSN X hF con hw hlk hsta hini (tk_dec3 htab hd) hn ⟨rfl, rfl⟩ (by omega) (by rw [tk_sv_eq]; omega) (by omega) (by omega) (fun v M' hp hro => kr v M' hp hro p e R s m args below meth c G A B) (fun x M' hp => tk_Th.out het hlocks (kt x M' hp))
/-- throw new ..() -/
theorem tk_aN (hst : l.stackTraces = false) {ik ic x pc : Nat} (hw : tk_thr own ik ic x) {tab : List tk_E} (htab : tk_good cc nL tab) (d0 : tk_ia tab pc = some (.new ik, pc + 3)) (d3 : tk_ia tab (pc + 3) = some (.dup, pc + 3 + 1)) (d4 : tk_ia tab (pc + 4) = some (.invokespecial ic, pc + 4 + 3)) (d7 : tk_ia tab (pc + 7) = some (.athrow, pc + 7 + 1))
    {lo : tk_Lc} {st : List tk_V} {M : tk_M} (hRf : 6 ≤ nf) (hRl : tk_sv st + 81 ≤ nw) (h : P (.inr x) M) : tk_At l own cc nL ret nf nw P pc lo st M := by
  intro p e R s m args below meth c G A B
  obtain ⟨hF, X, h1, h2, h3, h4, hlocks, hret, het⟩ := id B
  exact tk_new X hF hst hw (tk_dec3 htab d0) (tk_dec1 htab d3) (tk_dec3 htab d4) (tk_dec1 htab d7) het hlocks (by omega) (by rw [tk_sv_eq]; omega) h3 h4 h
end TKA
end
section
/-! WORDS of methods and of calls, by their places in the list; written by a program -/
theorem tk_mw {w : Cond} (i : Nat) (h : lw_tbl[i]? = some w) (hg : goodWord w = true) : w ∈ tk_tbl := List.mem_filter.mpr ⟨List.mem_of_getElem? h, hg⟩
set_option maxRecDepth 100000 in
theorem wc_TK_init : Cond.code y_TK_init prog_1_method_1_code 2 none ∈ tk_tbl := tk_mw 46 rfl rfl
set_option maxRecDepth 100000 in
theorem wi_TK_init : Cond.instanceMethod y_TK_init ∈ tk_tbl := tk_mw 45 rfl rfl
set_option maxRecDepth 100000 in
theorem wc_TK_section : Cond.code y_TK_section prog_1_method_2_code 1 (some .int) ∈ tk_tbl := tk_mw 248 rfl rfl
set_option maxRecDepth 100000 in
theorem wi_TK_section : Cond.instanceMethod y_TK_section ∈ tk_tbl := tk_mw 246 rfl rfl
set_option maxRecDepth 100000 in
theorem wsl_TK_section : Cond.selects "TrackKeeper" y_TK_section y_TK_section ∈ tk_tbl := tk_mw 247 rfl rfl
set_option maxRecDepth 100000 in
theorem wc_TK_sub : Cond.code y_TK_sub prog_1_method_3_code 2 (some .int) ∈ tk_tbl := tk_mw 343 rfl rfl
set_option maxRecDepth 100000 in
theorem wi_TK_sub : Cond.instanceMethod y_TK_sub ∈ tk_tbl := tk_mw 341 rfl rfl
set_option maxRecDepth 100000 in
theorem wsl_TK_sub : Cond.selects "TrackKeeper" y_TK_sub y_TK_sub ∈ tk_tbl := tk_mw 342 rfl rfl
set_option maxRecDepth 100000 in
theorem wc_TK_begin : Cond.code y_TK_begin prog_1_method_4_code 5 (some .int) ∈ tk_tbl := tk_mw 373 rfl rfl
set_option maxRecDepth 100000 in
theorem wi_TK_begin : Cond.instanceMethod y_TK_begin ∈ tk_tbl := tk_mw 371 rfl rfl
set_option maxRecDepth 100000 in
theorem wsl_TK_begin : Cond.selects "TrackKeeper" y_TK_begin y_TK_begin ∈ tk_tbl := tk_mw 372 rfl rfl
set_option maxRecDepth 100000 in
theorem wc_TK_clear : Cond.code y_TK_clear prog_1_method_5_code 1 none ∈ tk_tbl := tk_mw 235 rfl rfl
set_option maxRecDepth 100000 in
theorem wi_TK_clear : Cond.instanceMethod y_TK_clear ∈ tk_tbl := tk_mw 233 rfl rfl
set_option maxRecDepth 100000 in
theorem wsl_TK_clear : Cond.selects "TrackKeeper" y_TK_clear y_TK_clear ∈ tk_tbl := tk_mw 234 rfl rfl
set_option maxRecDepth 100000 in
theorem wc_TK_detect : Cond.code y_TK_detect prog_1_method_6_code 3 none ∈ tk_tbl := tk_mw 392 rfl rfl
set_option maxRecDepth 100000 in
theorem wi_TK_detect : Cond.instanceMethod y_TK_detect ∈ tk_tbl := tk_mw 390 rfl rfl
set_option maxRecDepth 100000 in
theorem wsl_TK_detect : Cond.selects "TrackKeeper" y_TK_detect y_TK_detect ∈ tk_tbl := tk_mw 391 rfl rfl
set_option maxRecDepth 100000 in
theorem wc_TK_connect : Cond.code y_TK_connect prog_1_method_7_code 3 none ∈ tk_tbl := tk_mw 452 rfl rfl
set_option maxRecDepth 100000 in
theorem wi_TK_connect : Cond.instanceMethod y_TK_connect ∈ tk_tbl := tk_mw 450 rfl rfl
set_option maxRecDepth 100000 in
theorem wsl_TK_connect : Cond.selects "TrackKeeper" y_TK_connect y_TK_connect ∈ tk_tbl := tk_mw 451 rfl rfl
set_option maxRecDepth 100000 in
theorem wc_TK_report : Cond.code y_TK_report prog_1_method_8_code 4 (some .boolean) ∈ tk_tbl := tk_mw 467 rfl rfl
set_option maxRecDepth 100000 in
theorem wi_TK_report : Cond.instanceMethod y_TK_report ∈ tk_tbl := tk_mw 465 rfl rfl
set_option maxRecDepth 100000 in
theorem wsl_TK_report : Cond.selects "TrackKeeper" y_TK_report y_TK_report ∈ tk_tbl := tk_mw 466 rfl rfl
set_option maxRecDepth 100000 in
theorem wc_TK_leave : Cond.code y_TK_leave prog_1_method_9_code 2 none ∈ tk_tbl := tk_mw 508 rfl rfl
set_option maxRecDepth 100000 in
theorem wi_TK_leave : Cond.instanceMethod y_TK_leave ∈ tk_tbl := tk_mw 506 rfl rfl
set_option maxRecDepth 100000 in
theorem wsl_TK_leave : Cond.selects "TrackKeeper" y_TK_leave y_TK_leave ∈ tk_tbl := tk_mw 507 rfl rfl
set_option maxRecDepth 100000 in
theorem wc_TK_tick : Cond.code y_TK_tick prog_1_method_10_code 3 (some .int) ∈ tk_tbl := tk_mw 515 rfl rfl
set_option maxRecDepth 100000 in
theorem wi_TK_tick : Cond.instanceMethod y_TK_tick ∈ tk_tbl := tk_mw 513 rfl rfl
set_option maxRecDepth 100000 in
theorem wsl_TK_tick : Cond.selects "TrackKeeper" y_TK_tick y_TK_tick ∈ tk_tbl := tk_mw 514 rfl rfl
set_option maxRecDepth 100000 in
theorem wc_TK_request : Cond.code y_TK_request prog_1_method_11_code 3 (some .int) ∈ tk_tbl := tk_mw 531 rfl rfl
set_option maxRecDepth 100000 in
theorem wi_TK_request : Cond.instanceMethod y_TK_request ∈ tk_tbl := tk_mw 529 rfl rfl
set_option maxRecDepth 100000 in
theorem wsl_TK_request : Cond.selects "TrackKeeper" y_TK_request y_TK_request ∈ tk_tbl := tk_mw 530 rfl rfl
set_option maxRecDepth 100000 in
theorem wc_TK_state : Cond.code y_TK_state prog_1_method_12_code 2 (some .int) ∈ tk_tbl := tk_mw 554 rfl rfl
set_option maxRecDepth 100000 in
theorem wi_TK_state : Cond.instanceMethod y_TK_state ∈ tk_tbl := tk_mw 552 rfl rfl
set_option maxRecDepth 100000 in
theorem wsl_TK_state : Cond.selects "TrackKeeper" y_TK_state y_TK_state ∈ tk_tbl := tk_mw 553 rfl rfl
set_option maxRecDepth 100000 in
theorem wc_TK_train : Cond.code y_TK_train prog_1_method_13_code 3 (some .int) ∈ tk_tbl := tk_mw 561 rfl rfl
set_option maxRecDepth 100000 in
theorem wi_TK_train : Cond.instanceMethod y_TK_train ∈ tk_tbl := tk_mw 559 rfl rfl
set_option maxRecDepth 100000 in
theorem wsl_TK_train : Cond.selects "TrackKeeper" y_TK_train y_TK_train ∈ tk_tbl := tk_mw 560 rfl rfl
set_option maxRecDepth 100000 in
theorem wc_TK_count : Cond.code y_TK_count prog_1_method_14_code 3 (some .int) ∈ tk_tbl := tk_mw 572 rfl rfl
set_option maxRecDepth 100000 in
theorem wi_TK_count : Cond.instanceMethod y_TK_count ∈ tk_tbl := tk_mw 570 rfl rfl
set_option maxRecDepth 100000 in
theorem wsl_TK_count : Cond.selects "TrackKeeper" y_TK_count y_TK_count ∈ tk_tbl := tk_mw 571 rfl rfl
set_option maxRecDepth 100000 in
theorem wc_TK_countSinceBegin : Cond.code y_TK_countSinceBegin prog_1_method_15_code 3 (some .int) ∈ tk_tbl := tk_mw 576 rfl rfl
set_option maxRecDepth 100000 in
theorem wi_TK_countSinceBegin : Cond.instanceMethod y_TK_countSinceBegin ∈ tk_tbl := tk_mw 575 rfl rfl
set_option maxRecDepth 100000 in
theorem wsl_TK_countSinceBegin : Cond.selects "TrackKeeper" y_TK_countSinceBegin y_TK_countSinceBegin ∈ tk_tbl := tk_mw 12 rfl rfl
set_option maxRecDepth 100000 in
theorem wc_TK_requireBegun : Cond.code y_TK_requireBegun prog_1_method_16_code 1 none ∈ tk_tbl := tk_mw 396 rfl rfl
set_option maxRecDepth 100000 in
theorem wi_TK_requireBegun : Cond.instanceMethod y_TK_requireBegun ∈ tk_tbl := tk_mw 395 rfl rfl
set_option maxRecDepth 100000 in
theorem wsl_TK_requireBegun : Cond.selects "TrackKeeper" y_TK_requireBegun y_TK_requireBegun ∈ tk_tbl := tk_mw 1 rfl rfl
set_option maxRecDepth 100000 in
theorem wc_TK_requireConnected : Cond.code y_TK_requireConnected prog_1_method_17_code 2 none ∈ tk_tbl := tk_mw 471 rfl rfl
set_option maxRecDepth 100000 in
theorem wi_TK_requireConnected : Cond.instanceMethod y_TK_requireConnected ∈ tk_tbl := tk_mw 470 rfl rfl
set_option maxRecDepth 100000 in
theorem wsl_TK_requireConnected : Cond.selects "TrackKeeper" y_TK_requireConnected y_TK_requireConnected ∈ tk_tbl := tk_mw 9 rfl rfl
set_option maxRecDepth 100000 in
theorem wc_TK_isTrain : Cond.code y_TK_isTrain prog_1_method_18_code 1 (some .boolean) ∈ tk_tbl := tk_mw 455 rfl rfl
set_option maxRecDepth 100000 in
theorem wst_TK_isTrain : Cond.static y_TK_isTrain ∈ tk_tbl := tk_mw 454 rfl rfl
set_option maxRecDepth 100000 in
theorem wc_TK_isWithin : Cond.code y_TK_isWithin prog_1_method_19_code 3 (some .boolean) ∈ tk_tbl := tk_mw 347 rfl rfl
set_option maxRecDepth 100000 in
theorem wst_TK_isWithin : Cond.static y_TK_isWithin ∈ tk_tbl := tk_mw 346 rfl rfl
set_option maxRecDepth 100000 in
theorem wc_TK_findAllAnew : Cond.code y_TK_findAllAnew prog_1_method_20_code 2 none ∈ tk_tbl := tk_mw 405 rfl rfl
set_option maxRecDepth 100000 in
theorem wi_TK_findAllAnew : Cond.instanceMethod y_TK_findAllAnew ∈ tk_tbl := tk_mw 404 rfl rfl
set_option maxRecDepth 100000 in
theorem wsl_TK_findAllAnew : Cond.selects "TrackKeeper" y_TK_findAllAnew y_TK_findAllAnew ∈ tk_tbl := tk_mw 2 rfl rfl
set_option maxRecDepth 100000 in
theorem wc_Mo_init : Cond.code y_Mo_init prog_8_method_1_code 1 none ∈ tk_tbl := tk_mw 581 rfl rfl
set_option maxRecDepth 100000 in
theorem wi_Mo_init : Cond.instanceMethod y_Mo_init ∈ tk_tbl := tk_mw 580 rfl rfl
set_option maxRecDepth 100000 in
theorem wc_Mo_thrown : Cond.code y_Mo_thrown prog_8_method_2_code 1 (some .int) ∈ tk_tbl := tk_mw 694 rfl rfl
set_option maxRecDepth 100000 in
theorem wi_Mo_thrown : Cond.instanceMethod y_Mo_thrown ∈ tk_tbl := tk_mw 692 rfl rfl
set_option maxRecDepth 100000 in
theorem wsl_Mo_thrown : Cond.selects "TrackKeeperModel" y_Mo_thrown y_Mo_thrown ∈ tk_tbl := tk_mw 693 rfl rfl
set_option maxRecDepth 100000 in
theorem wc_Mo_in : Cond.code y_Mo_in prog_8_method_3_code 3 (some .boolean) ∈ tk_tbl := tk_mw 714 rfl rfl
set_option maxRecDepth 100000 in
theorem wst_Mo_in : Cond.static y_Mo_in ∈ tk_tbl := tk_mw 713 rfl rfl
set_option maxRecDepth 100000 in
theorem wc_Mo_fails : Cond.code y_Mo_fails prog_8_method_4_code 3 (some .boolean) ∈ tk_tbl := tk_mw 706 rfl rfl
set_option maxRecDepth 100000 in
theorem wi_Mo_fails : Cond.instanceMethod y_Mo_fails ∈ tk_tbl := tk_mw 705 rfl rfl
set_option maxRecDepth 100000 in
theorem wsl_Mo_fails : Cond.selects "TrackKeeperModel" y_Mo_fails y_Mo_fails ∈ tk_tbl := tk_mw 14 rfl rfl
set_option maxRecDepth 100000 in
theorem wc_Mo_isWaiting : Cond.code y_Mo_isWaiting prog_8_method_5_code 1 (some .boolean) ∈ tk_tbl := tk_mw 702 rfl rfl
set_option maxRecDepth 100000 in
theorem wi_Mo_isWaiting : Cond.instanceMethod y_Mo_isWaiting ∈ tk_tbl := tk_mw 701 rfl rfl
set_option maxRecDepth 100000 in
theorem wsl_Mo_isWaiting : Cond.selects "TrackKeeperModel" y_Mo_isWaiting y_Mo_isWaiting ∈ tk_tbl := tk_mw 13 rfl rfl
set_option maxRecDepth 100000 in
theorem wc_Mo_section : Cond.code y_Mo_section prog_8_method_6_code 1 (some .int) ∈ tk_tbl := tk_mw 698 rfl rfl
set_option maxRecDepth 100000 in
theorem wi_Mo_section : Cond.instanceMethod y_Mo_section ∈ tk_tbl := tk_mw 696 rfl rfl
set_option maxRecDepth 100000 in
theorem wsl_Mo_section : Cond.selects "TrackKeeperModel" y_Mo_section y_Mo_section ∈ tk_tbl := tk_mw 697 rfl rfl
set_option maxRecDepth 100000 in
theorem wc_Mo_sub : Cond.code y_Mo_sub prog_8_method_7_code 2 (some .int) ∈ tk_tbl := tk_mw 710 rfl rfl
set_option maxRecDepth 100000 in
theorem wi_Mo_sub : Cond.instanceMethod y_Mo_sub ∈ tk_tbl := tk_mw 708 rfl rfl
set_option maxRecDepth 100000 in
theorem wsl_Mo_sub : Cond.selects "TrackKeeperModel" y_Mo_sub y_Mo_sub ∈ tk_tbl := tk_mw 709 rfl rfl
set_option maxRecDepth 100000 in
theorem wc_Mo_begin : Cond.code y_Mo_begin prog_8_method_8_code 4 (some .int) ∈ tk_tbl := tk_mw 718 rfl rfl
set_option maxRecDepth 100000 in
theorem wi_Mo_begin : Cond.instanceMethod y_Mo_begin ∈ tk_tbl := tk_mw 716 rfl rfl
set_option maxRecDepth 100000 in
theorem wsl_Mo_begin : Cond.selects "TrackKeeperModel" y_Mo_begin y_Mo_begin ∈ tk_tbl := tk_mw 717 rfl rfl
set_option maxRecDepth 100000 in
theorem wc_Mo_reset : Cond.code y_Mo_reset prog_8_method_9_code 2 none ∈ tk_tbl := tk_mw 722 rfl rfl
set_option maxRecDepth 100000 in
theorem wi_Mo_reset : Cond.instanceMethod y_Mo_reset ∈ tk_tbl := tk_mw 721 rfl rfl
set_option maxRecDepth 100000 in
theorem wsl_Mo_reset : Cond.selects "TrackKeeperModel" y_Mo_reset y_Mo_reset ∈ tk_tbl := tk_mw 15 rfl rfl
set_option maxRecDepth 100000 in
theorem wc_Mo_clear : Cond.code y_Mo_clear prog_8_method_10_code 1 none ∈ tk_tbl := tk_mw 726 rfl rfl
set_option maxRecDepth 100000 in
theorem wi_Mo_clear : Cond.instanceMethod y_Mo_clear ∈ tk_tbl := tk_mw 724 rfl rfl
set_option maxRecDepth 100000 in
theorem wsl_Mo_clear : Cond.selects "TrackKeeperModel" y_Mo_clear y_Mo_clear ∈ tk_tbl := tk_mw 725 rfl rfl
set_option maxRecDepth 100000 in
theorem wc_Mo_subOf : Cond.code y_Mo_subOf prog_8_method_11_code 3 (some .int) ∈ tk_tbl := tk_mw 746 rfl rfl
set_option maxRecDepth 100000 in
theorem wi_Mo_subOf : Cond.instanceMethod y_Mo_subOf ∈ tk_tbl := tk_mw 745 rfl rfl
set_option maxRecDepth 100000 in
theorem wsl_Mo_subOf : Cond.selects "TrackKeeperModel" y_Mo_subOf y_Mo_subOf ∈ tk_tbl := tk_mw 19 rfl rfl
set_option maxRecDepth 100000 in
theorem wc_Mo_isLocated : Cond.code y_Mo_isLocated prog_8_method_12_code 2 (some .boolean) ∈ tk_tbl := tk_mw 742 rfl rfl
set_option maxRecDepth 100000 in
theorem wi_Mo_isLocated : Cond.instanceMethod y_Mo_isLocated ∈ tk_tbl := tk_mw 741 rfl rfl
set_option maxRecDepth 100000 in
theorem wsl_Mo_isLocated : Cond.selects "TrackKeeperModel" y_Mo_isLocated y_Mo_isLocated ∈ tk_tbl := tk_mw 18 rfl rfl
set_option maxRecDepth 100000 in
theorem wc_Mo_isWhole : Cond.code y_Mo_isWhole prog_8_method_13_code 2 (some .boolean) ∈ tk_tbl := tk_mw 763 rfl rfl
set_option maxRecDepth 100000 in
theorem wi_Mo_isWhole : Cond.instanceMethod y_Mo_isWhole ∈ tk_tbl := tk_mw 762 rfl rfl
set_option maxRecDepth 100000 in
theorem wsl_Mo_isWhole : Cond.selects "TrackKeeperModel" y_Mo_isWhole y_Mo_isWhole ∈ tk_tbl := tk_mw 21 rfl rfl
set_option maxRecDepth 100000 in
theorem wc_Mo_find : Cond.code y_Mo_find prog_8_method_14_code 3 none ∈ tk_tbl := tk_mw 738 rfl rfl
set_option maxRecDepth 100000 in
theorem wi_Mo_find : Cond.instanceMethod y_Mo_find ∈ tk_tbl := tk_mw 737 rfl rfl
set_option maxRecDepth 100000 in
theorem wsl_Mo_find : Cond.selects "TrackKeeperModel" y_Mo_find y_Mo_find ∈ tk_tbl := tk_mw 17 rfl rfl
set_option maxRecDepth 100000 in
theorem wc_Mo_only : Cond.code y_Mo_only prog_8_method_15_code 2 (some .int) ∈ tk_tbl := tk_mw 759 rfl rfl
set_option maxRecDepth 100000 in
theorem wst_Mo_only : Cond.static y_Mo_only ∈ tk_tbl := tk_mw 758 rfl rfl
set_option maxRecDepth 100000 in
theorem wc_Mo_found : Cond.code y_Mo_found prog_8_method_16_code 7 (some .int) ∈ tk_tbl := tk_mw 750 rfl rfl
set_option maxRecDepth 100000 in
theorem wi_Mo_found : Cond.instanceMethod y_Mo_found ∈ tk_tbl := tk_mw 749 rfl rfl
set_option maxRecDepth 100000 in
theorem wsl_Mo_found : Cond.selects "TrackKeeperModel" y_Mo_found y_Mo_found ∈ tk_tbl := tk_mw 20 rfl rfl
set_option maxRecDepth 100000 in
theorem wc_Mo_authority : Cond.code y_Mo_authority prog_8_method_17_code 4 none ∈ tk_tbl := tk_mw 767 rfl rfl
set_option maxRecDepth 100000 in
theorem wi_Mo_authority : Cond.instanceMethod y_Mo_authority ∈ tk_tbl := tk_mw 766 rfl rfl
set_option maxRecDepth 100000 in
theorem wsl_Mo_authority : Cond.selects "TrackKeeperModel" y_Mo_authority y_Mo_authority ∈ tk_tbl := tk_mw 22 rfl rfl
set_option maxRecDepth 100000 in
theorem wc_Mo_holds : Cond.code y_Mo_holds prog_8_method_18_code 4 (some .boolean) ∈ tk_tbl := tk_mw 771 rfl rfl
set_option maxRecDepth 100000 in
theorem wi_Mo_holds : Cond.instanceMethod y_Mo_holds ∈ tk_tbl := tk_mw 770 rfl rfl
set_option maxRecDepth 100000 in
theorem wsl_Mo_holds : Cond.selects "TrackKeeperModel" y_Mo_holds y_Mo_holds ∈ tk_tbl := tk_mw 23 rfl rfl
set_option maxRecDepth 100000 in
theorem wc_Mo_settle : Cond.code y_Mo_settle prog_8_method_19_code 2 none ∈ tk_tbl := tk_mw 734 rfl rfl
set_option maxRecDepth 100000 in
theorem wi_Mo_settle : Cond.instanceMethod y_Mo_settle ∈ tk_tbl := tk_mw 733 rfl rfl
set_option maxRecDepth 100000 in
theorem wsl_Mo_settle : Cond.selects "TrackKeeperModel" y_Mo_settle y_Mo_settle ∈ tk_tbl := tk_mw 16 rfl rfl
set_option maxRecDepth 100000 in
theorem wc_Mo_detect : Cond.code y_Mo_detect prog_8_method_20_code 3 none ∈ tk_tbl := tk_mw 730 rfl rfl
set_option maxRecDepth 100000 in
theorem wi_Mo_detect : Cond.instanceMethod y_Mo_detect ∈ tk_tbl := tk_mw 728 rfl rfl
set_option maxRecDepth 100000 in
theorem wsl_Mo_detect : Cond.selects "TrackKeeperModel" y_Mo_detect y_Mo_detect ∈ tk_tbl := tk_mw 729 rfl rfl
set_option maxRecDepth 100000 in
theorem wc_Mo_connect : Cond.code y_Mo_connect prog_8_method_21_code 3 none ∈ tk_tbl := tk_mw 775 rfl rfl
set_option maxRecDepth 100000 in
theorem wi_Mo_connect : Cond.instanceMethod y_Mo_connect ∈ tk_tbl := tk_mw 773 rfl rfl
set_option maxRecDepth 100000 in
theorem wsl_Mo_connect : Cond.selects "TrackKeeperModel" y_Mo_connect y_Mo_connect ∈ tk_tbl := tk_mw 774 rfl rfl
set_option maxRecDepth 100000 in
theorem wc_Mo_report : Cond.code y_Mo_report prog_8_method_22_code 5 (some .boolean) ∈ tk_tbl := tk_mw 779 rfl rfl
set_option maxRecDepth 100000 in
theorem wi_Mo_report : Cond.instanceMethod y_Mo_report ∈ tk_tbl := tk_mw 777 rfl rfl
set_option maxRecDepth 100000 in
theorem wsl_Mo_report : Cond.selects "TrackKeeperModel" y_Mo_report y_Mo_report ∈ tk_tbl := tk_mw 778 rfl rfl
set_option maxRecDepth 100000 in
theorem wc_Mo_leave : Cond.code y_Mo_leave prog_8_method_23_code 2 none ∈ tk_tbl := tk_mw 783 rfl rfl
set_option maxRecDepth 100000 in
theorem wi_Mo_leave : Cond.instanceMethod y_Mo_leave ∈ tk_tbl := tk_mw 781 rfl rfl
set_option maxRecDepth 100000 in
theorem wsl_Mo_leave : Cond.selects "TrackKeeperModel" y_Mo_leave y_Mo_leave ∈ tk_tbl := tk_mw 782 rfl rfl
set_option maxRecDepth 100000 in
theorem wc_Mo_tick : Cond.code y_Mo_tick prog_8_method_24_code 4 (some .int) ∈ tk_tbl := tk_mw 787 rfl rfl
set_option maxRecDepth 100000 in
theorem wi_Mo_tick : Cond.instanceMethod y_Mo_tick ∈ tk_tbl := tk_mw 785 rfl rfl
set_option maxRecDepth 100000 in
theorem wsl_Mo_tick : Cond.selects "TrackKeeperModel" y_Mo_tick y_Mo_tick ∈ tk_tbl := tk_mw 786 rfl rfl
set_option maxRecDepth 100000 in
theorem wc_Mo_request : Cond.code y_Mo_request prog_8_method_25_code 4 (some .int) ∈ tk_tbl := tk_mw 792 rfl rfl
set_option maxRecDepth 100000 in
theorem wi_Mo_request : Cond.instanceMethod y_Mo_request ∈ tk_tbl := tk_mw 790 rfl rfl
set_option maxRecDepth 100000 in
theorem wsl_Mo_request : Cond.selects "TrackKeeperModel" y_Mo_request y_Mo_request ∈ tk_tbl := tk_mw 791 rfl rfl
set_option maxRecDepth 100000 in
theorem wc_Mo_isTaken : Cond.code y_Mo_isTaken prog_8_method_26_code 4 (some .boolean) ∈ tk_tbl := tk_mw 796 rfl rfl
set_option maxRecDepth 100000 in
theorem wi_Mo_isTaken : Cond.instanceMethod y_Mo_isTaken ∈ tk_tbl := tk_mw 795 rfl rfl
set_option maxRecDepth 100000 in
theorem wsl_Mo_isTaken : Cond.selects "TrackKeeperModel" y_Mo_isTaken y_Mo_isTaken ∈ tk_tbl := tk_mw 24 rfl rfl
set_option maxRecDepth 100000 in
theorem wc_Mo_state : Cond.code y_Mo_state prog_8_method_27_code 2 (some .int) ∈ tk_tbl := tk_mw 800 rfl rfl
set_option maxRecDepth 100000 in
theorem wi_Mo_state : Cond.instanceMethod y_Mo_state ∈ tk_tbl := tk_mw 798 rfl rfl
set_option maxRecDepth 100000 in
theorem wsl_Mo_state : Cond.selects "TrackKeeperModel" y_Mo_state y_Mo_state ∈ tk_tbl := tk_mw 799 rfl rfl
set_option maxRecDepth 100000 in
theorem wc_Mo_train : Cond.code y_Mo_train prog_8_method_28_code 3 (some .int) ∈ tk_tbl := tk_mw 804 rfl rfl
set_option maxRecDepth 100000 in
theorem wi_Mo_train : Cond.instanceMethod y_Mo_train ∈ tk_tbl := tk_mw 802 rfl rfl
set_option maxRecDepth 100000 in
theorem wsl_Mo_train : Cond.selects "TrackKeeperModel" y_Mo_train y_Mo_train ∈ tk_tbl := tk_mw 803 rfl rfl
set_option maxRecDepth 100000 in
theorem wc_Mo_count : Cond.code y_Mo_count prog_8_method_29_code 3 (some .int) ∈ tk_tbl := tk_mw 808 rfl rfl
set_option maxRecDepth 100000 in
theorem wi_Mo_count : Cond.instanceMethod y_Mo_count ∈ tk_tbl := tk_mw 806 rfl rfl
set_option maxRecDepth 100000 in
theorem wsl_Mo_count : Cond.selects "TrackKeeperModel" y_Mo_count y_Mo_count ∈ tk_tbl := tk_mw 807 rfl rfl
set_option maxRecDepth 100000 in
theorem wc_Au_init : Cond.code y_Au_init prog_2_method_1_code 1 none ∈ tk_tbl := tk_mw 139 rfl rfl
set_option maxRecDepth 100000 in
theorem wi_Au_init : Cond.instanceMethod y_Au_init ∈ tk_tbl := tk_mw 138 rfl rfl
set_option maxRecDepth 100000 in
theorem wc_Au_forgetCounts : Cond.code y_Au_forgetCounts prog_2_method_2_code 1 none ∈ tk_tbl := tk_mw 381 rfl rfl
set_option maxRecDepth 100000 in
theorem wi_Au_forgetCounts : Cond.instanceMethod y_Au_forgetCounts ∈ tk_tbl := tk_mw 379 rfl rfl
set_option maxRecDepth 100000 in
theorem wsl_Au_forgetCounts : Cond.selects "TrackKeeper$Authorities" y_Au_forgetCounts y_Au_forgetCounts ∈ tk_tbl := tk_mw 380 rfl rfl
set_option maxRecDepth 100000 in
theorem wc_Au_extend : Cond.code y_Au_extend prog_2_method_3_code 7 none ∈ tk_tbl := tk_mw 539 rfl rfl
set_option maxRecDepth 100000 in
theorem wi_Au_extend : Cond.instanceMethod y_Au_extend ∈ tk_tbl := tk_mw 537 rfl rfl
set_option maxRecDepth 100000 in
theorem wsl_Au_extend : Cond.selects "TrackKeeper$Authorities" y_Au_extend y_Au_extend ∈ tk_tbl := tk_mw 538 rfl rfl
set_option maxRecDepth 100000 in
theorem wc_Au_isHeldByOther : Cond.code y_Au_isHeldByOther prog_2_method_4_code 5 (some .boolean) ∈ tk_tbl := tk_mw 543 rfl rfl
set_option maxRecDepth 100000 in
theorem wi_Au_isHeldByOther : Cond.instanceMethod y_Au_isHeldByOther ∈ tk_tbl := tk_mw 542 rfl rfl
set_option maxRecDepth 100000 in
theorem wsl_Au_isHeldByOther : Cond.selects "TrackKeeper$Authorities" y_Au_isHeldByOther y_Au_isHeldByOther ∈ tk_tbl := tk_mw 11 rfl rfl
set_option maxRecDepth 100000 in
theorem wc_Au_settle : Cond.code y_Au_settle prog_2_method_5_code 4 none ∈ tk_tbl := tk_mw 441 rfl rfl
set_option maxRecDepth 100000 in
theorem wi_Au_settle : Cond.instanceMethod y_Au_settle ∈ tk_tbl := tk_mw 439 rfl rfl
set_option maxRecDepth 100000 in
theorem wsl_Au_settle : Cond.selects "TrackKeeper$Authorities" y_Au_settle y_Au_settle ∈ tk_tbl := tk_mw 440 rfl rfl
set_option maxRecDepth 100000 in
theorem wc_Au_settleOne : Cond.code y_Au_settleOne prog_2_method_6_code 4 none ∈ tk_tbl := tk_mw 445 rfl rfl
set_option maxRecDepth 100000 in
theorem wi_Au_settleOne : Cond.instanceMethod y_Au_settleOne ∈ tk_tbl := tk_mw 444 rfl rfl
set_option maxRecDepth 100000 in
theorem wsl_Au_settleOne : Cond.selects "TrackKeeper$Authorities" y_Au_settleOne y_Au_settleOne ∈ tk_tbl := tk_mw 8 rfl rfl
set_option maxRecDepth 100000 in
theorem wc_Se_init : Cond.code y_Se_init prog_3_method_1_code 1 none ∈ tk_tbl := tk_mw 63 rfl rfl
set_option maxRecDepth 100000 in
theorem wi_Se_init : Cond.instanceMethod y_Se_init ∈ tk_tbl := tk_mw 62 rfl rfl
set_option maxRecDepth 100000 in
theorem wc_Su_init : Cond.code y_Su_init prog_4_method_1_code 1 none ∈ tk_tbl := tk_mw 89 rfl rfl
set_option maxRecDepth 100000 in
theorem wi_Su_init : Cond.instanceMethod y_Su_init ∈ tk_tbl := tk_mw 88 rfl rfl
set_option maxRecDepth 100000 in
theorem wc_Tr_init : Cond.code y_Tr_init prog_5_method_1_code 2 none ∈ tk_tbl := tk_mw 54 rfl rfl
set_option maxRecDepth 100000 in
theorem wi_Tr_init : Cond.instanceMethod y_Tr_init ∈ tk_tbl := tk_mw 53 rfl rfl
set_option maxRecDepth 100000 in
theorem wc_Tr_removeAll : Cond.code y_Tr_removeAll prog_5_method_2_code 1 none ∈ tk_tbl := tk_mw 239 rfl rfl
set_option maxRecDepth 100000 in
theorem wi_Tr_removeAll : Cond.instanceMethod y_Tr_removeAll ∈ tk_tbl := tk_mw 237 rfl rfl
set_option maxRecDepth 100000 in
theorem wsl_Tr_removeAll : Cond.selects "TrackKeeper$Track" y_Tr_removeAll y_Tr_removeAll ∈ tk_tbl := tk_mw 238 rfl rfl
set_option maxRecDepth 100000 in
theorem wc_Tr_latestIsBare : Cond.code y_Tr_latestIsBare prog_5_method_3_code 1 (some .boolean) ∈ tk_tbl := tk_mw 252 rfl rfl
set_option maxRecDepth 100000 in
theorem wi_Tr_latestIsBare : Cond.instanceMethod y_Tr_latestIsBare ∈ tk_tbl := tk_mw 250 rfl rfl
set_option maxRecDepth 100000 in
theorem wsl_Tr_latestIsBare : Cond.selects "TrackKeeper$Track" y_Tr_latestIsBare y_Tr_latestIsBare ∈ tk_tbl := tk_mw 251 rfl rfl
set_option maxRecDepth 100000 in
theorem wc_Tr_hasSection : Cond.code y_Tr_hasSection prog_5_method_4_code 2 (some .boolean) ∈ tk_tbl := tk_mw 400 rfl rfl
set_option maxRecDepth 100000 in
theorem wi_Tr_hasSection : Cond.instanceMethod y_Tr_hasSection ∈ tk_tbl := tk_mw 398 rfl rfl
set_option maxRecDepth 100000 in
theorem wsl_Tr_hasSection : Cond.selects "TrackKeeper$Track" y_Tr_hasSection y_Tr_hasSection ∈ tk_tbl := tk_mw 399 rfl rfl
set_option maxRecDepth 100000 in
theorem wc_Tr_hasSubsection : Cond.code y_Tr_hasSubsection prog_5_method_5_code 2 (some .boolean) ∈ tk_tbl := tk_mw 535 rfl rfl
set_option maxRecDepth 100000 in
theorem wi_Tr_hasSubsection : Cond.instanceMethod y_Tr_hasSubsection ∈ tk_tbl := tk_mw 533 rfl rfl
set_option maxRecDepth 100000 in
theorem wsl_Tr_hasSubsection : Cond.selects "TrackKeeper$Track" y_Tr_hasSubsection y_Tr_hasSubsection ∈ tk_tbl := tk_mw 534 rfl rfl
set_option maxRecDepth 100000 in
theorem wc_Tr_addSection : Cond.code y_Tr_addSection prog_5_method_6_code 1 (some .int) ∈ tk_tbl := tk_mw 335 rfl rfl
set_option maxRecDepth 100000 in
theorem wi_Tr_addSection : Cond.instanceMethod y_Tr_addSection ∈ tk_tbl := tk_mw 333 rfl rfl
set_option maxRecDepth 100000 in
theorem wsl_Tr_addSection : Cond.selects "TrackKeeper$Track" y_Tr_addSection y_Tr_addSection ∈ tk_tbl := tk_mw 334 rfl rfl
set_option maxRecDepth 100000 in
theorem wc_Tr_addSubsection : Cond.code y_Tr_addSubsection prog_5_method_7_code 2 (some .int) ∈ tk_tbl := tk_mw 366 rfl rfl
set_option maxRecDepth 100000 in
theorem wi_Tr_addSubsection : Cond.instanceMethod y_Tr_addSubsection ∈ tk_tbl := tk_mw 364 rfl rfl
set_option maxRecDepth 100000 in
theorem wsl_Tr_addSubsection : Cond.selects "TrackKeeper$Track" y_Tr_addSubsection y_Tr_addSubsection ∈ tk_tbl := tk_mw 365 rfl rfl
set_option maxRecDepth 100000 in
theorem wc_Tr_emptyAll : Cond.code y_Tr_emptyAll prog_5_method_8_code 2 none ∈ tk_tbl := tk_mw 377 rfl rfl
set_option maxRecDepth 100000 in
theorem wi_Tr_emptyAll : Cond.instanceMethod y_Tr_emptyAll ∈ tk_tbl := tk_mw 375 rfl rfl
set_option maxRecDepth 100000 in
theorem wsl_Tr_emptyAll : Cond.selects "TrackKeeper$Track" y_Tr_emptyAll y_Tr_emptyAll ∈ tk_tbl := tk_mw 376 rfl rfl
set_option maxRecDepth 100000 in
theorem wc_Tr_subsectionAt : Cond.code y_Tr_subsectionAt prog_5_method_9_code 3 (some .int) ∈ tk_tbl := tk_mw 501 rfl rfl
set_option maxRecDepth 100000 in
theorem wi_Tr_subsectionAt : Cond.instanceMethod y_Tr_subsectionAt ∈ tk_tbl := tk_mw 499 rfl rfl
set_option maxRecDepth 100000 in
theorem wsl_Tr_subsectionAt : Cond.selects "TrackKeeper$Track" y_Tr_subsectionAt y_Tr_subsectionAt ∈ tk_tbl := tk_mw 500 rfl rfl
set_option maxRecDepth 100000 in
theorem wc_Tr_countForSpreads : Cond.code y_Tr_countForSpreads prog_5_method_10_code 3 none ∈ tk_tbl := tk_mw 520 rfl rfl
set_option maxRecDepth 100000 in
theorem wi_Tr_countForSpreads : Cond.instanceMethod y_Tr_countForSpreads ∈ tk_tbl := tk_mw 518 rfl rfl
set_option maxRecDepth 100000 in
theorem wsl_Tr_countForSpreads : Cond.selects "TrackKeeper$Track" y_Tr_countForSpreads y_Tr_countForSpreads ∈ tk_tbl := tk_mw 519 rfl rfl
set_option maxRecDepth 100000 in
theorem wc_Tr_countForSpread : Cond.code y_Tr_countForSpread prog_5_method_11_code 3 none ∈ tk_tbl := tk_mw 524 rfl rfl
set_option maxRecDepth 100000 in
theorem wi_Tr_countForSpread : Cond.instanceMethod y_Tr_countForSpread ∈ tk_tbl := tk_mw 523 rfl rfl
set_option maxRecDepth 100000 in
theorem wsl_Tr_countForSpread : Cond.selects "TrackKeeper$Track" y_Tr_countForSpread y_Tr_countForSpread ∈ tk_tbl := tk_mw 10 rfl rfl
set_option maxRecDepth 100000 in
theorem wc_Tr_isUnsure : Cond.code y_Tr_isUnsure prog_5_method_12_code 3 (some .boolean) ∈ tk_tbl := tk_mw 437 rfl rfl
set_option maxRecDepth 100000 in
theorem wi_Tr_isUnsure : Cond.instanceMethod y_Tr_isUnsure ∈ tk_tbl := tk_mw 436 rfl rfl
set_option maxRecDepth 100000 in
theorem wsl_Tr_isUnsure : Cond.selects "TrackKeeper$Track" y_Tr_isUnsure y_Tr_isUnsure ∈ tk_tbl := tk_mw 7 rfl rfl
set_option maxRecDepth 100000 in
theorem wc_Tr_findStates : Cond.code y_Tr_findStates prog_5_method_13_code 3 none ∈ tk_tbl := tk_mw 413 rfl rfl
set_option maxRecDepth 100000 in
theorem wi_Tr_findStates : Cond.instanceMethod y_Tr_findStates ∈ tk_tbl := tk_mw 411 rfl rfl
set_option maxRecDepth 100000 in
theorem wsl_Tr_findStates : Cond.selects "TrackKeeper$Track" y_Tr_findStates y_Tr_findStates ∈ tk_tbl := tk_mw 412 rfl rfl
set_option maxRecDepth 100000 in
theorem wc_Tr_markTrains : Cond.code y_Tr_markTrains prog_5_method_14_code 3 none ∈ tk_tbl := tk_mw 417 rfl rfl
set_option maxRecDepth 100000 in
theorem wi_Tr_markTrains : Cond.instanceMethod y_Tr_markTrains ∈ tk_tbl := tk_mw 416 rfl rfl
set_option maxRecDepth 100000 in
theorem wsl_Tr_markTrains : Cond.selects "TrackKeeper$Track" y_Tr_markTrains y_Tr_markTrains ∈ tk_tbl := tk_mw 3 rfl rfl
set_option maxRecDepth 100000 in
theorem wc_Tr_markTrain : Cond.code y_Tr_markTrain prog_5_method_15_code 4 none ∈ tk_tbl := tk_mw 421 rfl rfl
set_option maxRecDepth 100000 in
theorem wi_Tr_markTrain : Cond.instanceMethod y_Tr_markTrain ∈ tk_tbl := tk_mw 420 rfl rfl
set_option maxRecDepth 100000 in
theorem wsl_Tr_markTrain : Cond.selects "TrackKeeper$Track" y_Tr_markTrain y_Tr_markTrain ∈ tk_tbl := tk_mw 4 rfl rfl
set_option maxRecDepth 100000 in
theorem wc_Tr_nothingCanFollow : Cond.code y_Tr_nothingCanFollow prog_5_method_16_code 2 (some .boolean) ∈ tk_tbl := tk_mw 425 rfl rfl
set_option maxRecDepth 100000 in
theorem wi_Tr_nothingCanFollow : Cond.instanceMethod y_Tr_nothingCanFollow ∈ tk_tbl := tk_mw 424 rfl rfl
set_option maxRecDepth 100000 in
theorem wsl_Tr_nothingCanFollow : Cond.selects "TrackKeeper$Track" y_Tr_nothingCanFollow y_Tr_nothingCanFollow ∈ tk_tbl := tk_mw 5 rfl rfl
set_option maxRecDepth 100000 in
theorem wc_Tr_newState : Cond.code y_Tr_newState prog_5_method_17_code 5 (some .int) ∈ tk_tbl := tk_mw 429 rfl rfl
set_option maxRecDepth 100000 in
theorem wi_Tr_newState : Cond.instanceMethod y_Tr_newState ∈ tk_tbl := tk_mw 428 rfl rfl
set_option maxRecDepth 100000 in
theorem wsl_Tr_newState : Cond.selects "TrackKeeper$Track" y_Tr_newState y_Tr_newState ∈ tk_tbl := tk_mw 6 rfl rfl
set_option maxRecDepth 100000 in
theorem wc_Ti_init : Cond.code y_Ti_init prog_6_method_1_code 1 none ∈ tk_tbl := tk_mw 155 rfl rfl
set_option maxRecDepth 100000 in
theorem wi_Ti_init : Cond.instanceMethod y_Ti_init ∈ tk_tbl := tk_mw 154 rfl rfl
set_option maxRecDepth 100000 in
theorem wc_Ti_forgetAll : Cond.code y_Ti_forgetAll prog_6_method_2_code 1 none ∈ tk_tbl := tk_mw 385 rfl rfl
set_option maxRecDepth 100000 in
theorem wi_Ti_forgetAll : Cond.instanceMethod y_Ti_forgetAll ∈ tk_tbl := tk_mw 383 rfl rfl
set_option maxRecDepth 100000 in
theorem wsl_Ti_forgetAll : Cond.selects "TrackKeeper$Train" y_Ti_forgetAll y_Ti_forgetAll ∈ tk_tbl := tk_mw 384 rfl rfl
set_option maxRecDepth 100000 in
theorem wc_Ti_join : Cond.code y_Ti_join prog_6_method_3_code 2 none ∈ tk_tbl := tk_mw 459 rfl rfl
set_option maxRecDepth 100000 in
theorem wi_Ti_join : Cond.instanceMethod y_Ti_join ∈ tk_tbl := tk_mw 457 rfl rfl
set_option maxRecDepth 100000 in
theorem wsl_Ti_join : Cond.selects "TrackKeeper$Train" y_Ti_join y_Ti_join ∈ tk_tbl := tk_mw 458 rfl rfl
set_option maxRecDepth 100000 in
theorem wc_Ti_wasBeyond : Cond.code y_Ti_wasBeyond prog_6_method_4_code 2 (some .boolean) ∈ tk_tbl := tk_mw 490 rfl rfl
set_option maxRecDepth 100000 in
theorem wi_Ti_wasBeyond : Cond.instanceMethod y_Ti_wasBeyond ∈ tk_tbl := tk_mw 488 rfl rfl
set_option maxRecDepth 100000 in
theorem wsl_Ti_wasBeyond : Cond.selects "TrackKeeper$Train" y_Ti_wasBeyond y_Ti_wasBeyond ∈ tk_tbl := tk_mw 489 rfl rfl
set_option maxRecDepth 100000 in
theorem wc_Ti_take : Cond.code y_Ti_take prog_6_method_5_code 5 none ∈ tk_tbl := tk_mw 494 rfl rfl
set_option maxRecDepth 100000 in
theorem wi_Ti_take : Cond.instanceMethod y_Ti_take ∈ tk_tbl := tk_mw 492 rfl rfl
set_option maxRecDepth 100000 in
theorem wsl_Ti_take : Cond.selects "TrackKeeper$Train" y_Ti_take y_Ti_take ∈ tk_tbl := tk_mw 493 rfl rfl
set_option maxRecDepth 100000 in
theorem wc_Ti_judge : Cond.code y_Ti_judge prog_6_method_6_code 4 none ∈ tk_tbl := tk_mw 409 rfl rfl
set_option maxRecDepth 100000 in
theorem wi_Ti_judge : Cond.instanceMethod y_Ti_judge ∈ tk_tbl := tk_mw 407 rfl rfl
set_option maxRecDepth 100000 in
theorem wsl_Ti_judge : Cond.selects "TrackKeeper$Train" y_Ti_judge y_Ti_judge ∈ tk_tbl := tk_mw 408 rfl rfl
set_option maxRecDepth 100000 in
theorem wc_Ti_hasLeft : Cond.code y_Ti_hasLeft prog_6_method_7_code 2 (some .boolean) ∈ tk_tbl := tk_mw 433 rfl rfl
set_option maxRecDepth 100000 in
theorem wi_Ti_hasLeft : Cond.instanceMethod y_Ti_hasLeft ∈ tk_tbl := tk_mw 431 rfl rfl
set_option maxRecDepth 100000 in
theorem wsl_Ti_hasLeft : Cond.selects "TrackKeeper$Train" y_Ti_hasLeft y_Ti_hasLeft ∈ tk_tbl := tk_mw 432 rfl rfl
set_option maxRecDepth 100000 in
theorem wc_Ti_holds : Cond.code y_Ti_holds prog_6_method_8_code 2 (some .boolean) ∈ tk_tbl := tk_mw 547 rfl rfl
set_option maxRecDepth 100000 in
theorem wi_Ti_holds : Cond.instanceMethod y_Ti_holds ∈ tk_tbl := tk_mw 545 rfl rfl
set_option maxRecDepth 100000 in
theorem wsl_Ti_holds : Cond.selects "TrackKeeper$Train" y_Ti_holds y_Ti_holds ∈ tk_tbl := tk_mw 546 rfl rfl
set_option maxRecDepth 100000 in
theorem wc_Ti_tell : Cond.code y_Ti_tell prog_6_method_9_code 2 (some .int) ∈ tk_tbl := tk_mw 565 rfl rfl
set_option maxRecDepth 100000 in
theorem wi_Ti_tell : Cond.instanceMethod y_Ti_tell ∈ tk_tbl := tk_mw 563 rfl rfl
set_option maxRecDepth 100000 in
theorem wsl_Ti_tell : Cond.selects "TrackKeeper$Train" y_Ti_tell y_Ti_tell ∈ tk_tbl := tk_mw 564 rfl rfl
set_option maxRecDepth 100000 in
theorem wst_La_section : Cond.static y_La_section ∈ tk_tbl := tk_mw 241 rfl rfl
set_option maxRecDepth 100000 in
theorem wst_La_sub : Cond.static y_La_sub ∈ tk_tbl := tk_mw 337 rfl rfl
set_option maxRecDepth 100000 in
theorem wst_La_begin : Cond.static y_La_begin ∈ tk_tbl := tk_mw 368 rfl rfl
set_option maxRecDepth 100000 in
theorem wst_La_detect : Cond.static y_La_detect ∈ tk_tbl := tk_mw 387 rfl rfl
set_option maxRecDepth 100000 in
theorem wst_La_connect : Cond.static y_La_connect ∈ tk_tbl := tk_mw 447 rfl rfl
set_option maxRecDepth 100000 in
theorem wst_La_report : Cond.static y_La_report ∈ tk_tbl := tk_mw 461 rfl rfl
set_option maxRecDepth 100000 in
theorem wst_La_leave : Cond.static y_La_leave ∈ tk_tbl := tk_mw 503 rfl rfl
set_option maxRecDepth 100000 in
theorem wst_La_tick : Cond.static y_La_tick ∈ tk_tbl := tk_mw 510 rfl rfl
set_option maxRecDepth 100000 in
theorem wst_La_request : Cond.static y_La_request ∈ tk_tbl := tk_mw 526 rfl rfl
set_option maxRecDepth 100000 in
theorem wst_La_state : Cond.static y_La_state ∈ tk_tbl := tk_mw 549 rfl rfl
set_option maxRecDepth 100000 in
theorem wst_La_train : Cond.static y_La_train ∈ tk_tbl := tk_mw 556 rfl rfl
set_option maxRecDepth 100000 in
theorem wst_La_count : Cond.static y_La_count ∈ tk_tbl := tk_mw 567 rfl rfl
set_option maxRecDepth 100000 in
theorem wc_In_bitCount : Cond.code y_In_bitCount prog_13_method_49_code 1 (some .int) ∈ tk_tbl := tk_mw 753 rfl rfl
set_option maxRecDepth 100000 in
theorem wst_In_bitCount : Cond.static y_In_bitCount ∈ tk_tbl := tk_mw 752 rfl rfl
set_option maxRecDepth 100000 in
theorem wn_TK : Cond.initialized "TrackKeeper" ∈ tk_tbl := tk_mw 26 rfl rfl
set_option maxRecDepth 100000 in
theorem wn_Au : Cond.initialized "TrackKeeper$Authorities" ∈ tk_tbl := tk_mw 30 rfl rfl
set_option maxRecDepth 100000 in
theorem wn_Se : Cond.initialized "TrackKeeper$Section" ∈ tk_tbl := tk_mw 28 rfl rfl
set_option maxRecDepth 100000 in
theorem wn_Su : Cond.initialized "TrackKeeper$Subsection" ∈ tk_tbl := tk_mw 29 rfl rfl
set_option maxRecDepth 100000 in
theorem wn_Tr : Cond.initialized "TrackKeeper$Track" ∈ tk_tbl := tk_mw 27 rfl rfl
set_option maxRecDepth 100000 in
theorem wn_Ti : Cond.initialized "TrackKeeper$Train" ∈ tk_tbl := tk_mw 31 rfl rfl
set_option maxRecDepth 100000 in
theorem wn_Mo : Cond.initialized "TrackKeeperModel" ∈ tk_tbl := tk_mw 32 rfl rfl
set_option maxRecDepth 100000 in
theorem wn_La : Cond.initialized "TrackKeeperLaw" ∈ tk_tbl := tk_mw 25 rfl rfl
set_option maxRecDepth 100000 in
theorem wn_In : Cond.initialized "java/lang/Integer" ∈ tk_tbl := tk_mw 39 rfl rfl
set_option maxRecDepth 100000 in
theorem lk_La_61 : tk_lnk "TrackKeeperLaw" 61 y_TK_init 0 := ⟨tk_mw 44 rfl rfl, by decide, by decide +kernel, by decide +kernel⟩
set_option maxRecDepth 100000 in
theorem lk_TK_9 : tk_lnk "TrackKeeper" 9 y_Tr_init 0 := ⟨tk_mw 52 rfl rfl, by decide, by decide +kernel, by decide +kernel⟩
set_option maxRecDepth 100000 in
theorem lk_La_82 : tk_lnk "TrackKeeperLaw" 82 y_TK_clear 0 := ⟨tk_mw 232 rfl rfl, by decide, by decide +kernel, by decide +kernel⟩
set_option maxRecDepth 100000 in
theorem lk_TK_91 : tk_lnk "TrackKeeper" 91 y_Tr_removeAll 0 := ⟨tk_mw 236 rfl rfl, by decide, by decide +kernel, by decide +kernel⟩
set_option maxRecDepth 100000 in
theorem lk_La_65 : tk_lnk "TrackKeeperLaw" 65 y_La_section 2 := ⟨tk_mw 240 rfl rfl, by decide, by decide +kernel, by decide +kernel⟩
set_option maxRecDepth 100000 in
theorem lk_La_7 : tk_lnk "TrackKeeperLaw" 7 y_TK_section 0 := ⟨tk_mw 245 rfl rfl, by decide, by decide +kernel, by decide +kernel⟩
set_option maxRecDepth 100000 in
theorem lk_TK_34 : tk_lnk "TrackKeeper" 34 y_Tr_latestIsBare 0 := ⟨tk_mw 249 rfl rfl, by decide, by decide +kernel, by decide +kernel⟩
set_option maxRecDepth 100000 in
theorem lk_TK_48 : tk_lnk "TrackKeeper" 48 y_Tr_addSection 0 := ⟨tk_mw 332 rfl rfl, by decide, by decide +kernel, by decide +kernel⟩
set_option maxRecDepth 100000 in
theorem lk_La_74 : tk_lnk "TrackKeeperLaw" 74 y_La_sub 3 := ⟨tk_mw 336 rfl rfl, by decide, by decide +kernel, by decide +kernel⟩
set_option maxRecDepth 100000 in
theorem lk_La_17 : tk_lnk "TrackKeeperLaw" 17 y_TK_sub 1 := ⟨tk_mw 340 rfl rfl, by decide, by decide +kernel, by decide +kernel⟩
set_option maxRecDepth 100000 in
theorem lk_TK_53 : tk_lnk "TrackKeeper" 53 y_TK_isWithin 3 := ⟨tk_mw 345 rfl rfl, by decide, by decide +kernel, by decide +kernel⟩
set_option maxRecDepth 100000 in
theorem lk_TK_63 : tk_lnk "TrackKeeper" 63 y_Tr_addSubsection 1 := ⟨tk_mw 363 rfl rfl, by decide, by decide +kernel, by decide +kernel⟩
set_option maxRecDepth 100000 in
theorem lk_La_78 : tk_lnk "TrackKeeperLaw" 78 y_La_begin 5 := ⟨tk_mw 367 rfl rfl, by decide, by decide +kernel, by decide +kernel⟩
set_option maxRecDepth 100000 in
theorem lk_La_23 : tk_lnk "TrackKeeperLaw" 23 y_TK_begin 3 := ⟨tk_mw 370 rfl rfl, by decide, by decide +kernel, by decide +kernel⟩
set_option maxRecDepth 100000 in
theorem lk_TK_79 : tk_lnk "TrackKeeper" 79 y_Tr_emptyAll 0 := ⟨tk_mw 374 rfl rfl, by decide, by decide +kernel, by decide +kernel⟩
set_option maxRecDepth 100000 in
theorem lk_TK_82 : tk_lnk "TrackKeeper" 82 y_Au_forgetCounts 0 := ⟨tk_mw 378 rfl rfl, by decide, by decide +kernel, by decide +kernel⟩
set_option maxRecDepth 100000 in
theorem lk_TK_85 : tk_lnk "TrackKeeper" 85 y_Ti_forgetAll 0 := ⟨tk_mw 382 rfl rfl, by decide, by decide +kernel, by decide +kernel⟩
set_option maxRecDepth 100000 in
theorem lk_La_86 : tk_lnk "TrackKeeperLaw" 86 y_La_detect 3 := ⟨tk_mw 386 rfl rfl, by decide, by decide +kernel, by decide +kernel⟩
set_option maxRecDepth 100000 in
theorem lk_La_27 : tk_lnk "TrackKeeperLaw" 27 y_TK_detect 2 := ⟨tk_mw 389 rfl rfl, by decide, by decide +kernel, by decide +kernel⟩
set_option maxRecDepth 100000 in
theorem lk_TK_94 : tk_lnk "TrackKeeper" 94 y_TK_requireBegun 0 := ⟨tk_mw 393 rfl rfl, by decide, by decide +kernel, by decide +kernel⟩
set_option maxRecDepth 100000 in
theorem lk_TK_97 : tk_lnk "TrackKeeper" 97 y_Tr_hasSection 1 := ⟨tk_mw 397 rfl rfl, by decide, by decide +kernel, by decide +kernel⟩
set_option maxRecDepth 100000 in
theorem lk_TK_110 : tk_lnk "TrackKeeper" 110 y_TK_findAllAnew 0 := ⟨tk_mw 402 rfl rfl, by decide, by decide +kernel, by decide +kernel⟩
set_option maxRecDepth 100000 in
theorem lk_TK_181 : tk_lnk "TrackKeeper" 181 y_Ti_judge 3 := ⟨tk_mw 406 rfl rfl, by decide, by decide +kernel, by decide +kernel⟩
set_option maxRecDepth 100000 in
theorem lk_TK_185 : tk_lnk "TrackKeeper" 185 y_Tr_findStates 1 := ⟨tk_mw 410 rfl rfl, by decide, by decide +kernel, by decide +kernel⟩
set_option maxRecDepth 100000 in
theorem lk_Tr_75 : tk_lnk "TrackKeeper$Track" 75 y_Tr_markTrains 1 := ⟨tk_mw 414 rfl rfl, by decide, by decide +kernel, by decide +kernel⟩
set_option maxRecDepth 100000 in
theorem lk_Tr_94 : tk_lnk "TrackKeeper$Track" 94 y_Tr_markTrain 2 := ⟨tk_mw 418 rfl rfl, by decide, by decide +kernel, by decide +kernel⟩
set_option maxRecDepth 100000 in
theorem lk_Tr_104 : tk_lnk "TrackKeeper$Track" 104 y_Tr_nothingCanFollow 1 := ⟨tk_mw 422 rfl rfl, by decide, by decide +kernel, by decide +kernel⟩
set_option maxRecDepth 100000 in
theorem lk_Tr_79 : tk_lnk "TrackKeeper$Track" 79 y_Tr_newState 3 := ⟨tk_mw 426 rfl rfl, by decide, by decide +kernel, by decide +kernel⟩
set_option maxRecDepth 100000 in
theorem lk_Tr_117 : tk_lnk "TrackKeeper$Track" 117 y_Ti_hasLeft 1 := ⟨tk_mw 430 rfl rfl, by decide, by decide +kernel, by decide +kernel⟩
set_option maxRecDepth 100000 in
theorem lk_Tr_64 : tk_lnk "TrackKeeper$Track" 64 y_Tr_isUnsure 1 := ⟨tk_mw 434 rfl rfl, by decide, by decide +kernel, by decide +kernel⟩
set_option maxRecDepth 100000 in
theorem lk_TK_189 : tk_lnk "TrackKeeper" 189 y_Au_settle 2 := ⟨tk_mw 438 rfl rfl, by decide, by decide +kernel, by decide +kernel⟩
set_option maxRecDepth 100000 in
theorem lk_Au_45 : tk_lnk "TrackKeeper$Authorities" 45 y_Au_settleOne 2 := ⟨tk_mw 442 rfl rfl, by decide, by decide +kernel, by decide +kernel⟩
set_option maxRecDepth 100000 in
theorem lk_La_90 : tk_lnk "TrackKeeperLaw" 90 y_La_connect 3 := ⟨tk_mw 446 rfl rfl, by decide, by decide +kernel, by decide +kernel⟩
set_option maxRecDepth 100000 in
theorem lk_La_31 : tk_lnk "TrackKeeperLaw" 31 y_TK_connect 2 := ⟨tk_mw 449 rfl rfl, by decide, by decide +kernel, by decide +kernel⟩
set_option maxRecDepth 100000 in
theorem lk_TK_113 : tk_lnk "TrackKeeper" 113 y_TK_isTrain 1 := ⟨tk_mw 453 rfl rfl, by decide, by decide +kernel, by decide +kernel⟩
set_option maxRecDepth 100000 in
theorem lk_TK_116 : tk_lnk "TrackKeeper" 116 y_Ti_join 1 := ⟨tk_mw 456 rfl rfl, by decide, by decide +kernel, by decide +kernel⟩
set_option maxRecDepth 100000 in
theorem lk_La_94 : tk_lnk "TrackKeeperLaw" 94 y_La_report 5 := ⟨tk_mw 460 rfl rfl, by decide, by decide +kernel, by decide +kernel⟩
set_option maxRecDepth 100000 in
theorem lk_La_35 : tk_lnk "TrackKeeperLaw" 35 y_TK_report 3 := ⟨tk_mw 464 rfl rfl, by decide, by decide +kernel, by decide +kernel⟩
set_option maxRecDepth 100000 in
theorem lk_TK_120 : tk_lnk "TrackKeeper" 120 y_TK_requireConnected 1 := ⟨tk_mw 468 rfl rfl, by decide, by decide +kernel, by decide +kernel⟩
set_option maxRecDepth 100000 in
theorem lk_TK_123 : tk_lnk "TrackKeeper" 123 y_Ti_wasBeyond 1 := ⟨tk_mw 487 rfl rfl, by decide, by decide +kernel, by decide +kernel⟩
set_option maxRecDepth 100000 in
theorem lk_TK_126 : tk_lnk "TrackKeeper" 126 y_Ti_take 4 := ⟨tk_mw 491 rfl rfl, by decide, by decide +kernel, by decide +kernel⟩
set_option maxRecDepth 100000 in
theorem lk_Ti_43 : tk_lnk "TrackKeeper$Train" 43 y_Tr_subsectionAt 1 := ⟨tk_mw 498 rfl rfl, by decide, by decide +kernel, by decide +kernel⟩
set_option maxRecDepth 100000 in
theorem lk_La_97 : tk_lnk "TrackKeeperLaw" 97 y_La_leave 2 := ⟨tk_mw 502 rfl rfl, by decide, by decide +kernel, by decide +kernel⟩
set_option maxRecDepth 100000 in
theorem lk_La_41 : tk_lnk "TrackKeeperLaw" 41 y_TK_leave 1 := ⟨tk_mw 505 rfl rfl, by decide, by decide +kernel, by decide +kernel⟩
set_option maxRecDepth 100000 in
theorem lk_La_101 : tk_lnk "TrackKeeperLaw" 101 y_La_tick 3 := ⟨tk_mw 509 rfl rfl, by decide, by decide +kernel, by decide +kernel⟩
set_option maxRecDepth 100000 in
theorem lk_La_45 : tk_lnk "TrackKeeperLaw" 45 y_TK_tick 1 := ⟨tk_mw 512 rfl rfl, by decide, by decide +kernel, by decide +kernel⟩
set_option maxRecDepth 100000 in
theorem lk_TK_134 : tk_lnk "TrackKeeper" 134 y_Tr_countForSpreads 1 := ⟨tk_mw 517 rfl rfl, by decide, by decide +kernel, by decide +kernel⟩
set_option maxRecDepth 100000 in
theorem lk_Tr_68 : tk_lnk "TrackKeeper$Track" 68 y_Tr_countForSpread 2 := ⟨tk_mw 521 rfl rfl, by decide, by decide +kernel, by decide +kernel⟩
set_option maxRecDepth 100000 in
theorem lk_La_104 : tk_lnk "TrackKeeperLaw" 104 y_La_request 4 := ⟨tk_mw 525 rfl rfl, by decide, by decide +kernel, by decide +kernel⟩
set_option maxRecDepth 100000 in
theorem lk_La_48 : tk_lnk "TrackKeeperLaw" 48 y_TK_request 2 := ⟨tk_mw 528 rfl rfl, by decide, by decide +kernel, by decide +kernel⟩
set_option maxRecDepth 100000 in
theorem lk_TK_137 : tk_lnk "TrackKeeper" 137 y_Tr_hasSubsection 1 := ⟨tk_mw 532 rfl rfl, by decide, by decide +kernel, by decide +kernel⟩
set_option maxRecDepth 100000 in
theorem lk_TK_146 : tk_lnk "TrackKeeper" 146 y_Au_extend 4 := ⟨tk_mw 536 rfl rfl, by decide, by decide +kernel, by decide +kernel⟩
set_option maxRecDepth 100000 in
theorem lk_Au_34 : tk_lnk "TrackKeeper$Authorities" 34 y_Au_isHeldByOther 3 := ⟨tk_mw 540 rfl rfl, by decide, by decide +kernel, by decide +kernel⟩
set_option maxRecDepth 100000 in
theorem lk_Au_41 : tk_lnk "TrackKeeper$Authorities" 41 y_Ti_holds 1 := ⟨tk_mw 544 rfl rfl, by decide, by decide +kernel, by decide +kernel⟩
set_option maxRecDepth 100000 in
theorem lk_La_108 : tk_lnk "TrackKeeperLaw" 108 y_La_state 3 := ⟨tk_mw 548 rfl rfl, by decide, by decide +kernel, by decide +kernel⟩
set_option maxRecDepth 100000 in
theorem lk_La_52 : tk_lnk "TrackKeeperLaw" 52 y_TK_state 1 := ⟨tk_mw 551 rfl rfl, by decide, by decide +kernel, by decide +kernel⟩
set_option maxRecDepth 100000 in
theorem lk_La_111 : tk_lnk "TrackKeeperLaw" 111 y_La_train 4 := ⟨tk_mw 555 rfl rfl, by decide, by decide +kernel, by decide +kernel⟩
set_option maxRecDepth 100000 in
theorem lk_La_55 : tk_lnk "TrackKeeperLaw" 55 y_TK_train 2 := ⟨tk_mw 558 rfl rfl, by decide, by decide +kernel, by decide +kernel⟩
set_option maxRecDepth 100000 in
theorem lk_TK_162 : tk_lnk "TrackKeeper" 162 y_Ti_tell 1 := ⟨tk_mw 562 rfl rfl, by decide, by decide +kernel, by decide +kernel⟩
set_option maxRecDepth 100000 in
theorem lk_La_114 : tk_lnk "TrackKeeperLaw" 114 y_La_count 4 := ⟨tk_mw 566 rfl rfl, by decide, by decide +kernel, by decide +kernel⟩
set_option maxRecDepth 100000 in
theorem lk_La_58 : tk_lnk "TrackKeeperLaw" 58 y_TK_count 2 := ⟨tk_mw 569 rfl rfl, by decide, by decide +kernel, by decide +kernel⟩
set_option maxRecDepth 100000 in
theorem lk_TK_165 : tk_lnk "TrackKeeper" 165 y_TK_countSinceBegin 2 := ⟨tk_mw 573 rfl rfl, by decide, by decide +kernel, by decide +kernel⟩
set_option maxRecDepth 100000 in
theorem lk_La_64 : tk_lnk "TrackKeeperLaw" 64 y_Mo_init 0 := ⟨tk_mw 579 rfl rfl, by decide, by decide +kernel, by decide +kernel⟩
set_option maxRecDepth 100000 in
theorem lk_La_71 : tk_lnk "TrackKeeperLaw" 71 y_Mo_thrown 0 := ⟨tk_mw 691 rfl rfl, by decide, by decide +kernel, by decide +kernel⟩
set_option maxRecDepth 100000 in
theorem lk_La_70 : tk_lnk "TrackKeeperLaw" 70 y_Mo_section 0 := ⟨tk_mw 695 rfl rfl, by decide, by decide +kernel, by decide +kernel⟩
set_option maxRecDepth 100000 in
theorem lk_Mo_94 : tk_lnk "TrackKeeperModel" 94 y_Mo_isWaiting 0 := ⟨tk_mw 699 rfl rfl, by decide, by decide +kernel, by decide +kernel⟩
set_option maxRecDepth 100000 in
theorem lk_Mo_98 : tk_lnk "TrackKeeperModel" 98 y_Mo_fails 2 := ⟨tk_mw 703 rfl rfl, by decide, by decide +kernel, by decide +kernel⟩
set_option maxRecDepth 100000 in
theorem lk_La_77 : tk_lnk "TrackKeeperLaw" 77 y_Mo_sub 1 := ⟨tk_mw 707 rfl rfl, by decide, by decide +kernel, by decide +kernel⟩
set_option maxRecDepth 100000 in
theorem lk_Mo_103 : tk_lnk "TrackKeeperModel" 103 y_Mo_in 3 := ⟨tk_mw 712 rfl rfl, by decide, by decide +kernel, by decide +kernel⟩
set_option maxRecDepth 100000 in
theorem lk_La_81 : tk_lnk "TrackKeeperLaw" 81 y_Mo_begin 3 := ⟨tk_mw 715 rfl rfl, by decide, by decide +kernel, by decide +kernel⟩
set_option maxRecDepth 100000 in
theorem lk_Mo_119 : tk_lnk "TrackKeeperModel" 119 y_Mo_reset 0 := ⟨tk_mw 719 rfl rfl, by decide, by decide +kernel, by decide +kernel⟩
set_option maxRecDepth 100000 in
theorem lk_La_85 : tk_lnk "TrackKeeperLaw" 85 y_Mo_clear 0 := ⟨tk_mw 723 rfl rfl, by decide, by decide +kernel, by decide +kernel⟩
set_option maxRecDepth 100000 in
theorem lk_La_89 : tk_lnk "TrackKeeperLaw" 89 y_Mo_detect 2 := ⟨tk_mw 727 rfl rfl, by decide, by decide +kernel, by decide +kernel⟩
set_option maxRecDepth 100000 in
theorem lk_Mo_166 : tk_lnk "TrackKeeperModel" 166 y_Mo_settle 0 := ⟨tk_mw 731 rfl rfl, by decide, by decide +kernel, by decide +kernel⟩
set_option maxRecDepth 100000 in
theorem lk_Mo_160 : tk_lnk "TrackKeeperModel" 160 y_Mo_find 0 := ⟨tk_mw 735 rfl rfl, by decide, by decide +kernel, by decide +kernel⟩
set_option maxRecDepth 100000 in
theorem lk_Mo_134 : tk_lnk "TrackKeeperModel" 134 y_Mo_isLocated 1 := ⟨tk_mw 739 rfl rfl, by decide, by decide +kernel, by decide +kernel⟩
set_option maxRecDepth 100000 in
theorem lk_Mo_138 : tk_lnk "TrackKeeperModel" 138 y_Mo_subOf 1 := ⟨tk_mw 743 rfl rfl, by decide, by decide +kernel, by decide +kernel⟩
set_option maxRecDepth 100000 in
theorem lk_Mo_142 : tk_lnk "TrackKeeperModel" 142 y_Mo_found 1 := ⟨tk_mw 747 rfl rfl, by decide, by decide +kernel, by decide +kernel⟩
set_option maxRecDepth 100000 in
theorem lk_Mo_149 : tk_lnk "TrackKeeperModel" 149 y_In_bitCount 1 := ⟨tk_mw 751 rfl rfl, by decide, by decide +kernel, by decide +kernel⟩
set_option maxRecDepth 100000 in
theorem lk_Mo_154 : tk_lnk "TrackKeeperModel" 154 y_Mo_only 1 := ⟨tk_mw 757 rfl rfl, by decide, by decide +kernel, by decide +kernel⟩
set_option maxRecDepth 100000 in
theorem lk_Mo_157 : tk_lnk "TrackKeeperModel" 157 y_Mo_isWhole 1 := ⟨tk_mw 760 rfl rfl, by decide, by decide +kernel, by decide +kernel⟩
set_option maxRecDepth 100000 in
theorem lk_Mo_145 : tk_lnk "TrackKeeperModel" 145 y_Mo_authority 1 := ⟨tk_mw 764 rfl rfl, by decide, by decide +kernel, by decide +kernel⟩
set_option maxRecDepth 100000 in
theorem lk_Mo_163 : tk_lnk "TrackKeeperModel" 163 y_Mo_holds 1 := ⟨tk_mw 768 rfl rfl, by decide, by decide +kernel, by decide +kernel⟩
set_option maxRecDepth 100000 in
theorem lk_La_93 : tk_lnk "TrackKeeperLaw" 93 y_Mo_connect 2 := ⟨tk_mw 772 rfl rfl, by decide, by decide +kernel, by decide +kernel⟩
set_option maxRecDepth 100000 in
theorem lk_La_96 : tk_lnk "TrackKeeperLaw" 96 y_Mo_report 3 := ⟨tk_mw 776 rfl rfl, by decide, by decide +kernel, by decide +kernel⟩
set_option maxRecDepth 100000 in
theorem lk_La_100 : tk_lnk "TrackKeeperLaw" 100 y_Mo_leave 1 := ⟨tk_mw 780 rfl rfl, by decide, by decide +kernel, by decide +kernel⟩
set_option maxRecDepth 100000 in
theorem lk_La_103 : tk_lnk "TrackKeeperLaw" 103 y_Mo_tick 1 := ⟨tk_mw 784 rfl rfl, by decide, by decide +kernel, by decide +kernel⟩
set_option maxRecDepth 100000 in
theorem lk_La_107 : tk_lnk "TrackKeeperLaw" 107 y_Mo_request 2 := ⟨tk_mw 789 rfl rfl, by decide, by decide +kernel, by decide +kernel⟩
set_option maxRecDepth 100000 in
theorem lk_Mo_170 : tk_lnk "TrackKeeperModel" 170 y_Mo_isTaken 2 := ⟨tk_mw 793 rfl rfl, by decide, by decide +kernel, by decide +kernel⟩
set_option maxRecDepth 100000 in
theorem lk_La_110 : tk_lnk "TrackKeeperLaw" 110 y_Mo_state 1 := ⟨tk_mw 797 rfl rfl, by decide, by decide +kernel, by decide +kernel⟩
set_option maxRecDepth 100000 in
theorem lk_La_113 : tk_lnk "TrackKeeperLaw" 113 y_Mo_train 2 := ⟨tk_mw 801 rfl rfl, by decide, by decide +kernel, by decide +kernel⟩
set_option maxRecDepth 100000 in
theorem lk_La_116 : tk_lnk "TrackKeeperLaw" 116 y_Mo_count 2 := ⟨tk_mw 805 rfl rfl, by decide, by decide +kernel, by decide +kernel⟩
end
section
/-! CONTRACTS of the small methods -/
theorem tk_up_s (M : tk_M) (c j : Nat) (v : Int) : tk_up M c j v c j = v := by simp [tk_up]
theorem tk_up_j (M : tk_M) (c j : Nat) (v : Int) {k : Nat} (h : k ≠ j) : tk_up M c j v c k = M c k := by simp [tk_up, h]
theorem tk_up_c (M : tk_M) (c j : Nat) (v : Int) {a : Nat} (h : a ≠ c) (b : Nat) : tk_up M c j v a b = M a b := tk_up_ne h b
def f_in (v a b : Int) : Int := if a ≤ v ∧ v ≤ b then 1 else 0
def f_b (x : Int) : Int := if x = 0 then 0 else 1
theorem k_TK_isWithin (l : Launch) (v a b : Int) (M : tk_M) : tk_C l y_TK_isWithin 0 0 [.inl v, .inl a, .inl b] M (fun r M' => r = .inl (some (f_in v a b)) ∧ M' = M) := by
  refine tk_C.of wc_TK_isWithin rfl (Nat.le_of_ble_eq_true rfl) fun hr hM => ?_
  refine tk_goA fo_TK co_TK tg_TK_isWithin 20 [] ?_
  repeat' first | refine And.intro ?_ ?_ | intro _
  all_goals first | rfl | exact Or.inl rfl | exact Or.inr rfl | skip
  all_goals try simp only [tk_c] at *
  all_goals (unfold f_in; split <;> first | rfl | omega)
theorem k_Ti_forgetAll (l : Launch) (t : Nat) (ht : t < 8) (M : tk_M) : tk_C l y_Ti_forgetAll 0 0 [.inr (73 + t)] M (fun r M' => r = .inl none ∧ M' = tk_up (tk_up (tk_up (tk_up M (73 + t) 0 0) (73 + t) 9 0) (73 + t) 10 0) (73 + t) 12 (-1)) := by
  refine tk_C.of wc_Ti_forgetAll rfl (Nat.le_of_ble_eq_true rfl) fun hr hM => ?_
  refine tk_goA fo_Ti co_Ti tg_Ti_forgetAll 20 [] ?_
  repeat' first | refine And.intro ?_ ?_ | intro _
  all_goals first | omega | rfl
theorem k_Ti_join (l : Launch) (t : Nat) (ht : t < 8) (x : Int) (M : tk_M) : tk_C l y_Ti_join 0 0 [.inr (73 + t), .inl x] M (fun r M' => r = .inl none ∧ M' = tk_up (tk_up (tk_up (tk_up M (73 + t) 0 1) (73 + t) 1 x) (73 + t) 2 0) (73 + t) 7 0) := by
  refine tk_C.of wc_Ti_join rfl (Nat.le_of_ble_eq_true rfl) fun hr hM => ?_
  refine tk_goA fo_Ti co_Ti tg_Ti_join 20 [] ?_
  repeat' first | refine And.intro ?_ ?_ | intro _
  all_goals first | omega | rfl
theorem k_Ti_wasBeyond (l : Launch) (t : Nat) (ht : t < 8) (x : Int) (M : tk_M) : tk_C l y_Ti_wasBeyond 0 0 [.inr (73 + t), .inl x] M (fun r M' => r = .inl (some (if ¬ M (73 + t) 2 = 0 ∧ x < M (73 + t) 4 then 1 else 0)) ∧ M' = M) := by
  refine tk_C.of wc_Ti_wasBeyond rfl (Nat.le_of_ble_eq_true rfl) fun hr hM => ?_
  refine tk_goA fo_Ti co_Ti tg_Ti_wasBeyond 20 [] ?_
  repeat' first | refine And.intro ?_ ?_ | intro _
  all_goals first | rfl | exact Or.inl rfl | exact Or.inr rfl | skip
  all_goals try simp only [tk_c] at *
  all_goals first | omega | rfl | exact Or.inl rfl | exact Or.inr rfl | (split <;> first | rfl | omega)
theorem k_Ti_hasLeft (l : Launch) (t : Nat) (ht : t < 8) (x : Int) (M : tk_M) : tk_C l y_Ti_hasLeft 0 0 [.inr (73 + t), .inl x] M (fun r M' => r = .inl (some (if ¬ M (73 + t) 10 = 0 ∧ x < M (73 + t) 6 then 1 else 0)) ∧ M' = M) := by
  refine tk_C.of wc_Ti_hasLeft rfl (Nat.le_of_ble_eq_true rfl) fun hr hM => ?_
  refine tk_goA fo_Ti co_Ti tg_Ti_hasLeft 20 [] ?_
  repeat' first | refine And.intro ?_ ?_ | intro _
  all_goals first | rfl | exact Or.inl rfl | exact Or.inr rfl | skip
  all_goals try simp only [tk_c] at *
  all_goals first | omega | rfl | exact Or.inl rfl | exact Or.inr rfl | (split <;> first | rfl | omega)
theorem k_Ti_holds (l : Launch) (t : Nat) (ht : t < 8) (x : Int) (M : tk_M) : tk_C l y_Ti_holds 0 0 [.inr (73 + t), .inl x] M (fun r M' => r = .inl (some (if ¬ M (73 + t) 12 = -1 ∧ M (73 + t) 5 < x ∧ x ≤ M (73 + t) 12 then 1 else 0)) ∧ M' = M) := by
  refine tk_C.of wc_Ti_holds rfl (Nat.le_of_ble_eq_true rfl) fun hr hM => ?_
  refine tk_goA fo_Ti co_Ti tg_Ti_holds 20 [] ?_
  repeat' first | refine And.intro ?_ ?_ | intro _
  all_goals first | rfl | exact Or.inl rfl | exact Or.inr rfl | skip
  all_goals try simp only [tk_c] at *
  all_goals first | omega | rfl | exact Or.inl rfl | exact Or.inr rfl | (split <;> first | rfl | omega)
def f_tell (M : tk_M) (c : Nat) (w : Int) : Int := if w = 0 then f_b (M c 0) else if w = 1 then f_b (M c 9) else if w = 2 then f_b (M c 10) else if w = 3 then M c 12 else if w = 4 then (if M c 9 = 0 then -1 else M c 6) else (if M c 9 = 0 then -1 else M c 5)
theorem k_Ti_tell (l : Launch) (t : Nat) (ht : t < 8) (w : Int) (M : tk_M) : tk_C l y_Ti_tell 0 0 [.inr (73 + t), .inl w] M (fun r M' => r = .inl (some (f_tell M (73 + t) w)) ∧ M' = M) := by
  refine tk_C.of wc_Ti_tell rfl (Nat.le_of_ble_eq_true rfl) fun hr hM => ?_
  refine tk_goA fo_Ti co_Ti tg_Ti_tell 20 [] ?_
  repeat' first | refine And.intro ?_ ?_ | intro _
  all_goals first | rfl | exact Or.inl rfl | exact Or.inr rfl | skip
  all_goals try simp only [tk_c] at *
  all_goals first | omega | rfl | trivial | (unfold f_tell f_b; (repeat' split) <;> first | rfl | omega)
def f_loc (M : tk_M) (c : Nat) (tm mu : Int) : Int := if ¬ M c 0 = 0 ∧ ¬ M c 2 = 0 ∧ tm - M c 3 ≤ mu then 1 else 0
def f_who (M : tk_M) (c : Nat) (tm mu ke : Int) : Int := if (¬ M c 0 = 0 ∧ ¬ M c 2 = 0 ∧ tm - M c 3 ≤ mu) ∧ ¬ M c 7 = 0 ∧ tm - M c 8 ≤ ke then 1 else 0
theorem k_Ti_judge (l : Launch) (t : Nat) (ht : t < 8) (tm mu ke : Int) (M : tk_M) (h0 : 0 ≤ tm) (h3 : 0 ≤ M (73 + t) 3) (h8 : 0 ≤ M (73 + t) 8) : tk_C l y_Ti_judge 0 0 [.inr (73 + t), .inl tm, .inl mu, .inl ke] M (fun r M' => r = .inl none ∧ M' = tk_up (tk_up M (73 + t) 9 (f_loc M (73 + t) tm mu)) (73 + t) 10 (f_who M (73 + t) tm mu ke)) := by
  refine tk_C.of wc_Ti_judge rfl (Nat.le_of_ble_eq_true rfl) fun hr hM => ?_
  have htm := hr (.inl tm) (by simp)
  simp only [tk_ru] at htm
  refine tk_goA fo_Ti co_Ti tg_Ti_judge 50 [] ?_
  repeat' first | refine And.intro ?_ ?_ | intro _
  all_goals first | rfl | exact Or.inl rfl | exact Or.inr rfl | skip
  all_goals try simp only [tk_c, tk_up_s, tk_up_j _ _ _ _ (show (7 : Nat) ≠ 9 by decide), tk_up_j _ _ _ _ (show (8 : Nat) ≠ 9 by decide)] at *
  all_goals first | omega | trivial | skip
  all_goals refine congr (congrArg (fun z => tk_up z (73 + t) 10) (congrArg (tk_up M (73 + t) 9) ?_)) ?_
  all_goals first | (unfold f_loc; split <;> omega) | (unfold f_who; split <;> omega)
end
section
/-! CONTRACTS of the track's small methods and of what throws -/
theorem tk_shS {i : Nat} (h : i < 10) : tk_sh (31 + i) = .inl (3, [none, none, none, none, none, none]) := by
  rw [Nat.add_comm]; unfold tk_sh; simp [h]
theorem tk_shU {i : Nat} (h : i < 32) : tk_sh (41 + i) = .inl (4, [none, none, none, none, none]) := by
  rw [show 41 + i = (i + 10) + 31 by omega]; unfold tk_sh; dsimp only; rw [if_neg (by omega), if_pos (by omega)]
theorem tk_shT {i : Nat} (h : i < 8) : tk_sh (73 + i) = .inl (5, [none, none, none, none, none, none, none, none, none, none, none, none, none]) := by
  rw [show 73 + i = (i + 42) + 31 by omega]; unfold tk_sh; dsimp only; rw [if_neg (by omega), if_neg (by omega)]
theorem k_TK_isTrain (l : Launch) (v : Int) (M : tk_M) : tk_C l y_TK_isTrain 1 14 [.inl v] M (fun r M' => r = .inl (some (f_in v 0 7)) ∧ M' = M) := by
  refine tk_C.of wc_TK_isTrain rfl (Nat.le_of_ble_eq_true rfl) fun hr hM => ?_
  refine tk_goA fo_TK co_TK tg_TK_isTrain 20 [] ?_
  refine ⟨(), tk_aS (k_TK_isWithin l v 0 7 M) wc_TK_isWithin lk_TK_53 wst_TK_isWithin wn_TK tg_TK_isTrain rfl rfl rfl (by decide) (by decide) ?_ (fun x M' h => by cases h.1)⟩
  rintro v' M' ⟨h1, rfl⟩ hro
  cases h1
  refine tk_goA fo_TK co_TK tg_TK_isTrain 20 [] ?_
  refine And.intro ?_ ⟨rfl, rfl⟩
  unfold f_in; split <;> simp
theorem tk_f01 (v a b : Int) : f_in v a b = 0 ∨ f_in v a b = 1 := by unfold f_in; split <;> simp
theorem k_Tr_hasSection (l : Launch) (v : Int) (M : tk_M) (h0 : -2147483648 < M 2 2) : tk_C l y_Tr_hasSection 1 14 [.inr 2, .inl v] M (fun r M' => r = .inl (some (f_in v 0 (M 2 2 - 1))) ∧ M' = M) := by
  refine tk_C.of wc_Tr_hasSection rfl (Nat.le_of_ble_eq_true rfl) fun hr hM => ?_
  refine tk_goA fo_Tr co_Tr tg_Tr_hasSection 20 [] ?_
  repeat' first | refine And.intro ?_ ?_ | intro _
  all_goals first | omega | skip
  refine ⟨(), tk_aSN (host := "TrackKeeper") (n := 3) (k_TK_isWithin l v 0 (M 2 2 - 1) M) wc_TK_isWithin ⟨by decide +kernel, by decide, by decide +kernel, by decide +kernel⟩ wst_TK_isWithin wn_TK tg_Tr_hasSection rfl rfl rfl (by decide) (by decide) ?_ (fun x M' h => by cases h.1)⟩
  rintro v' M' ⟨h1, rfl⟩ hro
  cases h1
  refine tk_goA fo_Tr co_Tr tg_Tr_hasSection 20 [] ?_
  exact And.intro (tk_f01 _ _ _) ⟨rfl, rfl⟩
theorem k_Tr_hasSubsection (l : Launch) (v : Int) (M : tk_M) (h0 : -2147483648 < M 2 3) : tk_C l y_Tr_hasSubsection 1 14 [.inr 2, .inl v] M (fun r M' => r = .inl (some (f_in v 0 (M 2 3 - 1))) ∧ M' = M) := by
  refine tk_C.of wc_Tr_hasSubsection rfl (Nat.le_of_ble_eq_true rfl) fun hr hM => ?_
  refine tk_goA fo_Tr co_Tr tg_Tr_hasSubsection 20 [] ?_
  repeat' first | refine And.intro ?_ ?_ | intro _
  all_goals first | omega | skip
  refine ⟨(), tk_aSN (host := "TrackKeeper") (n := 3) (k_TK_isWithin l v 0 (M 2 3 - 1) M) wc_TK_isWithin ⟨by decide +kernel, by decide, by decide +kernel, by decide +kernel⟩ wst_TK_isWithin wn_TK tg_Tr_hasSubsection rfl rfl rfl (by decide) (by decide) ?_ (fun x M' h => by cases h.1)⟩
  rintro v' M' ⟨h1, rfl⟩ hro
  cases h1
  refine tk_goA fo_Tr co_Tr tg_Tr_hasSubsection 20 [] ?_
  exact And.intro (tk_f01 _ _ _) ⟨rfl, rfl⟩
theorem k_Tr_removeAll (l : Launch) (M : tk_M) : tk_C l y_Tr_removeAll 0 0 [.inr 2] M (fun r M' => r = .inl none ∧ M' = tk_up (tk_up (tk_up M 2 2 0) 2 3 0) 2 4 0) := by
  refine tk_C.of wc_Tr_removeAll rfl (Nat.le_of_ble_eq_true rfl) fun hr hM => ?_
  refine tk_goA fo_Tr co_Tr tg_Tr_removeAll 20 [] ?_
  repeat' first | refine And.intro ?_ ?_ | intro _
  all_goals first | omega | rfl
def f_bare (M : tk_M) : Int := if 0 < M 2 2 ∧ M (31 + (M 2 2 - 1).toNat) 1 < M (31 + (M 2 2 - 1).toNat) 0 then 1 else 0
theorem k_Tr_latestIsBare (l : Launch) (M : tk_M) (h0 : 0 ≤ M 2 2) (h1 : M 2 2 ≤ 10) : tk_C l y_Tr_latestIsBare 0 0 [.inr 2] M (fun r M' => r = .inl (some (f_bare M)) ∧ M' = M) := by
  refine tk_C.of wc_Tr_latestIsBare rfl (Nat.le_of_ble_eq_true rfl) fun hr hM => ?_
  refine tk_goA fo_Tr co_Tr tg_Tr_latestIsBare 30 [] ?_
  repeat' first | refine And.intro ?_ ?_ | intro _
  all_goals first | rfl | exact Or.inl rfl | exact Or.inr rfl | skip
  all_goals try simp only [tk_c] at *
  all_goals first | omega | (unfold f_bare; split <;> first | rfl | omega)
theorem k_Au_forgetCounts (l : Launch) (M : tk_M) : tk_C l y_Au_forgetCounts 0 0 [.inr 3] M (fun r M' => r = .inl none ∧ M' = tk_up (tk_up M 3 0 0) 3 1 0) := by
  refine tk_C.of wc_Au_forgetCounts rfl (Nat.le_of_ble_eq_true rfl) fun hr hM => ?_
  refine tk_goA fo_Au co_Au tg_Au_forgetCounts 20 [] ?_
  repeat' first | refine And.intro ?_ ?_ | intro _
  all_goals first | omega | rfl
set_option maxRecDepth 100000 in
theorem tn_TK_0 : tk_thr "TrackKeeper" 38 40 0 := ⟨by decide +kernel, by decide +kernel, by decide +kernel, by decide +kernel, by decide +kernel, by decide +kernel, by decide +kernel⟩
set_option maxRecDepth 100000 in
theorem tn_TK_1 : tk_thr "TrackKeeper" 57 59 1 := ⟨by decide +kernel, by decide +kernel, by decide +kernel, by decide +kernel, by decide +kernel, by decide +kernel, by decide +kernel⟩
set_option maxRecDepth 100000 in
theorem tn_TK_2 : tk_thr "TrackKeeper" 45 47 2 := ⟨by decide +kernel, by decide +kernel, by decide +kernel, by decide +kernel, by decide +kernel, by decide +kernel, by decide +kernel⟩
set_option maxRecDepth 100000 in
theorem tn_TK_3 : tk_thr "TrackKeeper" 143 145 3 := ⟨by decide +kernel, by decide +kernel, by decide +kernel, by decide +kernel, by decide +kernel, by decide +kernel, by decide +kernel⟩
theorem k_TK_requireBegun (l : Launch) (hst : l.stackTraces = false) (M : tk_M) : tk_C l y_TK_requireBegun 6 81 [.inr 1] M (fun r M' => r = (if M 1 3 = 0 then .inr 0 else .inl none) ∧ M' = M) := by
  refine tk_C.of wc_TK_requireBegun rfl (Nat.le_of_ble_eq_true rfl) fun hr hM => ?_
  refine tk_goA fo_TK co_TK tg_TK_requireBegun 20 [] ?_
  refine And.intro ⟨by decide, by decide⟩ fun _ _ => And.intro (fun h => ?_) (fun h => ?_)
  · exact ⟨by rw [if_neg h], rfl⟩
  · exact ⟨(), tk_aN hst tn_TK_0 tg_TK_requireBegun rfl rfl rfl rfl (by decide) (by decide) ⟨by rw [if_pos (Classical.not_not.mp h)], rfl⟩⟩
end
section
/-! CONTRACTS of the track's loops -/
def f_any (M : tk_M) (c : Nat) : Bool := (List.range 32).any fun i => decide (M c 0 ≤ (i : Int)) && (decide ((i : Int) ≤ M c 1) && decide (M (41 + i) 2 = 3))
theorem f_any_iff {M : tk_M} {c : Nat} : f_any M c = true ↔ ∃ i : Nat, i < 32 ∧ M c 0 ≤ (i : Int) ∧ (i : Int) ≤ M c 1 ∧ M (41 + i) 2 = 3 := by
  simp [f_any, List.any_eq_true]
def f_uns (M : tk_M) (c : Nat) : Int := if ¬ M c 2 = 0 ∧ f_any M c = true then 1 else 0
theorem f_uns01 (M : tk_M) (c : Nat) : f_uns M c = 0 ∨ f_uns M c = 1 := by unfold f_uns; split <;> simp
theorem lp_Tr_isUnsure (l : Launch) (M : tk_M) (c : Nat) (hc : 31 ≤ c) (hc2 : c < 41) (h0 : 0 ≤ M c 0) (h1 : M c 1 < 32) (hf : ¬ M c 2 = 0) : ∀ (n : Nat) (i : Int), (M c 1 + 1 - i).toNat = n → M c 0 ≤ i → (∀ k : Nat, M c 0 ≤ (k : Int) → (k : Int) < i → ¬ M (41 + k) 2 = 3) →
    tk_At l "TrackKeeper$Track" prog_5_method_12_code 3 (some .boolean) 0 0 (fun r M' => r = .inl (some (f_uns M c)) ∧ M' = M) 14 [some (.inr 2), some (.inr c), some (.inl i)] [] M := by
  intro n
  induction n using Nat.strongRecOn with
  | _ n ih =>
    intro i hn hi hk
    refine tk_goA fo_Tr co_Tr tg_Tr_isUnsure 40 [14] ?_
    repeat' first | refine And.intro ?_ ?_ | intro _
    all_goals first | rfl | exact Or.inl rfl | exact Or.inr rfl | skip
    all_goals try simp only [tk_c] at *
    all_goals first | omega | skip
    · rename_i hgt
      have hno : ¬ f_any M c = true := by
        rw [f_any_iff]
        rintro ⟨k, k1, k2, k3, k4⟩
        exact hk k k2 (by omega) k4
      unfold f_uns
      rw [if_neg (fun z => hno z.2)]
    · rename_i hle _ _ hne
      refine ⟨(), ih (M c 1 + 1 - (i + 1)).toNat (by omega) (i + 1) rfl (by omega) fun k k1 k2 k3 => ?_⟩
      by_cases e : (k : Int) = i
      · apply hne
        rw [← e, Int.toNat_natCast]
        exact k3
      · exact hk k k1 (by omega) k3
    · rename_i hle _ _ hne
      have hyes : f_any M c = true := by
        rw [f_any_iff]
        refine ⟨i.toNat, by omega, by omega, by omega, ?_⟩
        exact Classical.not_not.mp hne
      unfold f_uns
      rw [if_pos ⟨hf, hyes⟩]
theorem k_Tr_isUnsure (l : Launch) (M : tk_M) (c : Nat) (hc : 31 ≤ c) (hc2 : c < 41) (h0 : 0 ≤ M c 0) (h1 : M c 1 < 32) : tk_C l y_Tr_isUnsure 0 0 [.inr 2, .inr c] M (fun r M' => r = .inl (some (f_uns M c)) ∧ M' = M) := by
  refine tk_C.of wc_Tr_isUnsure rfl (Nat.le_of_ble_eq_true rfl) fun hr hM => ?_
  refine tk_goA fo_Tr co_Tr tg_Tr_isUnsure 40 [14] ?_
  repeat' first | refine And.intro ?_ ?_ | intro _
  all_goals first | rfl | exact Or.inl rfl | exact Or.inr rfl | skip
  all_goals try simp only [tk_c] at *
  all_goals first | omega | skip
  · rename_i hne _ _
    exact ⟨(), lp_Tr_isUnsure l M c hc hc2 h0 h1 hne _ _ rfl (Int.le_refl _) (fun k k1 k2 => by omega)⟩
  · rename_i hz
    unfold f_uns
    rw [if_neg (fun z => z.1 (Classical.not_not.mp hz))]
/-- the subsection at a place: from n downwards -/
def f_at (M : tk_M) (pl : Int) : Nat → Int
  | 0 => 0
  | n + 1 => if M (41 + (n + 1)) 1 ≤ pl then ((n + 1 : Nat) : Int) else f_at M pl n
theorem f_at_in (M : tk_M) (pl : Int) : ∀ n : Nat, 0 ≤ f_at M pl n ∧ f_at M pl n ≤ (n : Int)
  | 0 => ⟨Int.le_refl _, Int.le_refl _⟩
  | n + 1 => by
    have := f_at_in M pl n
    unfold f_at
    split <;> omega
theorem lp_Tr_subsectionAt (l : Launch) (M : tk_M) (pl : Int) : ∀ (n : Nat), n < 32 → 
    tk_At l "TrackKeeper$Track" prog_5_method_9_code 3 (some .int) 0 0 (fun r M' => r = .inl (some (f_at M pl n)) ∧ M' = M) 7 [some (.inr 2), some (.inl pl), some (.inl (n : Int))] [] M := by
  intro n
  induction n with
  | zero =>
    intro _
    refine tk_goA fo_Tr co_Tr tg_Tr_subsectionAt 40 [7] ?_
    refine And.intro (fun _ => ⟨rfl, rfl⟩) (fun h => ?_)
    exact absurd (show (0 : Int) ≤ 0 by omega) h
  | succ n ih =>
    intro hn
    refine tk_goA fo_Tr co_Tr tg_Tr_subsectionAt 40 [7] ?_
    repeat' first | refine And.intro ?_ ?_ | intro _
    all_goals first | rfl | skip
    all_goals try simp only [tk_c, Int.toNat_natCast] at *
    all_goals first | omega | skip
    · rename_i h1 _ _ h2
      unfold f_at
      rw [if_pos h2]
    · rename_i h1 _ _ h2
      have e1 : (((n + 1 : Nat) : Int) + -1) = (n : Int) := by omega
      have e2 : f_at M pl (n + 1) = f_at M pl n := by
        show (if M (41 + (n + 1)) 1 ≤ pl then _ else _) = _
        rw [if_neg h2]
      rw [e2]
      refine ⟨(), ?_⟩
      show tk_At _ _ _ _ _ _ _ _ _ [some (.inr 2), some (.inl pl), some (.inl (((n + 1 : Nat) : Int) + -1))] _ _
      rw [e1]
      exact ih (by omega)
theorem k_Tr_subsectionAt (l : Launch) (M : tk_M) (pl : Int) (h0 : 1 ≤ M 2 3) (h1 : M 2 3 ≤ 32) : tk_C l y_Tr_subsectionAt 0 0 [.inr 2, .inl pl] M (fun r M' => r = .inl (some (f_at M pl (M 2 3 - 1).toNat)) ∧ M' = M) := by
  refine tk_C.of wc_Tr_subsectionAt rfl (Nat.le_of_ble_eq_true rfl) fun hr hM => ?_
  refine tk_goA fo_Tr co_Tr tg_Tr_subsectionAt 40 [7] ?_
  repeat' first | refine And.intro ?_ ?_ | intro _
  all_goals first | omega | skip
  have h := lp_Tr_subsectionAt l M pl (M 2 3 - 1).toNat (by omega)
  rw [show (((M 2 3 - 1).toNat : Nat) : Int) = M 2 3 - 1 by omega] at h
  exact ⟨(), h⟩
end
section
/-! CONTRACTS: adding, emptying, counting, states -/
/-- slot j of n cells from lo on -/
def tk_st (lo n j : Nat) (v : Int) (M : tk_M) : tk_M := fun c k => if lo ≤ c ∧ c < lo + n ∧ k = j then v else M c k
theorem tk_st_0 (lo j : Nat) (v : Int) (M : tk_M) : tk_st lo 0 j v M = M := by
  funext c k
  unfold tk_st
  rw [if_neg (by omega)]
theorem tk_st_s (lo n j : Nat) (v : Int) (M : tk_M) : tk_up (tk_st lo n j v M) (lo + n) j v = tk_st lo (n + 1) j v M := by
  funext c k
  unfold tk_up tk_st
  by_cases h : c = lo + n ∧ k = j
  · rw [if_pos h, if_pos (by omega)]
  · rw [if_neg h]
    by_cases h2 : lo ≤ c ∧ c < lo + n ∧ k = j
    · rw [if_pos h2, if_pos (by omega)]
    · rw [if_neg h2, if_neg (by omega)]
theorem tk_st_o {lo n j : Nat} {v : Int} {M : tk_M} {c k : Nat} (h : ¬ (lo ≤ c ∧ c < lo + n ∧ k = j)) : tk_st lo n j v M c k = M c k := by
  unfold tk_st
  rw [if_neg h]
theorem tk_st_i {lo n j : Nat} {v : Int} {M : tk_M} {c : Nat} (h : lo ≤ c) (h2 : c < lo + n) : tk_st lo n j v M c j = v := by
  unfold tk_st
  rw [if_pos ⟨h, h2, rfl⟩]
theorem tk_up_comm (M : tk_M) {a b c d : Nat} (x y : Int) (h : ¬ (a = c ∧ b = d)) : tk_up (tk_up M a b x) c d y = tk_up (tk_up M c d y) a b x := by
  funext e f
  unfold tk_up
  by_cases h1 : e = c ∧ f = d
  · rw [if_pos h1, if_neg (fun z => h ⟨z.1.symm.trans h1.1, z.2.symm.trans h1.2⟩), if_pos h1]
  · rw [if_neg h1]
    by_cases h2 : e = a ∧ f = b
    · rw [if_pos h2, if_pos h2]
    · rw [if_neg h2, if_neg h2, if_neg h1]
theorem tk_st_up {lo n j : Nat} {v w : Int} {M : tk_M} {c k : Nat} (h : ¬ (lo ≤ c ∧ c < lo + n ∧ k = j)) : tk_up (tk_st lo n j v M) c k w = tk_st lo n j v (tk_up M c k w) := by
  funext e f
  unfold tk_up tk_st
  by_cases h1 : e = c ∧ f = k
  · rw [if_pos h1, if_neg (by rw [h1.1, h1.2]; exact h)]; dsimp only; rw [if_pos h1]
  · rw [if_neg h1]
    by_cases h2 : lo ≤ e ∧ e < lo + n ∧ f = j
    · rw [if_pos h2, if_pos h2]
    · rw [if_neg h2, if_neg h2]; dsimp only; rw [if_neg h1]
/-- two slots of the same cells -/
def tk_st2 (lo n j1 j2 : Nat) (v1 v2 : Int) (M : tk_M) : tk_M := tk_st lo n j2 v2 (tk_st lo n j1 v1 M)
theorem tk_st2_s (lo n j1 j2 : Nat) (hj : j1 ≠ j2) (v1 v2 : Int) (M : tk_M) : tk_up (tk_up (tk_st2 lo n j1 j2 v1 v2 M) (lo + n) j1 v1) (lo + n) j2 v2 = tk_st2 lo (n + 1) j1 j2 v1 v2 M := by
  unfold tk_st2
  rw [tk_st_up (by omega), tk_st_s, tk_st_s]
theorem lp_Tr_emptyAll1 (l : Launch) (M : tk_M) (hS : M 2 2 ≤ 10) (P : (Option Int ⊕ Nat) → tk_M → Prop) (hP : tk_At l "TrackKeeper$Track" prog_5_method_8_code 2 none 0 0 P 36 [some (.inr 2), some (.inl (M 2 2))] [] (tk_st2 31 (M 2 2).toNat 2 3 0 0 M)) : ∀ (n i : Nat), i + n = (M 2 2).toNat → 0 ≤ M 2 2 →
    tk_At l "TrackKeeper$Track" prog_5_method_8_code 2 none 0 0 P 2 [some (.inr 2), some (.inl (i : Int))] [] (tk_st2 31 i 2 3 0 0 M) := by
  intro n
  induction n with
  | zero =>
    intro i hi h0
    have e2 : tk_st2 31 i 2 3 0 0 M 2 2 = M 2 2 := by unfold tk_st2; rw [tk_st_o (by omega), tk_st_o (by omega)]
    refine tk_goA fo_Tr co_Tr tg_Tr_emptyAll 40 [2, 36] ?_
    refine And.intro ⟨by decide, by decide⟩ fun _ _ => And.intro (fun _ => ⟨(), ?_⟩) (fun h => ?_)
    · rw [show (i : Int) = M 2 2 by omega]
      rw [show i = (M 2 2).toNat by omega]
      exact hP
    · exact absurd (show tk_st2 31 i 2 3 0 0 M 2 2 ≤ (i : Int) by rw [e2]; omega) h
  | succ n ih =>
    intro i hi h0
    have e2 : tk_st2 31 i 2 3 0 0 M 2 2 = M 2 2 := by unfold tk_st2; rw [tk_st_o (by omega), tk_st_o (by omega)]
    have h9 := ih (i + 1) (by omega) h0
    refine tk_goA fo_Tr co_Tr tg_Tr_emptyAll 40 [2, 36] ?_
    repeat' first | refine And.intro ?_ ?_ | intro _
    all_goals first | rfl | exact Or.inl rfl | skip
    all_goals try simp only [tk_c, Int.toNat_natCast] at *
    all_goals try rw [e2] at *
    all_goals first | omega | skip
    refine ⟨(), ?_⟩
    rw [← tk_st2_s 31 i 2 3 (by decide)] at h9
    exact h9
theorem lp_Tr_emptyAll2 (l : Launch) (M : tk_M) (hS : M 2 3 ≤ 32) : ∀ (n i : Nat), i + n = (M 2 3).toNat → 0 ≤ M 2 3 →
    tk_At l "TrackKeeper$Track" prog_5_method_8_code 2 none 0 0 (fun r M' => r = .inl none ∧ M' = tk_up (tk_st 41 (M 2 3).toNat 2 0 M) 2 5 0) 38 [some (.inr 2), some (.inl (i : Int))] [] (tk_st 41 i 2 0 M) := by
  intro n
  induction n with
  | zero =>
    intro i hi h0
    have e2 : tk_st 41 i 2 0 M 2 3 = M 2 3 := by rw [tk_st_o (by omega)]
    refine tk_goA fo_Tr co_Tr tg_Tr_emptyAll 40 [38] ?_
    refine And.intro ⟨by decide, by decide⟩ fun _ _ => And.intro (fun _ => ?_) (fun h => ?_)
    · refine And.intro ⟨by decide, by decide⟩ ⟨rfl, ?_⟩
      rw [show i = (M 2 3).toNat by omega]
    · exact absurd (show tk_st 41 i 2 0 M 2 3 ≤ (i : Int) by rw [e2]; omega) h
  | succ n ih =>
    intro i hi h0
    have e2 : tk_st 41 i 2 0 M 2 3 = M 2 3 := by rw [tk_st_o (by omega)]
    have h9 := ih (i + 1) (by omega) h0
    refine tk_goA fo_Tr co_Tr tg_Tr_emptyAll 40 [38] ?_
    repeat' first | refine And.intro ?_ ?_ | intro _
    all_goals first | rfl | exact Or.inl rfl | skip
    all_goals try simp only [tk_c, Int.toNat_natCast] at *
    all_goals try rw [e2] at *
    all_goals first | omega | skip
    refine ⟨(), ?_⟩
    rw [← tk_st_s] at h9
    exact h9
def f_emp (M : tk_M) : tk_M := tk_up (tk_st 41 (M 2 3).toNat 2 0 (tk_st2 31 (M 2 2).toNat 2 3 0 0 M)) 2 5 0
theorem k_Tr_emptyAll (l : Launch) (M : tk_M) (h1 : 0 ≤ M 2 2) (h2 : M 2 2 ≤ 10) (h3 : 0 ≤ M 2 3) (h4 : M 2 3 ≤ 32) : tk_C l y_Tr_emptyAll 0 0 [.inr 2] M (fun r M' => r = .inl none ∧ M' = f_emp M) := by
  refine tk_C.of wc_Tr_emptyAll rfl (Nat.le_of_ble_eq_true rfl) fun hr hM => ?_
  refine tk_goA fo_Tr co_Tr tg_Tr_emptyAll 40 [2] ?_
  refine ⟨(), ?_⟩
  have h := lp_Tr_emptyAll1 l M h2 (fun r M' => r = .inl none ∧ M' = f_emp M) ?_ (M 2 2).toNat 0 (by omega) h1
  · rw [show tk_st2 31 0 2 3 0 0 M = M by unfold tk_st2; rw [tk_st_0, tk_st_0]] at h
    exact h
  · refine tk_goA fo_Tr co_Tr tg_Tr_emptyAll 40 [38] ?_
    refine ⟨(), ?_⟩
    have e2 : tk_st2 31 (M 2 2).toNat 2 3 0 0 M 2 3 = M 2 3 := by unfold tk_st2; rw [tk_st_o (by omega), tk_st_o (by omega)]
    have h := lp_Tr_emptyAll2 l (tk_st2 31 (M 2 2).toNat 2 3 0 0 M) (by rw [e2]; exact h4) (M 2 3).toNat 0 (by rw [e2]; omega) (by rw [e2]; exact h3)
    rw [tk_st_0, e2] at h
    exact h
def f_cs (M : tk_M) (c : Nat) (sp : Int) : tk_M := if M c 3 + 1 < sp then tk_up M c 3 (M c 3 + 1) else tk_up (tk_up (tk_up (tk_up M c 3 (M c 3 + 1)) c 3 0) c 4 1) 2 5 (M 2 5 + 1)
theorem k_Tr_countForSpread (l : Launch) (M : tk_M) (c : Nat) (sp : Int) (hc : 31 ≤ c) (hc2 : c < 41) (h0 : M c 3 < 2147483647) (h1 : M 2 5 < 2147483647) : tk_C l y_Tr_countForSpread 0 0 [.inr 2, .inr c, .inl sp] M (fun r M' => r = .inl none ∧ M' = f_cs M c sp) := by
  refine tk_C.of wc_Tr_countForSpread rfl (Nat.le_of_ble_eq_true rfl) fun hr hM => ?_
  have e9 : ∀ v w x y z : Int, tk_up (tk_up (tk_up M c 3 v) c 3 w) c 4 x 2 5 = M 2 5 := fun v w x y z => by rw [tk_up_c _ _ _ _ (by omega), tk_up_c _ _ _ _ (by omega), tk_up_c _ _ _ _ (by omega)]
  have hb := hM c 3
  have hb2 := hM 2 5
  refine tk_goA fo_Tr co_Tr tg_Tr_countForSpread 40 [] ?_
  repeat' first | refine And.intro ?_ ?_ | intro _
  all_goals first | rfl | exact Or.inr rfl | skip
  all_goals try simp only [tk_c, tk_up_s] at *
  all_goals first | omega | skip
  · rename_i h
    unfold f_cs
    rw [if_pos h]
  · rw [e9 _ _ _ 0 0]; omega
  · rw [e9 _ _ _ 0 0]
    unfold f_cs
    rw [if_neg (by omega)]
/-- may nothing come behind a train with its rear there -/
def f_ncf (M : tk_M) (r : Int) : Int := if M (31 + (M (41 + r.toNat) 0).toNat) 0 = r ∨ M (41 + (r - 1).toNat) 2 = 0 then 1 else 0
theorem k_Tr_nothingCanFollow (l : Launch) (M : tk_M) (r : Int) (h0 : 0 ≤ r) (h1 : r < 32) (h2 : 0 ≤ M (41 + r.toNat) 0) (h3 : M (41 + r.toNat) 0 < 10) (h4 : ¬ M (31 + (M (41 + r.toNat) 0).toNat) 0 = r → 1 ≤ r) : tk_C l y_Tr_nothingCanFollow 0 0 [.inr 2, .inl r] M (fun q M' => q = .inl (some (f_ncf M r)) ∧ M' = M) := by
  refine tk_C.of wc_Tr_nothingCanFollow rfl (Nat.le_of_ble_eq_true rfl) fun hr hM => ?_
  refine tk_goA fo_Tr co_Tr tg_Tr_nothingCanFollow 40 [] ?_
  repeat' first | refine And.intro ?_ ?_ | intro _
  all_goals first | rfl | exact Or.inl rfl | exact Or.inr rfl | skip
  all_goals try simp only [tk_c] at *
  all_goals first | omega | skip
  all_goals (unfold f_ncf; split <;> first | rfl | omega)
/-- the state of subsection k, found anew -/
def f_ns (M : tk_M) (k : Nat) : Int :=
  if M (31 + (M (41 + k) 0).toNat) 2 = 0 then 0
  else if 1 < M (41 + k) 3 then 2
  else if M (41 + k) 3 = 1 then (if M (73 + (M (41 + k) 4).toNat) 11 = 0 then 2 else 1)
  else if M (41 + k) 2 = 1 then (if ¬ M (73 + (M (41 + k) 4).toNat) 10 = 0 ∧ (k : Int) < M (73 + (M (41 + k) 4).toNat) 6 then 0 else 3)
  else if ¬ M (41 + k) 2 = 0 then 3
  else if ¬ M (31 + (M (41 + k) 0).toNat) 4 = 0 ∨ M (31 + (M (41 + k) 0).toNat) 5 = 0 then 3 else 0
theorem k_Tr_newState (l : Launch) (M : tk_M) (k : Nat) (hk : k < 32) (h2 : 0 ≤ M (41 + k) 0) (h3 : M (41 + k) 0 < 10) (h4 : 0 ≤ M (41 + k) 4) (h5 : M (41 + k) 4 < 8) : tk_C l y_Tr_newState 1 13 [.inr 2, .inr (41 + k), .inl (k : Int), .inr 4] M (fun q M' => q = .inl (some (f_ns M k)) ∧ M' = M) := by
  refine tk_C.of wc_Tr_newState rfl (Nat.le_of_ble_eq_true rfl) fun hr hM => ?_
  refine tk_goA fo_Tr co_Tr tg_Tr_newState 60 [] ?_
  repeat' first | refine And.intro ?_ ?_ | intro _
  all_goals first | rfl | exact Or.inl rfl | exact Or.inr rfl | skip
  all_goals try simp only [tk_c] at *
  all_goals first | omega | (unfold f_ns; (repeat' split) <;> first | rfl | omega) | skip
  rename_i c1 _ _ c2 _ _ c3 _ _ c4 _ _
  refine ⟨(), tk_aV (k := 5) (k_Ti_hasLeft l (M (41 + k) 4).toNat (by omega) (k : Int) M) wc_Ti_hasLeft lk_Tr_117 wi_Ti_hasLeft wsl_Ti_hasLeft tg_Tr_newState rfl rfl (show _ < 81 by omega) (tk_shT (by omega)) rfl rfl (by decide) (by decide) ?_ (fun x M' h => by cases h.1)⟩
  rintro v' M' ⟨h1, rfl⟩ hro
  cases h1
  refine tk_goA fo_Tr co_Tr tg_Tr_newState 60 [] ?_
  repeat' first | refine And.intro ?_ ?_ | intro _
  all_goals first | rfl | exact Or.inl rfl | exact Or.inr rfl | skip
  all_goals try simp only [tk_c] at *
  all_goals (unfold f_ns; (repeat' split) <;> first | rfl | omega | skip)
end
section
/-! CONTRACTS: the counting for spreads; the marking of trains -/
def g_cs (M : tk_M) (sp : Int) : Nat → tk_M
  | 0 => M
  | n + 1 => if f_uns (g_cs M sp n) (31 + n) = 1 then f_cs (g_cs M sp n) (31 + n) sp else g_cs M sp n
theorem f_cs_o {M : tk_M} {c : Nat} {sp : Int} {a b : Nat} (h1 : ¬ (a = c ∧ (b = 3 ∨ b = 4))) (h2 : ¬ (a = 2 ∧ b = 5)) : f_cs M c sp a b = M a b := by
  unfold f_cs tk_up
  split
  · dsimp only; rw [if_neg (by omega)]
  · dsimp only; rw [if_neg (by omega), if_neg (by omega), if_neg (by omega), if_neg (by omega)]
theorem f_cs_25 {M : tk_M} {c : Nat} (hc : c ≠ 2) {sp : Int} : M 2 5 ≤ f_cs M c sp 2 5 ∧ f_cs M c sp 2 5 ≤ M 2 5 + 1 := by
  unfold f_cs
  split
  · rw [tk_up_c _ _ _ _ (Ne.symm hc)]; omega
  · rw [tk_up_s]; omega
theorem g_cs_o {M : tk_M} {sp : Int} {a b : Nat} (h2 : ¬ (a = 2 ∧ b = 5)) : ∀ n : Nat, ¬ (31 ≤ a ∧ a < 31 + n ∧ (b = 3 ∨ b = 4)) → g_cs M sp n a b = M a b
  | 0, _ => rfl
  | n + 1, h1 => by
    have ih := g_cs_o (M := M) (sp := sp) h2 n (by omega)
    unfold g_cs
    split
    · rw [f_cs_o (by omega) h2]; exact ih
    · exact ih
theorem g_cs_25 (M : tk_M) (sp : Int) : ∀ n : Nat, M 2 5 ≤ g_cs M sp n 2 5 ∧ g_cs M sp n 2 5 ≤ M 2 5 + n
  | 0 => ⟨Int.le_refl _, by show M 2 5 ≤ _; omega⟩
  | n + 1 => by
    have ih := g_cs_25 M sp n
    have h := f_cs_25 (M := g_cs M sp n) (c := 31 + n) (by omega) (sp := sp)
    unfold g_cs
    split <;> omega
theorem lp_Tr_countForSpreads (l : Launch) (M : tk_M) (sp : Int) (hS0 : 0 ≤ M 2 2) (hS : M 2 2 ≤ 10) (h0 : ∀ i : Nat, (i : Int) < M 2 2 → 0 ≤ M (31 + i) 0 ∧ M (31 + i) 1 < 32 ∧ M (31 + i) 3 < 2147483647) (h5 : M 2 5 < 2147483600) : ∀ (n i : Nat), i + n = (M 2 2).toNat →
    tk_At l "TrackKeeper$Track" prog_5_method_10_code 3 none 1 15 (fun r M' => r = .inl none ∧ M' = g_cs M sp (M 2 2).toNat) 2 [some (.inr 2), some (.inl sp), some (.inl (i : Int))] [] (g_cs M sp i) := by
  intro n
  induction n with
  | zero =>
    intro i hi
    have e2 : g_cs M sp i 2 2 = M 2 2 := g_cs_o (by omega) i (by omega)
    refine tk_goA fo_Tr co_Tr tg_Tr_countForSpreads 40 [2] ?_
    refine And.intro ⟨by decide, by decide⟩ fun _ _ => And.intro (fun _ => ⟨rfl, ?_⟩) (fun h => ?_)
    · rw [show i = (M 2 2).toNat by omega]
    · exact absurd (show g_cs M sp i 2 2 ≤ (i : Int) by rw [e2]; omega) h
  | succ n ih =>
    intro i hi
    have e2 : g_cs M sp i 2 2 = M 2 2 := g_cs_o (by omega) i (by omega)
    have hi0 := h0 i (by omega)
    have h9 := ih (i + 1) (by omega)
    have k0 : g_cs M sp i (31 + i) 0 = M (31 + i) 0 := g_cs_o (by omega) i (by omega)
    have k1 : g_cs M sp i (31 + i) 1 = M (31 + i) 1 := g_cs_o (by omega) i (by omega)
    have k3 : g_cs M sp i (31 + i) 3 = M (31 + i) 3 := g_cs_o (by omega) i (by omega)
    have k5 := g_cs_25 M sp i
    have en : g_cs M sp (i + 1) = if f_uns (g_cs M sp i) (31 + i) = 1 then f_cs (g_cs M sp i) (31 + i) sp else g_cs M sp i := rfl
    generalize g_cs M sp i = N at *
    refine tk_goA fo_Tr co_Tr tg_Tr_countForSpreads 40 [2] ?_
    repeat' first | refine And.intro ?_ ?_ | intro _
    all_goals first | rfl | skip
    all_goals try simp only [tk_c, Int.toNat_natCast] at *
    all_goals try rw [e2] at *
    all_goals first | omega | skip
    refine ⟨(), tk_aV (k := 1) (k_Tr_isUnsure l N (31 + (i : Int).toNat) (by omega) (by omega) (by rw [Int.toNat_natCast, k0]; exact hi0.1) (by rw [Int.toNat_natCast, k1]; exact hi0.2.1)) wc_Tr_isUnsure lk_Tr_64 wi_Tr_isUnsure wsl_Tr_isUnsure tg_Tr_countForSpreads rfl rfl (by decide) rfl rfl rfl (by decide) (by decide) ?_ (fun x M' h => by cases h.1)⟩
    rintro v' M' ⟨h1, rfl⟩ hro
    cases h1
    rw [Int.toNat_natCast]
    refine tk_goA fo_Tr co_Tr tg_Tr_countForSpreads 40 [2] ?_
    repeat' first | refine And.intro ?_ ?_ | intro _
    all_goals first | rfl | skip
    all_goals try simp only [tk_c, Int.toNat_natCast] at *
    all_goals first | omega | skip
    · rename_i hz
      rw [if_neg (by omega)] at en
      rw [en] at h9
      exact ⟨(), h9⟩
    · rename_i hz
      have h01 := f_uns01 M' (31 + i)
      rw [if_pos (by omega)] at en
      rw [en] at h9
      refine ⟨(), tk_aV (k := 1) (k_Tr_countForSpread l M' (31 + (i : Int).toNat) sp (by omega) (by omega) (by rw [Int.toNat_natCast, k3]; exact hi0.2.2) (by omega)) wc_Tr_countForSpread lk_Tr_68 wi_Tr_countForSpread wsl_Tr_countForSpread tg_Tr_countForSpreads rfl rfl (by decide) rfl rfl rfl (by decide) (by decide) ?_ (fun x M' h => by cases h.1)⟩
      rintro v' N' ⟨h1, rfl⟩ hro
      cases h1
      rw [Int.toNat_natCast]
      refine tk_goA fo_Tr co_Tr tg_Tr_countForSpreads 40 [2] ?_
      repeat' first | refine And.intro ?_ ?_ | intro _
      all_goals first | omega | skip
      exact ⟨(), h9⟩
theorem k_Tr_countForSpreads (l : Launch) (M : tk_M) (sp : Int) (hS0 : 0 ≤ M 2 2) (hS : M 2 2 ≤ 10) (h0 : ∀ i : Nat, (i : Int) < M 2 2 → 0 ≤ M (31 + i) 0 ∧ M (31 + i) 1 < 32 ∧ M (31 + i) 3 < 2147483647) (h5 : M 2 5 < 2147483600) : tk_C l y_Tr_countForSpreads 1 15 [.inr 2, .inl sp] M (fun r M' => r = .inl none ∧ M' = g_cs M sp (M 2 2).toNat) := by
  refine tk_C.of wc_Tr_countForSpreads rfl (Nat.le_of_ble_eq_true rfl) fun hr hM => ?_
  refine tk_goA fo_Tr co_Tr tg_Tr_countForSpreads 40 [2] ?_
  exact ⟨(), lp_Tr_countForSpreads l M sp hS0 hS h0 h5 (M 2 2).toNat 0 (by omega)⟩
end
section
/-! CONTRACTS: the marking of trains -/
def g_mk (M : tk_M) (num : Int) (a : Nat) : Nat → tk_M
  | 0 => M
  | n + 1 => tk_up (tk_up (tk_up (g_mk M num a n) (41 + (a + n)) 3 (g_mk M num a n (41 + (a + n)) 3 + 1)) (41 + (a + n)) 4 num) (31 + (M (41 + (a + n)) 0).toNat) 5 1
theorem g_mk_o {M : tk_M} {num : Int} {a c j : Nat} (h2 : ¬ (31 ≤ c ∧ c < 41 ∧ j = 5)) : ∀ n : Nat, (∀ i : Nat, i < n → (M (41 + (a + i)) 0).toNat < 10) → ¬ (41 + a ≤ c ∧ c < 41 + (a + n) ∧ (j = 3 ∨ j = 4)) → g_mk M num a n c j = M c j
  | 0, _, _ => rfl
  | n + 1, hs, h1 => by
    have ih := g_mk_o (M := M) (num := num) h2 n (fun i hi => hs i (by omega)) (by omega)
    have hn := hs n (by omega)
    show tk_up _ _ _ _ c j = _
    unfold tk_up
    rw [if_neg (by omega), if_neg (by omega), if_neg (by omega)]
    exact ih
theorem lp_Tr_markTrain (l : Launch) (M : tk_M) (t : Nat) (ht : t < 8) (num : Int) (a f : Nat) (hf : f < 32) (haf : a ≤ f + 1) (ef : M (73 + t) 5 = (f : Int)) (hs : ∀ i : Nat, i ≤ f → 0 ≤ M (41 + i) 0 ∧ M (41 + i) 0 < 10 ∧ -1000 ≤ M (41 + i) 3 ∧ M (41 + i) 3 < 1000) (P : (Option Int ⊕ Nat) → tk_M → Prop)
    (hP : tk_At l "TrackKeeper$Track" prog_5_method_15_code 4 none 1 14 P 89 [some (.inr 2), some (.inr (73 + t)), some (.inl num), some (.inl ((f : Int) + 1))] [] (g_mk M num a (f + 1 - a))) : ∀ (n i : Nat), a + i + n = f + 1 →
    tk_At l "TrackKeeper$Track" prog_5_method_15_code 4 none 1 14 P 32 [some (.inr 2), some (.inr (73 + t)), some (.inl num), some (.inl ((a + i : Nat) : Int))] [] (g_mk M num a i) := by
  intro n
  induction n with
  | zero =>
    intro i hi
    have e2 : g_mk M num a i (73 + t) 5 = M (73 + t) 5 := g_mk_o (by omega) i (fun k hk => by have := hs (a + k) (by omega); omega) (by omega)
    refine tk_goA fo_Tr co_Tr tg_Tr_markTrain 60 [32, 89] ?_
    refine And.intro ⟨by omega, by omega⟩ fun _ _ => And.intro (fun _ => ⟨(), ?_⟩) (fun h => ?_)
    · rw [show i = f + 1 - a by omega]
      rw [show ((a + (f + 1 - a) : Nat) : Int) = (f : Int) + 1 by omega]
      exact hP
    · exact absurd (show g_mk M num a i (73 + t) 5 < ((a + i : Nat) : Int) by rw [e2, ef]; omega) h
  | succ n ih =>
    intro i hi
    have hsi := hs (a + i) (by omega)
    have hs' : ∀ k : Nat, k < i → (M (41 + (a + k)) 0).toNat < 10 := fun k hk => by have := hs (a + k) (by omega); omega
    have e2 : g_mk M num a i (73 + t) 5 = (f : Int) := by rw [← ef]; exact g_mk_o (by omega) i hs' (by omega)
    have e3 : g_mk M num a i (41 + (a + i)) 3 = M (41 + (a + i)) 3 := g_mk_o (by omega) i hs' (by omega)
    have e0 : g_mk M num a i (41 + (a + i)) 0 = M (41 + (a + i)) 0 := g_mk_o (by omega) i hs' (by omega)
    have h9 := ih (i + 1) (by omega)
    have en : g_mk M num a (i + 1) = tk_up (tk_up (tk_up (g_mk M num a i) (41 + (a + i)) 3 (g_mk M num a i (41 + (a + i)) 3 + 1)) (41 + (a + i)) 4 num) (31 + (M (41 + (a + i)) 0).toNat) 5 1 := rfl
    rw [en] at h9
    generalize g_mk M num a i = N at *
    have e00 : ∀ v w : Int, tk_up (tk_up N (41 + (a + i)) 3 v) (41 + (a + i)) 4 w (41 + (a + i)) 0 = M (41 + (a + i)) 0 := fun v w => by rw [tk_up_j _ _ _ _ (by decide), tk_up_j _ _ _ _ (by decide)]; exact e0
    refine tk_goA fo_Tr co_Tr tg_Tr_markTrain 60 [32, 89] ?_
    repeat' first | refine And.intro ?_ ?_ | intro _
    all_goals first | rfl | exact Or.inr rfl | skip
    all_goals try simp only [tk_c, Int.toNat_natCast] at *
    all_goals try simp only [e00] at *
    all_goals first | omega | skip
    refine ⟨(), ?_⟩
    exact h9
def f_occ (M : tk_M) (t : Nat) : Int := if ¬ M (73 + t) 10 = 0 ∧ f_ncf M (M (73 + t) 6) = 1 then 1 else 0
def f_mk (M : tk_M) (t : Nat) : tk_M := if M (73 + t) 5 + 1 < M 2 3 then tk_up (g_mk (tk_up M (73 + t) 11 (f_occ M t)) (t : Int) (M (73 + t) 6).toNat ((M (73 + t) 5).toNat + 1 - (M (73 + t) 6).toNat)) (31 + (M (41 + (M (73 + t) 5 + 1).toNat) 0).toNat) 5 1
  else g_mk (tk_up M (73 + t) 11 (f_occ M t)) (t : Int) (M (73 + t) 6).toNat ((M (73 + t) 5).toNat + 1 - (M (73 + t) 6).toNat)
/-- what marking a train asks -/
def p_mk (M : tk_M) (t : Nat) : Prop := 0 ≤ M (73 + t) 6 ∧ M (73 + t) 6 ≤ M (73 + t) 5 ∧ M (73 + t) 5 < M 2 3
def p_sub (M : tk_M) : Prop := 0 ≤ M 2 3 ∧ M 2 3 ≤ 32 ∧ (∀ i : Nat, (i : Int) < M 2 3 → 0 ≤ M (41 + i) 0 ∧ M (41 + i) 0 < 10 ∧ -1000 ≤ M (41 + i) 3 ∧ M (41 + i) 3 < 1000) ∧ (0 < M 2 3 → M (31 + (M 41 0).toNat) 0 = 0)
theorem k_Tr_markTrain (l : Launch) (M : tk_M) (t : Nat) (ht : t < 8) (hp : p_mk M t) (hs : p_sub M) : tk_C l y_Tr_markTrain 1 14 [.inr 2, .inr (73 + t), .inl (t : Int)] M (fun r M' => r = .inl none ∧ M' = f_mk M t) := by
  refine tk_C.of wc_Tr_markTrain rfl (Nat.le_of_ble_eq_true rfl) fun hr hM => ?_
  obtain ⟨p1, p2, p3⟩ := hp
  obtain ⟨s1, s2, s3, s4⟩ := hs
  -- behind the first store
  have key : tk_At l "TrackKeeper$Track" prog_5_method_15_code 4 none 1 14 (fun r M' => r = .inl none ∧ M' = f_mk M t) 27 [some (.inr 2), some (.inr (73 + t)), some (.inl (t : Int)), none] [] (tk_up M (73 + t) 11 (f_occ M t)) := by
    have ef : tk_up M (73 + t) 11 (f_occ M t) (73 + t) 5 = M (73 + t) 5 := tk_up_j _ _ _ _ (by decide)
    have er : tk_up M (73 + t) 11 (f_occ M t) (73 + t) 6 = M (73 + t) 6 := tk_up_j _ _ _ _ (by decide)
    have eu : ∀ i j : Nat, i < 32 → tk_up M (73 + t) 11 (f_occ M t) (41 + i) j = M (41 + i) j := fun i j hi => tk_up_c _ _ _ _ (by omega) _
    have e23 : tk_up M (73 + t) 11 (f_occ M t) 2 3 = M 2 3 := tk_up_c _ _ _ _ (by omega) _
    have hfm : f_mk M t = if M (73 + t) 5 + 1 < M 2 3 then tk_up (g_mk (tk_up M (73 + t) 11 (f_occ M t)) (t : Int) (M (73 + t) 6).toNat ((M (73 + t) 5).toNat + 1 - (M (73 + t) 6).toNat)) (31 + (M (41 + (M (73 + t) 5 + 1).toNat) 0).toNat) 5 1 else g_mk (tk_up M (73 + t) 11 (f_occ M t)) (t : Int) (M (73 + t) 6).toNat ((M (73 + t) 5).toNat + 1 - (M (73 + t) 6).toNat) := rfl
    generalize tk_up M (73 + t) 11 (f_occ M t) = N at *
    obtain ⟨a, ha⟩ : ∃ a : Nat, M (73 + t) 6 = (a : Int) := ⟨(M (73 + t) 6).toNat, by omega⟩
    obtain ⟨f, hf⟩ : ∃ f : Nat, M (73 + t) 5 = (f : Int) := ⟨(M (73 + t) 5).toNat, by omega⟩
    have hs9 : ∀ i : Nat, i ≤ f → 0 ≤ N (41 + i) 0 ∧ N (41 + i) 0 < 10 ∧ -1000 ≤ N (41 + i) 3 ∧ N (41 + i) 3 < 1000 := fun i hi => by
      rw [eu i 0 (by omega), eu i 3 (by omega)]; exact s3 i (by omega)
    have hgs : ∀ i : Nat, i < f + 1 - a → (N (41 + (a + i)) 0).toNat < 10 := fun i hi => by have := hs9 (a + i) (by omega); omega
    have hloop := lp_Tr_markTrain l N t ht (t : Int) a f (by omega) (by omega) (by rw [ef, hf]) hs9 (fun r M' => r = .inl none ∧ M' = f_mk M t) ?_ (f + 1 - a) 0 (by omega)
    · refine tk_goA fo_Tr co_Tr tg_Tr_markTrain 60 [32] ?_
      refine And.intro ⟨by omega, by omega⟩ fun _ _ => ⟨(), ?_⟩
      show tk_At _ _ _ _ _ _ _ _ 32 [some (.inr 2), some (.inr (73 + t)), some (.inl (t : Int)), some (.inl (N (73 + t) 6))] [] N
      rw [er, ha]
      exact hloop
    · have g5 : g_mk N (t : Int) a (f + 1 - a) (73 + t) 5 = (f : Int) := by rw [g_mk_o (by omega) _ hgs (by omega), ef, hf]
      have g23 : g_mk N (t : Int) a (f + 1 - a) 2 3 = M 2 3 := by rw [g_mk_o (by omega) _ hgs (by omega), e23]
      have gs : ∀ i : Nat, i < 32 → g_mk N (t : Int) a (f + 1 - a) (41 + i) 0 = M (41 + i) 0 := fun i hi => by rw [g_mk_o (by omega) _ hgs (by omega), eu i 0 hi]
      rw [ha, hf, Int.toNat_natCast, Int.toNat_natCast] at hfm
      generalize g_mk N (t : Int) a (f + 1 - a) = N2 at *
      refine tk_goA fo_Tr co_Tr tg_Tr_markTrain 60 [] ?_
      repeat' first | refine And.intro ?_ ?_ | intro _
      all_goals first | rfl | exact Or.inr rfl | skip
      all_goals try simp only [tk_c, g5, g23] at *
      all_goals first | omega | skip
      · rw [hfm, if_neg (by omega)]
      · rename_i hlt _ _ _ _ _ _
        have := s3 (f + 1) (by omega)
        rw [gs _ (by omega), show ((f : Int) + 1).toNat = f + 1 by omega]
        omega
      · have := s3 (f + 1) (by omega)
        rw [gs _ (by omega), show ((f : Int) + 1).toNat = f + 1 by omega]
        omega
      · have := s3 (f + 1) (by omega)
        rw [gs _ (by omega), show ((f : Int) + 1).toNat = f + 1 by omega]
        omega
      · have := s3 (f + 1) (by omega)
        rw [hfm, if_pos (by omega), gs _ (by omega)]
  have sr := s3 (M (73 + t) 6).toNat (by omega)
  refine tk_goA fo_Tr co_Tr tg_Tr_markTrain 60 [27] ?_
  refine And.intro ⟨by omega, by omega⟩ fun _ _ => And.intro (fun h => ?_) (fun h => ?_)
  · refine And.intro ⟨by omega, by omega⟩ (And.intro (Or.inl rfl) ⟨(), ?_⟩)
    have e : f_occ M t = 0 := by unfold f_occ; rw [if_neg (fun z => z.1 h)]
    rw [e] at key
    exact key
  · refine And.intro ⟨by omega, by omega⟩ fun _ _ => ⟨(), tk_aV (k := 1) (k_Tr_nothingCanFollow l M (M (73 + t) 6) p1 (by omega) sr.1 sr.2.1 (fun z => ?_)) wc_Tr_nothingCanFollow lk_Tr_104 wi_Tr_nothingCanFollow wsl_Tr_nothingCanFollow tg_Tr_markTrain rfl rfl (by decide) rfl rfl rfl (by decide) (Nat.le_of_ble_eq_true rfl) ?_ (fun x M' h => by cases h.1)⟩
    · rcases Int.lt_or_le 0 (M (73 + t) 6) with h9 | h9
      · omega
      · have h8 : M (73 + t) 6 = 0 := by omega
        rw [h8] at z
        exact absurd (s4 (by omega)) z
    · rintro v' M' ⟨h1, rfl⟩ hro
      cases h1
      refine tk_goA fo_Tr co_Tr tg_Tr_markTrain 60 [27] ?_
      refine And.intro (fun h2 => ?_) (fun h2 => ?_)
      · refine And.intro ⟨by omega, by omega⟩ (And.intro (Or.inl rfl) ⟨(), ?_⟩)
        have e : f_occ M' t = 0 := by unfold f_occ; rw [if_neg (fun z => by have := z.2; rw [show f_ncf M' (M' (73 + t) 6) = 0 from h2] at this; cases this)]
        rw [e] at key
        exact key
      · refine And.intro ⟨by omega, by omega⟩ (And.intro (Or.inr rfl) ⟨(), ?_⟩)
        have e : f_occ M' t = 1 := by
          unfold f_occ
          have h01 : f_ncf M' (M' (73 + t) 6) = 0 ∨ f_ncf M' (M' (73 + t) 6) = 1 := by unfold f_ncf; split <;> simp
          rw [if_pos ⟨h, by rcases h01 with z | z; exact absurd z h2; exact z⟩]
        rw [e] at key
        exact key
/-- what the marking leaves as it was -/
theorem f_mk_o {M : tk_M} {t : Nat} (hp : p_mk M t) (hs : p_sub M) {c j : Nat} (h1 : ¬ (c = 73 + t ∧ j = 11)) (h2 : ¬ (31 ≤ c ∧ c < 41 ∧ j = 5)) (h3 : ¬ (41 ≤ c ∧ c < 73 ∧ (j = 3 ∨ j = 4))) : f_mk M t c j = M c j := by
  obtain ⟨p1, p2, p3⟩ := hp
  obtain ⟨s1, s2, s3, s4⟩ := hs
  have hg : g_mk (tk_up M (73 + t) 11 (f_occ M t)) (t : Int) (M (73 + t) 6).toNat ((M (73 + t) 5).toNat + 1 - (M (73 + t) 6).toNat) c j = M c j := by
    rw [g_mk_o h2 _ (fun i hi => ?_) (by omega)]
    · unfold tk_up
      rw [if_neg h1]
    · have := s3 ((M (73 + t) 6).toNat + i) (by omega)
      rw [tk_up_c _ _ _ _ (by omega)]
      omega
  unfold f_mk
  split
  · have := s3 (M (73 + t) 5 + 1).toNat (by omega)
    unfold tk_up
    rw [if_neg (by omega)]
    exact hg
  · exact hg
def g_mts (M : tk_M) : Nat → tk_M
  | 0 => M
  | n + 1 => if g_mts M n (73 + n) 9 = 0 then g_mts M n else f_mk (g_mts M n) n
end
section
/-! CONTRACTS: all trains marked -/
def p_trk (M : tk_M) : Prop := 0 ≤ M 2 2 ∧ M 2 2 ≤ 10 ∧ 0 ≤ M 2 3 ∧ M 2 3 ≤ 32 ∧ (∀ i : Nat, (i : Int) < M 2 3 → 0 ≤ M (41 + i) 0 ∧ M (41 + i) 0 < 10) ∧ (0 < M 2 3 → M (31 + (M 41 0).toNat) 0 = 0)
def p_tr (M : tk_M) : Prop := ∀ t : Nat, t < 8 → ¬ M (73 + t) 9 = 0 → p_mk M t
theorem g_mk_3 {M : tk_M} {num : Int} {a : Nat} : ∀ n : Nat, (∀ i : Nat, i < n → (M (41 + (a + i)) 0).toNat < 10) → ∀ c : Nat, 41 ≤ c → M c 3 ≤ g_mk M num a n c 3 ∧ g_mk M num a n c 3 ≤ M c 3 + 1
  | 0, _, c, _ => ⟨Int.le_refl _, by show M c 3 ≤ _; omega⟩
  | n + 1, hs, c, hc => by
    have ih := g_mk_3 (M := M) (num := num) (a := a) n (fun i hi => hs i (by omega)) c hc
    have hn := hs n (by omega)
    have e3 : g_mk M num a n (41 + (a + n)) 3 = M (41 + (a + n)) 3 := g_mk_o (by omega) n (fun i hi => hs i (by omega)) (by omega)
    show _ ≤ tk_up _ _ _ _ c 3 ∧ tk_up _ _ _ _ c 3 ≤ _
    rw [tk_up_c _ _ _ _ (by omega), tk_up]
    rw [if_neg (by omega)]
    unfold tk_up
    by_cases e : c = 41 + (a + n) ∧ 3 = 3
    · rw [if_pos e, e3, e.1]
      omega
    · rw [if_neg e]
      exact ih
theorem f_mk_3 {M : tk_M} {t : Nat} (ht : t < 8) (hp : p_mk M t) (hs : p_sub M) (i : Nat) (hi : i < 32) : M (41 + i) 3 ≤ f_mk M t (41 + i) 3 ∧ f_mk M t (41 + i) 3 ≤ M (41 + i) 3 + 1 := by
  obtain ⟨p1, p2, p3⟩ := hp
  obtain ⟨s1, s2, s3, s4⟩ := hs
  have hg := g_mk_3 (M := tk_up M (73 + t) 11 (f_occ M t)) (num := (t : Int)) (a := (M (73 + t) 6).toNat) ((M (73 + t) 5).toNat + 1 - (M (73 + t) 6).toNat) (fun k hk => by
    have := s3 ((M (73 + t) 6).toNat + k) (by omega)
    rw [tk_up_c _ _ _ _ (by omega)]
    omega) (41 + i) (by omega)
  rw [tk_up_c _ _ _ _ (by omega)] at hg
  unfold f_mk
  split
  · have := s3 (M (73 + t) 5 + 1).toNat (by omega)
    rw [tk_up_c _ _ _ _ (by omega)]
    exact hg
  · exact hg
/-- cells and slots that the marking writes -/
def q_mk (c j : Nat) : Prop := (73 ≤ c ∧ c < 81 ∧ j = 11) ∨ (31 ≤ c ∧ c < 41 ∧ j = 5) ∨ (41 ≤ c ∧ c < 73 ∧ (j = 3 ∨ j = 4))
theorem g_mts_inv {M : tk_M} (hT : p_trk M) (h0 : ∀ i : Nat, (i : Int) < M 2 3 → M (41 + i) 3 = 0) (hR : p_tr M) : ∀ n : Nat, n ≤ 8 → (∀ c j, ¬ q_mk c j → g_mts M n c j = M c j) ∧ p_sub (g_mts M n) ∧ p_tr (g_mts M n) ∧ ∀ i : Nat, (i : Int) < M 2 3 → 0 ≤ g_mts M n (41 + i) 3 ∧ g_mts M n (41 + i) 3 ≤ n
  | 0, _ => by
    obtain ⟨t1, t2, t3, t4, t5, t6⟩ := hT
    refine ⟨fun _ _ _ => rfl, ⟨t3, t4, fun i hi => ⟨(t5 i hi).1, (t5 i hi).2, ?_, ?_⟩, t6⟩, hR, fun i hi => ⟨?_, ?_⟩⟩
    · show -1000 ≤ M (41 + i) 3
      rw [h0 i hi]; decide
    · show M (41 + i) 3 < 1000
      rw [h0 i hi]; decide
    · show 0 ≤ M (41 + i) 3
      rw [h0 i hi]; decide
    · show M (41 + i) 3 ≤ _
      rw [h0 i hi]; decide
  | n + 1, hn => by
    obtain ⟨a1, a2, a3, a4⟩ := g_mts_inv hT h0 hR n (by omega)
    obtain ⟨t1, t2, t3, t4, t5, t6⟩ := hT
    have ew : g_mts M (n + 1) = if g_mts M n (73 + n) 9 = 0 then g_mts M n else f_mk (g_mts M n) n := rfl
    by_cases hz : g_mts M n (73 + n) 9 = 0
    · rw [ew, if_pos hz]
      exact ⟨a1, a2, a3, fun i hi => by have := a4 i hi; omega⟩
    · rw [ew, if_neg hz]
      have pm := a3 n (by omega) hz
      have o : ∀ c j, ¬ q_mk c j → f_mk (g_mts M n) n c j = M c j := fun c j h => by
        unfold q_mk at h
        rw [f_mk_o pm a2 (by omega) (by omega) (by omega)]
        exact a1 c j (by unfold q_mk; omega)
      have o3 : ∀ i : Nat, (i : Int) < M 2 3 → 0 ≤ f_mk (g_mts M n) n (41 + i) 3 ∧ f_mk (g_mts M n) n (41 + i) 3 ≤ n + 1 := fun i hi => by
        have := f_mk_3 (by omega) pm a2 i (by omega)
        have := a4 i hi
        omega
      have e23 : f_mk (g_mts M n) n 2 3 = M 2 3 := o 2 3 (by unfold q_mk; omega)
      refine ⟨o, ⟨by rw [e23]; exact t3, by rw [e23]; exact t4, fun i hi => ?_, fun h => ?_⟩, fun t ht hl => ?_, fun i hi => by have := o3 i hi; omega⟩
      · rw [e23] at hi
        have := o3 i hi
        rw [o (41 + i) 0 (by unfold q_mk; omega)]
        have := t5 i hi
        omega
      · rw [e23] at h
        rw [o 41 0 (by unfold q_mk; omega), o _ 0 (by unfold q_mk; omega)]
        exact t6 h
      · rw [o (73 + t) 9 (by unfold q_mk; omega)] at hl
        have := hR t ht hl
        unfold p_mk at this ⊢
        rw [o (73 + t) 6 (by unfold q_mk; omega), o (73 + t) 5 (by unfold q_mk; omega), e23]
        exact this
theorem lp_Tr_markTrains3 (l : Launch) (M : tk_M) (hT : p_trk M) (h0 : ∀ i : Nat, (i : Int) < M 2 3 → M (41 + i) 3 = 0) (hR : p_tr M) : ∀ (n i : Nat), i + n = 8 →
    tk_At l "TrackKeeper$Track" prog_5_method_14_code 3 none 2 29 (fun r M' => r = .inl none ∧ M' = g_mts M 8) 54 [some (.inr 2), some (.inr 4), some (.inl (i : Int))] [] (g_mts M i) := by
  intro n
  induction n with
  | zero =>
    intro i hi
    refine tk_goA fo_Tr co_Tr tg_Tr_markTrains 40 [54] ?_
    refine And.intro (fun _ => ⟨rfl, ?_⟩) (fun h => ?_)
    · rw [show i = 8 by omega]
    · exact absurd (show (8 : Int) ≤ (i : Int) by omega) h
  | succ n ih =>
    intro i hi
    have h9 := ih (i + 1) (by omega)
    obtain ⟨a1, a2, a3, a4⟩ := g_mts_inv hT h0 hR i (by omega)
    have en : g_mts M (i + 1) = if g_mts M i (73 + i) 9 = 0 then g_mts M i else f_mk (g_mts M i) i := rfl
    generalize g_mts M i = N at *
    refine tk_goA fo_Tr co_Tr tg_Tr_markTrains 40 [54] ?_
    repeat' first | refine And.intro ?_ ?_ | intro _
    all_goals first | rfl | skip
    all_goals try simp only [tk_c, Int.toNat_natCast] at *
    all_goals first | omega | skip
    · rename_i hz
      rw [if_pos hz] at en
      rw [en] at h9
      exact ⟨(), h9⟩
    · rename_i hz
      rw [if_neg hz] at en
      rw [en] at h9
      have con := k_Tr_markTrain l N i (by omega) (a3 i (by omega) hz) a2
      refine ⟨(), tk_aV (k := 1) con wc_Tr_markTrain lk_Tr_94 wi_Tr_markTrain wsl_Tr_markTrain tg_Tr_markTrains rfl rfl (by decide) rfl rfl rfl (by decide) (Nat.le_of_ble_eq_true rfl) ?_ (fun x M' h => by cases h.1)⟩
      rintro v' N' ⟨h1, rfl⟩ hro
      cases h1
      refine tk_goA fo_Tr co_Tr tg_Tr_markTrains 40 [54] ?_
      repeat' first | refine And.intro ?_ ?_ | intro _
      all_goals first | omega | skip
      exact ⟨(), h9⟩
theorem lp_Tr_markTrains1 (l : Launch) (M : tk_M) (h4 : M 2 3 ≤ 32) (h3 : 0 ≤ M 2 3) (P : (Option Int ⊕ Nat) → tk_M → Prop) (hP : tk_At l "TrackKeeper$Track" prog_5_method_14_code 3 none 2 29 P 26 [some (.inr 2), some (.inr 4), some (.inl (M 2 3))] [] (tk_st 41 (M 2 3).toNat 3 0 M)) : ∀ (n i : Nat), i + n = (M 2 3).toNat →
    tk_At l "TrackKeeper$Track" prog_5_method_14_code 3 none 2 29 P 2 [some (.inr 2), some (.inr 4), some (.inl (i : Int))] [] (tk_st 41 i 3 0 M) := by
  intro n
  induction n with
  | zero =>
    intro i hi
    have e2 : tk_st 41 i 3 0 M 2 3 = M 2 3 := tk_st_o (by omega)
    refine tk_goA fo_Tr co_Tr tg_Tr_markTrains 40 [2, 26] ?_
    refine And.intro ⟨by decide, by decide⟩ fun _ _ => And.intro (fun _ => ⟨(), ?_⟩) (fun h => ?_)
    · rw [show (i : Int) = M 2 3 by omega, show i = (M 2 3).toNat by omega]
      exact hP
    · exact absurd (show tk_st 41 i 3 0 M 2 3 ≤ (i : Int) by rw [e2]; omega) h
  | succ n ih =>
    intro i hi
    have e2 : tk_st 41 i 3 0 M 2 3 = M 2 3 := tk_st_o (by omega)
    have h9 := ih (i + 1) (by omega)
    refine tk_goA fo_Tr co_Tr tg_Tr_markTrains 40 [2, 26] ?_
    repeat' first | refine And.intro ?_ ?_ | intro _
    all_goals first | rfl | skip
    all_goals try simp only [tk_c, Int.toNat_natCast] at *
    all_goals try rw [e2] at *
    all_goals first | omega | skip
    rw [← tk_st_s] at h9
    exact ⟨(), h9⟩
theorem lp_Tr_markTrains2 (l : Launch) (M : tk_M) (h4 : M 2 2 ≤ 10) (h3 : 0 ≤ M 2 2) (P : (Option Int ⊕ Nat) → tk_M → Prop) (hP : tk_At l "TrackKeeper$Track" prog_5_method_14_code 3 none 2 29 P 52 [some (.inr 2), some (.inr 4), some (.inl (M 2 2))] [] (tk_st 31 (M 2 2).toNat 5 0 M)) : ∀ (n i : Nat), i + n = (M 2 2).toNat →
    tk_At l "TrackKeeper$Track" prog_5_method_14_code 3 none 2 29 P 28 [some (.inr 2), some (.inr 4), some (.inl (i : Int))] [] (tk_st 31 i 5 0 M) := by
  intro n
  induction n with
  | zero =>
    intro i hi
    have e2 : tk_st 31 i 5 0 M 2 2 = M 2 2 := tk_st_o (by omega)
    refine tk_goA fo_Tr co_Tr tg_Tr_markTrains 40 [28, 52] ?_
    refine And.intro ⟨by decide, by decide⟩ fun _ _ => And.intro (fun _ => ⟨(), ?_⟩) (fun h => ?_)
    · rw [show (i : Int) = M 2 2 by omega, show i = (M 2 2).toNat by omega]
      exact hP
    · exact absurd (show tk_st 31 i 5 0 M 2 2 ≤ (i : Int) by rw [e2]; omega) h
  | succ n ih =>
    intro i hi
    have e2 : tk_st 31 i 5 0 M 2 2 = M 2 2 := tk_st_o (by omega)
    have h9 := ih (i + 1) (by omega)
    refine tk_goA fo_Tr co_Tr tg_Tr_markTrains 40 [28, 52] ?_
    repeat' first | refine And.intro ?_ ?_ | intro _
    all_goals first | rfl | exact Or.inl rfl | skip
    all_goals try simp only [tk_c, Int.toNat_natCast] at *
    all_goals try rw [e2] at *
    all_goals first | omega | skip
    rw [← tk_st_s] at h9
    exact ⟨(), h9⟩
/-- covers and reaches, before any train is marked -/
def f_m0 (M : tk_M) : tk_M := tk_st 31 (M 2 2).toNat 5 0 (tk_st 41 (M 2 3).toNat 3 0 M)
theorem f_m0_o {M : tk_M} {c j : Nat} (h1 : ¬ (31 ≤ c ∧ c < 31 + (M 2 2).toNat ∧ j = 5)) (h2 : ¬ (41 ≤ c ∧ c < 41 + (M 2 3).toNat ∧ j = 3)) : f_m0 M c j = M c j := by
  unfold f_m0
  rw [tk_st_o h1, tk_st_o h2]
theorem f_m0_trk {M : tk_M} (hT : p_trk M) : p_trk (f_m0 M) := by
  obtain ⟨t1, t2, t3, t4, t5, t6⟩ := hT
  have o : ∀ c j, j ≠ 3 → j ≠ 5 → f_m0 M c j = M c j := fun c j h1 h2 => f_m0_o (by omega) (by omega)
  have o2 : ∀ j, f_m0 M 2 j = M 2 j := fun j => f_m0_o (by omega) (by omega)
  refine ⟨by rw [o2]; exact t1, by rw [o2]; exact t2, by rw [o2]; exact t3, by rw [o2]; exact t4, fun i hi => ?_, fun h => ?_⟩
  · rw [o2] at hi
    rw [o _ 0 (by decide) (by decide)]
    exact t5 i hi
  · rw [o2] at h
    rw [o 41 0 (by decide) (by decide), o _ 0 (by decide) (by decide)]
    exact t6 h
theorem f_m0_tr {M : tk_M} (hT : p_trk M) (hR : p_tr M) : p_tr (f_m0 M) := by
  obtain ⟨t1, t2, t3, t4, t5, t6⟩ := hT
  have o : ∀ t j, f_m0 M (73 + t) j = M (73 + t) j := fun t j => f_m0_o (by omega) (by omega)
  have o2 : f_m0 M 2 3 = M 2 3 := f_m0_o (by omega) (by omega)
  intro t ht hl
  rw [o] at hl
  have := hR t ht hl
  unfold p_mk at this ⊢
  rw [o, o, o2]
  exact this
theorem f_m0_3 {M : tk_M} (hT : p_trk M) : ∀ i : Nat, (i : Int) < f_m0 M 2 3 → f_m0 M (41 + i) 3 = 0 := by
  obtain ⟨t1, t2, t3, t4, t5, t6⟩ := hT
  intro i hi
  rw [show f_m0 M 2 3 = M 2 3 from f_m0_o (by omega) (by omega)] at hi
  unfold f_m0
  rw [tk_st_o (by omega), tk_st_i (by omega) (by omega)]
theorem k_Tr_markTrains (l : Launch) (M : tk_M) (hT : p_trk M) (hR : p_tr M) : tk_C l y_Tr_markTrains 2 29 [.inr 2, .inr 4] M (fun r M' => r = .inl none ∧ M' = g_mts (f_m0 M) 8) := by
  refine tk_C.of wc_Tr_markTrains rfl (Nat.le_of_ble_eq_true rfl) fun hr hM => ?_
  obtain ⟨t1, t2, t3, t4, t5, t6⟩ := id hT
  refine tk_goA fo_Tr co_Tr tg_Tr_markTrains 40 [2] ?_
  refine ⟨(), ?_⟩
  have h := lp_Tr_markTrains1 l M t4 t3 (fun r M' => r = .inl none ∧ M' = g_mts (f_m0 M) 8) ?_ (M 2 3).toNat 0 (by omega)
  · rw [tk_st_0] at h
    exact h
  · refine tk_goA fo_Tr co_Tr tg_Tr_markTrains 40 [28] ?_
    refine ⟨(), ?_⟩
    have e2 : tk_st 41 (M 2 3).toNat 3 0 M 2 2 = M 2 2 := tk_st_o (by omega)
    have h := lp_Tr_markTrains2 l (tk_st 41 (M 2 3).toNat 3 0 M) (by rw [e2]; exact t2) (by rw [e2]; exact t1) (fun r M' => r = .inl none ∧ M' = g_mts (f_m0 M) 8) ?_ (M 2 2).toNat 0 (by rw [e2]; omega)
    · rw [tk_st_0] at h
      exact h
    · refine tk_goA fo_Tr co_Tr tg_Tr_markTrains 40 [54] ?_
      refine ⟨(), ?_⟩
      rw [e2]
      exact lp_Tr_markTrains3 l (f_m0 M) (f_m0_trk hT) (f_m0_3 hT) (f_m0_tr hT hR) 8 0 rfl
end
section
/-! CONTRACTS: all states found anew -/
def p_cov (M : tk_M) : Prop := ∀ i : Nat, i < 32 → 0 ≤ M (41 + i) 4 ∧ M (41 + i) 4 < 8
def p_sec (M : tk_M) : Prop := ∀ i : Nat, (i : Int) < M 2 2 → 0 ≤ M (31 + i) 0 ∧ M (31 + i) 1 < 32
theorem g_mk_4 {M : tk_M} {num : Int} {a : Nat} : ∀ n : Nat, (∀ i : Nat, i < n → (M (41 + (a + i)) 0).toNat < 10) → ∀ c : Nat, 41 ≤ c → g_mk M num a n c 4 = M c 4 ∨ g_mk M num a n c 4 = num
  | 0, _, c, _ => Or.inl rfl
  | n + 1, hs, c, hc => by
    have ih := g_mk_4 (M := M) (num := num) (a := a) n (fun i hi => hs i (by omega)) c hc
    have hn := hs n (by omega)
    show tk_up _ _ _ _ c 4 = _ ∨ tk_up _ _ _ _ c 4 = _
    rw [tk_up_c _ _ _ _ (by omega), tk_up]
    by_cases e : c = 41 + (a + n) ∧ 4 = 4
    · rw [if_pos e]
      exact Or.inr rfl
    · rw [if_neg e]
      unfold tk_up
      rw [if_neg (by omega)]
      exact ih
theorem f_mk_4 {M : tk_M} {t : Nat} (ht : t < 8) (hp : p_mk M t) (hs : p_sub M) (hc : p_cov M) : p_cov (f_mk M t) := by
  obtain ⟨p1, p2, p3⟩ := hp
  obtain ⟨s1, s2, s3, s4⟩ := hs
  intro i hi
  have hg := g_mk_4 (M := tk_up M (73 + t) 11 (f_occ M t)) (num := (t : Int)) (a := (M (73 + t) 6).toNat) ((M (73 + t) 5).toNat + 1 - (M (73 + t) 6).toNat) (fun k hk => by
    have := s3 ((M (73 + t) 6).toNat + k) (by omega)
    rw [tk_up_c _ _ _ _ (by omega)]
    omega) (41 + i) (by omega)
  rw [tk_up_c _ _ _ _ (by omega)] at hg
  have := hc i hi
  unfold f_mk
  split
  · have := s3 (M (73 + t) 5 + 1).toNat (by omega)
    rw [tk_up_c _ _ _ _ (by omega)]
    omega
  · omega
theorem g_mts_4 {M : tk_M} (hT : p_trk M) (h0 : ∀ i : Nat, (i : Int) < M 2 3 → M (41 + i) 3 = 0) (hR : p_tr M) (hc : p_cov M) : ∀ n : Nat, n ≤ 8 → p_cov (g_mts M n)
  | 0, _ => hc
  | n + 1, hn => by
    have ih := g_mts_4 hT h0 hR hc n (by omega)
    obtain ⟨a1, a2, a3, a4⟩ := g_mts_inv hT h0 hR n (by omega)
    show p_cov (if g_mts M n (73 + n) 9 = 0 then g_mts M n else f_mk (g_mts M n) n)
    by_cases hz : g_mts M n (73 + n) 9 = 0
    · rw [if_pos hz]; exact ih
    · rw [if_neg hz]; exact f_mk_4 (by omega) (a3 n (by omega) hz) a2 ih
/-- the states of the first n subsections found anew -/
def g_stt (N : tk_M) (n : Nat) : tk_M := fun c k => if 41 ≤ c ∧ c < 41 + n ∧ k = 2 then f_ns N (c - 41) else N c k
theorem g_stt_o {N : tk_M} {n c k : Nat} (h : ¬ (41 ≤ c ∧ c < 41 + n ∧ k = 2)) : g_stt N n c k = N c k := by
  unfold g_stt
  rw [if_neg h]
theorem g_stt_s (N : tk_M) (n : Nat) : tk_up (g_stt N n) (41 + n) 2 (f_ns N n) = g_stt N (n + 1) := by
  funext c k
  unfold tk_up g_stt
  by_cases h : c = 41 + n ∧ k = 2
  · rw [if_pos h, if_pos (by omega), h.1]
    congr 1
    omega
  · rw [if_neg h]
    by_cases h2 : 41 ≤ c ∧ c < 41 + n ∧ k = 2
    · rw [if_pos h2, if_pos (by omega)]
    · rw [if_neg h2, if_neg (by omega)]
theorem g_stt_0 (N : tk_M) : g_stt N 0 = N := by
  funext c k
  exact g_stt_o (by omega)
theorem f_ns_stt {N : tk_M} {n : Nat} (h : (N (41 + n) 0).toNat < 10) : f_ns (g_stt N n) n = f_ns N n := by
  have e0 : g_stt N n (41 + n) 0 = N (41 + n) 0 := g_stt_o (by omega)
  have e2 : g_stt N n (41 + n) 2 = N (41 + n) 2 := g_stt_o (by omega)
  have e3 : g_stt N n (41 + n) 3 = N (41 + n) 3 := g_stt_o (by omega)
  have e4 : g_stt N n (41 + n) 4 = N (41 + n) 4 := g_stt_o (by omega)
  have s : ∀ j, g_stt N n (31 + (N (41 + n) 0).toNat) j = N (31 + (N (41 + n) 0).toNat) j := fun j => g_stt_o (by omega)
  have t : ∀ x j, j ≠ 2 → g_stt N n x j = N x j := fun x j hj => g_stt_o (by omega)
  unfold f_ns
  rw [e0, e2, e3, e4, s 2, s 4, s 5, t _ 11 (by decide), t _ 10 (by decide), t _ 6 (by decide)]
/-- behind that, of the first n sections: nothing is due any more, and what isn't unsure has counted nothing -/
def g_sec (S : tk_M) (n : Nat) : tk_M := fun c k => if 31 ≤ c ∧ c < 31 + n ∧ (k = 4 ∨ (k = 3 ∧ f_uns S c = 0)) then 0 else S c k
theorem g_sec_o {S : tk_M} {n c k : Nat} (h : ¬ (31 ≤ c ∧ c < 31 + n ∧ (k = 4 ∨ k = 3))) : g_sec S n c k = S c k := by
  unfold g_sec
  rw [if_neg (fun z => h ⟨z.1, z.2.1, z.2.2.elim Or.inl (fun y => Or.inr y.1)⟩)]
theorem g_sec_0 (S : tk_M) : g_sec S 0 = S := by
  funext c k
  exact g_sec_o (by omega)
theorem f_uns_eq {M N : tk_M} {c : Nat} (h0 : M c 0 = N c 0) (h1 : M c 1 = N c 1) (h2 : M c 2 = N c 2) (h : ∀ i : Nat, i < 32 → M (41 + i) 2 = N (41 + i) 2) : f_uns M c = f_uns N c := by
  have e : f_any M c = true ↔ f_any N c = true := by
    rw [f_any_iff, f_any_iff, h0, h1]
    constructor
    · rintro ⟨i, a, b, d, k⟩
      exact ⟨i, a, b, d, by rw [← h i a]; exact k⟩
    · rintro ⟨i, a, b, d, k⟩
      exact ⟨i, a, b, d, by rw [h i a]; exact k⟩
  unfold f_uns
  rw [h2]
  by_cases z : ¬ N c 2 = 0 ∧ f_any N c = true
  · rw [if_pos z, if_pos ⟨z.1, e.mpr z.2⟩]
  · rw [if_neg z, if_neg (fun y => z ⟨y.1, e.mp y.2⟩)]
theorem g_sec_s1 (S : tk_M) (n : Nat) (h : f_uns S (31 + n) = 0) : tk_up (tk_up (g_sec S n) (31 + n) 4 0) (31 + n) 3 0 = g_sec S (n + 1) := by
  funext c k
  unfold tk_up g_sec
  by_cases h1 : c = 31 + n ∧ k = 3
  · rw [if_pos h1, if_pos (by refine ⟨by omega, by omega, Or.inr ⟨h1.2, ?_⟩⟩; rw [h1.1]; exact h)]
  · rw [if_neg h1]
    by_cases h2 : c = 31 + n ∧ k = 4
    · rw [if_pos h2, if_pos ⟨by omega, by omega, Or.inl h2.2⟩]
    · rw [if_neg h2]
      by_cases h3 : 31 ≤ c ∧ c < 31 + n ∧ (k = 4 ∨ (k = 3 ∧ f_uns S c = 0))
      · rw [if_pos h3, if_pos ⟨h3.1, by omega, h3.2.2⟩]
      · rw [if_neg h3, if_neg (fun z => h3 ⟨z.1, by rcases z.2.2 with y | y <;> omega, z.2.2⟩)]
theorem g_sec_s0 (S : tk_M) (n : Nat) (h : ¬ f_uns S (31 + n) = 0) : tk_up (g_sec S n) (31 + n) 4 0 = g_sec S (n + 1) := by
  funext c k
  unfold tk_up g_sec
  by_cases h2 : c = 31 + n ∧ k = 4
  · rw [if_pos h2, if_pos ⟨by omega, by omega, Or.inl h2.2⟩]
  · rw [if_neg h2]
    by_cases h3 : 31 ≤ c ∧ c < 31 + n ∧ (k = 4 ∨ (k = 3 ∧ f_uns S c = 0))
    · rw [if_pos h3, if_pos ⟨h3.1, by omega, h3.2.2⟩]
    · rw [if_neg h3, if_neg (fun z => ?_)]
      rcases z.2.2 with y | y
      · exact h3 ⟨z.1, by omega, z.2.2⟩
      · by_cases e : c = 31 + n
        · rw [e] at y; exact h y.2
        · exact h3 ⟨z.1, by omega, z.2.2⟩
theorem lp_Tr_findStates1 (l : Launch) (N : tk_M) (h4 : N 2 3 ≤ 32) (h3 : 0 ≤ N 2 3) (hs : ∀ i : Nat, (i : Int) < N 2 3 → 0 ≤ N (41 + i) 0 ∧ N (41 + i) 0 < 10) (hc : p_cov N) (P : (Option Int ⊕ Nat) → tk_M → Prop) (hP : tk_At l "TrackKeeper$Track" prog_5_method_13_code 3 none 3 43 P 42 [some (.inr 2), some (.inr 4), some (.inl (N 2 3))] [] (g_stt N (N 2 3).toNat)) : ∀ (n i : Nat), i + n = (N 2 3).toNat →
    tk_At l "TrackKeeper$Track" prog_5_method_13_code 3 none 3 43 P 7 [some (.inr 2), some (.inr 4), some (.inl (i : Int))] [] (g_stt N i) := by
  intro n
  induction n with
  | zero =>
    intro i hi
    have e2 : g_stt N i 2 3 = N 2 3 := g_stt_o (by omega)
    refine tk_goA fo_Tr co_Tr tg_Tr_findStates 40 [7, 42] ?_
    refine And.intro ⟨by decide, by decide⟩ fun _ _ => And.intro (fun _ => ⟨(), ?_⟩) (fun h => ?_)
    · rw [show (i : Int) = N 2 3 by omega, show i = (N 2 3).toNat by omega]
      exact hP
    · exact absurd (show g_stt N i 2 3 ≤ (i : Int) by rw [e2]; omega) h
  | succ n ih =>
    intro i hi
    have e2 : g_stt N i 2 3 = N 2 3 := g_stt_o (by omega)
    have h9 := ih (i + 1) (by omega)
    have hsi := hs i (by omega)
    have hci := hc i (by omega)
    rw [← g_stt_s, ← f_ns_stt (by omega)] at h9
    have e0 : g_stt N i (41 + i) 0 = N (41 + i) 0 := g_stt_o (by omega)
    have e4 : g_stt N i (41 + i) 4 = N (41 + i) 4 := g_stt_o (by omega)
    have con := k_Tr_newState l (g_stt N i) i (by omega) (by rw [e0]; exact hsi.1) (by rw [e0]; exact hsi.2) (by rw [e4]; exact hci.1) (by rw [e4]; exact hci.2)
    generalize g_stt N i = S at *
    refine tk_goA fo_Tr co_Tr tg_Tr_findStates 40 [7, 42] ?_
    repeat' first | refine And.intro ?_ ?_ | intro _
    all_goals first | rfl | skip
    all_goals try simp only [tk_c, Int.toNat_natCast] at *
    all_goals try rw [e2] at *
    all_goals first | omega | skip
    refine ⟨(), tk_aV (k := 1) con wc_Tr_newState lk_Tr_79 wi_Tr_newState wsl_Tr_newState tg_Tr_findStates rfl rfl (by decide) rfl rfl rfl (by decide) (Nat.le_of_ble_eq_true rfl) ?_ (fun x M' h => by cases h.1)⟩
    rintro v' M' ⟨h1, rfl⟩ hro
    cases h1
    refine tk_goA fo_Tr co_Tr tg_Tr_findStates 40 [7, 42] ?_
    repeat' first | refine And.intro ?_ ?_ | intro _
    all_goals first | omega | skip
    exact ⟨(), h9⟩
theorem lp_Tr_findStates2 (l : Launch) (S : tk_M) (h4 : S 2 2 ≤ 10) (h3 : 0 ≤ S 2 2) (hs : p_sec S) : ∀ (n i : Nat), i + n = (S 2 2).toNat →
    tk_At l "TrackKeeper$Track" prog_5_method_13_code 3 none 3 43 (fun r M' => r = .inl none ∧ M' = g_sec S (S 2 2).toNat) 44 [some (.inr 2), some (.inr 4), some (.inl (i : Int))] [] (g_sec S i) := by
  intro n
  induction n with
  | zero =>
    intro i hi
    have e2 : g_sec S i 2 2 = S 2 2 := g_sec_o (by omega)
    refine tk_goA fo_Tr co_Tr tg_Tr_findStates 40 [44] ?_
    refine And.intro ⟨by decide, by decide⟩ fun _ _ => And.intro (fun _ => ⟨rfl, ?_⟩) (fun h => ?_)
    · rw [show i = (S 2 2).toNat by omega]
    · exact absurd (show g_sec S i 2 2 ≤ (i : Int) by rw [e2]; omega) h
  | succ n ih =>
    intro i hi
    have e2 : g_sec S i 2 2 = S 2 2 := g_sec_o (by omega)
    have h9 := ih (i + 1) (by omega)
    have hsi := hs i (by omega)
    have o : ∀ c k, k ≠ 3 → k ≠ 4 → tk_up (g_sec S i) (31 + i) 4 0 c k = S c k := fun c k a b => by
      unfold tk_up
      rw [if_neg (by omega), g_sec_o (by omega)]
    have eu : f_uns (tk_up (g_sec S i) (31 + i) 4 0) (31 + i) = f_uns S (31 + i) := f_uns_eq (o _ 0 (by decide) (by decide)) (o _ 1 (by decide) (by decide)) (o _ 2 (by decide) (by decide)) (fun k _ => o _ 2 (by decide) (by decide))
    have con := k_Tr_isUnsure l (tk_up (g_sec S i) (31 + i) 4 0) (31 + i) (by omega) (by omega) (by rw [o _ 0 (by decide) (by decide)]; exact hsi.1) (by rw [o _ 1 (by decide) (by decide)]; exact hsi.2)
    rw [eu] at con
    have s0 := g_sec_s0 S i
    have s1 := g_sec_s1 S i
    generalize g_sec S (i + 1) = S9 at *
    generalize g_sec S i = S8 at *
    refine tk_goA fo_Tr co_Tr tg_Tr_findStates 40 [44] ?_
    repeat' first | refine And.intro ?_ ?_ | intro _
    all_goals first | rfl | exact Or.inl rfl | skip
    all_goals try simp only [tk_c, Int.toNat_natCast] at *
    all_goals try rw [e2] at *
    all_goals first | omega | skip
    refine ⟨(), tk_aV (k := 1) con wc_Tr_isUnsure lk_Tr_64 wi_Tr_isUnsure wsl_Tr_isUnsure tg_Tr_findStates rfl rfl (by decide) rfl rfl rfl (by decide) (Nat.le_of_ble_eq_true rfl) ?_ (fun x M' h => by cases h.1)⟩
    rintro v' M' ⟨h1, rfl⟩ hro
    cases h1
    refine tk_goA fo_Tr co_Tr tg_Tr_findStates 40 [44] ?_
    repeat' first | refine And.intro ?_ ?_ | intro _
    all_goals first | rfl | exact Or.inl rfl | skip
    all_goals try simp only [tk_c, Int.toNat_natCast] at *
    all_goals first | omega | skip
    · rename_i hz
      rw [← s0 hz] at h9
      exact ⟨(), h9⟩
    · rw [← s1 (by omega)] at h9
      exact ⟨(), h9⟩
def f_fs (M : tk_M) : tk_M := g_sec (g_stt (g_mts (f_m0 M) 8) (M 2 3).toNat) (M 2 2).toNat
theorem k_Tr_findStates (l : Launch) (M : tk_M) (hT : p_trk M) (hR : p_tr M) (hC : p_cov M) (hS : p_sec M) : tk_C l y_Tr_findStates 3 43 [.inr 2, .inr 4] M (fun r M' => r = .inl none ∧ M' = f_fs M) := by
  refine tk_C.of wc_Tr_findStates rfl (Nat.le_of_ble_eq_true rfl) fun hr hM => ?_
  obtain ⟨t1, t2, t3, t4, t5, t6⟩ := id hT
  obtain ⟨a1, a2, a3, a4⟩ := g_mts_inv (f_m0_trk hT) (f_m0_3 hT) (f_m0_tr hT hR) 8 (by omega)
  have hC0 : p_cov (f_m0 M) := fun i hi => by rw [f_m0_o (by omega) (by omega)]; exact hC i hi
  have hC8 := g_mts_4 (f_m0_trk hT) (f_m0_3 hT) (f_m0_tr hT hR) hC0 8 (by omega)
  have o : ∀ c j, ¬ q_mk c j → ¬ (31 ≤ c ∧ c < 41 ∧ j = 5) → ¬ (41 ≤ c ∧ c < 73 ∧ j = 3) → g_mts (f_m0 M) 8 c j = M c j := fun c j h1 h2 h3 => by rw [a1 c j h1, f_m0_o (by omega) (by omega)]
  have e23 : g_mts (f_m0 M) 8 2 3 = M 2 3 := o 2 3 (by unfold q_mk; omega) (by omega) (by omega)
  have e22 : g_mts (f_m0 M) 8 2 2 = M 2 2 := o 2 2 (by unfold q_mk; omega) (by omega) (by omega)
  have hs : ∀ i : Nat, (i : Int) < M 2 3 → 0 ≤ g_mts (f_m0 M) 8 (41 + i) 0 ∧ g_mts (f_m0 M) 8 (41 + i) 0 < 10 := fun i hi => by rw [o _ 0 (by unfold q_mk; omega) (by omega) (by omega)]; exact t5 i hi
  have hse : ∀ i j : Nat, i < 10 → j < 2 → g_mts (f_m0 M) 8 (31 + i) j = M (31 + i) j := fun i j hi hj => o _ j (by unfold q_mk; omega) (by omega) (by omega)
  have ef : f_fs M = g_sec (g_stt (g_mts (f_m0 M) 8) (M 2 3).toNat) (M 2 2).toNat := rfl
  refine tk_goA fo_Tr co_Tr tg_Tr_findStates 40 [7] ?_
  refine ⟨(), tk_aV (k := 1) (k_Tr_markTrains l M hT hR) wc_Tr_markTrains lk_Tr_75 wi_Tr_markTrains wsl_Tr_markTrains tg_Tr_findStates rfl rfl (by decide) rfl rfl rfl (by decide) (Nat.le_of_ble_eq_true rfl) ?_ (fun x M' h => by cases h.1)⟩
  rintro v' M' ⟨h1, rfl⟩ hro
  cases h1
  generalize g_mts (f_m0 M) 8 = N at *
  refine tk_goA fo_Tr co_Tr tg_Tr_findStates 40 [7] ?_
  refine ⟨(), ?_⟩
  have h := lp_Tr_findStates1 l N (by rw [e23]; exact t4) (by rw [e23]; exact t3) (by rw [e23]; exact hs) hC8 (fun r M' => r = .inl none ∧ M' = f_fs M) ?_ (M 2 3).toNat 0 (by rw [e23]; omega)
  · rw [g_stt_0] at h
    exact h
  · refine tk_goA fo_Tr co_Tr tg_Tr_findStates 40 [44] ?_
    refine ⟨(), ?_⟩
    rw [e23]
    have g22 : g_stt N (M 2 3).toNat 2 2 = M 2 2 := by rw [g_stt_o (by omega), e22]
    have h := lp_Tr_findStates2 l (g_stt N (M 2 3).toNat) (by rw [g22]; exact t2) (by rw [g22]; exact t1) (fun i hi => by
      rw [g22] at hi
      rw [g_stt_o (by omega), g_stt_o (by omega), hse i 0 (by omega) (by decide), hse i 1 (by omega) (by decide)]
      exact hS i hi) (M 2 2).toNat 0 (by rw [g22]; omega)
    rw [g_sec_0, g22, ← ef] at h
    exact h
end
section
/-! CONTRACTS: authorities -/
/-- how far all is free from subsection f on, up to e: from f, at most n further -/
def g_run (M : tk_M) (e : Int) : Nat → Int → Int
  | 0, f => f
  | n + 1, f => if f < e ∧ M (41 + (f + 1).toNat) 2 = 0 then g_run M e n (f + 1) else f
theorem g_run_in (M : tk_M) (e : Int) : ∀ (n : Nat) (f : Int), f ≤ g_run M e n f ∧ (g_run M e n f ≤ e ∨ g_run M e n f = f)
  | 0, f => ⟨Int.le_refl _, Or.inr rfl⟩
  | n + 1, f => by
    unfold g_run
    split
    · have := g_run_in M e n (f + 1)
      omega
    · exact ⟨Int.le_refl _, Or.inr rfl⟩
def f_so (M : tk_M) (t : Nat) : tk_M :=
  if M (73 + t) 9 = 0 then tk_up (tk_up M (73 + t) 12 (-1)) 3 1 (M 3 1 + 1)
  else
    let r := g_run M (M (73 + t) 12) 40 (M (73 + t) 5)
    if r < M (73 + t) 12 then (if r ≤ M (73 + t) 5 then tk_up (tk_up (tk_up M (73 + t) 12 r) 3 0 (M 3 0 + 1)) (73 + t) 12 (-1) else tk_up (tk_up M (73 + t) 12 r) 3 0 (M 3 0 + 1))
    else (if M (73 + t) 12 ≤ M (73 + t) 5 then tk_up M (73 + t) 12 (-1) else M)
theorem lp_Au_settleOne (l : Launch) (M : tk_M) (t : Nat) (ht : t < 8) (h5 : 0 ≤ M (73 + t) 5) (h12 : M (73 + t) 12 < 32) (P : (Option Int ⊕ Nat) → tk_M → Prop) (g : Int)
    (hP : tk_At l "TrackKeeper$Authorities" prog_2_method_6_code 4 none 0 0 P 56 [some (.inr 3), some (.inr (73 + t)), some (.inr 2), some (.inl g)] [] M) : ∀ (n : Nat) (f : Int), M (73 + t) 5 ≤ f → M (73 + t) 12 - f ≤ n → g_run M (M (73 + t) 12) n f = g → f < 40 →
    tk_At l "TrackKeeper$Authorities" prog_2_method_6_code 4 none 0 0 P 28 [some (.inr 3), some (.inr (73 + t)), some (.inr 2), some (.inl f)] [] M := by
  intro n
  induction n with
  | zero =>
    intro f h1 h2 h3 h4
    have h3 : f = g := h3
    subst h3
    refine tk_goA fo_Au co_Au tg_Au_settleOne 40 [28, 56] ?_
    repeat' first | refine And.intro ?_ ?_ | intro _
    all_goals first | rfl | skip
    all_goals try simp only [tk_c] at *
    all_goals first | omega | skip
    exact ⟨(), hP⟩
  | succ n ih =>
    intro f h1 h2 h3 h4
    unfold g_run at h3
    refine tk_goA fo_Au co_Au tg_Au_settleOne 40 [28, 56] ?_
    repeat' first | refine And.intro ?_ ?_ | intro _
    all_goals first | rfl | skip
    all_goals try simp only [tk_c] at *
    all_goals first | omega | skip
    · rename_i hge
      rw [if_neg (by omega)] at h3
      subst h3
      exact ⟨(), hP⟩
    · rename_i hne
      rw [if_neg (fun z => hne z.2)] at h3
      subst h3
      exact ⟨(), hP⟩
    · rw [if_pos ⟨by omega, by omega⟩] at h3
      exact ⟨(), ih (f + 1) (by omega) (by omega) h3 (by omega)⟩
theorem k_Au_settleOne (l : Launch) (M : tk_M) (t : Nat) (ht : t < 8) (h5 : ¬ M (73 + t) 9 = 0 → 0 ≤ M (73 + t) 5 ∧ M (73 + t) 5 < 32) (h12 : M (73 + t) 12 < 32) (hc0 : M 3 0 < 2147483647) (hc1 : M 3 1 < 2147483647) : tk_C l y_Au_settleOne 0 0 [.inr 3, .inr (73 + t), .inr 2] M (fun r M' => r = .inl none ∧ M' = f_so M t) := by
  refine tk_C.of wc_Au_settleOne rfl (Nat.le_of_ble_eq_true rfl) fun hr hM => ?_
  have b0 := hM 3 0
  have b1 := hM 3 1
  have u : ∀ v : Int, ∀ k, tk_up M (73 + t) 12 v 3 k = M 3 k := fun v k => tk_up_c _ _ _ _ (by omega) _
  by_cases hl : M (73 + t) 9 = 0
  · refine tk_goA fo_Au co_Au tg_Au_settleOne 40 [28] ?_
    repeat' first | refine And.intro ?_ ?_ | intro _
    all_goals first | rfl | skip
    all_goals try simp only [tk_c, u] at *
    all_goals first | omega | skip
    unfold f_so
    rw [if_pos hl]
  · obtain ⟨q1, q2⟩ := h5 hl
    have hg := g_run_in M (M (73 + t) 12) 40 (M (73 + t) 5)
    have ef : f_so M t = if g_run M (M (73 + t) 12) 40 (M (73 + t) 5) < M (73 + t) 12 then (if g_run M (M (73 + t) 12) 40 (M (73 + t) 5) ≤ M (73 + t) 5 then tk_up (tk_up (tk_up M (73 + t) 12 (g_run M (M (73 + t) 12) 40 (M (73 + t) 5))) 3 0 (M 3 0 + 1)) (73 + t) 12 (-1) else tk_up (tk_up M (73 + t) 12 (g_run M (M (73 + t) 12) 40 (M (73 + t) 5))) 3 0 (M 3 0 + 1)) else (if M (73 + t) 12 ≤ M (73 + t) 5 then tk_up M (73 + t) 12 (-1) else M) := by
      unfold f_so
      rw [if_neg hl]
    have hlp := lp_Au_settleOne l M t ht q1 h12 (fun r M' => r = .inl none ∧ M' = f_so M t) (g_run M (M (73 + t) 12) 40 (M (73 + t) 5)) ?_ 40 (M (73 + t) 5) (Int.le_refl _) (by omega) rfl (by omega)
    · refine tk_goA fo_Au co_Au tg_Au_settleOne 40 [28] ?_
      repeat' first | refine And.intro ?_ ?_ | intro _
      all_goals first | rfl | skip
      all_goals try simp only [tk_c] at *
      all_goals first | omega | skip
      exact ⟨(), hlp⟩
    · generalize g_run M (M (73 + t) 12) 40 (M (73 + t) 5) = g at *
      have w1 : ∀ x y : Int, tk_up (tk_up M (73 + t) 12 x) 3 0 y (73 + t) 12 = x := fun x y => by rw [tk_up_c _ _ _ _ (by omega), tk_up_s]
      have w2 : ∀ x y : Int, tk_up (tk_up M (73 + t) 12 x) 3 0 y (73 + t) 5 = M (73 + t) 5 := fun x y => by rw [tk_up_c _ _ _ _ (by omega), tk_up_j _ _ _ _ (by decide)]
      refine tk_goA fo_Au co_Au tg_Au_settleOne 40 [] ?_
      repeat' first | refine And.intro ?_ ?_ | intro _
      all_goals first | rfl | skip
      all_goals try simp only [tk_c, u, w1, w2] at *
      all_goals first | omega | skip
      · rw [ef, if_neg (by omega), if_neg (by omega)]
      · rw [ef, if_neg (by omega), if_pos (by omega)]
      · rw [ef, if_pos (by omega), if_neg (by omega)]
      · rw [ef, if_pos (by omega), if_pos (by omega)]
theorem tk_up_n {M : tk_M} {c j a b : Nat} {v : Int} (h : ¬ (a = c ∧ b = j)) : tk_up M c j v a b = M a b := by
  unfold tk_up
  rw [if_neg h]
theorem f_so_o {M : tk_M} {t c j : Nat} (h1 : ¬ (c = 73 + t ∧ j = 12)) (h2 : ¬ (c = 3 ∧ j < 2)) : f_so M t c j = M c j := by
  unfold f_so
  dsimp only
  split
  · rw [tk_up_n (by omega), tk_up_n (by omega)]
  · split
    · split
      · rw [tk_up_n (by omega), tk_up_n (by omega), tk_up_n (by omega)]
      · rw [tk_up_n (by omega), tk_up_n (by omega)]
    · split
      · rw [tk_up_n (by omega)]
      · rfl
theorem f_so_3 {M : tk_M} {t : Nat} (k : Nat) : M 3 k ≤ f_so M t 3 k ∧ f_so M t 3 k ≤ M 3 k + 1 := by
  unfold f_so
  dsimp only
  split
  · by_cases e : k = 1
    · subst e; rw [tk_up_s]; omega
    · rw [tk_up_n (by omega), tk_up_n (by omega)]; omega
  · split
    · split
      · rw [tk_up_n (by omega)]
        by_cases e : k = 0
        · subst e; rw [tk_up_s]; omega
        · rw [tk_up_n (by omega), tk_up_n (by omega)]; omega
      · by_cases e : k = 0
        · subst e; rw [tk_up_s]; omega
        · rw [tk_up_n (by omega), tk_up_n (by omega)]; omega
    · split
      · rw [tk_up_n (by omega)]; omega
      · omega
def g_set (M : tk_M) : Nat → tk_M
  | 0 => M
  | n + 1 => if g_set M n (73 + n) 12 = -1 then g_set M n else f_so (g_set M n) n
theorem g_set_o {M : tk_M} {c j : Nat} (h2 : ¬ (c = 3 ∧ j < 2)) : ∀ n : Nat, ¬ (73 ≤ c ∧ c < 73 + n ∧ j = 12) → g_set M n c j = M c j
  | 0, _ => rfl
  | n + 1, h1 => by
    have ih := g_set_o (M := M) h2 n (by omega)
    unfold g_set
    split
    · exact ih
    · rw [f_so_o (by omega) h2]; exact ih
theorem g_set_3 (M : tk_M) (k : Nat) : ∀ n : Nat, M 3 k ≤ g_set M n 3 k ∧ g_set M n 3 k ≤ M 3 k + n
  | 0 => ⟨Int.le_refl _, by show M 3 k ≤ _; omega⟩
  | n + 1 => by
    have ih := g_set_3 M k n
    have h := f_so_3 (M := g_set M n) (t := n) k
    unfold g_set
    split <;> omega
/-- what the settling asks of the trains -/
def p_ath (M : tk_M) : Prop := ∀ t : Nat, t < 8 → (¬ M (73 + t) 9 = 0 → 0 ≤ M (73 + t) 5 ∧ M (73 + t) 5 < 32) ∧ M (73 + t) 12 < 32
theorem lp_Au_settle (l : Launch) (M : tk_M) (hp : p_ath M) (h0 : M 3 0 < 2147483600) (h1 : M 3 1 < 2147483600) : ∀ (n i : Nat), i + n = 8 →
    tk_At l "TrackKeeper$Authorities" prog_2_method_5_code 4 none 1 15 (fun r M' => r = .inl none ∧ M' = g_set M 8) 2 [some (.inr 3), some (.inr 2), some (.inr 4), some (.inl (i : Int))] [] (g_set M i) := by
  intro n
  induction n with
  | zero =>
    intro i hi
    refine tk_goA fo_Au co_Au tg_Au_settle 40 [2] ?_
    refine And.intro (fun _ => ⟨rfl, ?_⟩) (fun h => ?_)
    · rw [show i = 8 by omega]
    · exact absurd (show (8 : Int) ≤ (i : Int) by omega) h
  | succ n ih =>
    intro i hi
    have h9 := ih (i + 1) (by omega)
    have hpi := hp i (by omega)
    have en : g_set M (i + 1) = if g_set M i (73 + i) 12 = -1 then g_set M i else f_so (g_set M i) i := rfl
    have k9 : g_set M i (73 + i) 9 = M (73 + i) 9 := g_set_o (by omega) i (by omega)
    have k5 : g_set M i (73 + i) 5 = M (73 + i) 5 := g_set_o (by omega) i (by omega)
    have k12 : g_set M i (73 + i) 12 = M (73 + i) 12 := g_set_o (by omega) i (by omega)
    have c0 := g_set_3 M 0 i
    have c1 := g_set_3 M 1 i
    have con := k_Au_settleOne l (g_set M i) i (by omega) (by rw [k9, k5]; exact hpi.1) (by rw [k12]; exact hpi.2) (by omega) (by omega)
    generalize g_set M i = N at *
    refine tk_goA fo_Au co_Au tg_Au_settle 40 [2] ?_
    repeat' first | refine And.intro ?_ ?_ | intro _
    all_goals first | rfl | skip
    all_goals try simp only [tk_c, Int.toNat_natCast] at *
    all_goals first | omega | skip
    · rename_i hz
      rw [if_pos hz] at en
      rw [en] at h9
      exact ⟨(), h9⟩
    · rename_i hz
      rw [if_neg hz] at en
      rw [en] at h9
      refine ⟨(), tk_aV (k := 2) con wc_Au_settleOne lk_Au_45 wi_Au_settleOne wsl_Au_settleOne tg_Au_settle rfl rfl (by decide) rfl rfl rfl (by decide) (Nat.le_of_ble_eq_true rfl) ?_ (fun x M' h => by cases h.1)⟩
      rintro v' N' ⟨h1, rfl⟩ hro
      cases h1
      refine tk_goA fo_Au co_Au tg_Au_settle 40 [2] ?_
      repeat' first | refine And.intro ?_ ?_ | intro _
      all_goals first | omega | skip
      exact ⟨(), h9⟩
theorem k_Au_settle (l : Launch) (M : tk_M) (hp : p_ath M) (h0 : M 3 0 < 2147483600) (h1 : M 3 1 < 2147483600) : tk_C l y_Au_settle 1 15 [.inr 3, .inr 2, .inr 4] M (fun r M' => r = .inl none ∧ M' = g_set M 8) := by
  refine tk_C.of wc_Au_settle rfl (Nat.le_of_ble_eq_true rfl) fun hr hM => ?_
  refine tk_goA fo_Au co_Au tg_Au_settle 40 [2] ?_
  exact ⟨(), lp_Au_settle l M hp h0 h1 8 0 rfl⟩
def f_hold (M : tk_M) (t : Nat) (x : Int) : Int := if ¬ M (73 + t) 12 = -1 ∧ M (73 + t) 5 < x ∧ x ≤ M (73 + t) 12 then 1 else 0
/-- does one of the trains from n on, but num, hold x -/
def g_held (M : tk_M) (num x : Int) : Nat → Nat → Int
  | 0, _ => 0
  | n + 1, i => if ¬ (i : Int) = num ∧ f_hold M i x = 1 then 1 else g_held M num x n (i + 1)
theorem g_held01 (M : tk_M) (num x : Int) : ∀ n i : Nat, g_held M num x n i = 0 ∨ g_held M num x n i = 1
  | 0, _ => Or.inl rfl
  | n + 1, i => by
    unfold g_held
    split
    · exact Or.inr rfl
    · exact g_held01 M num x n (i + 1)
theorem lp_Au_isHeldByOther (l : Launch) (M : tk_M) (num x : Int) (r : Int) : ∀ (n i : Nat), i + n = 8 → g_held M num x n i = r →
    tk_At l "TrackKeeper$Authorities" prog_2_method_4_code 5 (some .boolean) 1 13 (fun q M' => q = .inl (some r) ∧ M' = M) 3 [some (.inr 3), some (.inl num), some (.inl x), some (.inr 4), some (.inl (i : Int))] [] M := by
  intro n
  induction n with
  | zero =>
    intro i hi hg
    have hg : 0 = r := hg
    refine tk_goA fo_Au co_Au tg_Au_isHeldByOther 40 [3] ?_
    refine And.intro (fun _ => And.intro (Or.inl rfl) ⟨by rw [hg], rfl⟩) (fun h => ?_)
    exact absurd (show (8 : Int) ≤ (i : Int) by omega) h
  | succ n ih =>
    intro i hi hg
    unfold g_held at hg
    have h9 := ih (i + 1) (by omega)
    refine tk_goA fo_Au co_Au tg_Au_isHeldByOther 40 [3] ?_
    repeat' first | refine And.intro ?_ ?_ | intro _
    all_goals first | rfl | skip
    all_goals try simp only [tk_c, Int.toNat_natCast] at *
    all_goals first | omega | skip
    · rename_i hz
      rw [if_neg (fun z => z.1 hz)] at hg
      exact ⟨(), h9 hg⟩
    · rename_i hz
      refine ⟨(), tk_aV (k := 5) (k_Ti_holds l i (by omega) x M) wc_Ti_holds lk_Au_41 wi_Ti_holds wsl_Ti_holds tg_Au_isHeldByOther rfl rfl (show _ < 81 by omega) (tk_shT (by omega)) rfl rfl (by decide) (Nat.le_of_ble_eq_true rfl) ?_ (fun x M' h => by cases h.1)⟩
      rintro v' N' ⟨h1, rfl⟩ hro
      cases h1
      have ef : (if ¬ N' (73 + i) 12 = -1 ∧ N' (73 + i) 5 < x ∧ x ≤ N' (73 + i) 12 then (1 : Int) else 0) = f_hold N' i x := rfl
      rw [ef]
      have h01 : f_hold N' i x = 0 ∨ f_hold N' i x = 1 := by unfold f_hold; split <;> simp
      refine tk_goA fo_Au co_Au tg_Au_isHeldByOther 40 [3] ?_
      repeat' first | refine And.intro ?_ ?_ | intro _
      all_goals first | rfl | exact Or.inr rfl | skip
      all_goals try simp only [tk_c] at *
      all_goals first | omega | skip
      · rename_i h0
        rw [if_neg (by omega)] at hg
        exact ⟨(), h9 hg⟩
      · rename_i h0
        rw [if_pos ⟨hz, by omega⟩] at hg
        rw [hg]
theorem k_Au_isHeldByOther (l : Launch) (M : tk_M) (num x : Int) : tk_C l y_Au_isHeldByOther 1 13 [.inr 3, .inl num, .inl x, .inr 4] M (fun q M' => q = .inl (some (g_held M num x 8 0)) ∧ M' = M) := by
  refine tk_C.of wc_Au_isHeldByOther rfl (Nat.le_of_ble_eq_true rfl) fun hr hM => ?_
  refine tk_goA fo_Au co_Au tg_Au_isHeldByOther 40 [3] ?_
  exact ⟨(), lp_Au_isHeldByOther l M num x _ 8 0 rfl rfl⟩
/-- how far train num may go from f on, at most n further, not beyond w -/
def g_ext (M : tk_M) (num w : Int) : Nat → Int → Int
  | 0, f => f
  | n + 1, f => if f < w ∧ M (41 + (f + 1).toNat) 2 = 0 ∧ g_held M num (f + 1) 8 0 = 0 then g_ext M num w n (f + 1) else f
theorem lp_Au_extend (l : Launch) (M : tk_M) (num w : Int) (t : Nat) (hw : w < 32) (P : (Option Int ⊕ Nat) → tk_M → Prop) (g : Int)
    (hP : tk_At l "TrackKeeper$Authorities" prog_2_method_3_code 7 none 2 29 P 54 [some (.inr 3), some (.inl num), some (.inl w), some (.inr 2), some (.inr 4), some (.inr (73 + t)), some (.inl g)] [] M) : ∀ (n : Nat) (f : Int), 0 ≤ f → f < 40 → w - f ≤ n → g_ext M num w n f = g →
    tk_At l "TrackKeeper$Authorities" prog_2_method_3_code 7 none 2 29 P 13 [some (.inr 3), some (.inl num), some (.inl w), some (.inr 2), some (.inr 4), some (.inr (73 + t)), some (.inl f)] [] M := by
  intro n
  induction n with
  | zero =>
    intro f h1 h4 h2 h3
    have h3 : f = g := h3
    subst h3
    refine tk_goA fo_Au co_Au tg_Au_extend 40 [13, 54] ?_
    refine And.intro (fun _ => ⟨(), hP⟩) (fun h => ?_)
    exact absurd (show w ≤ f by omega) h
  | succ n ih =>
    intro f h1 h4 h2 h3
    unfold g_ext at h3
    refine tk_goA fo_Au co_Au tg_Au_extend 40 [13, 54] ?_
    repeat' first | refine And.intro ?_ ?_ | intro _
    all_goals first | rfl | skip
    all_goals try simp only [tk_c] at *
    all_goals first | omega | skip
    · rename_i hge
      rw [if_neg (by omega)] at h3
      subst h3
      exact ⟨(), hP⟩
    · rename_i hne
      rw [if_neg (fun z => hne z.2.1)] at h3
      subst h3
      exact ⟨(), hP⟩
    · refine ⟨(), tk_aV (k := 2) (k_Au_isHeldByOther l M num (f + 1)) wc_Au_isHeldByOther lk_Au_34 wi_Au_isHeldByOther wsl_Au_isHeldByOther tg_Au_extend rfl rfl (by decide) rfl rfl rfl (by decide) (Nat.le_of_ble_eq_true rfl) ?_ (fun x M' h => by cases h.1)⟩
      rintro v' N' ⟨h1, rfl⟩ hro
      cases h1
      refine tk_goA fo_Au co_Au tg_Au_extend 40 [13, 54] ?_
      repeat' first | refine And.intro ?_ ?_ | intro _
      all_goals first | rfl | skip
      all_goals try simp only [tk_c] at *
      all_goals first | omega | skip
      · rename_i hh
        rw [if_neg (fun z => hh z.2.2)] at h3
        subst h3
        exact ⟨(), hP⟩
      · rw [if_pos ⟨by omega, by omega, by omega⟩] at h3
        exact ⟨(), ih (f + 1) (by omega) (by omega) (by omega) h3⟩
def f_ext (M : tk_M) (t : Nat) (w : Int) : tk_M := if M (73 + t) 5 < g_ext M (t : Int) w 40 (M (73 + t) 5) ∧ M (73 + t) 12 < g_ext M (t : Int) w 40 (M (73 + t) 5) then tk_up M (73 + t) 12 (g_ext M (t : Int) w 40 (M (73 + t) 5)) else M
theorem k_Au_extend (l : Launch) (M : tk_M) (t : Nat) (ht : t < 8) (w : Int) (hw : w < 32) (h0 : 0 ≤ M (73 + t) 5) (h1 : M (73 + t) 5 < 32) : tk_C l y_Au_extend 2 29 [.inr 3, .inl (t : Int), .inl w, .inr 2, .inr 4] M (fun q M' => q = .inl none ∧ M' = f_ext M t w) := by
  refine tk_C.of wc_Au_extend rfl (Nat.le_of_ble_eq_true rfl) fun hr hM => ?_
  have hwr := hr (.inl w) (by simp)
  simp only [tk_ru] at hwr
  have ef : f_ext M t w = if M (73 + t) 5 < g_ext M (t : Int) w 40 (M (73 + t) 5) ∧ M (73 + t) 12 < g_ext M (t : Int) w 40 (M (73 + t) 5) then tk_up M (73 + t) 12 (g_ext M (t : Int) w 40 (M (73 + t) 5)) else M := rfl
  have hlp := lp_Au_extend l M (t : Int) w t hw (fun q M' => q = .inl none ∧ M' = f_ext M t w) (g_ext M (t : Int) w 40 (M (73 + t) 5)) ?_ 40 (M (73 + t) 5) h0 (by omega) (by omega) rfl
  · refine tk_goA fo_Au co_Au tg_Au_extend 40 [13] ?_
    repeat' first | refine And.intro ?_ ?_ | intro _
    all_goals first | rfl | skip
    all_goals try simp only [tk_c, Int.toNat_natCast] at *
    all_goals first | omega | skip
    exact ⟨(), hlp⟩
  · generalize g_ext M (t : Int) w 40 (M (73 + t) 5) = g at *
    refine tk_goA fo_Au co_Au tg_Au_extend 40 [] ?_
    repeat' first | refine And.intro ?_ ?_ | intro _
    all_goals first | rfl | skip
    all_goals try simp only [tk_c] at *
    all_goals first | omega | skip
    · rw [ef, if_neg (by omega)]
    · rw [ef, if_neg (by omega)]
    · rw [ef, if_pos (by omega)]
end
section
/-! CONTRACTS: a report taken in; the track built; all found anew -/
theorem fo_0 (own : String) : tk_flok own [] := fun q hq => by cases hq
theorem co_0 (own : String) : tk_csok own [] := fun q hq => by cases hq
set_option maxRecDepth 100000 in
theorem wc_max : Cond.code Lib.Math.max.name Lib.Math.max.code 2 (some .int) ∈ tk_tbl := tk_mw 497 rfl rfl
set_option maxRecDepth 100000 in
theorem wst_max : Cond.static Lib.Math.max.name ∈ tk_tbl := tk_mw 496 rfl rfl
set_option maxRecDepth 100000 in
theorem wn_max : Cond.initialized Lib.Math.max.name.cls ∈ tk_tbl := tk_mw 41 rfl rfl
set_option maxRecDepth 100000 in
theorem wl_max : Cond.methodLink "TrackKeeper$Train" 37 Lib.Math.max.name ∈ tk_tbl := tk_mw 495 rfl rfl
def f_max (a b : Int) : Int := if a < b then b else a
/-- the greater of two numbers -/
theorem tk_aMax {l : Launch} {cc : ByteArray} {nL : Nat} {ret : Option FieldType} {nf nw : Nat} {P : (Option Int ⊕ Nat) → tk_M → Prop} {tab : List tk_E} {pc : Nat} {lo : tk_Lc} {st : List tk_V} {M : tk_M} {a b : Int} (htab : tk_good cc nL tab) (hd : tk_ia tab pc = some (.invokestatic 37, pc + 3)) (hfr : 1 ≤ nf) (hlo : tk_sv st + 13 ≤ nw)
    (k : tk_At l "TrackKeeper$Train" cc nL ret nf nw P (pc + 3) lo (.inl (.inl (f_max a b)) :: st) M) : tk_At l "TrackKeeper$Train" cc nL ret nf nw P pc lo (.inl (.inl b) :: .inl (.inl a) :: st) M := by
  intro p e R s m args below meth c G A B H locs ls hW hS hl hr
  obtain ⟨hF, X, h1, h2, h3, h4, hlocks, hret, het⟩ := id B
  obtain ⟨hx, hb, hml, hown, hts, hKn, hSt, hA, -⟩ := id X
  have rb : -2147483648 ≤ b ∧ b < 2147483648 := hr (.inl (.inl b)) (by simp)
  have ra : -2147483648 ≤ a ∧ a < 2147483648 := hr (.inl (.inl a)) (by simp)
  have rr : tk_rs st := fun v hv => hr v (by simp [hv])
  have e1 : (if Int32.ofInt a < Int32.ofInt b then Int32.ofInt b else Int32.ofInt a) = Int32.ofInt (f_max a b) := by
    unfold f_max
    by_cases h : a < b
    · rw [if_pos h, if_pos ((tk_ltI ra rb).mpr h)]
    · rw [if_neg h, if_neg (fun z => h ((tk_ltI ra rb).mp z))]
  have rm : -2147483648 ≤ f_max a b ∧ f_max a b < 2147483648 := by
    unfold f_max; split <;> omega
  refine va_mmax (x := Int32.ofInt a) (y := Int32.ofInt b) hx hb (by rw [hml, hl.2.1.1]) hown (hts _ wl_max) (hts _ wst_max) (hts _ wn_max) (hts _ wc_max) (by omega) (by rw [tk_sv_eq]; omega) (by omega) (by omega) (tk_dec3 htab hd) ?_
  rw [e1]
  exact k p e R s m args below meth c G A B H locs ls hW hS hl (tk_rs.cons (v := .inl (.inl (f_max a b))) rm rr)
def f_tk1 (M : tk_M) (t : Nat) (pl it : Int) : tk_M := if M (73 + t) 2 = 0 ∨ it = 1 then tk_up M (73 + t) 6 (f_at M (f_max 0 (pl - M (73 + t) 1)) (M 2 3 - 1).toNat) else M
def f_tk2 (M : tk_M) (t : Nat) (pl it tm : Int) : tk_M := tk_up (tk_up (tk_up (tk_up M (73 + t) 4 pl) (73 + t) 5 (f_at (tk_up M (73 + t) 4 pl) pl (M 2 3 - 1).toNat)) (73 + t) 2 1) (73 + t) 3 tm
def f_tk3 (M : tk_M) (t : Nat) (it tm : Int) : tk_M := if it = 1 then tk_up (tk_up M (73 + t) 7 1) (73 + t) 8 tm else if it = 2 then tk_up M (73 + t) 7 0 else M
def f_take (M : tk_M) (t : Nat) (pl it tm : Int) : tk_M := f_tk3 (f_tk2 (f_tk1 M t pl it) t pl it tm) t it tm
theorem k_Ti_take2 (l : Launch) (t : Nat) (ht : t < 8) (pl it tm : Int) (M : tk_M) (h1 : 1 ≤ M 2 3) (h2 : M 2 3 ≤ 32) : tk_At l "TrackKeeper$Train" prog_6_method_5_code 5 none 1 15 (fun r M' => r = .inl none ∧ M' = f_tk3 (f_tk2 M t pl it tm) t it tm) 31 [some (.inr (73 + t)), some (.inl pl), some (.inl it), some (.inl tm), some (.inr 2)] [] M := by
  refine tk_goA fo_Ti co_Ti tg_Ti_take 40 [] ?_
  repeat' first | refine And.intro ?_ ?_ | intro _
  all_goals first | omega | skip
  have e23 : tk_up M (73 + t) 4 pl 2 3 = M 2 3 := tk_up_c _ _ _ _ (by omega) _
  refine ⟨(), tk_aV (k := 1) (k_Tr_subsectionAt l (tk_up M (73 + t) 4 pl) pl (by rw [e23]; exact h1) (by rw [e23]; exact h2)) wc_Tr_subsectionAt lk_Ti_43 wi_Tr_subsectionAt wsl_Tr_subsectionAt tg_Ti_take rfl rfl (by decide) rfl rfl rfl (by decide) (Nat.le_of_ble_eq_true rfl) ?_ (fun x M' h => by cases h.1)⟩
  rintro v' M' ⟨h1, rfl⟩ hro
  cases h1
  rw [e23]
  have e9 : f_tk2 M t pl it tm = tk_up (tk_up (tk_up (tk_up M (73 + t) 4 pl) (73 + t) 5 (f_at (tk_up M (73 + t) 4 pl) pl (M 2 3 - 1).toNat)) (73 + t) 2 1) (73 + t) 3 tm := rfl
  rw [e9]
  generalize f_at (tk_up M (73 + t) 4 pl) pl (M 2 3 - 1).toNat = g
  refine tk_goA fo_Ti co_Ti tg_Ti_take 40 [] ?_
  repeat' first | refine And.intro ?_ ?_ | intro _
  all_goals first | rfl | exact Or.inl rfl | exact Or.inr rfl | skip
  all_goals try simp only [tk_c] at *
  all_goals first | omega | skip
  all_goals unfold f_tk3
  · rw [if_neg (by omega), if_neg (by omega)]
  · rw [if_neg (by omega), if_pos (by omega)]
  · rw [if_pos (by omega)]
theorem k_Ti_take (l : Launch) (t : Nat) (ht : t < 8) (pl it tm : Int) (M : tk_M) (h1 : 1 ≤ M 2 3) (h2 : M 2 3 ≤ 32) (h3 : 0 ≤ pl) (h4 : 0 ≤ M (73 + t) 1) : tk_C l y_Ti_take 1 15 [.inr (73 + t), .inl pl, .inl it, .inl tm, .inr 2] M (fun r M' => r = .inl none ∧ M' = f_take M t pl it tm) := by
  refine tk_C.of wc_Ti_take rfl (Nat.le_of_ble_eq_true rfl) fun hr hM => ?_
  have hpl := hr (.inl pl) (by simp)
  simp only [tk_ru] at hpl
  have hlast : ∀ N : tk_M, f_tk1 M t pl it = N → N 2 3 = M 2 3 → tk_At l "TrackKeeper$Train" prog_6_method_5_code 5 none 1 15 (fun r M' => r = .inl none ∧ M' = f_take M t pl it tm) 31 [some (.inr (73 + t)), some (.inl pl), some (.inl it), some (.inl tm), some (.inr 2)] [] N := fun N hN e => by
    have h := k_Ti_take2 l t ht pl it tm N (by omega) (by omega)
    have e9 : f_take M t pl it tm = f_tk3 (f_tk2 N t pl it tm) t it tm := by unfold f_take; rw [hN]
    rw [e9]
    exact h
  refine tk_goA fo_Ti co_Ti tg_Ti_take 40 [12, 31] ?_
  have key : (M (73 + t) 2 = 0 ∨ it = 1) → tk_At l "TrackKeeper$Train" prog_6_method_5_code 5 none 1 15 (fun r M' => r = .inl none ∧ M' = f_take M t pl it tm) 12 [some (.inr (73 + t)), some (.inl pl), some (.inl it), some (.inl tm), some (.inr 2)] [] M := fun hc => by
    refine tk_goA fo_Ti co_Ti tg_Ti_take 40 [31] ?_
    repeat' first | refine And.intro ?_ ?_ | intro _
    all_goals first | omega | skip
    refine ⟨(), tk_aMax tg_Ti_take rfl (by decide) (Nat.le_of_ble_eq_true rfl) ?_⟩
    refine tk_aV (k := 1) (k_Tr_subsectionAt l M (f_max 0 (pl - M (73 + t) 1)) (by omega) (by omega)) wc_Tr_subsectionAt lk_Ti_43 wi_Tr_subsectionAt wsl_Tr_subsectionAt tg_Ti_take rfl rfl (by decide) rfl rfl rfl (by decide) (Nat.le_of_ble_eq_true rfl) ?_ (fun x M' h => by cases h.1)
    rintro v' M' ⟨h1, rfl⟩ hro
    cases h1
    have e9 : f_tk1 M' t pl it = tk_up M' (73 + t) 6 (f_at M' (f_max 0 (pl - M' (73 + t) 1)) (M' 2 3 - 1).toNat) := by
      unfold f_tk1
      rw [if_pos hc]
    have h9 := hlast _ e9 (tk_up_c _ _ _ _ (by omega) _)
    generalize f_at M' (f_max 0 (pl - M' (73 + t) 1)) (M' 2 3 - 1).toNat = g at *
    refine tk_goA fo_Ti co_Ti tg_Ti_take 40 [31] ?_
    repeat' first | refine And.intro ?_ ?_ | intro _
    all_goals first | omega | skip
    exact ⟨(), h9⟩
  repeat' first | refine And.intro ?_ ?_ | intro _
  all_goals first | rfl | skip
  all_goals try simp only [tk_c] at *
  all_goals first | omega | skip
  · exact ⟨(), key (by omega)⟩
  · exact ⟨(), hlast M (by unfold f_tk1; rw [if_neg (by omega)]) rfl⟩
  · exact ⟨(), key (by omega)⟩
def f_adds (M : tk_M) : tk_M := tk_up (tk_up (tk_up M (31 + (M 2 2).toNat) 0 (M 2 3)) (31 + (M 2 2).toNat) 1 (M 2 3 - 1)) 2 2 (M 2 2 + 1)
theorem k_Tr_addSection (l : Launch) (M : tk_M) (h0 : 0 ≤ M 2 2) (h1 : M 2 2 < 10) (h2 : 0 ≤ M 2 3) : tk_C l y_Tr_addSection 0 0 [.inr 2] M (fun r M' => r = .inl (some (M 2 2)) ∧ M' = f_adds M) := by
  refine tk_C.of wc_Tr_addSection rfl (Nat.le_of_ble_eq_true rfl) fun hr hM => ?_
  have u : ∀ (c j : Nat) (v : Int), 31 ≤ c → ∀ k, tk_up M c j v 2 k = M 2 k := fun c j v hc k => tk_up_c _ _ _ _ (by omega) _
  have u2 : ∀ (c j : Nat) (v : Int) (c' j' : Nat) (v' : Int), 31 ≤ c → 31 ≤ c' → ∀ k, tk_up (tk_up M c j v) c' j' v' 2 k = M 2 k := fun c j v c' j' v' hc hc' k => by rw [tk_up_c _ _ _ _ (by omega), tk_up_c _ _ _ _ (by omega)]
  refine tk_goA fo_Tr co_Tr tg_Tr_addSection 60 [] ?_
  repeat' first | refine And.intro ?_ ?_ | intro _
  all_goals try simp only [u _ _ _ (Nat.le_add_right 31 _), u2 _ _ _ _ _ _ (Nat.le_add_right 31 _) (Nat.le_add_right 31 _), tk_up_s] at *
  all_goals first | omega | rfl | skip
  · congr 2
    omega
def f_addu (M : tk_M) (x : Int) : tk_M := tk_up (tk_up (tk_up (tk_up (tk_up M (41 + (M 2 3).toNat) 0 (M 2 2 - 1)) (41 + (M 2 3).toNat) 1 (M 2 4)) (31 + (M 2 2 - 1).toNat) 1 (M 2 3)) 2 4 (M 2 4 + x)) 2 3 (M 2 3 + 1)
theorem k_Tr_addSubsection (l : Launch) (M : tk_M) (x : Int) (h0 : 1 ≤ M 2 2) (h1 : M 2 2 ≤ 10) (h2 : 0 ≤ M 2 3) (h3 : M 2 3 < 32) (h4 : 0 ≤ M 2 4) (h5 : M 2 4 ≤ 3200000) (h6 : 0 ≤ x) (h7 : x ≤ 100000) : tk_C l y_Tr_addSubsection 0 0 [.inr 2, .inl x] M (fun r M' => r = .inl (some (M 2 3)) ∧ M' = f_addu M x) := by
  refine tk_C.of wc_Tr_addSubsection rfl (Nat.le_of_ble_eq_true rfl) fun hr hM => ?_
  have u : ∀ (c j : Nat) (v : Int), 31 ≤ c → ∀ k, tk_up M c j v 2 k = M 2 k := fun c j v hc k => tk_up_c _ _ _ _ (by omega) _
  have u2 : ∀ (c j : Nat) (v : Int) (c' j' : Nat) (v' : Int), 31 ≤ c → 31 ≤ c' → ∀ k, tk_up (tk_up M c j v) c' j' v' 2 k = M 2 k := fun c j v c' j' v' hc hc' k => by rw [tk_up_c _ _ _ _ (by omega), tk_up_c _ _ _ _ (by omega)]
  have u3 : ∀ (c j : Nat) (v : Int) (c' j' : Nat) (v' : Int) (c2 j2 : Nat) (v2 : Int), 31 ≤ c → 31 ≤ c' → 31 ≤ c2 → ∀ k, tk_up (tk_up (tk_up M c j v) c' j' v') c2 j2 v2 2 k = M 2 k := fun c j v c' j' v' c2 j2 v2 hc hc' h2 k => by rw [tk_up_c _ _ _ _ (by omega), tk_up_c _ _ _ _ (by omega), tk_up_c _ _ _ _ (by omega)]
  have u4 : ∀ (N : tk_M) (v : Int), tk_up N 2 4 v 2 3 = N 2 3 := fun N v => tk_up_j _ _ _ _ (by decide)
  refine tk_goA fo_Tr co_Tr tg_Tr_addSubsection 80 [] ?_
  repeat' first | refine And.intro ?_ ?_ | intro _
  all_goals try simp only [u _ _ _ (Nat.le_trans (by decide) (Nat.le_add_right 41 _)), u2 _ _ _ _ _ _ (Nat.le_trans (by decide) (Nat.le_add_right 41 _)) (Nat.le_trans (by decide) (Nat.le_add_right 41 _)), u3 _ _ _ _ _ _ _ _ _ (Nat.le_trans (by decide) (Nat.le_add_right 41 _)) (Nat.le_trans (by decide) (Nat.le_add_right 41 _)) (Nat.le_add_right 31 _), u4, tk_up_s] at *
  all_goals first | omega | rfl | skip
  · congr 2
    omega
theorem k_TK_requireConnected (l : Launch) (hst : l.stackTraces = false) (M : tk_M) (t : Nat) (ht : t < 8) : tk_C l y_TK_requireConnected 6 81 [.inr 1, .inl (t : Int)] M (fun r M' => r = (if M (73 + t) 0 = 0 then .inr 3 else .inl none) ∧ M' = M) := by
  refine tk_C.of wc_TK_requireConnected rfl (Nat.le_of_ble_eq_true rfl) fun hr hM => ?_
  refine tk_goA fo_TK co_TK tg_TK_requireConnected 20 [] ?_
  repeat' first | refine And.intro ?_ ?_ | intro _
  all_goals try simp only [tk_c, Int.toNat_natCast] at *
  all_goals first | omega | rfl | skip
  · rename_i h
    rw [if_neg h]
  · rename_i h
    exact ⟨(), tk_aN hst tn_TK_3 tg_TK_requireConnected rfl rfl rfl rfl (by decide) (by decide) ⟨by rw [if_pos (Classical.not_not.mp h)], rfl⟩⟩
def g_j (M : tk_M) (n : Nat) : tk_M := fun c k => if 73 ≤ c ∧ c < 73 + n ∧ k = 9 then f_loc M c (M 1 7) (M 1 4) else if 73 ≤ c ∧ c < 73 + n ∧ k = 10 then f_who M c (M 1 7) (M 1 4) (M 1 5) else M c k
theorem g_j_o {M : tk_M} {n c k : Nat} (h : ¬ (73 ≤ c ∧ c < 73 + n ∧ (k = 9 ∨ k = 10))) : g_j M n c k = M c k := by
  unfold g_j
  rw [if_neg (by omega), if_neg (by omega)]
theorem g_j_0 (M : tk_M) : g_j M 0 = M := by
  funext c k
  exact g_j_o (by omega)
theorem g_j_s (M : tk_M) (n : Nat) : tk_up (tk_up (g_j M n) (73 + n) 9 (f_loc (g_j M n) (73 + n) (M 1 7) (M 1 4))) (73 + n) 10 (f_who (g_j M n) (73 + n) (M 1 7) (M 1 4) (M 1 5)) = g_j M (n + 1) := by
  have e : ∀ k, k ≠ 9 → k ≠ 10 → g_j M n (73 + n) k = M (73 + n) k := fun k h1 h2 => g_j_o (by omega)
  have e1 : f_loc (g_j M n) (73 + n) (M 1 7) (M 1 4) = f_loc M (73 + n) (M 1 7) (M 1 4) := by
    unfold f_loc
    rw [e 0 (by decide) (by decide), e 2 (by decide) (by decide), e 3 (by decide) (by decide)]
  have e2 : f_who (g_j M n) (73 + n) (M 1 7) (M 1 4) (M 1 5) = f_who M (73 + n) (M 1 7) (M 1 4) (M 1 5) := by
    unfold f_who
    rw [e 0 (by decide) (by decide), e 2 (by decide) (by decide), e 3 (by decide) (by decide), e 7 (by decide) (by decide), e 8 (by decide) (by decide)]
  rw [e1, e2]
  funext c k
  by_cases h : c = 73 + n ∧ (k = 9 ∨ k = 10)
  · obtain ⟨rfl, rfl | rfl⟩ := h
    · rw [tk_up_n (by omega), tk_up_s]
      unfold g_j
      rw [if_pos (by omega)]
    · rw [tk_up_s]
      unfold g_j
      rw [if_neg (by omega), if_pos (by omega)]
  · rw [tk_up_n (by omega), tk_up_n (by omega)]
    unfold g_j
    (repeat' split) <;> first | rfl | omega
end
section
/-! CONTRACTS: all found anew, and what stays true -/
theorem g_mts8 {M : tk_M} (hT : p_trk M) (hR : p_tr M) : (∀ c j, ¬ q_mk c j → g_mts (f_m0 M) 8 c j = M c j) ∧ (p_cov M → p_cov (g_mts (f_m0 M) 8)) := by
  have hT' := id hT
  obtain ⟨t1, t2, t3, t4, t5, t6⟩ := hT'
  obtain ⟨a1, a2, a3, a4⟩ := g_mts_inv (f_m0_trk hT) (f_m0_3 hT) (f_m0_tr hT hR) 8 (by omega)
  refine ⟨fun c j h => ?_, fun hC => ?_⟩
  · rw [a1 c j h]
    unfold q_mk at h
    exact f_m0_o (by omega) (by omega)
  · have hC0 : p_cov (f_m0 M) := fun i hi => by rw [f_m0_o (by omega) (by omega)]; exact hC i hi
    exact g_mts_4 (f_m0_trk hT) (f_m0_3 hT) (f_m0_tr hT hR) hC0 8 (by omega)
def q_fs (c j : Nat) : Prop := q_mk c j ∨ (41 ≤ c ∧ c < 73 ∧ j = 2) ∨ (31 ≤ c ∧ c < 41 ∧ (j = 4 ∨ j = 3))
theorem f_fs_o {M : tk_M} (hT : p_trk M) (hR : p_tr M) {c j : Nat} (h : ¬ q_fs c j) : f_fs M c j = M c j := by
  obtain ⟨t1, t2, t3, t4, t5, t6⟩ := id hT
  unfold q_fs at h
  unfold f_fs
  rw [g_sec_o (by omega), g_stt_o (by omega), (g_mts8 hT hR).1 c j (fun z => h (Or.inl z))]
theorem f_fs_c {M : tk_M} (hT : p_trk M) (hR : p_tr M) (hC : p_cov M) : p_cov (f_fs M) := by
  obtain ⟨t1, t2, t3, t4, t5, t6⟩ := id hT
  intro i hi
  unfold f_fs
  rw [g_sec_o (by omega), g_stt_o (by omega)]
  exact (g_mts8 hT hR).2 hC i hi
theorem f_fs_3 {M : tk_M} (hT : p_trk M) (hR : p_tr M) (i : Nat) (hi : i < 10) : f_fs M (31 + i) 3 = M (31 + i) 3 ∨ f_fs M (31 + i) 3 = 0 := by
  unfold f_fs g_sec
  split
  · exact Or.inr rfl
  · rw [g_stt_o (by omega), (g_mts8 hT hR).1 _ _ (by unfold q_mk; omega)]
    exact Or.inl rfl
/-- what finding anew asks -/
def p_an (M : tk_M) : Prop := p_trk M ∧ p_cov M ∧ p_sec M ∧ (∀ t : Nat, t < 8 → (¬ M (73 + t) 0 = 0 → ¬ M (73 + t) 2 = 0 → p_mk M t) ∧ M (73 + t) 12 < 32 ∧ 0 ≤ M (73 + t) 3 ∧ 0 ≤ M (73 + t) 8) ∧ 0 ≤ M 1 7 ∧ M 3 0 < 2147483600 ∧ M 3 1 < 2147483600
theorem g_j_trk {M : tk_M} (h : p_trk M) : p_trk (g_j M 8) := by
  obtain ⟨t1, t2, t3, t4, t5, t6⟩ := h
  have o : ∀ c j, ¬ 73 ≤ c → g_j M 8 c j = M c j := fun c j h1 => g_j_o (by omega)
  refine ⟨by rw [o _ _ (by omega)]; exact t1, by rw [o _ _ (by omega)]; exact t2, by rw [o _ _ (by omega)]; exact t3, by rw [o _ _ (by omega)]; exact t4, fun i hi => ?_, fun h => ?_⟩
  · rw [o _ _ (by omega)] at hi
    rw [o _ _ (by omega)]
    exact t5 i hi
  · rw [o _ _ (by omega)] at h
    have h0 := t5 0 (by omega)
    simp only [Nat.add_zero] at h0
    rw [o 41 _ (by omega), o _ _ (by omega)]
    exact t6 h
theorem g_j_9 {M : tk_M} {t : Nat} (ht : t < 8) : g_j M 8 (73 + t) 9 = f_loc M (73 + t) (M 1 7) (M 1 4) := by
  unfold g_j
  rw [if_pos (by omega)]
theorem g_j_10 {M : tk_M} {t : Nat} (ht : t < 8) : g_j M 8 (73 + t) 10 = f_who M (73 + t) (M 1 7) (M 1 4) (M 1 5) := by
  unfold g_j
  rw [if_neg (by omega), if_pos (by omega)]
theorem g_j_tr {M : tk_M} (h : p_an M) : p_tr (g_j M 8) := by
  obtain ⟨h1, h2, h3, h4, h5, h6, h7⟩ := h
  intro t ht hl
  rw [g_j_9 ht] at hl
  unfold f_loc at hl
  split at hl
  · rename_i hc
    have := (h4 t ht).1 hc.1 hc.2.1
    unfold p_mk at this ⊢
    rw [g_j_o (by omega), g_j_o (by omega), g_j_o (by omega)]
    exact this
  · exact absurd rfl hl
def f_all (M : tk_M) : tk_M := g_set (f_fs (g_j M 8)) 8
theorem lp_TK_findAllAnew (l : Launch) (M : tk_M) (hp : p_an M) (P : (Option Int ⊕ Nat) → tk_M → Prop) (hP : tk_At l "TrackKeeper" prog_1_method_20_code 2 none 4 57 P 35 [some (.inr 1), some (.inl 8)] [] (g_j M 8)) : ∀ (n i : Nat), i + n = 8 →
    tk_At l "TrackKeeper" prog_1_method_20_code 2 none 4 57 P 2 [some (.inr 1), some (.inl (i : Int))] [] (g_j M i) := by
  obtain ⟨p1, p2, p3, p4, p5, p6, p7⟩ := hp
  intro n
  induction n with
  | zero =>
    intro i hi
    refine tk_goA fo_TK co_TK tg_TK_findAllAnew 40 [35, 2] ?_
    refine And.intro (fun _ => ⟨(), ?_⟩) (fun h => ?_)
    · rw [show i = 8 by omega]; exact hP
    · exact absurd (show (8 : Int) ≤ (i : Int) by omega) h
  | succ n ih =>
    intro i hi
    have h9 := ih (i + 1) (by omega)
    have hpi := p4 i (by omega)
    rw [← g_j_s] at h9
    have o : ∀ c j, j ≠ 9 → j ≠ 10 → g_j M i c j = M c j := fun c j h1 h2 => g_j_o (by omega)
    have con := k_Ti_judge l i (by omega) (M 1 7) (M 1 4) (M 1 5) (g_j M i) p5 (by rw [o _ _ (by decide) (by decide)]; omega) (by rw [o _ _ (by decide) (by decide)]; omega)
    rw [← o 1 7 (by decide) (by decide), ← o 1 4 (by decide) (by decide), ← o 1 5 (by decide) (by decide)] at con h9
    generalize g_j M i = N at *
    refine tk_goA fo_TK co_TK tg_TK_findAllAnew 40 [35, 2] ?_
    repeat' first | refine And.intro ?_ ?_ | intro _
    all_goals first | rfl | skip
    all_goals try simp only [tk_c, Int.toNat_natCast] at *
    all_goals first | omega | skip
    refine ⟨(), tk_aV (k := 5) con wc_Ti_judge lk_TK_181 wi_Ti_judge wsl_Ti_judge tg_TK_findAllAnew rfl rfl (show _ < 81 by omega) (tk_shT (by omega)) rfl rfl (by decide) (Nat.le_of_ble_eq_true rfl) ?_ (fun x M' h => by cases h.1)⟩
    rintro v' N' ⟨h1, rfl⟩ hro
    cases h1
    generalize f_loc N (73 + i) (N 1 7) (N 1 4) = u at *
    generalize f_who N (73 + i) (N 1 7) (N 1 4) (N 1 5) = w at *
    refine tk_goA fo_TK co_TK tg_TK_findAllAnew 40 [35, 2] ?_
    repeat' first | refine And.intro ?_ ?_ | intro _
    all_goals first | omega | skip
    exact ⟨(), h9⟩
theorem k_TK_findAllAnew (l : Launch) (M : tk_M) (hp : p_an M) : tk_C l y_TK_findAllAnew 4 57 [.inr 1] M (fun r M' => r = .inl none ∧ M' = f_all M) := by
  refine tk_C.of wc_TK_findAllAnew rfl (Nat.le_of_ble_eq_true rfl) fun hr hM => ?_
  obtain ⟨p1, p2, p3, p4, p5, p6, p7⟩ := id hp
  have o : ∀ c j, j ≠ 9 → j ≠ 10 → g_j M 8 c j = M c j := fun c j h1 h2 => g_j_o (by omega)
  have hT := g_j_trk p1
  have hR := g_j_tr hp
  have e : ∀ c j, ¬ q_fs c j → f_fs (g_j M 8) c j = g_j M 8 c j := fun c j h => f_fs_o hT hR h
  refine tk_goA fo_TK co_TK tg_TK_findAllAnew 40 [2] ?_
  refine ⟨(), ?_⟩
  have h := lp_TK_findAllAnew l M hp (fun r M' => r = .inl none ∧ M' = f_all M) ?_ 8 0 rfl
  · rw [g_j_0] at h
    exact h
  · refine tk_goA fo_TK co_TK tg_TK_findAllAnew 40 [2] ?_
    repeat' first | refine And.intro ?_ ?_ | intro _
    all_goals first | omega | skip
    refine ⟨(), tk_aV (k := 1) (k_Tr_findStates l (g_j M 8) hT hR (fun i hi => by rw [g_j_o (by omega)]; exact p2 i hi) (fun i hi => by
      rw [g_j_o (by omega)] at hi
      rw [g_j_o (by have := p1.2.1; omega), g_j_o (by have := p1.2.1; omega)]
      exact p3 i hi)) wc_Tr_findStates lk_TK_185 wi_Tr_findStates wsl_Tr_findStates tg_TK_findAllAnew rfl rfl (by decide) rfl rfl rfl (by decide) (Nat.le_of_ble_eq_true rfl) ?_ (fun x M' h => by cases h.1)⟩
    rintro v' N' ⟨h1, rfl⟩ hro
    cases h1
    have con := k_Au_settle l (f_fs (g_j M 8)) (fun t ht => ⟨fun hl => by
        rw [e _ 9 (by unfold q_fs q_mk; omega)] at hl
        have := hR t ht hl
        unfold p_mk at this
        rw [e _ 5 (by unfold q_fs q_mk; omega)]
        have h23 := hT.2.2.2.1
        omega, by
        rw [e _ 12 (by unfold q_fs q_mk; omega), o _ _ (by decide) (by decide)]
        exact (p4 t ht).2.1⟩) (by rw [e _ _ (by unfold q_fs q_mk; omega), o _ _ (by decide) (by decide)]; exact p6) (by rw [e _ _ (by unfold q_fs q_mk; omega), o _ _ (by decide) (by decide)]; exact p7)
    have ef : f_all M = g_set (f_fs (g_j M 8)) 8 := rfl
    generalize f_fs (g_j M 8) = N at *
    refine tk_goA fo_TK co_TK tg_TK_findAllAnew 40 [2] ?_
    repeat' first | refine And.intro ?_ ?_ | intro _
    all_goals first | omega | skip
    refine ⟨(), tk_aV (k := 2) con wc_Au_settle lk_TK_189 wi_Au_settle wsl_Au_settle tg_TK_findAllAnew rfl rfl (by decide) rfl rfl rfl (by decide) (Nat.le_of_ble_eq_true rfl) ?_ (fun x M' h => by cases h.1)⟩
    rintro v' N' ⟨h1, rfl⟩ hro
    cases h1
    refine tk_goA fo_TK co_TK tg_TK_findAllAnew 40 [2] ?_
    exact ⟨rfl, ef.symm⟩
def q_all (c j : Nat) : Prop := q_fs c j ∨ (73 ≤ c ∧ c < 81 ∧ (j = 9 ∨ j = 10 ∨ j = 12)) ∨ (c = 3 ∧ j < 2)
theorem f_all_o {M : tk_M} (hp : p_an M) {c j : Nat} (h : ¬ q_all c j) : f_all M c j = M c j := by
  unfold q_all at h
  unfold f_all
  rw [g_set_o (by omega) 8 (by omega), f_fs_o (g_j_trk hp.1) (g_j_tr hp) (fun z => h (Or.inl z)), g_j_o (by omega)]
theorem f_so_12 {M : tk_M} {t : Nat} (h : M (73 + t) 12 < 32) : f_so M t (73 + t) 12 < 32 := by
  unfold f_so
  dsimp only
  split
  · rw [tk_up_n (by omega), tk_up_s]; decide
  · split
    · split
      · rw [tk_up_s]; decide
      · rw [tk_up_n (by omega), tk_up_s]; omega
    · split
      · rw [tk_up_s]; decide
      · exact h
theorem g_set_12 {M : tk_M} {t : Nat} (h : M (73 + t) 12 < 32) : ∀ n : Nat, g_set M n (73 + t) 12 < 32
  | 0 => h
  | n + 1 => by
    have ih := g_set_12 h n
    unfold g_set
    split
    · exact ih
    · by_cases e : t = n
      · subst e; exact f_so_12 ih
      · rw [f_so_o (by omega) (by omega)]; exact ih
theorem f_all_12 {M : tk_M} (hp : p_an M) {t : Nat} (ht : t < 8) : f_all M (73 + t) 12 < 32 := by
  unfold f_all
  refine g_set_12 ?_ 8
  rw [f_fs_o (g_j_trk hp.1) (g_j_tr hp) (by unfold q_fs q_mk; omega), g_j_o (by omega)]
  exact (hp.2.2.2.1 t ht).2.1
theorem f_all_3 {M : tk_M} (hp : p_an M) (k : Nat) : f_all M 3 k ≤ M 3 k + 8 := by
  have h := (g_set_3 (f_fs (g_j M 8)) k 8).2
  rw [f_fs_o (g_j_trk hp.1) (g_j_tr hp) (by unfold q_fs q_mk; omega), g_j_o (by omega)] at h
  exact h
theorem f_all_c {M : tk_M} (hp : p_an M) : p_cov (f_all M) := by
  intro i hi
  unfold f_all
  rw [g_set_o (by omega) 8 (by omega)]
  exact f_fs_c (g_j_trk hp.1) (g_j_tr hp) (fun i hi => by rw [g_j_o (by omega)]; exact hp.2.1 i hi) i hi
theorem f_all_cnt {M : tk_M} (hp : p_an M) (i : Nat) (hi : i < 10) : f_all M (31 + i) 3 = M (31 + i) 3 ∨ f_all M (31 + i) 3 = 0 := by
  unfold f_all
  rw [g_set_o (by omega) 8 (by omega)]
  have := f_fs_3 (g_j_trk hp.1) (g_j_tr hp) i hi
  rw [g_j_o (by omega)] at this
  exact this
/-- what holds of the class between calls: K bounds how often all was found anew -/
def p_inv (M : tk_M) (K : Int) : Prop := p_trk M ∧ p_cov M ∧ p_sec M ∧ (∀ t : Nat, t < 8 → M (73 + t) 12 < 32 ∧ 0 ≤ M (73 + t) 3 ∧ 0 ≤ M (73 + t) 8 ∧ 0 ≤ M (73 + t) 1) ∧
  (0 ≤ M 1 7 ∧ M 1 7 ≤ K ∧ M 3 0 ≤ 8 * K ∧ M 3 1 ≤ 8 * K ∧ M 2 5 ≤ 10 * K ∧ (∀ i : Nat, i < 10 → M (31 + i) 3 ≤ K) ∧ 0 ≤ M 2 4 ∧ M 2 4 ≤ 100000 * M 2 3) ∧
  (¬ M 1 3 = 0 → 1 ≤ M 2 3 ∧ ∀ t : Nat, t < 8 → ¬ M (73 + t) 0 = 0 → ¬ M (73 + t) 2 = 0 → p_mk M t)
theorem p_inv.an {M : tk_M} {K : Int} (h : p_inv M K) (hK : K ≤ 10000000) (hb : ¬ M 1 3 = 0) : p_an M := by
  obtain ⟨h1, h2, h3, h4, ⟨k1, k2, k3, k4, k5, k6, k7, k8⟩, h6⟩ := h
  exact ⟨h1, h2, h3, fun t ht => ⟨(h6 hb).2 t ht, (h4 t ht).1, (h4 t ht).2.1, (h4 t ht).2.2.1⟩, k1, by omega, by omega⟩
theorem p_trk_eq {M N : tk_M} (h22 : N 2 2 = M 2 2) (h23 : N 2 3 = M 2 3) (hs : ∀ i, i < 32 → N (41 + i) 0 = M (41 + i) 0) (hf : ∀ i, i < 10 → N (31 + i) 0 = M (31 + i) 0) (h : p_trk M) : p_trk N := by
  obtain ⟨t1, t2, t3, t4, t5, t6⟩ := h
  refine ⟨by omega, by omega, by omega, by omega, fun i hi => ?_, fun h => ?_⟩
  · rw [hs i (by omega)]
    exact t5 i (by omega)
  · have := t5 0 (by omega)
    have e := hs 0 (by omega)
    simp only [Nat.add_zero] at e
    simp only [Nat.add_zero] at this
    rw [e, hf _ (by omega)]
    exact t6 (by omega)
theorem p_inv.all {M : tk_M} {K : Int} (h : p_inv M K) (hK : K ≤ 10000000) (h0 : 0 ≤ K) (hb : ¬ M 1 3 = 0) : p_inv (f_all M) (K + 1) := by
  have ha := h.an hK hb
  obtain ⟨h1, h2, h3, h4, ⟨k1, k2, k3, k4, k5, k6, k7, k8⟩, h6⟩ := h
  have o : ∀ c j, ¬ q_all c j → f_all M c j = M c j := fun c j h => f_all_o ha h
  have b0 := f_all_3 ha 0
  have b1 := f_all_3 ha 1
  have e22 := o 2 2 (by unfold q_all q_fs q_mk; omega)
  have e23 := o 2 3 (by unfold q_all q_fs q_mk; omega)
  have e24 := o 2 4 (by unfold q_all q_fs q_mk; omega)
  have e25 := o 2 5 (by unfold q_all q_fs q_mk; omega)
  have e13 := o 1 3 (by unfold q_all q_fs q_mk; omega)
  have e17 := o 1 7 (by unfold q_all q_fs q_mk; omega)
  refine ⟨p_trk_eq e22 e23 (fun i hi => o _ _ (by unfold q_all q_fs q_mk; omega)) (fun i hi => o _ _ (by unfold q_all q_fs q_mk; omega)) h1, f_all_c ha, fun i hi => ?_, fun t ht => ?_, ⟨by omega, by omega, by omega, by omega, by omega, fun i hi => ?_, by omega, by omega⟩, fun hb => ⟨?_, fun t ht hc hr => ?_⟩⟩
  · rw [e22] at hi
    have := h1.2.1
    rw [o _ 0 (by unfold q_all q_fs q_mk; omega), o _ 1 (by unfold q_all q_fs q_mk; omega)]
    exact h3 i hi
  · rw [o _ 3 (by unfold q_all q_fs q_mk; omega), o _ 8 (by unfold q_all q_fs q_mk; omega), o _ 1 (by unfold q_all q_fs q_mk; omega)]
    exact ⟨f_all_12 ha ht, (h4 t ht).2⟩
  · have := k6 i hi
    rcases f_all_cnt ha i hi with e | e <;> omega
  · rw [e13] at hb
    have := (h6 hb).1
    omega
  · rw [e13] at hb
    rw [o _ 0 (by unfold q_all q_fs q_mk; omega)] at hc
    rw [o _ 2 (by unfold q_all q_fs q_mk; omega)] at hr
    have := (h6 hb).2 t ht hc hr
    unfold p_mk at this ⊢
    rw [o _ 6 (by unfold q_all q_fs q_mk; omega), o _ 5 (by unfold q_all q_fs q_mk; omega), e23]
    exact this
end
section
/-! CONTRACTS of the public calls -/
theorem f_in_0 (v a b : Int) : (f_in v a b = 0) = ¬ (a ≤ v ∧ v ≤ b) := propext ⟨fun h => by unfold f_in at h; split at h <;> first | omega | assumption, fun h => by unfold f_in; rw [if_neg h]⟩
section TKP
variable {l : Launch} {cc : ByteArray} {nL : Nat} {ret : Option FieldType} {nf nw : Nat} {P : (Option Int ⊕ Nat) → tk_M → Prop} {tab : List tk_E} {pc : Nat} {lo : tk_Lc} {st : List tk_V} {M : tk_M}
theorem ka_begun (hst : l.stackTraces = false) (htab : tk_good cc nL tab) (hd : tk_ia tab 1 = some (.invokevirtual 94, 1 + 3)) (hfr : 7 ≤ nf) (hlo : 93 ≤ nw) (h0 : M 1 3 = 0 → P (.inr 0) M) (h1 : ¬ M 1 3 = 0 → tk_At l "TrackKeeper" cc nL ret nf nw P 4 lo [] M) : tk_At l "TrackKeeper" cc nL ret nf nw P 1 lo [.inl (.inr 1)] M := by
  have con := k_TK_requireBegun l hst M
  refine tk_aV (k := 0) (ps := []) (st := []) con wc_TK_requireBegun lk_TK_94 wi_TK_requireBegun wsl_TK_requireBegun htab hd rfl (by decide) rfl rfl rfl (by omega) (show 0 + (1 + 11) + 81 ≤ nw by omega) ?_ ?_
  · rintro v' M' ⟨e1, rfl⟩ hro
    by_cases hb : M' 1 3 = 0
    · rw [if_pos hb] at e1; cases e1
    · rw [if_neg hb] at e1; cases e1; exact h1 hb
  · rintro x M' ⟨e1, rfl⟩
    by_cases hb : M' 1 3 = 0
    · rw [if_pos hb] at e1; cases e1; exact h0 hb
    · rw [if_neg hb] at e1; cases e1
theorem ka_conn (hst : l.stackTraces = false) (htab : tk_good cc nL tab) (hd : tk_ia tab pc = some (.invokevirtual 120, pc + 3)) (hfr : 7 ≤ nf) (hlo : 94 ≤ nw) {t : Nat} (ht : t < 8) (h0 : M (73 + t) 0 = 0 → P (.inr 3) M) (h1 : ¬ M (73 + t) 0 = 0 → tk_At l "TrackKeeper" cc nL ret nf nw P (pc + 3) lo [] M) : tk_At l "TrackKeeper" cc nL ret nf nw P pc lo [.inl (.inl (t : Int)), .inl (.inr 1)] M := by
  have con := k_TK_requireConnected l hst M t ht
  refine tk_aV (k := 0) (ps := [.inl (t : Int)]) (st := []) con wc_TK_requireConnected lk_TK_120 wi_TK_requireConnected wsl_TK_requireConnected htab hd rfl (by decide) rfl rfl rfl (by omega) (show 0 + (2 + 11) + 81 ≤ nw by omega) ?_ ?_
  · rintro v' M' ⟨e1, rfl⟩ hro
    by_cases hb : M' (73 + t) 0 = 0
    · rw [if_pos hb] at e1; cases e1
    · rw [if_neg hb] at e1; cases e1; exact h1 hb
  · rintro x M' ⟨e1, rfl⟩
    by_cases hb : M' (73 + t) 0 = 0
    · rw [if_pos hb] at e1; cases e1; exact h0 hb
    · rw [if_neg hb] at e1; cases e1
theorem ka_in {v a b : Int} (htab : tk_good cc nL tab) (hd : tk_ia tab pc = some (.invokestatic 53, pc + 3)) (hfr : 1 ≤ nf) (hlo : tk_sv st + 14 ≤ nw) (k : tk_At l "TrackKeeper" cc nL ret nf nw P (pc + 3) lo (.inl (.inl (f_in v a b)) :: st) M) : tk_At l "TrackKeeper" cc nL ret nf nw P pc lo (.inl (.inl b) :: .inl (.inl a) :: .inl (.inl v) :: st) M := by
  refine tk_aS (ps := [.inl v, .inl a, .inl b]) (st := st) (k_TK_isWithin l v a b M) wc_TK_isWithin lk_TK_53 wst_TK_isWithin wn_TK htab hd rfl rfl (by omega) (by omega) ?_ (fun x M' h => by cases h.1)
  rintro v' M' ⟨e1, rfl⟩ hro
  cases e1
  exact k
theorem ka_train {v : Int} (htab : tk_good cc nL tab) (hd : tk_ia tab pc = some (.invokestatic 113, pc + 3)) (hfr : 2 ≤ nf) (hlo : tk_sv st + 26 ≤ nw) (k : tk_At l "TrackKeeper" cc nL ret nf nw P (pc + 3) lo (.inl (.inl (f_in v 0 7)) :: st) M) : tk_At l "TrackKeeper" cc nL ret nf nw P pc lo (.inl (.inl v) :: st) M := by
  refine tk_aS (ps := [.inl v]) (st := st) (k_TK_isTrain l v M) wc_TK_isTrain lk_TK_113 wst_TK_isTrain wn_TK htab hd rfl rfl (by omega) (by omega) ?_ (fun x M' h => by cases h.1)
  rintro v' M' ⟨e1, rfl⟩ hro
  cases e1
  exact k
theorem ka_sec {v : Int} (h0 : 0 ≤ M 2 2) (htab : tk_good cc nL tab) (hd : tk_ia tab pc = some (.invokevirtual 97, pc + 3)) (hfr : 2 ≤ nf) (hlo : tk_sv st + 27 ≤ nw) (k : tk_At l "TrackKeeper" cc nL ret nf nw P (pc + 3) lo (.inl (.inl (f_in v 0 (M 2 2 - 1))) :: st) M) : tk_At l "TrackKeeper" cc nL ret nf nw P pc lo (.inl (.inl v) :: .inl (.inr 2) :: st) M := by
  refine tk_aV (k := 1) (ps := [.inl v]) (st := st) (k_Tr_hasSection l v M (by omega)) wc_Tr_hasSection lk_TK_97 wi_Tr_hasSection wsl_Tr_hasSection htab hd rfl (by decide) rfl rfl rfl (by omega) (show _ + (2 + 11) + 14 ≤ nw by omega) ?_ (fun x M' h => by cases h.1)
  rintro v' M' ⟨e1, rfl⟩ hro
  cases e1
  exact k
theorem ka_sub {v : Int} (h0 : 0 ≤ M 2 3) (htab : tk_good cc nL tab) (hd : tk_ia tab pc = some (.invokevirtual 137, pc + 3)) (hfr : 2 ≤ nf) (hlo : tk_sv st + 27 ≤ nw) (k : tk_At l "TrackKeeper" cc nL ret nf nw P (pc + 3) lo (.inl (.inl (f_in v 0 (M 2 3 - 1))) :: st) M) : tk_At l "TrackKeeper" cc nL ret nf nw P pc lo (.inl (.inl v) :: .inl (.inr 2) :: st) M := by
  refine tk_aV (k := 1) (ps := [.inl v]) (st := st) (k_Tr_hasSubsection l v M (by omega)) wc_Tr_hasSubsection lk_TK_137 wi_Tr_hasSubsection wsl_Tr_hasSubsection htab hd rfl (by decide) rfl rfl rfl (by omega) (show _ + (2 + 11) + 14 ≤ nw by omega) ?_ (fun x M' h => by cases h.1)
  rintro v' M' ⟨e1, rfl⟩ hro
  cases e1
  exact k
theorem ka_bare (h0 : 0 ≤ M 2 2) (h1 : M 2 2 ≤ 10) (htab : tk_good cc nL tab) (hd : tk_ia tab pc = some (.invokevirtual 34, pc + 3)) (hfr : 2 ≤ nf) (hlo : tk_sv st + 27 ≤ nw) (k : tk_At l "TrackKeeper" cc nL ret nf nw P (pc + 3) lo (.inl (.inl (f_bare M)) :: st) M) : tk_At l "TrackKeeper" cc nL ret nf nw P pc lo (.inl (.inr 2) :: st) M := by
  refine tk_aV (k := 1) (ps := []) (st := st) (k_Tr_latestIsBare l M h0 h1) wc_Tr_latestIsBare lk_TK_34 wi_Tr_latestIsBare wsl_Tr_latestIsBare htab hd rfl (by decide) rfl rfl rfl (by omega) (show _ + (1 + 11) + 0 ≤ nw by omega) ?_ (fun x M' h => by cases h.1)
  rintro v' M' ⟨e1, rfl⟩ hro
  cases e1
  exact k
theorem ka_anew (h : p_an M) (htab : tk_good cc nL tab) (hd : tk_ia tab pc = some (.invokevirtual 110, pc + 3)) (hfr : 5 ≤ nf) (hlo : tk_sv st + 70 ≤ nw) (k : tk_At l "TrackKeeper" cc nL ret nf nw P (pc + 3) lo st (f_all M)) : tk_At l "TrackKeeper" cc nL ret nf nw P pc lo (.inl (.inr 1) :: st) M := by
  refine tk_aV (k := 0) (ps := []) (st := st) (k_TK_findAllAnew l M h) wc_TK_findAllAnew lk_TK_110 wi_TK_findAllAnew wsl_TK_findAllAnew htab hd rfl (by decide) rfl rfl rfl (by omega) (show _ + (2 + 11) + 57 ≤ nw by omega) ?_ (fun x M' h => by cases h.1)
  rintro v' M' ⟨e1, rfl⟩ hro
  cases e1
  exact k
end TKP
/-- a call's end: what it answers, or which exception it throws, and the memory then -/
abbrev tk_Z : Type := (Option Int ⊕ Nat) × tk_M
def tk_z (z : tk_Z) : (Option Int ⊕ Nat) → tk_M → Prop := fun r M => r = z.1 ∧ M = z.2
theorem tk_z.i {z : tk_Z} {r : Option Int ⊕ Nat} {M : tk_M} (h : z = (r, M)) : tk_z z r M := by rw [h]; exact ⟨rfl, rfl⟩
theorem f_bare01 (M : tk_M) : f_bare M = 0 ∨ f_bare M = 1 := by unfold f_bare; split <;> simp
def c_section (M : tk_M) : tk_Z := if ¬ M 1 3 = 0 ∨ ¬ f_bare M = 0 then (.inr 0, M) else if 10 ≤ M 2 2 then (.inr 2, M) else (.inl (some (M 2 2)), f_adds M)
theorem k_TK_section (l : Launch) (hst : l.stackTraces = false) (M : tk_M) {K : Int} (hi : p_inv M K) : tk_C l y_TK_section 7 94 [.inr 1] M (tk_z (c_section M)) := by
  refine tk_C.of wc_TK_section rfl (Nat.le_of_ble_eq_true rfl) fun hr hM => ?_
  obtain ⟨t1, t2, t3, t4, t5, t6⟩ := hi.1
  have k17 : (¬ M 1 3 = 0 ∨ ¬ f_bare M = 0) → tk_At l "TrackKeeper" prog_1_method_2_code 1 (some .int) 7 94 (tk_z (c_section M)) 17 [some (.inr 1)] [] M := fun h => by
    exact tk_aN hst tn_TK_0 tg_TK_section rfl rfl rfl rfl (by decide) (by decide) (tk_z.i (by unfold c_section; rw [if_pos h]))
  refine tk_goA fo_TK co_TK tg_TK_section 40 [17] ?_
  repeat' first | refine And.intro ?_ ?_ | intro _
  all_goals try simp only [tk_c] at *
  all_goals first | omega | skip
  · rename_i h; exact ⟨(), k17 (Or.inl h)⟩
  · refine ⟨(), ka_bare t1 t2 tg_TK_section rfl (by decide) (by decide) ?_⟩
    generalize hbr : f_bare M = br at *
    refine tk_goA fo_TK co_TK tg_TK_section 40 [17] ?_
    repeat' first | refine And.intro ?_ ?_ | intro _
    all_goals try simp only [tk_c] at *
    all_goals first | omega | skip
    · refine ⟨(), ?_⟩
      have e9 : c_section M = (.inl (some (M 2 2)), f_adds M) := by unfold c_section; rw [hbr, if_neg (by omega), if_neg (by omega)]
      rw [e9]
      refine tk_aV (k := 1) (ps := []) (st := []) (k_Tr_addSection l M t1 (by omega) t3) wc_Tr_addSection lk_TK_48 wi_Tr_addSection wsl_Tr_addSection tg_TK_section rfl rfl (by decide) rfl rfl rfl (by decide) (Nat.le_of_ble_eq_true rfl) ?_ (fun x M' h => by cases h.1)
      rintro v' M' ⟨e1, rfl⟩ hro
      cases e1
      generalize M 2 2 = x
      refine tk_goA fo_TK co_TK tg_TK_section 40 [] ?_
      exact ⟨rfl, rfl⟩
    · exact ⟨(), tk_aN hst tn_TK_2 tg_TK_section rfl rfl rfl rfl (by decide) (by decide) (tk_z.i (by unfold c_section; rw [hbr, if_neg (by omega), if_pos (by omega)]))⟩
    · exact ⟨(), k17 (by omega)⟩
def c_sub (x : Int) (M : tk_M) : tk_Z := if ¬ (1 ≤ x ∧ x ≤ 100000) then (.inr 1, M) else if ¬ M 1 3 = 0 ∨ M 2 2 = 0 then (.inr 0, M) else if 32 ≤ M 2 3 then (.inr 2, M) else (.inl (some (M 2 3)), f_addu M x)
theorem k_TK_sub (l : Launch) (hst : l.stackTraces = false) (M : tk_M) (x : Int) {K : Int} (hi : p_inv M K) : tk_C l y_TK_sub 7 94 [.inr 1, .inl x] M (tk_z (c_sub x M)) := by
  refine tk_C.of wc_TK_sub rfl (Nat.le_of_ble_eq_true rfl) fun hr hM => ?_
  obtain ⟨t1, t2, t3, t4, t5, t6⟩ := hi.1
  obtain ⟨-, -, -, -, ⟨-, -, -, -, -, -, k7, k8⟩, -⟩ := id hi
  refine tk_goA fo_TK co_TK tg_TK_sub 40 [35] ?_
  refine ⟨(), ka_in tg_TK_sub rfl (by decide) (by decide) ?_⟩
  generalize hx : f_in x 1 100000 = y
  have hx0 := f_in_0 x 1 100000
  rw [hx] at hx0
  have k35 : (1 ≤ x ∧ x ≤ 100000) → (¬ M 1 3 = 0 ∨ M 2 2 = 0) → tk_At l "TrackKeeper" prog_1_method_3_code 2 (some .int) 7 94 (tk_z (c_sub x M)) 35 [some (.inr 1), some (.inl x)] [] M := fun h0 h => by
    exact tk_aN hst tn_TK_0 tg_TK_sub rfl rfl rfl rfl (by decide) (by decide) (tk_z.i (by unfold c_sub; rw [if_neg (by omega), if_pos h]))
  refine tk_goA fo_TK co_TK tg_TK_sub 40 [35] ?_
  repeat' first | refine And.intro ?_ ?_ | intro _
  all_goals try simp only [tk_c, hx0] at *
  all_goals first | omega | skip
  · exact ⟨(), k35 (by omega) (by omega)⟩
  · refine ⟨(), ?_⟩
    have e9 : c_sub x M = (.inl (some (M 2 3)), f_addu M x) := by unfold c_sub; rw [if_neg (by omega), if_neg (by omega), if_neg (by omega)]
    rw [e9]
    refine tk_aV (k := 1) (ps := [.inl x]) (st := []) (k_Tr_addSubsection l M x (by omega) t2 t3 (by omega) k7 (by omega) (by omega) (by omega)) wc_Tr_addSubsection lk_TK_63 wi_Tr_addSubsection wsl_Tr_addSubsection tg_TK_sub rfl rfl (by decide) rfl rfl rfl (by decide) (Nat.le_of_ble_eq_true rfl) ?_ (fun x M' h => by cases h.1)
    rintro v' M' ⟨e1, rfl⟩ hro
    cases e1
    generalize M 2 3 = x
    refine tk_goA fo_TK co_TK tg_TK_sub 40 [] ?_
    exact ⟨rfl, rfl⟩
  · exact ⟨(), tk_aN hst tn_TK_2 tg_TK_sub rfl rfl rfl rfl (by decide) (by decide) (tk_z.i (by unfold c_sub; rw [if_neg (by omega), if_neg (by omega), if_pos (by omega)]))⟩
  · exact ⟨(), k35 (by omega) (by omega)⟩
  · exact ⟨(), tk_aN hst tn_TK_1 tg_TK_sub rfl rfl rfl rfl (by decide) (by decide) (tk_z.i (by unfold c_sub; rw [if_pos (by omega)]))⟩
theorem k_TK_clear (l : Launch) (M : tk_M) : tk_C l y_TK_clear 7 94 [.inr 1] M (tk_z (.inl none, tk_up (tk_up (tk_up (tk_up M 2 2 0) 2 3 0) 2 4 0) 1 3 0)) := by
  refine tk_C.of wc_TK_clear rfl (Nat.le_of_ble_eq_true rfl) fun hr hM => ?_
  refine tk_goA fo_TK co_TK tg_TK_clear 40 [] ?_
  repeat' first | refine And.intro ?_ ?_ | intro _
  all_goals first | omega | skip
  refine ⟨(), tk_aV (k := 1) (ps := []) (st := []) (k_Tr_removeAll l M) wc_Tr_removeAll lk_TK_91 wi_Tr_removeAll wsl_Tr_removeAll tg_TK_clear rfl rfl (by decide) rfl rfl rfl (by decide) (Nat.le_of_ble_eq_true rfl) ?_ (fun x M' h => by cases h.1)⟩
  rintro v' M' ⟨e1, rfl⟩ hro
  cases e1
  refine tk_goA fo_TK co_TK tg_TK_clear 40 [] ?_
  repeat' first | refine And.intro ?_ ?_ | intro _
  all_goals first | omega | exact Or.inl rfl | rfl
def c_detect (s b : Int) (M : tk_M) : tk_Z := if M 1 3 = 0 then (.inr 0, M) else if ¬ (0 ≤ s ∧ s ≤ M 2 2 - 1) then (.inr 1, M) else (.inl none, f_all (tk_up M (31 + s.toNat) 2 b))
theorem k_TK_detect (l : Launch) (hst : l.stackTraces = false) (M : tk_M) (s b : Int) (hb : b = 0 ∨ b = 1) {K : Int} (hi : p_inv M K) (hK : K ≤ 10000000) (hq : ∀ s : Nat, (s : Int) < M 2 2 → ¬ M 1 3 = 0 → p_an (tk_up M (31 + s) 2 b)) : tk_C l y_TK_detect 7 94 [.inr 1, .inl s, .inl b] M (tk_z (c_detect s b M)) := by
  refine tk_C.of wc_TK_detect rfl (Nat.le_of_ble_eq_true rfl) fun hr hM => ?_
  obtain ⟨t1, t2, t3, t4, t5, t6⟩ := hi.1
  refine tk_goA fo_TK co_TK tg_TK_detect 40 [] ?_
  refine ⟨(), ka_begun hst tg_TK_detect rfl (by decide) (by decide) (fun h => tk_z.i (by unfold c_detect; rw [if_pos h])) fun hbg => ?_⟩
  refine tk_goA fo_TK co_TK tg_TK_detect 40 [] ?_
  repeat' first | refine And.intro ?_ ?_ | intro _
  all_goals first | omega | skip
  refine ⟨(), ka_sec t1 tg_TK_detect rfl (by decide) (by decide) ?_⟩
  generalize hx : f_in s 0 (M 2 2 - 1) = y
  have hx0 := f_in_0 s 0 (M 2 2 - 1)
  rw [hx] at hx0
  refine tk_goA fo_TK co_TK tg_TK_detect 40 [] ?_
  repeat' first | refine And.intro ?_ ?_ | intro _
  all_goals try simp only [tk_c, hx0] at *
  all_goals first | omega | skip
  · have h9 := hq s.toNat (by omega) hbg
    have e9 : c_detect s b M = (.inl none, f_all (tk_up M (31 + s.toNat) 2 b)) := by unfold c_detect; rw [if_neg hbg, if_neg (by omega)]
    rw [e9]
    refine ⟨(), ka_anew h9 tg_TK_detect rfl (by decide) (by decide) ?_⟩
    refine tk_goA fo_TK co_TK tg_TK_detect 40 [] ?_
    exact ⟨rfl, rfl⟩
  · exact ⟨(), tk_aN hst tn_TK_1 tg_TK_detect rfl rfl rfl rfl (by decide) (by decide) (tk_z.i (by unfold c_detect; rw [if_neg hbg, if_pos (by omega)]))⟩
def f_join (M : tk_M) (t : Nat) (x : Int) : tk_M := tk_up (tk_up (tk_up (tk_up M (73 + t) 0 1) (73 + t) 1 x) (73 + t) 2 0) (73 + t) 7 0
def c_connect (t x : Int) (M : tk_M) : tk_Z := if M 1 3 = 0 then (.inr 0, M) else if ¬ (0 ≤ t ∧ t ≤ 7) ∨ ¬ (1 ≤ x ∧ x ≤ 100000) then (.inr 1, M) else (.inl none, f_all (f_join M t.toNat x))
theorem k_TK_connect (l : Launch) (hst : l.stackTraces = false) (M : tk_M) (t x : Int) (hq : ∀ t : Nat, t < 8 → 1 ≤ x → ¬ M 1 3 = 0 → p_an (f_join M t x)) : tk_C l y_TK_connect 7 94 [.inr 1, .inl t, .inl x] M (tk_z (c_connect t x M)) := by
  refine tk_C.of wc_TK_connect rfl (Nat.le_of_ble_eq_true rfl) fun hr hM => ?_
  refine tk_goA fo_TK co_TK tg_TK_connect 40 [] ?_
  refine ⟨(), ka_begun hst tg_TK_connect rfl (by decide) (by decide) (fun h => tk_z.i (by unfold c_connect; rw [if_pos h])) fun hbg => ?_⟩
  have k21 : (¬ (0 ≤ t ∧ t ≤ 7) ∨ ¬ (1 ≤ x ∧ x ≤ 100000)) → tk_At l "TrackKeeper" prog_1_method_7_code 3 none 7 94 (tk_z (c_connect t x M)) 21 [some (.inr 1), some (.inl t), some (.inl x)] [] M := fun h => by
    exact tk_aN hst tn_TK_1 tg_TK_connect rfl rfl rfl rfl (by decide) (by decide) (tk_z.i (by unfold c_connect; rw [if_neg hbg, if_pos h]))
  refine tk_goA fo_TK co_TK tg_TK_connect 40 [21] ?_
  refine ⟨(), ka_train tg_TK_connect rfl (by decide) (by decide) ?_⟩
  generalize hx : f_in t 0 7 = y
  have hx0 := f_in_0 t 0 7
  rw [hx] at hx0
  refine tk_goA fo_TK co_TK tg_TK_connect 40 [21] ?_
  repeat' first | refine And.intro ?_ ?_ | intro _
  all_goals try simp only [tk_c, hx0] at *
  all_goals first | omega | skip
  · exact ⟨(), k21 (by omega)⟩
  refine ⟨(), ka_in tg_TK_connect rfl (by decide) (by decide) ?_⟩
  generalize hz : f_in x 1 100000 = z
  have hz0 := f_in_0 x 1 100000
  rw [hz] at hz0
  refine tk_goA fo_TK co_TK tg_TK_connect 40 [21] ?_
  repeat' first | refine And.intro ?_ ?_ | intro _
  all_goals try simp only [tk_c, hz0] at *
  all_goals first | omega | skip
  · have e9 : c_connect t x M = (.inl none, f_all (f_join M t.toNat x)) := by unfold c_connect; rw [if_neg hbg, if_neg (by omega)]
    rw [e9]
    refine ⟨(), tk_aV (k := 5) (k_Ti_join l t.toNat (by omega) x M) wc_Ti_join lk_TK_116 wi_Ti_join wsl_Ti_join tg_TK_connect rfl rfl (show _ < 81 by omega) (tk_shT (by omega)) rfl rfl (by decide) (Nat.le_of_ble_eq_true rfl) ?_ (fun x M' h => by cases h.1)⟩
    rintro v' M' ⟨e1, rfl⟩ hro
    cases e1
    have h9 := hq t.toNat (by omega) (by omega) hbg
    have ef : f_join M t.toNat x = tk_up (tk_up (tk_up (tk_up M (73 + t.toNat) 0 1) (73 + t.toNat) 1 x) (73 + t.toNat) 2 0) (73 + t.toNat) 7 0 := rfl
    rw [← ef]
    generalize f_join M t.toNat x = N at *
    refine tk_goA fo_TK co_TK tg_TK_connect 40 [21] ?_
    refine ⟨(), ka_anew h9 tg_TK_connect rfl (by decide) (by decide) ?_⟩
    refine tk_goA fo_TK co_TK tg_TK_connect 40 [] ?_
    exact ⟨rfl, rfl⟩
  · exact ⟨(), k21 (by omega)⟩
end
section
/-! CONTRACTS of the public calls, the rest -/
def f_beg0 (M : tk_M) (m k s : Int) : tk_M := tk_up (tk_up (tk_up (tk_up (tk_up M 1 4 m) 1 5 k) 1 6 s) 1 7 0) 1 3 1
def f_fg (M : tk_M) (n : Nat) : tk_M := fun c j => if 73 ≤ c ∧ c < 73 + n then (if j = 0 ∨ j = 9 ∨ j = 10 then 0 else if j = 12 then -1 else M c j) else M c j
theorem f_fg_0 (M : tk_M) : f_fg M 0 = M := by
  funext c j
  unfold f_fg
  rw [if_neg (by omega)]
theorem f_fg_s (M : tk_M) (n : Nat) : tk_up (tk_up (tk_up (tk_up (f_fg M n) (73 + n) 0 0) (73 + n) 9 0) (73 + n) 10 0) (73 + n) 12 (-1) = f_fg M (n + 1) := by
  funext c j
  unfold tk_up f_fg
  (repeat' split) <;> first | rfl | omega
def f_beg (M : tk_M) (m k s : Int) : tk_M := f_fg (tk_up (tk_up (f_emp (f_beg0 M m k s)) 3 0 0) 3 1 0) 8
def c_begin (m k s : Int) (M : tk_M) : tk_Z := if ¬ (1 ≤ m ∧ m ≤ 100000) ∨ ¬ (1 ≤ k ∧ k ≤ 100000) ∨ ¬ (1 ≤ s ∧ s ≤ 100000) then (.inr 1, M) else if M 2 2 = 0 ∨ ¬ f_bare M = 0 then (.inr 0, M) else (.inl (some (M 2 4)), f_beg M m k s)
theorem lp_TK_begin (l : Launch) (m k s : Int) (M : tk_M) (e : Int) (he : M 2 4 = e) : ∀ (n i : Nat), i + n = 8 →
    tk_At l "TrackKeeper" prog_1_method_4_code 5 (some .int) 7 94 (tk_z (.inl (some e), f_fg M 8)) 108 [some (.inr 1), some (.inl m), some (.inl k), some (.inl s), some (.inl (i : Int))] [] (f_fg M i) := by
  intro n
  induction n with
  | zero =>
    intro i hi
    have e8 : i = 8 := by omega
    subst e8
    have e24 : f_fg M 8 2 4 = e := by
      unfold f_fg
      rw [if_neg (by omega)]
      exact he
    generalize f_fg M 8 = N at *
    refine tk_goA fo_TK co_TK tg_TK_begin 40 [108] ?_
    repeat' first | refine And.intro ?_ ?_ | intro _
    all_goals try simp only [tk_c] at *
    all_goals first | omega | rfl | rw [e24]
  | succ n ih =>
    intro i hi
    have h9 := ih (i + 1) (by omega)
    rw [← f_fg_s M i] at h9
    generalize f_fg M i = N at *
    refine tk_goA fo_TK co_TK tg_TK_begin 40 [108] ?_
    repeat' first | refine And.intro ?_ ?_ | intro _
    all_goals try simp only [tk_c, Int.toNat_natCast] at *
    all_goals first | omega | skip
    refine ⟨(), tk_aV (k := 5) (k_Ti_forgetAll l i (by omega) N) wc_Ti_forgetAll lk_TK_85 wi_Ti_forgetAll wsl_Ti_forgetAll tg_TK_begin rfl rfl (show _ < 81 by omega) (tk_shT (by omega)) rfl rfl (by decide) (Nat.le_of_ble_eq_true rfl) ?_ (fun x M' h => by cases h.1)⟩
    rintro v' M' ⟨e1, rfl⟩ hro
    cases e1
    refine tk_goA fo_TK co_TK tg_TK_begin 40 [108] ?_
    repeat' first | refine And.intro ?_ ?_ | intro _
    all_goals first | omega | skip
    exact ⟨(), h9⟩
theorem f_beg0_o {M : tk_M} {m k s : Int} {c j : Nat} (h : c ≠ 1) : f_beg0 M m k s c j = M c j := by
  unfold f_beg0
  rw [tk_up_c _ _ _ _ h, tk_up_c _ _ _ _ h, tk_up_c _ _ _ _ h, tk_up_c _ _ _ _ h, tk_up_c _ _ _ _ h]
theorem f_emp_o {M : tk_M} {c j : Nat} (h1 : ¬ (c = 2 ∧ j = 5)) (h2 : ¬ (31 ≤ c ∧ c < 31 + (M 2 2).toNat ∧ (j = 2 ∨ j = 3))) (h3 : ¬ (41 ≤ c ∧ c < 41 + (M 2 3).toNat ∧ j = 2)) : f_emp M c j = M c j := by
  unfold f_emp tk_st2
  rw [tk_up_n h1, tk_st_o (by omega), tk_st_o (by omega), tk_st_o (by omega)]
theorem k_TK_begin (l : Launch) (hst : l.stackTraces = false) (M : tk_M) (m k s : Int) {K : Int} (hi : p_inv M K) : tk_C l y_TK_begin 7 94 [.inr 1, .inl m, .inl k, .inl s] M (tk_z (c_begin m k s M)) := by
  refine tk_C.of wc_TK_begin rfl (Nat.le_of_ble_eq_true rfl) fun hr hM => ?_
  obtain ⟨t1, t2, t3, t4, t5, t6⟩ := hi.1
  have k30 : (¬ (1 ≤ m ∧ m ≤ 100000) ∨ ¬ (1 ≤ k ∧ k ≤ 100000) ∨ ¬ (1 ≤ s ∧ s ≤ 100000)) → tk_At l "TrackKeeper" prog_1_method_4_code 5 (some .int) 7 94 (tk_z (c_begin m k s M)) 30 [some (.inr 1), some (.inl m), some (.inl k), some (.inl s), none] [] M := fun h => by
    exact tk_aN hst tn_TK_1 tg_TK_begin rfl rfl rfl rfl (by decide) (by decide) (tk_z.i (by unfold c_begin; rw [if_pos h]))
  refine tk_goA fo_TK co_TK tg_TK_begin 40 [30] ?_
  refine ⟨(), ka_in tg_TK_begin rfl (by decide) (by decide) ?_⟩
  generalize hx : f_in m 1 100000 = x
  have hx0 := f_in_0 m 1 100000
  rw [hx] at hx0
  refine tk_goA fo_TK co_TK tg_TK_begin 40 [30] ?_
  repeat' first | refine And.intro ?_ ?_ | intro _
  all_goals try simp only [tk_c, hx0] at *
  · exact ⟨(), k30 (by omega)⟩
  refine ⟨(), ka_in tg_TK_begin rfl (by decide) (by decide) ?_⟩
  generalize hy : f_in k 1 100000 = y
  have hy0 := f_in_0 k 1 100000
  rw [hy] at hy0
  refine tk_goA fo_TK co_TK tg_TK_begin 40 [30] ?_
  repeat' first | refine And.intro ?_ ?_ | intro _
  all_goals try simp only [tk_c, hy0] at *
  · exact ⟨(), k30 (by omega)⟩
  refine ⟨(), ka_in tg_TK_begin rfl (by decide) (by decide) ?_⟩
  generalize hz : f_in s 1 100000 = z
  have hz0 := f_in_0 s 1 100000
  rw [hz] at hz0
  have hgo : (1 ≤ m ∧ m ≤ 100000) → (1 ≤ k ∧ k ≤ 100000) → (1 ≤ s ∧ s ≤ 100000) → tk_At l "TrackKeeper" prog_1_method_4_code 5 (some .int) 7 94 (tk_z (c_begin m k s M)) 38 [some (.inr 1), some (.inl m), some (.inl k), some (.inl s), none] [] M := fun g1 g2 g3 => by
    have k58 : (M 2 2 = 0 ∨ ¬ f_bare M = 0) → tk_At l "TrackKeeper" prog_1_method_4_code 5 (some .int) 7 94 (tk_z (c_begin m k s M)) 58 [some (.inr 1), some (.inl m), some (.inl k), some (.inl s), none] [] M := fun h => by
      exact tk_aN hst tn_TK_0 tg_TK_begin rfl rfl rfl rfl (by decide) (by decide) (tk_z.i (by unfold c_begin; rw [if_neg (by omega), if_pos h]))
    refine tk_goA fo_TK co_TK tg_TK_begin 40 [58, 66] ?_
    repeat' first | refine And.intro ?_ ?_ | intro _
    all_goals try simp only [tk_c] at *
    all_goals first | omega | skip
    · exact ⟨(), k58 (by omega)⟩
    refine ⟨(), ka_bare t1 t2 tg_TK_begin rfl (by decide) (by decide) ?_⟩
    generalize hb : f_bare M = b
    refine tk_goA fo_TK co_TK tg_TK_begin 40 [58, 66] ?_
    repeat' first | refine And.intro ?_ ?_ | intro _
    all_goals try simp only [tk_c] at *
    · have e9 : c_begin m k s M = (.inl (some (M 2 4)), f_beg M m k s) := by unfold c_begin; rw [hb, if_neg (by omega), if_neg (by omega)]
      rw [e9]
      refine ⟨(), ?_⟩
      refine tk_goA fo_TK co_TK tg_TK_begin 40 [] ?_
      repeat' first | refine And.intro ?_ ?_ | intro _
      all_goals first | omega | exact Or.inr rfl | skip
      have ef : f_beg0 M m k s = tk_up (tk_up (tk_up (tk_up (tk_up M 1 4 m) 1 5 k) 1 6 s) 1 7 0) 1 3 1 := rfl
      rw [← ef]
      have o : ∀ j, f_beg0 M m k s 2 j = M 2 j := fun j => f_beg0_o (by decide)
      refine ⟨(), tk_aV (k := 1) (ps := []) (st := []) (k_Tr_emptyAll l (f_beg0 M m k s) (by rw [o]; exact t1) (by rw [o]; exact t2) (by rw [o]; exact t3) (by rw [o]; exact t4)) wc_Tr_emptyAll lk_TK_79 wi_Tr_emptyAll wsl_Tr_emptyAll tg_TK_begin rfl rfl (by decide) rfl rfl rfl (by decide) (Nat.le_of_ble_eq_true rfl) ?_ (fun x M' h => by cases h.1)⟩
      rintro v' M' ⟨e1, rfl⟩ hro
      cases e1
      have e24 : tk_up (tk_up (f_emp (f_beg0 M m k s)) 3 0 0) 3 1 0 2 4 = M 2 4 := by
        rw [tk_up_c _ _ _ _ (by decide), tk_up_c _ _ _ _ (by decide), f_emp_o (by omega) (by omega) (by omega), o]
      have h9 := lp_TK_begin l m k s (tk_up (tk_up (f_emp (f_beg0 M m k s)) 3 0 0) 3 1 0) (M 2 4) e24 8 0 rfl
      rw [f_fg_0] at h9
      have e5 : f_fg (tk_up (tk_up (f_emp (f_beg0 M m k s)) 3 0 0) 3 1 0) 8 = f_beg M m k s := rfl
      rw [e5] at h9
      generalize f_emp (f_beg0 M m k s) = N at *
      refine tk_goA fo_TK co_TK tg_TK_begin 40 [] ?_
      repeat' first | refine And.intro ?_ ?_ | intro _
      all_goals first | omega | skip
      refine ⟨(), tk_aV (k := 2) (ps := []) (st := []) (k_Au_forgetCounts l N) wc_Au_forgetCounts lk_TK_82 wi_Au_forgetCounts wsl_Au_forgetCounts tg_TK_begin rfl rfl (by decide) rfl rfl rfl (by decide) (Nat.le_of_ble_eq_true rfl) ?_ (fun x M' h => by cases h.1)⟩
      rintro v' M' ⟨e1, rfl⟩ hro
      cases e1
      refine tk_goA fo_TK co_TK tg_TK_begin 40 [108] ?_
      exact ⟨(), h9⟩
    · exact ⟨(), k58 (by omega)⟩
  refine tk_goA fo_TK co_TK tg_TK_begin 40 [30, 38] ?_
  repeat' first | refine And.intro ?_ ?_ | intro _
  all_goals try simp only [tk_c, hz0] at *
  · exact ⟨(), hgo (by omega) (by omega) (by omega)⟩
  · exact ⟨(), k30 (by omega)⟩
def c_report (t pl it : Int) (M : tk_M) : tk_Z := if M 1 3 = 0 then (.inr 0, M) else if ¬ (0 ≤ t ∧ t ≤ 7) ∨ ¬ (0 ≤ it ∧ it ≤ 2) ∨ ¬ (0 ≤ pl ∧ pl ≤ M 2 4) then (.inr 1, M) else if M (73 + t.toNat) 0 = 0 then (.inr 3, M) else if ¬ M (73 + t.toNat) 2 = 0 ∧ pl < M (73 + t.toNat) 4 then (.inl (some 0), M) else (.inl (some 1), f_all (f_take M t.toNat pl it (M 1 7)))
theorem k_TK_report (l : Launch) (hst : l.stackTraces = false) (M : tk_M) (t pl it : Int) {K : Int} (hi : p_inv M K) (hq : ∀ t : Nat, t < 8 → 0 ≤ pl → pl ≤ M 2 4 → ¬ M 1 3 = 0 → ¬ M (73 + t) 0 = 0 → ¬ (¬ M (73 + t) 2 = 0 ∧ pl < M (73 + t) 4) → p_an (f_take M t pl it (M 1 7))) : tk_C l y_TK_report 7 94 [.inr 1, .inl t, .inl pl, .inl it] M (tk_z (c_report t pl it M)) := by
  refine tk_C.of wc_TK_report rfl (Nat.le_of_ble_eq_true rfl) fun hr hM => ?_
  obtain ⟨t1, t2, t3, t4, t5, t6⟩ := hi.1
  refine tk_goA fo_TK co_TK tg_TK_report 40 [] ?_
  refine ⟨(), ka_begun hst tg_TK_report rfl (by decide) (by decide) (fun h => tk_z.i (by unfold c_report; rw [if_pos h])) fun hbg => ?_⟩
  have hN : 1 ≤ M 2 3 := (hi.2.2.2.2.2 hbg).1
  have k35 : (¬ (0 ≤ t ∧ t ≤ 7) ∨ ¬ (0 ≤ it ∧ it ≤ 2) ∨ ¬ (0 ≤ pl ∧ pl ≤ M 2 4)) → tk_At l "TrackKeeper" prog_1_method_8_code 4 (some .boolean) 7 94 (tk_z (c_report t pl it M)) 35 [some (.inr 1), some (.inl t), some (.inl pl), some (.inl it)] [] M := fun h => by
    exact tk_aN hst tn_TK_1 tg_TK_report rfl rfl rfl rfl (by decide) (by decide) (tk_z.i (by unfold c_report; rw [if_neg hbg, if_pos h]))
  refine tk_goA fo_TK co_TK tg_TK_report 40 [35] ?_
  refine ⟨(), ka_train tg_TK_report rfl (by decide) (by decide) ?_⟩
  generalize hx : f_in t 0 7 = x
  have hx0 := f_in_0 t 0 7
  rw [hx] at hx0
  refine tk_goA fo_TK co_TK tg_TK_report 40 [35] ?_
  repeat' first | refine And.intro ?_ ?_ | intro _
  all_goals try simp only [tk_c, hx0] at *
  · exact ⟨(), k35 (by omega)⟩
  refine ⟨(), ka_in tg_TK_report rfl (by decide) (by decide) ?_⟩
  generalize hy : f_in it 0 2 = y
  have hy0 := f_in_0 it 0 2
  rw [hy] at hy0
  refine tk_goA fo_TK co_TK tg_TK_report 40 [35] ?_
  repeat' first | refine And.intro ?_ ?_ | intro _
  all_goals try simp only [tk_c, hy0] at *
  all_goals first | omega | skip
  · exact ⟨(), k35 (by omega)⟩
  refine ⟨(), ka_in tg_TK_report rfl (by decide) (by decide) ?_⟩
  generalize hz : f_in pl 0 (M 2 4) = z
  have hz0 := f_in_0 pl 0 (M 2 4)
  rw [hz] at hz0
  refine tk_goA fo_TK co_TK tg_TK_report 40 [35] ?_
  repeat' first | refine And.intro ?_ ?_ | intro _
  all_goals try simp only [tk_c, hz0] at *
  all_goals first | omega | skip
  · refine ⟨(), ?_⟩
    obtain ⟨u, rfl⟩ : ∃ u : Nat, t = (u : Int) := ⟨t.toNat, by omega⟩
    have e0 : c_report (u : Int) pl it M = if M (73 + u) 0 = 0 then (.inr 3, M) else if ¬ M (73 + u) 2 = 0 ∧ pl < M (73 + u) 4 then (.inl (some 0), M) else (.inl (some 1), f_all (f_take M u pl it (M 1 7))) := by
      unfold c_report
      rw [if_neg hbg, if_neg (by omega), Int.toNat_natCast]
    refine ka_conn hst tg_TK_report rfl (by decide) (by decide) (t := u) (by omega) (fun h => tk_z.i (by rw [e0, if_pos h])) fun hcn => ?_
    rw [if_neg hcn] at e0
    refine tk_goA fo_TK co_TK tg_TK_report 40 [] ?_
    repeat' first | refine And.intro ?_ ?_ | intro _
    all_goals try simp only [Int.toNat_natCast] at *
    all_goals first | omega | skip
    refine ⟨(), tk_aV (k := 5) (k_Ti_wasBeyond l u (by omega) pl M) wc_Ti_wasBeyond lk_TK_123 wi_Ti_wasBeyond wsl_Ti_wasBeyond tg_TK_report rfl rfl (show _ < 81 by omega) (tk_shT (by omega)) rfl rfl (by decide) (Nat.le_of_ble_eq_true rfl) ?_ (fun x M' h => by cases h.1)⟩
    rintro v' M' ⟨e1, rfl⟩ hro
    cases e1
    by_cases hw : ¬ M' (73 + u) 2 = 0 ∧ pl < M' (73 + u) 4
    · rw [if_pos hw] at e0 ⊢
      rw [e0]
      refine tk_goA fo_TK co_TK tg_TK_report 40 [] ?_
      repeat' first | refine And.intro ?_ ?_ | intro _
      all_goals first | exact Or.inl rfl | exact Or.inr rfl | exact rfl | skip
      all_goals try simp only [tk_c] at *
      all_goals first | omega | exact absurd trivial (by assumption) | skip
    · rw [if_neg hw] at e0 ⊢
      rw [e0]
      refine tk_goA fo_TK co_TK tg_TK_report 40 [] ?_
      repeat' first | refine And.intro ?_ ?_ | intro _
      all_goals try simp only [tk_c, Int.toNat_natCast] at *
      all_goals first | omega | exact absurd trivial (by assumption) | skip
      have h9 := hq u (by omega) (by omega) (by omega) hbg hcn hw
      refine ⟨(), tk_aV (k := 5) (k_Ti_take l u (by omega) pl it (M' 1 7) M' hN t4 (by omega) (hi.2.2.2.1 u (by omega)).2.2.2) wc_Ti_take lk_TK_126 wi_Ti_take wsl_Ti_take tg_TK_report rfl rfl (show _ < 81 by omega) (tk_shT (by omega)) rfl rfl (by decide) (Nat.le_of_ble_eq_true rfl) ?_ (fun x M' h => by cases h.1)⟩
      rintro v' N' ⟨e1, rfl⟩ hro
      cases e1
      generalize f_take M' u pl it (M' 1 7) = N at *
      refine tk_goA fo_TK co_TK tg_TK_report 40 [] ?_
      refine ⟨(), ka_anew h9 tg_TK_report rfl (by decide) (by decide) ?_⟩
      refine tk_goA fo_TK co_TK tg_TK_report 40 [] ?_
      exact ⟨Or.inr rfl, rfl, rfl⟩
  · exact ⟨(), k35 (by omega)⟩
def c_leave (t : Int) (M : tk_M) : tk_Z := if M 1 3 = 0 then (.inr 0, M) else if ¬ (0 ≤ t ∧ t ≤ 7) then (.inr 1, M) else if M (73 + t.toNat) 0 = 0 then (.inr 3, M) else (.inl none, f_all (tk_up M (73 + t.toNat) 0 0))
theorem k_TK_leave (l : Launch) (hst : l.stackTraces = false) (M : tk_M) (t : Int) (hq : ∀ t : Nat, t < 8 → ¬ M 1 3 = 0 → p_an (tk_up M (73 + t) 0 0)) : tk_C l y_TK_leave 7 94 [.inr 1, .inl t] M (tk_z (c_leave t M)) := by
  refine tk_C.of wc_TK_leave rfl (Nat.le_of_ble_eq_true rfl) fun hr hM => ?_
  refine tk_goA fo_TK co_TK tg_TK_leave 40 [] ?_
  refine ⟨(), ka_begun hst tg_TK_leave rfl (by decide) (by decide) (fun h => tk_z.i (by unfold c_leave; rw [if_pos h])) fun hbg => ?_⟩
  refine tk_goA fo_TK co_TK tg_TK_leave 40 [] ?_
  refine ⟨(), ka_train tg_TK_leave rfl (by decide) (by decide) ?_⟩
  generalize hx : f_in t 0 7 = x
  have hx0 := f_in_0 t 0 7
  rw [hx] at hx0
  refine tk_goA fo_TK co_TK tg_TK_leave 40 [] ?_
  repeat' first | refine And.intro ?_ ?_ | intro _
  all_goals try simp only [tk_c, hx0] at *
  · refine ⟨(), ?_⟩
    obtain ⟨u, rfl⟩ : ∃ u : Nat, t = (u : Int) := ⟨t.toNat, by omega⟩
    have e0 : c_leave (u : Int) M = if M (73 + u) 0 = 0 then (.inr 3, M) else (.inl none, f_all (tk_up M (73 + u) 0 0)) := by
      unfold c_leave
      rw [if_neg hbg, if_neg (by omega), Int.toNat_natCast]
    refine ka_conn hst tg_TK_leave rfl (by decide) (by decide) (t := u) (by omega) (fun h => tk_z.i (by rw [e0, if_pos h])) fun hcn => ?_
    rw [if_neg hcn] at e0
    rw [e0]
    have h9 := hq u (by omega) hbg
    refine tk_goA fo_TK co_TK tg_TK_leave 40 [] ?_
    repeat' first | refine And.intro ?_ ?_ | intro _
    all_goals first | exact Or.inl rfl | exact Or.inr rfl | skip
    all_goals try simp only [Int.toNat_natCast] at *
    all_goals first | omega | skip
    refine ⟨(), ka_anew h9 tg_TK_leave rfl (by decide) (by decide) ?_⟩
    refine tk_goA fo_TK co_TK tg_TK_leave 40 [] ?_
    exact ⟨rfl, rfl⟩
  · exact ⟨(), tk_aN hst tn_TK_1 tg_TK_leave rfl rfl rfl rfl (by decide) (by decide) (tk_z.i (by unfold c_leave; rw [if_neg hbg, if_pos (by omega)]))⟩
end
section
/-! CONTRACTS of the public calls, the last ones -/
def f_tick (M : tk_M) : tk_M := f_all (g_cs (tk_up M 1 7 (M 1 7 + 1)) (M 1 6) (M 2 2).toNat)
def g_tick : Nat → tk_M → tk_M
  | 0, M => M
  | n + 1, M => g_tick n (f_tick M)
theorem g_cs_3 {M : tk_M} {sp K : Int} (h0 : 0 ≤ K) (h : ∀ i : Nat, i < 10 → M (31 + i) 3 ≤ K) : ∀ n : Nat, ∀ i : Nat, i < 10 → g_cs M sp n (31 + i) 3 ≤ K + 1
  | 0, i, hi => by have := h i hi; show M (31 + i) 3 ≤ K + 1; omega
  | n + 1, i, hi => by
    have ih := g_cs_3 (sp := sp) h0 h n i hi
    unfold g_cs
    split
    · by_cases e : i = n
      · subst e
        have e3 : g_cs M sp i (31 + i) 3 = M (31 + i) 3 := g_cs_o (by omega) i (by omega)
        have := h i hi
        unfold f_cs
        split
        · rw [tk_up_s]; omega
        · rw [tk_up_c _ _ _ _ (by omega), tk_up_n (by omega), tk_up_s]; omega
      · rw [f_cs_o (by omega) (by omega)]; exact ih
    · exact ih
theorem p_inv.tick0 {M : tk_M} {K : Int} (h : p_inv M K) (h0 : 0 ≤ K) : p_inv (g_cs (tk_up M 1 7 (M 1 7 + 1)) (M 1 6) (M 2 2).toNat) (K + 1) := by
  obtain ⟨h1, h2, h3, h4, ⟨k1, k2, k3, k4, k5, k6, k7, k8⟩, h6⟩ := h
  obtain ⟨t1, t2, t3, t4, t5, t6⟩ := id h1
  have o : ∀ c j, ¬ (c = 2 ∧ j = 5) → ¬ (31 ≤ c ∧ c < 41 ∧ (j = 3 ∨ j = 4)) → ¬ (c = 1 ∧ j = 7) → g_cs (tk_up M 1 7 (M 1 7 + 1)) (M 1 6) (M 2 2).toNat c j = M c j := fun c j g1 g2 g3 => by rw [g_cs_o g1 _ (by omega), tk_up_n g3]
  have e17 : g_cs (tk_up M 1 7 (M 1 7 + 1)) (M 1 6) (M 2 2).toNat 1 7 = M 1 7 + 1 := by rw [g_cs_o (by omega) _ (by omega), tk_up_s]
  have e25 := (g_cs_25 (tk_up M 1 7 (M 1 7 + 1)) (M 1 6) (M 2 2).toNat).2
  rw [tk_up_n (by omega)] at e25
  have e22 := o 2 2 (by omega) (by omega) (by omega)
  have e23 := o 2 3 (by omega) (by omega) (by omega)
  have e24 := o 2 4 (by omega) (by omega) (by omega)
  have e13 := o 1 3 (by omega) (by omega) (by omega)
  have e30 := o 3 0 (by omega) (by omega) (by omega)
  have e31 := o 3 1 (by omega) (by omega) (by omega)
  refine ⟨p_trk_eq e22 e23 (fun i hi => o _ _ (by omega) (by omega) (by omega)) (fun i hi => o _ _ (by omega) (by omega) (by omega)) h1, fun i hi => ?_, fun i hi => ?_, fun t ht => ?_, ⟨by omega, by omega, by omega, by omega, by omega, fun i hi => ?_, by omega, by omega⟩, fun hb => ⟨?_, fun t ht hc hr => ?_⟩⟩
  · rw [o _ _ (by omega) (by omega) (by omega)]; exact h2 i hi
  · rw [e22] at hi
    rw [o _ 0 (by omega) (by omega) (by omega), o _ 1 (by omega) (by omega) (by omega)]
    exact h3 i hi
  · rw [o _ 12 (by omega) (by omega) (by omega), o _ 3 (by omega) (by omega) (by omega), o _ 8 (by omega) (by omega) (by omega), o _ 1 (by omega) (by omega) (by omega)]
    exact h4 t ht
  · exact g_cs_3 h0 (fun i hi => by rw [tk_up_n (by omega)]; exact k6 i hi) _ i hi
  · rw [e13] at hb
    have := (h6 hb).1
    omega
  · rw [e13] at hb
    rw [o _ 0 (by omega) (by omega) (by omega)] at hc
    rw [o _ 2 (by omega) (by omega) (by omega)] at hr
    have := (h6 hb).2 t ht hc hr
    unfold p_mk at this ⊢
    rw [o _ 6 (by omega) (by omega) (by omega), o _ 5 (by omega) (by omega) (by omega), e23]
    exact this
theorem f_tick_b {M : tk_M} : g_cs (tk_up M 1 7 (M 1 7 + 1)) (M 1 6) (M 2 2).toNat 1 3 = M 1 3 := by rw [g_cs_o (by omega) _ (by omega), tk_up_n (by omega)]
theorem p_inv.tick {M : tk_M} {K : Int} (h : p_inv M K) (h0 : 0 ≤ K) (hK : K < 10000000) (hb : ¬ M 1 3 = 0) : p_inv (f_tick M) (K + 2) := by
  have h1 := (h.tick0 h0).all (by omega) (by omega) (by rw [f_tick_b]; exact hb)
  have e : K + 1 + 1 = K + 2 := by omega
  rw [e] at h1
  exact h1
theorem f_tick_17 {M : tk_M} {K : Int} (h : p_inv M K) (h0 : 0 ≤ K) (hK : K < 10000000) (hb : ¬ M 1 3 = 0) : f_tick M 1 7 = M 1 7 + 1 ∧ f_tick M 1 3 = M 1 3 := by
  have ha := (h.tick0 h0).an (by omega) (by rw [f_tick_b]; exact hb)
  unfold f_tick
  rw [f_all_o ha (by unfold q_all q_fs q_mk; omega), f_all_o ha (by unfold q_all q_fs q_mk; omega), f_tick_b, g_cs_o (by omega) _ (by omega), tk_up_s]
  exact ⟨rfl, rfl⟩
theorem lp_TK_tick (l : Launch) (x : Int) (hx : x ≤ 1000) : ∀ (n : Nat) (i : Int) (M : tk_M) (K : Int) (Z : tk_Z), i + n = x → 0 ≤ i → p_inv M K → 0 ≤ K → K + 2 * n < 10000000 → ¬ M 1 3 = 0 → Z = (.inl (some (M 1 7 + n)), g_tick n M) →
    tk_At l "TrackKeeper" prog_1_method_10_code 3 (some .int) 7 94 (tk_z Z) 44 [some (.inr 1), some (.inl x), some (.inl i)] [] M := by
  intro n
  induction n with
  | zero =>
    intro i M K Z hi h0 hp hK0 hK hb hZ
    rw [hZ]
    refine tk_goA fo_TK co_TK tg_TK_tick 40 [44] ?_
    repeat' first | refine And.intro ?_ ?_ | intro _
    all_goals try simp only [tk_c] at *
    all_goals first | omega | rfl | skip
    show _ = Sum.inl (some (M 1 7 + ((0 : Nat) : Int)))
    congr 2
    omega
  | succ n ih =>
    intro i M K Z hi h0 hp hK0 hK hb hZ
    have h17 := f_tick_17 hp hK0 (by omega) hb
    have h9 := ih (i + 1) (f_tick M) (K + 2) Z (by omega) (by omega) (hp.tick hK0 (by omega) hb) (by omega) (by omega) (by rw [h17.2]; exact hb) (by
      have e : M 1 7 + ((n + 1 : Nat) : Int) = M 1 7 + 1 + (n : Int) := by omega
      rw [hZ, h17.1, e]
      rfl)
    have k17 := hp.2.2.2.2.1
    have u : ∀ j, tk_up M 1 7 (M 1 7 + 1) 2 j = M 2 j := fun j => tk_up_n (by omega)
    have u3 : ∀ i j : Nat, tk_up M 1 7 (M 1 7 + 1) (31 + i) j = M (31 + i) j := fun i j => tk_up_n (by omega)
    have u16 : tk_up M 1 7 (M 1 7 + 1) 1 6 = M 1 6 := tk_up_n (by omega)
    have con := k_Tr_countForSpreads l (tk_up M 1 7 (M 1 7 + 1)) (M 1 6) (by rw [u]; exact hp.1.1) (by rw [u]; exact hp.1.2.1) (fun i hi => by
      rw [u] at hi
      rw [u3, u3, u3]
      have := hp.2.2.1 i hi
      have := k17.2.2.2.2.2.1 i (by have := hp.1.2.1; omega)
      omega) (by rw [u]; omega)
    rw [u] at con
    have hn := (hp.tick0 hK0).an (by omega) (by rw [f_tick_b]; exact hb)
    have ef : f_tick M = f_all (g_cs (tk_up M 1 7 (M 1 7 + 1)) (M 1 6) (M 2 2).toNat) := rfl
    rw [ef] at h9
    refine tk_goA fo_TK co_TK tg_TK_tick 40 [44] ?_
    repeat' first | refine And.intro ?_ ?_ | intro _
    all_goals try simp only [tk_c, u16] at *
    all_goals first | omega | skip
    refine ⟨(), tk_aV (k := 1) con wc_Tr_countForSpreads lk_TK_134 wi_Tr_countForSpreads wsl_Tr_countForSpreads tg_TK_tick rfl rfl (by decide) rfl rfl rfl (by decide) (Nat.le_of_ble_eq_true rfl) ?_ (fun x M' h => by cases h.1)⟩
    rintro v' N' ⟨h1, rfl⟩ hro
    cases h1
    generalize g_cs (tk_up M 1 7 (M 1 7 + 1)) (M 1 6) (M 2 2).toNat = N at *
    refine tk_goA fo_TK co_TK tg_TK_tick 40 [44] ?_
    refine ⟨(), ka_anew hn tg_TK_tick rfl (by decide) (by decide) ?_⟩
    refine tk_goA fo_TK co_TK tg_TK_tick 40 [44] ?_
    repeat' first | refine And.intro ?_ ?_ | intro _
    all_goals first | omega | skip
    exact ⟨(), h9⟩
def c_tick (n : Int) (M : tk_M) : tk_Z := if M 1 3 = 0 then (.inr 0, M) else if ¬ (1 ≤ n ∧ n ≤ 1000) then (.inr 1, M) else if 100000000 - M 1 7 < n then (.inr 2, M) else (.inl (some (M 1 7 + n)), g_tick n.toNat M)
theorem k_TK_tick (l : Launch) (hst : l.stackTraces = false) (M : tk_M) (n : Int) {K : Int} (hi : p_inv M K) (hK0 : 0 ≤ K) (hK : K + 2000 < 10000000) : tk_C l y_TK_tick 7 94 [.inr 1, .inl n] M (tk_z (c_tick n M)) := by
  refine tk_C.of wc_TK_tick rfl (Nat.le_of_ble_eq_true rfl) fun hr hM => ?_
  have k17 := hi.2.2.2.2.1
  refine tk_goA fo_TK co_TK tg_TK_tick 40 [] ?_
  refine ⟨(), ka_begun hst tg_TK_tick rfl (by decide) (by decide) (fun h => tk_z.i (by unfold c_tick; rw [if_pos h])) fun hbg => ?_⟩
  refine tk_goA fo_TK co_TK tg_TK_tick 40 [] ?_
  refine ⟨(), ka_in tg_TK_tick rfl (by decide) (by decide) ?_⟩
  generalize hx : f_in n 1 1000 = x
  have hx0 := f_in_0 n 1 1000
  rw [hx] at hx0
  refine tk_goA fo_TK co_TK tg_TK_tick 40 [44] ?_
  repeat' first | refine And.intro ?_ ?_ | intro _
  all_goals try simp only [tk_c, hx0] at *
  all_goals first | omega | skip
  · refine ⟨(), lp_TK_tick l n (by omega) n.toNat 0 M K _ (by omega) (by omega) hi hK0 (by omega) hbg ?_⟩
    unfold c_tick
    rw [if_neg hbg, if_neg (by omega), if_neg (by omega), Int.toNat_of_nonneg (by omega)]
  · exact ⟨(), tk_aN hst tn_TK_1 tg_TK_tick rfl rfl rfl rfl (by decide) (by decide) (tk_z.i (by unfold c_tick; rw [if_neg hbg, if_pos (by omega)]))⟩
def c_request (t s : Int) (M : tk_M) : tk_Z := if M 1 3 = 0 then (.inr 0, M) else if ¬ (0 ≤ t ∧ t ≤ 7) ∨ ¬ (0 ≤ s ∧ s ≤ M 2 3 - 1) then (.inr 1, M) else if M (73 + t.toNat) 9 = 0 then (.inr 3, M) else (.inl (some (f_ext M t.toNat s (73 + t.toNat) 12)), f_ext M t.toNat s)
theorem k_TK_request (l : Launch) (hst : l.stackTraces = false) (M : tk_M) (t s : Int) {K : Int} (hi : p_inv M K) (h9 : ∀ t : Nat, t < 8 → ¬ M 1 3 = 0 → ¬ M (73 + t) 9 = 0 → 0 ≤ M (73 + t) 5 ∧ M (73 + t) 5 < 32) : tk_C l y_TK_request 7 94 [.inr 1, .inl t, .inl s] M (tk_z (c_request t s M)) := by
  refine tk_C.of wc_TK_request rfl (Nat.le_of_ble_eq_true rfl) fun hr hM => ?_
  obtain ⟨t1, t2, t3, t4, t5, t6⟩ := hi.1
  refine tk_goA fo_TK co_TK tg_TK_request 40 [] ?_
  refine ⟨(), ka_begun hst tg_TK_request rfl (by decide) (by decide) (fun h => tk_z.i (by unfold c_request; rw [if_pos h])) fun hbg => ?_⟩
  have k22 : (¬ (0 ≤ t ∧ t ≤ 7) ∨ ¬ (0 ≤ s ∧ s ≤ M 2 3 - 1)) → tk_At l "TrackKeeper" prog_1_method_11_code 3 (some .int) 7 94 (tk_z (c_request t s M)) 22 [some (.inr 1), some (.inl t), some (.inl s)] [] M := fun h => by
    exact tk_aN hst tn_TK_1 tg_TK_request rfl rfl rfl rfl (by decide) (by decide) (tk_z.i (by unfold c_request; rw [if_neg hbg, if_pos h]))
  refine tk_goA fo_TK co_TK tg_TK_request 40 [22] ?_
  refine ⟨(), ka_train tg_TK_request rfl (by decide) (by decide) ?_⟩
  generalize hx : f_in t 0 7 = x
  have hx0 := f_in_0 t 0 7
  rw [hx] at hx0
  refine tk_goA fo_TK co_TK tg_TK_request 40 [22] ?_
  repeat' first | refine And.intro ?_ ?_ | intro _
  all_goals try simp only [tk_c, hx0] at *
  all_goals first | omega | skip
  · exact ⟨(), k22 (by omega)⟩
  refine ⟨(), ka_sub t3 tg_TK_request rfl (by decide) (by decide) ?_⟩
  generalize hz : f_in s 0 (M 2 3 - 1) = z
  have hz0 := f_in_0 s 0 (M 2 3 - 1)
  rw [hz] at hz0
  obtain ⟨u, rfl⟩ | hnt : (∃ u : Nat, t = (u : Int)) ∨ ¬ 0 ≤ t := by
    by_cases h : 0 ≤ t
    · exact Or.inl ⟨t.toNat, by omega⟩
    · exact Or.inr h
  · refine tk_goA fo_TK co_TK tg_TK_request 40 [22] ?_
    repeat' first | refine And.intro ?_ ?_ | intro _
    all_goals try simp only [tk_c, hz0, Int.toNat_natCast] at *
    all_goals first | omega | skip
    · have hl : ¬ M (73 + u) 9 = 0 := by omega
      have hr9 := h9 u (by omega) hbg hl
      have e0 : c_request (u : Int) s M = (.inl (some (f_ext M u s (73 + u) 12)), f_ext M u s) := by
        unfold c_request
        rw [if_neg hbg, if_neg (by omega), Int.toNat_natCast, if_neg hl]
      rw [e0]
      refine ⟨(), tk_aV (k := 2) (k_Au_extend l M u (by omega) s (by omega) hr9.1 hr9.2) wc_Au_extend lk_TK_146 wi_Au_extend wsl_Au_extend tg_TK_request rfl rfl (by decide) rfl rfl rfl (by decide) (Nat.le_of_ble_eq_true rfl) ?_ (fun x M' h => by cases h.1)⟩
      rintro v' N' ⟨h1, rfl⟩ hro
      cases h1
      generalize f_ext M u s = N at *
      refine tk_goA fo_TK co_TK tg_TK_request 40 [22] ?_
      repeat' first | refine And.intro ?_ ?_ | intro _
      all_goals try simp only [Int.toNat_natCast] at *
      all_goals first | omega | rfl | skip
    · refine ⟨(), tk_aN hst tn_TK_3 tg_TK_request rfl rfl rfl rfl (by decide) (by decide) (tk_z.i ?_)⟩
      unfold c_request
      rw [if_neg hbg, if_neg (by omega), Int.toNat_natCast, if_pos (by omega)]
    · exact ⟨(), k22 (by omega)⟩
  · omega
def c_state (k : Int) (M : tk_M) : tk_Z := if M 1 3 = 0 then (.inr 0, M) else if ¬ (0 ≤ k ∧ k ≤ M 2 3 - 1) then (.inr 1, M) else (.inl (some (M (41 + k.toNat) 2)), M)
theorem k_TK_state (l : Launch) (hst : l.stackTraces = false) (M : tk_M) (k : Int) {K : Int} (hi : p_inv M K) : tk_C l y_TK_state 7 94 [.inr 1, .inl k] M (tk_z (c_state k M)) := by
  refine tk_C.of wc_TK_state rfl (Nat.le_of_ble_eq_true rfl) fun hr hM => ?_
  obtain ⟨t1, t2, t3, t4, t5, t6⟩ := hi.1
  refine tk_goA fo_TK co_TK tg_TK_state 40 [] ?_
  refine ⟨(), ka_begun hst tg_TK_state rfl (by decide) (by decide) (fun h => tk_z.i (by unfold c_state; rw [if_pos h])) fun hbg => ?_⟩
  refine tk_goA fo_TK co_TK tg_TK_state 40 [] ?_
  repeat' first | refine And.intro ?_ ?_ | intro _
  all_goals first | omega | skip
  refine ⟨(), ka_sub t3 tg_TK_state rfl (by decide) (by decide) ?_⟩
  generalize hz : f_in k 0 (M 2 3 - 1) = z
  have hz0 := f_in_0 k 0 (M 2 3 - 1)
  rw [hz] at hz0
  have e0 : (0 ≤ k ∧ k ≤ M 2 3 - 1) → c_state k M = (.inl (some (M (41 + k.toNat) 2)), M) := fun h => by
    unfold c_state
    rw [if_neg hbg, if_neg (by omega)]
  refine tk_goA fo_TK co_TK tg_TK_state 40 [] ?_
  repeat' first | refine And.intro ?_ ?_ | intro _
  all_goals try simp only [tk_c, hz0] at *
  all_goals first | omega | skip
  · rw [e0 (by omega)]
  · rw [e0 (by omega)]
  · exact ⟨(), tk_aN hst tn_TK_1 tg_TK_state rfl rfl rfl rfl (by decide) (by decide) (tk_z.i (by unfold c_state; rw [if_neg hbg, if_pos (by omega)]))⟩
def c_train (t w : Int) (M : tk_M) : tk_Z := if M 1 3 = 0 then (.inr 0, M) else if ¬ (0 ≤ t ∧ t ≤ 7) ∨ ¬ (0 ≤ w ∧ w ≤ 5) then (.inr 1, M) else (.inl (some (f_tell M (73 + t.toNat) w)), M)
theorem k_TK_train (l : Launch) (hst : l.stackTraces = false) (M : tk_M) (t w : Int) : tk_C l y_TK_train 7 94 [.inr 1, .inl t, .inl w] M (tk_z (c_train t w M)) := by
  refine tk_C.of wc_TK_train rfl (Nat.le_of_ble_eq_true rfl) fun hr hM => ?_
  refine tk_goA fo_TK co_TK tg_TK_train 40 [] ?_
  refine ⟨(), ka_begun hst tg_TK_train rfl (by decide) (by decide) (fun h => tk_z.i (by unfold c_train; rw [if_pos h])) fun hbg => ?_⟩
  have k20 : (¬ (0 ≤ t ∧ t ≤ 7) ∨ ¬ (0 ≤ w ∧ w ≤ 5)) → tk_At l "TrackKeeper" prog_1_method_13_code 3 (some .int) 7 94 (tk_z (c_train t w M)) 20 [some (.inr 1), some (.inl t), some (.inl w)] [] M := fun h => by
    exact tk_aN hst tn_TK_1 tg_TK_train rfl rfl rfl rfl (by decide) (by decide) (tk_z.i (by unfold c_train; rw [if_neg hbg, if_pos h]))
  refine tk_goA fo_TK co_TK tg_TK_train 40 [20] ?_
  refine ⟨(), ka_train tg_TK_train rfl (by decide) (by decide) ?_⟩
  generalize hx : f_in t 0 7 = x
  have hx0 := f_in_0 t 0 7
  rw [hx] at hx0
  refine tk_goA fo_TK co_TK tg_TK_train 40 [20] ?_
  repeat' first | refine And.intro ?_ ?_ | intro _
  all_goals try simp only [tk_c, hx0] at *
  all_goals first | omega | skip
  · exact ⟨(), k20 (by omega)⟩
  refine ⟨(), ka_in tg_TK_train rfl (by decide) (by decide) ?_⟩
  generalize hz : f_in w 0 5 = z
  have hz0 := f_in_0 w 0 5
  rw [hz] at hz0
  refine tk_goA fo_TK co_TK tg_TK_train 40 [20] ?_
  repeat' first | refine And.intro ?_ ?_ | intro _
  all_goals try simp only [tk_c, hz0] at *
  all_goals first | omega | skip
  · have e0 : c_train t w M = (.inl (some (f_tell M (73 + t.toNat) w)), M) := by
      unfold c_train
      rw [if_neg hbg, if_neg (by omega)]
    rw [e0]
    refine ⟨(), tk_aV (k := 5) (k_Ti_tell l t.toNat (by omega) w M) wc_Ti_tell lk_TK_162 wi_Ti_tell wsl_Ti_tell tg_TK_train rfl rfl (show _ < 81 by omega) (tk_shT (by omega)) rfl rfl (by decide) (Nat.le_of_ble_eq_true rfl) ?_ (fun x M' h => by cases h.1)⟩
    rintro v' N' ⟨h1, rfl⟩ hro
    cases h1
    generalize f_tell N' (73 + t.toNat) w = y
    refine tk_goA fo_TK co_TK tg_TK_train 40 [20] ?_
    exact ⟨rfl, rfl⟩
  · exact ⟨(), k20 (by omega)⟩
def f_csb (M : tk_M) (w k : Int) : Int := if w = 2 then M 1 7 else if w = 3 then M 3 0 else if w = 4 then M 3 1 else if w = 5 then M 2 5 else if w = 6 then M (31 + k.toNat) 3 else f_b (M (31 + k.toNat) 2)
theorem k_TK_countSinceBegin (l : Launch) (M : tk_M) (w k : Int) (h2 : 2 ≤ w) (h7 : w ≤ 7) (hk : 6 ≤ w → 0 ≤ k ∧ k < 10) : tk_C l y_TK_countSinceBegin 0 0 [.inr 1, .inl w, .inl k] M (fun r M' => r = .inl (some (f_csb M w k)) ∧ M' = M) := by
  refine tk_C.of wc_TK_countSinceBegin rfl (Nat.le_of_ble_eq_true rfl) fun hr hM => ?_
  refine tk_goA fo_TK co_TK tg_TK_countSinceBegin 40 [] ?_
  repeat' first | refine And.intro ?_ ?_ | intro _
  all_goals first | rfl | skip
  all_goals try simp only [tk_c] at *
  all_goals first | omega | trivial | (unfold f_csb f_b; (repeat' split) <;> first | rfl | omega)
def c_count (w k : Int) (M : tk_M) : tk_Z := if ¬ (0 ≤ w ∧ w ≤ 7) ∨ (6 ≤ w ∧ ¬ (0 ≤ k ∧ k ≤ M 2 2 - 1)) then (.inr 1, M) else (.inl (some (if w = 0 then M 2 2 else if w = 1 then M 2 3 else if M 1 3 = 0 then 0 else f_csb M w k)), M)
theorem k_TK_count (l : Launch) (hst : l.stackTraces = false) (M : tk_M) (w k : Int) {K : Int} (hi : p_inv M K) : tk_C l y_TK_count 7 94 [.inr 1, .inl w, .inl k] M (tk_z (c_count w k M)) := by
  refine tk_C.of wc_TK_count rfl (Nat.le_of_ble_eq_true rfl) fun hr hM => ?_
  obtain ⟨t1, t2, t3, t4, t5, t6⟩ := hi.1
  have k27 : (¬ (0 ≤ w ∧ w ≤ 7) ∨ (6 ≤ w ∧ ¬ (0 ≤ k ∧ k ≤ M 2 2 - 1))) → tk_At l "TrackKeeper" prog_1_method_14_code 3 (some .int) 7 94 (tk_z (c_count w k M)) 27 [some (.inr 1), some (.inl w), some (.inl k)] [] M := fun h => by
    exact tk_aN hst tn_TK_1 tg_TK_count rfl rfl rfl rfl (by decide) (by decide) (tk_z.i (by unfold c_count; rw [if_pos h]))
  have k35 : ¬ (¬ (0 ≤ w ∧ w ≤ 7) ∨ (6 ≤ w ∧ ¬ (0 ≤ k ∧ k ≤ M 2 2 - 1))) → tk_At l "TrackKeeper" prog_1_method_14_code 3 (some .int) 7 94 (tk_z (c_count w k M)) 35 [some (.inr 1), some (.inl w), some (.inl k)] [] M := fun h => by
    have e0 : c_count w k M = (.inl (some (if w = 0 then M 2 2 else if w = 1 then M 2 3 else if M 1 3 = 0 then 0 else f_csb M w k)), M) := by
      unfold c_count
      rw [if_neg h]
    rw [e0]
    refine tk_goA fo_TK co_TK tg_TK_count 40 [] ?_
    repeat' first | refine And.intro ?_ ?_ | intro _
    all_goals try simp only [tk_c] at *
    all_goals first | omega | rfl | skip
    · rw [if_neg (by omega), if_neg (by omega), if_pos (by omega)]
    · refine ⟨(), tk_aV (k := 0) (k_TK_countSinceBegin l M w k (by omega) (by omega) (by omega)) wc_TK_countSinceBegin lk_TK_165 wi_TK_countSinceBegin wsl_TK_countSinceBegin tg_TK_count rfl rfl (by decide) rfl rfl rfl (by decide) (Nat.le_of_ble_eq_true rfl) ?_ (fun x M' h => by cases h.1)⟩
      rintro v' N' ⟨h1, rfl⟩ hro
      cases h1
      rw [if_neg (by omega), if_neg (by omega), if_neg (by omega)]
      generalize f_csb N' w k = y
      refine tk_goA fo_TK co_TK tg_TK_count 40 [] ?_
      exact ⟨rfl, rfl⟩
    · rw [if_neg (by omega), if_pos (by omega)]
    · rw [if_pos (by omega)]
  refine tk_goA fo_TK co_TK tg_TK_count 40 [27, 35] ?_
  refine ⟨(), ka_in tg_TK_count rfl (by decide) (by decide) ?_⟩
  generalize hx : f_in w 0 7 = x
  have hx0 := f_in_0 w 0 7
  rw [hx] at hx0
  refine tk_goA fo_TK co_TK tg_TK_count 40 [27, 35] ?_
  repeat' first | refine And.intro ?_ ?_ | intro _
  all_goals try simp only [tk_c, hx0] at *
  all_goals first | omega | skip
  · exact ⟨(), k27 (by omega)⟩
  · exact ⟨(), k35 (by omega)⟩
  refine ⟨(), ka_sec t1 tg_TK_count rfl (by decide) (by decide) ?_⟩
  generalize hz : f_in k 0 (M 2 2 - 1) = z
  have hz0 := f_in_0 k 0 (M 2 2 - 1)
  rw [hz] at hz0
  refine tk_goA fo_TK co_TK tg_TK_count 40 [27, 35] ?_
  repeat' first | refine And.intro ?_ ?_ | intro _
  all_goals try simp only [tk_c, hz0] at *
  all_goals first | omega | skip
  · exact ⟨(), k35 (by omega)⟩
  · exact ⟨(), k27 (by omega)⟩
end
section
/-! THE REFERENCE: contracts of its small methods -/
theorem k_Mo_thrown (l : Launch) (M : tk_M) : tk_C l y_Mo_thrown 0 0 [.inr 7] M (fun r M' => r = .inl (some (M 7 0)) ∧ M' = M) := by
  refine tk_C.of wc_Mo_thrown rfl (Nat.le_of_ble_eq_true rfl) fun hr hM => ?_
  refine tk_goA fo_Mo co_Mo tg_Mo_thrown 20 [] ?_
  repeat' first | refine And.intro ?_ ?_ | intro _
  all_goals first | omega | rfl
theorem k_Mo_in (l : Launch) (v a b : Int) (M : tk_M) : tk_C l y_Mo_in 0 0 [.inl v, .inl a, .inl b] M (fun r M' => r = .inl (some (f_in v a b)) ∧ M' = M) := by
  refine tk_C.of wc_Mo_in rfl (Nat.le_of_ble_eq_true rfl) fun hr hM => ?_
  refine tk_goA fo_Mo co_Mo tg_Mo_in 20 [] ?_
  repeat' first | refine And.intro ?_ ?_ | intro _
  all_goals first | rfl | exact Or.inl rfl | exact Or.inr rfl | skip
  all_goals try simp only [tk_c] at *
  all_goals (unfold f_in; split <;> first | rfl | omega)
theorem k_Mo_fails0 (l : Launch) (M : tk_M) (x : Int) (h : M 7 0 = 0) : tk_C l y_Mo_fails 0 0 [.inr 7, .inl 0, .inl x] M (fun r M' => r = .inl (some 0) ∧ M' = M) := by
  refine tk_C.of wc_Mo_fails rfl (Nat.le_of_ble_eq_true rfl) fun hr hM => ?_
  refine tk_goA fo_Mo co_Mo tg_Mo_fails 20 [] ?_
  repeat' first | refine And.intro ?_ ?_ | intro _
  all_goals first | rfl | exact Or.inl rfl | exact Or.inr rfl | skip
  all_goals try simp only [tk_c] at *
  all_goals first | omega | rfl | exact absurd trivial (by assumption)
theorem k_Mo_fails1 (l : Launch) (M : tk_M) (x : Int) (h : M 7 0 = 0) (hx : ¬ x = 0) : tk_C l y_Mo_fails 0 0 [.inr 7, .inl 1, .inl x] M (fun r M' => r = .inl (some 1) ∧ M' = tk_up M 7 0 x) := by
  refine tk_C.of wc_Mo_fails rfl (Nat.le_of_ble_eq_true rfl) fun hr hM => ?_
  refine tk_goA fo_Mo co_Mo tg_Mo_fails 20 [] ?_
  repeat' first | refine And.intro ?_ ?_ | intro _
  all_goals first | rfl | exact Or.inl rfl | exact Or.inr rfl | skip
  all_goals try simp only [tk_c, tk_up_s] at *
  all_goals first | omega | rfl | exact absurd trivial (by assumption)
def f_wait (M : tk_M) : Int := if 0 < M 7 1 ∧ M 10 (M 7 1 - 1).toNat = M 7 2 then 1 else 0
theorem f_wait01 (M : tk_M) : f_wait M = 0 ∨ f_wait M = 1 := by unfold f_wait; split <;> simp
theorem k_Mo_isWaiting (l : Launch) (M : tk_M) (h : M 7 1 ≤ 10) : tk_C l y_Mo_isWaiting 0 0 [.inr 7] M (fun r M' => r = .inl (some (f_wait M)) ∧ M' = M) := by
  refine tk_C.of wc_Mo_isWaiting rfl (Nat.le_of_ble_eq_true rfl) fun hr hM => ?_
  refine tk_goA fo_Mo co_Mo tg_Mo_isWaiting 30 [] ?_
  repeat' first | refine And.intro ?_ ?_ | intro _
  all_goals first | rfl | exact Or.inl rfl | exact Or.inr rfl | skip
  all_goals try simp only [tk_c] at *
  all_goals first | omega | (unfold f_wait; split <;> first | rfl | omega)
def m_loc (M : tk_M) (t : Nat) : Int := if ¬ M 18 t = 0 ∧ ¬ M 19 t = 0 ∧ M 7 3 - M 24 t ≤ M 7 4 then 1 else 0
theorem m_loc01 (M : tk_M) (t : Nat) : m_loc M t = 0 ∨ m_loc M t = 1 := by unfold m_loc; split <;> simp
/-- what the times of the reference must be -/
def q_tm (M : tk_M) : Prop := 0 ≤ M 7 3 ∧ ∀ t : Nat, t < 8 → 0 ≤ M 24 t ∧ 0 ≤ M 25 t
theorem k_Mo_isLocated (l : Launch) (M : tk_M) (t : Nat) (ht : t < 8) (hq : q_tm M) : tk_C l y_Mo_isLocated 0 0 [.inr 7, .inl (t : Int)] M (fun r M' => r = .inl (some (m_loc M t)) ∧ M' = M) := by
  refine tk_C.of wc_Mo_isLocated rfl (Nat.le_of_ble_eq_true rfl) fun hr hM => ?_
  obtain ⟨q1, q2⟩ := hq
  have q3 := q2 t ht
  refine tk_goA fo_Mo co_Mo tg_Mo_isLocated 40 [] ?_
  repeat' first | refine And.intro ?_ ?_ | intro _
  all_goals first | rfl | exact Or.inl rfl | exact Or.inr rfl | skip
  all_goals try simp only [tk_c, Int.toNat_natCast] at *
  all_goals first | omega | (unfold m_loc; split <;> first | rfl | omega)
def m_who (M : tk_M) (t : Nat) : Int := if ¬ m_loc M t = 0 ∧ ¬ M 20 t = 0 ∧ M 7 3 - M 25 t ≤ M 7 5 then 1 else 0
theorem m_who01 (M : tk_M) (t : Nat) : m_who M t = 0 ∨ m_who M t = 1 := by unfold m_who; split <;> simp
theorem k_Mo_isWhole (l : Launch) (M : tk_M) (t : Nat) (ht : t < 8) (hq : q_tm M) : tk_C l y_Mo_isWhole 1 13 [.inr 7, .inl (t : Int)] M (fun r M' => r = .inl (some (m_who M t)) ∧ M' = M) := by
  refine tk_C.of wc_Mo_isWhole rfl (Nat.le_of_ble_eq_true rfl) fun hr hM => ?_
  refine tk_goA fo_Mo co_Mo tg_Mo_isWhole 40 [] ?_
  refine ⟨(), tk_aV (k := 6) (k_Mo_isLocated l M t ht hq) wc_Mo_isLocated lk_Mo_134 wi_Mo_isLocated wsl_Mo_isLocated tg_Mo_isWhole rfl rfl (by decide) rfl rfl rfl (by decide) (Nat.le_of_ble_eq_true rfl) ?_ (fun x M' h => by cases h.1)⟩
  rintro v' M' ⟨h1, rfl⟩ hro
  cases h1
  obtain ⟨q1, q2⟩ := hq
  have q3 := q2 t ht
  have ef : m_who M' t = if ¬ m_loc M' t = 0 ∧ ¬ M' 20 t = 0 ∧ M' 7 3 - M' 25 t ≤ M' 7 5 then 1 else 0 := rfl
  rw [ef]
  generalize m_loc M' t = y at *
  refine tk_goA fo_Mo co_Mo tg_Mo_isWhole 40 [] ?_
  repeat' first | refine And.intro ?_ ?_ | intro _
  all_goals first | rfl | exact Or.inl rfl | exact Or.inr rfl | skip
  all_goals try simp only [tk_c, Int.toNat_natCast] at *
  all_goals first | omega | (split <;> first | rfl | omega)
/-- the subsection at a place: from k upwards, at most n further -/
def m_at (M : tk_M) (pl : Int) : Nat → Nat → Nat
  | 0, k => k
  | n + 1, k => if (k : Int) + 1 < M 7 2 ∧ M 9 (k + 1) ≤ pl then m_at M pl n (k + 1) else k
theorem m_at_in (M : tk_M) (pl : Int) : ∀ n k : Nat, k ≤ m_at M pl n k ∧ ((m_at M pl n k : Int) < M 7 2 ∨ m_at M pl n k = k)
  | 0, k => ⟨Nat.le_refl _, Or.inr rfl⟩
  | n + 1, k => by
    have := m_at_in M pl n (k + 1)
    unfold m_at
    split <;> omega
theorem lp_Mo_subOf (l : Launch) (M : tk_M) (pl : Int) (h : M 7 2 ≤ 32) (r : Int) : ∀ (n k : Nat), M 7 2 ≤ k + n + 1 → k < 32 → (m_at M pl n k : Int) = r →
    tk_At l "TrackKeeperModel" prog_8_method_11_code 3 (some .int) 0 0 (fun q M' => q = .inl (some r) ∧ M' = M) 2 [some (.inr 7), some (.inl pl), some (.inl (k : Int))] [] M := by
  intro n
  induction n with
  | zero =>
    intro k h1 h2 h3
    have h3 : (k : Int) = r := h3
    refine tk_goA fo_Mo co_Mo tg_Mo_subOf 40 [2] ?_
    repeat' first | refine And.intro ?_ ?_ | intro _
    all_goals try simp only [tk_c] at *
    all_goals first | omega | rfl | rw [h3] | skip
  | succ n ih =>
    intro k h1 h2 h3
    unfold m_at at h3
    have e1 : ((k : Int) + 1).toNat = k + 1 := by omega
    refine tk_goA fo_Mo co_Mo tg_Mo_subOf 40 [2] ?_
    repeat' first | refine And.intro ?_ ?_ | intro _
    all_goals try simp only [tk_c, e1] at *
    all_goals first | omega | rfl | skip
    · rw [if_neg (by omega)] at h3
      rw [h3]
    · rw [if_neg (by omega)] at h3
      rw [h3]
    · rw [if_pos (by omega)] at h3
      exact ⟨(), ih (k + 1) (by omega) (by omega) h3⟩
theorem k_Mo_subOf (l : Launch) (M : tk_M) (pl : Int) (h : M 7 2 ≤ 32) : tk_C l y_Mo_subOf 0 0 [.inr 7, .inl pl] M (fun r M' => r = .inl (some ((m_at M pl 32 0 : Nat) : Int)) ∧ M' = M) := by
  refine tk_C.of wc_Mo_subOf rfl (Nat.le_of_ble_eq_true rfl) fun hr hM => ?_
  refine tk_goA fo_Mo co_Mo tg_Mo_subOf 40 [2] ?_
  exact ⟨(), lp_Mo_subOf l M pl h _ 32 0 (by omega) (by decide) rfl⟩
/-- how many bits are set -/
def m_pc (x : Int) : Int := x % 2 + x / 2 % 2 + x / 4 % 2 + x / 8 % 2 + x / 16 % 2 + x / 32 % 2 + x / 64 % 2 + x / 128 % 2
theorem k_In_bitCount (l : Launch) (M : tk_M) (x : Int) (h0 : 0 ≤ x) (h1 : x < 256) : tk_C l y_In_bitCount 0 0 [.inl x] M (fun r M' => r = .inl (some (m_pc x)) ∧ M' = M) := by
  obtain ⟨n, rfl⟩ : ∃ n : Fin 256, x = (n.val : Int) := ⟨⟨x.toNat, by omega⟩, by show x = ((x.toNat : Nat) : Int); omega⟩
  clear h0 h1
  refine tk_C.of wc_In_bitCount rfl (Nat.le_of_ble_eq_true rfl) fun hr hM => ?_
  clear hr hM
  refine tk_goA fo_In co_In tg_In_bitCount 60 [] ?_
  repeat' first | refine And.intro ?_ ?_ | intro _
  all_goals first | rfl | skip
  all_goals clear M
  all_goals revert n
  all_goals decide +kernel
/-- the lowest bit that is set -/
def m_low (x : Int) : Int := if x % 2 = 1 then 0 else if x / 2 % 2 = 1 then 1 else if x / 4 % 2 = 1 then 2 else if x / 8 % 2 = 1 then 3 else if x / 16 % 2 = 1 then 4 else if x / 32 % 2 = 1 then 5 else if x / 64 % 2 = 1 then 6 else 7
def m_bt (x : Int) (t : Int) : Int := (Int32.ofInt ((Int32.ofInt x >>> (Int32.ofInt t &&& 31)).toInt) &&& Int32.ofInt 1).toInt
theorem m_bt_eq : ∀ n : Fin 256, m_bt n.val 0 = (n.val : Int) % 2 ∧ m_bt n.val 1 = (n.val : Int) / 2 % 2 ∧ m_bt n.val 2 = (n.val : Int) / 4 % 2 ∧ m_bt n.val 3 = (n.val : Int) / 8 % 2 ∧ m_bt n.val 4 = (n.val : Int) / 16 % 2 ∧ m_bt n.val 5 = (n.val : Int) / 32 % 2 ∧ m_bt n.val 6 = (n.val : Int) / 64 % 2 ∧ m_bt n.val 7 = (n.val : Int) / 128 % 2 := by decide +kernel
theorem lp_Mo_only (l : Launch) (M : tk_M) (x : Int) (r : Int) (k : Nat) (hk : k < 8) (h0 : ¬ m_bt x k = 0) (hr : r = k) : ∀ (n t : Nat), t + n = k → (∀ j : Nat, j < k → m_bt x j = 0) →
    tk_At l "TrackKeeperModel" prog_8_method_15_code 2 (some .int) 0 0 (fun q M' => q = .inl (some r) ∧ M' = M) 2 [some (.inl x), some (.inl (t : Int))] [] M := by
  intro n
  induction n with
  | zero =>
    intro t h1 h2
    have e : t = k := by omega
    subst e
    subst hr
    refine tk_goA fo_Mo co_Mo tg_Mo_only 40 [2] ?_
    repeat' first | refine And.intro ?_ ?_ | intro _
    all_goals first | rfl | skip
    all_goals first | omega | (rename_i h; exact absurd h0 h) | skip
  | succ n ih =>
    intro t h1 h2
    have h3 := h2 t (by omega)
    refine tk_goA fo_Mo co_Mo tg_Mo_only 40 [2] ?_
    repeat' first | refine And.intro ?_ ?_ | intro _
    all_goals first | omega | (rename_i h; exact absurd h3 h) | skip
    exact ⟨(), ih (t + 1) (by omega) h2⟩
theorem m_low_at : ∀ n : Fin 256, n.val = 0 ∨ ((∃ k : Fin 8, m_low n.val = k.val ∧ ¬ m_bt n.val k.val = 0 ∧ ∀ j : Fin 8, j.val < k.val → m_bt n.val j.val = 0)) := by decide +kernel
theorem k_Mo_only (l : Launch) (M : tk_M) (x : Int) (h0 : 0 < x) (h1 : x < 256) : tk_C l y_Mo_only 0 0 [.inl x] M (fun r M' => r = .inl (some (m_low x)) ∧ M' = M) := by
  obtain ⟨n, rfl⟩ : ∃ n : Fin 256, x = (n.val : Int) := ⟨⟨x.toNat, by omega⟩, by show x = ((x.toNat : Nat) : Int); omega⟩
  rcases m_low_at n with h | ⟨k, e1, e2, e3⟩
  · omega
  · refine tk_C.of wc_Mo_only rfl (Nat.le_of_ble_eq_true rfl) fun hr hM => ?_
    refine tk_goA fo_Mo co_Mo tg_Mo_only 40 [2] ?_
    exact ⟨(), lp_Mo_only l M _ _ k.val k.isLt e2 e1 k.val 0 (by omega) (fun j hj => e3 ⟨j, by omega⟩ hj)⟩
end
section
/-! THE REFERENCE: what a section holds; its reset; a new state; an authority -/
def m_an (M : tk_M) (s : Nat) (n : Nat) : Bool := (List.range n).any fun k => decide (M 8 k = (s : Int)) && decide (M 12 k = 3)
theorem m_an_s (M : tk_M) (s n : Nat) : m_an M s (n + 1) = (m_an M s n || (decide (M 8 n = (s : Int)) && decide (M 12 n = 3))) := by
  unfold m_an
  rw [List.range_succ, List.any_append]
  simp
theorem m_an_iff {M : tk_M} {s n : Nat} : m_an M s n = true ↔ ∃ k : Nat, k < n ∧ M 8 k = (s : Int) ∧ M 12 k = 3 := by
  unfold m_an
  simp
def m_b (b : Bool) : Int := bif b then 1 else 0
def m_hld (M : tk_M) (s : Nat) : Int := if ¬ M 16 s = 0 ∧ m_an M s (M 7 2).toNat = true then 1 else 0
theorem m_hld01 (M : tk_M) (s : Nat) : m_hld M s = 0 ∨ m_hld M s = 1 := by unfold m_hld; split <;> simp
theorem m_or01 : ∀ a b : Bool, (Int32.ofInt (m_b a) ||| Int32.ofInt (m_b b)).toInt = m_b (a || b) := by decide +kernel
theorem lp_Mo_holds (l : Launch) (M : tk_M) (s : Nat) (hs : s < 10) (h0 : 0 ≤ M 7 2) (h1 : M 7 2 ≤ 32) : ∀ (n i : Nat), i + n = (M 7 2).toNat →
    tk_At l "TrackKeeperModel" prog_8_method_18_code 4 (some .boolean) 0 0 (fun q M' => q = .inl (some (m_hld M s)) ∧ M' = M) 4 [some (.inr 7), some (.inl (s : Int)), some (.inl (m_b (m_an M s i))), some (.inl (i : Int))] [] M := by
  intro n
  induction n with
  | zero =>
    intro i hi
    have e : i = (M 7 2).toNat := by omega
    have ef : m_hld M s = if ¬ M 16 s = 0 ∧ m_an M s (M 7 2).toNat = true then 1 else 0 := rfl
    rw [← e] at ef
    rw [ef]
    refine tk_goA fo_Mo co_Mo tg_Mo_holds 40 [4] ?_
    cases m_an M s i
    · repeat' first | refine And.intro ?_ ?_ | intro _
      all_goals first | rfl | exact Or.inl rfl | exact Or.inr rfl | skip
      all_goals try simp only [tk_c, Int.toNat_natCast, m_b, cond_true, cond_false] at *
      all_goals first | omega | (split <;> simp_all)
    · repeat' first | refine And.intro ?_ ?_ | intro _
      all_goals first | rfl | exact Or.inl rfl | exact Or.inr rfl | skip
      all_goals try simp only [tk_c, Int.toNat_natCast, m_b, cond_true, cond_false] at *
      all_goals first | omega | (split <;> simp_all)
  | succ n ih =>
    intro i hi
    have h9 := ih (i + 1) (by omega)
    have o1 := m_or01 (m_an M s i) true
    have o0 := m_or01 (m_an M s i) false
    simp only [Bool.or_true, Bool.or_false] at o1 o0
    refine tk_goA fo_Mo co_Mo tg_Mo_holds 40 [4] ?_
    repeat' first | refine And.intro ?_ ?_ | intro _
    all_goals try simp only [tk_c, Int.toNat_natCast] at *
    all_goals first | omega | skip
    · have e : m_an M s (i + 1) = m_an M s i := by rw [m_an_s]; simp_all
      rw [e, ← o0] at h9
      exact ⟨(), h9⟩
    · have e : m_an M s (i + 1) = m_an M s i := by rw [m_an_s]; simp_all
      rw [e, ← o0] at h9
      exact ⟨(), h9⟩
    · have e : m_an M s (i + 1) = true := by rw [m_an_s]; simp_all
      rw [e, ← o1] at h9
      exact ⟨(), h9⟩
theorem k_Mo_holds (l : Launch) (M : tk_M) (s : Nat) (hs : s < 10) (h0 : 0 ≤ M 7 2) (h1 : M 7 2 ≤ 32) : tk_C l y_Mo_holds 0 0 [.inr 7, .inl (s : Int)] M (fun q M' => q = .inl (some (m_hld M s)) ∧ M' = M) := by
  refine tk_C.of wc_Mo_holds rfl (Nat.le_of_ble_eq_true rfl) fun hr hM => ?_
  refine tk_goA fo_Mo co_Mo tg_Mo_holds 40 [4] ?_
  exact ⟨(), lp_Mo_holds l M s hs h0 h1 (M 7 2).toNat 0 (by omega)⟩
def m_r1 (M : tk_M) (n : Nat) : tk_M := fun c k => if (c = 12 ∨ c = 14) ∧ k < n then 0 else M c k
def m_r2 (M : tk_M) (n : Nat) : tk_M := fun c k => if (c = 16 ∨ c = 11) ∧ k < n then 0 else M c k
def m_r3 (M : tk_M) (n : Nat) : tk_M := fun c k => if (c = 18 ∨ c = 19 ∨ c = 20) ∧ k < n then 0 else if c = 26 ∧ k < n then -1 else M c k
theorem m_r1_s (M : tk_M) (n : Nat) : tk_up (tk_up (m_r1 M n) 12 n 0) 14 n 0 = m_r1 M (n + 1) := by
  funext c k
  unfold tk_up m_r1
  (repeat' split) <;> first | rfl | omega
theorem m_r2_s (M : tk_M) (n : Nat) : tk_up (tk_up (m_r2 M n) 16 n 0) 11 n 0 = m_r2 M (n + 1) := by
  funext c k
  unfold tk_up m_r2
  (repeat' split) <;> first | rfl | omega
theorem m_r3_s (M : tk_M) (n : Nat) : tk_up (tk_up (tk_up (tk_up (m_r3 M n) 18 n 0) 19 n 0) 20 n 0) 26 n (-1) = m_r3 M (n + 1) := by
  funext c k
  unfold tk_up m_r3
  (repeat' split) <;> first | rfl | omega
theorem lp_Mo_reset1 (l : Launch) (M : tk_M) (P : (Option Int ⊕ Nat) → tk_M → Prop) (hP : tk_At l "TrackKeeperModel" prog_8_method_9_code 2 none 0 0 P 48 [some (.inr 7), some (.inl 32)] [] (m_r1 M 32)) : ∀ (n i : Nat), i + n = 32 →
    tk_At l "TrackKeeperModel" prog_8_method_9_code 2 none 0 0 P 22 [some (.inr 7), some (.inl (i : Int))] [] (m_r1 M i) := by
  intro n
  induction n with
  | zero =>
    intro i hi
    have e : i = 32 := by omega
    subst e
    refine tk_goA fo_Mo co_Mo tg_Mo_reset 40 [22, 48] ?_
    repeat' first | refine And.intro ?_ ?_ | intro _
    all_goals try simp only [tk_c] at *
    all_goals first | omega | skip
    exact ⟨(), hP⟩
  | succ n ih =>
    intro i hi
    have h9 := ih (i + 1) (by omega)
    rw [← m_r1_s M i] at h9
    generalize m_r1 M i = N at *
    refine tk_goA fo_Mo co_Mo tg_Mo_reset 40 [22, 48] ?_
    repeat' first | refine And.intro ?_ ?_ | intro _
    all_goals first | exact Or.inl rfl | skip
    all_goals try simp only [tk_c, Int.toNat_natCast] at *
    all_goals first | omega | skip
    exact ⟨(), h9⟩
theorem lp_Mo_reset2 (l : Launch) (M : tk_M) (P : (Option Int ⊕ Nat) → tk_M → Prop) (hP : tk_At l "TrackKeeperModel" prog_8_method_9_code 2 none 0 0 P 76 [some (.inr 7), some (.inl 10)] [] (m_r2 M 10)) : ∀ (n i : Nat), i + n = 10 →
    tk_At l "TrackKeeperModel" prog_8_method_9_code 2 none 0 0 P 50 [some (.inr 7), some (.inl (i : Int))] [] (m_r2 M i) := by
  intro n
  induction n with
  | zero =>
    intro i hi
    have e : i = 10 := by omega
    subst e
    refine tk_goA fo_Mo co_Mo tg_Mo_reset 40 [50, 76] ?_
    repeat' first | refine And.intro ?_ ?_ | intro _
    all_goals try simp only [tk_c] at *
    all_goals first | omega | skip
    exact ⟨(), hP⟩
  | succ n ih =>
    intro i hi
    have h9 := ih (i + 1) (by omega)
    rw [← m_r2_s M i] at h9
    generalize m_r2 M i = N at *
    refine tk_goA fo_Mo co_Mo tg_Mo_reset 40 [50, 76] ?_
    repeat' first | refine And.intro ?_ ?_ | intro _
    all_goals first | exact Or.inl rfl | skip
    all_goals try simp only [tk_c, Int.toNat_natCast] at *
    all_goals first | omega | skip
    exact ⟨(), h9⟩
theorem lp_Mo_reset3 (l : Launch) (M : tk_M) : ∀ (n i : Nat), i + n = 8 →
    tk_At l "TrackKeeperModel" prog_8_method_9_code 2 none 0 0 (fun r M' => r = .inl none ∧ M' = m_r3 M 8) 78 [some (.inr 7), some (.inl (i : Int))] [] (m_r3 M i) := by
  intro n
  induction n with
  | zero =>
    intro i hi
    have e : i = 8 := by omega
    subst e
    refine tk_goA fo_Mo co_Mo tg_Mo_reset 40 [78] ?_
    repeat' first | refine And.intro ?_ ?_ | intro _
    all_goals first | rfl | skip
    all_goals try simp only [tk_c] at *
    all_goals first | omega | skip
  | succ n ih =>
    intro i hi
    have h9 := ih (i + 1) (by omega)
    rw [← m_r3_s M i] at h9
    have ef : m_r3 M 8 = m_r3 M 8 := rfl
    generalize m_r3 M i = N at *
    refine tk_goA fo_Mo co_Mo tg_Mo_reset 40 [78] ?_
    repeat' first | refine And.intro ?_ ?_ | intro _
    all_goals first | exact Or.inl rfl | skip
    all_goals try simp only [tk_c, Int.toNat_natCast] at *
    all_goals first | omega | skip
    exact ⟨(), h9⟩
def m_r0 (M : tk_M) : tk_M := tk_up (tk_up (tk_up (tk_up M 7 3 0) 7 7 0) 7 8 0) 7 9 0
def m_reset (M : tk_M) : tk_M := m_r3 (m_r2 (m_r1 (m_r0 M) 32) 10) 8
theorem m_r1_0 (M : tk_M) : m_r1 M 0 = M := by funext c k; unfold m_r1; rw [if_neg (by omega)]
theorem m_r2_0 (M : tk_M) : m_r2 M 0 = M := by funext c k; unfold m_r2; rw [if_neg (by omega)]
theorem m_r3_0 (M : tk_M) : m_r3 M 0 = M := by funext c k; unfold m_r3; rw [if_neg (by omega), if_neg (by omega)]
theorem k_Mo_reset (l : Launch) (M : tk_M) : tk_C l y_Mo_reset 0 0 [.inr 7] M (fun r M' => r = .inl none ∧ M' = m_reset M) := by
  refine tk_C.of wc_Mo_reset rfl (Nat.le_of_ble_eq_true rfl) fun hr hM => ?_
  have ef : m_reset M = m_r3 (m_r2 (m_r1 (m_r0 M) 32) 10) 8 := rfl
  have e0 : m_r0 M = tk_up (tk_up (tk_up (tk_up M 7 3 0) 7 7 0) 7 8 0) 7 9 0 := rfl
  refine tk_goA fo_Mo co_Mo tg_Mo_reset 40 [22] ?_
  repeat' first | refine And.intro ?_ ?_ | intro _
  all_goals first | omega | skip
  refine ⟨(), ?_⟩
  rw [← e0]
  have h := lp_Mo_reset1 l (m_r0 M) (fun r M' => r = .inl none ∧ M' = m_reset M) ?_ 32 0 rfl
  · rw [m_r1_0] at h
    exact h
  · refine tk_goA fo_Mo co_Mo tg_Mo_reset 40 [50] ?_
    refine ⟨(), ?_⟩
    have h := lp_Mo_reset2 l (m_r1 (m_r0 M) 32) (fun r M' => r = .inl none ∧ M' = m_reset M) ?_ 10 0 rfl
    · rw [m_r2_0] at h
      exact h
    · refine tk_goA fo_Mo co_Mo tg_Mo_reset 40 [78] ?_
      refine ⟨(), ?_⟩
      have h := lp_Mo_reset3 l (m_r2 (m_r1 (m_r0 M) 32) 10) 8 0 rfl
      rw [m_r3_0, ← ef] at h
      exact h
/-- a new state -/
def m_fd (M : tk_M) (k : Nat) : Int :=
  if M 16 (M 8 k).toNat = 0 then 0
  else if 1 < m_pc (M 14 k) then 2
  else if m_pc (M 14 k) = 1 then (if ¬ m_who M (m_low (M 14 k)).toNat = 0 ∧ (M 29 (m_low (M 14 k)).toNat = M 10 (M 8 (M 29 (m_low (M 14 k)).toNat).toNat).toNat ∨ M 13 (M 29 (m_low (M 14 k)).toNat - 1).toNat = 0) then 1 else 2)
  else if M 13 k = 3 ∨ M 13 k = 2 then 3
  else if M 13 k = 1 then (if ¬ M 15 k = 0 ∧ ¬ m_who M (m_low (M 15 k)).toNat = 0 ∧ (k : Int) < M 29 (m_low (M 15 k)).toNat then 0 else 3)
  else if ¬ M 17 (M 8 k).toNat = 0 then 3 else if M 27 (M 8 k).toNat = 0 then 3 else 0
def q_fd (M : tk_M) (k : Nat) : Prop := 0 ≤ M 8 k ∧ M 8 k < 10 ∧ 0 ≤ M 14 k ∧ M 14 k < 256 ∧ 0 ≤ M 15 k ∧ M 15 k < 256 ∧
  (m_pc (M 14 k) = 1 → 0 ≤ M 29 (m_low (M 14 k)).toNat ∧ M 29 (m_low (M 14 k)).toNat < 32 ∧ 0 ≤ M 8 (M 29 (m_low (M 14 k)).toNat).toNat ∧ M 8 (M 29 (m_low (M 14 k)).toNat).toNat < 10 ∧ (M 29 (m_low (M 14 k)).toNat = 0 → M 10 (M 8 0).toNat = 0))
theorem m_low_in (x : Int) : 0 ≤ m_low x ∧ m_low x < 8 := by
  unfold m_low
  (repeat' split) <;> omega
theorem m_pc_0 : m_pc 0 = 0 := by decide
theorem lp_Mo_found1 (l : Launch) (M : tk_M) (k : Nat) (hk : k < 32) (ht : q_tm M) (t : Nat) (ht8 : t < 8) (el : m_low (M 14 k) = (t : Int)) (q3 : 0 < M 14 k) (q4 : M 14 k < 256) (r1 : 0 ≤ M 29 t) (r2 : M 29 t < 32) (r3 : 0 ≤ M 8 (M 29 t).toNat) (r4 : M 8 (M 29 t).toNat < 10) (r5 : M 29 t = 0 → M 10 (M 8 0).toNat = 0) (x y res : Int) (hres : res = if ¬ m_who M t = 0 ∧ (M 29 t = M 10 (M 8 (M 29 t).toNat).toNat ∨ M 13 (M 29 t - 1).toNat = 0) then 1 else 2) :
    tk_At l "TrackKeeperModel" prog_8_method_16_code 7 (some .int) 2 26 (fun q M' => q = .inl (some res) ∧ M' = M) 40 [some (.inr 7), some (.inl (k : Int)), some (.inl x), some (.inl y), none, none, none] [] M := by
  have con := k_Mo_only l M (M 14 k) q3 q4
  rw [el] at con
  refine tk_goA fo_Mo co_Mo tg_Mo_found 40 [] ?_
  repeat' first | refine And.intro ?_ ?_ | intro _
  all_goals try simp only [Int.toNat_natCast] at *
  all_goals first | omega | skip
  refine ⟨(), tk_aS con wc_Mo_only lk_Mo_154 wst_Mo_only wn_Mo tg_Mo_found rfl rfl rfl (by decide) (Nat.le_of_ble_eq_true rfl) ?_ (fun x M' h => by cases h.1)⟩
  rintro v' N2 ⟨h1, rfl⟩ hro
  cases h1
  have k94 : ∀ b : Int, (b = 0 ∨ b = 1) → (b = 1 ↔ (N2 29 t = N2 10 (N2 8 (N2 29 t).toNat).toNat ∨ N2 13 (N2 29 t - 1).toNat = 0)) → tk_At l "TrackKeeperModel" prog_8_method_16_code 7 (some .int) 2 26 (fun q M' => q = .inl (some res) ∧ M' = N2) 94 [some (.inr 7), some (.inl (k : Int)), some (.inl x), some (.inl y), some (.inl (t : Int)), some (.inl (N2 29 t)), none] [.inl (.inl b)] N2 := fun b hb hbi => by
    refine tk_goA fo_Mo co_Mo tg_Mo_found 40 [] ?_
    refine ⟨(), tk_aV (k := 6) (k_Mo_isWhole l N2 t ht8 ht) wc_Mo_isWhole lk_Mo_157 wi_Mo_isWhole wsl_Mo_isWhole tg_Mo_found rfl rfl (by decide) rfl rfl rfl (by decide) (Nat.le_of_ble_eq_true rfl) ?_ (fun x M' h => by cases h.1)⟩
    rintro v' N3 ⟨h1, rfl⟩ hro
    cases h1
    generalize m_who N3 t = w at *
    refine tk_goA fo_Mo co_Mo tg_Mo_found 40 [] ?_
    repeat' first | refine And.intro ?_ ?_ | intro _
    all_goals first | rfl | skip
    all_goals try simp only [tk_c, Int.toNat_natCast] at *
    · rw [hres, if_neg (by omega)]
    · rw [hres, if_neg (fun z => by have := hbi.mpr z.2; omega)]
    · rw [hres, if_pos ⟨by assumption, hbi.mp (by omega)⟩]
  refine tk_goA fo_Mo co_Mo tg_Mo_found 40 [94] ?_
  repeat' first | refine And.intro ?_ ?_ | intro _
  all_goals try simp only [tk_c, Int.toNat_natCast] at *
  all_goals first | omega | skip
  · exact ⟨(), k94 1 (Or.inr rfl) ⟨fun _ => by omega, fun _ => rfl⟩⟩
  · have : ¬ N2 29 t = 0 := fun e0 => by
      have e1 := r5 e0
      rename_i hne
      rw [e0] at hne
      simp only [Int.toNat_zero] at hne
      omega
    omega
  · exact ⟨(), k94 0 (Or.inl rfl) ⟨fun h => absurd h (by decide), fun h => by omega⟩⟩
  · exact ⟨(), k94 1 (Or.inr rfl) ⟨fun _ => by omega, fun _ => rfl⟩⟩
theorem lp_Mo_found2 (l : Launch) (M : tk_M) (k : Nat) (hk : k < 32) (ht : q_tm M) (q1 : 0 ≤ M 8 k) (q2 : M 8 k < 10) (q3 : 0 ≤ M 15 k) (q4 : M 15 k < 256) (y res : Int) (hres : res = if M 13 k = 3 ∨ M 13 k = 2 then 3
    else if M 13 k = 1 then (if ¬ M 15 k = 0 ∧ ¬ m_who M (m_low (M 15 k)).toNat = 0 ∧ (k : Int) < M 29 (m_low (M 15 k)).toNat then 0 else 3)
    else if ¬ M 17 (M 8 k).toNat = 0 then 3 else if M 27 (M 8 k).toNat = 0 then 3 else 0) :
    tk_At l "TrackKeeperModel" prog_8_method_16_code 7 (some .int) 2 26 (fun q M' => q = .inl (some res) ∧ M' = M) 116 [some (.inr 7), some (.inl (k : Int)), some (.inl (M 8 k)), some (.inl y), none, none, none] [] M := by
  have hlow := m_low_in (M 15 k)
  have con : 0 < M 15 k → _ := fun h => k_Mo_only l M (M 15 k) h q4
  generalize m_low (M 15 k) = lw at *
  obtain ⟨t, rfl⟩ : ∃ t : Nat, lw = (t : Int) := ⟨lw.toNat, by omega⟩
  simp only [Int.toNat_natCast] at *
  by_cases h1 : M 13 k = 3 ∨ M 13 k = 2
  · rw [if_pos h1] at hres
    subst hres
    refine tk_goA fo_Mo co_Mo tg_Mo_found 40 [138] ?_
    repeat' first | refine And.intro ?_ ?_ | intro _
    all_goals first | rfl | skip
    all_goals try simp only [tk_c, Int.toNat_natCast] at *
    all_goals first | omega | skip
  · rw [if_neg h1] at hres
    by_cases h2 : M 13 k = 1
    · rw [if_pos h2] at hres
      have k201 : ∀ u : Int, ¬ (¬ M 15 k = 0 ∧ ¬ m_who M t = 0 ∧ (k : Int) < M 29 t) → tk_At l "TrackKeeperModel" prog_8_method_16_code 7 (some .int) 2 26 (fun q M' => q = .inl (some res) ∧ M' = M) 201 [some (.inr 7), some (.inl (k : Int)), some (.inl (M 8 k)), some (.inl y), some (.inl u), none, none] [] M := fun u e => by
        rw [if_neg e] at hres
        subst hres
        refine tk_goA fo_Mo co_Mo tg_Mo_found 40 [] ?_
        exact ⟨rfl, rfl⟩
      refine tk_goA fo_Mo co_Mo tg_Mo_found 60 [201] ?_
      repeat' first | refine And.intro ?_ ?_ | intro _
      all_goals first | rfl | skip
      all_goals try simp only [tk_c, Int.toNat_natCast] at *
      all_goals first | omega | skip
      · refine ⟨(), tk_aS (con (by omega)) wc_Mo_only lk_Mo_154 wst_Mo_only wn_Mo tg_Mo_found rfl rfl rfl (by decide) (Nat.le_of_ble_eq_true rfl) ?_ (fun x M' h => by cases h.1)⟩
        rintro v' N2 ⟨g1, rfl⟩ hro
        cases g1
        refine tk_goA fo_Mo co_Mo tg_Mo_found 40 [201] ?_
        repeat' first | refine And.intro ?_ ?_ | intro _
        all_goals first | rfl | skip
        all_goals try simp only [tk_c, Int.toNat_natCast] at *
        all_goals first | omega | skip
        refine ⟨(), tk_aV (k := 6) (k_Mo_isWhole l N2 t (by omega) ht) wc_Mo_isWhole lk_Mo_157 wi_Mo_isWhole wsl_Mo_isWhole tg_Mo_found rfl rfl (by decide) rfl rfl rfl (by decide) (Nat.le_of_ble_eq_true rfl) ?_ (fun x M' h => by cases h.1)⟩
        rintro v' N3 ⟨g1, rfl⟩ hro
        cases g1
        have k201 := k201 (t : Int)
        have ha : (¬ N3 15 k = 0 ∧ ¬ m_who N3 t = 0 ∧ (k : Int) < N3 29 t) → res = 0 := fun h => by rw [hres, if_pos h]
        clear hres
        rename_i k201'
        clear k201'
        generalize m_who N3 t = w at *
        refine tk_goA fo_Mo co_Mo tg_Mo_found 40 [201] ?_
        repeat' first | refine And.intro ?_ ?_ | intro _
        all_goals first | rfl | skip
        all_goals try simp only [tk_c, Int.toNat_natCast] at *
        all_goals first | omega | exact ⟨(), k201 (by omega)⟩ | skip
        rw [ha (by omega)]
      · exact ⟨(), k201 (-1) (by omega)⟩
    · rw [if_neg h2] at hres
      refine tk_goA fo_Mo co_Mo tg_Mo_found 60 [] ?_
      repeat' first | refine And.intro ?_ ?_ | intro _
      all_goals first | rfl | skip
      all_goals try simp only [tk_c, Int.toNat_natCast] at *
      all_goals first | omega | (rw [hres]; (repeat' split) <;> first | rfl | omega)
theorem k_Mo_found (l : Launch) (M : tk_M) (k : Nat) (hk : k < 32) (hq : q_fd M k) (ht : q_tm M) : tk_C l y_Mo_found 2 26 [.inr 7, .inl (k : Int)] M (fun q M' => q = .inl (some (m_fd M k)) ∧ M' = M) := by
  refine tk_C.of wc_Mo_found rfl (Nat.le_of_ble_eq_true rfl) fun hr hM => ?_
  obtain ⟨q1, q2, q3, q4, q5, q6, q7⟩ := hq
  have hz : m_pc (M 14 k) = 1 → 0 < M 14 k := fun h => by
    rcases Int.lt_or_eq_of_le q3 with g | g
    · exact g
    · rw [← g, m_pc_0] at h; omega
  have f1 := fun hm : m_pc (M 14 k) = 1 => lp_Mo_found1 l M k hk ht (m_low (M 14 k)).toNat (by have := m_low_in (M 14 k); omega) (by have := m_low_in (M 14 k); omega) (hz hm) q4 (q7 hm).1 (q7 hm).2.1 (q7 hm).2.2.1 (q7 hm).2.2.2.1 (q7 hm).2.2.2.2 (M 8 k) (m_pc (M 14 k)) _ rfl
  have f2 := lp_Mo_found2 l M k hk ht q1 q2 q5 q6 (m_pc (M 14 k)) _ rfl
  refine tk_goA fo_Mo co_Mo tg_Mo_found 40 [] ?_
  repeat' first | refine And.intro ?_ ?_ | intro _
  all_goals try simp only [Int.toNat_natCast] at *
  all_goals first | omega | skip
  refine ⟨(), tk_aS (k_In_bitCount l M (M 14 k) q3 q4) wc_In_bitCount lk_Mo_149 wst_In_bitCount wn_In tg_Mo_found rfl rfl rfl (by decide) (Nat.le_of_ble_eq_true rfl) ?_ (fun x M' h => by cases h.1)⟩
  rintro v' N' ⟨h1, rfl⟩ hro
  cases h1
  unfold m_fd
  generalize m_pc (N' 14 k) = many at *
  refine tk_goA fo_Mo co_Mo tg_Mo_found 60 [40, 116] ?_
  repeat' first | refine And.intro ?_ ?_ | intro _
  all_goals first | rfl | skip
  all_goals try simp only [tk_c, Int.toNat_natCast] at *
  all_goals first | omega | skip
  · simp only [if_neg (show ¬ N' 16 (N' 8 k).toNat = 0 by assumption), if_neg (show ¬ 1 < many by omega), if_neg (show ¬ many = 1 by omega)]
    exact ⟨(), f2⟩
  · simp only [if_neg (show ¬ N' 16 (N' 8 k).toNat = 0 by assumption), if_neg (show ¬ 1 < many by omega), if_pos (show many = 1 by omega)]
    exact ⟨(), f1 (by omega)⟩
  · rw [if_neg (by omega), if_pos (by omega)]
  · rw [if_pos (by omega)]
end
section
/-! THE REFERENCE: its authorities; its trains marked; all found anew -/
def m_run (M : tk_M) (e : Int) : Nat → Int → Int
  | 0, k => k
  | n + 1, k => if k ≤ e ∧ M 12 k.toNat = 0 then m_run M e n (k + 1) else k
theorem m_run_in (M : tk_M) (e : Int) : ∀ (n : Nat) (k : Int), k ≤ m_run M e n k ∧ (m_run M e n k ≤ e + 1 ∨ m_run M e n k = k)
  | 0, k => ⟨Int.le_refl _, Or.inr rfl⟩
  | n + 1, k => by
    unfold m_run
    split
    · have := m_run_in M e n (k + 1)
      omega
    · exact ⟨Int.le_refl _, Or.inr rfl⟩
def m_au (M : tk_M) (t : Nat) : tk_M :=
  if M 26 t < 0 then M
  else if M 28 t = 0 then tk_up (tk_up M 26 t (-1)) 7 8 (M 7 8 + 1)
  else if m_run M (M 26 t) 40 (M 30 t + 1) ≤ M 26 t then (if m_run M (M 26 t) 40 (M 30 t + 1) - 1 ≤ M 30 t then tk_up (tk_up (tk_up M 26 t (m_run M (M 26 t) 40 (M 30 t + 1) - 1)) 7 7 (M 7 7 + 1)) 26 t (-1) else tk_up (tk_up M 26 t (m_run M (M 26 t) 40 (M 30 t + 1) - 1)) 7 7 (M 7 7 + 1))
  else if M 26 t ≤ M 30 t then tk_up M 26 t (-1) else M
theorem lp_Mo_authority (l : Launch) (M : tk_M) (t : Nat) (ht : t < 8) (h26 : M 26 t < 32) (f : Int) (P : (Option Int ⊕ Nat) → tk_M → Prop) (g : Int)
    (hP : tk_At l "TrackKeeperModel" prog_8_method_17_code 4 none 0 0 P 73 [some (.inr 7), some (.inl (t : Int)), some (.inl f), some (.inl g)] [] M) : ∀ (n : Nat) (k : Int), 0 ≤ k → k < 40 → M 26 t + 1 - k ≤ n → m_run M (M 26 t) n k = g →
    tk_At l "TrackKeeperModel" prog_8_method_17_code 4 none 0 0 P 48 [some (.inr 7), some (.inl (t : Int)), some (.inl f), some (.inl k)] [] M := by
  intro n
  induction n with
  | zero =>
    intro k h1 h4 h2 h3
    have h3 : k = g := h3
    subst h3
    refine tk_goA fo_Mo co_Mo tg_Mo_authority 40 [48, 73] ?_
    repeat' first | refine And.intro ?_ ?_ | intro _
    all_goals try simp only [tk_c, Int.toNat_natCast] at *
    all_goals first | omega | skip
    exact ⟨(), hP⟩
  | succ n ih =>
    intro k h1 h4 h2 h3
    unfold m_run at h3
    refine tk_goA fo_Mo co_Mo tg_Mo_authority 40 [48, 73] ?_
    repeat' first | refine And.intro ?_ ?_ | intro _
    all_goals try simp only [tk_c, Int.toNat_natCast] at *
    all_goals first | omega | skip
    · rw [if_neg (by omega)] at h3
      subst h3
      exact ⟨(), hP⟩
    · rw [if_neg (fun z => by omega)] at h3
      subst h3
      exact ⟨(), hP⟩
    · rw [if_pos (by omega)] at h3
      exact ⟨(), ih (k + 1) (by omega) (by omega) (by omega) h3⟩
theorem k_Mo_authority (l : Launch) (M : tk_M) (t : Nat) (ht : t < 8) (h30 : ¬ M 28 t = 0 → 0 ≤ M 30 t ∧ M 30 t < 32) (h26 : M 26 t < 32) (hc0 : M 7 7 < 2147483647) (hc1 : M 7 8 < 2147483647) : tk_C l y_Mo_authority 0 0 [.inr 7, .inl (t : Int)] M (fun r M' => r = .inl none ∧ M' = m_au M t) := by
  refine tk_C.of wc_Mo_authority rfl (Nat.le_of_ble_eq_true rfl) fun hr hM => ?_
  have b0 := hM 7 7
  have b1 := hM 7 8
  by_cases h0 : M 26 t < 0
  · have ef : m_au M t = M := by unfold m_au; rw [if_pos h0]
    rw [ef]
    refine tk_goA fo_Mo co_Mo tg_Mo_authority 40 [] ?_
    repeat' first | refine And.intro ?_ ?_ | intro _
    all_goals first | rfl | skip
    all_goals try simp only [tk_c, Int.toNat_natCast] at *
    all_goals first | omega | skip
  · by_cases hl : M 28 t = 0
    · have ef : m_au M t = tk_up (tk_up M 26 t (-1)) 7 8 (M 7 8 + 1) := by unfold m_au; rw [if_neg h0, if_pos hl]
      rw [ef]
      have u : tk_up M 26 t (-1) 7 8 = M 7 8 := tk_up_n (by omega)
      refine tk_goA fo_Mo co_Mo tg_Mo_authority 40 [37] ?_
      repeat' first | refine And.intro ?_ ?_ | intro _
      all_goals first | rfl | skip
      all_goals try simp only [tk_c, Int.toNat_natCast, u] at *
      all_goals first | omega | skip
    · obtain ⟨q1, q2⟩ := h30 hl
      have hg := m_run_in M (M 26 t) 40 (M 30 t + 1)
      have ef : m_au M t = if m_run M (M 26 t) 40 (M 30 t + 1) ≤ M 26 t then (if m_run M (M 26 t) 40 (M 30 t + 1) - 1 ≤ M 30 t then tk_up (tk_up (tk_up M 26 t (m_run M (M 26 t) 40 (M 30 t + 1) - 1)) 7 7 (M 7 7 + 1)) 26 t (-1) else tk_up (tk_up M 26 t (m_run M (M 26 t) 40 (M 30 t + 1) - 1)) 7 7 (M 7 7 + 1))
          else if M 26 t ≤ M 30 t then tk_up M 26 t (-1) else M := by unfold m_au; rw [if_neg h0, if_neg hl]
      have hlp := lp_Mo_authority l M t ht h26 (M 30 t) (fun r M' => r = .inl none ∧ M' = m_au M t) (m_run M (M 26 t) 40 (M 30 t + 1)) ?_ 40 (M 30 t + 1) (by omega) (by omega) (by omega) rfl
      · refine tk_goA fo_Mo co_Mo tg_Mo_authority 40 [48] ?_
        repeat' first | refine And.intro ?_ ?_ | intro _
        all_goals try simp only [tk_c, Int.toNat_natCast] at *
        all_goals first | omega | skip
        exact ⟨(), hlp⟩
      · generalize m_run M (M 26 t) 40 (M 30 t + 1) = g at *
        have u : ∀ x : Int, tk_up M 26 t x 7 7 = M 7 7 := fun x => tk_up_n (by omega)
        have w1 : ∀ x y : Int, tk_up (tk_up M 26 t x) 7 7 y 26 t = x := fun x y => by rw [tk_up_n (by omega), tk_up_s]
        refine tk_goA fo_Mo co_Mo tg_Mo_authority 40 [] ?_
        repeat' first | refine And.intro ?_ ?_ | intro _
        all_goals first | rfl | skip
        all_goals try simp only [tk_c, u, w1, Int.toNat_natCast] at *
        all_goals first | omega | skip
        · rw [ef, if_neg (by omega), if_neg (by omega)]
        · rw [ef, if_neg (by omega), if_pos (by omega)]
        · rw [ef, if_pos (by omega), if_neg (by omega)]
        · rw [ef, if_pos (by omega), if_pos (by omega)]
def m_or (x : Int) (t : Nat) : Int := (Int32.ofInt x ||| Int32.ofInt (Int32.ofInt 1 <<< (Int32.ofInt (t : Int) &&& 31)).toInt).toInt
/-- train t marked on n subsections from a on -/
def m_inn (M : tk_M) (t a : Nat) : Nat → tk_M
  | 0 => M
  | n + 1 => tk_up (tk_up (m_inn M t a n) 14 (a + n) (m_or (m_inn M t a n 14 (a + n)) t)) 27 (M 8 (a + n)).toNat 1
theorem m_inn_o {M : tk_M} {t a c j : Nat} (h1 : c ≠ 14) (h2 : c ≠ 27) : ∀ n : Nat, m_inn M t a n c j = M c j
  | 0 => rfl
  | n + 1 => by
    unfold m_inn
    rw [tk_up_c _ _ _ _ h2, tk_up_c _ _ _ _ h1]
    exact m_inn_o h1 h2 n
def q_fn (M : tk_M) : Prop := 1 ≤ M 7 2 ∧ M 7 2 ≤ 32 ∧ 0 ≤ M 7 1 ∧ M 7 1 ≤ 10 ∧ (∀ k : Nat, (k : Int) < M 7 2 → 0 ≤ M 8 k ∧ M 8 k < 10) ∧ q_tm M
theorem lp_Mo_find3 (l : Launch) (M : tk_M) (hq : q_fn M) (t : Nat) (ht : t < 8) (a b : Nat) (hb : (b : Int) < M 7 2) (e30 : M 30 t = (b : Int)) (P : (Option Int ⊕ Nat) → tk_M → Prop)
    (hP : ∀ k : Int, tk_At l "TrackKeeperModel" prog_8_method_14_code 3 none 3 46 P 180 [some (.inr 7), some (.inl (t : Int)), some (.inl k)] [] (m_inn M t a (b + 1 - a))) : ∀ n i : Nat, i + n = b + 1 - a →
    tk_At l "TrackKeeperModel" prog_8_method_14_code 3 none 3 46 P 140 [some (.inr 7), some (.inl (t : Int)), some (.inl ((a + i : Nat) : Int))] [] (m_inn M t a i) := by
  obtain ⟨q1, q2, q3, q4, q5, q6⟩ := hq
  intro n
  induction n with
  | zero =>
    intro i hi
    have e : i = b + 1 - a := by omega
    subst e
    have e30' : m_inn M t a (b + 1 - a) 30 t = (b : Int) := by rw [m_inn_o (by decide) (by decide)]; exact e30
    have hP := hP ((a + (b + 1 - a) : Nat) : Int)
    generalize m_inn M t a (b + 1 - a) = N at *
    refine tk_goA fo_Mo co_Mo tg_Mo_find 40 [140, 180] ?_
    repeat' first | refine And.intro ?_ ?_ | intro _
    all_goals try simp only [tk_c, Int.toNat_natCast, e30'] at *
    all_goals first | omega | skip
    exact ⟨(), hP⟩
  | succ n ih =>
    intro i hi
    have h9 := ih (i + 1) (by omega)
    have e9 : m_inn M t a (i + 1) = tk_up (tk_up (m_inn M t a i) 14 (a + i) (m_or (m_inn M t a i 14 (a + i)) t)) 27 (M 8 (a + i)).toNat 1 := rfl
    have e8 : m_inn M t a i 8 (a + i) = M 8 (a + i) := m_inn_o (by decide) (by decide) i
    have e30' : m_inn M t a i 30 t = (b : Int) := by rw [m_inn_o (by decide) (by decide)]; exact e30
    have h8 := q5 (a + i) (by omega)
    rw [e9, ← e8] at h9
    rw [← e8] at h8
    clear e9 e8
    have em : m_or (m_inn M t a i 14 (a + i)) t = (Int32.ofInt (m_inn M t a i 14 (a + i)) ||| Int32.ofInt (Int32.ofInt 1 <<< (Int32.ofInt (t : Int) &&& 31)).toInt).toInt := rfl
    rw [em] at h9
    clear em hP
    generalize m_inn M t a i = N at *
    have u : ∀ x : Int, tk_up N 14 (a + i) x 8 (a + i) = N 8 (a + i) := fun x => tk_up_n (by omega)
    refine tk_goA fo_Mo co_Mo tg_Mo_find 40 [140, 180] ?_
    repeat' first | refine And.intro ?_ ?_ | intro _
    all_goals first | exact Or.inr rfl | skip
    all_goals try simp only [tk_c, Int.toNat_natCast, e30', u] at *
    all_goals first | omega | skip
    exact ⟨(), h9⟩
theorem m_at_eq {M N : tk_M} (h7 : N 7 2 = M 7 2) (h9 : ∀ k, N 9 k = M 9 k) (pl : Int) : ∀ n k : Nat, m_at N pl n k = m_at M pl n k
  | 0, k => rfl
  | n + 1, k => by
    unfold m_at
    rw [h7, h9, m_at_eq h7 h9 pl n (k + 1)]
def m_a (M : tk_M) (t : Nat) : Nat := m_at M (M 23 t) 32 0
def m_z (M : tk_M) (t : Nat) : Nat := m_at M (M 22 t) 32 0
def m_t0 (M : tk_M) (t : Nat) : tk_M := tk_up (tk_up (tk_up M 28 t (m_loc M t)) 29 t (m_a M t)) 30 t (m_z M t)
def m_tr (M : tk_M) (t : Nat) : tk_M :=
  if m_loc M t = 0 then tk_up M 28 t (m_loc M t)
  else if (m_z M t : Int) + 1 < M 7 2 ∧ ¬ M 8 (m_z M t + 1) = M 8 (m_z M t) then tk_up (m_inn (m_t0 M t) t (m_a M t) (m_z M t + 1 - m_a M t)) 27 (M 8 (m_z M t + 1)).toNat 1
  else m_inn (m_t0 M t) t (m_a M t) (m_z M t + 1 - m_a M t)
theorem m_t0_o {M : tk_M} {t c j : Nat} (h1 : c ≠ 28) (h2 : c ≠ 29) (h3 : c ≠ 30) : m_t0 M t c j = M c j := by
  unfold m_t0
  rw [tk_up_c _ _ _ _ h3, tk_up_c _ _ _ _ h2, tk_up_c _ _ _ _ h1]
theorem m_tr_o {M : tk_M} {t c j : Nat} (h : c ≠ 14 ∧ c ≠ 27 ∧ (c < 28 ∨ 30 < c)) : m_tr M t c j = M c j := by
  unfold m_tr
  split
  · rw [tk_up_c _ _ _ _ (by omega)]
  · split
    · rw [tk_up_c _ _ _ _ (by omega), m_inn_o (by omega) (by omega), m_t0_o (by omega) (by omega) (by omega)]
    · rw [m_inn_o (by omega) (by omega), m_t0_o (by omega) (by omega) (by omega)]
theorem m_tr_28 {M : tk_M} {t j : Nat} : m_tr M t 28 j = if j = t then m_loc M t else M 28 j := by
  unfold m_tr
  by_cases e : j = t
  · subst e
    rw [if_pos rfl]
    split
    · rw [tk_up_s]
    · split
      · rw [tk_up_c _ _ _ _ (by omega), m_inn_o (by omega) (by omega)]; unfold m_t0; rw [tk_up_n (by omega), tk_up_n (by omega), tk_up_s]
      · rw [m_inn_o (by omega) (by omega)]; unfold m_t0; rw [tk_up_n (by omega), tk_up_n (by omega), tk_up_s]
  · rw [if_neg e]
    split
    · rw [tk_up_n (by omega)]
    · split
      · rw [tk_up_c _ _ _ _ (by omega), m_inn_o (by omega) (by omega)]; unfold m_t0; rw [tk_up_n (by omega), tk_up_n (by omega), tk_up_n (by omega)]
      · rw [m_inn_o (by omega) (by omega)]; unfold m_t0; rw [tk_up_n (by omega), tk_up_n (by omega), tk_up_n (by omega)]
theorem m_tr_29 {M : tk_M} {t j : Nat} : m_tr M t 29 j = if j = t ∧ ¬ m_loc M t = 0 then (m_a M t : Int) else M 29 j := by
  unfold m_tr
  by_cases hl : m_loc M t = 0
  · rw [if_pos hl, if_neg (by omega), tk_up_n (by omega)]
  · rw [if_neg hl]
    have e : m_inn (m_t0 M t) t (m_a M t) (m_z M t + 1 - m_a M t) 29 j = if j = t ∧ ¬ m_loc M t = 0 then (m_a M t : Int) else M 29 j := by
      rw [m_inn_o (by omega) (by omega)]
      unfold m_t0
      by_cases e : j = t
      · subst e
        rw [if_pos ⟨rfl, hl⟩, tk_up_n (by omega), tk_up_s]
      · rw [if_neg (by omega), tk_up_n (by omega), tk_up_n (by omega), tk_up_n (by omega)]
    split
    · rw [tk_up_c _ _ _ _ (by omega)]; exact e
    · exact e
theorem m_tr_30 {M : tk_M} {t j : Nat} : m_tr M t 30 j = if j = t ∧ ¬ m_loc M t = 0 then (m_z M t : Int) else M 30 j := by
  unfold m_tr
  by_cases hl : m_loc M t = 0
  · rw [if_pos hl, if_neg (by omega), tk_up_n (by omega)]
  · rw [if_neg hl]
    have e : m_inn (m_t0 M t) t (m_a M t) (m_z M t + 1 - m_a M t) 30 j = if j = t ∧ ¬ m_loc M t = 0 then (m_z M t : Int) else M 30 j := by
      rw [m_inn_o (by omega) (by omega)]
      unfold m_t0
      by_cases e : j = t
      · subst e
        rw [if_pos ⟨rfl, hl⟩, tk_up_s]
      · rw [if_neg (by omega), tk_up_n (by omega), tk_up_n (by omega), tk_up_n (by omega)]
    split
    · rw [tk_up_c _ _ _ _ (by omega)]; exact e
    · exact e
theorem q_fn.eq {M N : tk_M} (h : q_fn M) (e : ∀ c j, c ≠ 14 ∧ c ≠ 27 ∧ (c < 28 ∨ 30 < c) → N c j = M c j) : q_fn N := by
  obtain ⟨q1, q2, q3, q4, q5, q6, q7⟩ := h
  refine ⟨by rw [e _ _ (by omega)]; exact q1, by rw [e _ _ (by omega)]; exact q2, by rw [e _ _ (by omega)]; exact q3, by rw [e _ _ (by omega)]; exact q4, fun k hk => ?_, by rw [e _ _ (by omega)]; exact q6, fun t ht => ?_⟩
  · rw [e _ _ (by omega)] at hk
    rw [e _ _ (by omega)]
    exact q5 k hk
  · rw [e _ _ (by omega), e _ _ (by omega)]
    exact q7 t ht
theorem m_z_lt {M : tk_M} (h : q_fn M) (pl : Int) : (m_at M pl 32 0 : Int) < M 7 2 := by
  have := m_at_in M pl 32 0
  have := h.1
  omega
theorem lp_Mo_find_t (l : Launch) (M : tk_M) (hq : q_fn M) (t : Nat) (ht : t < 8) (P : (Option Int ⊕ Nat) → tk_M → Prop)
    (hP : ∀ o : Option tk_U, tk_At l "TrackKeeperModel" prog_8_method_14_code 3 none 3 46 P 72 [some (.inr 7), some (.inl ((t + 1 : Nat) : Int)), o] [] (m_tr M t)) (o : Option tk_U) :
    tk_At l "TrackKeeperModel" prog_8_method_14_code 3 none 3 46 P 72 [some (.inr 7), some (.inl (t : Int)), o] [] M := by
  have hq' := id hq
  obtain ⟨q1, q2, q3, q4, q5, q6⟩ := hq'
  have k241 : ∀ (o : Option tk_U) (N : tk_M), m_tr M t = N → tk_At l "TrackKeeperModel" prog_8_method_14_code 3 none 3 46 P 241 [some (.inr 7), some (.inl (t : Int)), o] [] N := fun o N hN => by
    have hP := hP o
    rw [hN] at hP
    refine tk_goA fo_Mo co_Mo tg_Mo_find 40 [72] ?_
    repeat' first | refine And.intro ?_ ?_ | intro _
    all_goals first | omega | skip
    exact ⟨(), hP⟩
  refine tk_goA fo_Mo co_Mo tg_Mo_find 40 [] ?_
  repeat' first | refine And.intro ?_ ?_ | intro _
  all_goals try simp only [tk_c] at *
  all_goals first | omega | skip
  refine ⟨(), tk_aV (k := 6) (k_Mo_isLocated l M t ht q6) wc_Mo_isLocated lk_Mo_134 wi_Mo_isLocated wsl_Mo_isLocated tg_Mo_find rfl rfl (by decide) rfl rfl rfl (by decide) (Nat.le_of_ble_eq_true rfl) ?_ (fun x M' h => by cases h.1)⟩
  rintro v' M' ⟨h1, rfl⟩ hro
  cases h1
  have h01 := m_loc01 M' t
  have et : m_tr M' t = if m_loc M' t = 0 then tk_up M' 28 t (m_loc M' t)
    else if (m_z M' t : Int) + 1 < M' 7 2 ∧ ¬ M' 8 (m_z M' t + 1) = M' 8 (m_z M' t) then tk_up (m_inn (m_t0 M' t) t (m_a M' t) (m_z M' t + 1 - m_a M' t)) 27 (M' 8 (m_z M' t + 1)).toNat 1
    else m_inn (m_t0 M' t) t (m_a M' t) (m_z M' t + 1 - m_a M' t) := rfl
  have e0 : m_t0 M' t = tk_up (tk_up (tk_up M' 28 t (m_loc M' t)) 29 t (m_a M' t)) 30 t (m_z M' t) := rfl
  have ea : m_a M' t = m_at M' (M' 23 t) 32 0 := rfl
  have ez : m_z M' t = m_at M' (M' 22 t) 32 0 := rfl
  have hz := m_z_lt hq (M' 22 t)
  rw [← ez] at hz
  have hz2 := q5 (m_z M' t) hz
  have hz3 := fun h => q5 (m_z M' t + 1) h
  have ha := m_z_lt hq (M' 23 t)
  rw [← ea] at ha
  have hin : q_fn (m_t0 M' t) := hq.eq (fun c j h => m_t0_o (by omega) (by omega) (by omega))
  have h30 : m_t0 M' t 30 t = (m_z M' t : Int) := by unfold m_t0; rw [tk_up_s]
  have h72 : m_t0 M' t 7 2 = M' 7 2 := m_t0_o (by decide) (by decide) (by decide)
  have hin2 := lp_Mo_find3 l (m_t0 M' t) hin t ht (m_a M' t) (m_z M' t) (by rw [h72]; exact hz) h30 P
  have i30 : m_inn (m_t0 M' t) t (m_a M' t) (m_z M' t + 1 - m_a M' t) 30 t = (m_z M' t : Int) := by rw [m_inn_o (by decide) (by decide), h30]
  have i72 : m_inn (m_t0 M' t) t (m_a M' t) (m_z M' t + 1 - m_a M' t) 7 2 = M' 7 2 := by rw [m_inn_o (by decide) (by decide), h72]
  have i8 : ∀ j, m_inn (m_t0 M' t) t (m_a M' t) (m_z M' t + 1 - m_a M' t) 8 j = M' 8 j := fun j => by rw [m_inn_o (by decide) (by decide), m_t0_o (by decide) (by decide) (by decide)]
  have k180 : ¬ m_loc M' t = 0 → ∀ k : Int, tk_At l "TrackKeeperModel" prog_8_method_14_code 3 none 3 46 P 180 [some (.inr 7), some (.inl (t : Int)), some (.inl k)] [] (m_inn (m_t0 M' t) t (m_a M' t) (m_z M' t + 1 - m_a M' t)) := fun hl k => by
    rw [if_neg hl] at et
    clear hin2
    generalize m_inn (m_t0 M' t) t (m_a M' t) (m_z M' t + 1 - m_a M' t) = N at *
    generalize hzz : m_z M' t = z at *
    have ez1 : ((z : Int) + 1).toNat = z + 1 := by omega
    have hz3 := fun h : (z : Int) + 1 < M' 7 2 => hz3 (by omega)
    refine tk_goA fo_Mo co_Mo tg_Mo_find 40 [241] ?_
    repeat' first | refine And.intro ?_ ?_ | intro _
    all_goals first | exact Or.inr rfl | skip
    all_goals try simp only [tk_c, Int.toNat_natCast, i30, i72, i8, ez1] at *
    all_goals first | omega | skip
    · rw [if_neg (by omega)] at et
      exact ⟨(), k241 _ _ et⟩
    · rw [if_neg (by omega)] at et
      exact ⟨(), k241 _ _ et⟩
    · rw [if_pos (by omega)] at et
      exact ⟨(), k241 _ _ et⟩
  by_cases hl : m_loc M' t = 0
  · rw [if_pos hl, hl] at et
    rw [hl]
    clear hin2 k180
    refine tk_goA fo_Mo co_Mo tg_Mo_find 40 [241] ?_
    repeat' first | refine And.intro ?_ ?_ | intro _
    all_goals first | exact Or.inl rfl | skip
    all_goals try simp only [tk_c, Int.toNat_natCast, tk_up_s] at *
    all_goals first | omega | exact absurd trivial (by assumption) | skip
    exact ⟨(), k241 _ _ et⟩
  · have h1 : m_loc M' t = 1 := by omega
    have hin2 := hin2 (k180 hl) (m_z M' t + 1 - m_a M' t) 0 (by omega)
    have e00 : m_inn (m_t0 M' t) t (m_a M' t) 0 = m_t0 M' t := rfl
    rw [e00, e0, Nat.add_zero] at hin2
    rw [h1] at hin2 ⊢
    have ka := k_Mo_subOf l (tk_up M' 28 t 1) (M' 23 t) (by rw [tk_up_n (by omega)]; exact q2)
    rw [m_at_eq (N := tk_up M' 28 t 1) (M := M') (tk_up_n (by omega)) (fun k => tk_up_n (by omega)), ← ea] at ka
    have kz := k_Mo_subOf l (tk_up (tk_up M' 28 t 1) 29 t (m_a M' t)) (M' 22 t) (by rw [tk_up_n (by omega), tk_up_n (by omega)]; exact q2)
    rw [m_at_eq (N := tk_up (tk_up M' 28 t 1) 29 t (m_a M' t)) (M := M') (by rw [tk_up_n (by omega), tk_up_n (by omega)]) (fun k => by rw [tk_up_n (by omega), tk_up_n (by omega)]), ← ez] at kz
    clear k180 k241 i30 i72 i8 h30 h72 hin et e0 hz3 hz2
    have u23 : tk_up M' 28 t 1 23 t = M' 23 t := tk_up_n (by omega)
    have u22 : ∀ x : Int, tk_up (tk_up M' 28 t 1) 29 t x 22 t = M' 22 t := fun x => by rw [tk_up_n (by omega), tk_up_n (by omega)]
    have u29 : ∀ x y : Int, tk_up (tk_up (tk_up M' 28 t 1) 29 t x) 30 t y 29 t = x := fun x y => by rw [tk_up_n (by omega), tk_up_s]
    generalize m_a M' t = a at *
    generalize m_z M' t = z at *
    refine tk_goA fo_Mo co_Mo tg_Mo_find 40 [241] ?_
    repeat' first | refine And.intro ?_ ?_ | intro _
    all_goals first | exact Or.inr rfl | skip
    all_goals try simp only [tk_c, Int.toNat_natCast, tk_up_s, u23] at *
    all_goals first | omega | exact absurd trivial (by assumption) | skip
    refine ⟨(), tk_aV (k := 6) ka wc_Mo_subOf lk_Mo_138 wi_Mo_subOf wsl_Mo_subOf tg_Mo_find rfl rfl (by decide) rfl rfl rfl (by decide) (Nat.le_of_ble_eq_true rfl) ?_ (fun x M' h => by cases h.1)⟩
    rintro v' N' ⟨g1, rfl⟩ hro
    cases g1
    refine tk_goA fo_Mo co_Mo tg_Mo_find 40 [241] ?_
    repeat' first | refine And.intro ?_ ?_ | intro _
    all_goals try simp only [tk_c, Int.toNat_natCast, u22] at *
    all_goals first | omega | skip
    refine ⟨(), tk_aV (k := 6) kz wc_Mo_subOf lk_Mo_138 wi_Mo_subOf wsl_Mo_subOf tg_Mo_find rfl rfl (by decide) rfl rfl rfl (by decide) (Nat.le_of_ble_eq_true rfl) ?_ (fun x M' h => by cases h.1)⟩
    rintro v' N' ⟨g1, rfl⟩ hro
    cases g1
    refine tk_goA fo_Mo co_Mo tg_Mo_find 40 [140] ?_
    repeat' first | refine And.intro ?_ ?_ | intro _
    all_goals try simp only [tk_c, Int.toNat_natCast, u29] at *
    all_goals first | omega | skip
    exact ⟨(), hin2⟩
def m_trs (M : tk_M) : Nat → tk_M
  | 0 => M
  | n + 1 => m_tr (m_trs M n) n
theorem m_trs_o {M : tk_M} {c j : Nat} (h : c ≠ 14 ∧ c ≠ 27 ∧ (c < 28 ∨ 30 < c)) : ∀ n : Nat, m_trs M n c j = M c j
  | 0 => rfl
  | n + 1 => by
    show m_tr (m_trs M n) n c j = M c j
    rw [m_tr_o h, m_trs_o h n]
theorem m_loc_eq {M N : tk_M} {t : Nat} (e : ∀ c j, c ≠ 14 ∧ c ≠ 27 ∧ (c < 28 ∨ 30 < c) → N c j = M c j) : m_loc N t = m_loc M t := by
  unfold m_loc
  rw [e _ _ (by omega), e _ _ (by omega), e _ _ (by omega), e _ _ (by omega), e _ _ (by omega)]
theorem m_who_eq {M N : tk_M} {t : Nat} (e : ∀ c j, c ≠ 14 ∧ c ≠ 27 ∧ (c < 28 ∨ 30 < c) → N c j = M c j) : m_who N t = m_who M t := by
  unfold m_who
  rw [m_loc_eq e, e _ _ (by omega), e _ _ (by omega), e _ _ (by omega), e _ _ (by omega)]
theorem m_a_eq {M N : tk_M} {t : Nat} (e : ∀ c j, c ≠ 14 ∧ c ≠ 27 ∧ (c < 28 ∨ 30 < c) → N c j = M c j) : m_a N t = m_a M t := by
  unfold m_a
  rw [e _ _ (by omega), m_at_eq (e _ _ (by omega)) (fun k => e _ _ (by omega))]
theorem m_z_eq {M N : tk_M} {t : Nat} (e : ∀ c j, c ≠ 14 ∧ c ≠ 27 ∧ (c < 28 ∨ 30 < c) → N c j = M c j) : m_z N t = m_z M t := by
  unfold m_z
  rw [e _ _ (by omega), m_at_eq (e _ _ (by omega)) (fun k => e _ _ (by omega))]
theorem m_trs_at {M : tk_M} : ∀ n : Nat, ∀ t : Nat, t < n → m_trs M n 28 t = m_loc M t ∧ (¬ m_loc M t = 0 → m_trs M n 29 t = (m_a M t : Int) ∧ m_trs M n 30 t = (m_z M t : Int))
  | 0, t, h => absurd h (Nat.not_lt_zero _)
  | n + 1, t, h => by
    have e : ∀ c j, c ≠ 14 ∧ c ≠ 27 ∧ (c < 28 ∨ 30 < c) → m_trs M n c j = M c j := fun c j h => m_trs_o h n
    show m_tr (m_trs M n) n 28 t = _ ∧ (_ → m_tr (m_trs M n) n 29 t = _ ∧ m_tr (m_trs M n) n 30 t = _)
    rw [m_tr_28, m_tr_29, m_tr_30, m_loc_eq e, m_a_eq e, m_z_eq e]
    by_cases et : t = n
    · subst et
      refine ⟨if_pos rfl, fun hl => ⟨?_, ?_⟩⟩
      · rw [if_pos ⟨rfl, hl⟩]
      · rw [if_pos ⟨rfl, hl⟩]
    · have ih := m_trs_at (M := M) n t (by omega)
      refine ⟨by rw [if_neg et]; exact ih.1, fun hl => ⟨?_, ?_⟩⟩
      · rw [if_neg (fun z => et z.1)]; exact (ih.2 hl).1
      · rw [if_neg (fun z => et z.1)]; exact (ih.2 hl).2
theorem lp_Mo_find_ts (l : Launch) (M : tk_M) (hq : q_fn M) (P : (Option Int ⊕ Nat) → tk_M → Prop)
    (hP : ∀ o : Option tk_U, tk_At l "TrackKeeperModel" prog_8_method_14_code 3 none 3 46 P 247 [some (.inr 7), some (.inl 8), o] [] (m_trs M 8)) : ∀ n i : Nat, i + n = 8 → ∀ (o : Option tk_U),
    tk_At l "TrackKeeperModel" prog_8_method_14_code 3 none 3 46 P 72 [some (.inr 7), some (.inl (i : Int)), o] [] (m_trs M i) := by
  intro n
  induction n with
  | zero =>
    intro i hi o
    have e : i = 8 := by omega
    subst e
    have hP := hP o
    generalize m_trs M 8 = N at *
    refine tk_goA fo_Mo co_Mo tg_Mo_find 40 [247] ?_
    repeat' first | refine And.intro ?_ ?_ | intro _
    all_goals try simp only [tk_c] at *
    all_goals first | omega | skip
    exact ⟨(), hP⟩
  | succ n ih =>
    intro i hi o
    refine lp_Mo_find_t l (m_trs M i) (hq.eq (fun c j h => m_trs_o h i)) i (by omega) P (fun o => ?_) o
    exact ih (i + 1) (by omega) o
/-- what was, kept; nothing covered -/
def m_f1 (M : tk_M) (n : Nat) : tk_M := fun c k => if k < n then (if c = 13 then M 12 k else if c = 15 then M 14 k else if c = 14 then 0 else M c k) else M c k
def m_f2 (M : tk_M) (n : Nat) : tk_M := fun c k => if c = 27 ∧ k < n then 0 else M c k
theorem m_f1_s (M : tk_M) (n : Nat) : tk_up (tk_up (tk_up (m_f1 M n) 13 n (m_f1 M n 12 n)) 15 n (tk_up (m_f1 M n) 13 n (m_f1 M n 12 n) 14 n)) 14 n 0 = m_f1 M (n + 1) := by
  have e1 : m_f1 M n 12 n = M 12 n := by unfold m_f1; rw [if_neg (by omega)]
  have e2 : m_f1 M n 14 n = M 14 n := by unfold m_f1; rw [if_neg (by omega)]
  rw [tk_up_n (by omega), e1, e2]
  funext c k
  by_cases h : k = n
  · subst h
    unfold tk_up m_f1
    (repeat' split) <;> first | rfl | omega | simp_all
  · rw [tk_up_n (by omega), tk_up_n (by omega), tk_up_n (by omega)]
    unfold m_f1
    by_cases h2 : k < n
    · rw [if_pos h2, if_pos (show k < n + 1 by omega)]
    · rw [if_neg h2, if_neg (show ¬ k < n + 1 by omega)]
theorem m_f2_s (M : tk_M) (n : Nat) : tk_up (m_f2 M n) 27 n 0 = m_f2 M (n + 1) := by
  funext c k
  unfold tk_up m_f2
  (repeat' split) <;> first | rfl | omega
theorem m_f1_0 (M : tk_M) : m_f1 M 0 = M := by funext c k; unfold m_f1; rw [if_neg (by omega)]
theorem m_f2_0 (M : tk_M) : m_f2 M 0 = M := by funext c k; unfold m_f2; rw [if_neg (by omega)]
theorem m_f1_o {M : tk_M} {n c k : Nat} (h : c ≠ 13 ∧ c ≠ 14 ∧ c ≠ 15) : m_f1 M n c k = M c k := by
  unfold m_f1
  (repeat' split) <;> first | rfl | omega
theorem m_f2_o {M : tk_M} {n c k : Nat} (h : c ≠ 27) : m_f2 M n c k = M c k := by
  unfold m_f2
  rw [if_neg (by omega)]
theorem lp_Mo_find1 (l : Launch) (M : tk_M) (h0 : 0 ≤ M 7 2) (h1 : M 7 2 ≤ 32) (P : (Option Int ⊕ Nat) → tk_M → Prop) (hP : tk_At l "TrackKeeperModel" prog_8_method_14_code 3 none 3 46 P 47 [some (.inr 7), some (.inl (M 7 2)), none] [] (m_f1 M (M 7 2).toNat)) : ∀ n i : Nat, i + n = (M 7 2).toNat →
    tk_At l "TrackKeeperModel" prog_8_method_14_code 3 none 3 46 P 2 [some (.inr 7), some (.inl (i : Int)), none] [] (m_f1 M i) := by
  intro n
  induction n with
  | zero =>
    intro i hi
    have e : i = (M 7 2).toNat := by omega
    have e2 : (i : Int) = M 7 2 := by omega
    have e7 : m_f1 M i 7 2 = M 7 2 := m_f1_o (by decide)
    rw [← e, ← e2] at hP
    generalize m_f1 M i = N at *
    refine tk_goA fo_Mo co_Mo tg_Mo_find 40 [2, 47] ?_
    repeat' first | refine And.intro ?_ ?_ | intro _
    all_goals try simp only [tk_c] at *
    all_goals first | omega | skip
    exact ⟨(), hP⟩
  | succ n ih =>
    intro i hi
    have h9 := ih (i + 1) (by omega)
    rw [← m_f1_s M i] at h9
    have e7 : m_f1 M i 7 2 = M 7 2 := m_f1_o (by decide)
    clear hP
    generalize m_f1 M i = N at *
    refine tk_goA fo_Mo co_Mo tg_Mo_find 40 [2, 47] ?_
    repeat' first | refine And.intro ?_ ?_ | intro _
    all_goals try simp only [tk_c, Int.toNat_natCast] at *
    all_goals first | omega | skip
    exact ⟨(), h9⟩
theorem lp_Mo_find2 (l : Launch) (M : tk_M) (h0 : 0 ≤ M 7 1) (h1 : M 7 1 ≤ 10) (P : (Option Int ⊕ Nat) → tk_M → Prop) (hP : tk_At l "TrackKeeperModel" prog_8_method_14_code 3 none 3 46 P 70 [some (.inr 7), some (.inl (M 7 1)), none] [] (m_f2 M (M 7 1).toNat)) : ∀ n i : Nat, i + n = (M 7 1).toNat →
    tk_At l "TrackKeeperModel" prog_8_method_14_code 3 none 3 46 P 49 [some (.inr 7), some (.inl (i : Int)), none] [] (m_f2 M i) := by
  intro n
  induction n with
  | zero =>
    intro i hi
    have e : i = (M 7 1).toNat := by omega
    have e2 : (i : Int) = M 7 1 := by omega
    have e7 : m_f2 M i 7 1 = M 7 1 := m_f2_o (by decide)
    rw [← e, ← e2] at hP
    generalize m_f2 M i = N at *
    refine tk_goA fo_Mo co_Mo tg_Mo_find 40 [49, 70] ?_
    repeat' first | refine And.intro ?_ ?_ | intro _
    all_goals try simp only [tk_c] at *
    all_goals first | omega | skip
    exact ⟨(), hP⟩
  | succ n ih =>
    intro i hi
    have h9 := ih (i + 1) (by omega)
    rw [← m_f2_s M i] at h9
    have e7 : m_f2 M i 7 1 = M 7 1 := m_f2_o (by decide)
    clear hP
    generalize m_f2 M i = N at *
    refine tk_goA fo_Mo co_Mo tg_Mo_find 40 [49, 70] ?_
    repeat' first | refine And.intro ?_ ?_ | intro _
    all_goals first | exact Or.inl rfl | skip
    all_goals try simp only [tk_c, Int.toNat_natCast] at *
    all_goals first | omega | skip
    exact ⟨(), h9⟩
/-- the states of the first n subsections found anew -/
def m_st (N : tk_M) (n : Nat) : tk_M := fun c k => if c = 12 ∧ k < n then m_fd N k else N c k
theorem m_st_o {N : tk_M} {n c k : Nat} (h : c ≠ 12) : m_st N n c k = N c k := by
  unfold m_st
  rw [if_neg (by omega)]
theorem m_st_0 (N : tk_M) : m_st N 0 = N := by funext c k; unfold m_st; rw [if_neg (by omega)]
theorem m_who_12 {M N : tk_M} {t : Nat} (e : ∀ c j, c ≠ 12 → N c j = M c j) : m_who N t = m_who M t := by
  unfold m_who m_loc
  rw [e _ _ (by omega), e _ _ (by omega), e _ _ (by omega), e _ _ (by omega), e _ _ (by omega), e _ _ (by omega), e _ _ (by omega), e _ _ (by omega)]
theorem m_fd_st (N : tk_M) (n k : Nat) : m_fd (m_st N n) k = m_fd N k := by
  have e : ∀ c j, c ≠ 12 → m_st N n c j = N c j := fun c j h => m_st_o h
  have e8 : ∀ j, m_st N n 8 j = N 8 j := fun j => e _ _ (by decide)
  have e10 : ∀ j, m_st N n 10 j = N 10 j := fun j => e _ _ (by decide)
  have e13 : ∀ j, m_st N n 13 j = N 13 j := fun j => e _ _ (by decide)
  have e14 : ∀ j, m_st N n 14 j = N 14 j := fun j => e _ _ (by decide)
  have e15 : ∀ j, m_st N n 15 j = N 15 j := fun j => e _ _ (by decide)
  have e16 : ∀ j, m_st N n 16 j = N 16 j := fun j => e _ _ (by decide)
  have e17 : ∀ j, m_st N n 17 j = N 17 j := fun j => e _ _ (by decide)
  have e27 : ∀ j, m_st N n 27 j = N 27 j := fun j => e _ _ (by decide)
  have e29 : ∀ j, m_st N n 29 j = N 29 j := fun j => e _ _ (by decide)
  have ew : ∀ t, m_who (m_st N n) t = m_who N t := fun t => m_who_12 e
  unfold m_fd
  simp only [e8, e10, e13, e14, e15, e16, e17, e27, e29, ew]
theorem q_fd_st {N : tk_M} {n k : Nat} (h : q_fd N k) : q_fd (m_st N n) k := by
  have e : ∀ c j, c ≠ 12 → m_st N n c j = N c j := fun c j h => m_st_o h
  unfold q_fd at h ⊢
  rw [e 8 k (by decide), e 14 k (by decide), e 15 k (by decide), e 29 _ (by decide), e 8 _ (by decide), e 8 _ (by decide), e 10 _ (by decide)]
  exact h
theorem m_st_s (N : tk_M) (n : Nat) : tk_up (m_st N n) 12 n (m_fd (m_st N n) n) = m_st N (n + 1) := by
  rw [m_fd_st]
  funext c k
  unfold tk_up m_st
  (repeat' split) <;> first | rfl | omega | skip
  rename_i h _
  rw [h.2]
theorem lp_Mo_find4 (l : Launch) (M : tk_M) (h0 : 0 ≤ M 7 2) (h1 : M 7 2 ≤ 32) (hq : ∀ k : Nat, (k : Int) < M 7 2 → q_fd M k) (ht : q_tm M) (o : Option tk_U) (P : (Option Int ⊕ Nat) → tk_M → Prop) (hP : tk_At l "TrackKeeperModel" prog_8_method_14_code 3 none 3 46 P 274 [some (.inr 7), some (.inl (M 7 2)), o] [] (m_st M (M 7 2).toNat)) : ∀ n i : Nat, i + n = (M 7 2).toNat →
    tk_At l "TrackKeeperModel" prog_8_method_14_code 3 none 3 46 P 249 [some (.inr 7), some (.inl (i : Int)), o] [] (m_st M i) := by
  intro n
  induction n with
  | zero =>
    intro i hi
    have e : i = (M 7 2).toNat := by omega
    have e2 : (i : Int) = M 7 2 := by omega
    have e7 : m_st M i 7 2 = M 7 2 := m_st_o (by decide)
    rw [← e, ← e2] at hP
    generalize m_st M i = N at *
    refine tk_goA fo_Mo co_Mo tg_Mo_find 40 [249, 274] ?_
    repeat' first | refine And.intro ?_ ?_ | intro _
    all_goals try simp only [tk_c] at *
    all_goals first | omega | skip
    exact ⟨(), hP⟩
  | succ n ih =>
    intro i hi
    have h9 := ih (i + 1) (by omega)
    rw [← m_st_s M i] at h9
    have e7 : m_st M i 7 2 = M 7 2 := m_st_o (by decide)
    have con := k_Mo_found l (m_st M i) i (by omega) (q_fd_st (hq i (by omega))) ⟨by rw [m_st_o (by decide)]; exact ht.1, fun t h => by rw [m_st_o (by decide), m_st_o (by decide)]; exact ht.2 t h⟩
    clear hP
    generalize m_st M i = N at *
    refine tk_goA fo_Mo co_Mo tg_Mo_find 40 [249, 274] ?_
    repeat' first | refine And.intro ?_ ?_ | intro _
    all_goals try simp only [tk_c, Int.toNat_natCast] at *
    all_goals first | omega | skip
    refine ⟨(), tk_aV (k := 6) con wc_Mo_found lk_Mo_142 wi_Mo_found wsl_Mo_found tg_Mo_find rfl rfl (by decide) rfl rfl rfl (by decide) (Nat.le_of_ble_eq_true rfl) ?_ (fun x M' h => by cases h.1)⟩
    rintro v' N' ⟨g1, rfl⟩ hro
    cases g1
    generalize m_fd N' i = y at *
    refine tk_goA fo_Mo co_Mo tg_Mo_find 40 [249, 274] ?_
    repeat' first | refine And.intro ?_ ?_ | intro _
    all_goals try simp only [tk_c, Int.toNat_natCast] at *
    all_goals first | omega | skip
    exact ⟨(), h9⟩
end
section
/-! THE REFERENCE: finding, settling, a tick -/
theorem m_au_o {M : tk_M} {t c j : Nat} (h1 : ¬ (c = 26 ∧ j = t)) (h2 : ¬ (c = 7 ∧ (j = 7 ∨ j = 8))) : m_au M t c j = M c j := by
  unfold m_au
  split
  · rfl
  · split
    · rw [tk_up_n (by omega), tk_up_n (by omega)]
    · split
      · split
        · rw [tk_up_n (by omega), tk_up_n (by omega), tk_up_n (by omega)]
        · rw [tk_up_n (by omega), tk_up_n (by omega)]
      · split
        · rw [tk_up_n (by omega)]
        · rfl
theorem m_au_7 {M : tk_M} {t : Nat} (k : Nat) : M 7 k ≤ m_au M t 7 k ∧ m_au M t 7 k ≤ M 7 k + 1 := by
  unfold m_au
  split
  · omega
  · split
    · by_cases e : k = 8
      · subst e; rw [tk_up_s]; omega
      · rw [tk_up_n (by omega), tk_up_n (by omega)]; omega
    · split
      · split
        · rw [tk_up_n (by omega)]
          by_cases e : k = 7
          · subst e; rw [tk_up_s]; omega
          · rw [tk_up_n (by omega), tk_up_n (by omega)]; omega
        · by_cases e : k = 7
          · subst e; rw [tk_up_s]; omega
          · rw [tk_up_n (by omega), tk_up_n (by omega)]; omega
      · split
        · rw [tk_up_n (by omega)]; omega
        · omega
def m_aus (M : tk_M) : Nat → tk_M
  | 0 => M
  | n + 1 => m_au (m_aus M n) n
theorem m_aus_o {M : tk_M} {c j : Nat} (h2 : ¬ (c = 7 ∧ (j = 7 ∨ j = 8))) : ∀ n : Nat, ¬ (c = 26 ∧ j < n) → m_aus M n c j = M c j
  | 0, _ => rfl
  | n + 1, h1 => by
    show m_au (m_aus M n) n c j = _
    rw [m_au_o (by omega) h2]
    exact m_aus_o h2 n (by omega)
theorem m_aus_7 (M : tk_M) (k : Nat) : ∀ n : Nat, M 7 k ≤ m_aus M n 7 k ∧ m_aus M n 7 k ≤ M 7 k + n
  | 0 => ⟨Int.le_refl _, by show M 7 k ≤ _; omega⟩
  | n + 1 => by
    have ih := m_aus_7 M k n
    have h := m_au_7 (M := m_aus M n) (t := n) k
    show M 7 k ≤ m_au (m_aus M n) n 7 k ∧ m_au (m_aus M n) n 7 k ≤ _
    omega
def q_au (M : tk_M) : Prop := (∀ t : Nat, t < 8 → (¬ M 28 t = 0 → 0 ≤ M 30 t ∧ M 30 t < 32) ∧ M 26 t < 32) ∧ M 7 7 < 2147483600 ∧ M 7 8 < 2147483600
theorem lp_Mo_find5 (l : Launch) (M : tk_M) (hq : q_au M) (o : Option tk_U) : ∀ n i : Nat, i + n = 8 →
    tk_At l "TrackKeeperModel" prog_8_method_14_code 3 none 3 46 (fun r M' => r = .inl none ∧ M' = m_aus M 8) 276 [some (.inr 7), some (.inl (i : Int)), o] [] (m_aus M i) := by
  intro n
  induction n with
  | zero =>
    intro i hi
    have e : i = 8 := by omega
    subst e
    refine tk_goA fo_Mo co_Mo tg_Mo_find 40 [276] ?_
    repeat' first | refine And.intro ?_ ?_ | intro _
    all_goals first | rfl | skip
    all_goals try simp only [tk_c] at *
    all_goals first | omega | skip
  | succ n ih =>
    intro i hi
    have h9 := ih (i + 1) (by omega)
    have e9 : m_aus M (i + 1) = m_au (m_aus M i) i := rfl
    have c0 := m_aus_7 M 7 i
    have c1 := m_aus_7 M 8 i
    have hqi := hq.1 i (by omega)
    have con := k_Mo_authority l (m_aus M i) i (by omega) (by rw [m_aus_o (by omega) i (by omega), m_aus_o (by omega) i (by omega)]; exact hqi.1) (by rw [m_aus_o (by omega) i (by omega)]; exact hqi.2) (by have := hq.2.1; omega) (by have := hq.2.2; omega)
    rw [e9] at h9
    generalize m_aus M i = N at *
    refine tk_goA fo_Mo co_Mo tg_Mo_find 40 [276] ?_
    repeat' first | refine And.intro ?_ ?_ | intro _
    all_goals try simp only [tk_c, Int.toNat_natCast] at *
    all_goals first | omega | skip
    refine ⟨(), tk_aV (k := 6) con wc_Mo_authority lk_Mo_145 wi_Mo_authority wsl_Mo_authority tg_Mo_find rfl rfl (by decide) rfl rfl rfl (by decide) (Nat.le_of_ble_eq_true rfl) ?_ (fun x M' h => by cases h.1)⟩
    rintro v' N' ⟨g1, rfl⟩ hro
    cases g1
    refine tk_goA fo_Mo co_Mo tg_Mo_find 40 [276] ?_
    repeat' first | refine And.intro ?_ ?_ | intro _
    all_goals first | omega | skip
    exact ⟨(), h9⟩
/-- the reference's memory when its trains are marked -/
def m_mk (M : tk_M) : tk_M := m_trs (m_f2 (m_f1 M (M 7 2).toNat) (M 7 1).toNat) 8
def m_find (M : tk_M) : tk_M := m_aus (m_st (m_mk M) (M 7 2).toNat) 8
def q_m (c : Nat) : Prop := c ≠ 13 ∧ c ≠ 14 ∧ c ≠ 15 ∧ c ≠ 27 ∧ (c < 28 ∨ 30 < c)
theorem m_mk_o {M : tk_M} {c j : Nat} (h : q_m c) : m_mk M c j = M c j := by
  unfold q_m at h
  unfold m_mk
  rw [m_trs_o (by omega), m_f2_o (by omega), m_f1_o (by omega)]
theorem m_f_loc {M N : tk_M} {t : Nat} (e : ∀ c j, q_m c → N c j = M c j) : m_loc N t = m_loc M t := by
  unfold m_loc
  rw [e _ _ (by unfold q_m; omega), e _ _ (by unfold q_m; omega), e _ _ (by unfold q_m; omega), e _ _ (by unfold q_m; omega), e _ _ (by unfold q_m; omega)]
theorem m_f_who {M N : tk_M} {t : Nat} (e : ∀ c j, q_m c → N c j = M c j) : m_who N t = m_who M t := by
  unfold m_who
  rw [m_f_loc e, e _ _ (by unfold q_m; omega), e _ _ (by unfold q_m; omega), e _ _ (by unfold q_m; omega), e _ _ (by unfold q_m; omega)]
theorem m_f_a {M N : tk_M} {t : Nat} (e : ∀ c j, q_m c → N c j = M c j) : m_a N t = m_a M t := by
  unfold m_a
  rw [e _ _ (by unfold q_m; omega), m_at_eq (e _ _ (by unfold q_m; omega)) (fun k => e _ _ (by unfold q_m; omega))]
theorem m_f_z {M N : tk_M} {t : Nat} (e : ∀ c j, q_m c → N c j = M c j) : m_z N t = m_z M t := by
  unfold m_z
  rw [e _ _ (by unfold q_m; omega), m_at_eq (e _ _ (by unfold q_m; omega)) (fun k => e _ _ (by unfold q_m; omega))]
theorem m_mk_at {M : tk_M} {t : Nat} (ht : t < 8) : m_mk M 28 t = m_loc M t ∧ (¬ m_loc M t = 0 → m_mk M 29 t = (m_a M t : Int) ∧ m_mk M 30 t = (m_z M t : Int)) := by
  have h := m_trs_at (M := m_f2 (m_f1 M (M 7 2).toNat) (M 7 1).toNat) 8 t ht
  have e : ∀ c j, q_m c → m_f2 (m_f1 M (M 7 2).toNat) (M 7 1).toNat c j = M c j := fun c j h => by
    unfold q_m at h
    rw [m_f2_o (by omega), m_f1_o (by omega)]
  rw [m_f_loc e, m_f_a e, m_f_z e] at h
  exact h
/-- what finding asks of the reference -/
def q_fi (M : tk_M) : Prop := q_fn M ∧ (∀ k : Nat, (k : Int) < M 7 2 → q_fd (m_mk M) k) ∧ (∀ t : Nat, t < 8 → M 26 t < 32) ∧ M 7 7 < 2147483600 ∧ M 7 8 < 2147483600
theorem k_Mo_find (l : Launch) (M : tk_M) (hq : q_fi M) : tk_C l y_Mo_find 3 46 [.inr 7] M (fun r M' => r = .inl none ∧ M' = m_find M) := by
  refine tk_C.of wc_Mo_find rfl (Nat.le_of_ble_eq_true rfl) fun hr hM => ?_
  obtain ⟨q1, q2, q3, q4, q5⟩ := hq
  have q1' := id q1
  obtain ⟨f1, f2, f3, f4, f5, f6⟩ := q1'
  have e : ∀ c j, q_m c → m_f2 (m_f1 M (M 7 2).toNat) (M 7 1).toNat c j = M c j := fun c j h => by
    unfold q_m at h
    rw [m_f2_o (by omega), m_f1_o (by omega)]
  have hfn : q_fn (m_f2 (m_f1 M (M 7 2).toNat) (M 7 1).toNat) := by
    obtain ⟨f6, f7⟩ := f6
    refine ⟨by rw [e _ _ (by unfold q_m; omega)]; exact f1, by rw [e _ _ (by unfold q_m; omega)]; exact f2, by rw [e _ _ (by unfold q_m; omega)]; exact f3, by rw [e _ _ (by unfold q_m; omega)]; exact f4, fun k hk => ?_, by rw [e _ _ (by unfold q_m; omega)]; exact f6, fun t ht => ?_⟩
    · rw [e _ _ (by unfold q_m; omega)] at hk
      rw [e _ _ (by unfold q_m; omega)]
      exact f5 k hk
    · rw [e _ _ (by unfold q_m; omega), e _ _ (by unfold q_m; omega)]
      exact f7 t ht
  have ek : m_mk M = m_trs (m_f2 (m_f1 M (M 7 2).toNat) (M 7 1).toNat) 8 := rfl
  have ef : m_find M = m_aus (m_st (m_mk M) (M 7 2).toNat) 8 := rfl
  have o7 : ∀ j, m_mk M 7 j = M 7 j := fun j => m_mk_o (by unfold q_m; omega)
  refine tk_goA fo_Mo co_Mo tg_Mo_find 40 [2] ?_
  refine ⟨(), ?_⟩
  have h := lp_Mo_find1 l M (by omega) f2 (fun r M' => r = .inl none ∧ M' = m_find M) ?_ (M 7 2).toNat 0 (by omega)
  · rw [m_f1_0] at h
    exact h
  · refine tk_goA fo_Mo co_Mo tg_Mo_find 40 [49] ?_
    refine ⟨(), ?_⟩
    have e71 : m_f1 M (M 7 2).toNat 7 1 = M 7 1 := m_f1_o (by decide)
    have h := lp_Mo_find2 l (m_f1 M (M 7 2).toNat) (by omega) (by omega) (fun r M' => r = .inl none ∧ M' = m_find M) ?_ (M 7 1).toNat 0 (by omega)
    · rw [m_f2_0] at h
      exact h
    · rw [e71]
      refine tk_goA fo_Mo co_Mo tg_Mo_find 40 [72] ?_
      refine ⟨(), ?_⟩
      have h := lp_Mo_find_ts l _ hfn (fun r M' => r = .inl none ∧ M' = m_find M) ?_ 8 0 rfl none
      · exact h
      · intro o
        rw [← ek]
        refine tk_goA fo_Mo co_Mo tg_Mo_find 40 [249] ?_
        refine ⟨(), ?_⟩
        have h := lp_Mo_find4 l (m_mk M) (by rw [o7]; omega) (by rw [o7]; exact f2) (fun k hk => q2 k (by rw [o7] at hk; exact hk)) ⟨by rw [o7]; exact f6.1, fun t ht => by rw [m_mk_o (by unfold q_m; omega), m_mk_o (by unfold q_m; omega)]; exact f6.2 t ht⟩ o (fun r M' => r = .inl none ∧ M' = m_find M) ?_ (M 7 2).toNat 0 (by rw [o7]; omega)
        · rw [m_st_0] at h
          exact h
        · rw [o7]
          refine tk_goA fo_Mo co_Mo tg_Mo_find 40 [276] ?_
          refine ⟨(), ?_⟩
          have h := lp_Mo_find5 l (m_st (m_mk M) (M 7 2).toNat) ⟨fun t ht => ?_, ?_, ?_⟩ o 8 0 rfl
          · rw [← ef] at h
            exact h
          · rw [m_st_o (by decide), m_st_o (by decide), m_st_o (by decide), m_mk_o (c := 26) (by unfold q_m; omega), (m_mk_at ht).1]
            refine ⟨fun hl => ?_, q3 t ht⟩
            have := m_z_lt q1 (M 22 t)
            rw [((m_mk_at ht).2 hl).2]
            unfold m_z
            omega
          · rw [m_st_o (by decide), o7]; exact q4
          · rw [m_st_o (by decide), o7]; exact q5
def m_se (S : tk_M) (n : Nat) : tk_M := fun c k => if c = 17 ∧ k < n then 0 else if c = 11 ∧ k < n ∧ m_hld S k = 0 then 0 else S c k
theorem m_se_0 (S : tk_M) : m_se S 0 = S := by funext c k; unfold m_se; rw [if_neg (by omega), if_neg (by omega)]
theorem m_se_o {S : tk_M} {n c k : Nat} (h : ¬ (c = 17 ∧ k < n)) (h2 : ¬ (c = 11 ∧ k < n)) : m_se S n c k = S c k := by
  unfold m_se
  rw [if_neg h, if_neg (by omega)]
theorem m_hld_eq {M N : tk_M} {s : Nat} (h16 : N 16 s = M 16 s) (h7 : N 7 2 = M 7 2) (h8 : ∀ k, N 8 k = M 8 k) (h12 : ∀ k, N 12 k = M 12 k) : m_hld N s = m_hld M s := by
  unfold m_hld m_an
  rw [h16, h7]
  simp only [h8, h12]
theorem m_se_s1 (S : tk_M) (n : Nat) (h : m_hld S n = 0) : tk_up (tk_up (m_se S n) 17 n 0) 11 n 0 = m_se S (n + 1) := by
  funext c k
  by_cases e : k = n
  · subst e
    unfold tk_up m_se
    (repeat' split) <;> first | rfl | omega
  · rw [tk_up_n (by omega), tk_up_n (by omega)]
    unfold m_se
    (repeat' split) <;> first | rfl | omega
theorem m_se_s0 (S : tk_M) (n : Nat) (h : ¬ m_hld S n = 0) : tk_up (m_se S n) 17 n 0 = m_se S (n + 1) := by
  funext c k
  by_cases e : k = n
  · subst e
    unfold tk_up m_se
    (repeat' split) <;> first | rfl | omega
  · rw [tk_up_n (by omega)]
    unfold m_se
    (repeat' split) <;> first | rfl | omega
theorem lp_Mo_settle (l : Launch) (S : tk_M) (h0 : 0 ≤ S 7 1) (h1 : S 7 1 ≤ 10) (h2 : 0 ≤ S 7 2) (h3 : S 7 2 ≤ 32) : ∀ n i : Nat, i + n = (S 7 1).toNat →
    tk_At l "TrackKeeperModel" prog_8_method_19_code 2 none 4 60 (fun r M' => r = .inl none ∧ M' = m_se S (S 7 1).toNat) 6 [some (.inr 7), some (.inl (i : Int))] [] (m_se S i) := by
  intro n
  induction n with
  | zero =>
    intro i hi
    have e : i = (S 7 1).toNat := by omega
    have e7 : m_se S i 7 1 = S 7 1 := m_se_o (by omega) (by omega)
    rw [← e]
    generalize m_se S i = N at *
    refine tk_goA fo_Mo co_Mo tg_Mo_settle 40 [6] ?_
    repeat' first | refine And.intro ?_ ?_ | intro _
    all_goals first | rfl | skip
    all_goals try simp only [tk_c] at *
    all_goals first | omega | skip
  | succ n ih =>
    intro i hi
    have h9 := ih (i + 1) (by omega)
    have e7 : m_se S i 7 1 = S 7 1 := m_se_o (by omega) (by omega)
    have eh : m_hld (tk_up (m_se S i) 17 i 0) i = m_hld S i := m_hld_eq (by rw [tk_up_n (by omega), m_se_o (by omega) (by omega)]) (by rw [tk_up_n (by omega), m_se_o (by omega) (by omega)]) (fun k => by rw [tk_up_n (by omega), m_se_o (by omega) (by omega)]) (fun k => by rw [tk_up_n (by omega), m_se_o (by omega) (by omega)])
    have con := k_Mo_holds l (tk_up (m_se S i) 17 i 0) i (by omega) (by rw [tk_up_n (by omega), m_se_o (by omega) (by omega)]; exact h2) (by rw [tk_up_n (by omega), m_se_o (by omega) (by omega)]; exact h3)
    rw [eh] at con
    have s1 := m_se_s1 S i
    have s0 := m_se_s0 S i
    generalize m_se S (i + 1) = N1 at *
    generalize m_se S i = N at *
    generalize m_se S (S 7 1).toNat = N9 at *
    refine tk_goA fo_Mo co_Mo tg_Mo_settle 40 [6] ?_
    repeat' first | refine And.intro ?_ ?_ | intro _
    all_goals first | exact Or.inl rfl | skip
    all_goals try simp only [tk_c, Int.toNat_natCast] at *
    all_goals first | omega | skip
    refine ⟨(), tk_aV (k := 6) con wc_Mo_holds lk_Mo_163 wi_Mo_holds wsl_Mo_holds tg_Mo_settle rfl rfl (by decide) rfl rfl rfl (by decide) (Nat.le_of_ble_eq_true rfl) ?_ (fun x M' h => by cases h.1)⟩
    rintro v' N' ⟨g1, rfl⟩ hro
    cases g1
    generalize m_hld S i = y at *
    refine tk_goA fo_Mo co_Mo tg_Mo_settle 40 [6] ?_
    repeat' first | refine And.intro ?_ ?_ | intro _
    all_goals try simp only [tk_c, Int.toNat_natCast] at *
    all_goals first | omega | skip
    · rw [← s0 (by omega)] at h9
      exact ⟨(), h9⟩
    · rw [← s1 (by omega)] at h9
      exact ⟨(), h9⟩
def m_set (M : tk_M) : tk_M := m_se (m_find M) (M 7 1).toNat
theorem m_find_7 {M : tk_M} {j : Nat} (h : j ≠ 7 ∧ j ≠ 8) : m_find M 7 j = M 7 j := by
  unfold m_find
  rw [m_aus_o (by omega) 8 (by omega), m_st_o (by decide), m_mk_o (by unfold q_m; omega)]
theorem k_Mo_settle (l : Launch) (M : tk_M) (hq : q_fi M) : tk_C l y_Mo_settle 4 60 [.inr 7] M (fun r M' => r = .inl none ∧ M' = m_set M) := by
  refine tk_C.of wc_Mo_settle rfl (Nat.le_of_ble_eq_true rfl) fun hr hM => ?_
  have e1 := m_find_7 (M := M) (j := 1) (by decide)
  have e2 := m_find_7 (M := M) (j := 2) (by decide)
  obtain ⟨f1, f2, f3, f4, f5, f6⟩ := hq.1
  refine tk_goA fo_Mo co_Mo tg_Mo_settle 40 [6] ?_
  refine ⟨(), tk_aV (k := 6) (k_Mo_find l M hq) wc_Mo_find lk_Mo_160 wi_Mo_find wsl_Mo_find tg_Mo_settle rfl rfl (by decide) rfl rfl rfl (by decide) (Nat.le_of_ble_eq_true rfl) ?_ (fun x M' h => by cases h.1)⟩
  rintro v' N' ⟨g1, rfl⟩ hro
  cases g1
  have h := lp_Mo_settle l (m_find M) (by omega) (by omega) (by omega) (by omega) (M 7 1).toNat 0 (by omega)
  rw [m_se_0, e1] at h
  have ef : m_set M = m_se (m_find M) (M 7 1).toNat := rfl
  rw [← ef] at h
  refine tk_goA fo_Mo co_Mo tg_Mo_settle 40 [6] ?_
  exact ⟨(), h⟩
end
section
/-! THE REFERENCE: its public calls -/
section TKQ
variable {l : Launch} {cc : ByteArray} {nL : Nat} {ret : Option FieldType} {nf nw : Nat} {P : (Option Int ⊕ Nat) → tk_M → Prop} {tab : List tk_E} {pc : Nat} {lo : tk_Lc} {st : List tk_V} {M : tk_M}
theorem ma_f0 {x : Int} (h : M 7 0 = 0) (htab : tk_good cc nL tab) (hd : tk_ia tab pc = some (.invokevirtual 98, pc + 3)) (hfr : 1 ≤ nf) (hlo : tk_sv st + 14 ≤ nw) (k : tk_At l "TrackKeeperModel" cc nL ret nf nw P (pc + 3) lo (.inl (.inl 0) :: st) M) : tk_At l "TrackKeeperModel" cc nL ret nf nw P pc lo (.inl (.inl x) :: .inl (.inl 0) :: .inl (.inr 7) :: st) M := by
  refine tk_aV (k := 6) (ps := [.inl 0, .inl x]) (st := st) (k_Mo_fails0 l M x h) wc_Mo_fails lk_Mo_98 wi_Mo_fails wsl_Mo_fails htab hd rfl (by decide) rfl rfl rfl (by omega) (show _ + (3 + 11) + 0 ≤ nw by omega) ?_ (fun x M' h => by cases h.1)
  rintro v' M' ⟨e1, rfl⟩ hro
  cases e1
  exact k
theorem ma_f1 {x : Int} (h : M 7 0 = 0) (hx : ¬ x = 0) (htab : tk_good cc nL tab) (hd : tk_ia tab pc = some (.invokevirtual 98, pc + 3)) (hfr : 1 ≤ nf) (hlo : tk_sv st + 14 ≤ nw) (k : tk_At l "TrackKeeperModel" cc nL ret nf nw P (pc + 3) lo (.inl (.inl 1) :: st) (tk_up M 7 0 x)) : tk_At l "TrackKeeperModel" cc nL ret nf nw P pc lo (.inl (.inl x) :: .inl (.inl 1) :: .inl (.inr 7) :: st) M := by
  refine tk_aV (k := 6) (ps := [.inl 1, .inl x]) (st := st) (k_Mo_fails1 l M x h hx) wc_Mo_fails lk_Mo_98 wi_Mo_fails wsl_Mo_fails htab hd rfl (by decide) rfl rfl rfl (by omega) (show _ + (3 + 11) + 0 ≤ nw by omega) ?_ (fun x M' h => by cases h.1)
  rintro v' M' ⟨e1, rfl⟩ hro
  cases e1
  exact k
theorem ma_in {v a b : Int} (htab : tk_good cc nL tab) (hd : tk_ia tab pc = some (.invokestatic 103, pc + 3)) (hfr : 1 ≤ nf) (hlo : tk_sv st + 14 ≤ nw) (k : tk_At l "TrackKeeperModel" cc nL ret nf nw P (pc + 3) lo (.inl (.inl (f_in v a b)) :: st) M) : tk_At l "TrackKeeperModel" cc nL ret nf nw P pc lo (.inl (.inl b) :: .inl (.inl a) :: .inl (.inl v) :: st) M := by
  refine tk_aS (ps := [.inl v, .inl a, .inl b]) (st := st) (k_Mo_in l v a b M) wc_Mo_in lk_Mo_103 wst_Mo_in wn_Mo htab hd rfl rfl (by omega) (by omega) ?_ (fun x M' h => by cases h.1)
  rintro v' M' ⟨e1, rfl⟩ hro
  cases e1
  exact k
theorem ma_wait (h : M 7 1 ≤ 10) (htab : tk_good cc nL tab) (hd : tk_ia tab pc = some (.invokevirtual 94, pc + 3)) (hfr : 1 ≤ nf) (hlo : tk_sv st + 12 ≤ nw) (k : tk_At l "TrackKeeperModel" cc nL ret nf nw P (pc + 3) lo (.inl (.inl (f_wait M)) :: st) M) : tk_At l "TrackKeeperModel" cc nL ret nf nw P pc lo (.inl (.inr 7) :: st) M := by
  refine tk_aV (k := 6) (ps := []) (st := st) (k_Mo_isWaiting l M h) wc_Mo_isWaiting lk_Mo_94 wi_Mo_isWaiting wsl_Mo_isWaiting htab hd rfl (by decide) rfl rfl rfl (by omega) (show _ + (1 + 11) + 0 ≤ nw by omega) ?_ (fun x M' h => by cases h.1)
  rintro v' M' ⟨e1, rfl⟩ hro
  cases e1
  exact k
theorem ma_reset (htab : tk_good cc nL tab) (hd : tk_ia tab pc = some (.invokevirtual 119, pc + 3)) (hfr : 1 ≤ nf) (hlo : tk_sv st + 13 ≤ nw) (k : tk_At l "TrackKeeperModel" cc nL ret nf nw P (pc + 3) lo st (m_reset M)) : tk_At l "TrackKeeperModel" cc nL ret nf nw P pc lo (.inl (.inr 7) :: st) M := by
  refine tk_aV (k := 6) (ps := []) (st := st) (k_Mo_reset l M) wc_Mo_reset lk_Mo_119 wi_Mo_reset wsl_Mo_reset htab hd rfl (by decide) rfl rfl rfl (by omega) (show _ + (2 + 11) + 0 ≤ nw by omega) ?_ (fun x M' h => by cases h.1)
  rintro v' M' ⟨e1, rfl⟩ hro
  cases e1
  exact k
theorem ma_settle (h : q_fi M) (htab : tk_good cc nL tab) (hd : tk_ia tab pc = some (.invokevirtual 166, pc + 3)) (hfr : 5 ≤ nf) (hlo : tk_sv st + 73 ≤ nw) (k : tk_At l "TrackKeeperModel" cc nL ret nf nw P (pc + 3) lo st (m_set M)) : tk_At l "TrackKeeperModel" cc nL ret nf nw P pc lo (.inl (.inr 7) :: st) M := by
  refine tk_aV (k := 6) (ps := []) (st := st) (k_Mo_settle l M h) wc_Mo_settle lk_Mo_166 wi_Mo_settle wsl_Mo_settle htab hd rfl (by decide) rfl rfl rfl (by omega) (show _ + (2 + 11) + 60 ≤ nw by omega) ?_ (fun x M' h => by cases h.1)
  rintro v' M' ⟨e1, rfl⟩ hro
  cases e1
  exact k
theorem ma_loc {t : Nat} (ht : t < 8) (h : q_tm M) (htab : tk_good cc nL tab) (hd : tk_ia tab pc = some (.invokevirtual 134, pc + 3)) (hfr : 1 ≤ nf) (hlo : tk_sv st + 13 ≤ nw) (k : tk_At l "TrackKeeperModel" cc nL ret nf nw P (pc + 3) lo (.inl (.inl (m_loc M t)) :: st) M) : tk_At l "TrackKeeperModel" cc nL ret nf nw P pc lo (.inl (.inl (t : Int)) :: .inl (.inr 7) :: st) M := by
  refine tk_aV (k := 6) (ps := [.inl (t : Int)]) (st := st) (k_Mo_isLocated l M t ht h) wc_Mo_isLocated lk_Mo_134 wi_Mo_isLocated wsl_Mo_isLocated htab hd rfl (by decide) rfl rfl rfl (by omega) (show _ + (2 + 11) + 0 ≤ nw by omega) ?_ (fun x M' h => by cases h.1)
  rintro v' M' ⟨e1, rfl⟩ hro
  cases e1
  exact k
theorem ma_who {t : Nat} (ht : t < 8) (h : q_tm M) (htab : tk_good cc nL tab) (hd : tk_ia tab pc = some (.invokevirtual 157, pc + 3)) (hfr : 2 ≤ nf) (hlo : tk_sv st + 26 ≤ nw) (k : tk_At l "TrackKeeperModel" cc nL ret nf nw P (pc + 3) lo (.inl (.inl (m_who M t)) :: st) M) : tk_At l "TrackKeeperModel" cc nL ret nf nw P pc lo (.inl (.inl (t : Int)) :: .inl (.inr 7) :: st) M := by
  refine tk_aV (k := 6) (ps := [.inl (t : Int)]) (st := st) (k_Mo_isWhole l M t ht h) wc_Mo_isWhole lk_Mo_157 wi_Mo_isWhole wsl_Mo_isWhole htab hd rfl (by decide) rfl rfl rfl (by omega) (show _ + (2 + 11) + 13 ≤ nw by omega) ?_ (fun x M' h => by cases h.1)
  rintro v' M' ⟨e1, rfl⟩ hro
  cases e1
  exact k
theorem ma_at {x : Int} (h : M 7 2 ≤ 32) (htab : tk_good cc nL tab) (hd : tk_ia tab pc = some (.invokevirtual 138, pc + 3)) (hfr : 1 ≤ nf) (hlo : tk_sv st + 14 ≤ nw) (k : tk_At l "TrackKeeperModel" cc nL ret nf nw P (pc + 3) lo (.inl (.inl ((m_at M x 32 0 : Nat) : Int)) :: st) M) : tk_At l "TrackKeeperModel" cc nL ret nf nw P pc lo (.inl (.inl x) :: .inl (.inr 7) :: st) M := by
  refine tk_aV (k := 6) (ps := [.inl x]) (st := st) (k_Mo_subOf l M x h) wc_Mo_subOf lk_Mo_138 wi_Mo_subOf wsl_Mo_subOf htab hd rfl (by decide) rfl rfl rfl (by omega) (show _ + (3 + 11) + 0 ≤ nw by omega) ?_ (fun x M' h => by cases h.1)
  rintro v' M' ⟨e1, rfl⟩ hro
  cases e1
  exact k
theorem ma_holds {s : Nat} (hs : s < 10) (h0 : 0 ≤ M 7 2) (h1 : M 7 2 ≤ 32) (htab : tk_good cc nL tab) (hd : tk_ia tab pc = some (.invokevirtual 163, pc + 3)) (hfr : 1 ≤ nf) (hlo : tk_sv st + 15 ≤ nw) (k : tk_At l "TrackKeeperModel" cc nL ret nf nw P (pc + 3) lo (.inl (.inl (m_hld M s)) :: st) M) : tk_At l "TrackKeeperModel" cc nL ret nf nw P pc lo (.inl (.inl (s : Int)) :: .inl (.inr 7) :: st) M := by
  refine tk_aV (k := 6) (ps := [.inl (s : Int)]) (st := st) (k_Mo_holds l M s hs h0 h1) wc_Mo_holds lk_Mo_163 wi_Mo_holds wsl_Mo_holds htab hd rfl (by decide) rfl rfl rfl (by omega) (show _ + (4 + 11) + 0 ≤ nw by omega) ?_ (fun x M' h => by cases h.1)
  rintro v' M' ⟨e1, rfl⟩ hro
  cases e1
  exact k
end TKQ
def m0 (M : tk_M) : tk_M := tk_up M 7 0 0
theorem m0_0 (M : tk_M) : m0 M 7 0 = 0 := tk_up_s _ _ _ _
theorem m0_o {M : tk_M} {c j : Nat} (h : ¬ (c = 7 ∧ j = 0)) : m0 M c j = M c j := tk_up_n h
def d_section (N : tk_M) : tk_Z := if ¬ N 7 11 = 0 ∨ ¬ f_wait N = 0 then (.inl (some 0), tk_up N 7 0 1) else if N 7 1 = 10 then (.inl (some 0), tk_up N 7 0 2) else (.inl (some (N 7 1)), tk_up (tk_up N 10 (N 7 1).toNat (N 7 2)) 7 1 (N 7 1 + 1))
theorem kn_Mo_section (l : Launch) (N : tk_M) (h0 : N 7 0 = 0) (q1 : 0 ≤ N 7 1) (q2 : N 7 1 ≤ 10) : tk_At l "TrackKeeperModel" prog_8_method_6_code 1 (some .int) 6 90 (tk_z (d_section N)) 5 [some (.inr 7)] [] N := by
  have kA : (¬ N 7 11 = 0 ∨ ¬ f_wait N = 0) → tk_At l "TrackKeeperModel" prog_8_method_6_code 1 (some .int) 6 90 (tk_z (d_section N)) 20 [some (.inr 7)] [.inl (.inr 7)] N := fun h => by
    have e : d_section N = (.inl (some 0), tk_up N 7 0 1) := by unfold d_section; rw [if_pos h]
    rw [e]
    refine tk_goA fo_Mo co_Mo tg_Mo_section 60 [] ?_
    refine ⟨(), ma_f1 h0 (by decide) tg_Mo_section rfl (by decide) (by decide) ?_⟩
    refine tk_goA fo_Mo co_Mo tg_Mo_section 60 [] ?_
    repeat' first | refine And.intro ?_ ?_ | intro _
    all_goals first | exact Or.inl rfl | exact Or.inr rfl | rfl | skip
    all_goals try simp only [tk_c, not_true_eq_false, not_false_eq_true, Int.toNat_natCast] at *
    all_goals first | omega | skip
  have kB : ¬ (¬ N 7 11 = 0 ∨ ¬ f_wait N = 0) → tk_At l "TrackKeeperModel" prog_8_method_6_code 1 (some .int) 6 90 (tk_z (d_section N)) 24 [some (.inr 7)] [.inl (.inr 7)] N := fun h => by
    have e : d_section N = if N 7 1 = 10 then (.inl (some 0), tk_up N 7 0 2) else (.inl (some (N 7 1)), tk_up (tk_up N 10 (N 7 1).toNat (N 7 2)) 7 1 (N 7 1 + 1)) := by unfold d_section; rw [if_neg h]
    refine tk_goA fo_Mo co_Mo tg_Mo_section 60 [] ?_
    refine ⟨(), ma_f0 h0 tg_Mo_section rfl (by decide) (by decide) ?_⟩
    refine tk_goA fo_Mo co_Mo tg_Mo_section 60 [] ?_
    repeat' first | refine And.intro ?_ ?_ | intro _
    all_goals first | exact Or.inl rfl | exact Or.inr rfl | rfl | skip
    all_goals try simp only [tk_c, not_true_eq_false, not_false_eq_true, Int.toNat_natCast] at *
    all_goals first | omega | skip
    · rw [if_neg (by omega)] at e
      rw [e]
      have u : ∀ x j, tk_up N 10 (N 7 1).toNat x 7 j = N 7 j := fun x j => tk_up_n (by omega)
      refine ⟨(), ma_f0 h0 tg_Mo_section rfl (by decide) (by decide) ?_⟩
      refine tk_goA fo_Mo co_Mo tg_Mo_section 60 [] ?_
      repeat' first | refine And.intro ?_ ?_ | intro _
      all_goals first | exact Or.inl rfl | exact Or.inr rfl | rfl | skip
      all_goals try simp only [tk_c, not_true_eq_false, not_false_eq_true, Int.toNat_natCast, u] at *
      all_goals first | omega | skip
    · rw [if_pos (by omega)] at e
      rw [e]
      refine ⟨(), ma_f1 h0 (by decide) tg_Mo_section rfl (by decide) (by decide) ?_⟩
      refine tk_goA fo_Mo co_Mo tg_Mo_section 60 [] ?_
      repeat' first | refine And.intro ?_ ?_ | intro _
      all_goals first | exact Or.inl rfl | exact Or.inr rfl | rfl | skip
      all_goals try simp only [tk_c, not_true_eq_false, not_false_eq_true, Int.toNat_natCast] at *
      all_goals first | omega | skip
  refine tk_goA fo_Mo co_Mo tg_Mo_section 60 [20, 24] ?_
  repeat' first | refine And.intro ?_ ?_ | intro _
  all_goals first | exact Or.inl rfl | exact Or.inr rfl | rfl | skip
  all_goals try simp only [tk_c, not_true_eq_false, not_false_eq_true, Int.toNat_natCast] at *
  all_goals first | omega | skip
  · exact ⟨(), kA (by omega)⟩
  · refine ⟨(), ma_wait q2 tg_Mo_section rfl (by decide) (by decide) ?_⟩
    generalize f_wait N = w at *
    refine tk_goA fo_Mo co_Mo tg_Mo_section 60 [20, 24] ?_
    repeat' first | refine And.intro ?_ ?_ | intro _
    all_goals first | exact Or.inl rfl | exact Or.inr rfl | rfl | skip
    all_goals try simp only [tk_c, not_true_eq_false, not_false_eq_true, Int.toNat_natCast] at *
    all_goals first | omega | skip
    · exact ⟨(), kB (by omega)⟩
    · exact ⟨(), kA (by omega)⟩
theorem k_Mo_section (l : Launch) (M : tk_M)  (q1 : 0 ≤ M 7 1) (q2 : M 7 1 ≤ 10) : tk_C l y_Mo_section 6 90 [.inr 7] M (tk_z (d_section (m0 M))) := by
  refine tk_C.of wc_Mo_section rfl (Nat.le_of_ble_eq_true rfl) fun hr hM => ?_
  have h := kn_Mo_section l (m0 M)  (m0_0 M) (by rw [m0_o (by omega)]; exact q1) (by rw [m0_o (by omega)]; exact q2)
  have e : m0 M = tk_up M 7 0 0 := rfl
  generalize d_section  (m0 M) = Z at *
  rw [e] at h
  refine tk_goA fo_Mo co_Mo tg_Mo_section 40 [5] ?_
  repeat' first | refine And.intro ?_ ?_ | intro _
  all_goals first | omega | skip
  exact ⟨(), h⟩
def d_sub (x : Int) (N : tk_M) : tk_Z := if ¬ (1 ≤ x ∧ x ≤ 100000) then (.inl (some 0), tk_up N 7 0 1) else if ¬ N 7 11 = 0 ∨ N 7 1 = 0 then (.inl (some 0), tk_up N 7 0 2) else if N 7 2 = 32 then (.inl (some 0), tk_up N 7 0 3) else (.inl (some (N 7 2)), tk_up (tk_up (tk_up N 8 (N 7 2).toNat (N 7 1 - 1)) 9 (N 7 2 + 1).toNat (N 9 (N 7 2).toNat + x)) 7 2 (N 7 2 + 1))
theorem kn_Mo_sub (l : Launch) (N : tk_M) (x : Int) (h0 : N 7 0 = 0) (q1 : 0 ≤ N 7 1) (q2 : N 7 1 ≤ 10) (q3 : 0 ≤ N 7 2) (q4 : N 7 2 ≤ 32) (q5 : 0 ≤ N 9 (N 7 2).toNat) (q6 : N 9 (N 7 2).toNat ≤ 3200000) : tk_At l "TrackKeeperModel" prog_8_method_7_code 2 (some .int) 6 90 (tk_z (d_sub x N)) 5 [some (.inr 7), some (.inl x)] [] N := by
  have ed : d_sub x N = if ¬ (1 ≤ x ∧ x ≤ 100000) then (.inl (some 0), tk_up N 7 0 1) else if ¬ N 7 11 = 0 ∨ N 7 1 = 0 then (.inl (some 0), tk_up N 7 0 2) else if N 7 2 = 32 then (.inl (some 0), tk_up N 7 0 3) else (.inl (some (N 7 2)), tk_up (tk_up (tk_up N 8 (N 7 2).toNat (N 7 1 - 1)) 9 (N 7 2 + 1).toNat (N 9 (N 7 2).toNat + x)) 7 2 (N 7 2 + 1)) := rfl
  generalize d_sub x N = Z at *
  have kR : ∀ c : Int, Z = (.inl (some 0), tk_up N 7 0 c) → tk_At l "TrackKeeperModel" prog_8_method_7_code 2 (some .int) 6 90 (tk_z Z) 77 [some (.inr 7), some (.inl x)] [] (tk_up N 7 0 c) := fun c e => by
    rw [e]
    refine tk_goA fo_Mo co_Mo tg_Mo_sub 60 [] ?_
    exact ⟨rfl, rfl⟩
  refine tk_goA fo_Mo co_Mo tg_Mo_sub 60 [77] ?_
  refine ⟨(), ma_in tg_Mo_sub rfl (by decide) (by decide) ?_⟩
  generalize hx : f_in x 1 100000 = y
  have hx0 := f_in_0 x 1 100000
  rw [hx] at hx0
  refine tk_goA fo_Mo co_Mo tg_Mo_sub 60 [77] ?_
  repeat' first | refine And.intro ?_ ?_ | intro _
  all_goals first | exact Or.inl rfl | exact Or.inr rfl | rfl | skip
  all_goals try simp only [tk_c, not_true_eq_false, not_false_eq_true, Int.toNat_natCast, hx0] at *
  all_goals first | omega | skip
  · rw [if_neg (by omega)] at ed
    refine ⟨(), ma_f0 h0 tg_Mo_sub rfl (by decide) (by decide) ?_⟩
    have kA : (¬ N 7 11 = 0 ∨ N 7 1 = 0) → tk_At l "TrackKeeperModel" prog_8_method_7_code 2 (some .int) 6 90 (tk_z Z) 43 [some (.inr 7), some (.inl x)] [.inl (.inr 7)] N := fun h => by
      rw [if_pos h] at ed
      refine tk_goA fo_Mo co_Mo tg_Mo_sub 60 [77] ?_
      refine ⟨(), ma_f1 h0 (by decide) tg_Mo_sub rfl (by decide) (by decide) ?_⟩
      refine tk_goA fo_Mo co_Mo tg_Mo_sub 60 [77] ?_
      repeat' first | refine And.intro ?_ ?_ | intro _
      all_goals first | exact Or.inl rfl | exact Or.inr rfl | rfl | skip
      all_goals try simp only [tk_c, not_true_eq_false, not_false_eq_true, Int.toNat_natCast] at *
      all_goals first | omega | skip
      exact ⟨(), kR _ ed⟩
    refine tk_goA fo_Mo co_Mo tg_Mo_sub 60 [77, 43] ?_
    repeat' first | refine And.intro ?_ ?_ | intro _
    all_goals first | exact Or.inl rfl | exact Or.inr rfl | rfl | skip
    all_goals try simp only [tk_c, not_true_eq_false, not_false_eq_true, Int.toNat_natCast] at *
    all_goals first | omega | skip
    · exact ⟨(), kA (by omega)⟩
    · rw [if_neg (by omega)] at ed
      refine ⟨(), ma_f0 h0 tg_Mo_sub rfl (by decide) (by decide) ?_⟩
      refine tk_goA fo_Mo co_Mo tg_Mo_sub 60 [77] ?_
      repeat' first | refine And.intro ?_ ?_ | intro _
      all_goals first | exact Or.inl rfl | exact Or.inr rfl | rfl | skip
      all_goals try simp only [tk_c, not_true_eq_false, not_false_eq_true, Int.toNat_natCast] at *
      all_goals first | omega | skip
      · rw [if_neg (by omega)] at ed
        rw [ed]
        refine ⟨(), ma_f0 h0 tg_Mo_sub rfl (by decide) (by decide) ?_⟩
        have u : ∀ x j, tk_up N 8 (N 7 2).toNat x 7 j = N 7 j := fun x j => tk_up_n (by omega)
        have u9 : ∀ x j, tk_up N 8 (N 7 2).toNat x 9 j = N 9 j := fun x j => tk_up_n (by omega)
        have u2 : ∀ x y i j, tk_up (tk_up N 8 (N 7 2).toNat x) 9 i y 7 j = N 7 j := fun x y i j => by rw [tk_up_n (by omega), tk_up_n (by omega)]
        refine tk_goA fo_Mo co_Mo tg_Mo_sub 80 [] ?_
        repeat' first | refine And.intro ?_ ?_ | intro _
        all_goals first | exact Or.inl rfl | exact Or.inr rfl | rfl | skip
        all_goals try simp only [tk_c, not_true_eq_false, not_false_eq_true, Int.toNat_natCast, u, u9, u2] at *
        all_goals first | omega | skip
      · rw [if_pos (by omega)] at ed
        refine ⟨(), ma_f1 h0 (by decide) tg_Mo_sub rfl (by decide) (by decide) ?_⟩
        refine tk_goA fo_Mo co_Mo tg_Mo_sub 60 [77] ?_
        repeat' first | refine And.intro ?_ ?_ | intro _
        all_goals first | exact Or.inl rfl | exact Or.inr rfl | rfl | skip
        all_goals try simp only [tk_c, not_true_eq_false, not_false_eq_true, Int.toNat_natCast] at *
        all_goals first | omega | skip
        exact ⟨(), kR _ ed⟩
    · exact ⟨(), kA (by omega)⟩
  · rw [if_pos (by omega)] at ed
    refine ⟨(), ma_f1 h0 (by decide) tg_Mo_sub rfl (by decide) (by decide) ?_⟩
    refine tk_goA fo_Mo co_Mo tg_Mo_sub 60 [77] ?_
    repeat' first | refine And.intro ?_ ?_ | intro _
    all_goals first | exact Or.inl rfl | exact Or.inr rfl | rfl | skip
    all_goals try simp only [tk_c, not_true_eq_false, not_false_eq_true, Int.toNat_natCast] at *
    all_goals first | omega | skip
    exact ⟨(), kR _ ed⟩
theorem k_Mo_sub (l : Launch) (M : tk_M) (x : Int) (q1 : 0 ≤ M 7 1) (q2 : M 7 1 ≤ 10) (q3 : 0 ≤ M 7 2) (q4 : M 7 2 ≤ 32) (q5 : 0 ≤ M 9 (M 7 2).toNat) (q6 : M 9 (M 7 2).toNat ≤ 3200000) : tk_C l y_Mo_sub 6 90 [.inr 7, .inl x] M (tk_z (d_sub x (m0 M))) := by
  refine tk_C.of wc_Mo_sub rfl (Nat.le_of_ble_eq_true rfl) fun hr hM => ?_
  have h := kn_Mo_sub l (m0 M) x (m0_0 M) (by rw [m0_o (by omega)]; exact q1) (by rw [m0_o (by omega)]; exact q2) (by rw [m0_o (by omega)]; exact q3) (by rw [m0_o (by omega)]; exact q4) (by rw [m0_o (by omega), m0_o (by omega)]; exact q5) (by rw [m0_o (by omega), m0_o (by omega)]; exact q6)
  have e : m0 M = tk_up M 7 0 0 := rfl
  generalize d_sub x (m0 M) = Z at *
  rw [e] at h
  refine tk_goA fo_Mo co_Mo tg_Mo_sub 40 [5] ?_
  repeat' first | refine And.intro ?_ ?_ | intro _
  all_goals first | omega | skip
  exact ⟨(), h⟩
theorem k_Mo_clear (l : Launch) (M : tk_M) : tk_C l y_Mo_clear 6 90 [.inr 7] M (tk_z (.inl none, m_reset (tk_up (tk_up (tk_up (m0 M) 7 11 0) 7 1 0) 7 2 0))) := by
  refine tk_C.of wc_Mo_clear rfl (Nat.le_of_ble_eq_true rfl) fun hr hM => ?_
  have e : m0 M = tk_up M 7 0 0 := rfl
  rw [e]
  refine tk_goA fo_Mo co_Mo tg_Mo_clear 60 [] ?_
  repeat' first | refine And.intro ?_ ?_ | intro _
  all_goals first | exact Or.inl rfl | exact Or.inr rfl | rfl | skip
  all_goals try simp only [tk_c, not_true_eq_false, not_false_eq_true, Int.toNat_natCast] at *
  all_goals first | omega | skip
  refine ⟨(), ma_reset tg_Mo_clear rfl (by decide) (by decide) ?_⟩
  generalize m_reset (tk_up (tk_up (tk_up (tk_up M 7 0 0) 7 11 0) 7 1 0) 7 2 0) = N
  refine tk_goA fo_Mo co_Mo tg_Mo_clear 60 [] ?_
  exact ⟨rfl, rfl⟩
def d_beg0 (N : tk_M) (m k s : Int) : tk_M := tk_up (tk_up (tk_up (tk_up (tk_up N 7 11 1) 7 4 m) 7 5 k) 7 6 s) 7 10 (N 9 (N 7 2).toNat)
def d_begin (m k s : Int) (N : tk_M) : tk_Z := if ¬ (1 ≤ m ∧ m ≤ 100000) ∨ ¬ (1 ≤ k ∧ k ≤ 100000) ∨ ¬ (1 ≤ s ∧ s ≤ 100000) then (.inl (some 0), tk_up N 7 0 1) else if N 7 1 = 0 ∨ ¬ f_wait N = 0 then (.inl (some 0), tk_up N 7 0 2) else (.inl (some (N 9 (N 7 2).toNat)), m_reset (d_beg0 N m k s))
theorem m_reset_7 {M : tk_M} {j : Nat} (h : j ≠ 3 ∧ j ≠ 7 ∧ j ≠ 8 ∧ j ≠ 9) : m_reset M 7 j = M 7 j := by
  unfold m_reset m_r3 m_r2 m_r1 m_r0
  simp only [show ¬ (7 : Nat) = 18 by decide, show ¬ (7 : Nat) = 19 by decide, show ¬ (7 : Nat) = 20 by decide, show ¬ (7 : Nat) = 26 by decide, show ¬ (7 : Nat) = 16 by decide, show ¬ (7 : Nat) = 11 by decide, show ¬ (7 : Nat) = 12 by decide, show ¬ (7 : Nat) = 14 by decide, false_or, false_and, if_false]
  rw [tk_up_n (by omega), tk_up_n (by omega), tk_up_n (by omega), tk_up_n (by omega)]
theorem kn_Mo_begin (l : Launch) (N : tk_M) (m k s : Int) (h0 : N 7 0 = 0) (q1 : 0 ≤ N 7 1) (q2 : N 7 1 ≤ 10) (q3 : 0 ≤ N 7 2) (q4 : N 7 2 ≤ 32) : tk_At l "TrackKeeperModel" prog_8_method_8_code 4 (some .int) 6 90 (tk_z (d_begin m k s N)) 5 [some (.inr 7), some (.inl m), some (.inl k), some (.inl s)] [] N := by
  have ed : d_begin m k s N = if ¬ (1 ≤ m ∧ m ≤ 100000) ∨ ¬ (1 ≤ k ∧ k ≤ 100000) ∨ ¬ (1 ≤ s ∧ s ≤ 100000) then (.inl (some 0), tk_up N 7 0 1) else if N 7 1 = 0 ∨ ¬ f_wait N = 0 then (.inl (some 0), tk_up N 7 0 2) else (.inl (some (N 9 (N 7 2).toNat)), m_reset (d_beg0 N m k s)) := rfl
  generalize d_begin m k s N = Z at *
  have kR : ∀ c : Int, Z = (.inl (some 0), tk_up N 7 0 c) → tk_At l "TrackKeeperModel" prog_8_method_8_code 4 (some .int) 6 90 (tk_z Z) 75 [some (.inr 7), some (.inl m), some (.inl k), some (.inl s)] [] (tk_up N 7 0 c) := fun c e => by
    rw [e]
    refine tk_goA fo_Mo co_Mo tg_Mo_begin 60 [] ?_
    exact ⟨rfl, rfl⟩
  have kA : (¬ (1 ≤ m ∧ m ≤ 100000) ∨ ¬ (1 ≤ k ∧ k ≤ 100000) ∨ ¬ (1 ≤ s ∧ s ≤ 100000)) → tk_At l "TrackKeeperModel" prog_8_method_8_code 4 (some .int) 6 90 (tk_z Z) 36 [some (.inr 7), some (.inl m), some (.inl k), some (.inl s)] [.inl (.inr 7)] N := fun h => by
    rw [if_pos h] at ed
    refine tk_goA fo_Mo co_Mo tg_Mo_begin 60 [75] ?_
    refine ⟨(), ma_f1 h0 (by decide) tg_Mo_begin rfl (by decide) (by decide) ?_⟩
    refine tk_goA fo_Mo co_Mo tg_Mo_begin 60 [75] ?_
    repeat' first | refine And.intro ?_ ?_ | intro _
    all_goals first | exact Or.inl rfl | exact Or.inr rfl | rfl | skip
    all_goals try simp only [tk_c, not_true_eq_false, not_false_eq_true, Int.toNat_natCast] at *
    all_goals first | omega | skip
    exact ⟨(), kR _ ed⟩
  have kC : ¬ (¬ (1 ≤ m ∧ m ≤ 100000) ∨ ¬ (1 ≤ k ∧ k ≤ 100000) ∨ ¬ (1 ≤ s ∧ s ≤ 100000)) → (N 7 1 = 0 ∨ ¬ f_wait N = 0) → tk_At l "TrackKeeperModel" prog_8_method_8_code 4 (some .int) 6 90 (tk_z Z) 63 [some (.inr 7), some (.inl m), some (.inl k), some (.inl s)] [.inl (.inr 7)] N := fun h g => by
    rw [if_neg h, if_pos g] at ed
    refine tk_goA fo_Mo co_Mo tg_Mo_begin 60 [75] ?_
    refine ⟨(), ma_f1 h0 (by decide) tg_Mo_begin rfl (by decide) (by decide) ?_⟩
    refine tk_goA fo_Mo co_Mo tg_Mo_begin 60 [75] ?_
    repeat' first | refine And.intro ?_ ?_ | intro _
    all_goals first | exact Or.inl rfl | exact Or.inr rfl | rfl | skip
    all_goals try simp only [tk_c, not_true_eq_false, not_false_eq_true, Int.toNat_natCast] at *
    all_goals first | omega | skip
    exact ⟨(), kR _ ed⟩
  have kD : ¬ (¬ (1 ≤ m ∧ m ≤ 100000) ∨ ¬ (1 ≤ k ∧ k ≤ 100000) ∨ ¬ (1 ≤ s ∧ s ≤ 100000)) → ¬ (N 7 1 = 0 ∨ ¬ f_wait N = 0) → tk_At l "TrackKeeperModel" prog_8_method_8_code 4 (some .int) 6 90 (tk_z Z) 67 [some (.inr 7), some (.inl m), some (.inl k), some (.inl s)] [.inl (.inr 7)] N := fun h g => by
    rw [if_neg h, if_neg g] at ed
    rw [ed]
    refine tk_goA fo_Mo co_Mo tg_Mo_begin 60 [75] ?_
    refine ⟨(), ma_f0 h0 tg_Mo_begin rfl (by decide) (by decide) ?_⟩
    have u7 : tk_up (tk_up (tk_up (tk_up N 7 11 1) 7 4 m) 7 5 k) 7 6 s 7 2 = N 7 2 := by rw [tk_up_n (by omega), tk_up_n (by omega), tk_up_n (by omega), tk_up_n (by omega)]
    have u9 : ∀ j, tk_up (tk_up (tk_up (tk_up N 7 11 1) 7 4 m) 7 5 k) 7 6 s 9 j = N 9 j := fun j => by rw [tk_up_n (by omega), tk_up_n (by omega), tk_up_n (by omega), tk_up_n (by omega)]
    have eb : d_beg0 N m k s = tk_up (tk_up (tk_up (tk_up (tk_up N 7 11 1) 7 4 m) 7 5 k) 7 6 s) 7 10 (N 9 (N 7 2).toNat) := rfl
    refine tk_goA fo_Mo co_Mo tg_Mo_begin 60 [75] ?_
    repeat' first | refine And.intro ?_ ?_ | intro _
    all_goals first | exact Or.inl rfl | exact Or.inr rfl | rfl | skip
    all_goals try simp only [tk_c, not_true_eq_false, not_false_eq_true, Int.toNat_natCast, u7, u9] at *
    all_goals first | omega | skip
    rw [← eb]
    refine ⟨(), ma_reset tg_Mo_begin rfl (by decide) (by decide) ?_⟩
    have e10 : m_reset (d_beg0 N m k s) 7 10 = N 9 (N 7 2).toNat := by rw [m_reset_7 (by decide), eb, tk_up_s]
    generalize m_reset (d_beg0 N m k s) = X at *
    refine tk_goA fo_Mo co_Mo tg_Mo_begin 60 [] ?_
    repeat' first | refine And.intro ?_ ?_ | intro _
    all_goals first | exact Or.inl rfl | exact Or.inr rfl | rfl | skip
    all_goals try simp only [tk_c, not_true_eq_false, not_false_eq_true, Int.toNat_natCast, e10] at *
    all_goals first | omega | skip
  have kE : ¬ (¬ (1 ≤ m ∧ m ≤ 100000) ∨ ¬ (1 ≤ k ∧ k ≤ 100000) ∨ ¬ (1 ≤ s ∧ s ≤ 100000)) → tk_At l "TrackKeeperModel" prog_8_method_8_code 4 (some .int) 6 90 (tk_z Z) 40 [some (.inr 7), some (.inl m), some (.inl k), some (.inl s)] [.inl (.inr 7)] N := fun h => by
    refine tk_goA fo_Mo co_Mo tg_Mo_begin 60 [75] ?_
    refine ⟨(), ma_f0 h0 tg_Mo_begin rfl (by decide) (by decide) ?_⟩
    refine tk_goA fo_Mo co_Mo tg_Mo_begin 60 [63, 67] ?_
    repeat' first | refine And.intro ?_ ?_ | intro _
    all_goals first | exact Or.inl rfl | exact Or.inr rfl | rfl | skip
    all_goals try simp only [tk_c, not_true_eq_false, not_false_eq_true, Int.toNat_natCast] at *
    all_goals first | omega | skip
    · exact ⟨(), kC h (by omega)⟩
    · refine ⟨(), ma_wait q2 tg_Mo_begin rfl (by decide) (by decide) ?_⟩
      generalize f_wait N = w at *
      refine tk_goA fo_Mo co_Mo tg_Mo_begin 60 [63, 67] ?_
      repeat' first | refine And.intro ?_ ?_ | intro _
      all_goals first | exact Or.inl rfl | exact Or.inr rfl | rfl | skip
      all_goals try simp only [tk_c, not_true_eq_false, not_false_eq_true, Int.toNat_natCast] at *
      all_goals first | omega | skip
      · exact ⟨(), kD h (by omega)⟩
      · exact ⟨(), kC h (by omega)⟩
  refine tk_goA fo_Mo co_Mo tg_Mo_begin 60 [36, 40] ?_
  refine ⟨(), ma_in tg_Mo_begin rfl (by decide) (by decide) ?_⟩
  generalize hx : f_in m 1 100000 = x
  have hx0 := f_in_0 m 1 100000
  rw [hx] at hx0
  refine tk_goA fo_Mo co_Mo tg_Mo_begin 60 [36, 40] ?_
  repeat' first | refine And.intro ?_ ?_ | intro _
  all_goals first | exact Or.inl rfl | exact Or.inr rfl | rfl | skip
  all_goals try simp only [tk_c, not_true_eq_false, not_false_eq_true, Int.toNat_natCast, hx0] at *
  all_goals first | omega | skip
  · exact ⟨(), kA (by omega)⟩
  refine ⟨(), ma_in tg_Mo_begin rfl (by decide) (by decide) ?_⟩
  generalize hy : f_in k 1 100000 = y
  have hy0 := f_in_0 k 1 100000
  rw [hy] at hy0
  refine tk_goA fo_Mo co_Mo tg_Mo_begin 60 [36, 40] ?_
  repeat' first | refine And.intro ?_ ?_ | intro _
  all_goals first | exact Or.inl rfl | exact Or.inr rfl | rfl | skip
  all_goals try simp only [tk_c, not_true_eq_false, not_false_eq_true, Int.toNat_natCast, hy0] at *
  all_goals first | omega | skip
  · exact ⟨(), kA (by omega)⟩
  refine ⟨(), ma_in tg_Mo_begin rfl (by decide) (by decide) ?_⟩
  generalize hz : f_in s 1 100000 = z
  have hz0 := f_in_0 s 1 100000
  rw [hz] at hz0
  refine tk_goA fo_Mo co_Mo tg_Mo_begin 60 [36, 40] ?_
  repeat' first | refine And.intro ?_ ?_ | intro _
  all_goals first | exact Or.inl rfl | exact Or.inr rfl | rfl | skip
  all_goals try simp only [tk_c, not_true_eq_false, not_false_eq_true, Int.toNat_natCast, hz0] at *
  all_goals first | omega | skip
  · exact ⟨(), kE (by omega)⟩
  · exact ⟨(), kA (by omega)⟩
theorem k_Mo_begin (l : Launch) (M : tk_M) (m : Int) (k : Int) (s : Int) (q1 : 0 ≤ M 7 1) (q2 : M 7 1 ≤ 10) (q3 : 0 ≤ M 7 2) (q4 : M 7 2 ≤ 32) : tk_C l y_Mo_begin 6 90 [.inr 7, .inl m, .inl k, .inl s] M (tk_z (d_begin m k s (m0 M))) := by
  refine tk_C.of wc_Mo_begin rfl (Nat.le_of_ble_eq_true rfl) fun hr hM => ?_
  have h := kn_Mo_begin l (m0 M) m k s (m0_0 M) (by rw [m0_o (by omega)]; exact q1) (by rw [m0_o (by omega)]; exact q2) (by rw [m0_o (by omega)]; exact q3) (by rw [m0_o (by omega)]; exact q4)
  have e : m0 M = tk_up M 7 0 0 := rfl
  generalize d_begin m k s (m0 M) = Z at *
  rw [e] at h
  refine tk_goA fo_Mo co_Mo tg_Mo_begin 40 [5] ?_
  repeat' first | refine And.intro ?_ ?_ | intro _
  all_goals first | omega | skip
  exact ⟨(), h⟩
end
section
/-! THE REFERENCE: its public calls, the rest -/
def d_detect (s : Int) (b : Int) (N : tk_M) : tk_Z := if N 7 11 = 0 then (.inl none, tk_up N 7 0 1) else if ¬ (0 ≤ s ∧ s ≤ N 7 1 - 1) then (.inl none, tk_up N 7 0 2) else (.inl none, m_set (tk_up N 16 s.toNat b))
theorem kn_Mo_detect (l : Launch) (N : tk_M) (s : Int) (b : Int) (h0 : N 7 0 = 0) (q1 : 0 ≤ N 7 1) (q2 : N 7 1 ≤ 10) (hb : b = 0 ∨ b = 1) (hq : 0 ≤ s → s ≤ N 7 1 - 1 → ¬ N 7 11 = 0 → q_fi (tk_up N 16 s.toNat b)) : tk_At l "TrackKeeperModel" prog_8_method_20_code 3 none 6 90 (tk_z (d_detect s b N)) 5 [some (.inr 7), some (.inl s), some (.inl b)] [] N := by
  have ed : d_detect s b N = if N 7 11 = 0 then (.inl none, tk_up N 7 0 1) else if ¬ (0 ≤ s ∧ s ≤ N 7 1 - 1) then (.inl none, tk_up N 7 0 2) else (.inl none, m_set (tk_up N 16 s.toNat b)) := rfl
  generalize d_detect s b N = Z at *
  have kR : ∀ c : Int, Z = (.inl none, tk_up N 7 0 c) → tk_At l "TrackKeeperModel" prog_8_method_20_code 3 none 6 90 (tk_z Z) 52 [some (.inr 7), some (.inl s), some (.inl b)] [] (tk_up N 7 0 c) := fun c e => by
    rw [e]
    refine tk_goA fo_Mo co_Mo tg_Mo_detect 60 [] ?_
    exact ⟨rfl, rfl⟩
  refine tk_goA fo_Mo co_Mo tg_Mo_detect 60 [52] ?_
  repeat' first | refine And.intro ?_ ?_ | intro _
  all_goals first | exact Or.inl rfl | exact Or.inr rfl | rfl | skip
  all_goals try simp only [tk_c, not_true_eq_false, not_false_eq_true, Int.toNat_natCast] at *
  all_goals first | omega | skip
  rotate_left
  · rw [if_pos (by omega)] at ed
    refine ⟨(), ma_f1 h0 (by decide) tg_Mo_detect rfl (by decide) (by decide) ?_⟩
    refine tk_goA fo_Mo co_Mo tg_Mo_detect 60 [52] ?_
    repeat' first | refine And.intro ?_ ?_ | intro _
    all_goals first | exact Or.inl rfl | exact Or.inr rfl | rfl | skip
    all_goals try simp only [tk_c, not_true_eq_false, not_false_eq_true, Int.toNat_natCast] at *
    all_goals first | omega | skip
    exact ⟨(), kR _ ed⟩
  rename_i hbg
  rw [if_neg hbg] at ed
  refine ⟨(), ma_f0 h0 tg_Mo_detect rfl (by decide) (by decide) ?_⟩
  refine tk_goA fo_Mo co_Mo tg_Mo_detect 60 [52] ?_
  repeat' first | refine And.intro ?_ ?_ | intro _
  all_goals first | exact Or.inl rfl | exact Or.inr rfl | rfl | skip
  all_goals try simp only [tk_c, not_true_eq_false, not_false_eq_true, Int.toNat_natCast] at *
  all_goals first | omega | skip
  refine ⟨(), ma_in tg_Mo_detect rfl (by decide) (by decide) ?_⟩
  generalize hx : f_in s 0 (N 7 1 - 1) = x
  have hx0 := f_in_0 s 0 (N 7 1 - 1)
  rw [hx] at hx0
  refine tk_goA fo_Mo co_Mo tg_Mo_detect 60 [52] ?_
  repeat' first | refine And.intro ?_ ?_ | intro _
  all_goals first | exact Or.inl rfl | exact Or.inr rfl | rfl | skip
  all_goals try simp only [tk_c, not_true_eq_false, not_false_eq_true, Int.toNat_natCast, hx0] at *
  all_goals first | omega | skip
  · rw [if_neg (by omega)] at ed
    refine ⟨(), ma_f0 h0 tg_Mo_detect rfl (by decide) (by decide) ?_⟩
    refine tk_goA fo_Mo co_Mo tg_Mo_detect 60 [52] ?_
    repeat' first | refine And.intro ?_ ?_ | intro _
    all_goals first | exact Or.inl rfl | exact Or.inr rfl | rfl | skip
    all_goals try simp only [tk_c, not_true_eq_false, not_false_eq_true, Int.toNat_natCast] at *
    all_goals first | omega | skip
    refine ⟨(), ma_settle (hq (by omega) (by omega) hbg) tg_Mo_detect rfl (by decide) (by decide) ?_⟩
    rw [ed]
    refine tk_goA fo_Mo co_Mo tg_Mo_detect 60 [] ?_
    exact ⟨rfl, rfl⟩
  · rw [if_pos (by omega)] at ed
    refine ⟨(), ma_f1 h0 (by decide) tg_Mo_detect rfl (by decide) (by decide) ?_⟩
    refine tk_goA fo_Mo co_Mo tg_Mo_detect 60 [52] ?_
    repeat' first | refine And.intro ?_ ?_ | intro _
    all_goals first | exact Or.inl rfl | exact Or.inr rfl | rfl | skip
    all_goals try simp only [tk_c, not_true_eq_false, not_false_eq_true, Int.toNat_natCast] at *
    all_goals first | omega | skip
    exact ⟨(), kR _ ed⟩
theorem k_Mo_detect (l : Launch) (M : tk_M) (s : Int) (b : Int) (q1 : 0 ≤ M 7 1) (q2 : M 7 1 ≤ 10) (hb : b = 0 ∨ b = 1) (hq : 0 ≤ s → s ≤ M 7 1 - 1 → ¬ M 7 11 = 0 → q_fi (tk_up (m0 M) 16 s.toNat b)) : tk_C l y_Mo_detect 6 90 [.inr 7, .inl s, .inl b] M (tk_z (d_detect s b (m0 M))) := by
  refine tk_C.of wc_Mo_detect rfl (Nat.le_of_ble_eq_true rfl) fun hr hM => ?_
  have h := kn_Mo_detect l (m0 M) s b (m0_0 M) (by rw [m0_o (by omega)]; exact q1) (by rw [m0_o (by omega)]; exact q2) hb (by rw [m0_o (by omega), m0_o (by omega)]; exact hq)
  have e : m0 M = tk_up M 7 0 0 := rfl
  generalize d_detect s b (m0 M) = Z at *
  rw [e] at h
  refine tk_goA fo_Mo co_Mo tg_Mo_detect 40 [5] ?_
  repeat' first | refine And.intro ?_ ?_ | intro _
  all_goals first | omega | skip
  exact ⟨(), h⟩
def m_con (N : tk_M) (t : Nat) (x : Int) : tk_M := tk_up (tk_up (tk_up (tk_up N 18 t 1) 19 t 0) 20 t 0) 21 t x
def d_connect (t : Int) (x : Int) (N : tk_M) : tk_Z := if N 7 11 = 0 then (.inl none, tk_up N 7 0 1) else if ¬ (0 ≤ t ∧ t ≤ 7) ∨ ¬ (1 ≤ x ∧ x ≤ 100000) then (.inl none, tk_up N 7 0 2) else (.inl none, m_set (m_con N t.toNat x))
theorem kn_Mo_connect (l : Launch) (N : tk_M) (t : Int) (x : Int) (h0 : N 7 0 = 0) (hq : 0 ≤ t → t ≤ 7 → 1 ≤ x → x ≤ 100000 → ¬ N 7 11 = 0 → q_fi (m_con N t.toNat x)) : tk_At l "TrackKeeperModel" prog_8_method_21_code 3 none 6 90 (tk_z (d_connect t x N)) 5 [some (.inr 7), some (.inl t), some (.inl x)] [] N := by
  have ed : d_connect t x N = if N 7 11 = 0 then (.inl none, tk_up N 7 0 1) else if ¬ (0 ≤ t ∧ t ≤ 7) ∨ ¬ (1 ≤ x ∧ x ≤ 100000) then (.inl none, tk_up N 7 0 2) else (.inl none, m_set (m_con N t.toNat x)) := rfl
  generalize d_connect t x N = Z at *
  have kR : ∀ c : Int, Z = (.inl none, tk_up N 7 0 c) → tk_At l "TrackKeeperModel" prog_8_method_21_code 3 none 6 90 (tk_z Z) 58 [some (.inr 7), some (.inl t), some (.inl x)] [] (tk_up N 7 0 c) := fun c e => by
    rw [e]
    refine tk_goA fo_Mo co_Mo tg_Mo_connect 60 [] ?_
    exact ⟨rfl, rfl⟩
  refine tk_goA fo_Mo co_Mo tg_Mo_connect 60 [58] ?_
  repeat' first | refine And.intro ?_ ?_ | intro _
  all_goals first | exact Or.inl rfl | exact Or.inr rfl | rfl | skip
  all_goals try simp only [tk_c, not_true_eq_false, not_false_eq_true, Int.toNat_natCast] at *
  all_goals first | omega | skip
  rotate_left
  · rw [if_pos (by omega)] at ed
    refine ⟨(), ma_f1 h0 (by decide) tg_Mo_connect rfl (by decide) (by decide) ?_⟩
    refine tk_goA fo_Mo co_Mo tg_Mo_connect 60 [58] ?_
    repeat' first | refine And.intro ?_ ?_ | intro _
    all_goals first | exact Or.inl rfl | exact Or.inr rfl | rfl | skip
    all_goals try simp only [tk_c, not_true_eq_false, not_false_eq_true, Int.toNat_natCast] at *
    all_goals first | omega | skip
    exact ⟨(), kR _ ed⟩
  rename_i hbg
  rw [if_neg hbg] at ed
  refine ⟨(), ma_f0 h0 tg_Mo_connect rfl (by decide) (by decide) ?_⟩
  have kA : (¬ (0 ≤ t ∧ t ≤ 7) ∨ ¬ (1 ≤ x ∧ x ≤ 100000)) → tk_At l "TrackKeeperModel" prog_8_method_21_code 3 none 6 90 (tk_z Z) 46 [some (.inr 7), some (.inl t), some (.inl x)] [.inl (.inr 7)] N := fun h => by
    rw [if_pos h] at ed
    refine tk_goA fo_Mo co_Mo tg_Mo_connect 60 [58] ?_
    refine ⟨(), ma_f1 h0 (by decide) tg_Mo_connect rfl (by decide) (by decide) ?_⟩
    refine tk_goA fo_Mo co_Mo tg_Mo_connect 60 [58] ?_
    repeat' first | refine And.intro ?_ ?_ | intro _
    all_goals first | exact Or.inl rfl | exact Or.inr rfl | rfl | skip
    all_goals try simp only [tk_c, not_true_eq_false, not_false_eq_true, Int.toNat_natCast] at *
    all_goals first | omega | skip
    exact ⟨(), kR _ ed⟩
  refine tk_goA fo_Mo co_Mo tg_Mo_connect 60 [46] ?_
  repeat' first | refine And.intro ?_ ?_ | intro _
  all_goals first | exact Or.inl rfl | exact Or.inr rfl | rfl | skip
  all_goals try simp only [tk_c, not_true_eq_false, not_false_eq_true, Int.toNat_natCast] at *
  all_goals first | omega | skip
  refine ⟨(), ma_in tg_Mo_connect rfl (by decide) (by decide) ?_⟩
  generalize hy : f_in t 0 7 = y
  have hy0 := f_in_0 t 0 7
  rw [hy] at hy0
  refine tk_goA fo_Mo co_Mo tg_Mo_connect 60 [46] ?_
  repeat' first | refine And.intro ?_ ?_ | intro _
  all_goals first | exact Or.inl rfl | exact Or.inr rfl | rfl | skip
  all_goals try simp only [tk_c, not_true_eq_false, not_false_eq_true, Int.toNat_natCast, hy0] at *
  all_goals first | omega | skip
  · exact ⟨(), kA (by omega)⟩
  refine ⟨(), ma_in tg_Mo_connect rfl (by decide) (by decide) ?_⟩
  generalize hz : f_in x 1 100000 = z
  have hz0 := f_in_0 x 1 100000
  rw [hz] at hz0
  refine tk_goA fo_Mo co_Mo tg_Mo_connect 60 [46] ?_
  repeat' first | refine And.intro ?_ ?_ | intro _
  all_goals first | exact Or.inl rfl | exact Or.inr rfl | rfl | skip
  all_goals try simp only [tk_c, not_true_eq_false, not_false_eq_true, Int.toNat_natCast, hz0] at *
  all_goals first | omega | skip
  · rw [if_neg (by omega)] at ed
    refine ⟨(), ma_f0 h0 tg_Mo_connect rfl (by decide) (by decide) ?_⟩
    have em : m_con N t.toNat x = tk_up (tk_up (tk_up (tk_up N 18 t.toNat 1) 19 t.toNat 0) 20 t.toNat 0) 21 t.toNat x := rfl
    have hq := hq (by omega) (by omega) (by omega) (by omega) hbg
    rw [em] at hq ed
    refine tk_goA fo_Mo co_Mo tg_Mo_connect 60 [] ?_
    repeat' first | refine And.intro ?_ ?_ | intro _
    all_goals first | exact Or.inl rfl | exact Or.inr rfl | rfl | skip
    all_goals try simp only [tk_c, not_true_eq_false, not_false_eq_true, Int.toNat_natCast] at *
    all_goals first | omega | skip
    refine ⟨(), ma_settle hq tg_Mo_connect rfl (by decide) (by decide) ?_⟩
    rw [ed]
    refine tk_goA fo_Mo co_Mo tg_Mo_connect 60 [] ?_
    exact ⟨rfl, rfl⟩
  · exact ⟨(), kA (by omega)⟩
theorem k_Mo_connect (l : Launch) (M : tk_M) (t : Int) (x : Int) (hq : 0 ≤ t → t ≤ 7 → 1 ≤ x → x ≤ 100000 → ¬ M 7 11 = 0 → q_fi (m_con (m0 M) t.toNat x)) : tk_C l y_Mo_connect 6 90 [.inr 7, .inl t, .inl x] M (tk_z (d_connect t x (m0 M))) := by
  refine tk_C.of wc_Mo_connect rfl (Nat.le_of_ble_eq_true rfl) fun hr hM => ?_
  have h := kn_Mo_connect l (m0 M) t x (m0_0 M) (by rw [m0_o (by omega)]; exact hq)
  have e : m0 M = tk_up M 7 0 0 := rfl
  generalize d_connect t x (m0 M) = Z at *
  rw [e] at h
  refine tk_goA fo_Mo co_Mo tg_Mo_connect 40 [5] ?_
  repeat' first | refine And.intro ?_ ?_ | intro _
  all_goals first | omega | skip
  exact ⟨(), h⟩
def m_lv (N : tk_M) (t : Nat) : tk_M := tk_up (tk_up (tk_up N 18 t 0) 19 t 0) 20 t 0
def d_leave (t : Int) (N : tk_M) : tk_Z := if N 7 11 = 0 then (.inl none, tk_up N 7 0 1) else if ¬ (0 ≤ t ∧ t ≤ 7) then (.inl none, tk_up N 7 0 2) else if N 18 t.toNat = 0 then (.inl none, tk_up N 7 0 3) else (.inl none, m_set (m_lv N t.toNat))
theorem kn_Mo_leave (l : Launch) (N : tk_M) (t : Int) (h0 : N 7 0 = 0) (hq : 0 ≤ t → t ≤ 7 → ¬ N 7 11 = 0 → ¬ N 18 t.toNat = 0 → q_fi (m_lv N t.toNat)) : tk_At l "TrackKeeperModel" prog_8_method_23_code 2 none 6 90 (tk_z (d_leave t N)) 5 [some (.inr 7), some (.inl t)] [] N := by
  have ed : d_leave t N = if N 7 11 = 0 then (.inl none, tk_up N 7 0 1) else if ¬ (0 ≤ t ∧ t ≤ 7) then (.inl none, tk_up N 7 0 2) else if N 18 t.toNat = 0 then (.inl none, tk_up N 7 0 3) else (.inl none, m_set (m_lv N t.toNat)) := rfl
  generalize d_leave t N = Z at *
  have kR : ∀ c : Int, Z = (.inl none, tk_up N 7 0 c) → tk_At l "TrackKeeperModel" prog_8_method_23_code 2 none 6 90 (tk_z Z) 70 [some (.inr 7), some (.inl t)] [] (tk_up N 7 0 c) := fun c e => by
    rw [e]
    refine tk_goA fo_Mo co_Mo tg_Mo_leave 60 [] ?_
    exact ⟨rfl, rfl⟩
  refine tk_goA fo_Mo co_Mo tg_Mo_leave 60 [70] ?_
  repeat' first | refine And.intro ?_ ?_ | intro _
  all_goals first | exact Or.inl rfl | exact Or.inr rfl | rfl | skip
  all_goals try simp only [tk_c, not_true_eq_false, not_false_eq_true, Int.toNat_natCast] at *
  all_goals first | omega | skip
  rotate_left
  · rw [if_pos (by omega)] at ed
    refine ⟨(), ma_f1 h0 (by decide) tg_Mo_leave rfl (by decide) (by decide) ?_⟩
    refine tk_goA fo_Mo co_Mo tg_Mo_leave 60 [70] ?_
    repeat' first | refine And.intro ?_ ?_ | intro _
    all_goals first | exact Or.inl rfl | exact Or.inr rfl | rfl | skip
    all_goals try simp only [tk_c, not_true_eq_false, not_false_eq_true, Int.toNat_natCast] at *
    all_goals first | omega | skip
    exact ⟨(), kR _ ed⟩
  rename_i hbg
  rw [if_neg hbg] at ed
  refine ⟨(), ma_f0 h0 tg_Mo_leave rfl (by decide) (by decide) ?_⟩
  refine tk_goA fo_Mo co_Mo tg_Mo_leave 60 [] ?_
  repeat' first | refine And.intro ?_ ?_ | intro _
  all_goals first | exact Or.inl rfl | exact Or.inr rfl | rfl | skip
  all_goals try simp only [tk_c, not_true_eq_false, not_false_eq_true, Int.toNat_natCast] at *
  all_goals first | omega | skip
  refine ⟨(), ma_in tg_Mo_leave rfl (by decide) (by decide) ?_⟩
  generalize hy : f_in t 0 7 = y
  have hy0 := f_in_0 t 0 7
  rw [hy] at hy0
  refine tk_goA fo_Mo co_Mo tg_Mo_leave 60 [70] ?_
  repeat' first | refine And.intro ?_ ?_ | intro _
  all_goals first | exact Or.inl rfl | exact Or.inr rfl | rfl | skip
  all_goals try simp only [tk_c, not_true_eq_false, not_false_eq_true, Int.toNat_natCast, hy0] at *
  all_goals first | omega | skip
  · rw [if_neg (by omega)] at ed
    refine ⟨(), ma_f0 h0 tg_Mo_leave rfl (by decide) (by decide) ?_⟩
    refine tk_goA fo_Mo co_Mo tg_Mo_leave 60 [70] ?_
    repeat' first | refine And.intro ?_ ?_ | intro _
    all_goals first | exact Or.inl rfl | exact Or.inr rfl | rfl | skip
    all_goals try simp only [tk_c, not_true_eq_false, not_false_eq_true, Int.toNat_natCast] at *
    all_goals first | omega | skip
    · rw [if_neg (by omega)] at ed
      refine ⟨(), ma_f0 h0 tg_Mo_leave rfl (by decide) (by decide) ?_⟩
      have em : m_lv N t.toNat = tk_up (tk_up (tk_up N 18 t.toNat 0) 19 t.toNat 0) 20 t.toNat 0 := rfl
      have hq := hq (by omega) (by omega) hbg (by omega)
      rw [em] at hq ed
      refine tk_goA fo_Mo co_Mo tg_Mo_leave 60 [] ?_
      repeat' first | refine And.intro ?_ ?_ | intro _
      all_goals first | exact Or.inl rfl | exact Or.inr rfl | rfl | skip
      all_goals try simp only [tk_c, not_true_eq_false, not_false_eq_true, Int.toNat_natCast] at *
      all_goals first | omega | skip
      refine ⟨(), ma_settle hq tg_Mo_leave rfl (by decide) (by decide) ?_⟩
      rw [ed]
      refine tk_goA fo_Mo co_Mo tg_Mo_leave 60 [] ?_
      exact ⟨rfl, rfl⟩
    · rw [if_pos (by omega)] at ed
      refine ⟨(), ma_f1 h0 (by decide) tg_Mo_leave rfl (by decide) (by decide) ?_⟩
      refine tk_goA fo_Mo co_Mo tg_Mo_leave 60 [70] ?_
      repeat' first | refine And.intro ?_ ?_ | intro _
      all_goals first | exact Or.inl rfl | exact Or.inr rfl | rfl | skip
      all_goals try simp only [tk_c, not_true_eq_false, not_false_eq_true, Int.toNat_natCast] at *
      all_goals first | omega | skip
      exact ⟨(), kR _ ed⟩
  · rw [if_pos (by omega)] at ed
    refine ⟨(), ma_f1 h0 (by decide) tg_Mo_leave rfl (by decide) (by decide) ?_⟩
    refine tk_goA fo_Mo co_Mo tg_Mo_leave 60 [70] ?_
    repeat' first | refine And.intro ?_ ?_ | intro _
    all_goals first | exact Or.inl rfl | exact Or.inr rfl | rfl | skip
    all_goals try simp only [tk_c, not_true_eq_false, not_false_eq_true, Int.toNat_natCast] at *
    all_goals first | omega | skip
    exact ⟨(), kR _ ed⟩
theorem k_Mo_leave (l : Launch) (M : tk_M) (t : Int) (hq : 0 ≤ t → t ≤ 7 → ¬ M 7 11 = 0 → ¬ M 18 t.toNat = 0 → q_fi (m_lv (m0 M) t.toNat)) : tk_C l y_Mo_leave 6 90 [.inr 7, .inl t] M (tk_z (d_leave t (m0 M))) := by
  refine tk_C.of wc_Mo_leave rfl (Nat.le_of_ble_eq_true rfl) fun hr hM => ?_
  have h := kn_Mo_leave l (m0 M) t (m0_0 M) (by rw [m0_o (by omega), m0_o (by omega)]; exact hq)
  have e : m0 M = tk_up M 7 0 0 := rfl
  generalize d_leave t (m0 M) = Z at *
  rw [e] at h
  refine tk_goA fo_Mo co_Mo tg_Mo_leave 40 [5] ?_
  repeat' first | refine And.intro ?_ ?_ | intro _
  all_goals first | omega | skip
  exact ⟨(), h⟩
def d_state (k : Int) (N : tk_M) : tk_Z := if N 7 11 = 0 then (.inl (some 0), tk_up N 7 0 1) else if ¬ (0 ≤ k ∧ k ≤ N 7 2 - 1) then (.inl (some 0), tk_up N 7 0 2) else (.inl (some (N 12 k.toNat)), N)
theorem kn_Mo_state (l : Launch) (N : tk_M) (k : Int) (h0 : N 7 0 = 0) (q1 : 0 ≤ N 7 2) (q2 : N 7 2 ≤ 32) : tk_At l "TrackKeeperModel" prog_8_method_27_code 2 (some .int) 6 90 (tk_z (d_state k N)) 5 [some (.inr 7), some (.inl k)] [] N := by
  have ed : d_state k N = if N 7 11 = 0 then (.inl (some 0), tk_up N 7 0 1) else if ¬ (0 ≤ k ∧ k ≤ N 7 2 - 1) then (.inl (some 0), tk_up N 7 0 2) else (.inl (some (N 12 k.toNat)), N) := rfl
  generalize d_state k N = Z at *
  have kR : ∀ c : Int, Z = (.inl (some 0), tk_up N 7 0 c) → tk_At l "TrackKeeperModel" prog_8_method_27_code 2 (some .int) 6 90 (tk_z Z) 52 [some (.inr 7), some (.inl k)] [] (tk_up N 7 0 c) := fun c e => by
    rw [e]
    refine tk_goA fo_Mo co_Mo tg_Mo_state 60 [] ?_
    exact ⟨rfl, rfl⟩
  refine tk_goA fo_Mo co_Mo tg_Mo_state 60 [52] ?_
  repeat' first | refine And.intro ?_ ?_ | intro _
  all_goals first | exact Or.inl rfl | exact Or.inr rfl | rfl | skip
  all_goals try simp only [tk_c, not_true_eq_false, not_false_eq_true, Int.toNat_natCast] at *
  all_goals first | omega | skip
  rotate_left
  · rw [if_pos (by omega)] at ed
    refine ⟨(), ma_f1 h0 (by decide) tg_Mo_state rfl (by decide) (by decide) ?_⟩
    refine tk_goA fo_Mo co_Mo tg_Mo_state 60 [52] ?_
    repeat' first | refine And.intro ?_ ?_ | intro _
    all_goals first | exact Or.inl rfl | exact Or.inr rfl | rfl | skip
    all_goals try simp only [tk_c, not_true_eq_false, not_false_eq_true, Int.toNat_natCast] at *
    all_goals first | omega | skip
    exact ⟨(), kR _ ed⟩
  rename_i hbg
  rw [if_neg hbg] at ed
  refine ⟨(), ma_f0 h0 tg_Mo_state rfl (by decide) (by decide) ?_⟩
  refine tk_goA fo_Mo co_Mo tg_Mo_state 60 [] ?_
  repeat' first | refine And.intro ?_ ?_ | intro _
  all_goals first | exact Or.inl rfl | exact Or.inr rfl | rfl | skip
  all_goals try simp only [tk_c, not_true_eq_false, not_false_eq_true, Int.toNat_natCast] at *
  all_goals first | omega | skip
  refine ⟨(), ma_in tg_Mo_state rfl (by decide) (by decide) ?_⟩
  generalize hy : f_in k 0 (N 7 2 - 1) = y
  have hy0 := f_in_0 k 0 (N 7 2 - 1)
  rw [hy] at hy0
  refine tk_goA fo_Mo co_Mo tg_Mo_state 60 [52] ?_
  repeat' first | refine And.intro ?_ ?_ | intro _
  all_goals first | exact Or.inl rfl | exact Or.inr rfl | rfl | skip
  all_goals try simp only [tk_c, not_true_eq_false, not_false_eq_true, Int.toNat_natCast, hy0] at *
  all_goals first | omega | skip
  · rw [if_neg (by omega)] at ed
    rw [ed]
    refine ⟨(), ma_f0 h0 tg_Mo_state rfl (by decide) (by decide) ?_⟩
    refine tk_goA fo_Mo co_Mo tg_Mo_state 60 [] ?_
    repeat' first | refine And.intro ?_ ?_ | intro _
    all_goals first | exact Or.inl rfl | exact Or.inr rfl | rfl | skip
    all_goals try simp only [tk_c, not_true_eq_false, not_false_eq_true, Int.toNat_natCast] at *
    all_goals first | omega | skip
  · rw [if_pos (by omega)] at ed
    refine ⟨(), ma_f1 h0 (by decide) tg_Mo_state rfl (by decide) (by decide) ?_⟩
    refine tk_goA fo_Mo co_Mo tg_Mo_state 60 [52] ?_
    repeat' first | refine And.intro ?_ ?_ | intro _
    all_goals first | exact Or.inl rfl | exact Or.inr rfl | rfl | skip
    all_goals try simp only [tk_c, not_true_eq_false, not_false_eq_true, Int.toNat_natCast] at *
    all_goals first | omega | skip
    exact ⟨(), kR _ ed⟩
theorem k_Mo_state (l : Launch) (M : tk_M) (k : Int) (q1 : 0 ≤ M 7 2) (q2 : M 7 2 ≤ 32) : tk_C l y_Mo_state 6 90 [.inr 7, .inl k] M (tk_z (d_state k (m0 M))) := by
  refine tk_C.of wc_Mo_state rfl (Nat.le_of_ble_eq_true rfl) fun hr hM => ?_
  have h := kn_Mo_state l (m0 M) k (m0_0 M) (by rw [m0_o (by omega)]; exact q1) (by rw [m0_o (by omega)]; exact q2)
  have e : m0 M = tk_up M 7 0 0 := rfl
  generalize d_state k (m0 M) = Z at *
  rw [e] at h
  refine tk_goA fo_Mo co_Mo tg_Mo_state 40 [5] ?_
  repeat' first | refine And.intro ?_ ?_ | intro _
  all_goals first | omega | skip
  exact ⟨(), h⟩
def m_tell (N : tk_M) (t : Nat) (w : Int) : Int := if w = 0 then f_b (N 18 t) else if w = 1 then f_b (m_loc N t) else if w = 2 then f_b (m_who N t) else if w = 3 then N 26 t else if m_loc N t = 0 then -1 else if w = 4 then (m_a N t : Int) else (m_z N t : Int)
def d_train (t : Int) (w : Int) (N : tk_M) : tk_Z := if N 7 11 = 0 then (.inl (some 0), tk_up N 7 0 1) else if ¬ (0 ≤ t ∧ t ≤ 7) ∨ ¬ (0 ≤ w ∧ w ≤ 5) then (.inl (some 0), tk_up N 7 0 2) else (.inl (some (m_tell N t.toNat w)), N)
theorem kn_Mo_train (l : Launch) (N : tk_M) (t : Int) (w : Int) (h0 : N 7 0 = 0) (q1 : N 7 2 ≤ 32) (qt : q_tm N) : tk_At l "TrackKeeperModel" prog_8_method_28_code 3 (some .int) 6 90 (tk_z (d_train t w N)) 5 [some (.inr 7), some (.inl t), some (.inl w)] [] N := by
  have ed : d_train t w N = if N 7 11 = 0 then (.inl (some 0), tk_up N 7 0 1) else if ¬ (0 ≤ t ∧ t ≤ 7) ∨ ¬ (0 ≤ w ∧ w ≤ 5) then (.inl (some 0), tk_up N 7 0 2) else (.inl (some (m_tell N t.toNat w)), N) := rfl
  generalize d_train t w N = Z at *
  have kR : ∀ c : Int, Z = (.inl (some 0), tk_up N 7 0 c) → tk_At l "TrackKeeperModel" prog_8_method_28_code 3 (some .int) 6 90 (tk_z Z) 57 [some (.inr 7), some (.inl t), some (.inl w)] [] (tk_up N 7 0 c) := fun c e => by
    rw [e]
    refine tk_goA fo_Mo co_Mo tg_Mo_train 60 [] ?_
    exact ⟨rfl, rfl⟩
  refine tk_goA fo_Mo co_Mo tg_Mo_train 60 [57] ?_
  repeat' first | refine And.intro ?_ ?_ | intro _
  all_goals first | exact Or.inl rfl | exact Or.inr rfl | rfl | skip
  all_goals try simp only [tk_c, not_true_eq_false, not_false_eq_true, Int.toNat_natCast] at *
  all_goals first | omega | skip
  rotate_left
  · rw [if_pos (by omega)] at ed
    refine ⟨(), ma_f1 h0 (by decide) tg_Mo_train rfl (by decide) (by decide) ?_⟩
    refine tk_goA fo_Mo co_Mo tg_Mo_train 60 [57] ?_
    repeat' first | refine And.intro ?_ ?_ | intro _
    all_goals first | exact Or.inl rfl | exact Or.inr rfl | rfl | skip
    all_goals try simp only [tk_c, not_true_eq_false, not_false_eq_true, Int.toNat_natCast] at *
    all_goals first | omega | skip
    exact ⟨(), kR _ ed⟩
  rename_i hbg
  rw [if_neg hbg] at ed
  refine ⟨(), ma_f0 h0 tg_Mo_train rfl (by decide) (by decide) ?_⟩
  have kA : (¬ (0 ≤ t ∧ t ≤ 7) ∨ ¬ (0 ≤ w ∧ w ≤ 5)) → tk_At l "TrackKeeperModel" prog_8_method_28_code 3 (some .int) 6 90 (tk_z Z) 45 [some (.inr 7), some (.inl t), some (.inl w)] [.inl (.inr 7)] N := fun h => by
    rw [if_pos h] at ed
    refine tk_goA fo_Mo co_Mo tg_Mo_train 60 [57] ?_
    refine ⟨(), ma_f1 h0 (by decide) tg_Mo_train rfl (by decide) (by decide) ?_⟩
    refine tk_goA fo_Mo co_Mo tg_Mo_train 60 [57] ?_
    repeat' first | refine And.intro ?_ ?_ | intro _
    all_goals first | exact Or.inl rfl | exact Or.inr rfl | rfl | skip
    all_goals try simp only [tk_c, not_true_eq_false, not_false_eq_true, Int.toNat_natCast] at *
    all_goals first | omega | skip
    exact ⟨(), kR _ ed⟩
  refine tk_goA fo_Mo co_Mo tg_Mo_train 60 [45] ?_
  repeat' first | refine And.intro ?_ ?_ | intro _
  all_goals first | exact Or.inl rfl | exact Or.inr rfl | rfl | skip
  all_goals try simp only [tk_c, not_true_eq_false, not_false_eq_true, Int.toNat_natCast] at *
  all_goals first | omega | skip
  refine ⟨(), ma_in tg_Mo_train rfl (by decide) (by decide) ?_⟩
  generalize hy : f_in t 0 7 = y
  have hy0 := f_in_0 t 0 7
  rw [hy] at hy0
  refine tk_goA fo_Mo co_Mo tg_Mo_train 60 [45] ?_
  repeat' first | refine And.intro ?_ ?_ | intro _
  all_goals first | exact Or.inl rfl | exact Or.inr rfl | rfl | skip
  all_goals try simp only [tk_c, not_true_eq_false, not_false_eq_true, Int.toNat_natCast, hy0] at *
  all_goals first | omega | skip
  · exact ⟨(), kA (by omega)⟩
  refine ⟨(), ma_in tg_Mo_train rfl (by decide) (by decide) ?_⟩
  generalize hz : f_in w 0 5 = z
  have hz0 := f_in_0 w 0 5
  rw [hz] at hz0
  refine tk_goA fo_Mo co_Mo tg_Mo_train 60 [45] ?_
  repeat' first | refine And.intro ?_ ?_ | intro _
  all_goals first | exact Or.inl rfl | exact Or.inr rfl | rfl | skip
  all_goals try simp only [tk_c, not_true_eq_false, not_false_eq_true, Int.toNat_natCast, hz0] at *
  all_goals first | omega | skip
  · rw [if_neg (by omega)] at ed
    clear kA kR
    obtain ⟨u, rfl⟩ : ∃ u : Nat, t = (u : Int) := ⟨t.toNat, by omega⟩
    simp only [Int.toNat_natCast] at ed
    unfold m_tell at ed
    refine ⟨(), ma_f0 h0 tg_Mo_train rfl (by decide) (by decide) ?_⟩
    refine tk_goA fo_Mo co_Mo tg_Mo_train 60 [] ?_
    repeat' first | refine And.intro ?_ ?_ | intro _
    all_goals first | exact Or.inl rfl | exact Or.inr rfl | rfl | skip
    all_goals try simp only [tk_c, not_true_eq_false, not_false_eq_true, Int.toNat_natCast] at *
    all_goals first | omega | skip
    · rw [if_neg (by omega), if_neg (by omega), if_neg (by omega), if_neg (by omega)] at ed
      refine ⟨(), ma_loc (by omega) qt tg_Mo_train rfl (by decide) (by decide) ?_⟩
      generalize m_loc N u = y at *
      refine tk_goA fo_Mo co_Mo tg_Mo_train 60 [] ?_
      repeat' first | refine And.intro ?_ ?_ | intro _
      all_goals first | exact Or.inl rfl | exact Or.inr rfl | rfl | skip
      all_goals try simp only [tk_c, not_true_eq_false, not_false_eq_true, Int.toNat_natCast] at *
      all_goals first | omega | skip
      · rw [if_neg (by omega), if_neg (by omega)] at ed
        refine ⟨(), ma_at q1 tg_Mo_train rfl (by decide) (by decide) ?_⟩
        unfold m_z at ed
        rw [ed]
        generalize m_at N (N 22 u) 32 0 = y
        refine tk_goA fo_Mo co_Mo tg_Mo_train 60 [] ?_
        exact ⟨rfl, rfl⟩
      · rw [if_neg (by omega), if_pos (by omega)] at ed
        refine ⟨(), ma_at q1 tg_Mo_train rfl (by decide) (by decide) ?_⟩
        unfold m_a at ed
        rw [ed]
        generalize m_at N (N 23 u) 32 0 = y
        refine tk_goA fo_Mo co_Mo tg_Mo_train 60 [] ?_
        exact ⟨rfl, rfl⟩
      · rw [if_pos (by omega)] at ed
        rw [ed]
      · rw [if_pos (by omega)] at ed
        rw [ed]
    · rw [if_pos (by omega)] at ed
      unfold f_b at ed
      rw [if_pos (by omega)] at ed
      rw [ed]
    · rw [ed]
    · rw [if_pos (by omega)] at ed
      unfold f_b at ed
      rw [if_neg (by omega)] at ed
      rw [ed]
    · rw [ed]
    · rw [if_neg (by omega), if_pos (by omega)] at ed
      unfold f_b at ed
      refine ⟨(), ma_loc (by omega) qt tg_Mo_train rfl (by decide) (by decide) ?_⟩
      rw [ed]
      clear ed
      generalize m_loc N u = y at *
      refine tk_goA fo_Mo co_Mo tg_Mo_train 60 [] ?_
      repeat' first | refine And.intro ?_ ?_ | intro _
      all_goals first | exact Or.inl rfl | exact Or.inr rfl | rfl | skip
      all_goals try simp only [tk_c, not_true_eq_false, not_false_eq_true, Int.toNat_natCast] at *
      all_goals first | omega | skip
      · rw [if_pos (by omega)]
      · rw [if_neg (by omega)]
    · rw [if_neg (by omega), if_neg (by omega), if_pos (by omega)] at ed
      unfold f_b at ed
      refine ⟨(), ma_who (by omega) qt tg_Mo_train rfl (by decide) (by decide) ?_⟩
      rw [ed]
      clear ed
      generalize m_who N u = y at *
      refine tk_goA fo_Mo co_Mo tg_Mo_train 60 [] ?_
      repeat' first | refine And.intro ?_ ?_ | intro _
      all_goals first | exact Or.inl rfl | exact Or.inr rfl | rfl | skip
      all_goals try simp only [tk_c, not_true_eq_false, not_false_eq_true, Int.toNat_natCast] at *
      all_goals first | omega | skip
      · rw [if_pos (by omega)]
      · rw [if_neg (by omega)]
    · rw [if_neg (by omega), if_neg (by omega), if_neg (by omega), if_pos (by omega)] at ed
      rw [ed]
    · rw [ed]
    · trivial
  · exact ⟨(), kA (by omega)⟩
theorem k_Mo_train (l : Launch) (M : tk_M) (t : Int) (w : Int) (q1 : M 7 2 ≤ 32) (qt : q_tm (m0 M)) : tk_C l y_Mo_train 6 90 [.inr 7, .inl t, .inl w] M (tk_z (d_train t w (m0 M))) := by
  refine tk_C.of wc_Mo_train rfl (Nat.le_of_ble_eq_true rfl) fun hr hM => ?_
  have h := kn_Mo_train l (m0 M) t w (m0_0 M) (by rw [m0_o (by omega)]; exact q1) qt
  have e : m0 M = tk_up M 7 0 0 := rfl
  generalize d_train t w (m0 M) = Z at *
  rw [e] at h
  refine tk_goA fo_Mo co_Mo tg_Mo_train 40 [5] ?_
  repeat' first | refine And.intro ?_ ?_ | intro _
  all_goals first | omega | skip
  exact ⟨(), h⟩
def m_cnt (N : tk_M) (w k : Int) : Int := if w = 0 then N 7 1 else if w = 1 then N 7 2 else if w = 2 then N 7 3 else if w = 3 then N 7 7 else if w = 4 then N 7 8 else if w = 5 then N 7 9 else if w = 6 then N 11 k.toNat else f_b (N 16 k.toNat)
def d_count (w : Int) (k : Int) (N : tk_M) : tk_Z := if ¬ (0 ≤ w ∧ w ≤ 7) ∨ (5 < w ∧ ¬ (0 ≤ k ∧ k ≤ N 7 1 - 1)) then (.inl (some 0), tk_up N 7 0 1) else (.inl (some (m_cnt N w k)), N)
theorem kn_Mo_count (l : Launch) (N : tk_M) (w : Int) (k : Int) (h0 : N 7 0 = 0) (q1 : 0 ≤ N 7 1) (q2 : N 7 1 ≤ 10) : tk_At l "TrackKeeperModel" prog_8_method_29_code 3 (some .int) 6 90 (tk_z (d_count w k N)) 5 [some (.inr 7), some (.inl w), some (.inl k)] [] N := by
  have ed : d_count w k N = if ¬ (0 ≤ w ∧ w ≤ 7) ∨ (5 < w ∧ ¬ (0 ≤ k ∧ k ≤ N 7 1 - 1)) then (.inl (some 0), tk_up N 7 0 1) else (.inl (some (m_cnt N w k)), N) := rfl
  generalize d_count w k N = Z at *
  have kR : ∀ c : Int, Z = (.inl (some 0), tk_up N 7 0 c) → tk_At l "TrackKeeperModel" prog_8_method_29_code 3 (some .int) 6 90 (tk_z Z) 47 [some (.inr 7), some (.inl w), some (.inl k)] [] (tk_up N 7 0 c) := fun c e => by
    rw [e]
    refine tk_goA fo_Mo co_Mo tg_Mo_count 60 [] ?_
    exact ⟨rfl, rfl⟩
  have kA : (¬ (0 ≤ w ∧ w ≤ 7) ∨ (5 < w ∧ ¬ (0 ≤ k ∧ k ≤ N 7 1 - 1))) → tk_At l "TrackKeeperModel" prog_8_method_29_code 3 (some .int) 6 90 (tk_z Z) 35 [some (.inr 7), some (.inl w), some (.inl k)] [.inl (.inr 7)] N := fun h => by
    rw [if_pos h] at ed
    refine tk_goA fo_Mo co_Mo tg_Mo_count 60 [47] ?_
    refine ⟨(), ma_f1 h0 (by decide) tg_Mo_count rfl (by decide) (by decide) ?_⟩
    refine tk_goA fo_Mo co_Mo tg_Mo_count 60 [47] ?_
    repeat' first | refine And.intro ?_ ?_ | intro _
    all_goals first | exact Or.inl rfl | exact Or.inr rfl | rfl | skip
    all_goals try simp only [tk_c, not_true_eq_false, not_false_eq_true, Int.toNat_natCast] at *
    all_goals first | omega | skip
    exact ⟨(), kR _ ed⟩
  have kB : ¬ (¬ (0 ≤ w ∧ w ≤ 7) ∨ (5 < w ∧ ¬ (0 ≤ k ∧ k ≤ N 7 1 - 1))) → tk_At l "TrackKeeperModel" prog_8_method_29_code 3 (some .int) 6 90 (tk_z Z) 39 [some (.inr 7), some (.inl w), some (.inl k)] [.inl (.inr 7)] N := fun h => by
    rw [if_neg h] at ed
    unfold m_cnt f_b at ed
    rw [ed]
    clear kR kA
    refine tk_goA fo_Mo co_Mo tg_Mo_count 60 [47] ?_
    refine ⟨(), ma_f0 h0 tg_Mo_count rfl (by decide) (by decide) ?_⟩
    refine tk_goA fo_Mo co_Mo tg_Mo_count 60 [] ?_
    repeat' first | refine And.intro ?_ ?_ | intro _
    all_goals first | exact Or.inl rfl | exact Or.inr rfl | rfl | skip
    all_goals try simp only [tk_c, not_true_eq_false, not_false_eq_true, Int.toNat_natCast] at *
    all_goals first | omega | skip
    all_goals first | trivial | ((repeat' split) <;> first | rfl | omega)
  refine tk_goA fo_Mo co_Mo tg_Mo_count 60 [35, 39] ?_
  refine ⟨(), ma_in tg_Mo_count rfl (by decide) (by decide) ?_⟩
  generalize hy : f_in w 0 7 = y
  have hy0 := f_in_0 w 0 7
  rw [hy] at hy0
  refine tk_goA fo_Mo co_Mo tg_Mo_count 60 [35, 39] ?_
  repeat' first | refine And.intro ?_ ?_ | intro _
  all_goals first | exact Or.inl rfl | exact Or.inr rfl | rfl | skip
  all_goals try simp only [tk_c, not_true_eq_false, not_false_eq_true, Int.toNat_natCast, hy0] at *
  all_goals first | omega | skip
  · exact ⟨(), kA (by omega)⟩
  · exact ⟨(), kB (by omega)⟩
  refine ⟨(), ma_in tg_Mo_count rfl (by decide) (by decide) ?_⟩
  generalize hz : f_in k 0 (N 7 1 - 1) = z
  have hz0 := f_in_0 k 0 (N 7 1 - 1)
  rw [hz] at hz0
  refine tk_goA fo_Mo co_Mo tg_Mo_count 60 [35, 39] ?_
  repeat' first | refine And.intro ?_ ?_ | intro _
  all_goals first | exact Or.inl rfl | exact Or.inr rfl | rfl | skip
  all_goals try simp only [tk_c, not_true_eq_false, not_false_eq_true, Int.toNat_natCast, hz0] at *
  all_goals first | omega | skip
  · exact ⟨(), kB (by omega)⟩
  · exact ⟨(), kA (by omega)⟩
theorem k_Mo_count (l : Launch) (M : tk_M) (w : Int) (k : Int) (q1 : 0 ≤ M 7 1) (q2 : M 7 1 ≤ 10) : tk_C l y_Mo_count 6 90 [.inr 7, .inl w, .inl k] M (tk_z (d_count w k (m0 M))) := by
  refine tk_C.of wc_Mo_count rfl (Nat.le_of_ble_eq_true rfl) fun hr hM => ?_
  have h := kn_Mo_count l (m0 M) w k (m0_0 M) (by rw [m0_o (by omega)]; exact q1) (by rw [m0_o (by omega)]; exact q2)
  have e : m0 M = tk_up M 7 0 0 := rfl
  generalize d_count w k (m0 M) = Z at *
  rw [e] at h
  refine tk_goA fo_Mo co_Mo tg_Mo_count 40 [5] ?_
  repeat' first | refine And.intro ?_ ?_ | intro _
  all_goals first | omega | skip
  exact ⟨(), h⟩
end
section
/-! THE REFERENCE: report, tick, request -/
def m_rp1 (N : tk_M) (t : Nat) (pl it : Int) : tk_M := if N 19 t = 0 ∨ it = 1 then tk_up N 23 t (if pl - N 21 t < 0 then 0 else pl - N 21 t) else N
def m_rp2 (N : tk_M) (t : Nat) (pl tm : Int) : tk_M := tk_up (tk_up (tk_up N 19 t 1) 22 t pl) 24 t tm
def m_rp3 (N : tk_M) (t : Nat) (it tm : Int) : tk_M := if it = 1 then tk_up (tk_up N 20 t 1) 25 t tm else if it = 2 then tk_up N 20 t 0 else N
def m_rep (N : tk_M) (t : Nat) (pl it : Int) : tk_M := m_rp3 (m_rp2 (m_rp1 N t pl it) t pl (N 7 3)) t it (N 7 3)
theorem kn_Mo_rep3 (l : Launch) (X : tk_M) (t : Nat) (ht : t < 8) (pl it b tm : Int) (h7 : X 7 3 = tm) (Z : tk_Z) (hq : q_fi (m_rp3 (m_rp2 X t pl tm) t it tm)) (ed : Z = (.inl (some 1), m_set (m_rp3 (m_rp2 X t pl tm) t it tm))) : tk_At l "TrackKeeperModel" prog_8_method_22_code 5 (some .boolean) 6 90 (tk_z Z) 161 [some (.inr 7), some (.inl (t : Int)), some (.inl pl), some (.inl it), some (.inl b)] [] X := by
  have u1 : tk_up (tk_up X 19 t 1) 22 t pl 7 3 = tm := by rw [tk_up_n (by omega), tk_up_n (by omega)]; exact h7
  have e2 : m_rp2 X t pl tm = tk_up (tk_up (tk_up X 19 t 1) 22 t pl) 24 t tm := rfl
  rw [e2] at hq ed
  have u2 : tk_up (tk_up (tk_up (tk_up X 19 t 1) 22 t pl) 24 t tm) 20 t 1 7 3 = tm := by rw [tk_up_n (by omega), tk_up_n (by omega), u1]
  unfold m_rp3 at hq ed
  refine tk_goA fo_Mo co_Mo tg_Mo_report 60 [219] ?_
  repeat' first | refine And.intro ?_ ?_ | intro _
  all_goals first | exact Or.inl rfl | exact Or.inr rfl | rfl | skip
  all_goals try simp only [tk_c, not_true_eq_false, not_false_eq_true, Int.toNat_natCast, u1, u2] at *
  all_goals first | omega | skip
  · rw [if_neg (by omega), if_neg (by omega)] at hq ed
    rw [ed]
    refine ⟨(), ?_⟩
    refine tk_goA fo_Mo co_Mo tg_Mo_report 60 [] ?_
    refine ⟨(), ma_settle hq tg_Mo_report rfl (by decide) (by decide) ?_⟩
    refine tk_goA fo_Mo co_Mo tg_Mo_report 60 [] ?_
    exact ⟨Or.inr rfl, rfl, rfl⟩
  · rw [if_neg (by omega), if_pos (by omega)] at hq ed
    rw [ed]
    refine ⟨(), ?_⟩
    refine tk_goA fo_Mo co_Mo tg_Mo_report 60 [] ?_
    refine ⟨(), ma_settle hq tg_Mo_report rfl (by decide) (by decide) ?_⟩
    refine tk_goA fo_Mo co_Mo tg_Mo_report 60 [] ?_
    exact ⟨Or.inr rfl, rfl, rfl⟩
  · rw [if_pos (by omega)] at hq ed
    rw [ed]
    refine ⟨(), ?_⟩
    refine tk_goA fo_Mo co_Mo tg_Mo_report 60 [] ?_
    refine ⟨(), ma_settle hq tg_Mo_report rfl (by decide) (by decide) ?_⟩
    refine tk_goA fo_Mo co_Mo tg_Mo_report 60 [] ?_
    exact ⟨Or.inr rfl, rfl, rfl⟩
def d_report (t : Int) (pl : Int) (it : Int) (N : tk_M) : tk_Z := if N 7 11 = 0 then (.inl (some 0), tk_up N 7 0 1) else if ¬ (0 ≤ t ∧ t ≤ 7) ∨ ¬ (0 ≤ it ∧ it ≤ 2) ∨ ¬ (0 ≤ pl ∧ pl ≤ N 7 10) then (.inl (some 0), tk_up N 7 0 2) else if N 18 t.toNat = 0 then (.inl (some 0), tk_up N 7 0 3) else if ¬ N 19 t.toNat = 0 ∧ pl < N 22 t.toNat then (.inl (some 0), N) else (.inl (some 1), m_set (m_rep N t.toNat pl it))
theorem kn_Mo_report (l : Launch) (N : tk_M) (t : Int) (pl : Int) (it : Int) (h0 : N 7 0 = 0) (q1 : ∀ t : Nat, t < 8 → ¬ N 18 t = 0 → 0 ≤ N 21 t) (hq : 0 ≤ t → t ≤ 7 → 0 ≤ it → it ≤ 2 → 0 ≤ pl → pl ≤ N 7 10 → ¬ N 7 11 = 0 → ¬ N 18 t.toNat = 0 → ¬ (¬ N 19 t.toNat = 0 ∧ pl < N 22 t.toNat) → q_fi (m_rep N t.toNat pl it)) : tk_At l "TrackKeeperModel" prog_8_method_22_code 5 (some .boolean) 6 90 (tk_z (d_report t pl it N)) 5 [some (.inr 7), some (.inl t), some (.inl pl), some (.inl it), none] [] N := by
  have ed : d_report t pl it N = if N 7 11 = 0 then (.inl (some 0), tk_up N 7 0 1) else if ¬ (0 ≤ t ∧ t ≤ 7) ∨ ¬ (0 ≤ it ∧ it ≤ 2) ∨ ¬ (0 ≤ pl ∧ pl ≤ N 7 10) then (.inl (some 0), tk_up N 7 0 2) else if N 18 t.toNat = 0 then (.inl (some 0), tk_up N 7 0 3) else if ¬ N 19 t.toNat = 0 ∧ pl < N 22 t.toNat then (.inl (some 0), N) else (.inl (some 1), m_set (m_rep N t.toNat pl it)) := rfl
  generalize d_report t pl it N = Z at *
  have kR : ∀ c : Int, Z = (.inl (some 0), tk_up N 7 0 c) → tk_At l "TrackKeeperModel" prog_8_method_22_code 5 (some .boolean) 6 90 (tk_z Z) 91 [some (.inr 7), some (.inl t), some (.inl pl), some (.inl it), none] [] (tk_up N 7 0 c) := fun c e => by
    rw [e]
    refine tk_goA fo_Mo co_Mo tg_Mo_report 60 [] ?_
    exact ⟨Or.inl rfl, rfl, rfl⟩
  refine tk_goA fo_Mo co_Mo tg_Mo_report 60 [91] ?_
  repeat' first | refine And.intro ?_ ?_ | intro _
  all_goals first | exact Or.inl rfl | exact Or.inr rfl | rfl | skip
  all_goals try simp only [tk_c, not_true_eq_false, not_false_eq_true, Int.toNat_natCast] at *
  all_goals first | omega | skip
  rotate_left
  · rw [if_pos (by omega)] at ed
    refine ⟨(), ma_f1 h0 (by decide) tg_Mo_report rfl (by decide) (by decide) ?_⟩
    refine tk_goA fo_Mo co_Mo tg_Mo_report 60 [91] ?_
    repeat' first | refine And.intro ?_ ?_ | intro _
    all_goals first | exact Or.inl rfl | exact Or.inr rfl | rfl | skip
    all_goals try simp only [tk_c, not_true_eq_false, not_false_eq_true, Int.toNat_natCast] at *
    all_goals first | omega | skip
    exact ⟨(), kR _ ed⟩
  rename_i hbg
  rw [if_neg hbg] at ed
  refine ⟨(), ma_f0 h0 tg_Mo_report rfl (by decide) (by decide) ?_⟩
  have kA : (¬ (0 ≤ t ∧ t ≤ 7) ∨ ¬ (0 ≤ it ∧ it ≤ 2) ∨ ¬ (0 ≤ pl ∧ pl ≤ N 7 10)) → tk_At l "TrackKeeperModel" prog_8_method_22_code 5 (some .boolean) 6 90 (tk_z Z) 57 [some (.inr 7), some (.inl t), some (.inl pl), some (.inl it), none] [.inl (.inr 7)] N := fun h => by
    rw [if_pos h] at ed
    refine tk_goA fo_Mo co_Mo tg_Mo_report 60 [91] ?_
    refine ⟨(), ma_f1 h0 (by decide) tg_Mo_report rfl (by decide) (by decide) ?_⟩
    refine tk_goA fo_Mo co_Mo tg_Mo_report 60 [91] ?_
    repeat' first | refine And.intro ?_ ?_ | intro _
    all_goals first | exact Or.inl rfl | exact Or.inr rfl | rfl | skip
    all_goals try simp only [tk_c, not_true_eq_false, not_false_eq_true, Int.toNat_natCast] at *
    all_goals first | omega | skip
    exact ⟨(), kR _ ed⟩
  refine tk_goA fo_Mo co_Mo tg_Mo_report 60 [57] ?_
  repeat' first | refine And.intro ?_ ?_ | intro _
  all_goals first | exact Or.inl rfl | exact Or.inr rfl | rfl | skip
  all_goals try simp only [tk_c, not_true_eq_false, not_false_eq_true, Int.toNat_natCast] at *
  all_goals first | omega | skip
  refine ⟨(), ma_in tg_Mo_report rfl (by decide) (by decide) ?_⟩
  generalize hy : f_in t 0 7 = y
  have hy0 := f_in_0 t 0 7
  rw [hy] at hy0
  refine tk_goA fo_Mo co_Mo tg_Mo_report 60 [57] ?_
  repeat' first | refine And.intro ?_ ?_ | intro _
  all_goals first | exact Or.inl rfl | exact Or.inr rfl | rfl | skip
  all_goals try simp only [tk_c, not_true_eq_false, not_false_eq_true, Int.toNat_natCast, hy0] at *
  all_goals first | omega | skip
  · exact ⟨(), kA (by omega)⟩
  refine ⟨(), ma_in tg_Mo_report rfl (by decide) (by decide) ?_⟩
  generalize hz : f_in it 0 2 = z
  have hz0 := f_in_0 it 0 2
  rw [hz] at hz0
  refine tk_goA fo_Mo co_Mo tg_Mo_report 60 [57] ?_
  repeat' first | refine And.intro ?_ ?_ | intro _
  all_goals first | exact Or.inl rfl | exact Or.inr rfl | rfl | skip
  all_goals try simp only [tk_c, not_true_eq_false, not_false_eq_true, Int.toNat_natCast, hz0] at *
  all_goals first | omega | skip
  · exact ⟨(), kA (by omega)⟩
  refine ⟨(), ma_in tg_Mo_report rfl (by decide) (by decide) ?_⟩
  generalize hx : f_in pl 0 (N 7 10) = x
  have hx0 := f_in_0 pl 0 (N 7 10)
  rw [hx] at hx0
  refine tk_goA fo_Mo co_Mo tg_Mo_report 60 [57] ?_
  repeat' first | refine And.intro ?_ ?_ | intro _
  all_goals first | exact Or.inl rfl | exact Or.inr rfl | rfl | skip
  all_goals try simp only [tk_c, not_true_eq_false, not_false_eq_true, Int.toNat_natCast, hx0] at *
  all_goals first | omega | skip
  rotate_left
  · exact ⟨(), kA (by omega)⟩
  rw [if_neg (by omega)] at ed
  clear kA
  obtain ⟨u, rfl⟩ : ∃ u : Nat, t = (u : Int) := ⟨t.toNat, by omega⟩
  simp only [Int.toNat_natCast] at ed
  refine ⟨(), ma_f0 h0 tg_Mo_report rfl (by decide) (by decide) ?_⟩
  refine tk_goA fo_Mo co_Mo tg_Mo_report 60 [91] ?_
  repeat' first | refine And.intro ?_ ?_ | intro _
  all_goals first | exact Or.inl rfl | exact Or.inr rfl | rfl | skip
  all_goals try simp only [tk_c, not_true_eq_false, not_false_eq_true, Int.toNat_natCast] at *
  all_goals first | omega | skip
  rotate_left
  · rw [if_pos (by omega)] at ed
    refine ⟨(), ma_f1 h0 (by decide) tg_Mo_report rfl (by decide) (by decide) ?_⟩
    refine tk_goA fo_Mo co_Mo tg_Mo_report 60 [91] ?_
    repeat' first | refine And.intro ?_ ?_ | intro _
    all_goals first | exact Or.inl rfl | exact Or.inr rfl | rfl | skip
    all_goals try simp only [tk_c, not_true_eq_false, not_false_eq_true, Int.toNat_natCast] at *
    all_goals first | omega | skip
    exact ⟨(), kR _ ed⟩
  have hc : ¬ N 18 u = 0 := by assumption
  rw [if_neg hc] at ed
  have qu := q1 u (by omega) hc
  have k153 : ∀ b : Int, b = (if pl - N 21 u < 0 then 0 else pl - N 21 u) → ¬ (¬ N 19 u = 0 ∧ pl < N 22 u) → tk_At l "TrackKeeperModel" prog_8_method_22_code 5 (some .boolean) 6 90 (tk_z Z) 139 [some (.inr 7), some (.inl (u : Int)), some (.inl pl), some (.inl it), some (.inl b)] [] N := fun b eb hw => by
    rw [if_neg hw] at ed
    have hq := hq (by omega) (by omega) (by omega) (by omega) (by omega) (by omega) hbg hc hw
    have er : m_rep N u pl it = m_rp3 (m_rp2 (m_rp1 N u pl it) u pl (N 7 3)) u it (N 7 3) := rfl
    rw [er] at ed hq
    have kX : ∀ X : tk_M, m_rp1 N u pl it = X → X 7 3 = N 7 3 → tk_At l "TrackKeeperModel" prog_8_method_22_code 5 (some .boolean) 6 90 (tk_z Z) 161 [some (.inr 7), some (.inl (u : Int)), some (.inl pl), some (.inl it), some (.inl b)] [] X := fun X eX e7 => by
      rw [eX] at ed hq
      exact kn_Mo_rep3 l X u (by omega) pl it b (N 7 3) e7 Z hq ed
    have e1 : m_rp1 N u pl it = if N 19 u = 0 ∨ it = 1 then tk_up N 23 u (if pl - N 21 u < 0 then 0 else pl - N 21 u) else N := rfl
    rw [← eb] at e1
    have k9 : (N 19 u = 0 ∨ it = 1) → tk_At l "TrackKeeperModel" prog_8_method_22_code 5 (some .boolean) 6 90 (tk_z Z) 153 [some (.inr 7), some (.inl (u : Int)), some (.inl pl), some (.inl it), some (.inl b)] [] N := fun h => by
      rw [if_pos h] at e1
      refine tk_goA fo_Mo co_Mo tg_Mo_report 60 [161] ?_
      repeat' first | refine And.intro ?_ ?_ | intro _
      all_goals first | exact Or.inl rfl | exact Or.inr rfl | rfl | skip
      all_goals try simp only [tk_c, not_true_eq_false, not_false_eq_true, Int.toNat_natCast] at *
      all_goals first | omega | skip
      exact ⟨(), kX _ e1 (tk_up_n (by omega))⟩
    refine tk_goA fo_Mo co_Mo tg_Mo_report 60 [153, 161] ?_
    repeat' first | refine And.intro ?_ ?_ | intro _
    all_goals first | exact Or.inl rfl | exact Or.inr rfl | rfl | skip
    all_goals try simp only [tk_c, not_true_eq_false, not_false_eq_true, Int.toNat_natCast] at *
    all_goals first | omega | skip
    · exact ⟨(), k9 (by omega)⟩
    · rw [if_neg (by omega)] at e1
      exact ⟨(), kX _ e1 rfl⟩
    · exact ⟨(), k9 (by omega)⟩
  refine ⟨(), ma_f0 h0 tg_Mo_report rfl (by decide) (by decide) ?_⟩
  clear kR hq
  have k114 : ¬ (¬ N 19 u = 0 ∧ pl < N 22 u) → tk_At l "TrackKeeperModel" prog_8_method_22_code 5 (some .boolean) 6 90 (tk_z Z) 114 [some (.inr 7), some (.inl (u : Int)), some (.inl pl), some (.inl it), none] [] N := fun hw => by
    refine tk_goA fo_Mo co_Mo tg_Mo_report 60 [139] ?_
    repeat' first | refine And.intro ?_ ?_ | intro _
    all_goals first | exact Or.inl rfl | exact Or.inr rfl | rfl | skip
    all_goals try simp only [tk_c, not_true_eq_false, not_false_eq_true, Int.toNat_natCast] at *
    all_goals first | omega | skip
    · exact ⟨(), k153 _ (by rw [if_neg (by omega)]) hw⟩
    · exact ⟨(), k153 _ (by rw [if_pos (by omega)]) hw⟩
  refine tk_goA fo_Mo co_Mo tg_Mo_report 60 [114] ?_
  repeat' first | refine And.intro ?_ ?_ | intro _
  all_goals first | exact Or.inl rfl | exact Or.inr rfl | rfl | skip
  all_goals try simp only [tk_c, not_true_eq_false, not_false_eq_true, Int.toNat_natCast] at *
  all_goals first | omega | skip
  · exact ⟨(), k114 (by omega)⟩
  · exact ⟨(), k114 (by omega)⟩
  · rw [if_pos (by omega)] at ed
    rw [ed]
  · rw [if_pos (by omega)] at ed
    rw [ed]
theorem k_Mo_report (l : Launch) (M : tk_M) (t : Int) (pl : Int) (it : Int) (q1 : ∀ t : Nat, t < 8 → ¬ M 18 t = 0 → 0 ≤ M 21 t) (hq : 0 ≤ t → t ≤ 7 → 0 ≤ it → it ≤ 2 → 0 ≤ pl → pl ≤ M 7 10 → ¬ M 7 11 = 0 → ¬ M 18 t.toNat = 0 → ¬ (¬ M 19 t.toNat = 0 ∧ pl < M 22 t.toNat) → q_fi (m_rep (m0 M) t.toNat pl it)) : tk_C l y_Mo_report 6 90 [.inr 7, .inl t, .inl pl, .inl it] M (tk_z (d_report t pl it (m0 M))) := by
  refine tk_C.of wc_Mo_report rfl (Nat.le_of_ble_eq_true rfl) fun hr hM => ?_
  have h := kn_Mo_report l (m0 M) t pl it (m0_0 M) (fun t ht => by rw [m0_o (by omega), m0_o (by omega)]; exact q1 t ht) (by rw [m0_o (by omega), m0_o (by omega), m0_o (by omega), m0_o (by omega), m0_o (by omega)]; exact hq)
  have e : m0 M = tk_up M 7 0 0 := rfl
  generalize d_report t pl it (m0 M) = Z at *
  rw [e] at h
  refine tk_goA fo_Mo co_Mo tg_Mo_report 40 [5] ?_
  repeat' first | refine And.intro ?_ ?_ | intro _
  all_goals first | omega | skip
  exact ⟨(), h⟩
end
section
/-! THE REFERENCE: tick, request -/
/-- one section's counting -/
def m_c1 (M : tk_M) (s : Nat) : tk_M := if m_hld M s = 0 then M else if M 11 s + 1 < M 7 6 then tk_up M 11 s (M 11 s + 1) else tk_up (tk_up (tk_up (tk_up M 11 s (M 11 s + 1)) 17 s 1) 7 9 (M 7 9 + 1)) 11 s 0
def m_cs (M : tk_M) : Nat → tk_M
  | 0 => M
  | n + 1 => m_c1 (m_cs M n) n
theorem m_c1_o {M : tk_M} {s c j : Nat} (h1 : ¬ ((c = 11 ∨ c = 17) ∧ j = s)) (h2 : ¬ (c = 7 ∧ j = 9)) : m_c1 M s c j = M c j := by
  unfold m_c1
  split
  · rfl
  · split
    · rw [tk_up_n (by omega)]
    · rw [tk_up_n (by omega), tk_up_n (by omega), tk_up_n (by omega), tk_up_n (by omega)]
theorem m_c1_79 {M : tk_M} {s : Nat} : M 7 9 ≤ m_c1 M s 7 9 ∧ m_c1 M s 7 9 ≤ M 7 9 + 1 := by
  unfold m_c1
  split
  · omega
  · split
    · rw [tk_up_n (by omega)]; omega
    · rw [tk_up_n (by omega), tk_up_s]; omega
theorem m_cs_o {M : tk_M} {c j : Nat} (h2 : ¬ (c = 7 ∧ j = 9)) : ∀ n : Nat, ¬ ((c = 11 ∨ c = 17) ∧ j < n) → m_cs M n c j = M c j
  | 0, _ => rfl
  | n + 1, h1 => by
    show m_c1 (m_cs M n) n c j = _
    rw [m_c1_o (by omega) h2]
    exact m_cs_o h2 n (by omega)
theorem m_cs_79 (M : tk_M) : ∀ n : Nat, M 7 9 ≤ m_cs M n 7 9 ∧ m_cs M n 7 9 ≤ M 7 9 + n
  | 0 => ⟨Int.le_refl _, by show M 7 9 ≤ _; omega⟩
  | n + 1 => by
    have ih := m_cs_79 M n
    have h := m_c1_79 (M := m_cs M n) (s := n)
    show M 7 9 ≤ m_c1 (m_cs M n) n 7 9 ∧ m_c1 (m_cs M n) n 7 9 ≤ _
    omega
def q_c (M : tk_M) : Prop := 0 ≤ M 7 1 ∧ M 7 1 ≤ 10 ∧ 0 ≤ M 7 2 ∧ M 7 2 ≤ 32 ∧ M 7 9 < 2147483000 ∧ ∀ s : Nat, (s : Int) < M 7 1 → M 11 s < 2147483000
theorem lp_Mo_tick1 (l : Launch) (M : tk_M) (hq : q_c M) (n i : Int) (P : (Option Int ⊕ Nat) → tk_M → Prop) (hP : tk_At l "TrackKeeperModel" prog_8_method_24_code 4 (some .int) 6 90 P 161 [some (.inr 7), some (.inl n), some (.inl i), some (.inl (M 7 1))] [] (m_cs M (M 7 1).toNat)) : ∀ k s : Nat, s + k = (M 7 1).toNat →
    tk_At l "TrackKeeperModel" prog_8_method_24_code 4 (some .int) 6 90 P 94 [some (.inr 7), some (.inl n), some (.inl i), some (.inl (s : Int))] [] (m_cs M s) := by
  obtain ⟨q1, q2, q3, q4, q5, q6⟩ := hq
  intro k
  induction k with
  | zero =>
    intro s hs
    have e : s = (M 7 1).toNat := by omega
    have e2 : (s : Int) = M 7 1 := by omega
    have e7 : m_cs M s 7 1 = M 7 1 := m_cs_o (by omega) s (by omega)
    rw [← e, ← e2] at hP
    generalize m_cs M s = X at *
    refine tk_goA fo_Mo co_Mo tg_Mo_tick 60 [94, 161] ?_
    repeat' first | refine And.intro ?_ ?_ | intro _
    all_goals first | exact Or.inl rfl | exact Or.inr rfl | rfl | skip
    all_goals try simp only [tk_c, not_true_eq_false, not_false_eq_true, Int.toNat_natCast] at *
    all_goals first | omega | skip
    exact ⟨(), hP⟩
  | succ k ih =>
    intro s hs
    have h9 := ih (s + 1) (by omega)
    have e9 : m_cs M (s + 1) = m_c1 (m_cs M s) s := rfl
    have e7 : m_cs M s 7 1 = M 7 1 := m_cs_o (by omega) s (by omega)
    have e72 : m_cs M s 7 2 = M 7 2 := m_cs_o (by omega) s (by omega)
    have e11 : m_cs M s 11 s = M 11 s := m_cs_o (by omega) s (by omega)
    have q11 := q6 s (by omega)
    have e79 := m_cs_79 M s
    rw [e9] at h9
    clear hP e9
    generalize m_cs M s = X at *
    have ec : m_c1 X s = if m_hld X s = 0 then X else if X 11 s + 1 < X 7 6 then tk_up X 11 s (X 11 s + 1) else tk_up (tk_up (tk_up (tk_up X 11 s (X 11 s + 1)) 17 s 1) 7 9 (X 7 9 + 1)) 11 s 0 := rfl
    generalize m_c1 X s = Y at *
    refine tk_goA fo_Mo co_Mo tg_Mo_tick 60 [94, 161] ?_
    repeat' first | refine And.intro ?_ ?_ | intro _
    all_goals first | exact Or.inl rfl | exact Or.inr rfl | rfl | skip
    all_goals try simp only [tk_c, not_true_eq_false, not_false_eq_true, Int.toNat_natCast] at *
    all_goals first | omega | skip
    refine ⟨(), ma_holds (by omega) (by omega) (by omega) tg_Mo_tick rfl (by decide) (by decide) ?_⟩
    generalize m_hld X s = h at *
    have u6 : ∀ x, tk_up X 11 s x 7 6 = X 7 6 := fun x => tk_up_n (by omega)
    have u9 : ∀ x, tk_up (tk_up X 11 s x) 17 s 1 7 9 = X 7 9 := fun x => by rw [tk_up_n (by omega), tk_up_n (by omega)]
    refine tk_goA fo_Mo co_Mo tg_Mo_tick 60 [94, 161] ?_
    repeat' first | refine And.intro ?_ ?_ | intro _
    all_goals first | exact Or.inl rfl | exact Or.inr rfl | rfl | skip
    all_goals try simp only [tk_c, not_true_eq_false, not_false_eq_true, Int.toNat_natCast, u6, u9] at *
    all_goals first | omega | skip
    · rw [if_pos (by omega)] at ec
      rw [ec] at h9
      exact ⟨(), h9⟩
    · rw [if_neg (by omega), if_neg (by omega)] at ec
      rw [ec] at h9
      exact ⟨(), h9⟩
    · rw [if_neg (by omega), if_pos (by omega)] at ec
      rw [ec] at h9
      exact ⟨(), h9⟩
def m_tick (M : tk_M) : tk_M := m_set (m_cs (tk_up M 7 3 (M 7 3 + 1)) (M 7 1).toNat)
def h_tick : Nat → tk_M → tk_M
  | 0, M => M
  | n + 1, M => h_tick n (m_tick M)
def q_tk (M : tk_M) : Prop := q_c M ∧ 0 ≤ M 7 3 ∧ M 7 3 < 2147483000 ∧ q_fi (m_cs (tk_up M 7 3 (M 7 3 + 1)) (M 7 1).toNat)
theorem m_tick_73 {M : tk_M} : m_tick M 7 3 = M 7 3 + 1 := by
  unfold m_tick m_set
  rw [m_se_o (by omega) (by omega), m_find_7 (by decide), m_cs_o (by omega) _ (by omega), tk_up_s]
theorem lp_Mo_tick (l : Launch) (n : Int) (hn : n ≤ 1000) : ∀ (k : Nat) (i : Int) (M : tk_M) (Z : tk_Z) (o : Option tk_U), i + k = n → 0 ≤ i → (∀ j : Nat, j < k → q_tk (h_tick j M)) → Z = (.inl (some (M 7 3 + k)), h_tick k M) →
    tk_At l "TrackKeeperModel" prog_8_method_24_code 4 (some .int) 6 90 (tk_z Z) 77 [some (.inr 7), some (.inl n), some (.inl i), o] [] M := by
  intro k
  induction k with
  | zero =>
    intro i M Z o hi h0 hq hZ
    have e : M 7 3 + ((0 : Nat) : Int) = M 7 3 := by omega
    rw [e] at hZ
    rw [hZ]
    refine tk_goA fo_Mo co_Mo tg_Mo_tick 60 [77] ?_
    repeat' first | refine And.intro ?_ ?_ | intro _
    all_goals first | exact Or.inl rfl | exact Or.inr rfl | rfl | skip
    all_goals try simp only [tk_c, not_true_eq_false, not_false_eq_true, Int.toNat_natCast] at *
    all_goals first | omega | skip
  | succ k ih =>
    intro i M Z o hi h0 hq hZ
    obtain ⟨q1, q2, q3, q4⟩ : q_tk M := hq 0 (by omega)
    have h9 := fun o => ih (i + 1) (m_tick M) Z o (by omega) (by omega) (fun j hj => hq (j + 1) (by omega)) (by
      have e : M 7 3 + ((k + 1 : Nat) : Int) = M 7 3 + 1 + (k : Int) := by omega
      rw [hZ, m_tick_73, e]
      rfl)
    have ef : m_tick M = m_set (m_cs (tk_up M 7 3 (M 7 3 + 1)) (M 7 1).toNat) := rfl
    rw [ef] at h9
    have u71 : tk_up M 7 3 (M 7 3 + 1) 7 1 = M 7 1 := tk_up_n (by omega)
    have u72 : tk_up M 7 3 (M 7 3 + 1) 7 2 = M 7 2 := tk_up_n (by omega)
    have qc : q_c (tk_up M 7 3 (M 7 3 + 1)) := by
      obtain ⟨c1, c2, c3, c4, c5, c6⟩ := q1
      exact ⟨by rw [u71]; exact c1, by rw [u71]; exact c2, by rw [u72]; exact c3, by rw [u72]; exact c4, by rw [tk_up_n (by omega)]; exact c5, fun s hs => by rw [tk_up_n (by omega)]; rw [u71] at hs; exact c6 s hs⟩
    have h1 := lp_Mo_tick1 l (tk_up M 7 3 (M 7 3 + 1)) qc n i (tk_z Z) ?_ (M 7 1).toNat 0 (by rw [u71]; omega)
    · refine tk_goA fo_Mo co_Mo tg_Mo_tick 60 [94] ?_
      repeat' first | refine And.intro ?_ ?_ | intro _
      all_goals first | exact Or.inl rfl | exact Or.inr rfl | rfl | skip
      all_goals try simp only [tk_c, not_true_eq_false, not_false_eq_true, Int.toNat_natCast] at *
      all_goals first | omega | skip
      exact ⟨(), h1⟩
    · rw [u71]
      generalize m_cs (tk_up M 7 3 (M 7 3 + 1)) (M 7 1).toNat = X at *
      refine tk_goA fo_Mo co_Mo tg_Mo_tick 60 [94] ?_
      refine ⟨(), ma_settle q4 tg_Mo_tick rfl (by decide) (by decide) ?_⟩
      have h9 := h9 (some (.inl (M 7 1)))
      generalize m_set X = Y at *
      refine tk_goA fo_Mo co_Mo tg_Mo_tick 60 [77] ?_
      repeat' first | refine And.intro ?_ ?_ | intro _
      all_goals first | exact Or.inl rfl | exact Or.inr rfl | rfl | skip
      all_goals try simp only [tk_c, not_true_eq_false, not_false_eq_true, Int.toNat_natCast] at *
      all_goals first | omega | skip
      exact ⟨(), h9⟩
def d_tick (n : Int) (N : tk_M) : tk_Z := if N 7 11 = 0 then (.inl (some 0), tk_up N 7 0 1) else if ¬ (1 ≤ n ∧ n ≤ 1000) then (.inl (some 0), tk_up N 7 0 2) else if 100000000 < N 7 3 + n then (.inl (some 0), tk_up N 7 0 3) else (.inl (some (N 7 3 + n)), h_tick n.toNat N)
theorem kn_Mo_tick (l : Launch) (N : tk_M) (n : Int) (h0 : N 7 0 = 0) (q3 : 0 ≤ N 7 3) (q4 : N 7 3 ≤ 2000000000) (hq : 1 ≤ n → n ≤ 1000 → ¬ N 7 11 = 0 → ∀ j : Nat, j < n.toNat → q_tk (h_tick j N)) : tk_At l "TrackKeeperModel" prog_8_method_24_code 4 (some .int) 6 90 (tk_z (d_tick n N)) 5 [some (.inr 7), some (.inl n), none, none] [] N := by
  have ed : d_tick n N = if N 7 11 = 0 then (.inl (some 0), tk_up N 7 0 1) else if ¬ (1 ≤ n ∧ n ≤ 1000) then (.inl (some 0), tk_up N 7 0 2) else if 100000000 < N 7 3 + n then (.inl (some 0), tk_up N 7 0 3) else (.inl (some (N 7 3 + n)), h_tick n.toNat N) := rfl
  generalize d_tick n N = Z at *
  have kR : ∀ c : Int, Z = (.inl (some 0), tk_up N 7 0 c) → tk_At l "TrackKeeperModel" prog_8_method_24_code 4 (some .int) 6 90 (tk_z Z) 73 [some (.inr 7), some (.inl n), none, none] [] (tk_up N 7 0 c) := fun c e => by
    rw [e]
    refine tk_goA fo_Mo co_Mo tg_Mo_tick 60 [] ?_
    exact ⟨rfl, rfl⟩
  refine tk_goA fo_Mo co_Mo tg_Mo_tick 60 [73] ?_
  repeat' first | refine And.intro ?_ ?_ | intro _
  all_goals first | exact Or.inl rfl | exact Or.inr rfl | rfl | skip
  all_goals try simp only [tk_c, not_true_eq_false, not_false_eq_true, Int.toNat_natCast] at *
  all_goals first | omega | skip
  rotate_left
  · rw [if_pos (by omega)] at ed
    refine ⟨(), ma_f1 h0 (by decide) tg_Mo_tick rfl (by decide) (by decide) ?_⟩
    refine tk_goA fo_Mo co_Mo tg_Mo_tick 60 [73] ?_
    repeat' first | refine And.intro ?_ ?_ | intro _
    all_goals first | exact Or.inl rfl | exact Or.inr rfl | rfl | skip
    all_goals try simp only [tk_c, not_true_eq_false, not_false_eq_true, Int.toNat_natCast] at *
    all_goals first | omega | skip
    exact ⟨(), kR _ ed⟩
  rename_i hbg
  rw [if_neg hbg] at ed
  refine ⟨(), ma_f0 h0 tg_Mo_tick rfl (by decide) (by decide) ?_⟩
  refine tk_goA fo_Mo co_Mo tg_Mo_tick 60 [] ?_
  repeat' first | refine And.intro ?_ ?_ | intro _
  all_goals first | exact Or.inl rfl | exact Or.inr rfl | rfl | skip
  all_goals try simp only [tk_c, not_true_eq_false, not_false_eq_true, Int.toNat_natCast] at *
  all_goals first | omega | skip
  refine ⟨(), ma_in tg_Mo_tick rfl (by decide) (by decide) ?_⟩
  generalize hy : f_in n 1 1000 = y
  have hy0 := f_in_0 n 1 1000
  rw [hy] at hy0
  refine tk_goA fo_Mo co_Mo tg_Mo_tick 60 [73] ?_
  repeat' first | refine And.intro ?_ ?_ | intro _
  all_goals first | exact Or.inl rfl | exact Or.inr rfl | rfl | skip
  all_goals try simp only [tk_c, not_true_eq_false, not_false_eq_true, Int.toNat_natCast, hy0] at *
  all_goals first | omega | skip
  · rw [if_neg (by omega)] at ed
    refine ⟨(), ma_f0 h0 tg_Mo_tick rfl (by decide) (by decide) ?_⟩
    refine tk_goA fo_Mo co_Mo tg_Mo_tick 60 [73] ?_
    repeat' first | refine And.intro ?_ ?_ | intro _
    all_goals first | exact Or.inl rfl | exact Or.inr rfl | rfl | skip
    all_goals try simp only [tk_c, not_true_eq_false, not_false_eq_true, Int.toNat_natCast] at *
    all_goals first | omega | skip
    · rw [if_neg (by omega)] at ed
      refine ⟨(), ma_f0 h0 tg_Mo_tick rfl (by decide) (by decide) ?_⟩
      refine tk_goA fo_Mo co_Mo tg_Mo_tick 60 [77] ?_
      repeat' first | refine And.intro ?_ ?_ | intro _
      all_goals first | exact Or.inl rfl | exact Or.inr rfl | rfl | skip
      all_goals try simp only [tk_c, not_true_eq_false, not_false_eq_true, Int.toNat_natCast] at *
      all_goals first | omega | skip
      refine ⟨(), lp_Mo_tick l n (by omega) n.toNat 0 N Z none (by omega) (by omega) (hq (by omega) (by omega) hbg) ?_⟩
      rw [ed, Int.toNat_of_nonneg (by omega)]
    · rw [if_pos (by omega)] at ed
      refine ⟨(), ma_f1 h0 (by decide) tg_Mo_tick rfl (by decide) (by decide) ?_⟩
      refine tk_goA fo_Mo co_Mo tg_Mo_tick 60 [73] ?_
      repeat' first | refine And.intro ?_ ?_ | intro _
      all_goals first | exact Or.inl rfl | exact Or.inr rfl | rfl | skip
      all_goals try simp only [tk_c, not_true_eq_false, not_false_eq_true, Int.toNat_natCast] at *
      all_goals first | omega | skip
      exact ⟨(), kR _ ed⟩
  · rw [if_pos (by omega)] at ed
    refine ⟨(), ma_f1 h0 (by decide) tg_Mo_tick rfl (by decide) (by decide) ?_⟩
    refine tk_goA fo_Mo co_Mo tg_Mo_tick 60 [73] ?_
    repeat' first | refine And.intro ?_ ?_ | intro _
    all_goals first | exact Or.inl rfl | exact Or.inr rfl | rfl | skip
    all_goals try simp only [tk_c, not_true_eq_false, not_false_eq_true, Int.toNat_natCast] at *
    all_goals first | omega | skip
    exact ⟨(), kR _ ed⟩
theorem k_Mo_tick (l : Launch) (M : tk_M) (n : Int) (q3 : 0 ≤ M 7 3) (q4 : M 7 3 ≤ 2000000000) (hq : 1 ≤ n → n ≤ 1000 → ¬ M 7 11 = 0 → ∀ j : Nat, j < n.toNat → q_tk (h_tick j (m0 M))) : tk_C l y_Mo_tick 6 90 [.inr 7, .inl n] M (tk_z (d_tick n (m0 M))) := by
  refine tk_C.of wc_Mo_tick rfl (Nat.le_of_ble_eq_true rfl) fun hr hM => ?_
  have h := kn_Mo_tick l (m0 M) n (m0_0 M) (by rw [m0_o (by omega)]; exact q3) (by rw [m0_o (by omega)]; exact q4) (by rw [m0_o (by omega)]; exact hq)
  have e : m0 M = tk_up M 7 0 0 := rfl
  generalize d_tick n (m0 M) = Z at *
  rw [e] at h
  refine tk_goA fo_Mo co_Mo tg_Mo_tick 40 [5] ?_
  repeat' first | refine And.intro ?_ ?_ | intro _
  all_goals first | omega | skip
  exact ⟨(), h⟩
def m_tkn (M : tk_M) (k num : Int) : Nat → Nat → Int
  | 0, _ => 0
  | n + 1, i => if ¬ (i : Int) = num ∧ k ≤ M 26 i ∧ ¬ m_loc M i = 0 ∧ (m_z M i : Int) < k then 1 else m_tkn M k num n (i + 1)
theorem lp_Mo_isTaken (l : Launch) (M : tk_M) (k num r : Int) (q1 : M 7 2 ≤ 32) (qt : q_tm M) : ∀ n i : Nat, i + n = 8 → m_tkn M k num n i = r →
    tk_At l "TrackKeeperModel" prog_8_method_26_code 4 (some .boolean) 1 16 (fun q M' => q = .inl (some r) ∧ M' = M) 2 [some (.inr 7), some (.inl k), some (.inl num), some (.inl (i : Int))] [] M := by
  intro n
  induction n with
  | zero =>
    intro i hi hr
    have hr : 0 = r := hr
    subst hr
    refine tk_goA fo_Mo co_Mo tg_Mo_isTaken 60 [2] ?_
    repeat' first | refine And.intro ?_ ?_ | intro _
    all_goals first | exact Or.inl rfl | exact Or.inr rfl | rfl | skip
    all_goals try simp only [tk_c, not_true_eq_false, not_false_eq_true, Int.toNat_natCast] at *
    all_goals first | omega | skip
  | succ n ih =>
    intro i hi hr
    have h9 := ih (i + 1) (by omega)
    have k47 : ¬ (¬ (i : Int) = num ∧ k ≤ M 26 i ∧ ¬ m_loc M i = 0 ∧ (m_z M i : Int) < k) → tk_At l "TrackKeeperModel" prog_8_method_26_code 4 (some .boolean) 1 16 (fun q M' => q = .inl (some r) ∧ M' = M) 47 [some (.inr 7), some (.inl k), some (.inl num), some (.inl (i : Int))] [] M := fun h => by
      unfold m_tkn at hr
      rw [if_neg h] at hr
      refine tk_goA fo_Mo co_Mo tg_Mo_isTaken 60 [2] ?_
      repeat' first | refine And.intro ?_ ?_ | intro _
      all_goals first | exact Or.inl rfl | exact Or.inr rfl | rfl | skip
      all_goals try simp only [tk_c, not_true_eq_false, not_false_eq_true, Int.toNat_natCast] at *
      all_goals first | omega | skip
      exact ⟨(), h9 hr⟩
    refine tk_goA fo_Mo co_Mo tg_Mo_isTaken 60 [47] ?_
    repeat' first | refine And.intro ?_ ?_ | intro _
    all_goals first | exact Or.inl rfl | exact Or.inr rfl | rfl | skip
    all_goals try simp only [tk_c, not_true_eq_false, not_false_eq_true, Int.toNat_natCast] at *
    all_goals first | omega | skip
    · exact ⟨(), k47 (by omega)⟩
    · exact ⟨(), k47 (by omega)⟩
    · refine ⟨(), ma_loc (by omega) qt tg_Mo_isTaken rfl (by decide) (by decide) ?_⟩
      have h01 := m_loc01 M i
      by_cases hl : m_loc M i = 0
      · rw [hl]
        refine tk_goA fo_Mo co_Mo tg_Mo_isTaken 60 [47] ?_
        repeat' first | refine And.intro ?_ ?_ | intro _
        all_goals first | exact Or.inl rfl | exact Or.inr rfl | rfl | skip
        all_goals try simp only [tk_c, not_true_eq_false, not_false_eq_true, Int.toNat_natCast] at *
        all_goals first | omega | skip
        exact ⟨(), k47 (by omega)⟩
      · rw [show m_loc M i = 1 by omega]
        refine tk_goA fo_Mo co_Mo tg_Mo_isTaken 60 [47] ?_
        repeat' first | refine And.intro ?_ ?_ | intro _
        all_goals first | exact Or.inl rfl | exact Or.inr rfl | rfl | skip
        all_goals try simp only [tk_c, not_true_eq_false, not_false_eq_true, Int.toNat_natCast] at *
        all_goals first | omega | skip
        refine ⟨(), ma_at q1 tg_Mo_isTaken rfl (by decide) (by decide) ?_⟩
        have ez : m_z M i = m_at M (M 22 i) 32 0 := rfl
        rw [← ez]
        unfold m_tkn at hr
        generalize m_loc M i = lc at *
        generalize m_z M i = z at *
        refine tk_goA fo_Mo co_Mo tg_Mo_isTaken 60 [47] ?_
        repeat' first | refine And.intro ?_ ?_ | intro _
        all_goals first | exact Or.inl rfl | exact Or.inr rfl | rfl | skip
        all_goals try simp only [tk_c, not_true_eq_false, not_false_eq_true, Int.toNat_natCast] at *
        all_goals first | omega | skip
        · exact ⟨(), k47 (by omega)⟩
        · rw [if_pos (by omega)] at hr
          rw [hr]
theorem m_tkn01 (M : tk_M) (k num : Int) : ∀ n i : Nat, m_tkn M k num n i = 0 ∨ m_tkn M k num n i = 1
  | 0, _ => Or.inl rfl
  | n + 1, i => by
    unfold m_tkn
    split
    · exact Or.inr rfl
    · exact m_tkn01 M k num n (i + 1)
theorem k_Mo_isTaken (l : Launch) (M : tk_M) (k num : Int) (q1 : M 7 2 ≤ 32) (qt : q_tm M) : tk_C l y_Mo_isTaken 1 16 [.inr 7, .inl k, .inl num] M (fun q M' => q = .inl (some (m_tkn M k num 8 0)) ∧ M' = M) := by
  refine tk_C.of wc_Mo_isTaken rfl (Nat.le_of_ble_eq_true rfl) fun hr hM => ?_
  refine tk_goA fo_Mo co_Mo tg_Mo_isTaken 60 [2] ?_
  exact ⟨(), lp_Mo_isTaken l M k num _ q1 qt 8 0 rfl rfl⟩
def m_ext (M : tk_M) (num w : Int) : Nat → Int → Int
  | 0, k => k
  | n + 1, k => if k ≤ w ∧ M 12 k.toNat = 0 ∧ m_tkn M k num 8 0 = 0 then m_ext M num w n (k + 1) else k
theorem lp_Mo_request (l : Launch) (M : tk_M) (num w : Int) (hw : w < 32) (q1 : M 7 2 ≤ 32) (qt : q_tm M) (P : (Option Int ⊕ Nat) → tk_M → Prop) (g : Int)
    (hP : tk_At l "TrackKeeperModel" prog_8_method_25_code 4 (some .int) 6 90 P 127 [some (.inr 7), some (.inl num), some (.inl w), some (.inl g)] [] M) : ∀ (n : Nat) (k : Int), 0 ≤ k → k < 40 → w + 1 - k ≤ n → m_ext M num w n k = g →
    tk_At l "TrackKeeperModel" prog_8_method_25_code 4 (some .int) 6 90 P 98 [some (.inr 7), some (.inl num), some (.inl w), some (.inl k)] [] M := by
  intro n
  induction n with
  | zero =>
    intro k h1 h4 h2 h3
    have h3 : k = g := h3
    subst h3
    refine tk_goA fo_Mo co_Mo tg_Mo_request 60 [98, 127] ?_
    repeat' first | refine And.intro ?_ ?_ | intro _
    all_goals first | exact Or.inl rfl | exact Or.inr rfl | rfl | skip
    all_goals try simp only [tk_c, not_true_eq_false, not_false_eq_true, Int.toNat_natCast] at *
    all_goals first | omega | skip
    exact ⟨(), hP⟩
  | succ n ih =>
    intro k h1 h4 h2 h3
    have kE : ¬ (k ≤ w ∧ M 12 k.toNat = 0 ∧ m_tkn M k num 8 0 = 0) → tk_At l "TrackKeeperModel" prog_8_method_25_code 4 (some .int) 6 90 P 127 [some (.inr 7), some (.inl num), some (.inl w), some (.inl k)] [] M := fun h => by
      unfold m_ext at h3
      rw [if_neg h] at h3
      subst h3
      exact hP
    refine tk_goA fo_Mo co_Mo tg_Mo_request 60 [98, 127] ?_
    repeat' first | refine And.intro ?_ ?_ | intro _
    all_goals first | exact Or.inl rfl | exact Or.inr rfl | rfl | skip
    all_goals try simp only [tk_c, not_true_eq_false, not_false_eq_true, Int.toNat_natCast] at *
    all_goals first | omega | skip
    · exact ⟨(), kE (by omega)⟩
    · exact ⟨(), kE (by omega)⟩
    · refine ⟨(), tk_aV (k := 6) (k_Mo_isTaken l M k num q1 qt) wc_Mo_isTaken lk_Mo_170 wi_Mo_isTaken wsl_Mo_isTaken tg_Mo_request rfl rfl (by decide) rfl rfl rfl (by decide) (Nat.le_of_ble_eq_true rfl) ?_ (fun x M' h => by cases h.1)⟩
      rintro v' N' ⟨g1, rfl⟩ hro
      cases g1
      unfold m_ext at h3
      generalize m_tkn N' k num 8 0 = tk at *
      refine tk_goA fo_Mo co_Mo tg_Mo_request 60 [98, 127] ?_
      repeat' first | refine And.intro ?_ ?_ | intro _
      all_goals first | exact Or.inl rfl | exact Or.inr rfl | rfl | skip
      all_goals try simp only [tk_c, not_true_eq_false, not_false_eq_true, Int.toNat_natCast] at *
      all_goals first | omega | skip
      · exact ⟨(), kE (by omega)⟩
      · rw [if_pos (by omega)] at h3
        exact ⟨(), ih (k + 1) (by omega) (by omega) (by omega) h3⟩
def m_rq (M : tk_M) (t : Nat) (w : Int) : tk_M := if (m_z M t : Int) < m_ext M (t : Int) w 40 ((m_z M t : Int) + 1) - 1 ∧ M 26 t < m_ext M (t : Int) w 40 ((m_z M t : Int) + 1) - 1 then tk_up M 26 t (m_ext M (t : Int) w 40 ((m_z M t : Int) + 1) - 1) else M
theorem m_ext_in (M : tk_M) (num w : Int) : ∀ (n : Nat) (k : Int), k ≤ m_ext M num w n k ∧ (m_ext M num w n k ≤ w + 1 ∨ m_ext M num w n k = k)
  | 0, k => ⟨Int.le_refl _, Or.inr rfl⟩
  | n + 1, k => by
    unfold m_ext
    split
    · have := m_ext_in M num w n (k + 1)
      omega
    · exact ⟨Int.le_refl _, Or.inr rfl⟩
def d_request (t : Int) (w : Int) (N : tk_M) : tk_Z := if N 7 11 = 0 then (.inl (some 0), tk_up N 7 0 1) else if ¬ (0 ≤ t ∧ t ≤ 7) ∨ ¬ (0 ≤ w ∧ w ≤ N 7 2 - 1) then (.inl (some 0), tk_up N 7 0 2) else if m_loc N t.toNat = 0 then (.inl (some 0), tk_up N 7 0 3) else (.inl (some (m_rq N t.toNat w 26 t.toNat)), m_rq N t.toNat w)
theorem kn_Mo_request (l : Launch) (N : tk_M) (t : Int) (w : Int) (h0 : N 7 0 = 0) (q1 : 0 ≤ N 7 2) (q2 : N 7 2 ≤ 32) (qt : q_tm N) : tk_At l "TrackKeeperModel" prog_8_method_25_code 4 (some .int) 6 90 (tk_z (d_request t w N)) 5 [some (.inr 7), some (.inl t), some (.inl w), none] [] N := by
  have ed : d_request t w N = if N 7 11 = 0 then (.inl (some 0), tk_up N 7 0 1) else if ¬ (0 ≤ t ∧ t ≤ 7) ∨ ¬ (0 ≤ w ∧ w ≤ N 7 2 - 1) then (.inl (some 0), tk_up N 7 0 2) else if m_loc N t.toNat = 0 then (.inl (some 0), tk_up N 7 0 3) else (.inl (some (m_rq N t.toNat w 26 t.toNat)), m_rq N t.toNat w) := rfl
  generalize d_request t w N = Z at *
  have kR : ∀ c : Int, Z = (.inl (some 0), tk_up N 7 0 c) → tk_At l "TrackKeeperModel" prog_8_method_25_code 4 (some .int) 6 90 (tk_z Z) 83 [some (.inr 7), some (.inl t), some (.inl w), none] [] (tk_up N 7 0 c) := fun c e => by
    rw [e]
    refine tk_goA fo_Mo co_Mo tg_Mo_request 60 [] ?_
    exact ⟨rfl, rfl⟩
  refine tk_goA fo_Mo co_Mo tg_Mo_request 60 [83] ?_
  repeat' first | refine And.intro ?_ ?_ | intro _
  all_goals first | exact Or.inl rfl | exact Or.inr rfl | rfl | skip
  all_goals try simp only [tk_c, not_true_eq_false, not_false_eq_true, Int.toNat_natCast] at *
  all_goals first | omega | skip
  rotate_left
  · rw [if_pos (by omega)] at ed
    refine ⟨(), ma_f1 h0 (by decide) tg_Mo_request rfl (by decide) (by decide) ?_⟩
    refine tk_goA fo_Mo co_Mo tg_Mo_request 60 [83] ?_
    repeat' first | refine And.intro ?_ ?_ | intro _
    all_goals first | exact Or.inl rfl | exact Or.inr rfl | rfl | skip
    all_goals try simp only [tk_c, not_true_eq_false, not_false_eq_true, Int.toNat_natCast] at *
    all_goals first | omega | skip
    exact ⟨(), kR _ ed⟩
  rename_i hbg
  rw [if_neg hbg] at ed
  refine ⟨(), ma_f0 h0 tg_Mo_request rfl (by decide) (by decide) ?_⟩
  have kA : (¬ (0 ≤ t ∧ t ≤ 7) ∨ ¬ (0 ≤ w ∧ w ≤ N 7 2 - 1)) → tk_At l "TrackKeeperModel" prog_8_method_25_code 4 (some .int) 6 90 (tk_z Z) 50 [some (.inr 7), some (.inl t), some (.inl w), none] [.inl (.inr 7)] N := fun h => by
    rw [if_pos h] at ed
    refine tk_goA fo_Mo co_Mo tg_Mo_request 60 [83] ?_
    refine ⟨(), ma_f1 h0 (by decide) tg_Mo_request rfl (by decide) (by decide) ?_⟩
    refine tk_goA fo_Mo co_Mo tg_Mo_request 60 [83] ?_
    repeat' first | refine And.intro ?_ ?_ | intro _
    all_goals first | exact Or.inl rfl | exact Or.inr rfl | rfl | skip
    all_goals try simp only [tk_c, not_true_eq_false, not_false_eq_true, Int.toNat_natCast] at *
    all_goals first | omega | skip
    exact ⟨(), kR _ ed⟩
  refine tk_goA fo_Mo co_Mo tg_Mo_request 60 [50] ?_
  repeat' first | refine And.intro ?_ ?_ | intro _
  all_goals first | exact Or.inl rfl | exact Or.inr rfl | rfl | skip
  all_goals try simp only [tk_c, not_true_eq_false, not_false_eq_true, Int.toNat_natCast] at *
  all_goals first | omega | skip
  refine ⟨(), ma_in tg_Mo_request rfl (by decide) (by decide) ?_⟩
  generalize hy : f_in t 0 7 = y
  have hy0 := f_in_0 t 0 7
  rw [hy] at hy0
  refine tk_goA fo_Mo co_Mo tg_Mo_request 60 [50] ?_
  repeat' first | refine And.intro ?_ ?_ | intro _
  all_goals first | exact Or.inl rfl | exact Or.inr rfl | rfl | skip
  all_goals try simp only [tk_c, not_true_eq_false, not_false_eq_true, Int.toNat_natCast, hy0] at *
  all_goals first | omega | skip
  · exact ⟨(), kA (by omega)⟩
  refine ⟨(), ma_in tg_Mo_request rfl (by decide) (by decide) ?_⟩
  generalize hx : f_in w 0 (N 7 2 - 1) = x
  have hx0 := f_in_0 w 0 (N 7 2 - 1)
  rw [hx] at hx0
  refine tk_goA fo_Mo co_Mo tg_Mo_request 60 [50] ?_
  repeat' first | refine And.intro ?_ ?_ | intro _
  all_goals first | exact Or.inl rfl | exact Or.inr rfl | rfl | skip
  all_goals try simp only [tk_c, not_true_eq_false, not_false_eq_true, Int.toNat_natCast, hx0] at *
  all_goals first | omega | skip
  rotate_left
  · exact ⟨(), kA (by omega)⟩
  rw [if_neg (by omega)] at ed
  clear kA
  obtain ⟨u, rfl⟩ : ∃ u : Nat, t = (u : Int) := ⟨t.toNat, by omega⟩
  simp only [Int.toNat_natCast] at ed
  refine ⟨(), ma_f0 h0 tg_Mo_request rfl (by decide) (by decide) ?_⟩
  refine tk_goA fo_Mo co_Mo tg_Mo_request 60 [83] ?_
  repeat' first | refine And.intro ?_ ?_ | intro _
  all_goals first | exact Or.inl rfl | exact Or.inr rfl | rfl | skip
  all_goals try simp only [tk_c, not_true_eq_false, not_false_eq_true, Int.toNat_natCast] at *
  all_goals first | omega | skip
  refine ⟨(), ma_loc (by omega) qt tg_Mo_request rfl (by decide) (by decide) ?_⟩
  have hz : (m_z N u : Int) < 32 := by
    have := m_at_in N (N 22 u) 32 0
    unfold m_z
    omega
  have hg := m_ext_in N (u : Int) w 40 ((m_z N u : Int) + 1)
  have em : m_rq N u w = if (m_z N u : Int) < m_ext N (u : Int) w 40 ((m_z N u : Int) + 1) - 1 ∧ N 26 u < m_ext N (u : Int) w 40 ((m_z N u : Int) + 1) - 1 then tk_up N 26 u (m_ext N (u : Int) w 40 ((m_z N u : Int) + 1) - 1) else N := rfl
  have ez : m_z N u = m_at N (N 22 u) 32 0 := rfl
  have hlp : ¬ m_loc N u = 0 → tk_At l "TrackKeeperModel" prog_8_method_25_code 4 (some .int) 6 90 (tk_z Z) 98 [some (.inr 7), some (.inl (u : Int)), some (.inl w), some (.inl ((m_z N u : Int) + 1))] [] N := fun hl => by
    rw [if_neg hl] at ed
    refine lp_Mo_request l N (u : Int) w (by omega) q2 qt (tk_z Z) (m_ext N (u : Int) w 40 ((m_z N u : Int) + 1)) ?_ 40 ((m_z N u : Int) + 1) (by omega) (by omega) (by omega) rfl
    generalize m_ext N (u : Int) w 40 ((m_z N u : Int) + 1) = g at *
    refine tk_goA fo_Mo co_Mo tg_Mo_request 60 [164] ?_
    repeat' first | refine And.intro ?_ ?_ | intro _
    all_goals first | exact Or.inl rfl | exact Or.inr rfl | rfl | skip
    all_goals try simp only [tk_c, not_true_eq_false, not_false_eq_true, Int.toNat_natCast] at *
    all_goals first | omega | skip
    refine ⟨(), ma_at q2 tg_Mo_request rfl (by decide) (Nat.le_of_ble_eq_true rfl) ?_⟩
    rw [← ez]
    generalize m_z N u = z at *
    have k164 : ∀ X, m_rq N u w = X → tk_At l "TrackKeeperModel" prog_8_method_25_code 4 (some .int) 6 90 (tk_z Z) 164 [some (.inr 7), some (.inl (u : Int)), some (.inl w), some (.inl g)] [] X := fun X eX => by
      rw [eX] at ed
      rw [ed]
      clear em
      refine tk_goA fo_Mo co_Mo tg_Mo_request 60 [] ?_
      repeat' first | refine And.intro ?_ ?_ | intro _
      all_goals first | exact Or.inl rfl | exact Or.inr rfl | rfl | skip
      all_goals try simp only [tk_c, not_true_eq_false, not_false_eq_true, Int.toNat_natCast] at *
      all_goals first | omega | skip
    refine tk_goA fo_Mo co_Mo tg_Mo_request 60 [164] ?_
    repeat' first | refine And.intro ?_ ?_ | intro _
    all_goals first | exact Or.inl rfl | exact Or.inr rfl | rfl | skip
    all_goals try simp only [tk_c, not_true_eq_false, not_false_eq_true, Int.toNat_natCast] at *
    all_goals first | omega | skip
    · rw [if_neg (by omega)] at em
      exact ⟨(), k164 _ em⟩
    · rw [if_neg (by omega)] at em
      exact ⟨(), k164 _ em⟩
    · rw [if_pos (by omega)] at em
      exact ⟨(), k164 _ em⟩
  by_cases hl : m_loc N u = 0
  · rw [if_pos hl] at ed
    rw [hl]
    refine tk_goA fo_Mo co_Mo tg_Mo_request 60 [83] ?_
    repeat' first | refine And.intro ?_ ?_ | intro _
    all_goals first | exact Or.inl rfl | exact Or.inr rfl | rfl | skip
    all_goals try simp only [tk_c, not_true_eq_false, not_false_eq_true, Int.toNat_natCast] at *
    all_goals first | omega | skip
    refine ⟨(), ma_f1 h0 (by decide) tg_Mo_request rfl (by decide) (by decide) ?_⟩
    refine tk_goA fo_Mo co_Mo tg_Mo_request 60 [83] ?_
    repeat' first | refine And.intro ?_ ?_ | intro _
    all_goals first | exact Or.inl rfl | exact Or.inr rfl | rfl | skip
    all_goals try simp only [tk_c, not_true_eq_false, not_false_eq_true, Int.toNat_natCast] at *
    all_goals first | omega | skip
    exact ⟨(), kR _ ed⟩
  · have h1 : m_loc N u = 1 := by
      have := m_loc01 N u
      omega
    have hlp := hlp hl
    rw [h1]
    refine tk_goA fo_Mo co_Mo tg_Mo_request 60 [83] ?_
    repeat' first | refine And.intro ?_ ?_ | intro _
    all_goals first | exact Or.inl rfl | exact Or.inr rfl | rfl | skip
    all_goals try simp only [tk_c, not_true_eq_false, not_false_eq_true, Int.toNat_natCast] at *
    all_goals first | omega | skip
    refine ⟨(), ma_f0 h0 tg_Mo_request rfl (by decide) (by decide) ?_⟩
    refine tk_goA fo_Mo co_Mo tg_Mo_request 60 [83] ?_
    repeat' first | refine And.intro ?_ ?_ | intro _
    all_goals first | exact Or.inl rfl | exact Or.inr rfl | rfl | skip
    all_goals try simp only [tk_c, not_true_eq_false, not_false_eq_true, Int.toNat_natCast] at *
    all_goals first | omega | skip
    refine ⟨(), ma_at q2 tg_Mo_request rfl (by decide) (by decide) ?_⟩
    rw [← ez]
    generalize m_z N u = z at *
    refine tk_goA fo_Mo co_Mo tg_Mo_request 60 [98] ?_
    repeat' first | refine And.intro ?_ ?_ | intro _
    all_goals first | exact Or.inl rfl | exact Or.inr rfl | rfl | skip
    all_goals try simp only [tk_c, not_true_eq_false, not_false_eq_true, Int.toNat_natCast] at *
    all_goals first | omega | skip
    exact ⟨(), hlp⟩
theorem k_Mo_request (l : Launch) (M : tk_M) (t : Int) (w : Int) (q1 : 0 ≤ M 7 2) (q2 : M 7 2 ≤ 32) (qt : q_tm (m0 M)) : tk_C l y_Mo_request 6 90 [.inr 7, .inl t, .inl w] M (tk_z (d_request t w (m0 M))) := by
  refine tk_C.of wc_Mo_request rfl (Nat.le_of_ble_eq_true rfl) fun hr hM => ?_
  have h := kn_Mo_request l (m0 M) t w (m0_0 M) (by rw [m0_o (by omega)]; exact q1) (by rw [m0_o (by omega)]; exact q2) qt
  have e : m0 M = tk_up M 7 0 0 := rfl
  generalize d_request t w (m0 M) = Z at *
  rw [e] at h
  refine tk_goA fo_Mo co_Mo tg_Mo_request 40 [5] ?_
  repeat' first | refine And.intro ?_ ?_ | intro _
  all_goals first | omega | skip
  exact ⟨(), h⟩
end
section
/-! CLASS AND REFERENCE SIDE BY SIDE: C holds the class's cells, D the reference's -/
/-- the track in both -/
def j_lay (C D : tk_M) : Prop := D 7 1 = C 2 2 ∧ D 7 2 = C 2 3 ∧ (0 ≤ C 2 2 ∧ C 2 2 ≤ 10 ∧ 0 ≤ C 2 3 ∧ C 2 3 ≤ 32) ∧
  (∀ k : Nat, (k : Int) < C 2 3 → D 8 k = C (41 + k) 0 ∧ 0 ≤ C (41 + k) 0 ∧ C (41 + k) 0 < C 2 2 ∧ D 9 k = C (41 + k) 1) ∧
  D 9 (C 2 3).toNat = C 2 4 ∧ D 9 0 = 0 ∧ (∀ k : Nat, (k : Int) < C 2 3 → D 9 k < D 9 (k + 1)) ∧
  (∀ s : Nat, (s : Int) < C 2 2 → D 10 s = C (31 + s) 0 ∧ 0 ≤ C (31 + s) 0 ∧ C (31 + s) 0 ≤ C 2 3 ∧ C (31 + s) 1 < C 2 3) ∧
  (∀ k s : Nat, (k : Int) < C 2 3 → (s : Int) < C 2 2 → (C (41 + k) 0 = (s : Int) ↔ C (31 + s) 0 ≤ (k : Int) ∧ (k : Int) ≤ C (31 + s) 1)) ∧
  (0 < C 2 2 → C (31 + (C 2 2 - 1).toNat) 1 = C 2 3 - 1)
def pw (n : Nat) : Int := ((2 ^ n : Nat) : Int)
/-- a train in both -/
def j_tr (C D : tk_M) (t : Nat) : Prop := D 18 t = C (73 + t) 0 ∧ D 26 t = C (73 + t) 12 ∧ ((C (73 + t) 12 = -1 ∨ 0 ≤ C (73 + t) 12) ∧ C (73 + t) 12 < C 2 3) ∧
  (¬ C (73 + t) 0 = 0 → D 19 t = C (73 + t) 2 ∧ D 20 t = C (73 + t) 7 ∧ (D 21 t = C (73 + t) 1 ∧ (¬ C (73 + t) 7 = 0 → ¬ C (73 + t) 2 = 0)) ∧
    (¬ C (73 + t) 2 = 0 → D 22 t = C (73 + t) 4 ∧ D 24 t = C (73 + t) 3 ∧ (m_a D t : Int) = C (73 + t) 6 ∧ (m_z D t : Int) = C (73 + t) 5 ∧ D 23 t ≤ D 22 t ∧ (¬ C (73 + t) 7 = 0 → D 25 t = C (73 + t) 8)))
/-- what is the same in both before all is found anew -/
def j_pre (C D : tk_M) : Prop := (D 7 3 = C 1 7 ∧ D 7 4 = C 1 4 ∧ D 7 5 = C 1 5 ∧ D 7 6 = C 1 6 ∧ D 7 7 = C 3 0 ∧ D 7 8 = C 3 1 ∧ D 7 9 = C 2 5 ∧ D 7 10 = C 2 4) ∧ (1 ≤ C 2 2 ∧ 1 ≤ C 2 3) ∧
  (∀ k : Nat, (k : Int) < C 2 3 → D 12 k = C (41 + k) 2 ∧ 0 ≤ C (41 + k) 2 ∧ C (41 + k) 2 ≤ 3 ∧ 0 ≤ D 14 k ∧ D 14 k < 256 ∧ (C (41 + k) 2 = 1 → D 14 k = pw (C (41 + k) 4).toNat)) ∧
  (∀ s : Nat, (s : Int) < C 2 2 → D 11 s = C (31 + s) 3 ∧ D 16 s = C (31 + s) 2 ∧ D 17 s = C (31 + s) 4) ∧
  (∀ t : Nat, t < 8 → j_tr C D t)
theorem f_at_eq {M N : tk_M} {n : Nat} (h : ∀ k : Nat, k ≤ n → N (41 + k) 1 = M (41 + k) 1) (pl : Int) : ∀ m : Nat, m ≤ n → f_at N pl m = f_at M pl m
  | 0, _ => rfl
  | m + 1, hm => by
    unfold f_at
    rw [h (m + 1) hm, f_at_eq h pl m (by omega)]
theorem j_up {D : tk_M} {n : Nat} (h : ∀ k : Nat, k < n → D 9 k < D 9 (k + 1)) : ∀ b a : Nat, a < b → b ≤ n → D 9 a < D 9 b
  | 0, a, h1, _ => absurd h1 (Nat.not_lt_zero _)
  | b + 1, a, h1, h2 => by
    have h3 := h b (by omega)
    by_cases e : a = b
    · subst e; exact h3
    · have := j_up h b a (by omega) (by omega)
      omega
/-- the subsection at a place, from both ends -/
theorem j_at1 {D : tk_M} {pl : Int} (n : Nat) (hN : D 7 2 = (n : Int) + 1) (hs : ∀ k : Nat, k < n + 1 → D 9 k < D 9 (k + 1)) : ∀ f k : Nat, k ≤ n → n ≤ k + f → (k = 0 ∨ D 9 k ≤ pl) → ∃ r : Nat, m_at D pl f k = r ∧ k ≤ r ∧ r ≤ n ∧ (r = 0 ∨ D 9 r ≤ pl) ∧ (r = n ∨ pl < D 9 (r + 1))
  | 0, k, h1, h2, h3 => ⟨k, rfl, Nat.le_refl _, h1, h3, Or.inl (by omega)⟩
  | f + 1, k, h1, h2, h3 => by
    unfold m_at
    by_cases hc : (k : Int) + 1 < D 7 2 ∧ D 9 (k + 1) ≤ pl
    · rw [if_pos hc]
      obtain ⟨r, e1, e2, e3, e4, e5⟩ := j_at1 n hN hs f (k + 1) (by omega) (by omega) (Or.inr hc.2)
      exact ⟨r, e1, by omega, e3, e4, e5⟩
    · rw [if_neg hc]
      exact ⟨k, rfl, Nat.le_refl _, h1, h3, by omega⟩
theorem j_at2 {C D : tk_M} {pl : Int} (n : Nat) (he : ∀ k : Nat, k ≤ n → D 9 k = C (41 + k) 1) (hs : ∀ k : Nat, k < n + 1 → D 9 k < D 9 (k + 1)) {r : Nat} (h1 : r ≤ n) (h2 : r = 0 ∨ D 9 r ≤ pl) (h3 : r = n ∨ pl < D 9 (r + 1)) : ∀ m : Nat, r ≤ m → m ≤ n → f_at C pl m = (r : Int)
  | 0, g1, _ => by
    have : r = 0 := by omega
    subst this
    rfl
  | m + 1, g1, g2 => by
    unfold f_at
    rw [← he (m + 1) g2]
    by_cases e : r = m + 1
    · subst e
      rw [if_pos (by omega)]
    · have : D 9 (r + 1) ≤ D 9 (m + 1) := by
        by_cases e2 : r = m
        · subst e2; exact Int.le_refl _
        · exact Int.le_of_lt (j_up hs (m + 1) (r + 1) (by omega) (by omega))
      rw [if_neg (by omega)]
      exact j_at2 n he hs h1 h2 h3 m (by omega) (by omega)
theorem j_at {C D : tk_M} (hl : j_lay C D) (h1 : 1 ≤ C 2 3) (pl : Int) : ((m_at D pl 32 0 : Nat) : Int) = f_at C pl (C 2 3 - 1).toNat := by
  obtain ⟨l1, l2, l3, l4, l5, l6, l7, l8, l9, l10⟩ := hl
  obtain ⟨n, en⟩ : ∃ n : Nat, C 2 3 = (n : Int) + 1 := ⟨(C 2 3 - 1).toNat, by omega⟩
  have hs : ∀ k : Nat, k < n + 1 → D 9 k < D 9 (k + 1) := fun k hk => l7 k (by omega)
  obtain ⟨r, e1, e2, e3, e4, e5⟩ := j_at1 (D := D) (pl := pl) n (by omega) hs 32 0 (by omega) (by omega) (Or.inl rfl)
  rw [e1, show (C 2 3 - 1).toNat = n by omega]
  exact (j_at2 n (fun k hk => (l4 k (by omega)).2.2.2) hs e3 e4 e5 n e3 (Nat.le_refl _)).symm
theorem f_at_mono (C : tk_M) {p q : Int} (h : p ≤ q) : ∀ n : Nat, f_at C p n ≤ f_at C q n
  | 0 => Int.le_refl _
  | n + 1 => by
    have ih := f_at_mono C h n
    have := (f_at_in C p n).2
    unfold f_at
    split
    · rw [if_pos (by omega)]; exact Int.le_refl _
    · split <;> omega
/-- a section unsure in both -/
theorem j_uns {C D : tk_M} (hl : j_lay C D) (hs : ∀ k : Nat, (k : Int) < C 2 3 → D 12 k = C (41 + k) 2) {s : Nat} (h : (s : Int) < C 2 2) (hf : D 16 s = C (31 + s) 2) : m_hld D s = f_uns C (31 + s) := by
  obtain ⟨l1, l2, l3, l4, l5, l6, l7, l8, l9, l10⟩ := hl
  have h8 := l8 s h
  have e : (m_an D s (D 7 2).toNat = true) ↔ (f_any C (31 + s) = true) := by
    rw [m_an_iff, f_any_iff]
    constructor
    · rintro ⟨k, k1, k2, k3⟩
      have k1' : (k : Int) < C 2 3 := by omega
      have q := (l9 k s k1' h).mp (by rw [← (l4 k k1').1]; exact k2)
      exact ⟨k, by omega, q.1, q.2, by rw [← hs k k1']; exact k3⟩
    · rintro ⟨k, k1, k2, k3, k4⟩
      have k1' : (k : Int) < C 2 3 := by omega
      have q := (l9 k s k1' h).mpr ⟨k2, k3⟩
      exact ⟨k, by omega, by rw [(l4 k k1').1]; exact q, by rw [hs k k1']; exact k4⟩
  unfold m_hld f_uns
  rw [hf]
  by_cases hc : ¬ C (31 + s) 2 = 0 ∧ f_any C (31 + s) = true
  · rw [if_pos hc, if_pos ⟨hc.1, e.mpr hc.2⟩]
  · rw [if_neg hc, if_neg (fun z => hc ⟨z.1, e.mp z.2⟩)]
theorem j_loc {C D : tk_M} (hp : j_pre C D) {t : Nat} (ht : t < 8) : m_loc D t = f_loc C (73 + t) (C 1 7) (C 1 4) := by
  obtain ⟨⟨a1, a2, a3, a4, a5, a6, a7, a8⟩, -, -, -, b⟩ := hp
  obtain ⟨c1, c2, c3, c4⟩ := b t ht
  unfold m_loc f_loc
  rw [c1, a1, a2]
  by_cases h0 : C (73 + t) 0 = 0
  · rw [if_neg (by omega), if_neg (by omega)]
  · obtain ⟨d1, d2, d3, d4⟩ := c4 h0
    rw [d1]
    by_cases h2 : C (73 + t) 2 = 0
    · rw [if_neg (by omega), if_neg (by omega)]
    · rw [(d4 h2).2.1]
theorem j_who {C D : tk_M} (hp : j_pre C D) {t : Nat} (ht : t < 8) : m_who D t = f_who C (73 + t) (C 1 7) (C 1 4) (C 1 5) := by
  have hl := j_loc hp ht
  obtain ⟨⟨a1, a2, a3, a4, a5, a6, a7, a8⟩, -, -, -, b⟩ := hp
  obtain ⟨c1, c2, c3, c4⟩ := b t ht
  unfold m_who f_who
  rw [hl]
  unfold f_loc
  by_cases h0 : ¬ C (73 + t) 0 = 0 ∧ ¬ C (73 + t) 2 = 0 ∧ C 1 7 - C (73 + t) 3 ≤ C 1 4
  · rw [if_pos h0]
    obtain ⟨d1, d2, d3, d4⟩ := c4 h0.1
    obtain ⟨e1, e2, e3, e4, e5, e6⟩ := d4 h0.2.1
    rw [d2, a1, a3]
    by_cases h7 : C (73 + t) 7 = 0
    · rw [if_neg (by omega), if_neg (by omega)]
    · rw [e6 h7]
      by_cases h8 : C 1 7 - C (73 + t) 8 ≤ C 1 5
      · rw [if_pos (by omega), if_pos (by omega)]
      · rw [if_neg (by omega), if_neg (by omega)]
  · rw [if_neg h0, if_neg (by omega), if_neg (by omega)]
/-- marks of one subsection in both, n trains looked at: the bits x; how many, the latest, the one before -/
def rc (n : Nat) (x c v o : Int) : Prop := 0 ≤ x ∧ x < pw n ∧ m_pc x = c ∧ 0 ≤ c ∧ (c = 1 → x = pw v.toNat ∧ 0 ≤ v ∧ v < 8) ∧ (c = 0 → v = o)
theorem rc_all : ∀ n : Fin 8, ∀ x : Fin 128, x.val < 2 ^ n.val → m_or (x.val : Int) n.val = (x.val : Int) + pw n.val ∧ m_pc ((x.val : Int) + pw n.val) = m_pc (x.val : Int) + 1 ∧ (m_pc (x.val : Int) = 0 → x.val = 0) ∧ (x.val : Int) + pw n.val < pw (n.val + 1) := by decide +kernel
theorem pw_s : ∀ n : Fin 8, pw n.val ≤ 128 ∧ pw n.val < pw (n.val + 1) ∧ 0 < pw n.val := by decide +kernel
theorem rc.step {n : Nat} (hn : n < 8) {x c v o : Int} (h : rc n x c v o) : rc (n + 1) (m_or x n) (c + 1) (n : Int) o := by
  obtain ⟨h1, h2, h3, h4, h5, h6⟩ := h
  have hp := pw_s ⟨n, hn⟩
  simp only at hp
  have h2' : x < ((2 ^ n : Nat) : Int) := h2
  have q := rc_all ⟨n, hn⟩ ⟨x.toNat, by omega⟩ (by show x.toNat < 2 ^ n; omega)
  simp only at q
  rw [Int.toNat_of_nonneg h1] at q
  obtain ⟨q1, q2, q3, q4⟩ := q
  refine ⟨by rw [q1]; omega, by rw [q1]; exact q4, by rw [q1, q2, h3], by omega, fun hc => ?_, fun hc => by omega⟩
  have hx : x = 0 := by
    have := q3 (by omega)
    omega
  refine ⟨?_, by omega, by omega⟩
  rw [q1, hx, Int.toNat_natCast]
  omega
theorem rc.mono {n : Nat} (hn : n < 8) {x c v o : Int} (h : rc n x c v o) : rc (n + 1) x c v o := by
  obtain ⟨h1, h2, h3, h4, h5, h6⟩ := h
  have hp := pw_s ⟨n, hn⟩
  simp only at hp
  exact ⟨h1, by omega, h3, h4, h5, h6⟩
end
section
/-! SIDE BY SIDE: the marking of trains -/
def j_mk (C : tk_M) (n : Nat) (X Y : tk_M) : Prop := (∀ k : Nat, (k : Int) < C 2 3 → rc n (Y 14 k) (X (41 + k) 3) (X (41 + k) 4) (C (41 + k) 4)) ∧ ∀ s : Nat, (s : Int) < C 2 2 → Y 27 s = X (31 + s) 5
theorem j_inn {C X Y : tk_M} {n a : Nat} (hn : n < 8) (hN : C 2 3 ≤ 32) (hS : C 2 2 ≤ 10) (hs : ∀ k : Nat, (k : Int) < C 2 3 → Y 8 k = X (41 + k) 0 ∧ 0 ≤ X (41 + k) 0 ∧ X (41 + k) 0 < C 2 2) (h0 : j_mk C n X Y) : ∀ i : Nat, ((a + i : Nat) : Int) ≤ C 2 3 →
    (∀ k : Nat, (k : Int) < C 2 3 → rc (if a ≤ k ∧ k < a + i then n + 1 else n) (m_inn Y n a i 14 k) (g_mk X (n : Int) a i (41 + k) 3) (g_mk X (n : Int) a i (41 + k) 4) (C (41 + k) 4)) ∧ ∀ s : Nat, (s : Int) < C 2 2 → m_inn Y n a i 27 s = g_mk X (n : Int) a i (31 + s) 5
  | 0, _ => by
    refine ⟨fun k hk => ?_, fun s h => h0.2 s h⟩
    rw [if_neg (by omega)]
    exact h0.1 k hk
  | i + 1, hi => by
    obtain ⟨r1, r2⟩ := j_inn (a := a) hn hN hS hs h0 i (by omega)
    obtain ⟨s1, s2, s3⟩ := hs (a + i) (by omega)
    have eX : g_mk X (n : Int) a (i + 1) = tk_up (tk_up (tk_up (g_mk X (n : Int) a i) (41 + (a + i)) 3 (g_mk X (n : Int) a i (41 + (a + i)) 3 + 1)) (41 + (a + i)) 4 (n : Int)) (31 + (X (41 + (a + i)) 0).toNat) 5 1 := rfl
    have eY : m_inn Y n a (i + 1) = tk_up (tk_up (m_inn Y n a i) 14 (a + i) (m_or (m_inn Y n a i 14 (a + i)) n)) 27 (Y 8 (a + i)).toNat 1 := rfl
    rw [eX, eY, s1]
    generalize g_mk X (n : Int) a i = G at *
    generalize m_inn Y n a i = H at *
    refine ⟨fun k hk => ?_, fun s h => ?_⟩
    · rw [tk_up_n (by omega), tk_up_n (M := tk_up (tk_up G (41 + (a + i)) 3 _) (41 + (a + i)) 4 _) (by omega), tk_up_n (M := tk_up (tk_up G (41 + (a + i)) 3 _) (41 + (a + i)) 4 _) (by omega)]
      have q := r1 k hk
      by_cases e : k = a + i
      · subst e
        rw [if_neg (by omega)] at q
        rw [if_pos (by omega), tk_up_s, tk_up_n (by omega), tk_up_s, tk_up_s]
        exact q.step hn
      · rw [tk_up_n (by omega), tk_up_n (M := tk_up G (41 + (a + i)) 3 _) (by omega), tk_up_n (M := G) (by omega), tk_up_n (M := tk_up G (41 + (a + i)) 3 _) (by omega), tk_up_n (M := G) (by omega)]
        by_cases e2 : a ≤ k ∧ k < a + i
        · rw [if_pos e2] at q
          rw [if_pos (by omega)]
          exact q
        · rw [if_neg e2] at q
          rw [if_neg (by omega)]
          exact q
    · by_cases e : s = (X (41 + (a + i)) 0).toNat
      · subst e
        rw [tk_up_s, tk_up_s]
      · rw [tk_up_n (by omega), tk_up_n (by omega), tk_up_n (by omega), tk_up_n (M := tk_up G (41 + (a + i)) 3 _) (by omega), tk_up_n (M := G) (by omega)]
        exact r2 s h
theorem j_step {C X Y : tk_M} {n : Nat} (hn : n < 8) (hN : C 2 3 ≤ 32) (hS : C 2 2 ≤ 10) (h23 : X 2 3 = C 2 3) (h72 : Y 7 2 = C 2 3) (hs : ∀ k : Nat, (k : Int) < C 2 3 → Y 8 k = X (41 + k) 0 ∧ 0 ≤ X (41 + k) 0 ∧ X (41 + k) 0 < C 2 2)
    (hl : ¬ m_loc Y n = 0) (ha : (m_a Y n : Int) = X (73 + n) 6) (hz : (m_z Y n : Int) = X (73 + n) 5) (hp : p_mk X n) (h0 : j_mk C n X Y) : j_mk C (n + 1) (f_mk X n) (m_tr Y n) := by
  obtain ⟨p1, p2, p3⟩ := hp
  have h0' : j_mk C n (tk_up X (73 + n) 11 (f_occ X n)) (m_t0 Y n) := by
    refine ⟨fun k hk => ?_, fun s h => ?_⟩
    · rw [m_t0_o (by decide) (by decide) (by decide), tk_up_n (by omega), tk_up_n (by omega)]
      exact h0.1 k hk
    · rw [m_t0_o (by decide) (by decide) (by decide), tk_up_n (by omega)]
      exact h0.2 s h
  have hs' : ∀ k : Nat, (k : Int) < C 2 3 → m_t0 Y n 8 k = tk_up X (73 + n) 11 (f_occ X n) (41 + k) 0 ∧ 0 ≤ tk_up X (73 + n) 11 (f_occ X n) (41 + k) 0 ∧ tk_up X (73 + n) 11 (f_occ X n) (41 + k) 0 < C 2 2 := fun k hk => by
    rw [m_t0_o (by decide) (by decide) (by decide), tk_up_n (by omega)]
    exact hs k hk
  have hi := j_inn hn hN hS hs' h0' (a := m_a Y n) (m_z Y n + 1 - m_a Y n) (by omega)
  have ea : (X (73 + n) 6).toNat = m_a Y n := by omega
  have ez : (X (73 + n) 5).toNat = m_z Y n := by omega
  have ez1 : (X (73 + n) 5 + 1).toNat = m_z Y n + 1 := by omega
  have em : m_tr Y n = if (m_z Y n : Int) + 1 < Y 7 2 ∧ ¬ Y 8 (m_z Y n + 1) = Y 8 (m_z Y n) then tk_up (m_inn (m_t0 Y n) n (m_a Y n) (m_z Y n + 1 - m_a Y n)) 27 (Y 8 (m_z Y n + 1)).toNat 1
    else m_inn (m_t0 Y n) n (m_a Y n) (m_z Y n + 1 - m_a Y n) := by unfold m_tr; rw [if_neg hl]
  have ef : f_mk X n = if X (73 + n) 5 + 1 < X 2 3 then tk_up (g_mk (tk_up X (73 + n) 11 (f_occ X n)) (n : Int) (m_a Y n) (m_z Y n + 1 - m_a Y n)) (31 + (X (41 + (m_z Y n + 1)) 0).toNat) 5 1 else g_mk (tk_up X (73 + n) 11 (f_occ X n)) (n : Int) (m_a Y n) (m_z Y n + 1 - m_a Y n) := by
    unfold f_mk
    rw [ea, ez, ez1]
  have hone : g_mk (tk_up X (73 + n) 11 (f_occ X n)) (n : Int) (m_a Y n) (m_z Y n + 1 - m_a Y n) (31 + (X (41 + m_z Y n) 0).toNat) 5 = 1 := by
    obtain ⟨i, ei⟩ : ∃ i, m_z Y n + 1 - m_a Y n = i + 1 := ⟨m_z Y n - m_a Y n, by omega⟩
    rw [ei]
    unfold g_mk
    rw [show m_a Y n + i = m_z Y n by omega, tk_up_n (M := X) (by omega), tk_up_s]
  have fin : j_mk C (n + 1) (g_mk (tk_up X (73 + n) 11 (f_occ X n)) (n : Int) (m_a Y n) (m_z Y n + 1 - m_a Y n)) (m_inn (m_t0 Y n) n (m_a Y n) (m_z Y n + 1 - m_a Y n)) := by
    refine ⟨fun k hk => ?_, hi.2⟩
    have q := hi.1 k hk
    by_cases e2 : m_a Y n ≤ k ∧ k < m_a Y n + (m_z Y n + 1 - m_a Y n)
    · rw [if_pos e2] at q
      exact q
    · rw [if_neg e2] at q
      exact q.mono hn
  rw [em, ef]
  generalize g_mk (tk_up X (73 + n) 11 (f_occ X n)) (n : Int) (m_a Y n) (m_z Y n + 1 - m_a Y n) = G at *
  generalize m_inn (m_t0 Y n) n (m_a Y n) (m_z Y n + 1 - m_a Y n) = H at *
  clear hi
  by_cases h1 : X (73 + n) 5 + 1 < X 2 3
  · rw [if_pos h1]
    obtain ⟨s1, s2, s3⟩ := hs (m_z Y n + 1) (by omega)
    obtain ⟨s4, s5, s6⟩ := hs (m_z Y n) (by omega)
    have hX : ∀ k j, tk_up G (31 + (X (41 + (m_z Y n + 1)) 0).toNat) 5 1 (41 + k) j = G (41 + k) j := fun k j => tk_up_n (by omega)
    by_cases h2 : Y 8 (m_z Y n + 1) = Y 8 (m_z Y n)
    · rw [if_neg (by omega)]
      refine ⟨fun k hk => by rw [hX, hX]; exact fin.1 k hk, fun s h => ?_⟩
      by_cases e : s = (X (41 + (m_z Y n + 1)) 0).toNat
      · subst e
        rw [tk_up_s, fin.2 _ h, ← s1, h2, s4]
        exact hone
      · rw [tk_up_n (by omega)]
        exact fin.2 s h
    · rw [if_pos ⟨by omega, h2⟩]
      refine ⟨fun k hk => by rw [hX, hX, tk_up_n (by omega)]; exact fin.1 k hk, fun s h => ?_⟩
      rw [s1]
      by_cases e : s = (X (41 + (m_z Y n + 1)) 0).toNat
      · subst e
        rw [tk_up_s, tk_up_s]
      · rw [tk_up_n (by omega), tk_up_n (by omega)]
        exact fin.2 s h
  · rw [if_neg h1, if_neg (by omega)]
    exact fin
/-- a train that isn't located marks nothing -/
theorem j_skip {C X Y : tk_M} {n : Nat} (hn : n < 8) (hl : m_loc Y n = 0) (h0 : j_mk C n X Y) : j_mk C (n + 1) X (m_tr Y n) := by
  have em : m_tr Y n = tk_up Y 28 n (m_loc Y n) := by unfold m_tr; rw [if_pos hl]
  rw [em]
  refine ⟨fun k hk => ?_, fun s h => ?_⟩
  · rw [tk_up_n (by omega)]
    exact (h0.1 k hk).mono hn
  · rw [tk_up_n (by omega)]
    exact h0.2 s h
/-- what finding anew begins with, in both -/
def j_0 (C : tk_M) : tk_M := f_m0 (g_j C 8)
def j_n (D : tk_M) : tk_M := m_f2 (m_f1 D (D 7 2).toNat) (D 7 1).toNat
theorem j_0_o {C : tk_M} {c j : Nat} (h : ¬ (31 ≤ c ∧ c < 73 ∧ (j = 5 ∨ j = 3))) (h2 : ¬ (73 ≤ c ∧ c < 81 ∧ (j = 9 ∨ j = 10))) (h22 : C 2 2 ≤ 10) (h23 : C 2 3 ≤ 32) : j_0 C c j = C c j := by
  unfold j_0
  have e22 : g_j C 8 2 2 = C 2 2 := g_j_o (by omega)
  have e23 : g_j C 8 2 3 = C 2 3 := g_j_o (by omega)
  rw [f_m0_o (by rw [e22]; omega) (by rw [e23]; omega), g_j_o (by omega)]
theorem j_n_o {D : tk_M} {c j : Nat} (h : q_m c) : j_n D c j = D c j := by
  unfold q_m at h
  unfold j_n
  rw [m_f2_o (by omega), m_f1_o (by omega)]
theorem j_base {C D : tk_M} (hl : j_lay C D) : j_mk C 0 (j_0 C) (j_n D) := by
  obtain ⟨l1, l2, l3, l4, l5, l6, l7, l8, l9, l10⟩ := hl
  have e22 : g_j C 8 2 2 = C 2 2 := g_j_o (by omega)
  have e23 : g_j C 8 2 3 = C 2 3 := g_j_o (by omega)
  refine ⟨fun k hk => ?_, fun s h => ?_⟩
  · have e1 : j_n D 14 k = 0 := by
      unfold j_n m_f2 m_f1
      rw [if_neg (by omega), if_pos (by omega), if_neg (by omega), if_neg (by omega), if_pos rfl]
    have e2 : j_0 C (41 + k) 3 = 0 := by
      unfold j_0 f_m0
      rw [e22, e23, tk_st_o (by omega), tk_st_i (by omega) (by omega)]
    have e3 : j_0 C (41 + k) 4 = C (41 + k) 4 := j_0_o (by omega) (by omega) (by omega) (by omega)
    rw [e1, e2, e3]
    exact ⟨by decide, by decide, m_pc_0, by decide, fun h => absurd h (by decide), fun _ => rfl⟩
  · have e1 : j_n D 27 s = 0 := by
      unfold j_n m_f2
      rw [if_pos (by omega)]
    have e2 : j_0 C (31 + s) 5 = 0 := by
      unfold j_0 f_m0
      rw [e22, e23, tk_st_i (by omega) (by omega)]
    rw [e1, e2]
theorem j_marks {C D : tk_M} (ha : p_an C) (hl : j_lay C D) (hp : j_pre C D) : ∀ n : Nat, n ≤ 8 → j_mk C n (g_mts (j_0 C) n) (m_trs (j_n D) n)
  | 0, _ => j_base hl
  | n + 1, hn => by
    have ih := j_marks ha hl hp n (by omega)
    obtain ⟨l1, l2, l3, l4, l5, l6, l7, l8, l9, l10⟩ := id hl
    have hT : p_trk (g_j C 8) := g_j_trk ha.1
    have hR : p_tr (g_j C 8) := g_j_tr ha
    obtain ⟨a1, a2, a3, a4⟩ := g_mts_inv (f_m0_trk hT) (f_m0_3 hT) (f_m0_tr hT hR) n (by omega)
    have oX : ∀ c j, ¬ q_mk c j → ¬ (31 ≤ c ∧ c < 73 ∧ (j = 5 ∨ j = 3)) → ¬ (73 ≤ c ∧ c < 81 ∧ (j = 9 ∨ j = 10)) → g_mts (j_0 C) n c j = C c j := fun c j h1 h2 h3 => by
      have := a1 c j h1
      unfold j_0
      rw [this]
      exact j_0_o h2 h3 (by omega) (by omega)
    have oY : ∀ c j, q_m c → m_trs (j_n D) n c j = D c j := fun c j h => by
      have h' := h
      unfold q_m at h'
      rw [m_trs_o (by omega), j_n_o h]
    have e9 : g_mts (j_0 C) n (73 + n) 9 = f_loc C (73 + n) (C 1 7) (C 1 4) := by
      have := a1 (73 + n) 9 (by unfold q_mk; omega)
      unfold j_0
      rw [this, f_m0_o (by omega) (by omega), g_j_9 (by omega)]
    have eL : m_loc (m_trs (j_n D) n) n = m_loc D n := m_f_loc oY
    have eJ := j_loc hp (show n < 8 by omega)
    show j_mk C (n + 1) (if g_mts (j_0 C) n (73 + n) 9 = 0 then g_mts (j_0 C) n else f_mk (g_mts (j_0 C) n) n) (m_tr (m_trs (j_n D) n) n)
    rw [e9]
    by_cases hz : f_loc C (73 + n) (C 1 7) (C 1 4) = 0
    · rw [if_pos hz]
      exact j_skip (by omega) (by rw [eL, eJ]; exact hz) ih
    · rw [if_neg hz]
      have hfl : ¬ C (73 + n) 0 = 0 ∧ ¬ C (73 + n) 2 = 0 := by
        unfold f_loc at hz
        split at hz
        · rename_i hc; exact ⟨hc.1, hc.2.1⟩
        · exact absurd rfl hz
      have ht := ((hp.2.2.2.2 n (by omega)).2.2.2 hfl.1).2.2.2 hfl.2
      have pm : p_mk (g_mts (j_0 C) n) n := a3 n (by omega) (by rw [show g_mts (f_m0 (g_j C 8)) n (73 + n) 9 = g_mts (j_0 C) n (73 + n) 9 from rfl, e9]; exact hz)
      refine j_step (by omega) (by omega) (by omega) (oX 2 3 (by unfold q_mk; omega) (by omega) (by omega)) (by rw [oY 7 2 (by unfold q_m; omega)]; exact l2) (fun k hk => ?_) (by rw [eL, eJ]; exact hz) ?_ ?_ pm ih
      · rw [oY 8 k (by unfold q_m; omega), oX (41 + k) 0 (by unfold q_mk; omega) (by omega) (by omega)]
        have := l4 k hk
        exact ⟨this.1, this.2.1, this.2.2.1⟩
      · rw [m_f_a oY, oX (73 + n) 6 (by unfold q_mk; omega) (by omega) (by omega)]
        exact ht.2.2.1
      · rw [m_f_z oY, oX (73 + n) 5 (by unfold q_mk; omega) (by omega) (by omega)]
        exact ht.2.2.2.1
end
section
/-! SIDE BY SIDE: the new states -/
theorem g_mk_34 {M : tk_M} {num : Int} {a : Nat} : ∀ n : Nat, (∀ i : Nat, i < n → (M (41 + (a + i)) 0).toNat < 10) → ∀ c : Nat, 41 ≤ c → (g_mk M num a n c 3 = M c 3 ∧ g_mk M num a n c 4 = M c 4) ∨ g_mk M num a n c 4 = num
  | 0, _, c, _ => Or.inl ⟨rfl, rfl⟩
  | n + 1, hs, c, hc => by
    have ih := g_mk_34 (M := M) (num := num) (a := a) n (fun i hi => hs i (by omega)) c hc
    have hn := hs n (by omega)
    have e : g_mk M num a (n + 1) = tk_up (tk_up (tk_up (g_mk M num a n) (41 + (a + n)) 3 (g_mk M num a n (41 + (a + n)) 3 + 1)) (41 + (a + n)) 4 num) (31 + (M (41 + (a + n)) 0).toNat) 5 1 := rfl
    rw [e]
    generalize g_mk M num a n = G at *
    by_cases h : c = 41 + (a + n)
    · subst h
      right
      rw [tk_up_n (by omega), tk_up_s]
    · rw [tk_up_n (by omega), tk_up_n (by omega), tk_up_n (by omega), tk_up_n (by omega), tk_up_n (by omega), tk_up_n (by omega)]
      exact ih
theorem f_mk_34 {M : tk_M} {t : Nat} (ht : t < 8) (hp : p_mk M t) (hs : p_sub M) {k : Nat} : (f_mk M t (41 + k) 3 = M (41 + k) 3 ∧ f_mk M t (41 + k) 4 = M (41 + k) 4) ∨ f_mk M t (41 + k) 4 = (t : Int) := by
  by_cases hk : k < 32
  · obtain ⟨p1, p2, p3⟩ := hp
    obtain ⟨s1, s2, s3, s4⟩ := hs
    have hg := g_mk_34 (M := tk_up M (73 + t) 11 (f_occ M t)) (num := (t : Int)) (a := (M (73 + t) 6).toNat) ((M (73 + t) 5).toNat + 1 - (M (73 + t) 6).toNat) (fun k hk => by
      have := s3 ((M (73 + t) 6).toNat + k) (by omega)
      rw [tk_up_c _ _ _ _ (by omega)]
      omega) (41 + k) (by omega)
    rw [tk_up_n (M := M) (by omega), tk_up_n (M := M) (by omega)] at hg
    unfold f_mk
    split
    · have := s3 (M (73 + t) 5 + 1).toNat (by omega)
      rw [tk_up_n (by omega), tk_up_n (by omega)]
      exact hg
    · exact hg
  · left
    by_cases e : 41 + k = 73 + t
    · exact ⟨f_mk_o hp hs (by omega) (by omega) (by omega), f_mk_o hp hs (by omega) (by omega) (by omega)⟩
    · exact ⟨f_mk_o hp hs (by omega) (by omega) (by omega), f_mk_o hp hs (by omega) (by omega) (by omega)⟩
theorem f_mk_11 {M : tk_M} {t : Nat} (hp : p_mk M t) (hs : p_sub M) : f_mk M t (73 + t) 11 = f_occ M t := by
  obtain ⟨p1, p2, p3⟩ := hp
  obtain ⟨s1, s2, s3, s4⟩ := hs
  have hg : g_mk (tk_up M (73 + t) 11 (f_occ M t)) (t : Int) (M (73 + t) 6).toNat ((M (73 + t) 5).toNat + 1 - (M (73 + t) 6).toNat) (73 + t) 11 = f_occ M t := by
    rw [g_mk_o (by omega) _ (fun k hk => by
      have := s3 ((M (73 + t) 6).toNat + k) (by omega)
      rw [tk_up_c _ _ _ _ (by omega)]
      omega) (by omega), tk_up_s]
  unfold f_mk
  split
  · have := s3 (M (73 + t) 5 + 1).toNat (by omega)
    rw [tk_up_n (by omega)]
    exact hg
  · exact hg
theorem f_occ_eq {M N : tk_M} {t : Nat} (h10 : N (73 + t) 10 = M (73 + t) 10) (h6 : N (73 + t) 6 = M (73 + t) 6) (hs : ∀ c, 41 ≤ c → c < 73 → N c 0 = M c 0 ∧ N c 2 = M c 2) (hf : ∀ c, 31 ≤ c → c < 41 → N c 0 = M c 0) (r1 : 0 ≤ M (73 + t) 6) (r2 : M (73 + t) 6 < 32) (r3 : (M (41 + (M (73 + t) 6).toNat) 0).toNat < 10) : f_occ N t = f_occ M t := by
  unfold f_occ f_ncf
  rw [h10, h6, (hs (41 + (M (73 + t) 6).toNat) (by omega) (by omega)).1, hf (31 + (M (41 + (M (73 + t) 6).toNat) 0).toNat) (by omega) (by omega), (hs (41 + (M (73 + t) 6 - 1).toNat) (by omega) (by omega)).2]
/-- whose mark it is; how trains occupy -/
theorem g_mts_cv {M : tk_M} (hT : p_trk M) (h0 : ∀ i : Nat, (i : Int) < M 2 3 → M (41 + i) 3 = 0) (hR : p_tr M) : ∀ n : Nat, n ≤ 8 → (∀ k : Nat, (k : Int) < M 2 3 → ¬ g_mts M n (41 + k) 3 = 0 → ∃ v : Nat, v < n ∧ g_mts M n (41 + k) 4 = (v : Int) ∧ ¬ M (73 + v) 9 = 0) ∧ (∀ t : Nat, t < n → ¬ M (73 + t) 9 = 0 → g_mts M n (73 + t) 11 = f_occ M t)
  | 0, _ => ⟨fun k hk h => absurd (h0 k hk) h, fun t ht => absurd ht (Nat.not_lt_zero _)⟩
  | n + 1, hn => by
    obtain ⟨i1, i2⟩ := g_mts_cv hT h0 hR n (by omega)
    obtain ⟨a1, a2, a3, a4⟩ := g_mts_inv hT h0 hR n (by omega)
    have ew : g_mts M (n + 1) = if g_mts M n (73 + n) 9 = 0 then g_mts M n else f_mk (g_mts M n) n := rfl
    have e9 : g_mts M n (73 + n) 9 = M (73 + n) 9 := a1 _ _ (by unfold q_mk; omega)
    rw [e9] at ew
    by_cases hz : M (73 + n) 9 = 0
    · rw [ew, if_pos hz]
      refine ⟨fun k hk h => ?_, fun t ht hl => ?_⟩
      · obtain ⟨v, v1, v2, v3⟩ := i1 k hk h
        exact ⟨v, by omega, v2, v3⟩
      · by_cases e : t = n
        · subst e; exact absurd hz hl
        · exact i2 t (by omega) hl
    · rw [ew, if_neg hz]
      have pm := a3 n (by omega) (by rw [e9]; exact hz)
      refine ⟨fun k hk h => ?_, fun t ht hl => ?_⟩
      · rcases f_mk_34 (by omega) pm a2 (k := k) with ⟨g1, g2⟩ | g
        · rw [g1] at h
          rw [g2]
          obtain ⟨v, v1, v2, v3⟩ := i1 k hk h
          exact ⟨v, by omega, v2, v3⟩
        · exact ⟨n, by omega, g, hz⟩
      · by_cases e : t = n
        · subst e
          rw [f_mk_11 pm a2]
          obtain ⟨p1, p2, p3⟩ := pm
          have e23 : g_mts M t 2 3 = M 2 3 := a1 _ _ (by unfold q_mk; omega)
          have e6 : g_mts M t (73 + t) 6 = M (73 + t) 6 := a1 _ _ (by unfold q_mk; omega)
          have e5 : g_mts M t (73 + t) 5 = M (73 + t) 5 := a1 _ _ (by unfold q_mk; omega)
          have t5 := hT.2.2.2.2.1 (M (73 + t) 6).toNat (by omega)
          have t4 := hT.2.2.2.1
          exact f_occ_eq (a1 _ _ (by unfold q_mk; omega)) e6 (fun c h1 h2 => ⟨a1 _ _ (by unfold q_mk; omega), a1 _ _ (by unfold q_mk; omega)⟩) (fun c h1 h2 => a1 _ _ (by unfold q_mk; omega)) (by omega) (by omega) (by omega)
        · rw [f_mk_o pm a2 (by omega) (by omega) (by omega)]
          exact i2 t (by omega) hl
theorem m_low_pw : ∀ t : Fin 8, m_low (pw t.val) = t.val ∧ 0 < pw t.val ∧ pw t.val < 256 := by decide +kernel
theorem f_loc_ok {C : tk_M} {c : Nat} {a b : Int} (h : ¬ f_loc C c a b = 0) : ¬ C c 0 = 0 ∧ ¬ C c 2 = 0 := by
  unfold f_loc at h
  split at h
  · rename_i hc; exact ⟨hc.1, hc.2.1⟩
  · exact absurd rfl h
theorem f_who_loc {C : tk_M} {c : Nat} {a b d : Int} (h : ¬ f_who C c a b d = 0) : ¬ f_loc C c a b = 0 := by
  unfold f_who at h
  unfold f_loc
  split at h
  · rename_i hc; rw [if_pos hc.1]; decide
  · exact absurd rfl h
/-- the same new states, and what the reference asks for them -/
theorem j_fd {C D : tk_M} (ha : p_an C) (hl : j_lay C D) (hp : j_pre C D) {k : Nat} (hk : (k : Int) < C 2 3) : f_ns (g_mts (j_0 C) 8) k = m_fd (m_mk D) k ∧ q_fd (m_mk D) k ∧ (f_ns (g_mts (j_0 C) 8) k = 1 → m_mk D 14 k = pw (g_mts (j_0 C) 8 (41 + k) 4).toNat) ∧ 0 ≤ f_ns (g_mts (j_0 C) 8) k ∧ f_ns (g_mts (j_0 C) 8) k ≤ 3 := by
  have hM := j_marks ha hl hp 8 (by omega)
  have hT : p_trk (g_j C 8) := g_j_trk ha.1
  have hR : p_tr (g_j C 8) := g_j_tr ha
  obtain ⟨a1, a2, a3, a4⟩ := g_mts_inv (f_m0_trk hT) (f_m0_3 hT) (f_m0_tr hT hR) 8 (by omega)
  obtain ⟨c1, c2⟩ := g_mts_cv (f_m0_trk hT) (f_m0_3 hT) (f_m0_tr hT hR) 8 (by omega)
  have e0 : f_m0 (g_j C 8) = j_0 C := rfl
  have em : m_trs (j_n D) 8 = m_mk D := rfl
  rw [e0] at a1 c1 c2
  rw [em] at hM
  obtain ⟨l1, l2, l3, l4, l5, l6, l7, l8, l9, l10⟩ := id hl
  obtain ⟨b1, b2, b3, b4, b5⟩ := id hp
  have o0 : ∀ c j, ¬ (31 ≤ c ∧ c < 73 ∧ (j = 5 ∨ j = 3)) → ¬ (73 ≤ c ∧ c < 81 ∧ (j = 9 ∨ j = 10)) → j_0 C c j = C c j := fun c j h2 h3 => j_0_o h2 h3 (by omega) (by omega)
  have oX : ∀ c j, ¬ q_mk c j → ¬ (31 ≤ c ∧ c < 73 ∧ (j = 5 ∨ j = 3)) → ¬ (73 ≤ c ∧ c < 81 ∧ (j = 9 ∨ j = 10)) → g_mts (j_0 C) 8 c j = C c j := fun c j h1 h2 h3 => by
    rw [a1 c j h1]
    exact o0 c j h2 h3
  have x9 : ∀ t, t < 8 → j_0 C (73 + t) 9 = f_loc C (73 + t) (C 1 7) (C 1 4) := fun t ht => by
    unfold j_0
    rw [f_m0_o (by omega) (by omega), g_j_9 ht]
  have x10 : ∀ t, t < 8 → j_0 C (73 + t) 10 = f_who C (73 + t) (C 1 7) (C 1 4) (C 1 5) := fun t ht => by
    unfold j_0
    rw [f_m0_o (by omega) (by omega), g_j_10 ht]
  have y10 : ∀ t, t < 8 → g_mts (j_0 C) 8 (73 + t) 10 = f_who C (73 + t) (C 1 7) (C 1 4) (C 1 5) := fun t ht => by
    rw [a1 _ _ (by unfold q_mk; omega), x10 t ht]
  have hw : ∀ t, t < 8 → m_who (m_mk D) t = f_who C (73 + t) (C 1 7) (C 1 4) (C 1 5) := fun t ht => by
    rw [m_f_who (fun c j h => m_mk_o h), j_who hp ht]
  have was : ∀ j : Nat, (j : Int) < C 2 3 → m_mk D 13 j = C (41 + j) 2 := fun j hj => by
    rw [show m_mk D 13 j = j_n D 13 j from m_trs_o (by omega) 8]
    unfold j_n
    rw [m_f2_o (by omega)]
    unfold m_f1
    rw [if_pos (by omega), if_pos rfl]
    exact (b3 j hj).1
  have bef : m_mk D 15 k = D 14 k := by
    rw [show m_mk D 15 k = j_n D 15 k from m_trs_o (by omega) 8]
    unfold j_n
    rw [m_f2_o (by omega)]
    unfold m_f1
    rw [if_pos (by omega), if_neg (by omega), if_pos rfl]
  have s1 := l4 k hk
  have sc : (((C (41 + k) 0).toNat : Nat) : Int) < C 2 2 := by omega
  have d4 := b4 _ sc
  have k3 := b3 k hk
  have rk := hM.1 k hk
  have rs := hM.2 _ sc
  have X0 : g_mts (j_0 C) 8 (41 + k) 0 = C (41 + k) 0 := oX _ _ (by unfold q_mk; omega) (by omega) (by omega)
  have X2 : g_mts (j_0 C) 8 (41 + k) 2 = C (41 + k) 2 := oX _ _ (by unfold q_mk; omega) (by omega) (by omega)
  have XS2 : g_mts (j_0 C) 8 (31 + (C (41 + k) 0).toNat) 2 = C (31 + (C (41 + k) 0).toNat) 2 := oX _ _ (by unfold q_mk; omega) (by omega) (by omega)
  have XS4 : g_mts (j_0 C) 8 (31 + (C (41 + k) 0).toNat) 4 = C (31 + (C (41 + k) 0).toNat) 4 := oX _ _ (by unfold q_mk; omega) (by omega) (by omega)
  have Y8 : ∀ j, m_mk D 8 j = D 8 j := fun j => m_mk_o (by unfold q_m; omega)
  have Y10 : ∀ j, m_mk D 10 j = D 10 j := fun j => m_mk_o (by unfold q_m; omega)
  have Y16 : ∀ j, m_mk D 16 j = D 16 j := fun j => m_mk_o (by unfold q_m; omega)
  have Y17 : ∀ j, m_mk D 17 j = D 17 j := fun j => m_mk_o (by unfold q_m; omega)
  have p8 : pw 8 = 256 := by decide
  obtain ⟨r1, r2, r3, r4, r5, r6⟩ := rk
  rw [p8] at r2
  -- the only coverer
  have one : g_mts (j_0 C) 8 (41 + k) 3 = 1 → ∃ v : Nat, v < 8 ∧ g_mts (j_0 C) 8 (41 + k) 4 = (v : Int) ∧ m_low (m_mk D 14 k) = (v : Int) ∧ m_mk D 29 v = C (73 + v) 6 ∧ 0 ≤ C (73 + v) 6 ∧ C (73 + v) 6 < C 2 3 ∧ g_mts (j_0 C) 8 (73 + v) 11 = f_occ (j_0 C) v := fun h => by
    obtain ⟨v, v1, v2, v3⟩ := c1 k (by rw [o0 2 3 (by omega) (by omega)]; exact hk) (by omega)
    have h5 := (r5 h).1
    rw [v2, Int.toNat_natCast] at h5
    have hv9 := v3
    rw [x9 v v1] at v3
    obtain ⟨q1, q2⟩ := f_loc_ok v3
    have ht := ((b5 v v1).2.2.2 q1).2.2.2 q2
    have pm := ((ha.2.2.2.1 v v1).1 q1 q2)
    unfold p_mk at pm
    refine ⟨v, v1, v2, ?_, ?_, by omega, by omega, c2 v v1 hv9⟩
    · rw [h5]; exact (m_low_pw ⟨v, v1⟩).1
    · rw [((m_mk_at v1).2 (by rw [j_loc hp v1]; exact v3)).1]
      exact ht.2.2.1
  have hq : q_fd (m_mk D) k := by
    refine ⟨by rw [Y8, s1.1]; exact s1.2.1, by rw [Y8, s1.1]; omega, r1, r2, by rw [bef]; exact k3.2.2.2.1, by rw [bef]; exact k3.2.2.2.2.1, fun h => ?_⟩
    obtain ⟨v, v1, v2, v3, v4, v5, v6, v7⟩ := one (by omega)
    rw [v3, Int.toNat_natCast, v4]
    have s2 := l4 (C (73 + v) 6).toNat (by omega)
    rw [Y8, s2.1]
    refine ⟨v5, by omega, s2.2.1, by omega, fun h0 => ?_⟩
    have t6 := ha.1.2.2.2.2.2 (by omega)
    have s3 := l4 0 (by omega)
    simp only [Nat.add_zero] at s3
    rw [Y8, Y10, s3.1]
    have s4 := l8 (C 41 0).toNat (by omega)
    rw [s4.1]
    exact t6
  refine ⟨?_, hq, ?_⟩
  · unfold f_ns m_fd
    rw [X0, X2, XS2, XS4, r3, Y8, s1.1, Y16, d4.2.1, Y17, d4.2.2, rs, was k hk, bef]
    by_cases g1 : C (31 + (C (41 + k) 0).toNat) 2 = 0
    · rw [if_pos g1, if_pos g1]
    · rw [if_neg g1, if_neg g1]
      by_cases g2 : 1 < g_mts (j_0 C) 8 (41 + k) 3
      · rw [if_pos g2, if_pos g2]
      · rw [if_neg g2, if_neg g2]
        by_cases g3 : g_mts (j_0 C) 8 (41 + k) 3 = 1
        · rw [if_pos g3, if_pos g3]
          obtain ⟨v, v1, v2, v3, v4, v5, v6, v7⟩ := one g3
          rw [v2, v3, Int.toNat_natCast, v4, v7, hw v v1, Y8, Y10]
          have s2 := l4 (C (73 + v) 6).toNat (by omega)
          have s4 := l8 (C (41 + (C (73 + v) 6).toNat) 0).toNat (by omega)
          rw [s2.1, s4.1]
          have eo : f_occ (j_0 C) v = if ¬ f_who C (73 + v) (C 1 7) (C 1 4) (C 1 5) = 0 ∧ (C (31 + (C (41 + (C (73 + v) 6).toNat) 0).toNat) 0 = C (73 + v) 6 ∨ C (41 + (C (73 + v) 6 - 1).toNat) 2 = 0) then 1 else 0 := by
            unfold f_occ f_ncf
            rw [x10 v v1, o0 (73 + v) 6 (by omega) (by omega), o0 (41 + (C (73 + v) 6).toNat) 0 (by omega) (by omega), o0 (31 + (C (41 + (C (73 + v) 6).toNat) 0).toNat) 0 (by omega) (by omega), o0 (41 + (C (73 + v) 6 - 1).toNat) 2 (by omega) (by omega)]
            by_cases z : C (31 + (C (41 + (C (73 + v) 6).toNat) 0).toNat) 0 = C (73 + v) 6 ∨ C (41 + (C (73 + v) 6 - 1).toNat) 2 = 0
            · rw [if_pos z]
              by_cases z2 : f_who C (73 + v) (C 1 7) (C 1 4) (C 1 5) = 0
              · rw [if_neg (by omega), if_neg (by omega)]
              · rw [if_pos ⟨z2, rfl⟩, if_pos ⟨z2, z⟩]
            · rw [if_neg z, if_neg (by omega), if_neg (fun y => z y.2)]
          rw [eo]
          have ez : (C (73 + v) 6 = C (31 + (C (41 + (C (73 + v) 6).toNat) 0).toNat) 0 ∨ m_mk D 13 (C (73 + v) 6 - 1).toNat = 0) ↔ (C (31 + (C (41 + (C (73 + v) 6).toNat) 0).toNat) 0 = C (73 + v) 6 ∨ C (41 + (C (73 + v) 6 - 1).toNat) 2 = 0) := by
            by_cases z : C (73 + v) 6 = 0
            · have t6 := ha.1.2.2.2.2.2 (by omega)
              have e : C (31 + (C (41 + (C (73 + v) 6).toNat) 0).toNat) 0 = C (73 + v) 6 := by rw [z]; exact t6
              exact ⟨fun _ => Or.inl e, fun _ => Or.inl e.symm⟩
            · rw [was _ (by omega)]
              constructor
              · rintro (h | h)
                · exact Or.inl h.symm
                · exact Or.inr h
              · rintro (h | h)
                · exact Or.inl h.symm
                · exact Or.inr h
          by_cases z : ¬ f_who C (73 + v) (C 1 7) (C 1 4) (C 1 5) = 0 ∧ (C (31 + (C (41 + (C (73 + v) 6).toNat) 0).toNat) 0 = C (73 + v) 6 ∨ C (41 + (C (73 + v) 6 - 1).toNat) 2 = 0)
          · rw [if_pos z, if_neg (by decide), if_pos ⟨z.1, ez.mpr z.2⟩]
          · rw [if_neg z, if_pos rfl, if_neg (fun y => z ⟨y.1, ez.mp y.2⟩)]
        · rw [if_neg g3, if_neg g3]
          by_cases g4 : C (41 + k) 2 = 1
          · rw [if_pos g4, if_neg (show ¬ (C (41 + k) 2 = 3 ∨ C (41 + k) 2 = 2) by omega), if_pos g4]
            have cov := ha.2.1 k (by omega)
            obtain ⟨v, ev⟩ : ∃ v : Nat, C (41 + k) 4 = (v : Int) := ⟨(C (41 + k) 4).toNat, by omega⟩
            have v1 : v < 8 := by omega
            have h14 := k3.2.2.2.2.2 g4
            rw [ev, Int.toNat_natCast] at h14
            have hml : m_low (pw v) = (v : Int) := (m_low_pw ⟨v, v1⟩).1
            rw [r6 (by omega), ev, h14, hml, Int.toNat_natCast]
            rw [y10 v v1, oX (73 + v) 6 (by unfold q_mk; omega) (by omega) (by omega), hw v v1]
            have hpw := (m_low_pw ⟨v, v1⟩).2.1
            simp only at hpw
            by_cases z : f_who C (73 + v) (C 1 7) (C 1 4) (C 1 5) = 0
            · rw [if_neg (by omega), if_neg (by omega)]
            · have zl := f_who_loc z
              obtain ⟨q1, q2⟩ := f_loc_ok zl
              have ht := ((b5 v v1).2.2.2 q1).2.2.2 q2
              rw [((m_mk_at v1).2 (by rw [j_loc hp v1]; exact zl)).1, ht.2.2.1]
              by_cases z2 : (k : Int) < C (73 + v) 6
              · rw [if_pos ⟨z, z2⟩, if_pos ⟨by omega, z, z2⟩]
              · rw [if_neg (by omega), if_neg (by omega)]
          · rw [if_neg g4]
            by_cases g5 : C (41 + k) 2 = 0
            · rw [if_neg (show ¬ ¬ C (41 + k) 2 = 0 by omega), if_neg (show ¬ (C (41 + k) 2 = 3 ∨ C (41 + k) 2 = 2) by omega), if_neg g4]
              by_cases g6 : C (31 + (C (41 + k) 0).toNat) 4 = 0
              · rw [if_neg (show ¬ ¬ C (31 + (C (41 + k) 0).toNat) 4 = 0 by omega)]
                by_cases g7 : g_mts (j_0 C) 8 (31 + (C (41 + k) 0).toNat) 5 = 0
                · rw [if_pos (show ¬ C (31 + (C (41 + k) 0).toNat) 4 = 0 ∨ g_mts (j_0 C) 8 (31 + (C (41 + k) 0).toNat) 5 = 0 from Or.inr g7), if_pos g7]
                · rw [if_neg (show ¬ (¬ C (31 + (C (41 + k) 0).toNat) 4 = 0 ∨ g_mts (j_0 C) 8 (31 + (C (41 + k) 0).toNat) 5 = 0) from fun z => z.elim (fun y => y g6) g7), if_neg g7]
              · rw [if_pos (show ¬ C (31 + (C (41 + k) 0).toNat) 4 = 0 ∨ g_mts (j_0 C) 8 (31 + (C (41 + k) 0).toNat) 5 = 0 from Or.inl g6), if_pos (show ¬ C (31 + (C (41 + k) 0).toNat) 4 = 0 from g6)]
            · rw [if_pos (show ¬ C (41 + k) 2 = 0 from g5), if_pos (show C (41 + k) 2 = 3 ∨ C (41 + k) 2 = 2 by omega)]
  · refine ⟨fun h1 => ?_, ?_⟩
    · unfold f_ns at h1
      have g3 : g_mts (j_0 C) 8 (41 + k) 3 = 1 := by
        (repeat' split at h1) <;> first | omega | assumption
      exact (r5 g3).1
    · unfold f_ns
      (repeat' split) <;> omega
end
section
/-! SIDE BY SIDE: authorities; all found anew -/
theorem j_run {X Y : tk_M} {e : Int} : ∀ (n : Nat) (f : Int), 0 ≤ f → (∀ k : Nat, f < (k : Int) → (k : Int) ≤ e → Y 12 k = X (41 + k) 2) → m_run Y e n (f + 1) = g_run X e n f + 1
  | 0, f, _, _ => rfl
  | n + 1, f, h0, h => by
    unfold m_run g_run
    by_cases hc : f < e
    · have hk := h (f + 1).toNat (by omega) (by omega)
      rw [hk]
      by_cases hz : X (41 + (f + 1).toNat) 2 = 0
      · rw [if_pos ⟨by omega, hz⟩, if_pos ⟨hc, hz⟩]
        exact j_run n (f + 1) (by omega) (fun k h1 h2 => h k (by omega) h2)
      · rw [if_neg (fun z => hz z.2), if_neg (fun z => hz z.2)]
    · rw [if_neg (by omega), if_neg (by omega)]
def j_au (X Y : tk_M) (N : Int) : Prop := (∀ t : Nat, t < 8 → Y 26 t = X (73 + t) 12 ∧ (X (73 + t) 12 = -1 ∨ 0 ≤ X (73 + t) 12) ∧ X (73 + t) 12 < N) ∧ Y 7 7 = X 3 0 ∧ Y 7 8 = X 3 1
theorem j_au1 {X Y : tk_M} {N : Int} {n : Nat} (hn : n < 8) (h : j_au X Y N) (hN : 0 < N) (hN32 : N ≤ 32) (h9 : Y 28 n = X (73 + n) 9) (h5 : ¬ X (73 + n) 9 = 0 → Y 30 n = X (73 + n) 5 ∧ 0 ≤ X (73 + n) 5 ∧ X (73 + n) 5 < N) (hs : ∀ k : Nat, (k : Int) < N → Y 12 k = X (41 + k) 2) : j_au (if X (73 + n) 12 = -1 then X else f_so X n) (m_au Y n) N := by
  obtain ⟨a1, a2, a3⟩ := h
  obtain ⟨e1, e2, e3⟩ := a1 n hn
  by_cases hz : X (73 + n) 12 = -1
  · rw [if_pos hz]
    have em : m_au Y n = Y := by unfold m_au; rw [if_pos (by omega)]
    rw [em]
    exact ⟨a1, a2, a3⟩
  · rw [if_neg hz]
    unfold m_au f_so
    rw [if_neg (show ¬ Y 26 n < 0 by omega), h9, e1]
    by_cases hl : X (73 + n) 9 = 0
    · rw [if_pos hl, if_pos hl]
      refine ⟨fun t ht => ?_, ?_, ?_⟩
      · rw [tk_up_n (by omega), tk_up_n (M := tk_up X (73 + n) 12 (-1)) (by omega)]
        by_cases e : t = n
        · subst e
          rw [tk_up_s, tk_up_s]
          exact ⟨rfl, Or.inl rfl, by omega⟩
        · rw [tk_up_n (by omega), tk_up_n (by omega)]
          exact a1 t ht
      · rw [tk_up_n (by omega), tk_up_n (by omega), tk_up_n (by omega), tk_up_n (by omega)]
        exact a2
      · rw [tk_up_s, tk_up_s, a3]
    · obtain ⟨f1, f2, f3⟩ := h5 hl
      have hr := j_run (X := X) (Y := Y) (e := X (73 + n) 12) 40 (X (73 + n) 5) f2 (fun k h1 h2 => hs k (by omega))
      have hg := g_run_in X (X (73 + n) 12) 40 (X (73 + n) 5)
      rw [if_neg hl, if_neg hl, f1, hr]
      dsimp only
      generalize g_run X (X (73 + n) 12) 40 (X (73 + n) 5) = r at *
      rw [show r + 1 - 1 = r by omega]
      by_cases c1 : r < X (73 + n) 12
      · rw [if_pos (show r + 1 ≤ X (73 + n) 12 by omega), if_pos c1]
        by_cases c2 : r ≤ X (73 + n) 5
        · rw [if_pos c2, if_pos c2]
          refine ⟨fun t ht => ?_, ?_, ?_⟩
          · by_cases e : t = n
            · subst e
              rw [tk_up_s, tk_up_s]
              exact ⟨rfl, Or.inl rfl, by omega⟩
            · rw [tk_up_n (by omega), tk_up_n (by omega), tk_up_n (by omega), tk_up_n (by omega), tk_up_n (by omega), tk_up_n (by omega)]
              exact a1 t ht
          · rw [tk_up_n (by omega), tk_up_s, tk_up_n (by omega), tk_up_s, a2]
          · rw [tk_up_n (by omega), tk_up_n (by omega), tk_up_n (by omega), tk_up_n (by omega), tk_up_n (by omega), tk_up_n (by omega)]
            exact a3
        · rw [if_neg c2, if_neg c2]
          refine ⟨fun t ht => ?_, ?_, ?_⟩
          · rw [tk_up_n (by omega), tk_up_n (M := tk_up X (73 + n) 12 r) (by omega)]
            by_cases e : t = n
            · subst e
              rw [tk_up_s, tk_up_s]
              exact ⟨rfl, by omega, by omega⟩
            · rw [tk_up_n (by omega), tk_up_n (by omega)]
              exact a1 t ht
          · rw [tk_up_s, tk_up_s, a2]
          · rw [tk_up_n (by omega), tk_up_n (by omega), tk_up_n (by omega), tk_up_n (by omega)]
            exact a3
      · rw [if_neg (show ¬ r + 1 ≤ X (73 + n) 12 by omega), if_neg c1]
        by_cases c2 : X (73 + n) 12 ≤ X (73 + n) 5
        · rw [if_pos c2, if_pos c2]
          refine ⟨fun t ht => ?_, ?_, ?_⟩
          · by_cases e : t = n
            · subst e
              rw [tk_up_s, tk_up_s]
              exact ⟨rfl, Or.inl rfl, by omega⟩
            · rw [tk_up_n (by omega), tk_up_n (by omega)]
              exact a1 t ht
          · rw [tk_up_n (by omega), tk_up_n (by omega)]
            exact a2
          · rw [tk_up_n (by omega), tk_up_n (by omega)]
            exact a3
        · rw [if_neg c2, if_neg c2]
          exact ⟨a1, a2, a3⟩
theorem j_aus {X Y : tk_M} {N : Int} (h : j_au X Y N) (hN : 0 < N) (hN32 : N ≤ 32) (h9 : ∀ n, n < 8 → Y 28 n = X (73 + n) 9) (h5 : ∀ n, n < 8 → ¬ X (73 + n) 9 = 0 → Y 30 n = X (73 + n) 5 ∧ 0 ≤ X (73 + n) 5 ∧ X (73 + n) 5 < N) (hs : ∀ k : Nat, (k : Int) < N → Y 12 k = X (41 + k) 2) : ∀ n : Nat, n ≤ 8 → j_au (g_set X n) (m_aus Y n) N
  | 0, _ => h
  | n + 1, hn => by
    have ih := j_aus h hN hN32 h9 h5 hs n (by omega)
    have oX : ∀ c j, ¬ (c = 3 ∧ j < 2) → j ≠ 12 → g_set X n c j = X c j := fun c j h1 h2 => g_set_o h1 n (by omega)
    have oY : ∀ c j, c ≠ 7 → c ≠ 26 → m_aus Y n c j = Y c j := fun c j h1 h2 => m_aus_o (by omega) n (by omega)
    refine j_au1 (by omega) ih hN hN32 ?_ ?_ ?_
    · rw [oY _ _ (by decide) (by decide), oX _ _ (by omega) (by decide)]
      exact h9 n (by omega)
    · rw [oX _ _ (by omega) (by decide), oY _ _ (by decide) (by decide), oX _ _ (by omega) (by decide)]
      exact h5 n (by omega)
    · intro k hk
      rw [oY _ _ (by decide) (by decide), oX _ _ (by omega) (by decide)]
      exact hs k hk
theorem j_lay.eq {C D C' D' : tk_M} (h : j_lay C D) (c1 : C' 2 2 = C 2 2) (c2 : C' 2 3 = C 2 3) (c3 : C' 2 4 = C 2 4) (c4 : ∀ k, k < 32 → C' (41 + k) 0 = C (41 + k) 0 ∧ C' (41 + k) 1 = C (41 + k) 1) (c5 : ∀ s, s < 10 → C' (31 + s) 0 = C (31 + s) 0 ∧ C' (31 + s) 1 = C (31 + s) 1)
    (d1 : D' 7 1 = D 7 1) (d2 : D' 7 2 = D 7 2) (d3 : ∀ j, D' 8 j = D 8 j) (d4 : ∀ j, D' 9 j = D 9 j) (d5 : ∀ j, D' 10 j = D 10 j) : j_lay C' D' := by
  obtain ⟨l1, l2, l3, l4, l5, l6, l7, l8, l9, l10⟩ := h
  refine ⟨by rw [c1, d1]; exact l1, by rw [c2, d2]; exact l2, by rw [c1, c2]; exact l3, fun k hk => ?_, by rw [d4, c2, c3]; exact l5, by rw [d4]; exact l6, fun k hk => ?_, fun s hs => ?_, fun k s hk hs => ?_, fun h0 => ?_⟩
  · rw [c2] at hk
    rw [d3, d4, (c4 k (by omega)).1, (c4 k (by omega)).2, c1]
    exact l4 k hk
  · rw [c2] at hk
    rw [d4, d4]
    exact l7 k hk
  · rw [c1] at hs
    rw [d5, (c5 s (by omega)).1, (c5 s (by omega)).2, c2]
    exact l8 s hs
  · rw [c2] at hk
    rw [c1] at hs
    rw [(c4 k (by omega)).1, (c5 s (by omega)).1, (c5 s (by omega)).2]
    exact l9 k s hk hs
  · rw [c1] at h0
    rw [c1, c2, (c5 _ (by omega)).2]
    exact l10 h0
def q_ms (c j : Nat) : Prop := c = 11 ∨ c = 12 ∨ c = 13 ∨ c = 14 ∨ c = 15 ∨ c = 17 ∨ c = 26 ∨ c = 27 ∨ c = 28 ∨ c = 29 ∨ c = 30 ∨ (c = 7 ∧ (j = 7 ∨ j = 8))
theorem m_find_o {D : tk_M} {c j : Nat} (h : ¬ (c = 12 ∨ c = 13 ∨ c = 14 ∨ c = 15 ∨ c = 26 ∨ c = 27 ∨ c = 28 ∨ c = 29 ∨ c = 30 ∨ (c = 7 ∧ (j = 7 ∨ j = 8)))) : m_find D c j = D c j := by
  unfold m_find
  rw [m_aus_o (by omega) 8 (by omega), m_st_o (by omega), m_mk_o (by unfold q_m; omega)]
theorem m_set_o {D : tk_M} {c j : Nat} (h : ¬ q_ms c j) : m_set D c j = D c j := by
  unfold q_ms at h
  unfold m_set
  rw [m_se_o (by omega) (by omega), m_find_o (by omega)]
/-- what the reference asks, from what holds in both -/
theorem j_fi {C D : tk_M} {K : Int} (hi : p_inv C K) (hK : K ≤ 10000000) (hb : ¬ C 1 3 = 0) (hl : j_lay C D) (hp : j_pre C D) (ht : q_tm D) : q_fi D := by
  obtain ⟨l1, l2, l3, l4, l5, l6, l7, l8, l9, l10⟩ := id hl
  obtain ⟨b1, b2, b3, b4, b5⟩ := id hp
  have k5 := hi.2.2.2.2.1
  refine ⟨⟨by omega, by omega, by omega, by omega, fun k hk => ?_, ht⟩, fun k hk => (j_fd (hi.an hK hb) hl hp (by omega)).2.1, fun t h => ?_, by omega, by omega⟩
  · have := l4 k (by omega)
    omega
  · have := b5 t h
    have := (hi.2.2.2.1 t h).1
    unfold j_tr at *
    omega
/-- all found anew, side by side -/
theorem j_set {C D : tk_M} {K : Int} (hi : p_inv C K) (hK : K ≤ 10000000) (hb : ¬ C 1 3 = 0) (hl : j_lay C D) (hp : j_pre C D) : j_lay (f_all C) (m_set D) ∧ j_pre (f_all C) (m_set D) ∧ (∀ s : Nat, (s : Int) < C 2 2 → m_set D 17 s = 0 ∧ f_all C (31 + s) 4 = 0) ∧ (∀ t : Nat, t < 8 → f_all C (73 + t) 9 = f_loc (f_all C) (73 + t) (f_all C 1 7) (f_all C 1 4) ∧ f_all C (73 + t) 10 = f_who (f_all C) (73 + t) (f_all C 1 7) (f_all C 1 4) (f_all C 1 5)) := by
  have ha := hi.an hK hb
  obtain ⟨l1, l2, l3, l4, l5, l6, l7, l8, l9, l10⟩ := id hl
  obtain ⟨b1, b2, b3, b4, b5⟩ := id hp
  have o : ∀ c j, ¬ q_all c j → f_all C c j = C c j := fun c j h => f_all_o ha h
  have od : ∀ c j, ¬ q_ms c j → m_set D c j = D c j := fun c j h => m_set_o h
  have hT : p_trk (g_j C 8) := g_j_trk ha.1
  have hR : p_tr (g_j C 8) := g_j_tr ha
  have o8 := (g_mts8 hT hR).1
  have e22 : g_j C 8 2 2 = C 2 2 := g_j_o (by omega)
  have e23 : g_j C 8 2 3 = C 2 3 := g_j_o (by omega)
  have e0 : f_m0 (g_j C 8) = j_0 C := rfl
  have eF : f_fs (g_j C 8) = g_sec (g_stt (g_mts (j_0 C) 8) (C 2 3).toNat) (C 2 2).toNat := by unfold f_fs; rw [e22, e23, e0]
  rw [e0] at o8
  have eA : f_all C = g_set (f_fs (g_j C 8)) 8 := rfl
  have eM : m_find D = m_aus (m_st (m_mk D) (D 7 2).toNat) 8 := rfl
  -- the states
  have st : ∀ k : Nat, (k : Int) < C 2 3 → f_fs (g_j C 8) (41 + k) 2 = f_ns (g_mts (j_0 C) 8) k := fun k hk => by
    rw [eF, g_sec_o (by omega)]
    unfold g_stt
    rw [if_pos (by omega)]
    congr 1
    omega
  have sd : ∀ k : Nat, (k : Int) < C 2 3 → m_st (m_mk D) (D 7 2).toNat 12 k = m_fd (m_mk D) k := fun k hk => by
    unfold m_st
    rw [if_pos (by omega)]
  have x9 : ∀ t, t < 8 → f_fs (g_j C 8) (73 + t) 9 = f_loc C (73 + t) (C 1 7) (C 1 4) := fun t h => by rw [f_fs_o hT hR (by unfold q_fs q_mk; omega), g_j_9 h]
  have x10 : ∀ t, t < 8 → f_fs (g_j C 8) (73 + t) 10 = f_who C (73 + t) (C 1 7) (C 1 4) (C 1 5) := fun t h => by rw [f_fs_o hT hR (by unfold q_fs q_mk; omega), g_j_10 h]
  have xo : ∀ t j, t < 8 → j ≠ 9 → j ≠ 10 → j ≠ 11 → f_fs (g_j C 8) (73 + t) j = C (73 + t) j := fun t j h h1 h2 h3 => by rw [f_fs_o hT hR (by unfold q_fs q_mk; omega), g_j_o (by omega)]
  have au : j_au (g_set (f_fs (g_j C 8)) 8) (m_aus (m_st (m_mk D) (D 7 2).toNat) 8) (C 2 3) := by
    refine j_aus ⟨fun t h => ?_, ?_, ?_⟩ (by omega) (by omega) (fun t h => ?_) (fun t h hz => ?_) (fun k hk => ?_) 8 (by omega)
    · have := b5 t h
      unfold j_tr at this
      rw [m_st_o (by decide), m_mk_o (by unfold q_m; omega), xo t 12 h (by decide) (by decide) (by decide)]
      exact ⟨this.2.1, this.2.2.1.1, this.2.2.1.2⟩
    · rw [m_st_o (by decide), m_mk_o (by unfold q_m; omega), f_fs_o hT hR (by unfold q_fs q_mk; omega), g_j_o (by omega)]
      omega
    · rw [m_st_o (by decide), m_mk_o (by unfold q_m; omega), f_fs_o hT hR (by unfold q_fs q_mk; omega), g_j_o (by omega)]
      omega
    · rw [m_st_o (by decide), (m_mk_at h).1, x9 t h]
      exact j_loc hp h
    · rw [x9 t h] at hz
      obtain ⟨q1, q2⟩ := f_loc_ok hz
      have tr := ((b5 t h).2.2.2 q1).2.2.2 q2
      have pm := (ha.2.2.2.1 t h).1 q1 q2
      unfold p_mk at pm
      rw [m_st_o (by decide), ((m_mk_at h).2 (by rw [j_loc hp h]; exact hz)).2, xo t 5 h (by decide) (by decide) (by decide)]
      exact ⟨tr.2.2.2.1, by omega, by omega⟩
    · rw [sd k hk, st k hk]
      exact (j_fd ha hl hp hk).1.symm
  rw [← eA, ← eM] at au
  have hl' : j_lay (f_all C) (m_find D) := hl.eq (o _ _ (by unfold q_all q_fs q_mk; omega)) (o _ _ (by unfold q_all q_fs q_mk; omega)) (o _ _ (by unfold q_all q_fs q_mk; omega)) (fun k hk => ⟨o _ _ (by unfold q_all q_fs q_mk; omega), o _ _ (by unfold q_all q_fs q_mk; omega)⟩) (fun s hs => ⟨o _ _ (by unfold q_all q_fs q_mk; omega), o _ _ (by unfold q_all q_fs q_mk; omega)⟩) (m_find_o (by omega)) (m_find_o (by omega)) (fun j => m_find_o (by omega)) (fun j => m_find_o (by omega)) (fun j => m_find_o (by omega))
  have hl2 : j_lay (f_all C) (m_set D) := hl.eq (o _ _ (by unfold q_all q_fs q_mk; omega)) (o _ _ (by unfold q_all q_fs q_mk; omega)) (o _ _ (by unfold q_all q_fs q_mk; omega)) (fun k hk => ⟨o _ _ (by unfold q_all q_fs q_mk; omega), o _ _ (by unfold q_all q_fs q_mk; omega)⟩) (fun s hs => ⟨o _ _ (by unfold q_all q_fs q_mk; omega), o _ _ (by unfold q_all q_fs q_mk; omega)⟩) (od _ _ (by unfold q_ms; omega)) (od _ _ (by unfold q_ms; omega)) (fun j => od _ _ (by unfold q_ms; omega)) (fun j => od _ _ (by unfold q_ms; omega)) (fun j => od _ _ (by unfold q_ms; omega))
  have c22 : f_all C 2 2 = C 2 2 := o _ _ (by unfold q_all q_fs q_mk; omega)
  have c23 : f_all C 2 3 = C 2 3 := o _ _ (by unfold q_all q_fs q_mk; omega)
  have cs : ∀ k : Nat, (k : Int) < C 2 3 → f_all C (41 + k) 2 = f_ns (g_mts (j_0 C) 8) k := fun k hk => by rw [eA, g_set_o (by omega) 8 (by omega), st k hk]
  have ds : ∀ k : Nat, (k : Int) < C 2 3 → m_find D 12 k = m_fd (m_mk D) k := fun k hk => by rw [eM, m_aus_o (by omega) 8 (by omega), sd k hk]
  have un : ∀ s : Nat, (s : Int) < C 2 2 → m_hld (m_find D) s = f_uns (g_stt (g_mts (j_0 C) 8) (C 2 3).toNat) (31 + s) := fun s hs => by
    rw [j_uns hl' (fun k hk => by rw [c23] at hk; rw [ds k hk, cs k hk]; exact (j_fd ha hl hp hk).1.symm) (s := s) (by rw [c22]; exact hs) (by rw [m_find_o (by omega), o _ _ (by unfold q_all q_fs q_mk; omega)]; exact (b4 s hs).2.1)]
    have ef : ∀ c j, ¬ (31 ≤ c ∧ c < 41 ∧ (j = 4 ∨ j = 3)) → ¬ (c = 3 ∧ j < 2) → ¬ (73 ≤ c ∧ j = 12) → f_all C c j = g_stt (g_mts (j_0 C) 8) (C 2 3).toNat c j := fun c j h1 h2 h3 => by
      rw [eA, g_set_o h2 8 (by omega), eF, g_sec_o (by omega)]
    exact f_uns_eq (ef _ _ (by omega) (by omega) (by omega)) (ef _ _ (by omega) (by omega) (by omega)) (ef _ _ (by omega) (by omega) (by omega)) (fun i hi => ef _ _ (by omega) (by omega) (by omega))
  have due : ∀ s : Nat, (s : Int) < C 2 2 → m_set D 17 s = 0 ∧ f_all C (31 + s) 4 = 0 := fun s hs => by
    constructor
    · unfold m_set m_se
      rw [if_pos (by omega)]
    · rw [eA, g_set_o (by omega) 8 (by omega), eF]
      unfold g_sec
      rw [if_pos (by omega)]
  refine ⟨hl2, ⟨⟨?_, ?_, ?_, ?_, ?_, ?_, ?_, ?_⟩, by omega, fun k hk => ?_, fun s hs => ?_, fun t h => ?_⟩, due, fun t h => ?_⟩
  · rw [od _ _ (by unfold q_ms; omega), o _ _ (by unfold q_all q_fs q_mk; omega)]; omega
  · rw [od _ _ (by unfold q_ms; omega), o _ _ (by unfold q_all q_fs q_mk; omega)]; omega
  · rw [od _ _ (by unfold q_ms; omega), o _ _ (by unfold q_all q_fs q_mk; omega)]; omega
  · rw [od _ _ (by unfold q_ms; omega), o _ _ (by unfold q_all q_fs q_mk; omega)]; omega
  · unfold m_set
    rw [m_se_o (by omega) (by omega)]
    exact au.2.1
  · unfold m_set
    rw [m_se_o (by omega) (by omega)]
    exact au.2.2
  · rw [od _ _ (by unfold q_ms; omega), o _ _ (by unfold q_all q_fs q_mk; omega)]; omega
  · rw [od _ _ (by unfold q_ms; omega), o _ _ (by unfold q_all q_fs q_mk; omega)]; omega
  · rw [c23] at hk
    obtain ⟨f1, f2, f3, f4, f5⟩ := j_fd ha hl hp hk
    have e14 : m_set D 14 k = m_mk D 14 k := by
      unfold m_set
      rw [m_se_o (by omega) (by omega), eM, m_aus_o (by omega) 8 (by omega), m_st_o (by decide)]
    have e12 : m_set D 12 k = m_fd (m_mk D) k := by
      unfold m_set
      rw [m_se_o (by omega) (by omega), ds k hk]
    have e4 : f_all C (41 + k) 4 = g_mts (j_0 C) 8 (41 + k) 4 := by rw [eA, g_set_o (by omega) 8 (by omega), eF, g_sec_o (by omega), g_stt_o (by omega)]
    rw [e12, e14, cs k hk, e4]
    exact ⟨f1.symm, f4, f5, f2.2.2.1, f2.2.2.2.1, f3⟩
  · rw [c22] at hs
    have e16 : m_set D 16 s = D 16 s := od _ _ (by unfold q_ms; omega)
    have e2 : f_all C (31 + s) 2 = C (31 + s) 2 := o _ _ (by unfold q_all q_fs q_mk; omega)
    rw [e16, e2, (due s hs).1, (due s hs).2]
    refine ⟨?_, (b4 s hs).2.1, rfl⟩
    rw [eA, g_set_o (by omega) 8 (by omega), eF]
    unfold m_set m_se g_sec
    rw [if_neg (by omega), un s hs]
    by_cases hz : f_uns (g_stt (g_mts (j_0 C) 8) (C 2 3).toNat) (31 + s) = 0
    · rw [if_pos ⟨rfl, by omega, hz⟩, if_pos ⟨by omega, by omega, Or.inr ⟨rfl, hz⟩⟩]
    · rw [if_neg (fun z => hz z.2.2), if_neg (fun z => by omega), g_stt_o (by omega), o8 _ _ (by unfold q_mk; omega), m_find_o (by omega), g_j_o (by omega)]
      exact (b4 s hs).1
  · obtain ⟨t1, t2, t3, t4⟩ := b5 t h
    have em : ∀ j, j ≠ 9 → j ≠ 10 → j ≠ 11 → j ≠ 12 → f_all C (73 + t) j = C (73 + t) j := fun j h1 h2 h3 h4 => o _ _ (by unfold q_all q_fs q_mk; omega)
    have ed : ∀ c, 18 ≤ c → c < 26 → m_set D c t = D c t := fun c h1 h2 => od _ _ (by unfold q_ms; omega)
    have ea : m_a (m_set D) t = m_a D t := by
      unfold m_a
      rw [ed 23 (by omega) (by omega), m_at_eq (od _ _ (by unfold q_ms; omega)) (fun k => od _ _ (by unfold q_ms; omega))]
    have ez : m_z (m_set D) t = m_z D t := by
      unfold m_z
      rw [ed 22 (by omega) (by omega), m_at_eq (od _ _ (by unfold q_ms; omega)) (fun k => od _ _ (by unfold q_ms; omega))]
    have a26 : m_set D 26 t = m_find D 26 t := by
      unfold m_set
      rw [m_se_o (by omega) (by omega)]
    unfold j_tr
    rw [ed 18 (by omega) (by omega), ed 19 (by omega) (by omega), ed 20 (by omega) (by omega), ed 21 (by omega) (by omega), ed 22 (by omega) (by omega), ed 23 (by omega) (by omega), ed 24 (by omega) (by omega), ed 25 (by omega) (by omega), ea, ez, a26, c23,
      em 0 (by decide) (by decide) (by decide) (by decide), em 1 (by decide) (by decide) (by decide) (by decide), em 2 (by decide) (by decide) (by decide) (by decide), em 3 (by decide) (by decide) (by decide) (by decide), em 4 (by decide) (by decide) (by decide) (by decide), em 5 (by decide) (by decide) (by decide) (by decide), em 6 (by decide) (by decide) (by decide) (by decide), em 7 (by decide) (by decide) (by decide) (by decide), em 8 (by decide) (by decide) (by decide) (by decide)]
    have a := au.1 t h
    exact ⟨t1, a.1, a.2, t4⟩
  · have em : ∀ j, j ≠ 9 → j ≠ 10 → j ≠ 11 → j ≠ 12 → f_all C (73 + t) j = C (73 + t) j := fun j h1 h2 h3 h4 => o _ _ (by unfold q_all q_fs q_mk; omega)
    have e9 : f_all C (73 + t) 9 = f_loc C (73 + t) (C 1 7) (C 1 4) := by rw [eA, g_set_o (by omega) 8 (by omega), x9 t h]
    have e10 : f_all C (73 + t) 10 = f_who C (73 + t) (C 1 7) (C 1 4) (C 1 5) := by rw [eA, g_set_o (by omega) 8 (by omega), x10 t h]
    rw [e9, e10, o 1 7 (by unfold q_all q_fs q_mk; omega), o 1 4 (by unfold q_all q_fs q_mk; omega), o 1 5 (by unfold q_all q_fs q_mk; omega)]
    unfold f_loc f_who
    rw [em 0 (by decide) (by decide) (by decide) (by decide), em 2 (by decide) (by decide) (by decide) (by decide), em 3 (by decide) (by decide) (by decide) (by decide), em 7 (by decide) (by decide) (by decide) (by decide), em 8 (by decide) (by decide) (by decide) (by decide)]
    exact ⟨rfl, rfl⟩
end
section
/-! SIDE BY SIDE: what holds between calls -/
def j_idle (D : tk_M) : Prop := D 7 3 = 0 ∧ D 7 7 = 0 ∧ D 7 8 = 0 ∧ D 7 9 = 0 ∧ ∀ s : Nat, s < 10 → D 11 s = 0 ∧ D 16 s = 0
def j_fr (C : tk_M) : Prop := ∀ t : Nat, t < 8 → C (73 + t) 9 = f_loc C (73 + t) (C 1 7) (C 1 4) ∧ C (73 + t) 10 = f_who C (73 + t) (C 1 7) (C 1 4) (C 1 5) ∧ (C (73 + t) 12 = -1 ∨ ¬ C (73 + t) 9 = 0)
def j_all (C D : tk_M) (K : Int) : Prop := p_inv C K ∧ j_lay C D ∧ D 7 11 = C 1 3 ∧ (∀ s : Nat, s < 10 → D 17 s = 0 ∧ C (31 + s) 4 = 0) ∧ q_tm D ∧ (¬ C 1 3 = 0 → j_pre C D ∧ j_fr C) ∧ (C 1 3 = 0 → j_idle D)
def k_c (c : Nat) : Prop := (1 ≤ c ∧ c < 7) ∨ 31 ≤ c
def k_d (c j : Nat) : Prop := 7 ≤ c ∧ c ≤ 30 ∧ ¬ (c = 7 ∧ j = 0)
theorem p_inv.mono {C : tk_M} {K K' : Int} (h : p_inv C K) (hK : K ≤ K') : p_inv C K' := by
  obtain ⟨h1, h2, h3, h4, ⟨k1, k2, k3, k4, k5, k6, k7, k8⟩, h6⟩ := h
  exact ⟨h1, h2, h3, h4, ⟨k1, by omega, by omega, by omega, by omega, fun i hi => by have := k6 i hi; omega, k7, k8⟩, h6⟩
theorem p_inv.eq {C C' : tk_M} {K : Int} (h : p_inv C K) (o : ∀ c j, k_c c → C' c j = C c j) : p_inv C' K := by
  obtain ⟨h1, h2, h3, h4, ⟨k1, k2, k3, k4, k5, k6, k7, k8⟩, h6⟩ := h
  have e22 := o 2 2 (by unfold k_c; omega)
  have e23 := o 2 3 (by unfold k_c; omega)
  have e24 := o 2 4 (by unfold k_c; omega)
  have e25 := o 2 5 (by unfold k_c; omega)
  have e13 := o 1 3 (by unfold k_c; omega)
  have e17 := o 1 7 (by unfold k_c; omega)
  have e30 := o 3 0 (by unfold k_c; omega)
  have e31 := o 3 1 (by unfold k_c; omega)
  refine ⟨p_trk_eq e22 e23 (fun i hi => o _ _ (by unfold k_c; omega)) (fun i hi => o _ _ (by unfold k_c; omega)) h1, fun i hi => ?_, fun i hi => ?_, fun t ht => ?_, ⟨by omega, by omega, by omega, by omega, by omega, fun i hi => ?_, by omega, by omega⟩, fun hb => ⟨?_, fun t ht hc hr => ?_⟩⟩
  · rw [o _ _ (by unfold k_c; omega)]; exact h2 i hi
  · rw [e22] at hi
    rw [o _ 0 (by unfold k_c; omega), o _ 1 (by unfold k_c; omega)]
    exact h3 i hi
  · rw [o _ 12 (by unfold k_c; omega), o _ 3 (by unfold k_c; omega), o _ 8 (by unfold k_c; omega), o _ 1 (by unfold k_c; omega)]
    exact h4 t ht
  · rw [o _ _ (by unfold k_c; omega)]; exact k6 i hi
  · rw [e13] at hb
    have := (h6 hb).1
    omega
  · rw [e13] at hb
    rw [o _ 0 (by unfold k_c; omega)] at hc
    rw [o _ 2 (by unfold k_c; omega)] at hr
    have := (h6 hb).2 t ht hc hr
    unfold p_mk at this ⊢
    rw [o _ 6 (by unfold k_c; omega), o _ 5 (by unfold k_c; omega), e23]
    exact this
theorem j_lay.eq2 {C D C' D' : tk_M} (h : j_lay C D) (o : ∀ c j, k_c c → C' c j = C c j) (d : ∀ c j, k_d c j → D' c j = D c j) : j_lay C' D' :=
  h.eq (o _ _ (by unfold k_c; omega)) (o _ _ (by unfold k_c; omega)) (o _ _ (by unfold k_c; omega)) (fun k hk => ⟨o _ _ (by unfold k_c; omega), o _ _ (by unfold k_c; omega)⟩) (fun s hs => ⟨o _ _ (by unfold k_c; omega), o _ _ (by unfold k_c; omega)⟩) (d _ _ (by unfold k_d; omega)) (d _ _ (by unfold k_d; omega)) (fun j => d _ _ (by unfold k_d; omega)) (fun j => d _ _ (by unfold k_d; omega)) (fun j => d _ _ (by unfold k_d; omega))
theorem j_tr.eq2 {C D C' D' : tk_M} {t : Nat} (h : j_tr C D t) (o : ∀ c j, k_c c → C' c j = C c j) (d : ∀ c j, k_d c j → D' c j = D c j) : j_tr C' D' t := by
  have ec : ∀ j, C' (73 + t) j = C (73 + t) j := fun j => o _ _ (by unfold k_c; omega)
  have ed : ∀ c, 18 ≤ c → c ≤ 26 → D' c t = D c t := fun c h1 h2 => d _ _ (by unfold k_d; omega)
  have ea : m_a D' t = m_a D t := by
    unfold m_a
    rw [ed 23 (by omega) (by omega), m_at_eq (d _ _ (by unfold k_d; omega)) (fun k => d _ _ (by unfold k_d; omega))]
  have ez : m_z D' t = m_z D t := by
    unfold m_z
    rw [ed 22 (by omega) (by omega), m_at_eq (d _ _ (by unfold k_d; omega)) (fun k => d _ _ (by unfold k_d; omega))]
  unfold j_tr
  rw [ec, ec, ec, ec, ec, ec, ec, ec, ec, ec, o 2 3 (by unfold k_c; omega), ed 18 (by omega) (by omega), ed 19 (by omega) (by omega), ed 20 (by omega) (by omega), ed 21 (by omega) (by omega), ed 22 (by omega) (by omega), ed 23 (by omega) (by omega), ed 24 (by omega) (by omega), ed 25 (by omega) (by omega), ed 26 (by omega) (by omega), ea, ez]
  exact h
theorem j_pre.eq2 {C D C' D' : tk_M} (h : j_pre C D) (hN : C 2 3 ≤ 32) (hS : C 2 2 ≤ 10) (o : ∀ c j, k_c c → C' c j = C c j) (d : ∀ c j, k_d c j → D' c j = D c j) : j_pre C' D' := by
  obtain ⟨a, b, c, e, f⟩ := h
  have e22 := o 2 2 (by unfold k_c; omega)
  have e23 := o 2 3 (by unfold k_c; omega)
  refine ⟨?_, by omega, fun k hk => ?_, fun s hs => ?_, fun t ht => (f t ht).eq2 o d⟩
  · rw [d 7 3 (by unfold k_d; omega), d 7 4 (by unfold k_d; omega), d 7 5 (by unfold k_d; omega), d 7 6 (by unfold k_d; omega), d 7 7 (by unfold k_d; omega), d 7 8 (by unfold k_d; omega), d 7 9 (by unfold k_d; omega), d 7 10 (by unfold k_d; omega), o 1 7 (by unfold k_c; omega), o 1 4 (by unfold k_c; omega), o 1 5 (by unfold k_c; omega), o 1 6 (by unfold k_c; omega), o 3 0 (by unfold k_c; omega), o 3 1 (by unfold k_c; omega), o 2 5 (by unfold k_c; omega), o 2 4 (by unfold k_c; omega)]
    exact a
  · rw [e23] at hk
    rw [d 12 k (by unfold k_d; omega), d 14 k (by unfold k_d; omega), o (41 + k) 2 (by unfold k_c; omega), o (41 + k) 4 (by unfold k_c; omega)]
    exact c k hk
  · rw [e22] at hs
    rw [d 11 s (by unfold k_d; omega), d 16 s (by unfold k_d; omega), d 17 s (by unfold k_d; omega), o (31 + s) 3 (by unfold k_c; omega), o (31 + s) 2 (by unfold k_c; omega), o (31 + s) 4 (by unfold k_c; omega)]
    exact e s hs
theorem j_fr.eq2 {C C' : tk_M} (h : j_fr C) (o : ∀ c j, k_c c → C' c j = C c j) : j_fr C' := by
  intro t ht
  have ec : ∀ j, C' (73 + t) j = C (73 + t) j := fun j => o _ _ (by unfold k_c; omega)
  unfold f_loc f_who
  rw [ec, ec, ec, ec, ec, ec, ec, ec, o 1 7 (by unfold k_c; omega), o 1 4 (by unfold k_c; omega), o 1 5 (by unfold k_c; omega)]
  exact h t ht
theorem q_tm.eq2 {D D' : tk_M} (h : q_tm D) (d : ∀ c j, k_d c j → D' c j = D c j) : q_tm D' :=
  ⟨by rw [d _ _ (by unfold k_d; omega)]; exact h.1, fun t ht => by rw [d _ _ (by unfold k_d; omega), d _ _ (by unfold k_d; omega)]; exact h.2 t ht⟩
theorem j_all.eq {C D C' D' : tk_M} {K : Int} (h : j_all C D K) (o : ∀ c j, k_c c → C' c j = C c j) (d : ∀ c j, k_d c j → D' c j = D c j) : j_all C' D' K := by
  obtain ⟨h1, h2, h3, h4, h5, h6, h7⟩ := h
  have e13 := o 1 3 (by unfold k_c; omega)
  refine ⟨h1.eq o, h2.eq2 o d, by rw [d _ _ (by unfold k_d; omega), e13]; exact h3, fun s hs => ?_, h5.eq2 d, fun hb => ?_, fun hb => ?_⟩
  · rw [d _ _ (by unfold k_d; omega), o _ _ (by unfold k_c; omega)]; exact h4 s hs
  · rw [e13] at hb
    exact ⟨(h6 hb).1.eq2 h1.1.2.2.2.1 h1.1.2.1 o d, (h6 hb).2.eq2 o⟩
  · rw [e13] at hb
    obtain ⟨i1, i2, i3, i4, i5⟩ := h7 hb
    exact ⟨by rw [d _ _ (by unfold k_d; omega)]; exact i1, by rw [d _ _ (by unfold k_d; omega)]; exact i2, by rw [d _ _ (by unfold k_d; omega)]; exact i3, by rw [d _ _ (by unfold k_d; omega)]; exact i4, fun s hs => by rw [d _ _ (by unfold k_d; omega), d _ _ (by unfold k_d; omega)]; exact i5 s hs⟩
theorem j_all.mono {C D : tk_M} {K K' : Int} (h : j_all C D K) (hK : K ≤ K') : j_all C D K' := ⟨h.1.mono hK, h.2⟩
theorem f_so_e {M : tk_M} {t : Nat} : f_so M t (73 + t) 12 = -1 ∨ ¬ M (73 + t) 9 = 0 := by
  by_cases h : M (73 + t) 9 = 0
  · left
    unfold f_so
    rw [if_pos h, tk_up_n (by omega), tk_up_s]
  · exact Or.inr h
theorem g_set_e {M : tk_M} : ∀ n t : Nat, t < n → g_set M n (73 + t) 12 = -1 ∨ ¬ M (73 + t) 9 = 0
  | 0, t, h => absurd h (Nat.not_lt_zero _)
  | n + 1, t, h => by
    unfold g_set
    by_cases e : t = n
    · subst e
      split
      · rename_i hz; exact Or.inl hz
      · have := f_so_e (M := g_set M t) (t := t)
        rw [g_set_o (c := 73 + t) (j := 9) (by omega) t (by omega)] at this
        exact this
    · have ih := g_set_e (M := M) n t (by omega)
      split
      · exact ih
      · rw [f_so_o (by omega) (by omega)]; exact ih
theorem f_all_e {C : tk_M} {t : Nat} (ht : t < 8) : f_all C (73 + t) 12 = -1 ∨ ¬ f_all C (73 + t) 9 = 0 := by
  unfold f_all
  rw [g_set_o (c := 73 + t) (j := 9) (by omega) 8 (by omega)]
  exact g_set_e 8 t ht
/-- all found anew, from what is the same in both -/
theorem s_set {C D : tk_M} {K : Int} (hi : p_inv C K) (h0 : 0 ≤ K) (hK : K ≤ 10000000) (hb : ¬ C 1 3 = 0) (hl : j_lay C D) (hp : j_pre C D) (ht : q_tm D) (h11 : D 7 11 = C 1 3) (hd : ∀ s : Nat, C 2 2 ≤ (s : Int) → s < 10 → D 17 s = 0 ∧ C (31 + s) 4 = 0) : j_all (f_all C) (m_set D) (K + 1) := by
  have ha := hi.an hK hb
  obtain ⟨r1, r2, r3, r4⟩ := j_set hi hK hb hl hp
  have e13 : f_all C 1 3 = C 1 3 := f_all_o ha (by unfold q_all q_fs q_mk; omega)
  refine ⟨hi.all hK h0 hb, r1, ?_, fun s hs => ?_, ?_, fun _ => ⟨r2, fun t h => ⟨(r4 t h).1, (r4 t h).2, f_all_e h⟩⟩, fun hz => ?_⟩
  · rw [m_set_o (by unfold q_ms; omega), e13]; exact h11
  · by_cases hc : (s : Int) < C 2 2
    · exact r3 s hc
    · have l2 := hl.1
      have c2 := ha.1.1
      have h4 := hd s (by omega) hs
      constructor
      · unfold m_set
        rw [m_se_o (by omega) (by omega), m_find_o (by omega)]
        exact h4.1
      · have e22 : g_j C 8 2 2 = C 2 2 := g_j_o (by omega)
        unfold f_all f_fs g_sec
        rw [g_set_o (by omega) 8 (by omega), e22]
        rw [if_neg (by omega), g_stt_o (by omega), (g_mts8 (g_j_trk ha.1) (g_j_tr ha)).1 _ _ (by unfold q_mk; omega), g_j_o (by omega)]
        exact h4.2
  · exact ⟨by rw [m_set_o (by unfold q_ms; omega)]; exact ht.1, fun t h => by rw [m_set_o (by unfold q_ms; omega), m_set_o (by unfold q_ms; omega)]; exact ht.2 t h⟩
  · rw [e13] at hz
    exact absurd hz hb
/-- a call in both: the exception's number, or the answer; and what holds then -/
def s_ok (cd : Nat → Int) (Z W : tk_Z) (K : Int) : Prop := (match Z.1 with
  | .inr e => W.2 7 0 = cd e ∧ ¬ cd e = 0
  | .inl v => W.2 7 0 = 0 ∧ W.1 = .inl v) ∧ j_all Z.2 W.2 K
theorem s_ok.thr {cd : Nat → Int} {C N : tk_M} {K K' : Int} (h : j_all C N K) (hK : K ≤ K') {e : Nat} {x : Int} (hx : cd e = x) (h0 : ¬ x = 0) (w : Option Int ⊕ Nat) : s_ok cd (.inr e, C) (w, tk_up N 7 0 x) K' :=
  ⟨⟨by show tk_up N 7 0 x 7 0 = cd e; rw [tk_up_s, hx], by rw [hx]; exact h0⟩, (h.mono hK).eq (fun _ _ _ => rfl) (fun c j hc => by unfold k_d at hc; exact tk_up_n (by omega))⟩
theorem s_ok.ret {cd : Nat → Int} {C D : tk_M} {K K' : Int} (h : j_all C D K) (hK : K ≤ K') (h0 : D 7 0 = 0) (v : Option Int) : s_ok cd (.inl v, C) (.inl v, D) K' := ⟨⟨h0, rfl⟩, h.mono hK⟩
def cd_1 (e : Nat) : Int := match e with
  | 0 => 1
  | 2 => 2
  | _ => 9
def cd_2 (e : Nat) : Int := match e with
  | 0 => 2
  | 1 => 1
  | 2 => 3
  | _ => 9
def cd_3 (e : Nat) : Int := match e with
  | 0 => 2
  | 1 => 1
  | _ => 9
def cd_4 (e : Nat) : Int := match e with
  | 0 => 1
  | 1 => 2
  | 3 => 3
  | _ => 9
def cd_5 (e : Nat) : Int := match e with
  | 0 => 1
  | 1 => 2
  | 2 => 3
  | _ => 9
def cd_6 (e : Nat) : Int := match e with
  | 1 => 1
  | _ => 9
theorem m_set_0 {D : tk_M} : m_set D 7 0 = D 7 0 := m_set_o (by unfold q_ms; omega)
/-- the latest section is bare, in both -/
theorem j_bare {C D : tk_M} (hl : j_lay C D) : f_wait D = f_bare C := by
  obtain ⟨l1, l2, l3, l4, l5, l6, l7, l8, l9, l10⟩ := hl
  unfold f_wait f_bare
  rw [l1, l2]
  by_cases h : 0 < C 2 2
  · have h8 := l8 (C 2 2 - 1).toNat (by omega)
    rw [h8.1, l10 h]
    by_cases h2 : C (31 + (C 2 2 - 1).toNat) 0 = C 2 3
    · rw [if_pos ⟨h, h2⟩, if_pos ⟨h, by omega⟩]
    · rw [if_neg (by omega), if_neg (by omega)]
  · rw [if_neg (by omega), if_neg (by omega)]
theorem s_state {C N : tk_M} {K : Int} (h : j_all C N K) (h0 : N 7 0 = 0) (k : Int) : s_ok cd_4 (c_state k C) (d_state k N) (K + 2002) := by
  obtain ⟨h1, h2, h3, h4, h5, h6, h7⟩ := id h
  obtain ⟨l1, l2, -⟩ := id h2
  unfold c_state d_state
  rw [h3, l2]
  by_cases c1 : C 1 3 = 0
  · rw [if_pos c1, if_pos c1]; exact s_ok.thr h (by omega) rfl (by decide) _
  · rw [if_neg c1, if_neg c1]
    by_cases c2 : 0 ≤ k ∧ k ≤ C 2 3 - 1
    · rw [if_neg (by omega), if_neg (by omega), ((h6 c1).1.2.2.1 k.toNat (by omega)).1]
      exact s_ok.ret h (by omega) h0 _
    · rw [if_pos c2, if_pos c2]; exact s_ok.thr h (by omega) rfl (by decide) _
theorem s_train {C N : tk_M} {K : Int} (h : j_all C N K) (h0 : N 7 0 = 0) (t w : Int) : s_ok cd_4 (c_train t w C) (d_train t w N) (K + 2002) := by
  obtain ⟨h1, h2, h3, h4, h5, h6, h7⟩ := id h
  unfold c_train d_train
  rw [h3]
  by_cases c1 : C 1 3 = 0
  · rw [if_pos c1, if_pos c1]; exact s_ok.thr h (by omega) rfl (by decide) _
  · rw [if_neg c1, if_neg c1]
    by_cases c2 : ¬ (0 ≤ t ∧ t ≤ 7) ∨ ¬ (0 ≤ w ∧ w ≤ 5)
    · rw [if_pos c2, if_pos c2]; exact s_ok.thr h (by omega) rfl (by decide) _
    · rw [if_neg c2, if_neg c2]
      obtain ⟨u, rfl⟩ : ∃ u : Nat, t = (u : Int) := ⟨t.toNat, by omega⟩
      rw [Int.toNat_natCast]
      obtain ⟨hp, hf⟩ := h6 c1
      have e1 := j_loc hp (t := u) (by omega)
      have e2 := j_who hp (t := u) (by omega)
      obtain ⟨f1, f2, -⟩ := hf u (by omega)
      obtain ⟨t1, t2, t3, t4⟩ := hp.2.2.2.2 u (by omega)
      have ev : m_tell N u w = f_tell C (73 + u) w := by
        unfold m_tell f_tell
        rw [e1, e2, t1, t2, ← f1, ← f2]
        by_cases hz : C (73 + u) 9 = 0
        · simp only [hz, if_true]
          (repeat' split) <;> first | rfl | omega
        · have hz' := hz
          rw [f1] at hz'
          obtain ⟨q1, q2⟩ := f_loc_ok hz'
          have tr := (t4 q1).2.2.2 q2
          rw [tr.2.2.1, tr.2.2.2.1]
          simp only [hz, if_false]
      rw [ev]
      exact s_ok.ret h (by omega) h0 _
theorem s_count {C N : tk_M} {K : Int} (h : j_all C N K) (h0 : N 7 0 = 0) (w k : Int) : s_ok cd_6 (c_count w k C) (d_count w k N) (K + 2002) := by
  obtain ⟨h1, h2, h3, h4, h5, h6, h7⟩ := id h
  obtain ⟨l1, l2, l3, -⟩ := id h2
  unfold c_count d_count
  rw [l1]
  by_cases c2 : ¬ (0 ≤ w ∧ w ≤ 7) ∨ (6 ≤ w ∧ ¬ (0 ≤ k ∧ k ≤ C 2 2 - 1))
  · rw [if_pos c2, if_pos (by omega)]; exact s_ok.thr h (by omega) rfl (by decide) _
  · rw [if_neg c2, if_neg (show ¬ (¬ (0 ≤ w ∧ w ≤ 7) ∨ (5 < w ∧ ¬ (0 ≤ k ∧ k ≤ C 2 2 - 1))) by omega)]
    have ev : m_cnt N w k = if w = 0 then C 2 2 else if w = 1 then C 2 3 else if C 1 3 = 0 then 0 else f_csb C w k := by
      unfold m_cnt f_csb
      rw [l1, l2]
      by_cases c1 : C 1 3 = 0
      · obtain ⟨i1, i2, i3, i4, i5⟩ := h7 c1
        rw [i1, i2, i3, i4, if_pos c1]
        by_cases w6 : 6 ≤ w
        · rw [(i5 k.toNat (by omega)).1, (i5 k.toNat (by omega)).2]
          unfold f_b
          (repeat' split) <;> first | rfl | omega
        · (repeat' split) <;> first | rfl | omega
      · obtain ⟨⟨a1, a2, a3, a4, a5, a6, a7, a8⟩, -, -, b4, -⟩ := (h6 c1).1
        rw [a1, a5, a6, a7, if_neg c1]
        by_cases w6 : 6 ≤ w
        · rw [(b4 k.toNat (by omega)).1, (b4 k.toNat (by omega)).2.1]
        · (repeat' split) <;> first | rfl | omega
    rw [ev]
    exact s_ok.ret h (by omega) h0 _
end
section
/-! SIDE BY SIDE: calls that build the track; that begin; that clear -/
theorem s_section {C N : tk_M} {K : Int} (h : j_all C N K) (h0 : N 7 0 = 0) : s_ok cd_1 (c_section C) (d_section N) (K + 2002) := by
  obtain ⟨h1, h2, h3, h4, h5, h6, h7⟩ := id h
  obtain ⟨l1, l2, l3, l4, l5, l6, l7, l8, l9, l10⟩ := id h2
  unfold c_section d_section
  rw [h3, j_bare h2, l1, l2]
  by_cases c1 : ¬ C 1 3 = 0 ∨ ¬ f_bare C = 0
  · rw [if_pos c1, if_pos c1]; exact s_ok.thr h (by omega) rfl (by decide) _
  · rw [if_neg c1, if_neg c1]
    by_cases c2 : C 2 2 = 10
    · rw [if_pos (by omega), if_pos c2]; exact s_ok.thr h (by omega) rfl (by decide) _
    · rw [if_neg (by omega), if_neg c2]
      have hb : C 1 3 = 0 := by omega
      have hbare : f_bare C = 0 := by omega
      obtain ⟨S, eS⟩ : ∃ S : Nat, C 2 2 = (S : Int) := ⟨(C 2 2).toNat, by omega⟩
      have e0 : (C 2 2).toNat = S := by omega
      have ef : f_adds C = tk_up (tk_up (tk_up C (31 + S) 0 (C 2 3)) (31 + S) 1 (C 2 3 - 1)) 2 2 (C 2 2 + 1) := by unfold f_adds; rw [e0]
      rw [e0, ef]
      obtain ⟨a1, a2, a3, a4, ⟨k1, k2, k3, k4, k5, k6, k7, k8⟩, a6⟩ := h1
      obtain ⟨t1, t2, t3, t4, t5, t6⟩ := id a1
      have u : ∀ c j, ¬ (c = 31 + S ∧ j < 2) → ¬ (c = 2 ∧ j = 2) → tk_up (tk_up (tk_up C (31 + S) 0 (C 2 3)) (31 + S) 1 (C 2 3 - 1)) 2 2 (C 2 2 + 1) c j = C c j := fun c j g1 g2 => by
        rw [tk_up_n g2, tk_up_n (by omega), tk_up_n (by omega)]
      have u22 : tk_up (tk_up (tk_up C (31 + S) 0 (C 2 3)) (31 + S) 1 (C 2 3 - 1)) 2 2 (C 2 2 + 1) 2 2 = C 2 2 + 1 := tk_up_s _ _ _ _
      have uS0 : tk_up (tk_up (tk_up C (31 + S) 0 (C 2 3)) (31 + S) 1 (C 2 3 - 1)) 2 2 (C 2 2 + 1) (31 + S) 0 = C 2 3 := by rw [tk_up_n (by omega), tk_up_n (by omega), tk_up_s]
      have uS1 : tk_up (tk_up (tk_up C (31 + S) 0 (C 2 3)) (31 + S) 1 (C 2 3 - 1)) 2 2 (C 2 2 + 1) (31 + S) 1 = C 2 3 - 1 := by rw [tk_up_n (by omega), tk_up_s]
      have d : ∀ c j, ¬ (c = 10 ∧ j = S) → ¬ (c = 7 ∧ j = 1) → tk_up (tk_up N 10 S (C 2 3)) 7 1 (C 2 2 + 1) c j = N c j := fun c j g1 g2 => by rw [tk_up_n g2, tk_up_n g1]
      have d71 : tk_up (tk_up N 10 S (C 2 3)) 7 1 (C 2 2 + 1) 7 1 = C 2 2 + 1 := tk_up_s _ _ _ _
      have d10 : tk_up (tk_up N 10 S (C 2 3)) 7 1 (C 2 2 + 1) 10 S = C 2 3 := by rw [tk_up_n (by omega), tk_up_s]
      generalize tk_up (tk_up (tk_up C (31 + S) 0 (C 2 3)) (31 + S) 1 (C 2 3 - 1)) 2 2 (C 2 2 + 1) = C' at *
      generalize tk_up (tk_up N 10 S (C 2 3)) 7 1 (C 2 2 + 1) = N' at *
      have c23 : C' 2 3 = C 2 3 := u _ _ (by omega) (by omega)
      have c24 : C' 2 4 = C 2 4 := u _ _ (by omega) (by omega)
      have c13 : C' 1 3 = C 1 3 := u _ _ (by omega) (by omega)
      have fin : j_all C' N' K := by
        refine ⟨⟨⟨by omega, by omega, by omega, by omega, fun i hi => ?_, fun g => ?_⟩, fun i hi => ?_, fun i hi => ?_, fun t ht => ?_, ⟨by rw [u _ _ (by omega) (by omega)]; exact k1, by rw [u _ _ (by omega) (by omega)]; exact k2, by rw [u _ _ (by omega) (by omega)]; exact k3, by rw [u _ _ (by omega) (by omega)]; exact k4, by rw [u _ _ (by omega) (by omega)]; exact k5, fun i hi => by rw [u _ _ (by omega) (by omega)]; exact k6 i hi, by omega, by omega⟩, fun g => absurd (by omega) g⟩, ⟨by omega, by rw [d _ _ (by omega) (by omega)]; omega, by omega, fun k hk => ?_, ?_, by rw [d _ _ (by omega) (by omega)]; exact l6, fun k hk => ?_, fun s hs => ?_, fun k s hk hs => ?_, fun g => ?_⟩, by rw [d _ _ (by omega) (by omega), c13]; exact h3, fun s hs => ?_, ⟨by rw [d _ _ (by omega) (by omega)]; exact h5.1, fun t ht => by rw [d _ _ (by omega) (by omega), d _ _ (by omega) (by omega)]; exact h5.2 t ht⟩, fun g => absurd (by omega) g, fun _ => ?_⟩
        · rw [c23] at hi
          rw [u _ _ (by omega) (by omega)]; exact t5 i hi
        · rw [c23] at g
          have q := t5 0 (by omega)
          have q2 := l4 0 (by omega)
          simp only [Nat.add_zero] at q q2
          rw [u 41 0 (by omega) (by omega), u _ _ (by omega) (by omega)]
          exact t6 g
        · rw [u _ _ (by omega) (by omega)]; exact a2 i hi
        · by_cases e : i = S
          · subst e
            rw [uS0, uS1]; omega
          · rw [u _ _ (by omega) (by omega), u _ _ (by omega) (by omega)]; exact a3 i (by omega)
        · rw [u _ _ (by omega) (by omega), u _ _ (by omega) (by omega), u _ _ (by omega) (by omega), u _ _ (by omega) (by omega)]; exact a4 t ht
        · rw [c23] at hk
          have := l4 k hk
          rw [d _ _ (by omega) (by omega), d _ _ (by omega) (by omega), u (41 + k) 0 (by omega) (by omega), u (41 + k) 1 (by omega) (by omega), u22]
          omega
        · rw [c23, c24, d _ _ (by omega) (by omega)]; exact l5
        · rw [c23] at hk
          rw [d _ _ (by omega) (by omega), d _ _ (by omega) (by omega)]; exact l7 k hk
        · rw [c23]
          by_cases e : s = S
          · subst e
            rw [d10, uS0, uS1]; omega
          · rw [d _ _ (by omega) (by omega), u _ _ (by omega) (by omega), u _ _ (by omega) (by omega)]; exact l8 s (by omega)
        · rw [c23] at hk
          rw [u (41 + k) 0 (by omega) (by omega)]
          by_cases e : s = S
          · subst e
            have := l4 k hk
            rw [uS0, uS1]; omega
          · rw [u _ _ (by omega) (by omega), u _ _ (by omega) (by omega)]; exact l9 k s hk (by omega)
        · rw [u22, show (C 2 2 + 1 - 1).toNat = S by omega, uS1, c23]
        · rw [d _ _ (by omega) (by omega), u _ _ (by omega) (by omega)]; exact h4 s hs
        · obtain ⟨i1, i2, i3, i4, i5⟩ := h7 hb
          exact ⟨by rw [d _ _ (by omega) (by omega)]; exact i1, by rw [d _ _ (by omega) (by omega)]; exact i2, by rw [d _ _ (by omega) (by omega)]; exact i3, by rw [d _ _ (by omega) (by omega)]; exact i4, fun s hs => by rw [d _ _ (by omega) (by omega), d _ _ (by omega) (by omega)]; exact i5 s hs⟩
      exact s_ok.ret fin (by omega) (by rw [d _ _ (by omega) (by omega)]; exact h0) _
theorem s_sub {C N : tk_M} {K : Int} (h : j_all C N K) (h0 : N 7 0 = 0) (x : Int) : s_ok cd_2 (c_sub x C) (d_sub x N) (K + 2002) := by
  obtain ⟨h1, h2, h3, h4, h5, h6, h7⟩ := id h
  obtain ⟨l1, l2, l3, l4, l5, l6, l7, l8, l9, l10⟩ := id h2
  unfold c_sub d_sub
  rw [h3, l1, l2]
  by_cases c0 : ¬ (1 ≤ x ∧ x ≤ 100000)
  · rw [if_pos c0, if_pos c0]; exact s_ok.thr h (by omega) rfl (by decide) _
  · rw [if_neg c0, if_neg c0]
    by_cases c1 : ¬ C 1 3 = 0 ∨ C 2 2 = 0
    · rw [if_pos c1, if_pos c1]; exact s_ok.thr h (by omega) rfl (by decide) _
    · rw [if_neg c1, if_neg c1]
      by_cases c2 : C 2 3 = 32
      · rw [if_pos (by omega), if_pos c2]; exact s_ok.thr h (by omega) rfl (by decide) _
      · rw [if_neg (by omega), if_neg c2]
        have hb : C 1 3 = 0 := by omega
        obtain ⟨n, en⟩ : ∃ n : Nat, C 2 3 = (n : Int) := ⟨(C 2 3).toNat, by omega⟩
        obtain ⟨S, eS⟩ : ∃ S : Nat, C 2 2 = (S : Int) + 1 := ⟨(C 2 2 - 1).toNat, by omega⟩
        have e0 : (C 2 3).toNat = n := by omega
        have e1 : (C 2 3 + 1).toNat = n + 1 := by omega
        have e2 : (C 2 2 - 1).toNat = S := by omega
        have ef : f_addu C x = tk_up (tk_up (tk_up (tk_up (tk_up C (41 + n) 0 (C 2 2 - 1)) (41 + n) 1 (C 2 4)) (31 + S) 1 (C 2 3)) 2 4 (C 2 4 + x)) 2 3 (C 2 3 + 1) := by unfold f_addu; rw [e0, e2]
        rw [e0] at l5
        rw [e0, e1, ef, l5]
        obtain ⟨a1, a2, a3, a4, ⟨k1, k2, k3, k4, k5, k6, k7, k8⟩, a6⟩ := h1
        obtain ⟨t1, t2, t3, t4, t5, t6⟩ := id a1
        have l10 := l10 (by omega)
        rw [e2] at l10
        have u : ∀ c j, ¬ (c = 41 + n ∧ j < 2) → ¬ (c = 31 + S ∧ j = 1) → ¬ (c = 2 ∧ (j = 3 ∨ j = 4)) → tk_up (tk_up (tk_up (tk_up (tk_up C (41 + n) 0 (C 2 2 - 1)) (41 + n) 1 (C 2 4)) (31 + S) 1 (C 2 3)) 2 4 (C 2 4 + x)) 2 3 (C 2 3 + 1) c j = C c j := fun c j g1 g2 g3 => by
          rw [tk_up_n (by omega), tk_up_n (by omega), tk_up_n (by omega), tk_up_n (by omega), tk_up_n (by omega)]
        have u23 : tk_up (tk_up (tk_up (tk_up (tk_up C (41 + n) 0 (C 2 2 - 1)) (41 + n) 1 (C 2 4)) (31 + S) 1 (C 2 3)) 2 4 (C 2 4 + x)) 2 3 (C 2 3 + 1) 2 3 = C 2 3 + 1 := tk_up_s _ _ _ _
        have u24 : tk_up (tk_up (tk_up (tk_up (tk_up C (41 + n) 0 (C 2 2 - 1)) (41 + n) 1 (C 2 4)) (31 + S) 1 (C 2 3)) 2 4 (C 2 4 + x)) 2 3 (C 2 3 + 1) 2 4 = C 2 4 + x := by rw [tk_up_n (by omega), tk_up_s]
        have uS1 : tk_up (tk_up (tk_up (tk_up (tk_up C (41 + n) 0 (C 2 2 - 1)) (41 + n) 1 (C 2 4)) (31 + S) 1 (C 2 3)) 2 4 (C 2 4 + x)) 2 3 (C 2 3 + 1) (31 + S) 1 = C 2 3 := by rw [tk_up_n (by omega), tk_up_n (by omega), tk_up_s]
        have un0 : tk_up (tk_up (tk_up (tk_up (tk_up C (41 + n) 0 (C 2 2 - 1)) (41 + n) 1 (C 2 4)) (31 + S) 1 (C 2 3)) 2 4 (C 2 4 + x)) 2 3 (C 2 3 + 1) (41 + n) 0 = C 2 2 - 1 := by rw [tk_up_n (by omega), tk_up_n (by omega), tk_up_n (by omega), tk_up_n (by omega), tk_up_s]
        have un1 : tk_up (tk_up (tk_up (tk_up (tk_up C (41 + n) 0 (C 2 2 - 1)) (41 + n) 1 (C 2 4)) (31 + S) 1 (C 2 3)) 2 4 (C 2 4 + x)) 2 3 (C 2 3 + 1) (41 + n) 1 = C 2 4 := by rw [tk_up_n (by omega), tk_up_n (by omega), tk_up_n (by omega), tk_up_s]
        have d : ∀ c j, ¬ (c = 8 ∧ j = n) → ¬ (c = 9 ∧ j = n + 1) → ¬ (c = 7 ∧ j = 2) → tk_up (tk_up (tk_up N 8 n (C 2 2 - 1)) 9 (n + 1) (C 2 4 + x)) 7 2 (C 2 3 + 1) c j = N c j := fun c j g1 g2 g3 => by rw [tk_up_n g3, tk_up_n g2, tk_up_n g1]
        have d72 : tk_up (tk_up (tk_up N 8 n (C 2 2 - 1)) 9 (n + 1) (C 2 4 + x)) 7 2 (C 2 3 + 1) 7 2 = C 2 3 + 1 := tk_up_s _ _ _ _
        have d8 : tk_up (tk_up (tk_up N 8 n (C 2 2 - 1)) 9 (n + 1) (C 2 4 + x)) 7 2 (C 2 3 + 1) 8 n = C 2 2 - 1 := by rw [tk_up_n (by omega), tk_up_n (by omega), tk_up_s]
        have d9 : tk_up (tk_up (tk_up N 8 n (C 2 2 - 1)) 9 (n + 1) (C 2 4 + x)) 7 2 (C 2 3 + 1) 9 (n + 1) = C 2 4 + x := by rw [tk_up_n (by omega), tk_up_s]
        generalize tk_up (tk_up (tk_up (tk_up (tk_up C (41 + n) 0 (C 2 2 - 1)) (41 + n) 1 (C 2 4)) (31 + S) 1 (C 2 3)) 2 4 (C 2 4 + x)) 2 3 (C 2 3 + 1) = C' at *
        generalize tk_up (tk_up (tk_up N 8 n (C 2 2 - 1)) 9 (n + 1) (C 2 4 + x)) 7 2 (C 2 3 + 1) = N' at *
        have c22 : C' 2 2 = C 2 2 := u _ _ (by omega) (by omega) (by omega)
        have c13 : C' 1 3 = C 1 3 := u _ _ (by omega) (by omega) (by omega)
        have hS8 := l8 S (by omega)
        have fin : j_all C' N' K := by
          refine ⟨⟨⟨by omega, by omega, by omega, by omega, fun i hi => ?_, fun g => ?_⟩, fun i hi => ?_, fun i hi => ?_, fun t ht => ?_, ⟨by rw [u _ _ (by omega) (by omega) (by omega)]; exact k1, by rw [u _ _ (by omega) (by omega) (by omega)]; exact k2, by rw [u _ _ (by omega) (by omega) (by omega)]; exact k3, by rw [u _ _ (by omega) (by omega) (by omega)]; exact k4, by rw [u _ _ (by omega) (by omega) (by omega)]; exact k5, fun i hi => by rw [u _ _ (by omega) (by omega) (by omega)]; exact k6 i hi, by omega, by omega⟩, fun g => absurd (by omega) g⟩, ⟨by rw [d _ _ (by omega) (by omega) (by omega)]; omega, by omega, by omega, fun k hk => ?_, ?_, by rw [d _ _ (by omega) (by omega) (by omega)]; exact l6, fun k hk => ?_, fun s hs => ?_, fun k s hk hs => ?_, fun g => ?_⟩, by rw [d _ _ (by omega) (by omega) (by omega), c13]; exact h3, fun s hs => ?_, ⟨by rw [d _ _ (by omega) (by omega) (by omega)]; exact h5.1, fun t ht => by rw [d _ _ (by omega) (by omega) (by omega), d _ _ (by omega) (by omega) (by omega)]; exact h5.2 t ht⟩, fun g => absurd (by omega) g, fun _ => ?_⟩
          · by_cases e : i = n
            · subst e; rw [un0]; omega
            · rw [u _ _ (by omega) (by omega) (by omega)]; exact t5 i (by omega)
          · by_cases e : n = 0
            · subst e
              simp only [Nat.add_zero] at un0
              rw [un0, e2, u _ _ (by omega) (by omega) (by omega)]
              omega
            · have q := t5 0 (by omega)
              simp only [Nat.add_zero] at q
              rw [u 41 0 (by omega) (by omega) (by omega), u _ _ (by omega) (by omega) (by omega)]
              exact t6 (by omega)
          · rw [u _ _ (by omega) (by omega) (by omega)]; exact a2 i hi
          · rw [c22] at hi
            rw [u _ 0 (by omega) (by omega) (by omega)]
            by_cases e : i = S
            · subst e; rw [uS1]; omega
            · rw [u _ _ (by omega) (by omega) (by omega)]; exact a3 i hi
          · rw [u _ _ (by omega) (by omega) (by omega), u _ _ (by omega) (by omega) (by omega), u _ _ (by omega) (by omega) (by omega), u _ _ (by omega) (by omega) (by omega)]; exact a4 t ht
          · by_cases e : k = n
            · subst e
              rw [d8, un0, un1, d _ _ (by omega) (by omega) (by omega)]
              omega
            · have := l4 k (by omega)
              rw [d _ _ (by omega) (by omega) (by omega), d _ _ (by omega) (by omega) (by omega), u (41 + k) 0 (by omega) (by omega) (by omega), u (41 + k) 1 (by omega) (by omega) (by omega), c22]
              exact this
          · rw [u23, e1, d9, u24]
          · by_cases e : k = n
            · subst e
              rw [d9, d _ _ (by omega) (by omega) (by omega)]
              omega
            · rw [d _ _ (by omega) (by omega) (by omega), d _ _ (by omega) (by omega) (by omega)]; exact l7 k (by omega)
          · rw [c22] at hs
            have := l8 s hs
            rw [d _ _ (by omega) (by omega) (by omega), u _ 0 (by omega) (by omega) (by omega), u23]
            by_cases e : s = S
            · subst e; rw [uS1]; omega
            · rw [u _ _ (by omega) (by omega) (by omega)]; omega
          · rw [c22] at hs
            have q8 := l8 s hs
            rw [u (31 + s) 0 (by omega) (by omega) (by omega)]
            by_cases ek : k = n
            · subst ek
              rw [un0]
              by_cases e : s = S
              · subst e; rw [uS1]; omega
              · rw [u _ _ (by omega) (by omega) (by omega)]; omega
            · have q9 := l9 k s (by omega) hs
              rw [u (41 + k) 0 (by omega) (by omega) (by omega)]
              by_cases e : s = S
              · subst e
                rw [l10] at q9
                rw [uS1, q9]
                omega
              · rw [u _ _ (by omega) (by omega) (by omega)]; exact q9
          · rw [c22, e2, uS1, u23]; omega
          · rw [d _ _ (by omega) (by omega) (by omega), u _ _ (by omega) (by omega) (by omega)]; exact h4 s hs
          · obtain ⟨i1, i2, i3, i4, i5⟩ := h7 hb
            exact ⟨by rw [d _ _ (by omega) (by omega) (by omega)]; exact i1, by rw [d _ _ (by omega) (by omega) (by omega)]; exact i2, by rw [d _ _ (by omega) (by omega) (by omega)]; exact i3, by rw [d _ _ (by omega) (by omega) (by omega)]; exact i4, fun s hs => by rw [d _ _ (by omega) (by omega) (by omega), d _ _ (by omega) (by omega) (by omega)]; exact i5 s hs⟩
        exact s_ok.ret fin (by omega) (by rw [d _ _ (by omega) (by omega) (by omega)]; exact h0) _
end
section
/-! SIDE BY SIDE: clear, begin; calls that change a train -/
theorem m_reset_o {M : tk_M} {c j : Nat} (h : ¬ (c = 7 ∧ (j = 3 ∨ j = 7 ∨ j = 8 ∨ j = 9)) ∧ ¬ (c = 11 ∨ c = 12 ∨ c = 14 ∨ c = 16 ∨ c = 18 ∨ c = 19 ∨ c = 20 ∨ c = 26)) : m_reset M c j = M c j := by
  unfold m_reset m_r3 m_r2 m_r1 m_r0
  rw [if_neg (by omega), if_neg (by omega), if_neg (by omega), if_neg (by omega), tk_up_n (by omega), tk_up_n (by omega), tk_up_n (by omega), tk_up_n (by omega)]
theorem m_reset_3 {M : tk_M} {c j : Nat} (h : (c = 18 ∨ c = 19 ∨ c = 20) ∧ j < 8) : m_reset M c j = 0 := by
  unfold m_reset m_r3
  rw [if_pos h]
theorem m_reset_e {M : tk_M} {j : Nat} (h : j < 8) : m_reset M 26 j = -1 := by
  unfold m_reset m_r3
  rw [if_neg (by omega), if_pos ⟨rfl, h⟩]
theorem m_reset_2 {M : tk_M} {c j : Nat} (h : (c = 16 ∨ c = 11) ∧ j < 10) : m_reset M c j = 0 := by
  unfold m_reset m_r3 m_r2
  rw [if_neg (by omega), if_neg (by omega), if_pos h]
theorem m_reset_1 {M : tk_M} {c j : Nat} (h : (c = 12 ∨ c = 14) ∧ j < 32) : m_reset M c j = 0 := by
  unfold m_reset m_r3 m_r2 m_r1
  rw [if_neg (by omega), if_neg (by omega), if_neg (by omega), if_pos h]
theorem m_reset_0 {M : tk_M} {j : Nat} (h : j = 3 ∨ j = 7 ∨ j = 8 ∨ j = 9) : m_reset M 7 j = 0 := by
  unfold m_reset m_r3 m_r2 m_r1 m_r0
  rw [if_neg (by omega), if_neg (by omega), if_neg (by omega), if_neg (by omega)]
  rcases h with rfl | rfl | rfl | rfl
  · rw [tk_up_n (by omega), tk_up_n (by omega), tk_up_n (by omega), tk_up_s]
  · rw [tk_up_n (by omega), tk_up_n (by omega), tk_up_s]
  · rw [tk_up_n (by omega), tk_up_s]
  · rw [tk_up_s]
theorem s_clear {C N : tk_M} {K : Int} (h : j_all C N K) : j_all (tk_up (tk_up (tk_up (tk_up C 2 2 0) 2 3 0) 2 4 0) 1 3 0) (m_reset (tk_up (tk_up (tk_up N 7 11 0) 7 1 0) 7 2 0)) (K + 2002) := by
  obtain ⟨h1, h2, h3, h4, h5, h6, h7⟩ := (h.mono (show K ≤ K + 2002 by omega))
  obtain ⟨l1, l2, l3, l4, l5, l6, l7, l8, l9, l10⟩ := h2
  obtain ⟨a1, a2, a3, a4, ⟨k1, k2, k3, k4, k5, k6, k7, k8⟩, a6⟩ := h1
  have u : ∀ c j, ¬ (c = 2 ∧ (j = 2 ∨ j = 3 ∨ j = 4)) → ¬ (c = 1 ∧ j = 3) → tk_up (tk_up (tk_up (tk_up C 2 2 0) 2 3 0) 2 4 0) 1 3 0 c j = C c j := fun c j g1 g2 => by rw [tk_up_n (by omega), tk_up_n (by omega), tk_up_n (by omega), tk_up_n (by omega)]
  have u22 : tk_up (tk_up (tk_up (tk_up C 2 2 0) 2 3 0) 2 4 0) 1 3 0 2 2 = 0 := by rw [tk_up_n (by omega), tk_up_n (by omega), tk_up_n (by omega), tk_up_s]
  have u23 : tk_up (tk_up (tk_up (tk_up C 2 2 0) 2 3 0) 2 4 0) 1 3 0 2 3 = 0 := by rw [tk_up_n (by omega), tk_up_n (by omega), tk_up_s]
  have u24 : tk_up (tk_up (tk_up (tk_up C 2 2 0) 2 3 0) 2 4 0) 1 3 0 2 4 = 0 := by rw [tk_up_n (by omega), tk_up_s]
  have u13 : tk_up (tk_up (tk_up (tk_up C 2 2 0) 2 3 0) 2 4 0) 1 3 0 1 3 = 0 := by rw [tk_up_s]
  have d : ∀ c j, c ≠ 7 → c ≠ 11 → c ≠ 12 → c ≠ 14 → c ≠ 16 → c ≠ 18 → c ≠ 19 → c ≠ 20 → c ≠ 26 → m_reset (tk_up (tk_up (tk_up N 7 11 0) 7 1 0) 7 2 0) c j = N c j := fun c j g1 g2 g3 g4 g5 g6 g7 g8 g9 => by rw [m_reset_o (by omega), tk_up_n (by omega), tk_up_n (by omega), tk_up_n (by omega)]
  have d71 : m_reset (tk_up (tk_up (tk_up N 7 11 0) 7 1 0) 7 2 0) 7 1 = 0 := by rw [m_reset_o (by omega), tk_up_n (by omega), tk_up_s]
  have d72 : m_reset (tk_up (tk_up (tk_up N 7 11 0) 7 1 0) 7 2 0) 7 2 = 0 := by rw [m_reset_o (by omega), tk_up_s]
  have d711 : m_reset (tk_up (tk_up (tk_up N 7 11 0) 7 1 0) 7 2 0) 7 11 = 0 := by rw [m_reset_o (by omega), tk_up_n (by omega), tk_up_n (by omega), tk_up_s]
  have z0 : ∀ j, j = 3 ∨ j = 7 ∨ j = 8 ∨ j = 9 → m_reset (tk_up (tk_up (tk_up N 7 11 0) 7 1 0) 7 2 0) 7 j = 0 := fun j hj => m_reset_0 hj
  have z2 : ∀ s, s < 10 → m_reset (tk_up (tk_up (tk_up N 7 11 0) 7 1 0) 7 2 0) 11 s = 0 ∧ m_reset (tk_up (tk_up (tk_up N 7 11 0) 7 1 0) 7 2 0) 16 s = 0 := fun s hs => ⟨m_reset_2 ⟨Or.inr rfl, hs⟩, m_reset_2 ⟨Or.inl rfl, hs⟩⟩
  generalize tk_up (tk_up (tk_up (tk_up C 2 2 0) 2 3 0) 2 4 0) 1 3 0 = C' at *
  generalize m_reset (tk_up (tk_up (tk_up N 7 11 0) 7 1 0) 7 2 0) = N' at *
  refine ⟨⟨⟨by omega, by omega, by omega, by omega, fun i hi => by omega, fun g => by omega⟩, fun i hi => ?_, fun i hi => by omega, fun t ht => ?_, ⟨by rw [u _ _ (by omega) (by omega)]; exact k1, by rw [u _ _ (by omega) (by omega)]; exact k2, by rw [u _ _ (by omega) (by omega)]; exact k3, by rw [u _ _ (by omega) (by omega)]; exact k4, by rw [u _ _ (by omega) (by omega)]; exact k5, fun i hi => by rw [u _ _ (by omega) (by omega)]; exact k6 i hi, by omega, by omega⟩, fun g => absurd u13 g⟩, ⟨by omega, by omega, by omega, fun k hk => by omega, ?_, ?_, fun k hk => by omega, fun s hs => by omega, fun k s hk hs => by omega, fun g => by omega⟩, by omega, fun s hs => ?_, ⟨by rw [z0 3 (by omega)]; decide, fun t ht => ?_⟩, fun g => absurd u13 g, fun _ => ⟨z0 3 (by omega), z0 7 (by omega), z0 8 (by omega), z0 9 (by omega), z2⟩⟩
  · rw [u _ _ (by omega) (by omega)]; exact a2 i hi
  · rw [u _ _ (by omega) (by omega), u _ _ (by omega) (by omega), u _ _ (by omega) (by omega), u _ _ (by omega) (by omega)]; exact a4 t ht
  · rw [u23, u24]
    show N' 9 0 = 0
    rw [d _ _ (by omega) (by omega) (by omega) (by omega) (by omega) (by omega) (by omega) (by omega) (by omega)]; exact l6
  · rw [d _ _ (by omega) (by omega) (by omega) (by omega) (by omega) (by omega) (by omega) (by omega) (by omega)]; exact l6
  · rw [d _ _ (by omega) (by omega) (by omega) (by omega) (by omega) (by omega) (by omega) (by omega) (by omega), u _ _ (by omega) (by omega)]; exact h4 s hs
  · rw [d _ _ (by omega) (by omega) (by omega) (by omega) (by omega) (by omega) (by omega) (by omega) (by omega), d _ _ (by omega) (by omega) (by omega) (by omega) (by omega) (by omega) (by omega) (by omega) (by omega)]; exact h5.2 t ht
theorem s_begin {C N : tk_M} {K : Int} (h : j_all C N K) (hK0 : 0 ≤ K) (h0 : N 7 0 = 0) (m k s : Int) : s_ok cd_3 (c_begin m k s C) (d_begin m k s N) (K + 2002) := by
  obtain ⟨h1, h2, h3, h4, h5, h6, h7⟩ := id h
  obtain ⟨l1, l2, l3, l4, l5, l6, l7, l8, l9, l10⟩ := id h2
  unfold c_begin d_begin
  rw [j_bare h2, l1, l2, l5]
  by_cases c0 : ¬ (1 ≤ m ∧ m ≤ 100000) ∨ ¬ (1 ≤ k ∧ k ≤ 100000) ∨ ¬ (1 ≤ s ∧ s ≤ 100000)
  · rw [if_pos c0, if_pos c0]; exact s_ok.thr h (by omega) rfl (by decide) _
  · rw [if_neg c0, if_neg c0]
    by_cases c1 : C 2 2 = 0 ∨ ¬ f_bare C = 0
    · rw [if_pos c1, if_pos c1]; exact s_ok.thr h (by omega) rfl (by decide) _
    · rw [if_neg c1, if_neg c1]
      have hbare : f_bare C = 0 := by omega
      have hS : 1 ≤ C 2 2 := by omega
      have hN : 1 ≤ C 2 3 := by
        unfold f_bare at hbare
        have q := l10 (by omega)
        have q8 := l8 (C 2 2 - 1).toNat (by omega)
        split at hbare
        · omega
        · omega
      obtain ⟨a1, a2, a3, a4, ⟨k1, k2, k3, k4, k5, k6, k7, k8⟩, a6⟩ := h1
      have ob : ∀ c j, c ≠ 1 → f_beg0 C m k s c j = C c j := fun c j g => f_beg0_o g
      have e2 : f_beg0 C m k s 2 2 = C 2 2 := ob _ _ (by decide)
      have e3 : f_beg0 C m k s 2 3 = C 2 3 := ob _ _ (by decide)
      have ul : ∀ c j, c < 73 → c ≠ 3 → f_beg C m k s c j = f_emp (f_beg0 C m k s) c j := fun c j g1 g2 => by
        unfold f_beg f_fg
        rw [if_neg (by omega), tk_up_c _ _ _ _ g2, tk_up_c _ _ _ _ g2]
      have u1 : ∀ j, f_beg C m k s 1 j = f_beg0 C m k s 1 j := fun j => by rw [ul _ _ (by omega) (by omega), f_emp_o (by omega) (by omega) (by omega)]
      have u13 : f_beg C m k s 1 3 = 1 := by rw [u1]; unfold f_beg0; rw [tk_up_s]
      have u14 : f_beg C m k s 1 4 = m := by rw [u1]; unfold f_beg0; rw [tk_up_n (by omega), tk_up_n (by omega), tk_up_n (by omega), tk_up_n (by omega), tk_up_s]
      have u15 : f_beg C m k s 1 5 = k := by rw [u1]; unfold f_beg0; rw [tk_up_n (by omega), tk_up_n (by omega), tk_up_n (by omega), tk_up_s]
      have u16 : f_beg C m k s 1 6 = s := by rw [u1]; unfold f_beg0; rw [tk_up_n (by omega), tk_up_n (by omega), tk_up_s]
      have u17 : f_beg C m k s 1 7 = 0 := by rw [u1]; unfold f_beg0; rw [tk_up_n (by omega), tk_up_s]
      have u2 : ∀ j, j ≠ 5 → f_beg C m k s 2 j = C 2 j := fun j g => by rw [ul _ _ (by omega) (by omega), f_emp_o (by omega) (by omega) (by omega), ob _ _ (by decide)]
      have u25 : f_beg C m k s 2 5 = 0 := by rw [ul _ _ (by omega) (by omega)]; unfold f_emp; rw [tk_up_s]
      have u30 : f_beg C m k s 3 0 = 0 := by unfold f_beg f_fg; rw [if_neg (by omega), tk_up_n (by omega), tk_up_s]
      have u31 : f_beg C m k s 3 1 = 0 := by unfold f_beg f_fg; rw [if_neg (by omega), tk_up_s]
      have uo : ∀ c j, 31 ≤ c → c < 73 → ¬ (31 ≤ c ∧ c < 31 + (C 2 2).toNat ∧ (j = 2 ∨ j = 3)) → ¬ (41 ≤ c ∧ c < 41 + (C 2 3).toNat ∧ j = 2) → f_beg C m k s c j = C c j := fun c j g1 g2 g3 g4 => by rw [ul _ _ g2 (by omega), f_emp_o (by omega) (by rw [e2]; exact g3) (by rw [e3]; exact g4), ob _ _ (by omega)]
      have us : ∀ i : Nat, (i : Int) < C 2 2 → f_beg C m k s (31 + i) 2 = 0 ∧ f_beg C m k s (31 + i) 3 = 0 := fun i hi => by
        rw [ul _ _ (by omega) (by omega), ul _ _ (by omega) (by omega)]
        unfold f_emp tk_st2
        rw [e2, e3, tk_up_n (by omega), tk_st_o (by omega), tk_st_o (by omega), tk_st_i (by omega) (by omega), tk_up_n (by omega), tk_st_o (by omega), tk_st_i (by omega) (by omega)]
        exact ⟨rfl, rfl⟩
      have uk : ∀ i : Nat, (i : Int) < C 2 3 → f_beg C m k s (41 + i) 2 = 0 := fun i hi => by
        rw [ul _ _ (by omega) (by omega)]
        unfold f_emp
        rw [e2, e3, tk_up_n (by omega), tk_st_i (by omega) (by omega)]
      have ut : ∀ t j, t < 8 → j ≠ 0 → j ≠ 9 → j ≠ 10 → j ≠ 12 → f_beg C m k s (73 + t) j = C (73 + t) j := fun t j g g1 g2 g3 g4 => by
        unfold f_beg f_fg
        rw [if_pos (by omega), if_neg (by omega), if_neg (by omega), tk_up_n (by omega), tk_up_n (by omega), f_emp_o (by omega) (by omega) (by omega), ob _ _ (by omega)]
      have ut0 : ∀ t j, t < 8 → j = 0 ∨ j = 9 ∨ j = 10 → f_beg C m k s (73 + t) j = 0 := fun t j g g1 => by
        unfold f_beg f_fg
        rw [if_pos (by omega), if_pos g1]
      have ut12 : ∀ t, t < 8 → f_beg C m k s (73 + t) 12 = -1 := fun t g => by
        unfold f_beg f_fg
        rw [if_pos (by omega), if_neg (by omega), if_pos rfl]
      have ed : d_beg0 N m k s = tk_up (tk_up (tk_up (tk_up (tk_up N 7 11 1) 7 4 m) 7 5 k) 7 6 s) 7 10 (C 2 4) := by unfold d_beg0; rw [l2, l5]
      have d : ∀ c j, c ≠ 7 → c ≠ 11 → c ≠ 12 → c ≠ 14 → c ≠ 16 → c ≠ 18 → c ≠ 19 → c ≠ 20 → c ≠ 26 → m_reset (d_beg0 N m k s) c j = N c j := fun c j g1 g2 g3 g4 g5 g6 g7 g8 g9 => by rw [m_reset_o (by omega), ed, tk_up_n (by omega), tk_up_n (by omega), tk_up_n (by omega), tk_up_n (by omega), tk_up_n (by omega)]
      have d7 : ∀ j, j = 0 ∨ j = 1 ∨ j = 2 → m_reset (d_beg0 N m k s) 7 j = N 7 j := fun j g => by rw [m_reset_o (by omega), ed, tk_up_n (by omega), tk_up_n (by omega), tk_up_n (by omega), tk_up_n (by omega), tk_up_n (by omega)]
      have d711 : m_reset (d_beg0 N m k s) 7 11 = 1 := by rw [m_reset_o (by omega), ed, tk_up_n (by omega), tk_up_n (by omega), tk_up_n (by omega), tk_up_n (by omega), tk_up_s]
      have d74 : m_reset (d_beg0 N m k s) 7 4 = m := by rw [m_reset_o (by omega), ed, tk_up_n (by omega), tk_up_n (by omega), tk_up_n (by omega), tk_up_s]
      have d75 : m_reset (d_beg0 N m k s) 7 5 = k := by rw [m_reset_o (by omega), ed, tk_up_n (by omega), tk_up_n (by omega), tk_up_s]
      have d76 : m_reset (d_beg0 N m k s) 7 6 = s := by rw [m_reset_o (by omega), ed, tk_up_n (by omega), tk_up_s]
      have d710 : m_reset (d_beg0 N m k s) 7 10 = C 2 4 := by rw [m_reset_o (by omega), ed, tk_up_s]
      have z0 : ∀ j, j = 3 ∨ j = 7 ∨ j = 8 ∨ j = 9 → m_reset (d_beg0 N m k s) 7 j = 0 := fun j hj => m_reset_0 hj
      have z2 : ∀ s' : Nat, s' < 10 → m_reset (d_beg0 N m k s) 11 s' = 0 ∧ m_reset (d_beg0 N m k s) 16 s' = 0 := fun s' hs => ⟨m_reset_2 ⟨Or.inr rfl, hs⟩, m_reset_2 ⟨Or.inl rfl, hs⟩⟩
      have z1 : ∀ i : Nat, i < 32 → m_reset (d_beg0 N m k s) 12 i = 0 ∧ m_reset (d_beg0 N m k s) 14 i = 0 := fun i hi => ⟨m_reset_1 ⟨Or.inl rfl, hi⟩, m_reset_1 ⟨Or.inr rfl, hi⟩⟩
      have z3 : ∀ t : Nat, t < 8 → m_reset (d_beg0 N m k s) 18 t = 0 ∧ m_reset (d_beg0 N m k s) 26 t = -1 := fun t ht => ⟨m_reset_3 ⟨Or.inl rfl, ht⟩, m_reset_e ht⟩
      clear ed e2 e3 ob ul u1
      generalize f_beg C m k s = C' at *
      generalize m_reset (d_beg0 N m k s) = N' at *
      have c22 := u2 2 (by decide)
      have c23 := u2 3 (by decide)
      have c24 := u2 4 (by decide)
      have lay : j_lay C' N' := h2.eq c22 c23 c24 (fun i hi => ⟨uo _ _ (by omega) (by omega) (by omega) (by omega), uo _ _ (by omega) (by omega) (by omega) (by omega)⟩) (fun i hi => ⟨uo _ _ (by omega) (by omega) (by omega) (by omega), uo _ _ (by omega) (by omega) (by omega) (by omega)⟩) (d7 1 (by omega)) (d7 2 (by omega)) (fun j => d _ _ (by omega) (by omega) (by omega) (by omega) (by omega) (by omega) (by omega) (by omega) (by omega)) (fun j => d _ _ (by omega) (by omega) (by omega) (by omega) (by omega) (by omega) (by omega) (by omega) (by omega)) (fun j => d _ _ (by omega) (by omega) (by omega) (by omega) (by omega) (by omega) (by omega) (by omega) (by omega))
      have inv : p_inv C' K := by
        refine ⟨p_trk_eq c22 c23 (fun i hi => uo _ _ (by omega) (by omega) (by omega) (by omega)) (fun i hi => uo _ _ (by omega) (by omega) (by omega) (by omega)) a1, fun i hi => ?_, fun i hi => ?_, fun t ht => ?_, ⟨by omega, by omega, by omega, by omega, by omega, fun i hi => ?_, by omega, by omega⟩, fun _ => ⟨by omega, fun t ht hc => absurd (ut0 t 0 ht (Or.inl rfl)) hc⟩⟩
        · rw [uo _ _ (by omega) (by omega) (by omega) (by omega)]; exact a2 i hi
        · rw [c22] at hi
          rw [uo _ 0 (by omega) (by omega) (by omega) (by omega), uo _ 1 (by omega) (by omega) (by omega) (by omega)]; exact a3 i hi
        · rw [ut12 t ht, ut t 3 ht (by decide) (by decide) (by decide) (by decide), ut t 8 ht (by decide) (by decide) (by decide) (by decide), ut t 1 ht (by decide) (by decide) (by decide) (by decide)]
          exact ⟨by decide, (a4 t ht).2⟩
        · by_cases e : (i : Int) < C 2 2
          · rw [(us i e).2]; exact hK0
          · rw [uo _ _ (by omega) (by omega) (by omega) (by omega)]; exact k6 i hi
      have pre : j_pre C' N' := by
        refine ⟨⟨by rw [z0 3 (by omega), u17], by rw [d74, u14], by rw [d75, u15], by rw [d76, u16], by rw [z0 7 (by omega), u30], by rw [z0 8 (by omega), u31], by rw [z0 9 (by omega), u25], by rw [d710, c24]⟩, by omega, fun i hi => ?_, fun i hi => ?_, fun t ht => ⟨?_, ?_, ?_, fun hc => absurd (ut0 t 0 ht (Or.inl rfl)) hc⟩⟩
        · rw [c23] at hi
          rw [(z1 i (by omega)).1, (z1 i (by omega)).2, uk i hi]
          exact ⟨rfl, by decide, by decide, by decide, by decide, fun g => absurd g (by decide)⟩
        · rw [c22] at hi
          rw [(z2 i (by omega)).1, (z2 i (by omega)).2, (us i hi).1, (us i hi).2, d _ _ (by omega) (by omega) (by omega) (by omega) (by omega) (by omega) (by omega) (by omega) (by omega), uo _ _ (by omega) (by omega) (by omega) (by omega), (h4 i (by omega)).1, (h4 i (by omega)).2]
          exact ⟨rfl, rfl, rfl⟩
        · rw [(z3 t ht).1, ut0 t 0 ht (Or.inl rfl)]
        · rw [(z3 t ht).2, ut12 t ht]
        · rw [ut12 t ht]
          exact ⟨Or.inl rfl, by omega⟩
      have fin : j_all C' N' K := by
        refine ⟨inv, lay, by rw [d711, u13], fun i hi => ?_, ⟨by rw [z0 3 (by omega)]; decide, fun t ht => ?_⟩, fun _ => ⟨pre, fun t ht => ?_⟩, fun g => by omega⟩
        · rw [d _ _ (by omega) (by omega) (by omega) (by omega) (by omega) (by omega) (by omega) (by omega) (by omega), uo _ _ (by omega) (by omega) (by omega) (by omega)]; exact h4 i hi
        · rw [d _ _ (by omega) (by omega) (by omega) (by omega) (by omega) (by omega) (by omega) (by omega) (by omega), d _ _ (by omega) (by omega) (by omega) (by omega) (by omega) (by omega) (by omega) (by omega) (by omega)]; exact h5.2 t ht
        · unfold f_loc f_who
          rw [ut0 t 0 ht (Or.inl rfl), ut0 t 9 ht (Or.inr (Or.inl rfl)), ut0 t 10 ht (Or.inr (Or.inr rfl))]
          rw [if_neg (by omega), if_neg (by omega)]
          exact ⟨rfl, rfl, Or.inl (ut12 t ht)⟩
      exact s_ok.ret fin (by omega) (by rw [d7 0 (by omega)]; exact h0) _
end
section
/-! SIDE BY SIDE: detect; calls that change a train; ticks; requests -/
/-- ready to find all anew -/
def j_one (C D : tk_M) (K : Int) : Prop := p_inv C K ∧ j_lay C D ∧ j_pre C D ∧ q_tm D ∧ D 7 11 = C 1 3 ∧ ¬ C 1 3 = 0 ∧ ∀ s : Nat, C 2 2 ≤ (s : Int) → s < 10 → D 17 s = 0 ∧ C (31 + s) 4 = 0
theorem j_one.an {C D : tk_M} {K : Int} (h : j_one C D K) (hK : K ≤ 10000000) : p_an C := h.1.an hK h.2.2.2.2.2.1
theorem j_one.fi {C D : tk_M} {K : Int} (h : j_one C D K) (hK : K ≤ 10000000) : q_fi D := j_fi h.1 hK h.2.2.2.2.2.1 h.2.1 h.2.2.1 h.2.2.2.1
theorem j_one.set {C D : tk_M} {K : Int} (h : j_one C D K) (h0 : 0 ≤ K) (hK : K ≤ 10000000) : j_all (f_all C) (m_set D) (K + 1) := s_set h.1 h0 hK h.2.2.2.2.2.1 h.2.1 h.2.2.1 h.2.2.2.1 h.2.2.2.2.1 h.2.2.2.2.2.2
theorem j_one.of {C D : tk_M} {K : Int} (h : j_all C D K) (hb : ¬ C 1 3 = 0) : j_one C D K := by
  obtain ⟨h1, h2, h3, h4, h5, h6, h7⟩ := h
  exact ⟨h1, h2, (h6 hb).1, h5, h3, hb, fun s _ hs => h4 s hs⟩
theorem j_det {C N : tk_M} {K : Int} (h : j_all C N K) (hb : ¬ C 1 3 = 0) {s : Nat} (hs : (s : Int) < C 2 2) (b : Int) : j_one (tk_up C (31 + s) 2 b) (tk_up N 16 s b) K := by
  obtain ⟨h1, h2, ⟨p1, p2, p3, p4, p5⟩, h4, h5, h6, h7⟩ := j_one.of h hb
  have hS := h1.1.2.1
  have u : ∀ c j, ¬ (c = 31 + s ∧ j = 2) → tk_up C (31 + s) 2 b c j = C c j := fun c j g => tk_up_n g
  have us : tk_up C (31 + s) 2 b (31 + s) 2 = b := tk_up_s _ _ _ _
  have d : ∀ c j, ¬ (c = 16 ∧ j = s) → tk_up N 16 s b c j = N c j := fun c j g => tk_up_n g
  have ds : tk_up N 16 s b 16 s = b := tk_up_s _ _ _ _
  generalize tk_up C (31 + s) 2 b = C' at *
  generalize tk_up N 16 s b = N' at *
  have e22 := u 2 2 (by omega)
  have e23 := u 2 3 (by omega)
  have e13 := u 1 3 (by omega)
  obtain ⟨a1, a2, a3, a4, ⟨k1, k2, k3, k4, k5, k6, k7, k8⟩, a6⟩ := h1
  refine ⟨⟨p_trk_eq e22 e23 (fun i hi => u _ _ (by omega)) (fun i hi => u _ _ (by omega)) a1, fun i hi => ?_, fun i hi => ?_, fun t ht => ?_, ⟨by rw [u _ _ (by omega)]; exact k1, by rw [u _ _ (by omega)]; exact k2, by rw [u _ _ (by omega)]; exact k3, by rw [u _ _ (by omega)]; exact k4, by rw [u _ _ (by omega)]; exact k5, fun i hi => by rw [u _ _ (by omega)]; exact k6 i hi, by rw [u _ _ (by omega)]; exact k7, by rw [u _ _ (by omega), e23]; exact k8⟩, fun hb => ⟨by rw [e13] at hb; have := (a6 hb).1; omega, fun t ht hc hr => ?_⟩⟩, h2.eq e22 e23 (u _ _ (by omega)) (fun i hi => ⟨u _ _ (by omega), u _ _ (by omega)⟩) (fun i hi => ⟨u _ _ (by omega), u _ _ (by omega)⟩) (d _ _ (by omega)) (d _ _ (by omega)) (fun j => d _ _ (by omega)) (fun j => d _ _ (by omega)) (fun j => d _ _ (by omega)), ⟨?_, by omega, fun k hk => ?_, fun i hi => ?_, fun t ht => ?_⟩, ⟨by rw [d _ _ (by omega)]; exact h4.1, fun t ht => by rw [d _ _ (by omega), d _ _ (by omega)]; exact h4.2 t ht⟩, by rw [d _ _ (by omega), e13]; exact h5, by rw [e13]; exact h6, fun i hi h10 => ?_⟩
  · rw [u _ _ (by omega)]; exact a2 i hi
  · rw [e22] at hi
    rw [u _ 0 (by omega), u _ 1 (by omega)]; exact a3 i hi
  · rw [u _ 12 (by omega), u _ 3 (by omega), u _ 8 (by omega), u _ 1 (by omega)]; exact a4 t ht
  · rw [e13] at hb
    rw [u _ 0 (by omega)] at hc
    rw [u _ 2 (by omega)] at hr
    have := (a6 hb).2 t ht hc hr
    unfold p_mk at this ⊢
    rw [u _ 6 (by omega), u _ 5 (by omega), e23]
    exact this
  · rw [d 7 3 (by omega), d 7 4 (by omega), d 7 5 (by omega), d 7 6 (by omega), d 7 7 (by omega), d 7 8 (by omega), d 7 9 (by omega), d 7 10 (by omega), u 1 7 (by omega), u 1 4 (by omega), u 1 5 (by omega), u 1 6 (by omega), u 3 0 (by omega), u 3 1 (by omega), u 2 5 (by omega), u 2 4 (by omega)]
    exact p1
  · rw [e23] at hk
    rw [d _ _ (by omega), d _ _ (by omega), u _ 2 (by omega), u _ 4 (by omega)]; exact p3 k hk
  · rw [e22] at hi
    have q := p4 i hi
    rw [d 11 i (by omega), d 17 i (by omega), u _ 3 (by omega), u _ 4 (by omega)]
    by_cases e : i = s
    · subst e
      rw [us, ds]; exact ⟨q.1, rfl, q.2.2⟩
    · rw [d _ _ (by omega), u _ _ (by omega)]; exact q
  · have q := p5 t ht
    have ea : m_a N' t = m_a N t := by
      unfold m_a
      rw [d 23 t (by omega), m_at_eq (d _ _ (by omega)) (fun k => d _ _ (by omega))]
    have ez : m_z N' t = m_z N t := by
      unfold m_z
      rw [d 22 t (by omega), m_at_eq (d _ _ (by omega)) (fun k => d _ _ (by omega))]
    unfold j_tr at q ⊢
    rw [ea, ez, d 18 t (by omega), d 19 t (by omega), d 20 t (by omega), d 21 t (by omega), d 22 t (by omega), d 23 t (by omega), d 24 t (by omega), d 25 t (by omega), d 26 t (by omega), e23, u (73 + t) 0 (by omega), u (73 + t) 1 (by omega), u (73 + t) 2 (by omega), u (73 + t) 3 (by omega), u (73 + t) 4 (by omega), u (73 + t) 5 (by omega), u (73 + t) 6 (by omega), u (73 + t) 7 (by omega), u (73 + t) 8 (by omega), u (73 + t) 12 (by omega)]
    exact q
  · rw [e22] at hi
    rw [d _ _ (by omega), u _ _ (by omega)]; exact h7 i hi h10
/-- one train changed in both -/
theorem j_one.tr {C N C' N' : tk_M} {K : Int} (h : j_one C N K) {t : Nat} (ht : t < 8) (u : ∀ c j, c ≠ 73 + t → C' c j = C c j) (d : ∀ c j, ¬ (18 ≤ c ∧ c ≤ 25 ∧ j = t) → N' c j = N c j) (hj : j_tr C' N' t) (hq : 0 ≤ N' 24 t ∧ 0 ≤ N' 25 t) (ha : C' (73 + t) 12 < 32 ∧ 0 ≤ C' (73 + t) 3 ∧ 0 ≤ C' (73 + t) 8 ∧ 0 ≤ C' (73 + t) 1) (hm : ¬ C' (73 + t) 0 = 0 → ¬ C' (73 + t) 2 = 0 → p_mk C' t) : j_one C' N' K := by
  obtain ⟨h1, h2, ⟨p1, p2, p3, p4, p5⟩, h4, h5, h6, h7⟩ := h
  have e22 := u 2 2 (by omega)
  have e23 := u 2 3 (by omega)
  have e13 := u 1 3 (by omega)
  obtain ⟨a1, a2, a3, a4, ⟨k1, k2, k3, k4, k5, k6, k7, k8⟩, a6⟩ := h1
  have s10 := a1.2.1
  have s32 := a1.2.2.2.1
  refine ⟨⟨p_trk_eq e22 e23 (fun i hi => u _ _ (by omega)) (fun i hi => u _ _ (by omega)) a1, fun i hi => ?_, fun i hi => ?_, fun i hi => ?_, ⟨by rw [u _ _ (by omega)]; exact k1, by rw [u _ _ (by omega)]; exact k2, by rw [u _ _ (by omega)]; exact k3, by rw [u _ _ (by omega)]; exact k4, by rw [u _ _ (by omega)]; exact k5, fun i hi => by rw [u _ _ (by omega)]; exact k6 i hi, by rw [u _ _ (by omega)]; exact k7, by rw [u _ _ (by omega), e23]; exact k8⟩, fun hb => ⟨by rw [e13] at hb; have := (a6 hb).1; omega, fun i hi hc hr => ?_⟩⟩, h2.eq e22 e23 (u _ _ (by omega)) (fun i hi => ⟨u _ _ (by omega), u _ _ (by omega)⟩) (fun i hi => ⟨u _ _ (by omega), u _ _ (by omega)⟩) (d _ _ (by omega)) (d _ _ (by omega)) (fun j => d _ _ (by omega)) (fun j => d _ _ (by omega)) (fun j => d _ _ (by omega)), ⟨?_, by omega, fun k hk => ?_, fun i hi => ?_, fun i hi => ?_⟩, ⟨by rw [d _ _ (by omega)]; exact h4.1, fun i hi => ?_⟩, by rw [d _ _ (by omega), e13]; exact h5, by rw [e13]; exact h6, fun i hi h10 => ?_⟩
  · rw [u _ _ (by omega)]; exact a2 i hi
  · rw [e22] at hi
    rw [u _ 0 (by omega), u _ 1 (by omega)]; exact a3 i hi
  · by_cases e : i = t
    · subst e; exact ha
    · rw [u _ 12 (by omega), u _ 3 (by omega), u _ 8 (by omega), u _ 1 (by omega)]; exact a4 i hi
  · by_cases e : i = t
    · subst e; exact hm hc hr
    · rw [e13] at hb
      rw [u _ 0 (by omega)] at hc
      rw [u _ 2 (by omega)] at hr
      have := (a6 hb).2 i hi hc hr
      unfold p_mk at this ⊢
      rw [u _ 6 (by omega), u _ 5 (by omega), e23]
      exact this
  · rw [d 7 3 (by omega), d 7 4 (by omega), d 7 5 (by omega), d 7 6 (by omega), d 7 7 (by omega), d 7 8 (by omega), d 7 9 (by omega), d 7 10 (by omega), u 1 7 (by omega), u 1 4 (by omega), u 1 5 (by omega), u 1 6 (by omega), u 3 0 (by omega), u 3 1 (by omega), u 2 5 (by omega), u 2 4 (by omega)]
    exact p1
  · rw [e23] at hk
    rw [d _ _ (by omega), d _ _ (by omega), u _ 2 (by omega), u _ 4 (by omega)]; exact p3 k hk
  · rw [e22] at hi
    rw [d 11 i (by omega), d 17 i (by omega), d 16 i (by omega), u _ 3 (by omega), u _ 4 (by omega), u _ 2 (by omega)]; exact p4 i hi
  · by_cases e : i = t
    · subst e; exact hj
    · have q := p5 i hi
      have ea : m_a N' i = m_a N i := by
        unfold m_a
        rw [d 23 i (by omega), m_at_eq (d _ _ (by omega)) (fun k => d _ _ (by omega))]
      have ez : m_z N' i = m_z N i := by
        unfold m_z
        rw [d 22 i (by omega), m_at_eq (d _ _ (by omega)) (fun k => d _ _ (by omega))]
      unfold j_tr at q ⊢
      rw [ea, ez, d 18 i (by omega), d 19 i (by omega), d 20 i (by omega), d 21 i (by omega), d 22 i (by omega), d 23 i (by omega), d 24 i (by omega), d 25 i (by omega), d 26 i (by omega), e23, u (73 + i) 0 (by omega), u (73 + i) 1 (by omega), u (73 + i) 2 (by omega), u (73 + i) 3 (by omega), u (73 + i) 4 (by omega), u (73 + i) 5 (by omega), u (73 + i) 6 (by omega), u (73 + i) 7 (by omega), u (73 + i) 8 (by omega), u (73 + i) 12 (by omega)]
      exact q
  · by_cases e : i = t
    · subst e; exact hq
    · rw [d _ _ (by omega), d _ _ (by omega)]; exact h4.2 i hi
  · rw [e22] at hi
    rw [d _ _ (by omega), u _ _ (by omega)]; exact h7 i hi h10
theorem j_con {C N : tk_M} {K : Int} (h : j_all C N K) (hb : ¬ C 1 3 = 0) {t : Nat} (ht : t < 8) {x : Int} (hx : 1 ≤ x) : j_one (f_join C t x) (m_con N t x) K := by
  have h1 := j_one.of h hb
  obtain ⟨q1, q2, q3, q4⟩ := h1.2.2.1.2.2.2.2 t ht
  have a := h1.1.2.2.2.1 t ht
  have qt := h1.2.2.2.1.2 t ht
  have u : ∀ c j, c ≠ 73 + t → f_join C t x c j = C c j := fun c j g => by unfold f_join; rw [tk_up_n (by omega), tk_up_n (by omega), tk_up_n (by omega), tk_up_n (by omega)]
  have uo : ∀ j, j ≠ 0 → j ≠ 1 → j ≠ 2 → j ≠ 7 → f_join C t x (73 + t) j = C (73 + t) j := fun j g1 g2 g3 g4 => by unfold f_join; rw [tk_up_n (by omega), tk_up_n (by omega), tk_up_n (by omega), tk_up_n (by omega)]
  have u0 : f_join C t x (73 + t) 0 = 1 := by unfold f_join; rw [tk_up_n (by omega), tk_up_n (by omega), tk_up_n (by omega), tk_up_s]
  have u1 : f_join C t x (73 + t) 1 = x := by unfold f_join; rw [tk_up_n (by omega), tk_up_n (by omega), tk_up_s]
  have u2 : f_join C t x (73 + t) 2 = 0 := by unfold f_join; rw [tk_up_n (by omega), tk_up_s]
  have u7 : f_join C t x (73 + t) 7 = 0 := by unfold f_join; rw [tk_up_s]
  have d : ∀ c j, ¬ (18 ≤ c ∧ c ≤ 21 ∧ j = t) → m_con N t x c j = N c j := fun c j g => by unfold m_con; rw [tk_up_n (by omega), tk_up_n (by omega), tk_up_n (by omega), tk_up_n (by omega)]
  have d18 : m_con N t x 18 t = 1 := by unfold m_con; rw [tk_up_n (by omega), tk_up_n (by omega), tk_up_n (by omega), tk_up_s]
  have d19 : m_con N t x 19 t = 0 := by unfold m_con; rw [tk_up_n (by omega), tk_up_n (by omega), tk_up_s]
  have d20 : m_con N t x 20 t = 0 := by unfold m_con; rw [tk_up_n (by omega), tk_up_s]
  have d21 : m_con N t x 21 t = x := by unfold m_con; rw [tk_up_s]
  refine h1.tr ht u (fun c j g => d c j (by omega)) ?_ ?_ ?_ ?_
  · refine ⟨by rw [d18, u0], ?_, ?_, fun _ => ⟨by rw [d19, u2], by rw [d20, u7], ⟨by rw [d21, u1], fun g => absurd u7 g⟩, fun g => absurd u2 g⟩⟩
    · rw [d _ _ (by omega), uo _ (by decide) (by decide) (by decide) (by decide)]; exact q2
    · rw [uo _ (by decide) (by decide) (by decide) (by decide), u 2 3 (by omega)]; exact q3
  · rw [d _ _ (by omega), d _ _ (by omega)]; exact qt
  · rw [uo _ (by decide) (by decide) (by decide) (by decide), uo _ (by decide) (by decide) (by decide) (by decide), uo _ (by decide) (by decide) (by decide) (by decide), u1]
    exact ⟨a.1, a.2.1, a.2.2.1, by omega⟩
  · exact fun _ g => absurd u2 g
theorem j_lv {C N : tk_M} {K : Int} (h : j_all C N K) (hb : ¬ C 1 3 = 0) {t : Nat} (ht : t < 8) : j_one (tk_up C (73 + t) 0 0) (m_lv N t) K := by
  have h1 := j_one.of h hb
  obtain ⟨q1, q2, q3, q4⟩ := h1.2.2.1.2.2.2.2 t ht
  have a := h1.1.2.2.2.1 t ht
  have qt := h1.2.2.2.1.2 t ht
  have d : ∀ c j, ¬ (18 ≤ c ∧ c ≤ 20 ∧ j = t) → m_lv N t c j = N c j := fun c j g => by unfold m_lv; rw [tk_up_n (by omega), tk_up_n (by omega), tk_up_n (by omega)]
  have d18 : m_lv N t 18 t = 0 := by unfold m_lv; rw [tk_up_n (by omega), tk_up_n (by omega), tk_up_s]
  refine h1.tr ht (fun c j g => tk_up_n (by omega)) (fun c j g => d c j (by omega)) ?_ ?_ ?_ ?_
  · refine ⟨by rw [d18, tk_up_s], ?_, ?_, fun g => absurd (tk_up_s _ _ _ _) g⟩
    · rw [d _ _ (by omega), tk_up_n (by omega)]; exact q2
    · rw [tk_up_n (by omega), tk_up_n (by omega)]; exact q3
  · rw [d _ _ (by omega), d _ _ (by omega)]; exact qt
  · rw [tk_up_n (by omega), tk_up_n (by omega), tk_up_n (by omega), tk_up_n (by omega)]
    exact a
  · exact fun g => absurd (tk_up_s _ _ _ _) g
theorem s_detect {C N : tk_M} {K : Int} (h : j_all C N K) (hK0 : 0 ≤ K) (hK : K ≤ 9000000) (h0 : N 7 0 = 0) (s b : Int) : s_ok cd_4 (c_detect s b C) (d_detect s b N) (K + 2002) := by
  obtain ⟨h1, h2, h3, h4, h5, h6, h7⟩ := id h
  unfold c_detect d_detect
  rw [h3, h2.1]
  by_cases c1 : C 1 3 = 0
  · rw [if_pos c1, if_pos c1]; exact s_ok.thr h (by omega) rfl (by decide) _
  · rw [if_neg c1, if_neg c1]
    by_cases c2 : ¬ (0 ≤ s ∧ s ≤ C 2 2 - 1)
    · rw [if_pos c2, if_pos c2]; exact s_ok.thr h (by omega) rfl (by decide) _
    · rw [if_neg c2, if_neg c2]
      exact s_ok.ret ((j_det h c1 (s := s.toNat) (by omega) b).set hK0 (by omega)) (by omega) (by rw [m_set_0, tk_up_n (by omega)]; exact h0) _
theorem s_connect {C N : tk_M} {K : Int} (h : j_all C N K) (hK0 : 0 ≤ K) (hK : K ≤ 9000000) (h0 : N 7 0 = 0) (t x : Int) : s_ok cd_4 (c_connect t x C) (d_connect t x N) (K + 2002) := by
  obtain ⟨h1, h2, h3, h4, h5, h6, h7⟩ := id h
  unfold c_connect d_connect
  rw [h3]
  by_cases c1 : C 1 3 = 0
  · rw [if_pos c1, if_pos c1]; exact s_ok.thr h (by omega) rfl (by decide) _
  · rw [if_neg c1, if_neg c1]
    by_cases c2 : ¬ (0 ≤ t ∧ t ≤ 7) ∨ ¬ (1 ≤ x ∧ x ≤ 100000)
    · rw [if_pos c2, if_pos c2]; exact s_ok.thr h (by omega) rfl (by decide) _
    · rw [if_neg c2, if_neg c2]
      exact s_ok.ret ((j_con h c1 (t := t.toNat) (by omega) (by omega)).set hK0 (by omega)) (by omega) (by rw [m_set_0]; unfold m_con; rw [tk_up_n (by omega), tk_up_n (by omega), tk_up_n (by omega), tk_up_n (by omega)]; exact h0) _
theorem s_leave {C N : tk_M} {K : Int} (h : j_all C N K) (hK0 : 0 ≤ K) (hK : K ≤ 9000000) (h0 : N 7 0 = 0) (t : Int) : s_ok cd_4 (c_leave t C) (d_leave t N) (K + 2002) := by
  obtain ⟨h1, h2, h3, h4, h5, h6, h7⟩ := id h
  unfold c_leave d_leave
  rw [h3]
  by_cases c1 : C 1 3 = 0
  · rw [if_pos c1, if_pos c1]; exact s_ok.thr h (by omega) rfl (by decide) _
  · rw [if_neg c1, if_neg c1]
    by_cases c2 : ¬ (0 ≤ t ∧ t ≤ 7)
    · rw [if_pos c2, if_pos c2]; exact s_ok.thr h (by omega) rfl (by decide) _
    · rw [if_neg c2, if_neg c2, ((h6 c1).1.2.2.2.2 t.toNat (by omega)).1]
      by_cases c3 : C (73 + t.toNat) 0 = 0
      · rw [if_pos c3, if_pos c3]; exact s_ok.thr h (by omega) rfl (by decide) _
      · rw [if_neg c3, if_neg c3]
        exact s_ok.ret ((j_lv h c1 (t := t.toNat) (by omega)).set hK0 (by omega)) (by omega) (by rw [m_set_0]; unfold m_lv; rw [tk_up_n (by omega), tk_up_n (by omega), tk_up_n (by omega)]; exact h0) _
end
section
/-! SIDE BY SIDE: report, tick, request -/
theorem f_tk1_o {C : tk_M} {t : Nat} {pl it : Int} {c j : Nat} (h : ¬ (c = 73 + t ∧ j = 6)) : f_tk1 C t pl it c j = C c j := by
  unfold f_tk1
  split
  · exact tk_up_n h
  · rfl
theorem f_tk2_o {C : tk_M} {t : Nat} {pl it tm : Int} {c j : Nat} (h : ¬ (c = 73 + t ∧ (j = 2 ∨ j = 3 ∨ j = 4 ∨ j = 5))) : f_tk2 C t pl it tm c j = C c j := by
  unfold f_tk2
  rw [tk_up_n (by omega), tk_up_n (by omega), tk_up_n (by omega), tk_up_n (by omega)]
theorem f_tk3_o {C : tk_M} {t : Nat} {it tm : Int} {c j : Nat} (h : ¬ (c = 73 + t ∧ (j = 7 ∨ j = 8))) : f_tk3 C t it tm c j = C c j := by
  unfold f_tk3
  split
  · rw [tk_up_n (by omega), tk_up_n (by omega)]
  · split
    · rw [tk_up_n (by omega)]
    · rfl
theorem m_rp1_o {N : tk_M} {t : Nat} {pl it : Int} {c j : Nat} (h : ¬ (c = 23 ∧ j = t)) : m_rp1 N t pl it c j = N c j := by
  unfold m_rp1
  split
  · exact tk_up_n h
  · rfl
theorem m_rp2_o {N : tk_M} {t : Nat} {pl tm : Int} {c j : Nat} (h : ¬ ((c = 19 ∨ c = 22 ∨ c = 24) ∧ j = t)) : m_rp2 N t pl tm c j = N c j := by
  unfold m_rp2
  rw [tk_up_n (by omega), tk_up_n (by omega), tk_up_n (by omega)]
theorem m_rp3_o {N : tk_M} {t : Nat} {it tm : Int} {c j : Nat} (h : ¬ ((c = 20 ∨ c = 25) ∧ j = t)) : m_rp3 N t it tm c j = N c j := by
  unfold m_rp3
  split
  · rw [tk_up_n (by omega), tk_up_n (by omega)]
  · split
    · rw [tk_up_n (by omega)]
    · rfl
theorem j_rep {C N : tk_M} {K : Int} (h : j_all C N K) (hb : ¬ C 1 3 = 0) {t : Nat} (ht : t < 8) {pl it : Int} (g1 : 0 ≤ pl) (hc : ¬ C (73 + t) 0 = 0) (hw : ¬ (¬ C (73 + t) 2 = 0 ∧ pl < C (73 + t) 4)) : j_one (f_take C t pl it (C 1 7)) (m_rep N t pl it) K := by
  have h1 := j_one.of h hb
  have hlay := h1.2.1
  have hp := h1.2.2.1
  obtain ⟨q1, q2, q3, q4⟩ := hp.2.2.2.2 t ht
  obtain ⟨r1, r2, ⟨r3, r3'⟩, r4⟩ := q4 hc
  have a := h1.1.2.2.2.1 t ht
  have qt := h1.2.2.2.1.2 t ht
  have hN := (h1.1.2.2.2.2.2 hb).1
  have hN32 := h1.1.1.2.2.2.1
  have e73 : N 7 3 = C 1 7 := hp.1.1
  have tm0 : 0 ≤ C 1 7 := h1.1.2.2.2.2.1.1
  have u : ∀ c j, c ≠ 73 + t → f_take C t pl it (C 1 7) c j = C c j := fun c j g => by unfold f_take; rw [f_tk3_o (by omega), f_tk2_o (by omega), f_tk1_o (by omega)]
  have uo : ∀ j, j = 0 ∨ j = 1 ∨ j = 12 → f_take C t pl it (C 1 7) (73 + t) j = C (73 + t) j := fun j g => by unfold f_take; rw [f_tk3_o (by omega), f_tk2_o (by omega), f_tk1_o (by omega)]
  have u2 : f_take C t pl it (C 1 7) (73 + t) 2 = 1 := by unfold f_take; rw [f_tk3_o (by omega)]; unfold f_tk2; rw [tk_up_n (by omega), tk_up_s]
  have u3 : f_take C t pl it (C 1 7) (73 + t) 3 = C 1 7 := by unfold f_take; rw [f_tk3_o (by omega)]; unfold f_tk2; rw [tk_up_s]
  have u4 : f_take C t pl it (C 1 7) (73 + t) 4 = pl := by unfold f_take; rw [f_tk3_o (by omega)]; unfold f_tk2; rw [tk_up_n (by omega), tk_up_n (by omega), tk_up_n (by omega), tk_up_s]
  have u5 : f_take C t pl it (C 1 7) (73 + t) 5 = f_at C pl (C 2 3 - 1).toNat := by
    unfold f_take
    rw [f_tk3_o (by omega)]
    unfold f_tk2
    rw [tk_up_n (by omega), tk_up_n (by omega), tk_up_s, f_tk1_o (by omega)]
    exact f_at_eq (n := 31) (fun k hk => by rw [tk_up_n (by omega), f_tk1_o (by omega)]) pl _ (by omega)
  have u6 : f_take C t pl it (C 1 7) (73 + t) 6 = if C (73 + t) 2 = 0 ∨ it = 1 then f_at C (f_max 0 (pl - C (73 + t) 1)) (C 2 3 - 1).toNat else C (73 + t) 6 := by
    unfold f_take
    rw [f_tk3_o (by omega), f_tk2_o (by omega)]
    unfold f_tk1
    split
    · rw [tk_up_s]
    · rfl
  have u7 : f_take C t pl it (C 1 7) (73 + t) 7 = if it = 1 then 1 else if it = 2 then 0 else C (73 + t) 7 := by
    unfold f_take f_tk3
    split
    · rw [tk_up_n (by omega), tk_up_s]
    · split
      · rw [tk_up_s]
      · rw [f_tk2_o (by omega), f_tk1_o (by omega)]
  have u8 : f_take C t pl it (C 1 7) (73 + t) 8 = if it = 1 then C 1 7 else C (73 + t) 8 := by
    unfold f_take f_tk3
    split
    · rw [tk_up_s]
    · split
      · rw [tk_up_n (by omega), f_tk2_o (by omega), f_tk1_o (by omega)]
      · rw [f_tk2_o (by omega), f_tk1_o (by omega)]
  have d : ∀ c j, ¬ (19 ≤ c ∧ c ≤ 25 ∧ j = t) → m_rep N t pl it c j = N c j := fun c j g => by unfold m_rep; rw [m_rp3_o (by omega), m_rp2_o (by omega), m_rp1_o (by omega)]
  have d21 : m_rep N t pl it 21 t = N 21 t := by unfold m_rep; rw [m_rp3_o (by omega), m_rp2_o (by omega), m_rp1_o (by omega)]
  have d19 : m_rep N t pl it 19 t = 1 := by unfold m_rep; rw [m_rp3_o (by omega)]; unfold m_rp2; rw [tk_up_n (by omega), tk_up_n (by omega), tk_up_s]
  have d22 : m_rep N t pl it 22 t = pl := by unfold m_rep; rw [m_rp3_o (by omega)]; unfold m_rp2; rw [tk_up_n (by omega), tk_up_s]
  have d24 : m_rep N t pl it 24 t = C 1 7 := by unfold m_rep; rw [m_rp3_o (by omega)]; unfold m_rp2; rw [tk_up_s, e73]
  have d23 : m_rep N t pl it 23 t = if C (73 + t) 2 = 0 ∨ it = 1 then f_max 0 (pl - C (73 + t) 1) else N 23 t := by
    unfold m_rep
    rw [m_rp3_o (by omega), m_rp2_o (by omega)]
    unfold m_rp1
    rw [r1, r3]
    split
    · rw [tk_up_s]
      unfold f_max
      (repeat' split) <;> omega
    · rfl
  have d20 : m_rep N t pl it 20 t = if it = 1 then 1 else if it = 2 then 0 else C (73 + t) 7 := by
    unfold m_rep m_rp3
    split
    · rw [tk_up_n (by omega), tk_up_s]
    · split
      · rw [tk_up_s]
      · rw [m_rp2_o (by omega), m_rp1_o (by omega), r2]
  have d25 : m_rep N t pl it 25 t = if it = 1 then C 1 7 else N 25 t := by
    unfold m_rep m_rp3
    split
    · rw [tk_up_s, e73]
    · split
      · rw [tk_up_n (by omega), m_rp2_o (by omega), m_rp1_o (by omega)]
      · rw [m_rp2_o (by omega), m_rp1_o (by omega)]
  generalize f_take C t pl it (C 1 7) = C' at *
  generalize m_rep N t pl it = N' at *
  have lay' : j_lay C' N' := hlay.eq (u _ _ (by omega)) (u _ _ (by omega)) (u _ _ (by omega)) (fun k hk => ⟨u _ _ (by omega), u _ _ (by omega)⟩) (fun s hs => ⟨u _ _ (by omega), u _ _ (by omega)⟩) (d _ _ (by omega)) (d _ _ (by omega)) (fun j => d _ _ (by omega)) (fun j => d _ _ (by omega)) (fun j => d _ _ (by omega))
  have eat : ∀ p : Int, ((m_at N' p 32 0 : Nat) : Int) = f_at C p (C 2 3 - 1).toNat := fun p => by
    rw [m_at_eq (N := N') (M := N) (d _ _ (by omega)) (fun k => d _ _ (by omega))]
    exact j_at hlay hN p
  have eold : ∀ p : Int, ((m_at N p 32 0 : Nat) : Int) = f_at C p (C 2 3 - 1).toNat := fun p => j_at hlay hN p
  have fin := f_at_in C pl (C 2 3 - 1).toNat
  have ea : (m_a N' t : Int) = C' (73 + t) 6 := by
    unfold m_a
    rw [eat, d23, u6]
    by_cases g : C (73 + t) 2 = 0 ∨ it = 1
    · rw [if_pos g, if_pos g]
    · rw [if_neg g, if_neg g]
      have := (r4 (by omega)).2.2.1
      rw [← this]
      unfold m_a
      exact (eold _).symm
  have ez : (m_z N' t : Int) = C' (73 + t) 5 := by
    unfold m_z
    rw [eat, d22, u5]
  have le : N' 23 t ≤ N' 22 t := by
    rw [d23, d22]
    by_cases g : C (73 + t) 2 = 0 ∨ it = 1
    · rw [if_pos g]
      unfold f_max
      split <;> omega
    · rw [if_neg g]
      have := r4 (by omega)
      omega
  refine h1.tr ht u (fun c j g => d c j (by omega)) ?_ ?_ ?_ ?_
  · refine ⟨?_, ?_, ?_, fun _ => ⟨by rw [d19, u2], by rw [d20, u7], ⟨?_, fun _ => by rw [u2]; decide⟩, fun _ => ⟨by rw [d22, u4], by rw [d24, u3], ea, ez, le, fun g7 => ?_⟩⟩⟩
    · rw [d _ _ (by omega), uo 0 (by omega)]; exact q1
    · rw [d _ _ (by omega), uo 12 (by omega)]; exact q2
    · rw [uo 12 (by omega), u 2 3 (by omega)]; exact q3
    · rw [d21, uo 1 (by omega)]; exact r3
    · rw [d25, u8]
      by_cases g : it = 1
      · rw [if_pos g, if_pos g]
      · rw [if_neg g, if_neg g]
        rw [u7, if_neg g] at g7
        by_cases g2 : it = 2
        · rw [if_pos g2] at g7; exact absurd rfl g7
        · rw [if_neg g2] at g7
          exact (r4 (r3' g7)).2.2.2.2.2 g7
  · rw [d24, d25]
    refine ⟨tm0, ?_⟩
    split
    · exact tm0
    · exact qt.2
  · rw [uo 12 (by omega), u3, u8, uo 1 (by omega)]
    refine ⟨a.1, tm0, ?_, a.2.2.2⟩
    split
    · exact tm0
    · exact a.2.2.1
  · intro _ _
    have hm : m_a N' t ≤ m_z N' t := by
      have : (m_a N' t : Int) ≤ (m_z N' t : Int) := by
        unfold m_a m_z
        rw [eat, eat]
        exact f_at_mono C le _
      omega
    unfold p_mk
    rw [← ea, ← ez, u 2 3 (by omega)]
    refine ⟨by omega, by omega, ?_⟩
    rw [ez, u5]
    omega
theorem s_report {C N : tk_M} {K : Int} (h : j_all C N K) (hK0 : 0 ≤ K) (hK : K ≤ 9000000) (h0 : N 7 0 = 0) (t pl it : Int) : s_ok cd_4 (c_report t pl it C) (d_report t pl it N) (K + 2002) := by
  obtain ⟨h1, h2, h3, h4, h5, h6, h7⟩ := id h
  unfold c_report d_report
  rw [h3]
  by_cases c1 : C 1 3 = 0
  · rw [if_pos c1, if_pos c1]; exact s_ok.thr h (by omega) rfl (by decide) _
  · rw [if_neg c1, if_neg c1, (h6 c1).1.1.2.2.2.2.2.2.2]
    by_cases c2 : ¬ (0 ≤ t ∧ t ≤ 7) ∨ ¬ (0 ≤ it ∧ it ≤ 2) ∨ ¬ (0 ≤ pl ∧ pl ≤ C 2 4)
    · rw [if_pos c2, if_pos c2]; exact s_ok.thr h (by omega) rfl (by decide) _
    · obtain ⟨q1, q2, q3, q4⟩ := (h6 c1).1.2.2.2.2 t.toNat (by omega)
      rw [if_neg c2, if_neg c2, q1]
      by_cases c3 : C (73 + t.toNat) 0 = 0
      · rw [if_pos c3, if_pos c3]; exact s_ok.thr h (by omega) rfl (by decide) _
      · obtain ⟨r1, r2, r3, r4⟩ := q4 c3
        rw [if_neg c3, if_neg c3, r1]
        have ew : (¬ C (73 + t.toNat) 2 = 0 ∧ pl < N 22 t.toNat) ↔ (¬ C (73 + t.toNat) 2 = 0 ∧ pl < C (73 + t.toNat) 4) := by
          by_cases g : C (73 + t.toNat) 2 = 0
          · exact ⟨fun z => absurd g z.1, fun z => absurd g z.1⟩
          · rw [(r4 g).1]
        by_cases c4 : ¬ C (73 + t.toNat) 2 = 0 ∧ pl < C (73 + t.toNat) 4
        · rw [if_pos c4, if_pos (ew.mpr c4)]
          exact s_ok.ret h (by omega) h0 _
        · rw [if_neg c4, if_neg (fun z => c4 (ew.mp z))]
          exact s_ok.ret ((j_rep h c1 (t := t.toNat) (by omega) (by omega) c3 c4).set hK0 (by omega)) (by omega) (by rw [m_set_0]; unfold m_rep; rw [m_rp3_o (by omega), m_rp2_o (by omega), m_rp1_o (by omega)]; exact h0) _
/-- counting for spreads in both -/
theorem j_cs {C N : tk_M} (hl : j_lay C N) (hp : j_pre C N) (hr : ∀ s : Nat, (s : Int) < C 2 2 → 0 ≤ C (31 + s) 0 ∧ C (31 + s) 1 < 32) : ∀ n : Nat, (n : Int) ≤ C 2 2 → (∀ s : Nat, (s : Int) < C 2 2 → m_cs N n 11 s = g_cs C (C 1 6) n (31 + s) 3 ∧ m_cs N n 17 s = g_cs C (C 1 6) n (31 + s) 4) ∧ m_cs N n 7 9 = g_cs C (C 1 6) n 2 5
  | 0, _ => ⟨fun s hs => ⟨(hp.2.2.2.1 s hs).1, (hp.2.2.2.1 s hs).2.2⟩, hp.1.2.2.2.2.2.2.1⟩
  | n + 1, hn => by
    obtain ⟨i1, i2⟩ := j_cs hl hp hr n (by omega)
    have h10 := hl.2.2.1
    have oX : ∀ c j, ¬ (c = 2 ∧ j = 5) → ¬ (j = 3 ∨ j = 4) → g_cs C (C 1 6) n c j = C c j := fun c j g1 g2 => g_cs_o g1 n (by omega)
    have oY : ∀ c j, ¬ (c = 7 ∧ j = 9) → c ≠ 11 → c ≠ 17 → m_cs N n c j = N c j := fun c j g1 g2 g3 => m_cs_o g1 n (by omega)
    have eu : f_uns (g_cs C (C 1 6) n) (31 + n) = f_uns C (31 + n) := f_uns_eq (oX _ _ (by omega) (by omega)) (oX _ _ (by omega) (by omega)) (oX _ _ (by omega) (by omega)) (fun i hi => oX _ _ (by omega) (by omega))
    have eh : m_hld (m_cs N n) n = m_hld N n := m_hld_eq (oY _ _ (by omega) (by omega) (by omega)) (oY _ _ (by omega) (by omega) (by omega)) (fun k => oY _ _ (by omega) (by omega) (by omega)) (fun k => oY _ _ (by omega) (by omega) (by omega))
    have ej : m_hld N n = f_uns C (31 + n) := j_uns hl (fun k hk => (hp.2.2.1 k hk).1) (by omega) (hp.2.2.2.1 n (by omega)).2.1
    have e6 : m_cs N n 7 6 = C 1 6 := by rw [oY _ _ (by omega) (by omega) (by omega)]; exact hp.1.2.2.2.1
    have eX : g_cs C (C 1 6) (n + 1) = if f_uns (g_cs C (C 1 6) n) (31 + n) = 1 then f_cs (g_cs C (C 1 6) n) (31 + n) (C 1 6) else g_cs C (C 1 6) n := rfl
    have eY : m_cs N (n + 1) = m_c1 (m_cs N n) n := rfl
    rw [eX, eY, eu]
    unfold m_c1
    rw [eh, ej, e6, (i1 n (by omega)).1, i2]
    have h01 := f_uns01 C (31 + n)
    generalize g_cs C (C 1 6) n = X at *
    generalize m_cs N n = Y at *
    by_cases hz : f_uns C (31 + n) = 0
    · rw [if_pos hz, if_neg (show ¬ f_uns C (31 + n) = 1 by omega)]
      exact ⟨i1, i2⟩
    · rw [if_neg hz, if_pos (show f_uns C (31 + n) = 1 by omega)]
      unfold f_cs
      by_cases hc : X (31 + n) 3 + 1 < C 1 6
      · rw [if_pos hc, if_pos hc]
        refine ⟨fun s hs => ?_, ?_⟩
        · rw [tk_up_n (c := 11) (a := 17) (by omega), tk_up_n (b := 4) (by omega)]
          refine ⟨?_, (i1 s hs).2⟩
          by_cases e : s = n
          · subst e; rw [tk_up_s, tk_up_s]
          · rw [tk_up_n (by omega), tk_up_n (by omega)]; exact (i1 s hs).1
        · rw [tk_up_n (by omega), tk_up_n (by omega)]; exact i2
      · rw [if_neg hc, if_neg hc]
        refine ⟨fun s hs => ?_, ?_⟩
        · by_cases e : s = n
          · subst e
            refine ⟨?_, ?_⟩
            · rw [tk_up_s, tk_up_n (by omega), tk_up_n (by omega), tk_up_s]
            · rw [tk_up_n (by omega), tk_up_n (by omega), tk_up_s, tk_up_n (by omega), tk_up_s]
          · refine ⟨?_, ?_⟩
            · rw [tk_up_n (by omega), tk_up_n (by omega), tk_up_n (by omega), tk_up_n (by omega), tk_up_n (by omega), tk_up_n (by omega), tk_up_n (by omega), tk_up_n (by omega)]; exact (i1 s hs).1
            · rw [tk_up_n (by omega), tk_up_n (by omega), tk_up_n (by omega), tk_up_n (by omega), tk_up_n (by omega), tk_up_n (by omega), tk_up_n (by omega), tk_up_n (by omega)]; exact (i1 s hs).2
        · rw [tk_up_n (by omega), tk_up_s, tk_up_s]
end
section
/-! SIDE BY SIDE: ticks, requests -/
theorem j_tk {C N : tk_M} {K : Int} (h : j_all C N K) (h0 : 0 ≤ K) (hb : ¬ C 1 3 = 0) : j_one (g_cs (tk_up C 1 7 (C 1 7 + 1)) (C 1 6) (C 2 2).toNat) (m_cs (tk_up N 7 3 (N 7 3 + 1)) (N 7 1).toNat) (K + 1) := by
  obtain ⟨h1, h2, ⟨p1, p2, p3, p4, p5⟩, h4, h5, h6, h7⟩ := j_one.of h hb
  have hi := h1.tick0 h0
  have S10 := h1.1.2.1
  have S0 := h1.1.1
  have N32 := h1.1.2.2.2.1
  have l1 := h2.1
  have u : ∀ c j, ¬ (c = 1 ∧ j = 7) → tk_up C 1 7 (C 1 7 + 1) c j = C c j := fun c j g => tk_up_n g
  have u17 : tk_up C 1 7 (C 1 7 + 1) 1 7 = C 1 7 + 1 := tk_up_s _ _ _ _
  have d : ∀ c j, ¬ (c = 7 ∧ j = 3) → tk_up N 7 3 (N 7 3 + 1) c j = N c j := fun c j g => tk_up_n g
  have d73 : tk_up N 7 3 (N 7 3 + 1) 7 3 = N 7 3 + 1 := tk_up_s _ _ _ _
  have e16 : C 1 6 = tk_up C 1 7 (C 1 7 + 1) 1 6 := (u _ _ (by omega)).symm
  have e22' : C 2 2 = tk_up C 1 7 (C 1 7 + 1) 2 2 := (u _ _ (by omega)).symm
  have lay1 : j_lay (tk_up C 1 7 (C 1 7 + 1)) (tk_up N 7 3 (N 7 3 + 1)) := h2.eq (u _ _ (by omega)) (u _ _ (by omega)) (u _ _ (by omega)) (fun k hk => ⟨u _ _ (by omega), u _ _ (by omega)⟩) (fun s hs => ⟨u _ _ (by omega), u _ _ (by omega)⟩) (d _ _ (by omega)) (d _ _ (by omega)) (fun j => d _ _ (by omega)) (fun j => d _ _ (by omega)) (fun j => d _ _ (by omega))
  have pre1 : j_pre (tk_up C 1 7 (C 1 7 + 1)) (tk_up N 7 3 (N 7 3 + 1)) := by
    refine ⟨?_, ?_, fun k hk => ?_, fun s hs => ?_, fun t ht => ?_⟩
    · rw [d73, u17, d 7 4 (by omega), d 7 5 (by omega), d 7 6 (by omega), d 7 7 (by omega), d 7 8 (by omega), d 7 9 (by omega), d 7 10 (by omega), u 1 4 (by omega), u 1 5 (by omega), u 1 6 (by omega), u 3 0 (by omega), u 3 1 (by omega), u 2 5 (by omega), u 2 4 (by omega)]
      exact ⟨by omega, p1.2⟩
    · rw [u 2 2 (by omega), u 2 3 (by omega)]; exact p2
    · rw [u 2 3 (by omega)] at hk
      rw [d _ _ (by omega), d _ _ (by omega), u _ 2 (by omega), u _ 4 (by omega)]; exact p3 k hk
    · rw [u 2 2 (by omega)] at hs
      rw [d _ _ (by omega), d _ _ (by omega), d _ _ (by omega), u _ 3 (by omega), u _ 2 (by omega), u _ 4 (by omega)]; exact p4 s hs
    · have q := p5 t ht
      have ea : m_a (tk_up N 7 3 (N 7 3 + 1)) t = m_a N t := by
        unfold m_a
        rw [d 23 t (by omega), m_at_eq (d _ _ (by omega)) (fun k => d _ _ (by omega))]
      have ez : m_z (tk_up N 7 3 (N 7 3 + 1)) t = m_z N t := by
        unfold m_z
        rw [d 22 t (by omega), m_at_eq (d _ _ (by omega)) (fun k => d _ _ (by omega))]
      unfold j_tr at q ⊢
      rw [ea, ez, d 18 t (by omega), d 19 t (by omega), d 20 t (by omega), d 21 t (by omega), d 22 t (by omega), d 23 t (by omega), d 24 t (by omega), d 25 t (by omega), d 26 t (by omega), u 2 3 (by omega), u (73 + t) 0 (by omega), u (73 + t) 1 (by omega), u (73 + t) 2 (by omega), u (73 + t) 3 (by omega), u (73 + t) 4 (by omega), u (73 + t) 5 (by omega), u (73 + t) 6 (by omega), u (73 + t) 7 (by omega), u (73 + t) 8 (by omega), u (73 + t) 12 (by omega)]
      exact q
  have qtm : q_tm (tk_up N 7 3 (N 7 3 + 1)) := ⟨by rw [d73]; have := h4.1; omega, fun t ht => by rw [d _ _ (by omega), d _ _ (by omega)]; exact h4.2 t ht⟩
  have cs := j_cs lay1 pre1 (fun s hs => by rw [u 2 2 (by omega)] at hs; rw [u _ 0 (by omega), u _ 1 (by omega)]; exact h1.2.2.1 s hs) (C 2 2).toNat (by rw [u 2 2 (by omega)]; omega)
  rw [← e16, ← e22'] at cs
  rw [show (N 7 1).toNat = (C 2 2).toNat by rw [l1]]
  have oX : ∀ c j, ¬ (c = 2 ∧ j = 5) → ¬ (31 ≤ c ∧ c < 31 + (C 2 2).toNat ∧ (j = 3 ∨ j = 4)) → g_cs (tk_up C 1 7 (C 1 7 + 1)) (C 1 6) (C 2 2).toNat c j = tk_up C 1 7 (C 1 7 + 1) c j := fun c j g1 g2 => g_cs_o g1 _ g2
  have oY : ∀ c j, ¬ (c = 7 ∧ j = 9) → ¬ ((c = 11 ∨ c = 17) ∧ j < (C 2 2).toNat) → m_cs (tk_up N 7 3 (N 7 3 + 1)) (C 2 2).toNat c j = tk_up N 7 3 (N 7 3 + 1) c j := fun c j g1 g2 => m_cs_o g1 _ g2
  generalize tk_up C 1 7 (C 1 7 + 1) = C1 at *
  generalize tk_up N 7 3 (N 7 3 + 1) = N1 at *
  generalize g_cs C1 (C 1 6) (C 2 2).toNat = X at *
  generalize m_cs N1 (C 2 2).toNat = Y at *
  have x22 : X 2 2 = C 2 2 := by rw [oX _ _ (by omega) (by omega), u _ _ (by omega)]
  have x23 : X 2 3 = C1 2 3 := oX _ _ (by omega) (by omega)
  have x13 : X 1 3 = C 1 3 := by rw [oX _ _ (by omega) (by omega), u _ _ (by omega)]
  have c22 : C1 2 2 = C 2 2 := u _ _ (by omega)
  have c23 : C1 2 3 = C 2 3 := u _ _ (by omega)
  obtain ⟨r1, r2, r3, r4, r5⟩ := pre1
  refine ⟨hi, lay1.eq (oX _ _ (by omega) (by omega)) x23 (oX _ _ (by omega) (by omega)) (fun k hk => ⟨oX _ _ (by omega) (by omega), oX _ _ (by omega) (by omega)⟩) (fun s hs => ⟨oX _ _ (by omega) (by omega), oX _ _ (by omega) (by omega)⟩) (oY _ _ (by omega) (by omega)) (oY _ _ (by omega) (by omega)) (fun j => oY _ _ (by omega) (by omega)) (fun j => oY _ _ (by omega) (by omega)) (fun j => oY _ _ (by omega) (by omega)), ⟨?_, ?_, fun k hk => ?_, fun s hs => ?_, fun t ht => ?_⟩, ⟨by rw [oY _ _ (by omega) (by omega)]; exact qtm.1, fun t ht => by rw [oY _ _ (by omega) (by omega), oY _ _ (by omega) (by omega)]; exact qtm.2 t ht⟩, ?_, by rw [x13]; exact h6, fun s hs h10 => ?_⟩
  · rw [cs.2, oY 7 3 (by omega) (by omega), oY 7 4 (by omega) (by omega), oY 7 5 (by omega) (by omega), oY 7 6 (by omega) (by omega), oY 7 7 (by omega) (by omega), oY 7 8 (by omega) (by omega), oY 7 10 (by omega) (by omega), oX 1 7 (by omega) (by omega), oX 1 4 (by omega) (by omega), oX 1 5 (by omega) (by omega), oX 1 6 (by omega) (by omega), oX 3 0 (by omega) (by omega), oX 3 1 (by omega) (by omega), oX 2 4 (by omega) (by omega)]
    exact ⟨r1.1, r1.2.1, r1.2.2.1, r1.2.2.2.1, r1.2.2.2.2.1, r1.2.2.2.2.2.1, rfl, r1.2.2.2.2.2.2.2⟩
  · rw [x22, x23, c23]; exact p2
  · rw [x23] at hk
    rw [oY _ _ (by omega) (by omega), oY _ _ (by omega) (by omega), oX _ 2 (by omega) (by omega), oX _ 4 (by omega) (by omega)]; exact r3 k hk
  · rw [x22] at hs
    rw [oY 16 s (by omega) (by omega), oX _ 2 (by omega) (by omega)]
    have q := cs.1 s hs
    exact ⟨q.1, (r4 s (by rw [c22]; exact hs)).2.1, q.2⟩
  · have q := r5 t ht
    have ea : m_a Y t = m_a N1 t := by
      unfold m_a
      rw [oY 23 t (by omega) (by omega), m_at_eq (oY _ _ (by omega) (by omega)) (fun k => oY _ _ (by omega) (by omega))]
    have ez : m_z Y t = m_z N1 t := by
      unfold m_z
      rw [oY 22 t (by omega) (by omega), m_at_eq (oY _ _ (by omega) (by omega)) (fun k => oY _ _ (by omega) (by omega))]
    unfold j_tr at q ⊢
    rw [ea, ez, oY 18 t (by omega) (by omega), oY 19 t (by omega) (by omega), oY 20 t (by omega) (by omega), oY 21 t (by omega) (by omega), oY 22 t (by omega) (by omega), oY 23 t (by omega) (by omega), oY 24 t (by omega) (by omega), oY 25 t (by omega) (by omega), oY 26 t (by omega) (by omega), x23, oX (73 + t) 0 (by omega) (by omega), oX (73 + t) 1 (by omega) (by omega), oX (73 + t) 2 (by omega) (by omega), oX (73 + t) 3 (by omega) (by omega), oX (73 + t) 4 (by omega) (by omega), oX (73 + t) 5 (by omega) (by omega), oX (73 + t) 6 (by omega) (by omega), oX (73 + t) 7 (by omega) (by omega), oX (73 + t) 8 (by omega) (by omega), oX (73 + t) 12 (by omega) (by omega)]
    exact q
  · rw [oY _ _ (by omega) (by omega), d _ _ (by omega), x13]; exact h5
  · rw [x22] at hs
    rw [oY _ _ (by omega) (by omega), oX _ _ (by omega) (by omega), d _ _ (by omega), u _ _ (by omega)]; exact h7 s hs h10
theorem j_tick {C N : tk_M} {K : Int} (h : j_all C N K) (h0 : 0 ≤ K) (hK : K < 9999990) (hb : ¬ C 1 3 = 0) : j_all (f_tick C) (m_tick N) (K + 2) ∧ q_tk N ∧ ¬ f_tick C 1 3 = 0 := by
  have h1 := j_tk h h0 hb
  have h2 := h1.set (by omega) (by omega)
  have e : K + 1 + 1 = K + 2 := by omega
  rw [e] at h2
  obtain ⟨g1, g2, g3, g4, g5, g6, g7⟩ := h
  have k5 := g1.2.2.2.2.1
  obtain ⟨⟨a1, a2, a3, a4, a5, a6, a7, a8⟩, -, -, b4, -⟩ := (g6 hb).1
  refine ⟨h2, ⟨⟨?_, ?_, ?_, ?_, ?_, fun s hs => ?_⟩, ?_, ?_, h1.fi (by omega)⟩, ?_⟩
  · rw [g2.1]; exact g1.1.1
  · rw [g2.1]; exact g1.1.2.1
  · rw [g2.2.1]; exact g1.1.2.2.1
  · rw [g2.2.1]; exact g1.1.2.2.2.1
  · omega
  · rw [g2.1] at hs
    rw [(b4 s hs).1]
    have := k5.2.2.2.2.2.1 s (by have := g1.1.2.1; omega)
    omega
  · omega
  · omega
  · rw [(f_tick_17 g1 h0 (by omega) hb).2]; exact hb
theorem j_ticks : ∀ (n : Nat) {C N : tk_M} {K : Int}, j_all C N K → 0 ≤ K → K + 2 * n < 9999990 → ¬ C 1 3 = 0 → j_all (g_tick n C) (h_tick n N) (K + 2 * n) ∧ ∀ j : Nat, j < n → q_tk (h_tick j N)
  | 0, C, N, K, h, _, _, _ => ⟨by have e : K + 2 * ((0 : Nat) : Int) = K := by omega
                                  rw [e]; exact h, fun j hj => absurd hj (Nat.not_lt_zero _)⟩
  | n + 1, C, N, K, h, h0, hK, hb => by
    obtain ⟨a, b, c⟩ := j_tick h h0 (by omega) hb
    obtain ⟨i1, i2⟩ := j_ticks n a (by omega) (by omega) c
    have e : K + 2 + 2 * (n : Int) = K + 2 * ((n + 1 : Nat) : Int) := by omega
    rw [e] at i1
    refine ⟨i1, fun j hj => ?_⟩
    cases j with
    | zero => exact b
    | succ j => exact i2 j (by omega)
theorem m_tick_0 {N : tk_M} : m_tick N 7 0 = N 7 0 := by
  unfold m_tick
  rw [m_set_0, m_cs_o (by omega) _ (by omega), tk_up_n (by omega)]
theorem h_tick_0 : ∀ (n : Nat) (N : tk_M), h_tick n N 7 0 = N 7 0
  | 0, N => rfl
  | n + 1, N => by
    show h_tick n (m_tick N) 7 0 = N 7 0
    rw [h_tick_0 n, m_tick_0]
theorem s_tick {C N : tk_M} {K : Int} (h : j_all C N K) (hK0 : 0 ≤ K) (hK : K ≤ 9000000) (h0 : N 7 0 = 0) (n : Int) : s_ok cd_5 (c_tick n C) (d_tick n N) (K + 2002) := by
  obtain ⟨h1, h2, h3, h4, h5, h6, h7⟩ := id h
  unfold c_tick d_tick
  rw [h3]
  by_cases c1 : C 1 3 = 0
  · rw [if_pos c1, if_pos c1]; exact s_ok.thr h (by omega) rfl (by decide) _
  · rw [if_neg c1, if_neg c1, (h6 c1).1.1.1]
    by_cases c2 : ¬ (1 ≤ n ∧ n ≤ 1000)
    · rw [if_pos c2, if_pos c2]; exact s_ok.thr h (by omega) rfl (by decide) _
    · rw [if_neg c2, if_neg c2]
      by_cases c3 : 100000000 - C 1 7 < n
      · rw [if_pos c3, if_pos (show 100000000 < C 1 7 + n by omega)]; exact s_ok.thr h (by omega) rfl (by decide) _
      · rw [if_neg c3, if_neg (show ¬ 100000000 < C 1 7 + n by omega)]
        exact s_ok.ret (j_ticks n.toNat h hK0 (by omega) c1).1 (by omega) (by rw [h_tick_0]; exact h0) _
theorem j_held {C N : tk_M} (hp : j_pre C N) (hf : j_fr C) {x num : Int} (hx : 0 < x) : ∀ n i : Nat, i + n = 8 → m_tkn N x num n i = g_held C num x n i
  | 0, i, _ => rfl
  | n + 1, i, hi => by
    unfold m_tkn g_held
    rw [j_held hp hf hx n (i + 1) (by omega)]
    obtain ⟨q1, q2, q3, q4⟩ := hp.2.2.2.2 i (by omega)
    obtain ⟨f1, f2, f3⟩ := hf i (by omega)
    have el := j_loc hp (t := i) (by omega)
    have ec : (¬ (i : Int) = num ∧ x ≤ N 26 i ∧ ¬ m_loc N i = 0 ∧ (m_z N i : Int) < x) ↔ (¬ (i : Int) = num ∧ f_hold C i x = 1) := by
      unfold f_hold
      rw [q2, el, ← f1]
      constructor
      · rintro ⟨z1, z2, z3, z4⟩
        have hl := z3
        rw [f1] at hl
        obtain ⟨y1, y2⟩ := f_loc_ok hl
        have tr := (q4 y1).2.2.2 y2
        refine ⟨z1, if_pos ⟨by omega, by omega, z2⟩⟩
      · rintro ⟨z1, z2⟩
        split at z2
        · rename_i z
          have hl : ¬ C (73 + i) 9 = 0 := f3.resolve_left z.1
          have hl' := hl
          rw [f1] at hl'
          obtain ⟨y1, y2⟩ := f_loc_ok hl'
          have tr := (q4 y1).2.2.2 y2
          exact ⟨z1, z.2.2, hl, by omega⟩
        · omega
    by_cases z : ¬ (i : Int) = num ∧ f_hold C i x = 1
    · rw [if_pos z, if_pos (ec.mpr z)]
    · rw [if_neg z, if_neg (fun y => z (ec.mp y))]
theorem j_ext {C N : tk_M} (hp : j_pre C N) (hf : j_fr C) {w num : Int} (hw : w < C 2 3) : ∀ (n : Nat) (f : Int), 0 ≤ f → m_ext N num w n (f + 1) = g_ext C num w n f + 1
  | 0, f, _ => rfl
  | n + 1, f, h0 => by
    unfold m_ext g_ext
    by_cases hc : f < w
    · have hk := (hp.2.2.1 (f + 1).toNat (by omega)).1
      rw [hk, j_held hp hf (show 0 < f + 1 by omega) 8 0 rfl]
      by_cases hz : C (41 + (f + 1).toNat) 2 = 0 ∧ g_held C num (f + 1) 8 0 = 0
      · rw [if_pos ⟨by omega, hz⟩, if_pos ⟨hc, hz⟩]
        exact j_ext hp hf hw n (f + 1) (by omega)
      · rw [if_neg (fun z => hz z.2), if_neg (fun z => hz z.2)]
    · rw [if_neg (by omega), if_neg (by omega)]
theorem g_ext_in (M : tk_M) (num w : Int) : ∀ (n : Nat) (f : Int), f ≤ g_ext M num w n f ∧ (g_ext M num w n f ≤ w ∨ g_ext M num w n f = f)
  | 0, f => ⟨Int.le_refl _, Or.inr rfl⟩
  | n + 1, f => by
    unfold g_ext
    split
    · have := g_ext_in M num w n (f + 1)
      omega
    · exact ⟨Int.le_refl _, Or.inr rfl⟩
theorem s_request {C N : tk_M} {K : Int} (h : j_all C N K) (h0 : N 7 0 = 0) (t w : Int) : s_ok cd_4 (c_request t w C) (d_request t w N) (K + 2002) := by
  obtain ⟨h1, h2, h3, h4, h5, h6, h7⟩ := id h
  unfold c_request d_request
  rw [h3, h2.2.1]
  by_cases c1 : C 1 3 = 0
  · rw [if_pos c1, if_pos c1]; exact s_ok.thr h (by omega) rfl (by decide) _
  · rw [if_neg c1, if_neg c1]
    by_cases c2 : ¬ (0 ≤ t ∧ t ≤ 7) ∨ ¬ (0 ≤ w ∧ w ≤ C 2 3 - 1)
    · rw [if_pos c2, if_pos c2]; exact s_ok.thr h (by omega) rfl (by decide) _
    · obtain ⟨u, rfl⟩ : ∃ u : Nat, t = (u : Int) := ⟨t.toNat, by omega⟩
      rw [if_neg c2, if_neg c2, Int.toNat_natCast]
      obtain ⟨hp, hf⟩ := h6 c1
      have el := j_loc hp (t := u) (by omega)
      obtain ⟨f1, f2, f3⟩ := hf u (by omega)
      rw [el, ← f1]
      by_cases c3 : C (73 + u) 9 = 0
      · rw [if_pos c3, if_pos c3]; exact s_ok.thr h (by omega) rfl (by decide) _
      · rw [if_neg c3, if_neg c3]
        have c3' := c3
        rw [f1] at c3'
        obtain ⟨y1, y2⟩ := f_loc_ok c3'
        obtain ⟨q1, q2, q3, q4⟩ := hp.2.2.2.2 u (by omega)
        have tr := (q4 y1).2.2.2 y2
        have ez := tr.2.2.2.1
        have pm := (h1.2.2.2.2.2 c1).2 u (by omega) y1 y2
        unfold p_mk at pm
        have hx := j_ext hp hf (w := w) (num := (u : Int)) (by omega) 40 (C (73 + u) 5) (by omega)
        have hg := g_ext_in C (u : Int) w 40 (C (73 + u) 5)
        unfold f_ext m_rq
        rw [ez, hx, q2]
        generalize g_ext C (u : Int) w 40 (C (73 + u) 5) = g at *
        rw [show g + 1 - 1 = g by omega]
        by_cases c4 : C (73 + u) 5 < g ∧ C (73 + u) 12 < g
        · rw [if_pos c4, if_pos c4, tk_up_s, tk_up_s]
          refine s_ok.ret ?_ (show K ≤ K + 2002 by omega) (by rw [tk_up_n (by omega)]; exact h0) _
          have N32 := h1.1.2.2.2.1
          have uu : ∀ c j, ¬ (c = 73 + u ∧ j = 12) → tk_up C (73 + u) 12 g c j = C c j := fun c j g => tk_up_n g
          have us : tk_up C (73 + u) 12 g (73 + u) 12 = g := tk_up_s _ _ _ _
          have dd : ∀ c j, ¬ (c = 26 ∧ j = u) → tk_up N 26 u g c j = N c j := fun c j g => tk_up_n g
          have ds : tk_up N 26 u g 26 u = g := tk_up_s _ _ _ _
          generalize tk_up C (73 + u) 12 g = C' at *
          generalize tk_up N 26 u g = N' at *
          have e22 := uu 2 2 (by omega)
          have e23 := uu 2 3 (by omega)
          have e13 := uu 1 3 (by omega)
          obtain ⟨a1, a2, a3, a4, ⟨k1, k2, k3, k4, k5, k6, k7, k8⟩, a6⟩ := h1
          obtain ⟨p1, p2, p3, p4, p5⟩ := hp
          have S10 := a1.2.1
          refine ⟨⟨p_trk_eq e22 e23 (fun i hi => uu _ _ (by omega)) (fun i hi => uu _ _ (by omega)) a1, fun i hi => ?_, fun i hi => ?_, fun i hi => ?_, ⟨by rw [uu _ _ (by omega)]; exact k1, by rw [uu _ _ (by omega)]; exact k2, by rw [uu _ _ (by omega)]; exact k3, by rw [uu _ _ (by omega)]; exact k4, by rw [uu _ _ (by omega)]; exact k5, fun i hi => by rw [uu _ _ (by omega)]; exact k6 i hi, by rw [uu _ _ (by omega)]; exact k7, by rw [uu _ _ (by omega), e23]; exact k8⟩, fun hb => ⟨by rw [e13] at hb; have := (a6 hb).1; omega, fun i hi hc hr => ?_⟩⟩, h2.eq e22 e23 (uu _ _ (by omega)) (fun i hi => ⟨uu _ _ (by omega), uu _ _ (by omega)⟩) (fun i hi => ⟨uu _ _ (by omega), uu _ _ (by omega)⟩) (dd _ _ (by omega)) (dd _ _ (by omega)) (fun j => dd _ _ (by omega)) (fun j => dd _ _ (by omega)) (fun j => dd _ _ (by omega)), by rw [dd _ _ (by omega), e13]; exact h3, fun s hs => by rw [dd _ _ (by omega), uu _ _ (by omega)]; exact h4 s hs, ⟨by rw [dd _ _ (by omega)]; exact h5.1, fun i hi => by rw [dd _ _ (by omega), dd _ _ (by omega)]; exact h5.2 i hi⟩, fun hb => ⟨⟨?_, by omega, fun k hk => ?_, fun i hi => ?_, fun i hi => ?_⟩, fun i hi => ?_⟩, fun hb => by rw [e13] at hb; exact absurd hb c1⟩
          · rw [uu _ _ (by omega)]; exact a2 i hi
          · rw [e22] at hi
            rw [uu _ 0 (by omega), uu _ 1 (by omega)]; exact a3 i hi
          · rw [uu _ 3 (by omega), uu _ 8 (by omega), uu _ 1 (by omega)]
            refine ⟨?_, (a4 i hi).2⟩
            by_cases e : i = u
            · subst e; rw [us]; omega
            · rw [uu _ _ (by omega)]; exact (a4 i hi).1
          · rw [e13] at hb
            rw [uu _ 0 (by omega)] at hc
            rw [uu _ 2 (by omega)] at hr
            have := (a6 hb).2 i hi hc hr
            unfold p_mk at this ⊢
            rw [uu _ 6 (by omega), uu _ 5 (by omega), e23]
            exact this
          · rw [dd 7 3 (by omega), dd 7 4 (by omega), dd 7 5 (by omega), dd 7 6 (by omega), dd 7 7 (by omega), dd 7 8 (by omega), dd 7 9 (by omega), dd 7 10 (by omega), uu 1 7 (by omega), uu 1 4 (by omega), uu 1 5 (by omega), uu 1 6 (by omega), uu 3 0 (by omega), uu 3 1 (by omega), uu 2 5 (by omega), uu 2 4 (by omega)]
            exact p1
          · rw [e23] at hk
            rw [dd _ _ (by omega), dd _ _ (by omega), uu _ 2 (by omega), uu _ 4 (by omega)]; exact p3 k hk
          · rw [e22] at hi
            rw [dd _ _ (by omega), dd _ _ (by omega), dd _ _ (by omega), uu _ 3 (by omega), uu _ 2 (by omega), uu _ 4 (by omega)]; exact p4 i hi
          · obtain ⟨v1, v2, v3, v4⟩ := p5 i hi
            have ea : m_a N' i = m_a N i := by
              unfold m_a
              rw [dd 23 i (by omega), m_at_eq (dd _ _ (by omega)) (fun k => dd _ _ (by omega))]
            have ez : m_z N' i = m_z N i := by
              unfold m_z
              rw [dd 22 i (by omega), m_at_eq (dd _ _ (by omega)) (fun k => dd _ _ (by omega))]
            unfold j_tr
            rw [ea, ez, dd 18 i (by omega), dd 19 i (by omega), dd 20 i (by omega), dd 21 i (by omega), dd 22 i (by omega), dd 23 i (by omega), dd 24 i (by omega), dd 25 i (by omega), e23, uu (73 + i) 0 (by omega), uu (73 + i) 1 (by omega), uu (73 + i) 2 (by omega), uu (73 + i) 3 (by omega), uu (73 + i) 4 (by omega), uu (73 + i) 5 (by omega), uu (73 + i) 6 (by omega), uu (73 + i) 7 (by omega), uu (73 + i) 8 (by omega)]
            by_cases e : i = u
            · subst e
              rw [us, ds]
              exact ⟨v1, rfl, by omega, v4⟩
            · rw [uu _ _ (by omega), dd _ _ (by omega)]
              exact ⟨v1, v2, v3, v4⟩
          · have q := hf i hi
            unfold f_loc f_who at q ⊢
            rw [uu (73 + i) 0 (by omega), uu (73 + i) 2 (by omega), uu (73 + i) 3 (by omega), uu (73 + i) 7 (by omega), uu (73 + i) 8 (by omega), uu (73 + i) 9 (by omega), uu (73 + i) 10 (by omega), uu 1 7 (by omega), uu 1 4 (by omega), uu 1 5 (by omega)]
            refine ⟨q.1, q.2.1, ?_⟩
            by_cases e : i = u
            · subst e; exact Or.inr c3
            · rw [uu _ _ (by omega)]; exact q.2.2
        · rw [if_neg c4, if_neg c4, q2]
          exact s_ok.ret h (by omega) h0 _
end
section
/-! METHODS WITH HANDLERS: the law's helpers, and their calls -/
section TKH
/-- how a helper ends: it returns an int; at most one cell is new -/
def tk_Q1 (below : List Frame) (s : State) (G : tk_G) (A : Nat → Prop) (P : Int → tk_M → Prop) : State → Prop := fun t =>
  t.status = .running ∧ s.WarmedH t.vm ∧ va_F A s t ∧ ∃ (L : List Loc) (M : tk_M) (v : Int), (∀ q ∈ L, A q.base) ∧ tk_Wd G M t.heap ∧ Ended t below (.returned (some (.int (Int32.ofInt v)))) ∧ (-2147483648 ≤ v ∧ v < 2147483648) ∧ s.sameButNew ({ t with vm := s.vm } : State) L 1 6 ∧ P v M
def tk_H (l : Launch) (y : MethodName) (nf nw : Nat) (as : List tk_U) (M : tk_M) (P : Int → tk_M → Prop) : Prop :=
  ∀ (p : Program) (e : Env) (R : Room) (s : State) (m : MethodId) (below : List Frame) (meth : Method) (c : Code) (G : tk_G) (A : Nat → Prop),
    p.tables.exec = Jvm.exec → tk_F G A s → s.methodNamed? y = some m → nf ≤ R.frames → nw ≤ R.locals → 1 ≤ R.cells → 6 ≤ R.slots → (∀ u ∈ as, tk_ru u) → tk_Wd G M s.heap → s.vm.method? m = some meth → meth.code = some c →
    W p l e R s m (as.map fun u => tk_cv G (.inl u)).toArray below meth c s.heap [] 0 0 (tk_Q1 below s G A P) (entryFrame m (as.map fun u => tk_cv G (.inl u)).toArray c.maxLocals)
def tk_R1 (P : Int → tk_M → Prop) (v : Option Int) (M : tk_M) : Prop := match v with
  | some x => P x M
  | none => False
section
variable {p : Program} {l : Launch} {e : Env} {R : Room} {s : State} {m : MethodId} {args : Array Value} {below : List Frame} {meth : Method} {c : Code} {cells slots : Nat} {Q : State → Prop} {G : tk_G} {A : Nat → Prop} {nL : Nat} {T : State} {locs : List Loc} {L : Nat} {xs : Nat → Int32}
theorem tk_rt1 {cc : ByteArray} {P : Int → tk_M → Prop} (h1 : cells ≤ 1) (h2 : slots ≤ 6) (hx : p.tables.exec = Jvm.exec) (hb : c.code = cc) (hlocks : meth.locks = false) (hr : meth.sig.returnType = some .int) : tk_Rt p l e R s m args below meth c cells slots (tk_Q1 below s G A P) G A cc (tk_R1 P) := by
  intro v M H locs ls pc st hR hW hS hrs hc
  rcases hc with ⟨x, rfl, rfl, hd⟩ | ⟨rfl, rfl, hd⟩
  · refine tk_Wmono ?_ (W.iret (v := Int32.ofInt x) (Qc := fun _ _ o t => o = .returned (some (.int (Int32.ofInt x))) ∧ t.heap = H) (free := A) hx hb hr (fun t ht _ => ⟨rfl, ht⟩) hS.2.2 hd)
    rintro t ⟨o, g1, g2, ⟨rfl, g4⟩, L, ⟨-, g5, g6⟩, g7⟩
    exact ⟨g1, g5, hS.F g4, L, M, x, g7, by rw [g4]; exact hW, g2, hrs.hd, g6.mono h1 h2, hR⟩
  · exact hR.elim
/-- in and back -/
theorem tk_invH {y : MethodName} {cc : ByteArray} {mL : Nat} {ret : Option FieldType} {hh : List (Nat × Nat × Nat × Nat)} {nf nw : Nat} {as : List tk_U} {M : tk_M} {P : Int → tk_M → Prop} (con : tk_H l y nf nw as M P) (hw : Cond.codeWith y cc mL ret hh ∈ tk_tbl) (hy : plainName y.cls = true)
    (hx : p.tables.exec = Jvm.exec) (hF : tk_F G A s) (X : Stand p l e R s m args below meth c T locs cells slots) (hS : va_S A s.heap T.heap locs) (hWd : tk_Wd G M T.heap) {g : JFrame} (hg : g.method = m) (hsize : g.locals.size = c.maxLocals) {ig : Instr} (hdg : decode c.code g.pc = .ok (ig, 3)) {mk : MethodId} (hn : s.methodNamed? y = some mk)
    (hr : ∀ u ∈ as, tk_ru u) (hfr : nf + 1 ≤ R.frames) (hlo : 2 * g.monitorRoom + (g.stack.map fun v => v.category).sum + (mL + 11) + nw ≤ R.locals) (hcl : cells + 1 ≤ R.cells) (hsl : slots + 6 ≤ R.slots)
    (kr : ∀ (v : Int) (M' : tk_M) (T' : State) (locs' : List Loc), P v M' → (-2147483648 ≤ v ∧ v < 2147483648) → Stand p l e R s m args below meth c T' locs' (cells + 1) (slots + 6) → tk_Wd G M' T'.heap → va_S A s.heap T'.heap locs' → ∃ t, Steps p.tables e below (T'.setTop { g with pc := g.pc + 3, stack := [.int (Int32.ofInt v)] ++ g.stack }) t ∧ Q t) :
    ∃ t, (∀ acts, Steps p.tables e below (doInvoke e (T.setTop g) acts mk (as.map fun u => tk_cv G (.inl u)).toArray).1 t) ∧ Q t := by
  obtain ⟨mk', methk, ck, hn', hmk, hck, hb, hl, -, hret, hlk, -⟩ := Cond.codeWith_spec (hF.1 _ hw)
  cases Option.some.inj (hn.symm.trans hn')
  have hal := X.warmed.alike
  have hmkT : T.vm.method? mk = some methk := by rw [hal.method?]; exact hmk
  have hpl : T.plainMethod mk := by
    obtain ⟨k, hk, hnm⟩ := className_of_methodNamed hn
    exact X.warmed.plainAt fun k2 hk2 => by cases hk.symm.trans hk2; rw [hnm]; exact hy
  obtain ⟨Y, hdo⟩ := X.into hg hsize hdg (as.map fun u => tk_cv G (.inl u)).toArray (R' := { frames := R.frames - 1, cells := R.cells - cells, slots := R.slots - slots, locals := nw }) hmkT hck hlk hpl (by show R.frames - 1 + 1 ≤ R.frames; omega) (by rw [hl]; exact hlo) (by show cells + (R.cells - cells) ≤ R.cells; omega) (by show slots + (R.slots - slots) ≤ R.slots; omega)
  have hWc : s.WarmedH (T.calling g mk (as.map fun u => tk_cv G (.inl u)).toArray).vm := X.warmed
  have hFc : tk_F G A (T.calling g mk (as.map fun u => tk_cv G (.inl u)).toArray) := hF.call hWc hS.1 hS.2.1
  have hnc : (T.calling g mk (as.map fun u => tk_cv G (.inl u)).toArray).methodNamed? y = some mk := X.named hn
  obtain ⟨t, hst, hq⟩ := con p e { frames := R.frames - 1, cells := R.cells - cells, slots := R.slots - slots, locals := nw } (T.calling g mk (as.map fun u => tk_cv G (.inl u)).toArray) mk (.java g :: below) methk ck G A hx hFc hnc (by show nf ≤ R.frames - 1; omega) (Nat.le_refl _) (by show 1 ≤ R.cells - cells; omega) (by show 6 ≤ R.slots - slots; omega) hr hWd hmkT hck ((T.setTop g).pushFrame (.java (entryFrame mk (as.map fun u => tk_cv G (.inl u)).toArray ck.maxLocals))) rfl Y
  obtain ⟨q1, q2, q3, L, M', v, q4, q5, r1, r2, r3, r4⟩ := hq
  have hzT : (T.calling g mk (as.map fun u => tk_cv G (.inl u)).toArray).heap = T.heap := rfl
  have hSn : va_S A s.heap t.heap (locs ++ L) := ⟨Nat.le_trans hS.1 (by rw [← hzT]; exact q3.1), fun q h1 h2 => by rw [q3.2 q (Nat.lt_of_lt_of_le h1 hS.1) h2]; exact hS.2.1 q h1 h2, fun q hq => by
    rcases List.mem_append.mp hq with h | h
    · exact hS.2.2 q h
    · exact q4 q h⟩
  obtain ⟨T', X', hW', hsm, ht⟩ := X.outOf hg hdg r1 q2 r3
  have hh : T'.heap = t.heap := by rw [ht]; rfl
  obtain ⟨t2, a1, b1⟩ := kr v M' T' (locs ++ L) r4 r2 X' (by rw [hh]; exact q5) (by rw [hh]; exact hSn)
  refine ⟨t2, fun acts => ?_, b1⟩
  rw [hdo acts]
  refine Steps.trans (tk_weaken hst) ?_
  rw [ht]
  exact a1
/-- a call of a helper -/
theorem tk_callH {own : String} {cc : ByteArray} {b9 : Bool} (X0 : tk_X p s m args c G A nL own cc b9 L xs) (hF : tk_F G A s) {y : MethodName} {cy : ByteArray} {mL : Nat} {ret : Option FieldType} {hh : List (Nat × Nat × Nat × Nat)} {nf nw ix n : Nat} {ps : List tk_U} {M : tk_M} {P : Int → tk_M → Prop}
    (con : tk_H l y nf nw ps M P) (hw : Cond.codeWith y cy mL ret hh ∈ tk_tbl) (hlk : tk_lnk own ix y n) (hsta : Cond.static y ∈ tk_tbl) (hini : Cond.initialized y.cls ∈ tk_tbl) {pc : Nat} (hd : decode cc pc = .ok (.invokestatic ix, 3))
    (hn : ps.length = n) {lo : tk_Lc} {st : List tk_V}
    (hfr : nf + 1 ≤ R.frames) (hlo : ((st.map (tk_cv G)).map fun v => v.category).sum + (mL + 11) + nw ≤ R.locals) (hcl : cells + 1 ≤ R.cells) (hsl : slots + 6 ≤ R.slots)
    (kr : ∀ (v : Int) (M' : tk_M), P v M' → tk_W p l e R s m args below meth c (cells + 1) (slots + 6) Q G A nL (pc + 3) lo (.inl (.inl v) :: st) M') :
    tk_W p l e R s m args below meth c cells slots Q G A nL pc lo ((ps.reverse.map Sum.inl) ++ st) M := by
  intro H locs ls hW hS hl hr T hT X
  obtain ⟨hx, hb, hml, hown, hts, hKn, hSt, hA, -⟩ := X0
  obtain ⟨hl1, hl2, hl3, hl4⟩ := hlk
  obtain ⟨mk, methM, cM, hnamed, hmethM, -, -, -, -, -, -, hsigM⟩ := Cond.codeWith_spec (hts _ hw)
  have hstatic : methM.isStatic = true := Cond.static_spec hnamed hmethM (hts _ hsta)
  obtain ⟨kP, hkP, -⟩ := className_of_methodNamed hnamed
  have hinitP : kP.init = .initialized := Cond.initialized_spec (findClass_of_methodNamed hnamed) hkP (hts _ hini)
  have hstk : (((ps.reverse.map Sum.inl) ++ st : List tk_V).map (tk_cv G)) = (ps.map fun u => tk_cv G (.inl u)).reverse ++ st.map (tk_cv G) := by
    simp [List.map_reverse, Function.comp_def]
  obtain ⟨vm₁, X₁, hstep⟩ := X.invokestatic hx hown (hts _ hl1) hnamed hmethM hstatic hkP hinitP hl2 (g := F0 m pc ls (((ps.reverse.map Sum.inl) ++ st : List tk_V).map (tk_cv G))) rfl
    (argsL := ps.map fun u => tk_cv G (.inl u)) (rest := st.map (tk_cv G)) (by rw [List.length_map, hn]; exact tk_plen hl4 hsigM) hstk (by rw [hb]; exact hd)
  have hru : ∀ u ∈ ps, tk_ru u := fun u hu => hr (.inl u) (List.mem_append_left _ (List.mem_map.mpr ⟨u, List.mem_reverse.mpr hu, rfl⟩))
  have hrs : tk_rs st := fun v hv => hr v (List.mem_append_right _ hv)
  obtain ⟨t, k1, k2⟩ := tk_invH (Q := Q) con hw hl3 hx hF X₁ (by rw [show (T.setVm vm₁).heap = H from hT]; exact hS) (by rw [show (T.setVm vm₁).heap = H from hT]; exact hW) (g := F0 m pc ls (st.map (tk_cv G))) rfl (by rw [hml]; exact hl.2.1.1) (ig := .invokestatic ix) (by rw [hb]; exact hd) hnamed hru hfr
    (by show 2 * 0 + ((st.map (tk_cv G)).map fun v => v.category).sum + _ + _ ≤ _; omega) hcl hsl
    (fun v M' T' locs' hp hro X' hW' hS' => kr v M' hp T'.heap locs' ls hW' hS' hl (tk_rs.cons hro hrs) T' rfl X')
  exact ⟨t, hstep t k1, k2⟩
theorem tk_L.lose {ls ls' : Array Slot} {lo : tk_Lc} (h : tk_L G ls nL lo) {i : Nat} (h0 : tk_gt lo i = none) {v : Value} (h' : lv_has ls' nL ((i, v) :: (tk_lv G 0 lo).filter (fun q => !(q.1 == i) && !(q.1 + 1 == i && q.2.category == 2)))) : tk_L G ls' nL lo := by
  refine ⟨h.1, ⟨h'.1, h'.2.1, fun q hq => h'.2.2 q ?_⟩, h.2.2⟩
  obtain ⟨n, w, e1, e2⟩ := tk_lv_mem.mp hq
  have hne : n ≠ i := fun z => by rw [z, h0] at e2; cases e2
  refine List.mem_cons_of_mem _ (List.mem_filter.mpr ⟨hq, ?_⟩)
  rw [e1]
  simp [hne, tk_cat]
/-- an exception of kind x thrown at pc is caught: the walk goes on at np, with nothing on the stack -/
def tk_hnd (own : String) (cc : ByteArray) (nL : Nat) (hh : List (Nat × Nat × Nat × Nat)) (pc : Nat) (lo : tk_Lc) (x np : Nat) : Prop :=
  ∃ (pre : List ((Nat × Nat × Nat × Nat) × Nat)) (r : Nat × Nat × Nat × Nat) (suf : List (Nat × Nat × Nat × Nat)) (i : Nat), hh = pre.map Prod.fst ++ r :: suf ∧ (∀ z ∈ pre, z.2 < 4 ∧ x ≠ z.2 ∧ z.1.2.2.2 ≠ 0 ∧ Cond.classLink own z.1.2.2.2 (tk_xn z.2) ∈ tk_tbl) ∧ x < 4 ∧ (r.1 ≤ pc ∧ pc < r.2.1) ∧ r.2.2.2 ≠ 0 ∧ Cond.classLink own r.2.2.2 (tk_xn x) ∈ tk_tbl ∧ i < nL ∧ tk_gt lo i = none ∧
    ((∃ k : Fin 4, (k : Nat) = i ∧ decode cc r.2.2.1 = .ok (.astore_n k, 1) ∧ np = r.2.2.1 + 1) ∨ (decode cc r.2.2.1 = .ok (.astore i, 2) ∧ np = r.2.2.1 + 2))
theorem tk_cast {x : Nat} (hx : x < 4) : Cond.castable (tk_xn x) (tk_xn x) ∈ tk_cw := by
  match x, hx with
  | 0, _ => simp [tk_cw, tk_xn]
  | 1, _ => simp [tk_cw, tk_xn]
  | 2, _ => simp [tk_cw, tk_xn]
  | 3, _ => simp [tk_cw, tk_xn]
theorem tk_Th.caught {own : String} {cc : ByteArray} {b9 : Bool} (X0 : tk_X p s m args c G A nL own cc b9 L xs) (hF : tk_F G A s) {hh : List (Nat × Nat × Nat × Nat)} (het : c.exceptionTable.toList = tableOf hh) {pc x np : Nat} {lo : tk_Lc} {M : tk_M} (hh0 : tk_hnd own cc nL hh pc lo x np)
    (k : tk_W p l e R s m args below meth c (cells + 1) (slots + 6) Q G A nL np lo [] M) : tk_Th p l e R s m args below meth c cells slots Q G A nL pc lo x M := by
  intro T locs a ls st X hW hS hex hl
  obtain ⟨hx, hb, hml, hown, hts, hKn, hSt, hA, -⟩ := X0
  obtain ⟨pre, r, suf, i, e1, hpre, hx4, hcov, hr0, hlink, hi, hlo, hst⟩ := hh0
  obtain ⟨cell, c1, c2, c3⟩ := hex
  refine vx_catch (pc := pc) (ls := ls) (rest := st) (E := tk_xn x) (name := tk_xn x) hown ((pre.map Prod.fst).map fun q => ⟨q.1, q.2.1, q.2.2.1, q.2.2.2⟩) ⟨r.1, r.2.1, r.2.2.1, r.2.2.2⟩ (tableOf suf) (by rw [het, e1]; simp [tableOf]) (fun z hz => ?_) (by simp [covers, hcov.1, hcov.2]) hr0 (hts _ hlink) (va_Nw.use rfl (hF.2.2.2.2.2.2.1 _ (List.mem_append_right _ (tk_cast hx4)))) c1 c2 c3 ?_ T rfl X
  · obtain ⟨w, hw, rfl⟩ := List.mem_map.mp hz
    obtain ⟨w2, hw2, rfl⟩ := List.mem_map.mp hw
    obtain ⟨p1, p2, p3, p4⟩ := hpre w2 hw2
    exact Or.inr ⟨p3, tk_xn w2.2, hts _ p4, hF.2.2.2.2.2.2.2 x w2.2 hx4 p1 p2⟩
  · rcases hst with ⟨k9, f1, f2, f3⟩ | ⟨f2, f3⟩
    · refine lv_astore_n hx hb f2 f1 hl.2.1 hi rfl fun ls' h' => ?_
      rw [f3] at k
      exact k T.heap locs ls' hW hS (hl.lose hlo h') tk_rs.nil
    · refine lv_astore hx hb f2 hl.2.1 hi rfl fun ls' h' => ?_
      rw [f3] at k
      exact k T.heap locs ls' hW hS (hl.lose hlo h') tk_rs.nil
end
/-! a helper's walk with its surroundings left free -/
def tk_B1 (l : Launch) (p : Program) (R : Room) (s : State) (m : MethodId) (args : Array Value) (meth : Method) (c : Code) (G : tk_G) (A : Nat → Prop) (own : String) (cc : ByteArray) (nL : Nat) (hh : List (Nat × Nat × Nat × Nat)) (nf nw : Nat) : Prop :=
  tk_F G A s ∧ tk_X p s m args c G A nL own cc false 0 (fun _ => 0) ∧ nf ≤ R.frames ∧ nw ≤ R.locals ∧ 1 ≤ R.cells ∧ 6 ≤ R.slots ∧ meth.locks = false ∧ meth.sig.returnType = some .int ∧ c.exceptionTable.toList = tableOf hh
def tk_A1 (l : Launch) (own : String) (cc : ByteArray) (nL : Nat) (hh : List (Nat × Nat × Nat × Nat)) (nf nw : Nat) (k n : Nat) (P : Int → tk_M → Prop) (pc : Nat) (lo : tk_Lc) (st : List tk_V) (M : tk_M) : Prop :=
  ∀ (p : Program) (e : Env) (R : Room) (s : State) (m : MethodId) (args : Array Value) (below : List Frame) (meth : Method) (c : Code) (G : tk_G) (A : Nat → Prop), tk_B1 l p R s m args meth c G A own cc nL hh nf nw → tk_W p l e R s m args below meth c k n (tk_Q1 below s G A P) G A nL pc lo st M
variable {l : Launch} {own : String} {cc : ByteArray} {nL : Nat} {hh : List (Nat × Nat × Nat × Nat)} {nf nw : Nat} {P : Int → tk_M → Prop}
theorem tk_go1 {fl : tk_FL} {cs : List (Nat × Int)} (hfl : tk_flok own fl) (hcs : tk_csok own cs) {tab : List tk_E} (htab : tk_good cc nL tab) {k9 n9 : Nat} (h1 : k9 ≤ 1) (h2 : n9 ≤ 6) (n : Nat) (cut : List Nat) {pc : Nat} {lo : tk_Lc} {st : List tk_V} {M : tk_M}
    (h : tk_R fl cs false 0 (fun _ => 0) cut tab (fun pc lo st M => tk_Lf (tk_A1 l own cc nL hh nf nw k9 n9 P pc lo st M)) (tk_R1 P) n (tk_to tab pc) lo st M) : tk_A1 l own cc nL hh nf nw k9 n9 P pc lo st M :=
  fun p e R s m args below meth c G A B => tk_goP B.2.1 hfl hcs htab (tk_rt1 h1 h2 B.2.1.1 B.2.1.2.1 B.2.2.2.2.2.2.1 B.2.2.2.2.2.2.2.1) (fun pc lo st M h => h.elim fun _ h => h p e R s m args below meth c G A B) n cut h
/-- a call by a receiver, within a try -/
theorem tk_aV1 {y : MethodName} {cy : ByteArray} {mL : Nat} {rty : Option FieldType} {nf' nw' ix n k : Nat} {C : String} {T0 : u_T} {N0 : Nat} {fs : List (Option Nat)} {r : Nat} {ps : List tk_U} {P' : (Option Int ⊕ Nat) → tk_M → Prop} {M : tk_M} {tab : List tk_E} {pc : Nat} {lo : tk_Lc} {stk st : List tk_V}
    (con : tk_C l y nf' nw' (.inr r :: ps) M P') (hw : Cond.code y cy mL rty ∈ tk_tbl) (hlk : tk_lnk own ix y n) (hinst : Cond.instanceMethod y ∈ tk_tbl) (hsel : Cond.selects C y y ∈ tk_tbl) (htab : tk_good cc nL tab) (hd : tk_ia tab pc = some (.invokevirtual ix, pc + 3))
    (hk : tk_cl[k]? = some (C, T0, N0)) (hr0 : r < tk_nc) (hsh : tk_sh r = .inl (k, fs)) (hn : ps.length = n) (hst : stk = (ps.reverse.map Sum.inl) ++ (.inl (.inr r) :: st)) (hfr : nf' + 1 ≤ nf) (hlo : tk_sv st + (mL + 11) + nw' ≤ nw)
    (kr : ∀ (v : Option Int) (M' : tk_M), P' (.inl v) M' → tk_ro v → tk_A1 l own cc nL hh nf nw 0 0 P (pc + 3) lo (tk_pv v ++ st) M') (kt : ∀ (x : Nat) (M' : tk_M), P' (.inr x) M' → ∃ np, tk_hnd own cc nL hh pc lo x np ∧ tk_A1 l own cc nL hh nf nw 1 6 P np lo [] M') : tk_A1 l own cc nL hh nf nw 0 0 P pc lo stk M := by
  intro p e R s m args below meth c G A B
  obtain ⟨hF, X, h1, h2, h3, h4, hlocks, hret, het⟩ := id B
  rw [hst]
  exact tk_callV X hF con hw hlk hinst hsel (tk_dec3 htab hd) hk hr0 hsh hn ⟨rfl, rfl⟩ (by omega) (by rw [tk_sv_eq]; omega) (by omega) (by omega) (fun v M' hp hro => kr v M' hp hro p e R s m args below meth c G A B) (fun x M' hp => by
    obtain ⟨np, g1, g2⟩ := kt x M' hp
    exact tk_Th.caught X hF het g1 (g2 p e R s m args below meth c G A B))
theorem tk_H.of {y : MethodName} {as : List tk_U} {M : tk_M} (hw : Cond.codeWith y cc nL (some .int) hh ∈ tk_tbl) (ho : y.cls = own) (hlen : as.length ≤ nL) (body : (∀ u ∈ as, tk_ru u) → (∀ c j, -2147483648 ≤ M c j ∧ M c j < 2147483648) → tk_A1 l own cc nL hh nf nw 0 0 P 0 (as.map some ++ List.replicate (nL - as.length) none) [] M) : tk_H l y nf nw as M P := by
  subst ho
  intro p e R s m below meth c G A hx hF hn h1 h2 h3 h4 hr hW hm hc
  obtain ⟨m', meth', c', hn', hm', hc', hb, hl, h6, hret, hlk, -⟩ := Cond.codeWith_spec (hF.1 _ hw)
  cases Option.some.inj (hn.symm.trans hn')
  cases hm.symm.trans hm'
  cases hc.symm.trans hc'
  have het : c.exceptionTable.toList = tableOf hh := by rw [← h6, table_eq]
  have k := body hr hW.2 p e R s m (as.map fun u => tk_cv G (.inl u)).toArray below meth c G A ⟨hF, ⟨hx, hb, hl, findClass_of_methodNamed hn, hF.words _, hF.2.1, hF.2.2.1, hF.2.2.2.1, fun z => by cases z⟩, h1, h2, h3, h4, hlk, hret, het⟩
  have hle : (lg_sl (as.map fun u => tk_cv G (.inl u))).length ≤ nL := by rw [tk_lgl]; exact hlen
  have hlv := lv_entry (as.map fun u => tk_cv G (.inl u)) (n := nL) hle
  rw [hl, lg_entry_eq]
  refine k s.heap [] _ hW va_S.rf ⟨by simp; omega, ⟨hlv.1, hlv.2.1, fun q hq => hlv.2.2 q ?_⟩, fun n v hv => hr v (tk_gt_app as _ n v hv).2⟩ tk_rs.nil
  rw [tk_entry_lv]
  obtain ⟨n, v, e1, e2⟩ := tk_lv_mem.mp hq
  exact tk_lv_mem.mpr ⟨n, v, e1, (tk_gt_app as _ n v e2).1⟩
end TKH
end
section
/-! THE LAW'S HELPERS, written by a program -/
theorem tk_dec2 {cc : ByteArray} {nL : Nat} {tab : List tk_E} (htab : tk_good cc nL tab) {pc : Nat} {i : Instr} (h : tk_ia tab pc = some (i, pc + 2)) : decode cc pc = .ok (i, 2) := by
  obtain ⟨len, h1, h2⟩ := tk_dec htab h
  have : len = 2 := by omega
  rw [this] at h1
  exact h1
def h_v (cd : Nat → Int) (Z : tk_Z) : Int := match Z.1 with
  | .inl _ => 0
  | .inr x => cd x
def h_m (Z : tk_Z) : tk_M := match Z.1 with
  | .inl (some y) => tk_up Z.2 0 0 y
  | _ => Z.2
def tk_h (cd : Nat → Int) (Z : tk_Z) : Int → tk_M → Prop := fun v M => v = h_v cd Z ∧ M = h_m Z
/-- what a call can answer: a number or none, and the kinds that it can throw -/
def v_ok (Z : tk_Z) (ks : List Nat) (b : Bool) : Prop := (∀ v, Z.1 = .inl v → v.isSome = b) ∧ ∀ x, Z.1 = .inr x → x ∈ ks
theorem v_ok.i {M : tk_M} {x : Nat} {ks : List Nat} {b : Bool} (h : x ∈ ks) : v_ok (.inr x, M) ks b := ⟨fun v h => (by cases h), fun y hy => (by cases hy; exact h)⟩
theorem v_ok.s {M : tk_M} {x : Int} {ks : List Nat} : v_ok (.inl (some x), M) ks true := ⟨fun v h => (by cases h; rfl), fun y hy => (by cases hy)⟩
theorem v_ok.n {M : tk_M} {ks : List Nat} : v_ok (.inl none, M) ks false := ⟨fun v h => (by cases h; rfl), fun y hy => (by cases hy)⟩
theorem v_ok.if {c : Prop} {d : Decidable c} {Z W : tk_Z} {ks : List Nat} {b : Bool} (h1 : v_ok Z ks b) (h2 : v_ok W ks b) : v_ok (if c then Z else W) ks b := by
  by_cases h : c
  · rw [if_pos h]; exact h1
  · rw [if_neg h]; exact h2
theorem h_r {cd : Nat → Int} {Z : tk_Z} {w : Int} (e : (.inl (some w) : Option Int ⊕ Nat) = Z.1) : tk_h cd Z 0 (tk_up Z.2 0 0 w) := by
  unfold tk_h h_v h_m
  rw [← e]
  exact ⟨rfl, rfl⟩
theorem h_n {cd : Nat → Int} {Z : tk_Z} (e : (.inl none : Option Int ⊕ Nat) = Z.1) : tk_h cd Z 0 Z.2 := by
  unfold tk_h h_v h_m
  rw [← e]
  exact ⟨rfl, rfl⟩
theorem h_t {cd : Nat → Int} {Z : tk_Z} {x : Nat} {v : Int} (e : (.inr x : Option Int ⊕ Nat) = Z.1) (h : v = cd x) : tk_h cd Z v Z.2 := by
  unfold tk_h h_v h_m
  rw [← e]
  exact ⟨h, rfl⟩
theorem v_some {Z : tk_Z} {ks : List Nat} {v : Option Int} (h : v_ok Z ks true) (e : (.inl v : Option Int ⊕ Nat) = Z.1) : ∃ w, v = some w := Option.isSome_iff_exists.mp (h.1 v e.symm)
theorem v_none {Z : tk_Z} {ks : List Nat} {v : Option Int} (h : v_ok Z ks false) (e : (.inl v : Option Int ⊕ Nat) = Z.1) : v = none := by
  have h1 := h.1 v e.symm
  cases v with
  | none => rfl
  | some x => cases h1
set_option maxRecDepth 100000 in
theorem wl_13 : Cond.classLink "TrackKeeperLaw" 13 (tk_xn 0) ∈ tk_tbl := tk_mw 243 rfl rfl
set_option maxRecDepth 100000 in
theorem wl_15 : Cond.classLink "TrackKeeperLaw" 15 (tk_xn 2) ∈ tk_tbl := tk_mw 244 rfl rfl
set_option maxRecDepth 100000 in
theorem wl_21 : Cond.classLink "TrackKeeperLaw" 21 (tk_xn 1) ∈ tk_tbl := tk_mw 339 rfl rfl
set_option maxRecDepth 100000 in
theorem wl_39 : Cond.classLink "TrackKeeperLaw" 39 (tk_xn 3) ∈ tk_tbl := tk_mw 463 rfl rfl
set_option maxRecDepth 100000 in
theorem wh_section : Cond.codeWith y_La_section method_3_code 3 (some .int) [(0, 8, 11, 13), (0, 8, 14, 15)] ∈ tk_tbl := tk_mw 242 rfl rfl
theorem k_La_section {l : Launch} {M : tk_M} {Z : tk_Z} (con : tk_C l y_TK_section 7 94 [.inr 1] M (tk_z Z)) (hv : v_ok Z [0, 2] true) : tk_H l y_La_section 8 120 [.inr 1, .inr 0] M (tk_h cd_1 Z) := by
  refine tk_H.of wh_section rfl (Nat.le_of_ble_eq_true rfl) fun hr hM => ?_
  refine tk_go1 fo_La co_La tg_La_section (Nat.le_of_ble_eq_true rfl) (Nat.le_of_ble_eq_true rfl) 40 [] ?_
  refine ⟨(), tk_aV1 con wc_TK_section lk_La_7 wi_TK_section wsl_TK_section tg_La_section rfl rfl (by decide) rfl rfl rfl (by decide) (by decide) (fun v M' hz hro => ?_) (fun x M' hz => ?_)⟩
  · obtain ⟨e1, rfl⟩ := hz
    obtain ⟨w, rfl⟩ := v_some hv e1
    refine tk_go1 fo_La co_La tg_La_section (Nat.le_of_ble_eq_true rfl) (Nat.le_of_ble_eq_true rfl) 40 [] ?_
    exact ⟨by decide, h_r e1⟩
  · obtain ⟨e1, rfl⟩ := hz
    have hx := hv.2 x e1.symm
    simp only [List.mem_cons, List.not_mem_nil, or_false] at hx
    rcases hx with rfl | rfl
    · refine ⟨12, ⟨[], (0, 8, 11, 13), [(0, 8, 14, 15)], 2, rfl, (fun z hz => by cases hz), by decide, by decide, by decide, wl_13, by decide, rfl, Or.inl ⟨2, rfl, tk_dec1 tg_La_section rfl, rfl⟩⟩, ?_⟩
      refine tk_go1 fo_La co_La tg_La_section (Nat.le_of_ble_eq_true rfl) (Nat.le_of_ble_eq_true rfl) 40 [] ?_
      exact h_t e1 rfl
    · refine ⟨15, ⟨[((0, 8, 11, 13), 0)], (0, 8, 14, 15), [], 2, rfl, (fun z hz => by simp only [List.mem_cons, List.not_mem_nil, or_false] at hz; subst hz; exact ⟨by decide, by decide, by decide, wl_13⟩), by decide, by decide, by decide, wl_15, by decide, rfl, Or.inl ⟨2, rfl, tk_dec1 tg_La_section rfl, rfl⟩⟩, ?_⟩
      refine tk_go1 fo_La co_La tg_La_section (Nat.le_of_ble_eq_true rfl) (Nat.le_of_ble_eq_true rfl) 40 [] ?_
      exact h_t e1 rfl
set_option maxRecDepth 100000 in
theorem wh_sub : Cond.codeWith y_La_sub method_4_code 4 (some .int) [(0, 9, 12, 21), (0, 9, 15, 13), (0, 9, 18, 15)] ∈ tk_tbl := tk_mw 338 rfl rfl
theorem k_La_sub {l : Launch} {M : tk_M} (x : Int) {Z : tk_Z} (con : tk_C l y_TK_sub 7 94 [.inr 1, .inl x] M (tk_z Z)) (hv : v_ok Z [1, 0, 2] true) : tk_H l y_La_sub 8 120 [.inr 1, .inl x, .inr 0] M (tk_h cd_2 Z) := by
  refine tk_H.of wh_sub rfl (Nat.le_of_ble_eq_true rfl) fun hr hM => ?_
  refine tk_go1 fo_La co_La tg_La_sub (Nat.le_of_ble_eq_true rfl) (Nat.le_of_ble_eq_true rfl) 40 [] ?_
  refine ⟨(), tk_aV1 con wc_TK_sub lk_La_17 wi_TK_sub wsl_TK_sub tg_La_sub rfl rfl (by decide) rfl rfl rfl (by decide) (by decide) (fun v M' hz hro => ?_) (fun x M' hz => ?_)⟩
  · obtain ⟨e1, rfl⟩ := hz
    obtain ⟨w, rfl⟩ := v_some hv e1
    refine tk_go1 fo_La co_La tg_La_sub (Nat.le_of_ble_eq_true rfl) (Nat.le_of_ble_eq_true rfl) 40 [] ?_
    exact ⟨by decide, h_r e1⟩
  · obtain ⟨e1, rfl⟩ := hz
    have hx := hv.2 x e1.symm
    simp only [List.mem_cons, List.not_mem_nil, or_false] at hx
    rcases hx with rfl | rfl | rfl
    · refine ⟨13, ⟨[], (0, 9, 12, 21), [(0, 9, 15, 13), (0, 9, 18, 15)], 3, rfl, (fun z hz => by cases hz), by decide, by decide, by decide, wl_21, by decide, rfl, Or.inl ⟨3, rfl, tk_dec1 tg_La_sub rfl, rfl⟩⟩, ?_⟩
      refine tk_go1 fo_La co_La tg_La_sub (Nat.le_of_ble_eq_true rfl) (Nat.le_of_ble_eq_true rfl) 40 [] ?_
      exact h_t e1 rfl
    · refine ⟨16, ⟨[((0, 9, 12, 21), 1)], (0, 9, 15, 13), [(0, 9, 18, 15)], 3, rfl, (fun z hz => by simp only [List.mem_cons, List.not_mem_nil, or_false] at hz; subst hz; exact ⟨by decide, by decide, by decide, wl_21⟩), by decide, by decide, by decide, wl_13, by decide, rfl, Or.inl ⟨3, rfl, tk_dec1 tg_La_sub rfl, rfl⟩⟩, ?_⟩
      refine tk_go1 fo_La co_La tg_La_sub (Nat.le_of_ble_eq_true rfl) (Nat.le_of_ble_eq_true rfl) 40 [] ?_
      exact h_t e1 rfl
    · refine ⟨19, ⟨[((0, 9, 12, 21), 1), ((0, 9, 15, 13), 0)], (0, 9, 18, 15), [], 3, rfl, (fun z hz => by simp only [List.mem_cons, List.not_mem_nil, or_false] at hz; rcases hz with rfl | rfl<;> (first | exact ⟨by decide, by decide, by decide, wl_21⟩ | exact ⟨by decide, by decide, by decide, wl_13⟩)), by decide, by decide, by decide, wl_15, by decide, rfl, Or.inl ⟨3, rfl, tk_dec1 tg_La_sub rfl, rfl⟩⟩, ?_⟩
      refine tk_go1 fo_La co_La tg_La_sub (Nat.le_of_ble_eq_true rfl) (Nat.le_of_ble_eq_true rfl) 40 [] ?_
      exact h_t e1 rfl
set_option maxRecDepth 100000 in
theorem wh_begin : Cond.codeWith y_La_begin method_5_code 6 (some .int) [(0, 12, 15, 21), (0, 12, 19, 13)] ∈ tk_tbl := tk_mw 369 rfl rfl
theorem k_La_begin {l : Launch} {M : tk_M} (m k s : Int) {Z : tk_Z} (con : tk_C l y_TK_begin 7 94 [.inr 1, .inl m, .inl k, .inl s] M (tk_z Z)) (hv : v_ok Z [1, 0] true) : tk_H l y_La_begin 8 120 [.inr 1, .inl m, .inl k, .inl s, .inr 0] M (tk_h cd_3 Z) := by
  refine tk_H.of wh_begin rfl (Nat.le_of_ble_eq_true rfl) fun hr hM => ?_
  refine tk_go1 fo_La co_La tg_La_begin (Nat.le_of_ble_eq_true rfl) (Nat.le_of_ble_eq_true rfl) 40 [] ?_
  refine ⟨(), tk_aV1 con wc_TK_begin lk_La_23 wi_TK_begin wsl_TK_begin tg_La_begin rfl rfl (by decide) rfl rfl rfl (by decide) (by decide) (fun v M' hz hro => ?_) (fun x M' hz => ?_)⟩
  · obtain ⟨e1, rfl⟩ := hz
    obtain ⟨w, rfl⟩ := v_some hv e1
    refine tk_go1 fo_La co_La tg_La_begin (Nat.le_of_ble_eq_true rfl) (Nat.le_of_ble_eq_true rfl) 40 [] ?_
    exact ⟨by decide, h_r e1⟩
  · obtain ⟨e1, rfl⟩ := hz
    have hx := hv.2 x e1.symm
    simp only [List.mem_cons, List.not_mem_nil, or_false] at hx
    rcases hx with rfl | rfl
    · refine ⟨17, ⟨[], (0, 12, 15, 21), [(0, 12, 19, 13)], 5, rfl, (fun z hz => by cases hz), by decide, by decide, by decide, wl_21, by decide, rfl, Or.inr ⟨tk_dec2 tg_La_begin rfl, rfl⟩⟩, ?_⟩
      refine tk_go1 fo_La co_La tg_La_begin (Nat.le_of_ble_eq_true rfl) (Nat.le_of_ble_eq_true rfl) 40 [] ?_
      exact h_t e1 rfl
    · refine ⟨21, ⟨[((0, 12, 15, 21), 1)], (0, 12, 19, 13), [], 5, rfl, (fun z hz => by simp only [List.mem_cons, List.not_mem_nil, or_false] at hz; subst hz; exact ⟨by decide, by decide, by decide, wl_21⟩), by decide, by decide, by decide, wl_13, by decide, rfl, Or.inr ⟨tk_dec2 tg_La_begin rfl, rfl⟩⟩, ?_⟩
      refine tk_go1 fo_La co_La tg_La_begin (Nat.le_of_ble_eq_true rfl) (Nat.le_of_ble_eq_true rfl) 40 [] ?_
      exact h_t e1 rfl
set_option maxRecDepth 100000 in
theorem wh_detect : Cond.codeWith y_La_detect method_6_code 4 (some .int) [(0, 6, 9, 13), (0, 6, 12, 21)] ∈ tk_tbl := tk_mw 388 rfl rfl
theorem k_La_detect {l : Launch} {M : tk_M} (s b : Int) {Z : tk_Z} (con : tk_C l y_TK_detect 7 94 [.inr 1, .inl s, .inl b] M (tk_z Z)) (hv : v_ok Z [0, 1] false) : tk_H l y_La_detect 8 120 [.inr 1, .inl s, .inl b] M (tk_h cd_4 Z) := by
  refine tk_H.of wh_detect rfl (Nat.le_of_ble_eq_true rfl) fun hr hM => ?_
  refine tk_go1 fo_La co_La tg_La_detect (Nat.le_of_ble_eq_true rfl) (Nat.le_of_ble_eq_true rfl) 40 [] ?_
  refine ⟨(), tk_aV1 con wc_TK_detect lk_La_27 wi_TK_detect wsl_TK_detect tg_La_detect rfl rfl (by decide) rfl rfl rfl (by decide) (by decide) (fun v M' hz hro => ?_) (fun x M' hz => ?_)⟩
  · obtain ⟨e1, rfl⟩ := hz
    obtain rfl := v_none hv e1
    refine tk_go1 fo_La co_La tg_La_detect (Nat.le_of_ble_eq_true rfl) (Nat.le_of_ble_eq_true rfl) 40 [] ?_
    exact h_n e1
  · obtain ⟨e1, rfl⟩ := hz
    have hx := hv.2 x e1.symm
    simp only [List.mem_cons, List.not_mem_nil, or_false] at hx
    rcases hx with rfl | rfl
    · refine ⟨10, ⟨[], (0, 6, 9, 13), [(0, 6, 12, 21)], 3, rfl, (fun z hz => by cases hz), by decide, by decide, by decide, wl_13, by decide, rfl, Or.inl ⟨3, rfl, tk_dec1 tg_La_detect rfl, rfl⟩⟩, ?_⟩
      refine tk_go1 fo_La co_La tg_La_detect (Nat.le_of_ble_eq_true rfl) (Nat.le_of_ble_eq_true rfl) 40 [] ?_
      exact h_t e1 rfl
    · refine ⟨13, ⟨[((0, 6, 9, 13), 0)], (0, 6, 12, 21), [], 3, rfl, (fun z hz => by simp only [List.mem_cons, List.not_mem_nil, or_false] at hz; subst hz; exact ⟨by decide, by decide, by decide, wl_13⟩), by decide, by decide, by decide, wl_21, by decide, rfl, Or.inl ⟨3, rfl, tk_dec1 tg_La_detect rfl, rfl⟩⟩, ?_⟩
      refine tk_go1 fo_La co_La tg_La_detect (Nat.le_of_ble_eq_true rfl) (Nat.le_of_ble_eq_true rfl) 40 [] ?_
      exact h_t e1 rfl
set_option maxRecDepth 100000 in
theorem wh_connect : Cond.codeWith y_La_connect method_7_code 4 (some .int) [(0, 6, 9, 13), (0, 6, 12, 21)] ∈ tk_tbl := tk_mw 448 rfl rfl
theorem k_La_connect {l : Launch} {M : tk_M} (t x : Int) {Z : tk_Z} (con : tk_C l y_TK_connect 7 94 [.inr 1, .inl t, .inl x] M (tk_z Z)) (hv : v_ok Z [0, 1] false) : tk_H l y_La_connect 8 120 [.inr 1, .inl t, .inl x] M (tk_h cd_4 Z) := by
  refine tk_H.of wh_connect rfl (Nat.le_of_ble_eq_true rfl) fun hr hM => ?_
  refine tk_go1 fo_La co_La tg_La_connect (Nat.le_of_ble_eq_true rfl) (Nat.le_of_ble_eq_true rfl) 40 [] ?_
  refine ⟨(), tk_aV1 con wc_TK_connect lk_La_31 wi_TK_connect wsl_TK_connect tg_La_connect rfl rfl (by decide) rfl rfl rfl (by decide) (by decide) (fun v M' hz hro => ?_) (fun x M' hz => ?_)⟩
  · obtain ⟨e1, rfl⟩ := hz
    obtain rfl := v_none hv e1
    refine tk_go1 fo_La co_La tg_La_connect (Nat.le_of_ble_eq_true rfl) (Nat.le_of_ble_eq_true rfl) 40 [] ?_
    exact h_n e1
  · obtain ⟨e1, rfl⟩ := hz
    have hx := hv.2 x e1.symm
    simp only [List.mem_cons, List.not_mem_nil, or_false] at hx
    rcases hx with rfl | rfl
    · refine ⟨10, ⟨[], (0, 6, 9, 13), [(0, 6, 12, 21)], 3, rfl, (fun z hz => by cases hz), by decide, by decide, by decide, wl_13, by decide, rfl, Or.inl ⟨3, rfl, tk_dec1 tg_La_connect rfl, rfl⟩⟩, ?_⟩
      refine tk_go1 fo_La co_La tg_La_connect (Nat.le_of_ble_eq_true rfl) (Nat.le_of_ble_eq_true rfl) 40 [] ?_
      exact h_t e1 rfl
    · refine ⟨13, ⟨[((0, 6, 9, 13), 0)], (0, 6, 12, 21), [], 3, rfl, (fun z hz => by simp only [List.mem_cons, List.not_mem_nil, or_false] at hz; subst hz; exact ⟨by decide, by decide, by decide, wl_13⟩), by decide, by decide, by decide, wl_21, by decide, rfl, Or.inl ⟨3, rfl, tk_dec1 tg_La_connect rfl, rfl⟩⟩, ?_⟩
      refine tk_go1 fo_La co_La tg_La_connect (Nat.le_of_ble_eq_true rfl) (Nat.le_of_ble_eq_true rfl) 40 [] ?_
      exact h_t e1 rfl
set_option maxRecDepth 100000 in
theorem wh_report : Cond.codeWith y_La_report method_8_code 6 (some .int) [(0, 19, 22, 13), (0, 19, 26, 21), (0, 19, 30, 39)] ∈ tk_tbl := tk_mw 462 rfl rfl
theorem k_La_report {l : Launch} {M : tk_M} (t pl it : Int) {Z : tk_Z} (con : tk_C l y_TK_report 7 94 [.inr 1, .inl t, .inl pl, .inl it] M (tk_z Z)) (hv : v_ok Z [0, 1, 3] true) (h1 : ∀ w, Z.1 = .inl (some w) → w = 0 ∨ w = 1) : tk_H l y_La_report 8 120 [.inr 1, .inl t, .inl pl, .inl it, .inr 0] M (tk_h cd_4 Z) := by
  refine tk_H.of wh_report rfl (Nat.le_of_ble_eq_true rfl) fun hr hM => ?_
  refine tk_go1 fo_La co_La tg_La_report (Nat.le_of_ble_eq_true rfl) (Nat.le_of_ble_eq_true rfl) 40 [] ?_
  refine ⟨(), tk_aV1 con wc_TK_report lk_La_35 wi_TK_report wsl_TK_report tg_La_report rfl rfl (by decide) rfl rfl rfl (by decide) (by decide) (fun v M' hz hro => ?_) (fun x M' hz => ?_)⟩
  · obtain ⟨e1, rfl⟩ := hz
    obtain ⟨w, rfl⟩ := v_some hv e1
    refine tk_go1 fo_La co_La tg_La_report (Nat.le_of_ble_eq_true rfl) (Nat.le_of_ble_eq_true rfl) 40 [] ?_
    refine ⟨fun h => ⟨by decide, ?_⟩, fun h => ⟨by decide, ?_⟩⟩
    · have h : w = 0 := h
      subst h
      exact h_r e1
    · have h : ¬ w = 0 := h
      have e : w = 1 := (h1 w e1.symm).resolve_left h
      subst e
      exact h_r e1
  · obtain ⟨e1, rfl⟩ := hz
    have hx := hv.2 x e1.symm
    simp only [List.mem_cons, List.not_mem_nil, or_false] at hx
    rcases hx with rfl | rfl | rfl
    · refine ⟨24, ⟨[], (0, 19, 22, 13), [(0, 19, 26, 21), (0, 19, 30, 39)], 5, rfl, (fun z hz => by cases hz), by decide, by decide, by decide, wl_13, by decide, rfl, Or.inr ⟨tk_dec2 tg_La_report rfl, rfl⟩⟩, ?_⟩
      refine tk_go1 fo_La co_La tg_La_report (Nat.le_of_ble_eq_true rfl) (Nat.le_of_ble_eq_true rfl) 40 [] ?_
      exact h_t e1 rfl
    · refine ⟨28, ⟨[((0, 19, 22, 13), 0)], (0, 19, 26, 21), [(0, 19, 30, 39)], 5, rfl, (fun z hz => by simp only [List.mem_cons, List.not_mem_nil, or_false] at hz; subst hz; exact ⟨by decide, by decide, by decide, wl_13⟩), by decide, by decide, by decide, wl_21, by decide, rfl, Or.inr ⟨tk_dec2 tg_La_report rfl, rfl⟩⟩, ?_⟩
      refine tk_go1 fo_La co_La tg_La_report (Nat.le_of_ble_eq_true rfl) (Nat.le_of_ble_eq_true rfl) 40 [] ?_
      exact h_t e1 rfl
    · refine ⟨32, ⟨[((0, 19, 22, 13), 0), ((0, 19, 26, 21), 1)], (0, 19, 30, 39), [], 5, rfl, (fun z hz => by simp only [List.mem_cons, List.not_mem_nil, or_false] at hz; rcases hz with rfl | rfl<;> (first | exact ⟨by decide, by decide, by decide, wl_13⟩ | exact ⟨by decide, by decide, by decide, wl_21⟩)), by decide, by decide, by decide, wl_39, by decide, rfl, Or.inr ⟨tk_dec2 tg_La_report rfl, rfl⟩⟩, ?_⟩
      refine tk_go1 fo_La co_La tg_La_report (Nat.le_of_ble_eq_true rfl) (Nat.le_of_ble_eq_true rfl) 40 [] ?_
      exact h_t e1 rfl
set_option maxRecDepth 100000 in
theorem wh_leave : Cond.codeWith y_La_leave method_9_code 3 (some .int) [(0, 5, 8, 13), (0, 5, 11, 21), (0, 5, 14, 39)] ∈ tk_tbl := tk_mw 504 rfl rfl
theorem k_La_leave {l : Launch} {M : tk_M} (t : Int) {Z : tk_Z} (con : tk_C l y_TK_leave 7 94 [.inr 1, .inl t] M (tk_z Z)) (hv : v_ok Z [0, 1, 3] false) : tk_H l y_La_leave 8 120 [.inr 1, .inl t] M (tk_h cd_4 Z) := by
  refine tk_H.of wh_leave rfl (Nat.le_of_ble_eq_true rfl) fun hr hM => ?_
  refine tk_go1 fo_La co_La tg_La_leave (Nat.le_of_ble_eq_true rfl) (Nat.le_of_ble_eq_true rfl) 40 [] ?_
  refine ⟨(), tk_aV1 con wc_TK_leave lk_La_41 wi_TK_leave wsl_TK_leave tg_La_leave rfl rfl (by decide) rfl rfl rfl (by decide) (by decide) (fun v M' hz hro => ?_) (fun x M' hz => ?_)⟩
  · obtain ⟨e1, rfl⟩ := hz
    obtain rfl := v_none hv e1
    refine tk_go1 fo_La co_La tg_La_leave (Nat.le_of_ble_eq_true rfl) (Nat.le_of_ble_eq_true rfl) 40 [] ?_
    exact h_n e1
  · obtain ⟨e1, rfl⟩ := hz
    have hx := hv.2 x e1.symm
    simp only [List.mem_cons, List.not_mem_nil, or_false] at hx
    rcases hx with rfl | rfl | rfl
    · refine ⟨9, ⟨[], (0, 5, 8, 13), [(0, 5, 11, 21), (0, 5, 14, 39)], 2, rfl, (fun z hz => by cases hz), by decide, by decide, by decide, wl_13, by decide, rfl, Or.inl ⟨2, rfl, tk_dec1 tg_La_leave rfl, rfl⟩⟩, ?_⟩
      refine tk_go1 fo_La co_La tg_La_leave (Nat.le_of_ble_eq_true rfl) (Nat.le_of_ble_eq_true rfl) 40 [] ?_
      exact h_t e1 rfl
    · refine ⟨12, ⟨[((0, 5, 8, 13), 0)], (0, 5, 11, 21), [(0, 5, 14, 39)], 2, rfl, (fun z hz => by simp only [List.mem_cons, List.not_mem_nil, or_false] at hz; subst hz; exact ⟨by decide, by decide, by decide, wl_13⟩), by decide, by decide, by decide, wl_21, by decide, rfl, Or.inl ⟨2, rfl, tk_dec1 tg_La_leave rfl, rfl⟩⟩, ?_⟩
      refine tk_go1 fo_La co_La tg_La_leave (Nat.le_of_ble_eq_true rfl) (Nat.le_of_ble_eq_true rfl) 40 [] ?_
      exact h_t e1 rfl
    · refine ⟨15, ⟨[((0, 5, 8, 13), 0), ((0, 5, 11, 21), 1)], (0, 5, 14, 39), [], 2, rfl, (fun z hz => by simp only [List.mem_cons, List.not_mem_nil, or_false] at hz; rcases hz with rfl | rfl<;> (first | exact ⟨by decide, by decide, by decide, wl_13⟩ | exact ⟨by decide, by decide, by decide, wl_21⟩)), by decide, by decide, by decide, wl_39, by decide, rfl, Or.inl ⟨2, rfl, tk_dec1 tg_La_leave rfl, rfl⟩⟩, ?_⟩
      refine tk_go1 fo_La co_La tg_La_leave (Nat.le_of_ble_eq_true rfl) (Nat.le_of_ble_eq_true rfl) 40 [] ?_
      exact h_t e1 rfl
set_option maxRecDepth 100000 in
theorem wh_tick : Cond.codeWith y_La_tick method_10_code 4 (some .int) [(0, 9, 12, 13), (0, 9, 15, 21), (0, 9, 18, 15)] ∈ tk_tbl := tk_mw 511 rfl rfl
theorem k_La_tick {l : Launch} {M : tk_M} (n : Int) {Z : tk_Z} (con : tk_C l y_TK_tick 7 94 [.inr 1, .inl n] M (tk_z Z)) (hv : v_ok Z [0, 1, 2] true) : tk_H l y_La_tick 8 120 [.inr 1, .inl n, .inr 0] M (tk_h cd_5 Z) := by
  refine tk_H.of wh_tick rfl (Nat.le_of_ble_eq_true rfl) fun hr hM => ?_
  refine tk_go1 fo_La co_La tg_La_tick (Nat.le_of_ble_eq_true rfl) (Nat.le_of_ble_eq_true rfl) 40 [] ?_
  refine ⟨(), tk_aV1 con wc_TK_tick lk_La_45 wi_TK_tick wsl_TK_tick tg_La_tick rfl rfl (by decide) rfl rfl rfl (by decide) (by decide) (fun v M' hz hro => ?_) (fun x M' hz => ?_)⟩
  · obtain ⟨e1, rfl⟩ := hz
    obtain ⟨w, rfl⟩ := v_some hv e1
    refine tk_go1 fo_La co_La tg_La_tick (Nat.le_of_ble_eq_true rfl) (Nat.le_of_ble_eq_true rfl) 40 [] ?_
    exact ⟨by decide, h_r e1⟩
  · obtain ⟨e1, rfl⟩ := hz
    have hx := hv.2 x e1.symm
    simp only [List.mem_cons, List.not_mem_nil, or_false] at hx
    rcases hx with rfl | rfl | rfl
    · refine ⟨13, ⟨[], (0, 9, 12, 13), [(0, 9, 15, 21), (0, 9, 18, 15)], 3, rfl, (fun z hz => by cases hz), by decide, by decide, by decide, wl_13, by decide, rfl, Or.inl ⟨3, rfl, tk_dec1 tg_La_tick rfl, rfl⟩⟩, ?_⟩
      refine tk_go1 fo_La co_La tg_La_tick (Nat.le_of_ble_eq_true rfl) (Nat.le_of_ble_eq_true rfl) 40 [] ?_
      exact h_t e1 rfl
    · refine ⟨16, ⟨[((0, 9, 12, 13), 0)], (0, 9, 15, 21), [(0, 9, 18, 15)], 3, rfl, (fun z hz => by simp only [List.mem_cons, List.not_mem_nil, or_false] at hz; subst hz; exact ⟨by decide, by decide, by decide, wl_13⟩), by decide, by decide, by decide, wl_21, by decide, rfl, Or.inl ⟨3, rfl, tk_dec1 tg_La_tick rfl, rfl⟩⟩, ?_⟩
      refine tk_go1 fo_La co_La tg_La_tick (Nat.le_of_ble_eq_true rfl) (Nat.le_of_ble_eq_true rfl) 40 [] ?_
      exact h_t e1 rfl
    · refine ⟨19, ⟨[((0, 9, 12, 13), 0), ((0, 9, 15, 21), 1)], (0, 9, 18, 15), [], 3, rfl, (fun z hz => by simp only [List.mem_cons, List.not_mem_nil, or_false] at hz; rcases hz with rfl | rfl<;> (first | exact ⟨by decide, by decide, by decide, wl_13⟩ | exact ⟨by decide, by decide, by decide, wl_21⟩)), by decide, by decide, by decide, wl_15, by decide, rfl, Or.inl ⟨3, rfl, tk_dec1 tg_La_tick rfl, rfl⟩⟩, ?_⟩
      refine tk_go1 fo_La co_La tg_La_tick (Nat.le_of_ble_eq_true rfl) (Nat.le_of_ble_eq_true rfl) 40 [] ?_
      exact h_t e1 rfl
set_option maxRecDepth 100000 in
theorem wh_request : Cond.codeWith y_La_request method_11_code 5 (some .int) [(0, 10, 13, 13), (0, 10, 17, 21), (0, 10, 21, 39)] ∈ tk_tbl := tk_mw 527 rfl rfl
theorem k_La_request {l : Launch} {M : tk_M} (t s : Int) {Z : tk_Z} (con : tk_C l y_TK_request 7 94 [.inr 1, .inl t, .inl s] M (tk_z Z)) (hv : v_ok Z [0, 1, 3] true) : tk_H l y_La_request 8 120 [.inr 1, .inl t, .inl s, .inr 0] M (tk_h cd_4 Z) := by
  refine tk_H.of wh_request rfl (Nat.le_of_ble_eq_true rfl) fun hr hM => ?_
  refine tk_go1 fo_La co_La tg_La_request (Nat.le_of_ble_eq_true rfl) (Nat.le_of_ble_eq_true rfl) 40 [] ?_
  refine ⟨(), tk_aV1 con wc_TK_request lk_La_48 wi_TK_request wsl_TK_request tg_La_request rfl rfl (by decide) rfl rfl rfl (by decide) (by decide) (fun v M' hz hro => ?_) (fun x M' hz => ?_)⟩
  · obtain ⟨e1, rfl⟩ := hz
    obtain ⟨w, rfl⟩ := v_some hv e1
    refine tk_go1 fo_La co_La tg_La_request (Nat.le_of_ble_eq_true rfl) (Nat.le_of_ble_eq_true rfl) 40 [] ?_
    exact ⟨by decide, h_r e1⟩
  · obtain ⟨e1, rfl⟩ := hz
    have hx := hv.2 x e1.symm
    simp only [List.mem_cons, List.not_mem_nil, or_false] at hx
    rcases hx with rfl | rfl | rfl
    · refine ⟨15, ⟨[], (0, 10, 13, 13), [(0, 10, 17, 21), (0, 10, 21, 39)], 4, rfl, (fun z hz => by cases hz), by decide, by decide, by decide, wl_13, by decide, rfl, Or.inr ⟨tk_dec2 tg_La_request rfl, rfl⟩⟩, ?_⟩
      refine tk_go1 fo_La co_La tg_La_request (Nat.le_of_ble_eq_true rfl) (Nat.le_of_ble_eq_true rfl) 40 [] ?_
      exact h_t e1 rfl
    · refine ⟨19, ⟨[((0, 10, 13, 13), 0)], (0, 10, 17, 21), [(0, 10, 21, 39)], 4, rfl, (fun z hz => by simp only [List.mem_cons, List.not_mem_nil, or_false] at hz; subst hz; exact ⟨by decide, by decide, by decide, wl_13⟩), by decide, by decide, by decide, wl_21, by decide, rfl, Or.inr ⟨tk_dec2 tg_La_request rfl, rfl⟩⟩, ?_⟩
      refine tk_go1 fo_La co_La tg_La_request (Nat.le_of_ble_eq_true rfl) (Nat.le_of_ble_eq_true rfl) 40 [] ?_
      exact h_t e1 rfl
    · refine ⟨23, ⟨[((0, 10, 13, 13), 0), ((0, 10, 17, 21), 1)], (0, 10, 21, 39), [], 4, rfl, (fun z hz => by simp only [List.mem_cons, List.not_mem_nil, or_false] at hz; rcases hz with rfl | rfl<;> (first | exact ⟨by decide, by decide, by decide, wl_13⟩ | exact ⟨by decide, by decide, by decide, wl_21⟩)), by decide, by decide, by decide, wl_39, by decide, rfl, Or.inr ⟨tk_dec2 tg_La_request rfl, rfl⟩⟩, ?_⟩
      refine tk_go1 fo_La co_La tg_La_request (Nat.le_of_ble_eq_true rfl) (Nat.le_of_ble_eq_true rfl) 40 [] ?_
      exact h_t e1 rfl
set_option maxRecDepth 100000 in
theorem wh_state : Cond.codeWith y_La_state method_12_code 4 (some .int) [(0, 9, 12, 13), (0, 9, 15, 21)] ∈ tk_tbl := tk_mw 550 rfl rfl
theorem k_La_state {l : Launch} {M : tk_M} (k : Int) {Z : tk_Z} (con : tk_C l y_TK_state 7 94 [.inr 1, .inl k] M (tk_z Z)) (hv : v_ok Z [0, 1] true) : tk_H l y_La_state 8 120 [.inr 1, .inl k, .inr 0] M (tk_h cd_4 Z) := by
  refine tk_H.of wh_state rfl (Nat.le_of_ble_eq_true rfl) fun hr hM => ?_
  refine tk_go1 fo_La co_La tg_La_state (Nat.le_of_ble_eq_true rfl) (Nat.le_of_ble_eq_true rfl) 40 [] ?_
  refine ⟨(), tk_aV1 con wc_TK_state lk_La_52 wi_TK_state wsl_TK_state tg_La_state rfl rfl (by decide) rfl rfl rfl (by decide) (by decide) (fun v M' hz hro => ?_) (fun x M' hz => ?_)⟩
  · obtain ⟨e1, rfl⟩ := hz
    obtain ⟨w, rfl⟩ := v_some hv e1
    refine tk_go1 fo_La co_La tg_La_state (Nat.le_of_ble_eq_true rfl) (Nat.le_of_ble_eq_true rfl) 40 [] ?_
    exact ⟨by decide, h_r e1⟩
  · obtain ⟨e1, rfl⟩ := hz
    have hx := hv.2 x e1.symm
    simp only [List.mem_cons, List.not_mem_nil, or_false] at hx
    rcases hx with rfl | rfl
    · refine ⟨13, ⟨[], (0, 9, 12, 13), [(0, 9, 15, 21)], 3, rfl, (fun z hz => by cases hz), by decide, by decide, by decide, wl_13, by decide, rfl, Or.inl ⟨3, rfl, tk_dec1 tg_La_state rfl, rfl⟩⟩, ?_⟩
      refine tk_go1 fo_La co_La tg_La_state (Nat.le_of_ble_eq_true rfl) (Nat.le_of_ble_eq_true rfl) 40 [] ?_
      exact h_t e1 rfl
    · refine ⟨16, ⟨[((0, 9, 12, 13), 0)], (0, 9, 15, 21), [], 3, rfl, (fun z hz => by simp only [List.mem_cons, List.not_mem_nil, or_false] at hz; subst hz; exact ⟨by decide, by decide, by decide, wl_13⟩), by decide, by decide, by decide, wl_21, by decide, rfl, Or.inl ⟨3, rfl, tk_dec1 tg_La_state rfl, rfl⟩⟩, ?_⟩
      refine tk_go1 fo_La co_La tg_La_state (Nat.le_of_ble_eq_true rfl) (Nat.le_of_ble_eq_true rfl) 40 [] ?_
      exact h_t e1 rfl
set_option maxRecDepth 100000 in
theorem wh_train : Cond.codeWith y_La_train method_13_code 5 (some .int) [(0, 10, 13, 13), (0, 10, 17, 21)] ∈ tk_tbl := tk_mw 557 rfl rfl
theorem k_La_train {l : Launch} {M : tk_M} (t w : Int) {Z : tk_Z} (con : tk_C l y_TK_train 7 94 [.inr 1, .inl t, .inl w] M (tk_z Z)) (hv : v_ok Z [0, 1] true) : tk_H l y_La_train 8 120 [.inr 1, .inl t, .inl w, .inr 0] M (tk_h cd_4 Z) := by
  refine tk_H.of wh_train rfl (Nat.le_of_ble_eq_true rfl) fun hr hM => ?_
  refine tk_go1 fo_La co_La tg_La_train (Nat.le_of_ble_eq_true rfl) (Nat.le_of_ble_eq_true rfl) 40 [] ?_
  refine ⟨(), tk_aV1 con wc_TK_train lk_La_55 wi_TK_train wsl_TK_train tg_La_train rfl rfl (by decide) rfl rfl rfl (by decide) (by decide) (fun v M' hz hro => ?_) (fun x M' hz => ?_)⟩
  · obtain ⟨e1, rfl⟩ := hz
    obtain ⟨w, rfl⟩ := v_some hv e1
    refine tk_go1 fo_La co_La tg_La_train (Nat.le_of_ble_eq_true rfl) (Nat.le_of_ble_eq_true rfl) 40 [] ?_
    exact ⟨by decide, h_r e1⟩
  · obtain ⟨e1, rfl⟩ := hz
    have hx := hv.2 x e1.symm
    simp only [List.mem_cons, List.not_mem_nil, or_false] at hx
    rcases hx with rfl | rfl
    · refine ⟨15, ⟨[], (0, 10, 13, 13), [(0, 10, 17, 21)], 4, rfl, (fun z hz => by cases hz), by decide, by decide, by decide, wl_13, by decide, rfl, Or.inr ⟨tk_dec2 tg_La_train rfl, rfl⟩⟩, ?_⟩
      refine tk_go1 fo_La co_La tg_La_train (Nat.le_of_ble_eq_true rfl) (Nat.le_of_ble_eq_true rfl) 40 [] ?_
      exact h_t e1 rfl
    · refine ⟨19, ⟨[((0, 10, 13, 13), 0)], (0, 10, 17, 21), [], 4, rfl, (fun z hz => by simp only [List.mem_cons, List.not_mem_nil, or_false] at hz; subst hz; exact ⟨by decide, by decide, by decide, wl_13⟩), by decide, by decide, by decide, wl_21, by decide, rfl, Or.inr ⟨tk_dec2 tg_La_train rfl, rfl⟩⟩, ?_⟩
      refine tk_go1 fo_La co_La tg_La_train (Nat.le_of_ble_eq_true rfl) (Nat.le_of_ble_eq_true rfl) 40 [] ?_
      exact h_t e1 rfl
set_option maxRecDepth 100000 in
theorem wh_count : Cond.codeWith y_La_count method_14_code 5 (some .int) [(0, 10, 13, 21)] ∈ tk_tbl := tk_mw 568 rfl rfl
theorem k_La_count {l : Launch} {M : tk_M} (w k : Int) {Z : tk_Z} (con : tk_C l y_TK_count 7 94 [.inr 1, .inl w, .inl k] M (tk_z Z)) (hv : v_ok Z [1] true) : tk_H l y_La_count 8 120 [.inr 1, .inl w, .inl k, .inr 0] M (tk_h cd_6 Z) := by
  refine tk_H.of wh_count rfl (Nat.le_of_ble_eq_true rfl) fun hr hM => ?_
  refine tk_go1 fo_La co_La tg_La_count (Nat.le_of_ble_eq_true rfl) (Nat.le_of_ble_eq_true rfl) 40 [] ?_
  refine ⟨(), tk_aV1 con wc_TK_count lk_La_58 wi_TK_count wsl_TK_count tg_La_count rfl rfl (by decide) rfl rfl rfl (by decide) (by decide) (fun v M' hz hro => ?_) (fun x M' hz => ?_)⟩
  · obtain ⟨e1, rfl⟩ := hz
    obtain ⟨w, rfl⟩ := v_some hv e1
    refine tk_go1 fo_La co_La tg_La_count (Nat.le_of_ble_eq_true rfl) (Nat.le_of_ble_eq_true rfl) 40 [] ?_
    exact ⟨by decide, h_r e1⟩
  · obtain ⟨e1, rfl⟩ := hz
    have hx := hv.2 x e1.symm
    simp only [List.mem_cons, List.not_mem_nil, or_false] at hx
    subst hx
    refine ⟨15, ⟨[], (0, 10, 13, 21), [], 4, rfl, (fun z hz => by cases hz), by decide, by decide, by decide, wl_21, by decide, rfl, Or.inr ⟨tk_dec2 tg_La_count rfl, rfl⟩⟩, ?_⟩
    refine tk_go1 fo_La co_La tg_La_count (Nat.le_of_ble_eq_true rfl) (Nat.le_of_ble_eq_true rfl) 40 [] ?_
    exact h_t e1 rfl
theorem t_section (M : tk_M)  : v_ok (c_section M) [0, 2] true := by
  unfold c_section
  repeat' first | exact v_ok.s | exact v_ok.n | exact v_ok.i (by decide) | refine v_ok.if ?_ ?_
theorem t_sub (M : tk_M) (x : Int) : v_ok (c_sub x M) [1, 0, 2] true := by
  unfold c_sub
  repeat' first | exact v_ok.s | exact v_ok.n | exact v_ok.i (by decide) | refine v_ok.if ?_ ?_
theorem t_begin (M : tk_M) (m k s : Int) : v_ok (c_begin m k s M) [1, 0] true := by
  unfold c_begin
  repeat' first | exact v_ok.s | exact v_ok.n | exact v_ok.i (by decide) | refine v_ok.if ?_ ?_
theorem t_detect (M : tk_M) (s b : Int) : v_ok (c_detect s b M) [0, 1] false := by
  unfold c_detect
  repeat' first | exact v_ok.s | exact v_ok.n | exact v_ok.i (by decide) | refine v_ok.if ?_ ?_
theorem t_connect (M : tk_M) (t x : Int) : v_ok (c_connect t x M) [0, 1] false := by
  unfold c_connect
  repeat' first | exact v_ok.s | exact v_ok.n | exact v_ok.i (by decide) | refine v_ok.if ?_ ?_
theorem t_report (M : tk_M) (t pl it : Int) : v_ok (c_report t pl it M) [0, 1, 3] true := by
  unfold c_report
  repeat' first | exact v_ok.s | exact v_ok.n | exact v_ok.i (by decide) | refine v_ok.if ?_ ?_
theorem t_leave (M : tk_M) (t : Int) : v_ok (c_leave t M) [0, 1, 3] false := by
  unfold c_leave
  repeat' first | exact v_ok.s | exact v_ok.n | exact v_ok.i (by decide) | refine v_ok.if ?_ ?_
theorem t_tick (M : tk_M) (n : Int) : v_ok (c_tick n M) [0, 1, 2] true := by
  unfold c_tick
  repeat' first | exact v_ok.s | exact v_ok.n | exact v_ok.i (by decide) | refine v_ok.if ?_ ?_
theorem t_request (M : tk_M) (t s : Int) : v_ok (c_request t s M) [0, 1, 3] true := by
  unfold c_request
  repeat' first | exact v_ok.s | exact v_ok.n | exact v_ok.i (by decide) | refine v_ok.if ?_ ?_
theorem t_state (M : tk_M) (k : Int) : v_ok (c_state k M) [0, 1] true := by
  unfold c_state
  repeat' first | exact v_ok.s | exact v_ok.n | exact v_ok.i (by decide) | refine v_ok.if ?_ ?_
theorem t_train (M : tk_M) (t w : Int) : v_ok (c_train t w M) [0, 1] true := by
  unfold c_train
  repeat' first | exact v_ok.s | exact v_ok.n | exact v_ok.i (by decide) | refine v_ok.if ?_ ?_
theorem t_count (M : tk_M) (w k : Int) : v_ok (c_count w k M) [1] true := by
  unfold c_count
  repeat' first | exact v_ok.s | exact v_ok.n | exact v_ok.i (by decide) | refine v_ok.if ?_ ?_
theorem t_report1 (M : tk_M) (t pl it : Int) : ∀ w, (c_report t pl it M).1 = .inl (some w) → w = 0 ∨ w = 1 := by
  intro w
  unfold c_report
  repeat' split
  all_goals intro h
  all_goals first | (cases h; done) | (cases h; simp)
end
section
/-! OBJECTS MADE: the world while it grows; its n cells lie at a 0, a 1 .. and hold E 0, E 1 .. -/
section TKN
def tk_Vw (D : va_G) (A : Nat → Prop) (n : Nat) (a : Nat → Nat) (E : Nat → va_E) (H : Heap) : Prop :=
  (∀ i, i < n → va_at D tk_cl (a i, E i) H) ∧ (∀ i j, i < n → j < n → a i = a j → i = j) ∧ ∀ i, i < n → A (a i)
def tk_vl (n : Nat) (a : Nat → Nat) (E : Nat → va_E) : va_W := (List.range n).map fun i => (a i, E i)
theorem tk_vl_at {n : Nat} {a : Nat → Nat} {E : Nat → va_E} {i : Nat} (h : i < n) : (tk_vl n a E)[i]? = some (a i, E i) := by
  simp [tk_vl, List.getElem?_range, h]
theorem tk_vl_len {n : Nat} {a : Nat → Nat} {E : Nat → va_E} : (tk_vl n a E).length = n := by simp [tk_vl]
theorem tk_vl_some {n : Nat} {a : Nat → Nat} {E : Nat → va_E} {i : Nat} {q : Nat × va_E} (h : (tk_vl n a E)[i]? = some q) : i < n ∧ q = (a i, E i) := by
  have hi : i < n := by
    have := (List.getElem?_eq_some_iff.mp h).1
    rw [tk_vl_len] at this
    exact this
  rw [tk_vl_at hi] at h
  exact ⟨hi, (Option.some.inj h).symm⟩
variable {D : va_G} {A : Nat → Prop} {n : Nat} {a : Nat → Nat} {E : Nat → va_E} {H : Heap}
theorem tk_Vw.P (h : tk_Vw D A n a E H) : va_P D tk_cl (tk_vl n a E) H := fun k q hk => by
  obtain ⟨h1, rfl⟩ := tk_vl_some hk
  exact h.1 k h1
theorem tk_Vw.Ds (h : tk_Vw D A n a E H) : va_D A (tk_vl n a E) := by
  refine ⟨fun i j p q hi hj e => ?_, fun k q hk => ?_⟩
  · obtain ⟨h1, rfl⟩ := tk_vl_some hi
    obtain ⟨h2, rfl⟩ := tk_vl_some hj
    exact h.2.1 i j h1 h2 e
  · obtain ⟨h1, rfl⟩ := tk_vl_some hk
    exact h.2.2 k h1
theorem tk_Vw.ofL {ws : va_W} {H1 : Heap} {n' : Nat} {a' : Nat → Nat} {E' : Nat → va_E} (hP : va_P D tk_cl ws H1) (hD : va_D A ws) (h : ∀ i, i < n' → ws[i]? = some (a' i, E' i)) : tk_Vw D A n' a' E' H1 :=
  ⟨fun i hi => hP i _ (h i hi), fun i j hi hj e => hD.1 i j _ _ (h i hi) (h j hj) e, fun i hi => hD.2 i _ (h i hi)⟩
theorem tk_Vw.push {q : Nat} {x : va_E} {H1 : Heap} (hP : va_P D tk_cl (tk_vl n a E ++ [(q, x)]) H1) (hD : va_D A (tk_vl n a E ++ [(q, x)])) : tk_Vw D A (n + 1) (fun i => if i = n then q else a i) (fun i => if i = n then x else E i) H1 := by
  refine tk_Vw.ofL hP hD fun i hi => ?_
  by_cases h : i = n
  · rw [h, List.getElem?_append_right (by rw [tk_vl_len]; omega), tk_vl_len, Nat.sub_self]
    simp
  · rw [List.getElem?_append_left (by rw [tk_vl_len]; omega), tk_vl_at (by omega), if_neg h, if_neg h]
theorem tk_Vw.put {k : Nat} {x : va_E} {H1 : Heap} (hk : k < n) (hP : va_P D tk_cl ((tk_vl n a E).set k (a k, x)) H1) (hD : va_D A ((tk_vl n a E).set k (a k, x))) : tk_Vw D A n a (fun i => if i = k then x else E i) H1 := by
  refine tk_Vw.ofL hP hD fun i hi => ?_
  rw [List.getElem?_set]
  by_cases h : k = i
  · subst h
    rw [if_pos rfl, tk_vl_len, if_pos hk, if_pos rfl]
  · rw [if_neg h, tk_vl_at hi, if_neg (fun z => h z.symm)]
theorem tk_Vw.eq {E' : Nat → va_E} (h : tk_Vw D A n a E H) (he : ∀ i, i < n → E' i = E i) : tk_Vw D A n a E' H := ⟨fun i hi => by rw [he i hi]; exact h.1 i hi, h.2.1, h.2.2⟩
theorem tk_Vw.eqv {E' : Nat → va_E} (h : tk_Vw D A n a E H) (he : ∀ i, i < n → va_at D tk_cl (a i, E i) H → va_at D tk_cl (a i, E' i) H) : tk_Vw D A n a E' H := ⟨fun i hi => he i hi (h.1 i hi), h.2.1, h.2.2⟩
def tk_aos : List String := ["TrackKeeper$Section", "TrackKeeper$Subsection", "TrackKeeper$Train"]
/-- what holds where objects are made -/
def tk_Fc (D : va_G) (K : Nat → ClassId) (A : Nat → Prop) (s : State) : Prop :=
  (∀ w ∈ tk_tbl, w.before #[] s = true) ∧ va_K D tk_cl (tk_tys (fun _ => 0, D, K)) s ∧ (∀ q : Nat, s.heap.size ≤ q → A q) ∧ (∀ w ∈ tk_nst, va_Nw w s) ∧ ∀ C ∈ tk_aos, va_AO C s
theorem tk_nst_N : ∀ w ∈ tk_nst, tk_isN w = true := by decide +kernel
theorem tk_Fc.call {K : Nat → ClassId} {s U : State} (h : tk_Fc D K A s) (hW : s.WarmedH U.vm) (hz : s.heap.size ≤ U.heap.size) : tk_Fc D K A U :=
  ⟨fun w hw => tk_wAny hw hW (h.1 w hw), va_K.moved hW.alike h.2.1, fun q hq => h.2.2.1 q (Nat.le_trans hz hq), fun w hw => tk_Nw_warm (tk_nst_N w hw) hW (h.2.2.2.1 w hw), fun C hC => va_AO.moved hW.alike (h.2.2.2.2 C hC)⟩
theorem tk_Fc.words {K : Nat → ClassId} {s : State} (h : tk_Fc D K A s) (args : Array Value) : ∀ w ∈ tk_tbl, w.before args s = true := fun w hw => tk_wAny hw (State.WarmedH.refl s) (h.1 w hw)
/-- how a constructor ends -/
def tk_Qi (below : List Frame) (s : State) (D : va_G) (A : Nat → Prop) (nc ns : Nat) (P : Nat → (Nat → Nat) → (Nat → va_E) → Prop) : State → Prop := fun t =>
  t.status = .running ∧ s.WarmedH t.vm ∧ va_F A s t ∧ Ended t below (.returned none) ∧ ∃ (L : List Loc) (n : Nat) (a : Nat → Nat) (E : Nat → va_E), (∀ q ∈ L, A q.base) ∧ tk_Vw D A n a E t.heap ∧ s.sameButNew ({ t with vm := s.vm } : State) L nc ns ∧ P n a E
def tk_Ci (l : Launch) (y : MethodName) (nf nw nc ns : Nat) (D : va_G) (K : Nat → ClassId) (h0 n : Nat) (a : Nat → Nat) (E : Nat → va_E) (P : Nat → (Nat → Nat) → (Nat → va_E) → Prop) : Prop :=
  ∀ (p : Program) (e : Env) (R : Room) (s : State) (m : MethodId) (below : List Frame) (meth : Method) (c : Code) (A : Nat → Prop),
    p.tables.exec = Jvm.exec → tk_Fc D K A s → s.methodNamed? y = some m → nf ≤ R.frames → nw ≤ R.locals → nc ≤ R.cells → ns ≤ R.slots → tk_Vw D A n a E s.heap → s.vm.method? m = some meth → meth.code = some c →
    W p l e R s m #[.ref h0] below meth c s.heap [] 0 0 (tk_Qi below s D A nc ns P) (entryFrame m #[.ref h0] c.maxLocals)
end TKN
section TKNR
variable {p : Program} {l : Launch} {e : Env} {R : Room} {s : State} {m : MethodId} {args : Array Value} {below : List Frame} {meth : Method} {c : Code} {H : Heap} {locs : List Loc} {cells slots : Nat} {Q : State → Prop} {D : va_G} {K : Nat → ClassId} {A : Nat → Prop} {n : Nat} {a : Nat → Nat} {E : Nat → va_E} {own : String} {cc : ByteArray} {pc : Nat} {ls : Array Slot} {rest : List Value} {nL : Nat}
/-- the surroundings of a constructor's walk -/
def tk_Xc (p : Program) (s : State) (m : MethodId) (args : Array Value) (c : Code) (D : va_G) (K : Nat → ClassId) (A : Nat → Prop) (own : String) (cc : ByteArray) (nL : Nat) : Prop :=
  p.tables.exec = Jvm.exec ∧ c.code = cc ∧ c.maxLocals = nL ∧ s.vm.findClass own = some m.cls ∧ (∀ w ∈ tk_tbl, w.before args s = true) ∧ tk_Fc D K A s
theorem tk_vnew (X : tk_Xc p s m args c D K A own cc nL) {C : String} {T : u_T} {N ci ix : Nat} (hc : tk_cl[ci]? = some (C, T, N)) (hl : Cond.classLink own ix C ∈ tk_tbl) (hi : Cond.instantiable C N ∈ tk_tbl) (hini : Cond.initialized C ∈ tk_tbl) {fs : List Value}
    (hfs : ∀ j, j < N → (parseFieldDescriptor (T j).2.2.1).map defaultValue = some (vp_V fs j)) (hcl : cells + 1 ≤ R.cells) (hsl : slots + N ≤ R.slots) (hd : decode cc pc = .ok (.new ix, 3)) (hV : tk_Vw D A n a E H) (hS : va_S A s.heap H locs)
    (kk : ∀ (a' : Nat → Nat) (H1 : Heap), (∀ i, i < n → a' i = a i) → tk_Vw D A (n + 1) a' (fun i => if i = n then .inr (ci, fs) else E i) H1 → va_S A s.heap H1 locs → W p l e R s m args below meth c H1 locs (cells + 1) (slots + N) Q (F0 m (pc + 3) ls (.ref (a' n) :: rest))) :
    W p l e R s m args below meth c H locs cells slots Q (F0 m pc ls rest) := by
  obtain ⟨hx, hb, hml, hown, hts, hF⟩ := X
  obtain ⟨ty, hty, -⟩ := tk_tyok hc
  refine va_new (ci := ci) (fs := fs) hx hb hts (tk_cls hc) ty hty hown (hts _ hl) (hts _ hi) (hts _ hini) hF.2.1 hV.P hV.Ds hS hF.2.2.1 hc (fun j hj => ?_) hcl hsl hd fun q H1 hP hD hS1 => ?_
  · have h1 := hfs j hj
    rw [hty j hj] at h1
    exact Option.some.inj h1
  · have := kk (fun i => if i = n then q else a i) H1 (fun i hi => by rw [if_neg (by omega)]) (tk_Vw.push hP hD) hS1
    rw [if_pos rfl] at this
    exact this
theorem tk_newq (X : tk_Xc p s m args c D K A own cc nL) {C : String} {ix t : Nat} (ht : (tk_tys (fun _ => 0, D, K))[t]? = some (K t, .object C)) (hl : Cond.classLink own ix C ∈ tk_tbl) (hov : C ∈ tk_aos) {v : Int32} {N : Nat} (hn : ¬ v < 0) (hN : v.toNatClampNeg = N) (hby : N * 4 ≤ 536870912) (hcl : cells + 1 ≤ R.cells) (hsl : slots + N ≤ R.slots) (hd : decode cc pc = .ok (.anewarray ix, 3)) (hV : tk_Vw D A n a E H) (hS : va_S A s.heap H locs)
    (kk : ∀ (a' : Nat → Nat) (H1 : Heap), (∀ i, i < n → a' i = a i) → tk_Vw D A (n + 1) a' (fun i => if i = n then .inl (K t, N, .inr (.inr (.inr (.inr (fun _ => none))))) else E i) H1 → va_S A s.heap H1 locs → W p l e R s m args below meth c H1 locs (cells + 1) (slots + N) Q (F0 m (pc + 3) ls (.ref (a' n) :: rest))) :
    W p l e R s m args below meth c H locs cells slots Q (F0 m pc ls (.int v :: rest)) := by
  obtain ⟨hx, hb, hml, hown, hts, hF⟩ := X
  refine va_newq hx hb hown (hts _ hl) (hF.2.2.2.2 C hov) hF.2.1 hV.P hV.Ds hS hF.2.2.1 hn hN hby hcl hsl hd fun q cA H1 hK hP hD hS1 => ?_
  have e1 : cA = K t := by
    obtain ⟨-, -, -, -, -, g1⟩ := (hF.2.1.2 t _ ht).2
    obtain ⟨-, -, -, -, -, g2⟩ := (hK.2 6 (cA, .object C) rfl).2
    exact Option.some.inj (g2.symm.trans g1)
  subst e1
  have := kk (fun i => if i = n then q else a i) H1 (fun i hi => by rw [if_neg (by omega)]) (tk_Vw.push hP hD) hS1
  rw [if_pos rfl] at this
  exact this
theorem tk_newa (X : tk_Xc p s m args c D K A own cc nL) {at9 : ArrayType} {ty : FieldType} {t : Nat} (hty : newarray.typeOf at9 = ty) (hr : ∀ cA, va_RA s cA ty → s.vm.findClass ("[" ++ ty.toString) = some cA) (ht : (tk_tys (fun _ => 0, D, K))[t]? = some (K t, ty)) (har : Cond.arrayClass ty ∈ tk_tbl) {v : Int32} {N : Nat} {a0 : vp_A} (ha : ∀ cA : ClassId, vp_cell cA a0 = arrV cA N (fun _ => defaultValue ty)) (hn : ¬ v < 0) (hN : v.toNatClampNeg = N) (hby : N * componentBytes ty ≤ 536870912) (hcl : cells + 1 ≤ R.cells) (hsl : slots + N ≤ R.slots) (hd : decode cc pc = .ok (.newarray at9, 2)) (hV : tk_Vw D A n a E H) (hS : va_S A s.heap H locs)
    (kk : ∀ (a' : Nat → Nat) (H1 : Heap), (∀ i, i < n → a' i = a i) → tk_Vw D A (n + 1) a' (fun i => if i = n then .inl (K t, a0) else E i) H1 → va_S A s.heap H1 locs → W p l e R s m args below meth c H1 locs (cells + 1) (slots + N) Q (F0 m (pc + 2) ls (.ref (a' n) :: rest))) :
    W p l e R s m args below meth c H locs cells slots Q (F0 m pc ls (.int v :: rest)) := by
  obtain ⟨hx, hb, hml, hown, hts, hF⟩ := X
  refine va_newa hx hb (by rw [hty]; exact hts _ har) hty hF.2.1 hV.P hV.Ds hS hF.2.2.1 ha hn hN hby hcl hsl hd fun q cA H1 hK hP hD hS1 => ?_
  have e1 : cA = K t := Option.some.inj ((hr cA (hK.2 6 (cA, ty) rfl).2).symm.trans (hr _ (hF.2.1.2 t _ ht).2))
  subst e1
  have := kk (fun i => if i = n then q else a i) H1 (fun i hi => by rw [if_neg (by omega)]) (tk_Vw.push hP hD) hS1
  rw [if_pos rfl] at this
  exact this
/-- a final field gets its reference -/
theorem tk_vput (X : tk_Xc p s m args c D K A own cc nL) (hin : meth.name = "<init>") {C : String} {T : u_T} {N ci ix k j v : Nat} {fs : List Value} (hc : tk_cl[ci]? = some (C, T, N)) (hj : j < N) (hk : k < n) (he : E k = .inr (ci, fs)) (hl : Cond.fieldLink own ix (T j).1 (T j).2.1 (T j).2.2.1 ∈ tk_tbl) (hfin : (T j).2.2.2 = true) (hdc : (T j).1 = own) (hfit : ((parseFieldDescriptor (T j).2.2.1).map fun ty => (match ty with | .object _ => true | .array _ => true | _ => false)) = some true) (hfl : j < fs.length) {h9 : Nat} (hh9 : a k = h9) (hd : decode cc pc = .ok (.putfield ix, 3)) (hV : tk_Vw D A n a E H) (hS : va_S A s.heap H locs)
    (kk : ∀ (H1 : Heap) (locs1 : List Loc), tk_Vw D A n a (fun i => if i = k then .inr (ci, fs.set j (.ref v)) else E i) H1 → va_S A s.heap H1 locs1 → W p l e R s m args below meth c H1 locs1 cells slots Q (F0 m (pc + 3) ls rest)) :
    W p l e R s m args below meth c H locs cells slots Q (F0 m pc ls (.ref v :: .ref h9 :: rest)) := by
  subst hh9
  obtain ⟨hx, hb, hml, hown, hts, hF⟩ := X
  obtain ⟨ty0, hty, hnm⟩ := tk_tyok hc
  have h1 := hty j hj
  rw [h1] at hfit
  have h2 := Option.some.inj hfit
  refine va_putF (ty := ty0 j) (v := .ref v) hx hb hts (tk_cls hc) ty0 hty hnm hown hF.2.1 hV.P hV.Ds hS k (by rw [tk_vl_at hk, he]) hc j hj (hts _ hl) (fun _ h9 => h9) hfin hin hdc h1 ?_ ?_ hfl hd fun H1 locs1 hP hD hS1 => ?_
  · cases hz : ty0 j <;> first | rfl | (rw [hz] at h2; exact absurd h2 (by decide))
  · cases hz : ty0 j <;> first | rfl | (rw [hz] at h2; exact absurd h2 (by decide))
  · exact kk H1 locs1 (tk_Vw.put hk hP hD) hS1
theorem tk_vget (X : tk_Xc p s m args c D K A own cc nL) {C : String} {T : u_T} {N ci ix k j : Nat} {v : Value} {fs : List Value} (hc : tk_cl[ci]? = some (C, T, N)) (hj : j < N) (hk : k < n) (he : E k = .inr (ci, fs)) (hl : Cond.fieldLink own ix (T j).1 (T j).2.1 (T j).2.2.1 ∈ tk_tbl) (hv : fs[j]? = some v) {h9 : Nat} (hh9 : a k = h9) (hd : decode cc pc = .ok (.getfield ix, 3)) (hV : tk_Vw D A n a E H)
    (kk : W p l e R s m args below meth c H locs cells slots Q (F0 m (pc + 3) ls (v :: rest))) : W p l e R s m args below meth c H locs cells slots Q (F0 m pc ls (.ref h9 :: rest)) := by
  subst hh9
  obtain ⟨hx, hb, hml, hown, hts, hF⟩ := X
  exact va_get hx hb hts (tk_cls hc) hown hF.2.1 hV.P k (by rw [tk_vl_at hk, he]) hc j hj (hts _ hl) (fun _ h9 => h9) hv hd kk
theorem tk_vast (X : tk_Xc p s m args c D K A own cc nL) {C : String} {T : u_T} {N ci k t i9 w : Nat} {f : Nat → Option Nat} {vs : List Value} {N9 : Nat} (ht : (tk_tys (fun _ => 0, D, K))[t]? = some (K t, .object C)) (hc : tk_cl[ci]? = some (C, T, N)) (hk : k < n) (he : E k = .inl (K t, N9, .inr (.inr (.inr (.inr f))))) (hw : w < n) (hev : E w = .inr (ci, vs)) (hi : i9 < N9) (hN : N9 < 1000) {h9 : Nat} (hh9 : a k = h9) (hd : decode cc pc = .ok (.aastore, 1)) (hV : tk_Vw D A n a E H) (hS : va_S A s.heap H locs)
    (kk : ∀ (H1 : Heap) (locs1 : List Loc), tk_Vw D A n a (fun i => if i = k then .inl (K t, N9, .inr (.inr (.inr (.inr (va_up f i9 (some (a w))))))) else E i) H1 → va_S A s.heap H1 locs1 → W p l e R s m args below meth c H1 locs1 cells slots Q (F0 m (pc + 1) ls rest)) :
    W p l e R s m args below meth c H locs cells slots Q (F0 m pc ls (.ref (a w) :: .int (nI i9) :: .ref h9 :: rest)) := by
  subst hh9
  obtain ⟨hx, hb, hml, hown, hts, hF⟩ := X
  have hcl : (nI i9).toNatClampNeg = i9 := nI_clamp (by omega)
  refine va_astq (r := (C, T, N)) (i := nI i9) hx hb hF.2.1 hV.P hV.Ds hS k t w ci (by rw [tk_vl_at hk, he]) ht (by rw [tk_vl_at hw, hev]) hc (vp_in_nI hi (by omega)) hd fun H1 locs1 hP hD hS1 => ?_
  rw [hcl] at hP hD
  exact kk H1 locs1 (tk_Vw.put hk hP hD) hS1
/-- a constructor is called -/
theorem tk_vcall (X0 : tk_Xc p s m args c D K A own cc nL) {y : MethodName} {cy : ByteArray} {mL nf nw nc ns ix h0 : Nat} {P : Nat → (Nat → Nat) → (Nat → va_E) → Prop} (con : tk_Ci l y nf nw nc ns D K h0 n a E P) (hw : Cond.code y cy mL none ∈ tk_tbl) (hinst : Cond.instanceMethod y ∈ tk_tbl) (hlk : Cond.methodLink own ix y ∈ tk_tbl ∨ ∃ host, Cond.methodLinkNest own ix y host ∈ tk_nst) (hy1 : y.name = "<init>") (hy : y.cls ≠ "java/lang/invoke/MethodHandle" ∧ y.cls ≠ "java/lang/invoke/VarHandle") (hyp : plainName y.cls = true) (hyd : (parseMethodDescriptor y.desc).map (fun d => d.parameters.length) = some 0)
    (hd : decode cc pc = .ok (.invokespecial ix, 3)) (hsz : ls.size = nL) (hfr : nf + 1 ≤ R.frames) (hlo : (rest.map fun v => v.category).sum + (mL + 11) + nw ≤ R.locals) (hcl : cells + nc ≤ R.cells) (hsl : slots + ns ≤ R.slots) (hV : tk_Vw D A n a E H) (hS : va_S A s.heap H locs)
    (kk : ∀ (n' : Nat) (a' : Nat → Nat) (E' : Nat → va_E) (H1 : Heap) (locs1 : List Loc), P n' a' E' → tk_Vw D A n' a' E' H1 → va_S A s.heap H1 locs1 → W p l e R s m args below meth c H1 locs1 (cells + nc) (slots + ns) Q (F0 m (pc + 3) ls rest)) :
    W p l e R s m args below meth c H locs cells slots Q (F0 m pc ls (.ref h0 :: rest)) := by
  intro T hT X
  obtain ⟨hx, hb, hml, hown, hts, hF⟩ := X0
  have hpl9 : e.platform.magicAccessors = ({} : Platform).magicAccessors := by rw [X.admits.platform]
  have hlen : ∀ sig, parseMethodDescriptor y.desc = some sig → ([] : List Value).length = sig.parameters.length := fun sig hs => tk_plen hyd hs
  have hm9 : (F0 m pc ls (.ref h0 :: rest)).method = m := rfl
  have key : ∃ tm methM cM vm', s.methodNamed? y = some tm ∧ s.vm.method? tm = some methM ∧ methM.code = some cM ∧ cM.maxLocals = mL ∧ methM.locks = false ∧ s.WarmedH vm' ∧
      ∀ target, (∀ acts, Steps p.tables e below (doInvoke e ((T.setVm vm').setTop (F0 m pc ls rest)) acts tm #[.ref h0]).1 target) → Steps p.tables e below (T.setTop (F0 m pc ls (.ref h0 :: rest))) target := by
    rcases hlk with h | ⟨host, h⟩
    · obtain ⟨tm, methM, cM, kP, vm', g1, g2, g3, -, g5, g6, -, -, g9, g10⟩ := Steps.initColdArgs (e := e) X.here hx X.warmed hpl9 hown hy1 hy (hts _ h) (hts _ hinst) (hts _ hw) (f := F0 m pc ls (.ref h0 :: rest)) rfl (argsL := []) (rest := rest) hlen rfl (by rw [hb]; exact hd)
      exact ⟨tm, methM, cM, vm', g1, g2, g3, g5, g6, g9, g10⟩
    · obtain ⟨tm, methM, cM, kP, vm', g1, g2, g3, -, g5, g6, -, -, g9, g10⟩ := Steps.initColdArgsNest (e := e) X.here hx X.warmed hpl9 hown hy1 hy (va_Nw.use (A := args) rfl (hF.2.2.2.1 _ h)) (hts _ hinst) (hts _ hw) (f := F0 m pc ls (.ref h0 :: rest)) rfl (argsL := []) (rest := rest) hlen rfl (by rw [hb]; exact hd)
      exact ⟨tm, methM, cM, vm', g1, g2, g3, g5, g6, g9, g10⟩
  obtain ⟨mk, methk, ck, vm₁, hn, hmk, hck, hl, hlk9, hW₁, hstep⟩ := key
  have X₁ := X.noted hW₁
  have hal := X₁.warmed.alike
  have hmkT : (T.setVm vm₁).vm.method? mk = some methk := by rw [hal.method?]; exact hmk
  have hpl : (T.setVm vm₁).plainMethod mk := by
    obtain ⟨k, hk, hnm⟩ := className_of_methodNamed hn
    exact X₁.warmed.plainAt fun k2 hk2 => by cases hk.symm.trans hk2; rw [hnm]; exact hyp
  obtain ⟨Y, hdo⟩ := X₁.into (g := F0 m pc ls rest) rfl (by rw [hml]; exact hsz) (by rw [hb]; exact hd) #[.ref h0] (R' := { frames := R.frames - 1, cells := R.cells - cells, slots := R.slots - slots, locals := nw }) hmkT hck hlk9 hpl (by show R.frames - 1 + 1 ≤ R.frames; omega) (by rw [hl]; show 2 * 0 + _ + _ + _ ≤ _; show 2 * 0 + (rest.map fun v => v.category).sum + (mL + 11) + nw ≤ R.locals; omega) (by show cells + (R.cells - cells) ≤ R.cells; omega) (by show slots + (R.slots - slots) ≤ R.slots; omega)
  have hTh : (T.setVm vm₁).heap = H := hT
  have hFc : tk_Fc D K A ((T.setVm vm₁).calling (F0 m pc ls rest) mk #[.ref h0]) := hF.call X₁.warmed (by show s.heap.size ≤ (T.setVm vm₁).heap.size; rw [hTh]; exact hS.1)
  have hnc : ((T.setVm vm₁).calling (F0 m pc ls rest) mk #[.ref h0]).methodNamed? y = some mk := X₁.named hn
  obtain ⟨t, hst, q1, q2, q3, r1, L, n', a', E', q4, q5, r3, r4⟩ := con p e { frames := R.frames - 1, cells := R.cells - cells, slots := R.slots - slots, locals := nw } ((T.setVm vm₁).calling (F0 m pc ls rest) mk #[.ref h0]) mk (.java (F0 m pc ls rest) :: below) methk ck A hx hFc hnc (by show nf ≤ R.frames - 1; omega) (Nat.le_refl _) (by show nc ≤ R.cells - cells; omega) (by show ns ≤ R.slots - slots; omega) (by show tk_Vw D A n a E (T.setVm vm₁).heap; rw [hTh]; exact hV) hmkT hck (((T.setVm vm₁).setTop (F0 m pc ls rest)).pushFrame (.java (entryFrame mk #[.ref h0] ck.maxLocals))) rfl Y
  have hzT : ((T.setVm vm₁).calling (F0 m pc ls rest) mk #[.ref h0]).heap = H := hTh
  have hSn : va_S A s.heap t.heap (locs ++ L) := ⟨Nat.le_trans hS.1 (by rw [← hzT]; exact q3.1), fun q h1 h2 => by rw [q3.2 q (by rw [hzT]; exact Nat.lt_of_lt_of_le h1 hS.1) h2, hzT]; exact hS.2.1 q h1 h2, fun q hq => by
    rcases List.mem_append.mp hq with h | h
    · exact hS.2.2 q h
    · exact q4 q h⟩
  obtain ⟨T', X', hW', hsm, ht⟩ := X₁.outOf (g := F0 m pc ls rest) rfl (by rw [hb]; exact hd) r1 q2 r3
  have hh : T'.heap = t.heap := by rw [ht]; rfl
  obtain ⟨t2, a1, b1⟩ := kk n' a' E' T'.heap (locs ++ L) r4 (by rw [hh]; exact q5) (by rw [hh]; exact hSn) T' rfl X'
  refine ⟨t2, hstep t2 fun acts => ?_, b1⟩
  rw [hdo acts]
  refine Steps.trans (tk_weaken hst) ?_
  rw [ht]
  exact a1
/-- a constructor out of its walk -/
theorem tk_Ci.of {y : MethodName} {nf nw nc ns h0 : Nat} {P : Nat → (Nat → Nat) → (Nat → va_E) → Prop} (hw : Cond.code y cc nL none ∈ tk_tbl) (hy1 : y.name = "<init>") (ho : y.cls = own) (hnL : 1 ≤ nL)
    (body : ∀ (p : Program) (e : Env) (R : Room) (s : State) (m : MethodId) (below : List Frame) (meth : Method) (c : Code) (A : Nat → Prop) (ls : Array Slot), tk_Xc p s m #[.ref h0] c D K A own cc nL → meth.locks = false → meth.sig.returnType = none → meth.name = "<init>" → nf ≤ R.frames → nw ≤ R.locals → nc ≤ R.cells → ns ≤ R.slots → tk_Vw D A n a E s.heap → lv_has ls nL [(0, .ref h0)] →
      W p l e R s m #[.ref h0] below meth c s.heap [] 0 0 (tk_Qi below s D A nc ns P) (F0 m 0 ls [])) : tk_Ci l y nf nw nc ns D K h0 n a E P := by
  intro p e R s m below meth c A hx hF hn h1 h2 h3 h4 hV hm hc
  obtain ⟨meth', c', hm', hc', hb, hl, hret, hlk, -, -⟩ := Cond.code_spec hn (hF.1 _ hw)
  cases hm.symm.trans hm'
  cases hc.symm.trans hc'
  have hlv := lv_entry ([.ref h0]) (n := nL) (by show 1 ≤ nL; exact hnL)
  rw [hl]
  show W p l e R s m ([Value.ref h0] : List Value).toArray below meth c s.heap [] 0 0 _ (entryFrame m ([Value.ref h0] : List Value).toArray nL)
  rw [lg_entry_eq]
  exact body p e R s m below meth c A _ ⟨hx, hb, hl, by rw [← ho]; exact findClass_of_methodNamed hn, hF.words _, hF⟩ hlk hret ((name_of_methodNamed hn hm).1.trans hy1) h1 h2 h3 h4 hV hlv
/-- the return of a constructor -/
theorem tk_vret {nc ns : Nat} {P : Nat → (Nat → Nat) → (Nat → va_E) → Prop} (X : tk_Xc p s m args c D K A own cc nL) (hlocks : meth.locks = false) (hr : meth.sig.returnType = none) (h1 : cells ≤ nc) (h2 : slots ≤ ns) (hd : decode cc pc = .ok (.return_, 1)) (hV : tk_Vw D A n a E H) (hS : va_S A s.heap H locs) (hP : P n a E) : W p l e R s m args below meth c H locs cells slots (tk_Qi below s D A nc ns P) (F0 m pc ls []) := by
  obtain ⟨hx, hb, hml, hown, hts, hF⟩ := X
  refine tk_Wmono ?_ (W.vret (Qc := fun _ _ o t => o = .returned none ∧ t.heap = H) (free := A) hx hb hr (fun t ht _ => ⟨rfl, ht⟩) hS.2.2 hd)
  rintro t ⟨o, g1, g2, ⟨rfl, g4⟩, L, ⟨-, g5, g6⟩, g7⟩
  exact ⟨g1, g5, hS.F g4, g2, L, n, a, E, g7, by rw [g4]; exact hV, g6.mono h1 h2, hP⟩
theorem tk_vobj (X : tk_Xc p s m args c D K A own cc nL) {ix h0 : Nat} (hl : Cond.methodLink own ix Lib.objectInit ∈ tk_tbl) (hsz : ls.size = nL) (hd : decode cc pc = .ok (.invokespecial ix, 3)) (hf : 1 ≤ R.frames) (hlo : (rest.map fun v => v.category).sum + 12 ≤ R.locals) (hi : Cond.instanceMethod Lib.objectInit ∈ tk_tbl) (hc : Cond.code Lib.objectInit ⟨#[0xb1]⟩ 1 none ∈ tk_tbl)
    (kk : W p l e R s m args below meth c H locs cells slots Q (F0 m (pc + 3) ls rest)) : W p l e R s m args below meth c H locs cells slots Q (F0 m pc ls (.ref h0 :: rest)) := by
  obtain ⟨hx, hb, hml, hown, hts, hF⟩ := X
  exact W.objInit hx hb hown (hts _ hl) (hts _ hi) (hts _ hc) rfl (by rw [hml]; exact hsz) rfl hd hf (by show 2 * 0 + _ + 12 ≤ _; omega) kk
end TKNR
end
section
/-! THE CONSTRUCTORS -/
set_option maxRecDepth 100000 in
theorem wo_i : Cond.instanceMethod Lib.objectInit ∈ tk_tbl := tk_mw 48 rfl rfl
set_option maxRecDepth 100000 in
theorem wo_c : Cond.code Lib.objectInit ⟨#[0xb1]⟩ 1 none ∈ tk_tbl := tk_mw 49 rfl rfl
set_option maxRecDepth 100000 in
theorem wo_TK : Cond.methodLink "TrackKeeper" 1 Lib.objectInit ∈ tk_tbl := tk_mw 47 rfl rfl
set_option maxRecDepth 100000 in
theorem wo_Tr : Cond.methodLink "TrackKeeper$Track" 3 Lib.objectInit ∈ tk_tbl := tk_mw 55 rfl rfl
set_option maxRecDepth 100000 in
theorem wo_Se : Cond.methodLink "TrackKeeper$Section" 1 Lib.objectInit ∈ tk_tbl := tk_mw 64 rfl rfl
set_option maxRecDepth 100000 in
theorem wo_Su : Cond.methodLink "TrackKeeper$Subsection" 1 Lib.objectInit ∈ tk_tbl := tk_mw 90 rfl rfl
set_option maxRecDepth 100000 in
theorem wo_Au : Cond.methodLink "TrackKeeper$Authorities" 3 Lib.objectInit ∈ tk_tbl := tk_mw 140 rfl rfl
set_option maxRecDepth 100000 in
theorem wo_Ti : Cond.methodLink "TrackKeeper$Train" 3 Lib.objectInit ∈ tk_tbl := tk_mw 156 rfl rfl
set_option maxRecDepth 100000 in
theorem wo_Mo : Cond.methodLink "TrackKeeperModel" 1 Lib.objectInit ∈ tk_tbl := tk_mw 582 rfl rfl
set_option maxRecDepth 100000 in
theorem wm_TK : Cond.instantiable "TrackKeeper" 8 ∈ tk_tbl := tk_mw 43 rfl rfl
set_option maxRecDepth 100000 in
theorem wm_Tr : Cond.instantiable "TrackKeeper$Track" 6 ∈ tk_tbl := tk_mw 51 rfl rfl
set_option maxRecDepth 100000 in
theorem wm_Se : Cond.instantiable "TrackKeeper$Section" 6 ∈ tk_tbl := tk_mw 60 rfl rfl
set_option maxRecDepth 100000 in
theorem wm_Su : Cond.instantiable "TrackKeeper$Subsection" 5 ∈ tk_tbl := tk_mw 86 rfl rfl
set_option maxRecDepth 100000 in
theorem wm_Au : Cond.instantiable "TrackKeeper$Authorities" 2 ∈ tk_tbl := tk_mw 136 rfl rfl
set_option maxRecDepth 100000 in
theorem wm_Ti : Cond.instantiable "TrackKeeper$Train" 13 ∈ tk_tbl := tk_mw 152 rfl rfl
set_option maxRecDepth 100000 in
theorem wm_Mo : Cond.instantiable "TrackKeeperModel" 35 ∈ tk_tbl := tk_mw 578 rfl rfl
set_option maxRecDepth 100000 in
theorem wk_La8 : Cond.classLink "TrackKeeperLaw" 8 "TrackKeeper" ∈ tk_tbl := tk_mw 42 rfl rfl
set_option maxRecDepth 100000 in
theorem wk_TK7 : Cond.classLink "TrackKeeper" 7 "TrackKeeper$Track" ∈ tk_tbl := tk_mw 50 rfl rfl
set_option maxRecDepth 100000 in
theorem wk_Tr9 : Cond.classLink "TrackKeeper$Track" 9 "TrackKeeper$Section" ∈ tk_tbl := tk_mw 56 rfl rfl
set_option maxRecDepth 100000 in
theorem wk_Tr17 : Cond.classLink "TrackKeeper$Track" 17 "TrackKeeper$Subsection" ∈ tk_tbl := tk_mw 58 rfl rfl
set_option maxRecDepth 100000 in
theorem wk_TK16 : Cond.classLink "TrackKeeper" 16 "TrackKeeper$Authorities" ∈ tk_tbl := tk_mw 135 rfl rfl
set_option maxRecDepth 100000 in
theorem wk_TK23 : Cond.classLink "TrackKeeper" 23 "TrackKeeper$Train" ∈ tk_tbl := tk_mw 150 rfl rfl
set_option maxRecDepth 100000 in
theorem wk_La62 : Cond.classLink "TrackKeeperLaw" 62 "TrackKeeperModel" ∈ tk_tbl := tk_mw 577 rfl rfl
set_option maxRecDepth 100000 in
theorem wa_i : Cond.arrayClass .int ∈ tk_tbl := tk_mw 689 rfl rfl
set_option maxRecDepth 100000 in
theorem wa_z : Cond.arrayClass .boolean ∈ tk_tbl := tk_mw 690 rfl rfl
set_option maxRecDepth 100000 in
theorem wa_j : Cond.arrayClass .long ∈ tk_tbl := tk_mw 809 rfl rfl
set_option maxRecDepth 100000 in
theorem wf_Tr11 : Cond.fieldLink "TrackKeeper$Track" 11 "TrackKeeper$Track" "sections" "[LTrackKeeper$Section;" ∈ tk_tbl := tk_mw 109 rfl rfl
set_option maxRecDepth 100000 in
theorem wf_Tr19 : Cond.fieldLink "TrackKeeper$Track" 19 "TrackKeeper$Track" "subs" "[LTrackKeeper$Subsection;" ∈ tk_tbl := tk_mw 111 rfl rfl
set_option maxRecDepth 100000 in
theorem wf_TK10 : Cond.fieldLink "TrackKeeper" 10 "TrackKeeper" "track" "LTrackKeeper$Track;" ∈ tk_tbl := tk_mw 207 rfl rfl
set_option maxRecDepth 100000 in
theorem wf_TK25 : Cond.fieldLink "TrackKeeper" 25 "TrackKeeper" "trains" "[LTrackKeeper$Train;" ∈ tk_tbl := tk_mw 208 rfl rfl
set_option maxRecDepth 100000 in
theorem wf_TK19 : Cond.fieldLink "TrackKeeper" 19 "TrackKeeper" "authorities" "LTrackKeeper$Authorities;" ∈ tk_tbl := tk_mw 209 rfl rfl
/-- a constructor that does nothing of its own -/
theorem k_leaf {l : Launch} {D : va_G} {K : Nat → ClassId} {y : MethodName} {own : String} {cc : ByteArray} {ix : Nat} (hw : Cond.code y cc 1 none ∈ tk_tbl) (hy1 : y.name = "<init>") (ho : y.cls = own) (hlk : Cond.methodLink own ix Lib.objectInit ∈ tk_tbl) (d0 : decode cc 0 = .ok (.aload_n 0, 1)) (d1 : decode cc 1 = .ok (.invokespecial ix, 3)) (d4 : decode cc 4 = .ok (.return_, 1)) (h0 n : Nat) (a : Nat → Nat) (E : Nat → va_E) :
    tk_Ci l y 1 12 0 0 D K h0 n a E (fun n' a' E' => n' = n ∧ a' = a ∧ E' = E) := by
  refine tk_Ci.of hw hy1 ho (by decide) fun p e R s m below meth c A ls X hlk9 hret hin h1 h2 h3 h4 hV hl => ?_
  refine lv_aload_n X.1 X.2.1 d0 rfl (lv_at hl 0 rfl) ?_
  refine tk_vobj X hlk hl.1 d1 h1 (by show 0 + 12 ≤ _; omega) wo_i wo_c ?_
  exact tk_vret X hlk9 hret (Nat.le_refl _) (Nat.le_refl _) d4 hV va_S.rf ⟨rfl, rfl, rfl⟩
theorem k_Se_init (l : Launch) (D : va_G) (K : Nat → ClassId) (h0 n : Nat) (a : Nat → Nat) (E : Nat → va_E) : tk_Ci l y_Se_init 1 12 0 0 D K h0 n a E (fun n' a' E' => n' = n ∧ a' = a ∧ E' = E) := k_leaf wc_Se_init rfl rfl wo_Se (by decide +kernel) (by decide +kernel) (by decide +kernel) h0 n a E
theorem k_Su_init (l : Launch) (D : va_G) (K : Nat → ClassId) (h0 n : Nat) (a : Nat → Nat) (E : Nat → va_E) : tk_Ci l y_Su_init 1 12 0 0 D K h0 n a E (fun n' a' E' => n' = n ∧ a' = a ∧ E' = E) := k_leaf wc_Su_init rfl rfl wo_Su (by decide +kernel) (by decide +kernel) (by decide +kernel) h0 n a E
theorem k_Ti_init (l : Launch) (D : va_G) (K : Nat → ClassId) (h0 n : Nat) (a : Nat → Nat) (E : Nat → va_E) : tk_Ci l y_Ti_init 1 12 0 0 D K h0 n a E (fun n' a' E' => n' = n ∧ a' = a ∧ E' = E) := k_leaf wc_Ti_init rfl rfl wo_Ti (by decide +kernel) (by decide +kernel) (by decide +kernel) h0 n a E
theorem k_Au_init (l : Launch) (D : va_G) (K : Nat → ClassId) (h0 n : Nat) (a : Nat → Nat) (E : Nat → va_E) : tk_Ci l y_Au_init 1 12 0 0 D K h0 n a E (fun n' a' E' => n' = n ∧ a' = a ∧ E' = E) := k_leaf wc_Au_init rfl rfl wo_Au (by decide +kernel) (by decide +kernel) (by decide +kernel) h0 n a E
def e_se : va_E := .inr (3, [.int 0, .int 0, .int 0, .int 0, .int 0, .int 0])
def e_su : va_E := .inr (4, [.int 0, .int 0, .int 0, .int 0, .int 0])
def e_ti : va_E := .inr (5, [.int 0, .int 0, .int 0, .int 0, .int 0, .int 0, .int 0, .int 0, .int 0, .int 0, .int 0, .int 0, .int 0])
def e_au : va_E := .inr (2, [.int 0, .int 0])
def e_rf (cA : ClassId) (n : Nat) (f : Nat → Option Nat) : va_E := .inl (cA, n, .inr (.inr (.inr (.inr f))))
/-- the world in a loop that fills the array at ka with new objects, from the place b on: i are there -/
def e_fl (E0 : Nat → va_E) (x : va_E) (cA : ClassId) (N ka b i : Nat) (a : Nat → Nat) : Nat → va_E := fun p => if p = ka then e_rf cA N (fun j => if j < i then some (a (b + j)) else none) else if p < b then E0 p else x
/-- the loop: for (i = 0; i < N; i++) f[i] = new C() -/
theorem tk_fill {p : Program} {l : Launch} {e : Env} {R : Room} {s : State} {m : MethodId} {args : Array Value} {below : List Frame} {meth : Method} {c : Code} {Q : State → Prop} {D : va_G} {K : Nat → ClassId} {A : Nat → Prop} {own : String} {cc : ByteArray} (X : tk_Xc p s m args c D K A own cc 2)
    {C C1 : String} {T T1 : u_T} {N9 N1 ci cr ix ic fx jf N b ka kr t pc h0 c0 s0 : Nat} {fs fs0 : List Value} {E0 : Nat → va_E} {a0 : Nat → Nat} {y : MethodName} {cy : ByteArray} {Ni : Int}
    (d0 : decode cc pc = .ok (.iload_n 1, 1)) (d1 : decode cc (pc + 1) = .ok (.bipush Ni, 2)) (d3 : decode cc (pc + 3) = .ok (.if_icmp .ge 22, 3)) (d6 : decode cc (pc + 6) = .ok (.aload_n 0, 1)) (d7 : decode cc (pc + 7) = .ok (.getfield fx, 3)) (d10 : decode cc (pc + 10) = .ok (.iload_n 1, 1)) (d11 : decode cc (pc + 11) = .ok (.new ix, 3)) (d14 : decode cc (pc + 14) = .ok (.dup, 1)) (d15 : decode cc (pc + 15) = .ok (.invokespecial ic, 3)) (d18 : decode cc (pc + 18) = .ok (.aastore, 1)) (d19 : decode cc (pc + 19) = .ok (.iinc 1 1, 3)) (d22 : decode cc (pc + 22) = .ok (.goto (-22), 3))
    (hNi : (Int8.ofInt Ni).toInt32 = nI N) (hN : N < 1000) (hka : ka < b) (hkr : kr < b) (hne : kr ≠ ka) (hr0 : a0 kr = h0) (hc1 : tk_cl[cr]? = some (C1, T1, N1)) (hjf : jf < N1) (hE : E0 kr = .inr (cr, fs)) (hfl : Cond.fieldLink own fx (T1 jf).1 (T1 jf).2.1 (T1 jf).2.2.1 ∈ tk_tbl) (hfs : fs[jf]? = some (.ref (a0 ka)))
    (hc : tk_cl[ci]? = some (C, T, N9)) (hl : Cond.classLink own ix C ∈ tk_tbl) (hi : Cond.instantiable C N9 ∈ tk_tbl) (hini : Cond.initialized C ∈ tk_tbl) (hdf : ∀ j, j < N9 → (parseFieldDescriptor (T j).2.2.1).map defaultValue = some (vp_V fs0 j)) (ht : (tk_tys (fun _ => 0, D, K))[t]? = some (K t, .object C))
    (con : ∀ (h n : Nat) (a : Nat → Nat) (E : Nat → va_E), tk_Ci l y 1 12 0 0 D K h n a E (fun n' a' E' => n' = n ∧ a' = a ∧ E' = E)) (hw : Cond.code y cy 1 none ∈ tk_tbl) (hinst : Cond.instanceMethod y ∈ tk_tbl) (hlk : ∃ host, Cond.methodLinkNest own ic y host ∈ tk_nst) (hy1 : y.name = "<init>") (hy : y.cls ≠ "java/lang/invoke/MethodHandle" ∧ y.cls ≠ "java/lang/invoke/VarHandle") (hyp : plainName y.cls = true) (hyd : (parseMethodDescriptor y.desc).map (fun d => d.parameters.length) = some 0)
    (hfr : 2 ≤ R.frames) (hlo : 30 ≤ R.locals) (hcl : c0 + N ≤ R.cells) (hsl : s0 + N * N9 ≤ R.slots)
    (kk : ∀ (a : Nat → Nat) (H : Heap) (locs : List Loc) (ls : Array Slot), (∀ p, p < b → a p = a0 p) → tk_Vw D A (b + N) a (e_fl E0 (.inr (ci, fs0)) (K t) N ka b N a) H → va_S A s.heap H locs → lv_has ls 2 [(1, .int (nI N)), (0, .ref h0)] → W p l e R s m args below meth c H locs (c0 + N) (s0 + N * N9) Q (F0 m (pc + 25) ls [])) :
    ∀ (r i : Nat), i + r = N → ∀ (a : Nat → Nat) (H : Heap) (locs : List Loc) (ls : Array Slot), (∀ p, p < b → a p = a0 p) → tk_Vw D A (b + i) a (e_fl E0 (.inr (ci, fs0)) (K t) N ka b i a) H → va_S A s.heap H locs → lv_has ls 2 [(1, .int (nI i)), (0, .ref h0)] → W p l e R s m args below meth c H locs (c0 + i) (s0 + i * N9) Q (F0 m pc ls []) := by
  intro r
  induction r with
  | zero =>
    intro i hi9 a H locs ls ha hV hS hlv
    have e1 : i = N := by omega
    subst e1
    refine lv_iload_n X.1 X.2.1 d0 rfl (lv_at hlv 0 rfl) ?_
    refine lv_bipush X.1 X.2.1 d1 hNi ?_
    refine lv_icmp_ge (tgt := pc + 25) X.1 X.2.1 d3 (by push_cast; omega) (fun _ => kk a H locs ls ha hV hS hlv) (fun h => absurd (nI_le (Nat.le_refl _) (by omega)) h)
  | succ r ih =>
    intro i hi9 a H locs ls ha hV hS hlv
    have hi1 : i < N := by omega
    have hms : (i + 1) * N9 ≤ N * N9 := Nat.mul_le_mul_right _ (by omega)
    have hms2 : (i + 1) * N9 = i * N9 + N9 := Nat.succ_mul i N9
    refine lv_iload_n X.1 X.2.1 d0 rfl (lv_at hlv 0 rfl) ?_
    refine lv_bipush X.1 X.2.1 d1 hNi ?_
    refine lv_icmp_ge (tgt := pc + 25) X.1 X.2.1 d3 (by push_cast; omega) (fun h => absurd h (nI_ge hi1 (by omega))) (fun _ => ?_)
    refine lv_aload_n X.1 X.2.1 d6 rfl (lv_at hlv 1 rfl) ?_
    refine tk_vget (k := kr) (j := jf) (fs := fs) (v := .ref (a ka)) X hc1 hjf (by omega) (by unfold e_fl; rw [if_neg hne, if_pos hkr]; exact hE) hfl (by rw [ha ka hka]; exact hfs) (by rw [ha kr hkr]; exact hr0) d7 hV ?_
    refine lv_iload_n X.1 X.2.1 d10 rfl (lv_at hlv 0 rfl) ?_
    refine tk_vnew (ci := ci) (fs := fs0) X hc hl hi hini hdf (by omega) (by omega) d11 hV hS fun a' H1 ha1 hV1 hS1 => ?_
    refine lv_dup X.1 X.2.1 d14 rfl ?_
    refine tk_vcall X (con (a' (b + i)) (b + i + 1) a' _) hw hinst (Or.inr hlk) hy1 hy hyp hyd d15 hlv.1 (by omega) (by show 1 + (1 + (1 + 0)) + (1 + 11) + 12 ≤ _; omega) (by omega) (by omega) hV1 hS1 ?_
    rintro _ a' _ H2 locs2 ⟨rfl, rfl, rfl⟩ hV2 hS2
    refine tk_vast (k := ka) (w := b + i) (i9 := i) (N9 := N) (f := fun j => if j < i then some (a (b + j)) else none) (vs := fs0) X ht hc (by omega) (by rw [if_neg (by omega)]; unfold e_fl; rw [if_pos rfl]; rfl) (by omega) (by rw [if_pos rfl]) hi1 hN (ha1 ka (by omega)) d18 hV2 hS2 fun H3 locs3 hV3 hS3 => ?_
    refine lv_iinc (k := 0) (v := nI (i + 1)) X.1 X.2.1 d19 hlv rfl (by rw [nI_succ]; rfl) (by decide) rfl fun ls' hlv' => ?_
    refine lv_goto (tgt := pc) X.1 X.2.1 d22 (by push_cast; omega) ?_
    have hV4 : tk_Vw D A (b + (i + 1)) a' (e_fl E0 (.inr (ci, fs0)) (K t) N ka b (i + 1) a') H3 := by
      refine tk_Vw.eq hV3 fun q hq => ?_
      unfold e_fl
      by_cases e1 : q = ka
      · rw [if_pos e1, if_pos e1]
        show e_rf _ _ _ = e_rf _ _ _
        congr 1
        funext j
        unfold va_up
        by_cases e2 : j = i
        · rw [if_pos (show j < i + 1 by omega), if_pos e2, e2]
        · rw [if_neg e2]
          show _ = (if j < i then some (a (b + j)) else none)
          by_cases e3 : j < i
          · rw [if_pos (show j < i + 1 by omega), if_pos e3, ha1 (b + j) (by omega)]
          · rw [if_neg (show ¬ j < i + 1 by omega), if_neg e3]
      · rw [if_neg e1, if_neg e1]
        by_cases e2 : q = b + i
        · rw [if_neg (show ¬ q < b by omega), if_pos e2]
        · rw [if_neg e2, if_neg e1]
    have h9 := ih (i + 1) (by omega) a' H3 locs3 ls' (fun q hq => by rw [ha1 q (by omega)]; exact ha q hq) hV4 hS3 hlv'
    rw [show c0 + (i + 1) = c0 + i + 1 + 0 from rfl, show s0 + (i + 1) * N9 = s0 + i * N9 + N9 + 0 by omega] at h9
    exact h9
end
