/-! THE CONSTRUCTORS -/
set_option maxRecDepth 100000 in
theorem wo_i : Cond.instanceMethod Lib.objectInit ∈ tk_tbl := tk_mw 48 rfl rfl
set_option maxRecDepth 100000 in
theorem wo_c : Cond.code Lib.objectInit ⟨#[0xb1]⟩ 1 none ∈ tk_tbl := tk_mw 49 rfl rfl
set_option maxRecDepth 100000 in
theorem wo_TK : Cond.methodLink "TrackKeeper" 1 Lib.objectInit ∈ tk_tbl := tk_mw 47 rfl rfl
set_option maxRecDepth 100000 in
theorem wo_Tr : Cond.methodLink "TrackKeeper$Track" 3 Lib.objectInit ∈ tk_tbl := tk_mw 55 rfl rfl
set_option maxRecDepth 100000 in
theorem wo_Se : Cond.methodLink "TrackKeeper$Section" 1 Lib.objectInit ∈ tk_tbl := tk_mw 64 rfl rfl
set_option maxRecDepth 100000 in
theorem wo_Su : Cond.methodLink "TrackKeeper$Subsection" 1 Lib.objectInit ∈ tk_tbl := tk_mw 90 rfl rfl
set_option maxRecDepth 100000 in
theorem wo_Au : Cond.methodLink "TrackKeeper$Authorities" 3 Lib.objectInit ∈ tk_tbl := tk_mw 140 rfl rfl
set_option maxRecDepth 100000 in
theorem wo_Ti : Cond.methodLink "TrackKeeper$Train" 3 Lib.objectInit ∈ tk_tbl := tk_mw 156 rfl rfl
set_option maxRecDepth 100000 in
theorem wo_Mo : Cond.methodLink "TrackKeeperModel" 1 Lib.objectInit ∈ tk_tbl := tk_mw 582 rfl rfl
set_option maxRecDepth 100000 in
theorem wm_TK : Cond.instantiable "TrackKeeper" 8 ∈ tk_tbl := tk_mw 43 rfl rfl
set_option maxRecDepth 100000 in
theorem wm_Tr : Cond.instantiable "TrackKeeper$Track" 6 ∈ tk_tbl := tk_mw 51 rfl rfl
set_option maxRecDepth 100000 in
theorem wm_Se : Cond.instantiable "TrackKeeper$Section" 6 ∈ tk_tbl := tk_mw 60 rfl rfl
set_option maxRecDepth 100000 in
theorem wm_Su : Cond.instantiable "TrackKeeper$Subsection" 5 ∈ tk_tbl := tk_mw 86 rfl rfl
set_option maxRecDepth 100000 in
theorem wm_Au : Cond.instantiable "TrackKeeper$Authorities" 2 ∈ tk_tbl := tk_mw 136 rfl rfl
set_option maxRecDepth 100000 in
theorem wm_Ti : Cond.instantiable "TrackKeeper$Train" 13 ∈ tk_tbl := tk_mw 152 rfl rfl
set_option maxRecDepth 100000 in
theorem wm_Mo : Cond.instantiable "TrackKeeperModel" 35 ∈ tk_tbl := tk_mw 578 rfl rfl
set_option maxRecDepth 100000 in
theorem wk_La8 : Cond.classLink "TrackKeeperLaw" 8 "TrackKeeper" ∈ tk_tbl := tk_mw 42 rfl rfl
set_option maxRecDepth 100000 in
theorem wk_TK7 : Cond.classLink "TrackKeeper" 7 "TrackKeeper$Track" ∈ tk_tbl := tk_mw 50 rfl rfl
set_option maxRecDepth 100000 in
theorem wk_Tr9 : Cond.classLink "TrackKeeper$Track" 9 "TrackKeeper$Section" ∈ tk_tbl := tk_mw 56 rfl rfl
set_option maxRecDepth 100000 in
theorem wk_Tr17 : Cond.classLink "TrackKeeper$Track" 17 "TrackKeeper$Subsection" ∈ tk_tbl := tk_mw 58 rfl rfl
set_option maxRecDepth 100000 in
theorem wk_TK16 : Cond.classLink "TrackKeeper" 16 "TrackKeeper$Authorities" ∈ tk_tbl := tk_mw 135 rfl rfl
set_option maxRecDepth 100000 in
theorem wk_TK23 : Cond.classLink "TrackKeeper" 23 "TrackKeeper$Train" ∈ tk_tbl := tk_mw 150 rfl rfl
set_option maxRecDepth 100000 in
theorem wk_La62 : Cond.classLink "TrackKeeperLaw" 62 "TrackKeeperModel" ∈ tk_tbl := tk_mw 577 rfl rfl
set_option maxRecDepth 100000 in
theorem wa_i : Cond.arrayClass .int ∈ tk_tbl := tk_mw 689 rfl rfl
set_option maxRecDepth 100000 in
theorem wa_z : Cond.arrayClass .boolean ∈ tk_tbl := tk_mw 690 rfl rfl
set_option maxRecDepth 100000 in
theorem wa_j : Cond.arrayClass .long ∈ tk_tbl := tk_mw 809 rfl rfl
set_option maxRecDepth 100000 in
theorem wf_Tr11 : Cond.fieldLink "TrackKeeper$Track" 11 "TrackKeeper$Track" "sections" "[LTrackKeeper$Section;" ∈ tk_tbl := tk_mw 109 rfl rfl
set_option maxRecDepth 100000 in
theorem wf_Tr19 : Cond.fieldLink "TrackKeeper$Track" 19 "TrackKeeper$Track" "subs" "[LTrackKeeper$Subsection;" ∈ tk_tbl := tk_mw 111 rfl rfl
set_option maxRecDepth 100000 in
theorem wf_TK10 : Cond.fieldLink "TrackKeeper" 10 "TrackKeeper" "track" "LTrackKeeper$Track;" ∈ tk_tbl := tk_mw 207 rfl rfl
set_option maxRecDepth 100000 in
theorem wf_TK25 : Cond.fieldLink "TrackKeeper" 25 "TrackKeeper" "trains" "[LTrackKeeper$Train;" ∈ tk_tbl := tk_mw 208 rfl rfl
set_option maxRecDepth 100000 in
theorem wf_TK19 : Cond.fieldLink "TrackKeeper" 19 "TrackKeeper" "authorities" "LTrackKeeper$Authorities;" ∈ tk_tbl := tk_mw 209 rfl rfl
/-- a constructor that does nothing of its own -/
theorem k_leaf {l : Launch} {D : va_G} {K : Nat → ClassId} {y : MethodName} {own : String} {cc : ByteArray} {ix : Nat} (hw : Cond.code y cc 1 none ∈ tk_tbl) (hy1 : y.name = "<init>") (ho : y.cls = own) (hlk : Cond.methodLink own ix Lib.objectInit ∈ tk_tbl) (d0 : decode cc 0 = .ok (.aload_n 0, 1)) (d1 : decode cc 1 = .ok (.invokespecial ix, 3)) (d4 : decode cc 4 = .ok (.return_, 1)) (h0 n : Nat) (a : Nat → Nat) (E : Nat → va_E) :
    tk_Ci l y 1 12 0 0 D K h0 n a E (fun n' a' E' => n' = n ∧ a' = a ∧ E' = E) := by
  refine tk_Ci.of hw hy1 ho (by decide) fun p e R s m below meth c A ls X hlk9 hret hin h1 h2 h3 h4 hV hl => ?_
  refine lv_aload_n X.1 X.2.1 d0 rfl (lv_at hl 0 rfl) ?_
  refine tk_vobj X hlk hl.1 d1 h1 (by show 0 + 12 ≤ _; omega) wo_i wo_c ?_
  exact tk_vret X hlk9 hret (Nat.le_refl _) (Nat.le_refl _) d4 hV va_S.rf ⟨rfl, rfl, rfl⟩
theorem k_Se_init (l : Launch) (D : va_G) (K : Nat → ClassId) (h0 n : Nat) (a : Nat → Nat) (E : Nat → va_E) : tk_Ci l y_Se_init 1 12 0 0 D K h0 n a E (fun n' a' E' => n' = n ∧ a' = a ∧ E' = E) := k_leaf wc_Se_init rfl rfl wo_Se (by decide +kernel) (by decide +kernel) (by decide +kernel) h0 n a E
theorem k_Su_init (l : Launch) (D : va_G) (K : Nat → ClassId) (h0 n : Nat) (a : Nat → Nat) (E : Nat → va_E) : tk_Ci l y_Su_init 1 12 0 0 D K h0 n a E (fun n' a' E' => n' = n ∧ a' = a ∧ E' = E) := k_leaf wc_Su_init rfl rfl wo_Su (by decide +kernel) (by decide +kernel) (by decide +kernel) h0 n a E
theorem k_Ti_init (l : Launch) (D : va_G) (K : Nat → ClassId) (h0 n : Nat) (a : Nat → Nat) (E : Nat → va_E) : tk_Ci l y_Ti_init 1 12 0 0 D K h0 n a E (fun n' a' E' => n' = n ∧ a' = a ∧ E' = E) := k_leaf wc_Ti_init rfl rfl wo_Ti (by decide +kernel) (by decide +kernel) (by decide +kernel) h0 n a E
theorem k_Au_init (l : Launch) (D : va_G) (K : Nat → ClassId) (h0 n : Nat) (a : Nat → Nat) (E : Nat → va_E) : tk_Ci l y_Au_init 1 12 0 0 D K h0 n a E (fun n' a' E' => n' = n ∧ a' = a ∧ E' = E) := k_leaf wc_Au_init rfl rfl wo_Au (by decide +kernel) (by decide +kernel) (by decide +kernel) h0 n a E
def e_se : va_E := .inr (3, [.int 0, .int 0, .int 0, .int 0, .int 0, .int 0])
def e_su : va_E := .inr (4, [.int 0, .int 0, .int 0, .int 0, .int 0])
def e_ti : va_E := .inr (5, [.int 0, .int 0, .int 0, .int 0, .int 0, .int 0, .int 0, .int 0, .int 0, .int 0, .int 0, .int 0, .int 0])
def e_au : va_E := .inr (2, [.int 0, .int 0])
def e_rf (cA : ClassId) (n : Nat) (f : Nat → Option Nat) : va_E := .inl (cA, n, .inr (.inr (.inr (.inr f))))
/-- the world in a loop that fills the array at ka with new objects, from the place b on: i are there -/
def e_fl (E0 : Nat → va_E) (x : va_E) (cA : ClassId) (N ka b i : Nat) (a : Nat → Nat) : Nat → va_E := fun p => if p = ka then e_rf cA N (fun j => if j < i then some (a (b + j)) else none) else if p < b then E0 p else x
/-- the loop: for (i = 0; i < N; i++) f[i] = new C() -/
theorem tk_fill {p : Program} {l : Launch} {e : Env} {R : Room} {s : State} {m : MethodId} {args : Array Value} {below : List Frame} {meth : Method} {c : Code} {Q : State → Prop} {D : va_G} {K : Nat → ClassId} {A : Nat → Prop} {own : String} {cc : ByteArray} (X : tk_Xc p s m args c D K A own cc 2)
    {C C1 : String} {T T1 : u_T} {N9 N1 ci cr ix ic fx jf N b ka kr t pc h0 c0 s0 : Nat} {fs fs0 : List Value} {E0 : Nat → va_E} {a0 : Nat → Nat} {y : MethodName} {cy : ByteArray} {Ni : Int}
    (d0 : decode cc pc = .ok (.iload_n 1, 1)) (d1 : decode cc (pc + 1) = .ok (.bipush Ni, 2)) (d3 : decode cc (pc + 3) = .ok (.if_icmp .ge 22, 3)) (d6 : decode cc (pc + 6) = .ok (.aload_n 0, 1)) (d7 : decode cc (pc + 7) = .ok (.getfield fx, 3)) (d10 : decode cc (pc + 10) = .ok (.iload_n 1, 1)) (d11 : decode cc (pc + 11) = .ok (.new ix, 3)) (d14 : decode cc (pc + 14) = .ok (.dup, 1)) (d15 : decode cc (pc + 15) = .ok (.invokespecial ic, 3)) (d18 : decode cc (pc + 18) = .ok (.aastore, 1)) (d19 : decode cc (pc + 19) = .ok (.iinc 1 1, 3)) (d22 : decode cc (pc + 22) = .ok (.goto (-22), 3))
    (hNi : (Int8.ofInt Ni).toInt32 = nI N) (hN : N < 1000) (hka : ka < b) (hkr : kr < b) (hne : kr ≠ ka) (hr0 : a0 kr = h0) (hc1 : tk_cl[cr]? = some (C1, T1, N1)) (hjf : jf < N1) (hE : E0 kr = .inr (cr, fs)) (hfl : Cond.fieldLink own fx (T1 jf).1 (T1 jf).2.1 (T1 jf).2.2.1 ∈ tk_tbl) (hfs : fs[jf]? = some (.ref (a0 ka)))
    (hc : tk_cl[ci]? = some (C, T, N9)) (hl : Cond.classLink own ix C ∈ tk_tbl) (hi : Cond.instantiable C N9 ∈ tk_tbl) (hini : Cond.initialized C ∈ tk_tbl) (hdf : ∀ j, j < N9 → (parseFieldDescriptor (T j).2.2.1).map defaultValue = some (vp_V fs0 j)) (ht : (tk_tys (fun _ => 0, D, K))[t]? = some (K t, .object C))
    (con : ∀ (h n : Nat) (a : Nat → Nat) (E : Nat → va_E), tk_Ci l y 1 12 0 0 D K h n a E (fun n' a' E' => n' = n ∧ a' = a ∧ E' = E)) (hw : Cond.code y cy 1 none ∈ tk_tbl) (hinst : Cond.instanceMethod y ∈ tk_tbl) (hlk : ∃ host, Cond.methodLinkNest own ic y host ∈ tk_nst) (hy1 : y.name = "<init>") (hy : y.cls ≠ "java/lang/invoke/MethodHandle" ∧ y.cls ≠ "java/lang/invoke/VarHandle") (hyp : plainName y.cls = true) (hyd : (parseMethodDescriptor y.desc).map (fun d => d.parameters.length) = some 0)
    (hfr : 2 ≤ R.frames) (hlo : 30 ≤ R.locals) (hcl : c0 + N ≤ R.cells) (hsl : s0 + N * N9 ≤ R.slots)
    (kk : ∀ (a : Nat → Nat) (H : Heap) (locs : List Loc) (ls : Array Slot), (∀ p, p < b → a p = a0 p) → tk_Vw D A (b + N) a (e_fl E0 (.inr (ci, fs0)) (K t) N ka b N a) H → va_S A s.heap H locs → lv_has ls 2 [(1, .int (nI N)), (0, .ref h0)] → W p l e R s m args below meth c H locs (c0 + N) (s0 + N * N9) Q (F0 m (pc + 25) ls [])) :
    ∀ (r i : Nat), i + r = N → ∀ (a : Nat → Nat) (H : Heap) (locs : List Loc) (ls : Array Slot), (∀ p, p < b → a p = a0 p) → tk_Vw D A (b + i) a (e_fl E0 (.inr (ci, fs0)) (K t) N ka b i a) H → va_S A s.heap H locs → lv_has ls 2 [(1, .int (nI i)), (0, .ref h0)] → W p l e R s m args below meth c H locs (c0 + i) (s0 + i * N9) Q (F0 m pc ls []) := by
  intro r
  induction r with
  | zero =>
    intro i hi9 a H locs ls ha hV hS hlv
    have e1 : i = N := by omega
    subst e1
    refine lv_iload_n X.1 X.2.1 d0 rfl (lv_at hlv 0 rfl) ?_
    refine lv_bipush X.1 X.2.1 d1 hNi ?_
    refine lv_icmp_ge (tgt := pc + 25) X.1 X.2.1 d3 (by push_cast; omega) (fun _ => kk a H locs ls ha hV hS hlv) (fun h => absurd (nI_le (Nat.le_refl _) (by omega)) h)
  | succ r ih =>
    intro i hi9 a H locs ls ha hV hS hlv
    have hi1 : i < N := by omega
    have hms : (i + 1) * N9 ≤ N * N9 := Nat.mul_le_mul_right _ (by omega)
    have hms2 : (i + 1) * N9 = i * N9 + N9 := Nat.succ_mul i N9
    refine lv_iload_n X.1 X.2.1 d0 rfl (lv_at hlv 0 rfl) ?_
    refine lv_bipush X.1 X.2.1 d1 hNi ?_
    refine lv_icmp_ge (tgt := pc + 25) X.1 X.2.1 d3 (by push_cast; omega) (fun h => absurd h (nI_ge hi1 (by omega))) (fun _ => ?_)
    refine lv_aload_n X.1 X.2.1 d6 rfl (lv_at hlv 1 rfl) ?_
    refine tk_vget (k := kr) (j := jf) (fs := fs) (v := .ref (a ka)) X hc1 hjf (by omega) (by unfold e_fl; rw [if_neg hne, if_pos hkr]; exact hE) hfl (by rw [ha ka hka]; exact hfs) (by rw [ha kr hkr]; exact hr0) d7 hV ?_
    refine lv_iload_n X.1 X.2.1 d10 rfl (lv_at hlv 0 rfl) ?_
    refine tk_vnew (ci := ci) (fs := fs0) X hc hl hi hini hdf (by omega) (by omega) d11 hV hS fun a' H1 ha1 hV1 hS1 => ?_
    refine lv_dup X.1 X.2.1 d14 rfl ?_
    refine tk_vcall X (con (a' (b + i)) (b + i + 1) a' _) hw hinst (Or.inr hlk) hy1 hy hyp hyd d15 hlv.1 (by omega) (by show 1 + (1 + (1 + 0)) + (1 + 11) + 12 ≤ _; omega) (by omega) (by omega) hV1 hS1 ?_
    rintro _ a' _ H2 locs2 ⟨rfl, rfl, rfl⟩ hV2 hS2
    refine tk_vast (k := ka) (w := b + i) (i9 := i) (N9 := N) (f := fun j => if j < i then some (a (b + j)) else none) (vs := fs0) X ht hc (by omega) (by rw [if_neg (by omega)]; unfold e_fl; rw [if_pos rfl]; rfl) (by omega) (by rw [if_pos rfl]) hi1 hN (ha1 ka (by omega)) d18 hV2 hS2 fun H3 locs3 hV3 hS3 => ?_
    refine lv_iinc (k := 0) (v := nI (i + 1)) X.1 X.2.1 d19 hlv rfl (by rw [nI_succ]; rfl) (by decide) rfl fun ls' hlv' => ?_
    refine lv_goto (tgt := pc) X.1 X.2.1 d22 (by push_cast; omega) ?_
    have hV4 : tk_Vw D A (b + (i + 1)) a' (e_fl E0 (.inr (ci, fs0)) (K t) N ka b (i + 1) a') H3 := by
      refine tk_Vw.eq hV3 fun q hq => ?_
      unfold e_fl
      by_cases e1 : q = ka
      · rw [if_pos e1, if_pos e1]
        show e_rf _ _ _ = e_rf _ _ _
        congr 1
        funext j
        unfold va_up
        by_cases e2 : j = i
        · rw [if_pos (show j < i + 1 by omega), if_pos e2, e2]
        · rw [if_neg e2]
          show _ = (if j < i then some (a (b + j)) else none)
          by_cases e3 : j < i
          · rw [if_pos (show j < i + 1 by omega), if_pos e3, ha1 (b + j) (by omega)]
          · rw [if_neg (show ¬ j < i + 1 by omega), if_neg e3]
      · rw [if_neg e1, if_neg e1]
        by_cases e2 : q = b + i
        · rw [if_neg (show ¬ q < b by omega), if_pos e2]
        · rw [if_neg e2, if_neg e1]
    have h9 := ih (i + 1) (by omega) a' H3 locs3 ls' (fun q hq => by rw [ha1 q (by omega)]; exact ha q hq) hV4 hS3 hlv'
    rw [show c0 + (i + 1) = c0 + i + 1 + 0 from rfl, show s0 + (i + 1) * N9 = s0 + i * N9 + N9 + 0 by omega] at h9
    exact h9
