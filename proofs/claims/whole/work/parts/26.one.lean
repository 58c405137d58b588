/-! one instruction of the walker is one of the machine -/
section TKO
variable {p : Program} {l : Launch} {e : Env} {R : Room} {s : State} {m : MethodId} {args : Array Value} {below : List Frame} {meth : Method} {c : Code} {cells slots : Nat} {Q : State → Prop} {G : tk_G} {A : Nat → Prop} {nL : Nat} {L : Nat} {xs : Nat → Int32}
theorem tk_ifW {cc : ByteArray} (hx : p.tables.exec = Jvm.exec) (hb : c.code = cc) {H : Heap} {locs : List Loc} {ls : Array Slot} {rest : List Value} {pc t : Nat} {o : Int} (cd : Jvm.ClassFile.Cond) {a : Int} (ha : -2147483648 ≤ a ∧ a < 2147483648) (hd : decode cc pc = .ok (.ifCond cd o, 3)) (ht : (pc : Int) + o = (t : Int))
    (kt : tk_c cd a 0 → W p l e R s m args below meth c H locs cells slots Q (F0 m t ls rest)) (kf : ¬ tk_c cd a 0 → W p l e R s m args below meth c H locs cells slots Q (F0 m (pc + 3) ls rest)) : W p l e R s m args below meth c H locs cells slots Q (F0 m pc ls (.int (Int32.ofInt a) :: rest)) := by
  have h0 : -2147483648 ≤ (0 : Int) ∧ (0 : Int) < 2147483648 := by decide
  cases cd with
  | eq => exact lv_if_eq hx hb hd ht (fun h => kt ((tk_eqI ha h0).mp h)) (fun h => kf (fun q => h ((tk_eqI ha h0).mpr q)))
  | ne => exact lv_if_ne hx hb hd ht (fun h => kt (fun q => h ((tk_eqI ha h0).mpr q))) (fun h => kf (fun q => q ((tk_eqI ha h0).mp h)))
  | lt => exact lv_if_lt hx hb hd ht (fun h => kt ((tk_ltI ha h0).mp h)) (fun h => kf (fun q => h ((tk_ltI ha h0).mpr q)))
  | ge => exact lv_if_ge hx hb hd ht (fun h => kt ((tk_leI h0 ha).mp h)) (fun h => kf (fun q => h ((tk_leI h0 ha).mpr q)))
  | gt => exact lv_if_gt hx hb hd ht (fun h => kt ((tk_ltI h0 ha).mp h)) (fun h => kf (fun q => h ((tk_ltI h0 ha).mpr q)))
  | le => exact lv_if_le hx hb hd ht (fun h => kt ((tk_leI ha h0).mp h)) (fun h => kf (fun q => h ((tk_leI ha h0).mpr q)))
theorem tk_cmpW {cc : ByteArray} (hx : p.tables.exec = Jvm.exec) (hb : c.code = cc) {H : Heap} {locs : List Loc} {ls : Array Slot} {rest : List Value} {pc t : Nat} {o : Int} (cd : Jvm.ClassFile.Cond) {a b : Int} (ha : -2147483648 ≤ a ∧ a < 2147483648) (h0 : -2147483648 ≤ b ∧ b < 2147483648) (hd : decode cc pc = .ok (.if_icmp cd o, 3)) (ht : (pc : Int) + o = (t : Int))
    (kt : tk_c cd a b → W p l e R s m args below meth c H locs cells slots Q (F0 m t ls rest)) (kf : ¬ tk_c cd a b → W p l e R s m args below meth c H locs cells slots Q (F0 m (pc + 3) ls rest)) : W p l e R s m args below meth c H locs cells slots Q (F0 m pc ls (.int (Int32.ofInt b) :: .int (Int32.ofInt a) :: rest)) := by
  cases cd with
  | eq => exact lv_icmp_eq hx hb hd ht (fun h => kt ((tk_eqI ha h0).mp h)) (fun h => kf (fun q => h ((tk_eqI ha h0).mpr q)))
  | ne => exact lv_icmp_ne hx hb hd ht (fun h => kt (fun q => h ((tk_eqI ha h0).mpr q))) (fun h => kf (fun q => q ((tk_eqI ha h0).mp h)))
  | lt => exact lv_icmp_lt hx hb hd ht (fun h => kt ((tk_ltI ha h0).mp h)) (fun h => kf (fun q => h ((tk_ltI ha h0).mpr q)))
  | ge => exact lv_icmp_ge hx hb hd ht (fun h => kt ((tk_leI h0 ha).mp h)) (fun h => kf (fun q => h ((tk_leI h0 ha).mpr q)))
  | gt => exact lv_icmp_gt hx hb hd ht (fun h => kt ((tk_ltI h0 ha).mp h)) (fun h => kf (fun q => h ((tk_ltI h0 ha).mpr q)))
  | le => exact lv_icmp_le hx hb hd ht (fun h => kt ((tk_leI ha h0).mp h)) (fun h => kf (fun q => h ((tk_leI ha h0).mpr q)))
theorem tk_cmp_r (a b : Int) : tk_rv (.inl (.inl (tk_cmp a b))) := by
  show -2147483648 ≤ tk_cmp a b ∧ tk_cmp a b < 2147483648
  unfold tk_cmp
  by_cases h1 : a < b
  · rw [if_pos h1]; decide
  · rw [if_neg h1]
    by_cases h2 : a = b
    · rw [if_pos h2]; decide
    · rw [if_neg h2]; decide
theorem tk_lgcmp {a b : Int} (ha : -2147483648 ≤ a ∧ a < 2147483648) (hb : -2147483648 ≤ b ∧ b < 2147483648) : lg_cmp (Int64.ofInt a) (Int64.ofInt b) = Int32.ofInt (tk_cmp a b) := by
  unfold lg_cmp tk_cmp
  simp only [gt_iff_lt, Int64.lt_iff_toInt_lt, ← Int64.toInt_inj, tk_tiL ha.1 ha.2, tk_tiL hb.1 hb.2]
  by_cases h1 : a < b
  · rw [if_pos h1, if_neg (by omega : ¬ b < a), if_neg (by omega : ¬ a = b)]; rfl
  · by_cases h2 : a = b
    · rw [if_neg h1, if_pos h2, if_neg (by omega : ¬ b < a), if_pos h2]; rfl
    · rw [if_pos (by omega : b < a), if_neg h1, if_neg h2]; rfl
theorem tk_scno {α : Prop} {b9 : Bool} {a ty n b : Nat} {P : Prop} (hm : (a, ty + 1, n, b) ∈ tk_ars) (h : (bif b9 && Nat.beq a tk_sc then P else False)) : α := by
  have h1 := (tk_ars_ok _ hm).1
  dsimp only at h1
  cases h8 : (b9 && Nat.beq a tk_sc) with
  | false => rw [h8] at h; exact h.elim
  | true =>
    rw [Bool.and_eq_true] at h8
    have ea : a = tk_sc := Nat.eq_of_beq_eq_true h8.2
    rw [ea] at h1
    exact absurd h1 (by decide)
theorem tk_scld {cc : ByteArray} {b9 : Bool} {H : Heap} {locs : List Loc} {ls : Array Slot} {rest : List Value} {pc a : Nat} {i : Int} {P : Prop} (hx : p.tables.exec = Jvm.exec) (hb : c.code = cc) (h9 : b9 = true → va_X (G.1 tk_sc) L xs s s.heap ∧ G.1 tk_sc < s.heap.size ∧ ¬ A (G.1 tk_sc) ∧ L < 2147483648) (hS : va_S A s.heap H locs) (hir : -2147483648 ≤ i ∧ i < 2147483648) (hd : decode cc pc = .ok (.iaload, 1))
    (h : (bif b9 && Nat.beq a tk_sc then (0 ≤ i ∧ i < (L : Int)) ∧ P else False)) (k : P → W p l e R s m args below meth c H locs cells slots Q (F0 m (pc + 1) ls (.int (Int32.ofInt (xs i.toNat).toInt) :: rest))) : W p l e R s m args below meth c H locs cells slots Q (F0 m pc ls (.int (Int32.ofInt i) :: .ref (G.1 a) :: rest)) := by
  cases h8 : (b9 && Nat.beq a tk_sc) with
  | false => rw [h8] at h; exact h.elim
  | true =>
    rw [h8] at h
    rw [Bool.and_eq_true] at h8
    have ea : a = tk_sc := Nat.eq_of_beq_eq_true h8.2
    subst ea
    obtain ⟨k1, k2, k3, k4⟩ := h9 h8.1
    obtain ⟨⟨g1, g2⟩, h⟩ := h
    refine va_sld hx hb k1 k2 k3 hS (tk_in g1 g2 hir.2) hd ?_
    rw [tk_clm g1 hir.2]
    have := k h
    rw [Int32.ofInt_toInt] at this
    exact this
set_option maxHeartbeats 4000000 in
set_option maxRecDepth 100000 in
theorem tk_one {own : String} {cc : ByteArray} {b9 : Bool} {fl : tk_FL} {cs : List (Nat × Int)} (X : tk_X p s m args c G A nL own cc b9 L xs) (hfl : tk_flok own fl) (hcs : tk_csok own cs) {K : tk_Lc → List tk_V → tk_M → Prop} {J : Nat → tk_Lc → List tk_V → tk_M → Prop} {RQ : Option Int → tk_M → Prop}
    {q : tk_E} (hq : tk_ok cc nL q = true) {lo : tk_Lc} {st : List tk_V} {M : tk_M} (h : tk_I fl cs b9 L xs K J RQ q.2.1 q.2.2.2 lo st M)
    (hK : ∀ lo st M, K lo st M → tk_W p l e R s m args below meth c cells slots Q G A nL q.2.2.1 lo st M) (hJ : ∀ t lo st M, J t lo st M → tk_W p l e R s m args below meth c cells slots Q G A nL t lo st M)
    (hRQ : tk_Rt p l e R s m args below meth c cells slots Q G A cc RQ) : tk_W p l e R s m args below meth c cells slots Q G A nL q.1 lo st M := by
  obtain ⟨len, hd, hlen, hi⟩ := tk_ok_dec hq
  obtain ⟨pc, i, nx, tg⟩ := q
  dsimp only at hd hlen hi h hK ⊢
  obtain ⟨hx, hb, hml, hown, hts, hKn, hSt, hA, h9⟩ := X
  subst hlen
  intro H locs ls hW hS hl hr
  have hP := hW.1
  have hM := hW.2
  have hD := hSt.D (M := M)
  cases i with
  | iconst n =>
    simp only [tk_okI, Bool.and_eq_true, decide_eq_true_eq, beq_iff_eq] at hi
    obtain ⟨⟨h1, h2⟩, rfl⟩ := hi
    exact lv_iconst hx hb hd rfl (hK _ _ _ h H locs ls hW hS hl (tk_rs.cons ⟨by omega, by omega⟩ hr))
  | bipush n =>
    simp only [tk_okI, Bool.and_eq_true, decide_eq_true_eq, beq_iff_eq] at hi
    obtain ⟨⟨h1, h2⟩, rfl⟩ := hi
    refine lv_bipush hx hb hd ?_ (hK _ _ _ h H locs ls hW hS hl (tk_rs.cons ⟨by omega, by omega⟩ hr))
    apply Int32.toInt_inj.mp
    rw [tk_ti (by omega) (by omega), Int8.toInt_toInt32, Int8.toInt_ofInt_of_le (by omega) (by omega)]
  | sipush n =>
    simp only [tk_okI, Bool.and_eq_true, decide_eq_true_eq, beq_iff_eq] at hi
    obtain ⟨⟨h1, h2⟩, rfl⟩ := hi
    refine lv_sipush hx hb hd ?_ (hK _ _ _ h H locs ls hW hS hl (tk_rs.cons ⟨by omega, by omega⟩ hr))
    apply Int32.toInt_inj.mp
    rw [tk_ti (by omega) (by omega), Int16.toInt_toInt32, Int16.toInt_ofInt_of_le (by omega) (by omega)]
  | ldc x =>
    simp only [tk_okI, beq_iff_eq] at hi
    subst hi
    simp only [tk_I] at h
    cases hc : tk_lk cs x with
    | none => rw [hc] at h; exact h.elim
    | some n =>
      rw [hc] at h
      obtain ⟨c1, c2, c3⟩ := hcs _ (tk_lk_mem hc)
      exact lv_ldc hx hb hown (hts _ c1) hd (hK _ _ _ h H locs ls hW hS hl (tk_rs.cons ⟨c2, c3⟩ hr))
  | iload_n k =>
    simp only [tk_okI, beq_iff_eq] at hi
    subst hi
    simp only [tk_I] at h
    cases hc : tk_gt lo k.val with
    | none => rw [hc] at h; exact h.elim
    | some u =>
      cases u with
      | inr a => rw [hc] at h; exact h.elim
      | inl x =>
        rw [hc] at h
        exact lv_iload_n hx hb hd rfl (hl.at hc) (hK _ _ _ h H locs ls hW hS hl (tk_rs.cons (hl.2.2 _ _ hc) hr))
  | iload k =>
    simp only [tk_okI, beq_iff_eq] at hi
    subst hi
    simp only [tk_I] at h
    cases hc : tk_gt lo k with
    | none => rw [hc] at h; exact h.elim
    | some u =>
      cases u with
      | inr a => rw [hc] at h; exact h.elim
      | inl x =>
        rw [hc] at h
        exact lv_iload hx hb hd (hl.at hc) (hK _ _ _ h H locs ls hW hS hl (tk_rs.cons (hl.2.2 _ _ hc) hr))
  | aload_n k =>
    simp only [tk_okI, beq_iff_eq] at hi
    subst hi
    simp only [tk_I] at h
    cases hc : tk_gt lo k.val with
    | none => rw [hc] at h; exact h.elim
    | some u =>
      cases u with
      | inl a => rw [hc] at h; exact h.elim
      | inr x =>
        rw [hc] at h
        exact lv_aload_n hx hb hd rfl (hl.at hc) (hK _ _ _ h H locs ls hW hS hl (tk_rs.cons (hl.2.2 _ _ hc) hr))
  | aload k =>
    simp only [tk_okI, beq_iff_eq] at hi
    subst hi
    simp only [tk_I] at h
    cases hc : tk_gt lo k with
    | none => rw [hc] at h; exact h.elim
    | some u =>
      cases u with
      | inl a => rw [hc] at h; exact h.elim
      | inr x =>
        rw [hc] at h
        exact lv_aload hx hb hd (hl.at hc) (hK _ _ _ h H locs ls hW hS hl (tk_rs.cons (hl.2.2 _ _ hc) hr))
  | istore_n k =>
    simp only [tk_okI, Bool.and_eq_true, decide_eq_true_eq, beq_iff_eq] at hi
    obtain ⟨h1, rfl⟩ := hi
    simp only [tk_I] at h
    match st, h, hr with
    | .inl (.inl x) :: st, h, hr => exact lv_istore_n hx hb hd rfl hl.2.1 h1 rfl (fun ls' hl' => hK _ _ _ h H locs ls' hW hS (hl.store (v := .inl x) h1 hr.hd hl') hr.tl)
    | .inl (.inr x) :: st, h, hr => exact h.elim
    | .inr x :: st, h, hr => exact h.elim
    | [], h, hr => exact h.elim
  | istore k =>
    simp only [tk_okI, Bool.and_eq_true, decide_eq_true_eq, beq_iff_eq] at hi
    obtain ⟨h1, rfl⟩ := hi
    simp only [tk_I] at h
    match st, h, hr with
    | .inl (.inl x) :: st, h, hr => exact lv_istore hx hb hd hl.2.1 h1 rfl (fun ls' hl' => hK _ _ _ h H locs ls' hW hS (hl.store (v := .inl x) h1 hr.hd hl') hr.tl)
    | .inl (.inr x) :: st, h, hr => exact h.elim
    | .inr x :: st, h, hr => exact h.elim
    | [], h, hr => exact h.elim
  | astore_n k =>
    simp only [tk_okI, Bool.and_eq_true, decide_eq_true_eq, beq_iff_eq] at hi
    obtain ⟨h1, rfl⟩ := hi
    simp only [tk_I] at h
    match st, h, hr with
    | .inl (.inr x) :: st, h, hr => exact lv_astore_n hx hb hd rfl hl.2.1 h1 rfl (fun ls' hl' => hK _ _ _ h H locs ls' hW hS (hl.store (v := .inr x) h1 hr.hd hl') hr.tl)
    | .inl (.inl x) :: st, h, hr => exact h.elim
    | .inr x :: st, h, hr => exact h.elim
    | [], h, hr => exact h.elim
  | astore k =>
    simp only [tk_okI, Bool.and_eq_true, decide_eq_true_eq, beq_iff_eq] at hi
    obtain ⟨h1, rfl⟩ := hi
    simp only [tk_I] at h
    match st, h, hr with
    | .inl (.inr x) :: st, h, hr => exact lv_astore hx hb hd hl.2.1 h1 rfl (fun ls' hl' => hK _ _ _ h H locs ls' hW hS (hl.store (v := .inr x) h1 hr.hd hl') hr.tl)
    | .inl (.inl x) :: st, h, hr => exact h.elim
    | .inr x :: st, h, hr => exact h.elim
    | [], h, hr => exact h.elim
  | iinc k n =>
    simp only [tk_okI, Bool.and_eq_true, decide_eq_true_eq, beq_iff_eq] at hi
    obtain ⟨⟨⟨h1, h2⟩, h3⟩, rfl⟩ := hi
    simp only [tk_I] at h
    cases hc : tk_gt lo k with
    | none => rw [hc] at h; exact h.elim
    | some u =>
      cases u with
      | inr a => rw [hc] at h; exact h.elim
      | inl x =>
        rw [hc] at h
        obtain ⟨r1, r2, h⟩ := h
        have hm : (k, tk_cv G (.inl (.inl x))) ∈ tk_lv G 0 lo := tk_lv_mem.mpr ⟨k, .inl x, by rw [Nat.zero_add], hc⟩
        obtain ⟨kk, hkk⟩ := List.getElem?_of_mem hm
        exact lv_iinc (v := Int32.ofInt (x + n)) hx hb hd hl.2.1 hkk (by rw [Int32.ofInt_add]) h1 rfl (fun ls' hl' => hK _ _ _ h H locs ls' hW hS (hl.store (v := .inl (x + n)) h1 ⟨r1, r2⟩ hl') hr)
  | iadd =>
    simp only [tk_okI, beq_iff_eq] at hi
    subst hi
    simp only [tk_I] at h
    match st, h, hr with
    | .inl (.inl b) :: .inl (.inl a) :: st, h, hr =>
      obtain ⟨r1, r2, h⟩ := h
      have h3 := hK _ _ _ h H locs ls hW hS hl (tk_rs.cons ⟨r1, r2⟩ hr.tl.tl)
      refine lv_iadd hx hb hd ?_
      rw [← Int32.ofInt_add]
      exact h3
    | .inl (.inl b) :: .inl (.inr a) :: st, h, hr => exact h.elim
    | .inl (.inl b) :: .inr a :: st, h, hr => exact h.elim
    | [.inl (.inl b)], h, hr => exact h.elim
    | .inl (.inr x) :: st, h, hr => exact h.elim
    | .inr x :: st, h, hr => exact h.elim
    | [], h, hr => exact h.elim
  | isub =>
    simp only [tk_okI, beq_iff_eq] at hi
    subst hi
    simp only [tk_I] at h
    match st, h, hr with
    | .inl (.inl b) :: .inl (.inl a) :: st, h, hr =>
      obtain ⟨r1, r2, h⟩ := h
      have h3 := hK _ _ _ h H locs ls hW hS hl (tk_rs.cons ⟨r1, r2⟩ hr.tl.tl)
      refine lv_isub hx hb hd ?_
      rw [← Int32.ofInt_sub]
      exact h3
    | .inl (.inl b) :: .inl (.inr a) :: st, h, hr => exact h.elim
    | .inl (.inl b) :: .inr a :: st, h, hr => exact h.elim
    | [.inl (.inl b)], h, hr => exact h.elim
    | .inl (.inr x) :: st, h, hr => exact h.elim
    | .inr x :: st, h, hr => exact h.elim
    | [], h, hr => exact h.elim
  | iand =>
    simp only [tk_okI, beq_iff_eq] at hi
    subst hi
    simp only [tk_I] at h
    match st, h, hr with
    | .inl (.inl b) :: .inl (.inl a) :: st, h, hr =>
      have h3 := hK _ _ _ h H locs ls hW hS hl (tk_rs.cons (tk_rT _) hr.tl.tl)
      refine lv_iand hx hb hd ?_
      rw [← Int32.ofInt_toInt (Int32.ofInt a &&& Int32.ofInt b)]
      exact h3
    | .inl (.inl b) :: .inl (.inr a) :: st, h, hr => exact h.elim
    | .inl (.inl b) :: .inr a :: st, h, hr => exact h.elim
    | [.inl (.inl b)], h, hr => exact h.elim
    | .inl (.inr x) :: st, h, hr => exact h.elim
    | .inr x :: st, h, hr => exact h.elim
    | [], h, hr => exact h.elim
  | ior =>
    simp only [tk_okI, beq_iff_eq] at hi
    subst hi
    simp only [tk_I] at h
    match st, h, hr with
    | .inl (.inl b) :: .inl (.inl a) :: st, h, hr =>
      have h3 := hK _ _ _ h H locs ls hW hS hl (tk_rs.cons (tk_rT _) hr.tl.tl)
      refine lv_ior hx hb hd ?_
      rw [← Int32.ofInt_toInt (Int32.ofInt a ||| Int32.ofInt b)]
      exact h3
    | .inl (.inl b) :: .inl (.inr a) :: st, h, hr => exact h.elim
    | .inl (.inl b) :: .inr a :: st, h, hr => exact h.elim
    | [.inl (.inl b)], h, hr => exact h.elim
    | .inl (.inr x) :: st, h, hr => exact h.elim
    | .inr x :: st, h, hr => exact h.elim
    | [], h, hr => exact h.elim
  | ishl =>
    simp only [tk_okI, beq_iff_eq] at hi
    subst hi
    simp only [tk_I] at h
    match st, h, hr with
    | .inl (.inl b) :: .inl (.inl a) :: st, h, hr =>
      have h3 := hK _ _ _ h H locs ls hW hS hl (tk_rs.cons (tk_rT _) hr.tl.tl)
      refine lv_ishl hx hb hd ?_
      rw [← Int32.ofInt_toInt (Int32.ofInt a <<< (Int32.ofInt b &&& 31))]
      exact h3
    | .inl (.inl b) :: .inl (.inr a) :: st, h, hr => exact h.elim
    | .inl (.inl b) :: .inr a :: st, h, hr => exact h.elim
    | [.inl (.inl b)], h, hr => exact h.elim
    | .inl (.inr x) :: st, h, hr => exact h.elim
    | .inr x :: st, h, hr => exact h.elim
    | [], h, hr => exact h.elim
  | ishr =>
    simp only [tk_okI, beq_iff_eq] at hi
    subst hi
    simp only [tk_I] at h
    match st, h, hr with
    | .inl (.inl b) :: .inl (.inl a) :: st, h, hr =>
      have h3 := hK _ _ _ h H locs ls hW hS hl (tk_rs.cons (tk_rT _) hr.tl.tl)
      refine lv_ishr hx hb hd ?_
      rw [← Int32.ofInt_toInt (Int32.ofInt a >>> (Int32.ofInt b &&& 31))]
      exact h3
    | .inl (.inl b) :: .inl (.inr a) :: st, h, hr => exact h.elim
    | .inl (.inl b) :: .inr a :: st, h, hr => exact h.elim
    | [.inl (.inl b)], h, hr => exact h.elim
    | .inl (.inr x) :: st, h, hr => exact h.elim
    | .inr x :: st, h, hr => exact h.elim
    | [], h, hr => exact h.elim
  | iushr =>
    simp only [tk_okI, beq_iff_eq] at hi
    subst hi
    simp only [tk_I] at h
    match st, h, hr with
    | .inl (.inl b) :: .inl (.inl a) :: st, h, hr =>
      have h3 := hK _ _ _ h H locs ls hW hS hl (tk_rs.cons (tk_rT _) hr.tl.tl)
      refine lv_iushr hx hb hd rfl ?_
      rw [← Int32.ofInt_toInt ((Int32.ofInt a).toUInt32 >>> ((Int32.ofInt b).toUInt32 &&& Int32.toUInt32 31)).toInt32]
      exact h3
    | .inl (.inl b) :: .inl (.inr a) :: st, h, hr => exact h.elim
    | .inl (.inl b) :: .inr a :: st, h, hr => exact h.elim
    | [.inl (.inl b)], h, hr => exact h.elim
    | .inl (.inr x) :: st, h, hr => exact h.elim
    | .inr x :: st, h, hr => exact h.elim
    | [], h, hr => exact h.elim
  | ldc_w x =>
    simp only [tk_okI, beq_iff_eq] at hi
    subst hi
    simp only [tk_I] at h
    cases hc : tk_lk cs x with
    | none => rw [hc] at h; exact h.elim
    | some n =>
      rw [hc] at h
      obtain ⟨c1, c2, c3⟩ := hcs _ (tk_lk_mem hc)
      exact lv_ldcw hx hb hown (hts _ c1) hd (hK _ _ _ h H locs ls hW hS hl (tk_rs.cons ⟨c2, c3⟩ hr))
  | ifCond cd o =>
    simp only [tk_okI, Bool.and_eq_true, beq_iff_eq] at hi
    obtain ⟨rfl, hi⟩ := hi
    simp only [tk_I] at h
    match tg, hi with
    | [t], hi =>
      match st, h, hr with
      | .inl (.inl a) :: st, h, hr => exact tk_ifW hx hb cd hr.hd hd (of_decide_eq_true hi) (fun z => hJ _ _ _ _ (h.1 z) H locs ls hW hS hl hr.tl) (fun z => hK _ _ _ (h.2 z) H locs ls hW hS hl hr.tl)
      | .inl (.inr a) :: st, h, hr => exact h.elim
      | .inr a :: st, h, hr => exact h.elim
      | [], h, hr => exact h.elim
    | [], hi => cases hi
    | _ :: _ :: _, hi => cases hi
  | if_icmp cd o =>
    simp only [tk_okI, Bool.and_eq_true, beq_iff_eq] at hi
    obtain ⟨rfl, hi⟩ := hi
    simp only [tk_I] at h
    match tg, hi with
    | [t], hi =>
      match st, h, hr with
      | .inl (.inl b) :: .inl (.inl a) :: st, h, hr => exact tk_cmpW hx hb cd hr.tl.hd hr.hd hd (of_decide_eq_true hi) (fun z => hJ _ _ _ _ (h.1 z) H locs ls hW hS hl hr.tl.tl) (fun z => hK _ _ _ (h.2 z) H locs ls hW hS hl hr.tl.tl)
      | .inl (.inl b) :: .inl (.inr a) :: st, h, hr => exact h.elim
      | .inl (.inl b) :: .inr a :: st, h, hr => exact h.elim
      | [.inl (.inl b)], h, hr => exact h.elim
      | .inl (.inr a) :: st, h, hr => exact h.elim
      | .inr a :: st, h, hr => exact h.elim
      | [], h, hr => exact h.elim
    | [], hi => cases hi
    | _ :: _ :: _, hi => cases hi
  | goto o =>
    simp only [tk_okI, Bool.and_eq_true, beq_iff_eq] at hi
    obtain ⟨rfl, hi⟩ := hi
    simp only [tk_I] at h
    match tg, hi, h with
    | [t], hi, h => exact lv_goto hx hb hd (of_decide_eq_true hi) (hJ _ _ _ _ h H locs ls hW hS hl hr)
    | [], hi, h => cases hi
    | _ :: _ :: _, hi, h => cases hi
  | tableswitch d lw hg os =>
    simp only [tk_okI] at hi
    simp only [tk_I] at h
    match tg, hi with
    | [], hi => cases hi
    | t :: ts, hi =>
      simp only [Bool.and_eq_true, decide_eq_true_eq] at hi
      obtain ⟨⟨h1, h2⟩, h3⟩ := hi
      match st, h, hr with
      | .inl (.inl x) :: st, h, hr =>
        have hxr := hr.hd
        have ex : (Int32.ofInt x).toInt = x := tk_ti hxr.1 hxr.2
        by_cases ho : x < lw ∨ hg < x
        · exact lv_tableOut hx hb hd (by rw [ex]; exact ho) h1 (hJ _ _ _ _ (h.1 ho) H locs ls hW hS hl hr.tl)
        · have l1 : ¬ x < lw := fun z => ho (Or.inl z)
          have l2 : ¬ hg < x := fun z => ho (Or.inr z)
          have hk : (x - lw).toNat < ts.length := by omega
          have ht : ts[(x - lw).toNat]? = some ts[(x - lw).toNat] := List.getElem?_eq_getElem hk
          have hos : (os.toList.map (fun o => (pc : Int) + o))[(x - lw).toNat]? = some ((ts[(x - lw).toNat] : Nat) : Int) := by
            rw [h2, List.getElem?_map, ht]; rfl
          rw [List.getElem?_map] at hos
          cases hq9 : os.toList[(x - lw).toNat]? with
          | none => rw [hq9] at hos; cases hos
          | some off =>
            rw [hq9] at hos
            have e1 : (pc : Int) + off = ((ts[(x - lw).toNat] : Nat) : Int) := Option.some.inj hos
            refine lv_tableIn hx hb hd (by rw [ex]; exact l1) (by rw [ex]; exact l2) (off := off) (by rw [ex, ← Array.getElem?_toList]; exact hq9) e1 (hJ _ _ _ _ (tk_sw_at h.2 (x - lw).toNat _ ht (by omega)) H locs ls hW hS hl hr.tl)
      | .inl (.inr a) :: st, h, hr => exact h.elim
      | .inr a :: st, h, hr => exact h.elim
      | [], h, hr => exact h.elim
  | dup =>
    simp only [tk_okI, beq_iff_eq] at hi
    subst hi
    simp only [tk_I] at h
    match st, h, hr with
    | .inl v :: st, h, hr => exact lv_dup hx hb hd (tk_cat v) (hK _ _ _ h H locs ls hW hS hl (tk_rs.cons hr.hd hr))
    | .inr a :: st, h, hr => exact h.elim
    | [], h, hr => exact h.elim
  | dup_x1 =>
    simp only [tk_okI, beq_iff_eq] at hi
    subst hi
    simp only [tk_I] at h
    match st, h, hr with
    | .inl v :: .inl w :: st, h, hr => exact lv_dup_x1 hx hb hd (tk_cat v) (tk_cat w) (hK _ _ _ h H locs ls hW hS hl (tk_rs.cons hr.hd (tk_rs.cons hr.tl.hd (tk_rs.cons hr.hd hr.tl.tl))))
    | .inl v :: .inr w :: st, h, hr => exact h.elim
    | [.inl v], h, hr => exact h.elim
    | .inr a :: st, h, hr => exact h.elim
    | [], h, hr => exact h.elim
  | dup_x2 =>
    simp only [tk_okI, beq_iff_eq] at hi
    subst hi
    simp only [tk_I] at h
    match st, h, hr with
    | .inl v :: .inl w :: .inl z :: st, h, hr => exact lv_dup_x2 hx hb hd (tk_cat v) (tk_cat w) (tk_cat z) (hK _ _ _ h H locs ls hW hS hl (tk_rs.cons hr.hd (tk_rs.cons hr.tl.hd (tk_rs.cons hr.tl.tl.hd (tk_rs.cons hr.hd hr.tl.tl.tl)))))
    | .inl v :: .inl w :: .inr z :: st, h, hr => exact h.elim
    | [.inl v, .inl w], h, hr => exact h.elim
    | .inl v :: .inr w :: st, h, hr => exact h.elim
    | [.inl v], h, hr => exact h.elim
    | .inr a :: st, h, hr => exact h.elim
    | [], h, hr => exact h.elim
  | dup2 =>
    simp only [tk_okI, beq_iff_eq] at hi
    subst hi
    simp only [tk_I] at h
    match st, h, hr with
    | .inl v :: .inl w :: st, h, hr => exact lv_dup2_11 hx hb hd (tk_cat v) (tk_cat w) (hK _ _ _ h H locs ls hW hS hl (tk_rs.cons hr.hd (tk_rs.cons hr.tl.hd hr)))
    | .inl v :: .inr w :: st, h, hr => exact h.elim
    | [.inl v], h, hr => exact h.elim
    | .inr a :: st, h, hr => exact h.elim
    | [], h, hr => exact h.elim
  | pop =>
    simp only [tk_okI, beq_iff_eq] at hi
    subst hi
    simp only [tk_I] at h
    match st, h, hr with
    | .inl v :: st, h, hr => exact lv_pop hx hb hd (tk_cat v) (hK _ _ _ h H locs ls hW hS hl hr.tl)
    | .inr a :: st, h, hr => exact h.elim
    | [], h, hr => exact h.elim
  | i2l =>
    simp only [tk_okI, beq_iff_eq] at hi
    subst hi
    simp only [tk_I] at h
    match st, h, hr with
    | .inl (.inl x) :: st, h, hr =>
      have hxr := hr.hd
      exact lv_i2l (v := Int64.ofInt x) hx hb hd (Int64.toInt_inj.mp (by rw [Int32.toInt_toInt64, tk_ti hxr.1 hxr.2, tk_tiL hxr.1 hxr.2])) (hK _ _ _ h H locs ls hW hS hl (tk_rs.cons hxr hr.tl))
    | .inl (.inr a) :: st, h, hr => exact h.elim
    | .inr a :: st, h, hr => exact h.elim
    | [], h, hr => exact h.elim
  | lconst k =>
    simp only [tk_okI, beq_iff_eq] at hi
    subst hi
    simp only [tk_I] at h
    have hk2 : k.val < 2 := k.isLt
    exact lv_lconst (v := Int64.ofInt (k.val : Int)) hx hb hd rfl (hK _ _ _ h H locs ls hW hS hl (tk_rs.cons ⟨by omega, by omega⟩ hr))
  | lcmp =>
    simp only [tk_okI, beq_iff_eq] at hi
    subst hi
    simp only [tk_I] at h
    match st, h, hr with
    | .inr b :: .inr a :: st, h, hr =>
      have hbr := hr.hd
      have har := hr.tl.hd
      have h3 := hK _ _ _ h H locs ls hW hS hl (tk_rs.cons (tk_cmp_r a b) hr.tl.tl)
      refine W.lcmp hx hb hd ?_
      have e1 : lg_cmp (Int64.ofInt a) (Int64.ofInt b) = Int32.ofInt (tk_cmp a b) := tk_lgcmp har hbr
      rw [e1]
      exact h3
    | .inr b :: .inl a :: st, h, hr => exact h.elim
    | [.inr b], h, hr => exact h.elim
    | .inl a :: st, h, hr => exact h.elim
    | [], h, hr => exact h.elim
  | getfield x =>
    simp only [tk_okI, beq_iff_eq] at hi
    subst hi
    simp only [tk_I] at h
    match st, h, hr with
    | .inl (.inr a) :: st, h, hr =>
      cases hc : tk_lk fl x with
      | none => rw [hc] at h; exact h.elim
      | some q =>
        obtain ⟨k, j, lw, hg, ty⟩ := q
        rw [hc] at h
        match ty, h, hc with
        | 0, h, hc =>
          obtain ⟨⟨g1, g2⟩, h⟩ := h
          obtain ⟨C, T, N, fs, f1, f2, f3, f4, f5, f6⟩ := tk_flok.int hfl (tk_lk_mem hc) (Or.inl rfl) g1 g2
          exact va_get hx hb hts (tk_cls f1) hown hKn hP a (tk_ws_obj f4 f5) f1 j f2 (hts _ f3) (fun _ z => z) (tk_fs_int f6) hd (hK _ _ _ (h (hM a j).1 (hM a j).2) H locs ls hW hS hl (tk_rs.cons (hM a j) hr.tl))
        | 1, h, hc =>
          obtain ⟨⟨g1, g2⟩, h⟩ := h
          obtain ⟨C, T, N, fs, f1, f2, f3, f4, f5, f6⟩ := tk_flok.int hfl (tk_lk_mem hc) (Or.inr rfl) g1 g2
          exact va_get hx hb hts (tk_cls f1) hown hKn hP a (tk_ws_obj f4 f5) f1 j f2 (hts _ f3) (fun _ z => z) (tk_fs_int f6) hd (hK _ _ _ (h (hM a j).1 (hM a j).2) H locs ls hW hS hl (tk_rs.cons (hM a j) hr.tl))
        | r + 2, h, hc =>
          obtain ⟨⟨g1, g2⟩, h⟩ := h
          obtain ⟨C, T, N, fs, f1, f2, f3, f4, f5, f6⟩ := tk_flok.ref hfl (tk_lk_mem hc) g1 g2
          exact va_get hx hb hts (tk_cls f1) hown hKn hP a (tk_ws_obj f4 f5) f1 j f2 (hts _ f3) (fun _ z => z) (tk_fs_ref f6) hd (hK _ _ _ h H locs ls hW hS hl (tk_rs.cons trivial hr.tl))
    | .inl (.inl a) :: st, h, hr => exact h.elim
    | .inr a :: st, h, hr => exact h.elim
    | [], h, hr => exact h.elim
  | putfield x =>
    simp only [tk_okI, beq_iff_eq] at hi
    subst hi
    simp only [tk_I] at h
    match st, h, hr with
    | .inl (.inl v) :: .inl (.inr a) :: st, h, hr =>
      have hvr := hr.hd
      cases hc : tk_lk fl x with
      | none => rw [hc] at h; exact h.elim
      | some q =>
        obtain ⟨k, j, lw, hg, ty⟩ := q
        rw [hc] at h
        match ty, h, hc with
        | 0, h, hc =>
          obtain ⟨⟨g1, g2⟩, h⟩ := h
          obtain ⟨C, T, N, fs, f1, f2, f3, f4, f5, f6⟩ := tk_flok.int hfl (tk_lk_mem hc) (Or.inl rfl) g1 g2
          obtain ⟨f7, f8⟩ := tk_flok.typ hfl (tk_lk_mem hc) f1
          obtain ⟨ty0, t1, t2⟩ := tk_tyok f1
          refine va_put hx hb hts (tk_cls f1) ty0 t1 t2 hown hKn hP hD hS a (tk_ws_obj f4 f5) f1 j f2 (hts _ f3) (fun _ z => z) (f7 (by decide)) (ty := .int) (f8.1 rfl) rfl rfl (tk_fs_len f6) hd (fun H1 locs1 hP1 _ hS1 => ?_)
          have hP2 : va_P G.2.1 tk_cl (tk_ws G (tk_up M a j v)) H1 := by rw [← tk_ws_put f4 f5 f6]; exact hP1
          exact hK _ _ _ h H1 locs1 ls ⟨hP2, tk_up_r hM hvr⟩ hS1 hl hr.tl.tl
        | 1, h, hc =>
          obtain ⟨⟨g1, g2⟩, hz, h⟩ := h
          obtain ⟨C, T, N, fs, f1, f2, f3, f4, f5, f6⟩ := tk_flok.int hfl (tk_lk_mem hc) (Or.inr rfl) g1 g2
          obtain ⟨f7, f8⟩ := tk_flok.typ hfl (tk_lk_mem hc) f1
          obtain ⟨ty0, t1, t2⟩ := tk_tyok f1
          refine va_put hx hb hts (tk_cls f1) ty0 t1 t2 hown hKn hP hD hS a (tk_ws_obj f4 f5) f1 j f2 (hts _ f3) (fun _ z => z) (f7 (by decide)) (ty := .boolean) (f8.2 rfl) (by rcases hz with rfl | rfl <;> rfl) (by rcases hz with rfl | rfl <;> rfl) (tk_fs_len f6) hd (fun H1 locs1 hP1 _ hS1 => ?_)
          have hP2 : va_P G.2.1 tk_cl (tk_ws G (tk_up M a j v)) H1 := by rw [← tk_ws_put f4 f5 f6]; exact hP1
          exact hK _ _ _ h H1 locs1 ls ⟨hP2, tk_up_r hM hvr⟩ hS1 hl hr.tl.tl
        | r + 2, h, hc => exact h.elim
    | .inl (.inl v) :: .inl (.inl a) :: st, h, hr => exact h.elim
    | .inl (.inl v) :: .inr a :: st, h, hr => exact h.elim
    | [.inl (.inl v)], h, hr => exact h.elim
    | .inl (.inr a) :: st, h, hr => exact h.elim
    | .inr a :: st, h, hr => exact h.elim
    | [], h, hr => exact h.elim
  | iaload =>
    simp only [tk_okI, beq_iff_eq] at hi
    subst hi
    simp only [tk_I] at h
    match st, h, hr with
    | .inl (.inl i) :: .inl (.inr a) :: st, h, hr =>
      have hir := hr.hd
      dsimp only at h
      cases hc : tk_lk tk_ars a with
      | some q =>
        obtain ⟨ty, n, b⟩ := q
        rw [hc] at h
        have hmem := tk_lk_mem hc
        match ty, h, hmem with
        | 0, h, hmem =>
          obtain ⟨⟨g1, g2⟩, h⟩ := h
          refine va_iald hx hb hKn hP a 0 (tk_ws_arr hmem (by decide)) rfl (tk_in g1 g2 hir.2) hd ?_
          rw [tk_clm g1 hir.2]
          exact hK _ _ _ (h (hM _ _).1 (hM _ _).2) H locs ls hW hS hl (tk_rs.cons (hM _ _) hr.tl.tl)
        | z + 1, h, hmem => exact tk_scno hmem h
      | none =>
        rw [hc] at h
        exact tk_scld hx hb h9 hS hir hd h (fun z => hK _ _ _ z H locs ls hW hS hl (tk_rs.cons (tk_rT _) hr.tl.tl))
    | .inl (.inl i) :: .inl (.inl a) :: st, h, hr => exact h.elim
    | .inl (.inl i) :: .inr a :: st, h, hr => exact h.elim
    | [.inl (.inl i)], h, hr => exact h.elim
    | .inl (.inr a) :: st, h, hr => exact h.elim
    | .inr a :: st, h, hr => exact h.elim
    | [], h, hr => exact h.elim
  | baload =>
    simp only [tk_okI, beq_iff_eq] at hi
    subst hi
    simp only [tk_I] at h
    match st, h, hr with
    | .inl (.inl i) :: .inl (.inr a) :: st, h, hr =>
      have hir := hr.hd
      dsimp only at h
      cases hc : tk_lk tk_ars a with
      | some q =>
        obtain ⟨ty, n, b⟩ := q
        rw [hc] at h
        have hmem := tk_lk_mem hc
        match ty, h, hmem with
        | 0, h, hmem => exact h.elim
        | 1, h, hmem =>
          obtain ⟨⟨g1, g2⟩, h⟩ := h
          refine va_zald hx hb hKn hP a 1 (tk_ws_arr hmem (by decide)) rfl (tk_in g1 g2 hir.2) hd ?_
          rw [tk_clm g1 hir.2]
          exact hK _ _ _ (h (hM _ _).1 (hM _ _).2) H locs ls hW hS hl (tk_rs.cons (hM _ _) hr.tl.tl)
        | z + 2, h, hmem => exact h.elim
      | none => rw [hc] at h; exact h.elim
    | .inl (.inl i) :: .inl (.inl a) :: st, h, hr => exact h.elim
    | .inl (.inl i) :: .inr a :: st, h, hr => exact h.elim
    | [.inl (.inl i)], h, hr => exact h.elim
    | .inl (.inr a) :: st, h, hr => exact h.elim
    | .inr a :: st, h, hr => exact h.elim
    | [], h, hr => exact h.elim
  | laload =>
    simp only [tk_okI, beq_iff_eq] at hi
    subst hi
    simp only [tk_I] at h
    match st, h, hr with
    | .inl (.inl i) :: .inl (.inr a) :: st, h, hr =>
      have hir := hr.hd
      dsimp only at h
      cases hc : tk_lk tk_ars a with
      | some q =>
        obtain ⟨ty, n, b⟩ := q
        rw [hc] at h
        have hmem := tk_lk_mem hc
        match ty, h, hmem with
        | 0, h, hmem => exact h.elim
        | 1, h, hmem => exact h.elim
        | 2, h, hmem =>
          obtain ⟨⟨g1, g2⟩, h⟩ := h
          refine va_lald hx hb hKn hP a 2 (tk_ws_lng hmem) rfl (tk_in g1 g2 hir.2) hd ?_
          rw [tk_clm g1 hir.2]
          exact hK _ _ _ (h (hM _ _).1 (hM _ _).2) H locs ls hW hS hl (tk_rs.cons (hM _ _) hr.tl.tl)
        | z + 3, h, hmem => exact h.elim
      | none => rw [hc] at h; exact h.elim
    | .inl (.inl i) :: .inl (.inl a) :: st, h, hr => exact h.elim
    | .inl (.inl i) :: .inr a :: st, h, hr => exact h.elim
    | [.inl (.inl i)], h, hr => exact h.elim
    | .inl (.inr a) :: st, h, hr => exact h.elim
    | .inr a :: st, h, hr => exact h.elim
    | [], h, hr => exact h.elim
  | aaload =>
    simp only [tk_okI, beq_iff_eq] at hi
    subst hi
    simp only [tk_I] at h
    match st, h, hr with
    | .inl (.inl i) :: .inl (.inr a) :: st, h, hr =>
      have hir := hr.hd
      dsimp only at h
      cases hc : tk_lk tk_ars a with
      | some q =>
        obtain ⟨ty, n, b⟩ := q
        rw [hc] at h
        have hmem := tk_lk_mem hc
        match ty, h, hmem with
        | 0, h, hmem => exact h.elim
        | 1, h, hmem => exact h.elim
        | 2, h, hmem => exact h.elim
        | z + 3, h, hmem =>
          obtain ⟨⟨g1, g2⟩, h⟩ := h
          obtain ⟨C, hC⟩ := tk_tys_rf (G := G) hmem
          refine va_aldq hx hb hKn hP a (z + 3) (tk_ws_rfs hmem) hC (tk_in g1 g2 hir.2) hd ?_
          rw [tk_clm g1 hir.2]
          exact hK _ _ _ h H locs ls hW hS hl (tk_rs.cons trivial hr.tl.tl)
      | none => rw [hc] at h; exact h.elim
    | .inl (.inl i) :: .inl (.inl a) :: st, h, hr => exact h.elim
    | .inl (.inl i) :: .inr a :: st, h, hr => exact h.elim
    | [.inl (.inl i)], h, hr => exact h.elim
    | .inl (.inr a) :: st, h, hr => exact h.elim
    | .inr a :: st, h, hr => exact h.elim
    | [], h, hr => exact h.elim
  | iastore =>
    simp only [tk_okI, beq_iff_eq] at hi
    subst hi
    simp only [tk_I] at h
    match st, h, hr with
    | .inl (.inl v) :: .inl (.inl i) :: .inl (.inr a) :: st, h, hr =>
      have hvr := hr.hd
      have hir := hr.tl.hd
      dsimp only at h
      cases hc : tk_lk tk_ars a with
      | some q =>
        obtain ⟨ty, n, b⟩ := q
        rw [hc] at h
        have hmem := tk_lk_mem hc
        match ty, h, hmem with
        | 0, h, hmem =>
          obtain ⟨⟨g1, g2⟩, h⟩ := h
          refine va_iast hx hb hKn hP hD hS a 0 (tk_ws_arr hmem (by decide)) rfl (tk_in g1 g2 hir.2) hd (fun H1 locs1 hP1 _ hS1 => ?_)
          rw [tk_clm g1 hir.2, tk_ws_ast hmem (by decide)] at hP1
          exact hK _ _ _ h H1 locs1 ls ⟨hP1, tk_up_r hM hvr⟩ hS1 hl hr.tl.tl.tl
        | z + 1, h, hmem => exact h.elim
      | none => rw [hc] at h; exact h.elim
    | .inl (.inl v) :: .inl (.inl i) :: .inl (.inl a) :: st, h, hr => exact h.elim
    | .inl (.inl v) :: .inl (.inl i) :: .inr a :: st, h, hr => exact h.elim
    | [.inl (.inl v), .inl (.inl i)], h, hr => exact h.elim
    | .inl (.inl v) :: .inl (.inr a) :: st, h, hr => exact h.elim
    | .inl (.inl v) :: .inr a :: st, h, hr => exact h.elim
    | [.inl (.inl v)], h, hr => exact h.elim
    | .inl (.inr a) :: st, h, hr => exact h.elim
    | .inr a :: st, h, hr => exact h.elim
    | [], h, hr => exact h.elim
  | bastore =>
    simp only [tk_okI, beq_iff_eq] at hi
    subst hi
    simp only [tk_I] at h
    match st, h, hr with
    | .inl (.inl v) :: .inl (.inl i) :: .inl (.inr a) :: st, h, hr =>
      have hvr := hr.hd
      have hir := hr.tl.hd
      dsimp only at h
      cases hc : tk_lk tk_ars a with
      | some q =>
        obtain ⟨ty, n, b⟩ := q
        rw [hc] at h
        have hmem := tk_lk_mem hc
        match ty, h, hmem with
        | 0, h, hmem => exact h.elim
        | 1, h, hmem =>
          obtain ⟨⟨g1, g2⟩, hz, h⟩ := h
          refine va_zast hx hb hKn hP hD hS a 1 (tk_ws_arr hmem (by decide)) rfl (tk_in g1 g2 hir.2) hd (fun H1 locs1 hP1 _ hS1 => ?_)
          rw [show vp_nar .boolean (Int32.ofInt v) = Int32.ofInt v by rcases hz with rfl | rfl <;> rfl, tk_clm g1 hir.2, tk_ws_ast hmem (by decide)] at hP1
          exact hK _ _ _ h H1 locs1 ls ⟨hP1, tk_up_r hM hvr⟩ hS1 hl hr.tl.tl.tl
        | z + 2, h, hmem => exact h.elim
      | none => rw [hc] at h; exact h.elim
    | .inl (.inl v) :: .inl (.inl i) :: .inl (.inl a) :: st, h, hr => exact h.elim
    | .inl (.inl v) :: .inl (.inl i) :: .inr a :: st, h, hr => exact h.elim
    | [.inl (.inl v), .inl (.inl i)], h, hr => exact h.elim
    | .inl (.inl v) :: .inl (.inr a) :: st, h, hr => exact h.elim
    | .inl (.inl v) :: .inr a :: st, h, hr => exact h.elim
    | [.inl (.inl v)], h, hr => exact h.elim
    | .inl (.inr a) :: st, h, hr => exact h.elim
    | .inr a :: st, h, hr => exact h.elim
    | [], h, hr => exact h.elim
  | lastore =>
    simp only [tk_okI, beq_iff_eq] at hi
    subst hi
    simp only [tk_I] at h
    match st, h, hr with
    | .inr v :: .inl (.inl i) :: .inl (.inr a) :: st, h, hr =>
      have hvr := hr.hd
      have hir := hr.tl.hd
      dsimp only at h
      cases hc : tk_lk tk_ars a with
      | some q =>
        obtain ⟨ty, n, b⟩ := q
        rw [hc] at h
        have hmem := tk_lk_mem hc
        match ty, h, hmem with
        | 0, h, hmem => exact h.elim
        | 1, h, hmem => exact h.elim
        | 2, h, hmem =>
          obtain ⟨⟨g1, g2⟩, h⟩ := h
          refine va_last hx hb hKn hP hD hS a 2 (tk_ws_lng hmem) rfl (tk_in g1 g2 hir.2) hd (fun H1 locs1 hP1 _ hS1 => ?_)
          rw [tk_clm g1 hir.2, tk_ws_lst hmem] at hP1
          exact hK _ _ _ h H1 locs1 ls ⟨hP1, tk_up_r hM hvr⟩ hS1 hl hr.tl.tl.tl
        | z + 3, h, hmem => exact h.elim
      | none => rw [hc] at h; exact h.elim
    | .inr v :: .inl (.inl i) :: .inl (.inl a) :: st, h, hr => exact h.elim
    | .inr v :: .inl (.inl i) :: .inr a :: st, h, hr => exact h.elim
    | [.inr v, .inl (.inl i)], h, hr => exact h.elim
    | .inr v :: .inl (.inr a) :: st, h, hr => exact h.elim
    | .inr v :: .inr a :: st, h, hr => exact h.elim
    | [.inr v], h, hr => exact h.elim
    | .inl a :: st, h, hr => exact h.elim
    | [], h, hr => exact h.elim
  | arraylength =>
    simp only [tk_okI, beq_iff_eq] at hi
    subst hi
    simp only [tk_I] at h
    match st, h, hr with
    | .inl (.inr a) :: st, h, hr =>
      dsimp only at h
      cases hc : tk_lk tk_ars a with
      | some q =>
        obtain ⟨ty, n, b⟩ := q
        rw [hc] at h
        have hmem := tk_lk_mem hc
        obtain ⟨x, g1, g2, g3⟩ := tk_ws_any (G := G) (M := M) hmem
        obtain ⟨y, hy⟩ := tk_tys_at (G := G) hmem
        have hn := (tk_ars_ok _ hmem).2.2.1
        dsimp only at hn
        refine va_alen (v := Int32.ofInt (n : Int)) hx hb hKn hP a ty g1 hy (by rw [g2]; rfl) hd ?_
        exact hK _ _ _ h H locs ls hW hS hl (tk_rs.cons ⟨by omega, by omega⟩ hr.tl)
      | none =>
        rw [hc] at h
        cases h8 : (b9 && Nat.beq a tk_sc) with
        | false => rw [h8] at h; exact h.elim
        | true =>
          rw [h8] at h
          rw [Bool.and_eq_true] at h8
          obtain ⟨h8, h7⟩ := h8
          have ea : a = tk_sc := Nat.eq_of_beq_eq_true h7
          subst ea
          obtain ⟨k1, k2, k3, k4⟩ := h9 h8
          exact va_slen hx hb k1 k2 k3 hS hd (hK _ _ _ h H locs ls hW hS hl (tk_rs.cons ⟨by omega, by omega⟩ hr.tl))
    | .inl (.inl a) :: st, h, hr => exact h.elim
    | .inr a :: st, h, hr => exact h.elim
    | [], h, hr => exact h.elim
  | ireturn =>
    simp only [tk_okI, beq_iff_eq] at hi
    subst hi
    simp only [tk_I] at h
    match st, h, hr with
    | [.inl (.inl v)], h, hr => exact hRQ (some v) M H locs ls pc _ h hW hS hr (Or.inl ⟨v, rfl, rfl, hd⟩)
    | .inl (.inl v) :: _ :: _, h, hr => exact h.elim
    | .inl (.inr a) :: st, h, hr => exact h.elim
    | .inr a :: st, h, hr => exact h.elim
    | [], h, hr => exact h.elim
  | return_ =>
    simp only [tk_okI, beq_iff_eq] at hi
    subst hi
    simp only [tk_I] at h
    match st, h, hr with
    | [], h, hr => exact hRQ none M H locs ls pc _ h hW hS hr (Or.inr ⟨rfl, rfl, hd⟩)
    | _ :: _, h, hr => exact h.elim
  | _ => exact h.elim
end TKO
