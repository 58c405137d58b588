/-! THE WALKER: a stretch of bytecode as a proposition over numbers. Ints are held as numbers (Int), cells by their places in one world (see 15.world). -/
/-- a one-word value: an int, or a cell of the world; on the stack also a long -/
abbrev tk_U : Type := Int ⊕ Nat
abbrev tk_V : Type := tk_U ⊕ Int
abbrev tk_Lc : Type := List (Option tk_U)
/-- a row of a method's table: where it stands, the instruction, where the next one stands, where it may jump -/
abbrev tk_E : Type := Nat × Instr × Nat × List Nat
def tk_gt {α : Type} : List (Option α) → Nat → Option α
  | [], _ => none
  | a :: _, 0 => a
  | _ :: t, n + 1 => tk_gt t n
def tk_se {α : Type} : List (Option α) → Nat → α → List (Option α)
  | [], _, _ => []
  | _ :: t, 0, v => some v :: t
  | a :: t, n + 1, v => a :: tk_se t n v
def tk_lk {α : Type} : List (Nat × α) → Nat → Option α
  | [], _ => none
  | q :: t, n => bif Nat.beq q.1 n then some q.2 else tk_lk t n
def tk_to : List tk_E → Nat → List tk_E
  | [], _ => []
  | q :: t, n => bif Nat.beq q.1 n then q :: t else tk_to t n
def tk_c (c : Jvm.ClassFile.Cond) (a b : Int) : Prop := match c with
  | .eq => a = b
  | .ne => ¬ a = b
  | .lt => a < b
  | .ge => b ≤ a
  | .gt => b < a
  | .le => a ≤ b
def tk_cmp (a b : Int) : Int := if a < b then -1 else if a = b then 0 else 1
/-- the targets of a table switch: one behind the other, from the least number on -/
def tk_sw (J : Nat → Prop) (x : Int) : Int → List Nat → Prop
  | _, [] => True
  | n, t :: ts => (x = n → J t) ∧ tk_sw J x (n + 1) ts
/-- fields that a method's pool entries name: entry, number of the kind of object, slot, first and last place of that kind (the last excluded), what the slot holds: 0 an int, 1 a boolean, r + 2 the cell r -/
abbrev tk_FL : Type := List (Nat × Nat × Nat × Nat × Nat × Nat)
/-- one instruction: K goes on behind it, J jumps, RQ ends the method -/
def tk_I (fl : tk_FL) (cs : List (Nat × Int)) (b9 : Bool) (L : Nat) (xs : Nat → Int32) (K : tk_Lc → List tk_V → tk_M → Prop) (J : Nat → tk_Lc → List tk_V → tk_M → Prop) (RQ : Option Int → tk_M → Prop)
    (i : Instr) (tg : List Nat) (lo : tk_Lc) (st : List tk_V) (M : tk_M) : Prop :=
  match i with
  | .iconst n => K lo (.inl (.inl n) :: st) M
  | .bipush n => K lo (.inl (.inl n) :: st) M
  | .sipush n => K lo (.inl (.inl n) :: st) M
  | .ldc x => (match tk_lk cs x with
    | some n => K lo (.inl (.inl n) :: st) M
    | none => False)
  | .iload_n k => (match tk_gt lo k.val with
    | some (.inl x) => K lo (.inl (.inl x) :: st) M
    | _ => False)
  | .iload k => (match tk_gt lo k with
    | some (.inl x) => K lo (.inl (.inl x) :: st) M
    | _ => False)
  | .aload_n k => (match tk_gt lo k.val with
    | some (.inr x) => K lo (.inl (.inr x) :: st) M
    | _ => False)
  | .aload k => (match tk_gt lo k with
    | some (.inr x) => K lo (.inl (.inr x) :: st) M
    | _ => False)
  | .istore_n k => (match st with
    | .inl (.inl x) :: st => K (tk_se lo k.val (.inl x)) st M
    | _ => False)
  | .istore k => (match st with
    | .inl (.inl x) :: st => K (tk_se lo k (.inl x)) st M
    | _ => False)
  | .astore_n k => (match st with
    | .inl (.inr x) :: st => K (tk_se lo k.val (.inr x)) st M
    | _ => False)
  | .astore k => (match st with
    | .inl (.inr x) :: st => K (tk_se lo k (.inr x)) st M
    | _ => False)
  | .iinc k n => (match tk_gt lo k with
    | some (.inl x) => -2147483648 ≤ x + n ∧ x + n < 2147483648 ∧ K (tk_se lo k (.inl (x + n))) st M
    | _ => False)
  | .iadd => (match st with
    | .inl (.inl b) :: .inl (.inl a) :: st => -2147483648 ≤ a + b ∧ a + b < 2147483648 ∧ K lo (.inl (.inl (a + b)) :: st) M
    | _ => False)
  | .isub => (match st with
    | .inl (.inl b) :: .inl (.inl a) :: st => -2147483648 ≤ a - b ∧ a - b < 2147483648 ∧ K lo (.inl (.inl (a - b)) :: st) M
    | _ => False)
  | .iand => (match st with
    | .inl (.inl b) :: .inl (.inl a) :: st => K lo (.inl (.inl (Int32.ofInt a &&& Int32.ofInt b).toInt) :: st) M
    | _ => False)
  | .ior => (match st with
    | .inl (.inl b) :: .inl (.inl a) :: st => K lo (.inl (.inl (Int32.ofInt a ||| Int32.ofInt b).toInt) :: st) M
    | _ => False)
  | .ishl => (match st with
    | .inl (.inl b) :: .inl (.inl a) :: st => K lo (.inl (.inl (Int32.ofInt a <<< (Int32.ofInt b &&& 31)).toInt) :: st) M
    | _ => False)
  | .ishr => (match st with
    | .inl (.inl b) :: .inl (.inl a) :: st => K lo (.inl (.inl (Int32.ofInt a >>> (Int32.ofInt b &&& 31)).toInt) :: st) M
    | _ => False)
  | .iushr => (match st with
    | .inl (.inl b) :: .inl (.inl a) :: st => K lo (.inl (.inl ((Int32.ofInt a).toUInt32 >>> ((Int32.ofInt b).toUInt32 &&& Int32.toUInt32 31)).toInt32.toInt) :: st) M
    | _ => False)
  | .ldc_w x => (match tk_lk cs x with
    | some n => K lo (.inl (.inl n) :: st) M
    | none => False)
  | .ifCond c _ => (match st, tg with
    | .inl (.inl a) :: st, [t] => (tk_c c a 0 → J t lo st M) ∧ (¬ tk_c c a 0 → K lo st M)
    | _, _ => False)
  | .if_icmp c _ => (match st, tg with
    | .inl (.inl b) :: .inl (.inl a) :: st, [t] => (tk_c c a b → J t lo st M) ∧ (¬ tk_c c a b → K lo st M)
    | _, _ => False)
  | .goto _ => (match tg with
    | [t] => J t lo st M
    | _ => False)
  | .tableswitch _ l h _ => (match st, tg with
    | .inl (.inl x) :: st, d :: ts => (x < l ∨ h < x → J d lo st M) ∧ tk_sw (fun t => J t lo st M) x l ts
    | _, _ => False)
  | .dup => (match st with
    | .inl v :: st => K lo (.inl v :: .inl v :: st) M
    | _ => False)
  | .dup_x1 => (match st with
    | .inl v :: .inl w :: st => K lo (.inl v :: .inl w :: .inl v :: st) M
    | _ => False)
  | .dup_x2 => (match st with
    | .inl v :: .inl w :: .inl z :: st => K lo (.inl v :: .inl w :: .inl z :: .inl v :: st) M
    | _ => False)
  | .dup2 => (match st with
    | .inl v :: .inl w :: st => K lo (.inl v :: .inl w :: .inl v :: .inl w :: st) M
    | _ => False)
  | .pop => (match st with
    | .inl _ :: st => K lo st M
    | _ => False)
  | .i2l => (match st with
    | .inl (.inl x) :: st => K lo (.inr x :: st) M
    | _ => False)
  | .lconst k => K lo (.inr (k.val : Int) :: st) M
  | .lcmp => (match st with
    | .inr b :: .inr a :: st => K lo (.inl (.inl (tk_cmp a b)) :: st) M
    | _ => False)
  | .getfield x => (match st, tk_lk fl x with
    | .inl (.inr c) :: st, some (_, j, l, h, 0) => (l ≤ c ∧ c < h) ∧ (-2147483648 ≤ M c j → M c j < 2147483648 → K lo (.inl (.inl (M c j)) :: st) M)
    | .inl (.inr c) :: st, some (_, j, l, h, 1) => (l ≤ c ∧ c < h) ∧ (-2147483648 ≤ M c j → M c j < 2147483648 → K lo (.inl (.inl (M c j)) :: st) M)
    | .inl (.inr c) :: st, some (_, _, l, h, r + 2) => (l ≤ c ∧ c < h) ∧ K lo (.inl (.inr r) :: st) M
    | _, _ => False)
  | .putfield x => (match st, tk_lk fl x with
    | .inl (.inl v) :: .inl (.inr c) :: st, some (_, j, l, h, 0) => (l ≤ c ∧ c < h) ∧ K lo st (tk_up M c j v)
    | .inl (.inl v) :: .inl (.inr c) :: st, some (_, j, l, h, 1) => (l ≤ c ∧ c < h) ∧ (v = 0 ∨ v = 1) ∧ K lo st (tk_up M c j v)
    | _, _ => False)
  | .iaload => (match st with
    | .inl (.inl i) :: .inl (.inr c) :: st => (match tk_lk tk_ars c with
      | some (0, n, _) => (0 ≤ i ∧ i < (n : Int)) ∧ (-2147483648 ≤ M c i.toNat → M c i.toNat < 2147483648 → K lo (.inl (.inl (M c i.toNat)) :: st) M)
      | _ => (bif b9 && Nat.beq c tk_sc then (0 ≤ i ∧ i < (L : Int)) ∧ K lo (.inl (.inl (xs i.toNat).toInt) :: st) M else False))
    | _ => False)
  | .baload => (match st with
    | .inl (.inl i) :: .inl (.inr c) :: st => (match tk_lk tk_ars c with
      | some (1, n, _) => (0 ≤ i ∧ i < (n : Int)) ∧ (-2147483648 ≤ M c i.toNat → M c i.toNat < 2147483648 → K lo (.inl (.inl (M c i.toNat)) :: st) M)
      | _ => False)
    | _ => False)
  | .laload => (match st with
    | .inl (.inl i) :: .inl (.inr c) :: st => (match tk_lk tk_ars c with
      | some (2, n, _) => (0 ≤ i ∧ i < (n : Int)) ∧ (-2147483648 ≤ M c i.toNat → M c i.toNat < 2147483648 → K lo (.inr (M c i.toNat) :: st) M)
      | _ => False)
    | _ => False)
  | .aaload => (match st with
    | .inl (.inl i) :: .inl (.inr c) :: st => (match tk_lk tk_ars c with
      | some (_ + 3, n, b) => (0 ≤ i ∧ i < (n : Int)) ∧ K lo (.inl (.inr (b + i.toNat)) :: st) M
      | _ => False)
    | _ => False)
  | .iastore => (match st with
    | .inl (.inl v) :: .inl (.inl i) :: .inl (.inr c) :: st => (match tk_lk tk_ars c with
      | some (0, n, _) => (0 ≤ i ∧ i < (n : Int)) ∧ K lo st (tk_up M c i.toNat v)
      | _ => False)
    | _ => False)
  | .bastore => (match st with
    | .inl (.inl v) :: .inl (.inl i) :: .inl (.inr c) :: st => (match tk_lk tk_ars c with
      | some (1, n, _) => (0 ≤ i ∧ i < (n : Int)) ∧ (v = 0 ∨ v = 1) ∧ K lo st (tk_up M c i.toNat v)
      | _ => False)
    | _ => False)
  | .lastore => (match st with
    | .inr v :: .inl (.inl i) :: .inl (.inr c) :: st => (match tk_lk tk_ars c with
      | some (2, n, _) => (0 ≤ i ∧ i < (n : Int)) ∧ K lo st (tk_up M c i.toNat v)
      | _ => False)
    | _ => False)
  | .arraylength => (match st with
    | .inl (.inr c) :: st => (match tk_lk tk_ars c with
      | some (_, n, _) => K lo (.inl (.inl (n : Int)) :: st) M
      | none => (bif b9 && Nat.beq c tk_sc then K lo (.inl (.inl (L : Int)) :: st) M else False))
    | _ => False)
  | .ireturn => (match st with
    | [.inl (.inl v)] => RQ (some v) M
    | _ => False)
  | .return_ => (match st with
    | [] => RQ none M
    | _ => False)
  | _ => False
/-- the walk stops ahead of calls, of what makes objects, and of the places named in 'cut' -/
def tk_stop (i : Instr) : Bool := match i with
  | .invokevirtual _ => true
  | .invokespecial _ => true
  | .invokestatic _ => true
  | .new _ => true
  | _ => false
/-- n instructions from the head of 'code' on; 'tab' is the whole table; P holds where the walk stops -/
def tk_N (fl : tk_FL) (cs : List (Nat × Int)) (b9 : Bool) (L : Nat) (xs : Nat → Int32) (cut : List Nat) (tab : List tk_E) (P : Nat → tk_Lc → List tk_V → tk_M → Prop) (RQ : Option Int → tk_M → Prop) : Nat → List tk_E → tk_Lc → List tk_V → tk_M → Prop
  | _, [], _, _, _ => False
  | 0, q :: _, lo, st, M => P q.1 lo st M
  | n + 1, q :: t, lo, st, M => bif (cut.elem q.1 || tk_stop q.2.1) then P q.1 lo st M
    else tk_I fl cs b9 L xs (fun lo st M => tk_N fl cs b9 L xs cut tab P RQ n t lo st M) (fun a lo st M => tk_N fl cs b9 L xs cut tab P RQ n (tk_to tab a) lo st M) RQ q.2.1 q.2.2.2 lo st M
/-- the same, with its first instruction whatever 'cut' says -/
def tk_R (fl : tk_FL) (cs : List (Nat × Int)) (b9 : Bool) (L : Nat) (xs : Nat → Int32) (cut : List Nat) (tab : List tk_E) (P : Nat → tk_Lc → List tk_V → tk_M → Prop) (RQ : Option Int → tk_M → Prop) (n : Nat) (code : List tk_E) (lo : tk_Lc) (st : List tk_V) (M : tk_M) : Prop :=
  match code with
  | [] => False
  | q :: t => tk_I fl cs b9 L xs (fun lo st M => tk_N fl cs b9 L xs cut tab P RQ n t lo st M) (fun a lo st M => tk_N fl cs b9 L xs cut tab P RQ n (tk_to tab a) lo st M) RQ q.2.1 q.2.2.2 lo st M
/-- what a row of the table must be, beside the bytes 'cc' of a method with nL locals -/
def tk_okI (nL : Nat) (pc : Nat) (i : Instr) (len : Nat) (tg : List Nat) : Bool := match i with
  | .bipush n => decide (-128 ≤ n) && decide (n < 128) && len == 2
  | .sipush n => decide (-32768 ≤ n) && decide (n < 32768) && len == 3
  | .iconst n => decide (-1 ≤ n) && decide (n < 6) && len == 1
  | .istore_n k => decide (k.val < nL) && len == 1
  | .istore k => decide (k < nL) && len == 2
  | .astore_n k => decide (k.val < nL) && len == 1
  | .astore k => decide (k < nL) && len == 2
  | .iinc k n => decide (k < nL) && decide (-128 ≤ n) && decide (n < 128) && len == 3
  | .ldc _ => len == 2
  | .ldc_w _ => len == 3
  | .iload _ => len == 2
  | .aload _ => len == 2
  | .ifCond _ o => len == 3 && (match tg with
    | [t] => decide ((pc : Int) + o = (t : Int))
    | _ => false)
  | .if_icmp _ o => len == 3 && (match tg with
    | [t] => decide ((pc : Int) + o = (t : Int))
    | _ => false)
  | .goto o => len == 3 && (match tg with
    | [t] => decide ((pc : Int) + o = (t : Int))
    | _ => false)
  | .tableswitch d l h os => (match tg with
    | t :: ts => decide ((pc : Int) + d = (t : Int)) && decide (os.toList.map (fun o => (pc : Int) + o) = ts.map (fun (z : Nat) => (z : Int))) && decide (l + (ts.length : Int) = h + 1)
    | _ => false)
  | .getfield _ => len == 3
  | .putfield _ => len == 3
  | .invokevirtual _ => len == 3
  | .invokespecial _ => len == 3
  | .invokestatic _ => len == 3
  | .new _ => len == 3
  | .anewarray _ => len == 3
  | .newarray _ => len == 2
  | _ => len == 1
def tk_ok (cc : ByteArray) (nL : Nat) (q : tk_E) : Bool := (match decode cc q.1 with
  | .ok (i, len) => decide (i = q.2.1) && decide (q.1 + len = q.2.2.1) && tk_okI nL q.1 q.2.1 len q.2.2.2
  | _ => false)
def tk_ch : List tk_E → Bool
  | [] => true
  | [_] => true
  | q :: r :: t => Nat.beq q.2.2.1 r.1 && tk_ch (r :: t)
def tk_good (cc : ByteArray) (nL : Nat) (tab : List tk_E) : Prop := (∀ q ∈ tab, tk_ok cc nL q = true) ∧ tk_ch tab = true
theorem tk_ok_dec {cc : ByteArray} {nL : Nat} {q : tk_E} (h : tk_ok cc nL q = true) : ∃ len, decode cc q.1 = .ok (q.2.1, len) ∧ q.1 + len = q.2.2.1 ∧ tk_okI nL q.1 q.2.1 len q.2.2.2 = true := by
  unfold tk_ok at h
  split at h
  · rename_i i len hd
    simp only [Bool.and_eq_true, decide_eq_true_eq] at h
    obtain ⟨⟨h1, h2⟩, h3⟩ := h
    subst h1
    exact ⟨len, hd, h2, h3⟩
  · cases h
theorem tk_ch_tail {q : tk_E} {t : List tk_E} (h : tk_ch (q :: t) = true) : tk_ch t = true := by
  cases t with
  | nil => rfl
  | cons r t =>
    simp only [tk_ch, Bool.and_eq_true] at h
    exact h.2
theorem tk_ch_next {q r : tk_E} {t : List tk_E} (h : tk_ch (q :: r :: t) = true) : q.2.2.1 = r.1 := by
  simp only [tk_ch, Bool.and_eq_true] at h
  exact Nat.eq_of_beq_eq_true h.1
theorem tk_good.tail {cc : ByteArray} {nL : Nat} {q : tk_E} {t : List tk_E} (h : tk_good cc nL (q :: t)) : tk_good cc nL t := ⟨fun r hr => h.1 r (List.mem_cons_of_mem _ hr), tk_ch_tail h.2⟩
theorem tk_good.to {cc : ByteArray} {nL : Nat} {n : Nat} : ∀ {tab : List tk_E}, tk_good cc nL tab → tk_good cc nL (tk_to tab n)
  | [], h => h
  | q :: t, h => by
    unfold tk_to
    cases hb : Nat.beq q.1 n with
    | true => exact h
    | false => exact tk_good.to h.tail
theorem tk_to_head {n : Nat} : ∀ {tab : List tk_E} {q : tk_E} {t : List tk_E}, tk_to tab n = q :: t → q.1 = n
  | [], _, _, h => by cases h
  | r :: tab, q, t, h => by
    unfold tk_to at h
    cases hb : Nat.beq r.1 n with
    | true =>
      rw [hb] at h
      cases h
      exact Nat.eq_of_beq_eq_true hb
    | false =>
      rw [hb] at h
      exact tk_to_head h
theorem tk_lk_mem {α : Type} {n : Nat} {a : α} : ∀ {l : List (Nat × α)}, tk_lk l n = some a → (n, a) ∈ l
  | [], h => by cases h
  | q :: t, h => by
    unfold tk_lk at h
    cases hb : Nat.beq q.1 n with
    | true =>
      rw [hb] at h
      have e1 : q.2 = a := Option.some.inj h
      have e2 : q.1 = n := Nat.eq_of_beq_eq_true hb
      rw [← e1, ← e2]
      exact List.mem_cons_self
    | false =>
      rw [hb] at h
      exact List.mem_cons_of_mem _ (tk_lk_mem h)
