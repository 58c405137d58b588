/-! whole stretches -/
section TKG
variable {p : Program} {l : Launch} {e : Env} {R : Room} {s : State} {m : MethodId} {args : Array Value} {below : List Frame} {meth : Method} {c : Code} {cells slots : Nat} {Q : State → Prop} {G : tk_G} {A : Nat → Prop} {nL : Nat} {L : Nat} {xs : Nat → Int32}
theorem tk_snd {own : String} {cc : ByteArray} {b9 : Bool} {fl : tk_FL} {cs : List (Nat × Int)} (X : tk_X p s m args c G A nL own cc b9 L xs) (hfl : tk_flok own fl) (hcs : tk_csok own cs) {tab : List tk_E} (htab : tk_good cc nL tab) {cut : List Nat} {P : Nat → tk_Lc → List tk_V → tk_M → Prop} {RQ : Option Int → tk_M → Prop}
    (hRQ : tk_Rt p l e R s m args below meth c cells slots Q G A cc RQ) (hP : ∀ pc lo st M, P pc lo st M → tk_W p l e R s m args below meth c cells slots Q G A nL pc lo st M) :
    ∀ (n : Nat) (q : tk_E) (t : List tk_E), tk_good cc nL (q :: t) → ∀ (lo : tk_Lc) (st : List tk_V) (M : tk_M), tk_N fl cs b9 L xs cut tab P RQ n (q :: t) lo st M → tk_W p l e R s m args below meth c cells slots Q G A nL q.1 lo st M := by
  intro n
  induction n with
  | zero => intro q t hg lo st M h; exact hP _ _ _ _ h
  | succ n ih =>
    intro q t hg lo st M h
    unfold tk_N at h
    cases hc : (cut.elem q.1 || tk_stop q.2.1) with
    | true => rw [hc] at h; exact hP _ _ _ _ h
    | false =>
      rw [hc] at h
      refine tk_one X hfl hcs (hg.1 q List.mem_cons_self) h (fun lo st M hk => ?_) (fun a lo st M hj => ?_) hRQ
      · cases t with
        | nil => unfold tk_N at hk; exact hk.elim
        | cons r t =>
          rw [tk_ch_next hg.2]
          exact ih r t hg.tail lo st M hk
      · cases ht : tk_to tab a with
        | nil => rw [ht] at hj; unfold tk_N at hj; exact hj.elim
        | cons r t =>
          rw [ht] at hj
          have hg2 : tk_good cc nL (tk_to tab a) := htab.to
          rw [ht] at hg2
          rw [← tk_to_head ht]
          exact ih r t hg2 lo st M hj
/-- THE ROW TO USE: from pc on, up to n + 1 instructions; the walk stops at calls and in 'cut', where P must hold -/
theorem tk_goP {own : String} {cc : ByteArray} {b9 : Bool} {fl : tk_FL} {cs : List (Nat × Int)} (X : tk_X p s m args c G A nL own cc b9 L xs) (hfl : tk_flok own fl) (hcs : tk_csok own cs) {tab : List tk_E} (htab : tk_good cc nL tab) {P : Nat → tk_Lc → List tk_V → tk_M → Prop} {RQ : Option Int → tk_M → Prop} (hRQ : tk_Rt p l e R s m args below meth c cells slots Q G A cc RQ)
    (hP : ∀ pc lo st M, P pc lo st M → tk_W p l e R s m args below meth c cells slots Q G A nL pc lo st M) (n : Nat) (cut : List Nat) {pc : Nat} {lo : tk_Lc} {st : List tk_V} {M : tk_M} (h : tk_R fl cs b9 L xs cut tab P RQ n (tk_to tab pc) lo st M) : tk_W p l e R s m args below meth c cells slots Q G A nL pc lo st M := by
  cases ht : tk_to tab pc with
  | nil => rw [ht] at h; exact h.elim
  | cons q t =>
    rw [ht] at h
    have hg : tk_good cc nL (tk_to tab pc) := htab.to
    rw [ht] at hg
    rw [← tk_to_head ht]
    refine tk_one X hfl hcs (hg.1 q List.mem_cons_self) h (fun lo st M hk => ?_) (fun a lo st M hj => ?_) hRQ
    · cases t with
      | nil => unfold tk_N at hk; exact hk.elim
      | cons r t =>
        rw [tk_ch_next hg.2]
        exact tk_snd X hfl hcs htab hRQ hP n r t hg.tail lo st M hk
    · cases ht2 : tk_to tab a with
      | nil => rw [ht2] at hj; unfold tk_N at hj; exact hj.elim
      | cons r t =>
        rw [ht2] at hj
        have hg2 : tk_good cc nL (tk_to tab a) := htab.to
        rw [ht2] at hg2
        rw [← tk_to_head ht2]
        exact tk_snd X hfl hcs htab hRQ hP n r t hg2 lo st M hj
end TKG
