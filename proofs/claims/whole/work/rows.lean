section
-- ===== PART A: goes FIRST, ahead of the names: the tables' words, and 'selects' of the private methods out of them =====
/-- a private method of a class that the tables say can be made, by its rows of tables_1 -/
def lw_okq (q : MethodName × Nat) : Prop := (q.1.cls ≠ "java/lang/invoke/MethodHandle" ∧ q.1.cls ≠ "java/lang/invoke/VarHandle") ∧ Cond.instantiable q.1.cls q.2 ∈ tables_1 ∧ Cond.privateMethod q.1 ∈ tables_1 ∧ Cond.instanceMethod q.1 ∈ tables_1
theorem lw_p0 : lw_okq (⟨"java/lang/Throwable", "fillInStackTrace", "(I)Ljava/lang/Throwable;"⟩, 6) := ⟨⟨by decide +kernel, by decide +kernel⟩, List.mem_of_getElem? (i := 268) (by decide +kernel), List.mem_of_getElem? (i := 266) (by decide +kernel), List.mem_of_getElem? (i := 267) (by decide +kernel)⟩
theorem lw_p1 : lw_okq (⟨"TrackKeeper", "requireBegun", "()V"⟩, 8) := ⟨⟨by decide +kernel, by decide +kernel⟩, List.mem_of_getElem? (i := 18) (by decide +kernel), List.mem_of_getElem? (i := 369) (by decide +kernel), List.mem_of_getElem? (i := 370) (by decide +kernel)⟩
theorem lw_p2 : lw_okq (⟨"TrackKeeper", "findAllAnew", "()V"⟩, 8) := ⟨⟨by decide +kernel, by decide +kernel⟩, List.mem_of_getElem? (i := 18) (by decide +kernel), List.mem_of_getElem? (i := 378) (by decide +kernel), List.mem_of_getElem? (i := 379) (by decide +kernel)⟩
theorem lw_p3 : lw_okq (⟨"TrackKeeper$Track", "markTrains", "([LTrackKeeper$Train;)V"⟩, 6) := ⟨⟨by decide +kernel, by decide +kernel⟩, List.mem_of_getElem? (i := 26) (by decide +kernel), List.mem_of_getElem? (i := 390) (by decide +kernel), List.mem_of_getElem? (i := 391) (by decide +kernel)⟩
theorem lw_p4 : lw_okq (⟨"TrackKeeper$Track", "markTrain", "(LTrackKeeper$Train;I)V"⟩, 6) := ⟨⟨by decide +kernel, by decide +kernel⟩, List.mem_of_getElem? (i := 26) (by decide +kernel), List.mem_of_getElem? (i := 394) (by decide +kernel), List.mem_of_getElem? (i := 395) (by decide +kernel)⟩
theorem lw_p5 : lw_okq (⟨"TrackKeeper$Track", "nothingCanFollow", "(I)Z"⟩, 6) := ⟨⟨by decide +kernel, by decide +kernel⟩, List.mem_of_getElem? (i := 26) (by decide +kernel), List.mem_of_getElem? (i := 398) (by decide +kernel), List.mem_of_getElem? (i := 399) (by decide +kernel)⟩
theorem lw_p6 : lw_okq (⟨"TrackKeeper$Track", "newState", "(LTrackKeeper$Subsection;I[LTrackKeeper$Train;)I"⟩, 6) := ⟨⟨by decide +kernel, by decide +kernel⟩, List.mem_of_getElem? (i := 26) (by decide +kernel), List.mem_of_getElem? (i := 402) (by decide +kernel), List.mem_of_getElem? (i := 403) (by decide +kernel)⟩
theorem lw_p7 : lw_okq (⟨"TrackKeeper$Track", "isUnsure", "(LTrackKeeper$Section;)Z"⟩, 6) := ⟨⟨by decide +kernel, by decide +kernel⟩, List.mem_of_getElem? (i := 26) (by decide +kernel), List.mem_of_getElem? (i := 410) (by decide +kernel), List.mem_of_getElem? (i := 411) (by decide +kernel)⟩
theorem lw_p8 : lw_okq (⟨"TrackKeeper$Authorities", "settleOne", "(LTrackKeeper$Train;LTrackKeeper$Track;)V"⟩, 2) := ⟨⟨by decide +kernel, by decide +kernel⟩, List.mem_of_getElem? (i := 111) (by decide +kernel), List.mem_of_getElem? (i := 418) (by decide +kernel), List.mem_of_getElem? (i := 419) (by decide +kernel)⟩
theorem lw_p9 : lw_okq (⟨"TrackKeeper", "requireConnected", "(I)V"⟩, 8) := ⟨⟨by decide +kernel, by decide +kernel⟩, List.mem_of_getElem? (i := 18) (by decide +kernel), List.mem_of_getElem? (i := 444) (by decide +kernel), List.mem_of_getElem? (i := 445) (by decide +kernel)⟩
theorem lw_p10 : lw_okq (⟨"TrackKeeper$Track", "countForSpread", "(LTrackKeeper$Section;I)V"⟩, 6) := ⟨⟨by decide +kernel, by decide +kernel⟩, List.mem_of_getElem? (i := 26) (by decide +kernel), List.mem_of_getElem? (i := 497) (by decide +kernel), List.mem_of_getElem? (i := 498) (by decide +kernel)⟩
theorem lw_p11 : lw_okq (⟨"TrackKeeper$Authorities", "isHeldByOther", "(II[LTrackKeeper$Train;)Z"⟩, 2) := ⟨⟨by decide +kernel, by decide +kernel⟩, List.mem_of_getElem? (i := 111) (by decide +kernel), List.mem_of_getElem? (i := 516) (by decide +kernel), List.mem_of_getElem? (i := 517) (by decide +kernel)⟩
theorem lw_p12 : lw_okq (⟨"TrackKeeper", "countSinceBegin", "(II)I"⟩, 8) := ⟨⟨by decide +kernel, by decide +kernel⟩, List.mem_of_getElem? (i := 18) (by decide +kernel), List.mem_of_getElem? (i := 549) (by decide +kernel), List.mem_of_getElem? (i := 550) (by decide +kernel)⟩
theorem lw_p13 : lw_okq (⟨"TrackKeeperModel", "isWaiting", "()Z"⟩, 35) := ⟨⟨by decide +kernel, by decide +kernel⟩, List.mem_of_getElem? (i := 553) (by decide +kernel), List.mem_of_getElem? (i := 675) (by decide +kernel), List.mem_of_getElem? (i := 676) (by decide +kernel)⟩
theorem lw_p14 : lw_okq (⟨"TrackKeeperModel", "fails", "(ZI)Z"⟩, 35) := ⟨⟨by decide +kernel, by decide +kernel⟩, List.mem_of_getElem? (i := 553) (by decide +kernel), List.mem_of_getElem? (i := 679) (by decide +kernel), List.mem_of_getElem? (i := 680) (by decide +kernel)⟩
theorem lw_p15 : lw_okq (⟨"TrackKeeperModel", "reset", "()V"⟩, 35) := ⟨⟨by decide +kernel, by decide +kernel⟩, List.mem_of_getElem? (i := 553) (by decide +kernel), List.mem_of_getElem? (i := 695) (by decide +kernel), List.mem_of_getElem? (i := 696) (by decide +kernel)⟩
def lw_privs_1 : List (MethodName × Nat) := [(⟨"java/lang/Throwable", "fillInStackTrace", "(I)Ljava/lang/Throwable;"⟩, 6), (⟨"TrackKeeper", "requireBegun", "()V"⟩, 8), (⟨"TrackKeeper", "findAllAnew", "()V"⟩, 8), (⟨"TrackKeeper$Track", "markTrains", "([LTrackKeeper$Train;)V"⟩, 6), (⟨"TrackKeeper$Track", "markTrain", "(LTrackKeeper$Train;I)V"⟩, 6), (⟨"TrackKeeper$Track", "nothingCanFollow", "(I)Z"⟩, 6), (⟨"TrackKeeper$Track", "newState", "(LTrackKeeper$Subsection;I[LTrackKeeper$Train;)I"⟩, 6), (⟨"TrackKeeper$Track", "isUnsure", "(LTrackKeeper$Section;)Z"⟩, 6), (⟨"TrackKeeper$Authorities", "settleOne", "(LTrackKeeper$Train;LTrackKeeper$Track;)V"⟩, 2), (⟨"TrackKeeper", "requireConnected", "(I)V"⟩, 8), (⟨"TrackKeeper$Track", "countForSpread", "(LTrackKeeper$Section;I)V"⟩, 6), (⟨"TrackKeeper$Authorities", "isHeldByOther", "(II[LTrackKeeper$Train;)Z"⟩, 2), (⟨"TrackKeeper", "countSinceBegin", "(II)I"⟩, 8), (⟨"TrackKeeperModel", "isWaiting", "()Z"⟩, 35), (⟨"TrackKeeperModel", "fails", "(ZI)Z"⟩, 35), (⟨"TrackKeeperModel", "reset", "()V"⟩, 35)]
theorem lw_r1 : ∀ q ∈ lw_privs_1, lw_okq q := List.forall_mem_cons.mpr ⟨lw_p0, List.forall_mem_cons.mpr ⟨lw_p1, List.forall_mem_cons.mpr ⟨lw_p2, List.forall_mem_cons.mpr ⟨lw_p3, List.forall_mem_cons.mpr ⟨lw_p4, List.forall_mem_cons.mpr ⟨lw_p5, List.forall_mem_cons.mpr ⟨lw_p6, List.forall_mem_cons.mpr ⟨lw_p7, List.forall_mem_cons.mpr ⟨lw_p8, List.forall_mem_cons.mpr ⟨lw_p9, List.forall_mem_cons.mpr ⟨lw_p10, List.forall_mem_cons.mpr ⟨lw_p11, List.forall_mem_cons.mpr ⟨lw_p12, List.forall_mem_cons.mpr ⟨lw_p13, List.forall_mem_cons.mpr ⟨lw_p14, List.forall_mem_cons.mpr ⟨lw_p15, fun _ h => absurd h List.not_mem_nil⟩⟩⟩⟩⟩⟩⟩⟩⟩⟩⟩⟩⟩⟩⟩⟩
theorem lw_p16 : lw_okq (⟨"TrackKeeperModel", "settle", "()V"⟩, 35) := ⟨⟨by decide +kernel, by decide +kernel⟩, List.mem_of_getElem? (i := 553) (by decide +kernel), List.mem_of_getElem? (i := 707) (by decide +kernel), List.mem_of_getElem? (i := 708) (by decide +kernel)⟩
theorem lw_p17 : lw_okq (⟨"TrackKeeperModel", "find", "()V"⟩, 35) := ⟨⟨by decide +kernel, by decide +kernel⟩, List.mem_of_getElem? (i := 553) (by decide +kernel), List.mem_of_getElem? (i := 711) (by decide +kernel), List.mem_of_getElem? (i := 712) (by decide +kernel)⟩
theorem lw_p18 : lw_okq (⟨"TrackKeeperModel", "isLocated", "(I)Z"⟩, 35) := ⟨⟨by decide +kernel, by decide +kernel⟩, List.mem_of_getElem? (i := 553) (by decide +kernel), List.mem_of_getElem? (i := 715) (by decide +kernel), List.mem_of_getElem? (i := 716) (by decide +kernel)⟩
theorem lw_p19 : lw_okq (⟨"TrackKeeperModel", "subOf", "(I)I"⟩, 35) := ⟨⟨by decide +kernel, by decide +kernel⟩, List.mem_of_getElem? (i := 553) (by decide +kernel), List.mem_of_getElem? (i := 719) (by decide +kernel), List.mem_of_getElem? (i := 720) (by decide +kernel)⟩
theorem lw_p20 : lw_okq (⟨"TrackKeeperModel", "found", "(I)I"⟩, 35) := ⟨⟨by decide +kernel, by decide +kernel⟩, List.mem_of_getElem? (i := 553) (by decide +kernel), List.mem_of_getElem? (i := 723) (by decide +kernel), List.mem_of_getElem? (i := 724) (by decide +kernel)⟩
theorem lw_p21 : lw_okq (⟨"TrackKeeperModel", "isWhole", "(I)Z"⟩, 35) := ⟨⟨by decide +kernel, by decide +kernel⟩, List.mem_of_getElem? (i := 553) (by decide +kernel), List.mem_of_getElem? (i := 736) (by decide +kernel), List.mem_of_getElem? (i := 737) (by decide +kernel)⟩
theorem lw_p22 : lw_okq (⟨"TrackKeeperModel", "authority", "(I)V"⟩, 35) := ⟨⟨by decide +kernel, by decide +kernel⟩, List.mem_of_getElem? (i := 553) (by decide +kernel), List.mem_of_getElem? (i := 740) (by decide +kernel), List.mem_of_getElem? (i := 741) (by decide +kernel)⟩
theorem lw_p23 : lw_okq (⟨"TrackKeeperModel", "holds", "(I)Z"⟩, 35) := ⟨⟨by decide +kernel, by decide +kernel⟩, List.mem_of_getElem? (i := 553) (by decide +kernel), List.mem_of_getElem? (i := 744) (by decide +kernel), List.mem_of_getElem? (i := 745) (by decide +kernel)⟩
theorem lw_p24 : lw_okq (⟨"TrackKeeperModel", "isTaken", "(II)Z"⟩, 35) := ⟨⟨by decide +kernel, by decide +kernel⟩, List.mem_of_getElem? (i := 553) (by decide +kernel), List.mem_of_getElem? (i := 769) (by decide +kernel), List.mem_of_getElem? (i := 770) (by decide +kernel)⟩
def lw_privs_2 : List (MethodName × Nat) := [(⟨"TrackKeeperModel", "settle", "()V"⟩, 35), (⟨"TrackKeeperModel", "find", "()V"⟩, 35), (⟨"TrackKeeperModel", "isLocated", "(I)Z"⟩, 35), (⟨"TrackKeeperModel", "subOf", "(I)I"⟩, 35), (⟨"TrackKeeperModel", "found", "(I)I"⟩, 35), (⟨"TrackKeeperModel", "isWhole", "(I)Z"⟩, 35), (⟨"TrackKeeperModel", "authority", "(I)V"⟩, 35), (⟨"TrackKeeperModel", "holds", "(I)Z"⟩, 35), (⟨"TrackKeeperModel", "isTaken", "(II)Z"⟩, 35)]
theorem lw_r2 : ∀ q ∈ lw_privs_2, lw_okq q := List.forall_mem_cons.mpr ⟨lw_p16, List.forall_mem_cons.mpr ⟨lw_p17, List.forall_mem_cons.mpr ⟨lw_p18, List.forall_mem_cons.mpr ⟨lw_p19, List.forall_mem_cons.mpr ⟨lw_p20, List.forall_mem_cons.mpr ⟨lw_p21, List.forall_mem_cons.mpr ⟨lw_p22, List.forall_mem_cons.mpr ⟨lw_p23, List.forall_mem_cons.mpr ⟨lw_p24, fun _ h => absurd h List.not_mem_nil⟩⟩⟩⟩⟩⟩⟩⟩⟩
def lw_privs : List (MethodName × Nat) := lw_privs_1 ++ (lw_privs_2)
def lw_tbl : List Cond := k2_sels lw_privs ++ tables_1
theorem lw_privs_ok : ∀ q ∈ lw_privs, lw_okq q := by
  show ∀ q ∈ lw_privs_1 ++ (lw_privs_2), lw_okq q
  exact List.forall_mem_append.mpr ⟨lw_r1, lw_r2⟩
/-- the words that stay true through every call -/
def tk_tbl : List Cond := lw_tbl.filter goodWord
end
section
/-! KINDS of objects and their slots, written by a program -/
def tk_T0 : u_T := fun k => match k with
  | 0 => ("TrackKeeper", "track", "LTrackKeeper$Track;", true)
  | 1 => ("TrackKeeper", "trains", "[LTrackKeeper$Train;", true)
  | 2 => ("TrackKeeper", "authorities", "LTrackKeeper$Authorities;", true)
  | 3 => ("TrackKeeper", "begun", "Z", false)
  | 4 => ("TrackKeeper", "mute", "I", false)
  | 5 => ("TrackKeeper", "keep", "I", false)
  | 6 => ("TrackKeeper", "spread", "I", false)
  | _ => ("TrackKeeper", "time", "I", false)
def tk_T1 : u_T := fun k => match k with
  | 0 => ("TrackKeeper$Track", "sections", "[LTrackKeeper$Section;", true)
  | 1 => ("TrackKeeper$Track", "subs", "[LTrackKeeper$Subsection;", true)
  | 2 => ("TrackKeeper$Track", "sectionCount", "I", false)
  | 3 => ("TrackKeeper$Track", "subCount", "I", false)
  | 4 => ("TrackKeeper$Track", "length", "I", false)
  | _ => ("TrackKeeper$Track", "spreadsDue", "I", false)
def tk_T2 : u_T := fun k => match k with
  | 0 => ("TrackKeeper$Authorities", "shortened", "I", false)
  | _ => ("TrackKeeper$Authorities", "withdrawn", "I", false)
def tk_T3 : u_T := fun k => match k with
  | 0 => ("TrackKeeper$Section", "first", "I", false)
  | 1 => ("TrackKeeper$Section", "last", "I", false)
  | 2 => ("TrackKeeper$Section", "filled", "Z", false)
  | 3 => ("TrackKeeper$Section", "counted", "I", false)
  | 4 => ("TrackKeeper$Section", "due", "Z", false)
  | _ => ("TrackKeeper$Section", "reached", "Z", false)
def tk_T4 : u_T := fun k => match k with
  | 0 => ("TrackKeeper$Subsection", "section", "I", false)
  | 1 => ("TrackKeeper$Subsection", "start", "I", false)
  | 2 => ("TrackKeeper$Subsection", "state", "I", false)
  | 3 => ("TrackKeeper$Subsection", "covers", "I", false)
  | _ => ("TrackKeeper$Subsection", "coverer", "I", false)
def tk_T5 : u_T := fun k => match k with
  | 0 => ("TrackKeeper$Train", "connected", "Z", false)
  | 1 => ("TrackKeeper$Train", "length", "I", false)
  | 2 => ("TrackKeeper$Train", "reported", "Z", false)
  | 3 => ("TrackKeeper$Train", "reportTime", "I", false)
  | 4 => ("TrackKeeper$Train", "front", "I", false)
  | 5 => ("TrackKeeper$Train", "frontSub", "I", false)
  | 6 => ("TrackKeeper$Train", "rearSub", "I", false)
  | 7 => ("TrackKeeper$Train", "confirmed", "Z", false)
  | 8 => ("TrackKeeper$Train", "confirmTime", "I", false)
  | 9 => ("TrackKeeper$Train", "located", "Z", false)
  | 10 => ("TrackKeeper$Train", "whole", "Z", false)
  | 11 => ("TrackKeeper$Train", "occupies", "Z", false)
  | _ => ("TrackKeeper$Train", "end", "I", false)
def tk_T6 : u_T := fun k => match k with
  | 0 => ("TrackKeeperModel", "err", "I", false)
  | 1 => ("TrackKeeperModel", "sections", "I", false)
  | 2 => ("TrackKeeperModel", "subs", "I", false)
  | 3 => ("TrackKeeperModel", "time", "I", false)
  | 4 => ("TrackKeeperModel", "mute", "I", false)
  | 5 => ("TrackKeeperModel", "keep", "I", false)
  | 6 => ("TrackKeeperModel", "spread", "I", false)
  | 7 => ("TrackKeeperModel", "shortened", "I", false)
  | 8 => ("TrackKeeperModel", "withdrawn", "I", false)
  | 9 => ("TrackKeeperModel", "dues", "I", false)
  | 10 => ("TrackKeeperModel", "length", "I", false)
  | 11 => ("TrackKeeperModel", "begun", "Z", false)
  | 12 => ("TrackKeeperModel", "sectionOf", "[I", true)
  | 13 => ("TrackKeeperModel", "start", "[I", true)
  | 14 => ("TrackKeeperModel", "firstOf", "[I", true)
  | 15 => ("TrackKeeperModel", "counted", "[I", true)
  | 16 => ("TrackKeeperModel", "state", "[I", true)
  | 17 => ("TrackKeeperModel", "was", "[I", true)
  | 18 => ("TrackKeeperModel", "cover", "[I", true)
  | 19 => ("TrackKeeperModel", "before", "[I", true)
  | 20 => ("TrackKeeperModel", "full", "[Z", true)
  | 21 => ("TrackKeeperModel", "due", "[Z", true)
  | 22 => ("TrackKeeperModel", "connected", "[Z", true)
  | 23 => ("TrackKeeperModel", "reported", "[Z", true)
  | 24 => ("TrackKeeperModel", "confirmed", "[Z", true)
  | 25 => ("TrackKeeperModel", "size", "[I", true)
  | 26 => ("TrackKeeperModel", "front", "[I", true)
  | 27 => ("TrackKeeperModel", "rear", "[I", true)
  | 28 => ("TrackKeeperModel", "reportAt", "[I", true)
  | 29 => ("TrackKeeperModel", "confirmedAt", "[I", true)
  | 30 => ("TrackKeeperModel", "end", "[I", true)
  | 31 => ("TrackKeeperModel", "told", "[Z", true)
  | 32 => ("TrackKeeperModel", "located", "[Z", true)
  | 33 => ("TrackKeeperModel", "first", "[I", true)
  | _ => ("TrackKeeperModel", "last", "[I", true)
def tk_cl : List vw_C := [("TrackKeeper", tk_T0, 8), ("TrackKeeper$Track", tk_T1, 6), ("TrackKeeper$Authorities", tk_T2, 2), ("TrackKeeper$Section", tk_T3, 6), ("TrackKeeper$Subsection", tk_T4, 5), ("TrackKeeper$Train", tk_T5, 13), ("TrackKeeperModel", tk_T6, 35)]
def tk_nc : Nat := 81
def tk_sc : Nat := 99
/-- arrays: cell, type (0 int, 1 boolean, 2 long, 3 Train, 4 Section, 5 Subsection), length, the cell of its first object -/
def tk_ars : List (Nat × Nat × Nat × Nat) := [(0, 2, 1, 0), (4, 3, 8, 73), (5, 4, 10, 31), (6, 5, 32, 41), (8, 0, 32, 0), (9, 0, 33, 0), (10, 0, 10, 0), (11, 0, 10, 0), (12, 0, 32, 0), (13, 0, 32, 0), (14, 0, 32, 0), (15, 0, 32, 0), (16, 1, 10, 0), (17, 1, 10, 0), (18, 1, 8, 0), (19, 1, 8, 0), (20, 1, 8, 0), (21, 0, 8, 0), (22, 0, 8, 0), (23, 0, 8, 0), (24, 0, 8, 0), (25, 0, 8, 0), (26, 0, 8, 0), (27, 1, 10, 0), (28, 1, 8, 0), (29, 0, 8, 0), (30, 0, 8, 0)]
def tk_sh (c : Nat) : (Nat × List (Option Nat)) ⊕ (Nat × Nat × Option Nat) := match c with
  | 0 => .inr (2, 1, none)
  | 1 => .inl (0, [some 2, some 4, some 3, none, none, none, none, none])
  | 2 => .inl (1, [some 5, some 6, none, none, none, none])
  | 3 => .inl (2, [none, none])
  | 4 => .inr (3, 8, some 73)
  | 5 => .inr (4, 10, some 31)
  | 6 => .inr (5, 32, some 41)
  | 7 => .inl (6, [none, none, none, none, none, none, none, none, none, none, none, none, some 8, some 9, some 10, some 11, some 12, some 13, some 14, some 15, some 16, some 17, some 18, some 19, some 20, some 21, some 22, some 23, some 24, some 25, some 26, some 27, some 28, some 29, some 30])
  | 8 => .inr (0, 32, none)
  | 9 => .inr (0, 33, none)
  | 10 => .inr (0, 10, none)
  | 11 => .inr (0, 10, none)
  | 12 => .inr (0, 32, none)
  | 13 => .inr (0, 32, none)
  | 14 => .inr (0, 32, none)
  | 15 => .inr (0, 32, none)
  | 16 => .inr (1, 10, none)
  | 17 => .inr (1, 10, none)
  | 18 => .inr (1, 8, none)
  | 19 => .inr (1, 8, none)
  | 20 => .inr (1, 8, none)
  | 21 => .inr (0, 8, none)
  | 22 => .inr (0, 8, none)
  | 23 => .inr (0, 8, none)
  | 24 => .inr (0, 8, none)
  | 25 => .inr (0, 8, none)
  | 26 => .inr (0, 8, none)
  | 27 => .inr (1, 10, none)
  | 28 => .inr (1, 8, none)
  | 29 => .inr (0, 8, none)
  | 30 => .inr (0, 8, none)
  | n + 31 => if n < 10 then .inl (3, [none, none, none, none, none, none]) else if n < 42 then .inl (4, [none, none, none, none, none]) else .inl (5, [none, none, none, none, none, none, none, none, none, none, none, none, none])
theorem tk_ars_ok : ∀ q ∈ tk_ars, q.1 < tk_nc ∧ tk_sh q.1 = .inr (q.2.1, q.2.2.1, if q.2.1 < 3 then none else some q.2.2.2) ∧ q.2.2.1 < 1000 ∧ q.2.1 < 6 := by decide +kernel
end
section
/-! THE ONE WORLD: all cells that the class and its reference hold once they are made, by their places: 0 the law's long[1]; then the class's objects, then the reference's -/
abbrev tk_M : Type := Nat → Nat → Int
/-- where a run is: the cells' addresses, the kinds' numbers and slots, the array kinds' numbers, the script's length and ints -/
abbrev tk_G : Type := (Nat → Nat) × va_G × (Nat → ClassId) × Nat × (Nat → Int32)
def tk_up (M : tk_M) (c j : Nat) (v : Int) : tk_M := fun a b => if a = c ∧ b = j then v else M a b
def tk_cv (G : tk_G) (v : (Int ⊕ Nat) ⊕ Int) : Value := match v with
  | .inl (.inl x) => .int (Int32.ofInt x)
  | .inl (.inr c) => .ref (G.1 c)
  | .inr x => .long (Int64.ofInt x)
def tk_fv (G : tk_G) (o : Option Nat) (x : Int) : Value := match o with
  | none => .int (Int32.ofInt x)
  | some r => .ref (G.1 r)

def tk_ent (G : tk_G) (M : tk_M) (c : Nat) : va_E := match tk_sh c with
  | .inl (ci, fs) => .inr (ci, (List.range fs.length).map fun j => tk_fv G (fs.getD j none) (M c j))
  | .inr (ty, n, some b) => .inl (G.2.2.1 ty, n, .inr (.inr (.inr (.inr fun j => some (G.1 (b + j))))))
  | .inr (ty, n, none) => .inl (G.2.2.1 ty, n, if ty = 2 then .inr (.inl fun j => Int64.ofInt (M c j)) else .inl fun j => Int32.ofInt (M c j))
def tk_ws (G : tk_G) (M : tk_M) : va_W := (List.range tk_nc).map fun c => (G.1 c, tk_ent G M c)
def tk_Wd (G : tk_G) (M : tk_M) (H : Heap) : Prop := va_P G.2.1 tk_cl (tk_ws G M) H ∧ ∀ c j, -2147483648 ≤ M c j ∧ M c j < 2147483648
def tk_St (G : tk_G) (A : Nat → Prop) : Prop := (∀ i j, i < tk_nc → j < tk_nc → G.1 i = G.1 j → i = j) ∧ ∀ i, i < tk_nc → A (G.1 i)
theorem tk_ws_at {G : tk_G} {M : tk_M} {c : Nat} (h : c < tk_nc) : (tk_ws G M)[c]? = some (G.1 c, tk_ent G M c) := by
  simp [tk_ws, List.getElem?_range, h]
theorem tk_ws_some {G : tk_G} {M : tk_M} {c : Nat} {q : Nat × va_E} (h : (tk_ws G M)[c]? = some q) : c < tk_nc ∧ q = (G.1 c, tk_ent G M c) := by
  by_cases hc : c < tk_nc
  · rw [tk_ws_at hc] at h
    exact ⟨hc, (Option.some.inj h).symm⟩
  · have : (tk_ws G M)[c]? = none := by
      rw [List.getElem?_eq_none_iff]
      simp [tk_ws]
      omega
    rw [this] at h
    cases h
theorem tk_St.D {G : tk_G} {A : Nat → Prop} (h : tk_St G A) {M : tk_M} : va_D A (tk_ws G M) := by
  refine ⟨fun i j p q hi hj e => ?_, fun k q hk => ?_⟩
  · obtain ⟨h1, rfl⟩ := tk_ws_some hi
    obtain ⟨h2, rfl⟩ := tk_ws_some hj
    exact h.1 i j h1 h2 e
  · obtain ⟨h1, rfl⟩ := tk_ws_some hk
    exact h.2 k h1
theorem tk_ent_eq {G : tk_G} {M M' : tk_M} {c : Nat} (h : ∀ j, M' c j = M c j) : tk_ent G M' c = tk_ent G M c := by
  have e : M' c = M c := funext h
  unfold tk_ent
  rw [e]
theorem tk_ws_set {G : tk_G} {M M' : tk_M} {c : Nat} {E : va_E} (hc : c < tk_nc) (h : ∀ a, a ≠ c → ∀ j, M' a j = M a j) (he : tk_ent G M' c = E) : (tk_ws G M).set c (G.1 c, E) = tk_ws G M' := by
  apply List.ext_getElem?
  intro k
  rw [List.getElem?_set]
  have hlen : (tk_ws G M).length = tk_nc := by simp [tk_ws]
  by_cases hk : k < tk_nc
  · rw [tk_ws_at (M := M') hk]
    by_cases e : c = k
    · subst e
      rw [if_pos rfl, hlen, if_pos hk, he]
    · rw [if_neg e, tk_ws_at (M := M) hk, tk_ent_eq (h k (fun z => e z.symm))]
  · have e1 : (tk_ws G M')[k]? = none := by
      rw [List.getElem?_eq_none_iff]
      simp [tk_ws]
      omega
    have e2 : (tk_ws G M)[k]? = none := by
      rw [List.getElem?_eq_none_iff]
      simp [tk_ws]
      omega
    have e3 : c ≠ k := by omega
    rw [if_neg e3, e1, e2]
theorem tk_up_ne {M : tk_M} {c j : Nat} {v : Int} {a : Nat} (h : a ≠ c) (b : Nat) : tk_up M c j v a b = M a b := by
  unfold tk_up
  rw [if_neg (fun z => h z.1)]
theorem tk_up_r {M : tk_M} {c j : Nat} {v : Int} (hM : ∀ c j, -2147483648 ≤ M c j ∧ M c j < 2147483648) (hv : -2147483648 ≤ v ∧ v < 2147483648) (a b : Nat) : -2147483648 ≤ tk_up M c j v a b ∧ tk_up M c j v a b < 2147483648 := by
  unfold tk_up
  split
  · exact hv
  · exact hM a b
theorem tk_ws_obj {G : tk_G} {M : tk_M} {c ci : Nat} {fs : List (Option Nat)} (hc : c < tk_nc) (hs : tk_sh c = .inl (ci, fs)) : (tk_ws G M)[c]? = some (G.1 c, .inr (ci, (List.range fs.length).map fun j => tk_fv G (fs.getD j none) (M c j))) := by
  rw [tk_ws_at hc]
  unfold tk_ent
  rw [hs]
theorem tk_fs_int {G : tk_G} {M : tk_M} {c j : Nat} {fs : List (Option Nat)} (h : j < fs.length ∧ fs.getD j none = none) : ((List.range fs.length).map fun j => tk_fv G (fs.getD j none) (M c j))[j]? = some (.int (Int32.ofInt (M c j))) := by
  rw [List.getElem?_map, List.getElem?_range h.1]
  show some (tk_fv G (fs.getD j none) (M c j)) = _
  rw [h.2]
  rfl
theorem tk_fs_ref {G : tk_G} {M : tk_M} {c j r : Nat} {fs : List (Option Nat)} (h : j < fs.length ∧ fs.getD j none = some r) : ((List.range fs.length).map fun j => tk_fv G (fs.getD j none) (M c j))[j]? = some (.ref (G.1 r)) := by
  rw [List.getElem?_map, List.getElem?_range h.1]
  show some (tk_fv G (fs.getD j none) (M c j)) = _
  rw [h.2]
  rfl
theorem tk_fs_len {G : tk_G} {M : tk_M} {c j : Nat} {o : Option Nat} {fs : List (Option Nat)} (h : j < fs.length ∧ fs.getD j none = o) : j < ((List.range fs.length).map fun j => tk_fv G (fs.getD j none) (M c j)).length := by
  simp
  exact h.1
theorem tk_ws_put {G : tk_G} {M : tk_M} {c ci j : Nat} {v : Int} {fs : List (Option Nat)} (hc : c < tk_nc) (hs : tk_sh c = .inl (ci, fs)) (h : j < fs.length ∧ fs.getD j none = none) :
    (tk_ws G M).set c (G.1 c, .inr (ci, ((List.range fs.length).map fun j => tk_fv G (fs.getD j none) (M c j)).set j (.int (Int32.ofInt v)))) = tk_ws G (tk_up M c j v) := by
  refine tk_ws_set hc (fun a ha b => tk_up_ne ha b) ?_
  unfold tk_ent
  rw [hs]
  show Sum.inr (ci, _) = Sum.inr (ci, _)
  congr 2
  apply List.ext_getElem?
  intro k
  rw [List.getElem?_set, List.getElem?_map, List.getElem?_map]
  by_cases e : j = k
  · subst e
    rw [if_pos rfl, List.getElem?_range h.1]
    simp only [List.length_map, List.length_range, h.1, if_true, Option.map_some]
    show some (tk_fv G (fs.getD j none) (tk_up M c j v c j)) = _
    rw [h.2]
    simp [tk_fv, tk_up]
  · rw [if_neg e]
    by_cases hk : k < fs.length
    · rw [List.getElem?_range hk]
      show some (tk_fv G (fs.getD k none) (tk_up M c j v c k)) = some (tk_fv G (fs.getD k none) (M c k))
      have : tk_up M c j v c k = M c k := by
        unfold tk_up
        rw [if_neg (fun z => e z.2.symm)]
      rw [this]
    · have : (List.range fs.length)[k]? = none := by
        rw [List.getElem?_eq_none_iff]
        simp
        omega
      rw [this]
      rfl
theorem tk_ws_arr {G : tk_G} {M : tk_M} {c ty n b : Nat} (h : (c, ty, n, b) ∈ tk_ars) (ht : ty < 2) : (tk_ws G M)[c]? = some (G.1 c, .inl (G.2.2.1 ty, n, .inl fun j => Int32.ofInt (M c j))) := by
  obtain ⟨h1, h2, -⟩ := tk_ars_ok _ h
  dsimp only at h1 h2
  rw [tk_ws_at h1]
  unfold tk_ent
  rw [h2, if_pos (by omega)]
  show some (G.1 c, Sum.inl (G.2.2.1 ty, n, if ty = 2 then _ else _)) = _
  rw [if_neg (by omega)]
theorem tk_ws_lng {G : tk_G} {M : tk_M} {c n b : Nat} (h : (c, 2, n, b) ∈ tk_ars) : (tk_ws G M)[c]? = some (G.1 c, .inl (G.2.2.1 2, n, .inr (.inl fun j => Int64.ofInt (M c j)))) := by
  obtain ⟨h1, h2, -⟩ := tk_ars_ok _ h
  dsimp only at h1 h2
  rw [tk_ws_at h1]
  unfold tk_ent
  rw [h2, if_pos (by omega)]
  rfl
theorem tk_ws_rfs {G : tk_G} {M : tk_M} {c ty n b : Nat} (h : (c, ty + 3, n, b) ∈ tk_ars) : (tk_ws G M)[c]? = some (G.1 c, .inl (G.2.2.1 (ty + 3), n, .inr (.inr (.inr (.inr fun j => some (G.1 (b + j))))))) := by
  obtain ⟨h1, h2, -⟩ := tk_ars_ok _ h
  dsimp only at h1 h2
  rw [tk_ws_at h1]
  unfold tk_ent
  rw [h2, if_neg (by omega)]
theorem tk_ws_ast {G : tk_G} {M : tk_M} {c ty n b : Nat} (h : (c, ty, n, b) ∈ tk_ars) (ht : ty < 2) (i : Nat) (v : Int) : (tk_ws G M).set c (G.1 c, .inl (G.2.2.1 ty, n, .inl (upd (fun j => Int32.ofInt (M c j)) i (Int32.ofInt v)))) = tk_ws G (tk_up M c i v) := by
  obtain ⟨h1, h2, -⟩ := tk_ars_ok _ h
  dsimp only at h1 h2
  refine tk_ws_set h1 (fun a ha b => tk_up_ne ha b) ?_
  unfold tk_ent
  rw [h2, if_pos (by omega)]
  show Sum.inl (G.2.2.1 ty, n, if ty = 2 then _ else _) = _
  rw [if_neg (by omega)]
  congr 3
  congr 1
  funext j
  unfold upd tk_up
  by_cases e : j = i
  · simp [e]
  · simp [e]
theorem tk_ws_lst {G : tk_G} {M : tk_M} {c n b : Nat} (h : (c, 2, n, b) ∈ tk_ars) (i : Nat) (v : Int) : (tk_ws G M).set c (G.1 c, .inl (G.2.2.1 2, n, .inr (.inl (vp_updL (fun j => Int64.ofInt (M c j)) i (Int64.ofInt v))))) = tk_ws G (tk_up M c i v) := by
  obtain ⟨h1, h2, -⟩ := tk_ars_ok _ h
  dsimp only at h1 h2
  refine tk_ws_set h1 (fun a ha b => tk_up_ne ha b) ?_
  unfold tk_ent
  rw [h2, if_pos (by omega)]
  show Sum.inl (G.2.2.1 2, n, Sum.inr (Sum.inl _)) = _
  congr 4
  congr 1
  funext j
  unfold vp_updL tk_up
  by_cases e : j = i
  · simp [e]
  · simp [e]
def tk_tys (G : tk_G) : List (ClassId × FieldType) := [(G.2.2.1 0, .int), (G.2.2.1 1, .boolean), (G.2.2.1 2, .long), (G.2.2.1 3, .object "TrackKeeper$Train"), (G.2.2.1 4, .object "TrackKeeper$Section"), (G.2.2.1 5, .object "TrackKeeper$Subsection")]
theorem tk_tys_at {G : tk_G} {c ty n b : Nat} (h : (c, ty, n, b) ∈ tk_ars) : ∃ y, (tk_tys G)[ty]? = some (G.2.2.1 ty, y) := by
  have h1 := (tk_ars_ok _ h).2.2.2
  dsimp only at h1
  match ty, h1 with
  | 0, _ => exact ⟨_, rfl⟩
  | 1, _ => exact ⟨_, rfl⟩
  | 2, _ => exact ⟨_, rfl⟩
  | 3, _ => exact ⟨_, rfl⟩
  | 4, _ => exact ⟨_, rfl⟩
  | 5, _ => exact ⟨_, rfl⟩
theorem tk_tys_rf {G : tk_G} {c ty n b : Nat} (h : (c, ty + 3, n, b) ∈ tk_ars) : ∃ C, (tk_tys G)[ty + 3]? = some (G.2.2.1 (ty + 3), .object C) := by
  have h1 := (tk_ars_ok _ h).2.2.2
  dsimp only at h1
  match ty, h1 with
  | 0, _ => exact ⟨_, rfl⟩
  | 1, _ => exact ⟨_, rfl⟩
  | 2, _ => exact ⟨_, rfl⟩
theorem tk_ws_any {G : tk_G} {M : tk_M} {c ty n b : Nat} (h : (c, ty, n, b) ∈ tk_ars) : ∃ x : vp_A, (tk_ws G M)[c]? = some (G.1 c, .inl (G.2.2.1 ty, x)) ∧ x.1 = n ∧ True := by
  match ty, h with
  | 0, h => exact ⟨_, tk_ws_arr h (by decide), rfl, trivial⟩
  | 1, h => exact ⟨_, tk_ws_arr h (by decide), rfl, trivial⟩
  | 2, h => exact ⟨_, tk_ws_lng h, rfl, trivial⟩
  | z + 3, h => exact ⟨_, tk_ws_rfs h, rfl, trivial⟩
end
section
/-! what the rows of a field table say -/
def tk_ho (ty : Nat) : Option Nat := match ty with
  | 0 => none
  | 1 => none
  | r + 2 => some r
def tk_shok (z : (Nat × List (Option Nat)) ⊕ (Nat × Nat × Option Nat)) (k j ty : Nat) : Bool := match z with
  | .inl q => decide (q.1 = k) && decide (j < q.2.length) && decide (q.2.getD j none = tk_ho ty)
  | .inr _ => false
def tk_fchk (own : String) (q : Nat × Nat × Nat × Nat × Nat × Nat) : Bool := match tk_cl[q.2.1]? with
  | some z => decide (q.2.2.1 < z.2.2) && decide (Jvm.Cond.fieldLink own q.1 (z.2.1 q.2.2.1).1 (z.2.1 q.2.2.1).2.1 (z.2.1 q.2.2.1).2.2.1 ∈ tk_tbl) && decide (q.2.2.2.2.1 ≤ tk_nc) &&
    (List.range tk_nc).all (fun c => !(decide (q.2.2.2.1 ≤ c) && decide (c < q.2.2.2.2.1)) || tk_shok (tk_sh c) q.2.1 q.2.2.1 q.2.2.2.2.2) &&
    (match q.2.2.2.2.2 with
      | 0 => decide ((z.2.1 q.2.2.1).2.2.1 = "I") && decide ((z.2.1 q.2.2.1).2.2.2 = false)
      | 1 => decide ((z.2.1 q.2.2.1).2.2.1 = "Z") && decide ((z.2.1 q.2.2.1).2.2.2 = false)
      | _ => true)
  | none => false
def tk_flok (own : String) (fl : List (Nat × Nat × Nat × Nat × Nat × Nat)) : Prop := ∀ q ∈ fl, tk_fchk own q = true
theorem tk_flok.get {own : String} {fl : List (Nat × Nat × Nat × Nat × Nat × Nat)} {x k j lw hg ty a : Nat} (h : tk_flok own fl) (hm : (x, k, j, lw, hg, ty) ∈ fl) (g1 : lw ≤ a) (g2 : a < hg) :
    ∃ (C : String) (T : u_T) (N : Nat) (fs : List (Option Nat)), tk_cl[k]? = some (C, T, N) ∧ j < N ∧ Jvm.Cond.fieldLink own x (T j).1 (T j).2.1 (T j).2.2.1 ∈ tk_tbl ∧ a < tk_nc ∧ tk_sh a = .inl (k, fs) ∧ (j < fs.length ∧ fs.getD j none = tk_ho ty) := by
  have h1 := h _ hm
  unfold tk_fchk at h1
  dsimp only at h1
  cases hz : tk_cl[k]? with
  | none => rw [hz] at h1; cases h1
  | some z =>
    obtain ⟨C, T, N⟩ := z
    rw [hz] at h1
    simp only [Bool.and_eq_true, decide_eq_true_eq] at h1
    obtain ⟨⟨⟨⟨h2, h3⟩, h4⟩, h5⟩, -⟩ := h1
    have ha : a < tk_nc := Nat.lt_of_lt_of_le g2 h4
    have h6 := List.all_eq_true.mp h5 a (List.mem_range.mpr ha)
    rw [show (decide (lw ≤ a) && decide (a < hg)) = true by simp [g1, g2]] at h6
    simp only [Bool.not_true, Bool.false_or] at h6
    unfold tk_shok at h6
    cases hs : tk_sh a with
    | inr y => rw [hs] at h6; cases h6
    | inl y =>
      rw [hs] at h6
      obtain ⟨k2, fs⟩ := y
      simp only [Bool.and_eq_true, decide_eq_true_eq] at h6
      obtain ⟨⟨rfl, h7⟩, h8⟩ := h6
      exact ⟨C, T, N, fs, rfl, h2, h3, ha, rfl, h7, h8⟩
theorem tk_flok.int {own : String} {fl : List (Nat × Nat × Nat × Nat × Nat × Nat)} {x k j lw hg ty a : Nat} (h : tk_flok own fl) (hm : (x, k, j, lw, hg, ty) ∈ fl) (ht : ty = 0 ∨ ty = 1) (g1 : lw ≤ a) (g2 : a < hg) :
    ∃ (C : String) (T : u_T) (N : Nat) (fs : List (Option Nat)), tk_cl[k]? = some (C, T, N) ∧ j < N ∧ Jvm.Cond.fieldLink own x (T j).1 (T j).2.1 (T j).2.2.1 ∈ tk_tbl ∧ a < tk_nc ∧ tk_sh a = .inl (k, fs) ∧ (j < fs.length ∧ fs.getD j none = none) := by
  have h1 := h.get hm g1 g2
  rcases ht with rfl | rfl <;> exact h1
theorem tk_flok.ref {own : String} {fl : List (Nat × Nat × Nat × Nat × Nat × Nat)} {x k j lw hg r a : Nat} (h : tk_flok own fl) (hm : (x, k, j, lw, hg, r + 2) ∈ fl) (g1 : lw ≤ a) (g2 : a < hg) :
    ∃ (C : String) (T : u_T) (N : Nat) (fs : List (Option Nat)), tk_cl[k]? = some (C, T, N) ∧ j < N ∧ Jvm.Cond.fieldLink own x (T j).1 (T j).2.1 (T j).2.2.1 ∈ tk_tbl ∧ a < tk_nc ∧ tk_sh a = .inl (k, fs) ∧ (j < fs.length ∧ fs.getD j none = some r) := h.get hm g1 g2
theorem tk_pI : parseFieldDescriptor "I" = some .int := by decide +kernel
theorem tk_pZ : parseFieldDescriptor "Z" = some .boolean := by decide +kernel
theorem tk_flok.typ {own : String} {fl : List (Nat × Nat × Nat × Nat × Nat × Nat)} {x k j lw hg ty : Nat} {C : String} {T : u_T} {N : Nat} (h : tk_flok own fl) (hm : (x, k, j, lw, hg, ty) ∈ fl) (hc : tk_cl[k]? = some (C, T, N)) :
    (ty < 2 → (T j).2.2.2 = false) ∧ (ty = 0 → parseFieldDescriptor (T j).2.2.1 = some .int) ∧ (ty = 1 → parseFieldDescriptor (T j).2.2.1 = some .boolean) := by
  have h1 := h _ hm
  unfold tk_fchk at h1
  dsimp only at h1
  rw [hc] at h1
  simp only [Bool.and_eq_true, decide_eq_true_eq] at h1
  have h2 := h1.2
  match ty, h2 with
  | 0, h2 =>
    simp only [Bool.and_eq_true, decide_eq_true_eq] at h2
    exact ⟨fun _ => h2.2, fun _ => by rw [h2.1]; exact tk_pI, fun z => (by cases z)⟩
  | 1, h2 =>
    simp only [Bool.and_eq_true, decide_eq_true_eq] at h2
    exact ⟨fun _ => h2.2, fun z => (by cases z), fun _ => by rw [h2.1]; exact tk_pZ⟩
  | r + 2, h2 => exact ⟨fun z => by omega, fun z => by omega, fun z => by omega⟩
def tk_clchk (z : vw_C) : Bool := (u_ws z.1 z.2.1 z.2.2).all (fun w => decide (w ∈ tk_tbl)) && (List.range z.2.2).all (fun k => (parseFieldDescriptor (z.2.1 k).2.2.1).isSome && (List.range z.2.2).all (fun j => decide (k = j) || !decide ((z.2.1 k).2.1 = (z.2.1 j).2.1)))
set_option maxRecDepth 100000 in
theorem tk_clall : tk_cl.all tk_clchk = true := by decide +kernel
theorem tk_clk {k : Nat} {C : String} {T : u_T} {N : Nat} (h : tk_cl[k]? = some (C, T, N)) : tk_clchk (C, T, N) = true := List.all_eq_true.mp tk_clall _ (List.mem_of_getElem? h)
theorem tk_cls {k : Nat} {C : String} {T : u_T} {N : Nat} (h : tk_cl[k]? = some (C, T, N)) : ∀ w ∈ u_ws C T N, w ∈ tk_tbl := by
  have h1 := tk_clk h
  unfold tk_clchk at h1
  simp only [Bool.and_eq_true] at h1
  exact fun w hw => of_decide_eq_true (List.all_eq_true.mp h1.1 w hw)
theorem tk_tyok {k : Nat} {C : String} {T : u_T} {N : Nat} (h : tk_cl[k]? = some (C, T, N)) : ∃ ty : Nat → FieldType, (∀ k, k < N → parseFieldDescriptor (T k).2.2.1 = some (ty k)) ∧ (∀ a, a < N → ∀ b, b < N → a ≠ b → (T a).2.1 ≠ (T b).2.1) := by
  have h1 := tk_clk h
  unfold tk_clchk at h1
  simp only [Bool.and_eq_true] at h1
  have h2 := List.all_eq_true.mp h1.2
  refine ⟨fun k => (parseFieldDescriptor (T k).2.2.1).getD .int, fun k hk => ?_, fun a ha b hb hne => ?_⟩
  · have h3 := h2 k (List.mem_range.mpr hk)
    simp only [Bool.and_eq_true] at h3
    obtain ⟨y, hy⟩ := Option.isSome_iff_exists.mp h3.1
    show _ = some ((parseFieldDescriptor (T k).2.2.1).getD .int)
    rw [hy]
    rfl
  · have h3 := h2 a (List.mem_range.mpr ha)
    simp only [Bool.and_eq_true] at h3
    have h4 := List.all_eq_true.mp h3.2 b (List.mem_range.mpr hb)
    simp [hne] at h4
    exact h4
end
section
/-! THE WALKER: a stretch of bytecode as a proposition over numbers. Ints are held as numbers (Int), cells by their places in one world (see 15.world). -/
/-- a one-word value: an int, or a cell of the world; on the stack also a long -/
abbrev tk_U : Type := Int ⊕ Nat
abbrev tk_V : Type := tk_U ⊕ Int
abbrev tk_Lc : Type := List (Option tk_U)
/-- a row of a method's table: where it stands, the instruction, where the next one stands, where it may jump -/
abbrev tk_E : Type := Nat × Instr × Nat × List Nat
def tk_gt {α : Type} : List (Option α) → Nat → Option α
  | [], _ => none
  | a :: _, 0 => a
  | _ :: t, n + 1 => tk_gt t n
def tk_se {α : Type} : List (Option α) → Nat → α → List (Option α)
  | [], _, _ => []
  | _ :: t, 0, v => some v :: t
  | a :: t, n + 1, v => a :: tk_se t n v
def tk_lk {α : Type} : List (Nat × α) → Nat → Option α
  | [], _ => none
  | q :: t, n => bif Nat.beq q.1 n then some q.2 else tk_lk t n
def tk_to : List tk_E → Nat → List tk_E
  | [], _ => []
  | q :: t, n => bif Nat.beq q.1 n then q :: t else tk_to t n
def tk_c (c : Jvm.ClassFile.Cond) (a b : Int) : Prop := match c with
  | .eq => a = b
  | .ne => ¬ a = b
  | .lt => a < b
  | .ge => b ≤ a
  | .gt => b < a
  | .le => a ≤ b
def tk_cmp (a b : Int) : Int := if a < b then -1 else if a = b then 0 else 1
/-- the targets of a table switch: one behind the other, from the least number on -/
def tk_sw (J : Nat → Prop) (x : Int) : Int → List Nat → Prop
  | _, [] => True
  | n, t :: ts => (x = n → J t) ∧ tk_sw J x (n + 1) ts
/-- fields that a method's pool entries name: entry, number of the kind of object, slot, first and last place of that kind (the last excluded), what the slot holds: 0 an int, 1 a boolean, r + 2 the cell r -/
abbrev tk_FL : Type := List (Nat × Nat × Nat × Nat × Nat × Nat)
/-- one instruction: K goes on behind it, J jumps, RQ ends the method -/
def tk_I (fl : tk_FL) (cs : List (Nat × Int)) (b9 : Bool) (L : Nat) (xs : Nat → Int32) (K : tk_Lc → List tk_V → tk_M → Prop) (J : Nat → tk_Lc → List tk_V → tk_M → Prop) (RQ : Option Int → tk_M → Prop)
    (i : Instr) (tg : List Nat) (lo : tk_Lc) (st : List tk_V) (M : tk_M) : Prop :=
  match i with
  | .iconst n => K lo (.inl (.inl n) :: st) M
  | .bipush n => K lo (.inl (.inl n) :: st) M
  | .sipush n => K lo (.inl (.inl n) :: st) M
  | .ldc x => (match tk_lk cs x with
    | some n => K lo (.inl (.inl n) :: st) M
    | none => False)
  | .iload_n k => (match tk_gt lo k.val with
    | some (.inl x) => K lo (.inl (.inl x) :: st) M
    | _ => False)
  | .iload k => (match tk_gt lo k with
    | some (.inl x) => K lo (.inl (.inl x) :: st) M
    | _ => False)
  | .aload_n k => (match tk_gt lo k.val with
    | some (.inr x) => K lo (.inl (.inr x) :: st) M
    | _ => False)
  | .aload k => (match tk_gt lo k with
    | some (.inr x) => K lo (.inl (.inr x) :: st) M
    | _ => False)
  | .istore_n k => (match st with
    | .inl (.inl x) :: st => K (tk_se lo k.val (.inl x)) st M
    | _ => False)
  | .istore k => (match st with
    | .inl (.inl x) :: st => K (tk_se lo k (.inl x)) st M
    | _ => False)
  | .astore_n k => (match st with
    | .inl (.inr x) :: st => K (tk_se lo k.val (.inr x)) st M
    | _ => False)
  | .astore k => (match st with
    | .inl (.inr x) :: st => K (tk_se lo k (.inr x)) st M
    | _ => False)
  | .iinc k n => (match tk_gt lo k with
    | some (.inl x) => -2147483648 ≤ x + n ∧ x + n < 2147483648 ∧ K (tk_se lo k (.inl (x + n))) st M
    | _ => False)
  | .iadd => (match st with
    | .inl (.inl b) :: .inl (.inl a) :: st => -2147483648 ≤ a + b ∧ a + b < 2147483648 ∧ K lo (.inl (.inl (a + b)) :: st) M
    | _ => False)
  | .isub => (match st with
    | .inl (.inl b) :: .inl (.inl a) :: st => -2147483648 ≤ a - b ∧ a - b < 2147483648 ∧ K lo (.inl (.inl (a - b)) :: st) M
    | _ => False)
  | .iand => (match st with
    | .inl (.inl b) :: .inl (.inl a) :: st => K lo (.inl (.inl (Int32.ofInt a &&& Int32.ofInt b).toInt) :: st) M
    | _ => False)
  | .ior => (match st with
    | .inl (.inl b) :: .inl (.inl a) :: st => K lo (.inl (.inl (Int32.ofInt a ||| Int32.ofInt b).toInt) :: st) M
    | _ => False)
  | .ishl => (match st with
    | .inl (.inl b) :: .inl (.inl a) :: st => K lo (.inl (.inl (Int32.ofInt a <<< (Int32.ofInt b &&& 31)).toInt) :: st) M
    | _ => False)
  | .ishr => (match st with
    | .inl (.inl b) :: .inl (.inl a) :: st => K lo (.inl (.inl (Int32.ofInt a >>> (Int32.ofInt b &&& 31)).toInt) :: st) M
    | _ => False)
  | .ifCond c _ => (match st, tg with
    | .inl (.inl a) :: st, [t] => (tk_c c a 0 → J t lo st M) ∧ (¬ tk_c c a 0 → K lo st M)
    | _, _ => False)
  | .if_icmp c _ => (match st, tg with
    | .inl (.inl b) :: .inl (.inl a) :: st, [t] => (tk_c c a b → J t lo st M) ∧ (¬ tk_c c a b → K lo st M)
    | _, _ => False)
  | .goto _ => (match tg with
    | [t] => J t lo st M
    | _ => False)
  | .tableswitch _ l h _ => (match st, tg with
    | .inl (.inl x) :: st, d :: ts => (x < l ∨ h < x → J d lo st M) ∧ tk_sw (fun t => J t lo st M) x l ts
    | _, _ => False)
  | .dup => (match st with
    | .inl v :: st => K lo (.inl v :: .inl v :: st) M
    | _ => False)
  | .dup_x1 => (match st with
    | .inl v :: .inl w :: st => K lo (.inl v :: .inl w :: .inl v :: st) M
    | _ => False)
  | .dup_x2 => (match st with
    | .inl v :: .inl w :: .inl z :: st => K lo (.inl v :: .inl w :: .inl z :: .inl v :: st) M
    | _ => False)
  | .dup2 => (match st with
    | .inl v :: .inl w :: st => K lo (.inl v :: .inl w :: .inl v :: .inl w :: st) M
    | _ => False)
  | .pop => (match st with
    | .inl _ :: st => K lo st M
    | _ => False)
  | .i2l => (match st with
    | .inl (.inl x) :: st => K lo (.inr x :: st) M
    | _ => False)
  | .lconst k => K lo (.inr (k.val : Int) :: st) M
  | .lcmp => (match st with
    | .inr b :: .inr a :: st => K lo (.inl (.inl (tk_cmp a b)) :: st) M
    | _ => False)
  | .getfield x => (match st, tk_lk fl x with
    | .inl (.inr c) :: st, some (_, j, l, h, 0) => (l ≤ c ∧ c < h) ∧ (-2147483648 ≤ M c j → M c j < 2147483648 → K lo (.inl (.inl (M c j)) :: st) M)
    | .inl (.inr c) :: st, some (_, j, l, h, 1) => (l ≤ c ∧ c < h) ∧ (-2147483648 ≤ M c j → M c j < 2147483648 → K lo (.inl (.inl (M c j)) :: st) M)
    | .inl (.inr c) :: st, some (_, _, l, h, r + 2) => (l ≤ c ∧ c < h) ∧ K lo (.inl (.inr r) :: st) M
    | _, _ => False)
  | .putfield x => (match st, tk_lk fl x with
    | .inl (.inl v) :: .inl (.inr c) :: st, some (_, j, l, h, 0) => (l ≤ c ∧ c < h) ∧ K lo st (tk_up M c j v)
    | .inl (.inl v) :: .inl (.inr c) :: st, some (_, j, l, h, 1) => (l ≤ c ∧ c < h) ∧ (v = 0 ∨ v = 1) ∧ K lo st (tk_up M c j v)
    | _, _ => False)
  | .iaload => (match st with
    | .inl (.inl i) :: .inl (.inr c) :: st => (match tk_lk tk_ars c with
      | some (0, n, _) => (0 ≤ i ∧ i < (n : Int)) ∧ (-2147483648 ≤ M c i.toNat → M c i.toNat < 2147483648 → K lo (.inl (.inl (M c i.toNat)) :: st) M)
      | _ => (bif b9 && Nat.beq c tk_sc then (0 ≤ i ∧ i < (L : Int)) ∧ K lo (.inl (.inl (xs i.toNat).toInt) :: st) M else False))
    | _ => False)
  | .baload => (match st with
    | .inl (.inl i) :: .inl (.inr c) :: st => (match tk_lk tk_ars c with
      | some (1, n, _) => (0 ≤ i ∧ i < (n : Int)) ∧ (-2147483648 ≤ M c i.toNat → M c i.toNat < 2147483648 → K lo (.inl (.inl (M c i.toNat)) :: st) M)
      | _ => False)
    | _ => False)
  | .laload => (match st with
    | .inl (.inl i) :: .inl (.inr c) :: st => (match tk_lk tk_ars c with
      | some (2, n, _) => (0 ≤ i ∧ i < (n : Int)) ∧ (-2147483648 ≤ M c i.toNat → M c i.toNat < 2147483648 → K lo (.inr (M c i.toNat) :: st) M)
      | _ => False)
    | _ => False)
  | .aaload => (match st with
    | .inl (.inl i) :: .inl (.inr c) :: st => (match tk_lk tk_ars c with
      | some (_ + 3, n, b) => (0 ≤ i ∧ i < (n : Int)) ∧ K lo (.inl (.inr (b + i.toNat)) :: st) M
      | _ => False)
    | _ => False)
  | .iastore => (match st with
    | .inl (.inl v) :: .inl (.inl i) :: .inl (.inr c) :: st => (match tk_lk tk_ars c with
      | some (0, n, _) => (0 ≤ i ∧ i < (n : Int)) ∧ K lo st (tk_up M c i.toNat v)
      | _ => False)
    | _ => False)
  | .bastore => (match st with
    | .inl (.inl v) :: .inl (.inl i) :: .inl (.inr c) :: st => (match tk_lk tk_ars c with
      | some (1, n, _) => (0 ≤ i ∧ i < (n : Int)) ∧ (v = 0 ∨ v = 1) ∧ K lo st (tk_up M c i.toNat v)
      | _ => False)
    | _ => False)
  | .lastore => (match st with
    | .inr v :: .inl (.inl i) :: .inl (.inr c) :: st => (match tk_lk tk_ars c with
      | some (2, n, _) => (0 ≤ i ∧ i < (n : Int)) ∧ K lo st (tk_up M c i.toNat v)
      | _ => False)
    | _ => False)
  | .arraylength => (match st with
    | .inl (.inr c) :: st => (match tk_lk tk_ars c with
      | some (_, n, _) => K lo (.inl (.inl (n : Int)) :: st) M
      | none => (bif b9 && Nat.beq c tk_sc then K lo (.inl (.inl (L : Int)) :: st) M else False))
    | _ => False)
  | .ireturn => (match st with
    | [.inl (.inl v)] => RQ (some v) M
    | _ => False)
  | .return_ => (match st with
    | [] => RQ none M
    | _ => False)
  | _ => False
/-- the walk stops ahead of calls, of what makes objects, and of the places named in 'cut' -/
def tk_stop (i : Instr) : Bool := match i with
  | .invokevirtual _ => true
  | .invokespecial _ => true
  | .invokestatic _ => true
  | .new _ => true
  | _ => false
/-- n instructions from the head of 'code' on; 'tab' is the whole table; P holds where the walk stops -/
def tk_N (fl : tk_FL) (cs : List (Nat × Int)) (b9 : Bool) (L : Nat) (xs : Nat → Int32) (cut : List Nat) (tab : List tk_E) (P : Nat → tk_Lc → List tk_V → tk_M → Prop) (RQ : Option Int → tk_M → Prop) : Nat → List tk_E → tk_Lc → List tk_V → tk_M → Prop
  | _, [], _, _, _ => False
  | 0, q :: _, lo, st, M => P q.1 lo st M
  | n + 1, q :: t, lo, st, M => bif (cut.elem q.1 || tk_stop q.2.1) then P q.1 lo st M
    else tk_I fl cs b9 L xs (fun lo st M => tk_N fl cs b9 L xs cut tab P RQ n t lo st M) (fun a lo st M => tk_N fl cs b9 L xs cut tab P RQ n (tk_to tab a) lo st M) RQ q.2.1 q.2.2.2 lo st M
/-- the same, with its first instruction whatever 'cut' says -/
def tk_R (fl : tk_FL) (cs : List (Nat × Int)) (b9 : Bool) (L : Nat) (xs : Nat → Int32) (cut : List Nat) (tab : List tk_E) (P : Nat → tk_Lc → List tk_V → tk_M → Prop) (RQ : Option Int → tk_M → Prop) (n : Nat) (code : List tk_E) (lo : tk_Lc) (st : List tk_V) (M : tk_M) : Prop :=
  match code with
  | [] => False
  | q :: t => tk_I fl cs b9 L xs (fun lo st M => tk_N fl cs b9 L xs cut tab P RQ n t lo st M) (fun a lo st M => tk_N fl cs b9 L xs cut tab P RQ n (tk_to tab a) lo st M) RQ q.2.1 q.2.2.2 lo st M
/-- what a row of the table must be, beside the bytes 'cc' of a method with nL locals -/
def tk_okI (nL : Nat) (pc : Nat) (i : Instr) (len : Nat) (tg : List Nat) : Bool := match i with
  | .bipush n => decide (-128 ≤ n) && decide (n < 128) && len == 2
  | .sipush n => decide (-32768 ≤ n) && decide (n < 32768) && len == 3
  | .iconst n => decide (-1 ≤ n) && decide (n < 6) && len == 1
  | .istore_n k => decide (k.val < nL) && len == 1
  | .istore k => decide (k < nL) && len == 2
  | .astore_n k => decide (k.val < nL) && len == 1
  | .astore k => decide (k < nL) && len == 2
  | .iinc k n => decide (k < nL) && decide (-128 ≤ n) && decide (n < 128) && len == 3
  | .ldc _ => len == 2
  | .iload _ => len == 2
  | .aload _ => len == 2
  | .ifCond _ o => len == 3 && (match tg with
    | [t] => decide ((pc : Int) + o = (t : Int))
    | _ => false)
  | .if_icmp _ o => len == 3 && (match tg with
    | [t] => decide ((pc : Int) + o = (t : Int))
    | _ => false)
  | .goto o => len == 3 && (match tg with
    | [t] => decide ((pc : Int) + o = (t : Int))
    | _ => false)
  | .tableswitch d l h os => (match tg with
    | t :: ts => decide ((pc : Int) + d = (t : Int)) && decide (os.toList.map (fun o => (pc : Int) + o) = ts.map (fun (z : Nat) => (z : Int))) && decide (l + (ts.length : Int) = h + 1)
    | _ => false)
  | .getfield _ => len == 3
  | .putfield _ => len == 3
  | .invokevirtual _ => len == 3
  | .invokespecial _ => len == 3
  | .invokestatic _ => len == 3
  | .new _ => len == 3
  | .anewarray _ => len == 3
  | .newarray _ => len == 2
  | _ => len == 1
def tk_ok (cc : ByteArray) (nL : Nat) (q : tk_E) : Bool := (match decode cc q.1 with
  | .ok (i, len) => decide (i = q.2.1) && decide (q.1 + len = q.2.2.1) && tk_okI nL q.1 q.2.1 len q.2.2.2
  | _ => false)
def tk_ch : List tk_E → Bool
  | [] => true
  | [_] => true
  | q :: r :: t => Nat.beq q.2.2.1 r.1 && tk_ch (r :: t)
def tk_good (cc : ByteArray) (nL : Nat) (tab : List tk_E) : Prop := (∀ q ∈ tab, tk_ok cc nL q = true) ∧ tk_ch tab = true
theorem tk_ok_dec {cc : ByteArray} {nL : Nat} {q : tk_E} (h : tk_ok cc nL q = true) : ∃ len, decode cc q.1 = .ok (q.2.1, len) ∧ q.1 + len = q.2.2.1 ∧ tk_okI nL q.1 q.2.1 len q.2.2.2 = true := by
  unfold tk_ok at h
  split at h
  · rename_i i len hd
    simp only [Bool.and_eq_true, decide_eq_true_eq] at h
    obtain ⟨⟨h1, h2⟩, h3⟩ := h
    subst h1
    exact ⟨len, hd, h2, h3⟩
  · cases h
theorem tk_ch_tail {q : tk_E} {t : List tk_E} (h : tk_ch (q :: t) = true) : tk_ch t = true := by
  cases t with
  | nil => rfl
  | cons r t =>
    simp only [tk_ch, Bool.and_eq_true] at h
    exact h.2
theorem tk_ch_next {q r : tk_E} {t : List tk_E} (h : tk_ch (q :: r :: t) = true) : q.2.2.1 = r.1 := by
  simp only [tk_ch, Bool.and_eq_true] at h
  exact Nat.eq_of_beq_eq_true h.1
theorem tk_good.tail {cc : ByteArray} {nL : Nat} {q : tk_E} {t : List tk_E} (h : tk_good cc nL (q :: t)) : tk_good cc nL t := ⟨fun r hr => h.1 r (List.mem_cons_of_mem _ hr), tk_ch_tail h.2⟩
theorem tk_good.to {cc : ByteArray} {nL : Nat} {n : Nat} : ∀ {tab : List tk_E}, tk_good cc nL tab → tk_good cc nL (tk_to tab n)
  | [], h => h
  | q :: t, h => by
    unfold tk_to
    cases hb : Nat.beq q.1 n with
    | true => exact h
    | false => exact tk_good.to h.tail
theorem tk_to_head {n : Nat} : ∀ {tab : List tk_E} {q : tk_E} {t : List tk_E}, tk_to tab n = q :: t → q.1 = n
  | [], _, _, h => by cases h
  | r :: tab, q, t, h => by
    unfold tk_to at h
    cases hb : Nat.beq r.1 n with
    | true =>
      rw [hb] at h
      cases h
      exact Nat.eq_of_beq_eq_true hb
    | false =>
      rw [hb] at h
      exact tk_to_head h
theorem tk_lk_mem {α : Type} {n : Nat} {a : α} : ∀ {l : List (Nat × α)}, tk_lk l n = some a → (n, a) ∈ l
  | [], h => by cases h
  | q :: t, h => by
    unfold tk_lk at h
    cases hb : Nat.beq q.1 n with
    | true =>
      rw [hb] at h
      have e1 : q.2 = a := Option.some.inj h
      have e2 : q.1 = n := Nat.eq_of_beq_eq_true hb
      rw [← e1, ← e2]
      exact List.mem_cons_self
    | false =>
      rw [hb] at h
      exact List.mem_cons_of_mem _ (tk_lk_mem h)
end
section
/-! THE WALKER IS RIGHT: a stretch that the walker grants is a stretch of the machine -/
section TKS
theorem tk_ti {x : Int} (h1 : -2147483648 ≤ x) (h2 : x < 2147483648) : (Int32.ofInt x).toInt = x := Int32.toInt_ofInt_of_le (by simpa using h1) (by simpa using h2)
theorem tk_tiL {x : Int} (h1 : -2147483648 ≤ x) (h2 : x < 2147483648) : (Int64.ofInt x).toInt = x := Int64.toInt_ofInt_of_le (by omega) (by omega)
theorem tk_eqI {x y : Int} (h1 : -2147483648 ≤ x ∧ x < 2147483648) (h2 : -2147483648 ≤ y ∧ y < 2147483648) : Int32.ofInt x = Int32.ofInt y ↔ x = y := by
  rw [← Int32.toInt_inj, tk_ti h1.1 h1.2, tk_ti h2.1 h2.2]
theorem tk_ltI {x y : Int} (h1 : -2147483648 ≤ x ∧ x < 2147483648) (h2 : -2147483648 ≤ y ∧ y < 2147483648) : Int32.ofInt x < Int32.ofInt y ↔ x < y := by
  rw [Int32.lt_iff_toInt_lt, tk_ti h1.1 h1.2, tk_ti h2.1 h2.2]
theorem tk_leI {x y : Int} (h1 : -2147483648 ≤ x ∧ x < 2147483648) (h2 : -2147483648 ≤ y ∧ y < 2147483648) : Int32.ofInt x ≤ Int32.ofInt y ↔ x ≤ y := by
  rw [Int32.le_iff_toInt_le, tk_ti h1.1 h1.2, tk_ti h2.1 h2.2]
theorem tk_rT (z : Int32) : -2147483648 ≤ z.toInt ∧ z.toInt < 2147483648 := ⟨by have := Int32.le_toInt z; omega, by have := Int32.toInt_lt z; omega⟩
theorem tk_clm {x : Int} (h1 : 0 ≤ x) (h2 : x < 2147483648) : (Int32.ofInt x).toNatClampNeg = x.toNat := by
  show (Int32.ofInt x).toInt.toNat = x.toNat
  rw [tk_ti (by omega) h2]
theorem tk_in {x : Int} {n : Nat} (h1 : 0 ≤ x) (h2 : x < (n : Int)) (hn : x < 2147483648) : vp_in (Int32.ofInt x) n := by
  rw [vp_in_iff, tk_ti (by omega) hn]
  exact ⟨h1, h2⟩
theorem tk_gt_se {α : Type} (v : α) : ∀ (lo : List (Option α)) (i n : Nat), i < lo.length → tk_gt (tk_se lo i v) n = if n = i then some v else tk_gt lo n
  | [], i, n, h => absurd h (Nat.not_lt_zero _)
  | a :: t, 0, 0, _ => rfl
  | a :: t, 0, n + 1, _ => rfl
  | a :: t, i + 1, 0, _ => rfl
  | a :: t, i + 1, n + 1, h => by
    show tk_gt (tk_se t i v) n = if n + 1 = i + 1 then some v else tk_gt t n
    rw [tk_gt_se v t i n (Nat.lt_of_succ_lt_succ h)]
    simp
theorem tk_se_len {α : Type} (v : α) : ∀ (lo : List (Option α)) (i : Nat), (tk_se lo i v).length = lo.length
  | [], _ => rfl
  | _ :: _, 0 => rfl
  | a :: t, i + 1 => congrArg Nat.succ (tk_se_len v t i)
def tk_lv (G : tk_G) : Nat → tk_Lc → List (Nat × Value)
  | _, [] => []
  | k, none :: t => tk_lv G (k + 1) t
  | k, some v :: t => (k, tk_cv G (.inl v)) :: tk_lv G (k + 1) t
theorem tk_lv_mem {G : tk_G} {q : Nat × Value} : ∀ {lo : tk_Lc} {k : Nat}, q ∈ tk_lv G k lo ↔ ∃ n v, q = (k + n, tk_cv G (.inl v)) ∧ tk_gt lo n = some v
  | [], k => ⟨fun h => (by cases h), fun ⟨n, v, _, h⟩ => (by cases h)⟩
  | none :: t, k => by
    show q ∈ tk_lv G (k + 1) t ↔ _
    rw [tk_lv_mem (lo := t) (k := k + 1)]
    constructor
    · rintro ⟨n, v, e1, e2⟩
      exact ⟨n + 1, v, by rw [e1]; congr 1; omega, e2⟩
    · rintro ⟨n, v, e1, e2⟩
      cases n with
      | zero => cases e2
      | succ n => exact ⟨n, v, by rw [e1]; congr 1; omega, e2⟩
  | some w :: t, k => by
    show q ∈ (k, tk_cv G (.inl w)) :: tk_lv G (k + 1) t ↔ _
    rw [List.mem_cons, tk_lv_mem (lo := t) (k := k + 1)]
    constructor
    · rintro (e1 | ⟨n, v, e1, e2⟩)
      · exact ⟨0, w, e1, rfl⟩
      · exact ⟨n + 1, v, by rw [e1]; congr 1; omega, e2⟩
    · rintro ⟨n, v, e1, e2⟩
      cases n with
      | zero =>
        cases e2
        exact Or.inl e1
      | succ n => exact Or.inr ⟨n, v, by rw [e1]; congr 1; omega, e2⟩
theorem tk_cat {G : tk_G} (v : tk_U) : (tk_cv G (.inl v)).category = 1 := by cases v <;> rfl
def tk_ru (v : tk_U) : Prop := match v with
  | .inl x => -2147483648 ≤ x ∧ x < 2147483648
  | .inr _ => True
def tk_rv (v : tk_V) : Prop := match v with
  | .inl u => tk_ru u
  | .inr x => -2147483648 ≤ x ∧ x < 2147483648
def tk_rs (st : List tk_V) : Prop := ∀ v ∈ st, tk_rv v
theorem tk_rs.nil : tk_rs [] := fun _ h => by cases h
theorem tk_rs.cons {v : tk_V} {st : List tk_V} (h : tk_rv v) (hs : tk_rs st) : tk_rs (v :: st) := fun w hw => by
  rcases List.mem_cons.mp hw with e | e
  · rw [e]; exact h
  · exact hs w e
theorem tk_rs.tl {v : tk_V} {st : List tk_V} (hs : tk_rs (v :: st)) : tk_rs st := fun w hw => hs w (List.mem_cons_of_mem _ hw)
theorem tk_rs.hd {v : tk_V} {st : List tk_V} (hs : tk_rs (v :: st)) : tk_rv v := hs v List.mem_cons_self
def tk_L (G : tk_G) (ls : Array Slot) (nL : Nat) (lo : tk_Lc) : Prop := lo.length = nL ∧ lv_has ls nL (tk_lv G 0 lo) ∧ ∀ n v, tk_gt lo n = some v → tk_ru v
theorem tk_L.at {G : tk_G} {ls : Array Slot} {nL : Nat} {lo : tk_Lc} (h : tk_L G ls nL lo) {n : Nat} {v : tk_U} (hn : tk_gt lo n = some v) : ls[n]? = some (.val (tk_cv G (.inl v))) := by
  have h1 : (n, tk_cv G (.inl v)) ∈ tk_lv G 0 lo := tk_lv_mem.mpr ⟨n, v, by rw [Nat.zero_add], hn⟩
  exact h.2.1.2.2 _ h1
theorem tk_L.store {G : tk_G} {ls ls' : Array Slot} {nL : Nat} {lo : tk_Lc} (h : tk_L G ls nL lo) {i : Nat} (hi : i < nL) {v : tk_U} (hv : tk_ru v) (h' : lv_has ls' nL ((i, tk_cv G (.inl v)) :: (tk_lv G 0 lo).filter (fun q => !(q.1 == i) && !(q.1 + 1 == i && q.2.category == 2)))) : tk_L G ls' nL (tk_se lo i v) := by
  have hl : i < lo.length := by rw [h.1]; exact hi
  refine ⟨by rw [tk_se_len]; exact h.1, ⟨h'.1, h'.2.1, fun q hq => h'.2.2 q ?_⟩, fun n w hn => ?_⟩
  · obtain ⟨n, w, e1, e2⟩ := tk_lv_mem.mp hq
    rw [tk_gt_se v lo i n hl] at e2
    by_cases e : n = i
    · rw [if_pos e] at e2
      cases e2
      rw [e1, e, Nat.zero_add]
      exact List.mem_cons_self
    · rw [if_neg e] at e2
      refine List.mem_cons_of_mem _ (List.mem_filter.mpr ⟨tk_lv_mem.mpr ⟨n, w, e1, e2⟩, ?_⟩)
      rw [e1]
      simp [e, tk_cat]
  · rw [tk_gt_se v lo i n hl] at hn
    by_cases e : n = i
    · rw [if_pos e] at hn
      cases hn
      exact hv
    · rw [if_neg e] at hn
      exact h.2.2 n w hn
variable (p : Program) (l : Launch) (e : Env) (R : Room) (s : State) (m : MethodId) (args : Array Value) (below : List Frame) (meth : Method) (c : Code) (cells slots : Nat) (Q : State → Prop) (G : tk_G) (A : Nat → Prop) (nL : Nat)
/-- at pc, with these locals, this stack and this memory, the machine comes to Q -/
def tk_W (pc : Nat) (lo : tk_Lc) (st : List tk_V) (M : tk_M) : Prop :=
  ∀ (H : Heap) (locs : List Loc) (ls : Array Slot), tk_Wd G M H → va_S A s.heap H locs → tk_L G ls nL lo → tk_rs st → W p l e R s m args below meth c H locs cells slots Q (F0 m pc ls (st.map (tk_cv G)))
/-- what holds all through a method's walk -/
def tk_X (own : String) (cc : ByteArray) (b9 : Bool) : Prop :=
  p.tables.exec = Jvm.exec ∧ c.code = cc ∧ c.maxLocals = nL ∧ s.vm.findClass own = some m.cls ∧ (∀ w ∈ tk_tbl, w.before args s = true) ∧ va_K G.2.1 tk_cl (tk_tys G) s ∧ tk_St G A ∧ (∀ q : Nat, s.heap.size ≤ q → A q) ∧
  (b9 = true → va_X (G.1 tk_sc) G.2.2.2.1 G.2.2.2.2 s s.heap ∧ G.1 tk_sc < s.heap.size ∧ ¬ A (G.1 tk_sc) ∧ G.2.2.2.1 < 2147483648)
def tk_csok (own : String) (cs : List (Nat × Int)) : Prop := ∀ q ∈ cs, Jvm.Cond.constant own q.1 (Int32.ofInt q.2) ∈ tk_tbl ∧ -2147483648 ≤ q.2 ∧ q.2 < 2147483648
/-- a return at pc -/
def tk_Rt (cc : ByteArray) (RQ : Option Int → tk_M → Prop) : Prop :=
  ∀ (v : Option Int) (M : tk_M) (H : Heap) (locs : List Loc) (ls : Array Slot) (pc : Nat) (st : List tk_V), RQ v M → tk_Wd G M H → va_S A s.heap H locs → tk_rs st →
    ((∃ x, v = some x ∧ st = [.inl (.inl x)] ∧ decode cc pc = .ok (.ireturn, 1)) ∨ (v = none ∧ st = [] ∧ decode cc pc = .ok (.return_, 1))) → W p l e R s m args below meth c H locs cells slots Q (F0 m pc ls (st.map (tk_cv G)))
variable {p l e R s m args below meth c cells slots Q G A nL}
theorem tk_sw_at {J : Nat → Prop} {x : Int} : ∀ {n : Int} {ts : List Nat}, tk_sw J x n ts → ∀ (k : Nat) (t : Nat), ts[k]? = some t → x = n + (k : Int) → J t
  | n, [], _, k, t, h, _ => by simp at h
  | n, t0 :: ts, hs, 0, t, h, hx => by
    simp at h
    subst h
    exact hs.1 (by simpa using hx)
  | n, t0 :: ts, hs, k + 1, t, h, hx => by
    simp at h
    exact tk_sw_at hs.2 k t h (by rw [hx]; push_cast; omega)
end TKS
end
section
/-! one instruction of the walker is one of the machine -/
section TKO
variable {p : Program} {l : Launch} {e : Env} {R : Room} {s : State} {m : MethodId} {args : Array Value} {below : List Frame} {meth : Method} {c : Code} {cells slots : Nat} {Q : State → Prop} {G : tk_G} {A : Nat → Prop} {nL : Nat}
theorem tk_ifW {cc : ByteArray} (hx : p.tables.exec = Jvm.exec) (hb : c.code = cc) {H : Heap} {locs : List Loc} {ls : Array Slot} {rest : List Value} {pc t : Nat} {o : Int} (cd : Jvm.ClassFile.Cond) {a : Int} (ha : -2147483648 ≤ a ∧ a < 2147483648) (hd : decode cc pc = .ok (.ifCond cd o, 3)) (ht : (pc : Int) + o = (t : Int))
    (kt : tk_c cd a 0 → W p l e R s m args below meth c H locs cells slots Q (F0 m t ls rest)) (kf : ¬ tk_c cd a 0 → W p l e R s m args below meth c H locs cells slots Q (F0 m (pc + 3) ls rest)) : W p l e R s m args below meth c H locs cells slots Q (F0 m pc ls (.int (Int32.ofInt a) :: rest)) := by
  have h0 : -2147483648 ≤ (0 : Int) ∧ (0 : Int) < 2147483648 := by decide
  cases cd with
  | eq => exact lv_if_eq hx hb hd ht (fun h => kt ((tk_eqI ha h0).mp h)) (fun h => kf (fun q => h ((tk_eqI ha h0).mpr q)))
  | ne => exact lv_if_ne hx hb hd ht (fun h => kt (fun q => h ((tk_eqI ha h0).mpr q))) (fun h => kf (fun q => q ((tk_eqI ha h0).mp h)))
  | lt => exact lv_if_lt hx hb hd ht (fun h => kt ((tk_ltI ha h0).mp h)) (fun h => kf (fun q => h ((tk_ltI ha h0).mpr q)))
  | ge => exact lv_if_ge hx hb hd ht (fun h => kt ((tk_leI h0 ha).mp h)) (fun h => kf (fun q => h ((tk_leI h0 ha).mpr q)))
  | gt => exact lv_if_gt hx hb hd ht (fun h => kt ((tk_ltI h0 ha).mp h)) (fun h => kf (fun q => h ((tk_ltI h0 ha).mpr q)))
  | le => exact lv_if_le hx hb hd ht (fun h => kt ((tk_leI ha h0).mp h)) (fun h => kf (fun q => h ((tk_leI ha h0).mpr q)))
theorem tk_cmpW {cc : ByteArray} (hx : p.tables.exec = Jvm.exec) (hb : c.code = cc) {H : Heap} {locs : List Loc} {ls : Array Slot} {rest : List Value} {pc t : Nat} {o : Int} (cd : Jvm.ClassFile.Cond) {a b : Int} (ha : -2147483648 ≤ a ∧ a < 2147483648) (h0 : -2147483648 ≤ b ∧ b < 2147483648) (hd : decode cc pc = .ok (.if_icmp cd o, 3)) (ht : (pc : Int) + o = (t : Int))
    (kt : tk_c cd a b → W p l e R s m args below meth c H locs cells slots Q (F0 m t ls rest)) (kf : ¬ tk_c cd a b → W p l e R s m args below meth c H locs cells slots Q (F0 m (pc + 3) ls rest)) : W p l e R s m args below meth c H locs cells slots Q (F0 m pc ls (.int (Int32.ofInt b) :: .int (Int32.ofInt a) :: rest)) := by
  cases cd with
  | eq => exact lv_icmp_eq hx hb hd ht (fun h => kt ((tk_eqI ha h0).mp h)) (fun h => kf (fun q => h ((tk_eqI ha h0).mpr q)))
  | ne => exact lv_icmp_ne hx hb hd ht (fun h => kt (fun q => h ((tk_eqI ha h0).mpr q))) (fun h => kf (fun q => q ((tk_eqI ha h0).mp h)))
  | lt => exact lv_icmp_lt hx hb hd ht (fun h => kt ((tk_ltI ha h0).mp h)) (fun h => kf (fun q => h ((tk_ltI ha h0).mpr q)))
  | ge => exact lv_icmp_ge hx hb hd ht (fun h => kt ((tk_leI h0 ha).mp h)) (fun h => kf (fun q => h ((tk_leI h0 ha).mpr q)))
  | gt => exact lv_icmp_gt hx hb hd ht (fun h => kt ((tk_ltI h0 ha).mp h)) (fun h => kf (fun q => h ((tk_ltI h0 ha).mpr q)))
  | le => exact lv_icmp_le hx hb hd ht (fun h => kt ((tk_leI ha h0).mp h)) (fun h => kf (fun q => h ((tk_leI ha h0).mpr q)))
theorem tk_cmp_r (a b : Int) : tk_rv (.inl (.inl (tk_cmp a b))) := by
  show -2147483648 ≤ tk_cmp a b ∧ tk_cmp a b < 2147483648
  unfold tk_cmp
  by_cases h1 : a < b
  · rw [if_pos h1]; decide
  · rw [if_neg h1]
    by_cases h2 : a = b
    · rw [if_pos h2]; decide
    · rw [if_neg h2]; decide
theorem tk_lgcmp {a b : Int} (ha : -2147483648 ≤ a ∧ a < 2147483648) (hb : -2147483648 ≤ b ∧ b < 2147483648) : lg_cmp (Int64.ofInt a) (Int64.ofInt b) = Int32.ofInt (tk_cmp a b) := by
  unfold lg_cmp tk_cmp
  simp only [gt_iff_lt, Int64.lt_iff_toInt_lt, ← Int64.toInt_inj, tk_tiL ha.1 ha.2, tk_tiL hb.1 hb.2]
  by_cases h1 : a < b
  · rw [if_pos h1, if_neg (by omega : ¬ b < a), if_neg (by omega : ¬ a = b)]; rfl
  · by_cases h2 : a = b
    · rw [if_neg h1, if_pos h2, if_neg (by omega : ¬ b < a), if_pos h2]; rfl
    · rw [if_pos (by omega : b < a), if_neg h1, if_neg h2]; rfl
theorem tk_scno {α : Prop} {b9 : Bool} {a ty n b : Nat} {P : Prop} (hm : (a, ty + 1, n, b) ∈ tk_ars) (h : (bif b9 && Nat.beq a tk_sc then P else False)) : α := by
  have h1 := (tk_ars_ok _ hm).1
  dsimp only at h1
  cases h8 : (b9 && Nat.beq a tk_sc) with
  | false => rw [h8] at h; exact h.elim
  | true =>
    rw [Bool.and_eq_true] at h8
    have ea : a = tk_sc := Nat.eq_of_beq_eq_true h8.2
    rw [ea] at h1
    exact absurd h1 (by decide)
theorem tk_scld {cc : ByteArray} {b9 : Bool} {H : Heap} {locs : List Loc} {ls : Array Slot} {rest : List Value} {pc a : Nat} {i : Int} {P : Prop} (hx : p.tables.exec = Jvm.exec) (hb : c.code = cc) (h9 : b9 = true → va_X (G.1 tk_sc) G.2.2.2.1 G.2.2.2.2 s s.heap ∧ G.1 tk_sc < s.heap.size ∧ ¬ A (G.1 tk_sc) ∧ G.2.2.2.1 < 2147483648) (hS : va_S A s.heap H locs) (hir : -2147483648 ≤ i ∧ i < 2147483648) (hd : decode cc pc = .ok (.iaload, 1))
    (h : (bif b9 && Nat.beq a tk_sc then (0 ≤ i ∧ i < (G.2.2.2.1 : Int)) ∧ P else False)) (k : P → W p l e R s m args below meth c H locs cells slots Q (F0 m (pc + 1) ls (.int (Int32.ofInt (G.2.2.2.2 i.toNat).toInt) :: rest))) : W p l e R s m args below meth c H locs cells slots Q (F0 m pc ls (.int (Int32.ofInt i) :: .ref (G.1 a) :: rest)) := by
  cases h8 : (b9 && Nat.beq a tk_sc) with
  | false => rw [h8] at h; exact h.elim
  | true =>
    rw [h8] at h
    rw [Bool.and_eq_true] at h8
    have ea : a = tk_sc := Nat.eq_of_beq_eq_true h8.2
    subst ea
    obtain ⟨k1, k2, k3, k4⟩ := h9 h8.1
    obtain ⟨⟨g1, g2⟩, h⟩ := h
    refine va_sld hx hb k1 k2 k3 hS (tk_in g1 g2 hir.2) hd ?_
    rw [tk_clm g1 hir.2]
    have := k h
    rw [Int32.ofInt_toInt] at this
    exact this
set_option maxHeartbeats 4000000 in
set_option maxRecDepth 100000 in
theorem tk_one {own : String} {cc : ByteArray} {b9 : Bool} {fl : tk_FL} {cs : List (Nat × Int)} (X : tk_X p s m args c G A nL own cc b9) (hfl : tk_flok own fl) (hcs : tk_csok own cs) {K : tk_Lc → List tk_V → tk_M → Prop} {J : Nat → tk_Lc → List tk_V → tk_M → Prop} {RQ : Option Int → tk_M → Prop}
    {q : tk_E} (hq : tk_ok cc nL q = true) {lo : tk_Lc} {st : List tk_V} {M : tk_M} (h : tk_I fl cs b9 G.2.2.2.1 G.2.2.2.2 K J RQ q.2.1 q.2.2.2 lo st M)
    (hK : ∀ lo st M, K lo st M → tk_W p l e R s m args below meth c cells slots Q G A nL q.2.2.1 lo st M) (hJ : ∀ t lo st M, J t lo st M → tk_W p l e R s m args below meth c cells slots Q G A nL t lo st M)
    (hRQ : tk_Rt p l e R s m args below meth c cells slots Q G A cc RQ) : tk_W p l e R s m args below meth c cells slots Q G A nL q.1 lo st M := by
  obtain ⟨len, hd, hlen, hi⟩ := tk_ok_dec hq
  obtain ⟨pc, i, nx, tg⟩ := q
  dsimp only at hd hlen hi h hK ⊢
  obtain ⟨hx, hb, hml, hown, hts, hKn, hSt, hA, h9⟩ := X
  subst hlen
  intro H locs ls hW hS hl hr
  have hP := hW.1
  have hM := hW.2
  have hD := hSt.D (M := M)
  cases i with
  | iconst n =>
    simp only [tk_okI, Bool.and_eq_true, decide_eq_true_eq, beq_iff_eq] at hi
    obtain ⟨⟨h1, h2⟩, rfl⟩ := hi
    exact lv_iconst hx hb hd rfl (hK _ _ _ h H locs ls hW hS hl (tk_rs.cons ⟨by omega, by omega⟩ hr))
  | bipush n =>
    simp only [tk_okI, Bool.and_eq_true, decide_eq_true_eq, beq_iff_eq] at hi
    obtain ⟨⟨h1, h2⟩, rfl⟩ := hi
    refine lv_bipush hx hb hd ?_ (hK _ _ _ h H locs ls hW hS hl (tk_rs.cons ⟨by omega, by omega⟩ hr))
    apply Int32.toInt_inj.mp
    rw [tk_ti (by omega) (by omega), Int8.toInt_toInt32, Int8.toInt_ofInt_of_le (by omega) (by omega)]
  | sipush n =>
    simp only [tk_okI, Bool.and_eq_true, decide_eq_true_eq, beq_iff_eq] at hi
    obtain ⟨⟨h1, h2⟩, rfl⟩ := hi
    refine lv_sipush hx hb hd ?_ (hK _ _ _ h H locs ls hW hS hl (tk_rs.cons ⟨by omega, by omega⟩ hr))
    apply Int32.toInt_inj.mp
    rw [tk_ti (by omega) (by omega), Int16.toInt_toInt32, Int16.toInt_ofInt_of_le (by omega) (by omega)]
  | ldc x =>
    simp only [tk_okI, beq_iff_eq] at hi
    subst hi
    simp only [tk_I] at h
    cases hc : tk_lk cs x with
    | none => rw [hc] at h; exact h.elim
    | some n =>
      rw [hc] at h
      obtain ⟨c1, c2, c3⟩ := hcs _ (tk_lk_mem hc)
      exact lv_ldc hx hb hown (hts _ c1) hd (hK _ _ _ h H locs ls hW hS hl (tk_rs.cons ⟨c2, c3⟩ hr))
  | iload_n k =>
    simp only [tk_okI, beq_iff_eq] at hi
    subst hi
    simp only [tk_I] at h
    cases hc : tk_gt lo k.val with
    | none => rw [hc] at h; exact h.elim
    | some u =>
      cases u with
      | inr a => rw [hc] at h; exact h.elim
      | inl x =>
        rw [hc] at h
        exact lv_iload_n hx hb hd rfl (hl.at hc) (hK _ _ _ h H locs ls hW hS hl (tk_rs.cons (hl.2.2 _ _ hc) hr))
  | iload k =>
    simp only [tk_okI, beq_iff_eq] at hi
    subst hi
    simp only [tk_I] at h
    cases hc : tk_gt lo k with
    | none => rw [hc] at h; exact h.elim
    | some u =>
      cases u with
      | inr a => rw [hc] at h; exact h.elim
      | inl x =>
        rw [hc] at h
        exact lv_iload hx hb hd (hl.at hc) (hK _ _ _ h H locs ls hW hS hl (tk_rs.cons (hl.2.2 _ _ hc) hr))
  | aload_n k =>
    simp only [tk_okI, beq_iff_eq] at hi
    subst hi
    simp only [tk_I] at h
    cases hc : tk_gt lo k.val with
    | none => rw [hc] at h; exact h.elim
    | some u =>
      cases u with
      | inl a => rw [hc] at h; exact h.elim
      | inr x =>
        rw [hc] at h
        exact lv_aload_n hx hb hd rfl (hl.at hc) (hK _ _ _ h H locs ls hW hS hl (tk_rs.cons (hl.2.2 _ _ hc) hr))
  | aload k =>
    simp only [tk_okI, beq_iff_eq] at hi
    subst hi
    simp only [tk_I] at h
    cases hc : tk_gt lo k with
    | none => rw [hc] at h; exact h.elim
    | some u =>
      cases u with
      | inl a => rw [hc] at h; exact h.elim
      | inr x =>
        rw [hc] at h
        exact lv_aload hx hb hd (hl.at hc) (hK _ _ _ h H locs ls hW hS hl (tk_rs.cons (hl.2.2 _ _ hc) hr))
  | istore_n k =>
    simp only [tk_okI, Bool.and_eq_true, decide_eq_true_eq, beq_iff_eq] at hi
    obtain ⟨h1, rfl⟩ := hi
    simp only [tk_I] at h
    match st, h, hr with
    | .inl (.inl x) :: st, h, hr => exact lv_istore_n hx hb hd rfl hl.2.1 h1 rfl (fun ls' hl' => hK _ _ _ h H locs ls' hW hS (hl.store (v := .inl x) h1 hr.hd hl') hr.tl)
    | .inl (.inr x) :: st, h, hr => exact h.elim
    | .inr x :: st, h, hr => exact h.elim
    | [], h, hr => exact h.elim
  | istore k =>
    simp only [tk_okI, Bool.and_eq_true, decide_eq_true_eq, beq_iff_eq] at hi
    obtain ⟨h1, rfl⟩ := hi
    simp only [tk_I] at h
    match st, h, hr with
    | .inl (.inl x) :: st, h, hr => exact lv_istore hx hb hd hl.2.1 h1 rfl (fun ls' hl' => hK _ _ _ h H locs ls' hW hS (hl.store (v := .inl x) h1 hr.hd hl') hr.tl)
    | .inl (.inr x) :: st, h, hr => exact h.elim
    | .inr x :: st, h, hr => exact h.elim
    | [], h, hr => exact h.elim
  | astore_n k =>
    simp only [tk_okI, Bool.and_eq_true, decide_eq_true_eq, beq_iff_eq] at hi
    obtain ⟨h1, rfl⟩ := hi
    simp only [tk_I] at h
    match st, h, hr with
    | .inl (.inr x) :: st, h, hr => exact lv_astore_n hx hb hd rfl hl.2.1 h1 rfl (fun ls' hl' => hK _ _ _ h H locs ls' hW hS (hl.store (v := .inr x) h1 hr.hd hl') hr.tl)
    | .inl (.inl x) :: st, h, hr => exact h.elim
    | .inr x :: st, h, hr => exact h.elim
    | [], h, hr => exact h.elim
  | astore k =>
    simp only [tk_okI, Bool.and_eq_true, decide_eq_true_eq, beq_iff_eq] at hi
    obtain ⟨h1, rfl⟩ := hi
    simp only [tk_I] at h
    match st, h, hr with
    | .inl (.inr x) :: st, h, hr => exact lv_astore hx hb hd hl.2.1 h1 rfl (fun ls' hl' => hK _ _ _ h H locs ls' hW hS (hl.store (v := .inr x) h1 hr.hd hl') hr.tl)
    | .inl (.inl x) :: st, h, hr => exact h.elim
    | .inr x :: st, h, hr => exact h.elim
    | [], h, hr => exact h.elim
  | iinc k n =>
    simp only [tk_okI, Bool.and_eq_true, decide_eq_true_eq, beq_iff_eq] at hi
    obtain ⟨⟨⟨h1, h2⟩, h3⟩, rfl⟩ := hi
    simp only [tk_I] at h
    cases hc : tk_gt lo k with
    | none => rw [hc] at h; exact h.elim
    | some u =>
      cases u with
      | inr a => rw [hc] at h; exact h.elim
      | inl x =>
        rw [hc] at h
        obtain ⟨r1, r2, h⟩ := h
        have hm : (k, tk_cv G (.inl (.inl x))) ∈ tk_lv G 0 lo := tk_lv_mem.mpr ⟨k, .inl x, by rw [Nat.zero_add], hc⟩
        obtain ⟨kk, hkk⟩ := List.getElem?_of_mem hm
        exact lv_iinc (v := Int32.ofInt (x + n)) hx hb hd hl.2.1 hkk (by rw [Int32.ofInt_add]) h1 rfl (fun ls' hl' => hK _ _ _ h H locs ls' hW hS (hl.store (v := .inl (x + n)) h1 ⟨r1, r2⟩ hl') hr)
  | iadd =>
    simp only [tk_okI, beq_iff_eq] at hi
    subst hi
    simp only [tk_I] at h
    match st, h, hr with
    | .inl (.inl b) :: .inl (.inl a) :: st, h, hr =>
      obtain ⟨r1, r2, h⟩ := h
      have h3 := hK _ _ _ h H locs ls hW hS hl (tk_rs.cons ⟨r1, r2⟩ hr.tl.tl)
      refine lv_iadd hx hb hd ?_
      rw [← Int32.ofInt_add]
      exact h3
    | .inl (.inl b) :: .inl (.inr a) :: st, h, hr => exact h.elim
    | .inl (.inl b) :: .inr a :: st, h, hr => exact h.elim
    | [.inl (.inl b)], h, hr => exact h.elim
    | .inl (.inr x) :: st, h, hr => exact h.elim
    | .inr x :: st, h, hr => exact h.elim
    | [], h, hr => exact h.elim
  | isub =>
    simp only [tk_okI, beq_iff_eq] at hi
    subst hi
    simp only [tk_I] at h
    match st, h, hr with
    | .inl (.inl b) :: .inl (.inl a) :: st, h, hr =>
      obtain ⟨r1, r2, h⟩ := h
      have h3 := hK _ _ _ h H locs ls hW hS hl (tk_rs.cons ⟨r1, r2⟩ hr.tl.tl)
      refine lv_isub hx hb hd ?_
      rw [← Int32.ofInt_sub]
      exact h3
    | .inl (.inl b) :: .inl (.inr a) :: st, h, hr => exact h.elim
    | .inl (.inl b) :: .inr a :: st, h, hr => exact h.elim
    | [.inl (.inl b)], h, hr => exact h.elim
    | .inl (.inr x) :: st, h, hr => exact h.elim
    | .inr x :: st, h, hr => exact h.elim
    | [], h, hr => exact h.elim
  | iand =>
    simp only [tk_okI, beq_iff_eq] at hi
    subst hi
    simp only [tk_I] at h
    match st, h, hr with
    | .inl (.inl b) :: .inl (.inl a) :: st, h, hr =>
      have h3 := hK _ _ _ h H locs ls hW hS hl (tk_rs.cons (tk_rT _) hr.tl.tl)
      refine lv_iand hx hb hd ?_
      rw [← Int32.ofInt_toInt (Int32.ofInt a &&& Int32.ofInt b)]
      exact h3
    | .inl (.inl b) :: .inl (.inr a) :: st, h, hr => exact h.elim
    | .inl (.inl b) :: .inr a :: st, h, hr => exact h.elim
    | [.inl (.inl b)], h, hr => exact h.elim
    | .inl (.inr x) :: st, h, hr => exact h.elim
    | .inr x :: st, h, hr => exact h.elim
    | [], h, hr => exact h.elim
  | ior =>
    simp only [tk_okI, beq_iff_eq] at hi
    subst hi
    simp only [tk_I] at h
    match st, h, hr with
    | .inl (.inl b) :: .inl (.inl a) :: st, h, hr =>
      have h3 := hK _ _ _ h H locs ls hW hS hl (tk_rs.cons (tk_rT _) hr.tl.tl)
      refine lv_ior hx hb hd ?_
      rw [← Int32.ofInt_toInt (Int32.ofInt a ||| Int32.ofInt b)]
      exact h3
    | .inl (.inl b) :: .inl (.inr a) :: st, h, hr => exact h.elim
    | .inl (.inl b) :: .inr a :: st, h, hr => exact h.elim
    | [.inl (.inl b)], h, hr => exact h.elim
    | .inl (.inr x) :: st, h, hr => exact h.elim
    | .inr x :: st, h, hr => exact h.elim
    | [], h, hr => exact h.elim
  | ishl =>
    simp only [tk_okI, beq_iff_eq] at hi
    subst hi
    simp only [tk_I] at h
    match st, h, hr with
    | .inl (.inl b) :: .inl (.inl a) :: st, h, hr =>
      have h3 := hK _ _ _ h H locs ls hW hS hl (tk_rs.cons (tk_rT _) hr.tl.tl)
      refine lv_ishl hx hb hd ?_
      rw [← Int32.ofInt_toInt (Int32.ofInt a <<< (Int32.ofInt b &&& 31))]
      exact h3
    | .inl (.inl b) :: .inl (.inr a) :: st, h, hr => exact h.elim
    | .inl (.inl b) :: .inr a :: st, h, hr => exact h.elim
    | [.inl (.inl b)], h, hr => exact h.elim
    | .inl (.inr x) :: st, h, hr => exact h.elim
    | .inr x :: st, h, hr => exact h.elim
    | [], h, hr => exact h.elim
  | ishr =>
    simp only [tk_okI, beq_iff_eq] at hi
    subst hi
    simp only [tk_I] at h
    match st, h, hr with
    | .inl (.inl b) :: .inl (.inl a) :: st, h, hr =>
      have h3 := hK _ _ _ h H locs ls hW hS hl (tk_rs.cons (tk_rT _) hr.tl.tl)
      refine lv_ishr hx hb hd ?_
      rw [← Int32.ofInt_toInt (Int32.ofInt a >>> (Int32.ofInt b &&& 31))]
      exact h3
    | .inl (.inl b) :: .inl (.inr a) :: st, h, hr => exact h.elim
    | .inl (.inl b) :: .inr a :: st, h, hr => exact h.elim
    | [.inl (.inl b)], h, hr => exact h.elim
    | .inl (.inr x) :: st, h, hr => exact h.elim
    | .inr x :: st, h, hr => exact h.elim
    | [], h, hr => exact h.elim
  | ifCond cd o =>
    simp only [tk_okI, Bool.and_eq_true, beq_iff_eq] at hi
    obtain ⟨rfl, hi⟩ := hi
    simp only [tk_I] at h
    match tg, hi with
    | [t], hi =>
      match st, h, hr with
      | .inl (.inl a) :: st, h, hr => exact tk_ifW hx hb cd hr.hd hd (of_decide_eq_true hi) (fun z => hJ _ _ _ _ (h.1 z) H locs ls hW hS hl hr.tl) (fun z => hK _ _ _ (h.2 z) H locs ls hW hS hl hr.tl)
      | .inl (.inr a) :: st, h, hr => exact h.elim
      | .inr a :: st, h, hr => exact h.elim
      | [], h, hr => exact h.elim
    | [], hi => cases hi
    | _ :: _ :: _, hi => cases hi
  | if_icmp cd o =>
    simp only [tk_okI, Bool.and_eq_true, beq_iff_eq] at hi
    obtain ⟨rfl, hi⟩ := hi
    simp only [tk_I] at h
    match tg, hi with
    | [t], hi =>
      match st, h, hr with
      | .inl (.inl b) :: .inl (.inl a) :: st, h, hr => exact tk_cmpW hx hb cd hr.tl.hd hr.hd hd (of_decide_eq_true hi) (fun z => hJ _ _ _ _ (h.1 z) H locs ls hW hS hl hr.tl.tl) (fun z => hK _ _ _ (h.2 z) H locs ls hW hS hl hr.tl.tl)
      | .inl (.inl b) :: .inl (.inr a) :: st, h, hr => exact h.elim
      | .inl (.inl b) :: .inr a :: st, h, hr => exact h.elim
      | [.inl (.inl b)], h, hr => exact h.elim
      | .inl (.inr a) :: st, h, hr => exact h.elim
      | .inr a :: st, h, hr => exact h.elim
      | [], h, hr => exact h.elim
    | [], hi => cases hi
    | _ :: _ :: _, hi => cases hi
  | goto o =>
    simp only [tk_okI, Bool.and_eq_true, beq_iff_eq] at hi
    obtain ⟨rfl, hi⟩ := hi
    simp only [tk_I] at h
    match tg, hi, h with
    | [t], hi, h => exact lv_goto hx hb hd (of_decide_eq_true hi) (hJ _ _ _ _ h H locs ls hW hS hl hr)
    | [], hi, h => cases hi
    | _ :: _ :: _, hi, h => cases hi
  | tableswitch d lw hg os =>
    simp only [tk_okI] at hi
    simp only [tk_I] at h
    match tg, hi with
    | [], hi => cases hi
    | t :: ts, hi =>
      simp only [Bool.and_eq_true, decide_eq_true_eq] at hi
      obtain ⟨⟨h1, h2⟩, h3⟩ := hi
      match st, h, hr with
      | .inl (.inl x) :: st, h, hr =>
        have hxr := hr.hd
        have ex : (Int32.ofInt x).toInt = x := tk_ti hxr.1 hxr.2
        by_cases ho : x < lw ∨ hg < x
        · exact lv_tableOut hx hb hd (by rw [ex]; exact ho) h1 (hJ _ _ _ _ (h.1 ho) H locs ls hW hS hl hr.tl)
        · have l1 : ¬ x < lw := fun z => ho (Or.inl z)
          have l2 : ¬ hg < x := fun z => ho (Or.inr z)
          have hk : (x - lw).toNat < ts.length := by omega
          have ht : ts[(x - lw).toNat]? = some ts[(x - lw).toNat] := List.getElem?_eq_getElem hk
          have hos : (os.toList.map (fun o => (pc : Int) + o))[(x - lw).toNat]? = some ((ts[(x - lw).toNat] : Nat) : Int) := by
            rw [h2, List.getElem?_map, ht]; rfl
          rw [List.getElem?_map] at hos
          cases hq9 : os.toList[(x - lw).toNat]? with
          | none => rw [hq9] at hos; cases hos
          | some off =>
            rw [hq9] at hos
            have e1 : (pc : Int) + off = ((ts[(x - lw).toNat] : Nat) : Int) := Option.some.inj hos
            refine lv_tableIn hx hb hd (by rw [ex]; exact l1) (by rw [ex]; exact l2) (off := off) (by rw [ex, ← Array.getElem?_toList]; exact hq9) e1 (hJ _ _ _ _ (tk_sw_at h.2 (x - lw).toNat _ ht (by omega)) H locs ls hW hS hl hr.tl)
      | .inl (.inr a) :: st, h, hr => exact h.elim
      | .inr a :: st, h, hr => exact h.elim
      | [], h, hr => exact h.elim
  | dup =>
    simp only [tk_okI, beq_iff_eq] at hi
    subst hi
    simp only [tk_I] at h
    match st, h, hr with
    | .inl v :: st, h, hr => exact lv_dup hx hb hd (tk_cat v) (hK _ _ _ h H locs ls hW hS hl (tk_rs.cons hr.hd hr))
    | .inr a :: st, h, hr => exact h.elim
    | [], h, hr => exact h.elim
  | dup_x1 =>
    simp only [tk_okI, beq_iff_eq] at hi
    subst hi
    simp only [tk_I] at h
    match st, h, hr with
    | .inl v :: .inl w :: st, h, hr => exact lv_dup_x1 hx hb hd (tk_cat v) (tk_cat w) (hK _ _ _ h H locs ls hW hS hl (tk_rs.cons hr.hd (tk_rs.cons hr.tl.hd (tk_rs.cons hr.hd hr.tl.tl))))
    | .inl v :: .inr w :: st, h, hr => exact h.elim
    | [.inl v], h, hr => exact h.elim
    | .inr a :: st, h, hr => exact h.elim
    | [], h, hr => exact h.elim
  | dup_x2 =>
    simp only [tk_okI, beq_iff_eq] at hi
    subst hi
    simp only [tk_I] at h
    match st, h, hr with
    | .inl v :: .inl w :: .inl z :: st, h, hr => exact lv_dup_x2 hx hb hd (tk_cat v) (tk_cat w) (tk_cat z) (hK _ _ _ h H locs ls hW hS hl (tk_rs.cons hr.hd (tk_rs.cons hr.tl.hd (tk_rs.cons hr.tl.tl.hd (tk_rs.cons hr.hd hr.tl.tl.tl)))))
    | .inl v :: .inl w :: .inr z :: st, h, hr => exact h.elim
    | [.inl v, .inl w], h, hr => exact h.elim
    | .inl v :: .inr w :: st, h, hr => exact h.elim
    | [.inl v], h, hr => exact h.elim
    | .inr a :: st, h, hr => exact h.elim
    | [], h, hr => exact h.elim
  | dup2 =>
    simp only [tk_okI, beq_iff_eq] at hi
    subst hi
    simp only [tk_I] at h
    match st, h, hr with
    | .inl v :: .inl w :: st, h, hr => exact lv_dup2_11 hx hb hd (tk_cat v) (tk_cat w) (hK _ _ _ h H locs ls hW hS hl (tk_rs.cons hr.hd (tk_rs.cons hr.tl.hd hr)))
    | .inl v :: .inr w :: st, h, hr => exact h.elim
    | [.inl v], h, hr => exact h.elim
    | .inr a :: st, h, hr => exact h.elim
    | [], h, hr => exact h.elim
  | pop =>
    simp only [tk_okI, beq_iff_eq] at hi
    subst hi
    simp only [tk_I] at h
    match st, h, hr with
    | .inl v :: st, h, hr => exact lv_pop hx hb hd (tk_cat v) (hK _ _ _ h H locs ls hW hS hl hr.tl)
    | .inr a :: st, h, hr => exact h.elim
    | [], h, hr => exact h.elim
  | i2l =>
    simp only [tk_okI, beq_iff_eq] at hi
    subst hi
    simp only [tk_I] at h
    match st, h, hr with
    | .inl (.inl x) :: st, h, hr =>
      have hxr := hr.hd
      exact lv_i2l (v := Int64.ofInt x) hx hb hd (Int64.toInt_inj.mp (by rw [Int32.toInt_toInt64, tk_ti hxr.1 hxr.2, tk_tiL hxr.1 hxr.2])) (hK _ _ _ h H locs ls hW hS hl (tk_rs.cons hxr hr.tl))
    | .inl (.inr a) :: st, h, hr => exact h.elim
    | .inr a :: st, h, hr => exact h.elim
    | [], h, hr => exact h.elim
  | lconst k =>
    simp only [tk_okI, beq_iff_eq] at hi
    subst hi
    simp only [tk_I] at h
    have hk2 : k.val < 2 := k.isLt
    exact lv_lconst (v := Int64.ofInt (k.val : Int)) hx hb hd rfl (hK _ _ _ h H locs ls hW hS hl (tk_rs.cons ⟨by omega, by omega⟩ hr))
  | lcmp =>
    simp only [tk_okI, beq_iff_eq] at hi
    subst hi
    simp only [tk_I] at h
    match st, h, hr with
    | .inr b :: .inr a :: st, h, hr =>
      have hbr := hr.hd
      have har := hr.tl.hd
      have h3 := hK _ _ _ h H locs ls hW hS hl (tk_rs.cons (tk_cmp_r a b) hr.tl.tl)
      refine W.lcmp hx hb hd ?_
      have e1 : lg_cmp (Int64.ofInt a) (Int64.ofInt b) = Int32.ofInt (tk_cmp a b) := tk_lgcmp har hbr
      rw [e1]
      exact h3
    | .inr b :: .inl a :: st, h, hr => exact h.elim
    | [.inr b], h, hr => exact h.elim
    | .inl a :: st, h, hr => exact h.elim
    | [], h, hr => exact h.elim
  | getfield x =>
    simp only [tk_okI, beq_iff_eq] at hi
    subst hi
    simp only [tk_I] at h
    match st, h, hr with
    | .inl (.inr a) :: st, h, hr =>
      cases hc : tk_lk fl x with
      | none => rw [hc] at h; exact h.elim
      | some q =>
        obtain ⟨k, j, lw, hg, ty⟩ := q
        rw [hc] at h
        match ty, h, hc with
        | 0, h, hc =>
          obtain ⟨⟨g1, g2⟩, h⟩ := h
          obtain ⟨C, T, N, fs, f1, f2, f3, f4, f5, f6⟩ := tk_flok.int hfl (tk_lk_mem hc) (Or.inl rfl) g1 g2
          exact va_get hx hb hts (tk_cls f1) hown hKn hP a (tk_ws_obj f4 f5) f1 j f2 (hts _ f3) (fun _ z => z) (tk_fs_int f6) hd (hK _ _ _ (h (hM a j).1 (hM a j).2) H locs ls hW hS hl (tk_rs.cons (hM a j) hr.tl))
        | 1, h, hc =>
          obtain ⟨⟨g1, g2⟩, h⟩ := h
          obtain ⟨C, T, N, fs, f1, f2, f3, f4, f5, f6⟩ := tk_flok.int hfl (tk_lk_mem hc) (Or.inr rfl) g1 g2
          exact va_get hx hb hts (tk_cls f1) hown hKn hP a (tk_ws_obj f4 f5) f1 j f2 (hts _ f3) (fun _ z => z) (tk_fs_int f6) hd (hK _ _ _ (h (hM a j).1 (hM a j).2) H locs ls hW hS hl (tk_rs.cons (hM a j) hr.tl))
        | r + 2, h, hc =>
          obtain ⟨⟨g1, g2⟩, h⟩ := h
          obtain ⟨C, T, N, fs, f1, f2, f3, f4, f5, f6⟩ := tk_flok.ref hfl (tk_lk_mem hc) g1 g2
          exact va_get hx hb hts (tk_cls f1) hown hKn hP a (tk_ws_obj f4 f5) f1 j f2 (hts _ f3) (fun _ z => z) (tk_fs_ref f6) hd (hK _ _ _ h H locs ls hW hS hl (tk_rs.cons trivial hr.tl))
    | .inl (.inl a) :: st, h, hr => exact h.elim
    | .inr a :: st, h, hr => exact h.elim
    | [], h, hr => exact h.elim
  | putfield x =>
    simp only [tk_okI, beq_iff_eq] at hi
    subst hi
    simp only [tk_I] at h
    match st, h, hr with
    | .inl (.inl v) :: .inl (.inr a) :: st, h, hr =>
      have hvr := hr.hd
      cases hc : tk_lk fl x with
      | none => rw [hc] at h; exact h.elim
      | some q =>
        obtain ⟨k, j, lw, hg, ty⟩ := q
        rw [hc] at h
        match ty, h, hc with
        | 0, h, hc =>
          obtain ⟨⟨g1, g2⟩, h⟩ := h
          obtain ⟨C, T, N, fs, f1, f2, f3, f4, f5, f6⟩ := tk_flok.int hfl (tk_lk_mem hc) (Or.inl rfl) g1 g2
          obtain ⟨f7, f8⟩ := tk_flok.typ hfl (tk_lk_mem hc) f1
          obtain ⟨ty0, t1, t2⟩ := tk_tyok f1
          refine va_put hx hb hts (tk_cls f1) ty0 t1 t2 hown hKn hP hD hS a (tk_ws_obj f4 f5) f1 j f2 (hts _ f3) (fun _ z => z) (f7 (by decide)) (ty := .int) (f8.1 rfl) rfl rfl (tk_fs_len f6) hd (fun H1 locs1 hP1 _ hS1 => ?_)
          have hP2 : va_P G.2.1 tk_cl (tk_ws G (tk_up M a j v)) H1 := by rw [← tk_ws_put f4 f5 f6]; exact hP1
          exact hK _ _ _ h H1 locs1 ls ⟨hP2, tk_up_r hM hvr⟩ hS1 hl hr.tl.tl
        | 1, h, hc =>
          obtain ⟨⟨g1, g2⟩, hz, h⟩ := h
          obtain ⟨C, T, N, fs, f1, f2, f3, f4, f5, f6⟩ := tk_flok.int hfl (tk_lk_mem hc) (Or.inr rfl) g1 g2
          obtain ⟨f7, f8⟩ := tk_flok.typ hfl (tk_lk_mem hc) f1
          obtain ⟨ty0, t1, t2⟩ := tk_tyok f1
          refine va_put hx hb hts (tk_cls f1) ty0 t1 t2 hown hKn hP hD hS a (tk_ws_obj f4 f5) f1 j f2 (hts _ f3) (fun _ z => z) (f7 (by decide)) (ty := .boolean) (f8.2 rfl) (by rcases hz with rfl | rfl <;> rfl) (by rcases hz with rfl | rfl <;> rfl) (tk_fs_len f6) hd (fun H1 locs1 hP1 _ hS1 => ?_)
          have hP2 : va_P G.2.1 tk_cl (tk_ws G (tk_up M a j v)) H1 := by rw [← tk_ws_put f4 f5 f6]; exact hP1
          exact hK _ _ _ h H1 locs1 ls ⟨hP2, tk_up_r hM hvr⟩ hS1 hl hr.tl.tl
        | r + 2, h, hc => exact h.elim
    | .inl (.inl v) :: .inl (.inl a) :: st, h, hr => exact h.elim
    | .inl (.inl v) :: .inr a :: st, h, hr => exact h.elim
    | [.inl (.inl v)], h, hr => exact h.elim
    | .inl (.inr a) :: st, h, hr => exact h.elim
    | .inr a :: st, h, hr => exact h.elim
    | [], h, hr => exact h.elim
  | iaload =>
    simp only [tk_okI, beq_iff_eq] at hi
    subst hi
    simp only [tk_I] at h
    match st, h, hr with
    | .inl (.inl i) :: .inl (.inr a) :: st, h, hr =>
      have hir := hr.hd
      dsimp only at h
      cases hc : tk_lk tk_ars a with
      | some q =>
        obtain ⟨ty, n, b⟩ := q
        rw [hc] at h
        have hmem := tk_lk_mem hc
        match ty, h, hmem with
        | 0, h, hmem =>
          obtain ⟨⟨g1, g2⟩, h⟩ := h
          refine va_iald hx hb hKn hP a 0 (tk_ws_arr hmem (by decide)) rfl (tk_in g1 g2 hir.2) hd ?_
          rw [tk_clm g1 hir.2]
          exact hK _ _ _ (h (hM _ _).1 (hM _ _).2) H locs ls hW hS hl (tk_rs.cons (hM _ _) hr.tl.tl)
        | z + 1, h, hmem => exact tk_scno hmem h
      | none =>
        rw [hc] at h
        exact tk_scld hx hb h9 hS hir hd h (fun z => hK _ _ _ z H locs ls hW hS hl (tk_rs.cons (tk_rT _) hr.tl.tl))
    | .inl (.inl i) :: .inl (.inl a) :: st, h, hr => exact h.elim
    | .inl (.inl i) :: .inr a :: st, h, hr => exact h.elim
    | [.inl (.inl i)], h, hr => exact h.elim
    | .inl (.inr a) :: st, h, hr => exact h.elim
    | .inr a :: st, h, hr => exact h.elim
    | [], h, hr => exact h.elim
  | baload =>
    simp only [tk_okI, beq_iff_eq] at hi
    subst hi
    simp only [tk_I] at h
    match st, h, hr with
    | .inl (.inl i) :: .inl (.inr a) :: st, h, hr =>
      have hir := hr.hd
      dsimp only at h
      cases hc : tk_lk tk_ars a with
      | some q =>
        obtain ⟨ty, n, b⟩ := q
        rw [hc] at h
        have hmem := tk_lk_mem hc
        match ty, h, hmem with
        | 0, h, hmem => exact h.elim
        | 1, h, hmem =>
          obtain ⟨⟨g1, g2⟩, h⟩ := h
          refine va_zald hx hb hKn hP a 1 (tk_ws_arr hmem (by decide)) rfl (tk_in g1 g2 hir.2) hd ?_
          rw [tk_clm g1 hir.2]
          exact hK _ _ _ (h (hM _ _).1 (hM _ _).2) H locs ls hW hS hl (tk_rs.cons (hM _ _) hr.tl.tl)
        | z + 2, h, hmem => exact h.elim
      | none => rw [hc] at h; exact h.elim
    | .inl (.inl i) :: .inl (.inl a) :: st, h, hr => exact h.elim
    | .inl (.inl i) :: .inr a :: st, h, hr => exact h.elim
    | [.inl (.inl i)], h, hr => exact h.elim
    | .inl (.inr a) :: st, h, hr => exact h.elim
    | .inr a :: st, h, hr => exact h.elim
    | [], h, hr => exact h.elim
  | laload =>
    simp only [tk_okI, beq_iff_eq] at hi
    subst hi
    simp only [tk_I] at h
    match st, h, hr with
    | .inl (.inl i) :: .inl (.inr a) :: st, h, hr =>
      have hir := hr.hd
      dsimp only at h
      cases hc : tk_lk tk_ars a with
      | some q =>
        obtain ⟨ty, n, b⟩ := q
        rw [hc] at h
        have hmem := tk_lk_mem hc
        match ty, h, hmem with
        | 0, h, hmem => exact h.elim
        | 1, h, hmem => exact h.elim
        | 2, h, hmem =>
          obtain ⟨⟨g1, g2⟩, h⟩ := h
          refine va_lald hx hb hKn hP a 2 (tk_ws_lng hmem) rfl (tk_in g1 g2 hir.2) hd ?_
          rw [tk_clm g1 hir.2]
          exact hK _ _ _ (h (hM _ _).1 (hM _ _).2) H locs ls hW hS hl (tk_rs.cons (hM _ _) hr.tl.tl)
        | z + 3, h, hmem => exact h.elim
      | none => rw [hc] at h; exact h.elim
    | .inl (.inl i) :: .inl (.inl a) :: st, h, hr => exact h.elim
    | .inl (.inl i) :: .inr a :: st, h, hr => exact h.elim
    | [.inl (.inl i)], h, hr => exact h.elim
    | .inl (.inr a) :: st, h, hr => exact h.elim
    | .inr a :: st, h, hr => exact h.elim
    | [], h, hr => exact h.elim
  | aaload =>
    simp only [tk_okI, beq_iff_eq] at hi
    subst hi
    simp only [tk_I] at h
    match st, h, hr with
    | .inl (.inl i) :: .inl (.inr a) :: st, h, hr =>
      have hir := hr.hd
      dsimp only at h
      cases hc : tk_lk tk_ars a with
      | some q =>
        obtain ⟨ty, n, b⟩ := q
        rw [hc] at h
        have hmem := tk_lk_mem hc
        match ty, h, hmem with
        | 0, h, hmem => exact h.elim
        | 1, h, hmem => exact h.elim
        | 2, h, hmem => exact h.elim
        | z + 3, h, hmem =>
          obtain ⟨⟨g1, g2⟩, h⟩ := h
          obtain ⟨C, hC⟩ := tk_tys_rf (G := G) hmem
          refine va_aldq hx hb hKn hP a (z + 3) (tk_ws_rfs hmem) hC (tk_in g1 g2 hir.2) hd ?_
          rw [tk_clm g1 hir.2]
          exact hK _ _ _ h H locs ls hW hS hl (tk_rs.cons trivial hr.tl.tl)
      | none => rw [hc] at h; exact h.elim
    | .inl (.inl i) :: .inl (.inl a) :: st, h, hr => exact h.elim
    | .inl (.inl i) :: .inr a :: st, h, hr => exact h.elim
    | [.inl (.inl i)], h, hr => exact h.elim
    | .inl (.inr a) :: st, h, hr => exact h.elim
    | .inr a :: st, h, hr => exact h.elim
    | [], h, hr => exact h.elim
  | iastore =>
    simp only [tk_okI, beq_iff_eq] at hi
    subst hi
    simp only [tk_I] at h
    match st, h, hr with
    | .inl (.inl v) :: .inl (.inl i) :: .inl (.inr a) :: st, h, hr =>
      have hvr := hr.hd
      have hir := hr.tl.hd
      dsimp only at h
      cases hc : tk_lk tk_ars a with
      | some q =>
        obtain ⟨ty, n, b⟩ := q
        rw [hc] at h
        have hmem := tk_lk_mem hc
        match ty, h, hmem with
        | 0, h, hmem =>
          obtain ⟨⟨g1, g2⟩, h⟩ := h
          refine va_iast hx hb hKn hP hD hS a 0 (tk_ws_arr hmem (by decide)) rfl (tk_in g1 g2 hir.2) hd (fun H1 locs1 hP1 _ hS1 => ?_)
          rw [tk_clm g1 hir.2, tk_ws_ast hmem (by decide)] at hP1
          exact hK _ _ _ h H1 locs1 ls ⟨hP1, tk_up_r hM hvr⟩ hS1 hl hr.tl.tl.tl
        | z + 1, h, hmem => exact h.elim
      | none => rw [hc] at h; exact h.elim
    | .inl (.inl v) :: .inl (.inl i) :: .inl (.inl a) :: st, h, hr => exact h.elim
    | .inl (.inl v) :: .inl (.inl i) :: .inr a :: st, h, hr => exact h.elim
    | [.inl (.inl v), .inl (.inl i)], h, hr => exact h.elim
    | .inl (.inl v) :: .inl (.inr a) :: st, h, hr => exact h.elim
    | .inl (.inl v) :: .inr a :: st, h, hr => exact h.elim
    | [.inl (.inl v)], h, hr => exact h.elim
    | .inl (.inr a) :: st, h, hr => exact h.elim
    | .inr a :: st, h, hr => exact h.elim
    | [], h, hr => exact h.elim
  | bastore =>
    simp only [tk_okI, beq_iff_eq] at hi
    subst hi
    simp only [tk_I] at h
    match st, h, hr with
    | .inl (.inl v) :: .inl (.inl i) :: .inl (.inr a) :: st, h, hr =>
      have hvr := hr.hd
      have hir := hr.tl.hd
      dsimp only at h
      cases hc : tk_lk tk_ars a with
      | some q =>
        obtain ⟨ty, n, b⟩ := q
        rw [hc] at h
        have hmem := tk_lk_mem hc
        match ty, h, hmem with
        | 0, h, hmem => exact h.elim
        | 1, h, hmem =>
          obtain ⟨⟨g1, g2⟩, hz, h⟩ := h
          refine va_zast hx hb hKn hP hD hS a 1 (tk_ws_arr hmem (by decide)) rfl (tk_in g1 g2 hir.2) hd (fun H1 locs1 hP1 _ hS1 => ?_)
          rw [show vp_nar .boolean (Int32.ofInt v) = Int32.ofInt v by rcases hz with rfl | rfl <;> rfl, tk_clm g1 hir.2, tk_ws_ast hmem (by decide)] at hP1
          exact hK _ _ _ h H1 locs1 ls ⟨hP1, tk_up_r hM hvr⟩ hS1 hl hr.tl.tl.tl
        | z + 2, h, hmem => exact h.elim
      | none => rw [hc] at h; exact h.elim
    | .inl (.inl v) :: .inl (.inl i) :: .inl (.inl a) :: st, h, hr => exact h.elim
    | .inl (.inl v) :: .inl (.inl i) :: .inr a :: st, h, hr => exact h.elim
    | [.inl (.inl v), .inl (.inl i)], h, hr => exact h.elim
    | .inl (.inl v) :: .inl (.inr a) :: st, h, hr => exact h.elim
    | .inl (.inl v) :: .inr a :: st, h, hr => exact h.elim
    | [.inl (.inl v)], h, hr => exact h.elim
    | .inl (.inr a) :: st, h, hr => exact h.elim
    | .inr a :: st, h, hr => exact h.elim
    | [], h, hr => exact h.elim
  | lastore =>
    simp only [tk_okI, beq_iff_eq] at hi
    subst hi
    simp only [tk_I] at h
    match st, h, hr with
    | .inr v :: .inl (.inl i) :: .inl (.inr a) :: st, h, hr =>
      have hvr := hr.hd
      have hir := hr.tl.hd
      dsimp only at h
      cases hc : tk_lk tk_ars a with
      | some q =>
        obtain ⟨ty, n, b⟩ := q
        rw [hc] at h
        have hmem := tk_lk_mem hc
        match ty, h, hmem with
        | 0, h, hmem => exact h.elim
        | 1, h, hmem => exact h.elim
        | 2, h, hmem =>
          obtain ⟨⟨g1, g2⟩, h⟩ := h
          refine va_last hx hb hKn hP hD hS a 2 (tk_ws_lng hmem) rfl (tk_in g1 g2 hir.2) hd (fun H1 locs1 hP1 _ hS1 => ?_)
          rw [tk_clm g1 hir.2, tk_ws_lst hmem] at hP1
          exact hK _ _ _ h H1 locs1 ls ⟨hP1, tk_up_r hM hvr⟩ hS1 hl hr.tl.tl.tl
        | z + 3, h, hmem => exact h.elim
      | none => rw [hc] at h; exact h.elim
    | .inr v :: .inl (.inl i) :: .inl (.inl a) :: st, h, hr => exact h.elim
    | .inr v :: .inl (.inl i) :: .inr a :: st, h, hr => exact h.elim
    | [.inr v, .inl (.inl i)], h, hr => exact h.elim
    | .inr v :: .inl (.inr a) :: st, h, hr => exact h.elim
    | .inr v :: .inr a :: st, h, hr => exact h.elim
    | [.inr v], h, hr => exact h.elim
    | .inl a :: st, h, hr => exact h.elim
    | [], h, hr => exact h.elim
  | arraylength =>
    simp only [tk_okI, beq_iff_eq] at hi
    subst hi
    simp only [tk_I] at h
    match st, h, hr with
    | .inl (.inr a) :: st, h, hr =>
      dsimp only at h
      cases hc : tk_lk tk_ars a with
      | some q =>
        obtain ⟨ty, n, b⟩ := q
        rw [hc] at h
        have hmem := tk_lk_mem hc
        obtain ⟨x, g1, g2, g3⟩ := tk_ws_any (G := G) (M := M) hmem
        obtain ⟨y, hy⟩ := tk_tys_at (G := G) hmem
        have hn := (tk_ars_ok _ hmem).2.2.1
        dsimp only at hn
        refine va_alen (v := Int32.ofInt (n : Int)) hx hb hKn hP a ty g1 hy (by rw [g2]; rfl) hd ?_
        exact hK _ _ _ h H locs ls hW hS hl (tk_rs.cons ⟨by omega, by omega⟩ hr.tl)
      | none =>
        rw [hc] at h
        cases h8 : (b9 && Nat.beq a tk_sc) with
        | false => rw [h8] at h; exact h.elim
        | true =>
          rw [h8] at h
          rw [Bool.and_eq_true] at h8
          obtain ⟨h8, h7⟩ := h8
          have ea : a = tk_sc := Nat.eq_of_beq_eq_true h7
          subst ea
          obtain ⟨k1, k2, k3, k4⟩ := h9 h8
          exact va_slen hx hb k1 k2 k3 hS hd (hK _ _ _ h H locs ls hW hS hl (tk_rs.cons ⟨by omega, by omega⟩ hr.tl))
    | .inl (.inl a) :: st, h, hr => exact h.elim
    | .inr a :: st, h, hr => exact h.elim
    | [], h, hr => exact h.elim
  | ireturn =>
    simp only [tk_okI, beq_iff_eq] at hi
    subst hi
    simp only [tk_I] at h
    match st, h, hr with
    | [.inl (.inl v)], h, hr => exact hRQ (some v) M H locs ls pc _ h hW hS hr (Or.inl ⟨v, rfl, rfl, hd⟩)
    | .inl (.inl v) :: _ :: _, h, hr => exact h.elim
    | .inl (.inr a) :: st, h, hr => exact h.elim
    | .inr a :: st, h, hr => exact h.elim
    | [], h, hr => exact h.elim
  | return_ =>
    simp only [tk_okI, beq_iff_eq] at hi
    subst hi
    simp only [tk_I] at h
    match st, h, hr with
    | [], h, hr => exact hRQ none M H locs ls pc _ h hW hS hr (Or.inr ⟨rfl, rfl, hd⟩)
    | _ :: _, h, hr => exact h.elim
  | _ => exact h.elim
end TKO
end
section
/-! whole stretches -/
section TKG
variable {p : Program} {l : Launch} {e : Env} {R : Room} {s : State} {m : MethodId} {args : Array Value} {below : List Frame} {meth : Method} {c : Code} {cells slots : Nat} {Q : State → Prop} {G : tk_G} {A : Nat → Prop} {nL : Nat}
theorem tk_snd {own : String} {cc : ByteArray} {b9 : Bool} {fl : tk_FL} {cs : List (Nat × Int)} (X : tk_X p s m args c G A nL own cc b9) (hfl : tk_flok own fl) (hcs : tk_csok own cs) {tab : List tk_E} (htab : tk_good cc nL tab) {cut : List Nat} {P : Nat → tk_Lc → List tk_V → tk_M → Prop} {RQ : Option Int → tk_M → Prop}
    (hRQ : tk_Rt p l e R s m args below meth c cells slots Q G A cc RQ) (hP : ∀ pc lo st M, P pc lo st M → tk_W p l e R s m args below meth c cells slots Q G A nL pc lo st M) :
    ∀ (n : Nat) (q : tk_E) (t : List tk_E), tk_good cc nL (q :: t) → ∀ (lo : tk_Lc) (st : List tk_V) (M : tk_M), tk_N fl cs b9 G.2.2.2.1 G.2.2.2.2 cut tab P RQ n (q :: t) lo st M → tk_W p l e R s m args below meth c cells slots Q G A nL q.1 lo st M := by
  intro n
  induction n with
  | zero => intro q t hg lo st M h; exact hP _ _ _ _ h
  | succ n ih =>
    intro q t hg lo st M h
    unfold tk_N at h
    cases hc : (cut.elem q.1 || tk_stop q.2.1) with
    | true => rw [hc] at h; exact hP _ _ _ _ h
    | false =>
      rw [hc] at h
      refine tk_one X hfl hcs (hg.1 q List.mem_cons_self) h (fun lo st M hk => ?_) (fun a lo st M hj => ?_) hRQ
      · cases t with
        | nil => unfold tk_N at hk; exact hk.elim
        | cons r t =>
          rw [tk_ch_next hg.2]
          exact ih r t hg.tail lo st M hk
      · cases ht : tk_to tab a with
        | nil => rw [ht] at hj; unfold tk_N at hj; exact hj.elim
        | cons r t =>
          rw [ht] at hj
          have hg2 : tk_good cc nL (tk_to tab a) := htab.to
          rw [ht] at hg2
          rw [← tk_to_head ht]
          exact ih r t hg2 lo st M hj
/-- THE ROW TO USE: from pc on, up to n + 1 instructions; the walk stops at calls and in 'cut' -/
theorem tk_go {own : String} {cc : ByteArray} {b9 : Bool} {fl : tk_FL} {cs : List (Nat × Int)} (X : tk_X p s m args c G A nL own cc b9) (hfl : tk_flok own fl) (hcs : tk_csok own cs) {tab : List tk_E} (htab : tk_good cc nL tab) {RQ : Option Int → tk_M → Prop} (hRQ : tk_Rt p l e R s m args below meth c cells slots Q G A cc RQ)
    (n : Nat) (cut : List Nat) {pc : Nat} {lo : tk_Lc} {st : List tk_V} {M : tk_M} (h : tk_R fl cs b9 G.2.2.2.1 G.2.2.2.2 cut tab (tk_W p l e R s m args below meth c cells slots Q G A nL) RQ n (tk_to tab pc) lo st M) : tk_W p l e R s m args below meth c cells slots Q G A nL pc lo st M := by
  cases ht : tk_to tab pc with
  | nil => rw [ht] at h; exact h.elim
  | cons q t =>
    rw [ht] at h
    have hg : tk_good cc nL (tk_to tab pc) := htab.to
    rw [ht] at hg
    rw [← tk_to_head ht]
    refine tk_one X hfl hcs (hg.1 q List.mem_cons_self) h (fun lo st M hk => ?_) (fun a lo st M hj => ?_) hRQ
    · cases t with
      | nil => unfold tk_N at hk; exact hk.elim
      | cons r t =>
        rw [tk_ch_next hg.2]
        exact tk_snd X hfl hcs htab hRQ (fun _ _ _ _ z => z) n r t hg.tail lo st M hk
    · cases ht2 : tk_to tab a with
      | nil => rw [ht2] at hj; unfold tk_N at hj; exact hj.elim
      | cons r t =>
        rw [ht2] at hj
        have hg2 : tk_good cc nL (tk_to tab a) := htab.to
        rw [ht2] at hg2
        rw [← tk_to_head ht2]
        exact tk_snd X hfl hcs htab hRQ (fun _ _ _ _ z => z) n r t hg2 lo st M hj
end TKG
end
