/-! CLASS AND REFERENCE SIDE BY SIDE: C holds the class's cells, D the reference's -/
/-- the track in both -/
def j_lay (C D : tk_M) : Prop := D 7 1 = C 2 2 ∧ D 7 2 = C 2 3 ∧ (0 ≤ C 2 2 ∧ C 2 2 ≤ 10 ∧ 0 ≤ C 2 3 ∧ C 2 3 ≤ 32) ∧
  (∀ k : Nat, (k : Int) < C 2 3 → D 8 k = C (41 + k) 0 ∧ 0 ≤ C (41 + k) 0 ∧ C (41 + k) 0 < C 2 2 ∧ D 9 k = C (41 + k) 1) ∧
  D 9 (C 2 3).toNat = C 2 4 ∧ D 9 0 = 0 ∧ (∀ k : Nat, (k : Int) < C 2 3 → D 9 k < D 9 (k + 1)) ∧
  (∀ s : Nat, (s : Int) < C 2 2 → D 10 s = C (31 + s) 0 ∧ 0 ≤ C (31 + s) 0 ∧ C (31 + s) 0 ≤ C 2 3 ∧ C (31 + s) 1 < C 2 3) ∧
  (∀ k s : Nat, (k : Int) < C 2 3 → (s : Int) < C 2 2 → (C (41 + k) 0 = (s : Int) ↔ C (31 + s) 0 ≤ (k : Int) ∧ (k : Int) ≤ C (31 + s) 1)) ∧
  (0 < C 2 2 → C (31 + (C 2 2 - 1).toNat) 1 = C 2 3 - 1)
def pw (n : Nat) : Int := ((2 ^ n : Nat) : Int)
/-- a train in both -/
def j_tr (C D : tk_M) (t : Nat) : Prop := D 18 t = C (73 + t) 0 ∧ D 26 t = C (73 + t) 12 ∧ ((C (73 + t) 12 = -1 ∨ 0 ≤ C (73 + t) 12) ∧ C (73 + t) 12 < C 2 3) ∧
  (¬ C (73 + t) 0 = 0 → D 19 t = C (73 + t) 2 ∧ D 20 t = C (73 + t) 7 ∧ (D 21 t = C (73 + t) 1 ∧ (¬ C (73 + t) 7 = 0 → ¬ C (73 + t) 2 = 0)) ∧
    (¬ C (73 + t) 2 = 0 → D 22 t = C (73 + t) 4 ∧ D 24 t = C (73 + t) 3 ∧ (m_a D t : Int) = C (73 + t) 6 ∧ (m_z D t : Int) = C (73 + t) 5 ∧ D 23 t ≤ D 22 t ∧ (¬ C (73 + t) 7 = 0 → D 25 t = C (73 + t) 8)))
/-- what is the same in both before all is found anew -/
def j_pre (C D : tk_M) : Prop := (D 7 3 = C 1 7 ∧ D 7 4 = C 1 4 ∧ D 7 5 = C 1 5 ∧ D 7 6 = C 1 6 ∧ D 7 7 = C 3 0 ∧ D 7 8 = C 3 1 ∧ D 7 9 = C 2 5 ∧ D 7 10 = C 2 4) ∧ (1 ≤ C 2 2 ∧ 1 ≤ C 2 3) ∧
  (∀ k : Nat, (k : Int) < C 2 3 → D 12 k = C (41 + k) 2 ∧ 0 ≤ C (41 + k) 2 ∧ C (41 + k) 2 ≤ 3 ∧ 0 ≤ D 14 k ∧ D 14 k < 256 ∧ (C (41 + k) 2 = 1 → D 14 k = pw (C (41 + k) 4).toNat)) ∧
  (∀ s : Nat, (s : Int) < C 2 2 → D 11 s = C (31 + s) 3 ∧ D 16 s = C (31 + s) 2 ∧ D 17 s = C (31 + s) 4) ∧
  (∀ t : Nat, t < 8 → j_tr C D t)
theorem f_at_eq {M N : tk_M} {n : Nat} (h : ∀ k : Nat, k ≤ n → N (41 + k) 1 = M (41 + k) 1) (pl : Int) : ∀ m : Nat, m ≤ n → f_at N pl m = f_at M pl m
  | 0, _ => rfl
  | m + 1, hm => by
    unfold f_at
    rw [h (m + 1) hm, f_at_eq h pl m (by omega)]
theorem j_up {D : tk_M} {n : Nat} (h : ∀ k : Nat, k < n → D 9 k < D 9 (k + 1)) : ∀ b a : Nat, a < b → b ≤ n → D 9 a < D 9 b
  | 0, a, h1, _ => absurd h1 (Nat.not_lt_zero _)
  | b + 1, a, h1, h2 => by
    have h3 := h b (by omega)
    by_cases e : a = b
    · subst e; exact h3
    · have := j_up h b a (by omega) (by omega)
      omega
/-- the subsection at a place, from both ends -/
theorem j_at1 {D : tk_M} {pl : Int} (n : Nat) (hN : D 7 2 = (n : Int) + 1) (hs : ∀ k : Nat, k < n + 1 → D 9 k < D 9 (k + 1)) : ∀ f k : Nat, k ≤ n → n ≤ k + f → (k = 0 ∨ D 9 k ≤ pl) → ∃ r : Nat, m_at D pl f k = r ∧ k ≤ r ∧ r ≤ n ∧ (r = 0 ∨ D 9 r ≤ pl) ∧ (r = n ∨ pl < D 9 (r + 1))
  | 0, k, h1, h2, h3 => ⟨k, rfl, Nat.le_refl _, h1, h3, Or.inl (by omega)⟩
  | f + 1, k, h1, h2, h3 => by
    unfold m_at
    by_cases hc : (k : Int) + 1 < D 7 2 ∧ D 9 (k + 1) ≤ pl
    · rw [if_pos hc]
      obtain ⟨r, e1, e2, e3, e4, e5⟩ := j_at1 n hN hs f (k + 1) (by omega) (by omega) (Or.inr hc.2)
      exact ⟨r, e1, by omega, e3, e4, e5⟩
    · rw [if_neg hc]
      exact ⟨k, rfl, Nat.le_refl _, h1, h3, by omega⟩
theorem j_at2 {C D : tk_M} {pl : Int} (n : Nat) (he : ∀ k : Nat, k ≤ n → D 9 k = C (41 + k) 1) (hs : ∀ k : Nat, k < n + 1 → D 9 k < D 9 (k + 1)) {r : Nat} (h1 : r ≤ n) (h2 : r = 0 ∨ D 9 r ≤ pl) (h3 : r = n ∨ pl < D 9 (r + 1)) : ∀ m : Nat, r ≤ m → m ≤ n → f_at C pl m = (r : Int)
  | 0, g1, _ => by
    have : r = 0 := by omega
    subst this
    rfl
  | m + 1, g1, g2 => by
    unfold f_at
    rw [← he (m + 1) g2]
    by_cases e : r = m + 1
    · subst e
      rw [if_pos (by omega)]
    · have : D 9 (r + 1) ≤ D 9 (m + 1) := by
        by_cases e2 : r = m
        · subst e2; exact Int.le_refl _
        · exact Int.le_of_lt (j_up hs (m + 1) (r + 1) (by omega) (by omega))
      rw [if_neg (by omega)]
      exact j_at2 n he hs h1 h2 h3 m (by omega) (by omega)
theorem j_at {C D : tk_M} (hl : j_lay C D) (h1 : 1 ≤ C 2 3) (pl : Int) : ((m_at D pl 32 0 : Nat) : Int) = f_at C pl (C 2 3 - 1).toNat := by
  obtain ⟨l1, l2, l3, l4, l5, l6, l7, l8, l9, l10⟩ := hl
  obtain ⟨n, en⟩ : ∃ n : Nat, C 2 3 = (n : Int) + 1 := ⟨(C 2 3 - 1).toNat, by omega⟩
  have hs : ∀ k : Nat, k < n + 1 → D 9 k < D 9 (k + 1) := fun k hk => l7 k (by omega)
  obtain ⟨r, e1, e2, e3, e4, e5⟩ := j_at1 (D := D) (pl := pl) n (by omega) hs 32 0 (by omega) (by omega) (Or.inl rfl)
  rw [e1, show (C 2 3 - 1).toNat = n by omega]
  exact (j_at2 n (fun k hk => (l4 k (by omega)).2.2.2) hs e3 e4 e5 n e3 (Nat.le_refl _)).symm
theorem f_at_mono (C : tk_M) {p q : Int} (h : p ≤ q) : ∀ n : Nat, f_at C p n ≤ f_at C q n
  | 0 => Int.le_refl _
  | n + 1 => by
    have ih := f_at_mono C h n
    have := (f_at_in C p n).2
    unfold f_at
    split
    · rw [if_pos (by omega)]; exact Int.le_refl _
    · split <;> omega
/-- a section unsure in both -/
theorem j_uns {C D : tk_M} (hl : j_lay C D) (hs : ∀ k : Nat, (k : Int) < C 2 3 → D 12 k = C (41 + k) 2) {s : Nat} (h : (s : Int) < C 2 2) (hf : D 16 s = C (31 + s) 2) : m_hld D s = f_uns C (31 + s) := by
  obtain ⟨l1, l2, l3, l4, l5, l6, l7, l8, l9, l10⟩ := hl
  have h8 := l8 s h
  have e : (m_an D s (D 7 2).toNat = true) ↔ (f_any C (31 + s) = true) := by
    rw [m_an_iff, f_any_iff]
    constructor
    · rintro ⟨k, k1, k2, k3⟩
      have k1' : (k : Int) < C 2 3 := by omega
      have q := (l9 k s k1' h).mp (by rw [← (l4 k k1').1]; exact k2)
      exact ⟨k, by omega, q.1, q.2, by rw [← hs k k1']; exact k3⟩
    · rintro ⟨k, k1, k2, k3, k4⟩
      have k1' : (k : Int) < C 2 3 := by omega
      have q := (l9 k s k1' h).mpr ⟨k2, k3⟩
      exact ⟨k, by omega, by rw [(l4 k k1').1]; exact q, by rw [hs k k1']; exact k4⟩
  unfold m_hld f_uns
  rw [hf]
  by_cases hc : ¬ C (31 + s) 2 = 0 ∧ f_any C (31 + s) = true
  · rw [if_pos hc, if_pos ⟨hc.1, e.mpr hc.2⟩]
  · rw [if_neg hc, if_neg (fun z => hc ⟨z.1, e.mp z.2⟩)]
theorem j_loc {C D : tk_M} (hp : j_pre C D) {t : Nat} (ht : t < 8) : m_loc D t = f_loc C (73 + t) (C 1 7) (C 1 4) := by
  obtain ⟨⟨a1, a2, a3, a4, a5, a6, a7, a8⟩, -, -, -, b⟩ := hp
  obtain ⟨c1, c2, c3, c4⟩ := b t ht
  unfold m_loc f_loc
  rw [c1, a1, a2]
  by_cases h0 : C (73 + t) 0 = 0
  · rw [if_neg (by omega), if_neg (by omega)]
  · obtain ⟨d1, d2, d3, d4⟩ := c4 h0
    rw [d1]
    by_cases h2 : C (73 + t) 2 = 0
    · rw [if_neg (by omega), if_neg (by omega)]
    · rw [(d4 h2).2.1]
theorem j_who {C D : tk_M} (hp : j_pre C D) {t : Nat} (ht : t < 8) : m_who D t = f_who C (73 + t) (C 1 7) (C 1 4) (C 1 5) := by
  have hl := j_loc hp ht
  obtain ⟨⟨a1, a2, a3, a4, a5, a6, a7, a8⟩, -, -, -, b⟩ := hp
  obtain ⟨c1, c2, c3, c4⟩ := b t ht
  unfold m_who f_who
  rw [hl]
  unfold f_loc
  by_cases h0 : ¬ C (73 + t) 0 = 0 ∧ ¬ C (73 + t) 2 = 0 ∧ C 1 7 - C (73 + t) 3 ≤ C 1 4
  · rw [if_pos h0]
    obtain ⟨d1, d2, d3, d4⟩ := c4 h0.1
    obtain ⟨e1, e2, e3, e4, e5, e6⟩ := d4 h0.2.1
    rw [d2, a1, a3]
    by_cases h7 : C (73 + t) 7 = 0
    · rw [if_neg (by omega), if_neg (by omega)]
    · rw [e6 h7]
      by_cases h8 : C 1 7 - C (73 + t) 8 ≤ C 1 5
      · rw [if_pos (by omega), if_pos (by omega)]
      · rw [if_neg (by omega), if_neg (by omega)]
  · rw [if_neg h0, if_neg (by omega), if_neg (by omega)]
/-- marks of one subsection in both, n trains looked at: the bits x; how many, the latest, the one before -/
def rc (n : Nat) (x c v o : Int) : Prop := 0 ≤ x ∧ x < pw n ∧ m_pc x = c ∧ 0 ≤ c ∧ (c = 1 → x = pw v.toNat ∧ 0 ≤ v ∧ v < 8) ∧ (c = 0 → v = o)
theorem rc_all : ∀ n : Fin 8, ∀ x : Fin 128, x.val < 2 ^ n.val → m_or (x.val : Int) n.val = (x.val : Int) + pw n.val ∧ m_pc ((x.val : Int) + pw n.val) = m_pc (x.val : Int) + 1 ∧ (m_pc (x.val : Int) = 0 → x.val = 0) ∧ (x.val : Int) + pw n.val < pw (n.val + 1) := by decide +kernel
theorem pw_s : ∀ n : Fin 8, pw n.val ≤ 128 ∧ pw n.val < pw (n.val + 1) ∧ 0 < pw n.val := by decide +kernel
theorem rc.step {n : Nat} (hn : n < 8) {x c v o : Int} (h : rc n x c v o) : rc (n + 1) (m_or x n) (c + 1) (n : Int) o := by
  obtain ⟨h1, h2, h3, h4, h5, h6⟩ := h
  have hp := pw_s ⟨n, hn⟩
  simp only at hp
  have h2' : x < ((2 ^ n : Nat) : Int) := h2
  have q := rc_all ⟨n, hn⟩ ⟨x.toNat, by omega⟩ (by show x.toNat < 2 ^ n; omega)
  simp only at q
  rw [Int.toNat_of_nonneg h1] at q
  obtain ⟨q1, q2, q3, q4⟩ := q
  refine ⟨by rw [q1]; omega, by rw [q1]; exact q4, by rw [q1, q2, h3], by omega, fun hc => ?_, fun hc => by omega⟩
  have hx : x = 0 := by
    have := q3 (by omega)
    omega
  refine ⟨?_, by omega, by omega⟩
  rw [q1, hx, Int.toNat_natCast]
  omega
theorem rc.mono {n : Nat} (hn : n < 8) {x c v o : Int} (h : rc n x c v o) : rc (n + 1) x c v o := by
  obtain ⟨h1, h2, h3, h4, h5, h6⟩ := h
  have hp := pw_s ⟨n, hn⟩
  simp only at hp
  exact ⟨h1, by omega, h3, h4, h5, h6⟩
