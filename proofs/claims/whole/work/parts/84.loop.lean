/-! THE LAW'S LOOP, and the start of its numbers -/
theorem j_zero : j_all tk_M0 tk_M0 0 := by
  have z : ∀ c j, tk_M0 c j = 0 := fun _ _ => rfl
  refine ⟨⟨⟨by rw [z]; decide, by rw [z]; decide, by rw [z]; decide, by rw [z]; decide, fun i hi => ?_, fun h => ?_⟩, ?_, ?_, fun t _ => ?_, ⟨by rw [z]; decide, by rw [z]; decide, by rw [z]; decide, by rw [z]; decide, by rw [z]; decide, fun i _ => by rw [z]; decide, by rw [z]; decide, by rw [z, z]; decide⟩, fun h => absurd (z 1 3) h⟩, ⟨by rw [z, z], by rw [z, z], by rw [z, z]; decide, fun k hk => ?_, by rw [z, z], by rw [z], fun k hk => ?_, fun k hk => ?_, fun k s hk => ?_, fun h => ?_⟩, by rw [z, z], fun s _ => ⟨z _ _, z _ _⟩, ⟨by rw [z]; decide, fun t _ => ⟨by rw [z]; decide, by rw [z]; decide⟩⟩, fun h => absurd (z 1 3) h, fun _ => ⟨z _ _, z _ _, z _ _, z _ _, fun s _ => ⟨z _ _, z _ _⟩⟩⟩
  · rw [z] at hi; omega
  · rw [z] at h; omega
  · intro i hi
    first | (rw [z] at hi; omega) | (simp only [z]; omega) | (simp only [z]; decide)
  · intro i hi
    first | (rw [z] at hi; omega) | (simp only [z]; omega) | (simp only [z]; decide)
  · simp only [z]; decide
  · rw [z] at hk; omega
  · rw [z] at hk; omega
  · rw [z] at hk; omega
  · rw [z] at hk; omega
  · rw [z] at h; omega
set_option maxHeartbeats 2000000 in
set_option maxRecDepth 100000 in
theorem law_loop {l : Launch} {L : Nat} {xs : Nat → Int32} {c0 s0 : Nat} (hst : l.stackTraces = false) (hL : L ≤ 2048) (hc0 : c0 ≤ 1000) (hs0 : s0 ≤ 10000) : ∀ (r q : Nat), L < 4 * q + 4 * r → 4 * q ≤ 2048 → ∀ (M : tk_M) (x5 x6 : Option tk_U), j_all M M (2002 * (q : Int)) →
    tk_AL l L xs (c0 + q) (s0 + 6 * q) 23 [some (.inr 99), some (.inr 1), some (.inr 7), some (.inr 0), some (.inl (4 * (q : Int))), x5, x6] [] M := by
  intro r
  induction r with
  | zero =>
    intro q h1 h2 M x5 x6 hj
    refine tk_goL tg_La_law (by omega) (by omega) 40 [104, 148, 204, 284, 295, 359, 407, 494, 530, 586, 654, 710, 778, 846] ?_
    refine ⟨by omega, by omega, fun _ => rfl, fun g => absurd ?_ g⟩
    show (L : Int) - 4 < 4 * (q : Int)
    omega
  | succ r ih =>
    intro q h1 h2 M x5 x6 hj
    refine tk_goL tg_La_law (by omega) (by omega) 40 [104, 148, 204, 284, 295, 359, 407, 494, 530, 586, 654, 710, 778, 846] ?_
    refine ⟨by omega, by omega, fun _ => rfl, fun g => ?_⟩
    have g : ¬ ((L : Int) - 4 < 4 * (q : Int)) := g
    have kk : ∀ (M2 : tk_M) (y5 y6 : Option tk_U), j_all M2 M2 (2002 * (q : Int) + 2002) → tk_AL l L xs (c0 + q + 1) (s0 + 6 * q + 6) 846 [some (.inr 99), some (.inr 1), some (.inr 7), some (.inr 0), some (.inl (4 * (q : Int))), y5, y6] [] M2 := by
      intro M2 y5 y6 hj2
      refine tk_goL tg_La_law (by omega) (by omega) 40 [23] ?_
      refine ⟨by omega, by omega, (), ?_⟩
      have h9 := ih (q + 1) (by omega) (by omega) M2 y5 y6 (by rw [show 2002 * ((q + 1 : Nat) : Int) = 2002 * (q : Int) + 2002 by omega]; exact hj2)
      rw [show 4 * ((q + 1 : Nat) : Int) = 4 * (q : Int) + 4 by omega] at h9
      exact h9
    have hk : c0 + q + 2 ≤ 661476 := by omega
    have hn : s0 + 6 * q + 12 ≤ 7111676 := by omega
    have hi : (0 : Int) ≤ 4 * (q : Int) := by omega
    have hi2 : 4 * (q : Int) + 3 < (L : Int) := by omega
    have h0 : (0 : Int) ≤ 2002 * (q : Int) := by omega
    have hK : 2002 * (q : Int) ≤ 9000000 := by omega
    refine ⟨⟨by omega, by omega⟩, fun _ => ⟨(), (kk M x5 x6 (hj.mono (by omega))).widen (by omega) (by omega)⟩, ?_⟩
    exact ⟨fun _ => ⟨(), law_section hst hk hn hi hi2 hL hj h0 hK kk⟩, fun _ => ⟨(), law_sub hst hk hn hi hi2 hL hj h0 hK kk⟩, fun _ => ⟨(), law_begin hst hk hn hi hi2 hL hj h0 hK kk⟩, fun _ => ⟨(), law_clear hk hn hj kk⟩,
      fun _ => ⟨(), law_detect hst hk hn hi hi2 hL hj h0 hK kk⟩, fun _ => ⟨(), law_connect hst hk hn hi hi2 hL hj h0 hK kk⟩, fun _ => ⟨(), law_report hst hk hn hi hi2 hL hj h0 hK kk⟩, fun _ => ⟨(), law_leave hst hk hn hi hi2 hL hj h0 hK kk⟩, fun _ => ⟨(), law_tick hst hk hn hi hi2 hL hj h0 hK kk⟩,
      fun _ => ⟨(), law_request hst hk hn hi hi2 hL hj h0 hK kk⟩, fun _ => ⟨(), law_state hst hk hn hi hi2 hL hj h0 hK kk⟩, fun _ => ⟨(), law_train hst hk hn hi hi2 hL hj h0 hK kk⟩, fun _ => ⟨(), law_count hst hk hn hi hi2 hL hj h0 hK kk⟩, trivial⟩
