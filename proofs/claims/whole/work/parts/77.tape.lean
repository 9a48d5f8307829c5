/-! ===== feed, clear: the tape ===== -/
def TapeR (σ μ : Mm) : Prop := ∃ n, n ≤ 40 ∧ σ 71 0 = nI n ∧ μ 22 0 = nI n ∧ ∀ i, i < n → σ 70 i = μ 21 i ∧ ∃ v, 1 ≤ v ∧ v ≤ 127 ∧ σ 70 i = nI v
def TapeStep (σ μ : Mm) (x y : Option (Int32 × Mm)) : Prop := ∃ a τ ρ, x = some (a, τ) ∧ y = some (a, ρ) ∧ TapeR τ ρ ∧ (∀ k, k ≠ 70 → k ≠ 71 → τ k = σ k) ∧ (∀ k, k ≠ 12 → k ≠ 21 → k ≠ 22 → ρ k = μ k) ∧ ρ 12 = fun _ => 0
theorem TapeR.z {σ μ : Mm} (h : TapeR σ μ) : TapeR σ (sc μ 12 0) := by
  obtain ⟨n, h1, h2, h3, h4⟩ := h
  exact ⟨n, h1, h2, by rw [sc_ne (by omega)]; exact h3, fun i hi => by rw [sc_ne (by omega)]; exact h4 i hi⟩
theorem tape_same {σ μ : Mm} {x y : Option (Int32 × Mm)} {a : Int32} (h : TapeR σ μ) (hx : x = some (a, σ)) (hy : y = some (a, sc μ 12 0)) : TapeStep σ μ x y :=
  ⟨a, σ, sc μ 12 0, hx, hy, h.z, fun _ _ _ => rfl, fun k h1 _ _ => sc_ne h1, sc_eq'⟩
theorem feed_both {σ μ : Mm} (hT : TapeR σ μ) (w : Int32) : TapeStep σ μ (f_X6_feed σ w) (f_X7_feed μ w) := by
  have hin := m_in (x := w.toInt) (lo := 1) (hi := 127) (a := w.toInt64) (l := (1 : Int64)) (h := (127 : Int64)) (wide w) (by decide) (by decide)
  rcases pk_ix w (n := 128) (by omega) with e | e | ⟨v, hv, rfl⟩
  · have := neg_toInt e
    refine tape_same (a := -2) hT ?_ ?_
    · unfold f_X6_feed
      rw [if_pos (show w < (1 : Int32) from by
        refine Int32.lt_iff_toInt_lt.mpr ?_
        rw [show (1 : Int32).toInt = 1 by decide]; omega)]
    · unfold f_X7_feed
      rw [Option.bind_some, hin, if_neg (by omega), Option.bind_some, if_pos rfl]
  · have := big_toInt (n := 128) (by omega) e
    refine tape_same (a := -2) hT ?_ ?_
    · unfold f_X6_feed
      rw [if_neg (show ¬ w < (1 : Int32) from fun z => by
        have a := Int32.lt_iff_toInt_lt.mp z
        rw [show (1 : Int32).toInt = 1 by decide] at a; omega), if_neg (show ¬ w ≤ (127 : Int32) from fun z => by
        have a := Int32.le_iff_toInt_le.mp z
        rw [show (127 : Int32).toInt = 127 by decide] at a; omega)]
    · unfold f_X7_feed
      rw [Option.bind_some, hin, if_neg (by omega), Option.bind_some, if_pos rfl]
  · rw [nI_toInt (by omega)] at hin
    by_cases h0 : v = 0
    · subst h0
      refine tape_same (a := -2) hT ?_ ?_
      · unfold f_X6_feed; rw [if_pos (show nI 0 < (1 : Int32) by decide)]
      · unfold f_X7_feed; rw [Option.bind_some, hin, if_neg (by omega), Option.bind_some, if_pos rfl]
    · obtain ⟨n, t1, t2, t3, t4⟩ := hT
      have x1 : ¬ nI v < (1 : Int32) := nI_nlt (a := v) (b := 1) (by omega) (by omega)
      have x2 : nI v ≤ (127 : Int32) := nI_le (b := 127) (by omega) (by omega)
      have m22 : sc μ 12 0 22 0 = nI n := by rw [sc_ne (by omega)]; exact t3
      by_cases z : n = 40
      · refine tape_same (a := -4) ⟨n, t1, t2, t3, t4⟩ ?_ ?_
        · unfold f_X6_feed; rw [if_neg x1, if_pos x2, Option.bind_some, t2, if_neg (show ¬ nI n < (40 : Int32) from nI_nlt (b := 40) (by omega) (by omega))]
        · unfold f_X7_feed; rw [Option.bind_some, hin, if_pos (by omega), Option.bind_some, if_neg n10, Option.bind_some, m22, if_pos (show nI n = (40 : Int32) by rw [z]; rfl)]
      · refine ⟨nI (n + 1), sc (us σ 70 n (nI v)) 71 (nI (n + 1)), sc (us (sc μ 12 0) 21 n (nI v)) 22 (nI (n + 1)), ?_, ?_, ⟨n + 1, by omega, sc_at, sc_at, fun i hi => ?_⟩, fun k h1 h2 => by rw [sc_ne h2, us_ne h1], fun k h1 h2 h3 => by rw [sc_ne h3, us_ne h2, sc_ne h1], by rw [sc_ne (by omega), us_ne (by omega), sc_eq']⟩
        · unfold f_X6_feed f_X5_append_tape
          rw [if_neg x1, if_pos x2, Option.bind_some, t2, if_pos (show nI n < (40 : Int32) from nI_lt (b := 40) (by omega) (by omega)), Option.bind_some, row_put (by omega) (by omega), Option.bind_some, Option.bind_some, us_ne (by omega), t2, Option.bind_some, Option.bind_some, Option.bind_some, sc_at, show nI n + (1 : Int32) = nI (n + 1) from nI_1 n]
        · unfold f_X7_feed
          rw [Option.bind_some, hin, if_pos (by omega), Option.bind_some, if_neg n10, Option.bind_some, m22, if_neg (show ¬ nI n = (40 : Int32) from fun y => z ((nI_eq (b := 40) (by omega) (by omega)).mp y)), Option.bind_some, ast_nI (by omega) (by omega), Option.bind_some, Option.bind_some, us_ne (by omega), m22, Option.bind_some, Option.bind_some, sc_at, show nI n + (1 : Int32) = nI (n + 1) from nI_1 n]
        · rw [sc_ne (by omega), sc_ne (by omega)]
          by_cases y : i = n
          · subst y
            exact ⟨by rw [us_at, us_at], v, by omega, by omega, us_at⟩
          · obtain ⟨g1, u, g2, g3, g4⟩ := t4 i (by omega)
            exact ⟨by rw [us_off (Or.inr y), us_off (Or.inr y), sc_ne (by omega)]; exact g1, u, g2, g3, by rw [us_off (Or.inr y)]; exact g4⟩
theorem clear_both {σ μ : Mm} (hT : TapeR σ μ) : TapeStep σ μ (f_X6_clear σ) (f_X7_clear μ) := by
  obtain ⟨n, t1, t2, t3, t4⟩ := hT
  refine ⟨nI n, sc σ 71 0, sc (sc μ 12 0) 22 0, ?_, ?_, ⟨0, by omega, sc_at, sc_at, fun i hi => absurd hi (Nat.not_lt_zero _)⟩, fun k h1 h2 => sc_ne h2, fun k h1 h2 h3 => by rw [sc_ne h3, sc_ne h1], by rw [sc_ne (by omega), sc_eq']⟩
  · unfold f_X6_clear; rw [Option.bind_some, Option.bind_some, t2]
  · unfold f_X7_clear; rw [Option.bind_some, Option.bind_some, Option.bind_some, sc_ne (by omega), t3]
