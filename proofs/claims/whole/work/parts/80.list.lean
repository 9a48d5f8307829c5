/-! ===== list ===== -/
theorem x_hold {σ : Mm} {l n : Nat} (hl : l < 4) (hn : n ≤ 20) : ∃ τ, f_X3_hold σ (nI l) (nI n) = some τ ∧ (∀ k, k ≠ 74 → k ≠ 75 → τ k = σ k) ∧ τ 74 = upd (σ 74) l (nI n) ∧ (∀ i, i < n → τ 75 (20 * l + i) = 0) ∧ ∀ c, (c < 20 * l ∨ 20 * l + 20 ≤ c) → τ 75 c = σ 75 c := by
  unfold f_X3_hold
  rw [row_put (by omega) (by omega), Option.bind_some]
  refine wh2_inv n (fun k τ => (∀ z, z ≠ 75 → τ z = us σ 74 l (nI n) z) ∧ (∀ i, i < k → τ 75 (20 * l + i) = 0) ∧ ∀ c, (c < 20 * l ∨ 20 * l + 20 ≤ c) → τ 75 c = σ 75 c) (fun k => nI k) _ (fun k hk τ hI => ?_) (fun τ hI r => ?_) 5000 (by omega) _ ⟨fun _ _ => rfl, fun i hi => absurd hi (Nat.not_lt_zero _), fun c _ => by rw [us_ne (by omega)]⟩
  · obtain ⟨t0, t1, t2⟩ := hI
    refine ⟨us τ 75 (20 * l + k) 0, ⟨fun z hz => (us_ne hz).trans (t0 z hz), fun i hi => ?_, fun c hc => by rw [us_off (Or.inr (by omega))]; exact t2 c hc⟩, fun r => ?_⟩
    · by_cases e : i = k
      · rw [e, us_at]
      · rw [us_off (Or.inr (by omega))]; exact t1 i (by omega)
    · unfold f_X3_hold_s11 f_X3_putAt
      rw [if_neg (nI_ge hk (by omega)), e20, row_put (by omega) (by omega), Option.bind_some, Option.bind_some, show nI k + (1 : Int32) = nI (k + 1) from nI_1 k]
  · obtain ⟨t0, t1, t2⟩ := hI
    refine ⟨τ, ?_, fun k h1 h2 => by rw [t0 k h2, us_ne h1], by rw [t0 74 (by omega), us_eq], t1, t2⟩
    unfold f_X3_hold_s11
    rw [if_pos (nI_le (Nat.le_refl _) (by omega))]
theorem m_fill {μ : Mm} {l : Nat} (hl : l < 4) : ∃ o, wh2 (f_X7_list_s52 (nI l)) 5000 μ (0 : Int32) = some o ∧ o.1 = 1 ∧ (∀ k, k ≠ 27 → o.2 k = μ k) ∧ (∀ i, i < 20 → o.2 27 (20 * l + i) = 0) ∧ ∀ c, (c < 20 * l ∨ 20 * l + 20 ≤ c) → o.2 27 c = μ 27 c := by
  refine wh2_inv 20 (fun k τ => (∀ z, z ≠ 27 → τ z = μ z) ∧ (∀ i, i < k → τ 27 (20 * l + i) = 0) ∧ ∀ c, (c < 20 * l ∨ 20 * l + 20 ≤ c) → τ 27 c = μ 27 c) (fun k => nI k) _ (fun k hk τ hI => ?_) (fun τ hI r => ?_) 5000 (by omega) _ ⟨fun _ _ => rfl, fun i hi => absurd hi (Nat.not_lt_zero _), fun _ _ => rfl⟩
  · obtain ⟨t0, t1, t2⟩ := hI
    refine ⟨us τ 27 (20 * l + k) 0, ⟨fun z hz => (us_ne hz).trans (t0 z hz), fun i hi => ?_, fun c hc => by rw [us_off (Or.inr (by omega))]; exact t2 c hc⟩, fun r => ?_⟩
    · by_cases e : i = k
      · rw [e, us_at]
      · rw [us_off (Or.inr (by omega))]; exact t1 i (by omega)
    · unfold f_X7_list_s52
      rw [if_neg (show ¬ (20 : Int32) ≤ nI k from nI_ge (b := 20) hk (by omega)), m20, ast_nI (by omega) (by omega), Option.bind_some, show nI k + (1 : Int32) = nI (k + 1) from nI_1 k]
  · obtain ⟨t0, t1, t2⟩ := hI
    refine ⟨(1, τ), ?_, rfl, t0, t1, t2⟩
    unfold f_X7_list_s52
    rw [if_pos (show (20 : Int32) ≤ nI 20 by decide)]
theorem list_both {σ μ : Mm} (hL : ListR σ μ) (w v : Int32) : ListStep σ μ (f_X6_list σ w v) (f_X7_list μ w v) := by
  rcases isL w with ⟨l, hl, rfl, a1, a2⟩ | ⟨a1, a2⟩
  · rcases pk_ix v (n := 21) (by omega) with e | e | ⟨n, hn, rfl⟩
    · have h1 := neg_toInt e
      have y20 : v ≤ (20 : Int32) := by
        refine Int32.le_iff_toInt_le.mpr ?_
        rw [show (20 : Int32).toInt = 20 by decide]; omega
      have n0 : ¬ 0 ≤ v := by rw [Int32.not_le]; exact e
      refine list_same (a := -14) hL ?_ ?_
      · unfold f_X6_list; rw [a1, Option.bind_some, if_neg n10, if_pos y20, if_neg n0]
      · unfold f_X7_list f_X7_list_j24; rw [Option.bind_some, a2, Option.bind_some, if_neg n10, if_neg (show ¬ (20 : Int32) < v by rw [Int32.not_lt]; exact y20), if_neg n0, if_neg n0]
    · have h1 := big_toInt (n := 21) (by omega) e
      have y20 : ¬ v ≤ (20 : Int32) := fun z => by
        have a := Int32.le_iff_toInt_le.mp z
        rw [show (20 : Int32).toInt = 20 by decide] at a; omega
      have n0 : 0 ≤ v := by
        refine Int32.le_iff_toInt_le.mpr ?_
        rw [show (0 : Int32).toInt = 0 by decide]; omega
      refine list_same (a := -2) hL ?_ ?_
      · unfold f_X6_list; rw [a1, Option.bind_some, if_neg n10, if_neg y20]
      · unfold f_X7_list f_X7_list_j24; rw [Option.bind_some, a2, Option.bind_some, if_neg n10, if_pos (show (20 : Int32) < v by rw [← Int32.not_le]; exact y20), if_pos n0]
    · obtain ⟨τ, x1, x2, x3, x4, x5⟩ := x_hold (σ := σ) hl (show n ≤ 20 by omega)
      obtain ⟨⟨o1, o2⟩, m1, m2, m3, m4, m5⟩ := m_fill (μ := us (us (sc μ 12 0) 25 l 1) 26 l (nI n)) hl
      dsimp only at m2 m3 m4 m5
      refine ⟨1, τ, o2, ?_, ?_, fun k hk => ?_, x2, fun k h1 h2 h3 h4 => by rw [m3 k h4, us_ne h3, us_ne h2, sc_ne h1], by rw [m3 12 (by omega), us_ne (by omega), us_ne (by omega), sc_eq']⟩
      · unfold f_X6_list
        rw [a1, Option.bind_some, if_neg n10, if_pos (show nI n ≤ (20 : Int32) from nI_le (b := 20) (by omega) (by omega)), if_pos (nI_pos' (by omega)), x1, Option.bind_some]
      · unfold f_X7_list
        rw [Option.bind_some, a2, Option.bind_some, if_neg n10, if_neg (show ¬ (20 : Int32) < nI n from nI_nlt (a := 20) (by omega) (by omega)), if_pos (nI_pos' (by omega)), ast_nI (by omega) (by omega), Option.bind_some, ast_nI (by omega) (by omega), Option.bind_some, m1, m2]
      · by_cases z : k = l
        · subst z
          refine Or.inr ⟨n, by omega, by rw [x3]; exact upd_at, by rw [m3 25 (by omega), us_ne (by omega), us_at], by rw [m3 26 (by omega), us_at], fun i hi => by rw [x4 i hi, m4 i (by omega)]⟩
        · have q1 : τ 74 k = σ 74 k := by rw [x3]; exact upd_off z
          have q2 : o2 25 k = μ 25 k := by rw [m3 25 (by omega), us_ne (by omega), us_off (Or.inr z), sc_ne (by omega)]
          have q3 : o2 26 k = μ 26 k := by rw [m3 26 (by omega), us_off (Or.inr z), us_ne (by omega), sc_ne (by omega)]
          rw [q1, q2, q3]
          rcases hL k hk with ⟨e1, e2⟩ | ⟨m, hm, e1, e2, e3, e4⟩
          · exact Or.inl ⟨e1, e2⟩
          · refine Or.inr ⟨m, hm, e1, e2, e3, fun i hi => ?_⟩
            rw [x5 _ (by omega), m5 _ (by omega), us_ne (by omega), us_ne (by omega), sc_ne (by omega)]
            exact e4 i hi
  · refine list_same (a := -1) hL ?_ ?_
    · unfold f_X6_list; rw [a1, Option.bind_some, if_pos rfl]
    · unfold f_X7_list; rw [Option.bind_some, a2, Option.bind_some, if_pos rfl]
