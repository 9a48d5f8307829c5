/-! ===== set ===== -/
def ListStep (σ μ : Mm) (x y : Option (Int32 × Mm)) : Prop := ∃ a τ ρ, x = some (a, τ) ∧ y = some (a, ρ) ∧ ListR τ ρ ∧ (∀ k, k ≠ 74 → k ≠ 75 → τ k = σ k) ∧ (∀ k, k ≠ 12 → k ≠ 25 → k ≠ 26 → k ≠ 27 → ρ k = μ k) ∧ ρ 12 = fun _ => 0
theorem ListR.z {σ μ : Mm} (h : ListR σ μ) : ListR σ (sc μ 12 0) := by
  intro l hl
  rw [sc_ne (by omega), sc_ne (by omega), sc_ne (by omega)]
  exact h l hl
theorem list_same {σ μ : Mm} {x y : Option (Int32 × Mm)} {a : Int32} (h : ListR σ μ) (hx : x = some (a, σ)) (hy : y = some (a, sc μ 12 0)) : ListStep σ μ x y :=
  ⟨a, σ, sc μ 12 0, hx, hy, h.z, fun _ _ _ => rfl, fun k h1 _ _ _ => sc_ne h1, sc_eq'⟩
theorem ListR.put {σ μ : Mm} (h : ListR σ μ) (c : Nat) (u : Int32) : ListR (us σ 75 c u) (us μ 27 c u) := by
  intro l hl
  rw [us_ne (show 74 ≠ 75 by omega), us_ne (show 25 ≠ 27 by omega), us_ne (show 26 ≠ 27 by omega)]
  rcases h l hl with ⟨e1, e2⟩ | ⟨n, hn, e1, e2, e3, e4⟩
  · exact Or.inl ⟨e1, e2⟩
  · refine Or.inr ⟨n, hn, e1, e2, e3, fun i hi => ?_⟩
    by_cases z : 20 * l + i = c
    · rw [z, us_at, us_at]
    · rw [us_off (Or.inr z), us_off (Or.inr z)]; exact e4 i hi
theorem set_both {σ μ : Mm} (hL : ListR σ μ) (w v u : Int32) : ListStep σ μ (f_X6_set σ w v u) (f_X7_set μ w v u) := by
  rcases isL w with ⟨l, hl, rfl, a1, a2⟩ | ⟨a1, a2⟩
  · rcases hL l hl with ⟨e1, e2⟩ | ⟨n, hn, e1, e2, e3, e4⟩
    · refine list_same (a := -11) hL ?_ ?_
      · unfold f_X6_set; rw [x_refusal hl a1, if_pos e1, Option.bind_some, if_neg (by decide)]
      · unfold f_X7_set; rw [Option.bind_some, a2, Option.bind_some, if_neg n10, ald_nI (by omega) (by omega), Option.bind_some, sc_ne (by omega), e2, if_pos rfl]
        unfold f_X7_set_j21
        rw [a2, Option.bind_some, if_neg n10]
    · have hne : ¬ σ 74 l = -1 := by rw [e1]; exact neg1 (by omega)
      rcases rngN v n (by omega) with ⟨i, hi, rfl, c1⟩ | ⟨c0, c1⟩
      · refine ⟨1, us σ 75 (20 * l + i) u, us (sc μ 12 0) 27 (20 * l + i) u, ?_, ?_, hL.z.put _ _, fun k h1 h2 => us_ne h2, fun k h1 h2 h3 h4 => by rw [us_ne h4, sc_ne h1], by rw [us_ne (by omega), sc_eq']⟩
        · unfold f_X6_set f_X3_putAt
          rw [x_refusal hl a1, if_neg hne, Option.bind_some, if_pos rfl, x_hasPlace hl hn e1, if_neg (nI_pos (by omega)), if_neg (nI_ge hi (by omega)), Option.bind_some, if_neg n10, e20, row_put (by omega) (by omega), Option.bind_some, Option.bind_some]
        · unfold f_X7_set
          rw [Option.bind_some, a2, Option.bind_some, if_neg n10, ald_nI (by omega) (by omega), Option.bind_some, sc_ne (by omega), e2, if_neg n10, ald_nI (by omega) (by omega), Option.bind_some, sc_ne (by omega), e3, c1, Option.bind_some, if_neg n10, m20, ast_nI (by omega) (by omega), Option.bind_some]
      · refine list_same (a := -13) hL ?_ ?_
        · unfold f_X6_set
          rw [x_refusal hl a1, if_neg hne, Option.bind_some, if_pos rfl, x_hasPlace hl hn e1]
          rcases c0 with c0 | ⟨c2, c3⟩
          · rw [if_pos c0, Option.bind_some, if_pos rfl]
          · rw [if_neg c2, if_pos c3, Option.bind_some, if_pos rfl]
        · unfold f_X7_set
          rw [Option.bind_some, a2, Option.bind_some, if_neg n10, ald_nI (by omega) (by omega), Option.bind_some, sc_ne (by omega), e2, if_neg n10, ald_nI (by omega) (by omega), Option.bind_some, sc_ne (by omega), e3, c1, Option.bind_some, if_pos rfl]
  · refine list_same (a := -1) hL ?_ ?_
    · unfold f_X6_set f_X6_refusalOfList; rw [a1, Option.bind_some, if_pos rfl, Option.bind_some, if_neg (by decide)]
    · unfold f_X7_set; rw [Option.bind_some, a2, Option.bind_some, if_pos rfl]
      unfold f_X7_set_j21
      rw [a2, Option.bind_some, if_pos rfl]
