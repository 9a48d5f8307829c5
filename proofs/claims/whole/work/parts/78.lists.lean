/-! ===== the lists: what is held, set, get ===== -/
def ListR (σ μ : Mm) : Prop := ∀ l, l < 4 → (σ 74 l = -1 ∧ μ 25 l = 0) ∨ ∃ n, n ≤ 20 ∧ σ 74 l = nI n ∧ μ 25 l = 1 ∧ μ 26 l = nI n ∧ ∀ i, i < n → σ 75 (20 * l + i) = μ 27 (20 * l + i)
theorem isL (w : Int32) : (∃ l, l < 4 ∧ w = nI l ∧ f_X3_isList w = some 1 ∧ f_X7_isList w = some 1) ∨ (f_X3_isList w = some 0 ∧ f_X7_isList w = some 0) := by
  unfold f_X3_isList f_X7_isList
  rcases rng w 3 (3 : Int64) (by decide) (by omega) with ⟨l, hl, rfl, c1⟩ | ⟨c0, c1⟩
  · exact Or.inl ⟨l, by omega, rfl, by rw [if_neg (nI_pos (by omega)), if_neg (show ¬ (4 : Int32) ≤ nI l from nI_ge (b := 4) (by omega) (by omega))], by rw [c1, Option.bind_some]; rfl⟩
  · refine Or.inr ⟨?_, by rw [c1, Option.bind_some]; rfl⟩
    rcases c0 with c0 | ⟨c2, c3⟩
    · rw [if_pos c0]
    · rw [if_neg c2, if_pos (show (4 : Int32) ≤ w from c3)]
theorem e20 (x t : Nat) : (nI x * (20 : Int32)) + nI t = nI (20 * x + t) := by rw [show (20 : Int32) = nI 20 from rfl, pk_mul, nI_add, Nat.mul_comm]
theorem m20 (x t : Nat) : ((20 : Int32) * nI x) + nI t = nI (20 * x + t) := by rw [show (20 : Int32) = nI 20 from rfl, pk_mul, nI_add]
theorem x_refusal {σ : Mm} {l : Nat} (hl : l < 4) (h1 : f_X3_isList (nI l) = some 1) : f_X6_refusalOfList σ (nI l) = some (if σ 74 l = -1 then -11 else 0) := by
  unfold f_X6_refusalOfList f_X3_isHeld
  rw [h1, Option.bind_some, if_neg n10, row_at (by omega) (by omega), Option.bind_some]
  by_cases z : σ 74 l = -1
  · rw [if_pos z, if_pos z, Option.bind_some, if_pos rfl]
  · rw [if_neg z, if_neg z, Option.bind_some, if_neg n10]
theorem x_hasPlace {σ : Mm} {l n : Nat} (hl : l < 4) (hn : n ≤ 20) (h : σ 74 l = nI n) (w : Int32) : f_X3_hasPlace σ (nI l) w = if w < 0 then some 0 else if nI n ≤ w then some 0 else some 1 := by
  unfold f_X3_hasPlace
  rw [row_at (by omega) (by omega), Option.bind_some, h]
theorem get_both {σ μ : Mm} (hL : ListR σ μ) (w v : Int32) : ∃ a, f_X6_get σ w v = some a ∧ f_X7_get μ w v = some (a, sc μ 12 0) := by
  rcases isL w with ⟨l, hl, rfl, a1, a2⟩ | ⟨a1, a2⟩
  · rcases hL l hl with ⟨e1, e2⟩ | ⟨n, hn, e1, e2, e3, e4⟩
    · refine ⟨-2000000000, ?_, ?_⟩
      · unfold f_X6_get; rw [x_refusal hl a1, if_pos e1, Option.bind_some, if_neg (by decide)]
      · unfold f_X7_get; rw [Option.bind_some, a2, Option.bind_some, if_neg n10, ald_nI (by omega) (by omega), Option.bind_some, sc_ne (by omega), e2, if_pos rfl]
    · have hne : ¬ σ 74 l = -1 := by rw [e1]; exact neg1 (by omega)
      rcases rngN v n (by omega) with ⟨i, hi, rfl, c1⟩ | ⟨c0, c1⟩
      · refine ⟨σ 75 (20 * l + i), ?_, ?_⟩
        · unfold f_X6_get f_X3_valueAt
          rw [x_refusal hl a1, if_neg hne, Option.bind_some, if_pos rfl, x_hasPlace hl hn e1, if_neg (nI_pos (by omega)), if_neg (nI_ge hi (by omega)), Option.bind_some, if_neg n10, e20, row_at (by omega) (by omega), Option.bind_some, Option.bind_some]
        · unfold f_X7_get
          rw [Option.bind_some, a2, Option.bind_some, if_neg n10, ald_nI (by omega) (by omega), Option.bind_some, sc_ne (by omega), e2, if_neg n10, ald_nI (by omega) (by omega), Option.bind_some, sc_ne (by omega), e3, c1, Option.bind_some, if_neg n10, m20, ald_nI (by omega) (by omega), Option.bind_some, sc_ne (by omega), e4 i hi]
      · refine ⟨-2000000000, ?_, ?_⟩
        · unfold f_X6_get
          rw [x_refusal hl a1, if_neg hne, Option.bind_some, if_pos rfl, x_hasPlace hl hn e1]
          rcases c0 with c0 | ⟨c2, c3⟩
          · rw [if_pos c0, Option.bind_some, if_pos rfl]
          · rw [if_neg c2, if_pos c3, Option.bind_some, if_pos rfl]
        · unfold f_X7_get
          rw [Option.bind_some, a2, Option.bind_some, if_neg n10, ald_nI (by omega) (by omega), Option.bind_some, sc_ne (by omega), e2, if_neg n10, ald_nI (by omega) (by omega), Option.bind_some, sc_ne (by omega), e3, c1, Option.bind_some, if_pos rfl]
  · refine ⟨-2000000000, ?_, ?_⟩
    · unfold f_X6_get f_X6_refusalOfList; rw [a1, Option.bind_some, if_pos rfl, Option.bind_some, if_neg (by decide)]
    · unfold f_X7_get; rw [Option.bind_some, a2, Option.bind_some, if_pos rfl]
