/-! ===== pair, least, ways: the calls ===== -/
theorem b4_0 {σ b : Mm} (h : Bk σ b) (ok : BookOK b) : (σ 4 0 = (0 : Int32)) ↔ nO b = 0 := by
  have := ok.O1
  rw [h 4 (by omega), ok.O]
  exact nI_eq (b := 0) (by omega) (by omega)
theorem least_both {σ μ b : Mm} (h : Bk σ b) (hm : Bk μ b) (ok : BookOK b) (ht : TabOK b σ) (h0 : σ 64 0 = 0) : Both σ μ (f_X6_least σ) (f_X7_least μ) := by
  have hP := ok.P12
  have hS : nS b ≤ nP b := sK_len b (nP b)
  have hO := ok.O1
  have hm' : Bk (sc μ 12 0) b := hm.sc (by omega)
  have hw := m_wrongPairing hm' ok
  unfold f_X6_least f_X7_least
  rw [Option.bind_some, Option.bind_some, hw, Option.bind_some]
  by_cases z : nO b = 1
  · rw [if_pos z, if_neg (fun y => by have := (b4_0 h ok).mp y; omega), if_neg (by decide), Option.bind_some]
    exact Both.same h hm ok ht h0 rfl rfl
  · rw [if_neg z, if_pos ((b4_0 h ok).mpr (by omega)), x_countInside h ok, Option.bind_some]
    by_cases y : 2 ≤ nS b
    · rw [if_pos y, if_pos (show (2 : Int32) ≤ nI (nS b) from nI_le (a := 2) y (by omega)), if_pos (by decide)]
      obtain ⟨τ, a1, a2, a3⟩ := x_arrange h ok ht h0
      obtain ⟨ρ, c1, c2, c3⟩ := m_layBests hm' ok
      obtain ⟨x1, x2⟩ := x_full ok a2 a3 (nQ_pos y)
      obtain ⟨m1, m2, m3⟩ := m_full ok c2 c3
      rw [a1, Option.bind_some, x1, Option.bind_some, c1, Option.bind_some, Option.bind_some, m1, m2, Option.bind_some]
      have hr : (if c6 (val b (2 ^ nQ b - 1)).1 < (1000000 : Int32) then some (c6 (val b (2 ^ nQ b - 1)).1, ρ) else some ((-9 : Int32), ρ)) = some (c9 (val b (2 ^ nQ b - 1)).1, ρ) := by
        cases hv : (val b (2 ^ nQ b - 1)).1 with
        | none => rw [if_neg (by decide)]; rfl
        | some v =>
          have hpos : 1 ≤ 2 ^ nQ b := Nat.one_le_two_pow
          have := val_4848 ok (s := 2 ^ nQ b - 1) (by omega) hv
          rw [if_pos (show c6 (some v) < (1000000 : Int32) from nI_lt (a := v) (b := 1000000) (by omega) (by omega))]; rfl
      rw [hr]
      exact ⟨_, τ, ρ, b, rfl, rfl, fun k hk => by rw [a2.1 k (by omega)]; exact h k hk, fun k hk => by rw [c2.1 k (by omega)]; exact hm' k hk, ok, ht.cong (fun k _ _ => a2.1 k (by omega)), a2.2.2.2.2.1, arr_keep a2, plc_keep c2⟩
    · rw [if_neg y, if_neg (show ¬ (2 : Int32) ≤ nI (nS b) from nI_ge (b := 2) (by omega) (by omega)), if_neg (by decide), Option.bind_some]
      exact Both.same h hm ok ht h0 rfl rfl
theorem ways_both {σ μ b : Mm} (h : Bk σ b) (hm : Bk μ b) (ok : BookOK b) (ht : TabOK b σ) (h0 : σ 64 0 = 0) : Both σ μ (f_X6_ways σ) (f_X7_ways μ) := by
  have hP := ok.P12
  have hS : nS b ≤ nP b := sK_len b (nP b)
  have hO := ok.O1
  have hm' : Bk (sc μ 12 0) b := hm.sc (by omega)
  have hw := m_wrongPairing hm' ok
  unfold f_X6_ways f_X7_ways
  rw [Option.bind_some, Option.bind_some, hw, Option.bind_some]
  by_cases z : nO b = 1
  · rw [if_pos z, if_neg (fun y => by have := (b4_0 h ok).mp y; omega), if_neg (by decide), Option.bind_some]
    exact Both.same h hm ok ht h0 rfl rfl
  · rw [if_neg z, if_pos ((b4_0 h ok).mpr (by omega)), x_countInside h ok, Option.bind_some]
    by_cases y : 2 ≤ nS b
    · rw [if_pos y, if_pos (show (2 : Int32) ≤ nI (nS b) from nI_le (a := 2) y (by omega)), if_pos (by decide)]
      obtain ⟨τ, a1, a2, a3⟩ := x_arrange h ok ht h0
      obtain ⟨ρ, c1, c2, c3⟩ := m_layBests hm' ok
      obtain ⟨x1, x2⟩ := x_full ok a2 a3 (nQ_pos y)
      obtain ⟨m1, m2, m3⟩ := m_full ok c2 c3
      rw [a1, Option.bind_some, x2, Option.bind_some, c1, Option.bind_some, Option.bind_some, m1, m3, Option.bind_some]
      exact ⟨_, τ, ρ, b, rfl, rfl, fun k hk => by rw [a2.1 k (by omega)]; exact h k hk, fun k hk => by rw [c2.1 k (by omega)]; exact hm' k hk, ok, ht.cong (fun k _ _ => a2.1 k (by omega)), a2.2.2.2.2.1, arr_keep a2, plc_keep c2⟩
    · rw [if_neg y, if_neg (show ¬ (2 : Int32) ≤ nI (nS b) from nI_ge (b := 2) (by omega) (by omega)), if_neg (by decide), Option.bind_some]
      exact Both.same h hm ok ht h0 rfl rfl
theorem pair_both {σ μ b : Mm} (h : Bk σ b) (hm : Bk μ b) (ok : BookOK b) (ht : TabOK b σ) (h0 : σ 64 0 = 0) : Both σ μ (f_X6_pair σ) (f_X7_pair μ) := by
  have hP := ok.P12
  have hS : nS b ≤ nP b := sK_len b (nP b)
  have hO := ok.O1
  have h20 := ok.R20
  have hn : nQ b ≤ 12 := Nat.le_trans (nQ_le b) ok.P12
  have hm' : Bk (sc μ 12 0) b := hm.sc (by omega)
  have hw := m_wrongPairing hm' ok
  unfold f_X6_pair f_X7_pair
  rw [Option.bind_some, Option.bind_some, Option.bind_some, hw, Option.bind_some]
  by_cases z : nO b = 1
  · rw [if_pos z, if_neg (fun y => by have := (b4_0 h ok).mp y; omega), if_neg (by decide), Option.bind_some]
    exact Both.same h hm ok ht h0 rfl rfl
  · rw [if_neg z, if_pos ((b4_0 h ok).mpr (by omega)), x_countInside h ok, Option.bind_some]
    by_cases y : 2 ≤ nS b
    · rw [if_pos y, if_pos (show (2 : Int32) ≤ nI (nS b) from nI_le (a := 2) y (by omega)), if_pos (show (0 : Int32) ≤ 0 by decide), h 3 (by omega), hm' 3 (by omega), ok.R]
      by_cases w : nR b = 20
      · rw [if_neg (show ¬ nI (nR b) < (20 : Int32) from nI_nlt (b := 20) (by omega) (by omega)), Option.bind_some, if_pos (show nI (nR b) = (20 : Int32) by rw [w]; rfl)]
        exact Both.same h hm ok ht h0 rfl rfl
      · rw [if_pos (show nI (nR b) < (20 : Int32) from nI_lt (b := 20) (by omega) (by omega)), Option.bind_some, if_neg (show ¬ nI (nR b) = (20 : Int32) from fun u => w ((nI_eq (b := 20) (by omega) (by omega)).mp u))]
        obtain ⟨τ, a1, a2, a3⟩ := x_arrange h ok ht h0
        obtain ⟨ρ, c1, c2, c3⟩ := m_layBests hm' ok
        obtain ⟨x1, x2⟩ := x_full ok a2 a3 (nQ_pos y)
        obtain ⟨m1, m2, m3⟩ := m_full ok c2 c3
        have hbτ : Bk τ b := fun k hk => by rw [a2.1 k (by omega)]; exact h k hk
        have hbρ : Bk ρ b := fun k hk => by rw [c2.1 k (by omega)]; exact hm' k hk
        have htτ : TabOK b τ := ht.cong (fun k _ _ => a2.1 k (by omega))
        rw [a1, Option.bind_some, x1, Option.bind_some, c1, Option.bind_some, Option.bind_some, m1, m2, Option.bind_some]
        cases hv : (val b (2 ^ nQ b - 1)).1 with
        | none =>
          rw [if_pos (show c9 none = (-9 : Int32) from rfl), if_neg (show ¬ c6 none < (1000000 : Int32) by decide)]
          exact ⟨_, τ, ρ, b, rfl, rfl, hbτ, hbρ, ok, htτ, a2.2.2.2.2.1, arr_keep a2, plc_keep c2⟩
        | some v =>
          have hpos : 1 ≤ 2 ^ nQ b := Nat.one_le_two_pow
          have hvl := val_4848 ok (s := 2 ^ nQ b - 1) (by omega) hv
          have hvn : (val b (2 ^ nQ b - 1)).1 ≠ none := fun u => by rw [u] at hv; cases hv
          have hR : nR b < 20 := by omega
          obtain ⟨τ', d1, d2, d3⟩ := x_openRound hbτ ok htτ a2 hR hvn
          obtain ⟨⟨o1, o2⟩, e1, e2, e3, e4⟩ := m_pairLoop hbρ ok c2 c3 hR hvn
          dsimp only at e2 e3 e4
          rw [show c9 (some v) = nI v from rfl, if_neg (neg9 (by omega)), d1, Option.bind_some, Option.bind_some, show c6 (some v) = nI v from rfl, if_pos (show nI v < (1000000 : Int32) from nI_lt (b := 1000000) (by omega) (by omega)), Option.bind_some, hbρ 3 (by omega), ok.R, show ast 20 ρ 5 (nI (nR b)) (0 : Int32) = some (us ρ 5 (nR b) 0) from ast_nI (by omega) (by omega), Option.bind_some, Option.bind_some, us_ne (by omega), c2.2.2.2.1, ast_nI (by omega) (by omega), Option.bind_some, e1, d2 3 (by omega)]
          have n3 : newB b 3 0 = nI (nR b + 1) := by unfold newB; rw [sc_ne (by omega), sc_at]
          have n5 : newB b 5 (nR b) = nI (nQ b / 2) := by rw [newB_ne (by omega) (by omega)]; exact upd_at
          rw [n3, nI_pred, row_at (by omega) (by omega), Option.bind_some, d2 5 (by omega), n5, e2]
          have hO0 : nO b = 0 := by omega
          exact ⟨_, τ', o2, newB b, rfl, rfl, d2, e3, newB_ok ok hO0 hR hvn, (htτ.cong (fun k k1 _ => d3 k (by omega))).dn (newB_dn ok hO0) ok, by rw [d3 64 (by omega)]; exact a2.2.2.2.2.1, fun k hk => by rw [d3 k (by omega)]; exact arr_keep a2 k hk, fun k hk => by rw [e4 k (by omega)]; exact (plc_keep c2).1 k hk, by rw [e4 12 (by omega)]; exact (plc_keep c2).2⟩
    · rw [if_neg y, if_neg (show ¬ (2 : Int32) ≤ nI (nS b) from nI_ge (b := 2) (by omega) (by omega)), if_neg (by decide), Option.bind_some]
      exact Both.same h hm ok ht h0 rfl rfl
