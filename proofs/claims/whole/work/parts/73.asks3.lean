/-! ===== alike, colours, board, bye ===== -/
theorem isRd {σ b : Mm} (h : Bk σ b) (ok : BookOK b) (w : Int32) : (∃ r, r < nR b ∧ w = nI r ∧ f_X6_isRound σ w = some 1 ∧ f_X7_in w.toInt64 (0 : Int64) (nI (nR b) - (1 : Int32)).toInt64 = some 1) ∨ (f_X6_isRound σ w = some 0 ∧ f_X7_in w.toInt64 (0 : Int64) (nI (nR b) - (1 : Int32)).toInt64 = some 0) := by
  have h20 := ok.R20
  have hx : f_X6_isRound σ w = if w < 0 then some 0 else if nI (nR b) ≤ w then some 0 else some 1 := by
    unfold f_X6_isRound
    rw [h 3 (by omega), ok.R]
  rcases rngN w (nR b) (by omega) with ⟨r, hr, rfl, a1⟩ | ⟨a0, a1⟩
  · exact Or.inl ⟨r, hr, rfl, by rw [hx, if_neg (nI_pos (by omega)), if_neg (nI_ge hr (by omega))], a1⟩
  · refine Or.inr ⟨?_, a1⟩
    rcases a0 with a0 | ⟨a2, a3⟩
    · rw [hx, if_pos a0]
    · rw [hx, if_neg a2, if_pos a3]
theorem bye_both {σ μ b : Mm} (h : Bk σ b) (hm : Bk μ b) (ok : BookOK b) (ht : TabOK b σ) (h0 : σ 64 0 = 0) (w : Int32) : Both σ μ (Ask σ (f_X6_bye σ w)) (f_X7_bye μ w) := by
  have h20 := ok.R20
  have hm' : Bk (sc μ 12 0) b := hm.sc (by omega)
  rcases isRd h ok w with ⟨r, hr, rfl, a1, a2⟩ | ⟨a1, a2⟩
  · refine Both.ask (a := b 6 r) (ρ := sc μ 12 0) h hm ok ht h0 ?_ ?_ (fun _ _ => rfl)
    · unfold f_X6_bye; rw [a1, Option.bind_some, if_neg n10, row_at (by omega) (by omega), Option.bind_some, h 6 (by omega)]
    · unfold f_X7_bye; rw [Option.bind_some, Option.bind_some, hm' 3 (by omega), ok.R, a2, Option.bind_some, if_neg n10, ald_nI (by omega) (by omega), Option.bind_some, hm' 6 (by omega)]
  · refine Both.ask (a := -1) (ρ := sc μ 12 0) h hm ok ht h0 ?_ ?_ (fun _ _ => rfl)
    · unfold f_X6_bye; rw [a1, Option.bind_some, if_pos rfl]
    · unfold f_X7_bye; rw [Option.bind_some, Option.bind_some, hm' 3 (by omega), ok.R, a2, Option.bind_some, if_pos rfl]
theorem board_both {σ μ b : Mm} (h : Bk σ b) (hm : Bk μ b) (ok : BookOK b) (ht : TabOK b σ) (h0 : σ 64 0 = 0) (w v u : Int32) : Both σ μ (Ask σ (f_X6_board σ w v u)) (f_X7_board μ w v u) := by
  have h20 := ok.R20
  have hm' : Bk (sc μ 12 0) b := hm.sc (by omega)
  have m6 : ∀ x y : Nat, ((6 : Int32) * nI x) + nI y = nI (6 * x + y) := fun x y => by rw [show (6 : Int32) = nI 6 from rfl, pk_mul, nI_add]
  have fin : ∀ {x : Option Int32} {y : Option (Int32 × Mm)} (a : Int32), x = some a → y = some (a, sc μ 12 0) → Both σ μ (Ask σ x) y := fun a hx hy => Both.ask h hm ok ht h0 hx hy (fun _ _ => rfl)
  rcases isRd h ok w with ⟨r, hr, rfl, a1, a2⟩ | ⟨a1, a2⟩
  · have hb6 := ok.B6 hr
    have hx0 : f_X6_board σ (nI r) v u = if v < 0 then some (-1) else if v < nI (nB b r) then (f_X0_boardCell (nI r) v).bind fun x3 => if u = 0 then (f_X2_at 120 7 σ x3).bind fun x4 => some x4 else if u = 1 then (f_X2_at 120 8 σ x3).bind fun x5 => some x5 else if u = 2 then (f_X2_at 120 9 σ x3).bind fun x6 => some x6 else some (-1) else some (-1) := by
      unfold f_X6_board
      rw [a1, Option.bind_some, if_neg n10, row_at (by omega) (by omega), Option.bind_some, h 5 (by omega), ok.B hr]
    rcases rng u 2 (2 : Int64) (by decide) (by omega) with ⟨n, hn, rfl, c1⟩ | ⟨c0, c1⟩
    · rcases rngN v (nB b r) (by omega) with ⟨d, hd, rfl, e1⟩ | ⟨e0, e1⟩
      · have hx1 : f_X6_board σ (nI r) (nI d) (nI n) = some (if n = 0 then b 7 (6 * r + d) else if n = 1 then b 8 (6 * r + d) else b 9 (6 * r + d)) := by
          rw [hx0, if_neg (nI_pos (by omega)), if_pos (nI_lt hd (by omega)), x_boardCell, Option.bind_some]
          have hc : n = 0 ∨ n = 1 ∨ n = 2 := by omega
          rcases hc with e | e | e <;> subst e
          · rw [if_pos (show nI 0 = (0 : Int32) from rfl), row_at (by omega) (by omega), h 7 (by omega)]; rfl
          · rw [if_neg (show ¬ nI 1 = (0 : Int32) by decide), if_pos (show nI 1 = (1 : Int32) from rfl), row_at (by omega) (by omega), h 8 (by omega)]; rfl
          · rw [if_neg (show ¬ nI 2 = (0 : Int32) by decide), if_neg (show ¬ nI 2 = (1 : Int32) by decide), if_pos (show nI 2 = (2 : Int32) from rfl), row_at (by omega) (by omega), h 9 (by omega)]; rfl
        refine fin _ hx1 ?_
        unfold f_X7_board
        rw [Option.bind_some, Option.bind_some, hm' 3 (by omega), ok.R, a2, Option.bind_some, if_neg n10, c1, Option.bind_some, if_neg n10, ald_nI (by omega) (by omega), Option.bind_some, hm' 5 (by omega), ok.B hr, e1, Option.bind_some, if_neg n10, m6]
        have hc : n = 0 ∨ n = 1 ∨ n = 2 := by omega
        rcases hc with e | e | e <;> subst e
        · rw [if_pos (show nI 0 = (0 : Int32) from rfl), ald_nI (by omega) (by omega), hm' 7 (by omega)]; rfl
        · rw [if_neg (show ¬ nI 1 = (0 : Int32) by decide), if_pos (show nI 1 = (1 : Int32) from rfl), ald_nI (by omega) (by omega), hm' 8 (by omega)]; rfl
        · rw [if_neg (show ¬ nI 2 = (0 : Int32) by decide), if_neg (show ¬ nI 2 = (1 : Int32) by decide), ald_nI (by omega) (by omega), hm' 9 (by omega)]; rfl
      · refine fin (-1) ?_ ?_
        · rw [hx0]
          rcases e0 with e0 | ⟨e2, e3⟩
          · rw [if_pos e0]
          · rw [if_neg e2, if_neg (nlt_of_le e3)]
        · unfold f_X7_board
          rw [Option.bind_some, Option.bind_some, hm' 3 (by omega), ok.R, a2, Option.bind_some, if_neg n10, c1, Option.bind_some, if_neg n10, ald_nI (by omega) (by omega), Option.bind_some, hm' 5 (by omega), ok.B hr, e1, Option.bind_some, if_pos rfl]
    · refine fin (-1) ?_ ?_
      · rw [hx0]
        by_cases z : v < 0
        · rw [if_pos z]
        · rw [if_neg z]
          by_cases y : v < nI (nB b r)
          · rw [if_pos y]
            unfold f_X0_boardCell
            rw [Option.bind_some, if_neg (show ¬ u = (0 : Int32) from out_ne (by omega) c0 (n := 0) (by omega)), if_neg (show ¬ u = (1 : Int32) from out_ne (by omega) c0 (n := 1) (by omega)), if_neg (show ¬ u = (2 : Int32) from out_ne (by omega) c0 (n := 2) (by omega))]
          · rw [if_neg y]
      · unfold f_X7_board
        rw [Option.bind_some, Option.bind_some, hm' 3 (by omega), ok.R, a2, Option.bind_some, if_neg n10, c1, Option.bind_some, if_pos rfl]
  · refine fin (-1) ?_ ?_
    · unfold f_X6_board; rw [a1, Option.bind_some, if_pos rfl]
    · unfold f_X7_board; rw [Option.bind_some, Option.bind_some, hm' 3 (by omega), ok.R, a2, Option.bind_some, if_pos rfl]
theorem alike_both {σ μ b : Mm} (h : Bk σ b) (hm : Bk μ b) (ok : BookOK b) (ht : TabOK b σ) (h0 : σ 64 0 = 0) (w : Int32) : Both σ μ (Ask σ (f_X6_alike σ w)) (f_X7_alike μ w) := by
  have hP := ok.P12
  have hm' : Bk (sc μ 12 0) b := hm.sc (by omega)
  rcases isPl h hm' ok w with ⟨p, hp, rfl, a1, a2⟩ | ⟨a1, a2⟩
  · have hs := stN_lt hp
    have hpt := fun q => pts_le ok q
    refine Both.ask (a := nI (sm (fun q => if pts b q = pts b (stN b p) then 1 else 0) (nP b))) (ρ := LSt (sc μ 12 0) b) h hm ok ht h0 ?_ ?_ (fun k hk => LSt_ne (by omega) (by omega))
    · unfold f_X6_alike
      rw [a1, Option.bind_some, if_neg n10, row_at (by omega) (by omega), Option.bind_some, ht.2 p hp, show (0 : Int32) = nI 0 from rfl, x_tieOf (by omega) (by omega), Option.bind_some, (ht.1 _ hs).1 0 (by omega)]
      refine wh2_seq (nP b) (fun k => nI (sm (fun q => if pts b q = pts b (stN b p) then 1 else 0) k)) (fun k => nI k) _ (fun k hk r => ?_) (fun r => ?_) 5000 (by omega)
      · have q1 := hpt k
        have q2 := hpt (stN b p)
        unfold f_X6_alike_s35
        rw [h 0 (by omega), ok.P, if_neg (nI_ge hk (by omega)), show (0 : Int32) = nI 0 from rfl, x_tieOf (by omega) (by omega), Option.bind_some, (ht.1 k hk).1 0 (by omega), show nI k + (1 : Int32) = nI (k + 1) from nI_1 k, sm_succ]
        by_cases z : pts b k = pts b (stN b p)
        · rw [if_pos (show nI (tieN b k 0) = nI (tieN b (stN b p) 0) from congrArg nI z), if_pos z, nI_1]
        · rw [if_neg (show ¬ nI (tieN b k 0) = nI (tieN b (stN b p) 0) from nI_ne (n := pts b k) (m := pts b (stN b p)) (by omega) (by omega) z), if_neg z]; rfl
      · unfold f_X6_alike_s35
        rw [h 0 (by omega), ok.P, if_pos (nI_le (Nat.le_refl _) (by omega))]
    · have hb := LSt_bk hm'
      unfold f_X7_alike
      rw [Option.bind_some, a2, Option.bind_some, if_neg n10, m_layStanding hm' ok, Option.bind_some]
      refine wh3_seq (nP b) (fun _ => LSt (sc μ 12 0) b) (fun k => nI (sm (fun q => if pts b q = pts b (stN b p) then 1 else 0) k)) (fun k => nI k) _ (fun k hk r => ?_) (fun r => ?_) 5000 (by omega)
      · have q1 := hpt k
        have q2 := hpt (stN b p)
        unfold f_X7_alike_s23
        rw [Option.bind_some, hb 0 (by omega), ok.P, if_neg (nI_ge hk (by omega)), m_pointsOf hb ok hk, Option.bind_some, ald_nI (by omega) (by omega), Option.bind_some, LSt_st hp, m_pointsOf hb ok hs, Option.bind_some, show nI k + (1 : Int32) = nI (k + 1) from nI_1 k, sm_succ]
        by_cases z : pts b k = pts b (stN b p)
        · rw [if_pos (congrArg nI z), if_pos z, nI_1]
        · rw [if_neg (nI_ne (by omega) (by omega) z), if_neg z, Int32.add_zero]; rfl
      · unfold f_X7_alike_s23
        rw [Option.bind_some, hb 0 (by omega), ok.P, if_pos (nI_le (Nat.le_refl _) (by omega))]
  · refine Both.ask (a := -1) (ρ := sc μ 12 0) h hm ok ht h0 ?_ ?_ (fun _ _ => rfl)
    · unfold f_X6_alike; rw [a1, Option.bind_some, if_pos rfl]
    · unfold f_X7_alike; rw [Option.bind_some, a2, Option.bind_some, if_pos rfl]
