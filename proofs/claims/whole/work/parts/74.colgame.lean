/-! ===== colours, game ===== -/
def cI (b : Mm) (n q : Nat) : Nat := if n = 0 then (if balI b q ≤ 0 then 0 else 1) else if n = 1 then (if 0 ≤ balI b q then 0 else 1) else (if 1 < balI b q then 1 else if -1 ≤ balI b q then 0 else 1)
theorem x_isBalance {b : Mm} {n q : Nat} (hn : n ≤ 2) : f_X6_isBalance (balI b q) (nI n) = some (nI (cI b n q)) := by
  unfold f_X6_isBalance f_X6_isBalance_j39 cI
  have hc : n = 0 ∨ n = 1 ∨ n = 2 := by omega
  rcases hc with e | e | e <;> subst e
  · rw [if_pos (show nI 0 = (0 : Int32) from rfl), if_pos rfl]; split <;> rfl
  · rw [if_neg (show ¬ nI 1 = (0 : Int32) by decide), if_pos (show nI 1 = (1 : Int32) from rfl), if_neg (show ¬ (1 : Nat) = 0 by decide), if_pos (show (1 : Nat) = 1 from rfl)]; split <;> rfl
  · rw [if_neg (show ¬ nI 2 = (0 : Int32) by decide), if_neg (show ¬ nI 2 = (1 : Int32) by decide), if_neg (show ¬ (2 : Nat) = 0 by decide), if_neg (show ¬ (2 : Nat) = 1 by decide)]
    split
    · rfl
    · split <;> rfl
theorem cI_le (b : Mm) (n q : Nat) : cI b n q ≤ 1 := by unfold cI; (repeat' split) <;> omega
theorem colours_both {σ μ b : Mm} (h : Bk σ b) (hm : Bk μ b) (ok : BookOK b) (ht : TabOK b σ) (h0 : σ 64 0 = 0) (w : Int32) : Both σ μ (Ask σ (f_X6_colours σ w)) (f_X7_colours μ w) := by
  have hP := ok.P12
  have hm' : Bk (sc μ 12 0) b := hm.sc (by omega)
  rcases rng w 2 (2 : Int64) (by decide) (by omega) with ⟨n, hn, rfl, c1⟩ | ⟨c0, c1⟩
  · refine Both.ask (a := nI (sm (cI b n) (nP b))) (ρ := sc μ 12 0) h hm ok ht h0 ?_ ?_ (fun _ _ => rfl)
    · unfold f_X6_colours
      rw [if_neg (nI_pos (by omega)), if_pos (show nI n ≤ (2 : Int32) from nI_le (b := 2) hn (by omega))]
      refine wh2_seq (nP b) (fun k => nI (sm (cI b n) k)) (fun k => nI k) _ (fun k hk r => ?_) (fun r => ?_) 5000 (by omega)
      · have hl := cI_le b n k
        unfold f_X6_colours_s15
        rw [h 0 (by omega), ok.P, if_neg (nI_ge hk (by omega)), row_at (by omega) (by omega), Option.bind_some, (ht.1 k hk).2.2.1, x_isBalance hn, Option.bind_some, show nI k + (1 : Int32) = nI (k + 1) from nI_1 k, sm_succ]
        by_cases z : cI b n k = 0
        · rw [z, if_pos (show nI 0 = (0 : Int32) from rfl)]; rfl
        · rw [show cI b n k = 1 by omega, if_neg (show ¬ nI 1 = (0 : Int32) by decide), nI_1]
      · unfold f_X6_colours_s15
        rw [h 0 (by omega), ok.P, if_pos (nI_le (Nat.le_refl _) (by omega))]
    · unfold f_X7_colours
      rw [Option.bind_some, c1, Option.bind_some, if_neg n10]
      refine wh3_seq (nP b) (fun _ => sc μ 12 0) (fun k => nI (sm (cI b n) k)) (fun k => nI k) _ (fun k hk r => ?_) (fun r => ?_) 5000 (by omega)
      · unfold f_X7_colours_s23 f_X7_colours_j48 f_X7_colours_j58 f_X7_colours_j75
        rw [Option.bind_some, hm' 0 (by omega), ok.P, if_neg (nI_ge hk (by omega)), m_balanceOf hm' ok hk, Option.bind_some, show nI k + (1 : Int32) = nI (k + 1) from nI_1 k, sm_succ, Int32.add_zero, show nI (sm (cI b n) k) + (1 : Int32) = nI (sm (cI b n) k + 1) from nI_1 _]
        unfold cI
        have hc : n = 0 ∨ n = 1 ∨ n = 2 := by omega
        rcases hc with e | e | e <;> subst e
        · rw [if_pos (show nI 0 = (0 : Int32) from rfl), if_neg (show ¬ nI 0 = (1 : Int32) by decide), if_neg (show ¬ nI 0 = (2 : Int32) by decide), if_pos rfl]
          by_cases z : balI b k ≤ 0
          · rw [if_pos z, if_neg (show ¬ 0 < balI b k by rw [Int32.not_lt]; exact z)]; rfl
          · rw [if_neg z, if_pos (show 0 < balI b k by rw [← Int32.not_le]; exact z)]
        · rw [if_neg (show ¬ nI 1 = (0 : Int32) by decide), if_pos (show nI 1 = (1 : Int32) from rfl), if_neg (show ¬ nI 1 = (2 : Int32) by decide), if_neg (show ¬ (1 : Nat) = 0 by decide), if_pos rfl]
          by_cases z : 0 ≤ balI b k
          · rw [if_pos z, if_neg (show ¬ balI b k < 0 by rw [Int32.not_lt]; exact z)]; rfl
          · rw [if_neg z, if_pos (show balI b k < 0 by rw [← Int32.not_le]; exact z)]
        · rw [if_neg (show ¬ nI 2 = (0 : Int32) by decide), if_neg (show ¬ nI 2 = (1 : Int32) by decide), if_pos (show nI 2 = (2 : Int32) from rfl), if_neg (show ¬ (2 : Nat) = 0 by decide), if_neg (show ¬ (2 : Nat) = 1 by decide)]
          by_cases z : 1 < balI b k
          · rw [if_pos z, if_pos z]
          · rw [if_neg z, if_neg z]
            by_cases y : -1 ≤ balI b k
            · rw [if_pos y, if_pos y]; rfl
            · rw [if_neg y, if_neg y]
      · unfold f_X7_colours_s23
        rw [Option.bind_some, hm' 0 (by omega), ok.P, if_pos (nI_le (Nat.le_refl _) (by omega))]
  · refine Both.ask (a := -1) (ρ := sc μ 12 0) h hm ok ht h0 ?_ ?_ (fun _ _ => rfl)
    · unfold f_X6_colours
      rcases c0 with c0 | ⟨c2, c3⟩
      · rw [if_pos c0]
      · rw [if_neg c2, if_neg (show ¬ w ≤ (2 : Int32) from fun z => by
          have a := Int32.le_iff_toInt_le.mp z
          have c := big_toInt (n := 2 + 1) (by omega) c3
          have e : (2 : Int32).toInt = 2 := by decide
          rw [e] at a
          omega)]
    · unfold f_X7_colours; rw [Option.bind_some, c1, Option.bind_some, if_pos rfl]
def d5 (r : Nat) : Option Nat → Int32
  | none => -5
  | some c => nI (c - 6 * r)
theorem x_boardWith {σ b : Mm} (h : Bk σ b) (ok : BookOK b) {p r : Nat} (hp : p < nP b) (hr : r < nR b) : f_X0_boardWith σ (nI r) (nI p) = some (d5 r (brd b p r)) := by
  have hP := ok.P12
  have h20 := ok.R20
  have hb6 := ok.B6 hr
  have step : ∀ k, k < nB b r → ∀ q : Int32 → Option Int32, f_X0_boardWith_s2 σ (nI r) (nI p) q (nI k) = if wN b (6 * r + k) = p ∨ kN b (6 * r + k) = p then some (nI k) else q (nI (k + 1)) := by
    intro k hk q
    have w1 := ok.WP hr hk
    have k1 := ok.KP hr hk
    unfold f_X0_boardWith_s2
    rw [row_at (by omega) (by omega), Option.bind_some, h 5 (by omega), ok.B hr, if_neg (nI_ge hk (by omega)), x_boardCell, Option.bind_some, row_at (by omega) (by omega), Option.bind_some, h 7 (by omega), ok.W hr hk, row_at (by omega) (by omega), Option.bind_some, h 8 (by omega), ok.K hr hk, show nI k + (1 : Int32) = nI (k + 1) from nI_1 k]
    by_cases z : wN b (6 * r + k) = p
    · rw [if_pos (congrArg nI z), if_pos (Or.inl z)]
    · rw [if_neg (nI_ne (by omega) (by omega) z)]
      by_cases y : kN b (6 * r + k) = p
      · rw [if_pos (congrArg nI y), if_pos (Or.inr y)]
      · rw [if_neg (nI_ne (by omega) (by omega) y), if_neg (fun u => u.elim z y)]
  unfold f_X0_boardWith
  cases hb : brd b p r with
  | none =>
    have hno := brd_none hb
    refine wh1_seq (nB b r) (fun k => nI k) _ (fun k hk q => ?_) (fun q => ?_) 5000 (by omega)
    · rw [step k hk, if_neg (fun u => u.elim (hno k hk).1 (hno k hk).2)]
    · unfold f_X0_boardWith_s2
      rw [row_at (by omega) (by omega), Option.bind_some, h 5 (by omega), ok.B hr, if_pos (nI_le (Nat.le_refl _) (by omega))]
      rfl
  | some c =>
    obtain ⟨d, hd, rfl, hon⟩ := brd_some hb
    refine wh1_seq d (fun k => nI k) _ (fun k hk q => ?_) (fun q => ?_) 5000 (by omega)
    · rw [step k (by omega), if_neg (fun u => by
        have e := brd_one ok hr (show k < nB b r by omega) u
        rw [hb] at e
        have := Option.some.inj e
        omega)]
    · rw [step d hd, if_pos hon]
      show some (nI d) = some (nI (6 * r + d - 6 * r))
      rw [show 6 * r + d - 6 * r = d by omega]
theorem game_both {σ μ b : Mm} (h : Bk σ b) (hm : Bk μ b) (ok : BookOK b) (ht : TabOK b σ) (h0 : σ 64 0 = 0) (w v u : Int32) : Both σ μ (Ask σ (f_X6_game σ w v u)) (f_X7_game μ w v u) := by
  have hP := ok.P12
  have h20 := ok.R20
  have hD := ok.D20
  have hm' : Bk (sc μ 12 0) b := hm.sc (by omega)
  have fin : ∀ {x : Option Int32} {y : Option (Int32 × Mm)} (a : Int32), x = some a → y = some (a, sc μ 12 0) → Both σ μ (Ask σ x) y := fun a hx hy => Both.ask h hm ok ht h0 hx hy (fun _ _ => rfl)
  rcases isPl h hm' ok w with ⟨p, hp, rfl, a1, a2⟩ | ⟨a1, a2⟩
  · rcases isRd h ok v with ⟨r, hr, rfl, b1, b2⟩ | ⟨b1, b2⟩
    · rcases rng u 2 (2 : Int64) (by decide) (by omega) with ⟨n, hn, rfl, c1⟩ | ⟨c0, c1⟩
      · have hx0 : ∀ a, (if nI n = 0 then if 0 ≤ d5 r (brd b p r) then (f_X0_otherAt σ (nI r) (d5 r (brd b p r)) (nI p)).bind fun x4 => some x4 else some (-5) else if nI n = 1 then if 0 ≤ d5 r (brd b p r) then (f_X0_colourAt σ (nI r) (d5 r (brd b p r)) (nI p)).bind fun x5 => some x5 else some (-5) else if nI n = 2 then if nI (nD b) ≤ nI r then some (-5) else (f_X6_pointsMade σ (nI p) (nI r) (d5 r (brd b p r))).bind fun x7 => some x7 else some (-1)) = some a → f_X6_game σ (nI p) (nI r) (nI n) = some a := by
          intro a ha
          unfold f_X6_game
          rw [a1, Option.bind_some, if_neg n10, b1, Option.bind_some, if_neg n10, x_boardWith h ok hp hr, Option.bind_some, x_countDone h ok, Option.bind_some]
          exact ha
        have hy0 : ∀ z, (if nI n = 2 then if nI r < nI (nD b) then some (nI (mi b p r), sc μ 12 0) else some (-5, sc μ 12 0) else if 0 ≤ oI (brd b p r) then if nI n = 0 then (f_X7_otherOn (sc μ 12 0) (oI (brd b p r)) (nI p)).bind fun x7 => some (x7, sc μ 12 0) else (ald 120 (sc μ 12 0 7) (oI (brd b p r))).bind fun x6 => if x6 = nI p then some (0, sc μ 12 0) else some (1, sc μ 12 0) else some (-5, sc μ 12 0)) = some z → f_X7_game μ (nI p) (nI r) (nI n) = some z := by
          intro z hz
          unfold f_X7_game
          rw [Option.bind_some, a2, Option.bind_some, if_neg n10, Option.bind_some, hm' 3 (by omega), ok.R, b2, Option.bind_some, if_neg n10, c1, Option.bind_some, if_neg n10, m_boardOf hm' ok hp hr, Option.bind_some, m_done hm' ok, Option.bind_some, m_madeIn hm' ok hp hr, Option.bind_some]
          exact hz
        have hc : n = 0 ∨ n = 1 ∨ n = 2 := by omega
        rcases hc with e | e | e <;> subst e
        · cases hb : brd b p r with
          | none => exact fin (-5) (hx0 _ (by rw [if_pos (show nI 0 = (0 : Int32) from rfl), hb]; rfl)) (hy0 _ (by rw [if_neg (show ¬ nI 0 = (2 : Int32) by decide), hb]; rfl))
          | some c =>
            obtain ⟨d, hd, rfl, hon⟩ := brd_some hb
            have hb6 := ok.B6 hr
            have e5 : d5 r (some (6 * r + d)) = nI d := congrArg nI (by omega)
            refine fin (nI (opp b p (6 * r + d))) (hx0 _ ?_) (hy0 _ ?_)
            · rw [if_pos (show nI 0 = (0 : Int32) from rfl), hb, e5, if_pos (nI_pos' (by omega)), x_otherAt h ok hr hd hp]; rfl
            · rw [if_neg (show ¬ nI 0 = (2 : Int32) by decide), hb, show oI (some (6 * r + d)) = nI (6 * r + d) from rfl, if_pos (nI_pos' (by omega)), if_pos (show nI 0 = (0 : Int32) from rfl), m_otherOn hm' ok hr hp hb]; rfl
        · cases hb : brd b p r with
          | none => exact fin (-5) (hx0 _ (by rw [if_neg (show ¬ nI 1 = (0 : Int32) by decide), if_pos (show nI 1 = (1 : Int32) from rfl), hb]; rfl)) (hy0 _ (by rw [if_neg (show ¬ nI 1 = (2 : Int32) by decide), hb]; rfl))
          | some c =>
            obtain ⟨d, hd, rfl, hon⟩ := brd_some hb
            have hb6 := ok.B6 hr
            have w1 := ok.WP hr hd
            have e5 : d5 r (some (6 * r + d)) = nI d := congrArg nI (by omega)
            refine fin (if wN b (6 * r + d) = p then 0 else 1) (hx0 _ ?_) (hy0 _ ?_)
            · rw [if_neg (show ¬ nI 1 = (0 : Int32) by decide), if_pos (show nI 1 = (1 : Int32) from rfl), hb, e5, if_pos (nI_pos' (by omega)), x_colourAt h ok hr hd hp]; rfl
            · rw [if_neg (show ¬ nI 1 = (2 : Int32) by decide), hb, show oI (some (6 * r + d)) = nI (6 * r + d) from rfl, if_pos (nI_pos' (by omega)), if_neg (show ¬ nI 1 = (0 : Int32) by decide), ald_nI (by omega) (by omega), Option.bind_some, hm' 7 (by omega), ok.W hr hd]
              by_cases z : wN b (6 * r + d) = p
              · rw [if_pos (congrArg nI z), if_pos z]
              · rw [if_neg (nI_ne (by omega) (by omega) z), if_neg z]
        · by_cases y : r < nD b
          · refine fin (nI (mi b p r)) (hx0 _ ?_) (hy0 _ ?_)
            · rw [if_neg (show ¬ nI 2 = (0 : Int32) by decide), if_neg (show ¬ nI 2 = (1 : Int32) by decide), if_pos (show nI 2 = (2 : Int32) from rfl), if_neg (nI_ge y (by omega))]
              unfold f_X6_pointsMade mi
              cases hb : brd b p r with
              | none =>
                rw [if_neg (show ¬ 0 ≤ d5 r none from (by decide : ¬ (0 : Int32) ≤ -5)), row_at (by omega) (by omega), Option.bind_some, h 6 (by omega)]
                by_cases z : b 6 r = nI p
                · rw [if_pos z, if_pos z]; rfl
                · rw [if_neg z, if_neg z]; rfl
              | some c =>
                obtain ⟨d, hd, rfl, hon⟩ := brd_some hb
                have hb6 := ok.B6 hr
                have o6 := ok.o6 hr hd
                have e5 : d5 r (some (6 * r + d)) = nI d := congrArg nI (by omega)
                have hne : ¬ b 6 r = nI p := fun z => by
                  obtain ⟨n1, n2⟩ := ok.noBye hr hd hp z
                  exact hon.elim n1 n2
                rw [e5, if_pos (nI_pos' (by omega)), x_outcomeFor h ok hr hd hp, Option.bind_some, x_pointsFor (outX_le o6), Option.bind_some, pf_out, if_neg hne]; rfl
            · rw [if_pos (show nI 2 = (2 : Int32) from rfl), if_pos (nI_lt y (by omega))]
          · refine fin (-5) (hx0 _ ?_) (hy0 _ ?_)
            · rw [if_neg (show ¬ nI 2 = (0 : Int32) by decide), if_neg (show ¬ nI 2 = (1 : Int32) by decide), if_pos (show nI 2 = (2 : Int32) from rfl), if_pos (nI_le (by omega) (by omega))]
            · rw [if_pos (show nI 2 = (2 : Int32) from rfl), if_neg (nI_nlt (by omega) (by omega))]
      · refine fin (-1) ?_ ?_
        · unfold f_X6_game
          rw [a1, Option.bind_some, if_neg n10, b1, Option.bind_some, if_neg n10, x_boardWith h ok hp hr, Option.bind_some, if_neg (show ¬ u = (0 : Int32) from out_ne (by omega) c0 (n := 0) (by omega)), if_neg (show ¬ u = (1 : Int32) from out_ne (by omega) c0 (n := 1) (by omega)), if_neg (show ¬ u = (2 : Int32) from out_ne (by omega) c0 (n := 2) (by omega))]
        · unfold f_X7_game
          rw [Option.bind_some, a2, Option.bind_some, if_neg n10, Option.bind_some, hm' 3 (by omega), ok.R, b2, Option.bind_some, if_neg n10, c1, Option.bind_some, if_pos rfl]
    · refine fin (-1) ?_ ?_
      · unfold f_X6_game; rw [a1, Option.bind_some, if_neg n10, b1, Option.bind_some, if_pos rfl]
      · unfold f_X7_game; rw [Option.bind_some, a2, Option.bind_some, if_neg n10, Option.bind_some, hm' 3 (by omega), ok.R, b2, Option.bind_some, if_pos rfl]
  · refine fin (-1) ?_ ?_
    · unfold f_X6_game; rw [a1, Option.bind_some, if_pos rfl]
    · unfold f_X7_game; rw [Option.bind_some, a2, Option.bind_some, if_pos rfl]
