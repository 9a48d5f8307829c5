/-! ===== tie, rank, nth, explain, met, cost, direct ===== -/
theorem tie_both {σ μ b : Mm} (h : Bk σ b) (hm : Bk μ b) (ok : BookOK b) (ht : TabOK b σ) (h0 : σ 64 0 = 0) (w v : Int32) : Both σ μ (Ask σ (f_X6_tie σ w v)) (f_X7_tie μ w v) := by
  have hP := ok.P12
  have hm' : Bk (sc μ 12 0) b := hm.sc (by omega)
  have fin : ∀ {x : Option Int32} {y : Option (Int32 × Mm)} (a : Int32), x = some a → y = some (a, sc μ 12 0) → Both σ μ (Ask σ x) y := fun a hx hy => Both.ask h hm ok ht h0 hx hy (fun _ _ => rfl)
  rcases isPl h hm' ok w with ⟨p, hp, rfl, a1, a2⟩ | ⟨a1, a2⟩
  · rcases rng v 8 (8 : Int64) (by decide) (by omega) with ⟨n, hn, rfl, c1⟩ | ⟨c0, c1⟩
    · refine fin (nI (tieN b p n)) ?_ ?_
      · unfold f_X6_tie
        rw [a1, Option.bind_some, if_neg n10, if_neg (nI_pos (by omega)), if_pos (show nI n < (9 : Int32) from nI_lt (b := 9) (by omega) (by omega)), x_tieOf (by omega) (by omega), Option.bind_some, (ht.1 p hp).1 n hn]
      · unfold f_X7_tie
        rw [Option.bind_some, a2, Option.bind_some, if_neg n10, c1, Option.bind_some, if_neg n10, m_tieOf hm' ok hp hn, Option.bind_some]
    · refine fin (-1) ?_ ?_
      · unfold f_X6_tie
        rw [a1, Option.bind_some, if_neg n10]
        rcases c0 with c0 | ⟨c2, c3⟩
        · rw [if_pos c0]
        · rw [if_neg c2, if_neg (show ¬ v < (9 : Int32) from by rw [Int32.not_lt]; exact c3)]
      · unfold f_X7_tie
        rw [Option.bind_some, a2, Option.bind_some, if_neg n10, c1, Option.bind_some, if_pos rfl]
  · refine fin (-1) ?_ ?_
    · unfold f_X6_tie; rw [a1, Option.bind_some, if_pos rfl]
    · unfold f_X7_tie; rw [Option.bind_some, a2, Option.bind_some, if_pos rfl]
theorem x_placeOf {σ b : Mm} (h : Bk σ b) (ok : BookOK b) (ht : TabOK b σ) {p : Nat} (hp : p < nP b) : f_X4_placeOf σ (nI p) = some (nI (rkN b p)) := by
  have hP := ok.P12
  have hr := rkN_lt hp
  unfold f_X4_placeOf
  refine wh1_seq (rkN b p) (fun k => nI k) _ (fun k hk r => ?_) (fun r => ?_) 5000 (by omega)
  · have hs := stN_lt (b := b) (i := k) (by omega)
    unfold f_X4_placeOf_s2
    rw [h 0 (by omega), ok.P, if_neg (nI_ge (by omega) (by omega)), row_at (by omega) (by omega), Option.bind_some, ht.2 k (by omega), if_neg (nI_ne (by omega) (by omega) (fun z => by
      have := rkN_stN (b := b) (i := k) (by omega)
      rw [z] at this
      omega)), show nI k + (1 : Int32) = nI (k + 1) from nI_1 k]
  · unfold f_X4_placeOf_s2
    rw [h 0 (by omega), ok.P, if_neg (nI_ge hr (by omega)), row_at (by omega) (by omega), Option.bind_some, ht.2 _ hr, stN_rkN hp, if_pos rfl]
theorem rank_both {σ μ b : Mm} (h : Bk σ b) (hm : Bk μ b) (ok : BookOK b) (ht : TabOK b σ) (h0 : σ 64 0 = 0) (w : Int32) : Both σ μ (Ask σ (f_X6_rank σ w)) (f_X7_rank μ w) := by
  have hP := ok.P12
  have hm' : Bk (sc μ 12 0) b := hm.sc (by omega)
  rcases isPl h hm' ok w with ⟨p, hp, rfl, a1, a2⟩ | ⟨a1, a2⟩
  · refine Both.ask (a := nI (rkN b p)) (ρ := LSt (sc μ 12 0) b) h hm ok ht h0 ?_ ?_ (fun k hk => LSt_ne (by omega) (by omega))
    · unfold f_X6_rank; rw [a1, Option.bind_some, if_neg n10, x_placeOf h ok ht hp, Option.bind_some]
    · unfold f_X7_rank; rw [Option.bind_some, a2, Option.bind_some, if_neg n10, m_layStanding hm' ok, Option.bind_some, m_aheadOf (LSt_bk hm') ok LSt_TT hp, Option.bind_some]
  · refine Both.ask (a := -1) (ρ := sc μ 12 0) h hm ok ht h0 ?_ ?_ (fun _ _ => rfl)
    · unfold f_X6_rank; rw [a1, Option.bind_some, if_pos rfl]
    · unfold f_X7_rank; rw [Option.bind_some, a2, Option.bind_some, if_pos rfl]
theorem nth_both {σ μ b : Mm} (h : Bk σ b) (hm : Bk μ b) (ok : BookOK b) (ht : TabOK b σ) (h0 : σ 64 0 = 0) (w : Int32) : Both σ μ (Ask σ (f_X6_nth σ w)) (f_X7_nth μ w) := by
  have hP := ok.P12
  have hm' : Bk (sc μ 12 0) b := hm.sc (by omega)
  rcases isPl h (LSt_bk hm') ok w with ⟨p, hp, rfl, a1, a2⟩ | ⟨a1, a2⟩
  · refine Both.ask (a := nI (stN b p)) (ρ := LSt (sc μ 12 0) b) h hm ok ht h0 ?_ ?_ (fun k hk => LSt_ne (by omega) (by omega))
    · unfold f_X6_nth; rw [a1, Option.bind_some, if_neg n10, row_at (by omega) (by omega), Option.bind_some, ht.2 p hp]
    · unfold f_X7_nth; rw [Option.bind_some, m_layStanding hm' ok, Option.bind_some, a2, Option.bind_some, if_neg n10, ald_nI (by omega) (by omega), Option.bind_some, LSt_st hp]
  · refine Both.ask (a := -1) (ρ := LSt (sc μ 12 0) b) h hm ok ht h0 ?_ ?_ (fun k hk => LSt_ne (by omega) (by omega))
    · unfold f_X6_nth; rw [a1, Option.bind_some, if_pos rfl]
    · unfold f_X7_nth; rw [Option.bind_some, m_layStanding hm' ok, Option.bind_some, a2, Option.bind_some, if_pos rfl]
theorem met_both {σ μ b : Mm} (h : Bk σ b) (hm : Bk μ b) (ok : BookOK b) (ht : TabOK b σ) (h0 : σ 64 0 = 0) (w v : Int32) : Both σ μ (Ask σ (f_X6_met σ w v)) (f_X7_met μ w v) := by
  have hP := ok.P12
  have hm' : Bk (sc μ 12 0) b := hm.sc (by omega)
  rcases areT h hm' ok w v with ⟨p, q, hp, hq, hne, rfl, rfl, a1, a2⟩ | ⟨a1, a2⟩
  · obtain ⟨-, -, -, -, -, -, pq⟩ := ht.1 p hp
    refine Both.ask (a := met b p q) (ρ := sc μ 12 0) h hm ok ht h0 ?_ ?_ (fun _ _ => rfl)
    · unfold f_X6_met; rw [a1, Option.bind_some, if_neg n10, x_meetingOf (by omega) (by omega), Option.bind_some, (pq q hq).1]
    · unfold f_X7_met; rw [Option.bind_some, a2, Option.bind_some, if_neg n10, m_metIn hm' ok hp hq, Option.bind_some]
  · refine Both.ask (a := -1) (ρ := sc μ 12 0) h hm ok ht h0 ?_ ?_ (fun _ _ => rfl)
    · unfold f_X6_met; rw [a1, Option.bind_some, if_pos rfl]
    · unfold f_X7_met; rw [Option.bind_some, a2, Option.bind_some, if_pos rfl]
theorem cost_both {σ μ b : Mm} (h : Bk σ b) (hm : Bk μ b) (ok : BookOK b) (ht : TabOK b σ) (h0 : σ 64 0 = 0) (w v : Int32) : Both σ μ (Ask σ (f_X6_cost σ w v)) (f_X7_cost μ w v) := by
  have hP := ok.P12
  have hm' : Bk (sc μ 12 0) b := hm.sc (by omega)
  rcases areT h hm' ok w v with ⟨p, q, hp, hq, hne, rfl, rfl, a1, a2⟩ | ⟨a1, a2⟩
  · refine Both.ask (a := c5 (costO b p q)) (ρ := sc μ 12 0) h hm ok ht h0 ?_ ?_ (fun _ _ => rfl)
    · unfold f_X6_cost; rw [a1, Option.bind_some, if_neg n10, x_costOf ok ht hp hq, Option.bind_some]
    · unfold f_X7_cost costO
      rw [Option.bind_some, a2, Option.bind_some, if_neg n10, m_metIn hm' ok hp hq, Option.bind_some]
      by_cases z : met b p q = -5
      · rw [if_pos ((met_neg ok _ _).mpr z), if_pos z, m_costOf hm' ok hp hq]; rfl
      · rw [if_neg (fun y => z ((met_neg ok _ _).mp y)), if_neg z]; rfl
  · refine Both.ask (a := -1) (ρ := sc μ 12 0) h hm ok ht h0 ?_ ?_ (fun _ _ => rfl)
    · unfold f_X6_cost; rw [a1, Option.bind_some, if_pos rfl]
    · unfold f_X7_cost; rw [Option.bind_some, a2, Option.bind_some, if_pos rfl]
theorem madeL_none0 {b : Mm} {p q : Nat} : ∀ n, (∀ r, r < n → ∀ c, pl b p r = some c → opp b p c ≠ q) → madeL b p q n = 0
  | 0, _ => rfl
  | n + 1, h => by
    have ih := madeL_none0 n (fun r hr => h r (by omega))
    cases hx : pl b p n with
    | none => rw [madeL_none hx, ih]
    | some c => rw [madeL_some hx, if_neg (h n (by omega) c hx), ih]
theorem direct_both {σ μ b : Mm} (h : Bk σ b) (hm : Bk μ b) (ok : BookOK b) (ht : TabOK b σ) (h0 : σ 64 0 = 0) (w v : Int32) : Both σ μ (Ask σ (f_X6_direct σ w v)) (f_X7_direct μ w v) := by
  have hP := ok.P12
  have hD := ok.D20
  have hm' : Bk (sc μ 12 0) b := hm.sc (by omega)
  rcases areT h hm' ok w v with ⟨p, q, hp, hq, hne, rfl, rfl, a1, a2⟩ | ⟨a1, a2⟩
  · obtain ⟨-, -, -, -, -, -, pq⟩ := ht.1 p hp
    refine Both.ask (a := nI (madeL b p q (nD b))) (ρ := sc μ 12 0) h hm ok ht h0 ?_ ?_ (fun _ _ => rfl)
    · unfold f_X6_direct; rw [a1, Option.bind_some, if_neg n10, x_madeAgainst (by omega) (by omega), Option.bind_some, (pq q hq).2]
    · unfold f_X7_direct
      rw [Option.bind_some, a2, Option.bind_some, if_neg n10, m_metIn hm' ok hp hq, Option.bind_some]
      unfold met
      rcases metL_spec (b := b) (x := p) (q := q) (nD b) with ⟨e1, e2⟩ | ⟨r, c, e1, e2, e3, e4, e5⟩
      · rw [e1, if_neg (by decide), madeL_none0 _ e2]; rfl
      · have hrR : r < nR b := Nat.lt_of_lt_of_le e1 ok.DR
        rw [e2, if_pos (nI_pos' (by omega)), m_playedIn hm' ok hp e1, Option.bind_some, e3]
        show (f_X7_madeOn (sc μ 12 0) (nI c) (nI p)).bind _ = _
        rw [m_madeOn hm' ok hrR hp (pl_some e3).1, Option.bind_some, e5]
  · refine Both.ask (a := -1) (ρ := sc μ 12 0) h hm ok ht h0 ?_ ?_ (fun _ _ => rfl)
    · unfold f_X6_direct; rw [a1, Option.bind_some, if_pos rfl]
    · unfold f_X7_direct; rw [Option.bind_some, a2, Option.bind_some, if_pos rfl]
theorem explain_both {σ μ b : Mm} (h : Bk σ b) (hm : Bk μ b) (ok : BookOK b) (ht : TabOK b σ) (h0 : σ 64 0 = 0) (w v u : Int32) : Both σ μ (Ask σ (f_X6_explain σ w v u)) (f_X7_explain μ w v u) := by
  have hP := ok.P12
  have hm' : Bk (sc μ 12 0) b := hm.sc (by omega)
  rcases areT h hm' ok w v with ⟨p, q, hp, hq, hne, rfl, rfl, a1, a2⟩ | ⟨a1, a2⟩
  · rcases rng u 1 (1 : Int64) (by decide) (by omega) with ⟨n, hn, rfl, c1⟩ | ⟨c0, c1⟩
    · have hT : TT (LSt (sc μ 12 0) b) b 13 := LSt_TT
      have e9m : ∀ x y : Nat, ((9 : Int32) * nI x) + nI y = nI (9 * x + y) := fun x y => by rw [show (9 : Int32) = nI 9 from rfl, pk_mul, nI_add]
      have hx0 : f_X6_explain σ (nI p) (nI q) (nI n) = (if nI n = 0 then some (match dfK b p q with | none => -5 | some i => nI (gN b 11 i)) else match dfK b p q with | none => some (nI q - nI p) | some i => some (nI (tieN b p (gN b 11 i)) - nI (tieN b q (gN b 11 i)))) := by
        unfold f_X6_explain
        rw [a1, Option.bind_some, if_neg n10, if_neg (nI_pos (by omega)), if_pos (show nI n ≤ (1 : Int32) from nI_le (b := 1) hn (by omega)), x_firstDifference h ok ht.TT hp hq, Option.bind_some]
        by_cases z : nI n = 0
        · rw [if_pos z, if_pos z]
          cases dfK b p q <;> rfl
        · rw [if_neg z, if_neg z]
          cases hd : dfK b p q with
          | none => rw [if_pos rfl]
          | some i =>
            have ho := ord_le ok (dfK_some hd).1
            dsimp only
            rw [if_neg (neg5 (by omega)), x_tieOf (by omega) (by omega), Option.bind_some, x_tieOf (by omega) (by omega), Option.bind_some, (ht.1 p hp).1 _ ho, (ht.1 q hq).1 _ ho]
      have hy0 : f_X7_explain μ (nI p) (nI q) (nI n) = some ((if nI n = 0 then (match dfK b p q with | none => -5 | some i => nI (gN b 11 i)) else match dfK b p q with | none => (nI q - nI p) | some i => (nI (tieN b p (gN b 11 i)) - nI (tieN b q (gN b 11 i)))), LSt (sc μ 12 0) b) := by
        unfold f_X7_explain
        rw [Option.bind_some, a2, Option.bind_some, if_neg n10, c1, Option.bind_some, if_neg n10, m_layStanding hm' ok, Option.bind_some, m_differsIn (LSt_bk hm') ok hT hp hq, Option.bind_some]
        by_cases z : nI n = 0
        · rw [if_pos z, if_pos z]
          cases hd : dfK b p q with
          | none => rw [if_neg (show ¬ 0 ≤ difI b none from (by decide : ¬ (0 : Int32) ≤ -1))]
          | some i =>
            have ho := ord_le ok (dfK_some hd).1
            rw [if_pos (show 0 ≤ difI b (some i) from nI_pos' (by omega))]; rfl
        · rw [if_neg z, if_neg z]
          cases hd : dfK b p q with
          | none => rw [if_neg (show ¬ 0 ≤ difI b none from (by decide : ¬ (0 : Int32) ≤ -1))]
          | some i =>
            have ho := ord_le ok (dfK_some hd).1
            rw [if_pos (show 0 ≤ difI b (some i) from nI_pos' (by omega)), show difI b (some i) = nI (gN b 11 i) from rfl, e9m, e9m, ald_nI (by omega) (by omega), Option.bind_some, ald_nI (by omega) (by omega), Option.bind_some, hT p hp _ ho, hT q hq _ ho]
      refine Both.ask (ρ := LSt (sc μ 12 0) b) h hm ok ht h0 (hx0.trans ?_) hy0 (fun k hk => LSt_ne (by omega) (by omega))
      by_cases z : nI n = 0
      · rw [if_pos z, if_pos z]
      · rw [if_neg z, if_neg z]
        cases dfK b p q <;> rfl
    · refine Both.ask (a := -1) (ρ := sc μ 12 0) h hm ok ht h0 ?_ ?_ (fun _ _ => rfl)
      · unfold f_X6_explain
        rw [a1, Option.bind_some, if_neg n10]
        rcases c0 with c0 | ⟨c2, c3⟩
        · rw [if_pos c0]
        · rw [if_neg c2, if_neg (show ¬ u ≤ (1 : Int32) from fun z => by
            have a := Int32.le_iff_toInt_le.mp z
            have c := big_toInt (n := 1 + 1) (by omega) c3
            have d : (1 : Int32).toInt = 1 := by decide
            rw [d] at a
            omega)]
      · unfold f_X7_explain
        rw [Option.bind_some, a2, Option.bind_some, if_neg n10, c1, Option.bind_some, if_pos rfl]
  · refine Both.ask (a := -1) (ρ := sc μ 12 0) h hm ok ht h0 ?_ ?_ (fun _ _ => rfl)
    · unfold f_X6_explain; rw [a1, Option.bind_some, if_pos rfl]
    · unfold f_X7_explain; rw [Option.bind_some, a2, Option.bind_some, if_pos rfl]
