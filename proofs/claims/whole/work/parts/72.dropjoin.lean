/-! ===== drop, join ===== -/
theorem drop_ok {b : Mm} (ok : BookOK b) (hR : 1 ≤ nR b) : BookOK (sc (sc b 3 (nI (nR b - 1))) 4 0) := by
  have hOR := ok.OR
  have h20 := ok.R20
  have hO1 := ok.O1
  obtain ⟨o1, o2, o3, o4, o5, o6, o7, o8, o9, o10, o11, o12, o13, o14⟩ := ok
  have h3 : nR (sc (sc b 3 (nI (nR b - 1))) 4 0) = nR b - 1 := gN_of (by rw [sc_ne (by omega), sc_at]) (by omega)
  have h4 : nO (sc (sc b 3 (nI (nR b - 1))) 4 0) = 0 := gN_of (n := 0) (by rw [sc_at]; rfl) (by omega)
  refine ⟨o1, Sm.of (n := nR b - 1) (by rw [sc_ne (by omega), sc_at]) (by omega) (by omega), Sm.of (n := 0) (by rw [sc_at]; rfl) (by omega) (by omega), by rw [h4]; omega, o5, fun r hr => ?_, fun r hr => ?_, fun r hr => ?_, fun r hr => ?_, fun r hr => ?_, fun r q hrq hq => ?_, o12, o13, o14⟩
  · rw [h3] at hr; exact o6 r (by omega)
  · rw [h3] at hr; exact o7 r (by omega)
  · rw [h3] at hr; exact o8 r (by omega)
  · rw [h3] at hr; exact o9 r (by omega)
  · have e : nD (sc (sc b 3 (nI (nR b - 1))) 4 0) = nR b - 1 := by unfold nD; rw [h3, h4]; omega
    rw [e] at hr
    exact o10 r (by unfold nD; omega)
  · rw [h3] at hq; exact o11 r q hrq (by omega)
theorem drop_both {σ μ b : Mm} (h : Bk σ b) (hm : Bk μ b) (ok : BookOK b) (ht : TabOK b σ) (h0 : σ 64 0 = 0) : Both σ μ (f_X6_drop σ) (f_X7_drop μ) := by
  have h20 := ok.R20
  have hm' : Bk (sc μ 12 0) b := hm.sc (by omega)
  by_cases y : nR b = 0
  · refine Both.same (a := -3) h hm ok ht h0 ?_ ?_
    · unfold f_X6_drop; rw [Option.bind_some, h 3 (by omega), ok.R, if_pos (by rw [y]; rfl)]
    · unfold f_X7_drop; rw [Option.bind_some, Option.bind_some, hm' 3 (by omega), ok.R, if_pos (by rw [y]; rfl)]
  · have eR : nI (nR b) - (1 : Int32) = nI (nR b - 1) := by rw [show (1 : Int32) = nI 1 from rfl, pk_sub (by omega)]
    have okc := drop_ok ok (by omega)
    have hb : Bk (sc (sc σ 3 (nI (nR b - 1))) 4 0) (sc (sc b 3 (nI (nR b - 1))) 4 0) := bk_sc (bk_sc h)
    obtain ⟨τ, d1, d2, d3⟩ := x_reckon hb okc
    refine ⟨nI (nR b - 1), τ, sc (sc (sc μ 12 0) 3 (nI (nR b - 1))) 4 0, sc (sc b 3 (nI (nR b - 1))) 4 0, ?_, ?_, fun k hk => by rw [d2 k (by omega)]; exact hb k hk, bk_sc (bk_sc hm'), okc, d3, by rw [d2 64 (by omega), sc_ne (by omega), sc_ne (by omega)]; exact h0, fun k hk => by rw [d2 k (by omega), sc_ne (by omega), sc_ne (by omega)], fun k hk => by rw [sc_ne (by omega), sc_ne (by omega), sc_ne (by omega)], by rw [sc_ne (by omega), sc_ne (by omega), sc_eq']⟩
    · unfold f_X6_drop
      rw [Option.bind_some, h 3 (by omega), ok.R, if_neg (nI_ne0 (by omega) (by omega)), Option.bind_some, Option.bind_some, eR, Option.bind_some, d1, Option.bind_some, Option.bind_some, d2 3 (by omega), sc_ne (by omega), sc_at]
    · unfold f_X7_drop
      rw [Option.bind_some, Option.bind_some, hm' 3 (by omega), ok.R, if_neg (nI_ne0 (by omega) (by omega)), Option.bind_some, Option.bind_some, eR, Option.bind_some, Option.bind_some, sc_ne (by omega), sc_at]
def joinB (b : Mm) (n : Nat) : Mm := sc (us (us b 1 (nP b) (nI n)) 2 (nP b) 1) 0 (nI (nP b + 1))
theorem join_ok {b : Mm} (ok : BookOK b) {n : Nat} (hn : n ≤ 3000) (hP : nP b < 12) : BookOK (joinB b n) := by
  obtain ⟨o1, o2, o3, o4, o5, o6, o7, o8, o9, o10, o11, o12, o13, o14⟩ := ok
  have h0 : nP (joinB b n) = nP b + 1 := gN_of (by unfold joinB; rw [sc_at]) (by omega)
  refine ⟨Sm.of (n := nP b + 1) (by unfold joinB; rw [sc_at]) (by omega) (by omega), o2, o3, o4, fun p hp => ?_, o6, fun r hr => ?_, fun r hr c hc => ?_, o9, o10, o11, o12, o13, o14⟩
  · rw [h0] at hp
    by_cases e : p = nP b
    · subst e
      exact ⟨Sm.of (n := n) (by unfold joinB; rw [sc_ne (by omega), us_ne (by omega), us_at]) hn (by omega), Sm.of (n := 1) (by unfold joinB; rw [sc_ne (by omega), us_at]; rfl) (by omega) (by omega)⟩
    · obtain ⟨g1, g2⟩ := o5 p (by omega)
      exact ⟨Sm.cong g1 (by unfold joinB; rw [sc_ne (by omega), us_ne (by omega), us_off (Or.inr e)]), Sm.cong g2 (by unfold joinB; rw [sc_ne (by omega), us_off (Or.inr e), us_ne (by omega)])⟩
  · rw [h0]
    rcases o7 r hr with g | ⟨g1, g2⟩
    · exact Or.inl g
    · exact Or.inr ⟨g1, show gN b 6 r < nP b + 1 by omega⟩
  · obtain ⟨g1, g2, g3, g4, g5, g6, g7⟩ := o8 r hr c hc
    rw [h0]
    refine ⟨g1, g2, g3, show wN b (6 * r + c) < nP b + 1 by omega, show kN b (6 * r + c) < nP b + 1 by omega, g6, fun p hp hb => ?_⟩
    show wN b (6 * r + c) ≠ p ∧ kN b (6 * r + c) ≠ p
    by_cases e : p = nP b
    · subst e; exact ⟨by omega, by omega⟩
    · exact g7 p (by omega) hb
theorem join_both {σ μ b : Mm} (h : Bk σ b) (hm : Bk μ b) (ok : BookOK b) (ht : TabOK b σ) (h0 : σ 64 0 = 0) (w : Int32) : Both σ μ (f_X6_join σ w) (f_X7_join μ w) := by
  have hP := ok.P12
  have hO := ok.O1
  have hm' : Bk (sc μ 12 0) b := hm.sc (by omega)
  rcases ratg (w := w) with ⟨n, hn, rfl, c1, c2⟩ | ⟨c1, c2⟩
  · by_cases y : nO b = 0
    · have n4 : ¬ sc μ 12 0 4 0 = 1 := fun u => by have := (b4_0 hm' ok).mpr y; rw [this] at u; exact absurd u (by decide)
      by_cases z : nP b = 12
      · refine Both.same (a := -4) h hm ok ht h0 ?_ ?_
        · unfold f_X6_join
          rw [c1, Option.bind_some, if_neg n10, Option.bind_some, if_pos ((b4_0 h ok).mpr y), Option.bind_some, h 0 (by omega), ok.P, if_neg (show ¬ nI (nP b) < (12 : Int32) from nI_nlt (b := 12) (by omega) (by omega))]
        · unfold f_X7_join
          rw [Option.bind_some, c2, Option.bind_some, if_neg n10, Option.bind_some, if_neg n4, Option.bind_some, hm' 0 (by omega), ok.P, if_pos (show nI (nP b) = (12 : Int32) by rw [z]; rfl)]
          unfold f_X7_join_j37
          rw [Option.bind_some, if_neg n4]
      · have okc := join_ok ok hn (by omega)
        have hb : Bk (sc (us (us σ 1 (nP b) (nI n)) 2 (nP b) 1) 0 (nI (nP b + 1))) (joinB b n) := bk_sc (bk_us (bk_us h))
        obtain ⟨τ, d1, d2, d3⟩ := x_reckon hb okc
        refine ⟨nI (nP b), τ, sc (us (us (sc μ 12 0) 1 (nP b) (nI n)) 2 (nP b) 1) 0 (nI (nP b + 1)), joinB b n, ?_, ?_, fun k hk => by rw [d2 k (by omega)]; exact hb k hk, bk_sc (bk_us (bk_us hm')), okc, d3, by rw [d2 64 (by omega), sc_ne (by omega), us_ne (by omega), us_ne (by omega)]; exact h0, fun k hk => by rw [d2 k (by omega), sc_ne (by omega), us_ne (by omega), us_ne (by omega)], fun k hk => by rw [sc_ne (by omega), us_ne (by omega), us_ne (by omega), sc_ne (by omega)], by rw [sc_ne (by omega), us_ne (by omega), us_ne (by omega), sc_eq']⟩
        · unfold f_X6_join f_X0_enter
          rw [c1, Option.bind_some, if_neg n10, Option.bind_some, if_pos ((b4_0 h ok).mpr y), Option.bind_some, h 0 (by omega), ok.P, if_pos (show nI (nP b) < (12 : Int32) from nI_lt (b := 12) (by omega) (by omega)), Option.bind_some, row_put (by omega) (by omega), Option.bind_some, row_put (by omega) (by omega), Option.bind_some, us_ne (by omega), us_ne (by omega), h 0 (by omega), ok.P, Option.bind_some, Option.bind_some, show nI (nP b) + (1 : Int32) = nI (nP b + 1) from nI_1 _]
          simp only [Option.bind_some]
          rw [d1, Option.bind_some]
        · unfold f_X7_join
          rw [Option.bind_some, c2, Option.bind_some, if_neg n10, Option.bind_some, if_neg n4, Option.bind_some, hm' 0 (by omega), ok.P, if_neg (show ¬ nI (nP b) = (12 : Int32) from fun u => z ((nI_eq (b := 12) (by omega) (by omega)).mp u)), Option.bind_some, ast_nI (by omega) (by omega), Option.bind_some, Option.bind_some, us_ne (by omega), hm' 0 (by omega), ok.P, ast_nI (by omega) (by omega), Option.bind_some, Option.bind_some, us_ne (by omega), us_ne (by omega), hm' 0 (by omega), ok.P, Option.bind_some, Option.bind_some, sc_at, show nI (nP b) + (1 : Int32) = nI (nP b + 1) from nI_1 _, nI_pred]
    · refine Both.same (a := -3) h hm ok ht h0 ?_ ?_
      · unfold f_X6_join
        rw [c1, Option.bind_some, if_neg n10, Option.bind_some, if_neg (fun u => y ((b4_0 h ok).mp u))]
      · have p4 : sc μ 12 0 4 0 = 1 := by rw [hm' 4 (by omega), ok.O, show nO b = 1 by omega]; rfl
        unfold f_X7_join f_X7_join_j37
        rw [Option.bind_some, c2, Option.bind_some, if_neg n10, Option.bind_some, if_pos p4, Option.bind_some, if_pos p4]
  · refine Both.same (a := -2) h hm ok ht h0 ?_ ?_
    · unfold f_X6_join; rw [c1, Option.bind_some, if_pos rfl]
    · unfold f_X7_join; rw [Option.bind_some, c2, Option.bind_some, if_pos rfl]
