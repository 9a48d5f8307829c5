/-! ===== join, leave, back, rate ===== -/
theorem bk_us {σ b : Mm} (h : Bk σ b) {k i : Nat} {v : Int32} : Bk (us σ k i v) (us b k i v) := by
  intro j hj
  by_cases e : j = k
  · subst e; rw [us_eq, us_eq, h j hj]
  · rw [us_ne e, us_ne e, h j hj]
theorem bk_sc {σ b : Mm} (h : Bk σ b) {k : Nat} {v : Int32} : Bk (sc σ k v) (sc b k v) := by
  intro j hj
  by_cases e : j = k
  · subst e; rw [sc_eq', sc_eq']
  · rw [sc_ne e, sc_ne e, h j hj]
theorem BookOK.r12 {b c : Mm} (ok : BookOK b) (h : ∀ k, k ≠ 1 → k ≠ 2 → c k = b k) (h1 : ∀ p, p < nP b → Sm c 1 p 3000 ∧ Sm c 2 p 1) : BookOK c := by
  have e0 := h 0 (by omega) (by omega)
  have e3 := h 3 (by omega) (by omega)
  have e4 := h 4 (by omega) (by omega)
  have e5 := h 5 (by omega) (by omega)
  have e6 := h 6 (by omega) (by omega)
  have e7 := h 7 (by omega) (by omega)
  have e8 := h 8 (by omega) (by omega)
  have e9 := h 9 (by omega) (by omega)
  have e10 := h 10 (by omega) (by omega)
  have e11 := h 11 (by omega) (by omega)
  have hA : Agr b (fun k => if k = 1 then b 1 else if k = 2 then b 2 else c k) := by
    have hk : ∀ k, (fun k => if k = 1 then b 1 else if k = 2 then b 2 else c k) k = b k := fun k => by
      by_cases z1 : k = 1
      · subst z1; rfl
      · by_cases z2 : k = 2
        · subst z2; rfl
        · show (if k = 1 then b 1 else if k = 2 then b 2 else c k) = b k
          rw [if_neg z1, if_neg z2, h k z1 z2]
    exact ⟨fun k _ => hk k, fun r _ => ⟨by rw [hk 5], by rw [hk 6]⟩, fun d _ => ⟨by rw [hk 7], by rw [hk 8], by rw [hk 9]⟩⟩
  have hPP : nP c = nP b := by unfold nP gN; rw [e0]
  obtain ⟨o1, o2, o3, o4, -, o6, o7, o8, o9, o10, o11, o12, o13, o14⟩ := hA.ok ok
  exact ⟨o1, o2, o3, o4, fun p hp => h1 p (by rw [← hPP]; exact hp), o6, o7, o8, o9, o10, o11, o12, o13, o14⟩
theorem ratg {w : Int32} : (∃ n, n ≤ 3000 ∧ w = nI n ∧ f_X6_isRating w = some 1 ∧ f_X7_in w.toInt64 (0 : Int64) (3000 : Int64) = some 1) ∨ (f_X6_isRating w = some 0 ∧ f_X7_in w.toInt64 (0 : Int64) (3000 : Int64) = some 0) := by
  unfold f_X6_isRating
  rcases rng w 3000 (3000 : Int64) (by decide) (by omega) with ⟨n, hn, rfl, c1⟩ | ⟨c0, c1⟩
  · exact Or.inl ⟨n, hn, rfl, by rw [if_neg (nI_pos (by omega)), if_neg (show ¬ (3000 : Int32) < nI n from nI_nlt (a := 3000) hn (by omega))], c1⟩
  · refine Or.inr ⟨?_, c1⟩
    rcases c0 with c0 | ⟨c2, c3⟩
    · rw [if_pos c0]
    · rw [if_neg c2, if_pos]
      refine Int32.lt_iff_toInt_lt.mpr ?_
      have := big_toInt (n := 3000 + 1) (by omega) c3
      rw [show (3000 : Int32).toInt = 3000 by decide]
      omega
theorem x_move {σ μ b : Mm} (h : Bk σ b) (hm : Bk μ b) (ok : BookOK b) (ht : TabOK b σ) (h0 : σ 64 0 = 0) {p v : Nat} (hp : p < nP b) (hv : v ≤ 1) (hO : nO b = 0) : f_X0_countInside (us σ 2 p (nI v)) = some (nI (nS (us b 2 p (nI v)))) ∧ f_X7_manyIn (us μ 2 p (nI v)) = some (nI (nS (us b 2 p (nI v)))) ∧ BookOK (us b 2 p (nI v)) ∧ TabOK (us b 2 p (nI v)) (us σ 2 p (nI v)) := by
  have okc : BookOK (us b 2 p (nI v)) := ok.r12 (fun k h1 h2 => us_ne h2) (fun x hx => ⟨Sm.cong (ok.rating hx) (by rw [us_ne (by omega)]), by
    by_cases e : x = p
    · subst e; exact Sm.of (n := v) us_at hv (by omega)
    · exact Sm.cong (ok.inn hx) (us_off (Or.inr e))⟩)
  refine ⟨x_countInside (bk_us h) okc, m_manyIn (bk_us hm) okc, okc, (ht.cong (fun k k1 _ => us_ne (by omega))).dn ?_ ok⟩
  have hP : nP (us b 2 p (nI v)) = nP b := by unfold nP gN; rw [us_ne (by omega)]
  have hD : nD (us b 2 p (nI v)) = nD b := by unfold nD nR nO gN; rw [us_ne (by omega), us_ne (by omega)]
  exact ⟨hP, hD, fun x _ => by rw [us_ne (by omega)], by rw [us_ne (by omega)], us_ne (by omega), fun r _ => ⟨by rw [us_ne (by omega)], by rw [us_ne (by omega)]⟩, fun d _ => ⟨by rw [us_ne (by omega)], by rw [us_ne (by omega)], by rw [us_ne (by omega)]⟩⟩
theorem in_val {b : Mm} (ok : BookOK b) {p : Nat} (hp : p < nP b) : b 2 p = 0 ∨ b 2 p = 1 := by
  rw [in_cell ok hp]
  unfold iB
  split
  · exact Or.inr rfl
  · exact Or.inl rfl
theorem x_moved {σ b : Mm} (h : Bk σ b) (ok : BookOK b) {p v : Nat} (hp : p < nP b) (hv : v ≤ 1) (a1 : f_X6_isPlayer σ (nI p) = some 1) : f_X6_move σ (nI p) (nI v) = if b 2 p = nI v then some (-3, σ) else if nO b = 0 then (f_X0_countInside (us σ 2 p (nI v))).bind fun x => some (x, us σ 2 p (nI v)) else some (-3, σ) := by
  have hP := ok.P12
  unfold f_X6_move
  rw [a1, Option.bind_some, if_neg n10, row_at (by omega) (by omega), Option.bind_some, h 2 (by omega)]
  by_cases z : b 2 p = nI v
  · rw [if_pos z, if_pos z]
  · rw [if_neg z, if_neg z, Option.bind_some]
    by_cases y : nO b = 0
    · rw [if_pos ((b4_0 h ok).mpr y), if_pos y, row_put (by omega) (by omega), Option.bind_some]
    · rw [if_neg (fun u => y ((b4_0 h ok).mp u)), if_neg y]
theorem leave_both {σ μ b : Mm} (h : Bk σ b) (hm : Bk μ b) (ok : BookOK b) (ht : TabOK b σ) (h0 : σ 64 0 = 0) (w : Int32) : Both σ μ (f_X6_leave σ w) (f_X7_leave μ w) := by
  have hP := ok.P12
  have hO := ok.O1
  have hm' : Bk (sc μ 12 0) b := hm.sc (by omega)
  rcases isPl h hm' ok w with ⟨p, hp, rfl, a1, a2⟩ | ⟨a1, a2⟩
  · by_cases z : b 2 p = nI 0
    · refine Both.same (a := -3) h hm ok ht h0 ?_ ?_
      · unfold f_X6_leave; rw [show (0 : Int32) = nI 0 from rfl, x_moved h ok hp (by omega) a1, if_pos z]; rfl
      · unfold f_X7_leave; rw [Option.bind_some, a2, Option.bind_some, if_neg n10, ald_nI (by omega) (by omega), Option.bind_some, hm' 2 (by omega), if_pos (show b 2 p = (0 : Int32) from z)]
    · by_cases y : nO b = 0
      · obtain ⟨c1, c2, c3, c4⟩ := x_move h hm' ok ht h0 (v := 0) hp (by omega) y
        refine ⟨nI (nS (us b 2 p (nI 0))), us σ 2 p (nI 0), us (sc μ 12 0) 2 p (nI 0), us b 2 p (nI 0), ?_, ?_, bk_us h, bk_us hm', c3, c4, by rw [us_ne (by omega)]; exact h0, fun k hk => us_ne (by omega), fun k hk => by rw [us_ne (by omega), sc_ne (by omega)], by rw [us_ne (by omega), sc_eq']⟩
        · unfold f_X6_leave; rw [show (0 : Int32) = nI 0 from rfl, x_moved h ok hp (by omega) a1, if_neg z, if_pos y, c1]; rfl
        · unfold f_X7_leave
          rw [Option.bind_some, a2, Option.bind_some, if_neg n10, ald_nI (by omega) (by omega), Option.bind_some, hm' 2 (by omega), if_neg (show ¬ b 2 p = (0 : Int32) from z), Option.bind_some, if_neg (show ¬ sc μ 12 0 4 0 = 1 from fun u => by have := (b4_0 hm' ok).mpr y; rw [this] at u; exact absurd u (by decide)), ast_nI (by omega) (by omega), Option.bind_some]
          show (f_X7_manyIn (us (sc μ 12 0) 2 p (nI 0))).bind _ = _
          rw [c2, Option.bind_some]
          rfl
      · refine Both.same (a := -3) h hm ok ht h0 ?_ ?_
        · unfold f_X6_leave; rw [show (0 : Int32) = nI 0 from rfl, x_moved h ok hp (by omega) a1, if_neg z, if_neg y]; rfl
        · unfold f_X7_leave; rw [Option.bind_some, a2, Option.bind_some, if_neg n10, ald_nI (by omega) (by omega), Option.bind_some, hm' 2 (by omega), if_neg (show ¬ b 2 p = (0 : Int32) from z), Option.bind_some, if_pos (show sc μ 12 0 4 0 = 1 by rw [hm' 4 (by omega), ok.O, show nO b = 1 by omega]; rfl)]
  · refine Both.same (a := -1) h hm ok ht h0 ?_ ?_
    · unfold f_X6_leave f_X6_move; rw [a1, Option.bind_some, if_pos rfl]; rfl
    · unfold f_X7_leave; rw [Option.bind_some, a2, Option.bind_some, if_pos rfl]
theorem back_both {σ μ b : Mm} (h : Bk σ b) (hm : Bk μ b) (ok : BookOK b) (ht : TabOK b σ) (h0 : σ 64 0 = 0) (w : Int32) : Both σ μ (f_X6_back σ w) (f_X7_back μ w) := by
  have hP := ok.P12
  have hO := ok.O1
  have hm' : Bk (sc μ 12 0) b := hm.sc (by omega)
  rcases isPl h hm' ok w with ⟨p, hp, rfl, a1, a2⟩ | ⟨a1, a2⟩
  · by_cases z : b 2 p = nI 1
    · refine Both.same (a := -3) h hm ok ht h0 ?_ ?_
      · unfold f_X6_back; rw [show (1 : Int32) = nI 1 from rfl, x_moved h ok hp (by omega) a1, if_pos z]; rfl
      · unfold f_X7_back; rw [Option.bind_some, a2, Option.bind_some, if_neg n10, ald_nI (by omega) (by omega), Option.bind_some, hm' 2 (by omega), if_pos (show b 2 p = (1 : Int32) from z)]
    · by_cases y : nO b = 0
      · obtain ⟨c1, c2, c3, c4⟩ := x_move h hm' ok ht h0 (v := 1) hp (by omega) y
        refine ⟨nI (nS (us b 2 p (nI 1))), us σ 2 p (nI 1), us (sc μ 12 0) 2 p (nI 1), us b 2 p (nI 1), ?_, ?_, bk_us h, bk_us hm', c3, c4, by rw [us_ne (by omega)]; exact h0, fun k hk => us_ne (by omega), fun k hk => by rw [us_ne (by omega), sc_ne (by omega)], by rw [us_ne (by omega), sc_eq']⟩
        · unfold f_X6_back; rw [show (1 : Int32) = nI 1 from rfl, x_moved h ok hp (by omega) a1, if_neg z, if_pos y, c1]; rfl
        · unfold f_X7_back
          rw [Option.bind_some, a2, Option.bind_some, if_neg n10, ald_nI (by omega) (by omega), Option.bind_some, hm' 2 (by omega), if_neg (show ¬ b 2 p = (1 : Int32) from z), Option.bind_some, if_neg (show ¬ sc μ 12 0 4 0 = 1 from fun u => by have := (b4_0 hm' ok).mpr y; rw [this] at u; exact absurd u (by decide)), ast_nI (by omega) (by omega), Option.bind_some]
          show (f_X7_manyIn (us (sc μ 12 0) 2 p (nI 1))).bind _ = _
          rw [c2, Option.bind_some]
          rfl
      · refine Both.same (a := -3) h hm ok ht h0 ?_ ?_
        · unfold f_X6_back; rw [show (1 : Int32) = nI 1 from rfl, x_moved h ok hp (by omega) a1, if_neg z, if_neg y]; rfl
        · unfold f_X7_back; rw [Option.bind_some, a2, Option.bind_some, if_neg n10, ald_nI (by omega) (by omega), Option.bind_some, hm' 2 (by omega), if_neg (show ¬ b 2 p = (1 : Int32) from z), Option.bind_some, if_pos (show sc μ 12 0 4 0 = 1 by rw [hm' 4 (by omega), ok.O, show nO b = 1 by omega]; rfl)]
  · refine Both.same (a := -1) h hm ok ht h0 ?_ ?_
    · unfold f_X6_back f_X6_move; rw [a1, Option.bind_some, if_pos rfl]; rfl
    · unfold f_X7_back; rw [Option.bind_some, a2, Option.bind_some, if_pos rfl]
theorem rate_both {σ μ b : Mm} (h : Bk σ b) (hm : Bk μ b) (ok : BookOK b) (ht : TabOK b σ) (h0 : σ 64 0 = 0) (w v : Int32) : Both σ μ (f_X6_rate σ w v) (f_X7_rate μ w v) := by
  have hP := ok.P12
  have hm' : Bk (sc μ 12 0) b := hm.sc (by omega)
  unfold f_X6_rate f_X7_rate
  rcases isPl h hm' ok w with ⟨p, hp, rfl, a1, a2⟩ | ⟨a1, a2⟩
  · rw [a1, Option.bind_some, if_neg n10, Option.bind_some, a2, Option.bind_some, if_neg n10]
    rcases ratg (w := v) with ⟨n, hn, rfl, c1, c2⟩ | ⟨c1, c2⟩
    · have okc : BookOK (us b 1 p (nI n)) := ok.r12 (fun k h1 h2 => us_ne h1) (fun x hx => ⟨by
        by_cases e : x = p
        · subst e; exact Sm.of (n := n) us_at hn (by omega)
        · exact Sm.cong (ok.rating hx) (us_off (Or.inr e)), Sm.cong (ok.inn hx) (by rw [us_ne (by omega)])⟩)
      have hb : Bk (us σ 1 p (nI n)) (us b 1 p (nI n)) := bk_us h
      obtain ⟨τ, d1, d2, d3⟩ := x_reckon hb okc
      rw [c1, Option.bind_some, if_neg n10, row_at (by omega) (by omega), Option.bind_some, row_put (by omega) (by omega), Option.bind_some, d1, Option.bind_some, c2, Option.bind_some, if_neg n10, ald_nI (by omega) (by omega), Option.bind_some, ast_nI (by omega) (by omega), Option.bind_some, h 1 (by omega), hm' 1 (by omega)]
      exact ⟨_, τ, _, _, rfl, rfl, fun k hk => by rw [d2 k (by omega)]; exact hb k hk, bk_us hm', okc, d3, by rw [d2 64 (by omega), us_ne (by omega)]; exact h0, fun k hk => by rw [d2 k (by omega), us_ne (by omega)], fun k hk => by rw [us_ne (by omega), sc_ne (by omega)], by rw [us_ne (by omega), sc_eq']⟩
    · rw [c1, Option.bind_some, if_pos rfl, c2, Option.bind_some, if_pos rfl]
      exact Both.same h hm ok ht h0 rfl rfl
  · rw [a1, Option.bind_some, if_pos rfl, Option.bind_some, a2, Option.bind_some, if_pos rfl]
    exact Both.same h hm ok ht h0 rfl rfl
