/-! ===== result, close, drop, join ===== -/
theorem rngN (w : Int32) (n : Nat) (hn : n ≤ 1000) : (∃ j, j < n ∧ w = nI j ∧ f_X7_in w.toInt64 (0 : Int64) (nI n - (1 : Int32)).toInt64 = some 1) ∨ ((w < 0 ∨ (¬ w < 0 ∧ nI n ≤ w)) ∧ f_X7_in w.toInt64 (0 : Int64) (nI n - (1 : Int32)).toInt64 = some 0) := by
  have hin := m_in (x := w.toInt) (lo := 0) (hi := (n : Int) - 1) (a := w.toInt64) (l := 0) (h := (nI n - (1 : Int32)).toInt64) (wide w) (by decide) (by rw [wide]; exact pk_sub_toInt (a := n) (b := 1) (by omega) (by omega))
  rcases pk_ix w (n := n) (by omega) with e | e | ⟨j, hj, rfl⟩
  · have := neg_toInt e
    exact Or.inr ⟨Or.inl e, by rw [hin, if_neg (by omega)]⟩
  · have h2 := big_toInt (by omega) e
    have h0 : ¬ w < 0 := fun z => by have := neg_toInt z; omega
    exact Or.inr ⟨Or.inr ⟨h0, e⟩, by rw [hin, if_neg (by omega)]⟩
  · exact Or.inl ⟨j, hj, rfl, by rw [hin, nI_toInt (by omega), if_pos (by omega)]⟩
theorem nlt_of_le {w : Int32} {n : Nat} (h : nI n ≤ w) : ¬ w < nI n := by rw [Int32.not_lt]; exact h
theorem res_ok {b : Mm} (ok : BookOK b) (hO : nO b = 1) {d v : Nat} (hd : d < nB b (nR b - 1)) (hv : v ≤ 6) : BookOK (us b 9 (6 * (nR b - 1) + d) (nI v)) ∧ Dn b (us b 9 (6 * (nR b - 1) + d) (nI v)) := by
  have hOR := ok.OR
  have hD : nD b = nR b - 1 := by unfold nD; omega
  have hb6 := ok.B6 (r := nR b - 1) (by omega)
  have hrow : ∀ k, k ≠ 9 → us b 9 (6 * (nR b - 1) + d) (nI v) k = b k := fun k hk => us_ne hk
  have hoff : ∀ r c, r < nR b - 1 → c < nB b r → us b 9 (6 * (nR b - 1) + d) (nI v) 9 (6 * r + c) = b 9 (6 * r + c) := fun r c hr hc => by
    have := ok.B6 (r := r) (by omega)
    exact us_off (Or.inr (by omega))
  have hoN : ∀ r c, r < nR b - 1 → c < nB b r → oN (us b 9 (6 * (nR b - 1) + d) (nI v)) (6 * r + c) = oN b (6 * r + c) := fun r c hr hc => by unfold oN gN; rw [hoff r c hr hc]
  have hDn : Dn b (us b 9 (6 * (nR b - 1) + d) (nI v)) := by
    refine ⟨?_, ?_, fun p _ => by rw [hrow 1 (by omega)], congrFun (hrow 10 (by omega)) 0, hrow 11 (by omega), fun r _ => ⟨by rw [hrow 5 (by omega)], by rw [hrow 6 (by omega)]⟩, fun x hx => ⟨by rw [hrow 7 (by omega)], by rw [hrow 8 (by omega)], us_off (Or.inr (by omega))⟩⟩
    · unfold nP gN; rw [hrow 0 (by omega)]
    · rfl
  obtain ⟨o1, o2, o3, o4, o5, o6, o7, o8, o9, o10, o11, o12, o13, o14⟩ := ok
  refine ⟨⟨o1, o2, o3, o4, o5, o6, o7, fun r hr c hc => ?_, o9, fun r hr c hc => ?_, fun r q hrq hq c e hc he h1 h3 => ?_, o12, o13, o14⟩, hDn⟩
  · obtain ⟨g1, g2, g3, g4⟩ := o8 r hr c hc
    refine ⟨g1, g2, ?_, g4⟩
    by_cases e : 6 * r + c = 6 * (nR b - 1) + d
    · rw [e]; exact Sm.of us_at hv (by omega)
    · exact Sm.cong g3 (us_off (Or.inr e))
  · have hr' : r < nD b := hr
    have hc' : c < nB b r := hc
    rw [hoN r c (by omega) hc']
    exact o10 r hr' c hc'
  · have hr' : r < nR b - 1 := by have : q < nR b := hq; omega
    have hc' : c < nB b r := hc
    rw [hoN r c hr' hc'] at h1 h3
    exact o11 r q hrq hq c e hc he h1 h3
theorem result_both {σ μ b : Mm} (h : Bk σ b) (hm : Bk μ b) (ok : BookOK b) (ht : TabOK b σ) (h0 : σ 64 0 = 0) (w v : Int32) : Both σ μ (f_X6_result σ w v) (f_X7_result μ w v) := by
  have hP := ok.P12
  have hO := ok.O1
  have hOR := ok.OR
  have h20 := ok.R20
  have hm' : Bk (sc μ 12 0) b := hm.sc (by omega)
  by_cases y : nO b = 0
  · refine Both.same (a := -3) h hm ok ht h0 ?_ ?_
    · unfold f_X6_result; rw [Option.bind_some, if_pos ((b4_0 h ok).mpr y)]
    · unfold f_X7_result; rw [Option.bind_some, Option.bind_some, if_pos ((b4_0 hm' ok).mpr y)]
  · have ho1 : nO b = 1 := by omega
    have hb6 := ok.B6 (r := nR b - 1) (by omega)
    have eR : nI (nR b) - (1 : Int32) = nI (nR b - 1) := by rw [show (1 : Int32) = nI 1 from rfl, pk_sub (by omega)]
    have hx0 : f_X6_result σ w v = if w < 0 then some (-1, σ) else if w < nI (nB b (nR b - 1)) then if v < 0 then some (-2, σ) else if v ≤ 6 then (f_X0_boardCell (nI (nR b - 1)) w).bind fun x4 => (f_X2_at 120 9 σ x4).bind fun x5 => (f_X2_put 120 9 σ x4 v).bind fun σ => some (x5, σ) else some (-2, σ) else some (-1, σ) := by
      unfold f_X6_result
      rw [Option.bind_some, if_neg (fun u => y ((b4_0 h ok).mp u)), Option.bind_some, h 3 (by omega), ok.R, eR, row_at (by omega) (by omega), Option.bind_some, h 5 (by omega), ok.B (by omega)]
    have hy0 : f_X7_result μ w v = (f_X7_in w.toInt64 (0 : Int64) (nI (nB b (nR b - 1)) - (1 : Int32)).toInt64).bind fun x4 => if x4 = 0 then some (-1, sc μ 12 0) else (f_X7_in v.toInt64 (0 : Int64) (6 : Int64)).bind fun x5 => if x5 = 0 then some (-2, sc μ 12 0) else (ald 120 (sc μ 12 0 9) (((6 : Int32) * nI (nR b - 1)) + w)).bind fun x6 => (ast 120 (sc μ 12 0) 9 (((6 : Int32) * nI (nR b - 1)) + w) v).bind fun σ => some (x6, σ) := by
      unfold f_X7_result
      rw [Option.bind_some, Option.bind_some, if_neg (fun u => y ((b4_0 hm' ok).mp u)), Option.bind_some, hm' 3 (by omega), ok.R, eR, ald_nI (by omega) (by omega), hm' 5 (by omega), ok.B (by omega), Option.bind_some]
    rcases rngN w (nB b (nR b - 1)) (by omega) with ⟨d, hd, rfl, a1⟩ | ⟨a0, a1⟩
    · rcases rng v 6 (6 : Int64) (by decide) (by omega) with ⟨n, hn, rfl, c1⟩ | ⟨c0, c1⟩
      · obtain ⟨okc, hDn⟩ := res_ok ok ho1 hd hn
        refine ⟨b 9 (6 * (nR b - 1) + d), us σ 9 (6 * (nR b - 1) + d) (nI n), us (sc μ 12 0) 9 (6 * (nR b - 1) + d) (nI n), us b 9 (6 * (nR b - 1) + d) (nI n), ?_, ?_, bk_us h, bk_us hm', okc, (ht.cong (fun k k1 _ => us_ne (by omega))).dn hDn ok, by rw [us_ne (by omega)]; exact h0, fun k hk => us_ne (by omega), fun k hk => by rw [us_ne (by omega), sc_ne (by omega)], by rw [us_ne (by omega), sc_eq']⟩
        · rw [hx0, if_neg (nI_pos (by omega)), if_pos (nI_lt hd (by omega)), if_neg (nI_pos (by omega)), if_pos (show nI n ≤ (6 : Int32) from nI_le (b := 6) hn (by omega)), x_boardCell, Option.bind_some, row_at (by omega) (by omega), Option.bind_some, row_put (by omega) (by omega), Option.bind_some, h 9 (by omega)]
        · rw [hy0, a1, Option.bind_some, if_neg n10, c1, Option.bind_some, if_neg n10, show ((6 : Int32) * nI (nR b - 1)) + nI d = nI (6 * (nR b - 1) + d) by rw [show (6 : Int32) = nI 6 from rfl, pk_mul, nI_add], ald_nI (by omega) (by omega), Option.bind_some, ast_nI (by omega) (by omega), Option.bind_some, hm' 9 (by omega)]
      · refine Both.same (a := -2) h hm ok ht h0 ?_ ?_
        · rw [hx0, if_neg (nI_pos (by omega)), if_pos (nI_lt hd (by omega))]
          rcases c0 with c0 | ⟨c2, c3⟩
          · rw [if_pos c0]
          · rw [if_neg c2, if_neg (show ¬ v ≤ (6 : Int32) from fun z => by
              have a := Int32.le_iff_toInt_le.mp z
              have c := big_toInt (n := 6 + 1) (by omega) c3
              have e : (6 : Int32).toInt = 6 := by decide
              rw [e] at a
              omega)]
        · rw [hy0, a1, Option.bind_some, if_neg n10, c1, Option.bind_some, if_pos rfl]
    · refine Both.same (a := -1) h hm ok ht h0 ?_ ?_
      · rw [hx0]
        rcases a0 with a0 | ⟨a2, a3⟩
        · rw [if_pos a0]
        · rw [if_neg a2, if_neg (nlt_of_le a3)]
      · rw [hy0, a1, Option.bind_some, if_pos rfl]
def gv (b : Mm) (d : Nat) : Nat := if oN b (6 * (nR b - 1) + d) = 0 then 0 else 1
theorem close_ok {b : Mm} (ok : BookOK b) (hO : nO b = 1) (hall : ∀ d, d < nB b (nR b - 1) → 1 ≤ oN b (6 * (nR b - 1) + d)) : BookOK (sc b 4 0) := by
  have hOR := ok.OR
  obtain ⟨o1, o2, o3, o4, o5, o6, o7, o8, o9, o10, o11, o12, o13, o14⟩ := ok
  have h4 : nO (sc b 4 0) = 0 := gN_of (n := 0) (by rw [sc_at]; rfl) (by omega)
  refine ⟨o1, o2, Sm.of (n := 0) (by rw [sc_at]; rfl) (by omega) (by omega), by rw [h4]; omega, o5, o6, o7, o8, o9, fun r hr c hc => ?_, o11, o12, o13, o14⟩
  have hr' : r < nR b := by
    have e : nD (sc b 4 0) = nR b - nO (sc b 4 0) := rfl
    rw [e, h4] at hr
    omega
  have hc' : c < nB b r := hc
  by_cases z : r = nR b - 1
  · subst z; exact hall c hc'
  · exact o10 r (by unfold nD; omega) c hc'
theorem gv_all {b : Mm} {n : Nat} (h : n ≤ sm (gv b) n) : ∀ d, d < n → 1 ≤ oN b (6 * (nR b - 1) + d) := by
  intro d hd
  refine Classical.byContradiction (fun z => ?_)
  have := sm_lt (f := gv b) (g := fun _ => 1) (j := d) (n := n) (fun k _ => by unfold gv; split <;> omega) hd (by unfold gv; rw [if_pos (by omega)]; omega)
  rw [sm_one] at this
  omega
theorem close_both {σ μ b : Mm} (h : Bk σ b) (hm : Bk μ b) (ok : BookOK b) (ht : TabOK b σ) (h0 : σ 64 0 = 0) : Both σ μ (f_X6_close σ) (f_X7_close μ) := by
  have hO := ok.O1
  have hOR := ok.OR
  have h20 := ok.R20
  have hm' : Bk (sc μ 12 0) b := hm.sc (by omega)
  by_cases y : nO b = 0
  · refine Both.same (a := -3) h hm ok ht h0 ?_ ?_
    · unfold f_X6_close; rw [Option.bind_some, if_pos ((b4_0 h ok).mpr y)]
    · unfold f_X7_close; rw [Option.bind_some, Option.bind_some, if_pos ((b4_0 hm' ok).mpr y)]
  · have ho1 : nO b = 1 := by omega
    have hb6 := ok.B6 (r := nR b - 1) (by omega)
    have eR : nI (nR b) - (1 : Int32) = nI (nR b - 1) := by rw [show (1 : Int32) = nI 1 from rfl, pk_sub (by omega)]
    have hsl : sm (gv b) (nB b (nR b - 1)) ≤ 6 := by
      have := sm_le (f := gv b) (c := 1) (n := nB b (nR b - 1)) (fun k _ => by unfold gv; split <;> omega)
      omega
    have xc : f_X0_countOutcomes σ (nI (nR b - 1)) = some (nI (sm (gv b) (nB b (nR b - 1)))) := by
      unfold f_X0_countOutcomes
      refine wh2_seq (nB b (nR b - 1)) (fun k => nI (sm (gv b) k)) (fun k => nI k) _ (fun k hk r => ?_) (fun r => ?_) 5000 (by omega)
      · have o6 := ok.o6 (r := nR b - 1) (by omega) hk
        unfold f_X0_countOutcomes_s4
        rw [row_at (by omega) (by omega), Option.bind_some, h 5 (by omega), ok.B (by omega), if_neg (nI_ge hk (by omega)), x_boardCell, Option.bind_some, row_at (by omega) (by omega), Option.bind_some, h 9 (by omega), ok.o (by omega) hk, show nI k + (1 : Int32) = nI (k + 1) from nI_1 k, sm_succ]
        unfold gv
        by_cases z : oN b (6 * (nR b - 1) + k) = 0
        · rw [if_pos (by rw [z]; rfl), if_pos z]; rfl
        · rw [if_neg (nI_ne0 (by omega) (by omega)), if_neg z, nI_1]
      · unfold f_X0_countOutcomes_s4
        rw [row_at (by omega) (by omega), Option.bind_some, h 5 (by omega), ok.B (by omega), if_pos (nI_le (Nat.le_refl _) (by omega))]
    have mc : f_X7_withResult (sc μ 12 0) = some (nI (sm (gv b) (nB b (nR b - 1)))) := by
      unfold f_X7_withResult
      refine wh2_seq (nB b (nR b - 1)) (fun k => nI (sm (gv b) k)) (fun k => nI k) _ (fun k hk r => ?_) (fun r => ?_) 5000 (by omega)
      · have o6 := ok.o6 (r := nR b - 1) (by omega) hk
        unfold f_X7_withResult_s4
        rw [hm' 3 (by omega), ok.R, eR, ald_nI (by omega) (by omega), Option.bind_some, hm' 5 (by omega), ok.B (by omega), if_neg (nI_ge hk (by omega)), show ((6 : Int32) * nI (nR b - 1)) + nI k = nI (6 * (nR b - 1) + k) by rw [show (6 : Int32) = nI 6 from rfl, pk_mul, nI_add], ald_nI (by omega) (by omega), Option.bind_some, hm' 9 (by omega), ok.o (by omega) hk, show nI k + (1 : Int32) = nI (k + 1) from nI_1 k, sm_succ]
        unfold gv
        by_cases z : oN b (6 * (nR b - 1) + k) = 0
        · rw [if_pos (by rw [z]; decide), if_pos z, Int32.add_zero]; rfl
        · rw [if_neg (nI_nle (by omega) (by omega)), if_neg z, nI_1]
      · unfold f_X7_withResult_s4
        rw [hm' 3 (by omega), ok.R, eR, ald_nI (by omega) (by omega), Option.bind_some, hm' 5 (by omega), ok.B (by omega), if_pos (nI_le (Nat.le_refl _) (by omega))]
    by_cases z : nB b (nR b - 1) ≤ sm (gv b) (nB b (nR b - 1))
    · have okc := close_ok ok ho1 (gv_all z)
      have hb : Bk (sc σ 4 0) (sc b 4 0) := bk_sc h
      obtain ⟨τ, d1, d2, d3⟩ := x_reckon hb okc
      refine ⟨nI (nR b), τ, sc (sc μ 12 0) 4 0, sc b 4 0, ?_, ?_, fun k hk => by rw [d2 k (by omega)]; exact hb k hk, bk_sc hm', okc, d3, by rw [d2 64 (by omega), sc_ne (by omega)]; exact h0, fun k hk => by rw [d2 k (by omega), sc_ne (by omega)], fun k hk => by rw [sc_ne (by omega), sc_ne (by omega)], by rw [sc_ne (by omega), sc_eq']⟩
      · unfold f_X6_close
        rw [Option.bind_some, if_neg (fun u => y ((b4_0 h ok).mp u)), Option.bind_some, h 3 (by omega), ok.R, eR, xc, Option.bind_some, row_at (by omega) (by omega), Option.bind_some, h 5 (by omega), ok.B (by omega), if_pos (nI_le z (by omega)), Option.bind_some, d1, Option.bind_some, Option.bind_some, d2 3 (by omega), sc_ne (by omega), h 3 (by omega), ok.R]
      · unfold f_X7_close
        rw [Option.bind_some, Option.bind_some, if_neg (fun u => y ((b4_0 hm' ok).mp u)), mc, Option.bind_some, Option.bind_some, hm' 3 (by omega), ok.R, eR, ald_nI (by omega) (by omega), Option.bind_some, hm' 5 (by omega), ok.B (by omega), if_pos (nI_le z (by omega)), Option.bind_some, Option.bind_some, sc_ne (by omega), hm' 3 (by omega), ok.R]
    · refine Both.same (a := -3) h hm ok ht h0 ?_ ?_
      · unfold f_X6_close
        rw [Option.bind_some, if_neg (fun u => y ((b4_0 h ok).mp u)), Option.bind_some, h 3 (by omega), ok.R, eR, xc, Option.bind_some, row_at (by omega) (by omega), Option.bind_some, h 5 (by omega), ok.B (by omega), if_neg (nI_ge (by omega) (by omega))]
      · unfold f_X7_close
        rw [Option.bind_some, Option.bind_some, if_neg (fun u => y ((b4_0 hm' ok).mp u)), mc, Option.bind_some, Option.bind_some, hm' 3 (by omega), ok.R, eR, ald_nI (by omega) (by omega), Option.bind_some, hm' 5 (by omega), ok.B (by omega), if_neg (nI_ge (by omega) (by omega))]
