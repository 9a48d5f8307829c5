/-! ===== line and paper ===== -/
def mrkN (o : Nat) : Nat := if o = 1 then 49 else if o = 2 then 61 else if o = 3 then 48 else if o = 4 then 43 else 45
theorem mrk_eq {b : Mm} {x c : Nat} (h1 : 1 ≤ oN b c) (h6 : oN b c ≤ 6) : mrkN (outX b x c) = if oN b c ≤ 3 then if mk b x c = 2 then 49 else if mk b x c = 1 then 61 else 48 else if mk b x c = 2 then 43 else 45 := by
  unfold mrkN outX mk
  (repeat' split) <;> omega
theorem x_markFor {o : Nat} (h : o ≤ 6) : f_X6_markFor (nI o) = some (nI (mrkN o)) := by
  have c1 : (nI o = (1 : Int32)) ↔ o = 1 := lit_eq 1 (by omega) (by omega)
  have c2 : (nI o = (2 : Int32)) ↔ o = 2 := lit_eq 2 (by omega) (by omega)
  have c3 : (nI o = (3 : Int32)) ↔ o = 3 := lit_eq 3 (by omega) (by omega)
  have c4 : (nI o = (4 : Int32)) ↔ o = 4 := lit_eq 4 (by omega) (by omega)
  unfold f_X6_markFor mrkN
  by_cases z1 : o = 1
  · rw [if_pos (c1.mpr z1), if_pos z1]; rfl
  · rw [if_neg (fun q => z1 (c1.mp q)), if_neg z1]
    by_cases z2 : o = 2
    · rw [if_pos (c2.mpr z2), if_pos z2]; rfl
    · rw [if_neg (fun q => z2 (c2.mp q)), if_neg z2]
      by_cases z3 : o = 3
      · rw [if_pos (c3.mpr z3), if_pos z3]; rfl
      · rw [if_neg (fun q => z3 (c3.mp q)), if_neg z3]
        by_cases z4 : o = 4
        · rw [if_pos (c4.mpr z4), if_pos z4]; rfl
        · rw [if_neg (fun q => z4 (c4.mp q)), if_neg z4]; rfl
def ShP (σ0 μ0 τ ρ : Mm) (L : Nat) : Prop := τ 73 0 = nI L ∧ ρ 24 0 = nI L ∧ (∀ i, i < L → τ 72 i = ρ 23 i) ∧ (∀ k, k ≠ 72 → k ≠ 73 → τ k = σ0 k) ∧ ∀ k, k ≠ 23 → k ≠ 24 → ρ k = μ0 k
theorem ShP.put {σ0 μ0 τ ρ : Mm} {L : Nat} (h : ShP σ0 μ0 τ ρ L) (hL : L < 96) (c : Int32) : ∃ τ' ρ', f_X5_append_sheet τ c = some τ' ∧ f_X7_writes ρ c = some ρ' ∧ ShP σ0 μ0 τ' ρ' (L + 1) := by
  obtain ⟨a1, a2, a3, a4, a5⟩ := h
  refine ⟨sc (us τ 72 L c) 73 (nI (L + 1)), sc (us ρ 23 L c) 24 (nI (L + 1)), ?_, ?_, sc_at, sc_at, fun i hi => ?_, fun k h1 h2 => ?_, fun k h1 h2 => ?_⟩
  · unfold f_X5_append_sheet
    rw [Option.bind_some, a1, row_put (by omega) (by omega), Option.bind_some, Option.bind_some, us_ne (by omega), a1, show nI L + (1 : Int32) = nI (L + 1) from nI_1 L, Option.bind_some]
  · unfold f_X7_writes
    rw [Option.bind_some, a2, ast_nI (by omega) (by omega), Option.bind_some, Option.bind_some, us_ne (by omega), a2, show nI L + (1 : Int32) = nI (L + 1) from nI_1 L, Option.bind_some]
  · rw [sc_ne (by omega), sc_ne (by omega)]
    by_cases z : i = L
    · rw [z, us_at, us_at]
    · rw [us_off (Or.inr z), us_off (Or.inr z)]; exact a3 i (by omega)
  · rw [sc_ne h2, us_ne h1]; exact a4 k h1 h2
  · rw [sc_ne h2, us_ne h1]; exact a5 k h1 h2
theorem nz_ten (x : Int32) : nz (10 : Int32) x = some x := by unfold nz; rw [if_neg (by decide)]
theorem ShP.dig {σ0 μ0 τ ρ : Mm} {L : Nat} (h : ShP σ0 μ0 τ ρ L) (hL : L < 96) (w : Int32) : ∃ τ' ρ', f_X5_appendNumber_sheet_j17 τ w = some τ' ∧ f_X7_writesNumber_j17 ρ w = some ρ' ∧ ShP σ0 μ0 τ' ρ' (L + 1) := by
  obtain ⟨τ', ρ', b1, b2, b3⟩ := h.put hL ((48 : Int32) + (w - w / (10 : Int32) * (10 : Int32)))
  refine ⟨τ', ρ', ?_, ?_, b3⟩
  · unfold f_X5_appendNumber_sheet_j17; rw [nz_ten, Option.bind_some, b1, Option.bind_some]
  · unfold f_X7_writesNumber_j17; rw [nz_ten, Option.bind_some, b2, Option.bind_some]
theorem ShP.num {σ0 μ0 τ ρ : Mm} {L : Nat} (h : ShP σ0 μ0 τ ρ L) (hL : L + 2 ≤ 96) (w : Int32) : ∃ τ' ρ' L', L' ≤ L + 2 ∧ f_X5_appendNumber_sheet τ w = some τ' ∧ f_X7_writesNumber ρ w = some ρ' ∧ ShP σ0 μ0 τ' ρ' L' := by
  have c : (w < (10 : Int32)) ↔ w ≤ (9 : Int32) := by
    rw [Int32.lt_iff_toInt_lt, Int32.le_iff_toInt_le, show (10 : Int32).toInt = 10 by decide, show (9 : Int32).toInt = 9 by decide]
    omega
  by_cases z : w < (10 : Int32)
  · obtain ⟨τ', ρ', b1, b2, b3⟩ := h.dig (by omega) w
    refine ⟨τ', ρ', L + 1, by omega, ?_, ?_, b3⟩
    · unfold f_X5_appendNumber_sheet; rw [if_pos z, b1]
    · unfold f_X7_writesNumber; rw [if_pos (c.mp z), b2]
  · obtain ⟨τ1, ρ1, b1, b2, b3⟩ := h.put (by omega) ((48 : Int32) + w / (10 : Int32))
    obtain ⟨τ2, ρ2, c1, c2, c3⟩ := b3.dig (by omega) w
    refine ⟨τ2, ρ2, L + 1 + 1, by omega, ?_, ?_, c3⟩
    · unfold f_X5_appendNumber_sheet; rw [if_neg z, nz_ten, Option.bind_some, b1, Option.bind_some, c1]
    · unfold f_X7_writesNumber; rw [if_neg (fun q => z (c.mpr q)), nz_ten, Option.bind_some, b2, Option.bind_some, c2]
theorem ShP.bkx {σ0 μ0 τ ρ b : Mm} {L : Nat} (h : ShP σ0 μ0 τ ρ L) (hb : Bk σ0 b) : Bk τ b := fun k hk => by rw [h.2.2.2.1 k (by omega) (by omega)]; exact hb k hk
theorem ShP.bkm {σ0 μ0 τ ρ b : Mm} {L : Nat} (h : ShP σ0 μ0 τ ρ L) (hb : Bk μ0 b) : Bk ρ b := fun k hk => by rw [h.2.2.2.2 k (by omega) (by omega)]; exact hb k hk
theorem ShP.rnd {σ0 μ0 τ ρ b : Mm} {L p r : Nat} (h : ShP σ0 μ0 τ ρ L) (hb : Bk σ0 b) (hm : Bk μ0 b) (ok : BookOK b) (hp : p < nP b) (hr : r < nD b) (hL : L + 4 ≤ 96) : ∃ τ1 τ' ρ' L', L' ≤ L + 4 ∧ f_X5_append_sheet τ (32 : Int32) = some τ1 ∧ f_X6_writeRound τ1 (nI p) (nI r) = some τ' ∧ f_X7_writesRound ρ (nI p) (nI r) = some ρ' ∧ ShP σ0 μ0 τ' ρ' L' := by
  have hr' : r < nR b := by have := ok.DR; omega
  have hP := ok.P12
  have h20 := ok.R20
  obtain ⟨τ1, ρ1, a1, a2, h1⟩ := h.put (by omega) (32 : Int32)
  have bx := h1.bkx hb
  have bm := h1.bkm hm
  have bm0 := h.bkm hm
  cases hbd : brd b p r with
  | none =>
    by_cases z : b 6 r = nI p
    · obtain ⟨τ2, ρ2, c1, c2, c3⟩ := h1.put (by omega) (66 : Int32)
      refine ⟨τ1, τ2, ρ2, L + 1 + 1, by omega, a1, ?_, ?_, c3⟩
      · unfold f_X6_writeRound f_X6_writeRound_j40
        rw [x_boardWith bx ok hp hr', Option.bind_some, hbd, if_neg (show ¬ (0 : Int32) ≤ d5 r none from (by decide : ¬ (0 : Int32) ≤ -5)), row_at (by omega) (by omega), Option.bind_some, bx 6 (by omega), if_pos z, c1, Option.bind_some]
      · unfold f_X7_writesRound f_X7_writesRound_j35
        rw [m_boardOf bm0 ok hp hr', Option.bind_some, a2, Option.bind_some, hbd, if_neg (show ¬ (0 : Int32) ≤ oI none from (by decide : ¬ (0 : Int32) ≤ -1)), ald_nI (by omega) (by omega), Option.bind_some, bm 6 (by omega), if_pos z, c2, Option.bind_some]
    · obtain ⟨τ2, ρ2, c1, c2, c3⟩ := h1.put (by omega) (122 : Int32)
      refine ⟨τ1, τ2, ρ2, L + 1 + 1, by omega, a1, ?_, ?_, c3⟩
      · unfold f_X6_writeRound f_X6_writeRound_j40
        rw [x_boardWith bx ok hp hr', Option.bind_some, hbd, if_neg (show ¬ (0 : Int32) ≤ d5 r none from (by decide : ¬ (0 : Int32) ≤ -5)), row_at (by omega) (by omega), Option.bind_some, bx 6 (by omega), if_neg z, c1, Option.bind_some]
      · unfold f_X7_writesRound f_X7_writesRound_j35
        rw [m_boardOf bm0 ok hp hr', Option.bind_some, a2, Option.bind_some, hbd, if_neg (show ¬ (0 : Int32) ≤ oI none from (by decide : ¬ (0 : Int32) ≤ -1)), ald_nI (by omega) (by omega), Option.bind_some, bm 6 (by omega), if_neg z, c2, Option.bind_some]
  | some c =>
    obtain ⟨d, hd, rfl, hon⟩ := brd_some hbd
    have hb6 := ok.B6 hr'
    have o6 := ok.o6 hr' hd
    have o1 := ok.done hr hd
    have e5 : d5 r (some (6 * r + d)) = nI d := congrArg nI (by omega)
    obtain ⟨τ2, ρ2, L2, l2, b1, b2, h2⟩ := h1.num (by omega) (nI (opp b p (6 * r + d)))
    have bx2 := h2.bkx hb
    have bm2 := h2.bkm hm
    obtain ⟨τ3, ρ3, c1, c2, h3⟩ := h2.put (by omega) (nI (mrkN (outX b p (6 * r + d))))
    have hmk := mrk_eq (x := p) o1 o6
    have m2 : mk b p (6 * r + d) ≤ 2 := by unfold mk; (repeat' split) <;> omega
    have w1 : (nI (oN b (6 * r + d)) ≤ (3 : Int32)) ↔ oN b (6 * r + d) ≤ 3 := ⟨fun q => Nat.not_lt.mp (fun z => (show ¬ nI (oN b (6 * r + d)) ≤ (3 : Int32) from nI_ge (b := oN b (6 * r + d)) (a := 3) z (by omega)) q), fun q => nI_le (b := 3) q (by omega)⟩
    have w2 : (nI (mk b p (6 * r + d)) = (2 : Int32)) ↔ mk b p (6 * r + d) = 2 := lit_eq 2 (by omega) (by omega)
    have w3 : (nI (mk b p (6 * r + d)) = (1 : Int32)) ↔ mk b p (6 * r + d) = 1 := lit_eq 1 (by omega) (by omega)
    refine ⟨τ1, τ3, ρ3, L2 + 1, by omega, a1, ?_, ?_, h3⟩
    · unfold f_X6_writeRound
      rw [x_boardWith bx ok hp hr', Option.bind_some, hbd, e5, if_pos (nI_pos' (by omega)), x_otherAt bx ok hr' hd hp, Option.bind_some, b1, Option.bind_some, x_outcomeFor bx2 ok hr' hd hp, Option.bind_some, x_markFor (outX_le o6), Option.bind_some, c1, Option.bind_some]
    · unfold f_X7_writesRound
      rw [m_boardOf bm0 ok hp hr', Option.bind_some, a2, Option.bind_some, hbd, show oI (some (6 * r + d)) = nI (6 * r + d) from rfl, if_pos (nI_pos' (by omega)), m_madeOn bm ok hr' hp hbd, Option.bind_some, m_otherOn bm ok hr' hp hbd, Option.bind_some, b2, Option.bind_some, ald_nI (by omega) (by omega), Option.bind_some, bm2 9 (by omega), ok.o hr' hd]
      unfold f_X7_writesRound_j108
      by_cases y1 : oN b (6 * r + d) ≤ 3
      · rw [if_pos y1] at hmk
        rw [if_pos (w1.mpr y1)]
        by_cases y2 : mk b p (6 * r + d) = 2
        · rw [if_pos y2] at hmk
          rw [hmk] at c2
          rw [if_pos (w2.mpr y2), show f_X7_writes ρ2 (49 : Int32) = some ρ3 from c2, Option.bind_some]
        · rw [if_neg y2] at hmk
          rw [if_neg (fun q => y2 (w2.mp q))]
          by_cases y3 : mk b p (6 * r + d) = 1
          · rw [if_pos y3] at hmk
            rw [hmk] at c2
            rw [if_pos (w3.mpr y3), show f_X7_writes ρ2 (61 : Int32) = some ρ3 from c2, Option.bind_some]
          · rw [if_neg y3] at hmk
            rw [hmk] at c2
            rw [if_neg (fun q => y3 (w3.mp q)), show f_X7_writes ρ2 (48 : Int32) = some ρ3 from c2, Option.bind_some]
      · rw [if_neg y1] at hmk
        rw [if_neg (fun q => y1 (w1.mp q))]
        by_cases y2 : mk b p (6 * r + d) = 2
        · rw [if_pos y2] at hmk
          rw [hmk] at c2
          rw [if_pos (w2.mpr y2), show f_X7_writes ρ2 (43 : Int32) = some ρ3 from c2, Option.bind_some]
        · rw [if_neg y2] at hmk
          rw [hmk] at c2
          rw [if_neg (fun q => y2 (w2.mp q)), show f_X7_writes ρ2 (45 : Int32) = some ρ3 from c2, Option.bind_some]
theorem line_loop {σ0 μ0 b : Mm} {p : Nat} (hb : Bk σ0 b) (hm : Bk μ0 b) (ok : BookOK b) (hp : p < nP b) : ∀ d k F τ ρ L, k + d = nD b → d < F → ShP σ0 μ0 τ ρ L → L ≤ 7 + 4 * k → ∃ τ' ρ' L', wh2 (f_X6_line_s50 (nI p)) F τ (nI k) = some (nI L', τ') ∧ wh2 (f_X7_line_s67 (nI p)) F ρ (nI k) = some (nI L', ρ') ∧ ShP σ0 μ0 τ' ρ' L' ∧ L' ≤ 87 := by
  have hD := ok.D20
  intro d
  induction d with
  | zero =>
    intro k F τ ρ L hk hF h hL
    obtain ⟨F, rfl⟩ : ∃ G, F = G + 1 := ⟨F - 1, by omega⟩
    refine ⟨τ, ρ, L, ?_, ?_, h, by omega⟩
    · show f_X6_line_s50 (nI p) _ τ (nI k) = _
      unfold f_X6_line_s50 f_X6_line_j82
      rw [x_countDone (h.bkx hb) ok, Option.bind_some, if_pos (nI_le (by omega) (by omega)), Option.bind_some, h.1]
    · show f_X7_line_s67 (nI p) _ ρ (nI k) = _
      unfold f_X7_line_s67 f_X7_line_j87
      rw [m_done (h.bkm hm) ok, Option.bind_some, if_pos (nI_le (by omega) (by omega)), Option.bind_some, h.2.1]
  | succ d ih =>
    intro k F τ ρ L hk hF h hL
    obtain ⟨F, rfl⟩ : ∃ G, F = G + 1 := ⟨F - 1, by omega⟩
    obtain ⟨τ1, τ2, ρ2, L2, l2, b1, b2, b3, h2⟩ := h.rnd hb hm ok hp (show k < nD b by omega) (by omega)
    obtain ⟨τ', ρ', L', r1, r2, r3, r4⟩ := ih (k + 1) F τ2 ρ2 L2 (by omega) (by omega) h2 (by omega)
    refine ⟨τ', ρ', L', ?_, ?_, r3, r4⟩
    · have stp : ∀ q, f_X6_line_s50 (nI p) q τ (nI k) = q τ2 (nI (k + 1)) := by
        intro q
        unfold f_X6_line_s50
        rw [x_countDone (h.bkx hb) ok, Option.bind_some, if_neg (nI_ge (by omega) (by omega)), b1, Option.bind_some, b2, Option.bind_some, show nI k + (1 : Int32) = nI (k + 1) from nI_1 k]
      exact (stp _).trans r1
    · have stp : ∀ q, f_X7_line_s67 (nI p) q ρ (nI k) = q ρ2 (nI (k + 1)) := by
        intro q
        unfold f_X7_line_s67
        rw [m_done (h.bkm hm) ok, Option.bind_some, if_neg (nI_ge (by omega) (by omega)), b3, Option.bind_some, show nI k + (1 : Int32) = nI (k + 1) from nI_1 k]
      exact (stp _).trans r2
def SheetR (σ μ : Mm) : Prop := ∃ L, L ≤ 96 ∧ σ 73 0 = nI L ∧ μ 24 0 = nI L ∧ ∀ i, i < L → σ 72 i = μ 23 i
def SheetStep (σ μ : Mm) (x y : Option (Int32 × Mm)) : Prop := ∃ a τ ρ, x = some (a, τ) ∧ y = some (a, ρ) ∧ SheetR τ ρ ∧ (∀ k, k ≠ 72 → k ≠ 73 → τ k = σ k) ∧ (∀ k, k ≠ 12 → k ≠ 23 → k ≠ 24 → ρ k = μ k) ∧ ρ 12 = fun _ => 0
theorem line_both {σ μ b : Mm} (h : Bk σ b) (hm : Bk μ b) (ok : BookOK b) (ht : TabOK b σ) (hS : SheetR σ μ) (w : Int32) : SheetStep σ μ (f_X6_line σ w) (f_X7_line μ w) := by
  have hP := ok.P12
  have hm' : Bk (sc μ 12 0) b := hm.sc (by omega)
  rcases isPl h hm' ok w with ⟨p, hp, rfl, a1, a2⟩ | ⟨a1, a2⟩
  · have h0 : ShP σ (sc μ 12 0) (sc σ 73 0) (sc (sc μ 12 0) 24 0) 0 := ⟨sc_at, sc_at, fun i hi => absurd hi (Nat.not_lt_zero _), fun k _ h2 => sc_ne h2, fun k _ h2 => sc_ne h2⟩
    obtain ⟨τ1, ρ1, L1, l1, b1, b2, h1⟩ := h0.num (by omega) (nI p)
    obtain ⟨τ2, ρ2, c1, c2, h2⟩ := h1.put (by omega) (32 : Int32)
    obtain ⟨τ3, ρ3, L3, l3, d1, d2, h3⟩ := h2.num (by omega) (nI (pts b p / 2))
    have hpt := pts_le ok p
    have tie : f_X4_tieOf τ2 (nI p) (0 : Int32) = some (nI (pts b p)) := by
      have t0 := x_tieOf (σ := τ2) (x := p) (t := 0) (by omega) (by omega)
      rw [h2.2.2.2.1 50 (by omega) (by omega), (ht.1 p hp).1 0 (by omega)] at t0
      exact t0
    have dv : (nz (2 : Int32) (nI (pts b p) / (2 : Int32))) = some (nI (pts b p / 2)) := nz_div (d := 2) (by omega) (by omega) (by omega)
    have od := odd_test (n := pts b p) (by omega)
    by_cases z : pts b p % 2 = 0
    · obtain ⟨τ', ρ', L', r1, r2, r3, r4⟩ := line_loop h hm' ok hp (nD b) 0 5000 τ3 ρ3 L3 (by omega) (by have := ok.D20; omega) h3 (by omega)
      refine ⟨nI L', τ', ρ', ?_, ?_, ⟨L', by omega, r3.1, r3.2.1, r3.2.2.1⟩, r3.2.2.2.1, fun k k1 k2 k3 => by rw [r3.2.2.2.2 k k2 k3, sc_ne k1], by rw [r3.2.2.2.2 12 (by omega) (by omega), sc_eq']⟩
      · unfold f_X6_line f_X6_writeHalved
        rw [a1, Option.bind_some, if_neg n10, Option.bind_some, b1, Option.bind_some, c1, Option.bind_some, tie, Option.bind_some, dv, Option.bind_some, d1, Option.bind_some, od, Option.bind_some, z, if_pos (show nI 0 = (0 : Int32) from rfl), Option.bind_some]
        exact r1
      · unfold f_X7_line
        rw [Option.bind_some, a2, Option.bind_some, if_neg n10, Option.bind_some, b2, Option.bind_some, c2, Option.bind_some, m_pointsOf (h2.bkm hm') ok hp, Option.bind_some, dv, Option.bind_some, d2, Option.bind_some, m_pointsOf (h3.bkm hm') ok hp, Option.bind_some, od, Option.bind_some, z, if_neg (show ¬ nI 0 = (1 : Int32) by decide)]
        exact r2
    · have z1 : pts b p % 2 = 1 := by omega
      obtain ⟨τ4, ρ4, e1, e2, h4⟩ := h3.put (by omega) (46 : Int32)
      obtain ⟨τ5, ρ5, g1, g2, h5⟩ := h4.put (by omega) (53 : Int32)
      obtain ⟨τ', ρ', L', r1, r2, r3, r4⟩ := line_loop h hm' ok hp (nD b) 0 5000 τ5 ρ5 (L3 + 1 + 1) (by omega) (by have := ok.D20; omega) h5 (by omega)
      refine ⟨nI L', τ', ρ', ?_, ?_, ⟨L', by omega, r3.1, r3.2.1, r3.2.2.1⟩, r3.2.2.2.1, fun k k1 k2 k3 => by rw [r3.2.2.2.2 k k2 k3, sc_ne k1], by rw [r3.2.2.2.2 12 (by omega) (by omega), sc_eq']⟩
      · unfold f_X6_line f_X6_writeHalved
        rw [a1, Option.bind_some, if_neg n10, Option.bind_some, b1, Option.bind_some, c1, Option.bind_some, tie, Option.bind_some, dv, Option.bind_some, d1, Option.bind_some, od, Option.bind_some, z1, if_neg (show ¬ nI 1 = (0 : Int32) by decide), e1, Option.bind_some, g1, Option.bind_some, Option.bind_some]
        exact r1
      · unfold f_X7_line
        rw [Option.bind_some, a2, Option.bind_some, if_neg n10, Option.bind_some, b2, Option.bind_some, c2, Option.bind_some, m_pointsOf (h2.bkm hm') ok hp, Option.bind_some, dv, Option.bind_some, d2, Option.bind_some, m_pointsOf (h3.bkm hm') ok hp, Option.bind_some, od, Option.bind_some, z1, if_pos (show nI 1 = (1 : Int32) from rfl), e2, Option.bind_some, g2, Option.bind_some]
        exact r2
  · obtain ⟨L, q1, q2, q3, q4⟩ := hS
    refine ⟨-1, σ, sc μ 12 0, ?_, ?_, ⟨L, q1, q2, by rw [sc_ne (by omega), q3], fun i hi => by rw [sc_ne (by omega)]; exact q4 i hi⟩, fun _ _ _ => rfl, fun k k1 _ _ => sc_ne k1, sc_eq'⟩
    · unfold f_X6_line; rw [a1, Option.bind_some, if_pos rfl]
    · unfold f_X7_line; rw [Option.bind_some, a2, Option.bind_some, if_pos rfl]
theorem paper_both {σ μ : Mm} (hS : SheetR σ μ) (w : Int32) : ∃ a, f_X6_paper σ w = some a ∧ f_X7_paper μ w = some (a, sc μ 12 0) := by
  obtain ⟨L, q1, q2, q3, q4⟩ := hS
  rcases rngN w L (by omega) with ⟨i, hi, rfl, c1⟩ | ⟨c0, c1⟩
  · refine ⟨σ 72 i, ?_, ?_⟩
    · unfold f_X6_paper f_X5_byteAt_sheet
      rw [if_neg (nI_pos (by omega)), q2, if_neg (nI_ge hi (by omega)), row_at (by omega) (by omega), Option.bind_some, Option.bind_some]
    · unfold f_X7_paper
      rw [Option.bind_some, Option.bind_some, sc_ne (by omega), q3, c1, Option.bind_some, if_neg n10, ald_nI (by omega) (by omega), Option.bind_some, sc_ne (by omega), q4 i hi]
  · refine ⟨-1, ?_, ?_⟩
    · unfold f_X6_paper
      rcases c0 with c0 | ⟨c2, c3⟩
      · rw [if_pos c0]
      · rw [if_neg c2, q2, if_pos c3]
    · unfold f_X7_paper
      rw [Option.bind_some, Option.bind_some, sc_ne (by omega), q3, c1, Option.bind_some, if_pos rfl]
