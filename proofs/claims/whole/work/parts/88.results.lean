/-! ===== results ===== -/
theorem firstB (q : Nat → Bool) : ∀ m, ∃ K, K ≤ m ∧ (∀ i, i < K → q i = true) ∧ (K = m ∨ q K = false)
  | 0 => ⟨0, Nat.le_refl _, fun i hi => absurd hi (Nat.not_lt_zero _), Or.inl rfl⟩
  | m + 1 => by
    obtain ⟨K, h1, h2, h3⟩ := firstB q m
    rcases h3 with h3 | h3
    · by_cases z : q m = true
      · refine ⟨m + 1, Nat.le_refl _, fun i hi => ?_, Or.inl rfl⟩
        by_cases e : i = m
        · rw [e]; exact z
        · exact h2 i (by omega)
      · exact ⟨m, by omega, fun i hi => h2 i (by omega), Or.inr (Bool.eq_false_iff.mpr z)⟩
    · exact ⟨K, by omega, h2, Or.inr h3⟩
def rsN (v : Nat) : Nat := if v = 46 then 0 else if v = 49 then 1 else if v = 61 then 2 else if v = 48 then 3 else if v = 43 then 4 else if v = 45 then 5 else if v = 120 then 6 else 7
def rsI (v : Nat) : Int32 := if rsN v = 7 then -1 else nI (rsN v)
theorem i2c_tab : ∀ v, v < 128 → ((nI v).toUInt32 % 65536).toInt32 = nI v := by decide +kernel
theorem rs_tab : ∀ v, v < 128 → f_J0_indexOf_0f7a4 0 (nI v) = some (rsI v) := by decide +kernel
theorem rs_tabm : ∀ v, v < 128 → f_X7_resultOf (nI v) = some (rsI v) := by decide +kernel
theorem rs_le (v : Nat) : rsN v ≤ 7 := by unfold rsN; (repeat' split) <;> omega
theorem x_byte {σ : Mm} {i : Nat} (hi : i < 40) : f_X5_byteAt_tape σ (nI i) = some (σ 70 i) := by
  unfold f_X5_byteAt_tape
  rw [row_at hi (by omega), Option.bind_some]
theorem x_countOut {σ b : Mm} (h : Bk σ b) (ok : BookOK b) (hR : 1 ≤ nR b) : f_X0_countOutcomes σ (nI (nR b - 1)) = some (nI (sm (gv b) (nB b (nR b - 1)))) := by
  have h20 := ok.R20
  have hb6 := ok.B6 (r := nR b - 1) (by omega)
  unfold f_X0_countOutcomes
  refine wh2_seq (nB b (nR b - 1)) (fun k => nI (sm (gv b) k)) (fun k => nI k) _ (fun k hk r => ?_) (fun r => ?_) 5000 (by omega)
  · have o6 := ok.o6 (r := nR b - 1) (by omega) hk
    unfold f_X0_countOutcomes_s4
    rw [row_at (by omega) (by omega), Option.bind_some, h 5 (by omega), ok.B (by omega), if_neg (nI_ge hk (by omega)), x_boardCell, Option.bind_some, row_at (by omega) (by omega), Option.bind_some, h 9 (by omega), ok.o (by omega) hk, show nI k + (1 : Int32) = nI (k + 1) from nI_1 k, sm_succ]
    unfold gv
    by_cases z : oN b (6 * (nR b - 1) + k) = 0
    · rw [if_pos (by rw [z]; rfl), if_pos z]; rfl
    · rw [if_neg (nI_ne0 (by omega) (by omega)), if_neg z, nI_1]
  · unfold f_X0_countOutcomes_s4
    rw [row_at (by omega) (by omega), Option.bind_some, h 5 (by omega), ok.B (by omega), if_pos (nI_le (Nat.le_refl _) (by omega))]
theorem m_withRes {μ b : Mm} (hm' : Bk μ b) (ok : BookOK b) (hR : 1 ≤ nR b) : f_X7_withResult μ = some (nI (sm (gv b) (nB b (nR b - 1)))) := by
  have h20 := ok.R20
  have hb6 := ok.B6 (r := nR b - 1) (by omega)
  have eR : nI (nR b) - (1 : Int32) = nI (nR b - 1) := by rw [show (1 : Int32) = nI 1 from rfl, pk_sub (by omega)]
  unfold f_X7_withResult
  refine wh2_seq (nB b (nR b - 1)) (fun k => nI (sm (gv b) k)) (fun k => nI k) _ (fun k hk r => ?_) (fun r => ?_) 5000 (by omega)
  · have o6 := ok.o6 (r := nR b - 1) (by omega) hk
    unfold f_X7_withResult_s4
    rw [hm' 3 (by omega), ok.R, eR, ald_nI (by omega) (by omega), Option.bind_some, hm' 5 (by omega), ok.B (by omega), if_neg (nI_ge hk (by omega)), show ((6 : Int32) * nI (nR b - 1)) + nI k = nI (6 * (nR b - 1) + k) by rw [show (6 : Int32) = nI 6 from rfl, pk_mul, nI_add], ald_nI (by omega) (by omega), Option.bind_some, hm' 9 (by omega), ok.o (by omega) hk, show nI k + (1 : Int32) = nI (k + 1) from nI_1 k, sm_succ]
    unfold gv
    by_cases z : oN b (6 * (nR b - 1) + k) = 0
    · rw [if_pos (by rw [z]; decide), if_pos z, Int32.add_zero]; rfl
    · rw [if_neg (nI_nle (by omega) (by omega)), if_neg z, nI_1]
  · unfold f_X7_withResult_s4
    rw [hm' 3 (by omega), ok.R, eR, ald_nI (by omega) (by omega), Option.bind_some, hm' 5 (by omega), ok.B (by omega), if_pos (nI_le (Nat.le_refl _) (by omega))]
/-- answers alike, one book after; the tape is empty -/
def BothT (σ μ : Mm) (x y : Option (Int32 × Mm)) : Prop := ∃ a τ ρ c, x = some (a, τ) ∧ y = some (a, ρ) ∧ Bk τ c ∧ Bk ρ c ∧ BookOK c ∧ TabOK c τ ∧ τ 64 0 = 0 ∧ (∀ k, (12 ≤ k ∧ k < 50) ∨ 65 < k → k ≠ 71 → τ k = σ k) ∧ τ 71 0 = 0 ∧ (∀ k, 20 < k → k ≠ 22 → ρ k = μ k) ∧ ρ 22 0 = 0 ∧ ρ 12 = fun _ => 0
theorem res_loop {T : Nat → Nat} {B R : Nat} (hn : B ≤ 6) (hR : R < 20) (hT : ∀ i, i < B → T i < 128) (hg : ∀ i, i < B → rsN (T i) ≠ 7) {σ0 μ0 : Mm} (s70 : ∀ i, i < B → σ0 70 i = nI (T i)) (m21 : ∀ i, i < B → μ0 21 i = nI (T i)) : ∀ d k F (τ ρ c : Mm), k + d = B → d < F → Bk τ c → Bk ρ c → BookOK c → TabOK c τ → nO c = 1 → nR c - 1 = R → nB c R = B → (∀ j, j ≠ 9 → τ j = σ0 j) → (∀ j, j ≠ 9 → ρ j = μ0 j) → ∃ a τ' ρ' c', wh2 (f_X6_readResults_s42 (nI R) (nI B)) F τ (nI k) = some (a, τ') ∧ wh2 (f_X7_results_s90 (nI B) (nI R)) F ρ (nI k) = some (a, ρ') ∧ Bk τ' c' ∧ Bk ρ' c' ∧ BookOK c' ∧ TabOK c' τ' ∧ (∀ j, j ≠ 9 → τ' j = σ0 j) ∧ ∀ j, j ≠ 9 → ρ' j = μ0 j := by
  intro d
  induction d with
  | zero =>
    intro k F τ ρ c hk hF h hm ok ht hO hRc hB hs hmu
    obtain ⟨F, rfl⟩ : ∃ G, F = G + 1 := ⟨F - 1, by omega⟩
    have h1 : 1 ≤ nR c := by have := ok.OR; omega
    have x1 := x_countOut h ok h1
    have y1 := m_withRes hm ok h1
    rw [hRc] at x1 y1
    refine ⟨nI (sm (gv c) (nB c R)), τ, ρ, c, ?_, ?_, h, hm, ok, ht, hs, hmu⟩
    · show f_X6_readResults_s42 (nI R) (nI B) _ τ (nI k) = _
      unfold f_X6_readResults_s42 f_X6_readResults_j94
      rw [if_pos (nI_le (by omega) (by omega)), x1, Option.bind_some]
    · show f_X7_results_s90 (nI B) (nI R) _ ρ (nI k) = _
      unfold f_X7_results_s90 f_X7_results_j148
      rw [if_pos (nI_le (by omega) (by omega)), y1, Option.bind_some]
  | succ d ih =>
    intro k F τ ρ c hk hF h hm ok ht hO hRc hB hs hmu
    obtain ⟨F, rfl⟩ : ∃ G, F = G + 1 := ⟨F - 1, by omega⟩
    have h1 : 1 ≤ nR c := by have := ok.OR; omega
    have hkB : k < B := by omega
    have hv := hT k hkB
    have e7 := hg k hkB
    have hle := rs_le (T k)
    have ix : f_J0_indexOf_0f7a4 0 (((nI (T k)).toUInt32 % 65536).toInt32) = some (nI (rsN (T k))) := by
      rw [i2c_tab _ hv, rs_tab _ hv]; unfold rsI; rw [if_neg e7]
    have iy : f_X7_resultOf (nI (T k)) = some (nI (rsN (T k))) := by
      rw [rs_tabm _ hv]; unfold rsI; rw [if_neg e7]
    have m6 : ((6 : Int32) * nI R) + nI k = nI (6 * R + k) := by rw [show (6 : Int32) = nI 6 from rfl, pk_mul, nI_add]
    have hb := x_byte (σ := τ) (i := k) (by omega)
    rw [hs 70 (by omega), s70 k hkB] at hb
    by_cases z : rsN (T k) = 0
    · obtain ⟨a, τ', ρ', c', r1, r2, r3⟩ := ih (k + 1) F τ ρ c (by omega) (by omega) h hm ok ht hO hRc hB hs hmu
      refine ⟨a, τ', ρ', c', ?_, ?_, r3⟩
      · have stp : ∀ q, f_X6_readResults_s42 (nI R) (nI B) q τ (nI k) = q τ (nI (k + 1)) := by
          intro q
          unfold f_X6_readResults_s42
          rw [if_neg (nI_ge (by omega) (by omega)), hb, Option.bind_some, ix, Option.bind_some, z, if_pos (show nI 0 ≤ (0 : Int32) by decide), show nI k + (1 : Int32) = nI (k + 1) from nI_1 k]
        exact (stp _).trans r1
      · have stp : ∀ q, f_X7_results_s90 (nI B) (nI R) q ρ (nI k) = q ρ (nI (k + 1)) := by
          intro q
          unfold f_X7_results_s90 f_X7_results_j141
          rw [if_neg (nI_ge (by omega) (by omega)), ald_nI (by omega) (by omega), Option.bind_some, hmu 21 (by omega), m21 k hkB, iy, Option.bind_some, z, if_pos (show nI 0 = (0 : Int32) from rfl), m6, ald_nI (by omega) (by omega), Option.bind_some, ast_nI (by omega) (by omega), Option.bind_some, us_self rfl, show nI k + (1 : Int32) = nI (k + 1) from nI_1 k]
        exact (stp _).trans r2
    · obtain ⟨okc, hDn⟩ := res_ok (v := rsN (T k)) ok hO (d := k) (by rw [hRc, hB]; exact hkB) (by omega)
      rw [hRc] at okc hDn
      obtain ⟨a, τ', ρ', c', r1, r2, r3⟩ := ih (k + 1) F (us τ 9 (6 * R + k) (nI (rsN (T k)))) (us ρ 9 (6 * R + k) (nI (rsN (T k)))) (us c 9 (6 * R + k) (nI (rsN (T k)))) (by omega) (by omega) (bk_us h) (bk_us hm) okc ((ht.cong (fun k k1 _ => us_ne (by omega))).dn hDn ok) hO hRc hB (fun j hj => (us_ne hj).trans (hs j hj)) (fun j hj => (us_ne hj).trans (hmu j hj))
      refine ⟨a, τ', ρ', c', ?_, ?_, r3⟩
      · have stp : ∀ q, f_X6_readResults_s42 (nI R) (nI B) q τ (nI k) = q (us τ 9 (6 * R + k) (nI (rsN (T k)))) (nI (k + 1)) := by
          intro q
          unfold f_X6_readResults_s42
          rw [if_neg (nI_ge (by omega) (by omega)), hb, Option.bind_some, ix, Option.bind_some, if_neg (show ¬ nI (rsN (T k)) ≤ (0 : Int32) from nI_nle (by omega) (by omega)), x_boardCell, Option.bind_some, row_put (by omega) (by omega), Option.bind_some, show nI k + (1 : Int32) = nI (k + 1) from nI_1 k]
        exact (stp _).trans r1
      · have stp : ∀ q, f_X7_results_s90 (nI B) (nI R) q ρ (nI k) = q (us ρ 9 (6 * R + k) (nI (rsN (T k)))) (nI (k + 1)) := by
          intro q
          unfold f_X7_results_s90 f_X7_results_j141
          rw [if_neg (nI_ge (by omega) (by omega)), ald_nI (by omega) (by omega), Option.bind_some, hmu 21 (by omega), m21 k hkB, iy, Option.bind_some, if_neg (show ¬ nI (rsN (T k)) = (0 : Int32) from nI_ne0 (by omega) (by omega)), m6, ast_nI (by omega) (by omega), Option.bind_some, show nI k + (1 : Int32) = nI (k + 1) from nI_1 k]
        exact (stp _).trans r2
theorem results_both {σ μ b : Mm} (h : Bk σ b) (hm : Bk μ b) (ok : BookOK b) (ht : TabOK b σ) (h0 : σ 64 0 = 0) (hTp : TapeR σ μ) : BothT σ μ (f_X6_results σ) (f_X7_results μ) := by
  have hO := ok.O1
  have hOR := ok.OR
  have h20 := ok.R20
  obtain ⟨n, t1, t2, t3, t4⟩ := hTp
  have hmz : ∀ k, k ≠ 12 → k ≠ 22 → sc (sc μ 12 0) 22 0 k = μ k := fun k k1 k2 => by rw [sc_ne k2, sc_ne k1]
  have hmb : Bk (sc (sc μ 12 0) 22 0) b := (hm.sc (by omega)).sc (by omega)
  have hm12 : sc (sc μ 12 0) 22 0 12 = fun _ => 0 := by rw [sc_ne (by omega), sc_eq']
  by_cases y : nO b = 0
  · refine ⟨-3, sc σ 71 0, sc (sc μ 12 0) 22 0, b, ?_, ?_, h.sc (by omega), hmb, ok, ht.cong (fun k k1 k2 => sc_ne (by omega)), by rw [sc_ne (by omega)]; exact h0, fun k k1 k2 => sc_ne k2, sc_at, fun k k1 k2 => hmz k (by omega) k2, sc_at, hm12⟩
    · unfold f_X6_results f_X6_results_j19; rw [Option.bind_some, if_pos ((b4_0 h ok).mpr y), Option.bind_some]
    · unfold f_X7_results; rw [Option.bind_some, Option.bind_some, Option.bind_some, Option.bind_some, if_pos ((b4_0 hmb ok).mpr y)]
  · have ho1 : nO b = 1 := by omega
    have hb6 := ok.B6 (r := nR b - 1) (by omega)
    have eR : nI (nR b) - (1 : Int32) = nI (nR b - 1) := by rw [show (1 : Int32) = nI 1 from rfl, pk_sub (by omega)]
    have tv : ∀ i, ∃ v, i < n → v < 128 ∧ σ 70 i = nI v ∧ μ 21 i = nI v := fun i => by
      by_cases hi : i < n
      · obtain ⟨g1, v, g2, g3, g4⟩ := t4 i hi
        exact ⟨v, fun _ => ⟨by omega, g4, by rw [← g1]; exact g4⟩⟩
      · exact ⟨0, fun z => absurd z hi⟩
    obtain ⟨T, hTv⟩ := Classical.axiomOfChoice tv
    obtain ⟨K, k1, k2, k3⟩ := firstB (fun i => decide (rsN (T i) ≠ 7)) (min n (nB b (nR b - 1)))
    have kg : ∀ i, i < K → rsN (T i) ≠ 7 := fun i hi => of_decide_eq_true (k2 i hi)
    have x0 : ∀ q, f_X6_faultOfResults σ (nI (nB b (nR b - 1))) = some q → q ≠ -5 → f_X6_results σ = some ((-100 : Int32) - q, sc σ 71 0) := by
      intro q hq hne
      unfold f_X6_results f_X6_readResults
      rw [Option.bind_some, if_neg (fun u => y ((b4_0 h ok).mp u)), Option.bind_some, h 3 (by omega), ok.R, eR, row_at (by omega) (by omega), Option.bind_some, h 5 (by omega), ok.B (by omega), hq, Option.bind_some, if_neg hne]
      rfl
    have xl : ∀ i, i < K → ∀ r, f_X6_faultOfResults_s2 σ (nI (nB b (nR b - 1))) r (nI i) = r (nI (i + 1)) := by
      intro i hi r
      obtain ⟨g1, g2, g3⟩ := hTv i (by omega)
      have hle := rs_le (T i)
      unfold f_X6_faultOfResults_s2
      rw [if_neg (nI_ge (by omega) (by omega)), t2, if_neg (nI_ge (by omega) (by omega)), x_byte (by omega), Option.bind_some, g2, i2c_tab _ g1, rs_tab _ g1, Option.bind_some]
      unfold rsI
      rw [if_neg (kg i hi), if_pos (nI_pos' (by omega)), show nI i + (1 : Int32) = nI (i + 1) from nI_1 i]
    have x00 : ∀ q, (∀ r, f_X6_faultOfResults_s2 σ (nI (nB b (nR b - 1))) r (nI K) = some q) → f_X6_faultOfResults σ (nI (nB b (nR b - 1))) = some q := fun q hq => wh1_seq K (fun i => nI i) _ xl hq 5000 (by omega)
    have yl : ∀ i, i < K → ∀ r, f_X7_results_s34 (nI n) (nI (nR b - 1)) r (sc (sc μ 12 0) 22 0) (nI i) = r (sc (sc μ 12 0) 22 0) (nI (i + 1)) := by
      intro i hi r
      obtain ⟨g1, g2, g3⟩ := hTv i (by omega)
      have hle := rs_le (T i)
      unfold f_X7_results_s34
      rw [if_neg (nI_ge (by omega) (by omega)), ald_nI (by omega) (by omega), Option.bind_some, hmb 5 (by omega), ok.B (by omega), if_neg (nI_ge (by omega) (by omega)), ald_nI (by omega) (by omega), Option.bind_some, hmz 21 (by omega) (by omega), g3, rs_tabm _ g1, Option.bind_some]
      unfold rsI
      rw [if_neg (kg i hi), if_neg (nI_pos (by omega)), show nI i + (1 : Int32) = nI (i + 1) from nI_1 i]
    have y0 : ∀ q, f_X7_results_j67 (sc (sc μ 12 0) 22 0) (nI n) (nI (nR b - 1)) (nI K) = q → f_X7_results μ = q := by
      intro q hq
      unfold f_X7_results
      rw [Option.bind_some, Option.bind_some, Option.bind_some, Option.bind_some, if_neg (fun u => y ((b4_0 hmb ok).mp u)), Option.bind_some, hmb 3 (by omega), ok.R, eR, sc_ne (show 22 ≠ 12 by omega), t3]
      refine wh2_seq K (fun _ => sc (sc μ 12 0) 22 0) (fun i => nI i) _ yl (fun r => ?_) 5000 (by omega)
      unfold f_X7_results_s34
      by_cases z1 : n ≤ K
      · rw [if_pos (nI_le z1 (by omega)), hq]
      · rw [if_neg (nI_ge (by omega) (by omega)), ald_nI (by omega) (by omega), Option.bind_some, hmb 5 (by omega), ok.B (by omega)]
        by_cases z2 : nB b (nR b - 1) ≤ K
        · rw [if_pos (nI_le z2 (by omega)), hq]
        · have z3 : rsN (T K) = 7 := by
            rcases k3 with k3 | k3
            · omega
            · simpa using k3
          obtain ⟨g1, g2, g3⟩ := hTv K (by omega)
          rw [if_neg (nI_ge (by omega) (by omega)), ald_nI (by omega) (by omega), Option.bind_some, hmz 21 (by omega) (by omega), g3, rs_tabm _ g1, Option.bind_some]
          unfold rsI
          rw [if_pos z3, if_pos (by decide), hq]
    have fail : f_X6_faultOfResults σ (nI (nB b (nR b - 1))) = some (nI K) → f_X7_results_j67 (sc (sc μ 12 0) 22 0) (nI n) (nI (nR b - 1)) (nI K) = some ((-100 : Int32) - nI K, sc (sc μ 12 0) 22 0) → BothT σ μ (f_X6_results σ) (f_X7_results μ) := fun q1 q2 =>
      ⟨(-100 : Int32) - nI K, sc σ 71 0, sc (sc μ 12 0) 22 0, b, x0 _ q1 (neg5 (by omega)), y0 _ q2, h.sc (by omega), hmb, ok, ht.cong (fun k k1 k2 => sc_ne (by omega)), by rw [sc_ne (by omega)]; exact h0, fun k k1 k2 => sc_ne k2, sc_at, fun k k1 k2 => hmz k (by omega) k2, sc_at, hm12⟩
    by_cases z1 : K < n
    · refine fail (x00 _ (fun r => ?_)) (by unfold f_X7_results_j67; rw [if_pos (nI_lt z1 (by omega))])
      unfold f_X6_faultOfResults_s2 f_X6_faultOfResults_j43
      by_cases z2 : nB b (nR b - 1) ≤ K
      · rw [if_pos (nI_le z2 (by omega)), t2, if_neg (nI_ge (by omega) (by omega))]
        have : K = nB b (nR b - 1) := by omega
        rw [this]
      · have z3 : rsN (T K) = 7 := by
          rcases k3 with k3 | k3
          · omega
          · simpa using k3
        obtain ⟨g1, g2, g3⟩ := hTv K (by omega)
        rw [if_neg (nI_ge (by omega) (by omega)), t2, if_neg (nI_ge (by omega) (by omega)), x_byte (by omega), Option.bind_some, g2, i2c_tab _ g1, rs_tab _ g1, Option.bind_some]
        unfold rsI
        rw [if_pos z3, if_neg (by decide)]
    · have zK : K = n := by omega
      by_cases z2 : nB b (nR b - 1) ≤ K
      · have zB : nB b (nR b - 1) = n := by omega
        have xf := x00 (-5) (fun r => by
          unfold f_X6_faultOfResults_s2 f_X6_faultOfResults_j43
          rw [if_pos (nI_le z2 (by omega)), t2, if_pos (nI_le (by omega) (by omega))])
        obtain ⟨a, τ', ρ', c', r1, r2, r3, r4, r5, r6, r7, r8⟩ := res_loop (T := T) (B := nB b (nR b - 1)) (R := nR b - 1) (by omega) (by omega) (fun i hi => (hTv i (by omega)).1) (fun i hi => kg i (by omega)) (fun i hi => (hTv i (by omega)).2.1) (fun i hi => (show sc (sc μ 12 0) 22 0 21 i = nI (T i) by rw [hmz 21 (by omega) (by omega)]; exact (hTv i (by omega)).2.2)) (nB b (nR b - 1)) 0 5000 σ (sc (sc μ 12 0) 22 0) b (by omega) (by omega) h hmb ok ht ho1 rfl rfl (fun _ _ => rfl) (fun _ _ => rfl)
        refine ⟨a, sc τ' 71 0, ρ', c', ?_, ?_, r3.sc (by omega), r4, r5, r6.cong (fun k k1 k2 => sc_ne (by omega)), by rw [sc_ne (by omega), r7 64 (by omega)]; exact h0, fun k k1 k2 => by rw [sc_ne k2, r7 k (by omega)], sc_at, fun k k1 k2 => by rw [r8 k (by omega)]; exact hmz k (by omega) k2, by rw [r8 22 (by omega), sc_at], by rw [r8 12 (by omega)]; exact hm12⟩
        · have r1' : wh2 (f_X6_readResults_s42 (nI (nR b - 1)) (nI (nB b (nR b - 1)))) 5000 σ (0 : Int32) = some (a, τ') := r1
          unfold f_X6_results f_X6_readResults
          rw [Option.bind_some, if_neg (fun u => y ((b4_0 h ok).mp u)), Option.bind_some, h 3 (by omega), ok.R, eR, row_at (by omega) (by omega), Option.bind_some, h 5 (by omega), ok.B (by omega), xf, Option.bind_some, if_pos rfl, r1']
          rfl
        · refine y0 _ ?_
          unfold f_X7_results_j67
          rw [if_neg (nI_nlt (by omega) (by omega)), ald_nI (by omega) (by omega), Option.bind_some, hmb 5 (by omega), ok.B (by omega), if_pos (nI_le z2 (by omega)), ← zB]
          exact r2
      · refine fail (x00 _ (fun r => ?_)) ?_
        · unfold f_X6_faultOfResults_s2
          rw [if_neg (nI_ge (by omega) (by omega)), t2, if_pos (nI_le (by omega) (by omega))]
        · unfold f_X7_results_j67
          rw [if_neg (nI_nlt (by omega) (by omega)), ald_nI (by omega) (by omega), Option.bind_some, hmb 5 (by omega), ok.B (by omega), if_neg (nI_ge (by omega) (by omega))]
