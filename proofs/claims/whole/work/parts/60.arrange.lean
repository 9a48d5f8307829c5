/-! ===== the whole table, on both sides ===== -/
theorem rch_rm2 {n s j : Nat} (hn : n ≤ 12) (h1 : 1 ≤ s) (hs : s < 2 ^ n) (hR : Rch n s) (hj : low s < j) (hb : s.testBit j = true) : rm2 s (low s) j = 0 ∨ (1 ≤ rm2 s (low s) j ∧ Rch n (rm2 s (low s) j)) := by
  have h4 := pw_lt hn
  obtain ⟨a, c, d⟩ := low_spec h1 (show s < 4096 by omega)
  have hj12 : j < n := by
    refine Classical.byContradiction (fun z => ?_)
    rw [bit_hi hs (by omega)] at hb
    cases hb
  have hp := pc_rm2 a (show j < 12 by omega) (by omega) c hb
  have hl := pc_le hn hs
  have hr := rm2_lt (j := j) c
  by_cases z : rm2 s (low s) j = 0
  · exact Or.inl z
  · refine Or.inr ⟨by omega, ?_, ?_⟩
    · have := hR.1; omega
    · have h5 := hR.2
      have h6 : low s + 1 ≤ low (rm2 s (low s) j) := low_ge (by omega) (by omega) (fun k hk => by
        rw [rm2_bit]
        by_cases e : k = low s
        · simp [e]
        · rw [d k (by omega)]; rfl)
      omega
theorem rch_full {n : Nat} (hn : n ≤ 12) : Rch n (2 ^ n - 1) := by
  unfold Rch
  rw [pc_full hn]
  omega
/-- what arranging makes of the class's memory -/
def Arr (b σ τ : Mm) : Prop := (∀ k, k < 60 ∨ 65 < k → τ k = σ k) ∧ Laid (τ 60) (seatL b) ∧ (τ 61 = fun _ => nI (nQ b)) ∧ (τ 62 = fun _ => i5 (byeO b)) ∧ τ 64 0 = 0 ∧ (∀ i j, i < j → j < nQ b → τ 63 (12 * i + j) = c5 (cst b i j)) ∧ ∀ s, 1 ≤ s → s < 2 ^ nQ b → Rch (nQ b) s → τ 64 s = c9 (val b s).1 ∧ τ 65 s = nI (val b s).2
theorem x_arrange {σ b : Mm} (h : Bk σ b) (ok : BookOK b) (ht : TabOK b σ) (h0 : σ 64 0 = 0) : ∃ τ, f_X1_arrange σ = some τ ∧ Arr b σ τ ∧ τ 65 0 = 1 := by
  have hn : nQ b ≤ 12 := Nat.le_trans (nQ_le b) ok.P12
  have h4 := pw_lt hn
  have hpos : 1 ≤ 2 ^ nQ b := Nat.one_le_two_pow
  unfold f_X1_arrange
  obtain ⟨σ1, a1, a2, a3, a4⟩ := x_seatAll h ok ht
  have hb1 : Bk σ1 b := fun k hk => by rw [a2 k (by omega) (by omega)]; exact h k hk
  have ht1 : TabOK b σ1 := ht.cong (fun k _ _ => a2 k (by omega) (by omega))
  obtain ⟨σ2, b1, b2, b3, b4, b5⟩ := x_giveBye hb1 ok ht1 a3 a4
  have ht2 : TabOK b σ2 := ht1.cong (fun k _ _ => b2 k (by omega))
  obtain ⟨σ3, c1, c2, c3⟩ := x_noteCosts ok ht2 b3 b4
  have e61 : us σ3 65 0 1 61 = fun _ => nI (nQ b) := by rw [us_ne (by omega), c2 61 (by omega)]; exact b4
  rw [a1, Option.bind_some, b1, Option.bind_some, c1, Option.bind_some, show f_X2_put 4096 65 σ3 (0 : Int32) (1 : Int32) = some (us σ3 65 0 1) from row_put (i := 0) (by omega) (by omega), Option.bind_some, x_wholeSet hn e61, Option.bind_some]
  refine wh2_inv (2 ^ nQ b - 1) (fun k ρ => (∀ z, z ≠ 64 → z ≠ 65 → ρ z = σ3 z) ∧ ρ 64 0 = 0 ∧ ρ 65 0 = 1 ∧ ∀ s, 1 ≤ s → s < 1 + k → Rch (nQ b) s → ρ 64 s = c9 (val b s).1 ∧ ρ 65 s = nI (val b s).2) (fun k => nI (1 + k)) _ (fun k hk ρ hI => ?_) (fun ρ hI r => ?_) 5000 (by omega) _ ⟨fun z _ hz => us_ne hz, by rw [us_ne (by omega), c2 64 (by omega), b2 64 (by omega), a2 64 (by omega) (by omega)]; exact h0, us_at, fun s _ _ => by omega⟩
  · obtain ⟨u0, u1, u2, u3⟩ := hI
    have r61 : ρ 61 = fun _ => nI (nQ b) := by rw [u0 61 (by omega) (by omega), c2 61 (by omega)]; exact b4
    have r63 : ∀ i j, i < j → j < nQ b → ρ 63 (12 * i + j) = c5 (cst b i j) := fun i j h1 h2 => by rw [u0 63 (by omega) (by omega)]; exact c3 i j h1 h2
    have e1 : nI (1 + k) + (1 : Int32) = nI (1 + (k + 1)) := nI_1 _
    have en : ¬ nI (2 ^ nQ b - 1) < nI (1 + k) := nI_nlt (by omega) (by omega)
    rcases x_isReached (σ := ρ) hn r61 (s := 1 + k) (by omega) (by omega) with ⟨hR, hx⟩ | ⟨hR, hx⟩
    · obtain ⟨p1, p2, -⟩ := low_spec (s := 1 + k) (by omega) (by omega)
      refine ⟨us (us ρ 64 (1 + k) (c9 (val b (1 + k)).1)) 65 (1 + k) (nI (val b (1 + k)).2), ⟨fun z h1 h2 => ((us_ne h2).trans (us_ne h1)).trans (u0 z h1 h2), ?_, ?_, fun s h1 h2 h3 => ?_⟩, fun r => ?_⟩
      · rw [us_ne (by omega), us_off (Or.inr (by omega))]; exact u1
      · rw [us_off (Or.inr (by omega)), us_ne (by omega)]; exact u2
      · by_cases e : s = 1 + k
        · subst e; exact ⟨by rw [us_ne (by omega), us_at], us_at⟩
        · obtain ⟨q1, q2⟩ := u3 s h1 (by omega) h3
          exact ⟨by rw [us_ne (by omega), us_off (Or.inr e)]; exact q1, by rw [us_off (Or.inr e), us_ne (by omega)]; exact q2⟩
      · unfold f_X1_arrange_s28
        rw [if_neg en, hx, Option.bind_some, if_neg (by decide), x_weigh ok r61 r63 (by omega) (by omega) (fun j h1 h2 h3 => by
          rcases rch_rm2 hn (by omega) (by omega) hR h1 h3 with z | ⟨z1, z2⟩
          · rw [z]; exact ⟨u1, u2⟩
          · exact u3 _ z1 (rm2_lt p2) z2), Option.bind_some, e1]
    · refine ⟨ρ, ⟨u0, u1, u2, fun s h1 h2 h3 => ?_⟩, fun r => ?_⟩
      · by_cases e : s = 1 + k
        · subst e; exact absurd h3 hR
        · exact u3 s h1 (by omega) h3
      · unfold f_X1_arrange_s28
        rw [if_neg en, hx, Option.bind_some, if_pos rfl, e1]
  · obtain ⟨u0, u1, u2, u3⟩ := hI
    refine ⟨ρ, ?_, ⟨fun k hk => ?_, ?_, ?_, ?_, u1, fun i j h1 h2 => ?_, fun s h1 h2 h3 => u3 s h1 (by omega) h3⟩, u2⟩
    · unfold f_X1_arrange_s28
      rw [if_pos (nI_lt (by omega) (by omega))]
    · rw [u0 k (by omega) (by omega), c2 k (by omega), b2 k (by omega), a2 k (by omega) (by omega)]
    · rw [u0 60 (by omega) (by omega), c2 60 (by omega)]; exact b3
    · rw [u0 61 (by omega) (by omega), c2 61 (by omega)]; exact b4
    · rw [u0 62 (by omega) (by omega), c2 62 (by omega)]; exact b5
    · rw [u0 63 (by omega) (by omega)]; exact c3 i j h1 h2
def c6N : Option Nat → Nat
  | none => 1000000
  | some v => v
theorem c6_nI (o : Option Nat) : c6 o = nI (c6N o) := by cases o <;> rfl
/-- the reference's table -/
def Bst (b τ : Mm) : Prop := ∀ s, s < 2 ^ nQ b → τ 19 s = c6 (val b s).1 ∧ τ 20 s = nI (val b s).2
theorem m_layBests {μ b : Mm} (h : Bk μ b) (ok : BookOK b) : ∃ τ, f_X7_layBests μ = some τ ∧ Plc b μ τ ∧ Bst b τ := by
  have hn : nQ b ≤ 12 := Nat.le_trans (nQ_le b) ok.P12
  have h4 := pw_lt hn
  have hpos : 1 ≤ 2 ^ nQ b := Nat.one_le_two_pow
  unfold f_X7_layBests
  obtain ⟨σ1, a1, a2, a3, a4, a5, a6⟩ := m_layPlaces h ok
  rw [a1, Option.bind_some, show ast 4096 σ1 19 (0 : Int32) (0 : Int32) = some (us σ1 19 0 0) from ast_nI (i := 0) (by omega) (by omega), Option.bind_some, show ast 4096 (us σ1 19 0 0) 20 (0 : Int32) (1 : Int32) = some (us (us σ1 19 0 0) 20 0 1) from ast_nI (i := 0) (by omega) (by omega), Option.bind_some]
  refine wh2_inv (2 ^ nQ b - 1) (fun k ρ => (∀ z, z ≠ 19 → z ≠ 20 → ρ z = σ1 z) ∧ ∀ s, s < 1 + k → ρ 19 s = c6 (val b s).1 ∧ ρ 20 s = nI (val b s).2) (fun k => nI (1 + k)) _ (fun k hk ρ hI => ?_) (fun ρ hI r => ?_) 5000 (by omega) _ ⟨fun z h1 h2 => (us_ne h2).trans (us_ne h1), fun s hs => by
    have : s = 0 := by omega
    subst this
    exact ⟨by rw [us_ne (by omega), us_at]; rfl, by rw [us_at]; rfl⟩⟩
  · obtain ⟨u0, u1⟩ := hI
    have r15 : ρ 15 = fun _ => nI (nQ b) := by rw [u0 15 (by omega) (by omega)]; exact a3
    obtain ⟨p1, p2, -⟩ := low_spec (s := 1 + k) (by omega) (by omega)
    have hl := low_n hn (s := 1 + k) (by omega) (by omega)
    obtain ⟨τ', ⟨v0, v1, v2, v3⟩, v4⟩ := wh2_in (f := fun q => f_X7_layBests_s54 q (nI (1 + k)) (nI (low (1 + k)))) (nQ b - (low (1 + k) + 1)) (fun m π => (∀ z, z ≠ 19 → z ≠ 20 → π z = σ1 z) ∧ (∀ t, t < 1 + k → π 19 t = c6 (val b t).1 ∧ π 20 t = nI (val b t).2) ∧ π 19 (1 + k) = c6 (rowL b (val b) (1 + k) (low (1 + k)) m).1 ∧ π 20 (1 + k) = nI (rowL b (val b) (1 + k) (low (1 + k)) m).2) (fun m => nI (low (1 + k) + 1 + m)) (fun m hm π hI => by
      obtain ⟨w0, w1, w2, w3⟩ := hI
      have q15 : π 15 = fun _ => nI (nQ b) := by rw [w0 15 (by omega) (by omega)]; exact a3
      have q18 : π 18 (12 * low (1 + k) + (low (1 + k) + 1 + m)) = c6 (cst b (low (1 + k)) (low (1 + k) + 1 + m)) := by rw [w0 18 (by omega) (by omega)]; exact a6 _ _ (by omega) (by omega) (by omega)
      have hr := rm2_lt (j := low (1 + k) + 1 + m) p2
      have hrv := w1 _ hr
      obtain ⟨g1, g2⟩ := rowL_ok ok p1 p2 (fun t ht => val_ok ok t (by omega)) m (by omega)
      have hp := pc_le hn (s := 1 + k) (by omega)
      have e1 : nI (low (1 + k) + 1 + m) + (1 : Int32) = nI (low (1 + k) + 1 + (m + 1)) := nI_1 _
      have eR : rowL b (val b) (1 + k) (low (1 + k)) (m + 1) = (mn (rowL b (val b) (1 + k) (low (1 + k)) m).1 (sw b (val b) (1 + k) (low (1 + k)) (low (1 + k) + 1 + m)), (rowL b (val b) (1 + k) (low (1 + k)) m).2 + ww b (val b) (1 + k) (low (1 + k)) (low (1 + k) + 1 + m)) := rfl
      have en : ¬ nI (nQ b) ≤ nI (low (1 + k) + 1 + m) := nI_ge (by omega) (by omega)
      have skip : sw b (val b) (1 + k) (low (1 + k)) (low (1 + k) + 1 + m) = none → ww b (val b) (1 + k) (low (1 + k)) (low (1 + k) + 1 + m) = 0 → rowL b (val b) (1 + k) (low (1 + k)) (m + 1) = rowL b (val b) (1 + k) (low (1 + k)) m := by
        intro s1 s2
        rw [eR, s1, s2]
        cases hq : rowL b (val b) (1 + k) (low (1 + k)) m with
        | mk o y => cases o <;> rfl
      by_cases z : (1 + k).testBit (low (1 + k) + 1 + m) = true
      · cases hc : cst b (low (1 + k)) (low (1 + k) + 1 + m) with
        | none =>
          have es := skip (by unfold sw; rw [if_pos z, hc]) (by unfold ww; rw [if_pos z, hc])
          refine ⟨π, ⟨w0, w1, by rw [es]; exact w2, by rw [es]; exact w3⟩, fun q r => ?_⟩
          show f_X7_layBests_s54 q (nI (1 + k)) (nI (low (1 + k))) r π (nI (low (1 + k) + 1 + m)) = _
          unfold f_X7_layBests_s54
          rw [Option.bind_some, q15, if_neg en, bit_is (by omega) (by omega), z, if_pos (show (if true = true then (1 : Int32) else 0) = 1 by decide), m12, ald_nI (by omega) (by omega), q18, hc, Option.bind_some, if_pos (by decide), e1]
        | some c =>
          have hcl := cst_le ok hc
          have hsw : sw b (val b) (1 + k) (low (1 + k)) (low (1 + k) + 1 + m) = (val b (rm2 (1 + k) (low (1 + k)) (low (1 + k) + 1 + m))).1.map (fun v => c + v) := by unfold sw; rw [if_pos z, hc]
          have hww : ww b (val b) (1 + k) (low (1 + k)) (low (1 + k) + 1 + m) = (val b (rm2 (1 + k) (low (1 + k)) (low (1 + k) + 1 + m))).2 := by unfold ww; rw [if_pos z, hc]
          have hvl : ∀ v, (val b (rm2 (1 + k) (low (1 + k)) (low (1 + k) + 1 + m))).1 = some v → v ≤ 4848 := fun v hv => val_4848 ok (by omega) hv
          have hgl : ∀ v, (rowL b (val b) (1 + k) (low (1 + k)) m).1 = some v → v ≤ 4848 := fun v hv => by have := g1 v hv; omega
          refine ⟨us (us π 19 (1 + k) (c6 (rowL b (val b) (1 + k) (low (1 + k)) (m + 1)).1)) 20 (1 + k) (nI (rowL b (val b) (1 + k) (low (1 + k)) (m + 1)).2), ⟨fun y h1 h2 => ((us_ne h2).trans (us_ne h1)).trans (w0 y h1 h2), fun t ht => ?_, ?_, us_at⟩, fun q r => ?_⟩
          · exact ⟨by rw [us_ne (by omega), us_off (Or.inr (by omega))]; exact (w1 t ht).1, by rw [us_off (Or.inr (by omega)), us_ne (by omega)]; exact (w1 t ht).2⟩
          · rw [us_ne (by omega), us_at]
          · have fin : ∀ v, v = c6 (rowL b (val b) (1 + k) (low (1 + k)) (m + 1)).1 → f_X7_layBests_j150 q r π (nI (1 + k)) (nI (low (1 + k))) (nI (low (1 + k) + 1 + m)) (nI (rm2 (1 + k) (low (1 + k)) (low (1 + k) + 1 + m))) (nI (1 + k)) v = r (us (us π 19 (1 + k) (c6 (rowL b (val b) (1 + k) (low (1 + k)) (m + 1)).1)) 20 (1 + k) (nI (rowL b (val b) (1 + k) (low (1 + k)) (m + 1)).2)) (nI (low (1 + k) + 1 + (m + 1))) := by
              intro v hv
              subst hv
              unfold f_X7_layBests_j150
              rw [ast_nI (by omega) (by omega), Option.bind_some, us_ne (by omega), ald_nI (by omega) (by omega), Option.bind_some, ald_nI (by omega) (by omega), Option.bind_some, ast_nI (by omega) (by omega), Option.bind_some, w3, hrv.2, e1, nI_add, ← hww]
              rfl
            show f_X7_layBests_s54 q (nI (1 + k)) (nI (low (1 + k))) r π (nI (low (1 + k) + 1 + m)) = _
            unfold f_X7_layBests_s54
            rw [Option.bind_some, q15, if_neg en, bit_is (by omega) (by omega), z, if_pos (show (if true = true then (1 : Int32) else 0) = 1 by decide), m12, ald_nI (by omega) (by omega), q18, hc, show c6 (some c) = nI c from rfl, Option.bind_some, if_neg (show ¬ (1000000 : Int32) ≤ nI c from nI_ge (b := 1000000) (by omega) (by omega)), and_clr (by omega), and_clr (by omega)]
            show (ald 4096 (π 19) (nI (rm2 (1 + k) (low (1 + k)) (low (1 + k) + 1 + m)))).bind _ = _
            rw [ald_nI (by omega) (by omega), Option.bind_some, Option.bind_some, ald_nI (by omega) (by omega), Option.bind_some, hrv.1, w2, c6_nI, c6_nI, nI_add]
            have hsum : c6N (val b (rm2 (1 + k) (low (1 + k)) (low (1 + k) + 1 + m))).1 + c < 2147483648 := by
              cases hv : (val b (rm2 (1 + k) (low (1 + k)) (low (1 + k) + 1 + m))).1 with
              | none => show 1000000 + c < _; omega
              | some v => have := hvl v hv; show v + c < _; omega
            by_cases y : c6N (rowL b (val b) (1 + k) (low (1 + k)) m).1 ≤ c6N (val b (rm2 (1 + k) (low (1 + k)) (low (1 + k) + 1 + m))).1 + c
            · rw [if_pos (nI_le y hsum), Option.bind_some]
              refine fin _ ?_
              rw [c6_nI]
              congr 1
              rw [eR, hsw]
              cases hv : (val b (rm2 (1 + k) (low (1 + k)) (low (1 + k) + 1 + m))).1 with
              | none => cases (rowL b (val b) (1 + k) (low (1 + k)) m).1 <;> rfl
              | some v =>
                have hv1 := hvl v hv
                cases hg : (rowL b (val b) (1 + k) (low (1 + k)) m).1 with
                | none =>
                  rw [hv, hg] at y
                  have y' : 1000000 ≤ v + c := y
                  omega
                | some g =>
                  rw [hv, hg] at y
                  have y' : g ≤ v + c := y
                  show g = if c + v < g then c + v else g
                  rw [if_neg (by omega)]
            · rw [if_neg (nI_ge (by omega) (by
                cases hg : (rowL b (val b) (1 + k) (low (1 + k)) m).1 with
                | none => decide
                | some g => have := hgl g hg; show g < _; omega))]
              refine fin _ ?_
              rw [c6_nI]
              congr 1
              rw [eR, hsw]
              cases hv : (val b (rm2 (1 + k) (low (1 + k)) (low (1 + k) + 1 + m))).1 with
              | none =>
                cases hg : (rowL b (val b) (1 + k) (low (1 + k)) m).1 with
                | none => rw [hv, hg] at y; exact absurd (show 1000000 ≤ 1000000 + c by omega) y
                | some g =>
                  have := hgl g hg
                  rw [hv, hg] at y
                  exact absurd (show g ≤ 1000000 + c by omega) y
              | some v =>
                cases hg : (rowL b (val b) (1 + k) (low (1 + k)) m).1 with
                | none => show v + c = c + v; omega
                | some g =>
                  rw [hv, hg] at y
                  have y' : ¬ g ≤ v + c := y
                  show v + c = if c + v < g then c + v else g
                  rw [if_pos (by omega)]; omega
      · have es := skip (by unfold sw; rw [if_neg z]) (by unfold ww; rw [if_neg z])
        refine ⟨π, ⟨w0, w1, by rw [es]; exact w2, by rw [es]; exact w3⟩, fun q r => ?_⟩
        show f_X7_layBests_s54 q (nI (1 + k)) (nI (low (1 + k))) r π (nI (low (1 + k) + 1 + m)) = _
        unfold f_X7_layBests_s54
        rw [Option.bind_some, q15, if_neg en, bit_is (by omega) (by omega), if_neg z, if_neg (by decide), e1]) 5000 (by omega) (us (us ρ 19 (1 + k) 1000000) 20 (1 + k) 0) ⟨fun z h1 h2 => ((us_ne h2).trans (us_ne h1)).trans (u0 z h1 h2), fun t ht => ⟨by rw [us_ne (by omega), us_off (Or.inr (by omega))]; exact (u1 t ht).1, by rw [us_off (Or.inr (by omega)), us_ne (by omega)]; exact (u1 t ht).2⟩, by rw [us_ne (by omega), us_at]; rfl, by rw [us_at]; rfl⟩
    refine ⟨τ', ⟨v0, fun s hs => ?_⟩, fun r => ?_⟩
    · by_cases e : s = 1 + k
      · subst e
        rw [val_eq (by omega) (by omega)]
        exact ⟨v2, v3⟩
      · exact v1 s (by omega)
    · unfold f_X7_layBests_s20
      rw [Option.bind_some, r15, whole_tab2 _ (by omega), if_neg (nI_ge (by omega) (by omega)), m_leastBit (by omega) (by omega), Option.bind_some, ast_nI (by omega) (by omega), Option.bind_some, ast_nI (by omega) (by omega), Option.bind_some, show nI (low (1 + k)) + (1 : Int32) = nI (low (1 + k) + 1 + 0) from nI_1 _]
      refine v4 r (r τ' (nI (1 + (k + 1)))) (fun r2 => ?_)
      show f_X7_layBests_s54 r (nI (1 + k)) (nI (low (1 + k))) r2 τ' (nI (low (1 + k) + 1 + (nQ b - (low (1 + k) + 1)))) = _
      unfold f_X7_layBests_s54
      rw [Option.bind_some, v0 15 (by omega) (by omega), a3, if_pos (nI_le (by omega) (by omega)), show nI (1 + k) + (1 : Int32) = nI (1 + (k + 1)) from nI_1 _]
  · obtain ⟨u0, u1⟩ := hI
    refine ⟨ρ, ?_, ⟨fun k hk => ?_, ?_, ?_, ?_, fun i j h1 h2 h3 => ?_⟩, fun s hs => u1 s (by omega)⟩
    · unfold f_X7_layBests_s20
      rw [Option.bind_some, u0 15 (by omega) (by omega), a3, whole_tab2 _ (by omega), if_pos (nI_le (by omega) (by omega))]
    · rw [u0 k (by omega) (by omega)]; exact a2 k hk
    · rw [u0 15 (by omega) (by omega)]; exact a3
    · rw [u0 16 (by omega) (by omega)]; exact a4
    · rw [u0 17 (by omega) (by omega)]; exact a5
    · rw [u0 18 (by omega) (by omega)]; exact a6 i j h1 h2 h3
