/-! ===== the class's table, reckoned ===== -/
def TabOK (b τ : Mm) : Prop := (∀ x, x < nP b → TF b x τ) ∧ ∀ i, i < nP b → τ 58 i = nI (stN b i)
theorem TabOK.TT {b τ : Mm} (h : TabOK b τ) : TT τ b 50 := fun p hp t ht => (h.1 p hp).1 t ht
theorem TabOK.cong {b τ ρ : Mm} (h : TabOK b τ) (he : ∀ k, 50 ≤ k → k ≤ 58 → ρ k = τ k) : TabOK b ρ := by
  refine ⟨fun x hx => ?_, fun i hi => by rw [he 58 (by omega) (by omega)]; exact h.2 i hi⟩
  obtain ⟨h0, a1, a2, a3, a4, a5, hq⟩ := h.1 x hx
  exact ⟨fun t ht => by rw [he 50 (by omega) (by omega)]; exact h0 t ht, by rw [he 51 (by omega) (by omega)]; exact a1, by rw [he 52 (by omega) (by omega)]; exact a2, by rw [he 53 (by omega) (by omega)]; exact a3, by rw [he 54 (by omega) (by omega)]; exact a4, by rw [he 55 (by omega) (by omega)]; exact a5, fun q hqP => ⟨by rw [he 56 (by omega) (by omega)]; exact (hq q hqP).1, by rw [he 57 (by omega) (by omega)]; exact (hq q hqP).2⟩⟩
theorem x_reckon {σ b : Mm} (h : Bk σ b) (ok : BookOK b) : ∃ τ, f_X4_reckon σ = some τ ∧ (∀ k, k < 50 ∨ 58 < k → τ k = σ k) ∧ TabOK b τ := by
  have hP := ok.P12
  have hD := ok.D20
  unfold f_X4_reckon
  obtain ⟨σ0, w1, w2, w3⟩ := x_wipe (σ := σ)
  rw [w1, Option.bind_some]
  refine wh2_inv (nD b) (fun r τ => Tab σ τ ∧ ∀ x, x < nP b → VI b x r r r τ) (fun r => nI r) _ (fun r hr τ hI => ?_) (fun τ hI rr => ?_) 5000 (by omega) σ0 ⟨w2, fun x hx => w3 b x (by omega) hP⟩
  · obtain ⟨t0, t1⟩ := hI
    obtain ⟨τ', c1, c2, c3⟩ := x_countRound (t0.bk h) ok hr t1
    refine ⟨τ', ⟨t0.tr c2, c3⟩, fun rr => ?_⟩
    unfold f_X4_reckon_s6
    rw [x_countDone (t0.bk h) ok, Option.bind_some, if_neg (nI_ge hr (by omega)), c1, Option.bind_some, show nI r + (1 : Int32) = nI (r + 1) from nI_1 r]
  · obtain ⟨t0, t1⟩ := hI
    unfold f_X4_reckon_s6
    rw [x_countDone (t0.bk h) ok, Option.bind_some, if_pos (nI_le (Nat.le_refl _) (by omega))]
    refine wh2_inv (nP b) (fun i τ => Tab σ τ ∧ (∀ x, x < nP b → x < i → TF b x τ) ∧ (∀ x, x < nP b → i ≤ x → VI b x (nD b) (nD b) (nD b) τ)) (fun i => nI i) _ (fun i hi τ hI => ?_) (fun τ hI rr => ?_) 5000 (by omega) τ ⟨t0, fun x _ hx => absurd hx (Nat.not_lt_zero _), fun x hx _ => t1 x hx⟩
    · obtain ⟨u0, u1, u2⟩ := hI
      have hb := u0.bk h
      have hv := u2 i hi (Nat.le_refl _)
      obtain ⟨h0, ⟨h1, h2, h3, h7, h8⟩, h4, h5, h6, a1, a2, a3, a4, a5, hq⟩ := hv
      obtain ⟨ρ, c1, c2, c3, d1, d2, d3, d7⟩ := x_compare hb ok hi (fun q hqP => by
        by_cases z : q < i
        · exact (u1 q hqP z).1 0 (by omega)
        · exact (u2 q hqP (by omega)).1) ⟨h1, h2, h3, h7⟩ hq
      have hr := ok.rating hi
      refine ⟨us ρ 50 (9 * i + 8) (ρ 50 (9 * i + 8) + nI (gN b 1 i)), ⟨(u0.tr c2).tr (Tab.us (by omega) (by omega)), fun x hx hxi => ?_, fun x hx hxi => ?_⟩, fun rr => ?_⟩
      · have hoff : ∀ k j, Off i k j → us ρ 50 (9 * i + 8) (ρ 50 (9 * i + 8) + nI (gN b 1 i)) k j = τ k j := fun k j ho => by
          rw [us_skip (fun z => ho.1 ⟨z.1, by omega, by omega⟩)]
          exact c3 k j (fun z => ho.1 ⟨z.1, by omega, by omega⟩)
        by_cases e : x = i
        · subst e
          have rd : ∀ k j, ¬ (k = 50 ∧ j = 9 * x + 8) → us ρ 50 (9 * x + 8) (ρ 50 (9 * x + 8) + nI (gN b 1 x)) k j = ρ k j := fun k j hk => us_skip hk
          refine ⟨fun t ht => ?_, ?_, ?_, ?_, ?_, ?_, fun q hqP => ⟨?_, ?_⟩⟩
          · match t, ht with
            | 0, _ => rw [rd _ _ (by omega), c3 _ _ (fun z => by omega)]; exact h0
            | 1, _ => rw [rd _ _ (by omega)]; exact d1
            | 2, _ => rw [rd _ _ (by omega)]; exact d2
            | 3, _ => rw [rd _ _ (by omega)]; exact d3
            | 4, _ => rw [rd _ _ (by omega), c3 _ _ (fun z => by omega)]; exact h4
            | 5, _ => rw [rd _ _ (by omega), c3 _ _ (fun z => by omega)]; exact h5
            | 6, _ => rw [rd _ _ (by omega), c3 _ _ (fun z => by omega)]; exact h6
            | 7, _ => rw [rd _ _ (by omega)]; exact d7
            | 8, _ => rw [us_at, c3 _ _ (fun z => by omega), h8, Int32.zero_add]; rfl
          · rw [rd _ _ (by omega), c3 _ _ (fun z => by omega)]; exact a1
          · rw [rd _ _ (by omega), c3 _ _ (fun z => by omega)]; exact a2
          · rw [rd _ _ (by omega), c3 _ _ (fun z => by omega)]; exact a3
          · rw [rd _ _ (by omega), c3 _ _ (fun z => by omega)]; exact a4
          · rw [rd _ _ (by omega), c3 _ _ (fun z => by omega)]; exact a5
          · rw [rd _ _ (by omega), c3 _ _ (fun z => by omega)]; exact (hq q hqP).1
          · rw [rd _ _ (by omega), c3 _ _ (fun z => by omega)]; exact (hq q hqP).2
        · exact TF.cong ok e (u1 x hx (by omega)) hoff
      · exact VI.cong ok (show x ≠ i by omega) (u2 x hx (by omega)) (fun k j ho => by
          rw [us_skip (fun z => ho.1 ⟨z.1, by omega, by omega⟩)]
          exact c3 k j (fun z => ho.1 ⟨z.1, by omega, by omega⟩))
      · unfold f_X4_reckon_s30
        rw [Option.bind_some, hb 0 (by omega), ok.P, if_neg (nI_ge hi (by omega)), c1, Option.bind_some, row_at (by omega) (by omega), Option.bind_some, (c2.bk hb) 1 (by omega), hr.1, show (8 : Int32) = nI 8 from rfl, x_addTie (by omega) (by omega), Option.bind_some, show nI i + (1 : Int32) = nI (i + 1) from nI_1 i]
    · obtain ⟨u0, u1, u2⟩ := hI
      have hb := u0.bk h
      have hTF : ∀ x, x < nP b → TF b x τ := fun x hx => u1 x hx hx
      obtain ⟨ρ, s1, s2, s3⟩ := x_stand hb ok (fun p hp t ht => (hTF p hp).1 t ht)
      refine ⟨ρ, ?_, fun k hk => ?_, ?_⟩
      · unfold f_X4_reckon_s30 f_X4_reckon_j70
        rw [Option.bind_some, hb 0 (by omega), ok.P, if_pos (nI_le (Nat.le_refl _) (by omega)), s1, Option.bind_some]
      · rw [s2 k (by omega), u0 k (by omega)]
      · refine ⟨fun x hx => ?_, s3⟩
        obtain ⟨h0, a1, a2, a3, a4, a5, hq⟩ := hTF x hx
        exact ⟨fun t ht => by rw [s2 50 (by omega)]; exact h0 t ht, by rw [s2 51 (by omega)]; exact a1, by rw [s2 52 (by omega)]; exact a2, by rw [s2 53 (by omega)]; exact a3, by rw [s2 54 (by omega)]; exact a4, by rw [s2 55 (by omega)]; exact a5, fun q hqP => ⟨by rw [s2 56 (by omega)]; exact (hq q hqP).1, by rw [s2 57 (by omega)]; exact (hq q hqP).2⟩⟩
