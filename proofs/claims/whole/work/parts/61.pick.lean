/-! ===== the pairs that are picked, on both sides ===== -/
def isM (b : Mm) (s j : Nat) : Bool := decide (low s < j) && s.testBit j && decide (sw b (val b) s (low s) j = (val b s).1)
def mateN (b : Mm) (s : Nat) : Nat := (fs (isM b s) (nQ b)).getD 0
theorem rowL_ex {b : Mm} {T : Nat → Option Nat × Nat} {s i v : Nat} : ∀ m, (rowL b T s i m).1 = some v → ∃ k, k < m ∧ sw b T s i (i + 1 + k) = some v
  | 0, h => by cases h
  | m + 1, h => by
    have h' : mn (rowL b T s i m).1 (sw b T s i (i + 1 + m)) = some v := h
    cases h1 : (rowL b T s i m).1 with
    | none => rw [h1] at h'; exact ⟨m, Nat.lt_succ_self _, h'⟩
    | some u =>
      cases h2 : sw b T s i (i + 1 + m) with
      | none =>
        rw [h1, h2] at h'
        obtain ⟨k, hk, e⟩ := rowL_ex m (h1.trans h')
        exact ⟨k, by omega, e⟩
      | some w =>
        rw [h1, h2] at h'
        have e : (if w < u then w else u) = v := Option.some.inj h'
        by_cases z : w < u
        · rw [if_pos z] at e; exact ⟨m, Nat.lt_succ_self _, by rw [h2, e]⟩
        · rw [if_neg z] at e
          obtain ⟨k, hk, e⟩ := rowL_ex m (h1.trans (congrArg some e))
          exact ⟨k, by omega, e⟩
theorem sw_bit {b : Mm} {T : Nat → Option Nat × Nat} {s i j v : Nat} (h : sw b T s i j = some v) : s.testBit j = true ∧ ∃ c w, cst b i j = some c ∧ (T (rm2 s i j)).1 = some w ∧ v = c + w := by
  unfold sw at h
  by_cases z : s.testBit j = true
  · rw [if_pos z] at h
    cases hc : cst b i j with
    | none => rw [hc] at h; cases h
    | some c =>
      rw [hc] at h
      cases hw : (T (rm2 s i j)).1 with
      | none => simp [hw] at h
      | some w =>
        simp [hw] at h
        exact ⟨z, c, w, rfl, rfl, h.symm⟩
  · rw [if_neg z] at h; cases h
def oM : Option Nat → Int32
  | none => -1
  | some i => nI i
theorem mate_spec {b : Mm} (ok : BookOK b) {s v : Nat} (h1 : 1 ≤ s) (hs : s < 2 ^ nQ b) (hv : (val b s).1 = some v) : fs (isM b s) (nQ b) = some (mateN b s) ∧ low s < mateN b s ∧ mateN b s < nQ b ∧ sw b (val b) s (low s) (mateN b s) = some v := by
  have hn : nQ b ≤ 12 := Nat.le_trans (nQ_le b) ok.P12
  have h4 := pw_lt hn
  have he := val_eq (b := b) h1 (by omega)
  rw [he] at hv
  obtain ⟨k, hk, e⟩ := rowL_ex _ hv
  rw [← he] at hv
  unfold mateN
  cases hf : fs (isM b s) (nQ b) with
  | none =>
    have := (fs_spec _ (nQ b)).2 hf (low s + 1 + k) (by omega)
    unfold isM at this
    rw [decide_eq_true (show low s < low s + 1 + k by omega), (sw_bit e).1, decide_eq_true (show sw b (val b) s (low s) (low s + 1 + k) = (val b s).1 by rw [hv]; exact e)] at this
    cases this
  | some j =>
    obtain ⟨a1, a2, -⟩ := (fs_spec _ (nQ b)).1 j hf
    unfold isM at a2
    simp at a2
    exact ⟨rfl, a2.1.1, a1, by rw [← hv]; exact a2.2⟩
theorem gg_low {d : Nat → Bool} {n i : Nat} (hi : i < n) (h : ∀ j, j ≤ i → d j = false) : gg d n (n - 1 - i) = fs d n := by
  obtain ⟨h1, h2⟩ := gg_spec d n (n - 1 - i) (by omega)
  cases hg : gg d n (n - 1 - i) with
  | none =>
    refine (fs_eq_none (fun j hj => ?_)).symm
    by_cases z : j ≤ i
    · exact h j z
    · exact h2 hg j (by omega) hj
  | some k =>
    obtain ⟨a1, a2, a3, a4⟩ := h1 k hg
    refine (fs_eq a2 a3 (fun j hj => ?_)).symm
    by_cases z : j ≤ i
    · exact h j z
    · exact a4 j (by omega) hj
theorem isM_low {b : Mm} {s j : Nat} (h : j ≤ low s) : isM b s j = false := by
  unfold isM
  rw [decide_eq_false (by omega)]
  rfl
theorem x_earliestMate {σ b : Mm} (ok : BookOK b) (hA : ∃ σ0, Arr b σ0 σ) {s v : Nat} (h1 : 1 ≤ s) (hs : s < 2 ^ nQ b) (hR : Rch (nQ b) s) (hv : (val b s).1 = some v) : f_X1_earliestMate σ (nI s) = some (nI (mateN b s)) := by
  obtain ⟨σ0, -, -, a61, -, a64, a63, aT⟩ := hA
  have hn : nQ b ≤ 12 := Nat.le_trans (nQ_le b) ok.P12
  have h4 := pw_lt hn
  obtain ⟨p1, p2, -⟩ := low_spec h1 (show s < 4096 by omega)
  obtain ⟨m1, m2, m3, m4⟩ := mate_spec ok h1 hs hv
  have hvl := val_4848 ok hs hv
  obtain ⟨-, -, hbf⟩ := (fs_spec _ (nQ b)).1 _ m1
  have sumw : ∀ j, low s < j → j < nQ b → f_X1_sumWith σ (nI s) (nI (low s)) (nI j) = some (c9 (sw b (val b) s (low s) j)) := by
    intro j j1 j2
    have hr := rm2_lt (j := j) p2
    refine x_sumWith ok (by omega) j1 j2 p2 (a63 _ _ j1 j2) (fun z => ?_) (fun w hw => val_4848 ok (by omega) hw)
    rcases rch_rm2 hn h1 hs hR j1 z with e | ⟨e1, e2⟩
    · rw [e, a64]; rfl
    · exact (aT _ e1 (by omega) e2).1
  have e64 : σ 64 s = nI v := by rw [(aT s h1 hs hR).1, hv]; rfl
  unfold f_X1_earliestMate
  rw [x_firstSeat h1 (by omega), Option.bind_some, show nI (low s) + (1 : Int32) = nI (low s + 1 + 0) from nI_1 _]
  refine wh1_seq (mateN b s - (low s + 1)) (fun k => nI (low s + 1 + k)) _ (fun k hk r => ?_) (fun r => ?_) 5000 (by omega)
  · have hno := hbf (low s + 1 + k) (by omega)
    unfold f_X1_earliestMate_s9
    rw [a61, if_neg (nI_ge (by omega) (by omega)), sumw _ (by omega) (by omega), Option.bind_some, row_at (by omega) (by omega), e64, show nI (low s + 1 + k) + (1 : Int32) = nI (low s + 1 + (k + 1)) from nI_1 _]
    cases hw : sw b (val b) s (low s) (low s + 1 + k) with
    | none => rw [if_pos (show c9 none = (-9 : Int32) from rfl)]
    | some w =>
      have hne : w ≠ v := fun z => by
        unfold isM at hno
        rw [decide_eq_true (show low s < low s + 1 + k by omega), (sw_bit hw).1, decide_eq_true (show sw b (val b) s (low s) (low s + 1 + k) = (val b s).1 by rw [hw, hv, z])] at hno
        cases hno
      obtain ⟨d1, -⟩ := sw_ok ok (T := val b) (j := low s + 1 + k) p1 (by omega) (by omega) p2 (val_ok ok _ (by have := rm2_lt (j := low s + 1 + k) p2; omega))
      have hwl := d1 w hw
      have hpl := pc_le hn hs
      rw [show c9 (some w) = nI w from rfl, if_neg (neg9 (by omega)), Option.bind_some, if_neg (fun z => hne ((nI_eq (by omega) (by omega)).mp z))]
  · unfold f_X1_earliestMate_s9
    rw [show low s + 1 + (mateN b s - (low s + 1)) = mateN b s by omega, a61, if_neg (nI_ge (by omega) (by omega)), sumw _ (by omega) (by omega), Option.bind_some, row_at (by omega) (by omega), e64, m4, show c9 (some v) = nI v from rfl, if_neg (neg9 (by omega)), Option.bind_some, if_pos rfl]
theorem m_earliestWith {μ b τ : Mm} (ok : BookOK b) (hP : Plc b μ τ) (hB : Bst b τ) {s v : Nat} (h1 : 1 ≤ s) (hs : s < 2 ^ nQ b) (hv : (val b s).1 = some v) : f_X7_earliestWith τ (nI s) = some (nI (mateN b s)) := by
  obtain ⟨-, a15, -, -, a18⟩ := hP
  have hn : nQ b ≤ 12 := Nat.le_trans (nQ_le b) ok.P12
  have h4 := pw_lt hn
  obtain ⟨p1, p2, -⟩ := low_spec h1 (show s < 4096 by omega)
  have hln := low_n hn h1 hs
  obtain ⟨m1, m2, m3, m4⟩ := mate_spec ok h1 hs hv
  have hvl := val_4848 ok hs hv
  have e19 : τ 19 s = nI v := by rw [(hB s hs).1, hv]; rfl
  have hfin : oM (fs (isM b s) (nQ b)) = nI (mateN b s) := by rw [m1]; rfl
  unfold f_X7_earliestWith
  rw [m_leastBit h1 (by omega), Option.bind_some, a15, ← hfin, ← gg_low hln (fun j hj => isM_low hj), show nI (nQ b) - (1 : Int32) = nI (nQ b - 0) - 1 from rfl]
  refine wh2_seq (nQ b - 1 - low s) (fun k => oM (gg (isM b s) (nQ b) k)) (fun k => nI (nQ b - k) - 1) _ (fun k hk r => ?_) (fun r => ?_) 5000 (by omega)
  · have e1 : nI (nQ b - k) - 1 = nI (nQ b - 1 - k) := by
      rw [show nQ b - k = (nQ b - 1 - k) + 1 by omega, nI_pred]
    have e2 : nI (nQ b - 1 - k) + (-1 : Int32) = nI (nQ b - (k + 1)) - 1 := by
      rw [show nQ b - (k + 1) = nQ b - 1 - k by omega, Int32.sub_eq_add_neg]
    have eg : gg (isM b s) (nQ b) (k + 1) = if isM b s (nQ b - 1 - k) then some (nQ b - 1 - k) else gg (isM b s) (nQ b) k := rfl
    have hr := rm2_lt (j := nQ b - 1 - k) p2
    unfold f_X7_earliestWith_s15
    rw [e1, if_neg (nI_ge (by omega) (by omega)), bit_is (by omega) (by omega), eg]
    by_cases z : s.testBit (nQ b - 1 - k) = true
    · rw [if_pos z, if_pos rfl, m12, ald_nI (by omega) (by omega), Option.bind_some, a18 _ _ (by omega) (by omega) (by omega)]
      cases hc : cst b (low s) (nQ b - 1 - k) with
      | none =>
        rw [if_pos (show (1000000 : Int32) ≤ c6 none by decide)]
        unfold f_X7_earliestWith_j53
        rw [if_pos rfl, e2, if_neg]
        unfold isM sw
        rw [if_pos z, hc, hv]
        simp
      | some c =>
        have hcl := cst_le ok hc
        rw [show c6 (some c) = nI c from rfl, if_neg (show ¬ (1000000 : Int32) ≤ nI c from nI_ge (b := 1000000) (by omega) (by omega))]
        unfold f_X7_earliestWith_j53
        rw [if_neg (by decide), and_clr (by omega), and_clr (by omega)]
        show (ald 4096 (τ 19) (nI (rm2 s (low s) (nQ b - 1 - k)))).bind _ = _
        rw [ald_nI (by omega) (by omega), Option.bind_some, m12, ald_nI (by omega) (by omega), Option.bind_some, ald_nI (by omega) (by omega), Option.bind_some, a18 _ _ (by omega) (by omega) (by omega), hc, e19, (hB _ (by omega)).1, show c6 (some c) = nI c from rfl, e2]
        have hM : isM b s (nQ b - 1 - k) = decide ((val b (rm2 s (low s) (nQ b - 1 - k))).1.map (fun w => c + w) = some v) := by
          unfold isM sw
          rw [z, hc, hv, decide_eq_true (show low s < nQ b - 1 - k by omega)]
          rfl
        rw [hM]
        cases hw : (val b (rm2 s (low s) (nQ b - 1 - k))).1 with
        | none =>
          rw [show c6 none = nI 1000000 from rfl, nI_add, if_neg (fun y => by have := (nI_eq (by omega) (by omega)).mp y; omega), if_neg (by simp)]
        | some w =>
          have hwl := val_4848 ok (by omega) hw
          rw [show c6 (some w) = nI w from rfl, nI_add]
          by_cases y : w + c = v
          · rw [if_pos (by rw [y]), if_pos (by simp; omega)]
            rfl
          · rw [if_neg (fun x => y ((nI_eq (by omega) (by omega)).mp x)), if_neg (by simp; omega)]
    · rw [if_neg z, if_neg (by decide)]
      unfold f_X7_earliestWith_j53
      rw [if_pos rfl, e2, if_neg]
      unfold isM
      rw [Bool.eq_false_iff.mpr z]
      simp
  · unfold f_X7_earliestWith_s15
    have e1 : nI (nQ b - (nQ b - 1 - low s)) - 1 = nI (low s) := by
      rw [show nQ b - (nQ b - 1 - low s) = low s + 1 by omega, nI_pred]
    rw [e1, if_pos (nI_le (Nat.le_refl _) (by omega))]
