/-! ===== the class's table: a round, all rounds ===== -/
theorem VI.skip {b σ : Mm} {x r g : Nat} (hb : brd b x r = none) (hy : ¬ b 6 r = nI x) (h : VI b x r g r σ) : VI b x (r + 1) g (r + 1) σ := by
  have hpl : pl b x r = none := by unfold pl; rw [hb]
  obtain ⟨h0, h1, h4, h5, h6, a1, a2, a3, a4, a5, hq⟩ := h
  have ep : ptsN b x (r + 1) = ptsN b x r := by
    unfold ptsN
    rw [sm_succ]
    unfold mi
    rw [if_neg hy, hb]
    rfl
  have ew : sm (wF b x) (r + 1) = sm (wF b x) r := by rw [sm_succ]; unfold wF; rw [plF_none hpl]; rfl
  have ek : sm (kF b x) (r + 1) = sm (kF b x) r := by rw [sm_succ]; unfold kF; rw [plF_none hpl]; rfl
  have eO : sm (oF b x) (r + 1) = sm (oF b x) r := by rw [sm_succ]; unfold oF; rw [plF_none hpl]; rfl
  have ef : sm (forfF b x) (r + 1) = sm (forfF b x) r := by rw [sm_succ]; unfold forfF; rw [hb]; rfl
  have ey : sm (yF b x) (r + 1) = sm (yF b x) r := by rw [sm_succ]; unfold yF; rw [if_neg hy]; rfl
  exact ⟨by rw [ep]; exact h0, h1, by rw [ew]; exact h4, by rw [ek]; exact h5, h6, by rw [eO]; exact a1, by rw [eO, ek]; exact a2, by rw [latL_none hpl]; exact a3, by rw [ey]; exact a4, by rw [ef]; exact a5, fun q hqP => ⟨by rw [metL_none hpl]; exact (hq q hqP).1, by rw [madeL_none hpl]; exact (hq q hqP).2⟩⟩
theorem VI.noBye {b σ : Mm} {x n g r : Nat} (hy : ¬ b 6 r = nI x) (h : VI b x n g r σ) : VI b x n g (r + 1) σ := by
  obtain ⟨h0, h1, h4, h5, h6, a1, a2, a3, a4, a5, hq⟩ := h
  have ey : sm (yF b x) (r + 1) = sm (yF b x) r := by rw [sm_succ]; unfold yF; rw [if_neg hy]; rfl
  exact ⟨h0, h1, h4, h5, h6, a1, a2, a3, by rw [ey]; exact a4, a5, hq⟩
theorem VI.bye {b σ : Mm} {x r g : Nat} (hb : brd b x r = none) (hy : b 6 r = nI x) (h : VI b x r g r σ) : VI b x (r + 1) g (r + 1) (us (us σ 54 x (σ 54 x + 1)) 50 (9 * x + 0) (us σ 54 x (σ 54 x + 1) 50 (9 * x + 0) + nI 2)) := by
  have hpl : pl b x r = none := by unfold pl; rw [hb]
  obtain ⟨h0, ⟨h1, h2, h3, h7, h8⟩, h4, h5, h6, a1, a2, a3, a4, a5, hq⟩ := h
  have ep : ptsN b x (r + 1) = ptsN b x r + 2 := by
    unfold ptsN
    rw [sm_succ]
    unfold mi
    rw [if_pos hy]
  have ew : sm (wF b x) (r + 1) = sm (wF b x) r := by rw [sm_succ]; unfold wF; rw [plF_none hpl]; rfl
  have ek : sm (kF b x) (r + 1) = sm (kF b x) r := by rw [sm_succ]; unfold kF; rw [plF_none hpl]; rfl
  have eO : sm (oF b x) (r + 1) = sm (oF b x) r := by rw [sm_succ]; unfold oF; rw [plF_none hpl]; rfl
  have ef : sm (forfF b x) (r + 1) = sm (forfF b x) r := by rw [sm_succ]; unfold forfF; rw [hb]; rfl
  have ey : sm (yF b x) (r + 1) = sm (yF b x) r + 1 := by rw [sm_succ]; unfold yF; rw [if_pos hy]
  refine ⟨?_, ⟨?_, ?_, ?_, ?_, ?_⟩, ?_, ?_, ?_, ?_, ?_, ?_, ?_, ?_, fun z hz => ⟨?_, ?_⟩⟩
  · rw [show 9 * x + 0 = 9 * x from rfl, us_at, us_skip (by omega), h0, nI_add, ep]
  · rw [us_skip (by omega), us_skip (by omega)]; exact h1
  · rw [us_skip (by omega), us_skip (by omega)]; exact h2
  · rw [us_skip (by omega), us_skip (by omega)]; exact h3
  · rw [us_skip (by omega), us_skip (by omega)]; exact h7
  · rw [us_skip (by omega), us_skip (by omega)]; exact h8
  · rw [us_skip (by omega), us_skip (by omega), ew]; exact h4
  · rw [us_skip (by omega), us_skip (by omega), ek]; exact h5
  · rw [us_skip (by omega), us_skip (by omega)]; exact h6
  · rw [us_skip (by omega), us_skip (by omega), eO]; exact a1
  · rw [us_skip (by omega), us_skip (by omega), eO, ek]; exact a2
  · rw [us_skip (by omega), us_skip (by omega), latL_none hpl]; exact a3
  · rw [us_skip (by omega), us_at, a4, ey]; exact nI_1 _
  · rw [us_skip (by omega), us_skip (by omega), ef]; exact a5
  · rw [us_skip (by omega), us_skip (by omega), metL_none hpl]; exact (hq z hz).1
  · rw [us_skip (by omega), us_skip (by omega), madeL_none hpl]; exact (hq z hz).2
theorem VI.grow {b σ : Mm} {x r y : Nat} (h : VI b x (r + 1) r y σ) : VI b x (r + 1) (r + 1) y (us σ 50 (9 * x + 6) (σ 50 (9 * x + 6) + σ 50 (9 * x + 0))) := by
  obtain ⟨h0, ⟨h1, h2, h3, h7, h8⟩, h4, h5, h6, a1, a2, a3, a4, a5, hq⟩ := h
  refine ⟨?_, ⟨?_, ?_, ?_, ?_, ?_⟩, ?_, ?_, ?_, ?_, ?_, ?_, ?_, ?_, fun z hz => ⟨?_, ?_⟩⟩
  · rw [us_skip (by omega)]; exact h0
  · rw [us_skip (by omega)]; exact h1
  · rw [us_skip (by omega)]; exact h2
  · rw [us_skip (by omega)]; exact h3
  · rw [us_skip (by omega)]; exact h7
  · rw [us_skip (by omega)]; exact h8
  · rw [us_skip (by omega)]; exact h4
  · rw [us_skip (by omega)]; exact h5
  · rw [us_at, h6, show 9 * x + 0 = 9 * x from rfl, h0, nI_add, sm_succ]; rfl
  · rw [us_skip (by omega)]; exact a1
  · rw [us_skip (by omega)]; exact a2
  · rw [us_skip (by omega)]; exact a3
  · rw [us_skip (by omega)]; exact a4
  · rw [us_skip (by omega)]; exact a5
  · rw [us_skip (by omega)]; exact (hq z hz).1
  · rw [us_skip (by omega)]; exact (hq z hz).2
/-- only the table's rows of counts have changed -/
def Tab (σ τ : Mm) : Prop := ∀ k, k < 50 ∨ 57 < k → τ k = σ k
theorem Tab.rf {σ : Mm} : Tab σ σ := fun _ _ => rfl
theorem Tab.tr {σ τ ρ : Mm} (h1 : Tab σ τ) (h2 : Tab τ ρ) : Tab σ ρ := fun k hk => (h2 k hk).trans (h1 k hk)
theorem Tab.us {σ : Mm} {k i : Nat} {v : Int32} (h1 : 50 ≤ k) (h2 : k ≤ 57) : Tab σ (us σ k i v) := fun j hj => us_ne (by omega)
theorem Tab.st {σ : Mm} {k : Nat} {f : Nat → Int32} (h1 : 50 ≤ k) (h2 : k ≤ 57) : Tab σ (st σ k f) := fun j hj => st_ne _ _ (by omega)
theorem Tab.bk {σ τ b : Mm} (h : Tab σ τ) (hb : Bk σ b) : Bk τ b := fun k hk => by rw [h k (by omega)]; exact hb k hk
theorem cpd_tab {b σ : Mm} {x r c : Nat} : Tab σ (cpd b x r c σ) := by
  intro k hk
  unfold cpd
  rw [us_ne (by omega), us_ne (by omega), us_ne (by omega), us_ne (by omega), us_ne (by omega), us_ne (by omega), us_ne (by omega)]
theorem csd_tab {b σ : Mm} {x r c : Nat} : Tab σ (csd b x r c σ) := by
  intro k hk
  unfold csd
  by_cases q : 1 ≤ outX b x c ∧ outX b x c ≤ 3
  · rw [if_pos q, cpd_tab k hk]
    split
    · rw [us_ne (by omega), us_ne (by omega)]
    · rw [us_ne (by omega)]
  · rw [if_neg q]
    split
    · rw [us_ne (by omega), us_ne (by omega)]
    · rw [us_ne (by omega)]
def hitN (b : Mm) (x r c : Nat) : Nat := if (fnd (onB b x r) c).isSome then r + 1 else r
theorem hit_not {b : Mm} {x r c : Nat} (ok : BookOK b) (hr : r < nR b) (hc : c < nB b r) (hx : onB b x r c = true) : hitN b x r c = r ∧ hitN b x r (c + 1) = r + 1 := by
  have e : fnd (onB b x r) (c + 1) = if onB b x r c then some c else fnd (onB b x r) c := rfl
  refine ⟨?_, by unfold hitN; rw [e, if_pos hx]; rfl⟩
  unfold hitN
  cases h : fnd (onB b x r) c with
  | none => rfl
  | some d =>
    obtain ⟨h1, h2⟩ := fnd_some h
    have hd : d < nB b r := by omega
    simp [onB] at hx h2
    obtain ⟨a1, a2, a3⟩ := ok.apart hr hc hd (by omega)
    obtain ⟨b1, b2, b3⟩ := ok.apart hr hd hc (by omega)
    rcases hx with q | q <;> rcases h2 with z | z
    · exact absurd (q.trans z.symm) a1
    · exact absurd (q.trans z.symm) a2
    · exact absurd (z.trans q.symm) b2
    · exact absurd (q.trans z.symm) a3
theorem hit_same {b : Mm} {x r c : Nat} (hx : onB b x r c = false) : hitN b x r (c + 1) = hitN b x r c := by
  have e : fnd (onB b x r) (c + 1) = if onB b x r c then some c else fnd (onB b x r) c := rfl
  unfold hitN
  rw [e, hx]
  rfl
theorem x_countRound {σ b : Mm} (h : Bk σ b) (ok : BookOK b) {r : Nat} (hr : r < nD b) (hV : ∀ x, x < nP b → VI b x r r r σ) : ∃ τ, f_X4_countRound σ (nI r) = some τ ∧ Tab σ τ ∧ ∀ x, x < nP b → VI b x (r + 1) (r + 1) (r + 1) τ := by
  have hP := ok.P12
  have hR := ok.R20
  have hrR : r < nR b := Nat.lt_of_lt_of_le hr ok.DR
  have h6 := ok.B6 hrR
  unfold f_X4_countRound
  refine wh2_inv (nB b r) (fun c τ => Tab σ τ ∧ ∀ x, x < nP b → VI b x (hitN b x r c) r r τ) (fun c => nI c) _ (fun c hc τ hI => ?_) (fun τ hI rr => ?_) 5000 (by omega) σ ⟨Tab.rf, hV⟩
  · obtain ⟨ht, hv⟩ := hI
    have hb := ht.bk h
    have hw := ok.WP hrR hc
    have hk := ok.KP hrR hc
    have hne := ok.WK hrR hc
    have bw : brd b (wN b (6 * r + c)) r = some (6 * r + c) := brd_one ok hrR hc (Or.inl rfl)
    have bk' : brd b (kN b (6 * r + c)) r = some (6 * r + c) := brd_one ok hrR hc (Or.inr rfl)
    have ow := opp_lt ok hrR bw
    have okk := opp_lt ok hrR bk'
    obtain ⟨hw1, hw2⟩ := hit_not ok hrR hc (x := wN b (6 * r + c)) (by simp [onB])
    obtain ⟨hk1, hk2⟩ := hit_not ok hrR hc (x := kN b (6 * r + c)) (by simp [onB])
    have v1 : ∀ x, x < nP b → VI b x (if x = wN b (6 * r + c) then r + 1 else hitN b x r c) r r (csd b (wN b (6 * r + c)) r (6 * r + c) τ) := by
      intro x hx
      by_cases e : x = wN b (6 * r + c)
      · rw [if_pos e]
        subst e
        have := hv _ hw
        rw [hw1] at this
        exact VI.side ok hrR hc hw bw this
      · rw [if_neg e]
        exact VI.cong ok e (hv x hx) (fun k j ho => csd_off (by omega) ho)
    refine ⟨csd b (kN b (6 * r + c)) r (6 * r + c) (csd b (wN b (6 * r + c)) r (6 * r + c) τ), ⟨(ht.tr csd_tab).tr csd_tab, fun x hx => ?_⟩, fun rr => ?_⟩
    · by_cases e : x = kN b (6 * r + c)
      · subst e
        rw [hk2]
        have := v1 _ hk
        rw [if_neg (Ne.symm hne), hk1] at this
        exact VI.side ok hrR hc hk bk' this
      · have := VI.cong ok e (v1 x hx) (τ := csd b (kN b (6 * r + c)) r (6 * r + c) (csd b (wN b (6 * r + c)) r (6 * r + c) τ)) (fun k j ho => csd_off (by omega) ho)
        by_cases e2 : x = wN b (6 * r + c)
        · rw [if_pos e2] at this
          subst e2
          rw [hw2]
          exact this
        · rw [if_neg e2] at this
          rw [hit_same (by simp [onB]; exact ⟨fun z => e2 z.symm, fun z => e z.symm⟩)]
          exact this
    · unfold f_X4_countRound_s2
      have hb2 : Bk (csd b (wN b (6 * r + c)) r (6 * r + c) τ) b := csd_tab.bk hb
      rw [row_at (by omega) (by omega), Option.bind_some, hb 5 (by omega), ok.B hrR, if_neg (nI_ge hc (by omega)), x_boardCell, Option.bind_some, row_at (by omega) (by omega), Option.bind_some, hb 7 (by omega), ok.W hrR hc, x_countSide hb ok hrR hc hw (Or.inl rfl), Option.bind_some, row_at (by omega) (by omega), Option.bind_some, hb2 8 (by omega), ok.K hrR hc, x_countSide hb2 ok hrR hc hk (Or.inr rfl), Option.bind_some, show nI c + (1 : Int32) = nI (c + 1) from nI_1 c]
  · obtain ⟨ht, hv⟩ := hI
    have hb := ht.bk h
    unfold f_X4_countRound_s2
    rw [row_at (by omega) (by omega), Option.bind_some, hb 5 (by omega), ok.B hrR, if_pos (nI_le (Nat.le_refl _) (by omega))]
    -- the loop of growth, from any memory behind the bye
    have hg : ∀ ρ, Tab σ ρ → (∀ x, x < nP b → VI b x (r + 1) r (r + 1) ρ) → ∃ o, wh2 f_X4_countRound_s99 5000 ρ (nI 0) = some o ∧ Tab σ o ∧ ∀ x, x < nP b → VI b x (r + 1) (r + 1) (r + 1) o := by
      intro ρ hρ hvρ
      refine wh2_inv (nP b) (fun i τ => Tab σ τ ∧ (∀ x, x < nP b → x < i → VI b x (r + 1) (r + 1) (r + 1) τ) ∧ ∀ x, x < nP b → i ≤ x → VI b x (r + 1) r (r + 1) τ) (fun i => nI i) _ (fun i hi τ hI => ?_) (fun τ hI rr => ?_) 5000 (by omega) ρ ⟨hρ, fun x _ hx => absurd hx (Nat.not_lt_zero _), fun x hx _ => hvρ x hx⟩
      · obtain ⟨t1, t2, t3⟩ := hI
        refine ⟨us τ 50 (9 * i + 6) (τ 50 (9 * i + 6) + τ 50 (9 * i + 0)), ⟨t1.tr (Tab.us (by omega) (by omega)), fun x hx hxi => ?_, fun x hx hxi => ?_⟩, fun rr => ?_⟩
        · by_cases e : x = i
          · subst e
            exact VI.grow (t3 x hx (Nat.le_refl _))
          · exact VI.cong ok e (t2 x hx (by omega)) (fun k j ho => us_skip (fun q => ho.1 ⟨q.1, by omega, by omega⟩))
        · exact VI.cong ok (show x ≠ i by omega) (t3 x hx (by omega)) (fun k j ho => us_skip (fun q => ho.1 ⟨q.1, by omega, by omega⟩))
        · unfold f_X4_countRound_s99
          rw [Option.bind_some, (t1.bk h) 0 (by omega), ok.P, if_neg (nI_ge hi (by omega)), show (0 : Int32) = nI 0 from rfl, x_tieOf (by omega) (by omega), Option.bind_some, show (6 : Int32) = nI 6 from rfl, x_addTie (by omega) (by omega), Option.bind_some, show nI i + (1 : Int32) = nI (i + 1) from nI_1 i]
      · obtain ⟨t1, t2, t3⟩ := hI
        refine ⟨τ, ?_, t1, fun x hx => t2 x hx hx⟩
        unfold f_X4_countRound_s99
        rw [Option.bind_some, (t1.bk h) 0 (by omega), ok.P, if_pos (nI_le (Nat.le_refl _) (by omega))]
    -- who has no board, and no bye, stays; who has a board has no bye
    have hall : ∀ x, x < nP b → ¬ b 6 r = nI x → VI b x (r + 1) r (r + 1) τ := by
      intro x hx hy
      have := hv x hx
      unfold hitN at this
      cases hf : fnd (onB b x r) (nB b r) with
      | none =>
        rw [hf] at this
        exact VI.skip (by unfold brd; rw [hf]; rfl) hy this
      | some d =>
        rw [hf] at this
        exact VI.noBye hy this
    unfold f_X4_countRound_j63
    rw [row_at (by omega) (by omega), Option.bind_some, hb 6 (by omega)]
    rcases ok.bye hrR with hy | ⟨hy, hyP⟩
    · rw [if_pos hy]
      refine hg τ ht (fun x hx => hall x hx ?_)
      rw [hy]
      intro z
      have : (nI x) < 0 := by rw [← z]; decide
      exact nI_pos (by omega) this
    · have hny : ¬ b 6 r = (-5 : Int32) := by
        rw [hy]
        intro z
        have : nI (gN b 6 r) < 0 := by rw [z]; decide
        exact nI_pos (by omega) this
      rw [if_neg hny, hy, row_add (by omega) (by omega), Option.bind_some, show (0 : Int32) = nI 0 from rfl, show (2 : Int32) = nI 2 from rfl, x_addTie (by omega) (by omega), Option.bind_some]
      refine hg _ ((ht.tr (Tab.us (by omega) (by omega))).tr (Tab.us (by omega) (by omega))) (fun x hx => ?_)
      by_cases e : x = gN b 6 r
      · subst e
        have := hv _ hx
        have hbn : brd b (gN b 6 r) r = none := by
          cases hbb : brd b (gN b 6 r) r with
          | none => rfl
          | some c =>
            obtain ⟨d, d1, d2, d3⟩ := brd_some hbb
            subst d2
            have := ok.noBye hrR d1 hx hy
            rcases d3 with q | q
            · exact absurd q this.1
            · exact absurd q this.2
        have hfn : fnd (onB b (gN b 6 r) r) (nB b r) = none := by
          unfold brd at hbn
          exact Option.map_eq_none_iff.mp hbn
        unfold hitN at this
        rw [hfn] at this
        exact VI.bye hbn hy this
      · refine VI.cong ok e (hall x hx (fun z => e ((nI_eq (by omega) (by omega)).mp (z.symm.trans hy)))) (fun k j ho => ?_)
        rw [us_skip (fun q => ho.1 ⟨q.1, by omega, by omega⟩), us_skip (fun q => ho.2.1 ⟨by omega, q.2⟩)]
