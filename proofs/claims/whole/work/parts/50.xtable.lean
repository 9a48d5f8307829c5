/-! ===== the class's table: the tie-breaks that rest on opponents ===== -/
theorem wh3_inv {A1 A2 A3 α : Type} {f : (A1 → A2 → A3 → Option α) → A1 → A2 → A3 → Option α} (n : Nat) (I : Nat → A1 → Prop) (s2 : Nat → A2) (s3 : Nat → A3) (Po : α → Prop) (hs : ∀ k, k < n → ∀ a, I k a → ∃ a', I (k + 1) a' ∧ ∀ r, f r a (s2 k) (s3 k) = r a' (s2 (k + 1)) (s3 (k + 1))) (hx : ∀ a, I n a → ∀ r, ∃ o, f r a (s2 n) (s3 n) = some o ∧ Po o) : ∀ F, n < F → ∀ a, I 0 a → ∃ o, wh3 f F a (s2 0) (s3 0) = some o ∧ Po o := by
  have key : ∀ d k F a, k + d = n → d < F → I k a → ∃ o, wh3 f F a (s2 k) (s3 k) = some o ∧ Po o := by
    intro d
    induction d with
    | zero =>
      intro k F a hk hF hI
      obtain ⟨F, rfl⟩ : ∃ G, F = G + 1 := ⟨F - 1, by omega⟩
      have hk' : k = n := by omega
      subst hk'
      exact hx a hI _
    | succ d ih =>
      intro k F a hk hF hI
      obtain ⟨F, rfl⟩ : ∃ G, F = G + 1 := ⟨F - 1, by omega⟩
      obtain ⟨a', h1, h2⟩ := hs k (by omega) a hI
      show ∃ o, f (wh3 f F) a (s2 k) (s3 k) = some o ∧ Po o
      rw [h2]
      exact ih (k + 1) F a' (by omega) (by omega) h1
  exact fun F hF a hI => key n 0 F a (by omega) hF hI
def gS1 (b : Mm) (x : Nat) : Nat → Nat := fun q => if met b x q = -5 then 0 else pts b q
def gS3 (b : Mm) (x : Nat) : Nat → Nat := fun q => if met b x q = -5 then 0 else madeL b x q (nD b) * pts b q
def gS7 (b : Mm) (x : Nat) : Nat → Nat := fun q => if met b x q = -5 then 0 else if pts b q = pts b x then madeL b x q (nD b) else 0
theorem gS1_all {b : Mm} (ok : BookOK b) (x : Nat) : sm (gS1 b x) (nP b) = oppsN b x := sum_met ok (fun q _ => pts b q) (nD b) (Nat.le_refl _)
theorem gS3_all {b : Mm} (ok : BookOK b) (x : Nat) : sm (gS3 b x) (nP b) = beatN b x := sum_met ok (fun q m => m * pts b q) (nD b) (Nat.le_refl _)
theorem gS7_all {b : Mm} (ok : BookOK b) (x : Nat) : sm (gS7 b x) (nP b) = dirN b x := sum_met ok (fun q m => if pts b q = pts b x then m else 0) (nD b) (Nat.le_refl _)
theorem x_meetingOf {σ : Mm} {x q : Nat} (hx : x < 12) (hq : q < 12) : f_X4_meetingOf σ (nI x) (nI q) = some (σ 56 (12 * x + q)) := by
  unfold f_X4_meetingOf f_X4_twoCell
  rw [Option.bind_some, e12, row_at (by omega) (by omega)]
  rfl
theorem x_haveMet {σ : Mm} {x q : Nat} (hx : x < 12) (hq : q < 12) : f_X4_haveMet σ (nI x) (nI q) = some (if σ 56 (12 * x + q) = -5 then 0 else 1) := by
  unfold f_X4_haveMet
  rw [x_meetingOf hx hq, Option.bind_some]
  split <;> rfl
theorem x_madeAgainst {σ : Mm} {x q : Nat} (hx : x < 12) (hq : q < 12) : f_X4_madeAgainst σ (nI x) (nI q) = some (σ 57 (12 * x + q)) := by
  unfold f_X4_madeAgainst f_X4_twoCell
  rw [Option.bind_some, e12, row_at (by omega) (by omega)]
  rfl
/-- the cells that the comparison writes -/
def CmpOff (x k j : Nat) : Prop := ¬ (k = 50 ∧ (j = 9 * x + 1 ∨ j = 9 * x + 2 ∨ j = 9 * x + 3 ∨ j = 9 * x + 7))
theorem x_compare {σ b : Mm} (h : Bk σ b) (ok : BookOK b) {x : Nat} (hx : x < nP b) (hpts : ∀ q, q < nP b → σ 50 (9 * q) = nI (pts b q)) (hz : σ 50 (9 * x + 1) = 0 ∧ σ 50 (9 * x + 2) = 0 ∧ σ 50 (9 * x + 3) = 0 ∧ σ 50 (9 * x + 7) = 0) (hmet : ∀ q, q < nP b → σ 56 (12 * x + q) = met b x q ∧ σ 57 (12 * x + q) = nI (madeL b x q (nD b))) :
    ∃ τ, f_X4_compareWithOpponents σ (nI x) = some τ ∧ Tab σ τ ∧ (∀ k j, CmpOff x k j → τ k j = σ k j) ∧ τ 50 (9 * x + 1) = nI (oppsN b x) ∧ τ 50 (9 * x + 2) = nI (cutN b x) ∧ τ 50 (9 * x + 3) = nI (beatN b x) ∧ τ 50 (9 * x + 7) = nI (dirN b x) := by
  have hP := ok.P12
  have l0 : (0 : Int32) = nI 0 := rfl
  have l1 : (1 : Int32) = nI 1 := rfl
  have l2 : (2 : Int32) = nI 2 := rfl
  have l3 : (3 : Int32) = nI 3 := rfl
  have l7 : (7 : Int32) = nI 7 := rfl
  unfold f_X4_compareWithOpponents
  rw [l0, x_tieOf (by omega) (by omega), Option.bind_some, show 9 * x + 0 = 9 * x from rfl, hpts x hx]
  refine wh3_inv (nP b) (fun k τ => Tab σ τ ∧ (∀ k j, CmpOff x k j → τ k j = σ k j) ∧ τ 50 (9 * x + 1) = nI (sm (gS1 b x) k) ∧ τ 50 (9 * x + 2) = 0 ∧ τ 50 (9 * x + 3) = nI (sm (gS3 b x) k) ∧ τ 50 (9 * x + 7) = nI (sm (gS7 b x) k)) (fun k => fewL b x k) (fun k => nI k) _ (fun q hq τ hI => ?_) (fun τ hI r => ?_) 5000 (by omega) σ ⟨Tab.rf, fun _ _ _ => rfl, hz.1, hz.2.1, hz.2.2.1, hz.2.2.2⟩
  · obtain ⟨t0, t1, a1, a2, a3, a7⟩ := hI
    have hb := t0.bk h
    have em : τ 56 (12 * x + q) = met b x q := by rw [t1 _ _ (fun z => by omega)]; exact (hmet q hq).1
    have ed : τ 57 (12 * x + q) = nI (madeL b x q (nD b)) := by rw [t1 _ _ (fun z => by omega)]; exact (hmet q hq).2
    have ep : τ 50 (9 * q + 0) = nI (pts b q) := by rw [show 9 * q + 0 = 9 * q from rfl, t1 _ _ (fun z => by omega)]; exact hpts q hq
    have p1 := pts_le ok q
    have p2 := pts_le ok x
    have efew : fewL b x (q + 1) = if met b x q = -5 then fewL b x q else if fewL b x q = -1 then nI (pts b q) else if nI (pts b q) < fewL b x q then nI (pts b q) else fewL b x q := rfl
    by_cases hm : met b x q = -5
    · refine ⟨τ, ⟨t0, t1, ?_, a2, ?_, ?_⟩, fun r => ?_⟩
      · rw [a1, sm_succ]; unfold gS1; rw [if_pos hm]; rfl
      · rw [a3, sm_succ]; unfold gS3; rw [if_pos hm]; rfl
      · rw [a7, sm_succ]; unfold gS7; rw [if_pos hm]; rfl
      · unfold f_X4_compareWithOpponents_s12
        rw [Option.bind_some, hb 0 (by omega), ok.P, if_neg (nI_ge hq (by omega)), x_haveMet (by omega) (by omega), Option.bind_some, em, if_pos hm, if_pos (by decide), efew, if_pos hm, show nI q + (1 : Int32) = nI (q + 1) from nI_1 q]
    · let τ1 := us τ 50 (9 * x + 1) (τ 50 (9 * x + 1) + nI (pts b q))
      let τ3 := us τ1 50 (9 * x + 3) (τ1 50 (9 * x + 3) + nI (madeL b x q (nD b)) * nI (pts b q))
      let v7 : Int32 := if pts b q = pts b x then nI (madeL b x q (nD b)) else 0
      let τ7 := us τ3 50 (9 * x + 7) (τ3 50 (9 * x + 7) + v7)
      refine ⟨τ7, ⟨((t0.tr (Tab.us (by omega) (by omega))).tr (Tab.us (by omega) (by omega))).tr (Tab.us (by omega) (by omega)), fun k j ho => ?_, ?_, ?_, ?_, ?_⟩, fun r => ?_⟩
      · show us _ 50 _ _ k j = _
        rw [us_skip (fun z => ho ⟨z.1, by omega⟩)]
        show us _ 50 _ _ k j = _
        rw [us_skip (fun z => ho ⟨z.1, by omega⟩)]
        show us _ 50 _ _ k j = _
        rw [us_skip (fun z => ho ⟨z.1, by omega⟩)]
        exact t1 k j ho
      · show us _ 50 _ _ 50 (9 * x + 1) = _
        rw [us_skip (by omega)]
        show us _ 50 _ _ 50 (9 * x + 1) = _
        rw [us_skip (by omega)]
        show us _ 50 _ _ 50 (9 * x + 1) = _
        rw [us_at, a1, nI_add, sm_succ]
        unfold gS1
        rw [if_neg hm]
      · show us _ 50 _ _ 50 (9 * x + 2) = _
        rw [us_skip (by omega)]
        show us _ 50 _ _ 50 (9 * x + 2) = _
        rw [us_skip (by omega)]
        show us _ 50 _ _ 50 (9 * x + 2) = _
        rw [us_skip (by omega), a2]
      · show us _ 50 _ _ 50 (9 * x + 3) = _
        rw [us_skip (by omega)]
        show us _ 50 _ _ 50 (9 * x + 3) = _
        rw [us_at]
        show us _ 50 _ _ 50 (9 * x + 3) + _ = _
        rw [us_skip (by omega), a3, pk_mul, nI_add, sm_succ]
        unfold gS3
        rw [if_neg hm]
      · show us _ 50 _ _ 50 (9 * x + 7) = _
        rw [us_at]
        show us _ 50 _ _ 50 (9 * x + 7) + _ = _
        rw [us_skip (by omega)]
        show us _ 50 _ _ 50 (9 * x + 7) + _ = _
        rw [us_skip (by omega), a7, sm_succ]
        show _ + (if pts b q = pts b x then nI (madeL b x q (nD b)) else 0) = _
        unfold gS7
        rw [if_neg hm]
        split
        · rw [nI_add]
        · rw [Int32.add_zero, Nat.add_zero]
      · unfold f_X4_compareWithOpponents_s12
        rw [Option.bind_some, hb 0 (by omega), ok.P, if_neg (nI_ge hq (by omega)), x_haveMet (by omega) (by omega), Option.bind_some, em, if_neg hm, if_neg (by decide), l0, x_tieOf (by omega) (by omega), Option.bind_some, ep, x_madeAgainst (by omega) (by omega), Option.bind_some, ed, l1, x_addTie (by omega) (by omega), Option.bind_some, l3, x_addTie (by omega) (by omega), Option.bind_some, efew, if_neg hm]
        have e7 : ∀ v : Int32, (if nI (pts b q) = nI (pts b x) then f_X4_compareWithOpponents_j87 r τ3 (nI x) (nI (pts b x)) (fewL b x q) (nI q) (nI (pts b q)) (nI x) (7 : Int32) (nI (madeL b x q (nD b))) else f_X4_compareWithOpponents_j87 r τ3 (nI x) (nI (pts b x)) (fewL b x q) (nI q) (nI (pts b q)) (nI x) (7 : Int32) (nI 0)) = f_X4_compareWithOpponents_j87 r τ3 (nI x) (nI (pts b x)) (fewL b x q) (nI q) (nI (pts b q)) (nI x) (7 : Int32) v7 := by
          intro _
          show _ = f_X4_compareWithOpponents_j87 r τ3 (nI x) (nI (pts b x)) (fewL b x q) (nI q) (nI (pts b q)) (nI x) (7 : Int32) (if pts b q = pts b x then nI (madeL b x q (nD b)) else 0)
          by_cases z : pts b q = pts b x
          · rw [if_pos (by rw [z]), if_pos z]
          · rw [if_neg (fun y => z ((nI_eq (by omega) (by omega)).mp y)), if_neg z]; rfl
        refine (e7 0).trans ?_
        unfold f_X4_compareWithOpponents_j87
        rw [l7, x_addTie (by omega) (by omega), Option.bind_some, show nI q + (1 : Int32) = nI (q + 1) from nI_1 q]
        by_cases z : fewL b x q = (-1 : Int32)
        · rw [if_pos z, if_pos z]
        · rw [if_neg z, if_neg z]
          rfl
  · obtain ⟨t0, t1, a1, a2, a3, a7⟩ := hI
    have hb := t0.bk h
    refine ⟨us τ 50 (9 * x + 2) (τ 50 (9 * x + 2) + (τ 50 (9 * x + 1) - (if (0 : Int32) < fewL b x (nP b) then fewL b x (nP b) else 0))), ?_, t0.tr (Tab.us (by omega) (by omega)), fun k j ho => ?_, ?_, ?_, ?_, ?_⟩
    · unfold f_X4_compareWithOpponents_s12 f_X4_compareWithOpponents_j113
      rw [Option.bind_some, hb 0 (by omega), ok.P, if_pos (nI_le (Nat.le_refl _) (by omega)), l1, x_tieOf (by omega) (by omega), Option.bind_some, Option.bind_some, l2, x_addTie (by omega) (by omega), Option.bind_some]
    · rw [us_skip (fun z => ho ⟨z.1, by omega⟩)]; exact t1 k j ho
    · rw [us_skip (by omega), a1, gS1_all ok]
    · rw [us_at, a2, a1, gS1_all ok, Int32.zero_add, cut_eq ok]
    · rw [us_skip (by omega), a3, gS3_all ok]
    · rw [us_skip (by omega), a7, gS7_all ok]
/-- what the table says of a player when all is reckoned -/
def TF (b : Mm) (x : Nat) (σ : Mm) : Prop :=
  (∀ t, t ≤ 8 → σ 50 (9 * x + t) = nI (tieN b x t)) ∧ σ 51 x = nI (playedN b x) ∧ σ 52 x = balI b x ∧ σ 53 x = lat b x ∧ σ 54 x = nI (byesN b x) ∧ σ 55 x = nI (forfN b x) ∧
  ∀ q, q < nP b → σ 56 (12 * x + q) = met b x q ∧ σ 57 (12 * x + q) = nI (madeL b x q (nD b))
theorem TF.cong {b : Mm} {x z : Nat} {σ τ : Mm} (ok : BookOK b) (hxz : x ≠ z) (h : TF b x σ) (ho : ∀ k j, Off z k j → τ k j = σ k j) : TF b x τ := by
  have hP := ok.P12
  obtain ⟨h0, a1, a2, a3, a4, a5, hq⟩ := h
  refine ⟨fun t ht => ?_, ?_, ?_, ?_, ?_, ?_, fun q hqP => ⟨?_, ?_⟩⟩
  · rw [ho _ _ ⟨by omega, by omega, by omega⟩]; exact h0 t ht
  · rw [ho _ _ ⟨by omega, by omega, by omega⟩]; exact a1
  · rw [ho _ _ ⟨by omega, by omega, by omega⟩]; exact a2
  · rw [ho _ _ ⟨by omega, by omega, by omega⟩]; exact a3
  · rw [ho _ _ ⟨by omega, by omega, by omega⟩]; exact a4
  · rw [ho _ _ ⟨by omega, by omega, by omega⟩]; exact a5
  · rw [ho _ _ ⟨by omega, by omega, by omega⟩]; exact (hq q hqP).1
  · rw [ho _ _ ⟨by omega, by omega, by omega⟩]; exact (hq q hqP).2
theorem x_wipe {σ : Mm} : ∃ τ, f_X4_wipe σ = some τ ∧ Tab σ τ ∧ ∀ b x, x < 12 → nP b ≤ 12 → VI b x 0 0 0 τ := by
  unfold f_X4_wipe
  rw [row_fill (by omega), Option.bind_some, row_fill (by omega), Option.bind_some, row_fill (by omega), Option.bind_some, row_fill (by omega), Option.bind_some, row_fill (by omega), Option.bind_some, row_fill (by omega), Option.bind_some, row_fill (by omega), Option.bind_some, row_fill (by omega), Option.bind_some]
  refine ⟨_, rfl, fun k hk => ?_, fun b x hx hP => ?_⟩
  · rw [st_ne _ _ (by omega), st_ne _ _ (by omega), st_ne _ _ (by omega), st_ne _ _ (by omega), st_ne _ _ (by omega), st_ne _ _ (by omega), st_ne _ _ (by omega), st_ne _ _ (by omega)]
  · refine ⟨?_, ⟨?_, ?_, ?_, ?_, ?_⟩, ?_, ?_, ?_, ?_, ?_, ?_, ?_, ?_, fun q hq => ⟨?_, ?_⟩⟩
    all_goals repeat (first | rw [st_ne _ _ (by omega)] | rw [st_eq])
    all_goals rw [if_pos (by omega)]
    all_goals first | rfl | (show (0 : Int32) = nI 0 - 2 * nI 0; decide)
