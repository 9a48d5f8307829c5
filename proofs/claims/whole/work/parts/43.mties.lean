/-! ===== the reference's tie-breaks, by the book ===== -/
/-- what a board that was played over the board holds; the common steps of the reference's loops over the rounds -/
theorem oI_some (c : Nat) : oI (some c) = nI c := rfl
theorem pl_lt {b : Mm} (ok : BookOK b) {p r c : Nat} (hr : r < nD b) (h : pl b p r = some c) : c < 120 := brd_lt ok (Nat.lt_of_lt_of_le hr ok.DR) (pl_some h).1
theorem pl_opp {b : Mm} (ok : BookOK b) {p r c : Nat} (hr : r < nD b) (h : pl b p r = some c) : opp b p c < nP b ∧ opp b p c ≠ p := opp_lt ok (Nat.lt_of_lt_of_le hr ok.DR) (pl_some h).1
def leastL (b : Mm) (p : Nat) : Nat → Nat
  | 0 => 1000000
  | n + 1 => match pl b p n with
    | none => leastL b p n
    | some c => if leastL b p n ≤ pts b (opp b p c) then leastL b p n else pts b (opp b p c)
theorem leastL_none {b : Mm} {p k : Nat} (h : pl b p k = none) : leastL b p (k + 1) = leastL b p k := by
  show (match pl b p k with | none => leastL b p k | some c => if leastL b p k ≤ pts b (opp b p c) then leastL b p k else pts b (opp b p c)) = _
  rw [h]
theorem leastL_some {b : Mm} {p k c : Nat} (h : pl b p k = some c) : leastL b p (k + 1) = if leastL b p k ≤ pts b (opp b p c) then leastL b p k else pts b (opp b p c) := by
  show (match pl b p k with | none => leastL b p k | some c => if leastL b p k ≤ pts b (opp b p c) then leastL b p k else pts b (opp b p c)) = _
  rw [h]
theorem leastL_le {b : Mm} {p : Nat} : ∀ n, leastL b p n ≤ 1000000
  | 0 => Nat.le_refl _
  | n + 1 => by
    have ih := leastL_le (b := b) (p := p) n
    cases h : pl b p n with
    | none => rw [leastL_none h]; exact ih
    | some c => rw [leastL_some h]; split <;> omega
theorem leastL_sum {b : Mm} {p : Nat} : ∀ n, leastL b p n = 1000000 ∨ leastL b p n ≤ sm (plF b p (fun c => pts b (opp b p c))) n
  | 0 => Or.inl rfl
  | n + 1 => by
    have ih := leastL_sum (b := b) (p := p) n
    rw [sm_succ]
    cases h : pl b p n with
    | none =>
      rw [leastL_none h]
      rcases ih with ih | ih
      · exact Or.inl ih
      · exact Or.inr (by omega)
    | some c => rw [leastL_some h, plF_some h]; split <;> rcases ih with ih | ih <;> omega
def cutN (b : Mm) (p : Nat) : Nat := if 1000000 ≤ leastL b p (nD b) then oppsN b p else oppsN b p - leastL b p (nD b)
theorem m_opponentsOf {μ b : Mm} (h : Bk μ b) (ok : BookOK b) {p w : Nat} (hp : p < nP b) (hw : w ≤ 1) : f_X7_opponentsOf μ (nI p) (nI w) = some (nI (if w = 0 then oppsN b p else cutN b p)) := by
  have hD := ok.D20
  have hP := ok.P12
  have hll := fun n => leastL_le (b := b) (p := p) n
  unfold f_X7_opponentsOf
  refine wh3_seq (nD b) (fun k => nI (sm (plF b p (fun c => pts b (opp b p c))) k)) (fun k => nI (leastL b p k)) (fun k => nI k) _ (fun k hk r => ?_) (fun r => ?_) 5000 (by omega)
  · have hkR : k < nR b := Nat.lt_of_lt_of_le hk ok.DR
    unfold f_X7_opponentsOf_s9
    rw [m_done h ok, Option.bind_some, if_neg (nI_ge hk (by omega)), m_playedIn h ok hp hk, Option.bind_some]
    unfold f_X7_opponentsOf_j47
    rw [show nI k + (1 : Int32) = nI (k + 1) from nI_1 k]
    cases hb : pl b p k with
    | none => rw [if_pos (by decide), if_pos (by decide), acc_0 (plF_none hb), leastL_none hb]
    | some c =>
      have hc := pl_lt ok hk hb
      have hol := pl_opp ok hk hb
      have h40 := pts_le ok (opp b p c)
      have hn := hll k
      rw [oI_some, if_neg (nI_pos (by omega)), m_otherOn h ok hkR hp (pl_some hb).1, Option.bind_some, m_pointsOf h ok hol.1, Option.bind_some, if_neg (nI_pos (by omega)), acc_v (plF_some hb), leastL_some hb]
      by_cases z : leastL b p k ≤ pts b (opp b p c)
      · rw [if_pos (nI_le z (by omega)), if_pos z]
      · rw [if_neg (nI_ge (by omega) (by omega)), if_neg z]
  · unfold f_X7_opponentsOf_s9 f_X7_opponentsOf_j81
    rw [m_done h ok, Option.bind_some, if_pos (nI_le (Nat.le_refl _) (by omega))]
    have hn := hll (nD b)
    rcases (show w = 0 ∨ w = 1 by omega) with rfl | rfl
    · rw [if_pos (by decide), if_pos rfl]; rfl
    · rw [if_neg (show ¬ nI 1 = (0 : Int32) by decide), if_neg (show ¬ (1 = 0) by decide)]
      unfold cutN oppsN
      by_cases z : 1000000 ≤ leastL b p (nD b)
      · rw [if_pos (show (1000000 : Int32) ≤ nI (leastL b p (nD b)) from nI_le (a := 1000000) z (by omega)), if_pos z]
      · rw [if_neg (show ¬ (1000000 : Int32) ≤ nI (leastL b p (nD b)) from nI_ge (b := 1000000) (by omega) (by omega)), if_neg z]
        rw [pk_sub]
        rcases leastL_sum (b := b) (p := p) (nD b) with y | y
        · omega
        · exact y
theorem m_beatenOf {μ b : Mm} (h : Bk μ b) (ok : BookOK b) {p : Nat} (hp : p < nP b) : f_X7_beatenOf μ (nI p) = some (nI (beatN b p)) := by
  have hD := ok.D20
  unfold f_X7_beatenOf beatN
  refine wh2_seq (nD b) (fun k => nI (sm (plF b p (fun c => mk b p c * pts b (opp b p c))) k)) (fun k => nI k) _ (fun k hk r => ?_) (fun r => ?_) 5000 (by omega)
  · have hkR : k < nR b := Nat.lt_of_lt_of_le hk ok.DR
    unfold f_X7_beatenOf_s4
    rw [m_done h ok, Option.bind_some, if_neg (nI_ge hk (by omega)), m_playedIn h ok hp hk, Option.bind_some, show nI k + (1 : Int32) = nI (k + 1) from nI_1 k]
    cases hb : pl b p k with
    | none => rw [if_pos (by decide), acc_0 (plF_none hb)]
    | some c =>
      have hc := pl_lt ok hk hb
      rw [oI_some, if_neg (nI_pos (by omega)), m_madeOn h ok hkR hp (pl_some hb).1, Option.bind_some, m_otherOn h ok hkR hp (pl_some hb).1, Option.bind_some, m_pointsOf h ok (pl_opp ok hk hb).1, Option.bind_some, pk_mul, acc_v (plF_some hb)]
  · unfold f_X7_beatenOf_s4
    rw [m_done h ok, Option.bind_some, if_pos (nI_le (Nat.le_refl _) (by omega))]
theorem m_winsOf {μ b : Mm} (h : Bk μ b) (ok : BookOK b) {p : Nat} (hp : p < nP b) : f_X7_winsOf μ (nI p) = some (nI (winsN b p)) := by
  have hD := ok.D20
  unfold f_X7_winsOf winsN
  refine wh2_seq (nD b) (fun k => nI (sm (plF b p (fun c => if mk b p c = 2 then 1 else 0)) k)) (fun k => nI k) _ (fun k hk r => ?_) (fun r => ?_) 5000 (by omega)
  · have hkR : k < nR b := Nat.lt_of_lt_of_le hk ok.DR
    unfold f_X7_winsOf_s4
    rw [m_done h ok, Option.bind_some, if_neg (nI_ge hk (by omega)), m_playedIn h ok hp hk, Option.bind_some, show nI k + (1 : Int32) = nI (k + 1) from nI_1 k]
    cases hb : pl b p k with
    | none => rw [if_pos (by decide), acc_0 (plF_none hb)]
    | some c =>
      have hc := pl_lt ok hk hb
      have h2 := mk_le b p c
      rw [oI_some, if_neg (nI_pos (by omega)), m_madeOn h ok hkR hp (pl_some hb).1, Option.bind_some]
      by_cases z : mk b p c = 2
      · rw [if_pos (by rw [z]; rfl), acc_1 (by rw [plF_some hb, if_pos z])]
      · rw [if_neg (show ¬ nI (mk b p c) = (2 : Int32) from fun y => z ((nI_eq (b := 2) (by omega) (by omega)).mp y)), acc_0 (by rw [plF_some hb, if_neg z])]
  · unfold f_X7_winsOf_s4
    rw [m_done h ok, Option.bind_some, if_pos (nI_le (Nat.le_refl _) (by omega))]
theorem m_growthOf {μ b : Mm} (h : Bk μ b) (ok : BookOK b) {p : Nat} (hp : p < nP b) : f_X7_growthOf μ (nI p) = some (nI (growN b p)) := by
  have hD := ok.D20
  have hDR := ok.DR
  unfold f_X7_growthOf growN
  refine wh2_seq (nD b) (fun k => nI (sm (fun r => ptsN b p (r + 1)) k)) (fun k => nI (k + 1)) _ (fun k hk r => ?_) (fun r => ?_) 5000 (by omega)
  · unfold f_X7_growthOf_s4
    rw [m_done h ok, Option.bind_some, if_neg (nI_nlt (by omega) (by omega)), m_pointsBehind h ok hp (by omega), Option.bind_some, acc_v (F := fun r => ptsN b p (r + 1)) rfl, show nI (k + 1) + (1 : Int32) = nI (k + 1 + 1) from nI_1 (k + 1)]
  · unfold f_X7_growthOf_s4
    rw [m_done h ok, Option.bind_some, if_pos (nI_lt (by omega) (by omega))]
theorem m_directOf {μ b : Mm} (h : Bk μ b) (ok : BookOK b) {p : Nat} (hp : p < nP b) : f_X7_directOf μ (nI p) = some (nI (dirN b p)) := by
  have hD := ok.D20
  unfold f_X7_directOf dirN
  refine wh2_seq (nD b) (fun k => nI (sm (plF b p (fun c => if pts b (opp b p c) = pts b p then mk b p c else 0)) k)) (fun k => nI k) _ (fun k hk r => ?_) (fun r => ?_) 5000 (by omega)
  · have hkR : k < nR b := Nat.lt_of_lt_of_le hk ok.DR
    unfold f_X7_directOf_s4
    rw [m_done h ok, Option.bind_some, if_neg (nI_ge hk (by omega)), m_playedIn h ok hp hk, Option.bind_some, show nI k + (1 : Int32) = nI (k + 1) from nI_1 k]
    cases hb : pl b p k with
    | none => rw [if_pos (by decide), acc_0 (plF_none hb)]
    | some c =>
      have hc := pl_lt ok hk hb
      have h1 := pts_le ok (opp b p c)
      have h2 := pts_le ok p
      rw [oI_some, if_neg (nI_pos (by omega)), m_otherOn h ok hkR hp (pl_some hb).1, Option.bind_some, m_pointsOf h ok (pl_opp ok hk hb).1, Option.bind_some, m_pointsOf h ok hp, Option.bind_some]
      by_cases z : pts b (opp b p c) = pts b p
      · rw [if_pos (by rw [z]), m_madeOn h ok hkR hp (pl_some hb).1, Option.bind_some, acc_v (by rw [plF_some hb, if_pos z])]
      · rw [if_neg (fun y => z ((nI_eq (by omega) (by omega)).mp y)), acc_0 (by rw [plF_some hb, if_neg z])]
  · unfold f_X7_directOf_s4
    rw [m_done h ok, Option.bind_some, if_pos (nI_le (Nat.le_refl _) (by omega))]
def tieN (b : Mm) (p w : Nat) : Nat := match w with
  | 0 => pts b p
  | 1 => oppsN b p
  | 2 => cutN b p
  | 3 => beatN b p
  | 4 => winsN b p
  | 5 => blacksN b p
  | 6 => growN b p
  | 7 => dirN b p
  | _ => gN b 1 p
theorem m_tieOf {μ b : Mm} (h : Bk μ b) (ok : BookOK b) {p w : Nat} (hp : p < nP b) (hw : w ≤ 8) : f_X7_tieOf μ (nI p) (nI w) = some (nI (tieN b p w)) := by
  have hP := ok.P12
  unfold f_X7_tieOf f_X7_tieOf_j66
  match w, hw with
  | 0, _ => rw [if_pos (show nI 0 = (0 : Int32) from rfl), m_pointsOf h ok hp]; rfl
  | 1, _ => rw [if_neg (by decide), if_pos (show nI 1 = (1 : Int32) from rfl), if_neg (by decide), show (0 : Int32) = nI 0 from rfl, m_opponentsOf h ok hp (by omega)]; rfl
  | 2, _ => rw [if_neg (by decide), if_neg (by decide), if_pos (show nI 2 = (2 : Int32) from rfl), if_pos (show nI 2 = (2 : Int32) from rfl), show (1 : Int32) = nI 1 from rfl, m_opponentsOf h ok hp (by omega)]; rfl
  | 3, _ => rw [if_neg (by decide), if_neg (by decide), if_neg (by decide), if_pos (show nI 3 = (3 : Int32) from rfl), m_beatenOf h ok hp]; rfl
  | 4, _ => rw [if_neg (by decide), if_neg (by decide), if_neg (by decide), if_neg (by decide), if_pos (show nI 4 = (4 : Int32) from rfl), m_winsOf h ok hp]; rfl
  | 5, _ => rw [if_neg (by decide), if_neg (by decide), if_neg (by decide), if_neg (by decide), if_neg (by decide), if_pos (show nI 5 = (5 : Int32) from rfl), m_blacksOf h ok hp]; rfl
  | 6, _ => rw [if_neg (by decide), if_neg (by decide), if_neg (by decide), if_neg (by decide), if_neg (by decide), if_neg (by decide), if_pos (show nI 6 = (6 : Int32) from rfl), m_growthOf h ok hp]; rfl
  | 7, _ => rw [if_neg (by decide), if_neg (by decide), if_neg (by decide), if_neg (by decide), if_neg (by decide), if_neg (by decide), if_neg (by decide), if_pos (show nI 7 = (7 : Int32) from rfl), m_directOf h ok hp]; rfl
  | 8, _ => rw [if_neg (by decide), if_neg (by decide), if_neg (by decide), if_neg (by decide), if_neg (by decide), if_neg (by decide), if_neg (by decide), if_neg (by decide), h 1 (by omega), ald_nI (by omega) (by omega), (ok.rating hp).1]; rfl
