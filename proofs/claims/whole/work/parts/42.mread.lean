/-! ===== the reference's readings, by the book ===== -/
theorem oI_neg {o : Option Nat} (h : ∀ c, o = some c → c < 2147483648) : (oI o < 0) ↔ o = none := by
  cases o with
  | none => exact ⟨fun _ => rfl, fun _ => by decide⟩
  | some c => exact ⟨fun q => absurd q (nI_pos (h c rfl)), fun q => by cases q⟩
theorem brd_lt {b : Mm} (ok : BookOK b) {p r c : Nat} (hr : r < nR b) (h : brd b p r = some c) : c < 120 := by
  obtain ⟨d, h1, h2, -⟩ := brd_some h
  have := ok.R20
  have := ok.B6 hr
  omega
theorem pl_some {b : Mm} {p r c : Nat} (h : pl b p r = some c) : brd b p r = some c ∧ 1 ≤ oN b c ∧ oN b c ≤ 3 := by
  unfold pl at h
  cases hb : brd b p r with
  | none => rw [hb] at h; cases h
  | some d =>
    rw [hb] at h
    dsimp only at h
    split at h
    · cases h; rename_i q; exact ⟨rfl, q.1, q.2⟩
    · cases h
/-- what a board in the book holds -/
theorem cellOK {b : Mm} (ok : BookOK b) {p r c : Nat} (hr : r < nR b) (h : brd b p r = some c) : c < 120 ∧ b 7 c = nI (wN b c) ∧ b 8 c = nI (kN b c) ∧ b 9 c = nI (oN b c) ∧ wN b c < nP b ∧ kN b c < nP b ∧ wN b c ≠ kN b c ∧ oN b c ≤ 6 ∧ (wN b c = p ∨ kN b c = p) := by
  have hlt := brd_lt ok hr h
  obtain ⟨d, h1, h2, h3⟩ := brd_some h
  subst h2
  exact ⟨hlt, ok.W hr h1, ok.K hr h1, ok.o hr h1, ok.WP hr h1, ok.KP hr h1, ok.WK hr h1, ok.o6 hr h1, h3⟩
theorem m_playedIn {μ b : Mm} (h : Bk μ b) (ok : BookOK b) {p r : Nat} (hp : p < nP b) (hr : r < nD b) : f_X7_playedIn μ (nI p) (nI r) = some (oI (pl b p r)) := by
  have hD := ok.D20
  have hrR : r < nR b := Nat.lt_of_lt_of_le hr ok.DR
  unfold f_X7_playedIn pl
  rw [m_boardOf h ok hp hrR, Option.bind_some]
  cases hb : brd b p r with
  | none => rw [if_pos (by decide)]; rfl
  | some c =>
    obtain ⟨hlt, -, -, ho, -, -, -, ho6, -⟩ := cellOK ok hrR hb
    rw [show oI (some c) = nI c from rfl, if_neg (nI_pos (by omega)), m_done h ok, Option.bind_some, if_neg (nI_ge hr (by omega)), h 9 (by omega), ald_nI hlt (by omega), ho, Option.bind_some, m_in (x := oN b c) (lo := 1) (hi := 3) (by rw [wide, nI_toInt (by omega)]) (by decide) (by decide), Option.bind_some]
    by_cases q : 1 ≤ oN b c ∧ oN b c ≤ 3
    · rw [if_pos (show (1 : Int) ≤ (oN b c : Int) ∧ (oN b c : Int) ≤ 3 by omega), if_neg (by decide)]
      dsimp only
      rw [if_pos q]
      rfl
    · rw [if_neg (show ¬ ((1 : Int) ≤ (oN b c : Int) ∧ (oN b c : Int) ≤ 3) by omega), if_pos (by decide)]
      dsimp only
      rw [if_neg q]
      rfl
theorem m_otherOn {μ b : Mm} (h : Bk μ b) (ok : BookOK b) {p r c : Nat} (hr : r < nR b) (hp : p < nP b) (hb : brd b p r = some c) : f_X7_otherOn μ (nI c) (nI p) = some (nI (opp b p c)) := by
  obtain ⟨hlt, h7, h8, -, hw, hk, -, -, -⟩ := cellOK ok hr hb
  have hP := ok.P12
  unfold f_X7_otherOn opp
  rw [h 7 (by omega), h 8 (by omega), ald_nI hlt (by omega), h7, Option.bind_some]
  by_cases q : wN b c = p
  · rw [if_pos (by rw [q]), ald_nI hlt (by omega), h8, if_pos q]; rfl
  · rw [if_neg (fun z => q ((nI_eq (by omega) (by omega)).mp z)), if_neg q]; rfl
theorem opp_lt {b : Mm} (ok : BookOK b) {p r c : Nat} (hr : r < nR b) (hb : brd b p r = some c) : opp b p c < nP b ∧ opp b p c ≠ p := by
  obtain ⟨hlt, h7, h8, -, hw, hk, hne, -, hor⟩ := cellOK ok hr hb
  unfold opp
  by_cases q : wN b c = p
  · rw [if_pos q]; exact ⟨hk, fun z => hne (q.trans z.symm)⟩
  · rw [if_neg q]; exact ⟨hw, q⟩
theorem m_madeOn {μ b : Mm} (h : Bk μ b) (ok : BookOK b) {p r c : Nat} (hr : r < nR b) (hp : p < nP b) (hb : brd b p r = some c) : f_X7_madeOn μ (nI c) (nI p) = some (nI (mk b p c)) := by
  obtain ⟨hlt, h7, h8, h9, hw, hk, -, ho6, -⟩ := cellOK ok hr hb
  have hP := ok.P12
  have ev : ∀ n : Nat, n ≤ 6 → ∀ m, m ≤ 6 → ((nI n = nI m) ↔ n = m) := fun n hn m hm => nI_eq (by omega) (by omega)
  unfold f_X7_madeOn mk
  rw [h 9 (by omega), h 7 (by omega), ald_nI hlt (by omega), h9, Option.bind_some, ald_nI hlt (by omega), h7, Option.bind_some]
  generalize oN b c = o at ho6 ⊢
  have c2 : (nI o = (2 : Int32)) ↔ o = 2 := ev o ho6 2 (by omega)
  have c1 : (nI o = (1 : Int32)) ↔ o = 1 := ev o ho6 1 (by omega)
  have c3 : (nI o = (3 : Int32)) ↔ o = 3 := ev o ho6 3 (by omega)
  have c4 : (nI o = (4 : Int32)) ↔ o = 4 := ev o ho6 4 (by omega)
  have c5 : (nI o = (5 : Int32)) ↔ o = 5 := ev o ho6 5 (by omega)
  have d0 : ¬ ((1 : Int32) = 0) := by decide
  have cw : (nI (wN b c) = nI p) ↔ wN b c = p := nI_eq (by omega) (by omega)
  unfold f_X7_madeOn_j22 f_X7_madeOn_j44 f_X7_madeOn_j58 f_X7_madeOn_j61
  by_cases q : wN b c = p
  · simp only [cw, q, if_true, if_false, c2, c1, c3, c4, c5, d0]
    split
    · rfl
    · split
      · rename_i z; rw [if_pos (Or.inl z)]; rfl
      · split
        · rename_i z; rw [if_pos (Or.inr z)]; rfl
        · rename_i z1 z2; rw [if_neg (by omega)]; rfl
  · simp only [cw, q, if_true, if_false, c2, c1, c3, c4, c5, d0]
    split
    · rfl
    · split
      · rename_i z; rw [if_pos (Or.inl z)]; rfl
      · split
        · rename_i z; rw [if_pos (Or.inr z)]; rfl
        · rename_i z1 z2; rw [if_neg (by omega)]; rfl
theorem m_madeIn {μ b : Mm} (h : Bk μ b) (ok : BookOK b) {p r : Nat} (hp : p < nP b) (hr : r < nR b) : f_X7_madeIn μ (nI p) (nI r) = some (nI (mi b p r)) := by
  have hR := ok.R20
  unfold f_X7_madeIn mi
  rw [m_boardOf h ok hp hr, Option.bind_some, h 6 (by omega), ald_nI (by omega) (by omega), Option.bind_some]
  by_cases q : b 6 r = nI p
  · rw [if_pos q, if_pos q]; rfl
  · rw [if_neg q, if_neg q]
    cases hb : brd b p r with
    | none => rw [if_pos (by decide)]; rfl
    | some c => rw [show oI (some c) = nI c from rfl, if_neg (nI_pos (Nat.lt_trans (brd_lt ok hr hb) (by omega))), m_madeOn h ok hr hp hb]; rfl
theorem m_pointsBehind {μ b : Mm} (h : Bk μ b) (ok : BookOK b) {p n : Nat} (hp : p < nP b) (hn : n ≤ nR b) : f_X7_pointsBehind μ (nI p) (nI n) = some (nI (ptsN b p n)) := by
  have hR := ok.R20
  unfold f_X7_pointsBehind ptsN
  refine wh2_seq n (fun k => nI (sm (mi b p) k)) (fun k => nI k) _ (fun k hk r => ?_) (fun r => ?_) 5000 (by omega)
  · unfold f_X7_pointsBehind_s5
    rw [if_neg (nI_ge hk (by omega)), m_madeIn h ok hp (by omega), Option.bind_some, acc_v rfl, show nI k + (1 : Int32) = nI (k + 1) from nI_1 k]
  · unfold f_X7_pointsBehind_s5
    rw [if_pos (nI_le (Nat.le_refl _) (by omega))]
theorem m_pointsOf {μ b : Mm} (h : Bk μ b) (ok : BookOK b) {p : Nat} (hp : p < nP b) : f_X7_pointsOf μ (nI p) = some (nI (pts b p)) := by
  unfold f_X7_pointsOf pts
  rw [m_done h ok, Option.bind_some, m_pointsBehind h ok hp ok.DR]
  rfl
/-- a loop of the reference over the rounds that are done, that adds up -/
def cnt (q : Prop) [Decidable q] : Nat := if q then 1 else 0
def metR (b : Mm) (p q r : Nat) : Prop := ∃ c, pl b p r = some c ∧ opp b p c = q
/-- the round in which two met, the last one -/
def metL (b : Mm) (p q : Nat) : Nat → Int32
  | 0 => -5
  | n + 1 => match pl b p n with
    | none => metL b p q n
    | some c => if opp b p c = q then nI n else metL b p q n
theorem metL_none {b : Mm} {p q k : Nat} (h : pl b p k = none) : metL b p q (k + 1) = metL b p q k := by
  show (match pl b p k with | none => metL b p q k | some c => if opp b p c = q then nI k else metL b p q k) = _
  rw [h]
theorem metL_some {b : Mm} {p q k c : Nat} (h : pl b p k = some c) : metL b p q (k + 1) = if opp b p c = q then nI k else metL b p q k := by
  show (match pl b p k with | none => metL b p q k | some c => if opp b p c = q then nI k else metL b p q k) = _
  rw [h]
def met (b : Mm) (p q : Nat) : Int32 := metL b p q (nD b)
theorem m_metIn {μ b : Mm} (h : Bk μ b) (ok : BookOK b) {p q : Nat} (hp : p < nP b) (hq : q < nP b) : f_X7_metIn μ (nI p) (nI q) = some (met b p q) := by
  have hD := ok.D20
  have hP := ok.P12
  unfold f_X7_metIn met
  refine wh2_seq (nD b) (fun k => metL b p q k) (fun k => nI k) _ (fun k hk r => ?_) (fun r => ?_) 5000 (by omega)
  · have hkR : k < nR b := Nat.lt_of_lt_of_le hk ok.DR
    unfold f_X7_metIn_s6
    rw [m_done h ok, Option.bind_some, if_neg (nI_ge hk (by omega)), m_playedIn h ok hp hk, Option.bind_some, show nI k + (1 : Int32) = nI (k + 1) from nI_1 k]
    cases hb : pl b p k with
    | none => rw [if_pos (by decide), metL_none hb]
    | some c =>
      have hbr := (pl_some hb).1
      have hol := (opp_lt ok hkR hbr).1
      rw [show oI (some c) = nI c from rfl, if_neg (nI_pos (Nat.lt_trans (brd_lt ok hkR hbr) (by omega))), m_otherOn h ok hkR hp hbr, Option.bind_some, metL_some hb]
      by_cases z : opp b p c = q
      · rw [if_pos (by rw [z]), if_pos z]
      · rw [if_neg (fun y => z ((nI_eq (by omega) (by omega)).mp y)), if_neg z]
  · unfold f_X7_metIn_s6
    rw [m_done h ok, Option.bind_some, if_pos (nI_le (Nat.le_refl _) (by omega))]
def plF (b : Mm) (p : Nat) (f : Nat → Nat) (r : Nat) : Nat := match pl b p r with
  | none => 0
  | some c => f c
theorem plF_none {b : Mm} {p r : Nat} {f : Nat → Nat} (h : pl b p r = none) : plF b p f r = 0 := by unfold plF; rw [h]
theorem plF_some {b : Mm} {p r c : Nat} {f : Nat → Nat} (h : pl b p r = some c) : plF b p f r = f c := by unfold plF; rw [h]
def playedN (b : Mm) (p : Nat) : Nat := sm (plF b p (fun _ => 1)) (nD b)
def blacksN (b : Mm) (p : Nat) : Nat := sm (plF b p (fun c => if kN b c = p then 1 else 0)) (nD b)
def winsN (b : Mm) (p : Nat) : Nat := sm (plF b p (fun c => if mk b p c = 2 then 1 else 0)) (nD b)
def oppsN (b : Mm) (p : Nat) : Nat := sm (plF b p (fun c => pts b (opp b p c))) (nD b)
def beatN (b : Mm) (p : Nat) : Nat := sm (plF b p (fun c => mk b p c * pts b (opp b p c))) (nD b)
def dirN (b : Mm) (p : Nat) : Nat := sm (plF b p (fun c => if pts b (opp b p c) = pts b p then mk b p c else 0)) (nD b)
def growN (b : Mm) (p : Nat) : Nat := sm (fun r => ptsN b p (r + 1)) (nD b)
def byesN (b : Mm) (p : Nat) : Nat := sm (fun r => if b 6 r = nI p then 1 else 0) (nD b)
def forfF (b : Mm) (p r : Nat) : Nat := match brd b p r with
  | none => 0
  | some c => if oN b c = (if wN b c = p then 4 else 5) then 1 else 0
def forfN (b : Mm) (p : Nat) : Nat := sm (forfF b p) (nD b)
theorem m_playedMany {μ b : Mm} (h : Bk μ b) (ok : BookOK b) {p : Nat} (hp : p < nP b) : f_X7_playedMany μ (nI p) = some (nI (playedN b p)) := by
  have hD := ok.D20
  unfold f_X7_playedMany playedN
  refine wh2_seq (nD b) (fun k => nI (sm (plF b p (fun _ => 1)) k)) (fun k => nI k) _ (fun k hk r => ?_) (fun r => ?_) 5000 (by omega)
  · have hkR : k < nR b := Nat.lt_of_lt_of_le hk ok.DR
    unfold f_X7_playedMany_s4
    rw [m_done h ok, Option.bind_some, if_neg (nI_ge hk (by omega)), m_playedIn h ok hp hk, Option.bind_some, show nI k + (1 : Int32) = nI (k + 1) from nI_1 k]
    cases hb : pl b p k with
    | none => rw [if_pos (by decide), acc_0 (plF_none hb)]
    | some c => rw [show oI (some c) = nI c from rfl, if_neg (nI_pos (Nat.lt_trans (brd_lt ok hkR (pl_some hb).1) (by omega))), acc_1 (plF_some hb)]
  · unfold f_X7_playedMany_s4
    rw [m_done h ok, Option.bind_some, if_pos (nI_le (Nat.le_refl _) (by omega))]
theorem m_blacksOf {μ b : Mm} (h : Bk μ b) (ok : BookOK b) {p : Nat} (hp : p < nP b) : f_X7_blacksOf μ (nI p) = some (nI (blacksN b p)) := by
  have hD := ok.D20
  have hP := ok.P12
  unfold f_X7_blacksOf blacksN
  refine wh2_seq (nD b) (fun k => nI (sm (plF b p (fun c => if kN b c = p then 1 else 0)) k)) (fun k => nI k) _ (fun k hk r => ?_) (fun r => ?_) 5000 (by omega)
  · have hkR : k < nR b := Nat.lt_of_lt_of_le hk ok.DR
    unfold f_X7_blacksOf_s4
    rw [m_done h ok, Option.bind_some, if_neg (nI_ge hk (by omega)), m_playedIn h ok hp hk, Option.bind_some, show nI k + (1 : Int32) = nI (k + 1) from nI_1 k]
    cases hb : pl b p k with
    | none => rw [if_pos (by decide), acc_0 (plF_none hb)]
    | some c =>
      obtain ⟨hlt, -, h8, -, -, hk8, -, -, -⟩ := cellOK ok hkR (pl_some hb).1
      rw [show oI (some c) = nI c from rfl, if_neg (nI_pos (by omega)), Option.bind_some, h 8 (by omega), ald_nI hlt (by omega), h8, Option.bind_some]
      by_cases z : kN b c = p
      · rw [if_pos (by rw [z]), acc_1 (by rw [plF_some hb, if_pos z])]
      · rw [if_neg (fun y => z ((nI_eq (by omega) (by omega)).mp y)), acc_0 (by rw [plF_some hb, if_neg z])]
  · unfold f_X7_blacksOf_s4
    rw [m_done h ok, Option.bind_some, if_pos (nI_le (Nat.le_refl _) (by omega))]
def balI (b : Mm) (p : Nat) : Int32 := nI (playedN b p) - (2 : Int32) * nI (blacksN b p)
theorem m_balanceOf {μ b : Mm} (h : Bk μ b) (ok : BookOK b) {p : Nat} (hp : p < nP b) : f_X7_balanceOf μ (nI p) = some (balI b p) := by
  unfold f_X7_balanceOf balI
  rw [m_playedMany h ok hp, Option.bind_some, m_blacksOf h ok hp]
  rfl
def latL (b : Mm) (p : Nat) : Nat → Int32
  | 0 => -5
  | n + 1 => match pl b p n with
    | none => latL b p n
    | some c => if wN b c = p then 0 else 1
theorem latL_none {b : Mm} {p k : Nat} (h : pl b p k = none) : latL b p (k + 1) = latL b p k := by
  show (match pl b p k with | none => latL b p k | some c => if wN b c = p then 0 else 1) = _
  rw [h]
theorem latL_some {b : Mm} {p k c : Nat} (h : pl b p k = some c) : latL b p (k + 1) = if wN b c = p then 0 else 1 := by
  show (match pl b p k with | none => latL b p k | some c => if wN b c = p then 0 else 1) = _
  rw [h]
def lat (b : Mm) (p : Nat) : Int32 := latL b p (nD b)
theorem m_latestOf {μ b : Mm} (h : Bk μ b) (ok : BookOK b) {p : Nat} (hp : p < nP b) : f_X7_latestOf μ (nI p) = some (lat b p) := by
  have hD := ok.D20
  have hP := ok.P12
  unfold f_X7_latestOf lat
  refine wh2_seq (nD b) (fun k => latL b p k) (fun k => nI k) _ (fun k hk r => ?_) (fun r => ?_) 5000 (by omega)
  · have hkR : k < nR b := Nat.lt_of_lt_of_le hk ok.DR
    unfold f_X7_latestOf_s5
    rw [m_done h ok, Option.bind_some, if_neg (nI_ge hk (by omega)), m_playedIn h ok hp hk, Option.bind_some, show nI k + (1 : Int32) = nI (k + 1) from nI_1 k]
    cases hb : pl b p k with
    | none => rw [if_neg (by decide), latL_none hb]
    | some c =>
      obtain ⟨hlt, h7, -, -, hw, -, -, -, -⟩ := cellOK ok hkR (pl_some hb).1
      rw [show oI (some c) = nI c from rfl, if_pos (nI_pos' (by omega)), h 7 (by omega), ald_nI hlt (by omega), h7, Option.bind_some, latL_some hb]
      by_cases z : wN b c = p
      · rw [if_pos (by rw [z]), if_pos z]
      · rw [if_neg (fun y => z ((nI_eq (by omega) (by omega)).mp y)), if_neg z]
  · unfold f_X7_latestOf_s5
    rw [m_done h ok, Option.bind_some, if_pos (nI_le (Nat.le_refl _) (by omega))]
theorem m_byesOf {μ b : Mm} (h : Bk μ b) (ok : BookOK b) {p : Nat} : f_X7_byesOf μ (nI p) = some (nI (byesN b p)) := by
  have hD := ok.D20
  unfold f_X7_byesOf byesN
  refine wh2_seq (nD b) (fun k => nI (sm (fun r => if b 6 r = nI p then 1 else 0) k)) (fun k => nI k) _ (fun k hk r => ?_) (fun r => ?_) 5000 (by omega)
  · unfold f_X7_byesOf_s4
    rw [m_done h ok, Option.bind_some, if_neg (nI_ge hk (by omega)), h 6 (by omega), ald_nI (by omega) (by omega), Option.bind_some, show nI k + (1 : Int32) = nI (k + 1) from nI_1 k]
    by_cases z : b 6 k = nI p
    · rw [if_pos z, acc_1 (by rw [if_pos z])]
    · rw [if_neg z, acc_0 (by rw [if_neg z])]
  · unfold f_X7_byesOf_s4
    rw [m_done h ok, Option.bind_some, if_pos (nI_le (Nat.le_refl _) (by omega))]
theorem m_forfeitsOf {μ b : Mm} (h : Bk μ b) (ok : BookOK b) {p : Nat} (hp : p < nP b) : f_X7_forfeitsOf μ (nI p) = some (nI (forfN b p)) := by
  have hD := ok.D20
  have hP := ok.P12
  unfold f_X7_forfeitsOf forfN
  refine wh2_seq (nD b) (fun k => nI (sm (forfF b p) k)) (fun k => nI k) _ (fun k hk r => ?_) (fun r => ?_) 5000 (by omega)
  · have hkR : k < nR b := Nat.lt_of_lt_of_le hk ok.DR
    unfold f_X7_forfeitsOf_s4
    rw [m_done h ok, Option.bind_some, if_neg (nI_ge hk (by omega)), m_boardOf h ok hp hkR, Option.bind_some]
    cases hb : brd b p k with
    | none => rw [if_pos (by decide), acc_0 (by unfold forfF; rw [hb]), show nI k + (1 : Int32) = nI (k + 1) from nI_1 k]
    | some c =>
      obtain ⟨hlt, h7, -, h9, hw, -, -, ho6, -⟩ := cellOK ok hkR hb
      have e4 : (nI (oN b c) = (4 : Int32)) ↔ oN b c = 4 := nI_eq (b := 4) (by omega) (by omega)
      have e5 : (nI (oN b c) = (5 : Int32)) ↔ oN b c = 5 := nI_eq (b := 5) (by omega) (by omega)
      rw [show oI (some c) = nI c from rfl, if_neg (nI_pos (by omega)), h 9 (by omega), ald_nI hlt (by omega), h9, Option.bind_some, h 7 (by omega), ald_nI hlt (by omega), h7, Option.bind_some]
      unfold f_X7_forfeitsOf_j49
      rw [show nI k + (1 : Int32) = nI (k + 1) from nI_1 k]
      by_cases z : wN b c = p
      · rw [if_pos (by rw [z])]
        by_cases y : oN b c = 4
        · rw [if_pos (e4.mpr y), acc_1 (by unfold forfF; rw [hb]; simp [z, y])]
        · rw [if_neg (fun w => y (e4.mp w)), acc_0 (by unfold forfF; rw [hb]; simp [z, y])]
      · rw [if_neg (fun y => z ((nI_eq (by omega) (by omega)).mp y))]
        by_cases y : oN b c = 5
        · rw [if_pos (e5.mpr y), acc_1 (by unfold forfF; rw [hb]; simp [z, y])]
        · rw [if_neg (fun w => y (e5.mp w)), acc_0 (by unfold forfF; rw [hb]; simp [z, y])]
  · unfold f_X7_forfeitsOf_s4
    rw [m_done h ok, Option.bind_some, if_pos (nI_le (Nat.le_refl _) (by omega))]
