/-! ===== the book: what players, rounds and the order are, as small numbers; both systems' rows 0 .. 11 ===== -/
def gN (b : Mm) (k j : Nat) : Nat := (b k j).toNatClampNeg
def nP (b : Mm) : Nat := gN b 0 0
def nR (b : Mm) : Nat := gN b 3 0
def nO (b : Mm) : Nat := gN b 4 0
def nD (b : Mm) : Nat := nR b - nO b
def nB (b : Mm) (r : Nat) : Nat := gN b 5 r
def wN (b : Mm) (c : Nat) : Nat := gN b 7 c
def kN (b : Mm) (c : Nat) : Nat := gN b 8 c
def oN (b : Mm) (c : Nat) : Nat := gN b 9 c
def nK (b : Mm) : Nat := gN b 10 0
def Sm (b : Mm) (k j m : Nat) : Prop := b k j = nI (gN b k j) ∧ gN b k j ≤ m
theorem Sm.of {b : Mm} {k j m n : Nat} (h : b k j = nI n) (hn : n ≤ m) (hm : m < 2147483648) : Sm b k j m := by
  have e : gN b k j = n := by unfold gN; rw [h, nI_clamp (Nat.lt_of_le_of_lt hn hm)]
  exact ⟨by rw [e, h], by rw [e]; exact hn⟩
theorem gN_of {b : Mm} {k j n : Nat} (h : b k j = nI n) (hn : n < 2147483648) : gN b k j = n := by unfold gN; rw [h, nI_clamp hn]
/-- two players were put on a board of one round, and of another: over the board once at most -/
def SameTwo (b : Mm) (c d : Nat) : Prop := (wN b c = wN b d ∧ kN b c = kN b d) ∨ (wN b c = kN b d ∧ kN b c = wN b d)
def BookOK (b : Mm) : Prop :=
  Sm b 0 0 12 ∧ Sm b 3 0 20 ∧ Sm b 4 0 1 ∧ nO b ≤ nR b ∧
  (∀ p, p < nP b → Sm b 1 p 3000 ∧ Sm b 2 p 1) ∧
  (∀ r, r < nR b → Sm b 5 r 6) ∧
  (∀ r, r < nR b → b 6 r = -5 ∨ (b 6 r = nI (gN b 6 r) ∧ gN b 6 r < nP b)) ∧
  (∀ r, r < nR b → ∀ c, c < nB b r → Sm b 7 (6 * r + c) 11 ∧ Sm b 8 (6 * r + c) 11 ∧ Sm b 9 (6 * r + c) 6 ∧ wN b (6 * r + c) < nP b ∧ kN b (6 * r + c) < nP b ∧ wN b (6 * r + c) ≠ kN b (6 * r + c) ∧ (∀ p, p < nP b → b 6 r = nI p → wN b (6 * r + c) ≠ p ∧ kN b (6 * r + c) ≠ p)) ∧
  (∀ r, r < nR b → ∀ c d, c < nB b r → d < nB b r → c ≠ d → wN b (6 * r + c) ≠ wN b (6 * r + d) ∧ wN b (6 * r + c) ≠ kN b (6 * r + d) ∧ kN b (6 * r + c) ≠ kN b (6 * r + d)) ∧
  (∀ r, r < nD b → ∀ c, c < nB b r → 1 ≤ oN b (6 * r + c)) ∧
  (∀ r q, r < q → q < nR b → ∀ c d, c < nB b r → d < nB b q → 1 ≤ oN b (6 * r + c) → oN b (6 * r + c) ≤ 3 → ¬ SameTwo b (6 * r + c) (6 * q + d)) ∧
  Sm b 10 0 9 ∧ 1 ≤ nK b ∧ (∀ i, i < nK b → Sm b 11 i 8)
theorem BookOK.P {b : Mm} (h : BookOK b) : b 0 0 = nI (nP b) := h.1.1
theorem BookOK.P12 {b : Mm} (h : BookOK b) : nP b ≤ 12 := h.1.2
theorem BookOK.R {b : Mm} (h : BookOK b) : b 3 0 = nI (nR b) := h.2.1.1
theorem BookOK.R20 {b : Mm} (h : BookOK b) : nR b ≤ 20 := h.2.1.2
theorem BookOK.O {b : Mm} (h : BookOK b) : b 4 0 = nI (nO b) := h.2.2.1.1
theorem BookOK.O1 {b : Mm} (h : BookOK b) : nO b ≤ 1 := h.2.2.1.2
theorem BookOK.OR {b : Mm} (h : BookOK b) : nO b ≤ nR b := h.2.2.2.1
theorem BookOK.D20 {b : Mm} (h : BookOK b) : nD b ≤ 20 := Nat.le_trans (Nat.sub_le _ _) h.R20
theorem BookOK.DR {b : Mm} (_ : BookOK b) : nD b ≤ nR b := Nat.sub_le _ _
theorem BookOK.rating {b : Mm} (h : BookOK b) {p : Nat} (hp : p < nP b) : b 1 p = nI (gN b 1 p) ∧ gN b 1 p ≤ 3000 := (h.2.2.2.2.1 p hp).1
theorem BookOK.inn {b : Mm} (h : BookOK b) {p : Nat} (hp : p < nP b) : b 2 p = nI (gN b 2 p) ∧ gN b 2 p ≤ 1 := (h.2.2.2.2.1 p hp).2
theorem BookOK.B {b : Mm} (h : BookOK b) {r : Nat} (hr : r < nR b) : b 5 r = nI (nB b r) := (h.2.2.2.2.2.1 r hr).1
theorem BookOK.B6 {b : Mm} (h : BookOK b) {r : Nat} (hr : r < nR b) : nB b r ≤ 6 := (h.2.2.2.2.2.1 r hr).2
theorem BookOK.bye {b : Mm} (h : BookOK b) {r : Nat} (hr : r < nR b) : b 6 r = -5 ∨ (b 6 r = nI (gN b 6 r) ∧ gN b 6 r < nP b) := h.2.2.2.2.2.2.1 r hr
theorem BookOK.W {b : Mm} (h : BookOK b) {r c : Nat} (hr : r < nR b) (hc : c < nB b r) : b 7 (6 * r + c) = nI (wN b (6 * r + c)) := (h.2.2.2.2.2.2.2.1 r hr c hc).1.1
theorem BookOK.K {b : Mm} (h : BookOK b) {r c : Nat} (hr : r < nR b) (hc : c < nB b r) : b 8 (6 * r + c) = nI (kN b (6 * r + c)) := (h.2.2.2.2.2.2.2.1 r hr c hc).2.1.1
theorem BookOK.o {b : Mm} (h : BookOK b) {r c : Nat} (hr : r < nR b) (hc : c < nB b r) : b 9 (6 * r + c) = nI (oN b (6 * r + c)) := (h.2.2.2.2.2.2.2.1 r hr c hc).2.2.1.1
theorem BookOK.o6 {b : Mm} (h : BookOK b) {r c : Nat} (hr : r < nR b) (hc : c < nB b r) : oN b (6 * r + c) ≤ 6 := (h.2.2.2.2.2.2.2.1 r hr c hc).2.2.1.2
theorem BookOK.WP {b : Mm} (h : BookOK b) {r c : Nat} (hr : r < nR b) (hc : c < nB b r) : wN b (6 * r + c) < nP b := (h.2.2.2.2.2.2.2.1 r hr c hc).2.2.2.1
theorem BookOK.KP {b : Mm} (h : BookOK b) {r c : Nat} (hr : r < nR b) (hc : c < nB b r) : kN b (6 * r + c) < nP b := (h.2.2.2.2.2.2.2.1 r hr c hc).2.2.2.2.1
theorem BookOK.WK {b : Mm} (h : BookOK b) {r c : Nat} (hr : r < nR b) (hc : c < nB b r) : wN b (6 * r + c) ≠ kN b (6 * r + c) := (h.2.2.2.2.2.2.2.1 r hr c hc).2.2.2.2.2.1
theorem BookOK.noBye {b : Mm} (h : BookOK b) {r c p : Nat} (hr : r < nR b) (hc : c < nB b r) (hp : p < nP b) (hb : b 6 r = nI p) : wN b (6 * r + c) ≠ p ∧ kN b (6 * r + c) ≠ p := (h.2.2.2.2.2.2.2.1 r hr c hc).2.2.2.2.2.2 p hp hb
theorem BookOK.apart {b : Mm} (h : BookOK b) {r c d : Nat} (hr : r < nR b) (hc : c < nB b r) (hd : d < nB b r) (hcd : c ≠ d) : wN b (6 * r + c) ≠ wN b (6 * r + d) ∧ wN b (6 * r + c) ≠ kN b (6 * r + d) ∧ kN b (6 * r + c) ≠ kN b (6 * r + d) := h.2.2.2.2.2.2.2.2.1 r hr c d hc hd hcd
theorem BookOK.done {b : Mm} (h : BookOK b) {r c : Nat} (hr : r < nD b) (hc : c < nB b r) : 1 ≤ oN b (6 * r + c) := h.2.2.2.2.2.2.2.2.2.1 r hr c hc
theorem BookOK.once {b : Mm} (h : BookOK b) {r q c d : Nat} (hrq : r < q) (hq : q < nR b) (hc : c < nB b r) (hd : d < nB b q) (h1 : 1 ≤ oN b (6 * r + c)) (h3 : oN b (6 * r + c) ≤ 3) : ¬ SameTwo b (6 * r + c) (6 * q + d) := h.2.2.2.2.2.2.2.2.2.2.1 r q hrq hq c d hc hd h1 h3
theorem BookOK.Kn {b : Mm} (h : BookOK b) : b 10 0 = nI (nK b) := h.2.2.2.2.2.2.2.2.2.2.2.1.1
theorem BookOK.K9 {b : Mm} (h : BookOK b) : nK b ≤ 9 := h.2.2.2.2.2.2.2.2.2.2.2.1.2
theorem BookOK.K1 {b : Mm} (h : BookOK b) : 1 ≤ nK b := h.2.2.2.2.2.2.2.2.2.2.2.2.1
theorem BookOK.ord {b : Mm} (h : BookOK b) {i : Nat} (hi : i < nK b) : b 11 i = nI (gN b 11 i) ∧ gN b 11 i ≤ 8 := h.2.2.2.2.2.2.2.2.2.2.2.2.2 i hi
/-- a memory whose rows 0 .. 11 are the book's -/
def Bk (μ b : Mm) : Prop := ∀ k, k < 12 → μ k = b k
theorem Bk.us {μ b : Mm} (h : Bk μ b) {k i : Nat} {v : Int32} (hk : 12 ≤ k) : Bk (us μ k i v) b := fun j hj => by rw [us_ne (by omega)]; exact h j hj
theorem Bk.st {μ b : Mm} (h : Bk μ b) {k : Nat} {f : Nat → Int32} (hk : 12 ≤ k) : Bk (st μ k f) b := fun j hj => by rw [st_ne _ _ (by omega)]; exact h j hj
theorem Bk.sc {μ b : Mm} (h : Bk μ b) {k : Nat} {v : Int32} (hk : 12 ≤ k) : Bk (sc μ k v) b := fun j hj => by rw [sc_ne (by omega)]; exact h j hj
/-! sums and searches -/
def sm (f : Nat → Nat) : Nat → Nat
  | 0 => 0
  | n + 1 => sm f n + f n
theorem sm_succ (f : Nat → Nat) (n : Nat) : sm f (n + 1) = sm f n + f n := rfl
theorem sm_le {f : Nat → Nat} {c : Nat} : ∀ {n : Nat}, (∀ k, k < n → f k ≤ c) → sm f n ≤ n * c
  | 0, _ => Nat.zero_le _
  | n + 1, h => by
    have h1 := sm_le (n := n) (fun k hk => h k (by omega))
    have h2 := h n (by omega)
    rw [sm_succ, Nat.succ_mul]
    omega
theorem sm_cong {f g : Nat → Nat} : ∀ {n : Nat}, (∀ k, k < n → f k = g k) → sm f n = sm g n
  | 0, _ => rfl
  | n + 1, h => by rw [sm_succ, sm_succ, sm_cong (fun k hk => h k (by omega)), h n (by omega)]
theorem acc_0 {F : Nat → Nat} {k : Nat} (h : F k = 0) : nI (sm F k) + (0 : Int32) = nI (sm F (k + 1)) := by rw [Int32.add_zero, sm_succ, h, Nat.add_zero]
theorem acc_1 {F : Nat → Nat} {k : Nat} (h : F k = 1) : nI (sm F k) + (1 : Int32) = nI (sm F (k + 1)) := by rw [nI_1, sm_succ, h]
theorem acc_v {F : Nat → Nat} {k v : Nat} (h : F k = v) : nI (sm F k) + nI v = nI (sm F (k + 1)) := by rw [nI_add, sm_succ, h]
def fnd (q : Nat → Bool) : Nat → Option Nat
  | 0 => none
  | n + 1 => if q n then some n else fnd q n
theorem fnd_some {q : Nat → Bool} : ∀ {n c : Nat}, fnd q n = some c → c < n ∧ q c = true
  | 0, _, h => by cases h
  | n + 1, c, h => by
    unfold fnd at h
    by_cases hq : q n = true
    · rw [if_pos hq] at h; cases h; exact ⟨Nat.lt_succ_self _, hq⟩
    · rw [if_neg hq] at h
      exact ⟨Nat.lt_succ_of_lt (fnd_some h).1, (fnd_some h).2⟩
theorem fnd_none {q : Nat → Bool} : ∀ {n : Nat}, fnd q n = none → ∀ c, c < n → q c = false
  | 0, _, _, hc => absurd hc (Nat.not_lt_zero _)
  | n + 1, h, c, hc => by
    unfold fnd at h
    by_cases hq : q n = true
    · rw [if_pos hq] at h; cases h
    · rw [if_neg hq] at h
      rcases Nat.lt_or_ge c n with h1 | h1
      · exact fnd_none h c h1
      · have : c = n := by omega
        subst this
        exact Bool.eq_false_iff.mpr hq
theorem fnd_one {q : Nat → Bool} {n c : Nat} (hc : c < n) (hq : q c = true) (h1 : ∀ d, d < n → q d = true → d = c) : fnd q n = some c := by
  cases h : fnd q n with
  | none => rw [fnd_none h c hc] at hq; cases hq
  | some d => rw [h1 d (fnd_some h).1 (fnd_some h).2]
def oI : Option Nat → Int32
  | none => -1
  | some c => nI c
/-! what a player did in a round -/
def onB (b : Mm) (p r c : Nat) : Bool := wN b (6 * r + c) == p || kN b (6 * r + c) == p
def brd (b : Mm) (p r : Nat) : Option Nat := (fnd (onB b p r) (nB b r)).map (fun c => 6 * r + c)
def opp (b : Mm) (p c : Nat) : Nat := if wN b c = p then kN b c else wN b c
def mk (b : Mm) (p c : Nat) : Nat := if oN b c = 2 then 1 else if oN b c = (if wN b c = p then 1 else 3) ∨ oN b c = (if wN b c = p then 4 else 5) then 2 else 0
def pl (b : Mm) (p r : Nat) : Option Nat := match brd b p r with
  | none => none
  | some c => if 1 ≤ oN b c ∧ oN b c ≤ 3 then some c else none
def mi (b : Mm) (p r : Nat) : Nat := if b 6 r = nI p then 2 else match brd b p r with
  | none => 0
  | some c => mk b p c
def ptsN (b : Mm) (p n : Nat) : Nat := sm (mi b p) n
def pts (b : Mm) (p : Nat) : Nat := ptsN b p (nD b)
theorem brd_some {b : Mm} {p r c : Nat} (h : brd b p r = some c) : ∃ d, d < nB b r ∧ c = 6 * r + d ∧ (wN b c = p ∨ kN b c = p) := by
  unfold brd at h
  obtain ⟨d, h1, h2⟩ := Option.map_eq_some_iff.mp h
  obtain ⟨h3, h4⟩ := fnd_some h1
  subst h2
  refine ⟨d, h3, rfl, ?_⟩
  simpa [onB] using h4
theorem brd_none {b : Mm} {p r : Nat} (h : brd b p r = none) : ∀ d, d < nB b r → wN b (6 * r + d) ≠ p ∧ kN b (6 * r + d) ≠ p := by
  unfold brd at h
  intro d hd
  have h1 := fnd_none (Option.map_eq_none_iff.mp h) d hd
  simpa [onB] using h1
theorem brd_one {b : Mm} (ok : BookOK b) {p r d : Nat} (hr : r < nR b) (hd : d < nB b r) (h : wN b (6 * r + d) = p ∨ kN b (6 * r + d) = p) : brd b p r = some (6 * r + d) := by
  unfold brd
  rw [fnd_one (c := d) hd (by simpa [onB] using h) (fun e he hq => ?_)]
  · rfl
  · have hq' : wN b (6 * r + e) = p ∨ kN b (6 * r + e) = p := by simpa [onB] using hq
    refine Classical.byContradiction (fun hne => ?_)
    obtain ⟨a1, a2, a3⟩ := ok.apart hr hd he (Ne.symm hne)
    obtain ⟨b1, b2, b3⟩ := ok.apart hr he hd hne
    rcases h with h | h <;> rcases hq' with q | q
    · exact a1 (h.trans q.symm)
    · exact a2 (h.trans q.symm)
    · exact b2 (q.trans h.symm)
    · exact a3 (h.trans q.symm)
theorem mk_le (b : Mm) (p c : Nat) : mk b p c ≤ 2 := by
  unfold mk
  (repeat' split) <;> omega
theorem mi_le (b : Mm) (p r : Nat) : mi b p r ≤ 2 := by
  unfold mi
  split
  · omega
  · split
    · omega
    · exact mk_le _ _ _
theorem ptsN_le {b : Mm} {p n : Nat} (hn : n ≤ 20) : ptsN b p n ≤ 40 := by
  have := sm_le (f := mi b p) (c := 2) (n := n) (fun k _ => mi_le b p k)
  unfold ptsN
  omega
theorem pts_le {b : Mm} (ok : BookOK b) (p : Nat) : pts b p ≤ 40 := ptsN_le ok.D20
/-! the reference's readings -/
theorem m_in {x lo hi : Int} {a l h : Int64} (ha : a.toInt = x) (hl : l.toInt = lo) (hh : h.toInt = hi) : f_X7_in a l h = some (if lo ≤ x ∧ x ≤ hi then 1 else 0) := by
  unfold f_X7_in
  have e1 : (lg_cmp a l < 0) ↔ x < lo := by rw [lg_cmp_lt, Int64.lt_iff_toInt_lt, ha, hl]
  have e2 : (0 < lg_cmp a h) ↔ hi < x := by rw [lg_cmp_gt, Int64.lt_iff_toInt_lt, ha, hh]
  by_cases h1 : x < lo
  · rw [if_pos (e1.mpr h1), if_neg (by omega)]
  · rw [if_neg (fun q => h1 (e1.mp q))]
    by_cases h2 : hi < x
    · rw [if_pos (e2.mpr h2), if_neg (by omega)]
    · rw [if_neg (fun q => h2 (e2.mp q)), if_pos (by omega)]
theorem wide (x : Int32) : x.toInt64.toInt = x.toInt := by simp
theorem m_done {μ b : Mm} (h : Bk μ b) (ok : BookOK b) : f_X7_done μ = some (nI (nD b)) := by
  unfold f_X7_done
  rw [h 3 (by omega), h 4 (by omega), ok.R, ok.O, pk_sub ok.OR]
  rfl
theorem m_boardOf {μ b : Mm} (h : Bk μ b) (ok : BookOK b) {p r : Nat} (hp : p < nP b) (hr : r < nR b) : f_X7_boardOf μ (nI p) (nI r) = some (oI (brd b p r)) := by
  have hP := ok.P12
  have hR := ok.R20
  have h6 := ok.B6 hr
  unfold f_X7_boardOf brd
  refine wh2_seq (nB b r) (fun k => oI ((fnd (onB b p r) k).map (fun c => 6 * r + c))) (fun k => nI k) _ (fun k hk rr => ?_) (fun rr => ?_) 5000 (by omega)
  · unfold f_X7_boardOf_s5
    have hw := ok.WP hr hk
    have hkp := ok.KP hr hk
    have e6 : ((6 : Int32) * nI r) + nI k = nI (6 * r + k) := by rw [show (6 : Int32) = nI 6 from rfl, pk_mul, nI_add]
    have ej : f_X7_boardOf_j48 rr μ (nI p) (nI r) (nI k) = rr (nI (6 * r + k)) (nI (k + 1)) := by
      unfold f_X7_boardOf_j48; rw [e6, nI_1]
    rw [h 5 (by omega), ald_nI (by omega) (by omega), ok.B hr, Option.bind_some, if_neg (nI_ge hk (by omega)), e6, h 7 (by omega), ald_nI (by omega) (by omega), ok.W hr hk, Option.bind_some, ej]
    have ef : fnd (onB b p r) (k + 1) = if onB b p r k then some k else fnd (onB b p r) k := rfl
    rw [ef]
    by_cases q1 : wN b (6 * r + k) = p
    · rw [if_pos (by rw [q1]), if_pos (by simp [onB, q1])]
      rfl
    · rw [if_neg (fun z => q1 ((nI_eq (by omega) (by omega)).mp z)), h 8 (by omega), ald_nI (by omega) (by omega), ok.K hr hk, Option.bind_some]
      by_cases q2 : kN b (6 * r + k) = p
      · rw [if_pos (by rw [q2]), if_pos (by simp [onB, q2])]
        rfl
      · rw [if_neg (fun z => q2 ((nI_eq (by omega) (by omega)).mp z)), if_neg (by simp [onB, q1, q2]), show nI k + (1 : Int32) = nI (k + 1) from nI_1 k]
  · unfold f_X7_boardOf_s5
    rw [h 5 (by omega), ald_nI (by omega) (by omega), ok.B hr, Option.bind_some, if_pos (nI_le (Nat.le_refl _) (by omega))]
