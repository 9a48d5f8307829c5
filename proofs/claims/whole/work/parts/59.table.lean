/-! ===== the table of the sets: least cost and ways, on both sides ===== -/
def mn : Option Nat → Option Nat → Option Nat
  | none, p => p
  | some a, none => some a
  | some a, some c => some (if c < a then c else a)
def sw (b : Mm) (T : Nat → Option Nat × Nat) (s i j : Nat) : Option Nat := if s.testBit j then (match cst b i j with | none => none | some c => (T (rm2 s i j)).1.map (fun v => c + v)) else none
def ww (b : Mm) (T : Nat → Option Nat × Nat) (s i j : Nat) : Nat := if s.testBit j then (match cst b i j with | none => 0 | some _ => (T (rm2 s i j)).2) else 0
def rowL (b : Mm) (T : Nat → Option Nat × Nat) (s i : Nat) : Nat → Option Nat × Nat
  | 0 => (none, 0)
  | m + 1 => (mn (rowL b T s i m).1 (sw b T s i (i + 1 + m)), (rowL b T s i m).2 + ww b T s i (i + 1 + m))
theorem rowL_cong {b : Mm} {T U : Nat → Option Nat × Nat} {s i : Nat} (hb : s.testBit i = true) (h : ∀ t, t < s → T t = U t) : ∀ m, rowL b T s i m = rowL b U s i m
  | 0 => rfl
  | m + 1 => by
    have e := h _ (rm2_lt (j := i + 1 + m) hb)
    show (mn (rowL b T s i m).1 (sw b T s i (i + 1 + m)), (rowL b T s i m).2 + ww b T s i (i + 1 + m)) = (mn (rowL b U s i m).1 (sw b U s i (i + 1 + m)), (rowL b U s i m).2 + ww b U s i (i + 1 + m))
    rw [rowL_cong hb h m]
    unfold sw ww
    rw [e]
def valF (b : Mm) : Nat → Nat → Option Nat × Nat
  | 0, _ => (none, 0)
  | f + 1, s => if s = 0 then (some 0, 1) else rowL b (valF b f) s (low s) (nQ b - (low s + 1))
def val (b : Mm) (s : Nat) : Option Nat × Nat := valF b (s + 1) s
theorem valF_val {b : Mm} : ∀ s, s < 4096 → ∀ f, s < f → valF b f s = val b s := by
  intro s
  induction s using Nat.strongRecOn with
  | ind s ih =>
    intro hs f hf
    obtain ⟨f, rfl⟩ : ∃ g, f = g + 1 := ⟨f - 1, by omega⟩
    show (if s = 0 then (some 0, 1) else rowL b (valF b f) s (low s) (nQ b - (low s + 1))) = (if s = 0 then (some 0, 1) else rowL b (valF b s) s (low s) (nQ b - (low s + 1)))
    by_cases h0 : s = 0
    · rw [if_pos h0, if_pos h0]
    · rw [if_neg h0, if_neg h0]
      obtain ⟨a, c, -⟩ := low_spec (by omega) hs
      exact rowL_cong c (fun t ht => by rw [ih t ht (by omega) f (by omega), ih t ht (by omega) s ht]) _
theorem val_0 (b : Mm) : val b 0 = (some 0, 1) := rfl
theorem val_eq {b : Mm} {s : Nat} (h1 : 1 ≤ s) (hs : s < 4096) : val b s = rowL b (val b) s (low s) (nQ b - (low s + 1)) := by
  obtain ⟨a, c, -⟩ := low_spec h1 hs
  show (if s = 0 then (some 0, 1) else rowL b (valF b s) s (low s) (nQ b - (low s + 1))) = _
  rw [if_neg (by omega)]
  exact rowL_cong c (fun t ht => valF_val t (by omega) s ht) _
def Vok (v : Option Nat × Nat) (p : Nat) : Prop := (∀ x, v.1 = some x → x ≤ 404 * p) ∧ (v.1 = none → v.2 = 0)
theorem sw_ok {b : Mm} (ok : BookOK b) {T : Nat → Option Nat × Nat} {s i j : Nat} (hi : i < 12) (hj : j < 12) (hij : i ≠ j) (hb : s.testBit i = true) (hT : Vok (T (rm2 s i j)) (pc (rm2 s i j))) : (∀ x, sw b T s i j = some x → x ≤ 404 * pc s) ∧ (sw b T s i j = none → ww b T s i j = 0) := by
  unfold sw ww
  by_cases z : s.testBit j = true
  · rw [if_pos z, if_pos z]
    have e := pc_rm2 hi hj hij hb z
    cases hc : cst b i j with
    | none => exact ⟨fun x h => (by cases h), fun _ => rfl⟩
    | some c =>
      have hl := cst_le ok hc
      cases hv : (T (rm2 s i j)).1 with
      | none => exact ⟨fun x h => (by cases h), fun _ => hT.2 hv⟩
      | some v =>
        have := hT.1 v hv
        refine ⟨fun x h => ?_, fun h => by cases h⟩
        have hx : c + v = x := Option.some.inj h
        omega
  · rw [if_neg z, if_neg z]
    exact ⟨fun x h => (by cases h), fun _ => rfl⟩
theorem rowL_ok {b : Mm} (ok : BookOK b) {T : Nat → Option Nat × Nat} {s i : Nat} (hi : i < 12) (hb : s.testBit i = true) (hT : ∀ t, t < s → Vok (T t) (pc t)) : ∀ m, i + 1 + m ≤ 12 → Vok (rowL b T s i m) (pc s)
  | 0, _ => ⟨fun x h => (by cases h), fun _ => rfl⟩
  | m + 1, hm => by
    obtain ⟨a1, a2⟩ := rowL_ok ok hi hb hT m (by omega)
    obtain ⟨c1, c2⟩ := sw_ok ok (j := i + 1 + m) hi (by omega) (by omega) hb (hT _ (rm2_lt hb))
    show Vok (mn (rowL b T s i m).1 (sw b T s i (i + 1 + m)), (rowL b T s i m).2 + ww b T s i (i + 1 + m)) (pc s)
    cases h1 : (rowL b T s i m).1 with
    | none =>
      refine ⟨fun x h => c1 x h, fun h => ?_⟩
      show (rowL b T s i m).2 + ww b T s i (i + 1 + m) = 0
      rw [a2 h1, c2 h]
    | some v =>
      have hv := a1 v h1
      cases h2 : sw b T s i (i + 1 + m) with
      | none => exact ⟨fun x h => (by cases h; exact hv), fun h => by cases h⟩
      | some w =>
        have hw := c1 w h2
        refine ⟨fun x h => ?_, fun h => by cases h⟩
        have hx : (if w < v then w else v) = x := Option.some.inj h
        split at hx <;> omega
theorem low_n {n s : Nat} (hn : n ≤ 12) (h1 : 1 ≤ s) (hs : s < 2 ^ n) : low s < n := by
  have h4 := pw_lt hn
  obtain ⟨-, c, -⟩ := low_spec h1 (by omega)
  refine Classical.byContradiction (fun z => ?_)
  rw [bit_hi hs (by omega)] at c
  cases c
theorem val_ok {b : Mm} (ok : BookOK b) : ∀ s, s < 2 ^ nQ b → Vok (val b s) (pc s) := by
  have hn : nQ b ≤ 12 := Nat.le_trans (nQ_le b) ok.P12
  have h4 := pw_lt hn
  intro s
  induction s using Nat.strongRecOn with
  | ind s ih =>
    intro hs
    by_cases h0 : s = 0
    · subst h0
      exact ⟨fun x h => (by cases h; omega), fun h => by cases h⟩
    · obtain ⟨a, c, -⟩ := low_spec (by omega) (show s < 4096 by omega)
      have hl := low_n hn (by omega) hs
      rw [val_eq (by omega) (by omega)]
      exact rowL_ok ok a c (fun t ht => ih t ht (by omega)) _ (by omega)
def c9 : Option Nat → Int32
  | none => -9
  | some v => nI v
theorem neg9 {n : Nat} (h : n < 2147483648) : ¬ nI n = (-9 : Int32) := fun z => nI_pos h (by rw [z]; decide)
theorem c9_none {o : Option Nat} (h : ∀ v, o = some v → v < 2147483648) : (c9 o = (-9 : Int32)) ↔ o = none := by
  cases o with
  | none => exact ⟨fun _ => rfl, fun _ => rfl⟩
  | some v => exact ⟨fun z => absurd z (neg9 (h v rfl)), fun z => (by cases z)⟩
theorem e12m (x t : Nat) : ((nI x * (12 : Int32)) + nI t) = nI (12 * x + t) := e12 x t
theorem x_sumWith {σ b : Mm} (ok : BookOK b) {s i j : Nat} (hs : s < 4096) (hij : i < j) (hj : j < nQ b) (hb : s.testBit i = true) (h63 : σ 63 (12 * i + j) = c5 (cst b i j)) (h64 : s.testBit j = true → σ 64 (rm2 s i j) = c9 (val b (rm2 s i j)).1) (hv : ∀ v, (val b (rm2 s i j)).1 = some v → v ≤ 4848) : f_X1_sumWith σ (nI s) (nI i) (nI j) = some (c9 (sw b (val b) s i j)) := by
  have hn : nQ b ≤ 12 := Nat.le_trans (nQ_le b) ok.P12
  have hr := rm2_lt (j := j) hb
  unfold f_X1_sumWith sw
  rw [e12, row_at (by omega) (by omega), Option.bind_some, x_without (by omega) (by omega), Option.bind_some, row_at (by omega) (by omega), Option.bind_some, bit_is hs (by omega), h63]
  by_cases z : s.testBit j = true
  · rw [z, if_neg (show ¬ (if true = true then (1 : Int32) else 0) = 0 by decide), if_pos rfl, h64 z]
    cases hc : cst b i j with
    | none => rw [if_pos (show c5 none = (-5 : Int32) from rfl)]; rfl
    | some c =>
      have hl := cst_le ok hc
      rw [show c5 (some c) = nI c from rfl, if_neg (neg5 (by omega))]
      cases hw : (val b (rm2 s i j)).1 with
      | none => rw [if_pos (show c9 none = (-9 : Int32) from rfl)]; rfl
      | some v =>
        have := hv v hw
        rw [show c9 (some v) = nI v from rfl, if_neg (neg9 (by omega)), show nI c + nI v = nI (c + v) from nI_add _ _]
        rfl
  · rw [if_neg z, if_neg z, if_pos rfl]; rfl
theorem val_4848 {b : Mm} (ok : BookOK b) {s v : Nat} (hs : s < 2 ^ nQ b) (h : (val b s).1 = some v) : v ≤ 4848 := by
  have hn : nQ b ≤ 12 := Nat.le_trans (nQ_le b) ok.P12
  have h1 := (val_ok ok s hs).1 v h
  have h2 := pc_le hn hs
  omega
theorem x_weigh {σ b : Mm} (ok : BookOK b) (hn61 : σ 61 = fun _ => nI (nQ b)) (h63 : ∀ i j, i < j → j < nQ b → σ 63 (12 * i + j) = c5 (cst b i j)) {s : Nat} (h1 : 1 ≤ s) (hs : s < 2 ^ nQ b) (hT : ∀ j, low s < j → j < nQ b → s.testBit j = true → σ 64 (rm2 s (low s) j) = c9 (val b (rm2 s (low s) j)).1 ∧ σ 65 (rm2 s (low s) j) = nI (val b (rm2 s (low s) j)).2) : f_X1_weigh σ (nI s) = some (us (us σ 64 s (c9 (val b s).1)) 65 s (nI (val b s).2)) := by
  have hn : nQ b ≤ 12 := Nat.le_trans (nQ_le b) ok.P12
  have h4 := pw_lt hn
  obtain ⟨a, c, -⟩ := low_spec h1 (show s < 4096 by omega)
  have hl := low_n hn h1 hs
  unfold f_X1_weigh
  rw [x_firstSeat h1 (by omega), Option.bind_some, show nI (low s) + (1 : Int32) = nI (low s + 1 + 0) from nI_1 _]
  refine wh4_seq (nQ b - (low s + 1)) (fun _ => σ) (fun m => c9 (rowL b (val b) s (low s) m).1) (fun m => nI (rowL b (val b) s (low s) m).2) (fun m => nI (low s + 1 + m)) _ (fun m hm r => ?_) (fun r => ?_) 5000 (by omega)
  · obtain ⟨b1, b2⟩ := rowL_ok ok a c (fun t ht => val_ok ok t (by omega)) m (by omega)
    have hr := rm2_lt (j := low s + 1 + m) c
    obtain ⟨d1, d2⟩ := sw_ok ok (T := val b) (j := low s + 1 + m) a (by omega) (by omega) c (val_ok ok _ (by omega))
    have hp := pc_le hn hs
    have eR : rowL b (val b) s (low s) (m + 1) = (mn (rowL b (val b) s (low s) m).1 (sw b (val b) s (low s) (low s + 1 + m)), (rowL b (val b) s (low s) m).2 + ww b (val b) s (low s) (low s + 1 + m)) := rfl
    unfold f_X1_weigh_s16
    rw [Option.bind_some, hn61, if_neg (nI_ge (by omega) (by omega)), x_sumWith ok (by omega) (by omega) (by omega) c (h63 _ _ (by omega) (by omega)) (fun z => (hT _ (by omega) (by omega) z).1) (fun v hv => val_4848 ok (by omega) hv), Option.bind_some, eR, show nI (low s + 1 + m) + (1 : Int32) = nI (low s + 1 + (m + 1)) from nI_1 _]
    cases hw : sw b (val b) s (low s) (low s + 1 + m) with
    | none =>
      rw [show c9 none = (-9 : Int32) from rfl, if_pos rfl, d2 hw]
      cases (rowL b (val b) s (low s) m).1 <;> rfl
    | some w =>
      have hwl := d1 w hw
      have hbit : s.testBit (low s + 1 + m) = true := by
        refine Classical.byContradiction (fun z => ?_)
        unfold sw at hw
        rw [if_neg z] at hw
        cases hw
      have hww : ww b (val b) s (low s) (low s + 1 + m) = (val b (rm2 s (low s) (low s + 1 + m))).2 := by
        unfold sw at hw
        unfold ww
        rw [if_pos hbit] at hw ⊢
        cases hc : cst b (low s) (low s + 1 + m) with
        | none => rw [hc] at hw; cases hw
        | some q => rfl
      rw [show c9 (some w) = nI w from rfl, if_neg (neg9 (by omega)), x_without (by omega) (by omega), Option.bind_some, row_at (by omega) (by omega), Option.bind_some, (hT _ (by omega) (by omega) hbit).2, show nI (rowL b (val b) s (low s) m).2 + nI (val b (rm2 s (low s) (low s + 1 + m))).2 = nI ((rowL b (val b) s (low s) m).2 + ww b (val b) s (low s) (low s + 1 + m)) by rw [nI_add, hww]]
      cases hu : (rowL b (val b) s (low s) m).1 with
      | none => rw [show c9 none = (-9 : Int32) from rfl, if_pos rfl]; rfl
      | some u =>
        have hul := b1 u hu
        rw [show c9 (some u) = nI u from rfl, if_neg (neg9 (by omega)), Option.bind_some]
        show r σ (if nI w < nI u then nI w else nI u) _ _ = r σ (nI (if w < u then w else u)) _ _
        by_cases z : w < u
        · rw [if_pos z, if_pos (nI_lt z (by omega))]
        · rw [if_neg z, if_neg (nI_nlt (by omega) (by omega))]
  · unfold f_X1_weigh_s16
    rw [Option.bind_some, hn61, if_pos (nI_le (by omega) (by omega))]
    unfold f_X1_weigh_j85
    rw [row_put (by omega) (by omega), Option.bind_some, row_put (by omega) (by omega), Option.bind_some, ← val_eq h1 (by omega)]
