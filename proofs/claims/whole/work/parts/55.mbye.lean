/-! ===== how many are in, on both sides; the reference's bye and its places ===== -/
theorem sc_sc {σ : Mm} {k : Nat} {v w : Int32} : sc (sc σ k v) k w = sc σ k w := by
  funext j
  by_cases h : j = k
  · subst h; rw [sc_eq', sc_eq']
  · rw [sc_ne h, sc_ne h, sc_ne h]
theorem sm_upd {f g : Nat → Nat} {o : Nat} : ∀ {n : Nat}, o < n → (∀ q, q < n → q ≠ o → g q = f q) → sm f n + g o = sm g n + f o
  | 0, h, _ => absurd h (Nat.not_lt_zero _)
  | n + 1, h, hq => by
    rw [sm_succ, sm_succ]
    by_cases e : o = n
    · subst e
      rw [sm_cong (f := g) (g := f) (fun k hk => hq k (by omega) (by omega))]
      omega
    · have ih := sm_upd (f := f) (g := g) (o := o) (n := n) (by omega) (fun q hq1 hq2 => hq q (by omega) hq2)
      rw [hq n (by omega) (Ne.symm e)]
      omega
theorem sm_perm (g : Nat → Nat) : ∀ (n : Nat) (s : Nat → Nat), (∀ i, i < n → s i < n) → (∀ i j, i < n → j < n → s i = s j → i = j) → sm (fun i => g (s i)) n = sm g n
  | 0, _, _, _ => rfl
  | n + 1, s, h1, h2 => by
    obtain ⟨j, hj, ej⟩ := fb_onto h1 (fun i k hik hk e => by have := h2 i k (by omega) hk e; omega) (Nat.lt_succ_self n)
    by_cases e : j = n
    · subst e
      have ih := sm_perm g j s (fun i hi => by
        have a := h1 i (by omega)
        have : s i ≠ j := fun z => by have := h2 i j (by omega) (by omega) (z.trans ej.symm); omega
        omega) (fun i k hi hk => h2 i k (by omega) (by omega))
      rw [sm_succ, sm_succ, ih, ej]
    · have hjn : j < n := by omega
      have ih := sm_perm g n (fun i => if i = j then s n else s i) (fun i hi => by
        by_cases z : i = j
        · rw [if_pos z]
          have a := h1 n (by omega)
          have : s n ≠ n := fun y => by have := h2 n j (by omega) (by omega) (y.trans ej.symm); omega
          omega
        · rw [if_neg z]
          have a := h1 i (by omega)
          have : s i ≠ n := fun y => z (h2 i j (by omega) (by omega) (y.trans ej.symm))
          omega) (fun i k hi hk => by
        by_cases z : i = j
        · rw [if_pos z]
          by_cases y : k = j
          · intro _; omega
          · rw [if_neg y]; intro e; have := h2 n k (by omega) (by omega) e; omega
        · rw [if_neg z]
          by_cases y : k = j
          · rw [if_pos y]; intro e; have := h2 i n (by omega) (by omega) e; omega
          · rw [if_neg y]; exact h2 i k (by omega) (by omega))
      have hu := sm_upd (f := fun i => g (s i)) (g := fun i => g (if i = j then s n else s i)) hjn (fun q _ hq => by
        show g (if q = j then s n else s q) = g (s q)
        rw [if_neg hq])
      have e1 : g (if j = j then s n else s j) = g (s n) := by rw [if_pos rfl]
      have hu' : sm (fun i => g (s i)) n + g (s n) = sm (fun i => g (if i = j then s n else s i)) n + g (s j) := by rw [← e1]; exact hu
      rw [sm_succ, sm_succ, hu', ih, ej]
def iB (b : Mm) (p : Nat) : Nat := if inB b p then 1 else 0
def inN (b : Mm) : Nat := sm (iB b) (nP b)
theorem sK_sm (b : Mm) : ∀ k, (sK b k).length = sm (fun i => iB b (stN b i)) k
  | 0 => rfl
  | k + 1 => by
    rw [sK_succ, List.length_append, sK_sm b k, sm_succ]
    congr 1
    unfold iB
    split <;> rfl
theorem inN_eq (b : Mm) : inN b = nS b := by
  unfold nS sAll
  rw [sK_sm, sm_perm (iB b) (nP b) (stN b) (fun i hi => stN_lt hi) (fun i j hi hj => stN_inj hi hj)]
  rfl
theorem in_cell {b : Mm} (ok : BookOK b) {p : Nat} (hp : p < nP b) : b 2 p = nI (iB b p) := by
  have h := inB_iff ok hp
  have h2 := ok.inn hp
  unfold iB
  by_cases z : inB b p = true
  · rw [if_pos z, h.mpr z]; rfl
  · rw [if_neg z, h2.1]
    have : ¬ gN b 2 p = 1 := fun y => z (by unfold inB; simp [y])
    rw [show gN b 2 p = 0 by omega]
theorem m_manyIn {μ b : Mm} (h : Bk μ b) (ok : BookOK b) : f_X7_manyIn μ = some (nI (nS b)) := by
  have hP := ok.P12
  unfold f_X7_manyIn
  rw [← inN_eq]
  unfold inN
  refine wh2_seq (nP b) (fun k => nI (sm (iB b) k)) (fun k => nI k) _ (fun k hk r => ?_) (fun r => ?_) 5000 (by omega)
  · unfold f_X7_manyIn_s4
    rw [h 0 (by omega), ok.P, if_neg (nI_ge hk (by omega)), h 2 (by omega), ald_nI (by omega) (by omega), Option.bind_some, in_cell ok hk, acc_v rfl, show nI k + (1 : Int32) = nI (k + 1) from nI_1 k]
  · unfold f_X7_manyIn_s4
    rw [h 0 (by omega), ok.P, if_pos (nI_le (Nat.le_refl _) (by omega))]
theorem x_countInside {μ b : Mm} (h : Bk μ b) (ok : BookOK b) : f_X0_countInside μ = some (nI (nS b)) := by
  have hP := ok.P12
  unfold f_X0_countInside
  rw [← inN_eq]
  unfold inN
  refine wh2_seq (nP b) (fun k => nI (sm (iB b) k)) (fun k => nI k) _ (fun k hk r => ?_) (fun r => ?_) 5000 (by omega)
  · unfold f_X0_countInside_s4
    rw [h 0 (by omega), ok.P, if_neg (nI_ge hk (by omega)), row_at (by omega) (by omega), Option.bind_some, h 2 (by omega), in_cell ok hk, acc_v rfl, show nI k + (1 : Int32) = nI (k + 1) from nI_1 k]
  · unfold f_X0_countInside_s4
    rw [h 0 (by omega), ok.P, if_pos (nI_le (Nat.le_refl _) (by omega))]
theorem last_snoc (c : Bool) (L : List Nat) (a : Nat) : (L ++ (if c then [a] else [])).getLast? = if c then some a else L.getLast? := by
  cases c with
  | false => simp
  | true => simp
theorem m_layBye {ν b : Mm} (h : Bk ν b) (ok : BookOK b) (hs : ∀ i, i < nP b → ν 14 i = nI (stN b i)) : f_X7_layBye ν = some (sc ν 17 (i5 (byeO b))) := by
  have hP := ok.P12
  have hS : nS b ≤ nP b := sK_len b (nP b)
  unfold f_X7_layBye
  rw [Option.bind_some]
  refine wh3_seq (nP b) (fun k => sc ν 17 (i5 ((sK b k).filter (noB b)).getLast?)) (fun k => i5 (sK b k).getLast?) (fun k => nI k) _ (fun k hk r => ?_) (fun r => ?_) 5000 (by omega)
  · have hb : Bk (sc ν 17 (i5 ((sK b k).filter (noB b)).getLast?)) b := h.sc (by omega)
    have hq := stN_lt hk
    have b1 := byesN_le ok (stN b k)
    have b2 := forfN_le ok (stN b k)
    have e1 : (sK b (k + 1)).getLast? = if inB b (stN b k) then some (stN b k) else (sK b k).getLast? := by rw [sK_succ, last_snoc]
    have e2 : ((sK b (k + 1)).filter (noB b)).getLast? = if (inB b (stN b k) && noB b (stN b k)) then some (stN b k) else ((sK b k).filter (noB b)).getLast? := by
      rw [sK_succ, List.filter_append, show ((if inB b (stN b k) then [stN b k] else []).filter (noB b)) = (if (inB b (stN b k) && noB b (stN b k)) then [stN b k] else []) by
        cases c1 : inB b (stN b k) with
        | false => simp
        | true => cases c2 : noB b (stN b k) with
          | false => simp [c2]
          | true => simp [c2], last_snoc]
    unfold f_X7_layBye_s11
    rw [Option.bind_some, hb 0 (by omega), ok.P, if_neg (nI_ge hk (by omega)), sc_ne (by omega), ald_nI (by omega) (by omega), Option.bind_some, hs k hk, hb 2 (by omega), ald_nI (by omega) (by omega), Option.bind_some]
    by_cases z : inB b (stN b k) = true
    · rw [if_pos ((inB_iff ok hq).mpr z)]
      unfold f_X7_layBye_j41
      rw [hb 2 (by omega), ald_nI (by omega) (by omega), Option.bind_some, if_pos ((inB_iff ok hq).mpr z), m_byesOf hb ok, Option.bind_some, m_forfeitsOf hb ok hq, Option.bind_some, show nI (byesN b (stN b k)) + nI (forfN b (stN b k)) = nI (byesN b (stN b k) + forfN b (stN b k)) from nI_add _ _, e1, e2, if_pos z]
      by_cases y : byesN b (stN b k) + forfN b (stN b k) = 0
      · have y2 : noB b (stN b k) = true := by unfold noB; simp [y]
        rw [if_pos (by rw [y]; rfl), z, y2, if_pos (by rfl)]
        unfold f_X7_layBye_j75
        rw [Option.bind_some, sc_sc, show nI k + (1 : Int32) = nI (k + 1) from nI_1 k]
        rfl
      · have y2 : noB b (stN b k) = false := by unfold noB; simp; omega
        rw [if_neg (nI_ne0 (by omega) (by omega)), z, y2, if_neg (by decide)]
        unfold f_X7_layBye_j71 f_X7_layBye_j75
        rw [Option.bind_some, sc_at, Option.bind_some, sc_sc, show nI k + (1 : Int32) = nI (k + 1) from nI_1 k]
        rfl
    · rw [if_neg (fun y => z ((inB_iff ok hq).mp y))]
      unfold f_X7_layBye_j41
      have z' := Bool.eq_false_iff.mpr z
      rw [hb 2 (by omega), ald_nI (by omega) (by omega), Option.bind_some, if_neg (fun y => z ((inB_iff ok hq).mp y)), e1, e2, z', if_neg (by simp), if_neg (by simp)]
      unfold f_X7_layBye_j71 f_X7_layBye_j75
      rw [Option.bind_some, sc_at, Option.bind_some, sc_sc, show nI k + (1 : Int32) = nI (k + 1) from nI_1 k]
  · have hb : Bk (sc ν 17 (i5 ((sK b (nP b)).filter (noB b)).getLast?)) b := h.sc (by omega)
    unfold f_X7_layBye_s11
    rw [Option.bind_some, hb 0 (by omega), ok.P, if_pos (nI_le (Nat.le_refl _) (by omega))]
    unfold f_X7_layBye_j84
    rw [m_manyIn hb ok, Option.bind_some, odd_test (by omega), Option.bind_some]
    by_cases z : nS b % 2 = 0
    · rw [z, if_pos (by decide)]
      unfold f_X7_layBye_j114 byeO
      rw [Option.bind_some, sc_sc, if_pos (show (sAll b).length % 2 = 0 from z)]
      rfl
    · rw [if_neg (by rw [show nS b % 2 = 1 by omega]; decide), Option.bind_some, sc_at]
      unfold byeO
      rw [if_neg (show ¬ (sAll b).length % 2 = 0 from z)]
      show (if 0 ≤ i5 ((sAll b).filter (noB b)).getLast? then _ else _) = _
      cases hg : ((sAll b).filter (noB b)).getLast? with
      | none =>
        rw [if_neg (by decide)]
        unfold f_X7_layBye_j114
        rw [Option.bind_some, sc_sc]
        rfl
      | some p =>
        have hp : p < nP b := (sK_mem (Nat.le_refl _) (List.mem_filter.mp (List.mem_of_getLast? hg)).1).1
        rw [show i5 (some p) = nI p from rfl, if_pos (nI_pos' (by omega)), Option.bind_some]
        unfold f_X7_layBye_j114
        rw [Option.bind_some, sc_sc]
        rw [show i5 ((sK b (nP b)).filter (noB b)).getLast? = nI p from congrArg i5 hg]
