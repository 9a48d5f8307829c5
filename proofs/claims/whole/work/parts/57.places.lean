/-! ===== the places and their costs, on both sides ===== -/
theorem wh2_in {Q A1 A2 α : Type} {f : Q → (A1 → A2 → Option α) → A1 → A2 → Option α} (n : Nat) (I : Nat → A1 → Prop) (s2 : Nat → A2) (hs : ∀ k, k < n → ∀ a, I k a → ∃ a', I (k + 1) a' ∧ ∀ q r, f q r a (s2 k) = r a' (s2 (k + 1))) : ∀ F, n < F → ∀ a, I 0 a → ∃ a', I n a' ∧ ∀ q R, (∀ r, f q r a' (s2 n) = R) → wh2 (f q) F a (s2 0) = R := by
  have key : ∀ d k F a, k + d = n → d < F → I k a → ∃ a', I n a' ∧ ∀ q R, (∀ r, f q r a' (s2 n) = R) → wh2 (f q) F a (s2 k) = R := by
    intro d
    induction d with
    | zero =>
      intro k F a hk hF hI
      obtain ⟨F, rfl⟩ : ∃ G, F = G + 1 := ⟨F - 1, by omega⟩
      have hk' : k = n := by omega
      subst hk'
      exact ⟨a, hI, fun q R h => h _⟩
    | succ d ih =>
      intro k F a hk hF hI
      obtain ⟨F, rfl⟩ : ∃ G, F = G + 1 := ⟨F - 1, by omega⟩
      obtain ⟨a', h1, h2⟩ := hs k (by omega) a hI
      obtain ⟨a'', h3, h4⟩ := ih (k + 1) F a' (by omega) (by omega) h1
      refine ⟨a'', h3, fun q R h => ?_⟩
      show f q (wh2 (f q) F) a (s2 k) = R
      rw [h2]
      exact h4 q R h
  exact fun F hF a hI => key n 0 F a (by omega) hF hI
def seat (b : Mm) (i : Nat) : Nat := (seatL b).getD i 0
theorem seat_at {b : Mm} {i : Nat} (hi : i < nQ b) : (seatL b)[i]? = some (seat b i) := by
  unfold seat
  have h : i < (seatL b).length := hi
  simp [List.getD, h]
theorem seat_lt {b : Mm} {i : Nat} (hi : i < nQ b) : seat b i < nP b := by
  have h := List.mem_of_getElem? (seat_at hi)
  unfold seatL at h
  exact (sK_mem (Nat.le_refl _) (List.mem_filter.mp h).1).1
theorem nQ_le (b : Mm) : nQ b ≤ nP b := by
  have h1 : nS b ≤ nP b := sK_len b (nP b)
  have h2 : nQ b ≤ nS b := List.length_filter_le _ _
  omega
def cst (b : Mm) (i j : Nat) : Option Nat := costO b (seat b i) (seat b j)
theorem cst_comm {b : Mm} (ok : BookOK b) (i j : Nat) : cst b i j = cst b j i := costO_comm ok _ _
theorem cst_le {b : Mm} (ok : BookOK b) {i j v : Nat} (h : cst b i j = some v) : v ≤ 404 := by
  unfold cst costO at h
  split at h
  · cases h; exact costN_le ok _ _
  · cases h
/-! the class -/
theorem x_noteCosts {σ b : Mm} (ok : BookOK b) (ht : TabOK b σ) (hL : Laid (σ 60) (seatL b)) (hn : σ 61 = fun _ => nI (nQ b)) : ∃ τ, f_X1_noteCosts σ = some τ ∧ (∀ k, k ≠ 63 → τ k = σ k) ∧ ∀ i j, i < j → j < nQ b → τ 63 (12 * i + j) = c5 (cst b i j) := by
  have hP := ok.P12
  have hQ := nQ_le b
  unfold f_X1_noteCosts
  refine wh2_inv (nQ b) (fun k τ => (∀ z, z ≠ 63 → τ z = σ z) ∧ ∀ i j, i < j → j < nQ b → i < k → τ 63 (12 * i + j) = c5 (cst b i j)) (fun k => nI k) _ (fun k hk τ hI => ?_) (fun τ hI r => ?_) 5000 (by omega) σ ⟨fun _ _ => rfl, fun i j _ _ h => absurd h (Nat.not_lt_zero _)⟩
  · obtain ⟨t0, t1⟩ := hI
    obtain ⟨τ', ⟨u0, u1⟩, u2⟩ := wh2_in (f := fun q => f_X1_noteCosts_s14 q (nI k)) (nQ b - (k + 1)) (fun m ρ => (∀ z, z ≠ 63 → ρ z = σ z) ∧ ∀ i j, i < j → j < nQ b → (i < k ∨ (i = k ∧ j < k + 1 + m)) → ρ 63 (12 * i + j) = c5 (cst b i j)) (fun m => nI (k + 1 + m)) (fun m hm ρ hI => by
      obtain ⟨v0, v1⟩ := hI
      have hT : TabOK b ρ := ht.cong (fun z _ _ => v0 z (by omega))
      refine ⟨us ρ 63 (12 * k + (k + 1 + m)) (c5 (cst b k (k + 1 + m))), ⟨fun z hz => (us_ne hz).trans (v0 z hz), fun i j h1 h2 h3 => ?_⟩, fun q r => ?_⟩
      · rw [us_read]
        by_cases e : 63 = 63 ∧ 12 * i + j = 12 * k + (k + 1 + m)
        · rw [if_pos e, show i = k by omega, show j = k + 1 + m by omega]
        · rw [if_neg e]
          exact v1 i j h1 h2 (by
            rcases h3 with h3 | ⟨h3, h4⟩
            · exact Or.inl h3
            · exact Or.inr ⟨h3, by
                have : j ≠ k + 1 + m := fun y => e ⟨rfl, by omega⟩
                omega⟩)
      · unfold f_X1_noteCosts_s14
        rw [Option.bind_some, v0 61 (by omega), hn, if_neg (nI_ge (by omega) (by omega)), row_at (by omega) (by omega), Option.bind_some, row_at (by omega) (by omega), Option.bind_some, v0 60 (by omega), hL k _ (seat_at hk), hL (k + 1 + m) _ (seat_at (by omega)), x_costOf ok hT (seat_lt hk) (seat_lt (by omega)), Option.bind_some, e12, row_put (by omega) (by omega), Option.bind_some, show nI (k + 1 + m) + (1 : Int32) = nI (k + 1 + (m + 1)) from nI_1 _]
        rfl) 5000 (by omega) τ ⟨t0, fun i j h1 h2 h3 => t1 i j h1 h2 (by
          rcases h3 with h3 | ⟨h3, h4⟩
          · exact h3
          · omega)⟩
    refine ⟨τ', ⟨u0, fun i j h1 h2 h3 => u1 i j h1 h2 (by omega)⟩, fun r => ?_⟩
    unfold f_X1_noteCosts_s2
    rw [Option.bind_some, t0 61 (by omega), hn, if_neg (nI_ge hk (by omega)), show nI k + (1 : Int32) = nI (k + 1 + 0) from nI_1 k]
    refine u2 r (r τ' (nI (k + 1))) (fun r2 => ?_)
    show f_X1_noteCosts_s14 r (nI k) r2 τ' (nI (k + 1 + (nQ b - (k + 1)))) = _
    unfold f_X1_noteCosts_s14
    rw [Option.bind_some, u0 61 (by omega), hn, if_pos (nI_le (by omega) (by omega)), show nI k + (1 : Int32) = nI (k + 1) from nI_1 k]
  · obtain ⟨t0, t1⟩ := hI
    refine ⟨τ, ?_, t0, fun i j h1 h2 => t1 i j h1 h2 (by omega)⟩
    unfold f_X1_noteCosts_s2
    rw [Option.bind_some, t0 61 (by omega), hn, if_pos (nI_le (Nat.le_refl _) (by omega))]
/-! the reference -/
def c6 : Option Nat → Int32
  | none => 1000000
  | some v => nI v
def seatK (b : Mm) (k : Nat) : List Nat := (sK b k).filter (fun p => decide (byeO b ≠ some p))
theorem seatK_succ (b : Mm) (k : Nat) : seatK b (k + 1) = seatK b k ++ (if inB b (stN b k) && decide (byeO b ≠ some (stN b k)) then [stN b k] else []) := by
  unfold seatK
  rw [sK_succ, List.filter_append]
  congr 1
  cases c1 : inB b (stN b k) with
  | false => simp
  | true =>
    by_cases c2 : byeO b = some (stN b k)
    · simp [c2]
    · simp [c2]
theorem seatK_len (b : Mm) (k : Nat) : (seatK b k).length ≤ k := Nat.le_trans (List.length_filter_le _ _) (sK_len b k)
theorem byeO_lt {b : Mm} {p : Nat} (h : byeO b = some p) : p < nP b := by
  have key : ∀ L : List Nat, (∀ x, x ∈ L → x ∈ sAll b) → L.getLast? = some p → p < nP b := fun L hL hl => (sK_mem (Nat.le_refl _) (hL p (List.mem_of_getLast? hl))).1
  unfold byeO at h
  split at h
  · cases h
  · split at h
    · exact key _ (fun x hx => hx) h
    · rename_i q hq
      cases h
      exact key _ (fun x hx => (List.mem_filter.mp hx).1) hq
theorem i5_eq {b : Mm} (ok : BookOK b) {p : Nat} (hp : p < nP b) : (nI p = i5 (byeO b)) ↔ byeO b = some p := by
  have hP := ok.P12
  cases h : byeO b with
  | none => exact ⟨fun z => absurd z (neg5 (by omega)), fun z => by cases z⟩
  | some q =>
    have hq := byeO_lt h
    show nI p = nI q ↔ _
    rw [nI_eq (by omega) (by omega)]
    exact ⟨fun z => by rw [z], fun z => by cases z; rfl⟩
/-- what laying the places makes of a memory -/
def Plc (b : Mm) (μ τ : Mm) : Prop := (∀ k, k < 13 ∨ 20 < k → τ k = μ k) ∧ (τ 15 = fun _ => nI (nQ b)) ∧ Laid (τ 16) (seatL b) ∧ (τ 17 = fun _ => i5 (byeO b)) ∧ ∀ i j, i < nQ b → j < nQ b → i ≠ j → τ 18 (12 * i + j) = c6 (cst b i j)
theorem m12 (x t : Nat) : ((12 : Int32) * nI x) + nI t = nI (12 * x + t) := by rw [show (12 : Int32) = nI 12 from rfl, pk_mul, nI_add]
theorem m_layPlaces {μ b : Mm} (h : Bk μ b) (ok : BookOK b) : ∃ τ, f_X7_layPlaces μ = some τ ∧ Plc b μ τ := by
  have hP := ok.P12
  have hQ := nQ_le b
  unfold f_X7_layPlaces
  rw [m_layStanding h ok, Option.bind_some, m_layBye (LSt_bk h) ok (fun i hi => LSt_st hi), Option.bind_some, Option.bind_some]
  have hq0 : ∀ k, k < 13 ∨ 20 < k → sc (sc (LSt μ b) 17 (i5 (byeO b))) 15 0 k = μ k := fun k hk => by rw [sc_ne (by omega), sc_ne (by omega), LSt_ne (by omega) (by omega)]
  have hq1 : ∀ i, i < nP b → sc (sc (LSt μ b) 17 (i5 (byeO b))) 15 0 14 i = nI (stN b i) := fun i hi => by rw [sc_ne (by omega), sc_ne (by omega)]; exact LSt_st hi
  have hq2 : sc (sc (LSt μ b) 17 (i5 (byeO b))) 15 0 17 = fun _ => i5 (byeO b) := by rw [sc_ne (by omega), sc_eq']
  refine wh2_inv (nP b) (fun k τ => (∀ z, z ≠ 15 → z ≠ 16 → τ z = sc (sc (LSt μ b) 17 (i5 (byeO b))) 15 0 z) ∧ (τ 15 = fun _ => nI (seatK b k).length) ∧ Laid (τ 16) (seatK b k)) (fun k => nI k) _ (fun k hk τ hI => ?_) (fun τ hI r => ?_) 5000 (by omega) _ ⟨fun _ _ _ => rfl, by rw [sc_eq']; rfl, Laid.nil⟩
  · obtain ⟨t0, t1, t2⟩ := hI
    have hb : Bk τ b := fun z hz => by rw [t0 z (by omega) (by omega), hq0 z (by omega)]; exact h z hz
    have hs := stN_lt hk
    have hl := seatK_len b k
    have e14 : τ 14 k = nI (stN b k) := by rw [t0 14 (by omega) (by omega)]; exact hq1 k hk
    have e17 : τ 17 0 = i5 (byeO b) := by rw [t0 17 (by omega) (by omega), hq2]
    by_cases z : inB b (stN b k) = true
    · by_cases y : byeO b = some (stN b k)
      · refine ⟨τ, ⟨t0, ?_, ?_⟩, fun r => ?_⟩
        · rw [seatK_succ, z, decide_eq_false (fun w => w y), Bool.and_false, if_neg (by decide), List.append_nil]; exact t1
        · rw [seatK_succ, z, decide_eq_false (fun w => w y), Bool.and_false, if_neg (by decide), List.append_nil]; exact t2
        · unfold f_X7_layPlaces_s15
          rw [Option.bind_some, hb 0 (by omega), ok.P, if_neg (nI_ge hk (by omega)), ald_nI (by omega) (by omega), e14, Option.bind_some, hb 2 (by omega), ald_nI (by omega) (by omega), Option.bind_some, if_pos ((inB_iff ok hs).mpr z), Option.bind_some, e17, if_pos ((i5_eq ok hs).mpr y), show nI k + (1 : Int32) = nI (k + 1) from nI_1 k]
      · refine ⟨sc (us τ 16 (seatK b k).length (nI (stN b k))) 15 (nI ((seatK b k).length + 1)), ⟨fun j h1 h2 => ?_, ?_, ?_⟩, fun r => ?_⟩
        · rw [sc_ne h1, us_ne h2]; exact t0 j h1 h2
        · rw [sc_eq', seatK_succ, z, decide_eq_true y, Bool.and_self, if_pos rfl, List.length_append]; rfl
        · rw [sc_ne (by omega), seatK_succ, z, decide_eq_true y, Bool.and_self, if_pos rfl]
          exact Laid.push t2 (fun i hi2 => us_off (Or.inr hi2)) us_at
        · unfold f_X7_layPlaces_s15
          rw [Option.bind_some, hb 0 (by omega), ok.P, if_neg (nI_ge hk (by omega)), ald_nI (by omega) (by omega), e14, Option.bind_some, hb 2 (by omega), ald_nI (by omega) (by omega), Option.bind_some, if_pos ((inB_iff ok hs).mpr z), Option.bind_some, e17, if_neg (fun w => y ((i5_eq ok hs).mp w)), Option.bind_some, t1, ast_nI (by omega) (by omega), Option.bind_some, Option.bind_some, us_ne (by omega), t1, Option.bind_some, show nI k + (1 : Int32) = nI (k + 1) from nI_1 k, show nI (seatK b k).length + (1 : Int32) = nI ((seatK b k).length + 1) from nI_1 _]
    · refine ⟨τ, ⟨t0, ?_, ?_⟩, fun r => ?_⟩
      · rw [seatK_succ, Bool.eq_false_iff.mpr z, Bool.false_and, if_neg (by decide), List.append_nil]; exact t1
      · rw [seatK_succ, Bool.eq_false_iff.mpr z, Bool.false_and, if_neg (by decide), List.append_nil]; exact t2
      · unfold f_X7_layPlaces_s15
        rw [Option.bind_some, hb 0 (by omega), ok.P, if_neg (nI_ge hk (by omega)), ald_nI (by omega) (by omega), e14, Option.bind_some, hb 2 (by omega), ald_nI (by omega) (by omega), Option.bind_some, if_neg (fun w => z ((inB_iff ok hs).mp w)), show nI k + (1 : Int32) = nI (k + 1) from nI_1 k]
  · obtain ⟨t0, t1, t2⟩ := hI
    have hb : Bk τ b := fun z hz => by rw [t0 z (by omega) (by omega), hq0 z (by omega)]; exact h z hz
    unfold f_X7_layPlaces_s15
    rw [Option.bind_some, hb 0 (by omega), ok.P, if_pos (nI_le (Nat.le_refl _) (by omega))]
    have t1' : τ 15 = fun _ => nI (nQ b) := t1
    have t2' : Laid (τ 16) (seatL b) := t2
    refine wh2_inv (nQ b) (fun k ρ => (∀ z, z ≠ 18 → ρ z = τ z) ∧ ∀ i j, i < j → j < k → ρ 18 (12 * i + j) = c6 (cst b i j) ∧ ρ 18 (12 * j + i) = c6 (cst b i j)) (fun k => nI k) _ (fun k hk ρ hI => ?_) (fun ρ hI r => ?_) 5000 (by omega) τ ⟨fun _ _ => rfl, fun i j _ hh => absurd hh (Nat.not_lt_zero _)⟩
    · obtain ⟨u0, u1⟩ := hI
      obtain ⟨ρ', ⟨v0, v1⟩, v2⟩ := wh2_in (f := fun q => f_X7_layPlaces_s86 q (nI k)) k (fun m π => (∀ z, z ≠ 18 → π z = τ z) ∧ ∀ i j, i < j → (j < k ∨ (j = k ∧ i < m)) → π 18 (12 * i + j) = c6 (cst b i j) ∧ π 18 (12 * j + i) = c6 (cst b i j)) (fun m => nI m) (fun m hm π hI => by
        obtain ⟨w0, w1⟩ := hI
        have hbp : Bk π b := fun z hz => by rw [w0 z (by omega)]; exact hb z hz
        have hmQ : m < nQ b := by omega
        refine ⟨us (us π 18 (12 * k + m) (c6 (cst b m k))) 18 (12 * m + k) (c6 (cst b m k)), ⟨fun z hz => ((us_ne hz).trans (us_ne hz)).trans (w0 z hz), fun i j h1 h2 => ?_⟩, fun q r => ?_⟩
        · by_cases e : i = m ∧ j = k
          · obtain ⟨e1, e2⟩ := e
            subst e1; subst e2
            exact ⟨us_at, by rw [us_off (Or.inr (by omega)), us_at]⟩
          · have h3 := w1 i j h1 (by
              rcases h2 with h2 | ⟨h2, h4⟩
              · exact Or.inl h2
              · exact Or.inr ⟨h2, by
                  have : i ≠ m := fun y => e ⟨y, h2⟩
                  omega⟩)
            exact ⟨by rw [us_off (Or.inr (by omega)), us_off (Or.inr (by omega))]; exact h3.1, by rw [us_off (Or.inr (by omega)), us_off (Or.inr (by omega))]; exact h3.2⟩
        · have c1 : π 16 k = nI (seat b k) := by rw [w0 16 (by omega)]; exact t2' k _ (seat_at hk)
          have c2 : π 16 m = nI (seat b m) := by rw [w0 16 (by omega)]; exact t2' m _ (seat_at hmQ)
          show f_X7_layPlaces_s86 q (nI k) r π (nI m) = _
          unfold f_X7_layPlaces_s86
          rw [if_neg (nI_ge hm (by omega)), ald_nI (by omega) (by omega), Option.bind_some, ald_nI (by omega) (by omega), Option.bind_some, c1, c2, m_metIn hbp ok (seat_lt hk) (seat_lt hmQ), Option.bind_some, Option.bind_some, Option.bind_some, m_costOf hbp ok (seat_lt hk) (seat_lt hmQ), Option.bind_some]
          have fin : ∀ v, f_X7_layPlaces_j131 q r π (nI k) (nI m) v = r (us (us π 18 (12 * k + m) v) 18 (12 * m + k) v) (nI (m + 1)) := by
            intro v
            unfold f_X7_layPlaces_j131
            rw [m12, ast_nI (by omega) (by omega), Option.bind_some, m12, ast_nI (by omega) (by omega), Option.bind_some, show nI m + (1 : Int32) = nI (m + 1) from nI_1 m]
          rw [fin, fin, cst_comm ok]
          unfold cst costO
          by_cases y : met b (seat b k) (seat b m) = -5
          · rw [if_pos ((met_neg ok _ _).mpr y), if_pos y]; rfl
          · rw [if_neg (fun x => y ((met_neg ok _ _).mp x)), if_neg y]; rfl) 5000 (by omega) ρ ⟨u0, fun i j h1 h2 => u1 i j h1 (by
            rcases h2 with h2 | ⟨h2, h3⟩
            · exact h2
            · omega)⟩
      refine ⟨ρ', ⟨v0, fun i j h1 h2 => v1 i j h1 (by omega)⟩, fun r => ?_⟩
      unfold f_X7_layPlaces_s76
      rw [Option.bind_some, u0 15 (by omega), t1', if_neg (nI_ge hk (by omega))]
      refine v2 r (r ρ' (nI (k + 1))) (fun r2 => ?_)
      show f_X7_layPlaces_s86 r (nI k) r2 ρ' (nI k) = _
      unfold f_X7_layPlaces_s86
      rw [if_pos (nI_le (Nat.le_refl _) (by omega)), show nI k + (1 : Int32) = nI (k + 1) from nI_1 k]
    · obtain ⟨u0, u1⟩ := hI
      refine ⟨ρ, ?_, fun k hk => ?_, by rw [u0 15 (by omega)]; exact t1', by rw [u0 16 (by omega)]; exact t2', by rw [u0 17 (by omega), t0 17 (by omega) (by omega)]; exact hq2, fun i j h1 h2 h3 => ?_⟩
      · unfold f_X7_layPlaces_s76
        rw [Option.bind_some, u0 15 (by omega), t1', if_pos (nI_le (Nat.le_refl _) (by omega))]
      · rw [u0 k (by omega), t0 k (by omega) (by omega)]; exact hq0 k hk
      · by_cases e : i < j
        · exact (u1 i j e h2).1
        · rw [cst_comm ok]
          exact (u1 j i (by omega) h1).2
