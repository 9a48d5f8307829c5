/-! ===== ordered, average ===== -/
theorem ordered_both {σ μ b : Mm} (h : Bk σ b) (hm : Bk μ b) (ok : BookOK b) (ht : TabOK b σ) (h0 : σ 64 0 = 0) (w : Int32) : Both σ μ (Ask σ (f_X6_ordered σ w)) (f_X7_ordered μ w) := by
  have hK := ok.K9
  have hm' : Bk (sc μ 12 0) b := hm.sc (by omega)
  have fin : ∀ {x : Option Int32} {y : Option (Int32 × Mm)} (a : Int32), x = some a → y = some (a, sc μ 12 0) → Both σ μ (Ask σ x) y := fun a hx hy => Both.ask h hm ok ht h0 hx hy (fun _ _ => rfl)
  by_cases z : 0 ≤ w
  · by_cases y : nI (nK b) ≤ w
    · refine fin (-5) ?_ ?_
      · unfold f_X6_ordered; rw [if_pos z, h 10 (by omega), ok.Kn, if_pos y]
      · unfold f_X7_ordered; rw [Option.bind_some, if_pos z, Option.bind_some, hm' 10 (by omega), ok.Kn, if_pos y]
    · rcases pk_ix w (n := nK b) (by omega) with e | e | ⟨j, hj, rfl⟩
      · exact absurd z (by rw [Int32.not_le]; exact e)
      · exact absurd e y
      · refine fin (b 11 j) ?_ ?_
        · unfold f_X6_ordered; rw [if_pos z, h 10 (by omega), ok.Kn, if_neg y, row_at (by omega) (by omega), Option.bind_some, h 11 (by omega)]
        · unfold f_X7_ordered; rw [Option.bind_some, if_pos z, Option.bind_some, hm' 10 (by omega), ok.Kn, if_neg y, ald_nI (by omega) (by omega), Option.bind_some, hm' 11 (by omega)]
  · refine fin (-1) ?_ ?_
    · unfold f_X6_ordered; rw [if_neg z]
    · unfold f_X7_ordered; rw [Option.bind_some, if_neg z]
theorem nz_rem {a d : Nat} (ha : a < 2147483648) (h0 : 0 < d) (hd : d < 2147483648) : nz (nI d) (nI a - nI a / nI d * nI d) = some (nI (a % d)) := by
  unfold nz
  rw [if_neg (nI_ne0 h0 hd), pk_rem ha h0 hd]
theorem nz_div {a d : Nat} (ha : a < 2147483648) (h0 : 0 < d) (hd : d < 2147483648) : nz (nI d) (nI a / nI d) = some (nI (a / d)) := by
  unfold nz
  rw [if_neg (nI_ne0 h0 hd), pk_div ha h0 hd]
theorem m_divL : ∀ F a c : Nat, c < F → a < 2147483648 → c < 2147483648 → wh2 f_X7_divisor_s4 F (nI a) (nI c) = some (nI (Nat.gcd c a))
  | 0, a, c, h, _, _ => absurd h (Nat.not_lt_zero _)
  | F + 1, a, c, h, ha, hc => by
    show f_X7_divisor_s4 (wh2 f_X7_divisor_s4 F) (nI a) (nI c) = _
    unfold f_X7_divisor_s4
    by_cases z : c = 0
    · subst z
      rw [if_pos (show nI 0 = (0 : Int32) from rfl), Nat.gcd_zero_left]
    · have hl : a % c < c := Nat.mod_lt _ (by omega)
      rw [if_neg (nI_ne0 (by omega) hc), nz_rem ha (by omega) hc, Option.bind_some]
      have ih := m_divL F c (a % c) (by omega) hc (by omega)
      rw [Nat.gcd_rec c a]
      exact ih
theorem m_divisor {a c : Nat} (ha : a < 2147483648) (hc : c < 5000) : f_X7_divisor (nI a) (nI c) = some (nI (Nat.gcd c a)) := m_divL 5000 a c hc ha (by omega)
theorem x_divisor {a c : Nat} (ha : a < 2147483648) (h1 : 1 ≤ c) (hc : c < 5000) : f_X6_commonDivisor (nI a) (nI c) = some (nI (Nat.gcd c a)) := by
  have hg : Nat.gcd c a ≤ c := Nat.gcd_le_left a (by omega)
  have hp : 0 < Nat.gcd c a := Nat.gcd_pos_of_pos_left a (by omega)
  unfold f_X6_commonDivisor
  refine wh1_seq (c - Nat.gcd c a) (fun k => nI (c - k)) _ (fun k hk r => ?_) (fun r => ?_) 5000 (by omega)
  · have hd : 0 < c - k := by omega
    have em : nI (c - k) + (-1 : Int32) = nI (c - (k + 1)) := by rw [show c - k = (c - (k + 1)) + 1 by omega, pk_m1]
    unfold f_X6_commonDivisor_s2
    rw [if_neg (show ¬ nI (c - k) ≤ (1 : Int32) from nI_ge (b := c - k) (a := 1) (by omega) (by omega)), nz_rem (by omega) hd (by omega), Option.bind_some, em]
    by_cases z : c % (c - k) = 0
    · rw [if_pos (by rw [z]; rfl), nz_rem ha hd (by omega), Option.bind_some]
      by_cases y : a % (c - k) = 0
      · exfalso
        have hdv := Nat.dvd_gcd (Nat.dvd_of_mod_eq_zero z) (Nat.dvd_of_mod_eq_zero y)
        have := Nat.le_of_dvd hp hdv
        omega
      · rw [if_neg (nI_ne0 (by omega) (Nat.lt_of_le_of_lt (Nat.mod_le _ _) ha))]
    · rw [if_neg (nI_ne0 (by omega) (Nat.lt_of_le_of_lt (Nat.mod_le _ _) (by omega)))]
  · unfold f_X6_commonDivisor_s2
    rw [show c - (c - Nat.gcd c a) = Nat.gcd c a by omega]
    by_cases w : Nat.gcd c a ≤ 1
    · rw [if_pos (show nI (Nat.gcd c a) ≤ (1 : Int32) from nI_le (b := 1) w (by omega)), show Nat.gcd c a = 1 by omega]; rfl
    · rw [if_neg (show ¬ nI (Nat.gcd c a) ≤ (1 : Int32) from nI_ge (b := Nat.gcd c a) (a := 1) (by omega) (by omega)), nz_rem (by omega) hp (by omega), Option.bind_some, if_pos (by rw [Nat.mod_eq_zero_of_dvd (Nat.gcd_dvd_left c a)]; rfl), nz_rem ha hp (by omega), Option.bind_some, if_pos (by rw [Nat.mod_eq_zero_of_dvd (Nat.gcd_dvd_right c a)]; rfl)]
def ratS (b : Mm) (p : Nat) : Nat := sm (plF b p (fun c => gN b 1 (opp b p c))) (nD b)
theorem x_sumRatings {σ b : Mm} (h : Bk σ b) (ok : BookOK b) (ht : TabOK b σ) {p : Nat} (hp : p < nP b) : f_X4_sumRatings σ (nI p) = some (nI (ratS b p)) := by
  have hP := ok.P12
  have e : ratS b p = sm (fun q => if met b p q = -5 then 0 else gN b 1 q) (nP b) := (sum_met ok (x := p) (fun q _ => gN b 1 q) (nD b) (Nat.le_refl _)).symm
  unfold f_X4_sumRatings
  rw [e]
  refine wh2_seq (nP b) (fun k => nI (sm (fun q => if met b p q = -5 then 0 else gN b 1 q) k)) (fun k => nI k) _ (fun k hk r => ?_) (fun r => ?_) 5000 (by omega)
  · unfold f_X4_sumRatings_s4
    obtain ⟨-, -, -, -, -, -, pq⟩ := ht.1 p hp
    rw [h 0 (by omega), ok.P, if_neg (nI_ge hk (by omega)), x_haveMet (by omega) (by omega), Option.bind_some, (pq k hk).1, show nI k + (1 : Int32) = nI (k + 1) from nI_1 k, sm_succ]
    by_cases z : met b p k = -5
    · rw [if_pos z, if_pos rfl, if_pos z]; rfl
    · rw [if_neg z, if_neg n10, if_neg z, row_at (by omega) (by omega), Option.bind_some, h 1 (by omega), (ok.rating hk).1, nI_add]
  · unfold f_X4_sumRatings_s4
    rw [h 0 (by omega), ok.P, if_pos (nI_le (Nat.le_refl _) (by omega))]
theorem average_both {σ μ b : Mm} (h : Bk σ b) (hm : Bk μ b) (ok : BookOK b) (ht : TabOK b σ) (h0 : σ 64 0 = 0) (w v : Int32) : Both σ μ (Ask σ (f_X6_average σ w v)) (f_X7_average μ w v) := by
  have hP := ok.P12
  have hD := ok.D20
  have hm' : Bk (sc μ 12 0) b := hm.sc (by omega)
  have fin : ∀ {x : Option Int32} {y : Option (Int32 × Mm)} (a : Int32), x = some a → y = some (a, sc μ 12 0) → Both σ μ (Ask σ x) y := fun a hx hy => Both.ask h hm ok ht h0 hx hy (fun _ _ => rfl)
  rcases isPl h hm' ok w with ⟨p, hp, rfl, a1, a2⟩ | ⟨a1, a2⟩
  · rcases rng v 1 (1 : Int64) (by decide) (by omega) with ⟨n, hn, rfl, c1⟩ | ⟨c0, c1⟩
    · have hpl : playedN b p ≤ 20 := Nat.le_trans (sum_le ok (m := 1) (fun _ => Nat.le_refl _)) (by omega)
      have hrt : ∀ k, k ≤ nD b → sm (plF b p (fun c => gN b 1 (opp b p c))) k ≤ k * 3000 := fun k hk => sm_le (fun r hr => by
        cases hx : pl b p r with
        | none => rw [plF_none hx]; omega
        | some c =>
          rw [plF_some hx]
          exact (ok.rating (opp_lt ok (by have := ok.DR; omega) (pl_some hx).1).1).2)
      have hS : ratS b p ≤ 60000 := by have := hrt (nD b) (Nat.le_refl _); unfold ratS; omega
      have mloop : ∀ R, f_X7_average_j85 (sc μ 12 0) (nI n) (nI (ratS b p)) (nI (playedN b p)) = R → f_X7_average μ (nI p) (nI n) = R := by
        intro R hR
        unfold f_X7_average
        rw [Option.bind_some, a2, Option.bind_some, if_neg n10, c1, Option.bind_some, if_neg n10, m_playedMany hm' ok hp, Option.bind_some]
        refine wh3_seq (nD b) (fun _ => sc μ 12 0) (fun k => nI (sm (plF b p (fun c => gN b 1 (opp b p c))) k)) (fun k => nI k) _ (fun k hk r => ?_) (fun r => ?_) 5000 (by omega)
        · have hkR : k < nR b := Nat.lt_of_lt_of_le hk ok.DR
          unfold f_X7_average_s37
          rw [m_done hm' ok, Option.bind_some, if_neg (nI_ge hk (by omega)), m_playedIn hm' ok hp hk, Option.bind_some, show nI k + (1 : Int32) = nI (k + 1) from nI_1 k]
          cases hx : pl b p k with
          | none => rw [if_pos (show oI none < 0 by decide), acc_0 (plF_none hx)]
          | some c =>
            obtain ⟨hlt, -⟩ := cellOK ok hkR (pl_some hx).1
            have ho := (opp_lt ok hkR (pl_some hx).1).1
            rw [show oI (some c) = nI c from rfl, if_neg (nI_pos (by omega)), m_otherOn hm' ok hkR hp (pl_some hx).1, Option.bind_some, ald_nI (by omega) (by omega), Option.bind_some, hm' 1 (by omega), (ok.rating ho).1, acc_v (plF_some hx)]
        · unfold f_X7_average_s37
          rw [m_done hm' ok, Option.bind_some, if_pos (nI_le (Nat.le_refl _) (by omega))]
          exact hR
      have hx0 : f_X6_average σ (nI p) (nI n) = if nI (playedN b p) = 0 then some (nI n) else (f_X6_commonDivisor (nI (ratS b p)) (nI (playedN b p))).bind fun x4 => if nI n = 0 then (nz x4 (nI (ratS b p) / x4)).bind fun x6 => some x6 else (nz x4 (nI (playedN b p) / x4)).bind fun x5 => some x5 := by
        unfold f_X6_average
        rw [a1, Option.bind_some, if_neg n10, if_neg (nI_pos (by omega)), if_pos (show nI n ≤ (1 : Int32) from nI_le (b := 1) hn (by omega)), row_at (by omega) (by omega), Option.bind_some, (ht.1 p hp).2.1, x_sumRatings h ok ht hp, Option.bind_some]
      have hc : n = 0 ∨ n = 1 := by omega
      by_cases z : playedN b p = 0
      · have hs0 : ratS b p = 0 := by
          have hz : ∀ k, k < nD b → pl b p k = none := fun k hk => by
            cases hx : pl b p k with
            | none => rfl
            | some c =>
              exfalso
              have := sm_lt (f := fun _ => 0) (g := plF b p (fun _ => 1)) (j := k) (n := nD b) (fun _ _ => Nat.zero_le _) hk (by rw [plF_some hx]; omega)
              have e : sm (plF b p (fun _ => 1)) (nD b) = 0 := z
              omega
          have hcg : sm (plF b p (fun c => gN b 1 (opp b p c))) (nD b) = sm (fun _ => 0) (nD b) := sm_cong (fun k hk => plF_none (hz k hk))
          have h00 : sm (fun _ => 0) (nD b) ≤ nD b * 0 := sm_le (fun _ _ => Nat.le_refl _)
          unfold ratS
          omega
        refine fin (nI n) (by rw [hx0, if_pos (by rw [z]; rfl)]) (mloop _ ?_)
        unfold f_X7_average_j85 f_X7_average_j96
        rw [z, hs0, if_pos (show nI 0 = (0 : Int32) from rfl), show (1 : Int32) = nI 1 from rfl, m_divisor (by omega) (by omega), Option.bind_some, show Nat.gcd 1 0 = 1 from rfl, nz_div (by omega) (by omega) (by omega), nz_div (by omega) (by omega) (by omega)]
        rcases hc with e | e <;> subst e <;> rfl
      · have hg : Nat.gcd (playedN b p) (ratS b p) ≤ playedN b p := Nat.gcd_le_left _ (by omega)
        have hgp : 0 < Nat.gcd (playedN b p) (ratS b p) := Nat.gcd_pos_of_pos_left _ (by omega)
        refine fin (if nI n = 0 then nI (ratS b p / Nat.gcd (playedN b p) (ratS b p)) else nI (playedN b p / Nat.gcd (playedN b p) (ratS b p))) ?_ (mloop _ ?_)
        · rw [hx0, if_neg (nI_ne0 (by omega) (by omega)), x_divisor (by omega) (by omega) (by omega), Option.bind_some, nz_div (by omega) hgp (by omega), nz_div (by omega) hgp (by omega)]
          rcases hc with e | e <;> subst e <;> rfl
        · unfold f_X7_average_j85 f_X7_average_j96
          rw [if_neg (nI_ne0 (by omega) (by omega)), m_divisor (by omega) (by omega), Option.bind_some, nz_div (by omega) hgp (by omega), nz_div (by omega) hgp (by omega)]
          rcases hc with e | e <;> subst e <;> rfl
    · refine fin (-1) ?_ ?_
      · unfold f_X6_average
        rw [a1, Option.bind_some, if_neg n10]
        rcases c0 with c0 | ⟨c2, c3⟩
        · rw [if_pos c0]
        · rw [if_neg c2, if_neg (show ¬ v ≤ (1 : Int32) from fun z => by
            have a := Int32.le_iff_toInt_le.mp z
            have c := big_toInt (n := 1 + 1) (by omega) c3
            have e : (1 : Int32).toInt = 1 := by decide
            rw [e] at a
            omega)]
      · unfold f_X7_average
        rw [Option.bind_some, a2, Option.bind_some, if_neg n10, c1, Option.bind_some, if_pos rfl]
  · refine fin (-1) ?_ ?_
    · unfold f_X6_average; rw [a1, Option.bind_some, if_pos rfl]
    · unfold f_X7_average; rw [Option.bind_some, a2, Option.bind_some, if_pos rfl]
