/-! ===== sets of places, as whole numbers ===== -/
def clr (s i : Nat) : Nat := if s.testBit i then s ^^^ 2 ^ i else s
theorem clr_bit (s i k : Nat) : (clr s i).testBit k = (s.testBit k && decide (k ≠ i)) := by
  unfold clr
  by_cases h : s.testBit i = true
  · rw [if_pos h, Nat.testBit_xor, Nat.testBit_two_pow]
    by_cases e : i = k
    · subst e; simp [h]
    · have e2 : k ≠ i := fun z => e z.symm
      simp [e, e2]
  · rw [if_neg h]
    by_cases e : k = i
    · subst e; simp [h]
    · simp [e]
theorem clr_le (s i : Nat) : clr s i ≤ s := by
  have h : clr s i = s &&& clr s i := by
    refine Nat.eq_of_testBit_eq (fun j => ?_)
    rw [Nat.testBit_and, clr_bit]
    cases s.testBit j <;> simp
  rw [h]
  exact Nat.and_le_left
theorem clr_lt {s i : Nat} (h : s.testBit i = true) : clr s i < s := by
  have h1 := clr_le s i
  have h2 : clr s i ≠ s := fun z => by
    have h3 := clr_bit s i i
    rw [z, h] at h3
    simp at h3
  omega
theorem one_shl : ∀ i, i < 12 → ((1 : Int32) <<< (nI i &&& 31)) = nI (2 ^ i) := by decide +kernel
theorem sh_ix : ∀ i, i < 12 → ((nI i &&& 31).toBitVec.smod 32).toNat = i := by decide +kernel
theorem bit_at {s j : Nat} (hs : s < 4096) (hj : j < 12) : ((nI s >>> (nI j &&& 31)) &&& (1 : Int32)) = nI (s / 2 ^ j % 2) := by
  rw [pk_shrN (by omega) _ j (sh_ix j hj), pk_andN (k := 1) (Nat.lt_of_le_of_lt (Nat.div_le_self _ _) (by omega)) (by decide)]
theorem bit_01 (s j : Nat) : s / 2 ^ j % 2 = if s.testBit j then 1 else 0 := by
  rw [Nat.testBit_eq_decide_div_mod_eq]
  have : s / 2 ^ j % 2 < 2 := Nat.mod_lt _ (by omega)
  by_cases h : s / 2 ^ j % 2 = 1
  · rw [h]; rfl
  · rw [show s / 2 ^ j % 2 = 0 by omega]; rfl
theorem bit_is {s j : Nat} (hs : s < 4096) (hj : j < 12) : ((nI s >>> (nI j &&& 31)) &&& (1 : Int32)) = if s.testBit j then 1 else 0 := by
  rw [bit_at hs hj, bit_01]
  split <;> rfl
theorem tb_nI {s k : Nat} (hk : k < 32) : (nI s).toBitVec.getLsbD k = s.testBit k := by
  show (BitVec.ofNat 32 s).getLsbD k = _
  rw [BitVec.getLsbD_ofNat]
  simp [hk]
theorem and_clr {s i : Nat} (hi : i < 12) : (nI s &&& (((1 : Int32) <<< (nI i &&& 31)) ^^^ (-1 : Int32))) = nI (clr s i) := by
  rw [one_shl i hi]
  refine Int32.toBitVec_inj.mp ?_
  refine BitVec.eq_of_getLsbD_eq (fun k hk => ?_)
  rw [Int32.toBitVec_and, BitVec.getLsbD_and, Int32.toBitVec_xor, BitVec.getLsbD_xor, tb_nI hk, tb_nI hk, tb_nI hk, clr_bit, Nat.testBit_two_pow, show (-1 : Int32).toBitVec = BitVec.allOnes 32 from rfl, BitVec.getLsbD_allOnes]
  by_cases e : i = k
  · subst e; simp [hk]
  · have e2 : k ≠ i := fun z => e z.symm
    simp [e, e2, hk]
def low (s : Nat) : Nat := (fs (fun j => s.testBit j) 12).getD 12
theorem low_spec {s : Nat} (h1 : 1 ≤ s) (hs : s < 4096) : low s < 12 ∧ s.testBit (low s) = true ∧ ∀ j, j < low s → s.testBit j = false := by
  unfold low
  cases h : fs (fun j => s.testBit j) 12 with
  | none =>
    exfalso
    have h0 : s = 0 := by
      refine Nat.eq_of_testBit_eq (fun j => ?_)
      rw [Nat.zero_testBit]
      by_cases hj : j < 12
      · exact (fs_spec _ 12).2 h j hj
      · exact Nat.testBit_lt_two_pow (Nat.lt_of_lt_of_le hs (show 2 ^ 12 ≤ 2 ^ j from Nat.pow_le_pow_right (by omega) (by omega)))
    omega
  | some i => exact (fs_spec _ 12).1 i h
theorem low_ge {s i : Nat} (h1 : 1 ≤ s) (hs : s < 4096) (h : ∀ j, j < i → s.testBit j = false) : i ≤ low s := by
  obtain ⟨a, b, c⟩ := low_spec h1 hs
  refine Classical.byContradiction (fun z => ?_)
  rw [h (low s) (by omega)] at b
  cases b
def rm2 (s i j : Nat) : Nat := clr (clr s i) j
theorem rm2_bit (s i j k : Nat) : (rm2 s i j).testBit k = (s.testBit k && decide (k ≠ i) && decide (k ≠ j)) := by
  unfold rm2; rw [clr_bit, clr_bit]
theorem rm2_lt {s i j : Nat} (h : s.testBit i = true) : rm2 s i j < s := Nat.lt_of_le_of_lt (clr_le _ _) (clr_lt h)
theorem rm2_le (s i j : Nat) : rm2 s i j ≤ s := Nat.le_trans (clr_le _ _) (clr_le _ _)
theorem x_without {s i j : Nat} (hi : i < 12) (hj : j < 12) : f_X1_without (nI s) (nI i) (nI j) = some (nI (rm2 s i j)) := by
  unfold f_X1_without rm2
  rw [and_clr hi, and_clr hj]
theorem m_two {s i j : Nat} (hi : i < 12) (hj : j < 12) : (nI s &&& ((((1 : Int32) <<< (nI i &&& 31)) ^^^ (-1 : Int32)) &&& (((1 : Int32) <<< (nI j &&& 31)) ^^^ (-1 : Int32)))) = nI (rm2 s i j) := by
  unfold rm2
  rw [← Int32.and_assoc, and_clr hi, and_clr hj]
theorem m_leastBit {s : Nat} (h1 : 1 ≤ s) (hs : s < 4096) : f_X7_leastBit (nI s) = some (nI (low s)) := by
  obtain ⟨a, b, c⟩ := low_spec h1 hs
  unfold f_X7_leastBit
  refine wh1_seq (low s) (fun k => nI k) _ (fun k hk r => ?_) (fun r => ?_) 5000 (by omega)
  · unfold f_X7_leastBit_s2
    rw [bit_is hs (by omega), c k hk, if_pos (show (if false = true then (1 : Int32) else 0) = 0 by decide), show nI k + (1 : Int32) = nI (k + 1) from nI_1 k]
  · unfold f_X7_leastBit_s2
    rw [bit_is hs a, b, if_neg (show ¬ (if true = true then (1 : Int32) else 0) = 0 by decide)]
theorem low_tab : ((List.range 4096).all fun s => Nat.beq s 0 || Nat.beq ((nI s &&& -(nI s)) - (1 : Int32)).toBitVec.toNat (2 ^ low s - 1)) = true := by decide +kernel
theorem bc_pow : ∀ i, i < 12 → f_J6_bitCount_0f7a4 (nI (2 ^ i - 1)) = some (nI i) := by decide +kernel
theorem x_firstSeat {s : Nat} (h1 : 1 ≤ s) (hs : s < 4096) : f_X1_firstSeat (nI s) = some (nI (low s)) := by
  obtain ⟨a, -, -⟩ := low_spec h1 hs
  have h := List.all_eq_true.mp low_tab s (List.mem_range.mpr hs)
  have e : ((nI s &&& -(nI s)) - (1 : Int32)) = nI (2 ^ low s - 1) := by
    have h2 : Nat.beq ((nI s &&& -(nI s)) - (1 : Int32)).toBitVec.toNat (2 ^ low s - 1) = true := by
      cases h0 : Nat.beq s 0 with
      | true => exact absurd (Nat.eq_of_beq_eq_true h0) (by omega)
      | false => rw [h0, Bool.false_or] at h; exact h
    have h3 := Nat.eq_of_beq_eq_true h2
    have hp : 2 ^ low s ≤ 2 ^ 12 := Nat.pow_le_pow_right (by omega) (by omega)
    refine Int32.toBitVec_inj.mp (BitVec.eq_of_toNat_eq ?_)
    rw [h3, pk_tn (by omega)]
  unfold f_X1_firstSeat
  rw [e, bc_pow _ a, Option.bind_some]
def bt (s j : Nat) : Nat := if s.testBit j then 1 else 0
def pc (s : Nat) : Nat := sm (bt s) 12
theorem bc_tab : ((List.range 4096).all fun s => decide (f_J6_bitCount_0f7a4 (nI s) = some (nI (pc s)))) = true := by decide +kernel
theorem x_bitCount {s : Nat} (hs : s < 4096) : f_J6_bitCount_0f7a4 (nI s) = some (nI (pc s)) := of_decide_eq_true (List.all_eq_true.mp bc_tab s (List.mem_range.mpr hs))
theorem pc_clr {s i : Nat} (hi : i < 12) (h : s.testBit i = true) : pc s = pc (clr s i) + 1 := by
  have h1 := sm_point (f := bt (clr s i)) (g := bt s) (o := i) (P := 12) hi (fun q _ hq => by unfold bt; rw [clr_bit]; simp [hq]) (by unfold bt; rw [clr_bit]; simp)
  have h2 : bt s i = 1 := by unfold bt; rw [if_pos h]
  unfold pc
  omega
theorem pc_rm2 {s i j : Nat} (hi : i < 12) (hj : j < 12) (hij : i ≠ j) (h : s.testBit i = true) (h2 : s.testBit j = true) : pc s = pc (rm2 s i j) + 2 := by
  have h3 : (clr s i).testBit j = true := by rw [clr_bit, h2]; simp; exact fun z => hij z.symm
  rw [pc_clr hi h, pc_clr hj h3]
  rfl
theorem bit_hi {s n j : Nat} (hs : s < 2 ^ n) (hj : n ≤ j) : s.testBit j = false := Nat.testBit_lt_two_pow (Nat.lt_of_lt_of_le hs (Nat.pow_le_pow_right (by omega) hj))
theorem sm_tail {f : Nat → Nat} {n : Nat} : ∀ m, n ≤ m → (∀ j, n ≤ j → f j = 0) → sm f m = sm f n
  | 0, h, _ => by rw [show n = 0 by omega]
  | m + 1, h, h0 => by
    by_cases e : n = m + 1
    · rw [e]
    · rw [sm_succ, h0 m (by omega), sm_tail m (by omega) h0]; rfl
theorem pc_le {s n : Nat} (hn : n ≤ 12) (hs : s < 2 ^ n) : pc s ≤ n := by
  unfold pc
  rw [sm_tail (n := n) 12 hn (fun j hj => by unfold bt; rw [bit_hi hs hj]; rfl)]
  have := sm_le (f := bt s) (c := 1) (n := n) (fun k _ => by unfold bt; split <;> omega)
  omega
theorem full_bit (n j : Nat) : (2 ^ n - 1).testBit j = decide (j < n) := Nat.testBit_two_pow_sub_one n j
theorem pc_full {n : Nat} (hn : n ≤ 12) : pc (2 ^ n - 1) = n := by
  unfold pc
  rw [sm_tail (n := n) 12 hn (fun j hj => by unfold bt; rw [full_bit, decide_eq_false (by omega)]; rfl), sm_cong (f := bt (2 ^ n - 1)) (g := fun _ => 1) (fun k hk => by unfold bt; rw [full_bit, decide_eq_true hk]; rfl), sm_one]
theorem pc_0 {s : Nat} (hs : s < 4096) (h : pc s = 0) : s = 0 := by
  refine Classical.byContradiction (fun z => ?_)
  obtain ⟨a, b, -⟩ := low_spec (by omega) hs
  have := pc_clr a b
  omega
theorem pw_lt {n : Nat} (hn : n ≤ 12) : 2 ^ n ≤ 4096 := Nat.le_trans (Nat.pow_le_pow_right (by omega) hn) (show 2 ^ 12 ≤ 4096 by decide)
theorem whole_tab : ∀ n, n < 13 → (((1 : Int32) <<< (nI n &&& 31)) - (1 : Int32)) = nI (2 ^ n - 1) := by decide +kernel
theorem whole_tab2 : ∀ n, n < 13 → ((1 : Int32) <<< (nI n &&& 31)) = nI (2 ^ n) := by decide +kernel
theorem x_wholeSet {σ : Mm} {n : Nat} (hn : n ≤ 12) (h : σ 61 = fun _ => nI n) : f_X1_wholeSet σ = some (nI (2 ^ n - 1)) := by
  unfold f_X1_wholeSet
  rw [h, whole_tab n (by omega)]
def Rch (n s : Nat) : Prop := (n - pc s) % 2 = 0 ∧ (n - pc s) / 2 ≤ low s
theorem x_isReached {σ : Mm} {n s : Nat} (hn : n ≤ 12) (h : σ 61 = fun _ => nI n) (h1 : 1 ≤ s) (hs : s < 2 ^ n) : (Rch n s ∧ f_X1_isReached σ (nI s) = some 1) ∨ (¬ Rch n s ∧ f_X1_isReached σ (nI s) = some 0) := by
  have h4 := pw_lt hn
  have hp := pc_le hn hs
  obtain ⟨a, -, -⟩ := low_spec h1 (by omega)
  unfold f_X1_isReached Rch
  rw [x_bitCount (by omega), Option.bind_some, h, pk_sub hp, odd_test (by omega), Option.bind_some]
  by_cases e : (n - pc s) % 2 = 0
  · rw [if_pos (by rw [e]; rfl), x_firstSeat h1 (by omega), Option.bind_some, show nz (2 : Int32) (nI (n - pc s) / (2 : Int32)) = some (nI ((n - pc s) / 2)) by unfold nz; rw [if_neg (by decide), show (2 : Int32) = nI 2 from rfl, pk_div (by omega) (by omega) (by omega)], Option.bind_some]
    by_cases g : low s < (n - pc s) / 2
    · rw [if_pos (nI_lt g (by omega))]
      exact Or.inr ⟨fun z => by omega, rfl⟩
    · rw [if_neg (nI_nlt (by omega) (by omega))]
      exact Or.inl ⟨⟨e, by omega⟩, rfl⟩
  · rw [if_neg (by rw [show (n - pc s) % 2 = 1 by omega]; decide)]
    exact Or.inr ⟨fun z => e z.1, rfl⟩
