/-! ===== who is seated: the list of those who are in, by the standing; the bye ===== -/
/-- a list is laid in a row -/
def Laid (f : Nat → Int32) (L : List Nat) : Prop := ∀ i p, L[i]? = some p → f i = nI p
theorem Laid.nil {f : Nat → Int32} : Laid f [] := fun i p h => by simp at h
theorem Laid.push {f g : Nat → Int32} {L : List Nat} {a : Nat} (h : Laid f L) (hg : ∀ i, i ≠ L.length → g i = f i) (ha : g L.length = nI a) : Laid g (L ++ [a]) := by
  intro i p hp
  by_cases hi : i < L.length
  · rw [List.getElem?_append_left hi] at hp
    rw [hg i (by omega)]
    exact h i p hp
  · rw [List.getElem?_append_right (by omega)] at hp
    have hz : i - L.length < 1 := (List.getElem?_eq_some_iff.mp hp).1
    have : i = L.length := by omega
    subst this
    rw [Nat.sub_self] at hp
    cases hp
    exact ha
theorem Laid.cong {f g : Nat → Int32} {L : List Nat} (h : Laid f L) (hg : ∀ i, i < L.length → g i = f i) : Laid g L := fun i p hp => by rw [hg i (List.getElem?_eq_some_iff.mp hp).1]; exact h i p hp
def inB (b : Mm) (p : Nat) : Bool := decide (gN b 2 p = 1)
/-- those who are in, among the first k of the standing -/
def sK (b : Mm) (k : Nat) : List Nat := ((List.range k).map (stN b)).filter (inB b)
theorem sK_succ (b : Mm) (k : Nat) : sK b (k + 1) = sK b k ++ (if inB b (stN b k) then [stN b k] else []) := by
  unfold sK
  rw [List.range_succ, List.map_append, List.filter_append]
  congr 1
  by_cases h : inB b (stN b k) = true
  · simp [h]
  · simp [h]
def sAll (b : Mm) : List Nat := sK b (nP b)
theorem sK_mem {b : Mm} {k p : Nat} (hk : k ≤ nP b) (h : p ∈ sK b k) : p < nP b ∧ inB b p = true := by
  unfold sK at h
  obtain ⟨h1, h2⟩ := List.mem_filter.mp h
  obtain ⟨i, hi, rfl⟩ := List.mem_map.mp h1
  exact ⟨stN_lt (by have := List.mem_range.mp hi; omega), h2⟩
theorem sK_len (b : Mm) (k : Nat) : (sK b k).length ≤ k := by
  unfold sK
  have h1 := List.length_filter_le (inB b) ((List.range k).map (stN b))
  rw [List.length_map, List.length_range] at h1
  exact h1
theorem sK_nodup (b : Mm) : (sAll b).Nodup := by
  unfold sAll sK
  refine List.Pairwise.filter _ ?_
  refine List.pairwise_map.mpr ?_
  refine List.Pairwise.imp_of_mem (R := fun a c => a ≠ c) (fun {a c} ha hc hne e => ?_) List.nodup_range
  exact hne (stN_inj (List.mem_range.mp ha) (List.mem_range.mp hc) e)
/-- may have the bye: had none, nor won by forfeit -/
def noB (b : Mm) (p : Nat) : Bool := decide (byesN b p + forfN b p = 0)
def i5 (o : Option Nat) : Int32 := match o with
  | none => -5
  | some p => nI p
def byeO (b : Mm) : Option Nat := if (sAll b).length % 2 = 0 then none else match ((sAll b).filter (noB b)).getLast? with
  | none => (sAll b).getLast?
  | some p => some p
def seatL (b : Mm) : List Nat := (sAll b).filter (fun p => decide (byeO b ≠ some p))
theorem seatL_none {b : Mm} (h : byeO b = none) : seatL b = sAll b := by
  unfold seatL
  rw [h]
  refine List.filter_eq_self.mpr (fun p _ => by simp)
theorem erase_filter : ∀ (L : List Nat) (j p : Nat), L.Nodup → L[j]? = some p → L.eraseIdx j = L.filter (fun x => decide (some p ≠ some x))
  | [], j, p, _, h => by simp at h
  | a :: t, 0, p, hn, h => by
    simp at h
    subst h
    have h1 := (List.nodup_cons.mp hn).1
    rw [List.eraseIdx_cons_zero, List.filter_cons, if_neg (by simp)]
    refine (List.filter_eq_self.mpr (fun x hx => ?_)).symm
    simp
    exact fun z => h1 (z ▸ hx)
  | a :: t, j + 1, p, hn, h => by
    simp at h
    obtain ⟨h1, h2⟩ := List.nodup_cons.mp hn
    have hp : p ∈ t := List.mem_of_getElem? h
    rw [List.eraseIdx_cons_succ, List.filter_cons, if_pos (by simp; exact fun z => h1 (z ▸ hp)), erase_filter t j p h2 h]
/-- the last place that has a property, read from the end -/
theorem fnd_last (c : Nat → Bool) : ∀ (n : Nat) (L : List Nat), L.length = n → (L.filter c).getLast? = (fnd (fun i => c (L.getD i 0)) n).map (fun i => L.getD i 0)
  | 0, L, h => by
    have : L = [] := List.eq_nil_of_length_eq_zero h
    subst this
    rfl
  | n + 1, L, h => by
    rcases List.eq_nil_or_concat L with hL | ⟨M, a, hL⟩
    · subst hL; simp at h
    · subst hL
      rw [List.concat_eq_append] at *
      have hM : M.length = n := by simp at h; exact h
      have ih := fnd_last c n M hM
      have e1 : (M ++ [a]).getD n 0 = a := by simp [List.getD, hM]
      have e2 : ∀ i, i < n → (M ++ [a]).getD i 0 = M.getD i 0 := fun i hi => by simp [List.getD, List.getElem?_append_left (show i < M.length by omega)]
      have ef : fnd (fun i => c ((M ++ [a]).getD i 0)) n = fnd (fun i => c (M.getD i 0)) n := by
        have : ∀ k, k ≤ n → fnd (fun i => c ((M ++ [a]).getD i 0)) k = fnd (fun i => c (M.getD i 0)) k := by
          intro k
          induction k with
          | zero => intro _; rfl
          | succ k ihk =>
            intro hk
            show (if c ((M ++ [a]).getD k 0) then some k else _) = (if c (M.getD k 0) then some k else _)
            rw [e2 k (by omega), ihk (by omega)]
        exact this n (Nat.le_refl n)
      have es : fnd (fun i => c ((M ++ [a]).getD i 0)) (n + 1) = if c a then some n else fnd (fun i => c (M.getD i 0)) n := by
        show (if c ((M ++ [a]).getD n 0) then some n else _) = _
        rw [e1, ef]
      rw [es, List.filter_append]
      by_cases hc : c a = true
      · rw [if_pos hc]
        simp [hc]
        exact e1.symm
      · rw [if_neg hc]
        simp only [List.filter_cons, if_neg hc, List.filter_nil, List.append_nil]
        rw [ih]
        cases hf : fnd (fun i => c (M.getD i 0)) n with
        | none => rfl
        | some i => simp only [Option.map_some]; rw [e2 i (fnd_some hf).1]
