def f_X6_isRating (w0 : Int32) : Option Int32 :=
  if w0 < 0 then
    some (0 : Int32)
  else
    if (3000 : Int32) < w0 then
      some (0 : Int32)
    else
      some (1 : Int32)
set_option maxHeartbeats 4000000 in
set_option maxRecDepth 100000 in
theorem c_X6_isRating (l : Launch) (D : va_G) (cI cZ : ClassId) (ww : Mm → va_W) (w0 : Int32) : CTr l D [(cI, FieldType.int), (cZ, FieldType.boolean)] ww yX6_isRating (.code yX6_isRating cX6_isRating 1 (some FieldType.boolean) :: wsL_law) ({ frames := 0, cells := 0, slots := 0, locals := 0 } : Room) [.int w0] (fun σ => f_X6_isRating w0) := by
  refine CTr.of (by decide +kernel) (Nat.le_of_ble_eq_true rfl) ?_
  intro σ r hm p e s m below meth c A ls H locs hx hb hr hlk hml hT hown hK hA B hl
  have hown : s.vm.findClass RX6 = some m.cls := hown
  have hl : lv_has ls 1 [(0, .int w0)] := hl
  have hm : f_X6_isRating w0 = some r := hm
  unfold f_X6_isRating at hm
  refine lv_iload_n hx hb dX6_isRating_0 rfl (lv_at hl 0 rfl) ?_
  refine lv_if_lt (tgt := 15) hx hb dX6_isRating_1 (by decide) (fun q => ?_) (fun q => ?_)
  · have hm := ift hm q
    refine lv_iconst (v := (0 : Int32)) hx hb dX6_isRating_15 (by decide) ?_
    exact x_zretr hx hb hr hlk hK B rfl dX6_isRating_16 hm
  · have hm := iff hm q
    refine lv_iload_n hx hb dX6_isRating_4 rfl (lv_at hl 0 rfl) ?_
    refine lv_sipush (v := (3000 : Int32)) hx hb dX6_isRating_5 (by decide) ?_
    refine lv_icmp_gt (tgt := 15) hx hb dX6_isRating_8 (by decide) (fun q => ?_) (fun q => ?_)
    · have hm := ift hm q
      refine lv_iconst (v := (0 : Int32)) hx hb dX6_isRating_15 (by decide) ?_
      exact x_zretr hx hb hr hlk hK B rfl dX6_isRating_16 hm
    · have hm := iff hm q
      refine lv_iconst (v := (1 : Int32)) hx hb dX6_isRating_11 (by decide) ?_
      refine lv_goto (tgt := 16) hx hb dX6_isRating_12 (by decide) ?_
      exact x_zretr hx hb hr hlk hK B rfl dX6_isRating_16 hm
def f_X2_put (n : Nat) (k : Nat) (σ : Mm) (w1 : Int32) (w2 : Int32) : Option Mm :=
  if w1 < 0 then
    some σ
  else
    if (Int32.ofNat n) ≤ w1 then
      some σ
    else
      (ast n σ k w1 w2).bind fun σ =>
      some σ
set_option maxHeartbeats 4000000 in
set_option maxRecDepth 100000 in
theorem c_X2_put (l : Launch) (D : va_G) (cI cZ : ClassId) {ww : Mm → va_W} {k n q p row arr : Nat} (hV : IsV ww 2 q row 0 (.ref arr)) (hI : IsA ww cI k n p arr) (w1 : Int32) (w2 : Int32) : CTv l D [(cI, FieldType.int), (cZ, FieldType.boolean)] ww yX2_put (.code yX2_put cX2_put 3 (none : Option FieldType) :: wsL_law) ({ frames := 0, cells := 0, slots := 0, locals := 0 } : Room) [.ref row, .int w1, .int w2] (fun σ => f_X2_put n k σ w1 w2) := by
  refine CTv.of (by decide +kernel) (Nat.le_of_ble_eq_true rfl) ?_
  intro σ out hm p e s m below meth c A ls H locs hx hb hr hlk hml hT hown hK hA B hl
  have hown : s.vm.findClass RX2 = some m.cls := hown
  have hl : lv_has ls 3 [(0, .ref row), (1, .int w1), (2, .int w2)] := hl
  have hm : f_X2_put n k σ w1 w2 = some out := hm
  unfold f_X2_put at hm
  refine lv_iload_n hx hb dX2_put_0 rfl (lv_at hl 1 rfl) ?_
  refine lv_if_lt (tgt := 20) hx hb dX2_put_1 (by decide) (fun q => ?_) (fun q => ?_)
  · have hm := ift hm q
    exact x_vret hx hb hr hlk hK B dX2_put_20 hm
  · have hm := iff hm q
    refine lv_iload_n hx hb dX2_put_4 rfl (lv_at hl 1 rfl) ?_
    refine lv_aload_n hx hb dX2_put_5 rfl (lv_at hl 0 rfl) ?_
    refine x_getv (T := TX2) (N := 1) hx hb hT hown hK B hV inlX2 rfl (by decide) q39 rfl dX2_put_6 ?_
    refine x_alen (t0 := 0) (v := (Int32.ofNat n)) hx hb hK B hI rfl rfl dX2_put_9 ?_
    refine lv_icmp_ge (tgt := 20) hx hb dX2_put_10 (by decide) (fun q => ?_) (fun q => ?_)
    · have hm := ift hm q
      exact x_vret hx hb hr hlk hK B dX2_put_20 hm
    · have hm := iff hm q
      refine lv_aload_n hx hb dX2_put_13 rfl (lv_at hl 0 rfl) ?_
      refine x_getv (T := TX2) (N := 1) hx hb hT hown hK B hV inlX2 rfl (by decide) q39 rfl dX2_put_14 ?_
      refine lv_iload_n hx hb dX2_put_17 rfl (lv_at hl 1 rfl) ?_
      refine lv_iload_n hx hb dX2_put_18 rfl (lv_at hl 2 rfl) ?_
      refine x_iast (t0 := 0) hx hb hK B hI rfl dX2_put_19 hm (fun σ H locs B hm => ?_)
      exact x_vret hx hb hr hlk hK B dX2_put_20 hm
def f_X0_enter (σ : Mm) (w1 : Int32) : Option (Int32 × Mm) :=
  (some (σ 0 0)).bind fun x1 =>
  (f_X2_put 12 1 σ x1 w1).bind fun σ =>
  (f_X2_put 12 2 σ x1 (1 : Int32)).bind fun σ =>
  (some (σ 0 0)).bind fun x2 =>
  (some (sc σ 0 (x2 + (1 : Int32)))).bind fun σ =>
  some (x1, σ)
set_option maxHeartbeats 4000000 in
set_option maxRecDepth 100000 in
theorem c_X0_enter (l : Launch) (D : va_G) (cI cZ : ClassId) (a : Nat → Nat) (w1 : Int32) : CTi l D [(cI, FieldType.int), (cZ, FieldType.boolean)] (xW cI a) yX0_enter (.code yX0_enter cX0_enter 3 (some FieldType.int) :: wsL_law) ({ frames := 1, cells := 0, slots := 0, locals := 22 } : Room) [.ref (a 1), .int w1] (fun σ => f_X0_enter σ w1) := by
  refine CTi.of (by decide +kernel) (Nat.le_of_ble_eq_true rfl) ?_
  intro σ out hm p e s m below meth c A ls H locs hx hb hr hlk hml hT hown hK hA B hl
  have hown : s.vm.findClass RX0 = some m.cls := hown
  have hl : lv_has ls 3 [(0, .ref (a 1)), (1, .int w1)] := hl
  have hm : f_X0_enter σ w1 = some out := hm
  unfold f_X0_enter at hm
  refine lv_aload_n hx hb dX0_enter_0 rfl (lv_at hl 0 rfl) ?_
  refine x_getib (T := TX0) (N := 12) hx hb hT hown hK B xI_book_players inlX0 rfl (by decide) q46 rfl dX0_enter_1 hm (fun x1 hm => ?_)
  refine lv_istore_n (lv' := [(2, .int x1), (0, .ref (a 1)), (1, .int w1)]) hx hb dX0_enter_4 rfl hl (by decide) rfl (fun ls hl => ?_)
  refine lv_aload_n hx hb dX0_enter_5 rfl (lv_at hl 1 rfl) ?_
  refine x_getv (T := TX0) (N := 12) hx hb hT hown hK B xV_book_ratings inlX0 rfl (by decide) q50 rfl dX0_enter_6 ?_
  refine lv_iload_n hx hb dX0_enter_9 rfl (lv_at hl 0 rfl) ?_
  refine lv_iload_n hx hb dX0_enter_10 rfl (lv_at hl 2 rfl) ?_
  refine x_callVv (rest := []) hx hb hml hT hown hK hA B hl.1 (c_X2_put l D cI cZ xV_book_ratings_cells xA_book_ratings x1 w1) mi_X2_put mv_X2_put xO_book_ratings rfl q42 ⟨rfl, rfl⟩ ⟨Nat.le_of_ble_eq_true rfl, Nat.le_of_ble_eq_true rfl⟩ rfl rfl (Nat.le_of_ble_eq_true rfl) dX0_enter_11 hm (fun σ H locs B hm => ?_)
  refine lv_aload_n hx hb dX0_enter_14 rfl (lv_at hl 1 rfl) ?_
  refine x_getv (T := TX0) (N := 12) hx hb hT hown hK B xV_book_inside inlX0 rfl (by decide) q53 rfl dX0_enter_15 ?_
  refine lv_iload_n hx hb dX0_enter_18 rfl (lv_at hl 0 rfl) ?_
  refine lv_iconst (v := (1 : Int32)) hx hb dX0_enter_19 (by decide) ?_
  refine x_callVv (rest := []) hx hb hml hT hown hK hA B hl.1 (c_X2_put l D cI cZ xV_book_inside_cells xA_book_inside x1 (1 : Int32)) mi_X2_put mv_X2_put xO_book_inside rfl q42 ⟨rfl, rfl⟩ ⟨Nat.le_of_ble_eq_true rfl, Nat.le_of_ble_eq_true rfl⟩ rfl rfl (Nat.le_of_ble_eq_true rfl) dX0_enter_20 hm (fun σ H locs B hm => ?_)
  refine lv_aload_n hx hb dX0_enter_23 rfl (lv_at hl 1 rfl) ?_
  refine lv_dup hx hb dX0_enter_24 rfl ?_
  refine x_getib (T := TX0) (N := 12) hx hb hT hown hK B xI_book_players inlX0 rfl (by decide) q46 rfl dX0_enter_25 hm (fun x2 hm => ?_)
  refine lv_iconst (v := (1 : Int32)) hx hb dX0_enter_28 (by decide) ?_
  refine lv_iadd hx hb dX0_enter_29 ?_
  refine x_puti (T := TX0) (N := 12) hx hb hT hown hK B xI_book_players inlX0 tyX0_ok nmX0 rfl (by decide) q46 rfl rfl rfl rfl rfl dX0_enter_30 hm (fun σ H locs B hm => ?_)
  refine lv_iload_n hx hb dX0_enter_33 rfl (lv_at hl 0 rfl) ?_
  exact x_iret hx hb hr hlk hK B dX0_enter_34 hm
def f_X2_at (n : Nat) (k : Nat) (σ : Mm) (w1 : Int32) : Option Int32 :=
  if w1 < 0 then
    some (0 : Int32)
  else
    if (Int32.ofNat n) ≤ w1 then
      some (0 : Int32)
    else
      (ald n (σ k) w1).bind fun x1 =>
      some x1
set_option maxHeartbeats 4000000 in
set_option maxRecDepth 100000 in
theorem c_X2_at (l : Launch) (D : va_G) (cI cZ : ClassId) {ww : Mm → va_W} {k n q p row arr : Nat} (hV : IsV ww 2 q row 0 (.ref arr)) (hI : IsA ww cI k n p arr) (w1 : Int32) : CTr l D [(cI, FieldType.int), (cZ, FieldType.boolean)] ww yX2_at (.code yX2_at cX2_at 2 (some FieldType.int) :: wsL_law) ({ frames := 0, cells := 0, slots := 0, locals := 0 } : Room) [.ref row, .int w1] (fun σ => f_X2_at n k σ w1) := by
  refine CTr.of (by decide +kernel) (Nat.le_of_ble_eq_true rfl) ?_
  intro σ r hm p e s m below meth c A ls H locs hx hb hr hlk hml hT hown hK hA B hl
  have hown : s.vm.findClass RX2 = some m.cls := hown
  have hl : lv_has ls 2 [(0, .ref row), (1, .int w1)] := hl
  have hm : f_X2_at n k σ w1 = some r := hm
  unfold f_X2_at at hm
  refine lv_iload_n hx hb dX2_at_0 rfl (lv_at hl 1 rfl) ?_
  refine lv_if_lt (tgt := 22) hx hb dX2_at_1 (by decide) (fun q => ?_) (fun q => ?_)
  · have hm := ift hm q
    refine lv_iconst (v := (0 : Int32)) hx hb dX2_at_22 (by decide) ?_
    exact x_iretr hx hb hr hlk hK B dX2_at_23 hm
  · have hm := iff hm q
    refine lv_iload_n hx hb dX2_at_4 rfl (lv_at hl 1 rfl) ?_
    refine lv_aload_n hx hb dX2_at_5 rfl (lv_at hl 0 rfl) ?_
    refine x_getv (T := TX2) (N := 1) hx hb hT hown hK B hV inlX2 rfl (by decide) q39 rfl dX2_at_6 ?_
    refine x_alen (t0 := 0) (v := (Int32.ofNat n)) hx hb hK B hI rfl rfl dX2_at_9 ?_
    refine lv_icmp_ge (tgt := 22) hx hb dX2_at_10 (by decide) (fun q => ?_) (fun q => ?_)
    · have hm := ift hm q
      refine lv_iconst (v := (0 : Int32)) hx hb dX2_at_22 (by decide) ?_
      exact x_iretr hx hb hr hlk hK B dX2_at_23 hm
    · have hm := iff hm q
      refine lv_aload_n hx hb dX2_at_13 rfl (lv_at hl 0 rfl) ?_
      refine x_getv (T := TX2) (N := 1) hx hb hT hown hK B hV inlX2 rfl (by decide) q39 rfl dX2_at_14 ?_
      refine lv_iload_n hx hb dX2_at_17 rfl (lv_at hl 1 rfl) ?_
      refine x_iald (t0 := 0) hx hb hK B hI rfl dX2_at_18 hm (fun x1 hm => ?_)
      refine lv_goto (tgt := 23) hx hb dX2_at_19 (by decide) ?_
      exact x_iretr hx hb hr hlk hK B dX2_at_23 hm
def f_X4_tieOf (σ : Mm) (w1 : Int32) (w2 : Int32) : Option Int32 :=
  (f_X2_at 108 50 σ ((w1 * (9 : Int32)) + w2)).bind fun x1 =>
  some x1
set_option maxHeartbeats 4000000 in
set_option maxRecDepth 100000 in
theorem c_X4_tieOf (l : Launch) (D : va_G) (cI cZ : ClassId) (a : Nat → Nat) (w1 : Int32) (w2 : Int32) : CTr l D [(cI, FieldType.int), (cZ, FieldType.boolean)] (xW cI a) yX4_tieOf (.code yX4_tieOf cX4_tieOf 3 (some FieldType.int) :: wsL_law) ({ frames := 1, cells := 0, slots := 0, locals := 21 } : Room) [.ref (a 35), .int w1, .int w2] (fun σ => f_X4_tieOf σ w1 w2) := by
  refine CTr.of (by decide +kernel) (Nat.le_of_ble_eq_true rfl) ?_
  intro σ r hm p e s m below meth c A ls H locs hx hb hr hlk hml hT hown hK hA B hl
  have hown : s.vm.findClass RX4 = some m.cls := hown
  have hl : lv_has ls 3 [(0, .ref (a 35)), (1, .int w1), (2, .int w2)] := hl
  have hm : f_X4_tieOf σ w1 w2 = some r := hm
  unfold f_X4_tieOf at hm
  refine lv_aload_n hx hb dX4_tieOf_0 rfl (lv_at hl 0 rfl) ?_
  refine x_getv (T := TX4) (N := 10) hx hb hT hown hK B xV_table_ties inlX4 rfl (by decide) q101 rfl dX4_tieOf_1 ?_
  refine lv_iload_n hx hb dX4_tieOf_4 rfl (lv_at hl 1 rfl) ?_
  refine lv_bipush (v := (9 : Int32)) hx hb dX4_tieOf_5 (by decide) ?_
  refine lv_imul hx hb dX4_tieOf_7 ?_
  refine lv_iload_n hx hb dX4_tieOf_8 rfl (lv_at hl 2 rfl) ?_
  refine lv_iadd hx hb dX4_tieOf_9 ?_
  refine x_callVr (rest := []) hx hb hml hT hown hK hA B hl.1 (c_X2_at l D cI cZ xV_table_ties_cells xA_table_ties ((w1 * (9 : Int32)) + w2)) mi_X2_at mv_X2_at xO_table_ties rfl q226 ⟨rfl, rfl⟩ ⟨Nat.le_of_ble_eq_true rfl, Nat.le_of_ble_eq_true rfl⟩ rfl rfl (Nat.le_of_ble_eq_true rfl) dX4_tieOf_10 hm (fun x1 H locs B hm => ?_)
  exact x_iretr hx hb hr hlk hK B dX4_tieOf_13 hm
def f_X4_firstDifference_s2 (σ : Mm) (v1 : Int32) (v2 : Int32) (r2 : Int32 → Option Int32) (v3 : Int32) : Option Int32 :=
  if (σ 10 0) ≤ v3 then
    some (-5 : Int32)
  else
    (f_X2_at 9 11 σ v3).bind fun x1 =>
    (f_X4_tieOf σ v1 x1).bind fun x2 =>
    (f_X4_tieOf σ v2 x1).bind fun x3 =>
    if x2 = x3 then
      r2 (v3 + (1 : Int32))
    else
      some x1
def f_X4_firstDifference (σ : Mm) (w1 : Int32) (w2 : Int32) : Option Int32 :=
  wh1 (f_X4_firstDifference_s2 σ w1 w2) 5000 (0 : Int32)
set_option maxHeartbeats 4000000 in
set_option maxRecDepth 100000 in
theorem c_X4_firstDifference (l : Launch) (D : va_G) (cI cZ : ClassId) (a : Nat → Nat) (w1 : Int32) (w2 : Int32) : CTr l D [(cI, FieldType.int), (cZ, FieldType.boolean)] (xW cI a) yX4_firstDifference (.code yX4_firstDifference cX4_firstDifference 5 (some FieldType.int) :: wsL_law) ({ frames := 2, cells := 0, slots := 0, locals := 43 } : Room) [.ref (a 35), .int w1, .int w2] (fun σ => f_X4_firstDifference σ w1 w2) := by
  refine CTr.of (by decide +kernel) (Nat.le_of_ble_eq_true rfl) ?_
  intro σ r hm p e s m below meth c A ls H locs hx hb hr hlk hml hT hown hK hA B hl
  have hown : s.vm.findClass RX4 = some m.cls := hown
  have hl : lv_has ls 5 [(0, .ref (a 35)), (1, .int w1), (2, .int w2)] := hl
  have hm : f_X4_firstDifference σ w1 w2 = some r := hm
  unfold f_X4_firstDifference at hm
  have L2 : ∀ (v1 : Int32) (v2 : Int32) (nn : Nat) (v3 : Int32), wh1 (f_X4_firstDifference_s2 σ v1 v2) nn v3 = some r → ∀ (H : Heap) (locs : List Loc) (ls : Array Slot), BD D A s.heap ((xW cI a) σ) H locs → lv_has ls 5 [(0, .ref (a 35)), (1, .int v1), (2, .int v2), (3, .int v3)] → W p l e ({ frames := 2, cells := 0, slots := 0, locals := 43 } : Room) s m ([.ref (a 35), .int w1, .int w2] : List Value).toArray below meth c H locs 0 0 (MQ below (QI D [(cI, FieldType.int), (cZ, FieldType.boolean)] (xW cI a) A (r, σ)) ([.ref (a 35), .int w1, .int w2] : List Value).toArray s 0 0 A) (F0 m 2 ls []) := by
    intro v1 v2
    refine loop1 (fun r2 ih2 v3 hm H locs ls B hl => ?_)
    unfold f_X4_firstDifference_s2 at hm
    refine lv_iload_n hx hb dX4_firstDifference_2 rfl (lv_at hl 3 rfl) ?_
    refine lv_aload_n hx hb dX4_firstDifference_3 rfl (lv_at hl 0 rfl) ?_
    refine x_getv (T := TX4) (N := 10) hx hb hT hown hK B xV_table_book inlX4 rfl (by decide) q100 rfl dX4_firstDifference_4 ?_
    refine x_getiN (T := TX0) (N := 12) hx hb hT hown hK B xI_book_breaks inlX0 rfl (by decide) q75 rfl dX4_firstDifference_7 ?_
    refine lv_icmp_ge (tgt := 52) hx hb dX4_firstDifference_10 (by decide) (fun q => ?_) (fun q => ?_)
    · have hm := ift hm q
      refine lv_bipush (v := (-5 : Int32)) hx hb dX4_firstDifference_52 (by decide) ?_
      exact x_iretr hx hb hr hlk hK B dX4_firstDifference_54 hm
    · have hm := iff hm q
      refine lv_aload_n hx hb dX4_firstDifference_13 rfl (lv_at hl 0 rfl) ?_
      refine x_getv (T := TX4) (N := 10) hx hb hT hown hK B xV_table_book inlX4 rfl (by decide) q100 rfl dX4_firstDifference_14 ?_
      refine x_getvN (T := TX0) (N := 12) hx hb hT hown hK B xV_book_breakOrder inlX0 rfl (by decide) q78 rfl dX4_firstDifference_17 ?_
      refine lv_iload_n hx hb dX4_firstDifference_20 rfl (lv_at hl 3 rfl) ?_
      refine x_callVr (rest := []) hx hb hml hT hown hK hA B hl.1 (c_X2_at l D cI cZ xV_book_breakOrder_cells xA_book_breakOrder v3) mi_X2_at mv_X2_at xO_book_breakOrder rfl q226 ⟨rfl, rfl⟩ ⟨Nat.le_of_ble_eq_true rfl, Nat.le_of_ble_eq_true rfl⟩ rfl rfl (Nat.le_of_ble_eq_true rfl) dX4_firstDifference_21 hm (fun x1 H locs B hm => ?_)
      refine lv_istore (lv' := [(4, .int x1), (0, .ref (a 35)), (1, .int v1), (2, .int v2), (3, .int v3)]) hx hb dX4_firstDifference_24 hl (by decide) rfl (fun ls hl => ?_)
      refine lv_aload_n hx hb dX4_firstDifference_26 rfl (lv_at hl 1 rfl) ?_
      refine lv_iload_n hx hb dX4_firstDifference_27 rfl (lv_at hl 2 rfl) ?_
      refine lv_iload hx hb dX4_firstDifference_28 (lv_at hl 0 rfl) ?_
      refine x_callVr (rest := []) hx hb hml hT hown hK hA B hl.1 (c_X4_tieOf l D cI cZ a v1 x1) mi_X4_tieOf mv_X4_tieOf xO_table rfl q274 ⟨rfl, rfl⟩ ⟨Nat.le_of_ble_eq_true rfl, Nat.le_of_ble_eq_true rfl⟩ rfl rfl (Nat.le_of_ble_eq_true rfl) dX4_firstDifference_30 hm (fun x2 H locs B hm => ?_)
      refine lv_aload_n hx hb dX4_firstDifference_33 rfl (lv_at hl 1 rfl) ?_
      refine lv_iload_n hx hb dX4_firstDifference_34 rfl (lv_at hl 3 rfl) ?_
      refine lv_iload hx hb dX4_firstDifference_35 (lv_at hl 0 rfl) ?_
      refine x_callVr (rest := [.int x2]) hx hb hml hT hown hK hA B hl.1 (c_X4_tieOf l D cI cZ a v2 x1) mi_X4_tieOf mv_X4_tieOf xO_table rfl q274 ⟨rfl, rfl⟩ ⟨Nat.le_of_ble_eq_true rfl, Nat.le_of_ble_eq_true rfl⟩ rfl rfl (Nat.le_of_ble_eq_true rfl) dX4_firstDifference_37 hm (fun x3 H locs B hm => ?_)
      refine lv_icmp_eq (tgt := 46) hx hb dX4_firstDifference_40 (by decide) (fun q => ?_) (fun q => ?_)
      · have hm := ift hm q
        refine lv_iinc (v := (v3 + (1 : Int32))) (lv' := [(3, .int (v3 + (1 : Int32))), (4, .int x1), (0, .ref (a 35)), (1, .int v1), (2, .int v2)]) hx hb dX4_firstDifference_46 hl (k := 4) rfl rfl (by decide) rfl (fun ls hl => ?_)
        refine lv_goto (tgt := 2) hx hb dX4_firstDifference_49 (by decide) ?_
        exact ih2 (v3 + (1 : Int32)) hm H locs ls B (lv_sub hl [2, 3, 4, 0] rfl)
      · have hm := iff hm q
        refine lv_iload hx hb dX4_firstDifference_43 (lv_at hl 0 rfl) ?_
        exact x_iretr hx hb hr hlk hK B dX4_firstDifference_45 hm
  refine lv_iconst (v := (0 : Int32)) hx hb dX4_firstDifference_0 (by decide) ?_
  refine lv_istore_n (lv' := [(3, .int (0 : Int32)), (0, .ref (a 35)), (1, .int w1), (2, .int w2)]) hx hb dX4_firstDifference_1 rfl hl (by decide) rfl (fun ls hl => ?_)
  exact L2 w1 w2 5000 (0 : Int32) hm H locs ls B (lv_sub hl [1, 2, 3, 0] rfl)
def f_X4_isAhead (σ : Mm) (w1 : Int32) (w2 : Int32) : Option Int32 :=
  (f_X4_firstDifference σ w1 w2).bind fun x1 =>
  if x1 = (-5 : Int32) then
    if w2 ≤ w1 then
      some (0 : Int32)
    else
      some (1 : Int32)
  else
    (f_X4_tieOf σ w1 x1).bind fun x2 =>
    (f_X4_tieOf σ w2 x1).bind fun x3 =>
    if x2 ≤ x3 then
      some (0 : Int32)
    else
      some (1 : Int32)
set_option maxHeartbeats 4000000 in
set_option maxRecDepth 100000 in
theorem c_X4_isAhead (l : Launch) (D : va_G) (cI cZ : ClassId) (a : Nat → Nat) (w1 : Int32) (w2 : Int32) : CTr l D [(cI, FieldType.int), (cZ, FieldType.boolean)] (xW cI a) yX4_isAhead (.code yX4_isAhead cX4_isAhead 4 (some FieldType.boolean) :: wsL_law) ({ frames := 3, cells := 0, slots := 0, locals := 67 } : Room) [.ref (a 35), .int w1, .int w2] (fun σ => f_X4_isAhead σ w1 w2) := by
  refine CTr.of (by decide +kernel) (Nat.le_of_ble_eq_true rfl) ?_
  intro σ r hm p e s m below meth c A ls H locs hx hb hr hlk hml hT hown hK hA B hl
  have hown : s.vm.findClass RX4 = some m.cls := hown
  have hl : lv_has ls 4 [(0, .ref (a 35)), (1, .int w1), (2, .int w2)] := hl
  have hm : f_X4_isAhead σ w1 w2 = some r := hm
  unfold f_X4_isAhead at hm
  refine lv_aload_n hx hb dX4_isAhead_0 rfl (lv_at hl 0 rfl) ?_
  refine lv_iload_n hx hb dX4_isAhead_1 rfl (lv_at hl 1 rfl) ?_
  refine lv_iload_n hx hb dX4_isAhead_2 rfl (lv_at hl 2 rfl) ?_
  refine x_callVr (rest := []) hx hb hml hT hown hK hA B hl.1 (c_X4_firstDifference l D cI cZ a w1 w2) mi_X4_firstDifference mv_X4_firstDifference xO_table rfl q303 ⟨rfl, rfl⟩ ⟨Nat.le_of_ble_eq_true rfl, Nat.le_of_ble_eq_true rfl⟩ rfl rfl (Nat.le_of_ble_eq_true rfl) dX4_isAhead_3 hm (fun x1 H locs B hm => ?_)
  refine lv_istore_n (lv' := [(3, .int x1), (0, .ref (a 35)), (1, .int w1), (2, .int w2)]) hx hb dX4_isAhead_6 rfl hl (by decide) rfl (fun ls hl => ?_)
  refine lv_iload_n hx hb dX4_isAhead_7 rfl (lv_at hl 0 rfl) ?_
  refine lv_bipush (v := (-5 : Int32)) hx hb dX4_isAhead_8 (by decide) ?_
  refine lv_icmp_ne (tgt := 26) hx hb dX4_isAhead_10 (by decide) (fun q => ?_) (fun q => ?_)
  · have hm := iff hm q
    refine lv_aload_n hx hb dX4_isAhead_26 rfl (lv_at hl 1 rfl) ?_
    refine lv_iload_n hx hb dX4_isAhead_27 rfl (lv_at hl 2 rfl) ?_
    refine lv_iload_n hx hb dX4_isAhead_28 rfl (lv_at hl 0 rfl) ?_
    refine x_callVr (rest := []) hx hb hml hT hown hK hA B hl.1 (c_X4_tieOf l D cI cZ a w1 x1) mi_X4_tieOf mv_X4_tieOf xO_table rfl q274 ⟨rfl, rfl⟩ ⟨Nat.le_of_ble_eq_true rfl, Nat.le_of_ble_eq_true rfl⟩ rfl rfl (Nat.le_of_ble_eq_true rfl) dX4_isAhead_29 hm (fun x2 H locs B hm => ?_)
    refine lv_aload_n hx hb dX4_isAhead_32 rfl (lv_at hl 1 rfl) ?_
    refine lv_iload_n hx hb dX4_isAhead_33 rfl (lv_at hl 3 rfl) ?_
    refine lv_iload_n hx hb dX4_isAhead_34 rfl (lv_at hl 0 rfl) ?_
    refine x_callVr (rest := [.int x2]) hx hb hml hT hown hK hA B hl.1 (c_X4_tieOf l D cI cZ a w2 x1) mi_X4_tieOf mv_X4_tieOf xO_table rfl q274 ⟨rfl, rfl⟩ ⟨Nat.le_of_ble_eq_true rfl, Nat.le_of_ble_eq_true rfl⟩ rfl rfl (Nat.le_of_ble_eq_true rfl) dX4_isAhead_35 hm (fun x3 H locs B hm => ?_)
    refine lv_icmp_le (tgt := 45) hx hb dX4_isAhead_38 (by decide) (fun q => ?_) (fun q => ?_)
    · have hm := ift hm q
      refine lv_iconst (v := (0 : Int32)) hx hb dX4_isAhead_45 (by decide) ?_
      exact x_zretr hx hb hr hlk hK B rfl dX4_isAhead_46 hm
    · have hm := iff hm q
      refine lv_iconst (v := (1 : Int32)) hx hb dX4_isAhead_41 (by decide) ?_
      refine lv_goto (tgt := 46) hx hb dX4_isAhead_42 (by decide) ?_
      exact x_zretr hx hb hr hlk hK B rfl dX4_isAhead_46 hm
  · have hm := ift hm q
    refine lv_iload_n hx hb dX4_isAhead_13 rfl (lv_at hl 2 rfl) ?_
    refine lv_iload_n hx hb dX4_isAhead_14 rfl (lv_at hl 3 rfl) ?_
    refine lv_icmp_ge (tgt := 22) hx hb dX4_isAhead_15 (by decide) (fun q => ?_) (fun q => ?_)
    · have hm := ift hm q
      refine lv_iconst (v := (0 : Int32)) hx hb dX4_isAhead_22 (by decide) ?_
      refine lv_goto (tgt := 46) hx hb dX4_isAhead_23 (by decide) ?_
      exact x_zretr hx hb hr hlk hK B rfl dX4_isAhead_46 hm
    · have hm := iff hm q
      refine lv_iconst (v := (1 : Int32)) hx hb dX4_isAhead_18 (by decide) ?_
      refine lv_goto (tgt := 46) hx hb dX4_isAhead_19 (by decide) ?_
      exact x_zretr hx hb hr hlk hK B rfl dX4_isAhead_46 hm
def f_X4_stand_j61 (r2 : Mm → Int32 → Option Mm) (σ : Mm) (v1 v2 : Int32) : Option Mm :=
  (f_X2_put 12 58 σ v2 v1).bind fun σ =>
  r2 σ (v1 + (1 : Int32))
def f_X4_stand_s15 (r2 : Mm → Int32 → Option Mm) (v1 : Int32) (r15 : Mm → Int32 → Option Mm) (σ : Mm) (v2 : Int32) : Option Mm :=
  if v2 ≤ 0 then
    f_X4_stand_j61 r2 σ v1 v2
  else
    (f_X2_at 12 58 σ (v2 - (1 : Int32))).bind fun x1 =>
    (f_X4_isAhead σ v1 x1).bind fun x2 =>
    if x2 = 0 then
      f_X4_stand_j61 r2 σ v1 v2
    else
      (f_X2_at 12 58 σ (v2 - (1 : Int32))).bind fun x3 =>
      (f_X2_put 12 58 σ v2 x3).bind fun σ =>
      r15 σ (v2 + (-1 : Int32))
def f_X4_stand_s2 (r2 : Mm → Int32 → Option Mm) (σ : Mm) (v1 : Int32) : Option Mm :=
  (some (σ 0 0)).bind fun x4 =>
  if x4 ≤ v1 then
    some σ
  else
    wh2 (f_X4_stand_s15 r2 v1) 5000 σ v1
def f_X4_stand (σ : Mm) : Option Mm :=
  wh2 (f_X4_stand_s2) 5000 σ (0 : Int32)
set_option maxHeartbeats 4000000 in
set_option maxRecDepth 100000 in
theorem c_X4_stand (l : Launch) (D : va_G) (cI cZ : ClassId) (a : Nat → Nat) : CTv l D [(cI, FieldType.int), (cZ, FieldType.boolean)] (xW cI a) yX4_stand (.code yX4_stand cX4_stand 3 (none : Option FieldType) :: wsL_law) ({ frames := 4, cells := 0, slots := 0, locals := 90 } : Room) [.ref (a 35)] (fun σ => f_X4_stand σ) := by
  refine CTv.of (by decide +kernel) (Nat.le_of_ble_eq_true rfl) ?_
  intro σ out hm p e s m below meth c A ls H locs hx hb hr hlk hml hT hown hK hA B hl
  have hown : s.vm.findClass RX4 = some m.cls := hown
  have hl : lv_has ls 3 [(0, .ref (a 35))] := hl
  have hm : f_X4_stand σ = some out := hm
  unfold f_X4_stand at hm
  have L2 : ∀ (nn : Nat) (σ : Mm) (v1 : Int32), wh2 f_X4_stand_s2 nn σ v1 = some out → ∀ (H : Heap) (locs : List Loc) (ls : Array Slot), BD D A s.heap ((xW cI a) σ) H locs → lv_has ls 3 [(0, .ref (a 35)), (1, .int v1)] → W p l e ({ frames := 4, cells := 0, slots := 0, locals := 90 } : Room) s m ([.ref (a 35)] : List Value).toArray below meth c H locs 0 0 (MQ below (QV D [(cI, FieldType.int), (cZ, FieldType.boolean)] (xW cI a) A out) ([.ref (a 35)] : List Value).toArray s 0 0 A) (F0 m 2 ls []) := by
    refine loop2 (fun r2 ih2 σ v1 hm H locs ls B hl => ?_)
    unfold f_X4_stand_s2 at hm
    have j61 : ∀ (σ : Mm) (v1 : Int32) (v2 : Int32) (H : Heap) (locs : List Loc) (ls : Array Slot), BD D A s.heap ((xW cI a) σ) H locs → lv_has ls 3 [(0, .ref (a 35)), (1, .int v1), (2, .int v2)] → f_X4_stand_j61 r2 σ v1 v2 = some out → W p l e ({ frames := 4, cells := 0, slots := 0, locals := 90 } : Room) s m ([.ref (a 35)] : List Value).toArray below meth c H locs 0 0 (MQ below (QV D [(cI, FieldType.int), (cZ, FieldType.boolean)] (xW cI a) A out) ([.ref (a 35)] : List Value).toArray s 0 0 A) (F0 m 61 ls []) := by
      intro σ v1 v2 H locs ls B hl hm
      unfold f_X4_stand_j61 at hm
      refine lv_aload_n hx hb dX4_stand_61 rfl (lv_at hl 0 rfl) ?_
      refine x_getv (T := TX4) (N := 10) hx hb hT hown hK B xV_table_standing inlX4 rfl (by decide) q118 rfl dX4_stand_62 ?_
      refine lv_iload_n hx hb dX4_stand_65 rfl (lv_at hl 2 rfl) ?_
      refine lv_iload_n hx hb dX4_stand_66 rfl (lv_at hl 1 rfl) ?_
      refine x_callVv (rest := []) hx hb hml hT hown hK hA B hl.1 (c_X2_put l D cI cZ xV_table_standing_cells xA_table_standing v2 v1) mi_X2_put mv_X2_put xO_table_standing rfl q273 ⟨rfl, rfl⟩ ⟨Nat.le_of_ble_eq_true rfl, Nat.le_of_ble_eq_true rfl⟩ rfl rfl (Nat.le_of_ble_eq_true rfl) dX4_stand_67 hm (fun σ H locs B hm => ?_)
      refine lv_iinc (v := (v1 + (1 : Int32))) (lv' := [(1, .int (v1 + (1 : Int32))), (0, .ref (a 35)), (2, .int v2)]) hx hb dX4_stand_70 hl (k := 1) rfl rfl (by decide) rfl (fun ls hl => ?_)
      refine lv_goto (tgt := 2) hx hb dX4_stand_73 (by decide) ?_
      exact ih2 σ (v1 + (1 : Int32)) hm H locs ls B (lv_sub hl [1, 0] rfl)
    have L15 : ∀ (v1 : Int32) (nn : Nat) (σ : Mm) (v2 : Int32), wh2 (f_X4_stand_s15 r2 v1) nn σ v2 = some out → ∀ (H : Heap) (locs : List Loc) (ls : Array Slot), BD D A s.heap ((xW cI a) σ) H locs → lv_has ls 3 [(0, .ref (a 35)), (1, .int v1), (2, .int v2)] → W p l e ({ frames := 4, cells := 0, slots := 0, locals := 90 } : Room) s m ([.ref (a 35)] : List Value).toArray below meth c H locs 0 0 (MQ below (QV D [(cI, FieldType.int), (cZ, FieldType.boolean)] (xW cI a) A out) ([.ref (a 35)] : List Value).toArray s 0 0 A) (F0 m 15 ls []) := by
      intro v1
      refine loop2 (fun r15 ih15 σ v2 hm H locs ls B hl => ?_)
      unfold f_X4_stand_s15 at hm
      refine lv_iload_n hx hb dX4_stand_15 rfl (lv_at hl 2 rfl) ?_
      refine lv_if_le (tgt := 61) hx hb dX4_stand_16 (by decide) (fun q => ?_) (fun q => ?_)
      · have hm := ift hm q
        exact j61 σ v1 v2 H locs ls B (lv_sub hl [0, 1, 2] rfl) hm
      · have hm := iff hm q
        refine lv_aload_n hx hb dX4_stand_19 rfl (lv_at hl 0 rfl) ?_
        refine lv_iload_n hx hb dX4_stand_20 rfl (lv_at hl 1 rfl) ?_
        refine lv_aload_n hx hb dX4_stand_21 rfl (lv_at hl 0 rfl) ?_
        refine x_getv (T := TX4) (N := 10) hx hb hT hown hK B xV_table_standing inlX4 rfl (by decide) q118 rfl dX4_stand_22 ?_
        refine lv_iload_n hx hb dX4_stand_25 rfl (lv_at hl 2 rfl) ?_
        refine lv_iconst (v := (1 : Int32)) hx hb dX4_stand_26 (by decide) ?_
        refine lv_isub hx hb dX4_stand_27 ?_
        refine x_callVr (rest := [.int v1, .ref (a 35)]) hx hb hml hT hown hK hA B hl.1 (c_X2_at l D cI cZ xV_table_standing_cells xA_table_standing (v2 - (1 : Int32))) mi_X2_at mv_X2_at xO_table_standing rfl q226 ⟨rfl, rfl⟩ ⟨Nat.le_of_ble_eq_true rfl, Nat.le_of_ble_eq_true rfl⟩ rfl rfl (Nat.le_of_ble_eq_true rfl) dX4_stand_28 hm (fun x1 H locs B hm => ?_)
        refine x_callVr (rest := []) hx hb hml hT hown hK hA B hl.1 (c_X4_isAhead l D cI cZ a v1 x1) mi_X4_isAhead mv_X4_isAhead xO_table rfl q300 ⟨rfl, rfl⟩ ⟨Nat.le_of_ble_eq_true rfl, Nat.le_of_ble_eq_true rfl⟩ rfl rfl (Nat.le_of_ble_eq_true rfl) dX4_stand_31 hm (fun x2 H locs B hm => ?_)
        refine lv_if_eq (tgt := 61) hx hb dX4_stand_34 (by decide) (fun q => ?_) (fun q => ?_)
        · have hm := ift hm q
          exact j61 σ v1 v2 H locs ls B (lv_sub hl [0, 1, 2] rfl) hm
        · have hm := iff hm q
          refine lv_aload_n hx hb dX4_stand_37 rfl (lv_at hl 0 rfl) ?_
          refine x_getv (T := TX4) (N := 10) hx hb hT hown hK B xV_table_standing inlX4 rfl (by decide) q118 rfl dX4_stand_38 ?_
          refine lv_iload_n hx hb dX4_stand_41 rfl (lv_at hl 2 rfl) ?_
          refine lv_aload_n hx hb dX4_stand_42 rfl (lv_at hl 0 rfl) ?_
          refine x_getv (T := TX4) (N := 10) hx hb hT hown hK B xV_table_standing inlX4 rfl (by decide) q118 rfl dX4_stand_43 ?_
          refine lv_iload_n hx hb dX4_stand_46 rfl (lv_at hl 2 rfl) ?_
          refine lv_iconst (v := (1 : Int32)) hx hb dX4_stand_47 (by decide) ?_
          refine lv_isub hx hb dX4_stand_48 ?_
          refine x_callVr (rest := [.int v2, .ref (a 52)]) hx hb hml hT hown hK hA B hl.1 (c_X2_at l D cI cZ xV_table_standing_cells xA_table_standing (v2 - (1 : Int32))) mi_X2_at mv_X2_at xO_table_standing rfl q226 ⟨rfl, rfl⟩ ⟨Nat.le_of_ble_eq_true rfl, Nat.le_of_ble_eq_true rfl⟩ rfl rfl (Nat.le_of_ble_eq_true rfl) dX4_stand_49 hm (fun x3 H locs B hm => ?_)
          refine x_callVv (rest := []) hx hb hml hT hown hK hA B hl.1 (c_X2_put l D cI cZ xV_table_standing_cells xA_table_standing v2 x3) mi_X2_put mv_X2_put xO_table_standing rfl q273 ⟨rfl, rfl⟩ ⟨Nat.le_of_ble_eq_true rfl, Nat.le_of_ble_eq_true rfl⟩ rfl rfl (Nat.le_of_ble_eq_true rfl) dX4_stand_52 hm (fun σ H locs B hm => ?_)
          refine lv_iinc (v := (v2 + (-1 : Int32))) (lv' := [(2, .int (v2 + (-1 : Int32))), (0, .ref (a 35)), (1, .int v1)]) hx hb dX4_stand_55 hl (k := 2) rfl rfl (by decide) rfl (fun ls hl => ?_)
          refine lv_goto (tgt := 15) hx hb dX4_stand_58 (by decide) ?_
          exact ih15 σ (v2 + (-1 : Int32)) hm H locs ls B (lv_sub hl [1, 2, 0] rfl)
    refine lv_iload_n hx hb dX4_stand_2 rfl (lv_at hl 1 rfl) ?_
    refine lv_aload_n hx hb dX4_stand_3 rfl (lv_at hl 0 rfl) ?_
    refine x_getv (T := TX4) (N := 10) hx hb hT hown hK B xV_table_book inlX4 rfl (by decide) q100 rfl dX4_stand_4 ?_
    refine x_getibN (T := TX0) (N := 12) hx hb hT hown hK B xI_book_players inlX0 rfl (by decide) q48 rfl dX4_stand_7 hm (fun x4 hm => ?_)
    refine lv_icmp_ge (tgt := 76) hx hb dX4_stand_10 (by decide) (fun q => ?_) (fun q => ?_)
    · have hm := ift hm q
      exact x_vret hx hb hr hlk hK B dX4_stand_76 hm
    · have hm := iff hm q
      refine lv_iload_n hx hb dX4_stand_13 rfl (lv_at hl 1 rfl) ?_
      refine lv_istore_n (lv' := [(2, .int v1), (0, .ref (a 35)), (1, .int v1)]) hx hb dX4_stand_14 rfl hl (by decide) rfl (fun ls hl => ?_)
      exact L15 v1 5000 σ v1 hm H locs ls B (lv_sub hl [1, 2, 0] rfl)
  refine lv_iconst (v := (0 : Int32)) hx hb dX4_stand_0 (by decide) ?_
  refine lv_istore_n (lv' := [(1, .int (0 : Int32)), (0, .ref (a 35))]) hx hb dX4_stand_1 rfl hl (by decide) rfl (fun ls hl => ?_)
  exact L2 5000 σ (0 : Int32) hm H locs ls B (lv_sub hl [1, 0] rfl)
def f_X2_add (n : Nat) (k : Nat) (σ : Mm) (w1 : Int32) (w2 : Int32) : Option Mm :=
  if w1 < 0 then
    some σ
  else
    if (Int32.ofNat n) ≤ w1 then
      some σ
    else
      (ald n (σ k) w1).bind fun x1 =>
      (ast n σ k w1 (x1 + w2)).bind fun σ =>
      some σ
set_option maxHeartbeats 4000000 in
set_option maxRecDepth 100000 in
theorem c_X2_add (l : Launch) (D : va_G) (cI cZ : ClassId) {ww : Mm → va_W} {k n q p row arr : Nat} (hV : IsV ww 2 q row 0 (.ref arr)) (hI : IsA ww cI k n p arr) (w1 : Int32) (w2 : Int32) : CTv l D [(cI, FieldType.int), (cZ, FieldType.boolean)] ww yX2_add (.code yX2_add cX2_add 3 (none : Option FieldType) :: wsL_law) ({ frames := 0, cells := 0, slots := 0, locals := 0 } : Room) [.ref row, .int w1, .int w2] (fun σ => f_X2_add n k σ w1 w2) := by
  refine CTv.of (by decide +kernel) (Nat.le_of_ble_eq_true rfl) ?_
  intro σ out hm p e s m below meth c A ls H locs hx hb hr hlk hml hT hown hK hA B hl
  have hown : s.vm.findClass RX2 = some m.cls := hown
  have hl : lv_has ls 3 [(0, .ref row), (1, .int w1), (2, .int w2)] := hl
  have hm : f_X2_add n k σ w1 w2 = some out := hm
  unfold f_X2_add at hm
  refine lv_iload_n hx hb dX2_add_0 rfl (lv_at hl 1 rfl) ?_
  refine lv_if_lt (tgt := 23) hx hb dX2_add_1 (by decide) (fun q => ?_) (fun q => ?_)
  · have hm := ift hm q
    exact x_vret hx hb hr hlk hK B dX2_add_23 hm
  · have hm := iff hm q
    refine lv_iload_n hx hb dX2_add_4 rfl (lv_at hl 1 rfl) ?_
    refine lv_aload_n hx hb dX2_add_5 rfl (lv_at hl 0 rfl) ?_
    refine x_getv (T := TX2) (N := 1) hx hb hT hown hK B hV inlX2 rfl (by decide) q39 rfl dX2_add_6 ?_
    refine x_alen (t0 := 0) (v := (Int32.ofNat n)) hx hb hK B hI rfl rfl dX2_add_9 ?_
    refine lv_icmp_ge (tgt := 23) hx hb dX2_add_10 (by decide) (fun q => ?_) (fun q => ?_)
    · have hm := ift hm q
      exact x_vret hx hb hr hlk hK B dX2_add_23 hm
    · have hm := iff hm q
      refine lv_aload_n hx hb dX2_add_13 rfl (lv_at hl 0 rfl) ?_
      refine x_getv (T := TX2) (N := 1) hx hb hT hown hK B hV inlX2 rfl (by decide) q39 rfl dX2_add_14 ?_
      refine lv_iload_n hx hb dX2_add_17 rfl (lv_at hl 1 rfl) ?_
      refine lv_dup2_11 hx hb dX2_add_18 rfl rfl ?_
      refine x_iald (t0 := 0) hx hb hK B hI rfl dX2_add_19 hm (fun x1 hm => ?_)
      refine lv_iload_n hx hb dX2_add_20 rfl (lv_at hl 2 rfl) ?_
      refine lv_iadd hx hb dX2_add_21 ?_
      refine x_iast (t0 := 0) hx hb hK B hI rfl dX2_add_22 hm (fun σ H locs B hm => ?_)
      exact x_vret hx hb hr hlk hK B dX2_add_23 hm
def f_X4_addTie (σ : Mm) (w1 : Int32) (w2 : Int32) (w3 : Int32) : Option Mm :=
  (f_X2_add 108 50 σ ((w1 * (9 : Int32)) + w2) w3).bind fun σ =>
  some σ
set_option maxHeartbeats 4000000 in
set_option maxRecDepth 100000 in
theorem c_X4_addTie (l : Launch) (D : va_G) (cI cZ : ClassId) (a : Nat → Nat) (w1 : Int32) (w2 : Int32) (w3 : Int32) : CTv l D [(cI, FieldType.int), (cZ, FieldType.boolean)] (xW cI a) yX4_addTie (.code yX4_addTie cX4_addTie 4 (none : Option FieldType) :: wsL_law) ({ frames := 1, cells := 0, slots := 0, locals := 22 } : Room) [.ref (a 35), .int w1, .int w2, .int w3] (fun σ => f_X4_addTie σ w1 w2 w3) := by
  refine CTv.of (by decide +kernel) (Nat.le_of_ble_eq_true rfl) ?_
  intro σ out hm p e s m below meth c A ls H locs hx hb hr hlk hml hT hown hK hA B hl
  have hown : s.vm.findClass RX4 = some m.cls := hown
  have hl : lv_has ls 4 [(0, .ref (a 35)), (1, .int w1), (2, .int w2), (3, .int w3)] := hl
  have hm : f_X4_addTie σ w1 w2 w3 = some out := hm
  unfold f_X4_addTie at hm
  refine lv_aload_n hx hb dX4_addTie_0 rfl (lv_at hl 0 rfl) ?_
  refine x_getv (T := TX4) (N := 10) hx hb hT hown hK B xV_table_ties inlX4 rfl (by decide) q101 rfl dX4_addTie_1 ?_
  refine lv_iload_n hx hb dX4_addTie_4 rfl (lv_at hl 1 rfl) ?_
  refine lv_bipush (v := (9 : Int32)) hx hb dX4_addTie_5 (by decide) ?_
  refine lv_imul hx hb dX4_addTie_7 ?_
  refine lv_iload_n hx hb dX4_addTie_8 rfl (lv_at hl 2 rfl) ?_
  refine lv_iadd hx hb dX4_addTie_9 ?_
  refine lv_iload_n hx hb dX4_addTie_10 rfl (lv_at hl 3 rfl) ?_
  refine x_callVv (rest := []) hx hb hml hT hown hK hA B hl.1 (c_X2_add l D cI cZ xV_table_ties_cells xA_table_ties ((w1 * (9 : Int32)) + w2) w3) mi_X2_add mv_X2_add xO_table_ties rfl q255 ⟨rfl, rfl⟩ ⟨Nat.le_of_ble_eq_true rfl, Nat.le_of_ble_eq_true rfl⟩ rfl rfl (Nat.le_of_ble_eq_true rfl) dX4_addTie_11 hm (fun σ H locs B hm => ?_)
  exact x_vret hx hb hr hlk hK B dX4_addTie_14 hm
def f_X4_twoCell (w0 : Int32) (w1 : Int32) : Option Int32 :=
  some ((w0 * (12 : Int32)) + w1)
set_option maxHeartbeats 4000000 in
set_option maxRecDepth 100000 in
theorem c_X4_twoCell (l : Launch) (D : va_G) (cI cZ : ClassId) (ww : Mm → va_W) (w0 : Int32) (w1 : Int32) : CTr l D [(cI, FieldType.int), (cZ, FieldType.boolean)] ww yX4_twoCell (.code yX4_twoCell cX4_twoCell 2 (some FieldType.int) :: wsL_law) ({ frames := 0, cells := 0, slots := 0, locals := 0 } : Room) [.int w0, .int w1] (fun σ => f_X4_twoCell w0 w1) := by
  refine CTr.of (by decide +kernel) (Nat.le_of_ble_eq_true rfl) ?_
  intro σ r hm p e s m below meth c A ls H locs hx hb hr hlk hml hT hown hK hA B hl
  have hown : s.vm.findClass RX4 = some m.cls := hown
  have hl : lv_has ls 2 [(0, .int w0), (1, .int w1)] := hl
  have hm : f_X4_twoCell w0 w1 = some r := hm
  unfold f_X4_twoCell at hm
  refine lv_iload_n hx hb dX4_twoCell_0 rfl (lv_at hl 0 rfl) ?_
  refine lv_bipush (v := (12 : Int32)) hx hb dX4_twoCell_1 (by decide) ?_
  refine lv_imul hx hb dX4_twoCell_3 ?_
  refine lv_iload_n hx hb dX4_twoCell_4 rfl (lv_at hl 1 rfl) ?_
  refine lv_iadd hx hb dX4_twoCell_5 ?_
  exact x_iretr hx hb hr hlk hK B dX4_twoCell_6 hm
def f_X4_meetingOf (σ : Mm) (w1 : Int32) (w2 : Int32) : Option Int32 :=
  (f_X4_twoCell w1 w2).bind fun x1 =>
  (f_X2_at 144 56 σ x1).bind fun x2 =>
  some x2
set_option maxHeartbeats 4000000 in
set_option maxRecDepth 100000 in
theorem c_X4_meetingOf (l : Launch) (D : va_G) (cI cZ : ClassId) (a : Nat → Nat) (w1 : Int32) (w2 : Int32) : CTr l D [(cI, FieldType.int), (cZ, FieldType.boolean)] (xW cI a) yX4_meetingOf (.code yX4_meetingOf cX4_meetingOf 3 (some FieldType.int) :: wsL_law) ({ frames := 1, cells := 0, slots := 0, locals := 21 } : Room) [.ref (a 35), .int w1, .int w2] (fun σ => f_X4_meetingOf σ w1 w2) := by
  refine CTr.of (by decide +kernel) (Nat.le_of_ble_eq_true rfl) ?_
  intro σ r hm p e s m below meth c A ls H locs hx hb hr hlk hml hT hown hK hA B hl
  have hown : s.vm.findClass RX4 = some m.cls := hown
  have hl : lv_has ls 3 [(0, .ref (a 35)), (1, .int w1), (2, .int w2)] := hl
  have hm : f_X4_meetingOf σ w1 w2 = some r := hm
  unfold f_X4_meetingOf at hm
  refine lv_aload_n hx hb dX4_meetingOf_0 rfl (lv_at hl 0 rfl) ?_
  refine x_getv (T := TX4) (N := 10) hx hb hT hown hK B xV_table_meetings inlX4 rfl (by decide) q116 rfl dX4_meetingOf_1 ?_
  refine lv_iload_n hx hb dX4_meetingOf_4 rfl (lv_at hl 1 rfl) ?_
  refine lv_iload_n hx hb dX4_meetingOf_5 rfl (lv_at hl 2 rfl) ?_
  refine x_callSr (rest := [.ref (a 48)]) hx hb hml hT hown hK hA B hl.1 (c_X4_twoCell l D cI cZ (xW cI a) w1 w2) mi_X4_twoCell q271 q270 ⟨rfl, rfl⟩ ⟨Nat.le_of_ble_eq_true rfl, Nat.le_of_ble_eq_true rfl⟩ rfl rfl (Nat.le_of_ble_eq_true rfl) dX4_meetingOf_6 hm (fun x1 H locs B hm => ?_)
  refine x_callVr (rest := []) hx hb hml hT hown hK hA B hl.1 (c_X2_at l D cI cZ xV_table_meetings_cells xA_table_meetings x1) mi_X2_at mv_X2_at xO_table_meetings rfl q226 ⟨rfl, rfl⟩ ⟨Nat.le_of_ble_eq_true rfl, Nat.le_of_ble_eq_true rfl⟩ rfl rfl (Nat.le_of_ble_eq_true rfl) dX4_meetingOf_9 hm (fun x2 H locs B hm => ?_)
  exact x_iretr hx hb hr hlk hK B dX4_meetingOf_12 hm
def f_X4_haveMet (σ : Mm) (w1 : Int32) (w2 : Int32) : Option Int32 :=
  (f_X4_meetingOf σ w1 w2).bind fun x1 =>
  if x1 = (-5 : Int32) then
    some (0 : Int32)
  else
    some (1 : Int32)
set_option maxHeartbeats 4000000 in
set_option maxRecDepth 100000 in
theorem c_X4_haveMet (l : Launch) (D : va_G) (cI cZ : ClassId) (a : Nat → Nat) (w1 : Int32) (w2 : Int32) : CTr l D [(cI, FieldType.int), (cZ, FieldType.boolean)] (xW cI a) yX4_haveMet (.code yX4_haveMet cX4_haveMet 3 (some FieldType.boolean) :: wsL_law) ({ frames := 2, cells := 0, slots := 0, locals := 43 } : Room) [.ref (a 35), .int w1, .int w2] (fun σ => f_X4_haveMet σ w1 w2) := by
  refine CTr.of (by decide +kernel) (Nat.le_of_ble_eq_true rfl) ?_
  intro σ r hm p e s m below meth c A ls H locs hx hb hr hlk hml hT hown hK hA B hl
  have hown : s.vm.findClass RX4 = some m.cls := hown
  have hl : lv_has ls 3 [(0, .ref (a 35)), (1, .int w1), (2, .int w2)] := hl
  have hm : f_X4_haveMet σ w1 w2 = some r := hm
  unfold f_X4_haveMet at hm
  refine lv_aload_n hx hb dX4_haveMet_0 rfl (lv_at hl 0 rfl) ?_
  refine lv_iload_n hx hb dX4_haveMet_1 rfl (lv_at hl 1 rfl) ?_
  refine lv_iload_n hx hb dX4_haveMet_2 rfl (lv_at hl 2 rfl) ?_
  refine x_callVr (rest := []) hx hb hml hT hown hK hA B hl.1 (c_X4_meetingOf l D cI cZ a w1 w2) mi_X4_meetingOf mv_X4_meetingOf xO_table rfl q285 ⟨rfl, rfl⟩ ⟨Nat.le_of_ble_eq_true rfl, Nat.le_of_ble_eq_true rfl⟩ rfl rfl (Nat.le_of_ble_eq_true rfl) dX4_haveMet_3 hm (fun x1 H locs B hm => ?_)
  refine lv_bipush (v := (-5 : Int32)) hx hb dX4_haveMet_6 (by decide) ?_
  refine lv_icmp_eq (tgt := 15) hx hb dX4_haveMet_8 (by decide) (fun q => ?_) (fun q => ?_)
  · have hm := ift hm q
    refine lv_iconst (v := (0 : Int32)) hx hb dX4_haveMet_15 (by decide) ?_
    exact x_zretr hx hb hr hlk hK B rfl dX4_haveMet_16 hm
  · have hm := iff hm q
    refine lv_iconst (v := (1 : Int32)) hx hb dX4_haveMet_11 (by decide) ?_
    refine lv_goto (tgt := 16) hx hb dX4_haveMet_12 (by decide) ?_
    exact x_zretr hx hb hr hlk hK B rfl dX4_haveMet_16 hm
def f_X4_madeAgainst (σ : Mm) (w1 : Int32) (w2 : Int32) : Option Int32 :=
  (f_X4_twoCell w1 w2).bind fun x1 =>
  (f_X2_at 144 57 σ x1).bind fun x2 =>
  some x2
set_option maxHeartbeats 4000000 in
set_option maxRecDepth 100000 in
theorem c_X4_madeAgainst (l : Launch) (D : va_G) (cI cZ : ClassId) (a : Nat → Nat) (w1 : Int32) (w2 : Int32) : CTr l D [(cI, FieldType.int), (cZ, FieldType.boolean)] (xW cI a) yX4_madeAgainst (.code yX4_madeAgainst cX4_madeAgainst 3 (some FieldType.int) :: wsL_law) ({ frames := 1, cells := 0, slots := 0, locals := 21 } : Room) [.ref (a 35), .int w1, .int w2] (fun σ => f_X4_madeAgainst σ w1 w2) := by
  refine CTr.of (by decide +kernel) (Nat.le_of_ble_eq_true rfl) ?_
  intro σ r hm p e s m below meth c A ls H locs hx hb hr hlk hml hT hown hK hA B hl
  have hown : s.vm.findClass RX4 = some m.cls := hown
  have hl : lv_has ls 3 [(0, .ref (a 35)), (1, .int w1), (2, .int w2)] := hl
  have hm : f_X4_madeAgainst σ w1 w2 = some r := hm
  unfold f_X4_madeAgainst at hm
  refine lv_aload_n hx hb dX4_madeAgainst_0 rfl (lv_at hl 0 rfl) ?_
  refine x_getv (T := TX4) (N := 10) hx hb hT hown hK B xV_table_made inlX4 rfl (by decide) q117 rfl dX4_madeAgainst_1 ?_
  refine lv_iload_n hx hb dX4_madeAgainst_4 rfl (lv_at hl 1 rfl) ?_
  refine lv_iload_n hx hb dX4_madeAgainst_5 rfl (lv_at hl 2 rfl) ?_
  refine x_callSr (rest := [.ref (a 50)]) hx hb hml hT hown hK hA B hl.1 (c_X4_twoCell l D cI cZ (xW cI a) w1 w2) mi_X4_twoCell q271 q270 ⟨rfl, rfl⟩ ⟨Nat.le_of_ble_eq_true rfl, Nat.le_of_ble_eq_true rfl⟩ rfl rfl (Nat.le_of_ble_eq_true rfl) dX4_madeAgainst_6 hm (fun x1 H locs B hm => ?_)
  refine x_callVr (rest := []) hx hb hml hT hown hK hA B hl.1 (c_X2_at l D cI cZ xV_table_made_cells xA_table_made x1) mi_X2_at mv_X2_at xO_table_made rfl q226 ⟨rfl, rfl⟩ ⟨Nat.le_of_ble_eq_true rfl, Nat.le_of_ble_eq_true rfl⟩ rfl rfl (Nat.le_of_ble_eq_true rfl) dX4_madeAgainst_9 hm (fun x2 H locs B hm => ?_)
  exact x_iretr hx hb hr hlk hK B dX4_madeAgainst_12 hm
def f_X4_compareWithOpponents_j113 (σ : Mm) (v1 v3 : Int32) : Option Mm :=
  (f_X4_tieOf σ v1 (1 : Int32)).bind fun x1 =>
  (some (if (0 : Int32) < v3 then v3 else (0 : Int32))).bind fun x2 =>
  (f_X4_addTie σ v1 (2 : Int32) (x1 - x2)).bind fun σ =>
  some σ
def f_X4_compareWithOpponents_j87 (r12 : Mm → Int32 → Int32 → Option Mm) (σ : Mm) (v1 v2 v3 v4 v5 s1 s2 s3 : Int32) : Option Mm :=
  (f_X4_addTie σ s1 s2 s3).bind fun σ =>
  if v3 = (-1 : Int32) then
    r12 σ v5 (v4 + (1 : Int32))
  else
    (some (if v5 < v3 then v5 else v3)).bind fun x3 =>
    r12 σ x3 (v4 + (1 : Int32))
def f_X4_compareWithOpponents_s12 (v1 : Int32) (v2 : Int32) (r12 : Mm → Int32 → Int32 → Option Mm) (σ : Mm) (v3 v4 : Int32) : Option Mm :=
  (some (σ 0 0)).bind fun x4 =>
  if x4 ≤ v4 then
    f_X4_compareWithOpponents_j113 σ v1 v3
  else
    (f_X4_haveMet σ v1 v4).bind fun x5 =>
    if x5 = 0 then
      r12 σ v3 (v4 + (1 : Int32))
    else
      (f_X4_tieOf σ v4 (0 : Int32)).bind fun x6 =>
      (f_X4_madeAgainst σ v1 v4).bind fun x7 =>
      (f_X4_addTie σ v1 (1 : Int32) x6).bind fun σ =>
      (f_X4_addTie σ v1 (3 : Int32) (x7 * x6)).bind fun σ =>
      if x6 = v2 then
        f_X4_compareWithOpponents_j87 r12 σ v1 v2 v3 v4 x6 v1 (7 : Int32) x7
      else
        f_X4_compareWithOpponents_j87 r12 σ v1 v2 v3 v4 x6 v1 (7 : Int32) (0 : Int32)
def f_X4_compareWithOpponents (σ : Mm) (w1 : Int32) : Option Mm :=
  (f_X4_tieOf σ w1 (0 : Int32)).bind fun x8 =>
  wh3 (f_X4_compareWithOpponents_s12 w1 x8) 5000 σ (-1 : Int32) (0 : Int32)
set_option maxHeartbeats 4000000 in
set_option maxRecDepth 100000 in
theorem c_X4_compareWithOpponents (l : Launch) (D : va_G) (cI cZ : ClassId) (a : Nat → Nat) (w1 : Int32) : CTv l D [(cI, FieldType.int), (cZ, FieldType.boolean)] (xW cI a) yX4_compareWithOpponents (.code yX4_compareWithOpponents cX4_compareWithOpponents 7 (none : Option FieldType) :: wsL_law) ({ frames := 3, cells := 0, slots := 0, locals := 65 } : Room) [.ref (a 35), .int w1] (fun σ => f_X4_compareWithOpponents σ w1) := by
  refine CTv.of (by decide +kernel) (Nat.le_of_ble_eq_true rfl) ?_
  intro σ out hm p e s m below meth c A ls H locs hx hb hr hlk hml hT hown hK hA B hl
  have hown : s.vm.findClass RX4 = some m.cls := hown
  have hl : lv_has ls 7 [(0, .ref (a 35)), (1, .int w1)] := hl
  have hm : f_X4_compareWithOpponents σ w1 = some out := hm
  unfold f_X4_compareWithOpponents at hm
  have j113 : ∀ (σ : Mm) (v1 : Int32) (v3 : Int32) (H : Heap) (locs : List Loc) (ls : Array Slot), BD D A s.heap ((xW cI a) σ) H locs → lv_has ls 7 [(0, .ref (a 35)), (1, .int v1), (3, .int v3)] → f_X4_compareWithOpponents_j113 σ v1 v3 = some out → W p l e ({ frames := 3, cells := 0, slots := 0, locals := 65 } : Room) s m ([.ref (a 35), .int w1] : List Value).toArray below meth c H locs 0 0 (MQ below (QV D [(cI, FieldType.int), (cZ, FieldType.boolean)] (xW cI a) A out) ([.ref (a 35), .int w1] : List Value).toArray s 0 0 A) (F0 m 113 ls []) := by
    intro σ v1 v3 H locs ls B hl hm
    unfold f_X4_compareWithOpponents_j113 at hm
    refine lv_aload_n hx hb dX4_compareWithOpponents_113 rfl (lv_at hl 0 rfl) ?_
    refine lv_iload_n hx hb dX4_compareWithOpponents_114 rfl (lv_at hl 1 rfl) ?_
    refine lv_iconst (v := (2 : Int32)) hx hb dX4_compareWithOpponents_115 (by decide) ?_
    refine lv_aload_n hx hb dX4_compareWithOpponents_116 rfl (lv_at hl 0 rfl) ?_
    refine lv_iload_n hx hb dX4_compareWithOpponents_117 rfl (lv_at hl 1 rfl) ?_
    refine lv_iconst (v := (1 : Int32)) hx hb dX4_compareWithOpponents_118 (by decide) ?_
    refine x_callVr (rest := [.int (2 : Int32), .int v1, .ref (a 35)]) hx hb hml hT hown hK hA B hl.1 (c_X4_tieOf l D cI cZ a v1 (1 : Int32)) mi_X4_tieOf mv_X4_tieOf xO_table rfl q274 ⟨rfl, rfl⟩ ⟨Nat.le_of_ble_eq_true rfl, Nat.le_of_ble_eq_true rfl⟩ rfl rfl (Nat.le_of_ble_eq_true rfl) dX4_compareWithOpponents_119 hm (fun x1 H locs B hm => ?_)
    refine lv_iconst (v := (0 : Int32)) hx hb dX4_compareWithOpponents_122 (by decide) ?_
    refine lv_iload_n hx hb dX4_compareWithOpponents_123 rfl (lv_at hl 2 rfl) ?_
    refine x_mmax hx hb (hml.trans hl.1.symm) hown (hT _ q296) (hT _ q37) (hT _ q4) (hT _ qM_max) (Nat.le_of_ble_eq_true rfl) (Nat.le_of_ble_eq_true rfl) dX4_compareWithOpponents_124 hm (fun x2 hm => ?_)
    refine lv_isub hx hb dX4_compareWithOpponents_127 ?_
    refine x_callVv (rest := []) hx hb hml hT hown hK hA B hl.1 (c_X4_addTie l D cI cZ a v1 (2 : Int32) (x1 - x2)) mi_X4_addTie mv_X4_addTie xO_table rfl q252 ⟨rfl, rfl⟩ ⟨Nat.le_of_ble_eq_true rfl, Nat.le_of_ble_eq_true rfl⟩ rfl rfl (Nat.le_of_ble_eq_true rfl) dX4_compareWithOpponents_128 hm (fun σ H locs B hm => ?_)
    exact x_vret hx hb hr hlk hK B dX4_compareWithOpponents_131 hm
  have L12 : ∀ (v1 : Int32) (v2 : Int32) (nn : Nat) (σ : Mm) (v3 : Int32) (v4 : Int32), wh3 (f_X4_compareWithOpponents_s12 v1 v2) nn σ v3 v4 = some out → ∀ (H : Heap) (locs : List Loc) (ls : Array Slot), BD D A s.heap ((xW cI a) σ) H locs → lv_has ls 7 [(0, .ref (a 35)), (1, .int v1), (2, .int v2), (3, .int v3), (4, .int v4)] → W p l e ({ frames := 3, cells := 0, slots := 0, locals := 65 } : Room) s m ([.ref (a 35), .int w1] : List Value).toArray below meth c H locs 0 0 (MQ below (QV D [(cI, FieldType.int), (cZ, FieldType.boolean)] (xW cI a) A out) ([.ref (a 35), .int w1] : List Value).toArray s 0 0 A) (F0 m 12 ls []) := by
    intro v1 v2
    refine loop3 (fun r12 ih12 σ v3 v4 hm H locs ls B hl => ?_)
    unfold f_X4_compareWithOpponents_s12 at hm
    have j87 : ∀ (σ : Mm) (v3 : Int32) (v4 : Int32) (v5 : Int32) (s1 : Int32) (s2 : Int32) (s3 : Int32) (H : Heap) (locs : List Loc) (ls : Array Slot), BD D A s.heap ((xW cI a) σ) H locs → lv_has ls 7 [(0, .ref (a 35)), (1, .int v1), (2, .int v2), (3, .int v3), (4, .int v4), (5, .int v5)] → f_X4_compareWithOpponents_j87 r12 σ v1 v2 v3 v4 v5 s1 s2 s3 = some out → W p l e ({ frames := 3, cells := 0, slots := 0, locals := 65 } : Room) s m ([.ref (a 35), .int w1] : List Value).toArray below meth c H locs 0 0 (MQ below (QV D [(cI, FieldType.int), (cZ, FieldType.boolean)] (xW cI a) A out) ([.ref (a 35), .int w1] : List Value).toArray s 0 0 A) (F0 m 87 ls [.int s3, .int s2, .int s1, .ref (a 35)]) := by
      intro σ v3 v4 v5 s1 s2 s3 H locs ls B hl hm
      unfold f_X4_compareWithOpponents_j87 at hm
      refine x_callVv (rest := []) hx hb hml hT hown hK hA B hl.1 (c_X4_addTie l D cI cZ a s1 s2 s3) mi_X4_addTie mv_X4_addTie xO_table rfl q252 ⟨rfl, rfl⟩ ⟨Nat.le_of_ble_eq_true rfl, Nat.le_of_ble_eq_true rfl⟩ rfl rfl (Nat.le_of_ble_eq_true rfl) dX4_compareWithOpponents_87 hm (fun σ H locs B hm => ?_)
      refine lv_iload_n hx hb dX4_compareWithOpponents_90 rfl (lv_at hl 3 rfl) ?_
      refine lv_iconst (v := (-1 : Int32)) hx hb dX4_compareWithOpponents_91 (by decide) ?_
      refine lv_icmp_ne (tgt := 100) hx hb dX4_compareWithOpponents_92 (by decide) (fun q => ?_) (fun q => ?_)
      · have hm := iff hm q
        refine lv_iload_n hx hb dX4_compareWithOpponents_100 rfl (lv_at hl 3 rfl) ?_
        refine lv_iload hx hb dX4_compareWithOpponents_101 (lv_at hl 5 rfl) ?_
        refine x_mmin hx hb (hml.trans hl.1.symm) hown (hT _ q293) (hT _ q294) (hT _ q4) (hT _ qM_min) (Nat.le_of_ble_eq_true rfl) (Nat.le_of_ble_eq_true rfl) dX4_compareWithOpponents_103 hm (fun x3 hm => ?_)
        refine lv_istore_n (lv' := [(3, .int x3), (0, .ref (a 35)), (1, .int v1), (2, .int v2), (4, .int v4), (5, .int v5)]) hx hb dX4_compareWithOpponents_106 rfl hl (by decide) rfl (fun ls hl => ?_)
        refine lv_iinc (v := (v4 + (1 : Int32))) (lv' := [(4, .int (v4 + (1 : Int32))), (3, .int x3), (0, .ref (a 35)), (1, .int v1), (2, .int v2), (5, .int v5)]) hx hb dX4_compareWithOpponents_107 hl (k := 4) rfl rfl (by decide) rfl (fun ls hl => ?_)
        refine lv_goto (tgt := 12) hx hb dX4_compareWithOpponents_110 (by decide) ?_
        exact ih12 σ x3 (v4 + (1 : Int32)) hm H locs ls B (lv_sub hl [2, 3, 4, 1, 0] rfl)
      · have hm := ift hm q
        refine lv_iload hx hb dX4_compareWithOpponents_95 (lv_at hl 5 rfl) ?_
        refine lv_goto (tgt := 106) hx hb dX4_compareWithOpponents_97 (by decide) ?_
        refine lv_istore_n (lv' := [(3, .int v5), (0, .ref (a 35)), (1, .int v1), (2, .int v2), (4, .int v4), (5, .int v5)]) hx hb dX4_compareWithOpponents_106 rfl hl (by decide) rfl (fun ls hl => ?_)
        refine lv_iinc (v := (v4 + (1 : Int32))) (lv' := [(4, .int (v4 + (1 : Int32))), (3, .int v5), (0, .ref (a 35)), (1, .int v1), (2, .int v2), (5, .int v5)]) hx hb dX4_compareWithOpponents_107 hl (k := 4) rfl rfl (by decide) rfl (fun ls hl => ?_)
        refine lv_goto (tgt := 12) hx hb dX4_compareWithOpponents_110 (by decide) ?_
        exact ih12 σ v5 (v4 + (1 : Int32)) hm H locs ls B (lv_sub hl [2, 3, 4, 1, 0] rfl)
    refine lv_iload hx hb dX4_compareWithOpponents_12 (lv_at hl 4 rfl) ?_
    refine lv_aload_n hx hb dX4_compareWithOpponents_14 rfl (lv_at hl 0 rfl) ?_
    refine x_getv (T := TX4) (N := 10) hx hb hT hown hK B xV_table_book inlX4 rfl (by decide) q100 rfl dX4_compareWithOpponents_15 ?_
    refine x_getibN (T := TX0) (N := 12) hx hb hT hown hK B xI_book_players inlX0 rfl (by decide) q48 rfl dX4_compareWithOpponents_18 hm (fun x4 hm => ?_)
    refine lv_icmp_ge (tgt := 113) hx hb dX4_compareWithOpponents_21 (by decide) (fun q => ?_) (fun q => ?_)
    · have hm := ift hm q
      exact j113 σ v1 v3 H locs ls B (lv_sub hl [0, 1, 3] rfl) hm
    · have hm := iff hm q
      refine lv_aload_n hx hb dX4_compareWithOpponents_24 rfl (lv_at hl 0 rfl) ?_
      refine lv_iload_n hx hb dX4_compareWithOpponents_25 rfl (lv_at hl 1 rfl) ?_
      refine lv_iload hx hb dX4_compareWithOpponents_26 (lv_at hl 4 rfl) ?_
      refine x_callVr (rest := []) hx hb hml hT hown hK hA B hl.1 (c_X4_haveMet l D cI cZ a v1 v4) mi_X4_haveMet mv_X4_haveMet xO_table rfl q281 ⟨rfl, rfl⟩ ⟨Nat.le_of_ble_eq_true rfl, Nat.le_of_ble_eq_true rfl⟩ rfl rfl (Nat.le_of_ble_eq_true rfl) dX4_compareWithOpponents_28 hm (fun x5 H locs B hm => ?_)
      refine lv_if_eq (tgt := 107) hx hb dX4_compareWithOpponents_31 (by decide) (fun q => ?_) (fun q => ?_)
      · have hm := ift hm q
        refine lv_iinc (v := (v4 + (1 : Int32))) (lv' := [(4, .int (v4 + (1 : Int32))), (0, .ref (a 35)), (1, .int v1), (2, .int v2), (3, .int v3)]) hx hb dX4_compareWithOpponents_107 hl (k := 4) rfl rfl (by decide) rfl (fun ls hl => ?_)
        refine lv_goto (tgt := 12) hx hb dX4_compareWithOpponents_110 (by decide) ?_
        exact ih12 σ v3 (v4 + (1 : Int32)) hm H locs ls B (lv_sub hl [1, 2, 3, 4, 0] rfl)
      · have hm := iff hm q
        refine lv_aload_n hx hb dX4_compareWithOpponents_34 rfl (lv_at hl 0 rfl) ?_
        refine lv_iload hx hb dX4_compareWithOpponents_35 (lv_at hl 4 rfl) ?_
        refine lv_iconst (v := (0 : Int32)) hx hb dX4_compareWithOpponents_37 (by decide) ?_
        refine x_callVr (rest := []) hx hb hml hT hown hK hA B hl.1 (c_X4_tieOf l D cI cZ a v4 (0 : Int32)) mi_X4_tieOf mv_X4_tieOf xO_table rfl q274 ⟨rfl, rfl⟩ ⟨Nat.le_of_ble_eq_true rfl, Nat.le_of_ble_eq_true rfl⟩ rfl rfl (Nat.le_of_ble_eq_true rfl) dX4_compareWithOpponents_38 hm (fun x6 H locs B hm => ?_)
        refine lv_istore (lv' := [(5, .int x6), (0, .ref (a 35)), (1, .int v1), (2, .int v2), (3, .int v3), (4, .int v4)]) hx hb dX4_compareWithOpponents_41 hl (by decide) rfl (fun ls hl => ?_)
        refine lv_aload_n hx hb dX4_compareWithOpponents_43 rfl (lv_at hl 1 rfl) ?_
        refine lv_iload_n hx hb dX4_compareWithOpponents_44 rfl (lv_at hl 2 rfl) ?_
        refine lv_iload hx hb dX4_compareWithOpponents_45 (lv_at hl 5 rfl) ?_
        refine x_callVr (rest := []) hx hb hml hT hown hK hA B hl.1 (c_X4_madeAgainst l D cI cZ a v1 v4) mi_X4_madeAgainst mv_X4_madeAgainst xO_table rfl q289 ⟨rfl, rfl⟩ ⟨Nat.le_of_ble_eq_true rfl, Nat.le_of_ble_eq_true rfl⟩ rfl rfl (Nat.le_of_ble_eq_true rfl) dX4_compareWithOpponents_47 hm (fun x7 H locs B hm => ?_)
        refine lv_istore (lv' := [(6, .int x7), (5, .int x6), (0, .ref (a 35)), (1, .int v1), (2, .int v2), (3, .int v3), (4, .int v4)]) hx hb dX4_compareWithOpponents_50 hl (by decide) rfl (fun ls hl => ?_)
        refine lv_aload_n hx hb dX4_compareWithOpponents_52 rfl (lv_at hl 2 rfl) ?_
        refine lv_iload_n hx hb dX4_compareWithOpponents_53 rfl (lv_at hl 3 rfl) ?_
        refine lv_iconst (v := (1 : Int32)) hx hb dX4_compareWithOpponents_54 (by decide) ?_
        refine lv_iload hx hb dX4_compareWithOpponents_55 (lv_at hl 1 rfl) ?_
        refine x_callVv (rest := []) hx hb hml hT hown hK hA B hl.1 (c_X4_addTie l D cI cZ a v1 (1 : Int32) x6) mi_X4_addTie mv_X4_addTie xO_table rfl q252 ⟨rfl, rfl⟩ ⟨Nat.le_of_ble_eq_true rfl, Nat.le_of_ble_eq_true rfl⟩ rfl rfl (Nat.le_of_ble_eq_true rfl) dX4_compareWithOpponents_57 hm (fun σ H locs B hm => ?_)
        refine lv_aload_n hx hb dX4_compareWithOpponents_60 rfl (lv_at hl 2 rfl) ?_
        refine lv_iload_n hx hb dX4_compareWithOpponents_61 rfl (lv_at hl 3 rfl) ?_
        refine lv_iconst (v := (3 : Int32)) hx hb dX4_compareWithOpponents_62 (by decide) ?_
        refine lv_iload hx hb dX4_compareWithOpponents_63 (lv_at hl 0 rfl) ?_
        refine lv_iload hx hb dX4_compareWithOpponents_65 (lv_at hl 1 rfl) ?_
        refine lv_imul hx hb dX4_compareWithOpponents_67 ?_
        refine x_callVv (rest := []) hx hb hml hT hown hK hA B hl.1 (c_X4_addTie l D cI cZ a v1 (3 : Int32) (x7 * x6)) mi_X4_addTie mv_X4_addTie xO_table rfl q252 ⟨rfl, rfl⟩ ⟨Nat.le_of_ble_eq_true rfl, Nat.le_of_ble_eq_true rfl⟩ rfl rfl (Nat.le_of_ble_eq_true rfl) dX4_compareWithOpponents_68 hm (fun σ H locs B hm => ?_)
        refine lv_aload_n hx hb dX4_compareWithOpponents_71 rfl (lv_at hl 2 rfl) ?_
        refine lv_iload_n hx hb dX4_compareWithOpponents_72 rfl (lv_at hl 3 rfl) ?_
        refine lv_bipush (v := (7 : Int32)) hx hb dX4_compareWithOpponents_73 (by decide) ?_
        refine lv_iload hx hb dX4_compareWithOpponents_75 (lv_at hl 1 rfl) ?_
        refine lv_iload_n hx hb dX4_compareWithOpponents_77 rfl (lv_at hl 4 rfl) ?_
        refine lv_icmp_ne (tgt := 86) hx hb dX4_compareWithOpponents_78 (by decide) (fun q => ?_) (fun q => ?_)
        · have hm := iff hm q
          refine lv_iconst (v := (0 : Int32)) hx hb dX4_compareWithOpponents_86 (by decide) ?_
          exact j87 σ v3 v4 x6 v1 (7 : Int32) (0 : Int32) H locs ls B (lv_sub hl [2, 3, 4, 5, 6, 1] rfl) hm
        · have hm := ift hm q
          refine lv_iload hx hb dX4_compareWithOpponents_81 (lv_at hl 0 rfl) ?_
          refine lv_goto (tgt := 87) hx hb dX4_compareWithOpponents_83 (by decide) ?_
          exact j87 σ v3 v4 x6 v1 (7 : Int32) x7 H locs ls B (lv_sub hl [2, 3, 4, 5, 6, 1] rfl) hm
  refine lv_aload_n hx hb dX4_compareWithOpponents_0 rfl (lv_at hl 0 rfl) ?_
  refine lv_iload_n hx hb dX4_compareWithOpponents_1 rfl (lv_at hl 1 rfl) ?_
  refine lv_iconst (v := (0 : Int32)) hx hb dX4_compareWithOpponents_2 (by decide) ?_
  refine x_callVr (rest := []) hx hb hml hT hown hK hA B hl.1 (c_X4_tieOf l D cI cZ a w1 (0 : Int32)) mi_X4_tieOf mv_X4_tieOf xO_table rfl q274 ⟨rfl, rfl⟩ ⟨Nat.le_of_ble_eq_true rfl, Nat.le_of_ble_eq_true rfl⟩ rfl rfl (Nat.le_of_ble_eq_true rfl) dX4_compareWithOpponents_3 hm (fun x8 H locs B hm => ?_)
  refine lv_istore_n (lv' := [(2, .int x8), (0, .ref (a 35)), (1, .int w1)]) hx hb dX4_compareWithOpponents_6 rfl hl (by decide) rfl (fun ls hl => ?_)
  refine lv_iconst (v := (-1 : Int32)) hx hb dX4_compareWithOpponents_7 (by decide) ?_
  refine lv_istore_n (lv' := [(3, .int (-1 : Int32)), (2, .int x8), (0, .ref (a 35)), (1, .int w1)]) hx hb dX4_compareWithOpponents_8 rfl hl (by decide) rfl (fun ls hl => ?_)
  refine lv_iconst (v := (0 : Int32)) hx hb dX4_compareWithOpponents_9 (by decide) ?_
  refine lv_istore (lv' := [(4, .int (0 : Int32)), (3, .int (-1 : Int32)), (2, .int x8), (0, .ref (a 35)), (1, .int w1)]) hx hb dX4_compareWithOpponents_10 hl (by decide) rfl (fun ls hl => ?_)
  exact L12 w1 x8 5000 σ (-1 : Int32) (0 : Int32) hm H locs ls B (lv_sub hl [3, 4, 2, 1, 0] rfl)
def f_X0_countDone (σ : Mm) : Option Int32 :=
  if (σ 4 0) = 0 then
    some (σ 3 0)
  else
    some ((σ 3 0) - (1 : Int32))
set_option maxHeartbeats 4000000 in
set_option maxRecDepth 100000 in
theorem c_X0_countDone (l : Launch) (D : va_G) (cI cZ : ClassId) (a : Nat → Nat) : CTr l D [(cI, FieldType.int), (cZ, FieldType.boolean)] (xW cI a) yX0_countDone (.code yX0_countDone cX0_countDone 1 (some FieldType.int) :: wsL_law) ({ frames := 0, cells := 0, slots := 0, locals := 0 } : Room) [.ref (a 1)] (fun σ => f_X0_countDone σ) := by
  refine CTr.of (by decide +kernel) (Nat.le_of_ble_eq_true rfl) ?_
  intro σ r hm p e s m below meth c A ls H locs hx hb hr hlk hml hT hown hK hA B hl
  have hown : s.vm.findClass RX0 = some m.cls := hown
  have hl : lv_has ls 1 [(0, .ref (a 1))] := hl
  have hm : f_X0_countDone σ = some r := hm
  unfold f_X0_countDone at hm
  refine lv_aload_n hx hb dX0_countDone_0 rfl (lv_at hl 0 rfl) ?_
  refine x_geti (T := TX0) (N := 12) hx hb hT hown hK B xI_book_open inlX0 rfl (by decide) q59 rfl dX0_countDone_1 ?_
  refine lv_if_eq (tgt := 16) hx hb dX0_countDone_4 (by decide) (fun q => ?_) (fun q => ?_)
  · have hm := ift hm q
    refine lv_aload_n hx hb dX0_countDone_16 rfl (lv_at hl 0 rfl) ?_
    refine x_geti (T := TX0) (N := 12) hx hb hT hown hK B xI_book_rounds inlX0 rfl (by decide) q56 rfl dX0_countDone_17 ?_
    exact x_iretr hx hb hr hlk hK B dX0_countDone_20 hm
  · have hm := iff hm q
    refine lv_aload_n hx hb dX0_countDone_7 rfl (lv_at hl 0 rfl) ?_
    refine x_geti (T := TX0) (N := 12) hx hb hT hown hK B xI_book_rounds inlX0 rfl (by decide) q56 rfl dX0_countDone_8 ?_
    refine lv_iconst (v := (1 : Int32)) hx hb dX0_countDone_11 (by decide) ?_
    refine lv_isub hx hb dX0_countDone_12 ?_
    refine lv_goto (tgt := 20) hx hb dX0_countDone_13 (by decide) ?_
    exact x_iretr hx hb hr hlk hK B dX0_countDone_20 hm
def f_X0_boardCell (w0 : Int32) (w1 : Int32) : Option Int32 :=
  some ((w0 * (6 : Int32)) + w1)
set_option maxHeartbeats 4000000 in
set_option maxRecDepth 100000 in
theorem c_X0_boardCell (l : Launch) (D : va_G) (cI cZ : ClassId) (ww : Mm → va_W) (w0 : Int32) (w1 : Int32) : CTr l D [(cI, FieldType.int), (cZ, FieldType.boolean)] ww yX0_boardCell (.code yX0_boardCell cX0_boardCell 2 (some FieldType.int) :: wsL_law) ({ frames := 0, cells := 0, slots := 0, locals := 0 } : Room) [.int w0, .int w1] (fun σ => f_X0_boardCell w0 w1) := by
  refine CTr.of (by decide +kernel) (Nat.le_of_ble_eq_true rfl) ?_
  intro σ r hm p e s m below meth c A ls H locs hx hb hr hlk hml hT hown hK hA B hl
  have hown : s.vm.findClass RX0 = some m.cls := hown
  have hl : lv_has ls 2 [(0, .int w0), (1, .int w1)] := hl
  have hm : f_X0_boardCell w0 w1 = some r := hm
  unfold f_X0_boardCell at hm
  refine lv_iload_n hx hb dX0_boardCell_0 rfl (lv_at hl 0 rfl) ?_
  refine lv_bipush (v := (6 : Int32)) hx hb dX0_boardCell_1 (by decide) ?_
  refine lv_imul hx hb dX0_boardCell_3 ?_
  refine lv_iload_n hx hb dX0_boardCell_4 rfl (lv_at hl 1 rfl) ?_
  refine lv_iadd hx hb dX0_boardCell_5 ?_
  exact x_iretr hx hb hr hlk hK B dX0_boardCell_6 hm
def f_X6_isOverTheBoard (w0 : Int32) : Option Int32 :=
  if w0 < (1 : Int32) then
    some (0 : Int32)
  else
    if (3 : Int32) < w0 then
      some (0 : Int32)
    else
      some (1 : Int32)
set_option maxHeartbeats 4000000 in
set_option maxRecDepth 100000 in
theorem c_X6_isOverTheBoard (l : Launch) (D : va_G) (cI cZ : ClassId) (ww : Mm → va_W) (w0 : Int32) : CTr l D [(cI, FieldType.int), (cZ, FieldType.boolean)] ww yX6_isOverTheBoard (.code yX6_isOverTheBoard cX6_isOverTheBoard 1 (some FieldType.boolean) :: wsL_law) ({ frames := 0, cells := 0, slots := 0, locals := 0 } : Room) [.int w0] (fun σ => f_X6_isOverTheBoard w0) := by
  refine CTr.of (by decide +kernel) (Nat.le_of_ble_eq_true rfl) ?_
  intro σ r hm p e s m below meth c A ls H locs hx hb hr hlk hml hT hown hK hA B hl
  have hown : s.vm.findClass RX6 = some m.cls := hown
  have hl : lv_has ls 1 [(0, .int w0)] := hl
  have hm : f_X6_isOverTheBoard w0 = some r := hm
  unfold f_X6_isOverTheBoard at hm
  refine lv_iload_n hx hb dX6_isOverTheBoard_0 rfl (lv_at hl 0 rfl) ?_
  refine lv_iconst (v := (1 : Int32)) hx hb dX6_isOverTheBoard_1 (by decide) ?_
  refine lv_icmp_lt (tgt := 14) hx hb dX6_isOverTheBoard_2 (by decide) (fun q => ?_) (fun q => ?_)
  · have hm := ift hm q
    refine lv_iconst (v := (0 : Int32)) hx hb dX6_isOverTheBoard_14 (by decide) ?_
    exact x_zretr hx hb hr hlk hK B rfl dX6_isOverTheBoard_15 hm
  · have hm := iff hm q
    refine lv_iload_n hx hb dX6_isOverTheBoard_5 rfl (lv_at hl 0 rfl) ?_
    refine lv_iconst (v := (3 : Int32)) hx hb dX6_isOverTheBoard_6 (by decide) ?_
    refine lv_icmp_gt (tgt := 14) hx hb dX6_isOverTheBoard_7 (by decide) (fun q => ?_) (fun q => ?_)
    · have hm := ift hm q
      refine lv_iconst (v := (0 : Int32)) hx hb dX6_isOverTheBoard_14 (by decide) ?_
      exact x_zretr hx hb hr hlk hK B rfl dX6_isOverTheBoard_15 hm
    · have hm := iff hm q
      refine lv_iconst (v := (1 : Int32)) hx hb dX6_isOverTheBoard_10 (by decide) ?_
      refine lv_goto (tgt := 15) hx hb dX6_isOverTheBoard_11 (by decide) ?_
      exact x_zretr hx hb hr hlk hK B rfl dX6_isOverTheBoard_15 hm
def f_X6_pointsFor (w0 : Int32) : Option Int32 :=
  if w0 = (1 : Int32) then
    some (2 : Int32)
  else
    if w0 = (4 : Int32) then
      some (2 : Int32)
    else
      if w0 = (2 : Int32) then
        some (1 : Int32)
      else
        some (0 : Int32)
set_option maxHeartbeats 4000000 in
set_option maxRecDepth 100000 in
theorem c_X6_pointsFor (l : Launch) (D : va_G) (cI cZ : ClassId) (ww : Mm → va_W) (w0 : Int32) : CTr l D [(cI, FieldType.int), (cZ, FieldType.boolean)] ww yX6_pointsFor (.code yX6_pointsFor cX6_pointsFor 1 (some FieldType.int) :: wsL_law) ({ frames := 0, cells := 0, slots := 0, locals := 0 } : Room) [.int w0] (fun σ => f_X6_pointsFor w0) := by
  refine CTr.of (by decide +kernel) (Nat.le_of_ble_eq_true rfl) ?_
  intro σ r hm p e s m below meth c A ls H locs hx hb hr hlk hml hT hown hK hA B hl
  have hown : s.vm.findClass RX6 = some m.cls := hown
  have hl : lv_has ls 1 [(0, .int w0)] := hl
  have hm : f_X6_pointsFor w0 = some r := hm
  unfold f_X6_pointsFor at hm
  refine lv_iload_n hx hb dX6_pointsFor_0 rfl (lv_at hl 0 rfl) ?_
  refine lv_iconst (v := (1 : Int32)) hx hb dX6_pointsFor_1 (by decide) ?_
  refine lv_icmp_eq (tgt := 10) hx hb dX6_pointsFor_2 (by decide) (fun q => ?_) (fun q => ?_)
  · have hm := ift hm q
    refine lv_iconst (v := (2 : Int32)) hx hb dX6_pointsFor_10 (by decide) ?_
    exact x_iretr hx hb hr hlk hK B dX6_pointsFor_11 hm
  · have hm := iff hm q
    refine lv_iload_n hx hb dX6_pointsFor_5 rfl (lv_at hl 0 rfl) ?_
    refine lv_iconst (v := (4 : Int32)) hx hb dX6_pointsFor_6 (by decide) ?_
    refine lv_icmp_ne (tgt := 12) hx hb dX6_pointsFor_7 (by decide) (fun q => ?_) (fun q => ?_)
    · have hm := iff hm q
      refine lv_iload_n hx hb dX6_pointsFor_12 rfl (lv_at hl 0 rfl) ?_
      refine lv_iconst (v := (2 : Int32)) hx hb dX6_pointsFor_13 (by decide) ?_
      refine lv_icmp_ne (tgt := 21) hx hb dX6_pointsFor_14 (by decide) (fun q => ?_) (fun q => ?_)
      · have hm := iff hm q
        refine lv_iconst (v := (0 : Int32)) hx hb dX6_pointsFor_21 (by decide) ?_
        exact x_iretr hx hb hr hlk hK B dX6_pointsFor_22 hm
      · have hm := ift hm q
        refine lv_iconst (v := (1 : Int32)) hx hb dX6_pointsFor_17 (by decide) ?_
        refine lv_goto (tgt := 22) hx hb dX6_pointsFor_18 (by decide) ?_
        exact x_iretr hx hb hr hlk hK B dX6_pointsFor_22 hm
    · have hm := ift hm q
      refine lv_iconst (v := (2 : Int32)) hx hb dX6_pointsFor_10 (by decide) ?_
      exact x_iretr hx hb hr hlk hK B dX6_pointsFor_11 hm
def f_X0_colourAt (σ : Mm) (w1 : Int32) (w2 : Int32) (w3 : Int32) : Option Int32 :=
  (f_X0_boardCell w1 w2).bind fun x1 =>
  (f_X2_at 120 7 σ x1).bind fun x2 =>
  if x2 = w3 then
    some (0 : Int32)
  else
    some (1 : Int32)
set_option maxHeartbeats 4000000 in
set_option maxRecDepth 100000 in
theorem c_X0_colourAt (l : Launch) (D : va_G) (cI cZ : ClassId) (a : Nat → Nat) (w1 : Int32) (w2 : Int32) (w3 : Int32) : CTr l D [(cI, FieldType.int), (cZ, FieldType.boolean)] (xW cI a) yX0_colourAt (.code yX0_colourAt cX0_colourAt 4 (some FieldType.int) :: wsL_law) ({ frames := 1, cells := 0, slots := 0, locals := 21 } : Room) [.ref (a 1), .int w1, .int w2, .int w3] (fun σ => f_X0_colourAt σ w1 w2 w3) := by
  refine CTr.of (by decide +kernel) (Nat.le_of_ble_eq_true rfl) ?_
  intro σ r hm p e s m below meth c A ls H locs hx hb hr hlk hml hT hown hK hA B hl
  have hown : s.vm.findClass RX0 = some m.cls := hown
  have hl : lv_has ls 4 [(0, .ref (a 1)), (1, .int w1), (2, .int w2), (3, .int w3)] := hl
  have hm : f_X0_colourAt σ w1 w2 w3 = some r := hm
  unfold f_X0_colourAt at hm
  refine lv_aload_n hx hb dX0_colourAt_0 rfl (lv_at hl 0 rfl) ?_
  refine x_getv (T := TX0) (N := 12) hx hb hT hown hK B xV_book_whites inlX0 rfl (by decide) q66 rfl dX0_colourAt_1 ?_
  refine lv_iload_n hx hb dX0_colourAt_4 rfl (lv_at hl 1 rfl) ?_
  refine lv_iload_n hx hb dX0_colourAt_5 rfl (lv_at hl 2 rfl) ?_
  refine x_callSr (rest := [.ref (a 10)]) hx hb hml hT hown hK hA B hl.1 (c_X0_boardCell l D cI cZ (xW cI a) w1 w2) mi_X0_boardCell q231 q240 ⟨rfl, rfl⟩ ⟨Nat.le_of_ble_eq_true rfl, Nat.le_of_ble_eq_true rfl⟩ rfl rfl (Nat.le_of_ble_eq_true rfl) dX0_colourAt_6 hm (fun x1 H locs B hm => ?_)
  refine x_callVr (rest := []) hx hb hml hT hown hK hA B hl.1 (c_X2_at l D cI cZ xV_book_whites_cells xA_book_whites x1) mi_X2_at mv_X2_at xO_book_whites rfl q241 ⟨rfl, rfl⟩ ⟨Nat.le_of_ble_eq_true rfl, Nat.le_of_ble_eq_true rfl⟩ rfl rfl (Nat.le_of_ble_eq_true rfl) dX0_colourAt_9 hm (fun x2 H locs B hm => ?_)
  refine lv_iload_n hx hb dX0_colourAt_12 rfl (lv_at hl 3 rfl) ?_
  refine lv_icmp_ne (tgt := 20) hx hb dX0_colourAt_13 (by decide) (fun q => ?_) (fun q => ?_)
  · have hm := iff hm q
    refine lv_iconst (v := (1 : Int32)) hx hb dX0_colourAt_20 (by decide) ?_
    exact x_iretr hx hb hr hlk hK B dX0_colourAt_21 hm
  · have hm := ift hm q
    refine lv_iconst (v := (0 : Int32)) hx hb dX0_colourAt_16 (by decide) ?_
    refine lv_goto (tgt := 21) hx hb dX0_colourAt_17 (by decide) ?_
    exact x_iretr hx hb hr hlk hK B dX0_colourAt_21 hm
def f_X6_mirrored (w0 : Int32) : Option Int32 :=
  if w0 = (1 : Int32) then
    some (3 : Int32)
  else
    if w0 = (3 : Int32) then
      some (1 : Int32)
    else
      if w0 = (4 : Int32) then
        some (5 : Int32)
      else
        if w0 = (5 : Int32) then
          some (4 : Int32)
        else
          some w0
set_option maxHeartbeats 4000000 in
set_option maxRecDepth 100000 in
theorem c_X6_mirrored (l : Launch) (D : va_G) (cI cZ : ClassId) (ww : Mm → va_W) (w0 : Int32) : CTr l D [(cI, FieldType.int), (cZ, FieldType.boolean)] ww yX6_mirrored (.code yX6_mirrored cX6_mirrored 1 (some FieldType.int) :: wsL_law) ({ frames := 0, cells := 0, slots := 0, locals := 0 } : Room) [.int w0] (fun σ => f_X6_mirrored w0) := by
  refine CTr.of (by decide +kernel) (Nat.le_of_ble_eq_true rfl) ?_
  intro σ r hm p e s m below meth c A ls H locs hx hb hr hlk hml hT hown hK hA B hl
  have hown : s.vm.findClass RX6 = some m.cls := hown
  have hl : lv_has ls 1 [(0, .int w0)] := hl
  have hm : f_X6_mirrored w0 = some r := hm
  unfold f_X6_mirrored at hm
  refine lv_iload_n hx hb dX6_mirrored_0 rfl (lv_at hl 0 rfl) ?_
  by_cases q0 : w0 = (1 : Int32)
  · have hm := ift hm q0
    refine lv_tableIn (off := 35) (tgt := 36) hx hb dX6_mirrored_1 (by rw [q0]; decide) (by rw [q0]; decide) (by rw [q0]; rfl) (by decide) ?_
    refine lv_iconst (v := (3 : Int32)) hx hb dX6_mirrored_36 (by decide) ?_
    exact x_iretr hx hb hr hlk hK B dX6_mirrored_37 hm
  · have hm := iff hm q0
    by_cases q1 : w0 = (3 : Int32)
    · have hm := ift hm q1
      refine lv_tableIn (off := 37) (tgt := 38) hx hb dX6_mirrored_1 (by rw [q1]; decide) (by rw [q1]; decide) (by rw [q1]; rfl) (by decide) ?_
      refine lv_iconst (v := (1 : Int32)) hx hb dX6_mirrored_38 (by decide) ?_
      exact x_iretr hx hb hr hlk hK B dX6_mirrored_39 hm
    · have hm := iff hm q1
      by_cases q2 : w0 = (4 : Int32)
      · have hm := ift hm q2
        refine lv_tableIn (off := 39) (tgt := 40) hx hb dX6_mirrored_1 (by rw [q2]; decide) (by rw [q2]; decide) (by rw [q2]; rfl) (by decide) ?_
        refine lv_iconst (v := (5 : Int32)) hx hb dX6_mirrored_40 (by decide) ?_
        exact x_iretr hx hb hr hlk hK B dX6_mirrored_41 hm
      · have hm := iff hm q2
        by_cases q3 : w0 = (5 : Int32)
        · have hm := ift hm q3
          refine lv_tableIn (off := 41) (tgt := 42) hx hb dX6_mirrored_1 (by rw [q3]; decide) (by rw [q3]; decide) (by rw [q3]; rfl) (by decide) ?_
          refine lv_iconst (v := (4 : Int32)) hx hb dX6_mirrored_42 (by decide) ?_
          exact x_iretr hx hb hr hlk hK B dX6_mirrored_43 hm
        · have hm := iff hm q3
          have z0 := lv_neT (k := (1 : Int32)) (a := 1) q0 (by decide)
          have z1 := lv_neT (k := (3 : Int32)) (a := 3) q1 (by decide)
          have z2 := lv_neT (k := (4 : Int32)) (a := 4) q2 (by decide)
          have z3 := lv_neT (k := (5 : Int32)) (a := 5) q3 (by decide)
          have dflt : W p l e ({ frames := 0, cells := 0, slots := 0, locals := 0 } : Room) s m ([.int w0] : List Value).toArray below meth c H locs 0 0 (MQ below (QI D [(cI, FieldType.int), (cZ, FieldType.boolean)] ww A (r, σ)) ([.int w0] : List Value).toArray s 0 0 A) (F0 m 44 ls []) := by
            refine lv_iload_n hx hb dX6_mirrored_44 rfl (lv_at hl 0 rfl) ?_
            exact x_iretr hx hb hr hlk hK B dX6_mirrored_45 hm
          by_cases zz : (w0).toInt < 1 ∨ 5 < (w0).toInt
          · exact lv_tableOut (tgt := 44) hx hb dX6_mirrored_1 zz (by decide) dflt
          · rcases (show (w0).toInt = 2 by omega) with zy <;> exact lv_tableIn (off := 43) (tgt := 44) hx hb dX6_mirrored_1 (by rw [zy]; decide) (by rw [zy]; decide) (by rw [zy]; rfl) (by decide) dflt
def f_X0_outcomeFor (σ : Mm) (w1 : Int32) (w2 : Int32) (w3 : Int32) : Option Int32 :=
  (f_X0_boardCell w1 w2).bind fun x1 =>
  (f_X2_at 120 9 σ x1).bind fun x2 =>
  (f_X0_colourAt σ w1 w2 w3).bind fun x3 =>
  if x3 = 0 then
    some x2
  else
    (f_X6_mirrored x2).bind fun x4 =>
    some x4
set_option maxHeartbeats 4000000 in
set_option maxRecDepth 100000 in
theorem c_X0_outcomeFor (l : Launch) (D : va_G) (cI cZ : ClassId) (a : Nat → Nat) (w1 : Int32) (w2 : Int32) (w3 : Int32) : CTr l D [(cI, FieldType.int), (cZ, FieldType.boolean)] (xW cI a) yX0_outcomeFor (.code yX0_outcomeFor cX0_outcomeFor 5 (some FieldType.int) :: wsL_law) ({ frames := 2, cells := 0, slots := 0, locals := 44 } : Room) [.ref (a 1), .int w1, .int w2, .int w3] (fun σ => f_X0_outcomeFor σ w1 w2 w3) := by
  refine CTr.of (by decide +kernel) (Nat.le_of_ble_eq_true rfl) ?_
  intro σ r hm p e s m below meth c A ls H locs hx hb hr hlk hml hT hown hK hA B hl
  have hown : s.vm.findClass RX0 = some m.cls := hown
  have hl : lv_has ls 5 [(0, .ref (a 1)), (1, .int w1), (2, .int w2), (3, .int w3)] := hl
  have hm : f_X0_outcomeFor σ w1 w2 w3 = some r := hm
  unfold f_X0_outcomeFor at hm
  refine lv_aload_n hx hb dX0_outcomeFor_0 rfl (lv_at hl 0 rfl) ?_
  refine x_getv (T := TX0) (N := 12) hx hb hT hown hK B xV_book_outcomes inlX0 rfl (by decide) q72 rfl dX0_outcomeFor_1 ?_
  refine lv_iload_n hx hb dX0_outcomeFor_4 rfl (lv_at hl 1 rfl) ?_
  refine lv_iload_n hx hb dX0_outcomeFor_5 rfl (lv_at hl 2 rfl) ?_
  refine x_callSr (rest := [.ref (a 14)]) hx hb hml hT hown hK hA B hl.1 (c_X0_boardCell l D cI cZ (xW cI a) w1 w2) mi_X0_boardCell q231 q240 ⟨rfl, rfl⟩ ⟨Nat.le_of_ble_eq_true rfl, Nat.le_of_ble_eq_true rfl⟩ rfl rfl (Nat.le_of_ble_eq_true rfl) dX0_outcomeFor_6 hm (fun x1 H locs B hm => ?_)
  refine x_callVr (rest := []) hx hb hml hT hown hK hA B hl.1 (c_X2_at l D cI cZ xV_book_outcomes_cells xA_book_outcomes x1) mi_X2_at mv_X2_at xO_book_outcomes rfl q241 ⟨rfl, rfl⟩ ⟨Nat.le_of_ble_eq_true rfl, Nat.le_of_ble_eq_true rfl⟩ rfl rfl (Nat.le_of_ble_eq_true rfl) dX0_outcomeFor_9 hm (fun x2 H locs B hm => ?_)
  refine lv_istore (lv' := [(4, .int x2), (0, .ref (a 1)), (1, .int w1), (2, .int w2), (3, .int w3)]) hx hb dX0_outcomeFor_12 hl (by decide) rfl (fun ls hl => ?_)
  refine lv_aload_n hx hb dX0_outcomeFor_14 rfl (lv_at hl 1 rfl) ?_
  refine lv_iload_n hx hb dX0_outcomeFor_15 rfl (lv_at hl 2 rfl) ?_
  refine lv_iload_n hx hb dX0_outcomeFor_16 rfl (lv_at hl 3 rfl) ?_
  refine lv_iload_n hx hb dX0_outcomeFor_17 rfl (lv_at hl 4 rfl) ?_
  refine x_callVr (rest := []) hx hb hml hT hown hK hA B hl.1 (c_X0_colourAt l D cI cZ a w1 w2 w3) mi_X0_colourAt mv_X0_colourAt xO_book rfl q242 ⟨rfl, rfl⟩ ⟨Nat.le_of_ble_eq_true rfl, Nat.le_of_ble_eq_true rfl⟩ rfl rfl (Nat.le_of_ble_eq_true rfl) dX0_outcomeFor_18 hm (fun x3 H locs B hm => ?_)
  refine lv_if_ne (tgt := 29) hx hb dX0_outcomeFor_21 (by decide) (fun q => ?_) (fun q => ?_)
  · have hm := iff hm q
    refine lv_iload hx hb dX0_outcomeFor_29 (lv_at hl 0 rfl) ?_
    refine x_callSrN (rest := []) hx hb hml hT hown hK hA B hl.1 (c_X6_mirrored l D cI cZ (xW cI a) x2) mi_X6_mirrored q247 q246 ⟨rfl, rfl⟩ ⟨Nat.le_of_ble_eq_true rfl, Nat.le_of_ble_eq_true rfl⟩ rfl rfl (Nat.le_of_ble_eq_true rfl) dX0_outcomeFor_31 hm (fun x4 H locs B hm => ?_)
    exact x_iretr hx hb hr hlk hK B dX0_outcomeFor_34 hm
  · have hm := ift hm q
    refine lv_iload hx hb dX0_outcomeFor_24 (lv_at hl 0 rfl) ?_
    refine lv_goto (tgt := 34) hx hb dX0_outcomeFor_26 (by decide) ?_
    exact x_iretr hx hb hr hlk hK B dX0_outcomeFor_34 hm
def f_X0_otherAt (σ : Mm) (w1 : Int32) (w2 : Int32) (w3 : Int32) : Option Int32 :=
  (f_X0_boardCell w1 w2).bind fun x1 =>
  (f_X2_at 120 7 σ x1).bind fun x2 =>
  if x2 = w3 then
    (f_X2_at 120 8 σ x1).bind fun x4 =>
    some x4
  else
    (f_X2_at 120 7 σ x1).bind fun x3 =>
    some x3
set_option maxHeartbeats 4000000 in
set_option maxRecDepth 100000 in
theorem c_X0_otherAt (l : Launch) (D : va_G) (cI cZ : ClassId) (a : Nat → Nat) (w1 : Int32) (w2 : Int32) (w3 : Int32) : CTr l D [(cI, FieldType.int), (cZ, FieldType.boolean)] (xW cI a) yX0_otherAt (.code yX0_otherAt cX0_otherAt 5 (some FieldType.int) :: wsL_law) ({ frames := 1, cells := 0, slots := 0, locals := 21 } : Room) [.ref (a 1), .int w1, .int w2, .int w3] (fun σ => f_X0_otherAt σ w1 w2 w3) := by
  refine CTr.of (by decide +kernel) (Nat.le_of_ble_eq_true rfl) ?_
  intro σ r hm p e s m below meth c A ls H locs hx hb hr hlk hml hT hown hK hA B hl
  have hown : s.vm.findClass RX0 = some m.cls := hown
  have hl : lv_has ls 5 [(0, .ref (a 1)), (1, .int w1), (2, .int w2), (3, .int w3)] := hl
  have hm : f_X0_otherAt σ w1 w2 w3 = some r := hm
  unfold f_X0_otherAt at hm
  refine lv_iload_n hx hb dX0_otherAt_0 rfl (lv_at hl 1 rfl) ?_
  refine lv_iload_n hx hb dX0_otherAt_1 rfl (lv_at hl 2 rfl) ?_
  refine x_callSr (rest := []) hx hb hml hT hown hK hA B hl.1 (c_X0_boardCell l D cI cZ (xW cI a) w1 w2) mi_X0_boardCell q231 q240 ⟨rfl, rfl⟩ ⟨Nat.le_of_ble_eq_true rfl, Nat.le_of_ble_eq_true rfl⟩ rfl rfl (Nat.le_of_ble_eq_true rfl) dX0_otherAt_2 hm (fun x1 H locs B hm => ?_)
  refine lv_istore (lv' := [(4, .int x1), (0, .ref (a 1)), (1, .int w1), (2, .int w2), (3, .int w3)]) hx hb dX0_otherAt_5 hl (by decide) rfl (fun ls hl => ?_)
  refine lv_aload_n hx hb dX0_otherAt_7 rfl (lv_at hl 1 rfl) ?_
  refine x_getv (T := TX0) (N := 12) hx hb hT hown hK B xV_book_whites inlX0 rfl (by decide) q66 rfl dX0_otherAt_8 ?_
  refine lv_iload hx hb dX0_otherAt_11 (lv_at hl 0 rfl) ?_
  refine x_callVr (rest := []) hx hb hml hT hown hK hA B hl.1 (c_X2_at l D cI cZ xV_book_whites_cells xA_book_whites x1) mi_X2_at mv_X2_at xO_book_whites rfl q241 ⟨rfl, rfl⟩ ⟨Nat.le_of_ble_eq_true rfl, Nat.le_of_ble_eq_true rfl⟩ rfl rfl (Nat.le_of_ble_eq_true rfl) dX0_otherAt_13 hm (fun x2 H locs B hm => ?_)
  refine lv_iload_n hx hb dX0_otherAt_16 rfl (lv_at hl 4 rfl) ?_
  refine lv_icmp_ne (tgt := 32) hx hb dX0_otherAt_17 (by decide) (fun q => ?_) (fun q => ?_)
  · have hm := iff hm q
    refine lv_aload_n hx hb dX0_otherAt_32 rfl (lv_at hl 1 rfl) ?_
    refine x_getv (T := TX0) (N := 12) hx hb hT hown hK B xV_book_whites inlX0 rfl (by decide) q66 rfl dX0_otherAt_33 ?_
    refine lv_iload hx hb dX0_otherAt_36 (lv_at hl 0 rfl) ?_
    refine x_callVr (rest := []) hx hb hml hT hown hK hA B hl.1 (c_X2_at l D cI cZ xV_book_whites_cells xA_book_whites x1) mi_X2_at mv_X2_at xO_book_whites rfl q241 ⟨rfl, rfl⟩ ⟨Nat.le_of_ble_eq_true rfl, Nat.le_of_ble_eq_true rfl⟩ rfl rfl (Nat.le_of_ble_eq_true rfl) dX0_otherAt_38 hm (fun x3 H locs B hm => ?_)
    exact x_iretr hx hb hr hlk hK B dX0_otherAt_41 hm
  · have hm := ift hm q
    refine lv_aload_n hx hb dX0_otherAt_20 rfl (lv_at hl 1 rfl) ?_
    refine x_getv (T := TX0) (N := 12) hx hb hT hown hK B xV_book_blacks inlX0 rfl (by decide) q69 rfl dX0_otherAt_21 ?_
    refine lv_iload hx hb dX0_otherAt_24 (lv_at hl 0 rfl) ?_
    refine x_callVr (rest := []) hx hb hml hT hown hK hA B hl.1 (c_X2_at l D cI cZ xV_book_blacks_cells xA_book_blacks x1) mi_X2_at mv_X2_at xO_book_blacks rfl q241 ⟨rfl, rfl⟩ ⟨Nat.le_of_ble_eq_true rfl, Nat.le_of_ble_eq_true rfl⟩ rfl rfl (Nat.le_of_ble_eq_true rfl) dX0_otherAt_26 hm (fun x4 H locs B hm => ?_)
    refine lv_goto (tgt := 41) hx hb dX0_otherAt_29 (by decide) ?_
    exact x_iretr hx hb hr hlk hK B dX0_otherAt_41 hm
def f_X4_countPlayed_j108 (σ : Mm) (v1 v4 v6 s1 s2 s3 : Int32) : Option Mm :=
  (f_X4_addTie σ s1 s2 s3).bind fun σ =>
  (f_X2_put 144 56 σ v6 v1).bind fun σ =>
  (f_X6_pointsFor v4).bind fun x1 =>
  (f_X2_put 144 57 σ v6 x1).bind fun σ =>
  some σ
def f_X4_countPlayed_j91 (σ : Mm) (v1 v3 v4 v6 s1 s2 s3 : Int32) : Option Mm :=
  (f_X4_addTie σ s1 s2 s3).bind fun σ =>
  if v4 = (1 : Int32) then
    f_X4_countPlayed_j108 σ v1 v4 v6 v3 (4 : Int32) (1 : Int32)
  else
    f_X4_countPlayed_j108 σ v1 v4 v6 v3 (4 : Int32) (0 : Int32)
def f_X4_countPlayed_j74 (σ : Mm) (v1 v3 v4 v5 v6 s1 s2 : Int32) : Option Mm :=
  (f_X2_add 12 52 σ s1 s2).bind fun σ =>
  if v5 = (1 : Int32) then
    f_X4_countPlayed_j91 σ v1 v3 v4 v6 v3 (5 : Int32) (1 : Int32)
  else
    f_X4_countPlayed_j91 σ v1 v3 v4 v6 v3 (5 : Int32) (0 : Int32)
def f_X4_countPlayed (σ : Mm) (w1 : Int32) (w2 : Int32) (w3 : Int32) : Option Mm :=
  (f_X0_outcomeFor σ w1 w2 w3).bind fun x2 =>
  (f_X0_colourAt σ w1 w2 w3).bind fun x3 =>
  (f_X0_otherAt σ w1 w2 w3).bind fun x4 =>
  (f_X4_twoCell w3 x4).bind fun x5 =>
  (f_X2_add 12 51 σ w3 (1 : Int32)).bind fun σ =>
  (f_X2_put 12 53 σ w3 x3).bind fun σ =>
  if x3 = 0 then
    f_X4_countPlayed_j74 σ w1 w3 x2 x3 x5 w3 (1 : Int32)
  else
    f_X4_countPlayed_j74 σ w1 w3 x2 x3 x5 w3 (-1 : Int32)
set_option maxHeartbeats 4000000 in
set_option maxRecDepth 100000 in
theorem c_X4_countPlayed (l : Launch) (D : va_G) (cI cZ : ClassId) (a : Nat → Nat) (w1 : Int32) (w2 : Int32) (w3 : Int32) : CTv l D [(cI, FieldType.int), (cZ, FieldType.boolean)] (xW cI a) yX4_countPlayed (.code yX4_countPlayed cX4_countPlayed 7 (none : Option FieldType) :: wsL_law) ({ frames := 3, cells := 0, slots := 0, locals := 68 } : Room) [.ref (a 35), .int w1, .int w2, .int w3] (fun σ => f_X4_countPlayed σ w1 w2 w3) := by
  refine CTv.of (by decide +kernel) (Nat.le_of_ble_eq_true rfl) ?_
  intro σ out hm p e s m below meth c A ls H locs hx hb hr hlk hml hT hown hK hA B hl
  have hown : s.vm.findClass RX4 = some m.cls := hown
  have hl : lv_has ls 7 [(0, .ref (a 35)), (1, .int w1), (2, .int w2), (3, .int w3)] := hl
  have hm : f_X4_countPlayed σ w1 w2 w3 = some out := hm
  unfold f_X4_countPlayed at hm
  have j108 : ∀ (σ : Mm) (v1 : Int32) (v4 : Int32) (v6 : Int32) (s1 : Int32) (s2 : Int32) (s3 : Int32) (H : Heap) (locs : List Loc) (ls : Array Slot), BD D A s.heap ((xW cI a) σ) H locs → lv_has ls 7 [(0, .ref (a 35)), (1, .int v1), (4, .int v4), (6, .int v6)] → f_X4_countPlayed_j108 σ v1 v4 v6 s1 s2 s3 = some out → W p l e ({ frames := 3, cells := 0, slots := 0, locals := 68 } : Room) s m ([.ref (a 35), .int w1, .int w2, .int w3] : List Value).toArray below meth c H locs 0 0 (MQ below (QV D [(cI, FieldType.int), (cZ, FieldType.boolean)] (xW cI a) A out) ([.ref (a 35), .int w1, .int w2, .int w3] : List Value).toArray s 0 0 A) (F0 m 108 ls [.int s3, .int s2, .int s1, .ref (a 35)]) := by
    intro σ v1 v4 v6 s1 s2 s3 H locs ls B hl hm
    unfold f_X4_countPlayed_j108 at hm
    refine x_callVv (rest := []) hx hb hml hT hown hK hA B hl.1 (c_X4_addTie l D cI cZ a s1 s2 s3) mi_X4_addTie mv_X4_addTie xO_table rfl q252 ⟨rfl, rfl⟩ ⟨Nat.le_of_ble_eq_true rfl, Nat.le_of_ble_eq_true rfl⟩ rfl rfl (Nat.le_of_ble_eq_true rfl) dX4_countPlayed_108 hm (fun σ H locs B hm => ?_)
    refine lv_aload_n hx hb dX4_countPlayed_111 rfl (lv_at hl 0 rfl) ?_
    refine x_getv (T := TX4) (N := 10) hx hb hT hown hK B xV_table_meetings inlX4 rfl (by decide) q116 rfl dX4_countPlayed_112 ?_
    refine lv_iload hx hb dX4_countPlayed_115 (lv_at hl 3 rfl) ?_
    refine lv_iload_n hx hb dX4_countPlayed_117 rfl (lv_at hl 1 rfl) ?_
    refine x_callVv (rest := []) hx hb hml hT hown hK hA B hl.1 (c_X2_put l D cI cZ xV_table_meetings_cells xA_table_meetings v6 v1) mi_X2_put mv_X2_put xO_table_meetings rfl q273 ⟨rfl, rfl⟩ ⟨Nat.le_of_ble_eq_true rfl, Nat.le_of_ble_eq_true rfl⟩ rfl rfl (Nat.le_of_ble_eq_true rfl) dX4_countPlayed_118 hm (fun σ H locs B hm => ?_)
    refine lv_aload_n hx hb dX4_countPlayed_121 rfl (lv_at hl 0 rfl) ?_
    refine x_getv (T := TX4) (N := 10) hx hb hT hown hK B xV_table_made inlX4 rfl (by decide) q117 rfl dX4_countPlayed_122 ?_
    refine lv_iload hx hb dX4_countPlayed_125 (lv_at hl 3 rfl) ?_
    refine lv_iload hx hb dX4_countPlayed_127 (lv_at hl 2 rfl) ?_
    refine x_callSrN (rest := [.int v6, .ref (a 50)]) hx hb hml hT hown hK hA B hl.1 (c_X6_pointsFor l D cI cZ (xW cI a) v4) mi_X6_pointsFor q250 q249 ⟨rfl, rfl⟩ ⟨Nat.le_of_ble_eq_true rfl, Nat.le_of_ble_eq_true rfl⟩ rfl rfl (Nat.le_of_ble_eq_true rfl) dX4_countPlayed_129 hm (fun x1 H locs B hm => ?_)
    refine x_callVv (rest := []) hx hb hml hT hown hK hA B hl.1 (c_X2_put l D cI cZ xV_table_made_cells xA_table_made v6 x1) mi_X2_put mv_X2_put xO_table_made rfl q273 ⟨rfl, rfl⟩ ⟨Nat.le_of_ble_eq_true rfl, Nat.le_of_ble_eq_true rfl⟩ rfl rfl (Nat.le_of_ble_eq_true rfl) dX4_countPlayed_132 hm (fun σ H locs B hm => ?_)
    exact x_vret hx hb hr hlk hK B dX4_countPlayed_135 hm
  have j91 : ∀ (σ : Mm) (v1 : Int32) (v3 : Int32) (v4 : Int32) (v6 : Int32) (s1 : Int32) (s2 : Int32) (s3 : Int32) (H : Heap) (locs : List Loc) (ls : Array Slot), BD D A s.heap ((xW cI a) σ) H locs → lv_has ls 7 [(0, .ref (a 35)), (1, .int v1), (3, .int v3), (4, .int v4), (6, .int v6)] → f_X4_countPlayed_j91 σ v1 v3 v4 v6 s1 s2 s3 = some out → W p l e ({ frames := 3, cells := 0, slots := 0, locals := 68 } : Room) s m ([.ref (a 35), .int w1, .int w2, .int w3] : List Value).toArray below meth c H locs 0 0 (MQ below (QV D [(cI, FieldType.int), (cZ, FieldType.boolean)] (xW cI a) A out) ([.ref (a 35), .int w1, .int w2, .int w3] : List Value).toArray s 0 0 A) (F0 m 91 ls [.int s3, .int s2, .int s1, .ref (a 35)]) := by
    intro σ v1 v3 v4 v6 s1 s2 s3 H locs ls B hl hm
    unfold f_X4_countPlayed_j91 at hm
    refine x_callVv (rest := []) hx hb hml hT hown hK hA B hl.1 (c_X4_addTie l D cI cZ a s1 s2 s3) mi_X4_addTie mv_X4_addTie xO_table rfl q252 ⟨rfl, rfl⟩ ⟨Nat.le_of_ble_eq_true rfl, Nat.le_of_ble_eq_true rfl⟩ rfl rfl (Nat.le_of_ble_eq_true rfl) dX4_countPlayed_91 hm (fun σ H locs B hm => ?_)
    refine lv_aload_n hx hb dX4_countPlayed_94 rfl (lv_at hl 0 rfl) ?_
    refine lv_iload_n hx hb dX4_countPlayed_95 rfl (lv_at hl 2 rfl) ?_
    refine lv_iconst (v := (4 : Int32)) hx hb dX4_countPlayed_96 (by decide) ?_
    refine lv_iload hx hb dX4_countPlayed_97 (lv_at hl 3 rfl) ?_
    refine lv_iconst (v := (1 : Int32)) hx hb dX4_countPlayed_99 (by decide) ?_
    refine lv_icmp_ne (tgt := 107) hx hb dX4_countPlayed_100 (by decide) (fun q => ?_) (fun q => ?_)
    · have hm := iff hm q
      refine lv_iconst (v := (0 : Int32)) hx hb dX4_countPlayed_107 (by decide) ?_
      exact j108 σ v1 v4 v6 v3 (4 : Int32) (0 : Int32) H locs ls B (lv_sub hl [0, 1, 3, 4] rfl) hm
    · have hm := ift hm q
      refine lv_iconst (v := (1 : Int32)) hx hb dX4_countPlayed_103 (by decide) ?_
      refine lv_goto (tgt := 108) hx hb dX4_countPlayed_104 (by decide) ?_
      exact j108 σ v1 v4 v6 v3 (4 : Int32) (1 : Int32) H locs ls B (lv_sub hl [0, 1, 3, 4] rfl) hm
  have j74 : ∀ (σ : Mm) (v1 : Int32) (v3 : Int32) (v4 : Int32) (v5 : Int32) (v6 : Int32) (s1 : Int32) (s2 : Int32) (H : Heap) (locs : List Loc) (ls : Array Slot), BD D A s.heap ((xW cI a) σ) H locs → lv_has ls 7 [(0, .ref (a 35)), (1, .int v1), (3, .int v3), (4, .int v4), (5, .int v5), (6, .int v6)] → f_X4_countPlayed_j74 σ v1 v3 v4 v5 v6 s1 s2 = some out → W p l e ({ frames := 3, cells := 0, slots := 0, locals := 68 } : Room) s m ([.ref (a 35), .int w1, .int w2, .int w3] : List Value).toArray below meth c H locs 0 0 (MQ below (QV D [(cI, FieldType.int), (cZ, FieldType.boolean)] (xW cI a) A out) ([.ref (a 35), .int w1, .int w2, .int w3] : List Value).toArray s 0 0 A) (F0 m 74 ls [.int s2, .int s1, .ref (a 40)]) := by
    intro σ v1 v3 v4 v5 v6 s1 s2 H locs ls B hl hm
    unfold f_X4_countPlayed_j74 at hm
    refine x_callVv (rest := []) hx hb hml hT hown hK hA B hl.1 (c_X2_add l D cI cZ xV_table_balances_cells xA_table_balances s1 s2) mi_X2_add mv_X2_add xO_table_balances rfl q255 ⟨rfl, rfl⟩ ⟨Nat.le_of_ble_eq_true rfl, Nat.le_of_ble_eq_true rfl⟩ rfl rfl (Nat.le_of_ble_eq_true rfl) dX4_countPlayed_74 hm (fun σ H locs B hm => ?_)
    refine lv_aload_n hx hb dX4_countPlayed_77 rfl (lv_at hl 0 rfl) ?_
    refine lv_iload_n hx hb dX4_countPlayed_78 rfl (lv_at hl 2 rfl) ?_
    refine lv_iconst (v := (5 : Int32)) hx hb dX4_countPlayed_79 (by decide) ?_
    refine lv_iload hx hb dX4_countPlayed_80 (lv_at hl 4 rfl) ?_
    refine lv_iconst (v := (1 : Int32)) hx hb dX4_countPlayed_82 (by decide) ?_
    refine lv_icmp_ne (tgt := 90) hx hb dX4_countPlayed_83 (by decide) (fun q => ?_) (fun q => ?_)
    · have hm := iff hm q
      refine lv_iconst (v := (0 : Int32)) hx hb dX4_countPlayed_90 (by decide) ?_
      exact j91 σ v1 v3 v4 v6 v3 (5 : Int32) (0 : Int32) H locs ls B (lv_sub hl [0, 1, 2, 3, 5] rfl) hm
    · have hm := ift hm q
      refine lv_iconst (v := (1 : Int32)) hx hb dX4_countPlayed_86 (by decide) ?_
      refine lv_goto (tgt := 91) hx hb dX4_countPlayed_87 (by decide) ?_
      exact j91 σ v1 v3 v4 v6 v3 (5 : Int32) (1 : Int32) H locs ls B (lv_sub hl [0, 1, 2, 3, 5] rfl) hm
  refine lv_aload_n hx hb dX4_countPlayed_0 rfl (lv_at hl 0 rfl) ?_
  refine x_getv (T := TX4) (N := 10) hx hb hT hown hK B xV_table_book inlX4 rfl (by decide) q100 rfl dX4_countPlayed_1 ?_
  refine lv_iload_n hx hb dX4_countPlayed_4 rfl (lv_at hl 1 rfl) ?_
  refine lv_iload_n hx hb dX4_countPlayed_5 rfl (lv_at hl 2 rfl) ?_
  refine lv_iload_n hx hb dX4_countPlayed_6 rfl (lv_at hl 3 rfl) ?_
  refine x_callVr (rest := []) hx hb hml hT hown hK hA B hl.1 (c_X0_outcomeFor l D cI cZ a w1 w2 w3) mi_X0_outcomeFor mv_X0_outcomeFor xO_book rfl q236 ⟨rfl, rfl⟩ ⟨Nat.le_of_ble_eq_true rfl, Nat.le_of_ble_eq_true rfl⟩ rfl rfl (Nat.le_of_ble_eq_true rfl) dX4_countPlayed_7 hm (fun x2 H locs B hm => ?_)
  refine lv_istore (lv' := [(4, .int x2), (0, .ref (a 35)), (1, .int w1), (2, .int w2), (3, .int w3)]) hx hb dX4_countPlayed_10 hl (by decide) rfl (fun ls hl => ?_)
  refine lv_aload_n hx hb dX4_countPlayed_12 rfl (lv_at hl 1 rfl) ?_
  refine x_getv (T := TX4) (N := 10) hx hb hT hown hK B xV_table_book inlX4 rfl (by decide) q100 rfl dX4_countPlayed_13 ?_
  refine lv_iload_n hx hb dX4_countPlayed_16 rfl (lv_at hl 2 rfl) ?_
  refine lv_iload_n hx hb dX4_countPlayed_17 rfl (lv_at hl 3 rfl) ?_
  refine lv_iload_n hx hb dX4_countPlayed_18 rfl (lv_at hl 4 rfl) ?_
  refine x_callVr (rest := []) hx hb hml hT hown hK hA B hl.1 (c_X0_colourAt l D cI cZ a w1 w2 w3) mi_X0_colourAt mv_X0_colourAt xO_book rfl q265 ⟨rfl, rfl⟩ ⟨Nat.le_of_ble_eq_true rfl, Nat.le_of_ble_eq_true rfl⟩ rfl rfl (Nat.le_of_ble_eq_true rfl) dX4_countPlayed_19 hm (fun x3 H locs B hm => ?_)
  refine lv_istore (lv' := [(5, .int x3), (4, .int x2), (0, .ref (a 35)), (1, .int w1), (2, .int w2), (3, .int w3)]) hx hb dX4_countPlayed_22 hl (by decide) rfl (fun ls hl => ?_)
  refine lv_iload_n hx hb dX4_countPlayed_24 rfl (lv_at hl 5 rfl) ?_
  refine lv_aload_n hx hb dX4_countPlayed_25 rfl (lv_at hl 2 rfl) ?_
  refine x_getv (T := TX4) (N := 10) hx hb hT hown hK B xV_table_book inlX4 rfl (by decide) q100 rfl dX4_countPlayed_26 ?_
  refine lv_iload_n hx hb dX4_countPlayed_29 rfl (lv_at hl 3 rfl) ?_
  refine lv_iload_n hx hb dX4_countPlayed_30 rfl (lv_at hl 4 rfl) ?_
  refine lv_iload_n hx hb dX4_countPlayed_31 rfl (lv_at hl 5 rfl) ?_
  refine x_callVr (rest := [.int w3]) hx hb hml hT hown hK hA B hl.1 (c_X0_otherAt l D cI cZ a w1 w2 w3) mi_X0_otherAt mv_X0_otherAt xO_book rfl q266 ⟨rfl, rfl⟩ ⟨Nat.le_of_ble_eq_true rfl, Nat.le_of_ble_eq_true rfl⟩ rfl rfl (Nat.le_of_ble_eq_true rfl) dX4_countPlayed_32 hm (fun x4 H locs B hm => ?_)
  refine x_callSr (rest := []) hx hb hml hT hown hK hA B hl.1 (c_X4_twoCell l D cI cZ (xW cI a) w3 x4) mi_X4_twoCell q271 q270 ⟨rfl, rfl⟩ ⟨Nat.le_of_ble_eq_true rfl, Nat.le_of_ble_eq_true rfl⟩ rfl rfl (Nat.le_of_ble_eq_true rfl) dX4_countPlayed_35 hm (fun x5 H locs B hm => ?_)
  refine lv_istore (lv' := [(6, .int x5), (5, .int x3), (4, .int x2), (0, .ref (a 35)), (1, .int w1), (2, .int w2), (3, .int w3)]) hx hb dX4_countPlayed_38 hl (by decide) rfl (fun ls hl => ?_)
  refine lv_aload_n hx hb dX4_countPlayed_40 rfl (lv_at hl 3 rfl) ?_
  refine x_getv (T := TX4) (N := 10) hx hb hT hown hK B xV_table_played inlX4 rfl (by decide) q102 rfl dX4_countPlayed_41 ?_
  refine lv_iload_n hx hb dX4_countPlayed_44 rfl (lv_at hl 6 rfl) ?_
  refine lv_iconst (v := (1 : Int32)) hx hb dX4_countPlayed_45 (by decide) ?_
  refine x_callVv (rest := []) hx hb hml hT hown hK hA B hl.1 (c_X2_add l D cI cZ xV_table_played_cells xA_table_played w3 (1 : Int32)) mi_X2_add mv_X2_add xO_table_played rfl q255 ⟨rfl, rfl⟩ ⟨Nat.le_of_ble_eq_true rfl, Nat.le_of_ble_eq_true rfl⟩ rfl rfl (Nat.le_of_ble_eq_true rfl) dX4_countPlayed_46 hm (fun σ H locs B hm => ?_)
  refine lv_aload_n hx hb dX4_countPlayed_49 rfl (lv_at hl 3 rfl) ?_
  refine x_getv (T := TX4) (N := 10) hx hb hT hown hK B xV_table_latest inlX4 rfl (by decide) q107 rfl dX4_countPlayed_50 ?_
  refine lv_iload_n hx hb dX4_countPlayed_53 rfl (lv_at hl 6 rfl) ?_
  refine lv_iload hx hb dX4_countPlayed_54 (lv_at hl 1 rfl) ?_
  refine x_callVv (rest := []) hx hb hml hT hown hK hA B hl.1 (c_X2_put l D cI cZ xV_table_latest_cells xA_table_latest w3 x3) mi_X2_put mv_X2_put xO_table_latest rfl q273 ⟨rfl, rfl⟩ ⟨Nat.le_of_ble_eq_true rfl, Nat.le_of_ble_eq_true rfl⟩ rfl rfl (Nat.le_of_ble_eq_true rfl) dX4_countPlayed_56 hm (fun σ H locs B hm => ?_)
  refine lv_aload_n hx hb dX4_countPlayed_59 rfl (lv_at hl 3 rfl) ?_
  refine x_getv (T := TX4) (N := 10) hx hb hT hown hK B xV_table_balances inlX4 rfl (by decide) q104 rfl dX4_countPlayed_60 ?_
  refine lv_iload_n hx hb dX4_countPlayed_63 rfl (lv_at hl 6 rfl) ?_
  refine lv_iload hx hb dX4_countPlayed_64 (lv_at hl 1 rfl) ?_
  refine lv_if_ne (tgt := 73) hx hb dX4_countPlayed_66 (by decide) (fun q => ?_) (fun q => ?_)
  · have hm := iff hm q
    refine lv_iconst (v := (-1 : Int32)) hx hb dX4_countPlayed_73 (by decide) ?_
    exact j74 σ w1 w3 x2 x3 x5 w3 (-1 : Int32) H locs ls B (lv_sub hl [3, 4, 6, 2, 1, 0] rfl) hm
  · have hm := ift hm q
    refine lv_iconst (v := (1 : Int32)) hx hb dX4_countPlayed_69 (by decide) ?_
    refine lv_goto (tgt := 74) hx hb dX4_countPlayed_70 (by decide) ?_
    exact j74 σ w1 w3 x2 x3 x5 w3 (1 : Int32) H locs ls B (lv_sub hl [3, 4, 6, 2, 1, 0] rfl) hm
def f_X4_countSide_j38 (σ : Mm) (v1 v2 v3 v4 : Int32) : Option Mm :=
  (f_X6_isOverTheBoard v4).bind fun x1 =>
  if x1 = 0 then
    some σ
  else
    (f_X4_countPlayed σ v1 v2 v3).bind fun σ =>
    some σ
def f_X4_countSide (σ : Mm) (w1 : Int32) (w2 : Int32) (w3 : Int32) : Option Mm :=
  (f_X0_outcomeFor σ w1 w2 w3).bind fun x2 =>
  (f_X6_pointsFor x2).bind fun x3 =>
  (f_X4_addTie σ w3 (0 : Int32) x3).bind fun σ =>
  if x2 = (4 : Int32) then
    (f_X2_add 12 55 σ w3 (1 : Int32)).bind fun σ =>
    f_X4_countSide_j38 σ w1 w2 w3 x2
  else
    f_X4_countSide_j38 σ w1 w2 w3 x2
set_option maxHeartbeats 4000000 in
set_option maxRecDepth 100000 in
theorem c_X4_countSide (l : Launch) (D : va_G) (cI cZ : ClassId) (a : Nat → Nat) (w1 : Int32) (w2 : Int32) (w3 : Int32) : CTv l D [(cI, FieldType.int), (cZ, FieldType.boolean)] (xW cI a) yX4_countSide (.code yX4_countSide cX4_countSide 5 (none : Option FieldType) :: wsL_law) ({ frames := 4, cells := 0, slots := 0, locals := 94 } : Room) [.ref (a 35), .int w1, .int w2, .int w3] (fun σ => f_X4_countSide σ w1 w2 w3) := by
  refine CTv.of (by decide +kernel) (Nat.le_of_ble_eq_true rfl) ?_
  intro σ out hm p e s m below meth c A ls H locs hx hb hr hlk hml hT hown hK hA B hl
  have hown : s.vm.findClass RX4 = some m.cls := hown
  have hl : lv_has ls 5 [(0, .ref (a 35)), (1, .int w1), (2, .int w2), (3, .int w3)] := hl
  have hm : f_X4_countSide σ w1 w2 w3 = some out := hm
  unfold f_X4_countSide at hm
  have j38 : ∀ (σ : Mm) (v1 : Int32) (v2 : Int32) (v3 : Int32) (v4 : Int32) (H : Heap) (locs : List Loc) (ls : Array Slot), BD D A s.heap ((xW cI a) σ) H locs → lv_has ls 5 [(0, .ref (a 35)), (1, .int v1), (2, .int v2), (3, .int v3), (4, .int v4)] → f_X4_countSide_j38 σ v1 v2 v3 v4 = some out → W p l e ({ frames := 4, cells := 0, slots := 0, locals := 94 } : Room) s m ([.ref (a 35), .int w1, .int w2, .int w3] : List Value).toArray below meth c H locs 0 0 (MQ below (QV D [(cI, FieldType.int), (cZ, FieldType.boolean)] (xW cI a) A out) ([.ref (a 35), .int w1, .int w2, .int w3] : List Value).toArray s 0 0 A) (F0 m 38 ls []) := by
    intro σ v1 v2 v3 v4 H locs ls B hl hm
    unfold f_X4_countSide_j38 at hm
    refine lv_iload hx hb dX4_countSide_38 (lv_at hl 4 rfl) ?_
    refine x_callSrN (rest := []) hx hb hml hT hown hK hA B hl.1 (c_X6_isOverTheBoard l D cI cZ (xW cI a) v4) mi_X6_isOverTheBoard q260 q259 ⟨rfl, rfl⟩ ⟨Nat.le_of_ble_eq_true rfl, Nat.le_of_ble_eq_true rfl⟩ rfl rfl (Nat.le_of_ble_eq_true rfl) dX4_countSide_40 hm (fun x1 H locs B hm => ?_)
    refine lv_if_eq (tgt := 53) hx hb dX4_countSide_43 (by decide) (fun q => ?_) (fun q => ?_)
    · have hm := ift hm q
      exact x_vret hx hb hr hlk hK B dX4_countSide_53 hm
    · have hm := iff hm q
      refine lv_aload_n hx hb dX4_countSide_46 rfl (lv_at hl 0 rfl) ?_
      refine lv_iload_n hx hb dX4_countSide_47 rfl (lv_at hl 1 rfl) ?_
      refine lv_iload_n hx hb dX4_countSide_48 rfl (lv_at hl 2 rfl) ?_
      refine lv_iload_n hx hb dX4_countSide_49 rfl (lv_at hl 3 rfl) ?_
      refine x_callVv (rest := []) hx hb hml hT hown hK hA B hl.1 (c_X4_countPlayed l D cI cZ a v1 v2 v3) mi_X4_countPlayed mv_X4_countPlayed xO_table rfl q262 ⟨rfl, rfl⟩ ⟨Nat.le_of_ble_eq_true rfl, Nat.le_of_ble_eq_true rfl⟩ rfl rfl (Nat.le_of_ble_eq_true rfl) dX4_countSide_50 hm (fun σ H locs B hm => ?_)
      exact x_vret hx hb hr hlk hK B dX4_countSide_53 hm
  refine lv_aload_n hx hb dX4_countSide_0 rfl (lv_at hl 0 rfl) ?_
  refine x_getv (T := TX4) (N := 10) hx hb hT hown hK B xV_table_book inlX4 rfl (by decide) q100 rfl dX4_countSide_1 ?_
  refine lv_iload_n hx hb dX4_countSide_4 rfl (lv_at hl 1 rfl) ?_
  refine lv_iload_n hx hb dX4_countSide_5 rfl (lv_at hl 2 rfl) ?_
  refine lv_iload_n hx hb dX4_countSide_6 rfl (lv_at hl 3 rfl) ?_
  refine x_callVr (rest := []) hx hb hml hT hown hK hA B hl.1 (c_X0_outcomeFor l D cI cZ a w1 w2 w3) mi_X0_outcomeFor mv_X0_outcomeFor xO_book rfl q236 ⟨rfl, rfl⟩ ⟨Nat.le_of_ble_eq_true rfl, Nat.le_of_ble_eq_true rfl⟩ rfl rfl (Nat.le_of_ble_eq_true rfl) dX4_countSide_7 hm (fun x2 H locs B hm => ?_)
  refine lv_istore (lv' := [(4, .int x2), (0, .ref (a 35)), (1, .int w1), (2, .int w2), (3, .int w3)]) hx hb dX4_countSide_10 hl (by decide) rfl (fun ls hl => ?_)
  refine lv_aload_n hx hb dX4_countSide_12 rfl (lv_at hl 1 rfl) ?_
  refine lv_iload_n hx hb dX4_countSide_13 rfl (lv_at hl 4 rfl) ?_
  refine lv_iconst (v := (0 : Int32)) hx hb dX4_countSide_14 (by decide) ?_
  refine lv_iload hx hb dX4_countSide_15 (lv_at hl 0 rfl) ?_
  refine x_callSrN (rest := [.int (0 : Int32), .int w3, .ref (a 35)]) hx hb hml hT hown hK hA B hl.1 (c_X6_pointsFor l D cI cZ (xW cI a) x2) mi_X6_pointsFor q250 q249 ⟨rfl, rfl⟩ ⟨Nat.le_of_ble_eq_true rfl, Nat.le_of_ble_eq_true rfl⟩ rfl rfl (Nat.le_of_ble_eq_true rfl) dX4_countSide_17 hm (fun x3 H locs B hm => ?_)
  refine x_callVv (rest := []) hx hb hml hT hown hK hA B hl.1 (c_X4_addTie l D cI cZ a w3 (0 : Int32) x3) mi_X4_addTie mv_X4_addTie xO_table rfl q252 ⟨rfl, rfl⟩ ⟨Nat.le_of_ble_eq_true rfl, Nat.le_of_ble_eq_true rfl⟩ rfl rfl (Nat.le_of_ble_eq_true rfl) dX4_countSide_20 hm (fun σ H locs B hm => ?_)
  refine lv_iload hx hb dX4_countSide_23 (lv_at hl 0 rfl) ?_
  refine lv_iconst (v := (4 : Int32)) hx hb dX4_countSide_25 (by decide) ?_
  refine lv_icmp_ne (tgt := 38) hx hb dX4_countSide_26 (by decide) (fun q => ?_) (fun q => ?_)
  · have hm := iff hm q
    exact j38 σ w1 w2 w3 x2 H locs ls B (lv_sub hl [1, 2, 3, 4, 0] rfl) hm
  · have hm := ift hm q
    refine lv_aload_n hx hb dX4_countSide_29 rfl (lv_at hl 1 rfl) ?_
    refine x_getv (T := TX4) (N := 10) hx hb hT hown hK B xV_table_forfeits inlX4 rfl (by decide) q113 rfl dX4_countSide_30 ?_
    refine lv_iload_n hx hb dX4_countSide_33 rfl (lv_at hl 4 rfl) ?_
    refine lv_iconst (v := (1 : Int32)) hx hb dX4_countSide_34 (by decide) ?_
    refine x_callVv (rest := []) hx hb hml hT hown hK hA B hl.1 (c_X2_add l D cI cZ xV_table_forfeits_cells xA_table_forfeits w3 (1 : Int32)) mi_X2_add mv_X2_add xO_table_forfeits rfl q255 ⟨rfl, rfl⟩ ⟨Nat.le_of_ble_eq_true rfl, Nat.le_of_ble_eq_true rfl⟩ rfl rfl (Nat.le_of_ble_eq_true rfl) dX4_countSide_35 hm (fun σ H locs B hm => ?_)
    exact j38 σ w1 w2 w3 x2 H locs ls B (lv_sub hl [1, 2, 3, 4, 0] rfl) hm
def f_X4_countRound_s99 (r99 : Mm → Int32 → Option Mm) (σ : Mm) (v3 : Int32) : Option Mm :=
  (some (σ 0 0)).bind fun x1 =>
  if x1 ≤ v3 then
    some σ
  else
    (f_X4_tieOf σ v3 (0 : Int32)).bind fun x2 =>
    (f_X4_addTie σ v3 (6 : Int32) x2).bind fun σ =>
    r99 σ (v3 + (1 : Int32))
def f_X4_countRound_j63 (σ : Mm) (v1 : Int32) : Option Mm :=
  (f_X2_at 20 6 σ v1).bind fun x3 =>
  if x3 = (-5 : Int32) then
    wh2 (f_X4_countRound_s99) 5000 σ (0 : Int32)
  else
    (f_X2_add 12 54 σ x3 (1 : Int32)).bind fun σ =>
    (f_X4_addTie σ x3 (0 : Int32) (2 : Int32)).bind fun σ =>
    wh2 (f_X4_countRound_s99) 5000 σ (0 : Int32)
def f_X4_countRound_s2 (v1 : Int32) (r2 : Mm → Int32 → Option Mm) (σ : Mm) (v2 : Int32) : Option Mm :=
  (f_X2_at 20 5 σ v1).bind fun x4 =>
  if x4 ≤ v2 then
    f_X4_countRound_j63 σ v1
  else
    (f_X0_boardCell v1 v2).bind fun x5 =>
    (f_X2_at 120 7 σ x5).bind fun x6 =>
    (f_X4_countSide σ v1 v2 x6).bind fun σ =>
    (f_X2_at 120 8 σ x5).bind fun x7 =>
    (f_X4_countSide σ v1 v2 x7).bind fun σ =>
    r2 σ (v2 + (1 : Int32))
def f_X4_countRound (σ : Mm) (w1 : Int32) : Option Mm :=
  wh2 (f_X4_countRound_s2 w1) 5000 σ (0 : Int32)
set_option maxHeartbeats 4000000 in
set_option maxRecDepth 100000 in
theorem c_X4_countRound (l : Launch) (D : va_G) (cI cZ : ClassId) (a : Nat → Nat) (w1 : Int32) : CTv l D [(cI, FieldType.int), (cZ, FieldType.boolean)] (xW cI a) yX4_countRound (.code yX4_countRound cX4_countRound 4 (none : Option FieldType) :: wsL_law) ({ frames := 5, cells := 0, slots := 0, locals := 118 } : Room) [.ref (a 35), .int w1] (fun σ => f_X4_countRound σ w1) := by
  refine CTv.of (by decide +kernel) (Nat.le_of_ble_eq_true rfl) ?_
  intro σ out hm p e s m below meth c A ls H locs hx hb hr hlk hml hT hown hK hA B hl
  have hown : s.vm.findClass RX4 = some m.cls := hown
  have hl : lv_has ls 4 [(0, .ref (a 35)), (1, .int w1)] := hl
  have hm : f_X4_countRound σ w1 = some out := hm
  unfold f_X4_countRound at hm
  have L99 : ∀ (nn : Nat) (σ : Mm) (v3 : Int32), wh2 f_X4_countRound_s99 nn σ v3 = some out → ∀ (H : Heap) (locs : List Loc) (ls : Array Slot), BD D A s.heap ((xW cI a) σ) H locs → lv_has ls 4 [(0, .ref (a 35)), (3, .int v3)] → W p l e ({ frames := 5, cells := 0, slots := 0, locals := 118 } : Room) s m ([.ref (a 35), .int w1] : List Value).toArray below meth c H locs 0 0 (MQ below (QV D [(cI, FieldType.int), (cZ, FieldType.boolean)] (xW cI a) A out) ([.ref (a 35), .int w1] : List Value).toArray s 0 0 A) (F0 m 99 ls []) := by
    refine loop2 (fun r99 ih99 σ v3 hm H locs ls B hl => ?_)
    unfold f_X4_countRound_s99 at hm
    refine lv_iload_n hx hb dX4_countRound_99 rfl (lv_at hl 1 rfl) ?_
    refine lv_aload_n hx hb dX4_countRound_100 rfl (lv_at hl 0 rfl) ?_
    refine x_getv (T := TX4) (N := 10) hx hb hT hown hK B xV_table_book inlX4 rfl (by decide) q100 rfl dX4_countRound_101 ?_
    refine x_getibN (T := TX0) (N := 12) hx hb hT hown hK B xI_book_players inlX0 rfl (by decide) q48 rfl dX4_countRound_104 hm (fun x1 hm => ?_)
    refine lv_icmp_ge (tgt := 129) hx hb dX4_countRound_107 (by decide) (fun q => ?_) (fun q => ?_)
    · have hm := ift hm q
      exact x_vret hx hb hr hlk hK B dX4_countRound_129 hm
    · have hm := iff hm q
      refine lv_aload_n hx hb dX4_countRound_110 rfl (lv_at hl 0 rfl) ?_
      refine lv_iload_n hx hb dX4_countRound_111 rfl (lv_at hl 1 rfl) ?_
      refine lv_bipush (v := (6 : Int32)) hx hb dX4_countRound_112 (by decide) ?_
      refine lv_aload_n hx hb dX4_countRound_114 rfl (lv_at hl 0 rfl) ?_
      refine lv_iload_n hx hb dX4_countRound_115 rfl (lv_at hl 1 rfl) ?_
      refine lv_iconst (v := (0 : Int32)) hx hb dX4_countRound_116 (by decide) ?_
      refine x_callVr (rest := [.int (6 : Int32), .int v3, .ref (a 35)]) hx hb hml hT hown hK hA B hl.1 (c_X4_tieOf l D cI cZ a v3 (0 : Int32)) mi_X4_tieOf mv_X4_tieOf xO_table rfl q274 ⟨rfl, rfl⟩ ⟨Nat.le_of_ble_eq_true rfl, Nat.le_of_ble_eq_true rfl⟩ rfl rfl (Nat.le_of_ble_eq_true rfl) dX4_countRound_117 hm (fun x2 H locs B hm => ?_)
      refine x_callVv (rest := []) hx hb hml hT hown hK hA B hl.1 (c_X4_addTie l D cI cZ a v3 (6 : Int32) x2) mi_X4_addTie mv_X4_addTie xO_table rfl q252 ⟨rfl, rfl⟩ ⟨Nat.le_of_ble_eq_true rfl, Nat.le_of_ble_eq_true rfl⟩ rfl rfl (Nat.le_of_ble_eq_true rfl) dX4_countRound_120 hm (fun σ H locs B hm => ?_)
      refine lv_iinc (v := (v3 + (1 : Int32))) (lv' := [(3, .int (v3 + (1 : Int32))), (0, .ref (a 35))]) hx hb dX4_countRound_123 hl (k := 1) rfl rfl (by decide) rfl (fun ls hl => ?_)
      refine lv_goto (tgt := 99) hx hb dX4_countRound_126 (by decide) ?_
      exact ih99 σ (v3 + (1 : Int32)) hm H locs ls B (lv_sub hl [1, 0] rfl)
  have j63 : ∀ (σ : Mm) (v1 : Int32) (H : Heap) (locs : List Loc) (ls : Array Slot), BD D A s.heap ((xW cI a) σ) H locs → lv_has ls 4 [(0, .ref (a 35)), (1, .int v1)] → f_X4_countRound_j63 σ v1 = some out → W p l e ({ frames := 5, cells := 0, slots := 0, locals := 118 } : Room) s m ([.ref (a 35), .int w1] : List Value).toArray below meth c H locs 0 0 (MQ below (QV D [(cI, FieldType.int), (cZ, FieldType.boolean)] (xW cI a) A out) ([.ref (a 35), .int w1] : List Value).toArray s 0 0 A) (F0 m 63 ls []) := by
    intro σ v1 H locs ls B hl hm
    unfold f_X4_countRound_j63 at hm
    refine lv_aload_n hx hb dX4_countRound_63 rfl (lv_at hl 0 rfl) ?_
    refine x_getv (T := TX4) (N := 10) hx hb hT hown hK B xV_table_book inlX4 rfl (by decide) q100 rfl dX4_countRound_64 ?_
    refine x_getvN (T := TX0) (N := 12) hx hb hT hown hK B xV_book_byes inlX0 rfl (by decide) q64 rfl dX4_countRound_67 ?_
    refine lv_iload_n hx hb dX4_countRound_70 rfl (lv_at hl 1 rfl) ?_
    refine x_callVr (rest := []) hx hb hml hT hown hK hA B hl.1 (c_X2_at l D cI cZ xV_book_byes_cells xA_book_byes v1) mi_X2_at mv_X2_at xO_book_byes rfl q226 ⟨rfl, rfl⟩ ⟨Nat.le_of_ble_eq_true rfl, Nat.le_of_ble_eq_true rfl⟩ rfl rfl (Nat.le_of_ble_eq_true rfl) dX4_countRound_71 hm (fun x3 H locs B hm => ?_)
    refine lv_istore_n (lv' := [(2, .int x3), (0, .ref (a 35)), (1, .int v1)]) hx hb dX4_countRound_74 rfl hl (by decide) rfl (fun ls hl => ?_)
    refine lv_iload_n hx hb dX4_countRound_75 rfl (lv_at hl 0 rfl) ?_
    refine lv_bipush (v := (-5 : Int32)) hx hb dX4_countRound_76 (by decide) ?_
    refine lv_icmp_eq (tgt := 97) hx hb dX4_countRound_78 (by decide) (fun q => ?_) (fun q => ?_)
    · have hm := ift hm q
      refine lv_iconst (v := (0 : Int32)) hx hb dX4_countRound_97 (by decide) ?_
      refine lv_istore_n (lv' := [(3, .int (0 : Int32)), (2, .int x3), (0, .ref (a 35)), (1, .int v1)]) hx hb dX4_countRound_98 rfl hl (by decide) rfl (fun ls hl => ?_)
      exact L99 5000 σ (0 : Int32) hm H locs ls B (lv_sub hl [2, 0] rfl)
    · have hm := iff hm q
      refine lv_aload_n hx hb dX4_countRound_81 rfl (lv_at hl 1 rfl) ?_
      refine x_getv (T := TX4) (N := 10) hx hb hT hown hK B xV_table_byes inlX4 rfl (by decide) q110 rfl dX4_countRound_82 ?_
      refine lv_iload_n hx hb dX4_countRound_85 rfl (lv_at hl 0 rfl) ?_
      refine lv_iconst (v := (1 : Int32)) hx hb dX4_countRound_86 (by decide) ?_
      refine x_callVv (rest := []) hx hb hml hT hown hK hA B hl.1 (c_X2_add l D cI cZ xV_table_byes_cells xA_table_byes x3 (1 : Int32)) mi_X2_add mv_X2_add xO_table_byes rfl q255 ⟨rfl, rfl⟩ ⟨Nat.le_of_ble_eq_true rfl, Nat.le_of_ble_eq_true rfl⟩ rfl rfl (Nat.le_of_ble_eq_true rfl) dX4_countRound_87 hm (fun σ H locs B hm => ?_)
      refine lv_aload_n hx hb dX4_countRound_90 rfl (lv_at hl 1 rfl) ?_
      refine lv_iload_n hx hb dX4_countRound_91 rfl (lv_at hl 0 rfl) ?_
      refine lv_iconst (v := (0 : Int32)) hx hb dX4_countRound_92 (by decide) ?_
      refine lv_iconst (v := (2 : Int32)) hx hb dX4_countRound_93 (by decide) ?_
      refine x_callVv (rest := []) hx hb hml hT hown hK hA B hl.1 (c_X4_addTie l D cI cZ a x3 (0 : Int32) (2 : Int32)) mi_X4_addTie mv_X4_addTie xO_table rfl q252 ⟨rfl, rfl⟩ ⟨Nat.le_of_ble_eq_true rfl, Nat.le_of_ble_eq_true rfl⟩ rfl rfl (Nat.le_of_ble_eq_true rfl) dX4_countRound_94 hm (fun σ H locs B hm => ?_)
      refine lv_iconst (v := (0 : Int32)) hx hb dX4_countRound_97 (by decide) ?_
      refine lv_istore_n (lv' := [(3, .int (0 : Int32)), (2, .int x3), (0, .ref (a 35)), (1, .int v1)]) hx hb dX4_countRound_98 rfl hl (by decide) rfl (fun ls hl => ?_)
      exact L99 5000 σ (0 : Int32) hm H locs ls B (lv_sub hl [2, 0] rfl)
  have L2 : ∀ (v1 : Int32) (nn : Nat) (σ : Mm) (v2 : Int32), wh2 (f_X4_countRound_s2 v1) nn σ v2 = some out → ∀ (H : Heap) (locs : List Loc) (ls : Array Slot), BD D A s.heap ((xW cI a) σ) H locs → lv_has ls 4 [(0, .ref (a 35)), (1, .int v1), (2, .int v2)] → W p l e ({ frames := 5, cells := 0, slots := 0, locals := 118 } : Room) s m ([.ref (a 35), .int w1] : List Value).toArray below meth c H locs 0 0 (MQ below (QV D [(cI, FieldType.int), (cZ, FieldType.boolean)] (xW cI a) A out) ([.ref (a 35), .int w1] : List Value).toArray s 0 0 A) (F0 m 2 ls []) := by
    intro v1
    refine loop2 (fun r2 ih2 σ v2 hm H locs ls B hl => ?_)
    unfold f_X4_countRound_s2 at hm
    refine lv_iload_n hx hb dX4_countRound_2 rfl (lv_at hl 2 rfl) ?_
    refine lv_aload_n hx hb dX4_countRound_3 rfl (lv_at hl 0 rfl) ?_
    refine x_getv (T := TX4) (N := 10) hx hb hT hown hK B xV_table_book inlX4 rfl (by decide) q100 rfl dX4_countRound_4 ?_
    refine x_getvN (T := TX0) (N := 12) hx hb hT hown hK B xV_book_boards inlX0 rfl (by decide) q61 rfl dX4_countRound_7 ?_
    refine lv_iload_n hx hb dX4_countRound_10 rfl (lv_at hl 1 rfl) ?_
    refine x_callVr (rest := [.int v2]) hx hb hml hT hown hK hA B hl.1 (c_X2_at l D cI cZ xV_book_boards_cells xA_book_boards v1) mi_X2_at mv_X2_at xO_book_boards rfl q226 ⟨rfl, rfl⟩ ⟨Nat.le_of_ble_eq_true rfl, Nat.le_of_ble_eq_true rfl⟩ rfl rfl (Nat.le_of_ble_eq_true rfl) dX4_countRound_11 hm (fun x4 H locs B hm => ?_)
    refine lv_icmp_ge (tgt := 63) hx hb dX4_countRound_14 (by decide) (fun q => ?_) (fun q => ?_)
    · have hm := ift hm q
      exact j63 σ v1 H locs ls B (lv_sub hl [0, 1] rfl) hm
    · have hm := iff hm q
      refine lv_iload_n hx hb dX4_countRound_17 rfl (lv_at hl 1 rfl) ?_
      refine lv_iload_n hx hb dX4_countRound_18 rfl (lv_at hl 2 rfl) ?_
      refine x_callSr (rest := []) hx hb hml hT hown hK hA B hl.1 (c_X0_boardCell l D cI cZ (xW cI a) v1 v2) mi_X0_boardCell q231 q230 ⟨rfl, rfl⟩ ⟨Nat.le_of_ble_eq_true rfl, Nat.le_of_ble_eq_true rfl⟩ rfl rfl (Nat.le_of_ble_eq_true rfl) dX4_countRound_19 hm (fun x5 H locs B hm => ?_)
      refine lv_istore_n (lv' := [(3, .int x5), (0, .ref (a 35)), (1, .int v1), (2, .int v2)]) hx hb dX4_countRound_22 rfl hl (by decide) rfl (fun ls hl => ?_)
      refine lv_aload_n hx hb dX4_countRound_23 rfl (lv_at hl 1 rfl) ?_
      refine lv_iload_n hx hb dX4_countRound_24 rfl (lv_at hl 2 rfl) ?_
      refine lv_iload_n hx hb dX4_countRound_25 rfl (lv_at hl 3 rfl) ?_
      refine lv_aload_n hx hb dX4_countRound_26 rfl (lv_at hl 1 rfl) ?_
      refine x_getv (T := TX4) (N := 10) hx hb hT hown hK B xV_table_book inlX4 rfl (by decide) q100 rfl dX4_countRound_27 ?_
      refine x_getvN (T := TX0) (N := 12) hx hb hT hown hK B xV_book_whites inlX0 rfl (by decide) q67 rfl dX4_countRound_30 ?_
      refine lv_iload_n hx hb dX4_countRound_33 rfl (lv_at hl 0 rfl) ?_
      refine x_callVr (rest := [.int v2, .int v1, .ref (a 35)]) hx hb hml hT hown hK hA B hl.1 (c_X2_at l D cI cZ xV_book_whites_cells xA_book_whites x5) mi_X2_at mv_X2_at xO_book_whites rfl q226 ⟨rfl, rfl⟩ ⟨Nat.le_of_ble_eq_true rfl, Nat.le_of_ble_eq_true rfl⟩ rfl rfl (Nat.le_of_ble_eq_true rfl) dX4_countRound_34 hm (fun x6 H locs B hm => ?_)
      refine x_callVv (rest := []) hx hb hml hT hown hK hA B hl.1 (c_X4_countSide l D cI cZ a v1 v2 x6) mi_X4_countSide mv_X4_countSide xO_table rfl q233 ⟨rfl, rfl⟩ ⟨Nat.le_of_ble_eq_true rfl, Nat.le_of_ble_eq_true rfl⟩ rfl rfl (Nat.le_of_ble_eq_true rfl) dX4_countRound_37 hm (fun σ H locs B hm => ?_)
      refine lv_aload_n hx hb dX4_countRound_40 rfl (lv_at hl 1 rfl) ?_
      refine lv_iload_n hx hb dX4_countRound_41 rfl (lv_at hl 2 rfl) ?_
      refine lv_iload_n hx hb dX4_countRound_42 rfl (lv_at hl 3 rfl) ?_
      refine lv_aload_n hx hb dX4_countRound_43 rfl (lv_at hl 1 rfl) ?_
      refine x_getv (T := TX4) (N := 10) hx hb hT hown hK B xV_table_book inlX4 rfl (by decide) q100 rfl dX4_countRound_44 ?_
      refine x_getvN (T := TX0) (N := 12) hx hb hT hown hK B xV_book_blacks inlX0 rfl (by decide) q70 rfl dX4_countRound_47 ?_
      refine lv_iload_n hx hb dX4_countRound_50 rfl (lv_at hl 0 rfl) ?_
      refine x_callVr (rest := [.int v2, .int v1, .ref (a 35)]) hx hb hml hT hown hK hA B hl.1 (c_X2_at l D cI cZ xV_book_blacks_cells xA_book_blacks x5) mi_X2_at mv_X2_at xO_book_blacks rfl q226 ⟨rfl, rfl⟩ ⟨Nat.le_of_ble_eq_true rfl, Nat.le_of_ble_eq_true rfl⟩ rfl rfl (Nat.le_of_ble_eq_true rfl) dX4_countRound_51 hm (fun x7 H locs B hm => ?_)
      refine x_callVv (rest := []) hx hb hml hT hown hK hA B hl.1 (c_X4_countSide l D cI cZ a v1 v2 x7) mi_X4_countSide mv_X4_countSide xO_table rfl q233 ⟨rfl, rfl⟩ ⟨Nat.le_of_ble_eq_true rfl, Nat.le_of_ble_eq_true rfl⟩ rfl rfl (Nat.le_of_ble_eq_true rfl) dX4_countRound_54 hm (fun σ H locs B hm => ?_)
      refine lv_iinc (v := (v2 + (1 : Int32))) (lv' := [(2, .int (v2 + (1 : Int32))), (3, .int x5), (0, .ref (a 35)), (1, .int v1)]) hx hb dX4_countRound_57 hl (k := 3) rfl rfl (by decide) rfl (fun ls hl => ?_)
      refine lv_goto (tgt := 2) hx hb dX4_countRound_60 (by decide) ?_
      exact ih2 σ (v2 + (1 : Int32)) hm H locs ls B (lv_sub hl [2, 3, 0] rfl)
  refine lv_iconst (v := (0 : Int32)) hx hb dX4_countRound_0 (by decide) ?_
  refine lv_istore_n (lv' := [(2, .int (0 : Int32)), (0, .ref (a 35)), (1, .int w1)]) hx hb dX4_countRound_1 rfl hl (by decide) rfl (fun ls hl => ?_)
  exact L2 w1 5000 σ (0 : Int32) hm H locs ls B (lv_sub hl [1, 2, 0] rfl)
def f_X2_fill_s2 (n : Nat) (k : Nat) (v1 : Int32) (r2 : Mm → Int32 → Option Mm) (σ : Mm) (v2 : Int32) : Option Mm :=
  if (Int32.ofNat n) ≤ v2 then
    some σ
  else
    (ast n σ k v2 v1).bind fun σ =>
    r2 σ (v2 + (1 : Int32))
def f_X2_fill (n : Nat) (k : Nat) (σ : Mm) (w1 : Int32) : Option Mm :=
  wh2 (f_X2_fill_s2 n k w1) 5000 σ (0 : Int32)
set_option maxHeartbeats 4000000 in
set_option maxRecDepth 100000 in
theorem c_X2_fill (l : Launch) (D : va_G) (cI cZ : ClassId) {ww : Mm → va_W} {k n q p row arr : Nat} (hV : IsV ww 2 q row 0 (.ref arr)) (hI : IsA ww cI k n p arr) (w1 : Int32) : CTv l D [(cI, FieldType.int), (cZ, FieldType.boolean)] ww yX2_fill (.code yX2_fill cX2_fill 3 (none : Option FieldType) :: wsL_law) ({ frames := 0, cells := 0, slots := 0, locals := 0 } : Room) [.ref row, .int w1] (fun σ => f_X2_fill n k σ w1) := by
  refine CTv.of (by decide +kernel) (Nat.le_of_ble_eq_true rfl) ?_
  intro σ out hm p e s m below meth c A ls H locs hx hb hr hlk hml hT hown hK hA B hl
  have hown : s.vm.findClass RX2 = some m.cls := hown
  have hl : lv_has ls 3 [(0, .ref row), (1, .int w1)] := hl
  have hm : f_X2_fill n k σ w1 = some out := hm
  unfold f_X2_fill at hm
  have L2 : ∀ (v1 : Int32) (nn : Nat) (σ : Mm) (v2 : Int32), wh2 (f_X2_fill_s2 n k v1) nn σ v2 = some out → ∀ (H : Heap) (locs : List Loc) (ls : Array Slot), BD D A s.heap (ww σ) H locs → lv_has ls 3 [(0, .ref row), (1, .int v1), (2, .int v2)] → W p l e ({ frames := 0, cells := 0, slots := 0, locals := 0 } : Room) s m ([.ref row, .int w1] : List Value).toArray below meth c H locs 0 0 (MQ below (QV D [(cI, FieldType.int), (cZ, FieldType.boolean)] ww A out) ([.ref row, .int w1] : List Value).toArray s 0 0 A) (F0 m 2 ls []) := by
    intro v1
    refine loop2 (fun r2 ih2 σ v2 hm H locs ls B hl => ?_)
    unfold f_X2_fill_s2 at hm
    refine lv_iload_n hx hb dX2_fill_2 rfl (lv_at hl 2 rfl) ?_
    refine lv_aload_n hx hb dX2_fill_3 rfl (lv_at hl 0 rfl) ?_
    refine x_getv (T := TX2) (N := 1) hx hb hT hown hK B hV inlX2 rfl (by decide) q39 rfl dX2_fill_4 ?_
    refine x_alen (t0 := 0) (v := (Int32.ofNat n)) hx hb hK B hI rfl rfl dX2_fill_7 ?_
    refine lv_icmp_ge (tgt := 24) hx hb dX2_fill_8 (by decide) (fun q => ?_) (fun q => ?_)
    · have hm := ift hm q
      exact x_vret hx hb hr hlk hK B dX2_fill_24 hm
    · have hm := iff hm q
      refine lv_aload_n hx hb dX2_fill_11 rfl (lv_at hl 0 rfl) ?_
      refine x_getv (T := TX2) (N := 1) hx hb hT hown hK B hV inlX2 rfl (by decide) q39 rfl dX2_fill_12 ?_
      refine lv_iload_n hx hb dX2_fill_15 rfl (lv_at hl 2 rfl) ?_
      refine lv_iload_n hx hb dX2_fill_16 rfl (lv_at hl 1 rfl) ?_
      refine x_iast (t0 := 0) hx hb hK B hI rfl dX2_fill_17 hm (fun σ H locs B hm => ?_)
      refine lv_iinc (v := (v2 + (1 : Int32))) (lv' := [(2, .int (v2 + (1 : Int32))), (0, .ref row), (1, .int v1)]) hx hb dX2_fill_18 hl (k := 2) rfl rfl (by decide) rfl (fun ls hl => ?_)
      refine lv_goto (tgt := 2) hx hb dX2_fill_21 (by decide) ?_
      exact ih2 σ (v2 + (1 : Int32)) hm H locs ls B (lv_sub hl [1, 2, 0] rfl)
  refine lv_iconst (v := (0 : Int32)) hx hb dX2_fill_0 (by decide) ?_
  refine lv_istore_n (lv' := [(2, .int (0 : Int32)), (0, .ref row), (1, .int w1)]) hx hb dX2_fill_1 rfl hl (by decide) rfl (fun ls hl => ?_)
  exact L2 w1 5000 σ (0 : Int32) hm H locs ls B (lv_sub hl [1, 2, 0] rfl)
def f_X4_wipe (σ : Mm) : Option Mm :=
  (f_X2_fill 108 50 σ (0 : Int32)).bind fun σ =>
  (f_X2_fill 12 51 σ (0 : Int32)).bind fun σ =>
  (f_X2_fill 12 52 σ (0 : Int32)).bind fun σ =>
  (f_X2_fill 12 53 σ (-5 : Int32)).bind fun σ =>
  (f_X2_fill 12 54 σ (0 : Int32)).bind fun σ =>
  (f_X2_fill 12 55 σ (0 : Int32)).bind fun σ =>
  (f_X2_fill 144 56 σ (-5 : Int32)).bind fun σ =>
  (f_X2_fill 144 57 σ (0 : Int32)).bind fun σ =>
  some σ
set_option maxHeartbeats 4000000 in
set_option maxRecDepth 100000 in
theorem c_X4_wipe (l : Launch) (D : va_G) (cI cZ : ClassId) (a : Nat → Nat) : CTv l D [(cI, FieldType.int), (cZ, FieldType.boolean)] (xW cI a) yX4_wipe (.code yX4_wipe cX4_wipe 1 (none : Option FieldType) :: wsL_law) ({ frames := 1, cells := 0, slots := 0, locals := 22 } : Room) [.ref (a 35)] (fun σ => f_X4_wipe σ) := by
  refine CTv.of (by decide +kernel) (Nat.le_of_ble_eq_true rfl) ?_
  intro σ out hm p e s m below meth c A ls H locs hx hb hr hlk hml hT hown hK hA B hl
  have hown : s.vm.findClass RX4 = some m.cls := hown
  have hl : lv_has ls 1 [(0, .ref (a 35))] := hl
  have hm : f_X4_wipe σ = some out := hm
  unfold f_X4_wipe at hm
  refine lv_aload_n hx hb dX4_wipe_0 rfl (lv_at hl 0 rfl) ?_
  refine x_getv (T := TX4) (N := 10) hx hb hT hown hK B xV_table_ties inlX4 rfl (by decide) q101 rfl dX4_wipe_1 ?_
  refine lv_iconst (v := (0 : Int32)) hx hb dX4_wipe_4 (by decide) ?_
  refine x_callVv (rest := []) hx hb hml hT hown hK hA B hl.1 (c_X2_fill l D cI cZ xV_table_ties_cells xA_table_ties (0 : Int32)) mi_X2_fill mv_X2_fill xO_table_ties rfl q218 ⟨rfl, rfl⟩ ⟨Nat.le_of_ble_eq_true rfl, Nat.le_of_ble_eq_true rfl⟩ rfl rfl (Nat.le_of_ble_eq_true rfl) dX4_wipe_5 hm (fun σ H locs B hm => ?_)
  refine lv_aload_n hx hb dX4_wipe_8 rfl (lv_at hl 0 rfl) ?_
  refine x_getv (T := TX4) (N := 10) hx hb hT hown hK B xV_table_played inlX4 rfl (by decide) q102 rfl dX4_wipe_9 ?_
  refine lv_iconst (v := (0 : Int32)) hx hb dX4_wipe_12 (by decide) ?_
  refine x_callVv (rest := []) hx hb hml hT hown hK hA B hl.1 (c_X2_fill l D cI cZ xV_table_played_cells xA_table_played (0 : Int32)) mi_X2_fill mv_X2_fill xO_table_played rfl q218 ⟨rfl, rfl⟩ ⟨Nat.le_of_ble_eq_true rfl, Nat.le_of_ble_eq_true rfl⟩ rfl rfl (Nat.le_of_ble_eq_true rfl) dX4_wipe_13 hm (fun σ H locs B hm => ?_)
  refine lv_aload_n hx hb dX4_wipe_16 rfl (lv_at hl 0 rfl) ?_
  refine x_getv (T := TX4) (N := 10) hx hb hT hown hK B xV_table_balances inlX4 rfl (by decide) q104 rfl dX4_wipe_17 ?_
  refine lv_iconst (v := (0 : Int32)) hx hb dX4_wipe_20 (by decide) ?_
  refine x_callVv (rest := []) hx hb hml hT hown hK hA B hl.1 (c_X2_fill l D cI cZ xV_table_balances_cells xA_table_balances (0 : Int32)) mi_X2_fill mv_X2_fill xO_table_balances rfl q218 ⟨rfl, rfl⟩ ⟨Nat.le_of_ble_eq_true rfl, Nat.le_of_ble_eq_true rfl⟩ rfl rfl (Nat.le_of_ble_eq_true rfl) dX4_wipe_21 hm (fun σ H locs B hm => ?_)
  refine lv_aload_n hx hb dX4_wipe_24 rfl (lv_at hl 0 rfl) ?_
  refine x_getv (T := TX4) (N := 10) hx hb hT hown hK B xV_table_latest inlX4 rfl (by decide) q107 rfl dX4_wipe_25 ?_
  refine lv_bipush (v := (-5 : Int32)) hx hb dX4_wipe_28 (by decide) ?_
  refine x_callVv (rest := []) hx hb hml hT hown hK hA B hl.1 (c_X2_fill l D cI cZ xV_table_latest_cells xA_table_latest (-5 : Int32)) mi_X2_fill mv_X2_fill xO_table_latest rfl q218 ⟨rfl, rfl⟩ ⟨Nat.le_of_ble_eq_true rfl, Nat.le_of_ble_eq_true rfl⟩ rfl rfl (Nat.le_of_ble_eq_true rfl) dX4_wipe_30 hm (fun σ H locs B hm => ?_)
  refine lv_aload_n hx hb dX4_wipe_33 rfl (lv_at hl 0 rfl) ?_
  refine x_getv (T := TX4) (N := 10) hx hb hT hown hK B xV_table_byes inlX4 rfl (by decide) q110 rfl dX4_wipe_34 ?_
  refine lv_iconst (v := (0 : Int32)) hx hb dX4_wipe_37 (by decide) ?_
  refine x_callVv (rest := []) hx hb hml hT hown hK hA B hl.1 (c_X2_fill l D cI cZ xV_table_byes_cells xA_table_byes (0 : Int32)) mi_X2_fill mv_X2_fill xO_table_byes rfl q218 ⟨rfl, rfl⟩ ⟨Nat.le_of_ble_eq_true rfl, Nat.le_of_ble_eq_true rfl⟩ rfl rfl (Nat.le_of_ble_eq_true rfl) dX4_wipe_38 hm (fun σ H locs B hm => ?_)
  refine lv_aload_n hx hb dX4_wipe_41 rfl (lv_at hl 0 rfl) ?_
  refine x_getv (T := TX4) (N := 10) hx hb hT hown hK B xV_table_forfeits inlX4 rfl (by decide) q113 rfl dX4_wipe_42 ?_
  refine lv_iconst (v := (0 : Int32)) hx hb dX4_wipe_45 (by decide) ?_
  refine x_callVv (rest := []) hx hb hml hT hown hK hA B hl.1 (c_X2_fill l D cI cZ xV_table_forfeits_cells xA_table_forfeits (0 : Int32)) mi_X2_fill mv_X2_fill xO_table_forfeits rfl q218 ⟨rfl, rfl⟩ ⟨Nat.le_of_ble_eq_true rfl, Nat.le_of_ble_eq_true rfl⟩ rfl rfl (Nat.le_of_ble_eq_true rfl) dX4_wipe_46 hm (fun σ H locs B hm => ?_)
  refine lv_aload_n hx hb dX4_wipe_49 rfl (lv_at hl 0 rfl) ?_
  refine x_getv (T := TX4) (N := 10) hx hb hT hown hK B xV_table_meetings inlX4 rfl (by decide) q116 rfl dX4_wipe_50 ?_
  refine lv_bipush (v := (-5 : Int32)) hx hb dX4_wipe_53 (by decide) ?_
  refine x_callVv (rest := []) hx hb hml hT hown hK hA B hl.1 (c_X2_fill l D cI cZ xV_table_meetings_cells xA_table_meetings (-5 : Int32)) mi_X2_fill mv_X2_fill xO_table_meetings rfl q218 ⟨rfl, rfl⟩ ⟨Nat.le_of_ble_eq_true rfl, Nat.le_of_ble_eq_true rfl⟩ rfl rfl (Nat.le_of_ble_eq_true rfl) dX4_wipe_55 hm (fun σ H locs B hm => ?_)
  refine lv_aload_n hx hb dX4_wipe_58 rfl (lv_at hl 0 rfl) ?_
  refine x_getv (T := TX4) (N := 10) hx hb hT hown hK B xV_table_made inlX4 rfl (by decide) q117 rfl dX4_wipe_59 ?_
  refine lv_iconst (v := (0 : Int32)) hx hb dX4_wipe_62 (by decide) ?_
  refine x_callVv (rest := []) hx hb hml hT hown hK hA B hl.1 (c_X2_fill l D cI cZ xV_table_made_cells xA_table_made (0 : Int32)) mi_X2_fill mv_X2_fill xO_table_made rfl q218 ⟨rfl, rfl⟩ ⟨Nat.le_of_ble_eq_true rfl, Nat.le_of_ble_eq_true rfl⟩ rfl rfl (Nat.le_of_ble_eq_true rfl) dX4_wipe_63 hm (fun σ H locs B hm => ?_)
  exact x_vret hx hb hr hlk hK B dX4_wipe_66 hm
def f_X4_reckon_j70 (σ : Mm) : Option Mm :=
  (f_X4_stand σ).bind fun σ =>
  some σ
def f_X4_reckon_s30 (r30 : Mm → Int32 → Option Mm) (σ : Mm) (v1 : Int32) : Option Mm :=
  (some (σ 0 0)).bind fun x1 =>
  if x1 ≤ v1 then
    f_X4_reckon_j70 σ
  else
    (f_X4_compareWithOpponents σ v1).bind fun σ =>
    (f_X2_at 12 1 σ v1).bind fun x2 =>
    (f_X4_addTie σ v1 (8 : Int32) x2).bind fun σ =>
    r30 σ (v1 + (1 : Int32))
def f_X4_reckon_s6 (r6 : Mm → Int32 → Option Mm) (σ : Mm) (v1 : Int32) : Option Mm :=
  (f_X0_countDone σ).bind fun x3 =>
  if x3 ≤ v1 then
    wh2 (f_X4_reckon_s30) 5000 σ (0 : Int32)
  else
    (f_X4_countRound σ v1).bind fun σ =>
    r6 σ (v1 + (1 : Int32))
def f_X4_reckon (σ : Mm) : Option Mm :=
  (f_X4_wipe σ).bind fun σ =>
  wh2 (f_X4_reckon_s6) 5000 σ (0 : Int32)
set_option maxHeartbeats 4000000 in
set_option maxRecDepth 100000 in
theorem c_X4_reckon (l : Launch) (D : va_G) (cI cZ : ClassId) (a : Nat → Nat) : CTv l D [(cI, FieldType.int), (cZ, FieldType.boolean)] (xW cI a) yX4_reckon (.code yX4_reckon cX4_reckon 2 (none : Option FieldType) :: wsL_law) ({ frames := 6, cells := 0, slots := 0, locals := 141 } : Room) [.ref (a 35)] (fun σ => f_X4_reckon σ) := by
  refine CTv.of (by decide +kernel) (Nat.le_of_ble_eq_true rfl) ?_
  intro σ out hm p e s m below meth c A ls H locs hx hb hr hlk hml hT hown hK hA B hl
  have hown : s.vm.findClass RX4 = some m.cls := hown
  have hl : lv_has ls 2 [(0, .ref (a 35))] := hl
  have hm : f_X4_reckon σ = some out := hm
  unfold f_X4_reckon at hm
  have j70 : ∀ (σ : Mm)  (H : Heap) (locs : List Loc) (ls : Array Slot), BD D A s.heap ((xW cI a) σ) H locs → lv_has ls 2 [(0, .ref (a 35))] → f_X4_reckon_j70 σ = some out → W p l e ({ frames := 6, cells := 0, slots := 0, locals := 141 } : Room) s m ([.ref (a 35)] : List Value).toArray below meth c H locs 0 0 (MQ below (QV D [(cI, FieldType.int), (cZ, FieldType.boolean)] (xW cI a) A out) ([.ref (a 35)] : List Value).toArray s 0 0 A) (F0 m 70 ls []) := by
    intro σ  H locs ls B hl hm
    unfold f_X4_reckon_j70 at hm
    refine lv_aload_n hx hb dX4_reckon_70 rfl (lv_at hl 0 rfl) ?_
    refine x_callVv (rest := []) hx hb hml hT hown hK hA B hl.1 (c_X4_stand l D cI cZ a) mi_X4_stand mv_X4_stand xO_table rfl q297 ⟨rfl, rfl⟩ ⟨Nat.le_of_ble_eq_true rfl, Nat.le_of_ble_eq_true rfl⟩ rfl rfl (Nat.le_of_ble_eq_true rfl) dX4_reckon_71 hm (fun σ H locs B hm => ?_)
    exact x_vret hx hb hr hlk hK B dX4_reckon_74 hm
  have L30 : ∀ (nn : Nat) (σ : Mm) (v1 : Int32), wh2 f_X4_reckon_s30 nn σ v1 = some out → ∀ (H : Heap) (locs : List Loc) (ls : Array Slot), BD D A s.heap ((xW cI a) σ) H locs → lv_has ls 2 [(0, .ref (a 35)), (1, .int v1)] → W p l e ({ frames := 6, cells := 0, slots := 0, locals := 141 } : Room) s m ([.ref (a 35)] : List Value).toArray below meth c H locs 0 0 (MQ below (QV D [(cI, FieldType.int), (cZ, FieldType.boolean)] (xW cI a) A out) ([.ref (a 35)] : List Value).toArray s 0 0 A) (F0 m 30 ls []) := by
    refine loop2 (fun r30 ih30 σ v1 hm H locs ls B hl => ?_)
    unfold f_X4_reckon_s30 at hm
    refine lv_iload_n hx hb dX4_reckon_30 rfl (lv_at hl 1 rfl) ?_
    refine lv_aload_n hx hb dX4_reckon_31 rfl (lv_at hl 0 rfl) ?_
    refine x_getv (T := TX4) (N := 10) hx hb hT hown hK B xV_table_book inlX4 rfl (by decide) q100 rfl dX4_reckon_32 ?_
    refine x_getibN (T := TX0) (N := 12) hx hb hT hown hK B xI_book_players inlX0 rfl (by decide) q48 rfl dX4_reckon_35 hm (fun x1 hm => ?_)
    refine lv_icmp_ge (tgt := 70) hx hb dX4_reckon_38 (by decide) (fun q => ?_) (fun q => ?_)
    · have hm := ift hm q
      exact j70 σ H locs ls B (lv_sub hl [0] rfl) hm
    · have hm := iff hm q
      refine lv_aload_n hx hb dX4_reckon_41 rfl (lv_at hl 0 rfl) ?_
      refine lv_iload_n hx hb dX4_reckon_42 rfl (lv_at hl 1 rfl) ?_
      refine x_callVv (rest := []) hx hb hml hT hown hK hA B hl.1 (c_X4_compareWithOpponents l D cI cZ a v1) mi_X4_compareWithOpponents mv_X4_compareWithOpponents xO_table rfl q278 ⟨rfl, rfl⟩ ⟨Nat.le_of_ble_eq_true rfl, Nat.le_of_ble_eq_true rfl⟩ rfl rfl (Nat.le_of_ble_eq_true rfl) dX4_reckon_43 hm (fun σ H locs B hm => ?_)
      refine lv_aload_n hx hb dX4_reckon_46 rfl (lv_at hl 0 rfl) ?_
      refine lv_iload_n hx hb dX4_reckon_47 rfl (lv_at hl 1 rfl) ?_
      refine lv_bipush (v := (8 : Int32)) hx hb dX4_reckon_48 (by decide) ?_
      refine lv_aload_n hx hb dX4_reckon_50 rfl (lv_at hl 0 rfl) ?_
      refine x_getv (T := TX4) (N := 10) hx hb hT hown hK B xV_table_book inlX4 rfl (by decide) q100 rfl dX4_reckon_51 ?_
      refine x_getvN (T := TX0) (N := 12) hx hb hT hown hK B xV_book_ratings inlX0 rfl (by decide) q52 rfl dX4_reckon_54 ?_
      refine lv_iload_n hx hb dX4_reckon_57 rfl (lv_at hl 1 rfl) ?_
      refine x_callVr (rest := [.int (8 : Int32), .int v1, .ref (a 35)]) hx hb hml hT hown hK hA B hl.1 (c_X2_at l D cI cZ xV_book_ratings_cells xA_book_ratings v1) mi_X2_at mv_X2_at xO_book_ratings rfl q226 ⟨rfl, rfl⟩ ⟨Nat.le_of_ble_eq_true rfl, Nat.le_of_ble_eq_true rfl⟩ rfl rfl (Nat.le_of_ble_eq_true rfl) dX4_reckon_58 hm (fun x2 H locs B hm => ?_)
      refine x_callVv (rest := []) hx hb hml hT hown hK hA B hl.1 (c_X4_addTie l D cI cZ a v1 (8 : Int32) x2) mi_X4_addTie mv_X4_addTie xO_table rfl q252 ⟨rfl, rfl⟩ ⟨Nat.le_of_ble_eq_true rfl, Nat.le_of_ble_eq_true rfl⟩ rfl rfl (Nat.le_of_ble_eq_true rfl) dX4_reckon_61 hm (fun σ H locs B hm => ?_)
      refine lv_iinc (v := (v1 + (1 : Int32))) (lv' := [(1, .int (v1 + (1 : Int32))), (0, .ref (a 35))]) hx hb dX4_reckon_64 hl (k := 1) rfl rfl (by decide) rfl (fun ls hl => ?_)
      refine lv_goto (tgt := 30) hx hb dX4_reckon_67 (by decide) ?_
      exact ih30 σ (v1 + (1 : Int32)) hm H locs ls B (lv_sub hl [1, 0] rfl)
  have L6 : ∀ (nn : Nat) (σ : Mm) (v1 : Int32), wh2 f_X4_reckon_s6 nn σ v1 = some out → ∀ (H : Heap) (locs : List Loc) (ls : Array Slot), BD D A s.heap ((xW cI a) σ) H locs → lv_has ls 2 [(0, .ref (a 35)), (1, .int v1)] → W p l e ({ frames := 6, cells := 0, slots := 0, locals := 141 } : Room) s m ([.ref (a 35)] : List Value).toArray below meth c H locs 0 0 (MQ below (QV D [(cI, FieldType.int), (cZ, FieldType.boolean)] (xW cI a) A out) ([.ref (a 35)] : List Value).toArray s 0 0 A) (F0 m 6 ls []) := by
    refine loop2 (fun r6 ih6 σ v1 hm H locs ls B hl => ?_)
    unfold f_X4_reckon_s6 at hm
    refine lv_iload_n hx hb dX4_reckon_6 rfl (lv_at hl 1 rfl) ?_
    refine lv_aload_n hx hb dX4_reckon_7 rfl (lv_at hl 0 rfl) ?_
    refine x_getv (T := TX4) (N := 10) hx hb hT hown hK B xV_table_book inlX4 rfl (by decide) q100 rfl dX4_reckon_8 ?_
    refine x_callVr (rest := [.int v1]) hx hb hml hT hown hK hA B hl.1 (c_X0_countDone l D cI cZ a) mi_X0_countDone mv_X0_countDone xO_book rfl q219 ⟨rfl, rfl⟩ ⟨Nat.le_of_ble_eq_true rfl, Nat.le_of_ble_eq_true rfl⟩ rfl rfl (Nat.le_of_ble_eq_true rfl) dX4_reckon_11 hm (fun x3 H locs B hm => ?_)
    refine lv_icmp_ge (tgt := 28) hx hb dX4_reckon_14 (by decide) (fun q => ?_) (fun q => ?_)
    · have hm := ift hm q
      refine lv_iconst (v := (0 : Int32)) hx hb dX4_reckon_28 (by decide) ?_
      refine lv_istore_n (lv' := [(1, .int (0 : Int32)), (0, .ref (a 35))]) hx hb dX4_reckon_29 rfl hl (by decide) rfl (fun ls hl => ?_)
      exact L30 5000 σ (0 : Int32) hm H locs ls B (lv_sub hl [1, 0] rfl)
    · have hm := iff hm q
      refine lv_aload_n hx hb dX4_reckon_17 rfl (lv_at hl 0 rfl) ?_
      refine lv_iload_n hx hb dX4_reckon_18 rfl (lv_at hl 1 rfl) ?_
      refine x_callVv (rest := []) hx hb hml hT hown hK hA B hl.1 (c_X4_countRound l D cI cZ a v1) mi_X4_countRound mv_X4_countRound xO_table rfl q223 ⟨rfl, rfl⟩ ⟨Nat.le_of_ble_eq_true rfl, Nat.le_of_ble_eq_true rfl⟩ rfl rfl (Nat.le_of_ble_eq_true rfl) dX4_reckon_19 hm (fun σ H locs B hm => ?_)
      refine lv_iinc (v := (v1 + (1 : Int32))) (lv' := [(1, .int (v1 + (1 : Int32))), (0, .ref (a 35))]) hx hb dX4_reckon_22 hl (k := 1) rfl rfl (by decide) rfl (fun ls hl => ?_)
      refine lv_goto (tgt := 6) hx hb dX4_reckon_25 (by decide) ?_
      exact ih6 σ (v1 + (1 : Int32)) hm H locs ls B (lv_sub hl [1, 0] rfl)
  refine lv_aload_n hx hb dX4_reckon_0 rfl (lv_at hl 0 rfl) ?_
  refine x_callVv (rest := []) hx hb hml hT hown hK hA B hl.1 (c_X4_wipe l D cI cZ a) mi_X4_wipe mv_X4_wipe xO_table rfl q215 ⟨rfl, rfl⟩ ⟨Nat.le_of_ble_eq_true rfl, Nat.le_of_ble_eq_true rfl⟩ rfl rfl (Nat.le_of_ble_eq_true rfl) dX4_reckon_1 hm (fun σ H locs B hm => ?_)
  refine lv_iconst (v := (0 : Int32)) hx hb dX4_reckon_4 (by decide) ?_
  refine lv_istore_n (lv' := [(1, .int (0 : Int32)), (0, .ref (a 35))]) hx hb dX4_reckon_5 rfl hl (by decide) rfl (fun ls hl => ?_)
  exact L6 5000 σ (0 : Int32) hm H locs ls B (lv_sub hl [1, 0] rfl)
def f_X6_join (σ : Mm) (w1 : Int32) : Option (Int32 × Mm) :=
  (f_X6_isRating w1).bind fun x1 =>
  if x1 = 0 then
    some ((-2 : Int32), σ)
  else
    (some (σ 4 0)).bind fun x2 =>
    if x2 = 0 then
      (some (σ 0 0)).bind fun x3 =>
      if x3 < (12 : Int32) then
        (f_X0_enter σ w1).bind fun z => match z with
        | (x4, σ) =>
          (f_X4_reckon σ).bind fun σ =>
          some (x4, σ)
      else
        some ((-4 : Int32), σ)
    else
      some ((-3 : Int32), σ)
set_option maxHeartbeats 4000000 in
set_option maxRecDepth 100000 in
theorem c_X6_join (l : Launch) (D : va_G) (cI cZ : ClassId) (a : Nat → Nat) (w1 : Int32) : CTi l D [(cI, FieldType.int), (cZ, FieldType.boolean)] (xW cI a) yX6_join (.code yX6_join cX6_join 3 (some FieldType.int) :: wsL_law) ({ frames := 7, cells := 0, slots := 0, locals := 162 } : Room) [.ref (a 0), .int w1] (fun σ => f_X6_join σ w1) := by
  refine CTi.of (by decide +kernel) (Nat.le_of_ble_eq_true rfl) ?_
  intro σ out hm p e s m below meth c A ls H locs hx hb hr hlk hml hT hown hK hA B hl
  have hown : s.vm.findClass RX6 = some m.cls := hown
  have hl : lv_has ls 3 [(0, .ref (a 0)), (1, .int w1)] := hl
  have hm : f_X6_join σ w1 = some out := hm
  unfold f_X6_join at hm
  refine lv_iload_n hx hb dX6_join_0 rfl (lv_at hl 1 rfl) ?_
  refine x_callSr (rest := []) hx hb hml hT hown hK hA B hl.1 (c_X6_isRating l D cI cZ (xW cI a) w1) mi_X6_isRating q205 q204 ⟨rfl, rfl⟩ ⟨Nat.le_of_ble_eq_true rfl, Nat.le_of_ble_eq_true rfl⟩ rfl rfl (Nat.le_of_ble_eq_true rfl) dX6_join_1 hm (fun x1 H locs B hm => ?_)
  refine lv_if_ne (tgt := 10) hx hb dX6_join_4 (by decide) (fun q => ?_) (fun q => ?_)
  · have hm := iff hm q
    refine lv_aload_n hx hb dX6_join_10 rfl (lv_at hl 0 rfl) ?_
    refine x_getv (T := TX6) (N := 8) hx hb hT hown hK B xV_X_book inlX6 rfl (by decide) q184 rfl dX6_join_11 ?_
    refine x_getibN (T := TX0) (N := 12) hx hb hT hown hK B xI_book_open inlX0 rfl (by decide) q58 rfl dX6_join_14 hm (fun x2 hm => ?_)
    refine lv_if_eq (tgt := 23) hx hb dX6_join_17 (by decide) (fun q => ?_) (fun q => ?_)
    · have hm := ift hm q
      refine lv_aload_n hx hb dX6_join_23 rfl (lv_at hl 0 rfl) ?_
      refine x_getv (T := TX6) (N := 8) hx hb hT hown hK B xV_X_book inlX6 rfl (by decide) q184 rfl dX6_join_24 ?_
      refine x_getibN (T := TX0) (N := 12) hx hb hT hown hK B xI_book_players inlX0 rfl (by decide) q47 rfl dX6_join_27 hm (fun x3 hm => ?_)
      refine lv_bipush (v := (12 : Int32)) hx hb dX6_join_30 (by decide) ?_
      refine lv_icmp_lt (tgt := 38) hx hb dX6_join_32 (by decide) (fun q => ?_) (fun q => ?_)
      · have hm := ift hm q
        refine lv_aload_n hx hb dX6_join_38 rfl (lv_at hl 0 rfl) ?_
        refine x_getv (T := TX6) (N := 8) hx hb hT hown hK B xV_X_book inlX6 rfl (by decide) q184 rfl dX6_join_39 ?_
        refine lv_iload_n hx hb dX6_join_42 rfl (lv_at hl 1 rfl) ?_
        refine x_callVi (rest := []) hx hb hml hT hown hK hA B hl.1 (c_X0_enter l D cI cZ a w1) mi_X0_enter mv_X0_enter xO_book rfl q207 ⟨rfl, rfl⟩ ⟨Nat.le_of_ble_eq_true rfl, Nat.le_of_ble_eq_true rfl⟩ rfl rfl (Nat.le_of_ble_eq_true rfl) dX6_join_43 hm (fun x4 σ H locs B hm => ?_)
        dsimp only at hm
        refine lv_istore_n (lv' := [(2, .int x4), (0, .ref (a 0)), (1, .int w1)]) hx hb dX6_join_46 rfl hl (by decide) rfl (fun ls hl => ?_)
        refine lv_aload_n hx hb dX6_join_47 rfl (lv_at hl 1 rfl) ?_
        refine x_getv (T := TX6) (N := 8) hx hb hT hown hK B xV_X_table inlX6 rfl (by decide) q187 rfl dX6_join_48 ?_
        refine x_callVv (rest := []) hx hb hml hT hown hK hA B hl.1 (c_X4_reckon l D cI cZ a) mi_X4_reckon mv_X4_reckon xO_table rfl q211 ⟨rfl, rfl⟩ ⟨Nat.le_of_ble_eq_true rfl, Nat.le_of_ble_eq_true rfl⟩ rfl rfl (Nat.le_of_ble_eq_true rfl) dX6_join_51 hm (fun σ H locs B hm => ?_)
        refine lv_iload_n hx hb dX6_join_54 rfl (lv_at hl 0 rfl) ?_
        exact x_iret hx hb hr hlk hK B dX6_join_55 hm
      · have hm := iff hm q
        refine lv_bipush (v := (-4 : Int32)) hx hb dX6_join_35 (by decide) ?_
        exact x_iret hx hb hr hlk hK B dX6_join_37 hm
    · have hm := iff hm q
      refine lv_bipush (v := (-3 : Int32)) hx hb dX6_join_20 (by decide) ?_
      exact x_iret hx hb hr hlk hK B dX6_join_22 hm
  · have hm := ift hm q
    refine lv_bipush (v := (-2 : Int32)) hx hb dX6_join_7 (by decide) ?_
    exact x_iret hx hb hr hlk hK B dX6_join_9 hm
