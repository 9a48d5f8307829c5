def f_X4_sumRatings_s4 (σ : Mm) (v1 : Int32) (r4 : Int32 → Int32 → Option Int32) (v2 v3 : Int32) : Option Int32 :=
  if (σ 0 0) ≤ v3 then
    some v2
  else
    (f_X4_haveMet σ v1 v3).bind fun x1 =>
    if x1 = 0 then
      r4 v2 (v3 + (1 : Int32))
    else
      (f_X2_at 12 1 σ v3).bind fun x2 =>
      r4 (v2 + x2) (v3 + (1 : Int32))
def f_X4_sumRatings (σ : Mm) (w1 : Int32) : Option Int32 :=
  wh2 (f_X4_sumRatings_s4 σ w1) 5000 (0 : Int32) (0 : Int32)
set_option maxHeartbeats 4000000 in
set_option maxRecDepth 100000 in
theorem c_X4_sumRatings (l : Launch) (D : va_G) (cI cZ : ClassId) (a : Nat → Nat) (w1 : Int32) : CTr l D [(cI, FieldType.int), (cZ, FieldType.boolean)] (xW cI a) yX4_sumRatings (.code yX4_sumRatings cX4_sumRatings 4 (some FieldType.int) :: wsL_law) ({ frames := 3, cells := 0, slots := 0, locals := 65 } : Room) [.ref (a 35), .int w1] (fun σ => f_X4_sumRatings σ w1) := by
  refine CTr.of (by decide +kernel) (Nat.le_of_ble_eq_true rfl) ?_
  intro σ r hm p e s m below meth c A ls H locs hx hb hr hlk hml hT hown hK hA B hl
  have hown : s.vm.findClass RX4 = some m.cls := hown
  have hl : lv_has ls 4 [(0, .ref (a 35)), (1, .int w1)] := hl
  have hm : f_X4_sumRatings σ w1 = some r := hm
  unfold f_X4_sumRatings at hm
  have L4 : ∀ (v1 : Int32) (nn : Nat) (v2 : Int32) (v3 : Int32), wh2 (f_X4_sumRatings_s4 σ v1) nn v2 v3 = some r → ∀ (H : Heap) (locs : List Loc) (ls : Array Slot), BD D A s.heap ((xW cI a) σ) H locs → lv_has ls 4 [(0, .ref (a 35)), (1, .int v1), (2, .int v2), (3, .int v3)] → W p l e ({ frames := 3, cells := 0, slots := 0, locals := 65 } : Room) s m ([.ref (a 35), .int w1] : List Value).toArray below meth c H locs 0 0 (MQ below (QI D [(cI, FieldType.int), (cZ, FieldType.boolean)] (xW cI a) A (r, σ)) ([.ref (a 35), .int w1] : List Value).toArray s 0 0 A) (F0 m 4 ls []) := by
    intro v1
    refine loop2 (fun r4 ih4 v2 v3 hm H locs ls B hl => ?_)
    unfold f_X4_sumRatings_s4 at hm
    refine lv_iload_n hx hb dX4_sumRatings_4 rfl (lv_at hl 3 rfl) ?_
    refine lv_aload_n hx hb dX4_sumRatings_5 rfl (lv_at hl 0 rfl) ?_
    refine x_getv (T := TX4) (N := 10) hx hb hT hown hK B xV_table_book inlX4 rfl (by decide) q100 rfl dX4_sumRatings_6 ?_
    refine x_getiN (T := TX0) (N := 12) hx hb hT hown hK B xI_book_players inlX0 rfl (by decide) q48 rfl dX4_sumRatings_9 ?_
    refine lv_icmp_ge (tgt := 44) hx hb dX4_sumRatings_12 (by decide) (fun q => ?_) (fun q => ?_)
    · have hm := ift hm q
      refine lv_iload_n hx hb dX4_sumRatings_44 rfl (lv_at hl 2 rfl) ?_
      exact x_iretr hx hb hr hlk hK B dX4_sumRatings_45 hm
    · have hm := iff hm q
      refine lv_aload_n hx hb dX4_sumRatings_15 rfl (lv_at hl 0 rfl) ?_
      refine lv_iload_n hx hb dX4_sumRatings_16 rfl (lv_at hl 1 rfl) ?_
      refine lv_iload_n hx hb dX4_sumRatings_17 rfl (lv_at hl 3 rfl) ?_
      refine x_callVr (rest := []) hx hb hml hT hown hK hA B hl.1 (c_X4_haveMet l D cI cZ a v1 v3) mi_X4_haveMet mv_X4_haveMet xO_table rfl q281 ⟨rfl, rfl⟩ ⟨Nat.le_of_ble_eq_true rfl, Nat.le_of_ble_eq_true rfl⟩ rfl rfl (Nat.le_of_ble_eq_true rfl) dX4_sumRatings_18 hm (fun x1 H locs B hm => ?_)
      refine lv_if_eq (tgt := 38) hx hb dX4_sumRatings_21 (by decide) (fun q => ?_) (fun q => ?_)
      · have hm := ift hm q
        refine lv_iinc (v := (v3 + (1 : Int32))) (lv' := [(3, .int (v3 + (1 : Int32))), (0, .ref (a 35)), (1, .int v1), (2, .int v2)]) hx hb dX4_sumRatings_38 hl (k := 3) rfl rfl (by decide) rfl (fun ls hl => ?_)
        refine lv_goto (tgt := 4) hx hb dX4_sumRatings_41 (by decide) ?_
        exact ih4 v2 (v3 + (1 : Int32)) hm H locs ls B (lv_sub hl [1, 2, 3, 0] rfl)
      · have hm := iff hm q
        refine lv_iload_n hx hb dX4_sumRatings_24 rfl (lv_at hl 2 rfl) ?_
        refine lv_aload_n hx hb dX4_sumRatings_25 rfl (lv_at hl 0 rfl) ?_
        refine x_getv (T := TX4) (N := 10) hx hb hT hown hK B xV_table_book inlX4 rfl (by decide) q100 rfl dX4_sumRatings_26 ?_
        refine x_getvN (T := TX0) (N := 12) hx hb hT hown hK B xV_book_ratings inlX0 rfl (by decide) q52 rfl dX4_sumRatings_29 ?_
        refine lv_iload_n hx hb dX4_sumRatings_32 rfl (lv_at hl 3 rfl) ?_
        refine x_callVr (rest := [.int v2]) hx hb hml hT hown hK hA B hl.1 (c_X2_at l D cI cZ xV_book_ratings_cells xA_book_ratings v3) mi_X2_at mv_X2_at xO_book_ratings rfl q226 ⟨rfl, rfl⟩ ⟨Nat.le_of_ble_eq_true rfl, Nat.le_of_ble_eq_true rfl⟩ rfl rfl (Nat.le_of_ble_eq_true rfl) dX4_sumRatings_33 hm (fun x2 H locs B hm => ?_)
        refine lv_iadd hx hb dX4_sumRatings_36 ?_
        refine lv_istore_n (lv' := [(2, .int (v2 + x2)), (0, .ref (a 35)), (1, .int v1), (3, .int v3)]) hx hb dX4_sumRatings_37 rfl hl (by decide) rfl (fun ls hl => ?_)
        refine lv_iinc (v := (v3 + (1 : Int32))) (lv' := [(3, .int (v3 + (1 : Int32))), (2, .int (v2 + x2)), (0, .ref (a 35)), (1, .int v1)]) hx hb dX4_sumRatings_38 hl (k := 3) rfl rfl (by decide) rfl (fun ls hl => ?_)
        refine lv_goto (tgt := 4) hx hb dX4_sumRatings_41 (by decide) ?_
        exact ih4 (v2 + x2) (v3 + (1 : Int32)) hm H locs ls B (lv_sub hl [2, 3, 1, 0] rfl)
  refine lv_iconst (v := (0 : Int32)) hx hb dX4_sumRatings_0 (by decide) ?_
  refine lv_istore_n (lv' := [(2, .int (0 : Int32)), (0, .ref (a 35)), (1, .int w1)]) hx hb dX4_sumRatings_1 rfl hl (by decide) rfl (fun ls hl => ?_)
  refine lv_iconst (v := (0 : Int32)) hx hb dX4_sumRatings_2 (by decide) ?_
  refine lv_istore_n (lv' := [(3, .int (0 : Int32)), (2, .int (0 : Int32)), (0, .ref (a 35)), (1, .int w1)]) hx hb dX4_sumRatings_3 rfl hl (by decide) rfl (fun ls hl => ?_)
  exact L4 w1 5000 (0 : Int32) (0 : Int32) hm H locs ls B (lv_sub hl [2, 3, 1, 0] rfl)
def f_X6_commonDivisor_s2 (v0 : Int32) (v1 : Int32) (r2 : Int32 → Option Int32) (v2 : Int32) : Option Int32 :=
  if v2 ≤ (1 : Int32) then
    some (1 : Int32)
  else
    (nz v2 (v1 - v1 / v2 * v2)).bind fun x1 =>
    if x1 = 0 then
      (nz v2 (v0 - v0 / v2 * v2)).bind fun x2 =>
      if x2 = 0 then
        some v2
      else
        r2 (v2 + (-1 : Int32))
    else
      r2 (v2 + (-1 : Int32))
def f_X6_commonDivisor (w0 : Int32) (w1 : Int32) : Option Int32 :=
  wh1 (f_X6_commonDivisor_s2 w0 w1) 5000 w1
set_option maxHeartbeats 4000000 in
set_option maxRecDepth 100000 in
theorem c_X6_commonDivisor (l : Launch) (D : va_G) (cI cZ : ClassId) (ww : Mm → va_W) (w0 : Int32) (w1 : Int32) : CTr l D [(cI, FieldType.int), (cZ, FieldType.boolean)] ww yX6_commonDivisor (.code yX6_commonDivisor cX6_commonDivisor 3 (some FieldType.int) :: wsL_law) ({ frames := 0, cells := 0, slots := 0, locals := 0 } : Room) [.int w0, .int w1] (fun σ => f_X6_commonDivisor w0 w1) := by
  refine CTr.of (by decide +kernel) (Nat.le_of_ble_eq_true rfl) ?_
  intro σ r hm p e s m below meth c A ls H locs hx hb hr hlk hml hT hown hK hA B hl
  have hown : s.vm.findClass RX6 = some m.cls := hown
  have hl : lv_has ls 3 [(0, .int w0), (1, .int w1)] := hl
  have hm : f_X6_commonDivisor w0 w1 = some r := hm
  unfold f_X6_commonDivisor at hm
  have L2 : ∀ (v0 : Int32) (v1 : Int32) (nn : Nat) (v2 : Int32), wh1 (f_X6_commonDivisor_s2 v0 v1) nn v2 = some r → ∀ (H : Heap) (locs : List Loc) (ls : Array Slot), BD D A s.heap (ww σ) H locs → lv_has ls 3 [(0, .int v0), (1, .int v1), (2, .int v2)] → W p l e ({ frames := 0, cells := 0, slots := 0, locals := 0 } : Room) s m ([.int w0, .int w1] : List Value).toArray below meth c H locs 0 0 (MQ below (QI D [(cI, FieldType.int), (cZ, FieldType.boolean)] ww A (r, σ)) ([.int w0, .int w1] : List Value).toArray s 0 0 A) (F0 m 2 ls []) := by
    intro v0 v1
    refine loop1 (fun r2 ih2 v2 hm H locs ls B hl => ?_)
    unfold f_X6_commonDivisor_s2 at hm
    refine lv_iload_n hx hb dX6_commonDivisor_2 rfl (lv_at hl 2 rfl) ?_
    refine lv_iconst (v := (1 : Int32)) hx hb dX6_commonDivisor_3 (by decide) ?_
    refine lv_icmp_le (tgt := 27) hx hb dX6_commonDivisor_4 (by decide) (fun q => ?_) (fun q => ?_)
    · have hm := ift hm q
      refine lv_iconst (v := (1 : Int32)) hx hb dX6_commonDivisor_27 (by decide) ?_
      exact x_iretr hx hb hr hlk hK B dX6_commonDivisor_28 hm
    · have hm := iff hm q
      refine lv_iload_n hx hb dX6_commonDivisor_7 rfl (lv_at hl 1 rfl) ?_
      refine lv_iload_n hx hb dX6_commonDivisor_8 rfl (lv_at hl 2 rfl) ?_
      refine x_irem hx hb dX6_commonDivisor_9 hm (fun x1 hm => ?_)
      refine lv_if_ne (tgt := 21) hx hb dX6_commonDivisor_10 (by decide) (fun q => ?_) (fun q => ?_)
      · have hm := iff hm q
        refine lv_iinc (v := (v2 + (-1 : Int32))) (lv' := [(2, .int (v2 + (-1 : Int32))), (0, .int v0), (1, .int v1)]) hx hb dX6_commonDivisor_21 hl (k := 2) rfl rfl (by decide) rfl (fun ls hl => ?_)
        refine lv_goto (tgt := 2) hx hb dX6_commonDivisor_24 (by decide) ?_
        exact ih2 (v2 + (-1 : Int32)) hm H locs ls B (lv_sub hl [1, 2, 0] rfl)
      · have hm := ift hm q
        refine lv_iload_n hx hb dX6_commonDivisor_13 rfl (lv_at hl 0 rfl) ?_
        refine lv_iload_n hx hb dX6_commonDivisor_14 rfl (lv_at hl 2 rfl) ?_
        refine x_irem hx hb dX6_commonDivisor_15 hm (fun x2 hm => ?_)
        refine lv_if_ne (tgt := 21) hx hb dX6_commonDivisor_16 (by decide) (fun q => ?_) (fun q => ?_)
        · have hm := iff hm q
          refine lv_iinc (v := (v2 + (-1 : Int32))) (lv' := [(2, .int (v2 + (-1 : Int32))), (0, .int v0), (1, .int v1)]) hx hb dX6_commonDivisor_21 hl (k := 2) rfl rfl (by decide) rfl (fun ls hl => ?_)
          refine lv_goto (tgt := 2) hx hb dX6_commonDivisor_24 (by decide) ?_
          exact ih2 (v2 + (-1 : Int32)) hm H locs ls B (lv_sub hl [1, 2, 0] rfl)
        · have hm := ift hm q
          refine lv_iload_n hx hb dX6_commonDivisor_19 rfl (lv_at hl 2 rfl) ?_
          exact x_iretr hx hb hr hlk hK B dX6_commonDivisor_20 hm
  refine lv_iload_n hx hb dX6_commonDivisor_0 rfl (lv_at hl 1 rfl) ?_
  refine lv_istore_n (lv' := [(2, .int w1), (0, .int w0), (1, .int w1)]) hx hb dX6_commonDivisor_1 rfl hl (by decide) rfl (fun ls hl => ?_)
  exact L2 w0 w1 5000 w1 hm H locs ls B (lv_sub hl [1, 2, 0] rfl)
def f_X6_average (σ : Mm) (w1 : Int32) (w2 : Int32) : Option Int32 :=
  (f_X6_isPlayer σ w1).bind fun x1 =>
  if x1 = 0 then
    some (-1 : Int32)
  else
    if w2 < 0 then
      some (-1 : Int32)
    else
      if w2 ≤ (1 : Int32) then
        (f_X2_at 12 51 σ w1).bind fun x2 =>
        if x2 = 0 then
          some w2
        else
          (f_X4_sumRatings σ w1).bind fun x3 =>
          (f_X6_commonDivisor x3 x2).bind fun x4 =>
          if w2 = 0 then
            (nz x4 (x3 / x4)).bind fun x6 =>
            some x6
          else
            (nz x4 (x2 / x4)).bind fun x5 =>
            some x5
      else
        some (-1 : Int32)
set_option maxHeartbeats 4000000 in
set_option maxRecDepth 100000 in
theorem c_X6_average (l : Launch) (D : va_G) (cI cZ : ClassId) (a : Nat → Nat) (w1 : Int32) (w2 : Int32) : CTr l D [(cI, FieldType.int), (cZ, FieldType.boolean)] (xW cI a) yX6_average (.code yX6_average cX6_average 6 (some FieldType.int) :: wsL_law) ({ frames := 4, cells := 0, slots := 0, locals := 88 } : Room) [.ref (a 0), .int w1, .int w2] (fun σ => f_X6_average σ w1 w2) := by
  refine CTr.of (by decide +kernel) (Nat.le_of_ble_eq_true rfl) ?_
  intro σ r hm p e s m below meth c A ls H locs hx hb hr hlk hml hT hown hK hA B hl
  have hown : s.vm.findClass RX6 = some m.cls := hown
  have hl : lv_has ls 6 [(0, .ref (a 0)), (1, .int w1), (2, .int w2)] := hl
  have hm : f_X6_average σ w1 w2 = some r := hm
  unfold f_X6_average at hm
  refine lv_aload_n hx hb dX6_average_0 rfl (lv_at hl 0 rfl) ?_
  refine lv_iload_n hx hb dX6_average_1 rfl (lv_at hl 1 rfl) ?_
  refine x_callVr (rest := []) hx hb hml hT hown hK hA B hl.1 (c_X6_isPlayer l D cI cZ a w1) mi_X6_isPlayer mv_X6_isPlayer xO_X rfl q314 ⟨rfl, rfl⟩ ⟨Nat.le_of_ble_eq_true rfl, Nat.le_of_ble_eq_true rfl⟩ rfl rfl (Nat.le_of_ble_eq_true rfl) dX6_average_2 hm (fun x1 H locs B hm => ?_)
  refine lv_if_eq (tgt := 17) hx hb dX6_average_5 (by decide) (fun q => ?_) (fun q => ?_)
  · have hm := ift hm q
    refine lv_iconst (v := (-1 : Int32)) hx hb dX6_average_17 (by decide) ?_
    exact x_iretr hx hb hr hlk hK B dX6_average_18 hm
  · have hm := iff hm q
    refine lv_iload_n hx hb dX6_average_8 rfl (lv_at hl 2 rfl) ?_
    refine lv_if_lt (tgt := 17) hx hb dX6_average_9 (by decide) (fun q => ?_) (fun q => ?_)
    · have hm := ift hm q
      refine lv_iconst (v := (-1 : Int32)) hx hb dX6_average_17 (by decide) ?_
      exact x_iretr hx hb hr hlk hK B dX6_average_18 hm
    · have hm := iff hm q
      refine lv_iload_n hx hb dX6_average_12 rfl (lv_at hl 2 rfl) ?_
      refine lv_iconst (v := (1 : Int32)) hx hb dX6_average_13 (by decide) ?_
      refine lv_icmp_le (tgt := 19) hx hb dX6_average_14 (by decide) (fun q => ?_) (fun q => ?_)
      · have hm := ift hm q
        refine lv_aload_n hx hb dX6_average_19 rfl (lv_at hl 0 rfl) ?_
        refine x_getv (T := TX6) (N := 8) hx hb hT hown hK B xV_X_table inlX6 rfl (by decide) q187 rfl dX6_average_20 ?_
        refine x_getvN (T := TX4) (N := 10) hx hb hT hown hK B xV_table_played inlX4 rfl (by decide) q103 rfl dX6_average_23 ?_
        refine lv_iload_n hx hb dX6_average_26 rfl (lv_at hl 1 rfl) ?_
        refine x_callVr (rest := []) hx hb hml hT hown hK hA B hl.1 (c_X2_at l D cI cZ xV_table_played_cells xA_table_played w1) mi_X2_at mv_X2_at xO_table_played rfl q317 ⟨rfl, rfl⟩ ⟨Nat.le_of_ble_eq_true rfl, Nat.le_of_ble_eq_true rfl⟩ rfl rfl (Nat.le_of_ble_eq_true rfl) dX6_average_27 hm (fun x2 H locs B hm => ?_)
        refine lv_istore_n (lv' := [(3, .int x2), (0, .ref (a 0)), (1, .int w1), (2, .int w2)]) hx hb dX6_average_30 rfl hl (by decide) rfl (fun ls hl => ?_)
        refine lv_iload_n hx hb dX6_average_31 rfl (lv_at hl 0 rfl) ?_
        refine lv_if_ne (tgt := 37) hx hb dX6_average_32 (by decide) (fun q => ?_) (fun q => ?_)
        · have hm := iff hm q
          refine lv_aload_n hx hb dX6_average_37 rfl (lv_at hl 1 rfl) ?_
          refine x_getv (T := TX6) (N := 8) hx hb hT hown hK B xV_X_table inlX6 rfl (by decide) q187 rfl dX6_average_38 ?_
          refine lv_iload_n hx hb dX6_average_41 rfl (lv_at hl 2 rfl) ?_
          refine x_callVr (rest := []) hx hb hml hT hown hK hA B hl.1 (c_X4_sumRatings l D cI cZ a w1) mi_X4_sumRatings mv_X4_sumRatings xO_table rfl q530 ⟨rfl, rfl⟩ ⟨Nat.le_of_ble_eq_true rfl, Nat.le_of_ble_eq_true rfl⟩ rfl rfl (Nat.le_of_ble_eq_true rfl) dX6_average_42 hm (fun x3 H locs B hm => ?_)
          refine lv_istore (lv' := [(4, .int x3), (3, .int x2), (0, .ref (a 0)), (1, .int w1), (2, .int w2)]) hx hb dX6_average_45 hl (by decide) rfl (fun ls hl => ?_)
          refine lv_iload hx hb dX6_average_47 (lv_at hl 0 rfl) ?_
          refine lv_iload_n hx hb dX6_average_49 rfl (lv_at hl 1 rfl) ?_
          refine x_callSr (rest := []) hx hb hml hT hown hK hA B hl.1 (c_X6_commonDivisor l D cI cZ (xW cI a) x3 x2) mi_X6_commonDivisor q535 q534 ⟨rfl, rfl⟩ ⟨Nat.le_of_ble_eq_true rfl, Nat.le_of_ble_eq_true rfl⟩ rfl rfl (Nat.le_of_ble_eq_true rfl) dX6_average_50 hm (fun x4 H locs B hm => ?_)
          refine lv_istore (lv' := [(5, .int x4), (4, .int x3), (3, .int x2), (0, .ref (a 0)), (1, .int w1), (2, .int w2)]) hx hb dX6_average_53 hl (by decide) rfl (fun ls hl => ?_)
          refine lv_iload_n hx hb dX6_average_55 rfl (lv_at hl 5 rfl) ?_
          refine lv_if_ne (tgt := 67) hx hb dX6_average_56 (by decide) (fun q => ?_) (fun q => ?_)
          · have hm := iff hm q
            refine lv_iload_n hx hb dX6_average_67 rfl (lv_at hl 2 rfl) ?_
            refine lv_iload hx hb dX6_average_68 (lv_at hl 0 rfl) ?_
            refine x_idiv hx hb dX6_average_70 hm (fun x5 hm => ?_)
            exact x_iretr hx hb hr hlk hK B dX6_average_71 hm
          · have hm := ift hm q
            refine lv_iload hx hb dX6_average_59 (lv_at hl 1 rfl) ?_
            refine lv_iload hx hb dX6_average_61 (lv_at hl 0 rfl) ?_
            refine x_idiv hx hb dX6_average_63 hm (fun x6 hm => ?_)
            refine lv_goto (tgt := 71) hx hb dX6_average_64 (by decide) ?_
            exact x_iretr hx hb hr hlk hK B dX6_average_71 hm
        · have hm := ift hm q
          refine lv_iload_n hx hb dX6_average_35 rfl (lv_at hl 3 rfl) ?_
          exact x_iretr hx hb hr hlk hK B dX6_average_36 hm
      · have hm := iff hm q
        refine lv_iconst (v := (-1 : Int32)) hx hb dX6_average_17 (by decide) ?_
        exact x_iretr hx hb hr hlk hK B dX6_average_18 hm
def f_X5_append_tape (σ : Mm) (w1 : Int32) : Option Mm :=
  (some (σ 71 0)).bind fun x1 =>
  (f_X2_put 40 70 σ x1 w1).bind fun σ =>
  (some (σ 71 0)).bind fun x2 =>
  (some (sc σ 71 (x2 + (1 : Int32)))).bind fun σ =>
  some σ
set_option maxHeartbeats 4000000 in
set_option maxRecDepth 100000 in
theorem c_X5_append_tape (l : Launch) (D : va_G) (cI cZ : ClassId) (a : Nat → Nat) (w1 : Int32) : CTv l D [(cI, FieldType.int), (cZ, FieldType.boolean)] (xW cI a) yX5_append (.code yX5_append cX5_append 2 (none : Option FieldType) :: wsL_law) ({ frames := 1, cells := 0, slots := 0, locals := 22 } : Room) [.ref (a 63), .int w1] (fun σ => f_X5_append_tape σ w1) := by
  refine CTv.of (by decide +kernel) (Nat.le_of_ble_eq_true rfl) ?_
  intro σ out hm p e s m below meth c A ls H locs hx hb hr hlk hml hT hown hK hA B hl
  have hown : s.vm.findClass RX5 = some m.cls := hown
  have hl : lv_has ls 2 [(0, .ref (a 63)), (1, .int w1)] := hl
  have hm : f_X5_append_tape σ w1 = some out := hm
  unfold f_X5_append_tape at hm
  refine lv_aload_n hx hb dX5_append_0 rfl (lv_at hl 0 rfl) ?_
  refine x_getv (T := TX5) (N := 2) hx hb hT hown hK B xV_tape_bytes inlX5 rfl (by decide) q163 rfl dX5_append_1 ?_
  refine lv_aload_n hx hb dX5_append_4 rfl (lv_at hl 0 rfl) ?_
  refine x_getib (T := TX5) (N := 2) hx hb hT hown hK B xI_tape_length inlX5 rfl (by decide) q164 rfl dX5_append_5 hm (fun x1 hm => ?_)
  refine lv_iload_n hx hb dX5_append_8 rfl (lv_at hl 1 rfl) ?_
  refine x_callVv (rest := []) hx hb hml hT hown hK hA B hl.1 (c_X2_put l D cI cZ xV_tape_bytes_cells xA_tape_bytes x1 w1) mi_X2_put mv_X2_put xO_tape_bytes rfl q545 ⟨rfl, rfl⟩ ⟨Nat.le_of_ble_eq_true rfl, Nat.le_of_ble_eq_true rfl⟩ rfl rfl (Nat.le_of_ble_eq_true rfl) dX5_append_9 hm (fun σ H locs B hm => ?_)
  refine lv_aload_n hx hb dX5_append_12 rfl (lv_at hl 0 rfl) ?_
  refine lv_dup hx hb dX5_append_13 rfl ?_
  refine x_getib (T := TX5) (N := 2) hx hb hT hown hK B xI_tape_length inlX5 rfl (by decide) q164 rfl dX5_append_14 hm (fun x2 hm => ?_)
  refine lv_iconst (v := (1 : Int32)) hx hb dX5_append_17 (by decide) ?_
  refine lv_iadd hx hb dX5_append_18 ?_
  refine x_puti (T := TX5) (N := 2) hx hb hT hown hK B xI_tape_length inlX5 tyX5_ok nmX5 rfl (by decide) q164 rfl rfl rfl rfl rfl dX5_append_19 hm (fun σ H locs B hm => ?_)
  exact x_vret hx hb hr hlk hK B dX5_append_22 hm
def f_X6_feed (σ : Mm) (w1 : Int32) : Option (Int32 × Mm) :=
  if w1 < (1 : Int32) then
    some ((-2 : Int32), σ)
  else
    if w1 ≤ (127 : Int32) then
      (some (σ 71 0)).bind fun x1 =>
      if x1 < (40 : Int32) then
        (f_X5_append_tape σ w1).bind fun σ =>
        (some (σ 71 0)).bind fun x2 =>
        some (x2, σ)
      else
        some ((-4 : Int32), σ)
    else
      some ((-2 : Int32), σ)
set_option maxHeartbeats 4000000 in
set_option maxRecDepth 100000 in
theorem c_X6_feed (l : Launch) (D : va_G) (cI cZ : ClassId) (a : Nat → Nat) (w1 : Int32) : CTi l D [(cI, FieldType.int), (cZ, FieldType.boolean)] (xW cI a) yX6_feed (.code yX6_feed cX6_feed 2 (some FieldType.int) :: wsL_law) ({ frames := 2, cells := 0, slots := 0, locals := 43 } : Room) [.ref (a 0), .int w1] (fun σ => f_X6_feed σ w1) := by
  refine CTi.of (by decide +kernel) (Nat.le_of_ble_eq_true rfl) ?_
  intro σ out hm p e s m below meth c A ls H locs hx hb hr hlk hml hT hown hK hA B hl
  have hown : s.vm.findClass RX6 = some m.cls := hown
  have hl : lv_has ls 2 [(0, .ref (a 0)), (1, .int w1)] := hl
  have hm : f_X6_feed σ w1 = some out := hm
  unfold f_X6_feed at hm
  refine lv_iload_n hx hb dX6_feed_0 rfl (lv_at hl 1 rfl) ?_
  refine lv_iconst (v := (1 : Int32)) hx hb dX6_feed_1 (by decide) ?_
  refine lv_icmp_lt (tgt := 11) hx hb dX6_feed_2 (by decide) (fun q => ?_) (fun q => ?_)
  · have hm := ift hm q
    refine lv_bipush (v := (-2 : Int32)) hx hb dX6_feed_11 (by decide) ?_
    exact x_iret hx hb hr hlk hK B dX6_feed_13 hm
  · have hm := iff hm q
    refine lv_iload_n hx hb dX6_feed_5 rfl (lv_at hl 1 rfl) ?_
    refine lv_bipush (v := (127 : Int32)) hx hb dX6_feed_6 (by decide) ?_
    refine lv_icmp_le (tgt := 14) hx hb dX6_feed_8 (by decide) (fun q => ?_) (fun q => ?_)
    · have hm := ift hm q
      refine lv_aload_n hx hb dX6_feed_14 rfl (lv_at hl 0 rfl) ?_
      refine x_getv (T := TX6) (N := 8) hx hb hT hown hK B xV_X_tape inlX6 rfl (by decide) q189 rfl dX6_feed_15 ?_
      refine x_getibN (T := TX5) (N := 2) hx hb hT hown hK B xI_tape_length inlX5 rfl (by decide) q165 rfl dX6_feed_18 hm (fun x1 hm => ?_)
      refine lv_bipush (v := (40 : Int32)) hx hb dX6_feed_21 (by decide) ?_
      refine lv_icmp_lt (tgt := 29) hx hb dX6_feed_23 (by decide) (fun q => ?_) (fun q => ?_)
      · have hm := ift hm q
        refine lv_aload_n hx hb dX6_feed_29 rfl (lv_at hl 0 rfl) ?_
        refine x_getv (T := TX6) (N := 8) hx hb hT hown hK B xV_X_tape inlX6 rfl (by decide) q189 rfl dX6_feed_30 ?_
        refine lv_iload_n hx hb dX6_feed_33 rfl (lv_at hl 1 rfl) ?_
        refine x_callVv (rest := []) hx hb hml hT hown hK hA B hl.1 (c_X5_append_tape l D cI cZ a w1) mi_X5_append mv_X5_append xO_tape rfl q541 ⟨rfl, rfl⟩ ⟨Nat.le_of_ble_eq_true rfl, Nat.le_of_ble_eq_true rfl⟩ rfl rfl (Nat.le_of_ble_eq_true rfl) dX6_feed_34 hm (fun σ H locs B hm => ?_)
        refine lv_aload_n hx hb dX6_feed_37 rfl (lv_at hl 0 rfl) ?_
        refine x_getv (T := TX6) (N := 8) hx hb hT hown hK B xV_X_tape inlX6 rfl (by decide) q189 rfl dX6_feed_38 ?_
        refine x_getibN (T := TX5) (N := 2) hx hb hT hown hK B xI_tape_length inlX5 rfl (by decide) q165 rfl dX6_feed_41 hm (fun x2 hm => ?_)
        exact x_iret hx hb hr hlk hK B dX6_feed_44 hm
      · have hm := iff hm q
        refine lv_bipush (v := (-4 : Int32)) hx hb dX6_feed_26 (by decide) ?_
        exact x_iret hx hb hr hlk hK B dX6_feed_28 hm
    · have hm := iff hm q
      refine lv_bipush (v := (-2 : Int32)) hx hb dX6_feed_11 (by decide) ?_
      exact x_iret hx hb hr hlk hK B dX6_feed_13 hm
def f_X6_clear (σ : Mm) : Option (Int32 × Mm) :=
  (some (σ 71 0)).bind fun x1 =>
  (some (sc σ 71 (0 : Int32))).bind fun σ =>
  some (x1, σ)
set_option maxHeartbeats 4000000 in
set_option maxRecDepth 100000 in
theorem c_X6_clear (l : Launch) (D : va_G) (cI cZ : ClassId) (a : Nat → Nat) : CTi l D [(cI, FieldType.int), (cZ, FieldType.boolean)] (xW cI a) yX6_clear (.code yX6_clear cX6_clear 2 (some FieldType.int) :: wsL_law) ({ frames := 0, cells := 0, slots := 0, locals := 0 } : Room) [.ref (a 0)] (fun σ => f_X6_clear σ) := by
  refine CTi.of (by decide +kernel) (Nat.le_of_ble_eq_true rfl) ?_
  intro σ out hm p e s m below meth c A ls H locs hx hb hr hlk hml hT hown hK hA B hl
  have hown : s.vm.findClass RX6 = some m.cls := hown
  have hl : lv_has ls 2 [(0, .ref (a 0))] := hl
  have hm : f_X6_clear σ = some out := hm
  unfold f_X6_clear at hm
  refine lv_aload_n hx hb dX6_clear_0 rfl (lv_at hl 0 rfl) ?_
  refine x_getv (T := TX6) (N := 8) hx hb hT hown hK B xV_X_tape inlX6 rfl (by decide) q189 rfl dX6_clear_1 ?_
  refine x_getibN (T := TX5) (N := 2) hx hb hT hown hK B xI_tape_length inlX5 rfl (by decide) q165 rfl dX6_clear_4 hm (fun x1 hm => ?_)
  refine lv_istore_n (lv' := [(1, .int x1), (0, .ref (a 0))]) hx hb dX6_clear_7 rfl hl (by decide) rfl (fun ls hl => ?_)
  refine lv_aload_n hx hb dX6_clear_8 rfl (lv_at hl 1 rfl) ?_
  refine x_getv (T := TX6) (N := 8) hx hb hT hown hK B xV_X_tape inlX6 rfl (by decide) q189 rfl dX6_clear_9 ?_
  refine lv_iconst (v := (0 : Int32)) hx hb dX6_clear_12 (by decide) ?_
  refine x_putiN (T := TX5) (N := 2) hx hb hT hown hK B xI_tape_length inlX5 tyX5_ok nmX5 rfl (by decide) q165 rfl rfl rfl rfl rfl dX6_clear_13 hm (fun σ H locs B hm => ?_)
  refine lv_iload_n hx hb dX6_clear_16 rfl (lv_at hl 0 rfl) ?_
  exact x_iret hx hb hr hlk hK B dX6_clear_17 hm
def f_X6_ordered (σ : Mm) (w1 : Int32) : Option Int32 :=
  if 0 ≤ w1 then
    if (σ 10 0) ≤ w1 then
      some (-5 : Int32)
    else
      (f_X2_at 9 11 σ w1).bind fun x1 =>
      some x1
  else
    some (-1 : Int32)
set_option maxHeartbeats 4000000 in
set_option maxRecDepth 100000 in
theorem c_X6_ordered (l : Launch) (D : va_G) (cI cZ : ClassId) (a : Nat → Nat) (w1 : Int32) : CTr l D [(cI, FieldType.int), (cZ, FieldType.boolean)] (xW cI a) yX6_ordered (.code yX6_ordered cX6_ordered 2 (some FieldType.int) :: wsL_law) ({ frames := 1, cells := 0, slots := 0, locals := 21 } : Room) [.ref (a 0), .int w1] (fun σ => f_X6_ordered σ w1) := by
  refine CTr.of (by decide +kernel) (Nat.le_of_ble_eq_true rfl) ?_
  intro σ r hm p e s m below meth c A ls H locs hx hb hr hlk hml hT hown hK hA B hl
  have hown : s.vm.findClass RX6 = some m.cls := hown
  have hl : lv_has ls 2 [(0, .ref (a 0)), (1, .int w1)] := hl
  have hm : f_X6_ordered σ w1 = some r := hm
  unfold f_X6_ordered at hm
  refine lv_iload_n hx hb dX6_ordered_0 rfl (lv_at hl 1 rfl) ?_
  refine lv_if_ge (tgt := 6) hx hb dX6_ordered_1 (by decide) (fun q => ?_) (fun q => ?_)
  · have hm := ift hm q
    refine lv_iload_n hx hb dX6_ordered_6 rfl (lv_at hl 1 rfl) ?_
    refine lv_aload_n hx hb dX6_ordered_7 rfl (lv_at hl 0 rfl) ?_
    refine x_getv (T := TX6) (N := 8) hx hb hT hown hK B xV_X_book inlX6 rfl (by decide) q184 rfl dX6_ordered_8 ?_
    refine x_getiN (T := TX0) (N := 12) hx hb hT hown hK B xI_book_breaks inlX0 rfl (by decide) q76 rfl dX6_ordered_11 ?_
    refine lv_icmp_ge (tgt := 31) hx hb dX6_ordered_14 (by decide) (fun q => ?_) (fun q => ?_)
    · have hm := ift hm q
      refine lv_bipush (v := (-5 : Int32)) hx hb dX6_ordered_31 (by decide) ?_
      exact x_iretr hx hb hr hlk hK B dX6_ordered_33 hm
    · have hm := iff hm q
      refine lv_aload_n hx hb dX6_ordered_17 rfl (lv_at hl 0 rfl) ?_
      refine x_getv (T := TX6) (N := 8) hx hb hT hown hK B xV_X_book inlX6 rfl (by decide) q184 rfl dX6_ordered_18 ?_
      refine x_getvN (T := TX0) (N := 12) hx hb hT hown hK B xV_book_breakOrder inlX0 rfl (by decide) q79 rfl dX6_ordered_21 ?_
      refine lv_iload_n hx hb dX6_ordered_24 rfl (lv_at hl 1 rfl) ?_
      refine x_callVr (rest := []) hx hb hml hT hown hK hA B hl.1 (c_X2_at l D cI cZ xV_book_breakOrder_cells xA_book_breakOrder w1) mi_X2_at mv_X2_at xO_book_breakOrder rfl q317 ⟨rfl, rfl⟩ ⟨Nat.le_of_ble_eq_true rfl, Nat.le_of_ble_eq_true rfl⟩ rfl rfl (Nat.le_of_ble_eq_true rfl) dX6_ordered_25 hm (fun x1 H locs B hm => ?_)
      refine lv_goto (tgt := 33) hx hb dX6_ordered_28 (by decide) ?_
      exact x_iretr hx hb hr hlk hK B dX6_ordered_33 hm
  · have hm := iff hm q
    refine lv_iconst (v := (-1 : Int32)) hx hb dX6_ordered_4 (by decide) ?_
    exact x_iretr hx hb hr hlk hK B dX6_ordered_5 hm
def f_X5_append_sheet (σ : Mm) (w1 : Int32) : Option Mm :=
  (some (σ 73 0)).bind fun x1 =>
  (f_X2_put 96 72 σ x1 w1).bind fun σ =>
  (some (σ 73 0)).bind fun x2 =>
  (some (sc σ 73 (x2 + (1 : Int32)))).bind fun σ =>
  some σ
set_option maxHeartbeats 4000000 in
set_option maxRecDepth 100000 in
theorem c_X5_append_sheet (l : Launch) (D : va_G) (cI cZ : ClassId) (a : Nat → Nat) (w1 : Int32) : CTv l D [(cI, FieldType.int), (cZ, FieldType.boolean)] (xW cI a) yX5_append (.code yX5_append cX5_append 2 (none : Option FieldType) :: wsL_law) ({ frames := 1, cells := 0, slots := 0, locals := 22 } : Room) [.ref (a 66), .int w1] (fun σ => f_X5_append_sheet σ w1) := by
  refine CTv.of (by decide +kernel) (Nat.le_of_ble_eq_true rfl) ?_
  intro σ out hm p e s m below meth c A ls H locs hx hb hr hlk hml hT hown hK hA B hl
  have hown : s.vm.findClass RX5 = some m.cls := hown
  have hl : lv_has ls 2 [(0, .ref (a 66)), (1, .int w1)] := hl
  have hm : f_X5_append_sheet σ w1 = some out := hm
  unfold f_X5_append_sheet at hm
  refine lv_aload_n hx hb dX5_append_0 rfl (lv_at hl 0 rfl) ?_
  refine x_getv (T := TX5) (N := 2) hx hb hT hown hK B xV_sheet_bytes inlX5 rfl (by decide) q163 rfl dX5_append_1 ?_
  refine lv_aload_n hx hb dX5_append_4 rfl (lv_at hl 0 rfl) ?_
  refine x_getib (T := TX5) (N := 2) hx hb hT hown hK B xI_sheet_length inlX5 rfl (by decide) q164 rfl dX5_append_5 hm (fun x1 hm => ?_)
  refine lv_iload_n hx hb dX5_append_8 rfl (lv_at hl 1 rfl) ?_
  refine x_callVv (rest := []) hx hb hml hT hown hK hA B hl.1 (c_X2_put l D cI cZ xV_sheet_bytes_cells xA_sheet_bytes x1 w1) mi_X2_put mv_X2_put xO_sheet_bytes rfl q545 ⟨rfl, rfl⟩ ⟨Nat.le_of_ble_eq_true rfl, Nat.le_of_ble_eq_true rfl⟩ rfl rfl (Nat.le_of_ble_eq_true rfl) dX5_append_9 hm (fun σ H locs B hm => ?_)
  refine lv_aload_n hx hb dX5_append_12 rfl (lv_at hl 0 rfl) ?_
  refine lv_dup hx hb dX5_append_13 rfl ?_
  refine x_getib (T := TX5) (N := 2) hx hb hT hown hK B xI_sheet_length inlX5 rfl (by decide) q164 rfl dX5_append_14 hm (fun x2 hm => ?_)
  refine lv_iconst (v := (1 : Int32)) hx hb dX5_append_17 (by decide) ?_
  refine lv_iadd hx hb dX5_append_18 ?_
  refine x_puti (T := TX5) (N := 2) hx hb hT hown hK B xI_sheet_length inlX5 tyX5_ok nmX5 rfl (by decide) q164 rfl rfl rfl rfl rfl dX5_append_19 hm (fun σ H locs B hm => ?_)
  exact x_vret hx hb hr hlk hK B dX5_append_22 hm
def f_X5_appendNumber_sheet_j17 (σ : Mm) (v1 : Int32) : Option Mm :=
  (nz (10 : Int32) (v1 - v1 / (10 : Int32) * (10 : Int32))).bind fun x1 =>
  (f_X5_append_sheet σ ((48 : Int32) + x1)).bind fun σ =>
  some σ
def f_X5_appendNumber_sheet (σ : Mm) (w1 : Int32) : Option Mm :=
  if w1 < (10 : Int32) then
    f_X5_appendNumber_sheet_j17 σ w1
  else
    (nz (10 : Int32) (w1 / (10 : Int32))).bind fun x2 =>
    (f_X5_append_sheet σ ((48 : Int32) + x2)).bind fun σ =>
    f_X5_appendNumber_sheet_j17 σ w1
set_option maxHeartbeats 4000000 in
set_option maxRecDepth 100000 in
theorem c_X5_appendNumber_sheet (l : Launch) (D : va_G) (cI cZ : ClassId) (a : Nat → Nat) (w1 : Int32) : CTv l D [(cI, FieldType.int), (cZ, FieldType.boolean)] (xW cI a) yX5_appendNumber (.code yX5_appendNumber cX5_appendNumber 2 (none : Option FieldType) :: wsL_law) ({ frames := 2, cells := 0, slots := 0, locals := 43 } : Room) [.ref (a 66), .int w1] (fun σ => f_X5_appendNumber_sheet σ w1) := by
  refine CTv.of (by decide +kernel) (Nat.le_of_ble_eq_true rfl) ?_
  intro σ out hm p e s m below meth c A ls H locs hx hb hr hlk hml hT hown hK hA B hl
  have hown : s.vm.findClass RX5 = some m.cls := hown
  have hl : lv_has ls 2 [(0, .ref (a 66)), (1, .int w1)] := hl
  have hm : f_X5_appendNumber_sheet σ w1 = some out := hm
  unfold f_X5_appendNumber_sheet at hm
  have j17 : ∀ (σ : Mm) (v1 : Int32) (H : Heap) (locs : List Loc) (ls : Array Slot), BD D A s.heap ((xW cI a) σ) H locs → lv_has ls 2 [(0, .ref (a 66)), (1, .int v1)] → f_X5_appendNumber_sheet_j17 σ v1 = some out → W p l e ({ frames := 2, cells := 0, slots := 0, locals := 43 } : Room) s m ([.ref (a 66), .int w1] : List Value).toArray below meth c H locs 0 0 (MQ below (QV D [(cI, FieldType.int), (cZ, FieldType.boolean)] (xW cI a) A out) ([.ref (a 66), .int w1] : List Value).toArray s 0 0 A) (F0 m 17 ls []) := by
    intro σ v1 H locs ls B hl hm
    unfold f_X5_appendNumber_sheet_j17 at hm
    refine lv_aload_n hx hb dX5_appendNumber_17 rfl (lv_at hl 0 rfl) ?_
    refine lv_bipush (v := (48 : Int32)) hx hb dX5_appendNumber_18 (by decide) ?_
    refine lv_iload_n hx hb dX5_appendNumber_20 rfl (lv_at hl 1 rfl) ?_
    refine lv_bipush (v := (10 : Int32)) hx hb dX5_appendNumber_21 (by decide) ?_
    refine x_irem hx hb dX5_appendNumber_23 hm (fun x1 hm => ?_)
    refine lv_iadd hx hb dX5_appendNumber_24 ?_
    refine x_callVv (rest := []) hx hb hml hT hown hK hA B hl.1 (c_X5_append_sheet l D cI cZ a ((48 : Int32) + x1)) mi_X5_append mv_X5_append xO_sheet rfl q665 ⟨rfl, rfl⟩ ⟨Nat.le_of_ble_eq_true rfl, Nat.le_of_ble_eq_true rfl⟩ rfl rfl (Nat.le_of_ble_eq_true rfl) dX5_appendNumber_25 hm (fun σ H locs B hm => ?_)
    exact x_vret hx hb hr hlk hK B dX5_appendNumber_28 hm
  refine lv_iload_n hx hb dX5_appendNumber_0 rfl (lv_at hl 1 rfl) ?_
  refine lv_bipush (v := (10 : Int32)) hx hb dX5_appendNumber_1 (by decide) ?_
  refine lv_icmp_lt (tgt := 17) hx hb dX5_appendNumber_3 (by decide) (fun q => ?_) (fun q => ?_)
  · have hm := ift hm q
    exact j17 σ w1 H locs ls B (lv_sub hl [0, 1] rfl) hm
  · have hm := iff hm q
    refine lv_aload_n hx hb dX5_appendNumber_6 rfl (lv_at hl 0 rfl) ?_
    refine lv_bipush (v := (48 : Int32)) hx hb dX5_appendNumber_7 (by decide) ?_
    refine lv_iload_n hx hb dX5_appendNumber_9 rfl (lv_at hl 1 rfl) ?_
    refine lv_bipush (v := (10 : Int32)) hx hb dX5_appendNumber_10 (by decide) ?_
    refine x_idiv hx hb dX5_appendNumber_12 hm (fun x2 hm => ?_)
    refine lv_iadd hx hb dX5_appendNumber_13 ?_
    refine x_callVv (rest := []) hx hb hml hT hown hK hA B hl.1 (c_X5_append_sheet l D cI cZ a ((48 : Int32) + x2)) mi_X5_append mv_X5_append xO_sheet rfl q665 ⟨rfl, rfl⟩ ⟨Nat.le_of_ble_eq_true rfl, Nat.le_of_ble_eq_true rfl⟩ rfl rfl (Nat.le_of_ble_eq_true rfl) dX5_appendNumber_14 hm (fun σ H locs B hm => ?_)
    exact j17 σ w1 H locs ls B (lv_sub hl [0, 1] rfl) hm
def f_X6_markFor (w0 : Int32) : Option Int32 :=
  if w0 = (1 : Int32) then
    some (49 : Int32)
  else
    if w0 = (2 : Int32) then
      some (61 : Int32)
    else
      if w0 = (3 : Int32) then
        some (48 : Int32)
      else
        if w0 = (4 : Int32) then
          some (43 : Int32)
        else
          some (45 : Int32)
set_option maxHeartbeats 4000000 in
set_option maxRecDepth 100000 in
theorem c_X6_markFor (l : Launch) (D : va_G) (cI cZ : ClassId) (ww : Mm → va_W) (w0 : Int32) : CTr l D [(cI, FieldType.int), (cZ, FieldType.boolean)] ww yX6_markFor (.code yX6_markFor cX6_markFor 1 (some FieldType.char) :: wsL_law) ({ frames := 0, cells := 0, slots := 0, locals := 0 } : Room) [.int w0] (fun σ => f_X6_markFor w0) := by
  refine CTr.of (by decide +kernel) (Nat.le_of_ble_eq_true rfl) ?_
  intro σ r hm p e s m below meth c A ls H locs hx hb hr hlk hml hT hown hK hA B hl
  have hown : s.vm.findClass RX6 = some m.cls := hown
  have hl : lv_has ls 1 [(0, .int w0)] := hl
  have hm : f_X6_markFor w0 = some r := hm
  unfold f_X6_markFor at hm
  refine lv_iload_n hx hb dX6_markFor_0 rfl (lv_at hl 0 rfl) ?_
  by_cases q0 : w0 = (1 : Int32)
  · have hm := ift hm q0
    refine lv_tableIn (off := 31) (tgt := 32) hx hb dX6_markFor_1 (by rw [q0]; decide) (by rw [q0]; decide) (by rw [q0]; rfl) (by decide) ?_
    refine lv_bipush (v := (49 : Int32)) hx hb dX6_markFor_32 (by decide) ?_
    exact x_zretr hx hb hr hlk hK B rfl dX6_markFor_34 hm
  · have hm := iff hm q0
    by_cases q1 : w0 = (2 : Int32)
    · have hm := ift hm q1
      refine lv_tableIn (off := 34) (tgt := 35) hx hb dX6_markFor_1 (by rw [q1]; decide) (by rw [q1]; decide) (by rw [q1]; rfl) (by decide) ?_
      refine lv_bipush (v := (61 : Int32)) hx hb dX6_markFor_35 (by decide) ?_
      exact x_zretr hx hb hr hlk hK B rfl dX6_markFor_37 hm
    · have hm := iff hm q1
      by_cases q2 : w0 = (3 : Int32)
      · have hm := ift hm q2
        refine lv_tableIn (off := 37) (tgt := 38) hx hb dX6_markFor_1 (by rw [q2]; decide) (by rw [q2]; decide) (by rw [q2]; rfl) (by decide) ?_
        refine lv_bipush (v := (48 : Int32)) hx hb dX6_markFor_38 (by decide) ?_
        exact x_zretr hx hb hr hlk hK B rfl dX6_markFor_40 hm
      · have hm := iff hm q2
        by_cases q3 : w0 = (4 : Int32)
        · have hm := ift hm q3
          refine lv_tableIn (off := 40) (tgt := 41) hx hb dX6_markFor_1 (by rw [q3]; decide) (by rw [q3]; decide) (by rw [q3]; rfl) (by decide) ?_
          refine lv_bipush (v := (43 : Int32)) hx hb dX6_markFor_41 (by decide) ?_
          exact x_zretr hx hb hr hlk hK B rfl dX6_markFor_43 hm
        · have hm := iff hm q3
          have z0 := lv_neT (k := (1 : Int32)) (a := 1) q0 (by decide)
          have z1 := lv_neT (k := (2 : Int32)) (a := 2) q1 (by decide)
          have z2 := lv_neT (k := (3 : Int32)) (a := 3) q2 (by decide)
          have z3 := lv_neT (k := (4 : Int32)) (a := 4) q3 (by decide)
          refine lv_tableOut (tgt := 44) hx hb dX6_markFor_1 (by omega) (by decide) ?_
          refine lv_bipush (v := (45 : Int32)) hx hb dX6_markFor_44 (by decide) ?_
          exact x_zretr hx hb hr hlk hK B rfl dX6_markFor_46 hm
def f_X6_writeRound_j40 (σ : Mm) (s1 : Int32) : Option Mm :=
  (f_X5_append_sheet σ s1).bind fun σ =>
  some σ
def f_X6_writeRound (σ : Mm) (w1 : Int32) (w2 : Int32) : Option Mm :=
  (f_X0_boardWith σ w2 w1).bind fun x1 =>
  if 0 ≤ x1 then
    (f_X0_otherAt σ w2 x1 w1).bind fun x2 =>
    (f_X5_appendNumber_sheet σ x2).bind fun σ =>
    (f_X0_outcomeFor σ w2 x1 w1).bind fun x3 =>
    (f_X6_markFor x3).bind fun x4 =>
    (f_X5_append_sheet σ x4).bind fun σ =>
    some σ
  else
    (f_X2_at 20 6 σ w2).bind fun x5 =>
    if x5 = w1 then
      f_X6_writeRound_j40 σ (66 : Int32)
    else
      f_X6_writeRound_j40 σ (122 : Int32)
set_option maxHeartbeats 4000000 in
set_option maxRecDepth 100000 in
theorem c_X6_writeRound (l : Launch) (D : va_G) (cI cZ : ClassId) (a : Nat → Nat) (w1 : Int32) (w2 : Int32) : CTv l D [(cI, FieldType.int), (cZ, FieldType.boolean)] (xW cI a) yX6_writeRound (.code yX6_writeRound cX6_writeRound 4 (none : Option FieldType) :: wsL_law) ({ frames := 3, cells := 0, slots := 0, locals := 68 } : Room) [.ref (a 0), .int w1, .int w2] (fun σ => f_X6_writeRound σ w1 w2) := by
  refine CTv.of (by decide +kernel) (Nat.le_of_ble_eq_true rfl) ?_
  intro σ out hm p e s m below meth c A ls H locs hx hb hr hlk hml hT hown hK hA B hl
  have hown : s.vm.findClass RX6 = some m.cls := hown
  have hl : lv_has ls 4 [(0, .ref (a 0)), (1, .int w1), (2, .int w2)] := hl
  have hm : f_X6_writeRound σ w1 w2 = some out := hm
  unfold f_X6_writeRound at hm
  have j40 : ∀ (σ : Mm) (s1 : Int32) (H : Heap) (locs : List Loc) (ls : Array Slot), BD D A s.heap ((xW cI a) σ) H locs → lv_has ls 4 [] → f_X6_writeRound_j40 σ s1 = some out → W p l e ({ frames := 3, cells := 0, slots := 0, locals := 68 } : Room) s m ([.ref (a 0), .int w1, .int w2] : List Value).toArray below meth c H locs 0 0 (MQ below (QV D [(cI, FieldType.int), (cZ, FieldType.boolean)] (xW cI a) A out) ([.ref (a 0), .int w1, .int w2] : List Value).toArray s 0 0 A) (F0 m 40 ls [.int s1, .ref (a 66)]) := by
    intro σ s1 H locs ls B hl hm
    unfold f_X6_writeRound_j40 at hm
    refine x_callVv (rest := []) hx hb hml hT hown hK hA B hl.1 (c_X5_append_sheet l D cI cZ a s1) mi_X5_append mv_X5_append xO_sheet rfl q541 ⟨rfl, rfl⟩ ⟨Nat.le_of_ble_eq_true rfl, Nat.le_of_ble_eq_true rfl⟩ rfl rfl (Nat.le_of_ble_eq_true rfl) dX6_writeRound_40 hm (fun σ H locs B hm => ?_)
    exact x_vret hx hb hr hlk hK B dX6_writeRound_43 hm
  refine lv_aload_n hx hb dX6_writeRound_0 rfl (lv_at hl 0 rfl) ?_
  refine x_getv (T := TX6) (N := 8) hx hb hT hown hK B xV_X_book inlX6 rfl (by decide) q184 rfl dX6_writeRound_1 ?_
  refine lv_iload_n hx hb dX6_writeRound_4 rfl (lv_at hl 2 rfl) ?_
  refine lv_iload_n hx hb dX6_writeRound_5 rfl (lv_at hl 1 rfl) ?_
  refine x_callVr (rest := []) hx hb hml hT hown hK hA B hl.1 (c_X0_boardWith l D cI cZ a w2 w1) mi_X0_boardWith mv_X0_boardWith xO_book rfl q514 ⟨rfl, rfl⟩ ⟨Nat.le_of_ble_eq_true rfl, Nat.le_of_ble_eq_true rfl⟩ rfl rfl (Nat.le_of_ble_eq_true rfl) dX6_writeRound_6 hm (fun x1 H locs B hm => ?_)
  refine lv_istore_n (lv' := [(3, .int x1), (0, .ref (a 0)), (1, .int w1), (2, .int w2)]) hx hb dX6_writeRound_9 rfl hl (by decide) rfl (fun ls hl => ?_)
  refine lv_iload_n hx hb dX6_writeRound_10 rfl (lv_at hl 0 rfl) ?_
  refine lv_if_ge (tgt := 44) hx hb dX6_writeRound_11 (by decide) (fun q => ?_) (fun q => ?_)
  · have hm := ift hm q
    refine lv_aload_n hx hb dX6_writeRound_44 rfl (lv_at hl 1 rfl) ?_
    refine x_getv (T := TX6) (N := 8) hx hb hT hown hK B xV_X_sheet inlX6 rfl (by decide) q190 rfl dX6_writeRound_45 ?_
    refine lv_aload_n hx hb dX6_writeRound_48 rfl (lv_at hl 1 rfl) ?_
    refine x_getv (T := TX6) (N := 8) hx hb hT hown hK B xV_X_book inlX6 rfl (by decide) q184 rfl dX6_writeRound_49 ?_
    refine lv_iload_n hx hb dX6_writeRound_52 rfl (lv_at hl 3 rfl) ?_
    refine lv_iload_n hx hb dX6_writeRound_53 rfl (lv_at hl 0 rfl) ?_
    refine lv_iload_n hx hb dX6_writeRound_54 rfl (lv_at hl 2 rfl) ?_
    refine x_callVr (rest := [.ref (a 66)]) hx hb hml hT hown hK hA B hl.1 (c_X0_otherAt l D cI cZ a w2 x1 w1) mi_X0_otherAt mv_X0_otherAt xO_book rfl q518 ⟨rfl, rfl⟩ ⟨Nat.le_of_ble_eq_true rfl, Nat.le_of_ble_eq_true rfl⟩ rfl rfl (Nat.le_of_ble_eq_true rfl) dX6_writeRound_55 hm (fun x2 H locs B hm => ?_)
    refine x_callVv (rest := []) hx hb hml hT hown hK hA B hl.1 (c_X5_appendNumber_sheet l D cI cZ a x2) mi_X5_appendNumber mv_X5_appendNumber xO_sheet rfl q661 ⟨rfl, rfl⟩ ⟨Nat.le_of_ble_eq_true rfl, Nat.le_of_ble_eq_true rfl⟩ rfl rfl (Nat.le_of_ble_eq_true rfl) dX6_writeRound_58 hm (fun σ H locs B hm => ?_)
    refine lv_aload_n hx hb dX6_writeRound_61 rfl (lv_at hl 1 rfl) ?_
    refine x_getv (T := TX6) (N := 8) hx hb hT hown hK B xV_X_sheet inlX6 rfl (by decide) q190 rfl dX6_writeRound_62 ?_
    refine lv_aload_n hx hb dX6_writeRound_65 rfl (lv_at hl 1 rfl) ?_
    refine x_getv (T := TX6) (N := 8) hx hb hT hown hK B xV_X_book inlX6 rfl (by decide) q184 rfl dX6_writeRound_66 ?_
    refine lv_iload_n hx hb dX6_writeRound_69 rfl (lv_at hl 3 rfl) ?_
    refine lv_iload_n hx hb dX6_writeRound_70 rfl (lv_at hl 0 rfl) ?_
    refine lv_iload_n hx hb dX6_writeRound_71 rfl (lv_at hl 2 rfl) ?_
    refine x_callVr (rest := [.ref (a 66)]) hx hb hml hT hown hK hA B hl.1 (c_X0_outcomeFor l D cI cZ a w2 x1 w1) mi_X0_outcomeFor mv_X0_outcomeFor xO_book rfl q524 ⟨rfl, rfl⟩ ⟨Nat.le_of_ble_eq_true rfl, Nat.le_of_ble_eq_true rfl⟩ rfl rfl (Nat.le_of_ble_eq_true rfl) dX6_writeRound_72 hm (fun x3 H locs B hm => ?_)
    refine x_callSr (rest := [.ref (a 66)]) hx hb hml hT hown hK hA B hl.1 (c_X6_markFor l D cI cZ (xW cI a) x3) mi_X6_markFor q673 q672 ⟨rfl, rfl⟩ ⟨Nat.le_of_ble_eq_true rfl, Nat.le_of_ble_eq_true rfl⟩ rfl rfl (Nat.le_of_ble_eq_true rfl) dX6_writeRound_75 hm (fun x4 H locs B hm => ?_)
    refine x_callVv (rest := []) hx hb hml hT hown hK hA B hl.1 (c_X5_append_sheet l D cI cZ a x4) mi_X5_append mv_X5_append xO_sheet rfl q541 ⟨rfl, rfl⟩ ⟨Nat.le_of_ble_eq_true rfl, Nat.le_of_ble_eq_true rfl⟩ rfl rfl (Nat.le_of_ble_eq_true rfl) dX6_writeRound_78 hm (fun σ H locs B hm => ?_)
    exact x_vret hx hb hr hlk hK B dX6_writeRound_81 hm
  · have hm := iff hm q
    refine lv_aload_n hx hb dX6_writeRound_14 rfl (lv_at hl 1 rfl) ?_
    refine x_getv (T := TX6) (N := 8) hx hb hT hown hK B xV_X_sheet inlX6 rfl (by decide) q190 rfl dX6_writeRound_15 ?_
    refine lv_aload_n hx hb dX6_writeRound_18 rfl (lv_at hl 1 rfl) ?_
    refine x_getv (T := TX6) (N := 8) hx hb hT hown hK B xV_X_book inlX6 rfl (by decide) q184 rfl dX6_writeRound_19 ?_
    refine x_getvN (T := TX0) (N := 12) hx hb hT hown hK B xV_book_byes inlX0 rfl (by decide) q65 rfl dX6_writeRound_22 ?_
    refine lv_iload_n hx hb dX6_writeRound_25 rfl (lv_at hl 3 rfl) ?_
    refine x_callVr (rest := [.ref (a 66)]) hx hb hml hT hown hK hA B hl.1 (c_X2_at l D cI cZ xV_book_byes_cells xA_book_byes w2) mi_X2_at mv_X2_at xO_book_byes rfl q317 ⟨rfl, rfl⟩ ⟨Nat.le_of_ble_eq_true rfl, Nat.le_of_ble_eq_true rfl⟩ rfl rfl (Nat.le_of_ble_eq_true rfl) dX6_writeRound_26 hm (fun x5 H locs B hm => ?_)
    refine lv_iload_n hx hb dX6_writeRound_29 rfl (lv_at hl 2 rfl) ?_
    refine lv_icmp_ne (tgt := 38) hx hb dX6_writeRound_30 (by decide) (fun q => ?_) (fun q => ?_)
    · have hm := iff hm q
      refine lv_bipush (v := (122 : Int32)) hx hb dX6_writeRound_38 (by decide) ?_
      exact j40 σ (122 : Int32) H locs ls B (lv_sub hl [] rfl) hm
    · have hm := ift hm q
      refine lv_bipush (v := (66 : Int32)) hx hb dX6_writeRound_33 (by decide) ?_
      refine lv_goto (tgt := 40) hx hb dX6_writeRound_35 (by decide) ?_
      exact j40 σ (66 : Int32) H locs ls B (lv_sub hl [] rfl) hm
def f_X6_writeHalved (σ : Mm) (w1 : Int32) : Option Mm :=
  (nz (2 : Int32) (w1 / (2 : Int32))).bind fun x1 =>
  (f_X5_appendNumber_sheet σ x1).bind fun σ =>
  (nz (2 : Int32) (w1 - w1 / (2 : Int32) * (2 : Int32))).bind fun x2 =>
  if x2 = 0 then
    some σ
  else
    (f_X5_append_sheet σ (46 : Int32)).bind fun σ =>
    (f_X5_append_sheet σ (53 : Int32)).bind fun σ =>
    some σ
set_option maxHeartbeats 4000000 in
set_option maxRecDepth 100000 in
theorem c_X6_writeHalved (l : Launch) (D : va_G) (cI cZ : ClassId) (a : Nat → Nat) (w1 : Int32) : CTv l D [(cI, FieldType.int), (cZ, FieldType.boolean)] (xW cI a) yX6_writeHalved (.code yX6_writeHalved cX6_writeHalved 2 (none : Option FieldType) :: wsL_law) ({ frames := 3, cells := 0, slots := 0, locals := 64 } : Room) [.ref (a 0), .int w1] (fun σ => f_X6_writeHalved σ w1) := by
  refine CTv.of (by decide +kernel) (Nat.le_of_ble_eq_true rfl) ?_
  intro σ out hm p e s m below meth c A ls H locs hx hb hr hlk hml hT hown hK hA B hl
  have hown : s.vm.findClass RX6 = some m.cls := hown
  have hl : lv_has ls 2 [(0, .ref (a 0)), (1, .int w1)] := hl
  have hm : f_X6_writeHalved σ w1 = some out := hm
  unfold f_X6_writeHalved at hm
  refine lv_aload_n hx hb dX6_writeHalved_0 rfl (lv_at hl 0 rfl) ?_
  refine x_getv (T := TX6) (N := 8) hx hb hT hown hK B xV_X_sheet inlX6 rfl (by decide) q190 rfl dX6_writeHalved_1 ?_
  refine lv_iload_n hx hb dX6_writeHalved_4 rfl (lv_at hl 1 rfl) ?_
  refine lv_iconst (v := (2 : Int32)) hx hb dX6_writeHalved_5 (by decide) ?_
  refine x_idiv hx hb dX6_writeHalved_6 hm (fun x1 hm => ?_)
  refine x_callVv (rest := []) hx hb hml hT hown hK hA B hl.1 (c_X5_appendNumber_sheet l D cI cZ a x1) mi_X5_appendNumber mv_X5_appendNumber xO_sheet rfl q661 ⟨rfl, rfl⟩ ⟨Nat.le_of_ble_eq_true rfl, Nat.le_of_ble_eq_true rfl⟩ rfl rfl (Nat.le_of_ble_eq_true rfl) dX6_writeHalved_7 hm (fun σ H locs B hm => ?_)
  refine lv_iload_n hx hb dX6_writeHalved_10 rfl (lv_at hl 1 rfl) ?_
  refine lv_iconst (v := (2 : Int32)) hx hb dX6_writeHalved_11 (by decide) ?_
  refine x_irem hx hb dX6_writeHalved_12 hm (fun x2 hm => ?_)
  refine lv_if_eq (tgt := 34) hx hb dX6_writeHalved_13 (by decide) (fun q => ?_) (fun q => ?_)
  · have hm := ift hm q
    exact x_vret hx hb hr hlk hK B dX6_writeHalved_34 hm
  · have hm := iff hm q
    refine lv_aload_n hx hb dX6_writeHalved_16 rfl (lv_at hl 0 rfl) ?_
    refine x_getv (T := TX6) (N := 8) hx hb hT hown hK B xV_X_sheet inlX6 rfl (by decide) q190 rfl dX6_writeHalved_17 ?_
    refine lv_bipush (v := (46 : Int32)) hx hb dX6_writeHalved_20 (by decide) ?_
    refine x_callVv (rest := []) hx hb hml hT hown hK hA B hl.1 (c_X5_append_sheet l D cI cZ a (46 : Int32)) mi_X5_append mv_X5_append xO_sheet rfl q541 ⟨rfl, rfl⟩ ⟨Nat.le_of_ble_eq_true rfl, Nat.le_of_ble_eq_true rfl⟩ rfl rfl (Nat.le_of_ble_eq_true rfl) dX6_writeHalved_22 hm (fun σ H locs B hm => ?_)
    refine lv_aload_n hx hb dX6_writeHalved_25 rfl (lv_at hl 0 rfl) ?_
    refine x_getv (T := TX6) (N := 8) hx hb hT hown hK B xV_X_sheet inlX6 rfl (by decide) q190 rfl dX6_writeHalved_26 ?_
    refine lv_bipush (v := (53 : Int32)) hx hb dX6_writeHalved_29 (by decide) ?_
    refine x_callVv (rest := []) hx hb hml hT hown hK hA B hl.1 (c_X5_append_sheet l D cI cZ a (53 : Int32)) mi_X5_append mv_X5_append xO_sheet rfl q541 ⟨rfl, rfl⟩ ⟨Nat.le_of_ble_eq_true rfl, Nat.le_of_ble_eq_true rfl⟩ rfl rfl (Nat.le_of_ble_eq_true rfl) dX6_writeHalved_31 hm (fun σ H locs B hm => ?_)
    exact x_vret hx hb hr hlk hK B dX6_writeHalved_34 hm
def f_X6_line_j82 (σ : Mm) : Option (Int32 × Mm) :=
  (some (σ 73 0)).bind fun x1 =>
  some (x1, σ)
def f_X6_line_s50 (v1 : Int32) (r50 : Mm → Int32 → Option (Int32 × Mm)) (σ : Mm) (v2 : Int32) : Option (Int32 × Mm) :=
  (f_X0_countDone σ).bind fun x2 =>
  if x2 ≤ v2 then
    f_X6_line_j82 σ
  else
    (f_X5_append_sheet σ (32 : Int32)).bind fun σ =>
    (f_X6_writeRound σ v1 v2).bind fun σ =>
    r50 σ (v2 + (1 : Int32))
def f_X6_line (σ : Mm) (w1 : Int32) : Option (Int32 × Mm) :=
  (f_X6_isPlayer σ w1).bind fun x3 =>
  if x3 = 0 then
    some ((-1 : Int32), σ)
  else
    (some (sc σ 73 (0 : Int32))).bind fun σ =>
    (f_X5_appendNumber_sheet σ w1).bind fun σ =>
    (f_X5_append_sheet σ (32 : Int32)).bind fun σ =>
    (f_X4_tieOf σ w1 (0 : Int32)).bind fun x4 =>
    (f_X6_writeHalved σ x4).bind fun σ =>
    wh2 (f_X6_line_s50 w1) 5000 σ (0 : Int32)
set_option maxHeartbeats 4000000 in
set_option maxRecDepth 100000 in
theorem c_X6_line (l : Launch) (D : va_G) (cI cZ : ClassId) (a : Nat → Nat) (w1 : Int32) : CTi l D [(cI, FieldType.int), (cZ, FieldType.boolean)] (xW cI a) yX6_line (.code yX6_line cX6_line 3 (some FieldType.int) :: wsL_law) ({ frames := 4, cells := 0, slots := 0, locals := 91 } : Room) [.ref (a 0), .int w1] (fun σ => f_X6_line σ w1) := by
  refine CTi.of (by decide +kernel) (Nat.le_of_ble_eq_true rfl) ?_
  intro σ out hm p e s m below meth c A ls H locs hx hb hr hlk hml hT hown hK hA B hl
  have hown : s.vm.findClass RX6 = some m.cls := hown
  have hl : lv_has ls 3 [(0, .ref (a 0)), (1, .int w1)] := hl
  have hm : f_X6_line σ w1 = some out := hm
  unfold f_X6_line at hm
  have j82 : ∀ (σ : Mm)  (H : Heap) (locs : List Loc) (ls : Array Slot), BD D A s.heap ((xW cI a) σ) H locs → lv_has ls 3 [(0, .ref (a 0))] → f_X6_line_j82 σ = some out → W p l e ({ frames := 4, cells := 0, slots := 0, locals := 91 } : Room) s m ([.ref (a 0), .int w1] : List Value).toArray below meth c H locs 0 0 (MQ below (QI D [(cI, FieldType.int), (cZ, FieldType.boolean)] (xW cI a) A out) ([.ref (a 0), .int w1] : List Value).toArray s 0 0 A) (F0 m 82 ls []) := by
    intro σ  H locs ls B hl hm
    unfold f_X6_line_j82 at hm
    refine lv_aload_n hx hb dX6_line_82 rfl (lv_at hl 0 rfl) ?_
    refine x_getv (T := TX6) (N := 8) hx hb hT hown hK B xV_X_sheet inlX6 rfl (by decide) q190 rfl dX6_line_83 ?_
    refine x_getibN (T := TX5) (N := 2) hx hb hT hown hK B xI_sheet_length inlX5 rfl (by decide) q165 rfl dX6_line_86 hm (fun x1 hm => ?_)
    exact x_iret hx hb hr hlk hK B dX6_line_89 hm
  have L50 : ∀ (v1 : Int32) (nn : Nat) (σ : Mm) (v2 : Int32), wh2 (f_X6_line_s50 v1) nn σ v2 = some out → ∀ (H : Heap) (locs : List Loc) (ls : Array Slot), BD D A s.heap ((xW cI a) σ) H locs → lv_has ls 3 [(0, .ref (a 0)), (1, .int v1), (2, .int v2)] → W p l e ({ frames := 4, cells := 0, slots := 0, locals := 91 } : Room) s m ([.ref (a 0), .int w1] : List Value).toArray below meth c H locs 0 0 (MQ below (QI D [(cI, FieldType.int), (cZ, FieldType.boolean)] (xW cI a) A out) ([.ref (a 0), .int w1] : List Value).toArray s 0 0 A) (F0 m 50 ls []) := by
    intro v1
    refine loop2 (fun r50 ih50 σ v2 hm H locs ls B hl => ?_)
    unfold f_X6_line_s50 at hm
    refine lv_iload_n hx hb dX6_line_50 rfl (lv_at hl 2 rfl) ?_
    refine lv_aload_n hx hb dX6_line_51 rfl (lv_at hl 0 rfl) ?_
    refine x_getv (T := TX6) (N := 8) hx hb hT hown hK B xV_X_book inlX6 rfl (by decide) q184 rfl dX6_line_52 ?_
    refine x_callVr (rest := [.int v2]) hx hb hml hT hown hK hA B hl.1 (c_X0_countDone l D cI cZ a) mi_X0_countDone mv_X0_countDone xO_book rfl q520 ⟨rfl, rfl⟩ ⟨Nat.le_of_ble_eq_true rfl, Nat.le_of_ble_eq_true rfl⟩ rfl rfl (Nat.le_of_ble_eq_true rfl) dX6_line_55 hm (fun x2 H locs B hm => ?_)
    refine lv_icmp_ge (tgt := 82) hx hb dX6_line_58 (by decide) (fun q => ?_) (fun q => ?_)
    · have hm := ift hm q
      exact j82 σ H locs ls B (lv_sub hl [0] rfl) hm
    · have hm := iff hm q
      refine lv_aload_n hx hb dX6_line_61 rfl (lv_at hl 0 rfl) ?_
      refine x_getv (T := TX6) (N := 8) hx hb hT hown hK B xV_X_sheet inlX6 rfl (by decide) q190 rfl dX6_line_62 ?_
      refine lv_bipush (v := (32 : Int32)) hx hb dX6_line_65 (by decide) ?_
      refine x_callVv (rest := []) hx hb hml hT hown hK hA B hl.1 (c_X5_append_sheet l D cI cZ a (32 : Int32)) mi_X5_append mv_X5_append xO_sheet rfl q541 ⟨rfl, rfl⟩ ⟨Nat.le_of_ble_eq_true rfl, Nat.le_of_ble_eq_true rfl⟩ rfl rfl (Nat.le_of_ble_eq_true rfl) dX6_line_67 hm (fun σ H locs B hm => ?_)
      refine lv_aload_n hx hb dX6_line_70 rfl (lv_at hl 0 rfl) ?_
      refine lv_iload_n hx hb dX6_line_71 rfl (lv_at hl 1 rfl) ?_
      refine lv_iload_n hx hb dX6_line_72 rfl (lv_at hl 2 rfl) ?_
      refine x_callVv (rest := []) hx hb hml hT hown hK hA B hl.1 (c_X6_writeRound l D cI cZ a v1 v2) mi_X6_writeRound mv_X6_writeRound xO_X rfl q669 ⟨rfl, rfl⟩ ⟨Nat.le_of_ble_eq_true rfl, Nat.le_of_ble_eq_true rfl⟩ rfl rfl (Nat.le_of_ble_eq_true rfl) dX6_line_73 hm (fun σ H locs B hm => ?_)
      refine lv_iinc (v := (v2 + (1 : Int32))) (lv' := [(2, .int (v2 + (1 : Int32))), (0, .ref (a 0)), (1, .int v1)]) hx hb dX6_line_76 hl (k := 2) rfl rfl (by decide) rfl (fun ls hl => ?_)
      refine lv_goto (tgt := 50) hx hb dX6_line_79 (by decide) ?_
      exact ih50 σ (v2 + (1 : Int32)) hm H locs ls B (lv_sub hl [1, 2, 0] rfl)
  refine lv_aload_n hx hb dX6_line_0 rfl (lv_at hl 0 rfl) ?_
  refine lv_iload_n hx hb dX6_line_1 rfl (lv_at hl 1 rfl) ?_
  refine x_callVr (rest := []) hx hb hml hT hown hK hA B hl.1 (c_X6_isPlayer l D cI cZ a w1) mi_X6_isPlayer mv_X6_isPlayer xO_X rfl q314 ⟨rfl, rfl⟩ ⟨Nat.le_of_ble_eq_true rfl, Nat.le_of_ble_eq_true rfl⟩ rfl rfl (Nat.le_of_ble_eq_true rfl) dX6_line_2 hm (fun x3 H locs B hm => ?_)
  refine lv_if_ne (tgt := 10) hx hb dX6_line_5 (by decide) (fun q => ?_) (fun q => ?_)
  · have hm := iff hm q
    refine lv_aload_n hx hb dX6_line_10 rfl (lv_at hl 0 rfl) ?_
    refine x_getv (T := TX6) (N := 8) hx hb hT hown hK B xV_X_sheet inlX6 rfl (by decide) q190 rfl dX6_line_11 ?_
    refine lv_iconst (v := (0 : Int32)) hx hb dX6_line_14 (by decide) ?_
    refine x_putiN (T := TX5) (N := 2) hx hb hT hown hK B xI_sheet_length inlX5 tyX5_ok nmX5 rfl (by decide) q165 rfl rfl rfl rfl rfl dX6_line_15 hm (fun σ H locs B hm => ?_)
    refine lv_aload_n hx hb dX6_line_18 rfl (lv_at hl 0 rfl) ?_
    refine x_getv (T := TX6) (N := 8) hx hb hT hown hK B xV_X_sheet inlX6 rfl (by decide) q190 rfl dX6_line_19 ?_
    refine lv_iload_n hx hb dX6_line_22 rfl (lv_at hl 1 rfl) ?_
    refine x_callVv (rest := []) hx hb hml hT hown hK hA B hl.1 (c_X5_appendNumber_sheet l D cI cZ a w1) mi_X5_appendNumber mv_X5_appendNumber xO_sheet rfl q661 ⟨rfl, rfl⟩ ⟨Nat.le_of_ble_eq_true rfl, Nat.le_of_ble_eq_true rfl⟩ rfl rfl (Nat.le_of_ble_eq_true rfl) dX6_line_23 hm (fun σ H locs B hm => ?_)
    refine lv_aload_n hx hb dX6_line_26 rfl (lv_at hl 0 rfl) ?_
    refine x_getv (T := TX6) (N := 8) hx hb hT hown hK B xV_X_sheet inlX6 rfl (by decide) q190 rfl dX6_line_27 ?_
    refine lv_bipush (v := (32 : Int32)) hx hb dX6_line_30 (by decide) ?_
    refine x_callVv (rest := []) hx hb hml hT hown hK hA B hl.1 (c_X5_append_sheet l D cI cZ a (32 : Int32)) mi_X5_append mv_X5_append xO_sheet rfl q541 ⟨rfl, rfl⟩ ⟨Nat.le_of_ble_eq_true rfl, Nat.le_of_ble_eq_true rfl⟩ rfl rfl (Nat.le_of_ble_eq_true rfl) dX6_line_32 hm (fun σ H locs B hm => ?_)
    refine lv_aload_n hx hb dX6_line_35 rfl (lv_at hl 0 rfl) ?_
    refine lv_aload_n hx hb dX6_line_36 rfl (lv_at hl 0 rfl) ?_
    refine x_getv (T := TX6) (N := 8) hx hb hT hown hK B xV_X_table inlX6 rfl (by decide) q187 rfl dX6_line_37 ?_
    refine lv_iload_n hx hb dX6_line_40 rfl (lv_at hl 1 rfl) ?_
    refine lv_iconst (v := (0 : Int32)) hx hb dX6_line_41 (by decide) ?_
    refine x_callVr (rest := [.ref (a 0)]) hx hb hml hT hown hK hA B hl.1 (c_X4_tieOf l D cI cZ a w1 (0 : Int32)) mi_X4_tieOf mv_X4_tieOf xO_table rfl q335 ⟨rfl, rfl⟩ ⟨Nat.le_of_ble_eq_true rfl, Nat.le_of_ble_eq_true rfl⟩ rfl rfl (Nat.le_of_ble_eq_true rfl) dX6_line_42 hm (fun x4 H locs B hm => ?_)
    refine x_callVv (rest := []) hx hb hml hT hown hK hA B hl.1 (c_X6_writeHalved l D cI cZ a x4) mi_X6_writeHalved mv_X6_writeHalved xO_X rfl q666 ⟨rfl, rfl⟩ ⟨Nat.le_of_ble_eq_true rfl, Nat.le_of_ble_eq_true rfl⟩ rfl rfl (Nat.le_of_ble_eq_true rfl) dX6_line_45 hm (fun σ H locs B hm => ?_)
    refine lv_iconst (v := (0 : Int32)) hx hb dX6_line_48 (by decide) ?_
    refine lv_istore_n (lv' := [(2, .int (0 : Int32)), (0, .ref (a 0)), (1, .int w1)]) hx hb dX6_line_49 rfl hl (by decide) rfl (fun ls hl => ?_)
    exact L50 w1 5000 σ (0 : Int32) hm H locs ls B (lv_sub hl [1, 2, 0] rfl)
  · have hm := ift hm q
    refine lv_iconst (v := (-1 : Int32)) hx hb dX6_line_8 (by decide) ?_
    exact x_iret hx hb hr hlk hK B dX6_line_9 hm
def f_X5_byteAt_sheet (σ : Mm) (w1 : Int32) : Option Int32 :=
  (f_X2_at 96 72 σ w1).bind fun x1 =>
  some x1
set_option maxHeartbeats 4000000 in
set_option maxRecDepth 100000 in
theorem c_X5_byteAt_sheet (l : Launch) (D : va_G) (cI cZ : ClassId) (a : Nat → Nat) (w1 : Int32) : CTr l D [(cI, FieldType.int), (cZ, FieldType.boolean)] (xW cI a) yX5_byteAt (.code yX5_byteAt cX5_byteAt 2 (some FieldType.int) :: wsL_law) ({ frames := 1, cells := 0, slots := 0, locals := 21 } : Room) [.ref (a 66), .int w1] (fun σ => f_X5_byteAt_sheet σ w1) := by
  refine CTr.of (by decide +kernel) (Nat.le_of_ble_eq_true rfl) ?_
  intro σ r hm p e s m below meth c A ls H locs hx hb hr hlk hml hT hown hK hA B hl
  have hown : s.vm.findClass RX5 = some m.cls := hown
  have hl : lv_has ls 2 [(0, .ref (a 66)), (1, .int w1)] := hl
  have hm : f_X5_byteAt_sheet σ w1 = some r := hm
  unfold f_X5_byteAt_sheet at hm
  refine lv_aload_n hx hb dX5_byteAt_0 rfl (lv_at hl 0 rfl) ?_
  refine x_getv (T := TX5) (N := 2) hx hb hT hown hK B xV_sheet_bytes inlX5 rfl (by decide) q163 rfl dX5_byteAt_1 ?_
  refine lv_iload_n hx hb dX5_byteAt_4 rfl (lv_at hl 1 rfl) ?_
  refine x_callVr (rest := []) hx hb hml hT hown hK hA B hl.1 (c_X2_at l D cI cZ xV_sheet_bytes_cells xA_sheet_bytes w1) mi_X2_at mv_X2_at xO_sheet_bytes rfl q564 ⟨rfl, rfl⟩ ⟨Nat.le_of_ble_eq_true rfl, Nat.le_of_ble_eq_true rfl⟩ rfl rfl (Nat.le_of_ble_eq_true rfl) dX5_byteAt_5 hm (fun x1 H locs B hm => ?_)
  exact x_iretr hx hb hr hlk hK B dX5_byteAt_8 hm
def f_X6_paper (σ : Mm) (w1 : Int32) : Option Int32 :=
  if w1 < 0 then
    some (-1 : Int32)
  else
    if (σ 73 0) ≤ w1 then
      some (-1 : Int32)
    else
      (f_X5_byteAt_sheet σ w1).bind fun x1 =>
      some x1
set_option maxHeartbeats 4000000 in
set_option maxRecDepth 100000 in
theorem c_X6_paper (l : Launch) (D : va_G) (cI cZ : ClassId) (a : Nat → Nat) (w1 : Int32) : CTr l D [(cI, FieldType.int), (cZ, FieldType.boolean)] (xW cI a) yX6_paper (.code yX6_paper cX6_paper 2 (some FieldType.int) :: wsL_law) ({ frames := 2, cells := 0, slots := 0, locals := 42 } : Room) [.ref (a 0), .int w1] (fun σ => f_X6_paper σ w1) := by
  refine CTr.of (by decide +kernel) (Nat.le_of_ble_eq_true rfl) ?_
  intro σ r hm p e s m below meth c A ls H locs hx hb hr hlk hml hT hown hK hA B hl
  have hown : s.vm.findClass RX6 = some m.cls := hown
  have hl : lv_has ls 2 [(0, .ref (a 0)), (1, .int w1)] := hl
  have hm : f_X6_paper σ w1 = some r := hm
  unfold f_X6_paper at hm
  refine lv_iload_n hx hb dX6_paper_0 rfl (lv_at hl 1 rfl) ?_
  refine lv_if_lt (tgt := 26) hx hb dX6_paper_1 (by decide) (fun q => ?_) (fun q => ?_)
  · have hm := ift hm q
    refine lv_iconst (v := (-1 : Int32)) hx hb dX6_paper_26 (by decide) ?_
    exact x_iretr hx hb hr hlk hK B dX6_paper_27 hm
  · have hm := iff hm q
    refine lv_iload_n hx hb dX6_paper_4 rfl (lv_at hl 1 rfl) ?_
    refine lv_aload_n hx hb dX6_paper_5 rfl (lv_at hl 0 rfl) ?_
    refine x_getv (T := TX6) (N := 8) hx hb hT hown hK B xV_X_sheet inlX6 rfl (by decide) q190 rfl dX6_paper_6 ?_
    refine x_getiN (T := TX5) (N := 2) hx hb hT hown hK B xI_sheet_length inlX5 rfl (by decide) q165 rfl dX6_paper_9 ?_
    refine lv_icmp_ge (tgt := 26) hx hb dX6_paper_12 (by decide) (fun q => ?_) (fun q => ?_)
    · have hm := ift hm q
      refine lv_iconst (v := (-1 : Int32)) hx hb dX6_paper_26 (by decide) ?_
      exact x_iretr hx hb hr hlk hK B dX6_paper_27 hm
    · have hm := iff hm q
      refine lv_aload_n hx hb dX6_paper_15 rfl (lv_at hl 0 rfl) ?_
      refine x_getv (T := TX6) (N := 8) hx hb hT hown hK B xV_X_sheet inlX6 rfl (by decide) q190 rfl dX6_paper_16 ?_
      refine lv_iload_n hx hb dX6_paper_19 rfl (lv_at hl 1 rfl) ?_
      refine x_callVr (rest := []) hx hb hml hT hown hK hA B hl.1 (c_X5_byteAt_sheet l D cI cZ a w1) mi_X5_byteAt mv_X5_byteAt xO_sheet rfl q560 ⟨rfl, rfl⟩ ⟨Nat.le_of_ble_eq_true rfl, Nat.le_of_ble_eq_true rfl⟩ rfl rfl (Nat.le_of_ble_eq_true rfl) dX6_paper_20 hm (fun x1 H locs B hm => ?_)
      refine lv_goto (tgt := 27) hx hb dX6_paper_23 (by decide) ?_
      exact x_iretr hx hb hr hlk hK B dX6_paper_27 hm
def f_X4_countMeetings_j29 (σ : Mm) (v1 : Int32) : Option Int32 :=
  (nz (2 : Int32) (v1 / (2 : Int32))).bind fun x1 =>
  some x1
def f_X4_countMeetings_s4 (σ : Mm) (r4 : Int32 → Int32 → Option Int32) (v1 v2 : Int32) : Option Int32 :=
  if (σ 0 0) ≤ v2 then
    f_X4_countMeetings_j29 σ v1
  else
    (f_X4_countMet σ v2).bind fun x2 =>
    r4 (v1 + x2) (v2 + (1 : Int32))
def f_X4_countMeetings (σ : Mm) : Option Int32 :=
  wh2 (f_X4_countMeetings_s4 σ) 5000 (0 : Int32) (0 : Int32)
set_option maxHeartbeats 4000000 in
set_option maxRecDepth 100000 in
theorem c_X4_countMeetings (l : Launch) (D : va_G) (cI cZ : ClassId) (a : Nat → Nat) : CTr l D [(cI, FieldType.int), (cZ, FieldType.boolean)] (xW cI a) yX4_countMeetings (.code yX4_countMeetings cX4_countMeetings 3 (some FieldType.int) :: wsL_law) ({ frames := 4, cells := 0, slots := 0, locals := 88 } : Room) [.ref (a 35)] (fun σ => f_X4_countMeetings σ) := by
  refine CTr.of (by decide +kernel) (Nat.le_of_ble_eq_true rfl) ?_
  intro σ r hm p e s m below meth c A ls H locs hx hb hr hlk hml hT hown hK hA B hl
  have hown : s.vm.findClass RX4 = some m.cls := hown
  have hl : lv_has ls 3 [(0, .ref (a 35))] := hl
  have hm : f_X4_countMeetings σ = some r := hm
  unfold f_X4_countMeetings at hm
  have j29 : ∀ (v1 : Int32) (H : Heap) (locs : List Loc) (ls : Array Slot), BD D A s.heap ((xW cI a) σ) H locs → lv_has ls 3 [(1, .int v1)] → f_X4_countMeetings_j29 σ v1 = some r → W p l e ({ frames := 4, cells := 0, slots := 0, locals := 88 } : Room) s m ([.ref (a 35)] : List Value).toArray below meth c H locs 0 0 (MQ below (QI D [(cI, FieldType.int), (cZ, FieldType.boolean)] (xW cI a) A (r, σ)) ([.ref (a 35)] : List Value).toArray s 0 0 A) (F0 m 29 ls []) := by
    intro v1 H locs ls B hl hm
    unfold f_X4_countMeetings_j29 at hm
    refine lv_iload_n hx hb dX4_countMeetings_29 rfl (lv_at hl 0 rfl) ?_
    refine lv_iconst (v := (2 : Int32)) hx hb dX4_countMeetings_30 (by decide) ?_
    refine x_idiv hx hb dX4_countMeetings_31 hm (fun x1 hm => ?_)
    exact x_iretr hx hb hr hlk hK B dX4_countMeetings_32 hm
  have L4 : ∀ (nn : Nat) (v1 : Int32) (v2 : Int32), wh2 (f_X4_countMeetings_s4 σ) nn v1 v2 = some r → ∀ (H : Heap) (locs : List Loc) (ls : Array Slot), BD D A s.heap ((xW cI a) σ) H locs → lv_has ls 3 [(0, .ref (a 35)), (1, .int v1), (2, .int v2)] → W p l e ({ frames := 4, cells := 0, slots := 0, locals := 88 } : Room) s m ([.ref (a 35)] : List Value).toArray below meth c H locs 0 0 (MQ below (QI D [(cI, FieldType.int), (cZ, FieldType.boolean)] (xW cI a) A (r, σ)) ([.ref (a 35)] : List Value).toArray s 0 0 A) (F0 m 4 ls []) := by
    refine loop2 (fun r4 ih4 v1 v2 hm H locs ls B hl => ?_)
    unfold f_X4_countMeetings_s4 at hm
    refine lv_iload_n hx hb dX4_countMeetings_4 rfl (lv_at hl 2 rfl) ?_
    refine lv_aload_n hx hb dX4_countMeetings_5 rfl (lv_at hl 0 rfl) ?_
    refine x_getv (T := TX4) (N := 10) hx hb hT hown hK B xV_table_book inlX4 rfl (by decide) q100 rfl dX4_countMeetings_6 ?_
    refine x_getiN (T := TX0) (N := 12) hx hb hT hown hK B xI_book_players inlX0 rfl (by decide) q48 rfl dX4_countMeetings_9 ?_
    refine lv_icmp_ge (tgt := 29) hx hb dX4_countMeetings_12 (by decide) (fun q => ?_) (fun q => ?_)
    · have hm := ift hm q
      exact j29 v1 H locs ls B (lv_sub hl [1] rfl) hm
    · have hm := iff hm q
      refine lv_iload_n hx hb dX4_countMeetings_15 rfl (lv_at hl 1 rfl) ?_
      refine lv_aload_n hx hb dX4_countMeetings_16 rfl (lv_at hl 0 rfl) ?_
      refine lv_iload_n hx hb dX4_countMeetings_17 rfl (lv_at hl 2 rfl) ?_
      refine x_callVr (rest := [.int v1]) hx hb hml hT hown hK hA B hl.1 (c_X4_countMet l D cI cZ a v2) mi_X4_countMet mv_X4_countMet xO_table rfl q687 ⟨rfl, rfl⟩ ⟨Nat.le_of_ble_eq_true rfl, Nat.le_of_ble_eq_true rfl⟩ rfl rfl (Nat.le_of_ble_eq_true rfl) dX4_countMeetings_18 hm (fun x2 H locs B hm => ?_)
      refine lv_iadd hx hb dX4_countMeetings_21 ?_
      refine lv_istore_n (lv' := [(1, .int (v1 + x2)), (0, .ref (a 35)), (2, .int v2)]) hx hb dX4_countMeetings_22 rfl hl (by decide) rfl (fun ls hl => ?_)
      refine lv_iinc (v := (v2 + (1 : Int32))) (lv' := [(2, .int (v2 + (1 : Int32))), (1, .int (v1 + x2)), (0, .ref (a 35))]) hx hb dX4_countMeetings_23 hl (k := 2) rfl rfl (by decide) rfl (fun ls hl => ?_)
      refine lv_goto (tgt := 4) hx hb dX4_countMeetings_26 (by decide) ?_
      exact ih4 (v1 + x2) (v2 + (1 : Int32)) hm H locs ls B (lv_sub hl [2, 1, 0] rfl)
  refine lv_iconst (v := (0 : Int32)) hx hb dX4_countMeetings_0 (by decide) ?_
  refine lv_istore_n (lv' := [(1, .int (0 : Int32)), (0, .ref (a 35))]) hx hb dX4_countMeetings_1 rfl hl (by decide) rfl (fun ls hl => ?_)
  refine lv_iconst (v := (0 : Int32)) hx hb dX4_countMeetings_2 (by decide) ?_
  refine lv_istore_n (lv' := [(2, .int (0 : Int32)), (1, .int (0 : Int32)), (0, .ref (a 35))]) hx hb dX4_countMeetings_3 rfl hl (by decide) rfl (fun ls hl => ?_)
  exact L4 5000 (0 : Int32) (0 : Int32) hm H locs ls B (lv_sub hl [2, 1, 0] rfl)
def f_X4_sumPoints_s4 (σ : Mm) (r4 : Int32 → Int32 → Option Int32) (v1 v2 : Int32) : Option Int32 :=
  if (σ 0 0) ≤ v2 then
    some v1
  else
    (f_X4_tieOf σ v2 (0 : Int32)).bind fun x1 =>
    r4 (v1 + x1) (v2 + (1 : Int32))
def f_X4_sumPoints (σ : Mm) : Option Int32 :=
  wh2 (f_X4_sumPoints_s4 σ) 5000 (0 : Int32) (0 : Int32)
set_option maxHeartbeats 4000000 in
set_option maxRecDepth 100000 in
theorem c_X4_sumPoints (l : Launch) (D : va_G) (cI cZ : ClassId) (a : Nat → Nat) : CTr l D [(cI, FieldType.int), (cZ, FieldType.boolean)] (xW cI a) yX4_sumPoints (.code yX4_sumPoints cX4_sumPoints 3 (some FieldType.int) :: wsL_law) ({ frames := 2, cells := 0, slots := 0, locals := 43 } : Room) [.ref (a 35)] (fun σ => f_X4_sumPoints σ) := by
  refine CTr.of (by decide +kernel) (Nat.le_of_ble_eq_true rfl) ?_
  intro σ r hm p e s m below meth c A ls H locs hx hb hr hlk hml hT hown hK hA B hl
  have hown : s.vm.findClass RX4 = some m.cls := hown
  have hl : lv_has ls 3 [(0, .ref (a 35))] := hl
  have hm : f_X4_sumPoints σ = some r := hm
  unfold f_X4_sumPoints at hm
  have L4 : ∀ (nn : Nat) (v1 : Int32) (v2 : Int32), wh2 (f_X4_sumPoints_s4 σ) nn v1 v2 = some r → ∀ (H : Heap) (locs : List Loc) (ls : Array Slot), BD D A s.heap ((xW cI a) σ) H locs → lv_has ls 3 [(0, .ref (a 35)), (1, .int v1), (2, .int v2)] → W p l e ({ frames := 2, cells := 0, slots := 0, locals := 43 } : Room) s m ([.ref (a 35)] : List Value).toArray below meth c H locs 0 0 (MQ below (QI D [(cI, FieldType.int), (cZ, FieldType.boolean)] (xW cI a) A (r, σ)) ([.ref (a 35)] : List Value).toArray s 0 0 A) (F0 m 4 ls []) := by
    refine loop2 (fun r4 ih4 v1 v2 hm H locs ls B hl => ?_)
    unfold f_X4_sumPoints_s4 at hm
    refine lv_iload_n hx hb dX4_sumPoints_4 rfl (lv_at hl 2 rfl) ?_
    refine lv_aload_n hx hb dX4_sumPoints_5 rfl (lv_at hl 0 rfl) ?_
    refine x_getv (T := TX4) (N := 10) hx hb hT hown hK B xV_table_book inlX4 rfl (by decide) q100 rfl dX4_sumPoints_6 ?_
    refine x_getiN (T := TX0) (N := 12) hx hb hT hown hK B xI_book_players inlX0 rfl (by decide) q48 rfl dX4_sumPoints_9 ?_
    refine lv_icmp_ge (tgt := 30) hx hb dX4_sumPoints_12 (by decide) (fun q => ?_) (fun q => ?_)
    · have hm := ift hm q
      refine lv_iload_n hx hb dX4_sumPoints_30 rfl (lv_at hl 1 rfl) ?_
      exact x_iretr hx hb hr hlk hK B dX4_sumPoints_31 hm
    · have hm := iff hm q
      refine lv_iload_n hx hb dX4_sumPoints_15 rfl (lv_at hl 1 rfl) ?_
      refine lv_aload_n hx hb dX4_sumPoints_16 rfl (lv_at hl 0 rfl) ?_
      refine lv_iload_n hx hb dX4_sumPoints_17 rfl (lv_at hl 2 rfl) ?_
      refine lv_iconst (v := (0 : Int32)) hx hb dX4_sumPoints_18 (by decide) ?_
      refine x_callVr (rest := [.int v1]) hx hb hml hT hown hK hA B hl.1 (c_X4_tieOf l D cI cZ a v2 (0 : Int32)) mi_X4_tieOf mv_X4_tieOf xO_table rfl q274 ⟨rfl, rfl⟩ ⟨Nat.le_of_ble_eq_true rfl, Nat.le_of_ble_eq_true rfl⟩ rfl rfl (Nat.le_of_ble_eq_true rfl) dX4_sumPoints_19 hm (fun x1 H locs B hm => ?_)
      refine lv_iadd hx hb dX4_sumPoints_22 ?_
      refine lv_istore_n (lv' := [(1, .int (v1 + x1)), (0, .ref (a 35)), (2, .int v2)]) hx hb dX4_sumPoints_23 rfl hl (by decide) rfl (fun ls hl => ?_)
      refine lv_iinc (v := (v2 + (1 : Int32))) (lv' := [(2, .int (v2 + (1 : Int32))), (1, .int (v1 + x1)), (0, .ref (a 35))]) hx hb dX4_sumPoints_24 hl (k := 2) rfl rfl (by decide) rfl (fun ls hl => ?_)
      refine lv_goto (tgt := 4) hx hb dX4_sumPoints_27 (by decide) ?_
      exact ih4 (v1 + x1) (v2 + (1 : Int32)) hm H locs ls B (lv_sub hl [2, 1, 0] rfl)
  refine lv_iconst (v := (0 : Int32)) hx hb dX4_sumPoints_0 (by decide) ?_
  refine lv_istore_n (lv' := [(1, .int (0 : Int32)), (0, .ref (a 35))]) hx hb dX4_sumPoints_1 rfl hl (by decide) rfl (fun ls hl => ?_)
  refine lv_iconst (v := (0 : Int32)) hx hb dX4_sumPoints_2 (by decide) ?_
  refine lv_istore_n (lv' := [(2, .int (0 : Int32)), (1, .int (0 : Int32)), (0, .ref (a 35))]) hx hb dX4_sumPoints_3 rfl hl (by decide) rfl (fun ls hl => ?_)
  exact L4 5000 (0 : Int32) (0 : Int32) hm H locs ls B (lv_sub hl [2, 1, 0] rfl)
def f_X6_told (σ : Mm) (w1 : Int32) : Option Int32 :=
  if w1 = (0 : Int32) then
    some (σ 0 0)
  else
    if w1 = (1 : Int32) then
      (f_X0_countInside σ).bind fun x1 =>
      some x1
    else
      if w1 = (2 : Int32) then
        some (σ 3 0)
      else
        if w1 = (3 : Int32) then
          (f_X0_countDone σ).bind fun x2 =>
          some x2
        else
          if w1 = (4 : Int32) then
            if (σ 4 0) = 0 then
              some (-5 : Int32)
            else
              (f_X2_at 20 5 σ ((σ 3 0) - (1 : Int32))).bind fun x3 =>
              some x3
          else
            if w1 = (5 : Int32) then
              some (σ 71 0)
            else
              if w1 = (6 : Int32) then
                some (σ 73 0)
              else
                if w1 = (7 : Int32) then
                  (f_X4_countMeetings σ).bind fun x4 =>
                  some x4
                else
                  if w1 = (8 : Int32) then
                    (f_X4_sumPoints σ).bind fun x5 =>
                    some x5
                  else
                    some (-1 : Int32)
set_option maxHeartbeats 4000000 in
set_option maxRecDepth 100000 in
theorem c_X6_told (l : Launch) (D : va_G) (cI cZ : ClassId) (a : Nat → Nat) (w1 : Int32) : CTr l D [(cI, FieldType.int), (cZ, FieldType.boolean)] (xW cI a) yX6_told (.code yX6_told cX6_told 2 (some FieldType.int) :: wsL_law) ({ frames := 5, cells := 0, slots := 0, locals := 110 } : Room) [.ref (a 0), .int w1] (fun σ => f_X6_told σ w1) := by
  refine CTr.of (by decide +kernel) (Nat.le_of_ble_eq_true rfl) ?_
  intro σ r hm p e s m below meth c A ls H locs hx hb hr hlk hml hT hown hK hA B hl
  have hown : s.vm.findClass RX6 = some m.cls := hown
  have hl : lv_has ls 2 [(0, .ref (a 0)), (1, .int w1)] := hl
  have hm : f_X6_told σ w1 = some r := hm
  unfold f_X6_told at hm
  refine lv_iload_n hx hb dX6_told_0 rfl (lv_at hl 1 rfl) ?_
  by_cases q0 : w1 = (0 : Int32)
  · have hm := ift hm q0
    refine lv_tableIn (off := 51) (tgt := 52) hx hb dX6_told_1 (by rw [q0]; decide) (by rw [q0]; decide) (by rw [q0]; rfl) (by decide) ?_
    refine lv_aload_n hx hb dX6_told_52 rfl (lv_at hl 0 rfl) ?_
    refine x_getv (T := TX6) (N := 8) hx hb hT hown hK B xV_X_book inlX6 rfl (by decide) q184 rfl dX6_told_53 ?_
    refine x_getiN (T := TX0) (N := 12) hx hb hT hown hK B xI_book_players inlX0 rfl (by decide) q47 rfl dX6_told_56 ?_
    exact x_iretr hx hb hr hlk hK B dX6_told_59 hm
  · have hm := iff hm q0
    by_cases q1 : w1 = (1 : Int32)
    · have hm := ift hm q1
      refine lv_tableIn (off := 59) (tgt := 60) hx hb dX6_told_1 (by rw [q1]; decide) (by rw [q1]; decide) (by rw [q1]; rfl) (by decide) ?_
      refine lv_aload_n hx hb dX6_told_60 rfl (lv_at hl 0 rfl) ?_
      refine x_getv (T := TX6) (N := 8) hx hb hT hown hK B xV_X_book inlX6 rfl (by decide) q184 rfl dX6_told_61 ?_
      refine x_callVr (rest := []) hx hb hml hT hown hK hA B hl.1 (c_X0_countInside l D cI cZ a) mi_X0_countInside mv_X0_countInside xO_book rfl q319 ⟨rfl, rfl⟩ ⟨Nat.le_of_ble_eq_true rfl, Nat.le_of_ble_eq_true rfl⟩ rfl rfl (Nat.le_of_ble_eq_true rfl) dX6_told_64 hm (fun x1 H locs B hm => ?_)
      exact x_iretr hx hb hr hlk hK B dX6_told_67 hm
    · have hm := iff hm q1
      by_cases q2 : w1 = (2 : Int32)
      · have hm := ift hm q2
        refine lv_tableIn (off := 67) (tgt := 68) hx hb dX6_told_1 (by rw [q2]; decide) (by rw [q2]; decide) (by rw [q2]; rfl) (by decide) ?_
        refine lv_aload_n hx hb dX6_told_68 rfl (lv_at hl 0 rfl) ?_
        refine x_getv (T := TX6) (N := 8) hx hb hT hown hK B xV_X_book inlX6 rfl (by decide) q184 rfl dX6_told_69 ?_
        refine x_getiN (T := TX0) (N := 12) hx hb hT hown hK B xI_book_rounds inlX0 rfl (by decide) q57 rfl dX6_told_72 ?_
        exact x_iretr hx hb hr hlk hK B dX6_told_75 hm
      · have hm := iff hm q2
        by_cases q3 : w1 = (3 : Int32)
        · have hm := ift hm q3
          refine lv_tableIn (off := 75) (tgt := 76) hx hb dX6_told_1 (by rw [q3]; decide) (by rw [q3]; decide) (by rw [q3]; rfl) (by decide) ?_
          refine lv_aload_n hx hb dX6_told_76 rfl (lv_at hl 0 rfl) ?_
          refine x_getv (T := TX6) (N := 8) hx hb hT hown hK B xV_X_book inlX6 rfl (by decide) q184 rfl dX6_told_77 ?_
          refine x_callVr (rest := []) hx hb hml hT hown hK hA B hl.1 (c_X0_countDone l D cI cZ a) mi_X0_countDone mv_X0_countDone xO_book rfl q520 ⟨rfl, rfl⟩ ⟨Nat.le_of_ble_eq_true rfl, Nat.le_of_ble_eq_true rfl⟩ rfl rfl (Nat.le_of_ble_eq_true rfl) dX6_told_80 hm (fun x2 H locs B hm => ?_)
          exact x_iretr hx hb hr hlk hK B dX6_told_83 hm
        · have hm := iff hm q3
          by_cases q4 : w1 = (4 : Int32)
          · have hm := ift hm q4
            refine lv_tableIn (off := 83) (tgt := 84) hx hb dX6_told_1 (by rw [q4]; decide) (by rw [q4]; decide) (by rw [q4]; rfl) (by decide) ?_
            refine lv_aload_n hx hb dX6_told_84 rfl (lv_at hl 0 rfl) ?_
            refine x_getv (T := TX6) (N := 8) hx hb hT hown hK B xV_X_book inlX6 rfl (by decide) q184 rfl dX6_told_85 ?_
            refine x_getiN (T := TX0) (N := 12) hx hb hT hown hK B xI_book_open inlX0 rfl (by decide) q58 rfl dX6_told_88 ?_
            refine lv_if_eq (tgt := 116) hx hb dX6_told_91 (by decide) (fun q => ?_) (fun q => ?_)
            · have hm := ift hm q
              refine lv_bipush (v := (-5 : Int32)) hx hb dX6_told_116 (by decide) ?_
              exact x_iretr hx hb hr hlk hK B dX6_told_118 hm
            · have hm := iff hm q
              refine lv_aload_n hx hb dX6_told_94 rfl (lv_at hl 0 rfl) ?_
              refine x_getv (T := TX6) (N := 8) hx hb hT hown hK B xV_X_book inlX6 rfl (by decide) q184 rfl dX6_told_95 ?_
              refine x_getvN (T := TX0) (N := 12) hx hb hT hown hK B xV_book_boards inlX0 rfl (by decide) q62 rfl dX6_told_98 ?_
              refine lv_aload_n hx hb dX6_told_101 rfl (lv_at hl 0 rfl) ?_
              refine x_getv (T := TX6) (N := 8) hx hb hT hown hK B xV_X_book inlX6 rfl (by decide) q184 rfl dX6_told_102 ?_
              refine x_getiN (T := TX0) (N := 12) hx hb hT hown hK B xI_book_rounds inlX0 rfl (by decide) q57 rfl dX6_told_105 ?_
              refine lv_iconst (v := (1 : Int32)) hx hb dX6_told_108 (by decide) ?_
              refine lv_isub hx hb dX6_told_109 ?_
              refine x_callVr (rest := []) hx hb hml hT hown hK hA B hl.1 (c_X2_at l D cI cZ xV_book_boards_cells xA_book_boards ((σ 3 0) - (1 : Int32))) mi_X2_at mv_X2_at xO_book_boards rfl q317 ⟨rfl, rfl⟩ ⟨Nat.le_of_ble_eq_true rfl, Nat.le_of_ble_eq_true rfl⟩ rfl rfl (Nat.le_of_ble_eq_true rfl) dX6_told_110 hm (fun x3 H locs B hm => ?_)
              refine lv_goto (tgt := 118) hx hb dX6_told_113 (by decide) ?_
              exact x_iretr hx hb hr hlk hK B dX6_told_118 hm
          · have hm := iff hm q4
            by_cases q5 : w1 = (5 : Int32)
            · have hm := ift hm q5
              refine lv_tableIn (off := 118) (tgt := 119) hx hb dX6_told_1 (by rw [q5]; decide) (by rw [q5]; decide) (by rw [q5]; rfl) (by decide) ?_
              refine lv_aload_n hx hb dX6_told_119 rfl (lv_at hl 0 rfl) ?_
              refine x_getv (T := TX6) (N := 8) hx hb hT hown hK B xV_X_tape inlX6 rfl (by decide) q189 rfl dX6_told_120 ?_
              refine x_getiN (T := TX5) (N := 2) hx hb hT hown hK B xI_tape_length inlX5 rfl (by decide) q165 rfl dX6_told_123 ?_
              exact x_iretr hx hb hr hlk hK B dX6_told_126 hm
            · have hm := iff hm q5
              by_cases q6 : w1 = (6 : Int32)
              · have hm := ift hm q6
                refine lv_tableIn (off := 126) (tgt := 127) hx hb dX6_told_1 (by rw [q6]; decide) (by rw [q6]; decide) (by rw [q6]; rfl) (by decide) ?_
                refine lv_aload_n hx hb dX6_told_127 rfl (lv_at hl 0 rfl) ?_
                refine x_getv (T := TX6) (N := 8) hx hb hT hown hK B xV_X_sheet inlX6 rfl (by decide) q190 rfl dX6_told_128 ?_
                refine x_getiN (T := TX5) (N := 2) hx hb hT hown hK B xI_sheet_length inlX5 rfl (by decide) q165 rfl dX6_told_131 ?_
                exact x_iretr hx hb hr hlk hK B dX6_told_134 hm
              · have hm := iff hm q6
                by_cases q7 : w1 = (7 : Int32)
                · have hm := ift hm q7
                  refine lv_tableIn (off := 134) (tgt := 135) hx hb dX6_told_1 (by rw [q7]; decide) (by rw [q7]; decide) (by rw [q7]; rfl) (by decide) ?_
                  refine lv_aload_n hx hb dX6_told_135 rfl (lv_at hl 0 rfl) ?_
                  refine x_getv (T := TX6) (N := 8) hx hb hT hown hK B xV_X_table inlX6 rfl (by decide) q187 rfl dX6_told_136 ?_
                  refine x_callVr (rest := []) hx hb hml hT hown hK hA B hl.1 (c_X4_countMeetings l D cI cZ a) mi_X4_countMeetings mv_X4_countMeetings xO_table rfl q683 ⟨rfl, rfl⟩ ⟨Nat.le_of_ble_eq_true rfl, Nat.le_of_ble_eq_true rfl⟩ rfl rfl (Nat.le_of_ble_eq_true rfl) dX6_told_139 hm (fun x4 H locs B hm => ?_)
                  exact x_iretr hx hb hr hlk hK B dX6_told_142 hm
                · have hm := iff hm q7
                  by_cases q8 : w1 = (8 : Int32)
                  · have hm := ift hm q8
                    refine lv_tableIn (off := 142) (tgt := 143) hx hb dX6_told_1 (by rw [q8]; decide) (by rw [q8]; decide) (by rw [q8]; rfl) (by decide) ?_
                    refine lv_aload_n hx hb dX6_told_143 rfl (lv_at hl 0 rfl) ?_
                    refine x_getv (T := TX6) (N := 8) hx hb hT hown hK B xV_X_table inlX6 rfl (by decide) q187 rfl dX6_told_144 ?_
                    refine x_callVr (rest := []) hx hb hml hT hown hK hA B hl.1 (c_X4_sumPoints l D cI cZ a) mi_X4_sumPoints mv_X4_sumPoints xO_table rfl q688 ⟨rfl, rfl⟩ ⟨Nat.le_of_ble_eq_true rfl, Nat.le_of_ble_eq_true rfl⟩ rfl rfl (Nat.le_of_ble_eq_true rfl) dX6_told_147 hm (fun x5 H locs B hm => ?_)
                    exact x_iretr hx hb hr hlk hK B dX6_told_150 hm
                  · have hm := iff hm q8
                    have z0 := lv_neT (k := (0 : Int32)) (a := 0) q0 (by decide)
                    have z1 := lv_neT (k := (1 : Int32)) (a := 1) q1 (by decide)
                    have z2 := lv_neT (k := (2 : Int32)) (a := 2) q2 (by decide)
                    have z3 := lv_neT (k := (3 : Int32)) (a := 3) q3 (by decide)
                    have z4 := lv_neT (k := (4 : Int32)) (a := 4) q4 (by decide)
                    have z5 := lv_neT (k := (5 : Int32)) (a := 5) q5 (by decide)
                    have z6 := lv_neT (k := (6 : Int32)) (a := 6) q6 (by decide)
                    have z7 := lv_neT (k := (7 : Int32)) (a := 7) q7 (by decide)
                    have z8 := lv_neT (k := (8 : Int32)) (a := 8) q8 (by decide)
                    refine lv_tableOut (tgt := 151) hx hb dX6_told_1 (by omega) (by decide) ?_
                    refine lv_iconst (v := (-1 : Int32)) hx hb dX6_told_151 (by decide) ?_
                    exact x_iretr hx hb hr hlk hK B dX6_told_152 hm
def f_X3_isList (w0 : Int32) : Option Int32 :=
  if w0 < 0 then
    some (0 : Int32)
  else
    if (4 : Int32) ≤ w0 then
      some (0 : Int32)
    else
      some (1 : Int32)
set_option maxHeartbeats 4000000 in
set_option maxRecDepth 100000 in
theorem c_X3_isList (l : Launch) (D : va_G) (cI cZ : ClassId) (ww : Mm → va_W) (w0 : Int32) : CTr l D [(cI, FieldType.int), (cZ, FieldType.boolean)] ww yX3_isList (.code yX3_isList cX3_isList 1 (some FieldType.boolean) :: wsL_law) ({ frames := 0, cells := 0, slots := 0, locals := 0 } : Room) [.int w0] (fun σ => f_X3_isList w0) := by
  refine CTr.of (by decide +kernel) (Nat.le_of_ble_eq_true rfl) ?_
  intro σ r hm p e s m below meth c A ls H locs hx hb hr hlk hml hT hown hK hA B hl
  have hown : s.vm.findClass RX3 = some m.cls := hown
  have hl : lv_has ls 1 [(0, .int w0)] := hl
  have hm : f_X3_isList w0 = some r := hm
  unfold f_X3_isList at hm
  refine lv_iload_n hx hb dX3_isList_0 rfl (lv_at hl 0 rfl) ?_
  refine lv_if_lt (tgt := 13) hx hb dX3_isList_1 (by decide) (fun q => ?_) (fun q => ?_)
  · have hm := ift hm q
    refine lv_iconst (v := (0 : Int32)) hx hb dX3_isList_13 (by decide) ?_
    exact x_zretr hx hb hr hlk hK B rfl dX3_isList_14 hm
  · have hm := iff hm q
    refine lv_iload_n hx hb dX3_isList_4 rfl (lv_at hl 0 rfl) ?_
    refine lv_iconst (v := (4 : Int32)) hx hb dX3_isList_5 (by decide) ?_
    refine lv_icmp_ge (tgt := 13) hx hb dX3_isList_6 (by decide) (fun q => ?_) (fun q => ?_)
    · have hm := ift hm q
      refine lv_iconst (v := (0 : Int32)) hx hb dX3_isList_13 (by decide) ?_
      exact x_zretr hx hb hr hlk hK B rfl dX3_isList_14 hm
    · have hm := iff hm q
      refine lv_iconst (v := (1 : Int32)) hx hb dX3_isList_9 (by decide) ?_
      refine lv_goto (tgt := 14) hx hb dX3_isList_10 (by decide) ?_
      exact x_zretr hx hb hr hlk hK B rfl dX3_isList_14 hm
def f_X3_putAt (σ : Mm) (w1 : Int32) (w2 : Int32) (w3 : Int32) : Option Mm :=
  (f_X2_put 80 75 σ ((w1 * (20 : Int32)) + w2) w3).bind fun σ =>
  some σ
set_option maxHeartbeats 4000000 in
set_option maxRecDepth 100000 in
theorem c_X3_putAt (l : Launch) (D : va_G) (cI cZ : ClassId) (a : Nat → Nat) (w1 : Int32) (w2 : Int32) (w3 : Int32) : CTv l D [(cI, FieldType.int), (cZ, FieldType.boolean)] (xW cI a) yX3_putAt (.code yX3_putAt cX3_putAt 4 (none : Option FieldType) :: wsL_law) ({ frames := 1, cells := 0, slots := 0, locals := 22 } : Room) [.ref (a 69), .int w1, .int w2, .int w3] (fun σ => f_X3_putAt σ w1 w2 w3) := by
  refine CTv.of (by decide +kernel) (Nat.le_of_ble_eq_true rfl) ?_
  intro σ out hm p e s m below meth c A ls H locs hx hb hr hlk hml hT hown hK hA B hl
  have hown : s.vm.findClass RX3 = some m.cls := hown
  have hl : lv_has ls 4 [(0, .ref (a 69)), (1, .int w1), (2, .int w2), (3, .int w3)] := hl
  have hm : f_X3_putAt σ w1 w2 w3 = some out := hm
  unfold f_X3_putAt at hm
  refine lv_aload_n hx hb dX3_putAt_0 rfl (lv_at hl 0 rfl) ?_
  refine x_getv (T := TX3) (N := 2) hx hb hT hown hK B xV_shelf_cells inlX3 rfl (by decide) q181 rfl dX3_putAt_1 ?_
  refine lv_iload_n hx hb dX3_putAt_4 rfl (lv_at hl 1 rfl) ?_
  refine lv_bipush (v := (20 : Int32)) hx hb dX3_putAt_5 (by decide) ?_
  refine lv_imul hx hb dX3_putAt_7 ?_
  refine lv_iload_n hx hb dX3_putAt_8 rfl (lv_at hl 2 rfl) ?_
  refine lv_iadd hx hb dX3_putAt_9 ?_
  refine lv_iload_n hx hb dX3_putAt_10 rfl (lv_at hl 3 rfl) ?_
  refine x_callVv (rest := []) hx hb hml hT hown hK hA B hl.1 (c_X2_put l D cI cZ xV_shelf_cells_cells xA_shelf_cells ((w1 * (20 : Int32)) + w2) w3) mi_X2_put mv_X2_put xO_shelf_cells rfl q703 ⟨rfl, rfl⟩ ⟨Nat.le_of_ble_eq_true rfl, Nat.le_of_ble_eq_true rfl⟩ rfl rfl (Nat.le_of_ble_eq_true rfl) dX3_putAt_11 hm (fun σ H locs B hm => ?_)
  exact x_vret hx hb hr hlk hK B dX3_putAt_14 hm
def f_X3_hold_s11 (v1 : Int32) (v2 : Int32) (r11 : Mm → Int32 → Option Mm) (σ : Mm) (v3 : Int32) : Option Mm :=
  if v2 ≤ v3 then
    some σ
  else
    (f_X3_putAt σ v1 v3 (0 : Int32)).bind fun σ =>
    r11 σ (v3 + (1 : Int32))
def f_X3_hold (σ : Mm) (w1 : Int32) (w2 : Int32) : Option Mm :=
  (f_X2_put 4 74 σ w1 w2).bind fun σ =>
  wh2 (f_X3_hold_s11 w1 w2) 5000 σ (0 : Int32)
set_option maxHeartbeats 4000000 in
set_option maxRecDepth 100000 in
theorem c_X3_hold (l : Launch) (D : va_G) (cI cZ : ClassId) (a : Nat → Nat) (w1 : Int32) (w2 : Int32) : CTv l D [(cI, FieldType.int), (cZ, FieldType.boolean)] (xW cI a) yX3_hold (.code yX3_hold cX3_hold 4 (none : Option FieldType) :: wsL_law) ({ frames := 2, cells := 0, slots := 0, locals := 45 } : Room) [.ref (a 69), .int w1, .int w2] (fun σ => f_X3_hold σ w1 w2) := by
  refine CTv.of (by decide +kernel) (Nat.le_of_ble_eq_true rfl) ?_
  intro σ out hm p e s m below meth c A ls H locs hx hb hr hlk hml hT hown hK hA B hl
  have hown : s.vm.findClass RX3 = some m.cls := hown
  have hl : lv_has ls 4 [(0, .ref (a 69)), (1, .int w1), (2, .int w2)] := hl
  have hm : f_X3_hold σ w1 w2 = some out := hm
  unfold f_X3_hold at hm
  have L11 : ∀ (v1 : Int32) (v2 : Int32) (nn : Nat) (σ : Mm) (v3 : Int32), wh2 (f_X3_hold_s11 v1 v2) nn σ v3 = some out → ∀ (H : Heap) (locs : List Loc) (ls : Array Slot), BD D A s.heap ((xW cI a) σ) H locs → lv_has ls 4 [(0, .ref (a 69)), (1, .int v1), (2, .int v2), (3, .int v3)] → W p l e ({ frames := 2, cells := 0, slots := 0, locals := 45 } : Room) s m ([.ref (a 69), .int w1, .int w2] : List Value).toArray below meth c H locs 0 0 (MQ below (QV D [(cI, FieldType.int), (cZ, FieldType.boolean)] (xW cI a) A out) ([.ref (a 69), .int w1, .int w2] : List Value).toArray s 0 0 A) (F0 m 11 ls []) := by
    intro v1 v2
    refine loop2 (fun r11 ih11 σ v3 hm H locs ls B hl => ?_)
    unfold f_X3_hold_s11 at hm
    refine lv_iload_n hx hb dX3_hold_11 rfl (lv_at hl 3 rfl) ?_
    refine lv_iload_n hx hb dX3_hold_12 rfl (lv_at hl 2 rfl) ?_
    refine lv_icmp_ge (tgt := 29) hx hb dX3_hold_13 (by decide) (fun q => ?_) (fun q => ?_)
    · have hm := ift hm q
      exact x_vret hx hb hr hlk hK B dX3_hold_29 hm
    · have hm := iff hm q
      refine lv_aload_n hx hb dX3_hold_16 rfl (lv_at hl 0 rfl) ?_
      refine lv_iload_n hx hb dX3_hold_17 rfl (lv_at hl 1 rfl) ?_
      refine lv_iload_n hx hb dX3_hold_18 rfl (lv_at hl 3 rfl) ?_
      refine lv_iconst (v := (0 : Int32)) hx hb dX3_hold_19 (by decide) ?_
      refine x_callVv (rest := []) hx hb hml hT hown hK hA B hl.1 (c_X3_putAt l D cI cZ a v1 v3 (0 : Int32)) mi_X3_putAt mv_X3_putAt xO_shelf rfl q704 ⟨rfl, rfl⟩ ⟨Nat.le_of_ble_eq_true rfl, Nat.le_of_ble_eq_true rfl⟩ rfl rfl (Nat.le_of_ble_eq_true rfl) dX3_hold_20 hm (fun σ H locs B hm => ?_)
      refine lv_iinc (v := (v3 + (1 : Int32))) (lv' := [(3, .int (v3 + (1 : Int32))), (0, .ref (a 69)), (1, .int v1), (2, .int v2)]) hx hb dX3_hold_23 hl (k := 3) rfl rfl (by decide) rfl (fun ls hl => ?_)
      refine lv_goto (tgt := 11) hx hb dX3_hold_26 (by decide) ?_
      exact ih11 σ (v3 + (1 : Int32)) hm H locs ls B (lv_sub hl [1, 2, 3, 0] rfl)
  refine lv_aload_n hx hb dX3_hold_0 rfl (lv_at hl 0 rfl) ?_
  refine x_getv (T := TX3) (N := 2) hx hb hT hown hK B xV_shelf_sizes inlX3 rfl (by decide) q180 rfl dX3_hold_1 ?_
  refine lv_iload_n hx hb dX3_hold_4 rfl (lv_at hl 1 rfl) ?_
  refine lv_iload_n hx hb dX3_hold_5 rfl (lv_at hl 2 rfl) ?_
  refine x_callVv (rest := []) hx hb hml hT hown hK hA B hl.1 (c_X2_put l D cI cZ xV_shelf_sizes_cells xA_shelf_sizes w1 w2) mi_X2_put mv_X2_put xO_shelf_sizes rfl q703 ⟨rfl, rfl⟩ ⟨Nat.le_of_ble_eq_true rfl, Nat.le_of_ble_eq_true rfl⟩ rfl rfl (Nat.le_of_ble_eq_true rfl) dX3_hold_6 hm (fun σ H locs B hm => ?_)
  refine lv_iconst (v := (0 : Int32)) hx hb dX3_hold_9 (by decide) ?_
  refine lv_istore_n (lv' := [(3, .int (0 : Int32)), (0, .ref (a 69)), (1, .int w1), (2, .int w2)]) hx hb dX3_hold_10 rfl hl (by decide) rfl (fun ls hl => ?_)
  exact L11 w1 w2 5000 σ (0 : Int32) hm H locs ls B (lv_sub hl [1, 2, 3, 0] rfl)
def f_X6_list (σ : Mm) (w1 : Int32) (w2 : Int32) : Option (Int32 × Mm) :=
  (f_X3_isList w1).bind fun x1 =>
  if x1 = 0 then
    some ((-1 : Int32), σ)
  else
    if w2 ≤ (20 : Int32) then
      if 0 ≤ w2 then
        (f_X3_hold σ w1 w2).bind fun σ =>
        some ((1 : Int32), σ)
      else
        some ((-14 : Int32), σ)
    else
      some ((-2 : Int32), σ)
set_option maxHeartbeats 4000000 in
set_option maxRecDepth 100000 in
theorem c_X6_list (l : Launch) (D : va_G) (cI cZ : ClassId) (a : Nat → Nat) (w1 : Int32) (w2 : Int32) : CTi l D [(cI, FieldType.int), (cZ, FieldType.boolean)] (xW cI a) yX6_list (.code yX6_list cX6_list 3 (some FieldType.int) :: wsL_law) ({ frames := 3, cells := 0, slots := 0, locals := 68 } : Room) [.ref (a 0), .int w1, .int w2] (fun σ => f_X6_list σ w1 w2) := by
  refine CTi.of (by decide +kernel) (Nat.le_of_ble_eq_true rfl) ?_
  intro σ out hm p e s m below meth c A ls H locs hx hb hr hlk hml hT hown hK hA B hl
  have hown : s.vm.findClass RX6 = some m.cls := hown
  have hl : lv_has ls 3 [(0, .ref (a 0)), (1, .int w1), (2, .int w2)] := hl
  have hm : f_X6_list σ w1 w2 = some out := hm
  unfold f_X6_list at hm
  refine lv_iload_n hx hb dX6_list_0 rfl (lv_at hl 1 rfl) ?_
  refine x_callSr (rest := []) hx hb hml hT hown hK hA B hl.1 (c_X3_isList l D cI cZ (xW cI a) w1) mi_X3_isList q697 q696 ⟨rfl, rfl⟩ ⟨Nat.le_of_ble_eq_true rfl, Nat.le_of_ble_eq_true rfl⟩ rfl rfl (Nat.le_of_ble_eq_true rfl) dX6_list_1 hm (fun x1 H locs B hm => ?_)
  refine lv_if_ne (tgt := 9) hx hb dX6_list_4 (by decide) (fun q => ?_) (fun q => ?_)
  · have hm := iff hm q
    refine lv_iload_n hx hb dX6_list_9 rfl (lv_at hl 2 rfl) ?_
    refine lv_bipush (v := (20 : Int32)) hx hb dX6_list_10 (by decide) ?_
    refine lv_icmp_le (tgt := 18) hx hb dX6_list_12 (by decide) (fun q => ?_) (fun q => ?_)
    · have hm := ift hm q
      refine lv_iload_n hx hb dX6_list_18 rfl (lv_at hl 2 rfl) ?_
      refine lv_if_ge (tgt := 25) hx hb dX6_list_19 (by decide) (fun q => ?_) (fun q => ?_)
      · have hm := ift hm q
        refine lv_aload_n hx hb dX6_list_25 rfl (lv_at hl 0 rfl) ?_
        refine x_getv (T := TX6) (N := 8) hx hb hT hown hK B xV_X_shelf inlX6 rfl (by decide) q191 rfl dX6_list_26 ?_
        refine lv_iload_n hx hb dX6_list_29 rfl (lv_at hl 1 rfl) ?_
        refine lv_iload_n hx hb dX6_list_30 rfl (lv_at hl 2 rfl) ?_
        refine x_callVv (rest := []) hx hb hml hT hown hK hA B hl.1 (c_X3_hold l D cI cZ a w1 w2) mi_X3_hold mv_X3_hold xO_shelf rfl q699 ⟨rfl, rfl⟩ ⟨Nat.le_of_ble_eq_true rfl, Nat.le_of_ble_eq_true rfl⟩ rfl rfl (Nat.le_of_ble_eq_true rfl) dX6_list_31 hm (fun σ H locs B hm => ?_)
        refine lv_iconst (v := (1 : Int32)) hx hb dX6_list_34 (by decide) ?_
        exact x_iret hx hb hr hlk hK B dX6_list_35 hm
      · have hm := iff hm q
        refine lv_bipush (v := (-14 : Int32)) hx hb dX6_list_22 (by decide) ?_
        exact x_iret hx hb hr hlk hK B dX6_list_24 hm
    · have hm := iff hm q
      refine lv_bipush (v := (-2 : Int32)) hx hb dX6_list_15 (by decide) ?_
      exact x_iret hx hb hr hlk hK B dX6_list_17 hm
  · have hm := ift hm q
    refine lv_iconst (v := (-1 : Int32)) hx hb dX6_list_7 (by decide) ?_
    exact x_iret hx hb hr hlk hK B dX6_list_8 hm
def f_X3_isHeld (σ : Mm) (w1 : Int32) : Option Int32 :=
  (f_X2_at 4 74 σ w1).bind fun x1 =>
  if x1 = (-1 : Int32) then
    some (0 : Int32)
  else
    some (1 : Int32)
set_option maxHeartbeats 4000000 in
set_option maxRecDepth 100000 in
theorem c_X3_isHeld (l : Launch) (D : va_G) (cI cZ : ClassId) (a : Nat → Nat) (w1 : Int32) : CTr l D [(cI, FieldType.int), (cZ, FieldType.boolean)] (xW cI a) yX3_isHeld (.code yX3_isHeld cX3_isHeld 2 (some FieldType.boolean) :: wsL_law) ({ frames := 1, cells := 0, slots := 0, locals := 21 } : Room) [.ref (a 69), .int w1] (fun σ => f_X3_isHeld σ w1) := by
  refine CTr.of (by decide +kernel) (Nat.le_of_ble_eq_true rfl) ?_
  intro σ r hm p e s m below meth c A ls H locs hx hb hr hlk hml hT hown hK hA B hl
  have hown : s.vm.findClass RX3 = some m.cls := hown
  have hl : lv_has ls 2 [(0, .ref (a 69)), (1, .int w1)] := hl
  have hm : f_X3_isHeld σ w1 = some r := hm
  unfold f_X3_isHeld at hm
  refine lv_aload_n hx hb dX3_isHeld_0 rfl (lv_at hl 0 rfl) ?_
  refine x_getv (T := TX3) (N := 2) hx hb hT hown hK B xV_shelf_sizes inlX3 rfl (by decide) q180 rfl dX3_isHeld_1 ?_
  refine lv_iload_n hx hb dX3_isHeld_4 rfl (lv_at hl 1 rfl) ?_
  refine x_callVr (rest := []) hx hb hml hT hown hK hA B hl.1 (c_X2_at l D cI cZ xV_shelf_sizes_cells xA_shelf_sizes w1) mi_X2_at mv_X2_at xO_shelf_sizes rfl q719 ⟨rfl, rfl⟩ ⟨Nat.le_of_ble_eq_true rfl, Nat.le_of_ble_eq_true rfl⟩ rfl rfl (Nat.le_of_ble_eq_true rfl) dX3_isHeld_5 hm (fun x1 H locs B hm => ?_)
  refine lv_iconst (v := (-1 : Int32)) hx hb dX3_isHeld_8 (by decide) ?_
  refine lv_icmp_eq (tgt := 16) hx hb dX3_isHeld_9 (by decide) (fun q => ?_) (fun q => ?_)
  · have hm := ift hm q
    refine lv_iconst (v := (0 : Int32)) hx hb dX3_isHeld_16 (by decide) ?_
    exact x_zretr hx hb hr hlk hK B rfl dX3_isHeld_17 hm
  · have hm := iff hm q
    refine lv_iconst (v := (1 : Int32)) hx hb dX3_isHeld_12 (by decide) ?_
    refine lv_goto (tgt := 17) hx hb dX3_isHeld_13 (by decide) ?_
    exact x_zretr hx hb hr hlk hK B rfl dX3_isHeld_17 hm
def f_X6_refusalOfList (σ : Mm) (w1 : Int32) : Option Int32 :=
  (f_X3_isList w1).bind fun x1 =>
  if x1 = 0 then
    some (-1 : Int32)
  else
    (f_X3_isHeld σ w1).bind fun x2 =>
    if x2 = 0 then
      some (-11 : Int32)
    else
      some (0 : Int32)
set_option maxHeartbeats 4000000 in
set_option maxRecDepth 100000 in
theorem c_X6_refusalOfList (l : Launch) (D : va_G) (cI cZ : ClassId) (a : Nat → Nat) (w1 : Int32) : CTr l D [(cI, FieldType.int), (cZ, FieldType.boolean)] (xW cI a) yX6_refusalOfList (.code yX6_refusalOfList cX6_refusalOfList 2 (some FieldType.int) :: wsL_law) ({ frames := 2, cells := 0, slots := 0, locals := 42 } : Room) [.ref (a 0), .int w1] (fun σ => f_X6_refusalOfList σ w1) := by
  refine CTr.of (by decide +kernel) (Nat.le_of_ble_eq_true rfl) ?_
  intro σ r hm p e s m below meth c A ls H locs hx hb hr hlk hml hT hown hK hA B hl
  have hown : s.vm.findClass RX6 = some m.cls := hown
  have hl : lv_has ls 2 [(0, .ref (a 0)), (1, .int w1)] := hl
  have hm : f_X6_refusalOfList σ w1 = some r := hm
  unfold f_X6_refusalOfList at hm
  refine lv_iload_n hx hb dX6_refusalOfList_0 rfl (lv_at hl 1 rfl) ?_
  refine x_callSr (rest := []) hx hb hml hT hown hK hA B hl.1 (c_X3_isList l D cI cZ (xW cI a) w1) mi_X3_isList q697 q696 ⟨rfl, rfl⟩ ⟨Nat.le_of_ble_eq_true rfl, Nat.le_of_ble_eq_true rfl⟩ rfl rfl (Nat.le_of_ble_eq_true rfl) dX6_refusalOfList_1 hm (fun x1 H locs B hm => ?_)
  refine lv_if_ne (tgt := 9) hx hb dX6_refusalOfList_4 (by decide) (fun q => ?_) (fun q => ?_)
  · have hm := iff hm q
    refine lv_aload_n hx hb dX6_refusalOfList_9 rfl (lv_at hl 0 rfl) ?_
    refine x_getv (T := TX6) (N := 8) hx hb hT hown hK B xV_X_shelf inlX6 rfl (by decide) q191 rfl dX6_refusalOfList_10 ?_
    refine lv_iload_n hx hb dX6_refusalOfList_13 rfl (lv_at hl 1 rfl) ?_
    refine x_callVr (rest := []) hx hb hml hT hown hK hA B hl.1 (c_X3_isHeld l D cI cZ a w1) mi_X3_isHeld mv_X3_isHeld xO_shelf rfl q715 ⟨rfl, rfl⟩ ⟨Nat.le_of_ble_eq_true rfl, Nat.le_of_ble_eq_true rfl⟩ rfl rfl (Nat.le_of_ble_eq_true rfl) dX6_refusalOfList_14 hm (fun x2 H locs B hm => ?_)
    refine lv_if_eq (tgt := 24) hx hb dX6_refusalOfList_17 (by decide) (fun q => ?_) (fun q => ?_)
    · have hm := ift hm q
      refine lv_bipush (v := (-11 : Int32)) hx hb dX6_refusalOfList_24 (by decide) ?_
      exact x_iretr hx hb hr hlk hK B dX6_refusalOfList_26 hm
    · have hm := iff hm q
      refine lv_iconst (v := (0 : Int32)) hx hb dX6_refusalOfList_20 (by decide) ?_
      refine lv_goto (tgt := 26) hx hb dX6_refusalOfList_21 (by decide) ?_
      exact x_iretr hx hb hr hlk hK B dX6_refusalOfList_26 hm
  · have hm := ift hm q
    refine lv_iconst (v := (-1 : Int32)) hx hb dX6_refusalOfList_7 (by decide) ?_
    exact x_iretr hx hb hr hlk hK B dX6_refusalOfList_8 hm
def f_X3_hasPlace (σ : Mm) (w1 : Int32) (w2 : Int32) : Option Int32 :=
  if w2 < 0 then
    some (0 : Int32)
  else
    (f_X2_at 4 74 σ w1).bind fun x1 =>
    if x1 ≤ w2 then
      some (0 : Int32)
    else
      some (1 : Int32)
set_option maxHeartbeats 4000000 in
set_option maxRecDepth 100000 in
theorem c_X3_hasPlace (l : Launch) (D : va_G) (cI cZ : ClassId) (a : Nat → Nat) (w1 : Int32) (w2 : Int32) : CTr l D [(cI, FieldType.int), (cZ, FieldType.boolean)] (xW cI a) yX3_hasPlace (.code yX3_hasPlace cX3_hasPlace 3 (some FieldType.boolean) :: wsL_law) ({ frames := 1, cells := 0, slots := 0, locals := 21 } : Room) [.ref (a 69), .int w1, .int w2] (fun σ => f_X3_hasPlace σ w1 w2) := by
  refine CTr.of (by decide +kernel) (Nat.le_of_ble_eq_true rfl) ?_
  intro σ r hm p e s m below meth c A ls H locs hx hb hr hlk hml hT hown hK hA B hl
  have hown : s.vm.findClass RX3 = some m.cls := hown
  have hl : lv_has ls 3 [(0, .ref (a 69)), (1, .int w1), (2, .int w2)] := hl
  have hm : f_X3_hasPlace σ w1 w2 = some r := hm
  unfold f_X3_hasPlace at hm
  refine lv_iload_n hx hb dX3_hasPlace_0 rfl (lv_at hl 2 rfl) ?_
  refine lv_if_lt (tgt := 20) hx hb dX3_hasPlace_1 (by decide) (fun q => ?_) (fun q => ?_)
  · have hm := ift hm q
    refine lv_iconst (v := (0 : Int32)) hx hb dX3_hasPlace_20 (by decide) ?_
    exact x_zretr hx hb hr hlk hK B rfl dX3_hasPlace_21 hm
  · have hm := iff hm q
    refine lv_iload_n hx hb dX3_hasPlace_4 rfl (lv_at hl 2 rfl) ?_
    refine lv_aload_n hx hb dX3_hasPlace_5 rfl (lv_at hl 0 rfl) ?_
    refine x_getv (T := TX3) (N := 2) hx hb hT hown hK B xV_shelf_sizes inlX3 rfl (by decide) q180 rfl dX3_hasPlace_6 ?_
    refine lv_iload_n hx hb dX3_hasPlace_9 rfl (lv_at hl 1 rfl) ?_
    refine x_callVr (rest := [.int w2]) hx hb hml hT hown hK hA B hl.1 (c_X2_at l D cI cZ xV_shelf_sizes_cells xA_shelf_sizes w1) mi_X2_at mv_X2_at xO_shelf_sizes rfl q719 ⟨rfl, rfl⟩ ⟨Nat.le_of_ble_eq_true rfl, Nat.le_of_ble_eq_true rfl⟩ rfl rfl (Nat.le_of_ble_eq_true rfl) dX3_hasPlace_10 hm (fun x1 H locs B hm => ?_)
    refine lv_icmp_ge (tgt := 20) hx hb dX3_hasPlace_13 (by decide) (fun q => ?_) (fun q => ?_)
    · have hm := ift hm q
      refine lv_iconst (v := (0 : Int32)) hx hb dX3_hasPlace_20 (by decide) ?_
      exact x_zretr hx hb hr hlk hK B rfl dX3_hasPlace_21 hm
    · have hm := iff hm q
      refine lv_iconst (v := (1 : Int32)) hx hb dX3_hasPlace_16 (by decide) ?_
      refine lv_goto (tgt := 21) hx hb dX3_hasPlace_17 (by decide) ?_
      exact x_zretr hx hb hr hlk hK B rfl dX3_hasPlace_21 hm
def f_X6_set (σ : Mm) (w1 : Int32) (w2 : Int32) (w3 : Int32) : Option (Int32 × Mm) :=
  (f_X6_refusalOfList σ w1).bind fun x1 =>
  if x1 = 0 then
    (f_X3_hasPlace σ w1 w2).bind fun x2 =>
    if x2 = 0 then
      some ((-13 : Int32), σ)
    else
      (f_X3_putAt σ w1 w2 w3).bind fun σ =>
      some ((1 : Int32), σ)
  else
    some (x1, σ)
set_option maxHeartbeats 4000000 in
set_option maxRecDepth 100000 in
theorem c_X6_set (l : Launch) (D : va_G) (cI cZ : ClassId) (a : Nat → Nat) (w1 : Int32) (w2 : Int32) (w3 : Int32) : CTi l D [(cI, FieldType.int), (cZ, FieldType.boolean)] (xW cI a) yX6_set (.code yX6_set cX6_set 5 (some FieldType.int) :: wsL_law) ({ frames := 3, cells := 0, slots := 0, locals := 63 } : Room) [.ref (a 0), .int w1, .int w2, .int w3] (fun σ => f_X6_set σ w1 w2 w3) := by
  refine CTi.of (by decide +kernel) (Nat.le_of_ble_eq_true rfl) ?_
  intro σ out hm p e s m below meth c A ls H locs hx hb hr hlk hml hT hown hK hA B hl
  have hown : s.vm.findClass RX6 = some m.cls := hown
  have hl : lv_has ls 5 [(0, .ref (a 0)), (1, .int w1), (2, .int w2), (3, .int w3)] := hl
  have hm : f_X6_set σ w1 w2 w3 = some out := hm
  unfold f_X6_set at hm
  refine lv_aload_n hx hb dX6_set_0 rfl (lv_at hl 0 rfl) ?_
  refine lv_iload_n hx hb dX6_set_1 rfl (lv_at hl 1 rfl) ?_
  refine x_callVr (rest := []) hx hb hml hT hown hK hA B hl.1 (c_X6_refusalOfList l D cI cZ a w1) mi_X6_refusalOfList mv_X6_refusalOfList xO_X rfl q712 ⟨rfl, rfl⟩ ⟨Nat.le_of_ble_eq_true rfl, Nat.le_of_ble_eq_true rfl⟩ rfl rfl (Nat.le_of_ble_eq_true rfl) dX6_set_2 hm (fun x1 H locs B hm => ?_)
  refine lv_istore (lv' := [(4, .int x1), (0, .ref (a 0)), (1, .int w1), (2, .int w2), (3, .int w3)]) hx hb dX6_set_5 hl (by decide) rfl (fun ls hl => ?_)
  refine lv_iload hx hb dX6_set_7 (lv_at hl 0 rfl) ?_
  refine lv_if_eq (tgt := 15) hx hb dX6_set_9 (by decide) (fun q => ?_) (fun q => ?_)
  · have hm := ift hm q
    refine lv_aload_n hx hb dX6_set_15 rfl (lv_at hl 1 rfl) ?_
    refine x_getv (T := TX6) (N := 8) hx hb hT hown hK B xV_X_shelf inlX6 rfl (by decide) q191 rfl dX6_set_16 ?_
    refine lv_iload_n hx hb dX6_set_19 rfl (lv_at hl 2 rfl) ?_
    refine lv_iload_n hx hb dX6_set_20 rfl (lv_at hl 3 rfl) ?_
    refine x_callVr (rest := []) hx hb hml hT hown hK hA B hl.1 (c_X3_hasPlace l D cI cZ a w1 w2) mi_X3_hasPlace mv_X3_hasPlace xO_shelf rfl q720 ⟨rfl, rfl⟩ ⟨Nat.le_of_ble_eq_true rfl, Nat.le_of_ble_eq_true rfl⟩ rfl rfl (Nat.le_of_ble_eq_true rfl) dX6_set_21 hm (fun x2 H locs B hm => ?_)
    refine lv_if_ne (tgt := 30) hx hb dX6_set_24 (by decide) (fun q => ?_) (fun q => ?_)
    · have hm := iff hm q
      refine lv_aload_n hx hb dX6_set_30 rfl (lv_at hl 1 rfl) ?_
      refine x_getv (T := TX6) (N := 8) hx hb hT hown hK B xV_X_shelf inlX6 rfl (by decide) q191 rfl dX6_set_31 ?_
      refine lv_iload_n hx hb dX6_set_34 rfl (lv_at hl 2 rfl) ?_
      refine lv_iload_n hx hb dX6_set_35 rfl (lv_at hl 3 rfl) ?_
      refine lv_iload_n hx hb dX6_set_36 rfl (lv_at hl 4 rfl) ?_
      refine x_callVv (rest := []) hx hb hml hT hown hK hA B hl.1 (c_X3_putAt l D cI cZ a w1 w2 w3) mi_X3_putAt mv_X3_putAt xO_shelf rfl q724 ⟨rfl, rfl⟩ ⟨Nat.le_of_ble_eq_true rfl, Nat.le_of_ble_eq_true rfl⟩ rfl rfl (Nat.le_of_ble_eq_true rfl) dX6_set_37 hm (fun σ H locs B hm => ?_)
      refine lv_iconst (v := (1 : Int32)) hx hb dX6_set_40 (by decide) ?_
      exact x_iret hx hb hr hlk hK B dX6_set_41 hm
    · have hm := ift hm q
      refine lv_bipush (v := (-13 : Int32)) hx hb dX6_set_27 (by decide) ?_
      exact x_iret hx hb hr hlk hK B dX6_set_29 hm
  · have hm := iff hm q
    refine lv_iload hx hb dX6_set_12 (lv_at hl 0 rfl) ?_
    exact x_iret hx hb hr hlk hK B dX6_set_14 hm
def f_X3_valueAt (σ : Mm) (w1 : Int32) (w2 : Int32) : Option Int32 :=
  (f_X2_at 80 75 σ ((w1 * (20 : Int32)) + w2)).bind fun x1 =>
  some x1
set_option maxHeartbeats 4000000 in
set_option maxRecDepth 100000 in
theorem c_X3_valueAt (l : Launch) (D : va_G) (cI cZ : ClassId) (a : Nat → Nat) (w1 : Int32) (w2 : Int32) : CTr l D [(cI, FieldType.int), (cZ, FieldType.boolean)] (xW cI a) yX3_valueAt (.code yX3_valueAt cX3_valueAt 3 (some FieldType.int) :: wsL_law) ({ frames := 1, cells := 0, slots := 0, locals := 21 } : Room) [.ref (a 69), .int w1, .int w2] (fun σ => f_X3_valueAt σ w1 w2) := by
  refine CTr.of (by decide +kernel) (Nat.le_of_ble_eq_true rfl) ?_
  intro σ r hm p e s m below meth c A ls H locs hx hb hr hlk hml hT hown hK hA B hl
  have hown : s.vm.findClass RX3 = some m.cls := hown
  have hl : lv_has ls 3 [(0, .ref (a 69)), (1, .int w1), (2, .int w2)] := hl
  have hm : f_X3_valueAt σ w1 w2 = some r := hm
  unfold f_X3_valueAt at hm
  refine lv_aload_n hx hb dX3_valueAt_0 rfl (lv_at hl 0 rfl) ?_
  refine x_getv (T := TX3) (N := 2) hx hb hT hown hK B xV_shelf_cells inlX3 rfl (by decide) q181 rfl dX3_valueAt_1 ?_
  refine lv_iload_n hx hb dX3_valueAt_4 rfl (lv_at hl 1 rfl) ?_
  refine lv_bipush (v := (20 : Int32)) hx hb dX3_valueAt_5 (by decide) ?_
  refine lv_imul hx hb dX3_valueAt_7 ?_
  refine lv_iload_n hx hb dX3_valueAt_8 rfl (lv_at hl 2 rfl) ?_
  refine lv_iadd hx hb dX3_valueAt_9 ?_
  refine x_callVr (rest := []) hx hb hml hT hown hK hA B hl.1 (c_X2_at l D cI cZ xV_shelf_cells_cells xA_shelf_cells ((w1 * (20 : Int32)) + w2)) mi_X2_at mv_X2_at xO_shelf_cells rfl q719 ⟨rfl, rfl⟩ ⟨Nat.le_of_ble_eq_true rfl, Nat.le_of_ble_eq_true rfl⟩ rfl rfl (Nat.le_of_ble_eq_true rfl) dX3_valueAt_10 hm (fun x1 H locs B hm => ?_)
  exact x_iretr hx hb hr hlk hK B dX3_valueAt_13 hm
def f_X6_get (σ : Mm) (w1 : Int32) (w2 : Int32) : Option Int32 :=
  (f_X6_refusalOfList σ w1).bind fun x1 =>
  if x1 = 0 then
    (f_X3_hasPlace σ w1 w2).bind fun x2 =>
    if x2 = 0 then
      some (-2000000000 : Int32)
    else
      (f_X3_valueAt σ w1 w2).bind fun x3 =>
      some x3
  else
    some (-2000000000 : Int32)
set_option maxHeartbeats 4000000 in
set_option maxRecDepth 100000 in
theorem c_X6_get (l : Launch) (D : va_G) (cI cZ : ClassId) (a : Nat → Nat) (w1 : Int32) (w2 : Int32) : CTr l D [(cI, FieldType.int), (cZ, FieldType.boolean)] (xW cI a) yX6_get (.code yX6_get cX6_get 3 (some FieldType.int) :: wsL_law) ({ frames := 3, cells := 0, slots := 0, locals := 63 } : Room) [.ref (a 0), .int w1, .int w2] (fun σ => f_X6_get σ w1 w2) := by
  refine CTr.of (by decide +kernel) (Nat.le_of_ble_eq_true rfl) ?_
  intro σ r hm p e s m below meth c A ls H locs hx hb hr hlk hml hT hown hK hA B hl
  have hown : s.vm.findClass RX6 = some m.cls := hown
  have hl : lv_has ls 3 [(0, .ref (a 0)), (1, .int w1), (2, .int w2)] := hl
  have hm : f_X6_get σ w1 w2 = some r := hm
  unfold f_X6_get at hm
  refine lv_aload_n hx hb dX6_get_0 rfl (lv_at hl 0 rfl) ?_
  refine lv_iload_n hx hb dX6_get_1 rfl (lv_at hl 1 rfl) ?_
  refine x_callVr (rest := []) hx hb hml hT hown hK hA B hl.1 (c_X6_refusalOfList l D cI cZ a w1) mi_X6_refusalOfList mv_X6_refusalOfList xO_X rfl q712 ⟨rfl, rfl⟩ ⟨Nat.le_of_ble_eq_true rfl, Nat.le_of_ble_eq_true rfl⟩ rfl rfl (Nat.le_of_ble_eq_true rfl) dX6_get_2 hm (fun x1 H locs B hm => ?_)
  refine lv_if_ne (tgt := 20) hx hb dX6_get_5 (by decide) (fun q => ?_) (fun q => ?_)
  · have hm := iff hm q
    refine lv_ldcw (v := (-2000000000 : Int32)) hx hb hown (hT _ q729) dX6_get_20 ?_
    exact x_iretr hx hb hr hlk hK B dX6_get_23 hm
  · have hm := ift hm q
    refine lv_aload_n hx hb dX6_get_8 rfl (lv_at hl 0 rfl) ?_
    refine x_getv (T := TX6) (N := 8) hx hb hT hown hK B xV_X_shelf inlX6 rfl (by decide) q191 rfl dX6_get_9 ?_
    refine lv_iload_n hx hb dX6_get_12 rfl (lv_at hl 1 rfl) ?_
    refine lv_iload_n hx hb dX6_get_13 rfl (lv_at hl 2 rfl) ?_
    refine x_callVr (rest := []) hx hb hml hT hown hK hA B hl.1 (c_X3_hasPlace l D cI cZ a w1 w2) mi_X3_hasPlace mv_X3_hasPlace xO_shelf rfl q720 ⟨rfl, rfl⟩ ⟨Nat.le_of_ble_eq_true rfl, Nat.le_of_ble_eq_true rfl⟩ rfl rfl (Nat.le_of_ble_eq_true rfl) dX6_get_14 hm (fun x2 H locs B hm => ?_)
    refine lv_if_ne (tgt := 24) hx hb dX6_get_17 (by decide) (fun q => ?_) (fun q => ?_)
    · have hm := iff hm q
      refine lv_aload_n hx hb dX6_get_24 rfl (lv_at hl 0 rfl) ?_
      refine x_getv (T := TX6) (N := 8) hx hb hT hown hK B xV_X_shelf inlX6 rfl (by decide) q191 rfl dX6_get_25 ?_
      refine lv_iload_n hx hb dX6_get_28 rfl (lv_at hl 1 rfl) ?_
      refine lv_iload_n hx hb dX6_get_29 rfl (lv_at hl 2 rfl) ?_
      refine x_callVr (rest := []) hx hb hml hT hown hK hA B hl.1 (c_X3_valueAt l D cI cZ a w1 w2) mi_X3_valueAt mv_X3_valueAt xO_shelf rfl q730 ⟨rfl, rfl⟩ ⟨Nat.le_of_ble_eq_true rfl, Nat.le_of_ble_eq_true rfl⟩ rfl rfl (Nat.le_of_ble_eq_true rfl) dX6_get_30 hm (fun x3 H locs B hm => ?_)
      exact x_iretr hx hb hr hlk hK B dX6_get_33 hm
    · have hm := ift hm q
      refine lv_ldcw (v := (-2000000000 : Int32)) hx hb hown (hT _ q729) dX6_get_20 ?_
      exact x_iretr hx hb hr hlk hK B dX6_get_23 hm
def f_X6_lay_j75 (σ : Mm) : Option (Int32 × Mm) :=
  (some (σ 0 0)).bind fun x1 =>
  some (x1, σ)
def f_X6_lay_s15 (v1 : Int32) (v2 : Int32) (r15 : Mm → Int32 → Option (Int32 × Mm)) (σ : Mm) (v4 : Int32) : Option (Int32 × Mm) :=
  (some (σ 0 0)).bind fun x2 =>
  if x2 ≤ v4 then
    f_X6_lay_j75 σ
  else
    (f_X3_hasPlace σ v1 (v2 + v4)).bind fun x3 =>
    if x3 = 0 then
      some ((-13 : Int32), σ)
    else
      (f_X2_at 12 58 σ v4).bind fun x4 =>
      (f_X3_putAt σ v1 (v2 + v4) x4).bind fun σ =>
      r15 σ (v4 + (1 : Int32))
def f_X6_lay (σ : Mm) (w1 : Int32) (w2 : Int32) : Option (Int32 × Mm) :=
  (f_X6_refusalOfList σ w1).bind fun x5 =>
  if x5 = 0 then
    wh2 (f_X6_lay_s15 w1 w2) 5000 σ (0 : Int32)
  else
    some (x5, σ)
set_option maxHeartbeats 4000000 in
set_option maxRecDepth 100000 in
theorem c_X6_lay (l : Launch) (D : va_G) (cI cZ : ClassId) (a : Nat → Nat) (w1 : Int32) (w2 : Int32) : CTi l D [(cI, FieldType.int), (cZ, FieldType.boolean)] (xW cI a) yX6_lay (.code yX6_lay cX6_lay 5 (some FieldType.int) :: wsL_law) ({ frames := 3, cells := 0, slots := 0, locals := 63 } : Room) [.ref (a 0), .int w1, .int w2] (fun σ => f_X6_lay σ w1 w2) := by
  refine CTi.of (by decide +kernel) (Nat.le_of_ble_eq_true rfl) ?_
  intro σ out hm p e s m below meth c A ls H locs hx hb hr hlk hml hT hown hK hA B hl
  have hown : s.vm.findClass RX6 = some m.cls := hown
  have hl : lv_has ls 5 [(0, .ref (a 0)), (1, .int w1), (2, .int w2)] := hl
  have hm : f_X6_lay σ w1 w2 = some out := hm
  unfold f_X6_lay at hm
  have j75 : ∀ (σ : Mm)  (H : Heap) (locs : List Loc) (ls : Array Slot), BD D A s.heap ((xW cI a) σ) H locs → lv_has ls 5 [(0, .ref (a 0))] → f_X6_lay_j75 σ = some out → W p l e ({ frames := 3, cells := 0, slots := 0, locals := 63 } : Room) s m ([.ref (a 0), .int w1, .int w2] : List Value).toArray below meth c H locs 0 0 (MQ below (QI D [(cI, FieldType.int), (cZ, FieldType.boolean)] (xW cI a) A out) ([.ref (a 0), .int w1, .int w2] : List Value).toArray s 0 0 A) (F0 m 75 ls []) := by
    intro σ  H locs ls B hl hm
    unfold f_X6_lay_j75 at hm
    refine lv_aload_n hx hb dX6_lay_75 rfl (lv_at hl 0 rfl) ?_
    refine x_getv (T := TX6) (N := 8) hx hb hT hown hK B xV_X_book inlX6 rfl (by decide) q184 rfl dX6_lay_76 ?_
    refine x_getibN (T := TX0) (N := 12) hx hb hT hown hK B xI_book_players inlX0 rfl (by decide) q47 rfl dX6_lay_79 hm (fun x1 hm => ?_)
    exact x_iret hx hb hr hlk hK B dX6_lay_82 hm
  have L15 : ∀ (v1 : Int32) (v2 : Int32) (nn : Nat) (σ : Mm) (v4 : Int32), wh2 (f_X6_lay_s15 v1 v2) nn σ v4 = some out → ∀ (H : Heap) (locs : List Loc) (ls : Array Slot), BD D A s.heap ((xW cI a) σ) H locs → lv_has ls 5 [(0, .ref (a 0)), (1, .int v1), (2, .int v2), (4, .int v4)] → W p l e ({ frames := 3, cells := 0, slots := 0, locals := 63 } : Room) s m ([.ref (a 0), .int w1, .int w2] : List Value).toArray below meth c H locs 0 0 (MQ below (QI D [(cI, FieldType.int), (cZ, FieldType.boolean)] (xW cI a) A out) ([.ref (a 0), .int w1, .int w2] : List Value).toArray s 0 0 A) (F0 m 15 ls []) := by
    intro v1 v2
    refine loop2 (fun r15 ih15 σ v4 hm H locs ls B hl => ?_)
    unfold f_X6_lay_s15 at hm
    refine lv_iload hx hb dX6_lay_15 (lv_at hl 3 rfl) ?_
    refine lv_aload_n hx hb dX6_lay_17 rfl (lv_at hl 0 rfl) ?_
    refine x_getv (T := TX6) (N := 8) hx hb hT hown hK B xV_X_book inlX6 rfl (by decide) q184 rfl dX6_lay_18 ?_
    refine x_getibN (T := TX0) (N := 12) hx hb hT hown hK B xI_book_players inlX0 rfl (by decide) q47 rfl dX6_lay_21 hm (fun x2 hm => ?_)
    refine lv_icmp_ge (tgt := 75) hx hb dX6_lay_24 (by decide) (fun q => ?_) (fun q => ?_)
    · have hm := ift hm q
      exact j75 σ H locs ls B (lv_sub hl [0] rfl) hm
    · have hm := iff hm q
      refine lv_aload_n hx hb dX6_lay_27 rfl (lv_at hl 0 rfl) ?_
      refine x_getv (T := TX6) (N := 8) hx hb hT hown hK B xV_X_shelf inlX6 rfl (by decide) q191 rfl dX6_lay_28 ?_
      refine lv_iload_n hx hb dX6_lay_31 rfl (lv_at hl 1 rfl) ?_
      refine lv_iload_n hx hb dX6_lay_32 rfl (lv_at hl 2 rfl) ?_
      refine lv_iload hx hb dX6_lay_33 (lv_at hl 3 rfl) ?_
      refine lv_iadd hx hb dX6_lay_35 ?_
      refine x_callVr (rest := []) hx hb hml hT hown hK hA B hl.1 (c_X3_hasPlace l D cI cZ a v1 (v2 + v4)) mi_X3_hasPlace mv_X3_hasPlace xO_shelf rfl q720 ⟨rfl, rfl⟩ ⟨Nat.le_of_ble_eq_true rfl, Nat.le_of_ble_eq_true rfl⟩ rfl rfl (Nat.le_of_ble_eq_true rfl) dX6_lay_36 hm (fun x3 H locs B hm => ?_)
      refine lv_if_ne (tgt := 45) hx hb dX6_lay_39 (by decide) (fun q => ?_) (fun q => ?_)
      · have hm := iff hm q
        refine lv_aload_n hx hb dX6_lay_45 rfl (lv_at hl 0 rfl) ?_
        refine x_getv (T := TX6) (N := 8) hx hb hT hown hK B xV_X_shelf inlX6 rfl (by decide) q191 rfl dX6_lay_46 ?_
        refine lv_iload_n hx hb dX6_lay_49 rfl (lv_at hl 1 rfl) ?_
        refine lv_iload_n hx hb dX6_lay_50 rfl (lv_at hl 2 rfl) ?_
        refine lv_iload hx hb dX6_lay_51 (lv_at hl 3 rfl) ?_
        refine lv_iadd hx hb dX6_lay_53 ?_
        refine lv_aload_n hx hb dX6_lay_54 rfl (lv_at hl 0 rfl) ?_
        refine x_getv (T := TX6) (N := 8) hx hb hT hown hK B xV_X_table inlX6 rfl (by decide) q187 rfl dX6_lay_55 ?_
        refine x_getvN (T := TX4) (N := 10) hx hb hT hown hK B xV_table_standing inlX4 rfl (by decide) q120 rfl dX6_lay_58 ?_
        refine lv_iload hx hb dX6_lay_61 (lv_at hl 3 rfl) ?_
        refine x_callVr (rest := [.int (v2 + v4), .int v1, .ref (a 69)]) hx hb hml hT hown hK hA B hl.1 (c_X2_at l D cI cZ xV_table_standing_cells xA_table_standing v4) mi_X2_at mv_X2_at xO_table_standing rfl q317 ⟨rfl, rfl⟩ ⟨Nat.le_of_ble_eq_true rfl, Nat.le_of_ble_eq_true rfl⟩ rfl rfl (Nat.le_of_ble_eq_true rfl) dX6_lay_63 hm (fun x4 H locs B hm => ?_)
        refine x_callVv (rest := []) hx hb hml hT hown hK hA B hl.1 (c_X3_putAt l D cI cZ a v1 (v2 + v4) x4) mi_X3_putAt mv_X3_putAt xO_shelf rfl q724 ⟨rfl, rfl⟩ ⟨Nat.le_of_ble_eq_true rfl, Nat.le_of_ble_eq_true rfl⟩ rfl rfl (Nat.le_of_ble_eq_true rfl) dX6_lay_66 hm (fun σ H locs B hm => ?_)
        refine lv_iinc (v := (v4 + (1 : Int32))) (lv' := [(4, .int (v4 + (1 : Int32))), (0, .ref (a 0)), (1, .int v1), (2, .int v2)]) hx hb dX6_lay_69 hl (k := 3) rfl rfl (by decide) rfl (fun ls hl => ?_)
        refine lv_goto (tgt := 15) hx hb dX6_lay_72 (by decide) ?_
        exact ih15 σ (v4 + (1 : Int32)) hm H locs ls B (lv_sub hl [1, 2, 3, 0] rfl)
      · have hm := ift hm q
        refine lv_bipush (v := (-13 : Int32)) hx hb dX6_lay_42 (by decide) ?_
        exact x_iret hx hb hr hlk hK B dX6_lay_44 hm
  refine lv_aload_n hx hb dX6_lay_0 rfl (lv_at hl 0 rfl) ?_
  refine lv_iload_n hx hb dX6_lay_1 rfl (lv_at hl 1 rfl) ?_
  refine x_callVr (rest := []) hx hb hml hT hown hK hA B hl.1 (c_X6_refusalOfList l D cI cZ a w1) mi_X6_refusalOfList mv_X6_refusalOfList xO_X rfl q712 ⟨rfl, rfl⟩ ⟨Nat.le_of_ble_eq_true rfl, Nat.le_of_ble_eq_true rfl⟩ rfl rfl (Nat.le_of_ble_eq_true rfl) dX6_lay_2 hm (fun x5 H locs B hm => ?_)
  refine lv_istore_n (lv' := [(3, .int x5), (0, .ref (a 0)), (1, .int w1), (2, .int w2)]) hx hb dX6_lay_5 rfl hl (by decide) rfl (fun ls hl => ?_)
  refine lv_iload_n hx hb dX6_lay_6 rfl (lv_at hl 0 rfl) ?_
  refine lv_if_eq (tgt := 12) hx hb dX6_lay_7 (by decide) (fun q => ?_) (fun q => ?_)
  · have hm := ift hm q
    refine lv_iconst (v := (0 : Int32)) hx hb dX6_lay_12 (by decide) ?_
    refine lv_istore (lv' := [(4, .int (0 : Int32)), (3, .int x5), (0, .ref (a 0)), (1, .int w1), (2, .int w2)]) hx hb dX6_lay_13 hl (by decide) rfl (fun ls hl => ?_)
    exact L15 w1 w2 5000 σ (0 : Int32) hm H locs ls B (lv_sub hl [2, 3, 4, 0] rfl)
  · have hm := iff hm q
    refine lv_iload_n hx hb dX6_lay_10 rfl (lv_at hl 0 rfl) ?_
    exact x_iret hx hb hr hlk hK B dX6_lay_11 hm
def f_X6_judge_s15 (σ : Mm) (v1 : Int32) (v2 : Int32) (r15 : Int32 → Option Int32) (v4 : Int32) : Option Int32 :=
  if (σ 0 0) ≤ v4 then
    some (-5 : Int32)
  else
    (f_X3_hasPlace σ v1 (v2 + v4)).bind fun x1 =>
    if x1 = 0 then
      some ((100 : Int32) + v4)
    else
      (f_X3_valueAt σ v1 (v2 + v4)).bind fun x2 =>
      (f_X2_at 12 58 σ v4).bind fun x3 =>
      if x2 = x3 then
        r15 (v4 + (1 : Int32))
      else
        some v4
def f_X6_judge (σ : Mm) (w1 : Int32) (w2 : Int32) : Option Int32 :=
  (f_X6_refusalOfList σ w1).bind fun x4 =>
  if x4 = 0 then
    wh1 (f_X6_judge_s15 σ w1 w2) 5000 (0 : Int32)
  else
    some x4
set_option maxHeartbeats 4000000 in
set_option maxRecDepth 100000 in
theorem c_X6_judge (l : Launch) (D : va_G) (cI cZ : ClassId) (a : Nat → Nat) (w1 : Int32) (w2 : Int32) : CTr l D [(cI, FieldType.int), (cZ, FieldType.boolean)] (xW cI a) yX6_judge (.code yX6_judge cX6_judge 5 (some FieldType.int) :: wsL_law) ({ frames := 3, cells := 0, slots := 0, locals := 63 } : Room) [.ref (a 0), .int w1, .int w2] (fun σ => f_X6_judge σ w1 w2) := by
  refine CTr.of (by decide +kernel) (Nat.le_of_ble_eq_true rfl) ?_
  intro σ r hm p e s m below meth c A ls H locs hx hb hr hlk hml hT hown hK hA B hl
  have hown : s.vm.findClass RX6 = some m.cls := hown
  have hl : lv_has ls 5 [(0, .ref (a 0)), (1, .int w1), (2, .int w2)] := hl
  have hm : f_X6_judge σ w1 w2 = some r := hm
  unfold f_X6_judge at hm
  have L15 : ∀ (v1 : Int32) (v2 : Int32) (nn : Nat) (v4 : Int32), wh1 (f_X6_judge_s15 σ v1 v2) nn v4 = some r → ∀ (H : Heap) (locs : List Loc) (ls : Array Slot), BD D A s.heap ((xW cI a) σ) H locs → lv_has ls 5 [(0, .ref (a 0)), (1, .int v1), (2, .int v2), (4, .int v4)] → W p l e ({ frames := 3, cells := 0, slots := 0, locals := 63 } : Room) s m ([.ref (a 0), .int w1, .int w2] : List Value).toArray below meth c H locs 0 0 (MQ below (QI D [(cI, FieldType.int), (cZ, FieldType.boolean)] (xW cI a) A (r, σ)) ([.ref (a 0), .int w1, .int w2] : List Value).toArray s 0 0 A) (F0 m 15 ls []) := by
    intro v1 v2
    refine loop1 (fun r15 ih15 v4 hm H locs ls B hl => ?_)
    unfold f_X6_judge_s15 at hm
    refine lv_iload hx hb dX6_judge_15 (lv_at hl 3 rfl) ?_
    refine lv_aload_n hx hb dX6_judge_17 rfl (lv_at hl 0 rfl) ?_
    refine x_getv (T := TX6) (N := 8) hx hb hT hown hK B xV_X_book inlX6 rfl (by decide) q184 rfl dX6_judge_18 ?_
    refine x_getiN (T := TX0) (N := 12) hx hb hT hown hK B xI_book_players inlX0 rfl (by decide) q47 rfl dX6_judge_21 ?_
    refine lv_icmp_ge (tgt := 84) hx hb dX6_judge_24 (by decide) (fun q => ?_) (fun q => ?_)
    · have hm := ift hm q
      refine lv_bipush (v := (-5 : Int32)) hx hb dX6_judge_84 (by decide) ?_
      exact x_iretr hx hb hr hlk hK B dX6_judge_86 hm
    · have hm := iff hm q
      refine lv_aload_n hx hb dX6_judge_27 rfl (lv_at hl 0 rfl) ?_
      refine x_getv (T := TX6) (N := 8) hx hb hT hown hK B xV_X_shelf inlX6 rfl (by decide) q191 rfl dX6_judge_28 ?_
      refine lv_iload_n hx hb dX6_judge_31 rfl (lv_at hl 1 rfl) ?_
      refine lv_iload_n hx hb dX6_judge_32 rfl (lv_at hl 2 rfl) ?_
      refine lv_iload hx hb dX6_judge_33 (lv_at hl 3 rfl) ?_
      refine lv_iadd hx hb dX6_judge_35 ?_
      refine x_callVr (rest := []) hx hb hml hT hown hK hA B hl.1 (c_X3_hasPlace l D cI cZ a v1 (v2 + v4)) mi_X3_hasPlace mv_X3_hasPlace xO_shelf rfl q720 ⟨rfl, rfl⟩ ⟨Nat.le_of_ble_eq_true rfl, Nat.le_of_ble_eq_true rfl⟩ rfl rfl (Nat.le_of_ble_eq_true rfl) dX6_judge_36 hm (fun x1 H locs B hm => ?_)
      refine lv_if_ne (tgt := 48) hx hb dX6_judge_39 (by decide) (fun q => ?_) (fun q => ?_)
      · have hm := iff hm q
        refine lv_aload_n hx hb dX6_judge_48 rfl (lv_at hl 0 rfl) ?_
        refine x_getv (T := TX6) (N := 8) hx hb hT hown hK B xV_X_shelf inlX6 rfl (by decide) q191 rfl dX6_judge_49 ?_
        refine lv_iload_n hx hb dX6_judge_52 rfl (lv_at hl 1 rfl) ?_
        refine lv_iload_n hx hb dX6_judge_53 rfl (lv_at hl 2 rfl) ?_
        refine lv_iload hx hb dX6_judge_54 (lv_at hl 3 rfl) ?_
        refine lv_iadd hx hb dX6_judge_56 ?_
        refine x_callVr (rest := []) hx hb hml hT hown hK hA B hl.1 (c_X3_valueAt l D cI cZ a v1 (v2 + v4)) mi_X3_valueAt mv_X3_valueAt xO_shelf rfl q730 ⟨rfl, rfl⟩ ⟨Nat.le_of_ble_eq_true rfl, Nat.le_of_ble_eq_true rfl⟩ rfl rfl (Nat.le_of_ble_eq_true rfl) dX6_judge_57 hm (fun x2 H locs B hm => ?_)
        refine lv_aload_n hx hb dX6_judge_60 rfl (lv_at hl 0 rfl) ?_
        refine x_getv (T := TX6) (N := 8) hx hb hT hown hK B xV_X_table inlX6 rfl (by decide) q187 rfl dX6_judge_61 ?_
        refine x_getvN (T := TX4) (N := 10) hx hb hT hown hK B xV_table_standing inlX4 rfl (by decide) q120 rfl dX6_judge_64 ?_
        refine lv_iload hx hb dX6_judge_67 (lv_at hl 3 rfl) ?_
        refine x_callVr (rest := [.int x2]) hx hb hml hT hown hK hA B hl.1 (c_X2_at l D cI cZ xV_table_standing_cells xA_table_standing v4) mi_X2_at mv_X2_at xO_table_standing rfl q317 ⟨rfl, rfl⟩ ⟨Nat.le_of_ble_eq_true rfl, Nat.le_of_ble_eq_true rfl⟩ rfl rfl (Nat.le_of_ble_eq_true rfl) dX6_judge_69 hm (fun x3 H locs B hm => ?_)
        refine lv_icmp_eq (tgt := 78) hx hb dX6_judge_72 (by decide) (fun q => ?_) (fun q => ?_)
        · have hm := ift hm q
          refine lv_iinc (v := (v4 + (1 : Int32))) (lv' := [(4, .int (v4 + (1 : Int32))), (0, .ref (a 0)), (1, .int v1), (2, .int v2)]) hx hb dX6_judge_78 hl (k := 3) rfl rfl (by decide) rfl (fun ls hl => ?_)
          refine lv_goto (tgt := 15) hx hb dX6_judge_81 (by decide) ?_
          exact ih15 (v4 + (1 : Int32)) hm H locs ls B (lv_sub hl [1, 2, 3, 0] rfl)
        · have hm := iff hm q
          refine lv_iload hx hb dX6_judge_75 (lv_at hl 3 rfl) ?_
          exact x_iretr hx hb hr hlk hK B dX6_judge_77 hm
      · have hm := ift hm q
        refine lv_bipush (v := (100 : Int32)) hx hb dX6_judge_42 (by decide) ?_
        refine lv_iload hx hb dX6_judge_44 (lv_at hl 3 rfl) ?_
        refine lv_iadd hx hb dX6_judge_46 ?_
        exact x_iretr hx hb hr hlk hK B dX6_judge_47 hm
  refine lv_aload_n hx hb dX6_judge_0 rfl (lv_at hl 0 rfl) ?_
  refine lv_iload_n hx hb dX6_judge_1 rfl (lv_at hl 1 rfl) ?_
  refine x_callVr (rest := []) hx hb hml hT hown hK hA B hl.1 (c_X6_refusalOfList l D cI cZ a w1) mi_X6_refusalOfList mv_X6_refusalOfList xO_X rfl q712 ⟨rfl, rfl⟩ ⟨Nat.le_of_ble_eq_true rfl, Nat.le_of_ble_eq_true rfl⟩ rfl rfl (Nat.le_of_ble_eq_true rfl) dX6_judge_2 hm (fun x4 H locs B hm => ?_)
  refine lv_istore_n (lv' := [(3, .int x4), (0, .ref (a 0)), (1, .int w1), (2, .int w2)]) hx hb dX6_judge_5 rfl hl (by decide) rfl (fun ls hl => ?_)
  refine lv_iload_n hx hb dX6_judge_6 rfl (lv_at hl 0 rfl) ?_
  refine lv_if_eq (tgt := 12) hx hb dX6_judge_7 (by decide) (fun q => ?_) (fun q => ?_)
  · have hm := ift hm q
    refine lv_iconst (v := (0 : Int32)) hx hb dX6_judge_12 (by decide) ?_
    refine lv_istore (lv' := [(4, .int (0 : Int32)), (3, .int x4), (0, .ref (a 0)), (1, .int w1), (2, .int w2)]) hx hb dX6_judge_13 hl (by decide) rfl (fun ls hl => ?_)
    exact L15 w1 w2 5000 (0 : Int32) hm H locs ls B (lv_sub hl [2, 3, 4, 0] rfl)
  · have hm := iff hm q
    refine lv_iload_n hx hb dX6_judge_10 rfl (lv_at hl 0 rfl) ?_
    exact x_iretr hx hb hr hlk hK B dX6_judge_11 hm
