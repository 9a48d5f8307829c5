def f_X1_seatOfBye_j56 (σ : Mm) : Option Int32 :=
  some ((σ 61 0) - (1 : Int32))
def f_X1_seatOfBye_s7 (σ : Mm) (r7 : Int32 → Option Int32) (v1 : Int32) : Option Int32 :=
  if v1 < 0 then
    f_X1_seatOfBye_j56 σ
  else
    (f_X2_at 12 60 σ v1).bind fun x1 =>
    (f_X2_at 12 54 σ x1).bind fun x2 =>
    if x2 = 0 then
      (f_X2_at 12 55 σ x1).bind fun x3 =>
      if x3 = 0 then
        some v1
      else
        r7 (v1 + (-1 : Int32))
    else
      r7 (v1 + (-1 : Int32))
def f_X1_seatOfBye (σ : Mm) : Option Int32 :=
  wh1 (f_X1_seatOfBye_s7 σ) 5000 ((σ 61 0) - (1 : Int32))
set_option maxHeartbeats 4000000 in
set_option maxRecDepth 100000 in
theorem c_X1_seatOfBye (l : Launch) (D : va_G) (cI cZ : ClassId) (a : Nat → Nat) : CTr l D [(cI, FieldType.int), (cZ, FieldType.boolean)] (xW cI a) yX1_seatOfBye (.code yX1_seatOfBye cX1_seatOfBye 3 (some FieldType.int) :: wsL_law) ({ frames := 1, cells := 0, slots := 0, locals := 21 } : Room) [.ref (a 54)] (fun σ => f_X1_seatOfBye σ) := by
  refine CTr.of (by decide +kernel) (Nat.le_of_ble_eq_true rfl) ?_
  intro σ r hm p e s m below meth c A ls H locs hx hb hr hlk hml hT hown hK hA B hl
  have hown : s.vm.findClass RX1 = some m.cls := hown
  have hl : lv_has ls 3 [(0, .ref (a 54))] := hl
  have hm : f_X1_seatOfBye σ = some r := hm
  unfold f_X1_seatOfBye at hm
  have j56 : ∀  (H : Heap) (locs : List Loc) (ls : Array Slot), BD D A s.heap ((xW cI a) σ) H locs → lv_has ls 3 [(0, .ref (a 54))] → f_X1_seatOfBye_j56 σ = some r → W p l e ({ frames := 1, cells := 0, slots := 0, locals := 21 } : Room) s m ([.ref (a 54)] : List Value).toArray below meth c H locs 0 0 (MQ below (QI D [(cI, FieldType.int), (cZ, FieldType.boolean)] (xW cI a) A (r, σ)) ([.ref (a 54)] : List Value).toArray s 0 0 A) (F0 m 56 ls []) := by
    intro  H locs ls B hl hm
    unfold f_X1_seatOfBye_j56 at hm
    refine lv_aload_n hx hb dX1_seatOfBye_56 rfl (lv_at hl 0 rfl) ?_
    refine x_geti (T := TX1) (N := 8) hx hb hT hown hK B xI_pairing_count inlX1 rfl (by decide) q142 rfl dX1_seatOfBye_57 ?_
    refine lv_iconst (v := (1 : Int32)) hx hb dX1_seatOfBye_60 (by decide) ?_
    refine lv_isub hx hb dX1_seatOfBye_61 ?_
    exact x_iretr hx hb hr hlk hK B dX1_seatOfBye_62 hm
  have L7 : ∀ (nn : Nat) (v1 : Int32), wh1 (f_X1_seatOfBye_s7 σ) nn v1 = some r → ∀ (H : Heap) (locs : List Loc) (ls : Array Slot), BD D A s.heap ((xW cI a) σ) H locs → lv_has ls 3 [(0, .ref (a 54)), (1, .int v1)] → W p l e ({ frames := 1, cells := 0, slots := 0, locals := 21 } : Room) s m ([.ref (a 54)] : List Value).toArray below meth c H locs 0 0 (MQ below (QI D [(cI, FieldType.int), (cZ, FieldType.boolean)] (xW cI a) A (r, σ)) ([.ref (a 54)] : List Value).toArray s 0 0 A) (F0 m 7 ls []) := by
    refine loop1 (fun r7 ih7 v1 hm H locs ls B hl => ?_)
    unfold f_X1_seatOfBye_s7 at hm
    refine lv_iload_n hx hb dX1_seatOfBye_7 rfl (lv_at hl 1 rfl) ?_
    refine lv_if_lt (tgt := 56) hx hb dX1_seatOfBye_8 (by decide) (fun q => ?_) (fun q => ?_)
    · have hm := ift hm q
      exact j56  H locs ls B (lv_sub hl [0] rfl) hm
    · have hm := iff hm q
      refine lv_aload_n hx hb dX1_seatOfBye_11 rfl (lv_at hl 0 rfl) ?_
      refine x_getv (T := TX1) (N := 8) hx hb hT hown hK B xV_pairing_seats inlX1 rfl (by decide) q141 rfl dX1_seatOfBye_12 ?_
      refine lv_iload_n hx hb dX1_seatOfBye_15 rfl (lv_at hl 1 rfl) ?_
      refine x_callVr (rest := []) hx hb hml hT hown hK hA B hl.1 (c_X2_at l D cI cZ xV_pairing_seats_cells xA_pairing_seats v1) mi_X2_at mv_X2_at xO_pairing_seats rfl q407 ⟨rfl, rfl⟩ ⟨Nat.le_of_ble_eq_true rfl, Nat.le_of_ble_eq_true rfl⟩ rfl rfl (Nat.le_of_ble_eq_true rfl) dX1_seatOfBye_16 hm (fun x1 H locs B hm => ?_)
      refine lv_istore_n (lv' := [(2, .int x1), (0, .ref (a 54)), (1, .int v1)]) hx hb dX1_seatOfBye_19 rfl hl (by decide) rfl (fun ls hl => ?_)
      refine lv_aload_n hx hb dX1_seatOfBye_20 rfl (lv_at hl 1 rfl) ?_
      refine x_getv (T := TX1) (N := 8) hx hb hT hown hK B xV_pairing_table inlX1 rfl (by decide) q140 rfl dX1_seatOfBye_21 ?_
      refine x_getvN (T := TX4) (N := 10) hx hb hT hown hK B xV_table_byes inlX4 rfl (by decide) q112 rfl dX1_seatOfBye_24 ?_
      refine lv_iload_n hx hb dX1_seatOfBye_27 rfl (lv_at hl 0 rfl) ?_
      refine x_callVr (rest := []) hx hb hml hT hown hK hA B hl.1 (c_X2_at l D cI cZ xV_table_byes_cells xA_table_byes x1) mi_X2_at mv_X2_at xO_table_byes rfl q407 ⟨rfl, rfl⟩ ⟨Nat.le_of_ble_eq_true rfl, Nat.le_of_ble_eq_true rfl⟩ rfl rfl (Nat.le_of_ble_eq_true rfl) dX1_seatOfBye_28 hm (fun x2 H locs B hm => ?_)
      refine lv_if_ne (tgt := 50) hx hb dX1_seatOfBye_31 (by decide) (fun q => ?_) (fun q => ?_)
      · have hm := iff hm q
        refine lv_iinc (v := (v1 + (-1 : Int32))) (lv' := [(1, .int (v1 + (-1 : Int32))), (2, .int x1), (0, .ref (a 54))]) hx hb dX1_seatOfBye_50 hl (k := 2) rfl rfl (by decide) rfl (fun ls hl => ?_)
        refine lv_goto (tgt := 7) hx hb dX1_seatOfBye_53 (by decide) ?_
        exact ih7 (v1 + (-1 : Int32)) hm H locs ls B (lv_sub hl [2, 0] rfl)
      · have hm := ift hm q
        refine lv_aload_n hx hb dX1_seatOfBye_34 rfl (lv_at hl 1 rfl) ?_
        refine x_getv (T := TX1) (N := 8) hx hb hT hown hK B xV_pairing_table inlX1 rfl (by decide) q140 rfl dX1_seatOfBye_35 ?_
        refine x_getvN (T := TX4) (N := 10) hx hb hT hown hK B xV_table_forfeits inlX4 rfl (by decide) q115 rfl dX1_seatOfBye_38 ?_
        refine lv_iload_n hx hb dX1_seatOfBye_41 rfl (lv_at hl 0 rfl) ?_
        refine x_callVr (rest := []) hx hb hml hT hown hK hA B hl.1 (c_X2_at l D cI cZ xV_table_forfeits_cells xA_table_forfeits x1) mi_X2_at mv_X2_at xO_table_forfeits rfl q407 ⟨rfl, rfl⟩ ⟨Nat.le_of_ble_eq_true rfl, Nat.le_of_ble_eq_true rfl⟩ rfl rfl (Nat.le_of_ble_eq_true rfl) dX1_seatOfBye_42 hm (fun x3 H locs B hm => ?_)
        refine lv_if_ne (tgt := 50) hx hb dX1_seatOfBye_45 (by decide) (fun q => ?_) (fun q => ?_)
        · have hm := iff hm q
          refine lv_iinc (v := (v1 + (-1 : Int32))) (lv' := [(1, .int (v1 + (-1 : Int32))), (2, .int x1), (0, .ref (a 54))]) hx hb dX1_seatOfBye_50 hl (k := 2) rfl rfl (by decide) rfl (fun ls hl => ?_)
          refine lv_goto (tgt := 7) hx hb dX1_seatOfBye_53 (by decide) ?_
          exact ih7 (v1 + (-1 : Int32)) hm H locs ls B (lv_sub hl [2, 0] rfl)
        · have hm := ift hm q
          refine lv_iload_n hx hb dX1_seatOfBye_48 rfl (lv_at hl 2 rfl) ?_
          exact x_iretr hx hb hr hlk hK B dX1_seatOfBye_49 hm
  refine lv_aload_n hx hb dX1_seatOfBye_0 rfl (lv_at hl 0 rfl) ?_
  refine x_geti (T := TX1) (N := 8) hx hb hT hown hK B xI_pairing_count inlX1 rfl (by decide) q142 rfl dX1_seatOfBye_1 ?_
  refine lv_iconst (v := (1 : Int32)) hx hb dX1_seatOfBye_4 (by decide) ?_
  refine lv_isub hx hb dX1_seatOfBye_5 ?_
  refine lv_istore_n (lv' := [(1, .int ((σ 61 0) - (1 : Int32))), (0, .ref (a 54))]) hx hb dX1_seatOfBye_6 rfl hl (by decide) rfl (fun ls hl => ?_)
  exact L7 5000 ((σ 61 0) - (1 : Int32)) hm H locs ls B (lv_sub hl [1, 0] rfl)
def f_X1_giveBye_s45 (r45 : Mm → Int32 → Option Mm) (σ : Mm) (v2 : Int32) : Option Mm :=
  (some (σ 61 0)).bind fun x1 =>
  if x1 ≤ v2 then
    some σ
  else
    (f_X2_at 12 60 σ (v2 + (1 : Int32))).bind fun x2 =>
    (f_X2_put 12 60 σ v2 x2).bind fun σ =>
    r45 σ (v2 + (1 : Int32))
def f_X1_giveBye (σ : Mm) : Option Mm :=
  (some (sc σ 62 (-5 : Int32))).bind fun σ =>
  (some (σ 61 0)).bind fun x3 =>
  (nz (2 : Int32) (x3 - x3 / (2 : Int32) * (2 : Int32))).bind fun x4 =>
  if x4 = 0 then
    some σ
  else
    (f_X1_seatOfBye σ).bind fun x5 =>
    (f_X2_at 12 60 σ x5).bind fun x6 =>
    (some (sc σ 62 x6)).bind fun σ =>
    (some (σ 61 0)).bind fun x7 =>
    (some (sc σ 61 (x7 - (1 : Int32)))).bind fun σ =>
    wh2 (f_X1_giveBye_s45) 5000 σ x5
set_option maxHeartbeats 4000000 in
set_option maxRecDepth 100000 in
theorem c_X1_giveBye (l : Launch) (D : va_G) (cI cZ : ClassId) (a : Nat → Nat) : CTv l D [(cI, FieldType.int), (cZ, FieldType.boolean)] (xW cI a) yX1_giveBye (.code yX1_giveBye cX1_giveBye 3 (none : Option FieldType) :: wsL_law) ({ frames := 2, cells := 0, slots := 0, locals := 43 } : Room) [.ref (a 54)] (fun σ => f_X1_giveBye σ) := by
  refine CTv.of (by decide +kernel) (Nat.le_of_ble_eq_true rfl) ?_
  intro σ out hm p e s m below meth c A ls H locs hx hb hr hlk hml hT hown hK hA B hl
  have hown : s.vm.findClass RX1 = some m.cls := hown
  have hl : lv_has ls 3 [(0, .ref (a 54))] := hl
  have hm : f_X1_giveBye σ = some out := hm
  unfold f_X1_giveBye at hm
  have L45 : ∀ (nn : Nat) (σ : Mm) (v2 : Int32), wh2 f_X1_giveBye_s45 nn σ v2 = some out → ∀ (H : Heap) (locs : List Loc) (ls : Array Slot), BD D A s.heap ((xW cI a) σ) H locs → lv_has ls 3 [(0, .ref (a 54)), (2, .int v2)] → W p l e ({ frames := 2, cells := 0, slots := 0, locals := 43 } : Room) s m ([.ref (a 54)] : List Value).toArray below meth c H locs 0 0 (MQ below (QV D [(cI, FieldType.int), (cZ, FieldType.boolean)] (xW cI a) A out) ([.ref (a 54)] : List Value).toArray s 0 0 A) (F0 m 45 ls []) := by
    refine loop2 (fun r45 ih45 σ v2 hm H locs ls B hl => ?_)
    unfold f_X1_giveBye_s45 at hm
    refine lv_iload_n hx hb dX1_giveBye_45 rfl (lv_at hl 1 rfl) ?_
    refine lv_aload_n hx hb dX1_giveBye_46 rfl (lv_at hl 0 rfl) ?_
    refine x_getib (T := TX1) (N := 8) hx hb hT hown hK B xI_pairing_count inlX1 rfl (by decide) q142 rfl dX1_giveBye_47 hm (fun x1 hm => ?_)
    refine lv_icmp_ge (tgt := 77) hx hb dX1_giveBye_50 (by decide) (fun q => ?_) (fun q => ?_)
    · have hm := ift hm q
      exact x_vret hx hb hr hlk hK B dX1_giveBye_77 hm
    · have hm := iff hm q
      refine lv_aload_n hx hb dX1_giveBye_53 rfl (lv_at hl 0 rfl) ?_
      refine x_getv (T := TX1) (N := 8) hx hb hT hown hK B xV_pairing_seats inlX1 rfl (by decide) q141 rfl dX1_giveBye_54 ?_
      refine lv_iload_n hx hb dX1_giveBye_57 rfl (lv_at hl 1 rfl) ?_
      refine lv_aload_n hx hb dX1_giveBye_58 rfl (lv_at hl 0 rfl) ?_
      refine x_getv (T := TX1) (N := 8) hx hb hT hown hK B xV_pairing_seats inlX1 rfl (by decide) q141 rfl dX1_giveBye_59 ?_
      refine lv_iload_n hx hb dX1_giveBye_62 rfl (lv_at hl 1 rfl) ?_
      refine lv_iconst (v := (1 : Int32)) hx hb dX1_giveBye_63 (by decide) ?_
      refine lv_iadd hx hb dX1_giveBye_64 ?_
      refine x_callVr (rest := [.int v2, .ref (a 55)]) hx hb hml hT hown hK hA B hl.1 (c_X2_at l D cI cZ xV_pairing_seats_cells xA_pairing_seats (v2 + (1 : Int32))) mi_X2_at mv_X2_at xO_pairing_seats rfl q407 ⟨rfl, rfl⟩ ⟨Nat.le_of_ble_eq_true rfl, Nat.le_of_ble_eq_true rfl⟩ rfl rfl (Nat.le_of_ble_eq_true rfl) dX1_giveBye_65 hm (fun x2 H locs B hm => ?_)
      refine x_callVv (rest := []) hx hb hml hT hown hK hA B hl.1 (c_X2_put l D cI cZ xV_pairing_seats_cells xA_pairing_seats v2 x2) mi_X2_put mv_X2_put xO_pairing_seats rfl q408 ⟨rfl, rfl⟩ ⟨Nat.le_of_ble_eq_true rfl, Nat.le_of_ble_eq_true rfl⟩ rfl rfl (Nat.le_of_ble_eq_true rfl) dX1_giveBye_68 hm (fun σ H locs B hm => ?_)
      refine lv_iinc (v := (v2 + (1 : Int32))) (lv' := [(2, .int (v2 + (1 : Int32))), (0, .ref (a 54))]) hx hb dX1_giveBye_71 hl (k := 1) rfl rfl (by decide) rfl (fun ls hl => ?_)
      refine lv_goto (tgt := 45) hx hb dX1_giveBye_74 (by decide) ?_
      exact ih45 σ (v2 + (1 : Int32)) hm H locs ls B (lv_sub hl [1, 0] rfl)
  refine lv_aload_n hx hb dX1_giveBye_0 rfl (lv_at hl 0 rfl) ?_
  refine lv_bipush (v := (-5 : Int32)) hx hb dX1_giveBye_1 (by decide) ?_
  refine x_puti (T := TX1) (N := 8) hx hb hT hown hK B xI_pairing_resting inlX1 tyX1_ok nmX1 rfl (by decide) q143 rfl rfl rfl rfl rfl dX1_giveBye_3 hm (fun σ H locs B hm => ?_)
  refine lv_aload_n hx hb dX1_giveBye_6 rfl (lv_at hl 0 rfl) ?_
  refine x_getib (T := TX1) (N := 8) hx hb hT hown hK B xI_pairing_count inlX1 rfl (by decide) q142 rfl dX1_giveBye_7 hm (fun x3 hm => ?_)
  refine lv_iconst (v := (2 : Int32)) hx hb dX1_giveBye_10 (by decide) ?_
  refine x_irem hx hb dX1_giveBye_11 hm (fun x4 hm => ?_)
  refine lv_if_ne (tgt := 16) hx hb dX1_giveBye_12 (by decide) (fun q => ?_) (fun q => ?_)
  · have hm := iff hm q
    refine lv_aload_n hx hb dX1_giveBye_16 rfl (lv_at hl 0 rfl) ?_
    refine x_callVr (rest := []) hx hb hml hT hown hK hA B hl.1 (c_X1_seatOfBye l D cI cZ a) mi_X1_seatOfBye mv_X1_seatOfBye xO_pairing rfl q412 ⟨rfl, rfl⟩ ⟨Nat.le_of_ble_eq_true rfl, Nat.le_of_ble_eq_true rfl⟩ rfl rfl (Nat.le_of_ble_eq_true rfl) dX1_giveBye_17 hm (fun x5 H locs B hm => ?_)
    refine lv_istore_n (lv' := [(1, .int x5), (0, .ref (a 54))]) hx hb dX1_giveBye_20 rfl hl (by decide) rfl (fun ls hl => ?_)
    refine lv_aload_n hx hb dX1_giveBye_21 rfl (lv_at hl 1 rfl) ?_
    refine lv_aload_n hx hb dX1_giveBye_22 rfl (lv_at hl 1 rfl) ?_
    refine x_getv (T := TX1) (N := 8) hx hb hT hown hK B xV_pairing_seats inlX1 rfl (by decide) q141 rfl dX1_giveBye_23 ?_
    refine lv_iload_n hx hb dX1_giveBye_26 rfl (lv_at hl 0 rfl) ?_
    refine x_callVr (rest := [.ref (a 54)]) hx hb hml hT hown hK hA B hl.1 (c_X2_at l D cI cZ xV_pairing_seats_cells xA_pairing_seats x5) mi_X2_at mv_X2_at xO_pairing_seats rfl q407 ⟨rfl, rfl⟩ ⟨Nat.le_of_ble_eq_true rfl, Nat.le_of_ble_eq_true rfl⟩ rfl rfl (Nat.le_of_ble_eq_true rfl) dX1_giveBye_27 hm (fun x6 H locs B hm => ?_)
    refine x_puti (T := TX1) (N := 8) hx hb hT hown hK B xI_pairing_resting inlX1 tyX1_ok nmX1 rfl (by decide) q143 rfl rfl rfl rfl rfl dX1_giveBye_30 hm (fun σ H locs B hm => ?_)
    refine lv_aload_n hx hb dX1_giveBye_33 rfl (lv_at hl 1 rfl) ?_
    refine lv_dup hx hb dX1_giveBye_34 rfl ?_
    refine x_getib (T := TX1) (N := 8) hx hb hT hown hK B xI_pairing_count inlX1 rfl (by decide) q142 rfl dX1_giveBye_35 hm (fun x7 hm => ?_)
    refine lv_iconst (v := (1 : Int32)) hx hb dX1_giveBye_38 (by decide) ?_
    refine lv_isub hx hb dX1_giveBye_39 ?_
    refine x_puti (T := TX1) (N := 8) hx hb hT hown hK B xI_pairing_count inlX1 tyX1_ok nmX1 rfl (by decide) q142 rfl rfl rfl rfl rfl dX1_giveBye_40 hm (fun σ H locs B hm => ?_)
    refine lv_iload_n hx hb dX1_giveBye_43 rfl (lv_at hl 0 rfl) ?_
    refine lv_istore_n (lv' := [(2, .int x5), (1, .int x5), (0, .ref (a 54))]) hx hb dX1_giveBye_44 rfl hl (by decide) rfl (fun ls hl => ?_)
    exact L45 5000 σ x5 hm H locs ls B (lv_sub hl [2, 0] rfl)
  · have hm := ift hm q
    exact x_vret hx hb hr hlk hK B dX1_giveBye_15 hm
def f_X1_noteCosts_s14 (r2 : Mm → Int32 → Option Mm) (v1 : Int32) (r14 : Mm → Int32 → Option Mm) (σ : Mm) (v2 : Int32) : Option Mm :=
  (some (σ 61 0)).bind fun x1 =>
  if x1 ≤ v2 then
    r2 σ (v1 + (1 : Int32))
  else
    (f_X2_at 12 60 σ v1).bind fun x2 =>
    (f_X2_at 12 60 σ v2).bind fun x3 =>
    (f_X4_costOf σ x2 x3).bind fun x4 =>
    (f_X2_put 144 63 σ ((v1 * (12 : Int32)) + v2) x4).bind fun σ =>
    r14 σ (v2 + (1 : Int32))
def f_X1_noteCosts_s2 (r2 : Mm → Int32 → Option Mm) (σ : Mm) (v1 : Int32) : Option Mm :=
  (some (σ 61 0)).bind fun x5 =>
  if x5 ≤ v1 then
    some σ
  else
    wh2 (f_X1_noteCosts_s14 r2 v1) 5000 σ (v1 + (1 : Int32))
def f_X1_noteCosts (σ : Mm) : Option Mm :=
  wh2 (f_X1_noteCosts_s2) 5000 σ (0 : Int32)
set_option maxHeartbeats 4000000 in
set_option maxRecDepth 100000 in
theorem c_X1_noteCosts (l : Launch) (D : va_G) (cI cZ : ClassId) (a : Nat → Nat) : CTv l D [(cI, FieldType.int), (cZ, FieldType.boolean)] (xW cI a) yX1_noteCosts (.code yX1_noteCosts cX1_noteCosts 3 (none : Option FieldType) :: wsL_law) ({ frames := 4, cells := 0, slots := 0, locals := 88 } : Room) [.ref (a 54)] (fun σ => f_X1_noteCosts σ) := by
  refine CTv.of (by decide +kernel) (Nat.le_of_ble_eq_true rfl) ?_
  intro σ out hm p e s m below meth c A ls H locs hx hb hr hlk hml hT hown hK hA B hl
  have hown : s.vm.findClass RX1 = some m.cls := hown
  have hl : lv_has ls 3 [(0, .ref (a 54))] := hl
  have hm : f_X1_noteCosts σ = some out := hm
  unfold f_X1_noteCosts at hm
  have L2 : ∀ (nn : Nat) (σ : Mm) (v1 : Int32), wh2 f_X1_noteCosts_s2 nn σ v1 = some out → ∀ (H : Heap) (locs : List Loc) (ls : Array Slot), BD D A s.heap ((xW cI a) σ) H locs → lv_has ls 3 [(0, .ref (a 54)), (1, .int v1)] → W p l e ({ frames := 4, cells := 0, slots := 0, locals := 88 } : Room) s m ([.ref (a 54)] : List Value).toArray below meth c H locs 0 0 (MQ below (QV D [(cI, FieldType.int), (cZ, FieldType.boolean)] (xW cI a) A out) ([.ref (a 54)] : List Value).toArray s 0 0 A) (F0 m 2 ls []) := by
    refine loop2 (fun r2 ih2 σ v1 hm H locs ls B hl => ?_)
    unfold f_X1_noteCosts_s2 at hm
    have L14 : ∀ (v1 : Int32) (nn : Nat) (σ : Mm) (v2 : Int32), wh2 (f_X1_noteCosts_s14 r2 v1) nn σ v2 = some out → ∀ (H : Heap) (locs : List Loc) (ls : Array Slot), BD D A s.heap ((xW cI a) σ) H locs → lv_has ls 3 [(0, .ref (a 54)), (1, .int v1), (2, .int v2)] → W p l e ({ frames := 4, cells := 0, slots := 0, locals := 88 } : Room) s m ([.ref (a 54)] : List Value).toArray below meth c H locs 0 0 (MQ below (QV D [(cI, FieldType.int), (cZ, FieldType.boolean)] (xW cI a) A out) ([.ref (a 54)] : List Value).toArray s 0 0 A) (F0 m 14 ls []) := by
      intro v1
      refine loop2 (fun r14 ih14 σ v2 hm H locs ls B hl => ?_)
      unfold f_X1_noteCosts_s14 at hm
      refine lv_iload_n hx hb dX1_noteCosts_14 rfl (lv_at hl 2 rfl) ?_
      refine lv_aload_n hx hb dX1_noteCosts_15 rfl (lv_at hl 0 rfl) ?_
      refine x_getib (T := TX1) (N := 8) hx hb hT hown hK B xI_pairing_count inlX1 rfl (by decide) q142 rfl dX1_noteCosts_16 hm (fun x1 hm => ?_)
      refine lv_icmp_ge (tgt := 64) hx hb dX1_noteCosts_19 (by decide) (fun q => ?_) (fun q => ?_)
      · have hm := ift hm q
        refine lv_iinc (v := (v1 + (1 : Int32))) (lv' := [(1, .int (v1 + (1 : Int32))), (0, .ref (a 54)), (2, .int v2)]) hx hb dX1_noteCosts_64 hl (k := 1) rfl rfl (by decide) rfl (fun ls hl => ?_)
        refine lv_goto (tgt := 2) hx hb dX1_noteCosts_67 (by decide) ?_
        exact ih2 σ (v1 + (1 : Int32)) hm H locs ls B (lv_sub hl [1, 0] rfl)
      · have hm := iff hm q
        refine lv_aload_n hx hb dX1_noteCosts_22 rfl (lv_at hl 0 rfl) ?_
        refine x_getv (T := TX1) (N := 8) hx hb hT hown hK B xV_pairing_costs inlX1 rfl (by decide) q144 rfl dX1_noteCosts_23 ?_
        refine lv_iload_n hx hb dX1_noteCosts_26 rfl (lv_at hl 1 rfl) ?_
        refine lv_bipush (v := (12 : Int32)) hx hb dX1_noteCosts_27 (by decide) ?_
        refine lv_imul hx hb dX1_noteCosts_29 ?_
        refine lv_iload_n hx hb dX1_noteCosts_30 rfl (lv_at hl 2 rfl) ?_
        refine lv_iadd hx hb dX1_noteCosts_31 ?_
        refine lv_aload_n hx hb dX1_noteCosts_32 rfl (lv_at hl 0 rfl) ?_
        refine x_getv (T := TX1) (N := 8) hx hb hT hown hK B xV_pairing_table inlX1 rfl (by decide) q140 rfl dX1_noteCosts_33 ?_
        refine lv_aload_n hx hb dX1_noteCosts_36 rfl (lv_at hl 0 rfl) ?_
        refine x_getv (T := TX1) (N := 8) hx hb hT hown hK B xV_pairing_seats inlX1 rfl (by decide) q141 rfl dX1_noteCosts_37 ?_
        refine lv_iload_n hx hb dX1_noteCosts_40 rfl (lv_at hl 1 rfl) ?_
        refine x_callVr (rest := [.ref (a 35), .int ((v1 * (12 : Int32)) + v2), .ref (a 57)]) hx hb hml hT hown hK hA B hl.1 (c_X2_at l D cI cZ xV_pairing_seats_cells xA_pairing_seats v1) mi_X2_at mv_X2_at xO_pairing_seats rfl q407 ⟨rfl, rfl⟩ ⟨Nat.le_of_ble_eq_true rfl, Nat.le_of_ble_eq_true rfl⟩ rfl rfl (Nat.le_of_ble_eq_true rfl) dX1_noteCosts_41 hm (fun x2 H locs B hm => ?_)
        refine lv_aload_n hx hb dX1_noteCosts_44 rfl (lv_at hl 0 rfl) ?_
        refine x_getv (T := TX1) (N := 8) hx hb hT hown hK B xV_pairing_seats inlX1 rfl (by decide) q141 rfl dX1_noteCosts_45 ?_
        refine lv_iload_n hx hb dX1_noteCosts_48 rfl (lv_at hl 2 rfl) ?_
        refine x_callVr (rest := [.int x2, .ref (a 35), .int ((v1 * (12 : Int32)) + v2), .ref (a 57)]) hx hb hml hT hown hK hA B hl.1 (c_X2_at l D cI cZ xV_pairing_seats_cells xA_pairing_seats v2) mi_X2_at mv_X2_at xO_pairing_seats rfl q407 ⟨rfl, rfl⟩ ⟨Nat.le_of_ble_eq_true rfl, Nat.le_of_ble_eq_true rfl⟩ rfl rfl (Nat.le_of_ble_eq_true rfl) dX1_noteCosts_49 hm (fun x3 H locs B hm => ?_)
        refine x_callVr (rest := [.int ((v1 * (12 : Int32)) + v2), .ref (a 57)]) hx hb hml hT hown hK hA B hl.1 (c_X4_costOf l D cI cZ a x2 x3) mi_X4_costOf mv_X4_costOf xO_table rfl q418 ⟨rfl, rfl⟩ ⟨Nat.le_of_ble_eq_true rfl, Nat.le_of_ble_eq_true rfl⟩ rfl rfl (Nat.le_of_ble_eq_true rfl) dX1_noteCosts_52 hm (fun x4 H locs B hm => ?_)
        refine x_callVv (rest := []) hx hb hml hT hown hK hA B hl.1 (c_X2_put l D cI cZ xV_pairing_costs_cells xA_pairing_costs ((v1 * (12 : Int32)) + v2) x4) mi_X2_put mv_X2_put xO_pairing_costs rfl q408 ⟨rfl, rfl⟩ ⟨Nat.le_of_ble_eq_true rfl, Nat.le_of_ble_eq_true rfl⟩ rfl rfl (Nat.le_of_ble_eq_true rfl) dX1_noteCosts_55 hm (fun σ H locs B hm => ?_)
        refine lv_iinc (v := (v2 + (1 : Int32))) (lv' := [(2, .int (v2 + (1 : Int32))), (0, .ref (a 54)), (1, .int v1)]) hx hb dX1_noteCosts_58 hl (k := 2) rfl rfl (by decide) rfl (fun ls hl => ?_)
        refine lv_goto (tgt := 14) hx hb dX1_noteCosts_61 (by decide) ?_
        exact ih14 σ (v2 + (1 : Int32)) hm H locs ls B (lv_sub hl [1, 2, 0] rfl)
    refine lv_iload_n hx hb dX1_noteCosts_2 rfl (lv_at hl 1 rfl) ?_
    refine lv_aload_n hx hb dX1_noteCosts_3 rfl (lv_at hl 0 rfl) ?_
    refine x_getib (T := TX1) (N := 8) hx hb hT hown hK B xI_pairing_count inlX1 rfl (by decide) q142 rfl dX1_noteCosts_4 hm (fun x5 hm => ?_)
    refine lv_icmp_ge (tgt := 70) hx hb dX1_noteCosts_7 (by decide) (fun q => ?_) (fun q => ?_)
    · have hm := ift hm q
      exact x_vret hx hb hr hlk hK B dX1_noteCosts_70 hm
    · have hm := iff hm q
      refine lv_iload_n hx hb dX1_noteCosts_10 rfl (lv_at hl 1 rfl) ?_
      refine lv_iconst (v := (1 : Int32)) hx hb dX1_noteCosts_11 (by decide) ?_
      refine lv_iadd hx hb dX1_noteCosts_12 ?_
      refine lv_istore_n (lv' := [(2, .int (v1 + (1 : Int32))), (0, .ref (a 54)), (1, .int v1)]) hx hb dX1_noteCosts_13 rfl hl (by decide) rfl (fun ls hl => ?_)
      exact L14 v1 5000 σ (v1 + (1 : Int32)) hm H locs ls B (lv_sub hl [1, 2, 0] rfl)
  refine lv_iconst (v := (0 : Int32)) hx hb dX1_noteCosts_0 (by decide) ?_
  refine lv_istore_n (lv' := [(1, .int (0 : Int32)), (0, .ref (a 54))]) hx hb dX1_noteCosts_1 rfl hl (by decide) rfl (fun ls hl => ?_)
  exact L2 5000 σ (0 : Int32) hm H locs ls B (lv_sub hl [1, 0] rfl)
def f_X1_wholeSet (σ : Mm) : Option Int32 :=
  some (((1 : Int32) <<< ((σ 61 0) &&& 31)) - (1 : Int32))
set_option maxHeartbeats 4000000 in
set_option maxRecDepth 100000 in
theorem c_X1_wholeSet (l : Launch) (D : va_G) (cI cZ : ClassId) (a : Nat → Nat) : CTr l D [(cI, FieldType.int), (cZ, FieldType.boolean)] (xW cI a) yX1_wholeSet (.code yX1_wholeSet cX1_wholeSet 1 (some FieldType.int) :: wsL_law) ({ frames := 0, cells := 0, slots := 0, locals := 0 } : Room) [.ref (a 54)] (fun σ => f_X1_wholeSet σ) := by
  refine CTr.of (by decide +kernel) (Nat.le_of_ble_eq_true rfl) ?_
  intro σ r hm p e s m below meth c A ls H locs hx hb hr hlk hml hT hown hK hA B hl
  have hown : s.vm.findClass RX1 = some m.cls := hown
  have hl : lv_has ls 1 [(0, .ref (a 54))] := hl
  have hm : f_X1_wholeSet σ = some r := hm
  unfold f_X1_wholeSet at hm
  refine lv_iconst (v := (1 : Int32)) hx hb dX1_wholeSet_0 (by decide) ?_
  refine lv_aload_n hx hb dX1_wholeSet_1 rfl (lv_at hl 0 rfl) ?_
  refine x_geti (T := TX1) (N := 8) hx hb hT hown hK B xI_pairing_count inlX1 rfl (by decide) q142 rfl dX1_wholeSet_2 ?_
  refine lv_ishl hx hb dX1_wholeSet_5 ?_
  refine lv_iconst (v := (1 : Int32)) hx hb dX1_wholeSet_6 (by decide) ?_
  refine lv_isub hx hb dX1_wholeSet_7 ?_
  exact x_iretr hx hb hr hlk hK B dX1_wholeSet_8 hm
def f_X1_arrange_s28 (v1 : Int32) (r28 : Mm → Int32 → Option Mm) (σ : Mm) (v2 : Int32) : Option Mm :=
  if v1 < v2 then
    some σ
  else
    (f_X1_isReached σ v2).bind fun x1 =>
    if x1 = 0 then
      r28 σ (v2 + (1 : Int32))
    else
      (f_X1_weigh σ v2).bind fun σ =>
      r28 σ (v2 + (1 : Int32))
def f_X1_arrange (σ : Mm) : Option Mm :=
  (f_X1_seatAll σ).bind fun σ =>
  (f_X1_giveBye σ).bind fun σ =>
  (f_X1_noteCosts σ).bind fun σ =>
  (f_X2_put 4096 65 σ (0 : Int32) (1 : Int32)).bind fun σ =>
  (f_X1_wholeSet σ).bind fun x2 =>
  wh2 (f_X1_arrange_s28 x2) 5000 σ (1 : Int32)
set_option maxHeartbeats 4000000 in
set_option maxRecDepth 100000 in
theorem c_X1_arrange (l : Launch) (D : va_G) (cI cZ : ClassId) (a : Nat → Nat) : CTv l D [(cI, FieldType.int), (cZ, FieldType.boolean)] (xW cI a) yX1_arrange (.code yX1_arrange cX1_arrange 3 (none : Option FieldType) :: wsL_law) ({ frames := 5, cells := 0, slots := 0, locals := 110 } : Room) [.ref (a 54)] (fun σ => f_X1_arrange σ) := by
  refine CTv.of (by decide +kernel) (Nat.le_of_ble_eq_true rfl) ?_
  intro σ out hm p e s m below meth c A ls H locs hx hb hr hlk hml hT hown hK hA B hl
  have hown : s.vm.findClass RX1 = some m.cls := hown
  have hl : lv_has ls 3 [(0, .ref (a 54))] := hl
  have hm : f_X1_arrange σ = some out := hm
  unfold f_X1_arrange at hm
  have L28 : ∀ (v1 : Int32) (nn : Nat) (σ : Mm) (v2 : Int32), wh2 (f_X1_arrange_s28 v1) nn σ v2 = some out → ∀ (H : Heap) (locs : List Loc) (ls : Array Slot), BD D A s.heap ((xW cI a) σ) H locs → lv_has ls 3 [(0, .ref (a 54)), (1, .int v1), (2, .int v2)] → W p l e ({ frames := 5, cells := 0, slots := 0, locals := 110 } : Room) s m ([.ref (a 54)] : List Value).toArray below meth c H locs 0 0 (MQ below (QV D [(cI, FieldType.int), (cZ, FieldType.boolean)] (xW cI a) A out) ([.ref (a 54)] : List Value).toArray s 0 0 A) (F0 m 28 ls []) := by
    intro v1
    refine loop2 (fun r28 ih28 σ v2 hm H locs ls B hl => ?_)
    unfold f_X1_arrange_s28 at hm
    refine lv_iload_n hx hb dX1_arrange_28 rfl (lv_at hl 2 rfl) ?_
    refine lv_iload_n hx hb dX1_arrange_29 rfl (lv_at hl 1 rfl) ?_
    refine lv_icmp_gt (tgt := 52) hx hb dX1_arrange_30 (by decide) (fun q => ?_) (fun q => ?_)
    · have hm := ift hm q
      exact x_vret hx hb hr hlk hK B dX1_arrange_52 hm
    · have hm := iff hm q
      refine lv_aload_n hx hb dX1_arrange_33 rfl (lv_at hl 0 rfl) ?_
      refine lv_iload_n hx hb dX1_arrange_34 rfl (lv_at hl 2 rfl) ?_
      refine x_callVr (rest := []) hx hb hml hT hown hK hA B hl.1 (c_X1_isReached l D cI cZ a v2) mi_X1_isReached mv_X1_isReached xO_pairing rfl q422 ⟨rfl, rfl⟩ ⟨Nat.le_of_ble_eq_true rfl, Nat.le_of_ble_eq_true rfl⟩ rfl rfl (Nat.le_of_ble_eq_true rfl) dX1_arrange_35 hm (fun x1 H locs B hm => ?_)
      refine lv_if_eq (tgt := 46) hx hb dX1_arrange_38 (by decide) (fun q => ?_) (fun q => ?_)
      · have hm := ift hm q
        refine lv_iinc (v := (v2 + (1 : Int32))) (lv' := [(2, .int (v2 + (1 : Int32))), (0, .ref (a 54)), (1, .int v1)]) hx hb dX1_arrange_46 hl (k := 2) rfl rfl (by decide) rfl (fun ls hl => ?_)
        refine lv_goto (tgt := 28) hx hb dX1_arrange_49 (by decide) ?_
        exact ih28 σ (v2 + (1 : Int32)) hm H locs ls B (lv_sub hl [1, 2, 0] rfl)
      · have hm := iff hm q
        refine lv_aload_n hx hb dX1_arrange_41 rfl (lv_at hl 0 rfl) ?_
        refine lv_iload_n hx hb dX1_arrange_42 rfl (lv_at hl 2 rfl) ?_
        refine x_callVv (rest := []) hx hb hml hT hown hK hA B hl.1 (c_X1_weigh l D cI cZ a v2) mi_X1_weigh mv_X1_weigh xO_pairing rfl q434 ⟨rfl, rfl⟩ ⟨Nat.le_of_ble_eq_true rfl, Nat.le_of_ble_eq_true rfl⟩ rfl rfl (Nat.le_of_ble_eq_true rfl) dX1_arrange_43 hm (fun σ H locs B hm => ?_)
        refine lv_iinc (v := (v2 + (1 : Int32))) (lv' := [(2, .int (v2 + (1 : Int32))), (0, .ref (a 54)), (1, .int v1)]) hx hb dX1_arrange_46 hl (k := 2) rfl rfl (by decide) rfl (fun ls hl => ?_)
        refine lv_goto (tgt := 28) hx hb dX1_arrange_49 (by decide) ?_
        exact ih28 σ (v2 + (1 : Int32)) hm H locs ls B (lv_sub hl [1, 2, 0] rfl)
  refine lv_aload_n hx hb dX1_arrange_0 rfl (lv_at hl 0 rfl) ?_
  refine x_callVv (rest := []) hx hb hml hT hown hK hA B hl.1 (c_X1_seatAll l D cI cZ a) mi_X1_seatAll mv_X1_seatAll xO_pairing rfl q404 ⟨rfl, rfl⟩ ⟨Nat.le_of_ble_eq_true rfl, Nat.le_of_ble_eq_true rfl⟩ rfl rfl (Nat.le_of_ble_eq_true rfl) dX1_arrange_1 hm (fun σ H locs B hm => ?_)
  refine lv_aload_n hx hb dX1_arrange_4 rfl (lv_at hl 0 rfl) ?_
  refine x_callVv (rest := []) hx hb hml hT hown hK hA B hl.1 (c_X1_giveBye l D cI cZ a) mi_X1_giveBye mv_X1_giveBye xO_pairing rfl q409 ⟨rfl, rfl⟩ ⟨Nat.le_of_ble_eq_true rfl, Nat.le_of_ble_eq_true rfl⟩ rfl rfl (Nat.le_of_ble_eq_true rfl) dX1_arrange_5 hm (fun σ H locs B hm => ?_)
  refine lv_aload_n hx hb dX1_arrange_8 rfl (lv_at hl 0 rfl) ?_
  refine x_callVv (rest := []) hx hb hml hT hown hK hA B hl.1 (c_X1_noteCosts l D cI cZ a) mi_X1_noteCosts mv_X1_noteCosts xO_pairing rfl q415 ⟨rfl, rfl⟩ ⟨Nat.le_of_ble_eq_true rfl, Nat.le_of_ble_eq_true rfl⟩ rfl rfl (Nat.le_of_ble_eq_true rfl) dX1_arrange_9 hm (fun σ H locs B hm => ?_)
  refine lv_aload_n hx hb dX1_arrange_12 rfl (lv_at hl 0 rfl) ?_
  refine x_getv (T := TX1) (N := 8) hx hb hT hown hK B xV_pairing_numbers inlX1 rfl (by decide) q146 rfl dX1_arrange_13 ?_
  refine lv_iconst (v := (0 : Int32)) hx hb dX1_arrange_16 (by decide) ?_
  refine lv_iconst (v := (1 : Int32)) hx hb dX1_arrange_17 (by decide) ?_
  refine x_callVv (rest := []) hx hb hml hT hown hK hA B hl.1 (c_X2_put l D cI cZ xV_pairing_numbers_cells xA_pairing_numbers (0 : Int32) (1 : Int32)) mi_X2_put mv_X2_put xO_pairing_numbers rfl q408 ⟨rfl, rfl⟩ ⟨Nat.le_of_ble_eq_true rfl, Nat.le_of_ble_eq_true rfl⟩ rfl rfl (Nat.le_of_ble_eq_true rfl) dX1_arrange_18 hm (fun σ H locs B hm => ?_)
  refine lv_aload_n hx hb dX1_arrange_21 rfl (lv_at hl 0 rfl) ?_
  refine x_callVr (rest := []) hx hb hml hT hown hK hA B hl.1 (c_X1_wholeSet l D cI cZ a) mi_X1_wholeSet mv_X1_wholeSet xO_pairing rfl q419 ⟨rfl, rfl⟩ ⟨Nat.le_of_ble_eq_true rfl, Nat.le_of_ble_eq_true rfl⟩ rfl rfl (Nat.le_of_ble_eq_true rfl) dX1_arrange_22 hm (fun x2 H locs B hm => ?_)
  refine lv_istore_n (lv' := [(1, .int x2), (0, .ref (a 54))]) hx hb dX1_arrange_25 rfl hl (by decide) rfl (fun ls hl => ?_)
  refine lv_iconst (v := (1 : Int32)) hx hb dX1_arrange_26 (by decide) ?_
  refine lv_istore_n (lv' := [(2, .int (1 : Int32)), (1, .int x2), (0, .ref (a 54))]) hx hb dX1_arrange_27 rfl hl (by decide) rfl (fun ls hl => ?_)
  exact L28 x2 5000 σ (1 : Int32) hm H locs ls B (lv_sub hl [2, 1, 0] rfl)
def f_X1_leastCost (σ : Mm) : Option Int32 :=
  (f_X1_wholeSet σ).bind fun x1 =>
  (f_X2_at 4096 64 σ x1).bind fun x2 =>
  some x2
set_option maxHeartbeats 4000000 in
set_option maxRecDepth 100000 in
theorem c_X1_leastCost (l : Launch) (D : va_G) (cI cZ : ClassId) (a : Nat → Nat) : CTr l D [(cI, FieldType.int), (cZ, FieldType.boolean)] (xW cI a) yX1_leastCost (.code yX1_leastCost cX1_leastCost 1 (some FieldType.int) :: wsL_law) ({ frames := 1, cells := 0, slots := 0, locals := 21 } : Room) [.ref (a 54)] (fun σ => f_X1_leastCost σ) := by
  refine CTr.of (by decide +kernel) (Nat.le_of_ble_eq_true rfl) ?_
  intro σ r hm p e s m below meth c A ls H locs hx hb hr hlk hml hT hown hK hA B hl
  have hown : s.vm.findClass RX1 = some m.cls := hown
  have hl : lv_has ls 1 [(0, .ref (a 54))] := hl
  have hm : f_X1_leastCost σ = some r := hm
  unfold f_X1_leastCost at hm
  refine lv_aload_n hx hb dX1_leastCost_0 rfl (lv_at hl 0 rfl) ?_
  refine x_getv (T := TX1) (N := 8) hx hb hT hown hK B xV_pairing_sums inlX1 rfl (by decide) q145 rfl dX1_leastCost_1 ?_
  refine lv_aload_n hx hb dX1_leastCost_4 rfl (lv_at hl 0 rfl) ?_
  refine x_callVr (rest := [.ref (a 59)]) hx hb hml hT hown hK hA B hl.1 (c_X1_wholeSet l D cI cZ a) mi_X1_wholeSet mv_X1_wholeSet xO_pairing rfl q419 ⟨rfl, rfl⟩ ⟨Nat.le_of_ble_eq_true rfl, Nat.le_of_ble_eq_true rfl⟩ rfl rfl (Nat.le_of_ble_eq_true rfl) dX1_leastCost_5 hm (fun x1 H locs B hm => ?_)
  refine x_callVr (rest := []) hx hb hml hT hown hK hA B hl.1 (c_X2_at l D cI cZ xV_pairing_sums_cells xA_pairing_sums x1) mi_X2_at mv_X2_at xO_pairing_sums rfl q407 ⟨rfl, rfl⟩ ⟨Nat.le_of_ble_eq_true rfl, Nat.le_of_ble_eq_true rfl⟩ rfl rfl (Nat.le_of_ble_eq_true rfl) dX1_leastCost_8 hm (fun x2 H locs B hm => ?_)
  exact x_iretr hx hb hr hlk hK B dX1_leastCost_11 hm
def f_X1_earliestMate_s9 (σ : Mm) (v1 : Int32) (v2 : Int32) (r9 : Int32 → Option Int32) (v3 : Int32) : Option Int32 :=
  if (σ 61 0) ≤ v3 then
    some v2
  else
    (f_X1_sumWith σ v1 v2 v3).bind fun x1 =>
    if x1 = (-9 : Int32) then
      r9 (v3 + (1 : Int32))
    else
      (f_X2_at 4096 64 σ v1).bind fun x2 =>
      if x1 = x2 then
        some v3
      else
        r9 (v3 + (1 : Int32))
def f_X1_earliestMate (σ : Mm) (w1 : Int32) : Option Int32 :=
  (f_X1_firstSeat w1).bind fun x3 =>
  wh1 (f_X1_earliestMate_s9 σ w1 x3) 5000 (x3 + (1 : Int32))
set_option maxHeartbeats 4000000 in
set_option maxRecDepth 100000 in
theorem c_X1_earliestMate (l : Launch) (D : va_G) (cI cZ : ClassId) (a : Nat → Nat) (w1 : Int32) : CTr l D [(cI, FieldType.int), (cZ, FieldType.boolean)] (xW cI a) yX1_earliestMate (.code yX1_earliestMate cX1_earliestMate 5 (some FieldType.int) :: wsL_law) ({ frames := 2, cells := 0, slots := 0, locals := 47 } : Room) [.ref (a 54), .int w1] (fun σ => f_X1_earliestMate σ w1) := by
  refine CTr.of (by decide +kernel) (Nat.le_of_ble_eq_true rfl) ?_
  intro σ r hm p e s m below meth c A ls H locs hx hb hr hlk hml hT hown hK hA B hl
  have hown : s.vm.findClass RX1 = some m.cls := hown
  have hl : lv_has ls 5 [(0, .ref (a 54)), (1, .int w1)] := hl
  have hm : f_X1_earliestMate σ w1 = some r := hm
  unfold f_X1_earliestMate at hm
  have L9 : ∀ (v1 : Int32) (v2 : Int32) (nn : Nat) (v3 : Int32), wh1 (f_X1_earliestMate_s9 σ v1 v2) nn v3 = some r → ∀ (H : Heap) (locs : List Loc) (ls : Array Slot), BD D A s.heap ((xW cI a) σ) H locs → lv_has ls 5 [(0, .ref (a 54)), (1, .int v1), (2, .int v2), (3, .int v3)] → W p l e ({ frames := 2, cells := 0, slots := 0, locals := 47 } : Room) s m ([.ref (a 54), .int w1] : List Value).toArray below meth c H locs 0 0 (MQ below (QI D [(cI, FieldType.int), (cZ, FieldType.boolean)] (xW cI a) A (r, σ)) ([.ref (a 54), .int w1] : List Value).toArray s 0 0 A) (F0 m 9 ls []) := by
    intro v1 v2
    refine loop1 (fun r9 ih9 v3 hm H locs ls B hl => ?_)
    unfold f_X1_earliestMate_s9 at hm
    refine lv_iload_n hx hb dX1_earliestMate_9 rfl (lv_at hl 3 rfl) ?_
    refine lv_aload_n hx hb dX1_earliestMate_10 rfl (lv_at hl 0 rfl) ?_
    refine x_geti (T := TX1) (N := 8) hx hb hT hown hK B xI_pairing_count inlX1 rfl (by decide) q142 rfl dX1_earliestMate_11 ?_
    refine lv_icmp_ge (tgt := 54) hx hb dX1_earliestMate_14 (by decide) (fun q => ?_) (fun q => ?_)
    · have hm := ift hm q
      refine lv_iload_n hx hb dX1_earliestMate_54 rfl (lv_at hl 2 rfl) ?_
      exact x_iretr hx hb hr hlk hK B dX1_earliestMate_55 hm
    · have hm := iff hm q
      refine lv_aload_n hx hb dX1_earliestMate_17 rfl (lv_at hl 0 rfl) ?_
      refine lv_iload_n hx hb dX1_earliestMate_18 rfl (lv_at hl 1 rfl) ?_
      refine lv_iload_n hx hb dX1_earliestMate_19 rfl (lv_at hl 2 rfl) ?_
      refine lv_iload_n hx hb dX1_earliestMate_20 rfl (lv_at hl 3 rfl) ?_
      refine x_callVr (rest := []) hx hb hml hT hown hK hA B hl.1 (c_X1_sumWith l D cI cZ a v1 v2 v3) mi_X1_sumWith mv_X1_sumWith xO_pairing rfl q437 ⟨rfl, rfl⟩ ⟨Nat.le_of_ble_eq_true rfl, Nat.le_of_ble_eq_true rfl⟩ rfl rfl (Nat.le_of_ble_eq_true rfl) dX1_earliestMate_21 hm (fun x1 H locs B hm => ?_)
      refine lv_istore (lv' := [(4, .int x1), (0, .ref (a 54)), (1, .int v1), (2, .int v2), (3, .int v3)]) hx hb dX1_earliestMate_24 hl (by decide) rfl (fun ls hl => ?_)
      refine lv_iload hx hb dX1_earliestMate_26 (lv_at hl 0 rfl) ?_
      refine lv_bipush (v := (-9 : Int32)) hx hb dX1_earliestMate_28 (by decide) ?_
      refine lv_icmp_eq (tgt := 48) hx hb dX1_earliestMate_30 (by decide) (fun q => ?_) (fun q => ?_)
      · have hm := ift hm q
        refine lv_iinc (v := (v3 + (1 : Int32))) (lv' := [(3, .int (v3 + (1 : Int32))), (4, .int x1), (0, .ref (a 54)), (1, .int v1), (2, .int v2)]) hx hb dX1_earliestMate_48 hl (k := 4) rfl rfl (by decide) rfl (fun ls hl => ?_)
        refine lv_goto (tgt := 9) hx hb dX1_earliestMate_51 (by decide) ?_
        exact ih9 (v3 + (1 : Int32)) hm H locs ls B (lv_sub hl [2, 3, 4, 0] rfl)
      · have hm := iff hm q
        refine lv_iload hx hb dX1_earliestMate_33 (lv_at hl 0 rfl) ?_
        refine lv_aload_n hx hb dX1_earliestMate_35 rfl (lv_at hl 1 rfl) ?_
        refine x_getv (T := TX1) (N := 8) hx hb hT hown hK B xV_pairing_sums inlX1 rfl (by decide) q145 rfl dX1_earliestMate_36 ?_
        refine lv_iload_n hx hb dX1_earliestMate_39 rfl (lv_at hl 2 rfl) ?_
        refine x_callVr (rest := [.int x1]) hx hb hml hT hown hK hA B hl.1 (c_X2_at l D cI cZ xV_pairing_sums_cells xA_pairing_sums v1) mi_X2_at mv_X2_at xO_pairing_sums rfl q407 ⟨rfl, rfl⟩ ⟨Nat.le_of_ble_eq_true rfl, Nat.le_of_ble_eq_true rfl⟩ rfl rfl (Nat.le_of_ble_eq_true rfl) dX1_earliestMate_40 hm (fun x2 H locs B hm => ?_)
        refine lv_icmp_ne (tgt := 48) hx hb dX1_earliestMate_43 (by decide) (fun q => ?_) (fun q => ?_)
        · have hm := iff hm q
          refine lv_iinc (v := (v3 + (1 : Int32))) (lv' := [(3, .int (v3 + (1 : Int32))), (4, .int x1), (0, .ref (a 54)), (1, .int v1), (2, .int v2)]) hx hb dX1_earliestMate_48 hl (k := 4) rfl rfl (by decide) rfl (fun ls hl => ?_)
          refine lv_goto (tgt := 9) hx hb dX1_earliestMate_51 (by decide) ?_
          exact ih9 (v3 + (1 : Int32)) hm H locs ls B (lv_sub hl [2, 3, 4, 0] rfl)
        · have hm := ift hm q
          refine lv_iload_n hx hb dX1_earliestMate_46 rfl (lv_at hl 4 rfl) ?_
          exact x_iretr hx hb hr hlk hK B dX1_earliestMate_47 hm
  refine lv_iload_n hx hb dX1_earliestMate_0 rfl (lv_at hl 1 rfl) ?_
  refine x_callSr (rest := []) hx hb hml hT hown hK hA B hl.1 (c_X1_firstSeat l D cI cZ (xW cI a) w1) mi_X1_firstSeat q432 q431 ⟨rfl, rfl⟩ ⟨Nat.le_of_ble_eq_true rfl, Nat.le_of_ble_eq_true rfl⟩ rfl rfl (Nat.le_of_ble_eq_true rfl) dX1_earliestMate_1 hm (fun x3 H locs B hm => ?_)
  refine lv_istore_n (lv' := [(2, .int x3), (0, .ref (a 54)), (1, .int w1)]) hx hb dX1_earliestMate_4 rfl hl (by decide) rfl (fun ls hl => ?_)
  refine lv_iload_n hx hb dX1_earliestMate_5 rfl (lv_at hl 0 rfl) ?_
  refine lv_iconst (v := (1 : Int32)) hx hb dX1_earliestMate_6 (by decide) ?_
  refine lv_iadd hx hb dX1_earliestMate_7 ?_
  refine lv_istore_n (lv' := [(3, .int (x3 + (1 : Int32))), (2, .int x3), (0, .ref (a 54)), (1, .int w1)]) hx hb dX1_earliestMate_8 rfl hl (by decide) rfl (fun ls hl => ?_)
  exact L9 w1 x3 5000 (x3 + (1 : Int32)) hm H locs ls B (lv_sub hl [2, 3, 1, 0] rfl)
def f_X1_hasWhite_j88 (σ : Mm) (v1 v6 s0 : Int32) : Option Int32 :=
  if v6 = s0 then
    (nz (2 : Int32) (v1 - v1 / (2 : Int32) * (2 : Int32))).bind fun x1 =>
    if x1 = 0 then
      some (1 : Int32)
    else
      some (0 : Int32)
  else
    zb v6
def f_X1_hasWhite_j66 (σ : Mm) (v1 v3 s0 : Int32) : Option Int32 :=
  (f_X2_at 12 53 σ v3).bind fun x2 =>
  if x2 = (1 : Int32) then
    f_X1_hasWhite_j88 σ v1 s0 (1 : Int32)
  else
    f_X1_hasWhite_j88 σ v1 s0 (0 : Int32)
def f_X1_hasWhite (σ : Mm) (w1 : Int32) (w2 : Int32) (w3 : Int32) : Option Int32 :=
  (f_X2_at 12 52 σ w2).bind fun x3 =>
  (f_X2_at 12 52 σ w3).bind fun x4 =>
  if x3 = x4 then
    (f_X2_at 12 53 σ w2).bind fun x5 =>
    if x5 = (1 : Int32) then
      f_X1_hasWhite_j66 σ w1 w3 (1 : Int32)
    else
      f_X1_hasWhite_j66 σ w1 w3 (0 : Int32)
  else
    if x4 ≤ x3 then
      some (0 : Int32)
    else
      some (1 : Int32)
set_option maxHeartbeats 4000000 in
set_option maxRecDepth 100000 in
theorem c_X1_hasWhite (l : Launch) (D : va_G) (cI cZ : ClassId) (a : Nat → Nat) (w1 : Int32) (w2 : Int32) (w3 : Int32) : CTr l D [(cI, FieldType.int), (cZ, FieldType.boolean)] (xW cI a) yX1_hasWhite (.code yX1_hasWhite cX1_hasWhite 8 (some FieldType.boolean) :: wsL_law) ({ frames := 1, cells := 0, slots := 0, locals := 21 } : Room) [.ref (a 54), .int w1, .int w2, .int w3] (fun σ => f_X1_hasWhite σ w1 w2 w3) := by
  refine CTr.of (by decide +kernel) (Nat.le_of_ble_eq_true rfl) ?_
  intro σ r hm p e s m below meth c A ls H locs hx hb hr hlk hml hT hown hK hA B hl
  have hown : s.vm.findClass RX1 = some m.cls := hown
  have hl : lv_has ls 8 [(0, .ref (a 54)), (1, .int w1), (2, .int w2), (3, .int w3)] := hl
  have hm : f_X1_hasWhite σ w1 w2 w3 = some r := hm
  unfold f_X1_hasWhite at hm
  have j88 : ∀ (v1 : Int32) (v6 : Int32) (s0 : Int32) (H : Heap) (locs : List Loc) (ls : Array Slot), BD D A s.heap ((xW cI a) σ) H locs → lv_has ls 8 [(1, .int v1), (6, .int v6)] → f_X1_hasWhite_j88 σ v1 v6 s0 = some r → W p l e ({ frames := 1, cells := 0, slots := 0, locals := 21 } : Room) s m ([.ref (a 54), .int w1, .int w2, .int w3] : List Value).toArray below meth c H locs 0 0 (MQ below (QI D [(cI, FieldType.int), (cZ, FieldType.boolean)] (xW cI a) A (r, σ)) ([.ref (a 54), .int w1, .int w2, .int w3] : List Value).toArray s 0 0 A) (F0 m 88 ls [.int s0]) := by
    intro v1 v6 s0 H locs ls B hl hm
    unfold f_X1_hasWhite_j88 at hm
    refine lv_istore (lv' := [(7, .int s0), (1, .int v1), (6, .int v6)]) hx hb dX1_hasWhite_88 hl (by decide) rfl (fun ls hl => ?_)
    refine lv_iload hx hb dX1_hasWhite_90 (lv_at hl 2 rfl) ?_
    refine lv_iload hx hb dX1_hasWhite_92 (lv_at hl 0 rfl) ?_
    refine lv_icmp_eq (tgt := 100) hx hb dX1_hasWhite_94 (by decide) (fun q => ?_) (fun q => ?_)
    · have hm := ift hm q
      refine lv_iload_n hx hb dX1_hasWhite_100 rfl (lv_at hl 1 rfl) ?_
      refine lv_iconst (v := (2 : Int32)) hx hb dX1_hasWhite_101 (by decide) ?_
      refine x_irem hx hb dX1_hasWhite_102 hm (fun x1 hm => ?_)
      refine lv_if_ne (tgt := 110) hx hb dX1_hasWhite_103 (by decide) (fun q => ?_) (fun q => ?_)
      · have hm := iff hm q
        refine lv_iconst (v := (0 : Int32)) hx hb dX1_hasWhite_110 (by decide) ?_
        exact x_zretr hx hb hr hlk hK B rfl dX1_hasWhite_111 hm
      · have hm := ift hm q
        refine lv_iconst (v := (1 : Int32)) hx hb dX1_hasWhite_106 (by decide) ?_
        refine lv_goto (tgt := 111) hx hb dX1_hasWhite_107 (by decide) ?_
        exact x_zretr hx hb hr hlk hK B rfl dX1_hasWhite_111 hm
    · have hm := iff hm q
      refine lv_iload hx hb dX1_hasWhite_97 (lv_at hl 2 rfl) ?_
      exact x_zbretr hx hb hr hlk hK B dX1_hasWhite_99 hm
  have j66 : ∀ (v1 : Int32) (v3 : Int32) (s0 : Int32) (H : Heap) (locs : List Loc) (ls : Array Slot), BD D A s.heap ((xW cI a) σ) H locs → lv_has ls 8 [(0, .ref (a 54)), (1, .int v1), (3, .int v3)] → f_X1_hasWhite_j66 σ v1 v3 s0 = some r → W p l e ({ frames := 1, cells := 0, slots := 0, locals := 21 } : Room) s m ([.ref (a 54), .int w1, .int w2, .int w3] : List Value).toArray below meth c H locs 0 0 (MQ below (QI D [(cI, FieldType.int), (cZ, FieldType.boolean)] (xW cI a) A (r, σ)) ([.ref (a 54), .int w1, .int w2, .int w3] : List Value).toArray s 0 0 A) (F0 m 66 ls [.int s0]) := by
    intro v1 v3 s0 H locs ls B hl hm
    unfold f_X1_hasWhite_j66 at hm
    refine lv_istore (lv' := [(6, .int s0), (0, .ref (a 54)), (1, .int v1), (3, .int v3)]) hx hb dX1_hasWhite_66 hl (by decide) rfl (fun ls hl => ?_)
    refine lv_aload_n hx hb dX1_hasWhite_68 rfl (lv_at hl 1 rfl) ?_
    refine x_getv (T := TX1) (N := 8) hx hb hT hown hK B xV_pairing_table inlX1 rfl (by decide) q140 rfl dX1_hasWhite_69 ?_
    refine x_getvN (T := TX4) (N := 10) hx hb hT hown hK B xV_table_latest inlX4 rfl (by decide) q109 rfl dX1_hasWhite_72 ?_
    refine lv_iload_n hx hb dX1_hasWhite_75 rfl (lv_at hl 3 rfl) ?_
    refine x_callVr (rest := []) hx hb hml hT hown hK hA B hl.1 (c_X2_at l D cI cZ xV_table_latest_cells xA_table_latest v3) mi_X2_at mv_X2_at xO_table_latest rfl q407 ⟨rfl, rfl⟩ ⟨Nat.le_of_ble_eq_true rfl, Nat.le_of_ble_eq_true rfl⟩ rfl rfl (Nat.le_of_ble_eq_true rfl) dX1_hasWhite_76 hm (fun x2 H locs B hm => ?_)
    refine lv_iconst (v := (1 : Int32)) hx hb dX1_hasWhite_79 (by decide) ?_
    refine lv_icmp_ne (tgt := 87) hx hb dX1_hasWhite_80 (by decide) (fun q => ?_) (fun q => ?_)
    · have hm := iff hm q
      refine lv_iconst (v := (0 : Int32)) hx hb dX1_hasWhite_87 (by decide) ?_
      exact j88 v1 s0 (0 : Int32) H locs ls B (lv_sub hl [2, 0] rfl) hm
    · have hm := ift hm q
      refine lv_iconst (v := (1 : Int32)) hx hb dX1_hasWhite_83 (by decide) ?_
      refine lv_goto (tgt := 88) hx hb dX1_hasWhite_84 (by decide) ?_
      exact j88 v1 s0 (1 : Int32) H locs ls B (lv_sub hl [2, 0] rfl) hm
  refine lv_aload_n hx hb dX1_hasWhite_0 rfl (lv_at hl 0 rfl) ?_
  refine x_getv (T := TX1) (N := 8) hx hb hT hown hK B xV_pairing_table inlX1 rfl (by decide) q140 rfl dX1_hasWhite_1 ?_
  refine x_getvN (T := TX4) (N := 10) hx hb hT hown hK B xV_table_balances inlX4 rfl (by decide) q106 rfl dX1_hasWhite_4 ?_
  refine lv_iload_n hx hb dX1_hasWhite_7 rfl (lv_at hl 2 rfl) ?_
  refine x_callVr (rest := []) hx hb hml hT hown hK hA B hl.1 (c_X2_at l D cI cZ xV_table_balances_cells xA_table_balances w2) mi_X2_at mv_X2_at xO_table_balances rfl q407 ⟨rfl, rfl⟩ ⟨Nat.le_of_ble_eq_true rfl, Nat.le_of_ble_eq_true rfl⟩ rfl rfl (Nat.le_of_ble_eq_true rfl) dX1_hasWhite_8 hm (fun x3 H locs B hm => ?_)
  refine lv_istore (lv' := [(4, .int x3), (0, .ref (a 54)), (1, .int w1), (2, .int w2), (3, .int w3)]) hx hb dX1_hasWhite_11 hl (by decide) rfl (fun ls hl => ?_)
  refine lv_aload_n hx hb dX1_hasWhite_13 rfl (lv_at hl 1 rfl) ?_
  refine x_getv (T := TX1) (N := 8) hx hb hT hown hK B xV_pairing_table inlX1 rfl (by decide) q140 rfl dX1_hasWhite_14 ?_
  refine x_getvN (T := TX4) (N := 10) hx hb hT hown hK B xV_table_balances inlX4 rfl (by decide) q106 rfl dX1_hasWhite_17 ?_
  refine lv_iload_n hx hb dX1_hasWhite_20 rfl (lv_at hl 4 rfl) ?_
  refine x_callVr (rest := []) hx hb hml hT hown hK hA B hl.1 (c_X2_at l D cI cZ xV_table_balances_cells xA_table_balances w3) mi_X2_at mv_X2_at xO_table_balances rfl q407 ⟨rfl, rfl⟩ ⟨Nat.le_of_ble_eq_true rfl, Nat.le_of_ble_eq_true rfl⟩ rfl rfl (Nat.le_of_ble_eq_true rfl) dX1_hasWhite_21 hm (fun x4 H locs B hm => ?_)
  refine lv_istore (lv' := [(5, .int x4), (4, .int x3), (0, .ref (a 54)), (1, .int w1), (2, .int w2), (3, .int w3)]) hx hb dX1_hasWhite_24 hl (by decide) rfl (fun ls hl => ?_)
  refine lv_iload hx hb dX1_hasWhite_26 (lv_at hl 1 rfl) ?_
  refine lv_iload hx hb dX1_hasWhite_28 (lv_at hl 0 rfl) ?_
  refine lv_icmp_eq (tgt := 46) hx hb dX1_hasWhite_30 (by decide) (fun q => ?_) (fun q => ?_)
  · have hm := ift hm q
    refine lv_aload_n hx hb dX1_hasWhite_46 rfl (lv_at hl 2 rfl) ?_
    refine x_getv (T := TX1) (N := 8) hx hb hT hown hK B xV_pairing_table inlX1 rfl (by decide) q140 rfl dX1_hasWhite_47 ?_
    refine x_getvN (T := TX4) (N := 10) hx hb hT hown hK B xV_table_latest inlX4 rfl (by decide) q109 rfl dX1_hasWhite_50 ?_
    refine lv_iload_n hx hb dX1_hasWhite_53 rfl (lv_at hl 4 rfl) ?_
    refine x_callVr (rest := []) hx hb hml hT hown hK hA B hl.1 (c_X2_at l D cI cZ xV_table_latest_cells xA_table_latest w2) mi_X2_at mv_X2_at xO_table_latest rfl q407 ⟨rfl, rfl⟩ ⟨Nat.le_of_ble_eq_true rfl, Nat.le_of_ble_eq_true rfl⟩ rfl rfl (Nat.le_of_ble_eq_true rfl) dX1_hasWhite_54 hm (fun x5 H locs B hm => ?_)
    refine lv_iconst (v := (1 : Int32)) hx hb dX1_hasWhite_57 (by decide) ?_
    refine lv_icmp_ne (tgt := 65) hx hb dX1_hasWhite_58 (by decide) (fun q => ?_) (fun q => ?_)
    · have hm := iff hm q
      refine lv_iconst (v := (0 : Int32)) hx hb dX1_hasWhite_65 (by decide) ?_
      exact j66 w1 w3 (0 : Int32) H locs ls B (lv_sub hl [2, 3, 5] rfl) hm
    · have hm := ift hm q
      refine lv_iconst (v := (1 : Int32)) hx hb dX1_hasWhite_61 (by decide) ?_
      refine lv_goto (tgt := 66) hx hb dX1_hasWhite_62 (by decide) ?_
      exact j66 w1 w3 (1 : Int32) H locs ls B (lv_sub hl [2, 3, 5] rfl) hm
  · have hm := iff hm q
    refine lv_iload hx hb dX1_hasWhite_33 (lv_at hl 1 rfl) ?_
    refine lv_iload hx hb dX1_hasWhite_35 (lv_at hl 0 rfl) ?_
    refine lv_icmp_ge (tgt := 44) hx hb dX1_hasWhite_37 (by decide) (fun q => ?_) (fun q => ?_)
    · have hm := ift hm q
      refine lv_iconst (v := (0 : Int32)) hx hb dX1_hasWhite_44 (by decide) ?_
      exact x_zretr hx hb hr hlk hK B rfl dX1_hasWhite_45 hm
    · have hm := iff hm q
      refine lv_iconst (v := (1 : Int32)) hx hb dX1_hasWhite_40 (by decide) ?_
      refine lv_goto (tgt := 45) hx hb dX1_hasWhite_41 (by decide) ?_
      exact x_zretr hx hb hr hlk hK B rfl dX1_hasWhite_45 hm
def f_X0_addBoard (σ : Mm) (w1 : Int32) (w2 : Int32) : Option Mm :=
  (some (σ 3 0)).bind fun x1 =>
  (f_X2_at 20 5 σ (x1 - (1 : Int32))).bind fun x2 =>
  (f_X0_boardCell (x1 - (1 : Int32)) x2).bind fun x3 =>
  (f_X2_put 120 7 σ x3 w1).bind fun σ =>
  (f_X2_put 120 8 σ x3 w2).bind fun σ =>
  (f_X2_put 120 9 σ x3 (0 : Int32)).bind fun σ =>
  (f_X2_add 20 5 σ (x1 - (1 : Int32)) (1 : Int32)).bind fun σ =>
  some σ
set_option maxHeartbeats 4000000 in
set_option maxRecDepth 100000 in
theorem c_X0_addBoard (l : Launch) (D : va_G) (cI cZ : ClassId) (a : Nat → Nat) (w1 : Int32) (w2 : Int32) : CTv l D [(cI, FieldType.int), (cZ, FieldType.boolean)] (xW cI a) yX0_addBoard (.code yX0_addBoard cX0_addBoard 5 (none : Option FieldType) :: wsL_law) ({ frames := 1, cells := 0, slots := 0, locals := 22 } : Room) [.ref (a 1), .int w1, .int w2] (fun σ => f_X0_addBoard σ w1 w2) := by
  refine CTv.of (by decide +kernel) (Nat.le_of_ble_eq_true rfl) ?_
  intro σ out hm p e s m below meth c A ls H locs hx hb hr hlk hml hT hown hK hA B hl
  have hown : s.vm.findClass RX0 = some m.cls := hown
  have hl : lv_has ls 5 [(0, .ref (a 1)), (1, .int w1), (2, .int w2)] := hl
  have hm : f_X0_addBoard σ w1 w2 = some out := hm
  unfold f_X0_addBoard at hm
  refine lv_aload_n hx hb dX0_addBoard_0 rfl (lv_at hl 0 rfl) ?_
  refine x_getib (T := TX0) (N := 12) hx hb hT hown hK B xI_book_rounds inlX0 rfl (by decide) q56 rfl dX0_addBoard_1 hm (fun x1 hm => ?_)
  refine lv_iconst (v := (1 : Int32)) hx hb dX0_addBoard_4 (by decide) ?_
  refine lv_isub hx hb dX0_addBoard_5 ?_
  refine lv_istore_n (lv' := [(3, .int (x1 - (1 : Int32))), (0, .ref (a 1)), (1, .int w1), (2, .int w2)]) hx hb dX0_addBoard_6 rfl hl (by decide) rfl (fun ls hl => ?_)
  refine lv_iload_n hx hb dX0_addBoard_7 rfl (lv_at hl 0 rfl) ?_
  refine lv_aload_n hx hb dX0_addBoard_8 rfl (lv_at hl 1 rfl) ?_
  refine x_getv (T := TX0) (N := 12) hx hb hT hown hK B xV_book_boards inlX0 rfl (by decide) q60 rfl dX0_addBoard_9 ?_
  refine lv_iload_n hx hb dX0_addBoard_12 rfl (lv_at hl 0 rfl) ?_
  refine x_callVr (rest := [.int (x1 - (1 : Int32))]) hx hb hml hT hown hK hA B hl.1 (c_X2_at l D cI cZ xV_book_boards_cells xA_book_boards (x1 - (1 : Int32))) mi_X2_at mv_X2_at xO_book_boards rfl q241 ⟨rfl, rfl⟩ ⟨Nat.le_of_ble_eq_true rfl, Nat.le_of_ble_eq_true rfl⟩ rfl rfl (Nat.le_of_ble_eq_true rfl) dX0_addBoard_13 hm (fun x2 H locs B hm => ?_)
  refine x_callSr (rest := []) hx hb hml hT hown hK hA B hl.1 (c_X0_boardCell l D cI cZ (xW cI a) (x1 - (1 : Int32)) x2) mi_X0_boardCell q231 q240 ⟨rfl, rfl⟩ ⟨Nat.le_of_ble_eq_true rfl, Nat.le_of_ble_eq_true rfl⟩ rfl rfl (Nat.le_of_ble_eq_true rfl) dX0_addBoard_16 hm (fun x3 H locs B hm => ?_)
  refine lv_istore (lv' := [(4, .int x3), (3, .int (x1 - (1 : Int32))), (0, .ref (a 1)), (1, .int w1), (2, .int w2)]) hx hb dX0_addBoard_19 hl (by decide) rfl (fun ls hl => ?_)
  refine lv_aload_n hx hb dX0_addBoard_21 rfl (lv_at hl 2 rfl) ?_
  refine x_getv (T := TX0) (N := 12) hx hb hT hown hK B xV_book_whites inlX0 rfl (by decide) q66 rfl dX0_addBoard_22 ?_
  refine lv_iload hx hb dX0_addBoard_25 (lv_at hl 0 rfl) ?_
  refine lv_iload_n hx hb dX0_addBoard_27 rfl (lv_at hl 3 rfl) ?_
  refine x_callVv (rest := []) hx hb hml hT hown hK hA B hl.1 (c_X2_put l D cI cZ xV_book_whites_cells xA_book_whites x3 w1) mi_X2_put mv_X2_put xO_book_whites rfl q42 ⟨rfl, rfl⟩ ⟨Nat.le_of_ble_eq_true rfl, Nat.le_of_ble_eq_true rfl⟩ rfl rfl (Nat.le_of_ble_eq_true rfl) dX0_addBoard_28 hm (fun σ H locs B hm => ?_)
  refine lv_aload_n hx hb dX0_addBoard_31 rfl (lv_at hl 2 rfl) ?_
  refine x_getv (T := TX0) (N := 12) hx hb hT hown hK B xV_book_blacks inlX0 rfl (by decide) q69 rfl dX0_addBoard_32 ?_
  refine lv_iload hx hb dX0_addBoard_35 (lv_at hl 0 rfl) ?_
  refine lv_iload_n hx hb dX0_addBoard_37 rfl (lv_at hl 4 rfl) ?_
  refine x_callVv (rest := []) hx hb hml hT hown hK hA B hl.1 (c_X2_put l D cI cZ xV_book_blacks_cells xA_book_blacks x3 w2) mi_X2_put mv_X2_put xO_book_blacks rfl q42 ⟨rfl, rfl⟩ ⟨Nat.le_of_ble_eq_true rfl, Nat.le_of_ble_eq_true rfl⟩ rfl rfl (Nat.le_of_ble_eq_true rfl) dX0_addBoard_38 hm (fun σ H locs B hm => ?_)
  refine lv_aload_n hx hb dX0_addBoard_41 rfl (lv_at hl 2 rfl) ?_
  refine x_getv (T := TX0) (N := 12) hx hb hT hown hK B xV_book_outcomes inlX0 rfl (by decide) q72 rfl dX0_addBoard_42 ?_
  refine lv_iload hx hb dX0_addBoard_45 (lv_at hl 0 rfl) ?_
  refine lv_iconst (v := (0 : Int32)) hx hb dX0_addBoard_47 (by decide) ?_
  refine x_callVv (rest := []) hx hb hml hT hown hK hA B hl.1 (c_X2_put l D cI cZ xV_book_outcomes_cells xA_book_outcomes x3 (0 : Int32)) mi_X2_put mv_X2_put xO_book_outcomes rfl q42 ⟨rfl, rfl⟩ ⟨Nat.le_of_ble_eq_true rfl, Nat.le_of_ble_eq_true rfl⟩ rfl rfl (Nat.le_of_ble_eq_true rfl) dX0_addBoard_48 hm (fun σ H locs B hm => ?_)
  refine lv_aload_n hx hb dX0_addBoard_51 rfl (lv_at hl 2 rfl) ?_
  refine x_getv (T := TX0) (N := 12) hx hb hT hown hK B xV_book_boards inlX0 rfl (by decide) q60 rfl dX0_addBoard_52 ?_
  refine lv_iload_n hx hb dX0_addBoard_55 rfl (lv_at hl 1 rfl) ?_
  refine lv_iconst (v := (1 : Int32)) hx hb dX0_addBoard_56 (by decide) ?_
  refine x_callVv (rest := []) hx hb hml hT hown hK hA B hl.1 (c_X2_add l D cI cZ xV_book_boards_cells xA_book_boards (x1 - (1 : Int32)) (1 : Int32)) mi_X2_add mv_X2_add xO_book_boards rfl q469 ⟨rfl, rfl⟩ ⟨Nat.le_of_ble_eq_true rfl, Nat.le_of_ble_eq_true rfl⟩ rfl rfl (Nat.le_of_ble_eq_true rfl) dX0_addBoard_57 hm (fun σ H locs B hm => ?_)
  exact x_vret hx hb hr hlk hK B dX0_addBoard_60 hm
def f_X1_seatBoard (σ : Mm) (w1 : Int32) (w2 : Int32) (w3 : Int32) : Option Mm :=
  (f_X1_hasWhite σ w1 w2 w3).bind fun x1 =>
  if x1 = 0 then
    (f_X0_addBoard σ w3 w2).bind fun σ =>
    some σ
  else
    (f_X0_addBoard σ w2 w3).bind fun σ =>
    some σ
set_option maxHeartbeats 4000000 in
set_option maxRecDepth 100000 in
theorem c_X1_seatBoard (l : Launch) (D : va_G) (cI cZ : ClassId) (a : Nat → Nat) (w1 : Int32) (w2 : Int32) (w3 : Int32) : CTv l D [(cI, FieldType.int), (cZ, FieldType.boolean)] (xW cI a) yX1_seatBoard (.code yX1_seatBoard cX1_seatBoard 4 (none : Option FieldType) :: wsL_law) ({ frames := 2, cells := 0, slots := 0, locals := 48 } : Room) [.ref (a 54), .int w1, .int w2, .int w3] (fun σ => f_X1_seatBoard σ w1 w2 w3) := by
  refine CTv.of (by decide +kernel) (Nat.le_of_ble_eq_true rfl) ?_
  intro σ out hm p e s m below meth c A ls H locs hx hb hr hlk hml hT hown hK hA B hl
  have hown : s.vm.findClass RX1 = some m.cls := hown
  have hl : lv_has ls 4 [(0, .ref (a 54)), (1, .int w1), (2, .int w2), (3, .int w3)] := hl
  have hm : f_X1_seatBoard σ w1 w2 w3 = some out := hm
  unfold f_X1_seatBoard at hm
  refine lv_aload_n hx hb dX1_seatBoard_0 rfl (lv_at hl 0 rfl) ?_
  refine lv_iload_n hx hb dX1_seatBoard_1 rfl (lv_at hl 1 rfl) ?_
  refine lv_iload_n hx hb dX1_seatBoard_2 rfl (lv_at hl 2 rfl) ?_
  refine lv_iload_n hx hb dX1_seatBoard_3 rfl (lv_at hl 3 rfl) ?_
  refine x_callVr (rest := []) hx hb hml hT hown hK hA B hl.1 (c_X1_hasWhite l D cI cZ a w1 w2 w3) mi_X1_hasWhite mv_X1_hasWhite xO_pairing rfl q462 ⟨rfl, rfl⟩ ⟨Nat.le_of_ble_eq_true rfl, Nat.le_of_ble_eq_true rfl⟩ rfl rfl (Nat.le_of_ble_eq_true rfl) dX1_seatBoard_4 hm (fun x1 H locs B hm => ?_)
  refine lv_if_eq (tgt := 22) hx hb dX1_seatBoard_7 (by decide) (fun q => ?_) (fun q => ?_)
  · have hm := ift hm q
    refine lv_aload_n hx hb dX1_seatBoard_22 rfl (lv_at hl 0 rfl) ?_
    refine x_getv (T := TX1) (N := 8) hx hb hT hown hK B xV_pairing_book inlX1 rfl (by decide) q139 rfl dX1_seatBoard_23 ?_
    refine lv_iload_n hx hb dX1_seatBoard_26 rfl (lv_at hl 3 rfl) ?_
    refine lv_iload_n hx hb dX1_seatBoard_27 rfl (lv_at hl 2 rfl) ?_
    refine x_callVv (rest := []) hx hb hml hT hown hK hA B hl.1 (c_X0_addBoard l D cI cZ a w3 w2) mi_X0_addBoard mv_X0_addBoard xO_book rfl q465 ⟨rfl, rfl⟩ ⟨Nat.le_of_ble_eq_true rfl, Nat.le_of_ble_eq_true rfl⟩ rfl rfl (Nat.le_of_ble_eq_true rfl) dX1_seatBoard_28 hm (fun σ H locs B hm => ?_)
    exact x_vret hx hb hr hlk hK B dX1_seatBoard_31 hm
  · have hm := iff hm q
    refine lv_aload_n hx hb dX1_seatBoard_10 rfl (lv_at hl 0 rfl) ?_
    refine x_getv (T := TX1) (N := 8) hx hb hT hown hK B xV_pairing_book inlX1 rfl (by decide) q139 rfl dX1_seatBoard_11 ?_
    refine lv_iload_n hx hb dX1_seatBoard_14 rfl (lv_at hl 2 rfl) ?_
    refine lv_iload_n hx hb dX1_seatBoard_15 rfl (lv_at hl 3 rfl) ?_
    refine x_callVv (rest := []) hx hb hml hT hown hK hA B hl.1 (c_X0_addBoard l D cI cZ a w2 w3) mi_X0_addBoard mv_X0_addBoard xO_book rfl q465 ⟨rfl, rfl⟩ ⟨Nat.le_of_ble_eq_true rfl, Nat.le_of_ble_eq_true rfl⟩ rfl rfl (Nat.le_of_ble_eq_true rfl) dX1_seatBoard_16 hm (fun σ H locs B hm => ?_)
    refine lv_goto (tgt := 31) hx hb dX1_seatBoard_19 (by decide) ?_
    exact x_vret hx hb hr hlk hK B dX1_seatBoard_31 hm
def f_X0_startRound (σ : Mm) (w1 : Int32) : Option Mm :=
  (some (σ 3 0)).bind fun x1 =>
  (f_X2_put 20 5 σ x1 (0 : Int32)).bind fun σ =>
  (some (σ 3 0)).bind fun x2 =>
  (f_X2_put 20 6 σ x2 w1).bind fun σ =>
  (some (σ 3 0)).bind fun x3 =>
  (some (sc σ 3 (x3 + (1 : Int32)))).bind fun σ =>
  (some (sc σ 4 (1 : Int32))).bind fun σ =>
  some σ
set_option maxHeartbeats 4000000 in
set_option maxRecDepth 100000 in
theorem c_X0_startRound (l : Launch) (D : va_G) (cI cZ : ClassId) (a : Nat → Nat) (w1 : Int32) : CTv l D [(cI, FieldType.int), (cZ, FieldType.boolean)] (xW cI a) yX0_startRound (.code yX0_startRound cX0_startRound 2 (none : Option FieldType) :: wsL_law) ({ frames := 1, cells := 0, slots := 0, locals := 22 } : Room) [.ref (a 1), .int w1] (fun σ => f_X0_startRound σ w1) := by
  refine CTv.of (by decide +kernel) (Nat.le_of_ble_eq_true rfl) ?_
  intro σ out hm p e s m below meth c A ls H locs hx hb hr hlk hml hT hown hK hA B hl
  have hown : s.vm.findClass RX0 = some m.cls := hown
  have hl : lv_has ls 2 [(0, .ref (a 1)), (1, .int w1)] := hl
  have hm : f_X0_startRound σ w1 = some out := hm
  unfold f_X0_startRound at hm
  refine lv_aload_n hx hb dX0_startRound_0 rfl (lv_at hl 0 rfl) ?_
  refine x_getv (T := TX0) (N := 12) hx hb hT hown hK B xV_book_boards inlX0 rfl (by decide) q60 rfl dX0_startRound_1 ?_
  refine lv_aload_n hx hb dX0_startRound_4 rfl (lv_at hl 0 rfl) ?_
  refine x_getib (T := TX0) (N := 12) hx hb hT hown hK B xI_book_rounds inlX0 rfl (by decide) q56 rfl dX0_startRound_5 hm (fun x1 hm => ?_)
  refine lv_iconst (v := (0 : Int32)) hx hb dX0_startRound_8 (by decide) ?_
  refine x_callVv (rest := []) hx hb hml hT hown hK hA B hl.1 (c_X2_put l D cI cZ xV_book_boards_cells xA_book_boards x1 (0 : Int32)) mi_X2_put mv_X2_put xO_book_boards rfl q42 ⟨rfl, rfl⟩ ⟨Nat.le_of_ble_eq_true rfl, Nat.le_of_ble_eq_true rfl⟩ rfl rfl (Nat.le_of_ble_eq_true rfl) dX0_startRound_9 hm (fun σ H locs B hm => ?_)
  refine lv_aload_n hx hb dX0_startRound_12 rfl (lv_at hl 0 rfl) ?_
  refine x_getv (T := TX0) (N := 12) hx hb hT hown hK B xV_book_byes inlX0 rfl (by decide) q63 rfl dX0_startRound_13 ?_
  refine lv_aload_n hx hb dX0_startRound_16 rfl (lv_at hl 0 rfl) ?_
  refine x_getib (T := TX0) (N := 12) hx hb hT hown hK B xI_book_rounds inlX0 rfl (by decide) q56 rfl dX0_startRound_17 hm (fun x2 hm => ?_)
  refine lv_iload_n hx hb dX0_startRound_20 rfl (lv_at hl 1 rfl) ?_
  refine x_callVv (rest := []) hx hb hml hT hown hK hA B hl.1 (c_X2_put l D cI cZ xV_book_byes_cells xA_book_byes x2 w1) mi_X2_put mv_X2_put xO_book_byes rfl q42 ⟨rfl, rfl⟩ ⟨Nat.le_of_ble_eq_true rfl, Nat.le_of_ble_eq_true rfl⟩ rfl rfl (Nat.le_of_ble_eq_true rfl) dX0_startRound_21 hm (fun σ H locs B hm => ?_)
  refine lv_aload_n hx hb dX0_startRound_24 rfl (lv_at hl 0 rfl) ?_
  refine lv_dup hx hb dX0_startRound_25 rfl ?_
  refine x_getib (T := TX0) (N := 12) hx hb hT hown hK B xI_book_rounds inlX0 rfl (by decide) q56 rfl dX0_startRound_26 hm (fun x3 hm => ?_)
  refine lv_iconst (v := (1 : Int32)) hx hb dX0_startRound_29 (by decide) ?_
  refine lv_iadd hx hb dX0_startRound_30 ?_
  refine x_puti (T := TX0) (N := 12) hx hb hT hown hK B xI_book_rounds inlX0 tyX0_ok nmX0 rfl (by decide) q56 rfl rfl rfl rfl rfl dX0_startRound_31 hm (fun σ H locs B hm => ?_)
  refine lv_aload_n hx hb dX0_startRound_34 rfl (lv_at hl 0 rfl) ?_
  refine lv_iconst (v := (1 : Int32)) hx hb dX0_startRound_35 (by decide) ?_
  refine x_puti (T := TX0) (N := 12) hx hb hT hown hK B xI_book_open inlX0 tyX0_ok nmX0 rfl (by decide) q59 rfl rfl rfl rfl rfl dX0_startRound_36 hm (fun σ H locs B hm => ?_)
  exact x_vret hx hb hr hlk hK B dX0_startRound_39 hm
def f_X1_openRound_s18 (r18 : Mm → Int32 → Int32 → Option Mm) (σ : Mm) (v1 v2 : Int32) : Option Mm :=
  (some (σ 61 0)).bind fun x1 =>
  (nz (2 : Int32) (x1 / (2 : Int32))).bind fun x2 =>
  if x2 ≤ v2 then
    some σ
  else
    (f_X1_firstSeat v1).bind fun x3 =>
    (f_X1_earliestMate σ v1).bind fun x4 =>
    (f_X2_at 12 60 σ x3).bind fun x5 =>
    (f_X2_at 12 60 σ x4).bind fun x6 =>
    (f_X1_seatBoard σ v2 x5 x6).bind fun σ =>
    (f_X1_without v1 x3 x4).bind fun x7 =>
    r18 σ x7 (v2 + (1 : Int32))
def f_X1_openRound (σ : Mm) : Option Mm :=
  (some (σ 62 0)).bind fun x8 =>
  (f_X0_startRound σ x8).bind fun σ =>
  (f_X1_wholeSet σ).bind fun x9 =>
  wh3 (f_X1_openRound_s18) 5000 σ x9 (0 : Int32)
set_option maxHeartbeats 4000000 in
set_option maxRecDepth 100000 in
theorem c_X1_openRound (l : Launch) (D : va_G) (cI cZ : ClassId) (a : Nat → Nat) : CTv l D [(cI, FieldType.int), (cZ, FieldType.boolean)] (xW cI a) yX1_openRound (.code yX1_openRound cX1_openRound 5 (none : Option FieldType) :: wsL_law) ({ frames := 3, cells := 0, slots := 0, locals := 71 } : Room) [.ref (a 54)] (fun σ => f_X1_openRound σ) := by
  refine CTv.of (by decide +kernel) (Nat.le_of_ble_eq_true rfl) ?_
  intro σ out hm p e s m below meth c A ls H locs hx hb hr hlk hml hT hown hK hA B hl
  have hown : s.vm.findClass RX1 = some m.cls := hown
  have hl : lv_has ls 5 [(0, .ref (a 54))] := hl
  have hm : f_X1_openRound σ = some out := hm
  unfold f_X1_openRound at hm
  have L18 : ∀ (nn : Nat) (σ : Mm) (v1 : Int32) (v2 : Int32), wh3 f_X1_openRound_s18 nn σ v1 v2 = some out → ∀ (H : Heap) (locs : List Loc) (ls : Array Slot), BD D A s.heap ((xW cI a) σ) H locs → lv_has ls 5 [(0, .ref (a 54)), (1, .int v1), (2, .int v2)] → W p l e ({ frames := 3, cells := 0, slots := 0, locals := 71 } : Room) s m ([.ref (a 54)] : List Value).toArray below meth c H locs 0 0 (MQ below (QV D [(cI, FieldType.int), (cZ, FieldType.boolean)] (xW cI a) A out) ([.ref (a 54)] : List Value).toArray s 0 0 A) (F0 m 18 ls []) := by
    refine loop3 (fun r18 ih18 σ v1 v2 hm H locs ls B hl => ?_)
    unfold f_X1_openRound_s18 at hm
    refine lv_iload_n hx hb dX1_openRound_18 rfl (lv_at hl 2 rfl) ?_
    refine lv_aload_n hx hb dX1_openRound_19 rfl (lv_at hl 0 rfl) ?_
    refine x_getib (T := TX1) (N := 8) hx hb hT hown hK B xI_pairing_count inlX1 rfl (by decide) q142 rfl dX1_openRound_20 hm (fun x1 hm => ?_)
    refine lv_iconst (v := (2 : Int32)) hx hb dX1_openRound_23 (by decide) ?_
    refine x_idiv hx hb dX1_openRound_24 hm (fun x2 hm => ?_)
    refine lv_icmp_ge (tgt := 76) hx hb dX1_openRound_25 (by decide) (fun q => ?_) (fun q => ?_)
    · have hm := ift hm q
      exact x_vret hx hb hr hlk hK B dX1_openRound_76 hm
    · have hm := iff hm q
      refine lv_iload_n hx hb dX1_openRound_28 rfl (lv_at hl 1 rfl) ?_
      refine x_callSr (rest := []) hx hb hml hT hown hK hA B hl.1 (c_X1_firstSeat l D cI cZ (xW cI a) v1) mi_X1_firstSeat q432 q431 ⟨rfl, rfl⟩ ⟨Nat.le_of_ble_eq_true rfl, Nat.le_of_ble_eq_true rfl⟩ rfl rfl (Nat.le_of_ble_eq_true rfl) dX1_openRound_29 hm (fun x3 H locs B hm => ?_)
      refine lv_istore_n (lv' := [(3, .int x3), (0, .ref (a 54)), (1, .int v1), (2, .int v2)]) hx hb dX1_openRound_32 rfl hl (by decide) rfl (fun ls hl => ?_)
      refine lv_aload_n hx hb dX1_openRound_33 rfl (lv_at hl 1 rfl) ?_
      refine lv_iload_n hx hb dX1_openRound_34 rfl (lv_at hl 2 rfl) ?_
      refine x_callVr (rest := []) hx hb hml hT hown hK hA B hl.1 (c_X1_earliestMate l D cI cZ a v1) mi_X1_earliestMate mv_X1_earliestMate xO_pairing rfl q456 ⟨rfl, rfl⟩ ⟨Nat.le_of_ble_eq_true rfl, Nat.le_of_ble_eq_true rfl⟩ rfl rfl (Nat.le_of_ble_eq_true rfl) dX1_openRound_35 hm (fun x4 H locs B hm => ?_)
      refine lv_istore (lv' := [(4, .int x4), (3, .int x3), (0, .ref (a 54)), (1, .int v1), (2, .int v2)]) hx hb dX1_openRound_38 hl (by decide) rfl (fun ls hl => ?_)
      refine lv_aload_n hx hb dX1_openRound_40 rfl (lv_at hl 2 rfl) ?_
      refine lv_iload_n hx hb dX1_openRound_41 rfl (lv_at hl 4 rfl) ?_
      refine lv_aload_n hx hb dX1_openRound_42 rfl (lv_at hl 2 rfl) ?_
      refine x_getv (T := TX1) (N := 8) hx hb hT hown hK B xV_pairing_seats inlX1 rfl (by decide) q141 rfl dX1_openRound_43 ?_
      refine lv_iload_n hx hb dX1_openRound_46 rfl (lv_at hl 1 rfl) ?_
      refine x_callVr (rest := [.int v2, .ref (a 54)]) hx hb hml hT hown hK hA B hl.1 (c_X2_at l D cI cZ xV_pairing_seats_cells xA_pairing_seats x3) mi_X2_at mv_X2_at xO_pairing_seats rfl q407 ⟨rfl, rfl⟩ ⟨Nat.le_of_ble_eq_true rfl, Nat.le_of_ble_eq_true rfl⟩ rfl rfl (Nat.le_of_ble_eq_true rfl) dX1_openRound_47 hm (fun x5 H locs B hm => ?_)
      refine lv_aload_n hx hb dX1_openRound_50 rfl (lv_at hl 2 rfl) ?_
      refine x_getv (T := TX1) (N := 8) hx hb hT hown hK B xV_pairing_seats inlX1 rfl (by decide) q141 rfl dX1_openRound_51 ?_
      refine lv_iload hx hb dX1_openRound_54 (lv_at hl 0 rfl) ?_
      refine x_callVr (rest := [.int x5, .int v2, .ref (a 54)]) hx hb hml hT hown hK hA B hl.1 (c_X2_at l D cI cZ xV_pairing_seats_cells xA_pairing_seats x4) mi_X2_at mv_X2_at xO_pairing_seats rfl q407 ⟨rfl, rfl⟩ ⟨Nat.le_of_ble_eq_true rfl, Nat.le_of_ble_eq_true rfl⟩ rfl rfl (Nat.le_of_ble_eq_true rfl) dX1_openRound_56 hm (fun x6 H locs B hm => ?_)
      refine x_callVv (rest := []) hx hb hml hT hown hK hA B hl.1 (c_X1_seatBoard l D cI cZ a v2 x5 x6) mi_X1_seatBoard mv_X1_seatBoard xO_pairing rfl q459 ⟨rfl, rfl⟩ ⟨Nat.le_of_ble_eq_true rfl, Nat.le_of_ble_eq_true rfl⟩ rfl rfl (Nat.le_of_ble_eq_true rfl) dX1_openRound_59 hm (fun σ H locs B hm => ?_)
      refine lv_iload_n hx hb dX1_openRound_62 rfl (lv_at hl 3 rfl) ?_
      refine lv_iload_n hx hb dX1_openRound_63 rfl (lv_at hl 1 rfl) ?_
      refine lv_iload hx hb dX1_openRound_64 (lv_at hl 0 rfl) ?_
      refine x_callSr (rest := []) hx hb hml hT hown hK hA B hl.1 (c_X1_without l D cI cZ (xW cI a) v1 x3 x4) mi_X1_without q441 q440 ⟨rfl, rfl⟩ ⟨Nat.le_of_ble_eq_true rfl, Nat.le_of_ble_eq_true rfl⟩ rfl rfl (Nat.le_of_ble_eq_true rfl) dX1_openRound_66 hm (fun x7 H locs B hm => ?_)
      refine lv_istore_n (lv' := [(1, .int x7), (4, .int x4), (3, .int x3), (0, .ref (a 54)), (2, .int v2)]) hx hb dX1_openRound_69 rfl hl (by decide) rfl (fun ls hl => ?_)
      refine lv_iinc (v := (v2 + (1 : Int32))) (lv' := [(2, .int (v2 + (1 : Int32))), (1, .int x7), (4, .int x4), (3, .int x3), (0, .ref (a 54))]) hx hb dX1_openRound_70 hl (k := 4) rfl rfl (by decide) rfl (fun ls hl => ?_)
      refine lv_goto (tgt := 18) hx hb dX1_openRound_73 (by decide) ?_
      exact ih18 σ x7 (v2 + (1 : Int32)) hm H locs ls B (lv_sub hl [4, 1, 0] rfl)
  refine lv_aload_n hx hb dX1_openRound_0 rfl (lv_at hl 0 rfl) ?_
  refine x_getv (T := TX1) (N := 8) hx hb hT hown hK B xV_pairing_book inlX1 rfl (by decide) q139 rfl dX1_openRound_1 ?_
  refine lv_aload_n hx hb dX1_openRound_4 rfl (lv_at hl 0 rfl) ?_
  refine x_getib (T := TX1) (N := 8) hx hb hT hown hK B xI_pairing_resting inlX1 rfl (by decide) q143 rfl dX1_openRound_5 hm (fun x8 hm => ?_)
  refine x_callVv (rest := []) hx hb hml hT hown hK hA B hl.1 (c_X0_startRound l D cI cZ a x8) mi_X0_startRound mv_X0_startRound xO_book rfl q452 ⟨rfl, rfl⟩ ⟨Nat.le_of_ble_eq_true rfl, Nat.le_of_ble_eq_true rfl⟩ rfl rfl (Nat.le_of_ble_eq_true rfl) dX1_openRound_8 hm (fun σ H locs B hm => ?_)
  refine lv_aload_n hx hb dX1_openRound_11 rfl (lv_at hl 0 rfl) ?_
  refine x_callVr (rest := []) hx hb hml hT hown hK hA B hl.1 (c_X1_wholeSet l D cI cZ a) mi_X1_wholeSet mv_X1_wholeSet xO_pairing rfl q419 ⟨rfl, rfl⟩ ⟨Nat.le_of_ble_eq_true rfl, Nat.le_of_ble_eq_true rfl⟩ rfl rfl (Nat.le_of_ble_eq_true rfl) dX1_openRound_12 hm (fun x9 H locs B hm => ?_)
  refine lv_istore_n (lv' := [(1, .int x9), (0, .ref (a 54))]) hx hb dX1_openRound_15 rfl hl (by decide) rfl (fun ls hl => ?_)
  refine lv_iconst (v := (0 : Int32)) hx hb dX1_openRound_16 (by decide) ?_
  refine lv_istore_n (lv' := [(2, .int (0 : Int32)), (1, .int x9), (0, .ref (a 54))]) hx hb dX1_openRound_17 rfl hl (by decide) rfl (fun ls hl => ?_)
  exact L18 5000 σ x9 (0 : Int32) hm H locs ls B (lv_sub hl [2, 1, 0] rfl)
def f_X6_pair (σ : Mm) : Option (Int32 × Mm) :=
  (some (σ 4 0)).bind fun x1 =>
  if x1 = 0 then
    (f_X0_countInside σ).bind fun x2 =>
    if (2 : Int32) ≤ x2 then
      (some (σ 3 0)).bind fun x3 =>
      if x3 < (20 : Int32) then
        (f_X1_arrange σ).bind fun σ =>
        (f_X1_leastCost σ).bind fun x4 =>
        if x4 = (-9 : Int32) then
          some ((-9 : Int32), σ)
        else
          (f_X1_openRound σ).bind fun σ =>
          (some (σ 3 0)).bind fun x5 =>
          (f_X2_at 20 5 σ (x5 - (1 : Int32))).bind fun x6 =>
          some (x6, σ)
      else
        some ((-4 : Int32), σ)
    else
      some ((-2 : Int32), σ)
  else
    some ((-3 : Int32), σ)
set_option maxHeartbeats 4000000 in
set_option maxRecDepth 100000 in
theorem c_X6_pair (l : Launch) (D : va_G) (cI cZ : ClassId) (a : Nat → Nat) : CTi l D [(cI, FieldType.int), (cZ, FieldType.boolean)] (xW cI a) yX6_pair (.code yX6_pair cX6_pair 1 (some FieldType.int) :: wsL_law) ({ frames := 6, cells := 0, slots := 0, locals := 132 } : Room) [.ref (a 0)] (fun σ => f_X6_pair σ) := by
  refine CTi.of (by decide +kernel) (Nat.le_of_ble_eq_true rfl) ?_
  intro σ out hm p e s m below meth c A ls H locs hx hb hr hlk hml hT hown hK hA B hl
  have hown : s.vm.findClass RX6 = some m.cls := hown
  have hl : lv_has ls 1 [(0, .ref (a 0))] := hl
  have hm : f_X6_pair σ = some out := hm
  unfold f_X6_pair at hm
  refine lv_aload_n hx hb dX6_pair_0 rfl (lv_at hl 0 rfl) ?_
  refine x_getv (T := TX6) (N := 8) hx hb hT hown hK B xV_X_book inlX6 rfl (by decide) q184 rfl dX6_pair_1 ?_
  refine x_getibN (T := TX0) (N := 12) hx hb hT hown hK B xI_book_open inlX0 rfl (by decide) q58 rfl dX6_pair_4 hm (fun x1 hm => ?_)
  refine lv_if_eq (tgt := 13) hx hb dX6_pair_7 (by decide) (fun q => ?_) (fun q => ?_)
  · have hm := ift hm q
    refine lv_aload_n hx hb dX6_pair_13 rfl (lv_at hl 0 rfl) ?_
    refine x_getv (T := TX6) (N := 8) hx hb hT hown hK B xV_X_book inlX6 rfl (by decide) q184 rfl dX6_pair_14 ?_
    refine x_callVr (rest := []) hx hb hml hT hown hK hA B hl.1 (c_X0_countInside l D cI cZ a) mi_X0_countInside mv_X0_countInside xO_book rfl q319 ⟨rfl, rfl⟩ ⟨Nat.le_of_ble_eq_true rfl, Nat.le_of_ble_eq_true rfl⟩ rfl rfl (Nat.le_of_ble_eq_true rfl) dX6_pair_17 hm (fun x2 H locs B hm => ?_)
    refine lv_iconst (v := (2 : Int32)) hx hb dX6_pair_20 (by decide) ?_
    refine lv_icmp_ge (tgt := 27) hx hb dX6_pair_21 (by decide) (fun q => ?_) (fun q => ?_)
    · have hm := ift hm q
      refine lv_aload_n hx hb dX6_pair_27 rfl (lv_at hl 0 rfl) ?_
      refine x_getv (T := TX6) (N := 8) hx hb hT hown hK B xV_X_book inlX6 rfl (by decide) q184 rfl dX6_pair_28 ?_
      refine x_getibN (T := TX0) (N := 12) hx hb hT hown hK B xI_book_rounds inlX0 rfl (by decide) q57 rfl dX6_pair_31 hm (fun x3 hm => ?_)
      refine lv_bipush (v := (20 : Int32)) hx hb dX6_pair_34 (by decide) ?_
      refine lv_icmp_lt (tgt := 42) hx hb dX6_pair_36 (by decide) (fun q => ?_) (fun q => ?_)
      · have hm := ift hm q
        refine lv_aload_n hx hb dX6_pair_42 rfl (lv_at hl 0 rfl) ?_
        refine x_getv (T := TX6) (N := 8) hx hb hT hown hK B xV_X_pairing inlX6 rfl (by decide) q188 rfl dX6_pair_43 ?_
        refine x_callVv (rest := []) hx hb hml hT hown hK hA B hl.1 (c_X1_arrange l D cI cZ a) mi_X1_arrange mv_X1_arrange xO_pairing rfl q400 ⟨rfl, rfl⟩ ⟨Nat.le_of_ble_eq_true rfl, Nat.le_of_ble_eq_true rfl⟩ rfl rfl (Nat.le_of_ble_eq_true rfl) dX6_pair_46 hm (fun σ H locs B hm => ?_)
        refine lv_aload_n hx hb dX6_pair_49 rfl (lv_at hl 0 rfl) ?_
        refine x_getv (T := TX6) (N := 8) hx hb hT hown hK B xV_X_pairing inlX6 rfl (by decide) q188 rfl dX6_pair_50 ?_
        refine x_callVr (rest := []) hx hb hml hT hown hK hA B hl.1 (c_X1_leastCost l D cI cZ a) mi_X1_leastCost mv_X1_leastCost xO_pairing rfl q444 ⟨rfl, rfl⟩ ⟨Nat.le_of_ble_eq_true rfl, Nat.le_of_ble_eq_true rfl⟩ rfl rfl (Nat.le_of_ble_eq_true rfl) dX6_pair_53 hm (fun x4 H locs B hm => ?_)
        refine lv_bipush (v := (-9 : Int32)) hx hb dX6_pair_56 (by decide) ?_
        refine lv_icmp_ne (tgt := 64) hx hb dX6_pair_58 (by decide) (fun q => ?_) (fun q => ?_)
        · have hm := iff hm q
          refine lv_aload_n hx hb dX6_pair_64 rfl (lv_at hl 0 rfl) ?_
          refine x_getv (T := TX6) (N := 8) hx hb hT hown hK B xV_X_pairing inlX6 rfl (by decide) q188 rfl dX6_pair_65 ?_
          refine x_callVv (rest := []) hx hb hml hT hown hK hA B hl.1 (c_X1_openRound l D cI cZ a) mi_X1_openRound mv_X1_openRound xO_pairing rfl q448 ⟨rfl, rfl⟩ ⟨Nat.le_of_ble_eq_true rfl, Nat.le_of_ble_eq_true rfl⟩ rfl rfl (Nat.le_of_ble_eq_true rfl) dX6_pair_68 hm (fun σ H locs B hm => ?_)
          refine lv_aload_n hx hb dX6_pair_71 rfl (lv_at hl 0 rfl) ?_
          refine x_getv (T := TX6) (N := 8) hx hb hT hown hK B xV_X_book inlX6 rfl (by decide) q184 rfl dX6_pair_72 ?_
          refine x_getvN (T := TX0) (N := 12) hx hb hT hown hK B xV_book_boards inlX0 rfl (by decide) q62 rfl dX6_pair_75 ?_
          refine lv_aload_n hx hb dX6_pair_78 rfl (lv_at hl 0 rfl) ?_
          refine x_getv (T := TX6) (N := 8) hx hb hT hown hK B xV_X_book inlX6 rfl (by decide) q184 rfl dX6_pair_79 ?_
          refine x_getibN (T := TX0) (N := 12) hx hb hT hown hK B xI_book_rounds inlX0 rfl (by decide) q57 rfl dX6_pair_82 hm (fun x5 hm => ?_)
          refine lv_iconst (v := (1 : Int32)) hx hb dX6_pair_85 (by decide) ?_
          refine lv_isub hx hb dX6_pair_86 ?_
          refine x_callVr (rest := []) hx hb hml hT hown hK hA B hl.1 (c_X2_at l D cI cZ xV_book_boards_cells xA_book_boards (x5 - (1 : Int32))) mi_X2_at mv_X2_at xO_book_boards rfl q317 ⟨rfl, rfl⟩ ⟨Nat.le_of_ble_eq_true rfl, Nat.le_of_ble_eq_true rfl⟩ rfl rfl (Nat.le_of_ble_eq_true rfl) dX6_pair_87 hm (fun x6 H locs B hm => ?_)
          exact x_iret hx hb hr hlk hK B dX6_pair_90 hm
        · have hm := ift hm q
          refine lv_bipush (v := (-9 : Int32)) hx hb dX6_pair_61 (by decide) ?_
          exact x_iret hx hb hr hlk hK B dX6_pair_63 hm
      · have hm := iff hm q
        refine lv_bipush (v := (-4 : Int32)) hx hb dX6_pair_39 (by decide) ?_
        exact x_iret hx hb hr hlk hK B dX6_pair_41 hm
    · have hm := iff hm q
      refine lv_bipush (v := (-2 : Int32)) hx hb dX6_pair_24 (by decide) ?_
      exact x_iret hx hb hr hlk hK B dX6_pair_26 hm
  · have hm := iff hm q
    refine lv_bipush (v := (-3 : Int32)) hx hb dX6_pair_10 (by decide) ?_
    exact x_iret hx hb hr hlk hK B dX6_pair_12 hm
def f_X6_least (σ : Mm) : Option (Int32 × Mm) :=
  (some (σ 4 0)).bind fun x1 =>
  if x1 = 0 then
    (f_X0_countInside σ).bind fun x2 =>
    if (2 : Int32) ≤ x2 then
      (f_X1_arrange σ).bind fun σ =>
      (f_X1_leastCost σ).bind fun x3 =>
      some (x3, σ)
    else
      some ((-2 : Int32), σ)
  else
    some ((-3 : Int32), σ)
set_option maxHeartbeats 4000000 in
set_option maxRecDepth 100000 in
theorem c_X6_least (l : Launch) (D : va_G) (cI cZ : ClassId) (a : Nat → Nat) : CTi l D [(cI, FieldType.int), (cZ, FieldType.boolean)] (xW cI a) yX6_least (.code yX6_least cX6_least 1 (some FieldType.int) :: wsL_law) ({ frames := 6, cells := 0, slots := 0, locals := 132 } : Room) [.ref (a 0)] (fun σ => f_X6_least σ) := by
  refine CTi.of (by decide +kernel) (Nat.le_of_ble_eq_true rfl) ?_
  intro σ out hm p e s m below meth c A ls H locs hx hb hr hlk hml hT hown hK hA B hl
  have hown : s.vm.findClass RX6 = some m.cls := hown
  have hl : lv_has ls 1 [(0, .ref (a 0))] := hl
  have hm : f_X6_least σ = some out := hm
  unfold f_X6_least at hm
  refine lv_aload_n hx hb dX6_least_0 rfl (lv_at hl 0 rfl) ?_
  refine x_getv (T := TX6) (N := 8) hx hb hT hown hK B xV_X_book inlX6 rfl (by decide) q184 rfl dX6_least_1 ?_
  refine x_getibN (T := TX0) (N := 12) hx hb hT hown hK B xI_book_open inlX0 rfl (by decide) q58 rfl dX6_least_4 hm (fun x1 hm => ?_)
  refine lv_if_eq (tgt := 13) hx hb dX6_least_7 (by decide) (fun q => ?_) (fun q => ?_)
  · have hm := ift hm q
    refine lv_aload_n hx hb dX6_least_13 rfl (lv_at hl 0 rfl) ?_
    refine x_getv (T := TX6) (N := 8) hx hb hT hown hK B xV_X_book inlX6 rfl (by decide) q184 rfl dX6_least_14 ?_
    refine x_callVr (rest := []) hx hb hml hT hown hK hA B hl.1 (c_X0_countInside l D cI cZ a) mi_X0_countInside mv_X0_countInside xO_book rfl q319 ⟨rfl, rfl⟩ ⟨Nat.le_of_ble_eq_true rfl, Nat.le_of_ble_eq_true rfl⟩ rfl rfl (Nat.le_of_ble_eq_true rfl) dX6_least_17 hm (fun x2 H locs B hm => ?_)
    refine lv_iconst (v := (2 : Int32)) hx hb dX6_least_20 (by decide) ?_
    refine lv_icmp_ge (tgt := 27) hx hb dX6_least_21 (by decide) (fun q => ?_) (fun q => ?_)
    · have hm := ift hm q
      refine lv_aload_n hx hb dX6_least_27 rfl (lv_at hl 0 rfl) ?_
      refine x_getv (T := TX6) (N := 8) hx hb hT hown hK B xV_X_pairing inlX6 rfl (by decide) q188 rfl dX6_least_28 ?_
      refine x_callVv (rest := []) hx hb hml hT hown hK hA B hl.1 (c_X1_arrange l D cI cZ a) mi_X1_arrange mv_X1_arrange xO_pairing rfl q400 ⟨rfl, rfl⟩ ⟨Nat.le_of_ble_eq_true rfl, Nat.le_of_ble_eq_true rfl⟩ rfl rfl (Nat.le_of_ble_eq_true rfl) dX6_least_31 hm (fun σ H locs B hm => ?_)
      refine lv_aload_n hx hb dX6_least_34 rfl (lv_at hl 0 rfl) ?_
      refine x_getv (T := TX6) (N := 8) hx hb hT hown hK B xV_X_pairing inlX6 rfl (by decide) q188 rfl dX6_least_35 ?_
      refine x_callVr (rest := []) hx hb hml hT hown hK hA B hl.1 (c_X1_leastCost l D cI cZ a) mi_X1_leastCost mv_X1_leastCost xO_pairing rfl q444 ⟨rfl, rfl⟩ ⟨Nat.le_of_ble_eq_true rfl, Nat.le_of_ble_eq_true rfl⟩ rfl rfl (Nat.le_of_ble_eq_true rfl) dX6_least_38 hm (fun x3 H locs B hm => ?_)
      exact x_iret hx hb hr hlk hK B dX6_least_41 hm
    · have hm := iff hm q
      refine lv_bipush (v := (-2 : Int32)) hx hb dX6_least_24 (by decide) ?_
      exact x_iret hx hb hr hlk hK B dX6_least_26 hm
  · have hm := iff hm q
    refine lv_bipush (v := (-3 : Int32)) hx hb dX6_least_10 (by decide) ?_
    exact x_iret hx hb hr hlk hK B dX6_least_12 hm
def f_X1_countWays (σ : Mm) : Option Int32 :=
  (f_X1_wholeSet σ).bind fun x1 =>
  (f_X2_at 4096 65 σ x1).bind fun x2 =>
  some x2
set_option maxHeartbeats 4000000 in
set_option maxRecDepth 100000 in
theorem c_X1_countWays (l : Launch) (D : va_G) (cI cZ : ClassId) (a : Nat → Nat) : CTr l D [(cI, FieldType.int), (cZ, FieldType.boolean)] (xW cI a) yX1_countWays (.code yX1_countWays cX1_countWays 1 (some FieldType.int) :: wsL_law) ({ frames := 1, cells := 0, slots := 0, locals := 21 } : Room) [.ref (a 54)] (fun σ => f_X1_countWays σ) := by
  refine CTr.of (by decide +kernel) (Nat.le_of_ble_eq_true rfl) ?_
  intro σ r hm p e s m below meth c A ls H locs hx hb hr hlk hml hT hown hK hA B hl
  have hown : s.vm.findClass RX1 = some m.cls := hown
  have hl : lv_has ls 1 [(0, .ref (a 54))] := hl
  have hm : f_X1_countWays σ = some r := hm
  unfold f_X1_countWays at hm
  refine lv_aload_n hx hb dX1_countWays_0 rfl (lv_at hl 0 rfl) ?_
  refine x_getv (T := TX1) (N := 8) hx hb hT hown hK B xV_pairing_numbers inlX1 rfl (by decide) q146 rfl dX1_countWays_1 ?_
  refine lv_aload_n hx hb dX1_countWays_4 rfl (lv_at hl 0 rfl) ?_
  refine x_callVr (rest := [.ref (a 61)]) hx hb hml hT hown hK hA B hl.1 (c_X1_wholeSet l D cI cZ a) mi_X1_wholeSet mv_X1_wholeSet xO_pairing rfl q419 ⟨rfl, rfl⟩ ⟨Nat.le_of_ble_eq_true rfl, Nat.le_of_ble_eq_true rfl⟩ rfl rfl (Nat.le_of_ble_eq_true rfl) dX1_countWays_5 hm (fun x1 H locs B hm => ?_)
  refine x_callVr (rest := []) hx hb hml hT hown hK hA B hl.1 (c_X2_at l D cI cZ xV_pairing_numbers_cells xA_pairing_numbers x1) mi_X2_at mv_X2_at xO_pairing_numbers rfl q407 ⟨rfl, rfl⟩ ⟨Nat.le_of_ble_eq_true rfl, Nat.le_of_ble_eq_true rfl⟩ rfl rfl (Nat.le_of_ble_eq_true rfl) dX1_countWays_8 hm (fun x2 H locs B hm => ?_)
  exact x_iretr hx hb hr hlk hK B dX1_countWays_11 hm
def f_X6_ways (σ : Mm) : Option (Int32 × Mm) :=
  (some (σ 4 0)).bind fun x1 =>
  if x1 = 0 then
    (f_X0_countInside σ).bind fun x2 =>
    if (2 : Int32) ≤ x2 then
      (f_X1_arrange σ).bind fun σ =>
      (f_X1_countWays σ).bind fun x3 =>
      some (x3, σ)
    else
      some ((-2 : Int32), σ)
  else
    some ((-3 : Int32), σ)
set_option maxHeartbeats 4000000 in
set_option maxRecDepth 100000 in
theorem c_X6_ways (l : Launch) (D : va_G) (cI cZ : ClassId) (a : Nat → Nat) : CTi l D [(cI, FieldType.int), (cZ, FieldType.boolean)] (xW cI a) yX6_ways (.code yX6_ways cX6_ways 1 (some FieldType.int) :: wsL_law) ({ frames := 6, cells := 0, slots := 0, locals := 132 } : Room) [.ref (a 0)] (fun σ => f_X6_ways σ) := by
  refine CTi.of (by decide +kernel) (Nat.le_of_ble_eq_true rfl) ?_
  intro σ out hm p e s m below meth c A ls H locs hx hb hr hlk hml hT hown hK hA B hl
  have hown : s.vm.findClass RX6 = some m.cls := hown
  have hl : lv_has ls 1 [(0, .ref (a 0))] := hl
  have hm : f_X6_ways σ = some out := hm
  unfold f_X6_ways at hm
  refine lv_aload_n hx hb dX6_ways_0 rfl (lv_at hl 0 rfl) ?_
  refine x_getv (T := TX6) (N := 8) hx hb hT hown hK B xV_X_book inlX6 rfl (by decide) q184 rfl dX6_ways_1 ?_
  refine x_getibN (T := TX0) (N := 12) hx hb hT hown hK B xI_book_open inlX0 rfl (by decide) q58 rfl dX6_ways_4 hm (fun x1 hm => ?_)
  refine lv_if_eq (tgt := 13) hx hb dX6_ways_7 (by decide) (fun q => ?_) (fun q => ?_)
  · have hm := ift hm q
    refine lv_aload_n hx hb dX6_ways_13 rfl (lv_at hl 0 rfl) ?_
    refine x_getv (T := TX6) (N := 8) hx hb hT hown hK B xV_X_book inlX6 rfl (by decide) q184 rfl dX6_ways_14 ?_
    refine x_callVr (rest := []) hx hb hml hT hown hK hA B hl.1 (c_X0_countInside l D cI cZ a) mi_X0_countInside mv_X0_countInside xO_book rfl q319 ⟨rfl, rfl⟩ ⟨Nat.le_of_ble_eq_true rfl, Nat.le_of_ble_eq_true rfl⟩ rfl rfl (Nat.le_of_ble_eq_true rfl) dX6_ways_17 hm (fun x2 H locs B hm => ?_)
    refine lv_iconst (v := (2 : Int32)) hx hb dX6_ways_20 (by decide) ?_
    refine lv_icmp_ge (tgt := 27) hx hb dX6_ways_21 (by decide) (fun q => ?_) (fun q => ?_)
    · have hm := ift hm q
      refine lv_aload_n hx hb dX6_ways_27 rfl (lv_at hl 0 rfl) ?_
      refine x_getv (T := TX6) (N := 8) hx hb hT hown hK B xV_X_pairing inlX6 rfl (by decide) q188 rfl dX6_ways_28 ?_
      refine x_callVv (rest := []) hx hb hml hT hown hK hA B hl.1 (c_X1_arrange l D cI cZ a) mi_X1_arrange mv_X1_arrange xO_pairing rfl q400 ⟨rfl, rfl⟩ ⟨Nat.le_of_ble_eq_true rfl, Nat.le_of_ble_eq_true rfl⟩ rfl rfl (Nat.le_of_ble_eq_true rfl) dX6_ways_31 hm (fun σ H locs B hm => ?_)
      refine lv_aload_n hx hb dX6_ways_34 rfl (lv_at hl 0 rfl) ?_
      refine x_getv (T := TX6) (N := 8) hx hb hT hown hK B xV_X_pairing inlX6 rfl (by decide) q188 rfl dX6_ways_35 ?_
      refine x_callVr (rest := []) hx hb hml hT hown hK hA B hl.1 (c_X1_countWays l D cI cZ a) mi_X1_countWays mv_X1_countWays xO_pairing rfl q478 ⟨rfl, rfl⟩ ⟨Nat.le_of_ble_eq_true rfl, Nat.le_of_ble_eq_true rfl⟩ rfl rfl (Nat.le_of_ble_eq_true rfl) dX6_ways_38 hm (fun x3 H locs B hm => ?_)
      exact x_iret hx hb hr hlk hK B dX6_ways_41 hm
    · have hm := iff hm q
      refine lv_bipush (v := (-2 : Int32)) hx hb dX6_ways_24 (by decide) ?_
      exact x_iret hx hb hr hlk hK B dX6_ways_26 hm
  · have hm := iff hm q
    refine lv_bipush (v := (-3 : Int32)) hx hb dX6_ways_10 (by decide) ?_
    exact x_iret hx hb hr hlk hK B dX6_ways_12 hm
def f_X6_isRound (σ : Mm) (w1 : Int32) : Option Int32 :=
  if w1 < 0 then
    some (0 : Int32)
  else
    if (σ 3 0) ≤ w1 then
      some (0 : Int32)
    else
      some (1 : Int32)
set_option maxHeartbeats 4000000 in
set_option maxRecDepth 100000 in
theorem c_X6_isRound (l : Launch) (D : va_G) (cI cZ : ClassId) (a : Nat → Nat) (w1 : Int32) : CTr l D [(cI, FieldType.int), (cZ, FieldType.boolean)] (xW cI a) yX6_isRound (.code yX6_isRound cX6_isRound 2 (some FieldType.boolean) :: wsL_law) ({ frames := 0, cells := 0, slots := 0, locals := 0 } : Room) [.ref (a 0), .int w1] (fun σ => f_X6_isRound σ w1) := by
  refine CTr.of (by decide +kernel) (Nat.le_of_ble_eq_true rfl) ?_
  intro σ r hm p e s m below meth c A ls H locs hx hb hr hlk hml hT hown hK hA B hl
  have hown : s.vm.findClass RX6 = some m.cls := hown
  have hl : lv_has ls 2 [(0, .ref (a 0)), (1, .int w1)] := hl
  have hm : f_X6_isRound σ w1 = some r := hm
  unfold f_X6_isRound at hm
  refine lv_iload_n hx hb dX6_isRound_0 rfl (lv_at hl 1 rfl) ?_
  refine lv_if_lt (tgt := 19) hx hb dX6_isRound_1 (by decide) (fun q => ?_) (fun q => ?_)
  · have hm := ift hm q
    refine lv_iconst (v := (0 : Int32)) hx hb dX6_isRound_19 (by decide) ?_
    exact x_zretr hx hb hr hlk hK B rfl dX6_isRound_20 hm
  · have hm := iff hm q
    refine lv_iload_n hx hb dX6_isRound_4 rfl (lv_at hl 1 rfl) ?_
    refine lv_aload_n hx hb dX6_isRound_5 rfl (lv_at hl 0 rfl) ?_
    refine x_getv (T := TX6) (N := 8) hx hb hT hown hK B xV_X_book inlX6 rfl (by decide) q184 rfl dX6_isRound_6 ?_
    refine x_getiN (T := TX0) (N := 12) hx hb hT hown hK B xI_book_rounds inlX0 rfl (by decide) q57 rfl dX6_isRound_9 ?_
    refine lv_icmp_ge (tgt := 19) hx hb dX6_isRound_12 (by decide) (fun q => ?_) (fun q => ?_)
    · have hm := ift hm q
      refine lv_iconst (v := (0 : Int32)) hx hb dX6_isRound_19 (by decide) ?_
      exact x_zretr hx hb hr hlk hK B rfl dX6_isRound_20 hm
    · have hm := iff hm q
      refine lv_iconst (v := (1 : Int32)) hx hb dX6_isRound_15 (by decide) ?_
      refine lv_goto (tgt := 20) hx hb dX6_isRound_16 (by decide) ?_
      exact x_zretr hx hb hr hlk hK B rfl dX6_isRound_20 hm
def f_X6_board (σ : Mm) (w1 : Int32) (w2 : Int32) (w3 : Int32) : Option Int32 :=
  (f_X6_isRound σ w1).bind fun x1 =>
  if x1 = 0 then
    some (-1 : Int32)
  else
    if w2 < 0 then
      some (-1 : Int32)
    else
      (f_X2_at 20 5 σ w1).bind fun x2 =>
      if w2 < x2 then
        (f_X0_boardCell w1 w2).bind fun x3 =>
        if w3 = (0 : Int32) then
          (f_X2_at 120 7 σ x3).bind fun x4 =>
          some x4
        else
          if w3 = (1 : Int32) then
            (f_X2_at 120 8 σ x3).bind fun x5 =>
            some x5
          else
            if w3 = (2 : Int32) then
              (f_X2_at 120 9 σ x3).bind fun x6 =>
              some x6
            else
              some (-1 : Int32)
      else
        some (-1 : Int32)
set_option maxHeartbeats 4000000 in
set_option maxRecDepth 100000 in
theorem c_X6_board (l : Launch) (D : va_G) (cI cZ : ClassId) (a : Nat → Nat) (w1 : Int32) (w2 : Int32) (w3 : Int32) : CTr l D [(cI, FieldType.int), (cZ, FieldType.boolean)] (xW cI a) yX6_board (.code yX6_board cX6_board 5 (some FieldType.int) :: wsL_law) ({ frames := 1, cells := 0, slots := 0, locals := 21 } : Room) [.ref (a 0), .int w1, .int w2, .int w3] (fun σ => f_X6_board σ w1 w2 w3) := by
  refine CTr.of (by decide +kernel) (Nat.le_of_ble_eq_true rfl) ?_
  intro σ r hm p e s m below meth c A ls H locs hx hb hr hlk hml hT hown hK hA B hl
  have hown : s.vm.findClass RX6 = some m.cls := hown
  have hl : lv_has ls 5 [(0, .ref (a 0)), (1, .int w1), (2, .int w2), (3, .int w3)] := hl
  have hm : f_X6_board σ w1 w2 w3 = some r := hm
  unfold f_X6_board at hm
  refine lv_aload_n hx hb dX6_board_0 rfl (lv_at hl 0 rfl) ?_
  refine lv_iload_n hx hb dX6_board_1 rfl (lv_at hl 1 rfl) ?_
  refine x_callVr (rest := []) hx hb hml hT hown hK hA B hl.1 (c_X6_isRound l D cI cZ a w1) mi_X6_isRound mv_X6_isRound xO_X rfl q486 ⟨rfl, rfl⟩ ⟨Nat.le_of_ble_eq_true rfl, Nat.le_of_ble_eq_true rfl⟩ rfl rfl (Nat.le_of_ble_eq_true rfl) dX6_board_2 hm (fun x1 H locs B hm => ?_)
  refine lv_if_eq (tgt := 27) hx hb dX6_board_5 (by decide) (fun q => ?_) (fun q => ?_)
  · have hm := ift hm q
    refine lv_iconst (v := (-1 : Int32)) hx hb dX6_board_27 (by decide) ?_
    exact x_iretr hx hb hr hlk hK B dX6_board_28 hm
  · have hm := iff hm q
    refine lv_iload_n hx hb dX6_board_8 rfl (lv_at hl 2 rfl) ?_
    refine lv_if_lt (tgt := 27) hx hb dX6_board_9 (by decide) (fun q => ?_) (fun q => ?_)
    · have hm := ift hm q
      refine lv_iconst (v := (-1 : Int32)) hx hb dX6_board_27 (by decide) ?_
      exact x_iretr hx hb hr hlk hK B dX6_board_28 hm
    · have hm := iff hm q
      refine lv_iload_n hx hb dX6_board_12 rfl (lv_at hl 2 rfl) ?_
      refine lv_aload_n hx hb dX6_board_13 rfl (lv_at hl 0 rfl) ?_
      refine x_getv (T := TX6) (N := 8) hx hb hT hown hK B xV_X_book inlX6 rfl (by decide) q184 rfl dX6_board_14 ?_
      refine x_getvN (T := TX0) (N := 12) hx hb hT hown hK B xV_book_boards inlX0 rfl (by decide) q62 rfl dX6_board_17 ?_
      refine lv_iload_n hx hb dX6_board_20 rfl (lv_at hl 1 rfl) ?_
      refine x_callVr (rest := [.int w2]) hx hb hml hT hown hK hA B hl.1 (c_X2_at l D cI cZ xV_book_boards_cells xA_book_boards w1) mi_X2_at mv_X2_at xO_book_boards rfl q317 ⟨rfl, rfl⟩ ⟨Nat.le_of_ble_eq_true rfl, Nat.le_of_ble_eq_true rfl⟩ rfl rfl (Nat.le_of_ble_eq_true rfl) dX6_board_21 hm (fun x2 H locs B hm => ?_)
      refine lv_icmp_lt (tgt := 29) hx hb dX6_board_24 (by decide) (fun q => ?_) (fun q => ?_)
      · have hm := ift hm q
        refine lv_iload_n hx hb dX6_board_29 rfl (lv_at hl 1 rfl) ?_
        refine lv_iload_n hx hb dX6_board_30 rfl (lv_at hl 2 rfl) ?_
        refine x_callSr (rest := []) hx hb hml hT hown hK hA B hl.1 (c_X0_boardCell l D cI cZ (xW cI a) w1 w2) mi_X0_boardCell q231 q489 ⟨rfl, rfl⟩ ⟨Nat.le_of_ble_eq_true rfl, Nat.le_of_ble_eq_true rfl⟩ rfl rfl (Nat.le_of_ble_eq_true rfl) dX6_board_31 hm (fun x3 H locs B hm => ?_)
        refine lv_istore (lv' := [(4, .int x3), (0, .ref (a 0)), (1, .int w1), (2, .int w2), (3, .int w3)]) hx hb dX6_board_34 hl (by decide) rfl (fun ls hl => ?_)
        refine lv_iload_n hx hb dX6_board_36 rfl (lv_at hl 4 rfl) ?_
        by_cases q0 : w3 = (0 : Int32)
        · have hm := ift hm q0
          refine lv_tableIn (off := 27) (tgt := 64) hx hb dX6_board_37 (by rw [q0]; decide) (by rw [q0]; decide) (by rw [q0]; rfl) (by decide) ?_
          refine lv_aload_n hx hb dX6_board_64 rfl (lv_at hl 1 rfl) ?_
          refine x_getv (T := TX6) (N := 8) hx hb hT hown hK B xV_X_book inlX6 rfl (by decide) q184 rfl dX6_board_65 ?_
          refine x_getvN (T := TX0) (N := 12) hx hb hT hown hK B xV_book_whites inlX0 rfl (by decide) q68 rfl dX6_board_68 ?_
          refine lv_iload hx hb dX6_board_71 (lv_at hl 0 rfl) ?_
          refine x_callVr (rest := []) hx hb hml hT hown hK hA B hl.1 (c_X2_at l D cI cZ xV_book_whites_cells xA_book_whites x3) mi_X2_at mv_X2_at xO_book_whites rfl q317 ⟨rfl, rfl⟩ ⟨Nat.le_of_ble_eq_true rfl, Nat.le_of_ble_eq_true rfl⟩ rfl rfl (Nat.le_of_ble_eq_true rfl) dX6_board_73 hm (fun x4 H locs B hm => ?_)
          exact x_iretr hx hb hr hlk hK B dX6_board_76 hm
        · have hm := iff hm q0
          by_cases q1 : w3 = (1 : Int32)
          · have hm := ift hm q1
            refine lv_tableIn (off := 40) (tgt := 77) hx hb dX6_board_37 (by rw [q1]; decide) (by rw [q1]; decide) (by rw [q1]; rfl) (by decide) ?_
            refine lv_aload_n hx hb dX6_board_77 rfl (lv_at hl 1 rfl) ?_
            refine x_getv (T := TX6) (N := 8) hx hb hT hown hK B xV_X_book inlX6 rfl (by decide) q184 rfl dX6_board_78 ?_
            refine x_getvN (T := TX0) (N := 12) hx hb hT hown hK B xV_book_blacks inlX0 rfl (by decide) q71 rfl dX6_board_81 ?_
            refine lv_iload hx hb dX6_board_84 (lv_at hl 0 rfl) ?_
            refine x_callVr (rest := []) hx hb hml hT hown hK hA B hl.1 (c_X2_at l D cI cZ xV_book_blacks_cells xA_book_blacks x3) mi_X2_at mv_X2_at xO_book_blacks rfl q317 ⟨rfl, rfl⟩ ⟨Nat.le_of_ble_eq_true rfl, Nat.le_of_ble_eq_true rfl⟩ rfl rfl (Nat.le_of_ble_eq_true rfl) dX6_board_86 hm (fun x5 H locs B hm => ?_)
            exact x_iretr hx hb hr hlk hK B dX6_board_89 hm
          · have hm := iff hm q1
            by_cases q2 : w3 = (2 : Int32)
            · have hm := ift hm q2
              refine lv_tableIn (off := 53) (tgt := 90) hx hb dX6_board_37 (by rw [q2]; decide) (by rw [q2]; decide) (by rw [q2]; rfl) (by decide) ?_
              refine lv_aload_n hx hb dX6_board_90 rfl (lv_at hl 1 rfl) ?_
              refine x_getv (T := TX6) (N := 8) hx hb hT hown hK B xV_X_book inlX6 rfl (by decide) q184 rfl dX6_board_91 ?_
              refine x_getvN (T := TX0) (N := 12) hx hb hT hown hK B xV_book_outcomes inlX0 rfl (by decide) q73 rfl dX6_board_94 ?_
              refine lv_iload hx hb dX6_board_97 (lv_at hl 0 rfl) ?_
              refine x_callVr (rest := []) hx hb hml hT hown hK hA B hl.1 (c_X2_at l D cI cZ xV_book_outcomes_cells xA_book_outcomes x3) mi_X2_at mv_X2_at xO_book_outcomes rfl q317 ⟨rfl, rfl⟩ ⟨Nat.le_of_ble_eq_true rfl, Nat.le_of_ble_eq_true rfl⟩ rfl rfl (Nat.le_of_ble_eq_true rfl) dX6_board_99 hm (fun x6 H locs B hm => ?_)
              exact x_iretr hx hb hr hlk hK B dX6_board_102 hm
            · have hm := iff hm q2
              have z0 := lv_neT (k := (0 : Int32)) (a := 0) q0 (by decide)
              have z1 := lv_neT (k := (1 : Int32)) (a := 1) q1 (by decide)
              have z2 := lv_neT (k := (2 : Int32)) (a := 2) q2 (by decide)
              refine lv_tableOut (tgt := 103) hx hb dX6_board_37 (by omega) (by decide) ?_
              refine lv_iconst (v := (-1 : Int32)) hx hb dX6_board_103 (by decide) ?_
              exact x_iretr hx hb hr hlk hK B dX6_board_104 hm
      · have hm := iff hm q
        refine lv_iconst (v := (-1 : Int32)) hx hb dX6_board_27 (by decide) ?_
        exact x_iretr hx hb hr hlk hK B dX6_board_28 hm
def f_X6_bye (σ : Mm) (w1 : Int32) : Option Int32 :=
  (f_X6_isRound σ w1).bind fun x1 =>
  if x1 = 0 then
    some (-1 : Int32)
  else
    (f_X2_at 20 6 σ w1).bind fun x2 =>
    some x2
set_option maxHeartbeats 4000000 in
set_option maxRecDepth 100000 in
theorem c_X6_bye (l : Launch) (D : va_G) (cI cZ : ClassId) (a : Nat → Nat) (w1 : Int32) : CTr l D [(cI, FieldType.int), (cZ, FieldType.boolean)] (xW cI a) yX6_bye (.code yX6_bye cX6_bye 2 (some FieldType.int) :: wsL_law) ({ frames := 1, cells := 0, slots := 0, locals := 21 } : Room) [.ref (a 0), .int w1] (fun σ => f_X6_bye σ w1) := by
  refine CTr.of (by decide +kernel) (Nat.le_of_ble_eq_true rfl) ?_
  intro σ r hm p e s m below meth c A ls H locs hx hb hr hlk hml hT hown hK hA B hl
  have hown : s.vm.findClass RX6 = some m.cls := hown
  have hl : lv_has ls 2 [(0, .ref (a 0)), (1, .int w1)] := hl
  have hm : f_X6_bye σ w1 = some r := hm
  unfold f_X6_bye at hm
  refine lv_aload_n hx hb dX6_bye_0 rfl (lv_at hl 0 rfl) ?_
  refine lv_iload_n hx hb dX6_bye_1 rfl (lv_at hl 1 rfl) ?_
  refine x_callVr (rest := []) hx hb hml hT hown hK hA B hl.1 (c_X6_isRound l D cI cZ a w1) mi_X6_isRound mv_X6_isRound xO_X rfl q486 ⟨rfl, rfl⟩ ⟨Nat.le_of_ble_eq_true rfl, Nat.le_of_ble_eq_true rfl⟩ rfl rfl (Nat.le_of_ble_eq_true rfl) dX6_bye_2 hm (fun x1 H locs B hm => ?_)
  refine lv_if_eq (tgt := 22) hx hb dX6_bye_5 (by decide) (fun q => ?_) (fun q => ?_)
  · have hm := ift hm q
    refine lv_iconst (v := (-1 : Int32)) hx hb dX6_bye_22 (by decide) ?_
    exact x_iretr hx hb hr hlk hK B dX6_bye_23 hm
  · have hm := iff hm q
    refine lv_aload_n hx hb dX6_bye_8 rfl (lv_at hl 0 rfl) ?_
    refine x_getv (T := TX6) (N := 8) hx hb hT hown hK B xV_X_book inlX6 rfl (by decide) q184 rfl dX6_bye_9 ?_
    refine x_getvN (T := TX0) (N := 12) hx hb hT hown hK B xV_book_byes inlX0 rfl (by decide) q65 rfl dX6_bye_12 ?_
    refine lv_iload_n hx hb dX6_bye_15 rfl (lv_at hl 1 rfl) ?_
    refine x_callVr (rest := []) hx hb hml hT hown hK hA B hl.1 (c_X2_at l D cI cZ xV_book_byes_cells xA_book_byes w1) mi_X2_at mv_X2_at xO_book_byes rfl q317 ⟨rfl, rfl⟩ ⟨Nat.le_of_ble_eq_true rfl, Nat.le_of_ble_eq_true rfl⟩ rfl rfl (Nat.le_of_ble_eq_true rfl) dX6_bye_16 hm (fun x2 H locs B hm => ?_)
    refine lv_goto (tgt := 23) hx hb dX6_bye_19 (by decide) ?_
    exact x_iretr hx hb hr hlk hK B dX6_bye_23 hm
def f_X6_result (σ : Mm) (w1 : Int32) (w2 : Int32) : Option (Int32 × Mm) :=
  (some (σ 4 0)).bind fun x1 =>
  if x1 = 0 then
    some ((-3 : Int32), σ)
  else
    (some (σ 3 0)).bind fun x2 =>
    if w1 < 0 then
      some ((-1 : Int32), σ)
    else
      (f_X2_at 20 5 σ (x2 - (1 : Int32))).bind fun x3 =>
      if w1 < x3 then
        if w2 < 0 then
          some ((-2 : Int32), σ)
        else
          if w2 ≤ (6 : Int32) then
            (f_X0_boardCell (x2 - (1 : Int32)) w1).bind fun x4 =>
            (f_X2_at 120 9 σ x4).bind fun x5 =>
            (f_X2_put 120 9 σ x4 w2).bind fun σ =>
            some (x5, σ)
          else
            some ((-2 : Int32), σ)
      else
        some ((-1 : Int32), σ)
set_option maxHeartbeats 4000000 in
set_option maxRecDepth 100000 in
theorem c_X6_result (l : Launch) (D : va_G) (cI cZ : ClassId) (a : Nat → Nat) (w1 : Int32) (w2 : Int32) : CTi l D [(cI, FieldType.int), (cZ, FieldType.boolean)] (xW cI a) yX6_result (.code yX6_result cX6_result 6 (some FieldType.int) :: wsL_law) ({ frames := 1, cells := 0, slots := 0, locals := 22 } : Room) [.ref (a 0), .int w1, .int w2] (fun σ => f_X6_result σ w1 w2) := by
  refine CTi.of (by decide +kernel) (Nat.le_of_ble_eq_true rfl) ?_
  intro σ out hm p e s m below meth c A ls H locs hx hb hr hlk hml hT hown hK hA B hl
  have hown : s.vm.findClass RX6 = some m.cls := hown
  have hl : lv_has ls 6 [(0, .ref (a 0)), (1, .int w1), (2, .int w2)] := hl
  have hm : f_X6_result σ w1 w2 = some out := hm
  unfold f_X6_result at hm
  refine lv_aload_n hx hb dX6_result_0 rfl (lv_at hl 0 rfl) ?_
  refine x_getv (T := TX6) (N := 8) hx hb hT hown hK B xV_X_book inlX6 rfl (by decide) q184 rfl dX6_result_1 ?_
  refine x_getibN (T := TX0) (N := 12) hx hb hT hown hK B xI_book_open inlX0 rfl (by decide) q58 rfl dX6_result_4 hm (fun x1 hm => ?_)
  refine lv_if_ne (tgt := 13) hx hb dX6_result_7 (by decide) (fun q => ?_) (fun q => ?_)
  · have hm := iff hm q
    refine lv_aload_n hx hb dX6_result_13 rfl (lv_at hl 0 rfl) ?_
    refine x_getv (T := TX6) (N := 8) hx hb hT hown hK B xV_X_book inlX6 rfl (by decide) q184 rfl dX6_result_14 ?_
    refine x_getibN (T := TX0) (N := 12) hx hb hT hown hK B xI_book_rounds inlX0 rfl (by decide) q57 rfl dX6_result_17 hm (fun x2 hm => ?_)
    refine lv_iconst (v := (1 : Int32)) hx hb dX6_result_20 (by decide) ?_
    refine lv_isub hx hb dX6_result_21 ?_
    refine lv_istore_n (lv' := [(3, .int (x2 - (1 : Int32))), (0, .ref (a 0)), (1, .int w1), (2, .int w2)]) hx hb dX6_result_22 rfl hl (by decide) rfl (fun ls hl => ?_)
    refine lv_iload_n hx hb dX6_result_23 rfl (lv_at hl 2 rfl) ?_
    refine lv_if_lt (tgt := 42) hx hb dX6_result_24 (by decide) (fun q => ?_) (fun q => ?_)
    · have hm := ift hm q
      refine lv_iconst (v := (-1 : Int32)) hx hb dX6_result_42 (by decide) ?_
      exact x_iret hx hb hr hlk hK B dX6_result_43 hm
    · have hm := iff hm q
      refine lv_iload_n hx hb dX6_result_27 rfl (lv_at hl 2 rfl) ?_
      refine lv_aload_n hx hb dX6_result_28 rfl (lv_at hl 1 rfl) ?_
      refine x_getv (T := TX6) (N := 8) hx hb hT hown hK B xV_X_book inlX6 rfl (by decide) q184 rfl dX6_result_29 ?_
      refine x_getvN (T := TX0) (N := 12) hx hb hT hown hK B xV_book_boards inlX0 rfl (by decide) q62 rfl dX6_result_32 ?_
      refine lv_iload_n hx hb dX6_result_35 rfl (lv_at hl 0 rfl) ?_
      refine x_callVr (rest := [.int w1]) hx hb hml hT hown hK hA B hl.1 (c_X2_at l D cI cZ xV_book_boards_cells xA_book_boards (x2 - (1 : Int32))) mi_X2_at mv_X2_at xO_book_boards rfl q317 ⟨rfl, rfl⟩ ⟨Nat.le_of_ble_eq_true rfl, Nat.le_of_ble_eq_true rfl⟩ rfl rfl (Nat.le_of_ble_eq_true rfl) dX6_result_36 hm (fun x3 H locs B hm => ?_)
      refine lv_icmp_lt (tgt := 44) hx hb dX6_result_39 (by decide) (fun q => ?_) (fun q => ?_)
      · have hm := ift hm q
        refine lv_iload_n hx hb dX6_result_44 rfl (lv_at hl 3 rfl) ?_
        refine lv_if_lt (tgt := 54) hx hb dX6_result_45 (by decide) (fun q => ?_) (fun q => ?_)
        · have hm := ift hm q
          refine lv_bipush (v := (-2 : Int32)) hx hb dX6_result_54 (by decide) ?_
          exact x_iret hx hb hr hlk hK B dX6_result_56 hm
        · have hm := iff hm q
          refine lv_iload_n hx hb dX6_result_48 rfl (lv_at hl 3 rfl) ?_
          refine lv_bipush (v := (6 : Int32)) hx hb dX6_result_49 (by decide) ?_
          refine lv_icmp_le (tgt := 57) hx hb dX6_result_51 (by decide) (fun q => ?_) (fun q => ?_)
          · have hm := ift hm q
            refine lv_iload_n hx hb dX6_result_57 rfl (lv_at hl 0 rfl) ?_
            refine lv_iload_n hx hb dX6_result_58 rfl (lv_at hl 2 rfl) ?_
            refine x_callSr (rest := []) hx hb hml hT hown hK hA B hl.1 (c_X0_boardCell l D cI cZ (xW cI a) (x2 - (1 : Int32)) w1) mi_X0_boardCell q231 q489 ⟨rfl, rfl⟩ ⟨Nat.le_of_ble_eq_true rfl, Nat.le_of_ble_eq_true rfl⟩ rfl rfl (Nat.le_of_ble_eq_true rfl) dX6_result_59 hm (fun x4 H locs B hm => ?_)
            refine lv_istore (lv' := [(4, .int x4), (3, .int (x2 - (1 : Int32))), (0, .ref (a 0)), (1, .int w1), (2, .int w2)]) hx hb dX6_result_62 hl (by decide) rfl (fun ls hl => ?_)
            refine lv_aload_n hx hb dX6_result_64 rfl (lv_at hl 2 rfl) ?_
            refine x_getv (T := TX6) (N := 8) hx hb hT hown hK B xV_X_book inlX6 rfl (by decide) q184 rfl dX6_result_65 ?_
            refine x_getvN (T := TX0) (N := 12) hx hb hT hown hK B xV_book_outcomes inlX0 rfl (by decide) q73 rfl dX6_result_68 ?_
            refine lv_iload hx hb dX6_result_71 (lv_at hl 0 rfl) ?_
            refine x_callVr (rest := []) hx hb hml hT hown hK hA B hl.1 (c_X2_at l D cI cZ xV_book_outcomes_cells xA_book_outcomes x4) mi_X2_at mv_X2_at xO_book_outcomes rfl q317 ⟨rfl, rfl⟩ ⟨Nat.le_of_ble_eq_true rfl, Nat.le_of_ble_eq_true rfl⟩ rfl rfl (Nat.le_of_ble_eq_true rfl) dX6_result_73 hm (fun x5 H locs B hm => ?_)
            refine lv_istore (lv' := [(5, .int x5), (4, .int x4), (3, .int (x2 - (1 : Int32))), (0, .ref (a 0)), (1, .int w1), (2, .int w2)]) hx hb dX6_result_76 hl (by decide) rfl (fun ls hl => ?_)
            refine lv_aload_n hx hb dX6_result_78 rfl (lv_at hl 3 rfl) ?_
            refine x_getv (T := TX6) (N := 8) hx hb hT hown hK B xV_X_book inlX6 rfl (by decide) q184 rfl dX6_result_79 ?_
            refine x_getvN (T := TX0) (N := 12) hx hb hT hown hK B xV_book_outcomes inlX0 rfl (by decide) q73 rfl dX6_result_82 ?_
            refine lv_iload hx hb dX6_result_85 (lv_at hl 1 rfl) ?_
            refine lv_iload_n hx hb dX6_result_87 rfl (lv_at hl 5 rfl) ?_
            refine x_callVv (rest := []) hx hb hml hT hown hK hA B hl.1 (c_X2_put l D cI cZ xV_book_outcomes_cells xA_book_outcomes x4 w2) mi_X2_put mv_X2_put xO_book_outcomes rfl q318 ⟨rfl, rfl⟩ ⟨Nat.le_of_ble_eq_true rfl, Nat.le_of_ble_eq_true rfl⟩ rfl rfl (Nat.le_of_ble_eq_true rfl) dX6_result_88 hm (fun σ H locs B hm => ?_)
            refine lv_iload hx hb dX6_result_91 (lv_at hl 0 rfl) ?_
            exact x_iret hx hb hr hlk hK B dX6_result_93 hm
          · have hm := iff hm q
            refine lv_bipush (v := (-2 : Int32)) hx hb dX6_result_54 (by decide) ?_
            exact x_iret hx hb hr hlk hK B dX6_result_56 hm
      · have hm := iff hm q
        refine lv_iconst (v := (-1 : Int32)) hx hb dX6_result_42 (by decide) ?_
        exact x_iret hx hb hr hlk hK B dX6_result_43 hm
  · have hm := ift hm q
    refine lv_bipush (v := (-3 : Int32)) hx hb dX6_result_10 (by decide) ?_
    exact x_iret hx hb hr hlk hK B dX6_result_12 hm
def f_X0_countOutcomes_s4 (σ : Mm) (v1 : Int32) (r4 : Int32 → Int32 → Option Int32) (v2 v3 : Int32) : Option Int32 :=
  (f_X2_at 20 5 σ v1).bind fun x1 =>
  if x1 ≤ v3 then
    some v2
  else
    (f_X0_boardCell v1 v3).bind fun x2 =>
    (f_X2_at 120 9 σ x2).bind fun x3 =>
    if x3 = 0 then
      r4 v2 (v3 + (1 : Int32))
    else
      r4 (v2 + (1 : Int32)) (v3 + (1 : Int32))
def f_X0_countOutcomes (σ : Mm) (w1 : Int32) : Option Int32 :=
  wh2 (f_X0_countOutcomes_s4 σ w1) 5000 (0 : Int32) (0 : Int32)
set_option maxHeartbeats 4000000 in
set_option maxRecDepth 100000 in
theorem c_X0_countOutcomes (l : Launch) (D : va_G) (cI cZ : ClassId) (a : Nat → Nat) (w1 : Int32) : CTr l D [(cI, FieldType.int), (cZ, FieldType.boolean)] (xW cI a) yX0_countOutcomes (.code yX0_countOutcomes cX0_countOutcomes 4 (some FieldType.int) :: wsL_law) ({ frames := 1, cells := 0, slots := 0, locals := 21 } : Room) [.ref (a 1), .int w1] (fun σ => f_X0_countOutcomes σ w1) := by
  refine CTr.of (by decide +kernel) (Nat.le_of_ble_eq_true rfl) ?_
  intro σ r hm p e s m below meth c A ls H locs hx hb hr hlk hml hT hown hK hA B hl
  have hown : s.vm.findClass RX0 = some m.cls := hown
  have hl : lv_has ls 4 [(0, .ref (a 1)), (1, .int w1)] := hl
  have hm : f_X0_countOutcomes σ w1 = some r := hm
  unfold f_X0_countOutcomes at hm
  have L4 : ∀ (v1 : Int32) (nn : Nat) (v2 : Int32) (v3 : Int32), wh2 (f_X0_countOutcomes_s4 σ v1) nn v2 v3 = some r → ∀ (H : Heap) (locs : List Loc) (ls : Array Slot), BD D A s.heap ((xW cI a) σ) H locs → lv_has ls 4 [(0, .ref (a 1)), (1, .int v1), (2, .int v2), (3, .int v3)] → W p l e ({ frames := 1, cells := 0, slots := 0, locals := 21 } : Room) s m ([.ref (a 1), .int w1] : List Value).toArray below meth c H locs 0 0 (MQ below (QI D [(cI, FieldType.int), (cZ, FieldType.boolean)] (xW cI a) A (r, σ)) ([.ref (a 1), .int w1] : List Value).toArray s 0 0 A) (F0 m 4 ls []) := by
    intro v1
    refine loop2 (fun r4 ih4 v2 v3 hm H locs ls B hl => ?_)
    unfold f_X0_countOutcomes_s4 at hm
    refine lv_iload_n hx hb dX0_countOutcomes_4 rfl (lv_at hl 3 rfl) ?_
    refine lv_aload_n hx hb dX0_countOutcomes_5 rfl (lv_at hl 0 rfl) ?_
    refine x_getv (T := TX0) (N := 12) hx hb hT hown hK B xV_book_boards inlX0 rfl (by decide) q60 rfl dX0_countOutcomes_6 ?_
    refine lv_iload_n hx hb dX0_countOutcomes_9 rfl (lv_at hl 1 rfl) ?_
    refine x_callVr (rest := [.int v3]) hx hb hml hT hown hK hA B hl.1 (c_X2_at l D cI cZ xV_book_boards_cells xA_book_boards v1) mi_X2_at mv_X2_at xO_book_boards rfl q241 ⟨rfl, rfl⟩ ⟨Nat.le_of_ble_eq_true rfl, Nat.le_of_ble_eq_true rfl⟩ rfl rfl (Nat.le_of_ble_eq_true rfl) dX0_countOutcomes_10 hm (fun x1 H locs B hm => ?_)
    refine lv_icmp_ge (tgt := 40) hx hb dX0_countOutcomes_13 (by decide) (fun q => ?_) (fun q => ?_)
    · have hm := ift hm q
      refine lv_iload_n hx hb dX0_countOutcomes_40 rfl (lv_at hl 2 rfl) ?_
      exact x_iretr hx hb hr hlk hK B dX0_countOutcomes_41 hm
    · have hm := iff hm q
      refine lv_aload_n hx hb dX0_countOutcomes_16 rfl (lv_at hl 0 rfl) ?_
      refine x_getv (T := TX0) (N := 12) hx hb hT hown hK B xV_book_outcomes inlX0 rfl (by decide) q72 rfl dX0_countOutcomes_17 ?_
      refine lv_iload_n hx hb dX0_countOutcomes_20 rfl (lv_at hl 1 rfl) ?_
      refine lv_iload_n hx hb dX0_countOutcomes_21 rfl (lv_at hl 3 rfl) ?_
      refine x_callSr (rest := [.ref (a 14)]) hx hb hml hT hown hK hA B hl.1 (c_X0_boardCell l D cI cZ (xW cI a) v1 v3) mi_X0_boardCell q231 q240 ⟨rfl, rfl⟩ ⟨Nat.le_of_ble_eq_true rfl, Nat.le_of_ble_eq_true rfl⟩ rfl rfl (Nat.le_of_ble_eq_true rfl) dX0_countOutcomes_22 hm (fun x2 H locs B hm => ?_)
      refine x_callVr (rest := []) hx hb hml hT hown hK hA B hl.1 (c_X2_at l D cI cZ xV_book_outcomes_cells xA_book_outcomes x2) mi_X2_at mv_X2_at xO_book_outcomes rfl q241 ⟨rfl, rfl⟩ ⟨Nat.le_of_ble_eq_true rfl, Nat.le_of_ble_eq_true rfl⟩ rfl rfl (Nat.le_of_ble_eq_true rfl) dX0_countOutcomes_25 hm (fun x3 H locs B hm => ?_)
      refine lv_if_eq (tgt := 34) hx hb dX0_countOutcomes_28 (by decide) (fun q => ?_) (fun q => ?_)
      · have hm := ift hm q
        refine lv_iinc (v := (v3 + (1 : Int32))) (lv' := [(3, .int (v3 + (1 : Int32))), (0, .ref (a 1)), (1, .int v1), (2, .int v2)]) hx hb dX0_countOutcomes_34 hl (k := 3) rfl rfl (by decide) rfl (fun ls hl => ?_)
        refine lv_goto (tgt := 4) hx hb dX0_countOutcomes_37 (by decide) ?_
        exact ih4 v2 (v3 + (1 : Int32)) hm H locs ls B (lv_sub hl [1, 2, 3, 0] rfl)
      · have hm := iff hm q
        refine lv_iinc (v := (v2 + (1 : Int32))) (lv' := [(2, .int (v2 + (1 : Int32))), (0, .ref (a 1)), (1, .int v1), (3, .int v3)]) hx hb dX0_countOutcomes_31 hl (k := 2) rfl rfl (by decide) rfl (fun ls hl => ?_)
        refine lv_iinc (v := (v3 + (1 : Int32))) (lv' := [(3, .int (v3 + (1 : Int32))), (2, .int (v2 + (1 : Int32))), (0, .ref (a 1)), (1, .int v1)]) hx hb dX0_countOutcomes_34 hl (k := 3) rfl rfl (by decide) rfl (fun ls hl => ?_)
        refine lv_goto (tgt := 4) hx hb dX0_countOutcomes_37 (by decide) ?_
        exact ih4 (v2 + (1 : Int32)) (v3 + (1 : Int32)) hm H locs ls B (lv_sub hl [2, 3, 1, 0] rfl)
  refine lv_iconst (v := (0 : Int32)) hx hb dX0_countOutcomes_0 (by decide) ?_
  refine lv_istore_n (lv' := [(2, .int (0 : Int32)), (0, .ref (a 1)), (1, .int w1)]) hx hb dX0_countOutcomes_1 rfl hl (by decide) rfl (fun ls hl => ?_)
  refine lv_iconst (v := (0 : Int32)) hx hb dX0_countOutcomes_2 (by decide) ?_
  refine lv_istore_n (lv' := [(3, .int (0 : Int32)), (2, .int (0 : Int32)), (0, .ref (a 1)), (1, .int w1)]) hx hb dX0_countOutcomes_3 rfl hl (by decide) rfl (fun ls hl => ?_)
  exact L4 w1 5000 (0 : Int32) (0 : Int32) hm H locs ls B (lv_sub hl [2, 3, 1, 0] rfl)
def f_X6_close (σ : Mm) : Option (Int32 × Mm) :=
  (some (σ 4 0)).bind fun x1 =>
  if x1 = 0 then
    some ((-3 : Int32), σ)
  else
    (some (σ 3 0)).bind fun x2 =>
    (f_X0_countOutcomes σ (x2 - (1 : Int32))).bind fun x3 =>
    (f_X2_at 20 5 σ (x2 - (1 : Int32))).bind fun x4 =>
    if x4 ≤ x3 then
      (some (sc σ 4 (0 : Int32))).bind fun σ =>
      (f_X4_reckon σ).bind fun σ =>
      (some (σ 3 0)).bind fun x5 =>
      some (x5, σ)
    else
      some ((-3 : Int32), σ)
set_option maxHeartbeats 4000000 in
set_option maxRecDepth 100000 in
theorem c_X6_close (l : Launch) (D : va_G) (cI cZ : ClassId) (a : Nat → Nat) : CTi l D [(cI, FieldType.int), (cZ, FieldType.boolean)] (xW cI a) yX6_close (.code yX6_close cX6_close 2 (some FieldType.int) :: wsL_law) ({ frames := 7, cells := 0, slots := 0, locals := 162 } : Room) [.ref (a 0)] (fun σ => f_X6_close σ) := by
  refine CTi.of (by decide +kernel) (Nat.le_of_ble_eq_true rfl) ?_
  intro σ out hm p e s m below meth c A ls H locs hx hb hr hlk hml hT hown hK hA B hl
  have hown : s.vm.findClass RX6 = some m.cls := hown
  have hl : lv_has ls 2 [(0, .ref (a 0))] := hl
  have hm : f_X6_close σ = some out := hm
  unfold f_X6_close at hm
  refine lv_aload_n hx hb dX6_close_0 rfl (lv_at hl 0 rfl) ?_
  refine x_getv (T := TX6) (N := 8) hx hb hT hown hK B xV_X_book inlX6 rfl (by decide) q184 rfl dX6_close_1 ?_
  refine x_getibN (T := TX0) (N := 12) hx hb hT hown hK B xI_book_open inlX0 rfl (by decide) q58 rfl dX6_close_4 hm (fun x1 hm => ?_)
  refine lv_if_ne (tgt := 13) hx hb dX6_close_7 (by decide) (fun q => ?_) (fun q => ?_)
  · have hm := iff hm q
    refine lv_aload_n hx hb dX6_close_13 rfl (lv_at hl 0 rfl) ?_
    refine x_getv (T := TX6) (N := 8) hx hb hT hown hK B xV_X_book inlX6 rfl (by decide) q184 rfl dX6_close_14 ?_
    refine x_getibN (T := TX0) (N := 12) hx hb hT hown hK B xI_book_rounds inlX0 rfl (by decide) q57 rfl dX6_close_17 hm (fun x2 hm => ?_)
    refine lv_iconst (v := (1 : Int32)) hx hb dX6_close_20 (by decide) ?_
    refine lv_isub hx hb dX6_close_21 ?_
    refine lv_istore_n (lv' := [(1, .int (x2 - (1 : Int32))), (0, .ref (a 0))]) hx hb dX6_close_22 rfl hl (by decide) rfl (fun ls hl => ?_)
    refine lv_aload_n hx hb dX6_close_23 rfl (lv_at hl 1 rfl) ?_
    refine x_getv (T := TX6) (N := 8) hx hb hT hown hK B xV_X_book inlX6 rfl (by decide) q184 rfl dX6_close_24 ?_
    refine lv_iload_n hx hb dX6_close_27 rfl (lv_at hl 0 rfl) ?_
    refine x_callVr (rest := []) hx hb hml hT hown hK hA B hl.1 (c_X0_countOutcomes l D cI cZ a (x2 - (1 : Int32))) mi_X0_countOutcomes mv_X0_countOutcomes xO_book rfl q502 ⟨rfl, rfl⟩ ⟨Nat.le_of_ble_eq_true rfl, Nat.le_of_ble_eq_true rfl⟩ rfl rfl (Nat.le_of_ble_eq_true rfl) dX6_close_28 hm (fun x3 H locs B hm => ?_)
    refine lv_aload_n hx hb dX6_close_31 rfl (lv_at hl 1 rfl) ?_
    refine x_getv (T := TX6) (N := 8) hx hb hT hown hK B xV_X_book inlX6 rfl (by decide) q184 rfl dX6_close_32 ?_
    refine x_getvN (T := TX0) (N := 12) hx hb hT hown hK B xV_book_boards inlX0 rfl (by decide) q62 rfl dX6_close_35 ?_
    refine lv_iload_n hx hb dX6_close_38 rfl (lv_at hl 0 rfl) ?_
    refine x_callVr (rest := [.int x3]) hx hb hml hT hown hK hA B hl.1 (c_X2_at l D cI cZ xV_book_boards_cells xA_book_boards (x2 - (1 : Int32))) mi_X2_at mv_X2_at xO_book_boards rfl q317 ⟨rfl, rfl⟩ ⟨Nat.le_of_ble_eq_true rfl, Nat.le_of_ble_eq_true rfl⟩ rfl rfl (Nat.le_of_ble_eq_true rfl) dX6_close_39 hm (fun x4 H locs B hm => ?_)
    refine lv_icmp_ge (tgt := 48) hx hb dX6_close_42 (by decide) (fun q => ?_) (fun q => ?_)
    · have hm := ift hm q
      refine lv_aload_n hx hb dX6_close_48 rfl (lv_at hl 1 rfl) ?_
      refine x_getv (T := TX6) (N := 8) hx hb hT hown hK B xV_X_book inlX6 rfl (by decide) q184 rfl dX6_close_49 ?_
      refine lv_iconst (v := (0 : Int32)) hx hb dX6_close_52 (by decide) ?_
      refine x_putiN (T := TX0) (N := 12) hx hb hT hown hK B xI_book_open inlX0 tyX0_ok nmX0 rfl (by decide) q58 rfl rfl rfl rfl rfl dX6_close_53 hm (fun σ H locs B hm => ?_)
      refine lv_aload_n hx hb dX6_close_56 rfl (lv_at hl 1 rfl) ?_
      refine x_getv (T := TX6) (N := 8) hx hb hT hown hK B xV_X_table inlX6 rfl (by decide) q187 rfl dX6_close_57 ?_
      refine x_callVv (rest := []) hx hb hml hT hown hK hA B hl.1 (c_X4_reckon l D cI cZ a) mi_X4_reckon mv_X4_reckon xO_table rfl q211 ⟨rfl, rfl⟩ ⟨Nat.le_of_ble_eq_true rfl, Nat.le_of_ble_eq_true rfl⟩ rfl rfl (Nat.le_of_ble_eq_true rfl) dX6_close_60 hm (fun σ H locs B hm => ?_)
      refine lv_aload_n hx hb dX6_close_63 rfl (lv_at hl 1 rfl) ?_
      refine x_getv (T := TX6) (N := 8) hx hb hT hown hK B xV_X_book inlX6 rfl (by decide) q184 rfl dX6_close_64 ?_
      refine x_getibN (T := TX0) (N := 12) hx hb hT hown hK B xI_book_rounds inlX0 rfl (by decide) q57 rfl dX6_close_67 hm (fun x5 hm => ?_)
      exact x_iret hx hb hr hlk hK B dX6_close_70 hm
    · have hm := iff hm q
      refine lv_bipush (v := (-3 : Int32)) hx hb dX6_close_45 (by decide) ?_
      exact x_iret hx hb hr hlk hK B dX6_close_47 hm
  · have hm := ift hm q
    refine lv_bipush (v := (-3 : Int32)) hx hb dX6_close_10 (by decide) ?_
    exact x_iret hx hb hr hlk hK B dX6_close_12 hm
def f_X6_drop (σ : Mm) : Option (Int32 × Mm) :=
  (some (σ 3 0)).bind fun x1 =>
  if x1 = 0 then
    some ((-3 : Int32), σ)
  else
    (some (σ 3 0)).bind fun x2 =>
    (some (sc σ 3 (x2 - (1 : Int32)))).bind fun σ =>
    (some (sc σ 4 (0 : Int32))).bind fun σ =>
    (f_X4_reckon σ).bind fun σ =>
    (some (σ 3 0)).bind fun x3 =>
    some (x3, σ)
set_option maxHeartbeats 4000000 in
set_option maxRecDepth 100000 in
theorem c_X6_drop (l : Launch) (D : va_G) (cI cZ : ClassId) (a : Nat → Nat) : CTi l D [(cI, FieldType.int), (cZ, FieldType.boolean)] (xW cI a) yX6_drop (.code yX6_drop cX6_drop 1 (some FieldType.int) :: wsL_law) ({ frames := 7, cells := 0, slots := 0, locals := 162 } : Room) [.ref (a 0)] (fun σ => f_X6_drop σ) := by
  refine CTi.of (by decide +kernel) (Nat.le_of_ble_eq_true rfl) ?_
  intro σ out hm p e s m below meth c A ls H locs hx hb hr hlk hml hT hown hK hA B hl
  have hown : s.vm.findClass RX6 = some m.cls := hown
  have hl : lv_has ls 1 [(0, .ref (a 0))] := hl
  have hm : f_X6_drop σ = some out := hm
  unfold f_X6_drop at hm
  refine lv_aload_n hx hb dX6_drop_0 rfl (lv_at hl 0 rfl) ?_
  refine x_getv (T := TX6) (N := 8) hx hb hT hown hK B xV_X_book inlX6 rfl (by decide) q184 rfl dX6_drop_1 ?_
  refine x_getibN (T := TX0) (N := 12) hx hb hT hown hK B xI_book_rounds inlX0 rfl (by decide) q57 rfl dX6_drop_4 hm (fun x1 hm => ?_)
  refine lv_if_ne (tgt := 13) hx hb dX6_drop_7 (by decide) (fun q => ?_) (fun q => ?_)
  · have hm := iff hm q
    refine lv_aload_n hx hb dX6_drop_13 rfl (lv_at hl 0 rfl) ?_
    refine x_getv (T := TX6) (N := 8) hx hb hT hown hK B xV_X_book inlX6 rfl (by decide) q184 rfl dX6_drop_14 ?_
    refine lv_dup hx hb dX6_drop_17 rfl ?_
    refine x_getibN (T := TX0) (N := 12) hx hb hT hown hK B xI_book_rounds inlX0 rfl (by decide) q57 rfl dX6_drop_18 hm (fun x2 hm => ?_)
    refine lv_iconst (v := (1 : Int32)) hx hb dX6_drop_21 (by decide) ?_
    refine lv_isub hx hb dX6_drop_22 ?_
    refine x_putiN (T := TX0) (N := 12) hx hb hT hown hK B xI_book_rounds inlX0 tyX0_ok nmX0 rfl (by decide) q57 rfl rfl rfl rfl rfl dX6_drop_23 hm (fun σ H locs B hm => ?_)
    refine lv_aload_n hx hb dX6_drop_26 rfl (lv_at hl 0 rfl) ?_
    refine x_getv (T := TX6) (N := 8) hx hb hT hown hK B xV_X_book inlX6 rfl (by decide) q184 rfl dX6_drop_27 ?_
    refine lv_iconst (v := (0 : Int32)) hx hb dX6_drop_30 (by decide) ?_
    refine x_putiN (T := TX0) (N := 12) hx hb hT hown hK B xI_book_open inlX0 tyX0_ok nmX0 rfl (by decide) q58 rfl rfl rfl rfl rfl dX6_drop_31 hm (fun σ H locs B hm => ?_)
    refine lv_aload_n hx hb dX6_drop_34 rfl (lv_at hl 0 rfl) ?_
    refine x_getv (T := TX6) (N := 8) hx hb hT hown hK B xV_X_table inlX6 rfl (by decide) q187 rfl dX6_drop_35 ?_
    refine x_callVv (rest := []) hx hb hml hT hown hK hA B hl.1 (c_X4_reckon l D cI cZ a) mi_X4_reckon mv_X4_reckon xO_table rfl q211 ⟨rfl, rfl⟩ ⟨Nat.le_of_ble_eq_true rfl, Nat.le_of_ble_eq_true rfl⟩ rfl rfl (Nat.le_of_ble_eq_true rfl) dX6_drop_38 hm (fun σ H locs B hm => ?_)
    refine lv_aload_n hx hb dX6_drop_41 rfl (lv_at hl 0 rfl) ?_
    refine x_getv (T := TX6) (N := 8) hx hb hT hown hK B xV_X_book inlX6 rfl (by decide) q184 rfl dX6_drop_42 ?_
    refine x_getibN (T := TX0) (N := 12) hx hb hT hown hK B xI_book_rounds inlX0 rfl (by decide) q57 rfl dX6_drop_45 hm (fun x3 hm => ?_)
    exact x_iret hx hb hr hlk hK B dX6_drop_48 hm
  · have hm := ift hm q
    refine lv_bipush (v := (-3 : Int32)) hx hb dX6_drop_10 (by decide) ?_
    exact x_iret hx hb hr hlk hK B dX6_drop_12 hm
def f_X0_boardWith_s2 (σ : Mm) (v1 : Int32) (v2 : Int32) (r2 : Int32 → Option Int32) (v3 : Int32) : Option Int32 :=
  (f_X2_at 20 5 σ v1).bind fun x1 =>
  if x1 ≤ v3 then
    some (-5 : Int32)
  else
    (f_X0_boardCell v1 v3).bind fun x2 =>
    (f_X2_at 120 7 σ x2).bind fun x3 =>
    if x3 = v2 then
      some v3
    else
      (f_X2_at 120 8 σ x2).bind fun x4 =>
      if x4 = v2 then
        some v3
      else
        r2 (v3 + (1 : Int32))
def f_X0_boardWith (σ : Mm) (w1 : Int32) (w2 : Int32) : Option Int32 :=
  wh1 (f_X0_boardWith_s2 σ w1 w2) 5000 (0 : Int32)
set_option maxHeartbeats 4000000 in
set_option maxRecDepth 100000 in
theorem c_X0_boardWith (l : Launch) (D : va_G) (cI cZ : ClassId) (a : Nat → Nat) (w1 : Int32) (w2 : Int32) : CTr l D [(cI, FieldType.int), (cZ, FieldType.boolean)] (xW cI a) yX0_boardWith (.code yX0_boardWith cX0_boardWith 5 (some FieldType.int) :: wsL_law) ({ frames := 1, cells := 0, slots := 0, locals := 21 } : Room) [.ref (a 1), .int w1, .int w2] (fun σ => f_X0_boardWith σ w1 w2) := by
  refine CTr.of (by decide +kernel) (Nat.le_of_ble_eq_true rfl) ?_
  intro σ r hm p e s m below meth c A ls H locs hx hb hr hlk hml hT hown hK hA B hl
  have hown : s.vm.findClass RX0 = some m.cls := hown
  have hl : lv_has ls 5 [(0, .ref (a 1)), (1, .int w1), (2, .int w2)] := hl
  have hm : f_X0_boardWith σ w1 w2 = some r := hm
  unfold f_X0_boardWith at hm
  have L2 : ∀ (v1 : Int32) (v2 : Int32) (nn : Nat) (v3 : Int32), wh1 (f_X0_boardWith_s2 σ v1 v2) nn v3 = some r → ∀ (H : Heap) (locs : List Loc) (ls : Array Slot), BD D A s.heap ((xW cI a) σ) H locs → lv_has ls 5 [(0, .ref (a 1)), (1, .int v1), (2, .int v2), (3, .int v3)] → W p l e ({ frames := 1, cells := 0, slots := 0, locals := 21 } : Room) s m ([.ref (a 1), .int w1, .int w2] : List Value).toArray below meth c H locs 0 0 (MQ below (QI D [(cI, FieldType.int), (cZ, FieldType.boolean)] (xW cI a) A (r, σ)) ([.ref (a 1), .int w1, .int w2] : List Value).toArray s 0 0 A) (F0 m 2 ls []) := by
    intro v1 v2
    refine loop1 (fun r2 ih2 v3 hm H locs ls B hl => ?_)
    unfold f_X0_boardWith_s2 at hm
    refine lv_iload_n hx hb dX0_boardWith_2 rfl (lv_at hl 3 rfl) ?_
    refine lv_aload_n hx hb dX0_boardWith_3 rfl (lv_at hl 0 rfl) ?_
    refine x_getv (T := TX0) (N := 12) hx hb hT hown hK B xV_book_boards inlX0 rfl (by decide) q60 rfl dX0_boardWith_4 ?_
    refine lv_iload_n hx hb dX0_boardWith_7 rfl (lv_at hl 1 rfl) ?_
    refine x_callVr (rest := [.int v3]) hx hb hml hT hown hK hA B hl.1 (c_X2_at l D cI cZ xV_book_boards_cells xA_book_boards v1) mi_X2_at mv_X2_at xO_book_boards rfl q241 ⟨rfl, rfl⟩ ⟨Nat.le_of_ble_eq_true rfl, Nat.le_of_ble_eq_true rfl⟩ rfl rfl (Nat.le_of_ble_eq_true rfl) dX0_boardWith_8 hm (fun x1 H locs B hm => ?_)
    refine lv_icmp_ge (tgt := 55) hx hb dX0_boardWith_11 (by decide) (fun q => ?_) (fun q => ?_)
    · have hm := ift hm q
      refine lv_bipush (v := (-5 : Int32)) hx hb dX0_boardWith_55 (by decide) ?_
      exact x_iretr hx hb hr hlk hK B dX0_boardWith_57 hm
    · have hm := iff hm q
      refine lv_iload_n hx hb dX0_boardWith_14 rfl (lv_at hl 1 rfl) ?_
      refine lv_iload_n hx hb dX0_boardWith_15 rfl (lv_at hl 3 rfl) ?_
      refine x_callSr (rest := []) hx hb hml hT hown hK hA B hl.1 (c_X0_boardCell l D cI cZ (xW cI a) v1 v3) mi_X0_boardCell q231 q240 ⟨rfl, rfl⟩ ⟨Nat.le_of_ble_eq_true rfl, Nat.le_of_ble_eq_true rfl⟩ rfl rfl (Nat.le_of_ble_eq_true rfl) dX0_boardWith_16 hm (fun x2 H locs B hm => ?_)
      refine lv_istore (lv' := [(4, .int x2), (0, .ref (a 1)), (1, .int v1), (2, .int v2), (3, .int v3)]) hx hb dX0_boardWith_19 hl (by decide) rfl (fun ls hl => ?_)
      refine lv_aload_n hx hb dX0_boardWith_21 rfl (lv_at hl 1 rfl) ?_
      refine x_getv (T := TX0) (N := 12) hx hb hT hown hK B xV_book_whites inlX0 rfl (by decide) q66 rfl dX0_boardWith_22 ?_
      refine lv_iload hx hb dX0_boardWith_25 (lv_at hl 0 rfl) ?_
      refine x_callVr (rest := []) hx hb hml hT hown hK hA B hl.1 (c_X2_at l D cI cZ xV_book_whites_cells xA_book_whites x2) mi_X2_at mv_X2_at xO_book_whites rfl q241 ⟨rfl, rfl⟩ ⟨Nat.le_of_ble_eq_true rfl, Nat.le_of_ble_eq_true rfl⟩ rfl rfl (Nat.le_of_ble_eq_true rfl) dX0_boardWith_27 hm (fun x3 H locs B hm => ?_)
      refine lv_iload_n hx hb dX0_boardWith_30 rfl (lv_at hl 3 rfl) ?_
      refine lv_icmp_eq (tgt := 47) hx hb dX0_boardWith_31 (by decide) (fun q => ?_) (fun q => ?_)
      · have hm := ift hm q
        refine lv_iload_n hx hb dX0_boardWith_47 rfl (lv_at hl 4 rfl) ?_
        exact x_iretr hx hb hr hlk hK B dX0_boardWith_48 hm
      · have hm := iff hm q
        refine lv_aload_n hx hb dX0_boardWith_34 rfl (lv_at hl 1 rfl) ?_
        refine x_getv (T := TX0) (N := 12) hx hb hT hown hK B xV_book_blacks inlX0 rfl (by decide) q69 rfl dX0_boardWith_35 ?_
        refine lv_iload hx hb dX0_boardWith_38 (lv_at hl 0 rfl) ?_
        refine x_callVr (rest := []) hx hb hml hT hown hK hA B hl.1 (c_X2_at l D cI cZ xV_book_blacks_cells xA_book_blacks x2) mi_X2_at mv_X2_at xO_book_blacks rfl q241 ⟨rfl, rfl⟩ ⟨Nat.le_of_ble_eq_true rfl, Nat.le_of_ble_eq_true rfl⟩ rfl rfl (Nat.le_of_ble_eq_true rfl) dX0_boardWith_40 hm (fun x4 H locs B hm => ?_)
        refine lv_iload_n hx hb dX0_boardWith_43 rfl (lv_at hl 3 rfl) ?_
        refine lv_icmp_ne (tgt := 49) hx hb dX0_boardWith_44 (by decide) (fun q => ?_) (fun q => ?_)
        · have hm := iff hm q
          refine lv_iinc (v := (v3 + (1 : Int32))) (lv' := [(3, .int (v3 + (1 : Int32))), (4, .int x2), (0, .ref (a 1)), (1, .int v1), (2, .int v2)]) hx hb dX0_boardWith_49 hl (k := 4) rfl rfl (by decide) rfl (fun ls hl => ?_)
          refine lv_goto (tgt := 2) hx hb dX0_boardWith_52 (by decide) ?_
          exact ih2 (v3 + (1 : Int32)) hm H locs ls B (lv_sub hl [2, 3, 4, 0] rfl)
        · have hm := ift hm q
          refine lv_iload_n hx hb dX0_boardWith_47 rfl (lv_at hl 4 rfl) ?_
          exact x_iretr hx hb hr hlk hK B dX0_boardWith_48 hm
  refine lv_iconst (v := (0 : Int32)) hx hb dX0_boardWith_0 (by decide) ?_
  refine lv_istore_n (lv' := [(3, .int (0 : Int32)), (0, .ref (a 1)), (1, .int w1), (2, .int w2)]) hx hb dX0_boardWith_1 rfl hl (by decide) rfl (fun ls hl => ?_)
  exact L2 w1 w2 5000 (0 : Int32) hm H locs ls B (lv_sub hl [1, 2, 3, 0] rfl)
def f_X6_pointsMade (σ : Mm) (w1 : Int32) (w2 : Int32) (w3 : Int32) : Option Int32 :=
  if 0 ≤ w3 then
    (f_X0_outcomeFor σ w2 w3 w1).bind fun x1 =>
    (f_X6_pointsFor x1).bind fun x2 =>
    some x2
  else
    (f_X2_at 20 6 σ w2).bind fun x3 =>
    if x3 = w1 then
      some (2 : Int32)
    else
      some (0 : Int32)
set_option maxHeartbeats 4000000 in
set_option maxRecDepth 100000 in
theorem c_X6_pointsMade (l : Launch) (D : va_G) (cI cZ : ClassId) (a : Nat → Nat) (w1 : Int32) (w2 : Int32) (w3 : Int32) : CTr l D [(cI, FieldType.int), (cZ, FieldType.boolean)] (xW cI a) yX6_pointsMade (.code yX6_pointsMade cX6_pointsMade 4 (some FieldType.int) :: wsL_law) ({ frames := 3, cells := 0, slots := 0, locals := 68 } : Room) [.ref (a 0), .int w1, .int w2, .int w3] (fun σ => f_X6_pointsMade σ w1 w2 w3) := by
  refine CTr.of (by decide +kernel) (Nat.le_of_ble_eq_true rfl) ?_
  intro σ r hm p e s m below meth c A ls H locs hx hb hr hlk hml hT hown hK hA B hl
  have hown : s.vm.findClass RX6 = some m.cls := hown
  have hl : lv_has ls 4 [(0, .ref (a 0)), (1, .int w1), (2, .int w2), (3, .int w3)] := hl
  have hm : f_X6_pointsMade σ w1 w2 w3 = some r := hm
  unfold f_X6_pointsMade at hm
  refine lv_iload_n hx hb dX6_pointsMade_0 rfl (lv_at hl 3 rfl) ?_
  refine lv_if_ge (tgt := 25) hx hb dX6_pointsMade_1 (by decide) (fun q => ?_) (fun q => ?_)
  · have hm := ift hm q
    refine lv_aload_n hx hb dX6_pointsMade_25 rfl (lv_at hl 0 rfl) ?_
    refine x_getv (T := TX6) (N := 8) hx hb hT hown hK B xV_X_book inlX6 rfl (by decide) q184 rfl dX6_pointsMade_26 ?_
    refine lv_iload_n hx hb dX6_pointsMade_29 rfl (lv_at hl 2 rfl) ?_
    refine lv_iload_n hx hb dX6_pointsMade_30 rfl (lv_at hl 3 rfl) ?_
    refine lv_iload_n hx hb dX6_pointsMade_31 rfl (lv_at hl 1 rfl) ?_
    refine x_callVr (rest := []) hx hb hml hT hown hK hA B hl.1 (c_X0_outcomeFor l D cI cZ a w2 w3 w1) mi_X0_outcomeFor mv_X0_outcomeFor xO_book rfl q524 ⟨rfl, rfl⟩ ⟨Nat.le_of_ble_eq_true rfl, Nat.le_of_ble_eq_true rfl⟩ rfl rfl (Nat.le_of_ble_eq_true rfl) dX6_pointsMade_32 hm (fun x1 H locs B hm => ?_)
    refine x_callSr (rest := []) hx hb hml hT hown hK hA B hl.1 (c_X6_pointsFor l D cI cZ (xW cI a) x1) mi_X6_pointsFor q250 q525 ⟨rfl, rfl⟩ ⟨Nat.le_of_ble_eq_true rfl, Nat.le_of_ble_eq_true rfl⟩ rfl rfl (Nat.le_of_ble_eq_true rfl) dX6_pointsMade_35 hm (fun x2 H locs B hm => ?_)
    exact x_iretr hx hb hr hlk hK B dX6_pointsMade_38 hm
  · have hm := iff hm q
    refine lv_aload_n hx hb dX6_pointsMade_4 rfl (lv_at hl 0 rfl) ?_
    refine x_getv (T := TX6) (N := 8) hx hb hT hown hK B xV_X_book inlX6 rfl (by decide) q184 rfl dX6_pointsMade_5 ?_
    refine x_getvN (T := TX0) (N := 12) hx hb hT hown hK B xV_book_byes inlX0 rfl (by decide) q65 rfl dX6_pointsMade_8 ?_
    refine lv_iload_n hx hb dX6_pointsMade_11 rfl (lv_at hl 2 rfl) ?_
    refine x_callVr (rest := []) hx hb hml hT hown hK hA B hl.1 (c_X2_at l D cI cZ xV_book_byes_cells xA_book_byes w2) mi_X2_at mv_X2_at xO_book_byes rfl q317 ⟨rfl, rfl⟩ ⟨Nat.le_of_ble_eq_true rfl, Nat.le_of_ble_eq_true rfl⟩ rfl rfl (Nat.le_of_ble_eq_true rfl) dX6_pointsMade_12 hm (fun x3 H locs B hm => ?_)
    refine lv_iload_n hx hb dX6_pointsMade_15 rfl (lv_at hl 1 rfl) ?_
    refine lv_icmp_ne (tgt := 23) hx hb dX6_pointsMade_16 (by decide) (fun q => ?_) (fun q => ?_)
    · have hm := iff hm q
      refine lv_iconst (v := (0 : Int32)) hx hb dX6_pointsMade_23 (by decide) ?_
      exact x_iretr hx hb hr hlk hK B dX6_pointsMade_24 hm
    · have hm := ift hm q
      refine lv_iconst (v := (2 : Int32)) hx hb dX6_pointsMade_19 (by decide) ?_
      refine lv_goto (tgt := 24) hx hb dX6_pointsMade_20 (by decide) ?_
      exact x_iretr hx hb hr hlk hK B dX6_pointsMade_24 hm
def f_X6_game (σ : Mm) (w1 : Int32) (w2 : Int32) (w3 : Int32) : Option Int32 :=
  (f_X6_isPlayer σ w1).bind fun x1 =>
  if x1 = 0 then
    some (-1 : Int32)
  else
    (f_X6_isRound σ w2).bind fun x2 =>
    if x2 = 0 then
      some (-1 : Int32)
    else
      (f_X0_boardWith σ w2 w1).bind fun x3 =>
      if w3 = (0 : Int32) then
        if 0 ≤ x3 then
          (f_X0_otherAt σ w2 x3 w1).bind fun x4 =>
          some x4
        else
          some (-5 : Int32)
      else
        if w3 = (1 : Int32) then
          if 0 ≤ x3 then
            (f_X0_colourAt σ w2 x3 w1).bind fun x5 =>
            some x5
          else
            some (-5 : Int32)
        else
          if w3 = (2 : Int32) then
            (f_X0_countDone σ).bind fun x6 =>
            if x6 ≤ w2 then
              some (-5 : Int32)
            else
              (f_X6_pointsMade σ w1 w2 x3).bind fun x7 =>
              some x7
          else
            some (-1 : Int32)
set_option maxHeartbeats 4000000 in
set_option maxRecDepth 100000 in
theorem c_X6_game (l : Launch) (D : va_G) (cI cZ : ClassId) (a : Nat → Nat) (w1 : Int32) (w2 : Int32) (w3 : Int32) : CTr l D [(cI, FieldType.int), (cZ, FieldType.boolean)] (xW cI a) yX6_game (.code yX6_game cX6_game 5 (some FieldType.int) :: wsL_law) ({ frames := 4, cells := 0, slots := 0, locals := 91 } : Room) [.ref (a 0), .int w1, .int w2, .int w3] (fun σ => f_X6_game σ w1 w2 w3) := by
  refine CTr.of (by decide +kernel) (Nat.le_of_ble_eq_true rfl) ?_
  intro σ r hm p e s m below meth c A ls H locs hx hb hr hlk hml hT hown hK hA B hl
  have hown : s.vm.findClass RX6 = some m.cls := hown
  have hl : lv_has ls 5 [(0, .ref (a 0)), (1, .int w1), (2, .int w2), (3, .int w3)] := hl
  have hm : f_X6_game σ w1 w2 w3 = some r := hm
  unfold f_X6_game at hm
  refine lv_aload_n hx hb dX6_game_0 rfl (lv_at hl 0 rfl) ?_
  refine lv_iload_n hx hb dX6_game_1 rfl (lv_at hl 1 rfl) ?_
  refine x_callVr (rest := []) hx hb hml hT hown hK hA B hl.1 (c_X6_isPlayer l D cI cZ a w1) mi_X6_isPlayer mv_X6_isPlayer xO_X rfl q314 ⟨rfl, rfl⟩ ⟨Nat.le_of_ble_eq_true rfl, Nat.le_of_ble_eq_true rfl⟩ rfl rfl (Nat.le_of_ble_eq_true rfl) dX6_game_2 hm (fun x1 H locs B hm => ?_)
  refine lv_if_eq (tgt := 16) hx hb dX6_game_5 (by decide) (fun q => ?_) (fun q => ?_)
  · have hm := ift hm q
    refine lv_iconst (v := (-1 : Int32)) hx hb dX6_game_16 (by decide) ?_
    exact x_iretr hx hb hr hlk hK B dX6_game_17 hm
  · have hm := iff hm q
    refine lv_aload_n hx hb dX6_game_8 rfl (lv_at hl 0 rfl) ?_
    refine lv_iload_n hx hb dX6_game_9 rfl (lv_at hl 2 rfl) ?_
    refine x_callVr (rest := []) hx hb hml hT hown hK hA B hl.1 (c_X6_isRound l D cI cZ a w2) mi_X6_isRound mv_X6_isRound xO_X rfl q486 ⟨rfl, rfl⟩ ⟨Nat.le_of_ble_eq_true rfl, Nat.le_of_ble_eq_true rfl⟩ rfl rfl (Nat.le_of_ble_eq_true rfl) dX6_game_10 hm (fun x2 H locs B hm => ?_)
    refine lv_if_ne (tgt := 18) hx hb dX6_game_13 (by decide) (fun q => ?_) (fun q => ?_)
    · have hm := iff hm q
      refine lv_aload_n hx hb dX6_game_18 rfl (lv_at hl 0 rfl) ?_
      refine x_getv (T := TX6) (N := 8) hx hb hT hown hK B xV_X_book inlX6 rfl (by decide) q184 rfl dX6_game_19 ?_
      refine lv_iload_n hx hb dX6_game_22 rfl (lv_at hl 2 rfl) ?_
      refine lv_iload_n hx hb dX6_game_23 rfl (lv_at hl 1 rfl) ?_
      refine x_callVr (rest := []) hx hb hml hT hown hK hA B hl.1 (c_X0_boardWith l D cI cZ a w2 w1) mi_X0_boardWith mv_X0_boardWith xO_book rfl q514 ⟨rfl, rfl⟩ ⟨Nat.le_of_ble_eq_true rfl, Nat.le_of_ble_eq_true rfl⟩ rfl rfl (Nat.le_of_ble_eq_true rfl) dX6_game_24 hm (fun x3 H locs B hm => ?_)
      refine lv_istore (lv' := [(4, .int x3), (0, .ref (a 0)), (1, .int w1), (2, .int w2), (3, .int w3)]) hx hb dX6_game_27 hl (by decide) rfl (fun ls hl => ?_)
      refine lv_iload_n hx hb dX6_game_29 rfl (lv_at hl 4 rfl) ?_
      by_cases q0 : w3 = (0 : Int32)
      · have hm := ift hm q0
        refine lv_tableIn (off := 26) (tgt := 56) hx hb dX6_game_30 (by rw [q0]; decide) (by rw [q0]; decide) (by rw [q0]; rfl) (by decide) ?_
        refine lv_iload hx hb dX6_game_56 (lv_at hl 0 rfl) ?_
        refine lv_if_ge (tgt := 66) hx hb dX6_game_58 (by decide) (fun q => ?_) (fun q => ?_)
        · have hm := ift hm q
          refine lv_aload_n hx hb dX6_game_66 rfl (lv_at hl 1 rfl) ?_
          refine x_getv (T := TX6) (N := 8) hx hb hT hown hK B xV_X_book inlX6 rfl (by decide) q184 rfl dX6_game_67 ?_
          refine lv_iload_n hx hb dX6_game_70 rfl (lv_at hl 3 rfl) ?_
          refine lv_iload hx hb dX6_game_71 (lv_at hl 0 rfl) ?_
          refine lv_iload_n hx hb dX6_game_73 rfl (lv_at hl 2 rfl) ?_
          refine x_callVr (rest := []) hx hb hml hT hown hK hA B hl.1 (c_X0_otherAt l D cI cZ a w2 x3 w1) mi_X0_otherAt mv_X0_otherAt xO_book rfl q518 ⟨rfl, rfl⟩ ⟨Nat.le_of_ble_eq_true rfl, Nat.le_of_ble_eq_true rfl⟩ rfl rfl (Nat.le_of_ble_eq_true rfl) dX6_game_74 hm (fun x4 H locs B hm => ?_)
          exact x_iretr hx hb hr hlk hK B dX6_game_77 hm
        · have hm := iff hm q
          refine lv_bipush (v := (-5 : Int32)) hx hb dX6_game_61 (by decide) ?_
          refine lv_goto (tgt := 77) hx hb dX6_game_63 (by decide) ?_
          exact x_iretr hx hb hr hlk hK B dX6_game_77 hm
      · have hm := iff hm q0
        by_cases q1 : w3 = (1 : Int32)
        · have hm := ift hm q1
          refine lv_tableIn (off := 48) (tgt := 78) hx hb dX6_game_30 (by rw [q1]; decide) (by rw [q1]; decide) (by rw [q1]; rfl) (by decide) ?_
          refine lv_iload hx hb dX6_game_78 (lv_at hl 0 rfl) ?_
          refine lv_if_ge (tgt := 88) hx hb dX6_game_80 (by decide) (fun q => ?_) (fun q => ?_)
          · have hm := ift hm q
            refine lv_aload_n hx hb dX6_game_88 rfl (lv_at hl 1 rfl) ?_
            refine x_getv (T := TX6) (N := 8) hx hb hT hown hK B xV_X_book inlX6 rfl (by decide) q184 rfl dX6_game_89 ?_
            refine lv_iload_n hx hb dX6_game_92 rfl (lv_at hl 3 rfl) ?_
            refine lv_iload hx hb dX6_game_93 (lv_at hl 0 rfl) ?_
            refine lv_iload_n hx hb dX6_game_95 rfl (lv_at hl 2 rfl) ?_
            refine x_callVr (rest := []) hx hb hml hT hown hK hA B hl.1 (c_X0_colourAt l D cI cZ a w2 x3 w1) mi_X0_colourAt mv_X0_colourAt xO_book rfl q519 ⟨rfl, rfl⟩ ⟨Nat.le_of_ble_eq_true rfl, Nat.le_of_ble_eq_true rfl⟩ rfl rfl (Nat.le_of_ble_eq_true rfl) dX6_game_96 hm (fun x5 H locs B hm => ?_)
            exact x_iretr hx hb hr hlk hK B dX6_game_99 hm
          · have hm := iff hm q
            refine lv_bipush (v := (-5 : Int32)) hx hb dX6_game_83 (by decide) ?_
            refine lv_goto (tgt := 99) hx hb dX6_game_85 (by decide) ?_
            exact x_iretr hx hb hr hlk hK B dX6_game_99 hm
        · have hm := iff hm q1
          by_cases q2 : w3 = (2 : Int32)
          · have hm := ift hm q2
            refine lv_tableIn (off := 70) (tgt := 100) hx hb dX6_game_30 (by rw [q2]; decide) (by rw [q2]; decide) (by rw [q2]; rfl) (by decide) ?_
            refine lv_iload_n hx hb dX6_game_100 rfl (lv_at hl 3 rfl) ?_
            refine lv_aload_n hx hb dX6_game_101 rfl (lv_at hl 1 rfl) ?_
            refine x_getv (T := TX6) (N := 8) hx hb hT hown hK B xV_X_book inlX6 rfl (by decide) q184 rfl dX6_game_102 ?_
            refine x_callVr (rest := [.int w2]) hx hb hml hT hown hK hA B hl.1 (c_X0_countDone l D cI cZ a) mi_X0_countDone mv_X0_countDone xO_book rfl q520 ⟨rfl, rfl⟩ ⟨Nat.le_of_ble_eq_true rfl, Nat.le_of_ble_eq_true rfl⟩ rfl rfl (Nat.le_of_ble_eq_true rfl) dX6_game_105 hm (fun x6 H locs B hm => ?_)
            refine lv_icmp_ge (tgt := 122) hx hb dX6_game_108 (by decide) (fun q => ?_) (fun q => ?_)
            · have hm := ift hm q
              refine lv_bipush (v := (-5 : Int32)) hx hb dX6_game_122 (by decide) ?_
              exact x_iretr hx hb hr hlk hK B dX6_game_124 hm
            · have hm := iff hm q
              refine lv_aload_n hx hb dX6_game_111 rfl (lv_at hl 1 rfl) ?_
              refine lv_iload_n hx hb dX6_game_112 rfl (lv_at hl 2 rfl) ?_
              refine lv_iload_n hx hb dX6_game_113 rfl (lv_at hl 3 rfl) ?_
              refine lv_iload hx hb dX6_game_114 (lv_at hl 0 rfl) ?_
              refine x_callVr (rest := []) hx hb hml hT hown hK hA B hl.1 (c_X6_pointsMade l D cI cZ a w1 w2 x3) mi_X6_pointsMade mv_X6_pointsMade xO_X rfl q521 ⟨rfl, rfl⟩ ⟨Nat.le_of_ble_eq_true rfl, Nat.le_of_ble_eq_true rfl⟩ rfl rfl (Nat.le_of_ble_eq_true rfl) dX6_game_116 hm (fun x7 H locs B hm => ?_)
              refine lv_goto (tgt := 124) hx hb dX6_game_119 (by decide) ?_
              exact x_iretr hx hb hr hlk hK B dX6_game_124 hm
          · have hm := iff hm q2
            have z0 := lv_neT (k := (0 : Int32)) (a := 0) q0 (by decide)
            have z1 := lv_neT (k := (1 : Int32)) (a := 1) q1 (by decide)
            have z2 := lv_neT (k := (2 : Int32)) (a := 2) q2 (by decide)
            refine lv_tableOut (tgt := 125) hx hb dX6_game_30 (by omega) (by decide) ?_
            refine lv_iconst (v := (-1 : Int32)) hx hb dX6_game_125 (by decide) ?_
            exact x_iretr hx hb hr hlk hK B dX6_game_126 hm
    · have hm := ift hm q
      refine lv_iconst (v := (-1 : Int32)) hx hb dX6_game_16 (by decide) ?_
      exact x_iretr hx hb hr hlk hK B dX6_game_17 hm
