def f_X6_isPlayer (σ : Mm) (w1 : Int32) : Option Int32 :=
  if w1 < 0 then
    some (0 : Int32)
  else
    if (σ 0 0) ≤ w1 then
      some (0 : Int32)
    else
      some (1 : Int32)
set_option maxHeartbeats 4000000 in
set_option maxRecDepth 100000 in
theorem c_X6_isPlayer (l : Launch) (D : va_G) (cI cZ : ClassId) (a : Nat → Nat) (w1 : Int32) : CTr l D [(cI, FieldType.int), (cZ, FieldType.boolean)] (xW cI a) yX6_isPlayer (.code yX6_isPlayer cX6_isPlayer 2 (some FieldType.boolean) :: wsL_law) ({ frames := 0, cells := 0, slots := 0, locals := 0 } : Room) [.ref (a 0), .int w1] (fun σ => f_X6_isPlayer σ w1) := by
  refine CTr.of (by decide +kernel) (Nat.le_of_ble_eq_true rfl) ?_
  intro σ r hm p e s m below meth c A ls H locs hx hb hr hlk hml hT hown hK hA B hl
  have hown : s.vm.findClass RX6 = some m.cls := hown
  have hl : lv_has ls 2 [(0, .ref (a 0)), (1, .int w1)] := hl
  have hm : f_X6_isPlayer σ w1 = some r := hm
  unfold f_X6_isPlayer at hm
  refine lv_iload_n hx hb dX6_isPlayer_0 rfl (lv_at hl 1 rfl) ?_
  refine lv_if_lt (tgt := 19) hx hb dX6_isPlayer_1 (by decide) (fun q => ?_) (fun q => ?_)
  · have hm := ift hm q
    refine lv_iconst (v := (0 : Int32)) hx hb dX6_isPlayer_19 (by decide) ?_
    exact x_zretr hx hb hr hlk hK B rfl dX6_isPlayer_20 hm
  · have hm := iff hm q
    refine lv_iload_n hx hb dX6_isPlayer_4 rfl (lv_at hl 1 rfl) ?_
    refine lv_aload_n hx hb dX6_isPlayer_5 rfl (lv_at hl 0 rfl) ?_
    refine x_getv (T := TX6) (N := 8) hx hb hT hown hK B xV_X_book inlX6 rfl (by decide) q184 rfl dX6_isPlayer_6 ?_
    refine x_getiN (T := TX0) (N := 12) hx hb hT hown hK B xI_book_players inlX0 rfl (by decide) q47 rfl dX6_isPlayer_9 ?_
    refine lv_icmp_ge (tgt := 19) hx hb dX6_isPlayer_12 (by decide) (fun q => ?_) (fun q => ?_)
    · have hm := ift hm q
      refine lv_iconst (v := (0 : Int32)) hx hb dX6_isPlayer_19 (by decide) ?_
      exact x_zretr hx hb hr hlk hK B rfl dX6_isPlayer_20 hm
    · have hm := iff hm q
      refine lv_iconst (v := (1 : Int32)) hx hb dX6_isPlayer_15 (by decide) ?_
      refine lv_goto (tgt := 20) hx hb dX6_isPlayer_16 (by decide) ?_
      exact x_zretr hx hb hr hlk hK B rfl dX6_isPlayer_20 hm
def f_X0_countInside_s4 (σ : Mm) (r4 : Int32 → Int32 → Option Int32) (v1 v2 : Int32) : Option Int32 :=
  if (σ 0 0) ≤ v2 then
    some v1
  else
    (f_X2_at 12 2 σ v2).bind fun x1 =>
    r4 (v1 + x1) (v2 + (1 : Int32))
def f_X0_countInside (σ : Mm) : Option Int32 :=
  wh2 (f_X0_countInside_s4 σ) 5000 (0 : Int32) (0 : Int32)
set_option maxHeartbeats 4000000 in
set_option maxRecDepth 100000 in
theorem c_X0_countInside (l : Launch) (D : va_G) (cI cZ : ClassId) (a : Nat → Nat) : CTr l D [(cI, FieldType.int), (cZ, FieldType.boolean)] (xW cI a) yX0_countInside (.code yX0_countInside cX0_countInside 3 (some FieldType.int) :: wsL_law) ({ frames := 1, cells := 0, slots := 0, locals := 21 } : Room) [.ref (a 1)] (fun σ => f_X0_countInside σ) := by
  refine CTr.of (by decide +kernel) (Nat.le_of_ble_eq_true rfl) ?_
  intro σ r hm p e s m below meth c A ls H locs hx hb hr hlk hml hT hown hK hA B hl
  have hown : s.vm.findClass RX0 = some m.cls := hown
  have hl : lv_has ls 3 [(0, .ref (a 1))] := hl
  have hm : f_X0_countInside σ = some r := hm
  unfold f_X0_countInside at hm
  have L4 : ∀ (nn : Nat) (v1 : Int32) (v2 : Int32), wh2 (f_X0_countInside_s4 σ) nn v1 v2 = some r → ∀ (H : Heap) (locs : List Loc) (ls : Array Slot), BD D A s.heap ((xW cI a) σ) H locs → lv_has ls 3 [(0, .ref (a 1)), (1, .int v1), (2, .int v2)] → W p l e ({ frames := 1, cells := 0, slots := 0, locals := 21 } : Room) s m ([.ref (a 1)] : List Value).toArray below meth c H locs 0 0 (MQ below (QI D [(cI, FieldType.int), (cZ, FieldType.boolean)] (xW cI a) A (r, σ)) ([.ref (a 1)] : List Value).toArray s 0 0 A) (F0 m 4 ls []) := by
    refine loop2 (fun r4 ih4 v1 v2 hm H locs ls B hl => ?_)
    unfold f_X0_countInside_s4 at hm
    refine lv_iload_n hx hb dX0_countInside_4 rfl (lv_at hl 2 rfl) ?_
    refine lv_aload_n hx hb dX0_countInside_5 rfl (lv_at hl 0 rfl) ?_
    refine x_geti (T := TX0) (N := 12) hx hb hT hown hK B xI_book_players inlX0 rfl (by decide) q46 rfl dX0_countInside_6 ?_
    refine lv_icmp_ge (tgt := 29) hx hb dX0_countInside_9 (by decide) (fun q => ?_) (fun q => ?_)
    · have hm := ift hm q
      refine lv_iload_n hx hb dX0_countInside_29 rfl (lv_at hl 1 rfl) ?_
      exact x_iretr hx hb hr hlk hK B dX0_countInside_30 hm
    · have hm := iff hm q
      refine lv_iload_n hx hb dX0_countInside_12 rfl (lv_at hl 1 rfl) ?_
      refine lv_aload_n hx hb dX0_countInside_13 rfl (lv_at hl 0 rfl) ?_
      refine x_getv (T := TX0) (N := 12) hx hb hT hown hK B xV_book_inside inlX0 rfl (by decide) q53 rfl dX0_countInside_14 ?_
      refine lv_iload_n hx hb dX0_countInside_17 rfl (lv_at hl 2 rfl) ?_
      refine x_callVr (rest := [.int v1]) hx hb hml hT hown hK hA B hl.1 (c_X2_at l D cI cZ xV_book_inside_cells xA_book_inside v2) mi_X2_at mv_X2_at xO_book_inside rfl q241 ⟨rfl, rfl⟩ ⟨Nat.le_of_ble_eq_true rfl, Nat.le_of_ble_eq_true rfl⟩ rfl rfl (Nat.le_of_ble_eq_true rfl) dX0_countInside_18 hm (fun x1 H locs B hm => ?_)
      refine lv_iadd hx hb dX0_countInside_21 ?_
      refine lv_istore_n (lv' := [(1, .int (v1 + x1)), (0, .ref (a 1)), (2, .int v2)]) hx hb dX0_countInside_22 rfl hl (by decide) rfl (fun ls hl => ?_)
      refine lv_iinc (v := (v2 + (1 : Int32))) (lv' := [(2, .int (v2 + (1 : Int32))), (1, .int (v1 + x1)), (0, .ref (a 1))]) hx hb dX0_countInside_23 hl (k := 2) rfl rfl (by decide) rfl (fun ls hl => ?_)
      refine lv_goto (tgt := 4) hx hb dX0_countInside_26 (by decide) ?_
      exact ih4 (v1 + x1) (v2 + (1 : Int32)) hm H locs ls B (lv_sub hl [2, 1, 0] rfl)
  refine lv_iconst (v := (0 : Int32)) hx hb dX0_countInside_0 (by decide) ?_
  refine lv_istore_n (lv' := [(1, .int (0 : Int32)), (0, .ref (a 1))]) hx hb dX0_countInside_1 rfl hl (by decide) rfl (fun ls hl => ?_)
  refine lv_iconst (v := (0 : Int32)) hx hb dX0_countInside_2 (by decide) ?_
  refine lv_istore_n (lv' := [(2, .int (0 : Int32)), (1, .int (0 : Int32)), (0, .ref (a 1))]) hx hb dX0_countInside_3 rfl hl (by decide) rfl (fun ls hl => ?_)
  exact L4 5000 (0 : Int32) (0 : Int32) hm H locs ls B (lv_sub hl [2, 1, 0] rfl)
def f_X6_move (σ : Mm) (w1 : Int32) (w2 : Int32) : Option (Int32 × Mm) :=
  (f_X6_isPlayer σ w1).bind fun x1 =>
  if x1 = 0 then
    some ((-1 : Int32), σ)
  else
    (f_X2_at 12 2 σ w1).bind fun x2 =>
    if x2 = w2 then
      some ((-3 : Int32), σ)
    else
      (some (σ 4 0)).bind fun x3 =>
      if x3 = 0 then
        (f_X2_put 12 2 σ w1 w2).bind fun σ =>
        (f_X0_countInside σ).bind fun x4 =>
        some (x4, σ)
      else
        some ((-3 : Int32), σ)
set_option maxHeartbeats 4000000 in
set_option maxRecDepth 100000 in
theorem c_X6_move (l : Launch) (D : va_G) (cI cZ : ClassId) (a : Nat → Nat) (w1 : Int32) (w2 : Int32) : CTi l D [(cI, FieldType.int), (cZ, FieldType.boolean)] (xW cI a) yX6_move (.code yX6_move cX6_move 3 (some FieldType.int) :: wsL_law) ({ frames := 2, cells := 0, slots := 0, locals := 43 } : Room) [.ref (a 0), .int w1, .int w2] (fun σ => f_X6_move σ w1 w2) := by
  refine CTi.of (by decide +kernel) (Nat.le_of_ble_eq_true rfl) ?_
  intro σ out hm p e s m below meth c A ls H locs hx hb hr hlk hml hT hown hK hA B hl
  have hown : s.vm.findClass RX6 = some m.cls := hown
  have hl : lv_has ls 3 [(0, .ref (a 0)), (1, .int w1), (2, .int w2)] := hl
  have hm : f_X6_move σ w1 w2 = some out := hm
  unfold f_X6_move at hm
  refine lv_aload_n hx hb dX6_move_0 rfl (lv_at hl 0 rfl) ?_
  refine lv_iload_n hx hb dX6_move_1 rfl (lv_at hl 1 rfl) ?_
  refine x_callVr (rest := []) hx hb hml hT hown hK hA B hl.1 (c_X6_isPlayer l D cI cZ a w1) mi_X6_isPlayer mv_X6_isPlayer xO_X rfl q314 ⟨rfl, rfl⟩ ⟨Nat.le_of_ble_eq_true rfl, Nat.le_of_ble_eq_true rfl⟩ rfl rfl (Nat.le_of_ble_eq_true rfl) dX6_move_2 hm (fun x1 H locs B hm => ?_)
  refine lv_if_ne (tgt := 10) hx hb dX6_move_5 (by decide) (fun q => ?_) (fun q => ?_)
  · have hm := iff hm q
    refine lv_aload_n hx hb dX6_move_10 rfl (lv_at hl 0 rfl) ?_
    refine x_getv (T := TX6) (N := 8) hx hb hT hown hK B xV_X_book inlX6 rfl (by decide) q184 rfl dX6_move_11 ?_
    refine x_getvN (T := TX0) (N := 12) hx hb hT hown hK B xV_book_inside inlX0 rfl (by decide) q54 rfl dX6_move_14 ?_
    refine lv_iload_n hx hb dX6_move_17 rfl (lv_at hl 1 rfl) ?_
    refine x_callVr (rest := []) hx hb hml hT hown hK hA B hl.1 (c_X2_at l D cI cZ xV_book_inside_cells xA_book_inside w1) mi_X2_at mv_X2_at xO_book_inside rfl q317 ⟨rfl, rfl⟩ ⟨Nat.le_of_ble_eq_true rfl, Nat.le_of_ble_eq_true rfl⟩ rfl rfl (Nat.le_of_ble_eq_true rfl) dX6_move_18 hm (fun x2 H locs B hm => ?_)
    refine lv_iload_n hx hb dX6_move_21 rfl (lv_at hl 2 rfl) ?_
    refine lv_icmp_eq (tgt := 35) hx hb dX6_move_22 (by decide) (fun q => ?_) (fun q => ?_)
    · have hm := ift hm q
      refine lv_bipush (v := (-3 : Int32)) hx hb dX6_move_35 (by decide) ?_
      exact x_iret hx hb hr hlk hK B dX6_move_37 hm
    · have hm := iff hm q
      refine lv_aload_n hx hb dX6_move_25 rfl (lv_at hl 0 rfl) ?_
      refine x_getv (T := TX6) (N := 8) hx hb hT hown hK B xV_X_book inlX6 rfl (by decide) q184 rfl dX6_move_26 ?_
      refine x_getibN (T := TX0) (N := 12) hx hb hT hown hK B xI_book_open inlX0 rfl (by decide) q58 rfl dX6_move_29 hm (fun x3 hm => ?_)
      refine lv_if_eq (tgt := 38) hx hb dX6_move_32 (by decide) (fun q => ?_) (fun q => ?_)
      · have hm := ift hm q
        refine lv_aload_n hx hb dX6_move_38 rfl (lv_at hl 0 rfl) ?_
        refine x_getv (T := TX6) (N := 8) hx hb hT hown hK B xV_X_book inlX6 rfl (by decide) q184 rfl dX6_move_39 ?_
        refine x_getvN (T := TX0) (N := 12) hx hb hT hown hK B xV_book_inside inlX0 rfl (by decide) q54 rfl dX6_move_42 ?_
        refine lv_iload_n hx hb dX6_move_45 rfl (lv_at hl 1 rfl) ?_
        refine lv_iload_n hx hb dX6_move_46 rfl (lv_at hl 2 rfl) ?_
        refine x_callVv (rest := []) hx hb hml hT hown hK hA B hl.1 (c_X2_put l D cI cZ xV_book_inside_cells xA_book_inside w1 w2) mi_X2_put mv_X2_put xO_book_inside rfl q318 ⟨rfl, rfl⟩ ⟨Nat.le_of_ble_eq_true rfl, Nat.le_of_ble_eq_true rfl⟩ rfl rfl (Nat.le_of_ble_eq_true rfl) dX6_move_47 hm (fun σ H locs B hm => ?_)
        refine lv_aload_n hx hb dX6_move_50 rfl (lv_at hl 0 rfl) ?_
        refine x_getv (T := TX6) (N := 8) hx hb hT hown hK B xV_X_book inlX6 rfl (by decide) q184 rfl dX6_move_51 ?_
        refine x_callVr (rest := []) hx hb hml hT hown hK hA B hl.1 (c_X0_countInside l D cI cZ a) mi_X0_countInside mv_X0_countInside xO_book rfl q319 ⟨rfl, rfl⟩ ⟨Nat.le_of_ble_eq_true rfl, Nat.le_of_ble_eq_true rfl⟩ rfl rfl (Nat.le_of_ble_eq_true rfl) dX6_move_54 hm (fun x4 H locs B hm => ?_)
        exact x_iret hx hb hr hlk hK B dX6_move_57 hm
      · have hm := iff hm q
        refine lv_bipush (v := (-3 : Int32)) hx hb dX6_move_35 (by decide) ?_
        exact x_iret hx hb hr hlk hK B dX6_move_37 hm
  · have hm := ift hm q
    refine lv_iconst (v := (-1 : Int32)) hx hb dX6_move_8 (by decide) ?_
    exact x_iret hx hb hr hlk hK B dX6_move_9 hm
def f_X6_leave (σ : Mm) (w1 : Int32) : Option (Int32 × Mm) :=
  (f_X6_move σ w1 (0 : Int32)).bind fun z => match z with
  | (x1, σ) =>
    some (x1, σ)
set_option maxHeartbeats 4000000 in
set_option maxRecDepth 100000 in
theorem c_X6_leave (l : Launch) (D : va_G) (cI cZ : ClassId) (a : Nat → Nat) (w1 : Int32) : CTi l D [(cI, FieldType.int), (cZ, FieldType.boolean)] (xW cI a) yX6_leave (.code yX6_leave cX6_leave 2 (some FieldType.int) :: wsL_law) ({ frames := 3, cells := 0, slots := 0, locals := 65 } : Room) [.ref (a 0), .int w1] (fun σ => f_X6_leave σ w1) := by
  refine CTi.of (by decide +kernel) (Nat.le_of_ble_eq_true rfl) ?_
  intro σ out hm p e s m below meth c A ls H locs hx hb hr hlk hml hT hown hK hA B hl
  have hown : s.vm.findClass RX6 = some m.cls := hown
  have hl : lv_has ls 2 [(0, .ref (a 0)), (1, .int w1)] := hl
  have hm : f_X6_leave σ w1 = some out := hm
  unfold f_X6_leave at hm
  refine lv_aload_n hx hb dX6_leave_0 rfl (lv_at hl 0 rfl) ?_
  refine lv_iload_n hx hb dX6_leave_1 rfl (lv_at hl 1 rfl) ?_
  refine lv_iconst (v := (0 : Int32)) hx hb dX6_leave_2 (by decide) ?_
  refine x_callVi (rest := []) hx hb hml hT hown hK hA B hl.1 (c_X6_move l D cI cZ a w1 (0 : Int32)) mi_X6_move mv_X6_move xO_X rfl q311 ⟨rfl, rfl⟩ ⟨Nat.le_of_ble_eq_true rfl, Nat.le_of_ble_eq_true rfl⟩ rfl rfl (Nat.le_of_ble_eq_true rfl) dX6_leave_3 hm (fun x1 σ H locs B hm => ?_)
  dsimp only at hm
  exact x_iret hx hb hr hlk hK B dX6_leave_6 hm
def f_X6_back (σ : Mm) (w1 : Int32) : Option (Int32 × Mm) :=
  (f_X6_move σ w1 (1 : Int32)).bind fun z => match z with
  | (x1, σ) =>
    some (x1, σ)
set_option maxHeartbeats 4000000 in
set_option maxRecDepth 100000 in
theorem c_X6_back (l : Launch) (D : va_G) (cI cZ : ClassId) (a : Nat → Nat) (w1 : Int32) : CTi l D [(cI, FieldType.int), (cZ, FieldType.boolean)] (xW cI a) yX6_back (.code yX6_back cX6_back 2 (some FieldType.int) :: wsL_law) ({ frames := 3, cells := 0, slots := 0, locals := 65 } : Room) [.ref (a 0), .int w1] (fun σ => f_X6_back σ w1) := by
  refine CTi.of (by decide +kernel) (Nat.le_of_ble_eq_true rfl) ?_
  intro σ out hm p e s m below meth c A ls H locs hx hb hr hlk hml hT hown hK hA B hl
  have hown : s.vm.findClass RX6 = some m.cls := hown
  have hl : lv_has ls 2 [(0, .ref (a 0)), (1, .int w1)] := hl
  have hm : f_X6_back σ w1 = some out := hm
  unfold f_X6_back at hm
  refine lv_aload_n hx hb dX6_back_0 rfl (lv_at hl 0 rfl) ?_
  refine lv_iload_n hx hb dX6_back_1 rfl (lv_at hl 1 rfl) ?_
  refine lv_iconst (v := (1 : Int32)) hx hb dX6_back_2 (by decide) ?_
  refine x_callVi (rest := []) hx hb hml hT hown hK hA B hl.1 (c_X6_move l D cI cZ a w1 (1 : Int32)) mi_X6_move mv_X6_move xO_X rfl q311 ⟨rfl, rfl⟩ ⟨Nat.le_of_ble_eq_true rfl, Nat.le_of_ble_eq_true rfl⟩ rfl rfl (Nat.le_of_ble_eq_true rfl) dX6_back_3 hm (fun x1 σ H locs B hm => ?_)
  dsimp only at hm
  exact x_iret hx hb hr hlk hK B dX6_back_6 hm
def f_X6_rate (σ : Mm) (w1 : Int32) (w2 : Int32) : Option (Int32 × Mm) :=
  (f_X6_isPlayer σ w1).bind fun x1 =>
  if x1 = 0 then
    some ((-1 : Int32), σ)
  else
    (f_X6_isRating w2).bind fun x2 =>
    if x2 = 0 then
      some ((-2 : Int32), σ)
    else
      (f_X2_at 12 1 σ w1).bind fun x3 =>
      (f_X2_put 12 1 σ w1 w2).bind fun σ =>
      (f_X4_reckon σ).bind fun σ =>
      some (x3, σ)
set_option maxHeartbeats 4000000 in
set_option maxRecDepth 100000 in
theorem c_X6_rate (l : Launch) (D : va_G) (cI cZ : ClassId) (a : Nat → Nat) (w1 : Int32) (w2 : Int32) : CTi l D [(cI, FieldType.int), (cZ, FieldType.boolean)] (xW cI a) yX6_rate (.code yX6_rate cX6_rate 4 (some FieldType.int) :: wsL_law) ({ frames := 7, cells := 0, slots := 0, locals := 162 } : Room) [.ref (a 0), .int w1, .int w2] (fun σ => f_X6_rate σ w1 w2) := by
  refine CTi.of (by decide +kernel) (Nat.le_of_ble_eq_true rfl) ?_
  intro σ out hm p e s m below meth c A ls H locs hx hb hr hlk hml hT hown hK hA B hl
  have hown : s.vm.findClass RX6 = some m.cls := hown
  have hl : lv_has ls 4 [(0, .ref (a 0)), (1, .int w1), (2, .int w2)] := hl
  have hm : f_X6_rate σ w1 w2 = some out := hm
  unfold f_X6_rate at hm
  refine lv_aload_n hx hb dX6_rate_0 rfl (lv_at hl 0 rfl) ?_
  refine lv_iload_n hx hb dX6_rate_1 rfl (lv_at hl 1 rfl) ?_
  refine x_callVr (rest := []) hx hb hml hT hown hK hA B hl.1 (c_X6_isPlayer l D cI cZ a w1) mi_X6_isPlayer mv_X6_isPlayer xO_X rfl q314 ⟨rfl, rfl⟩ ⟨Nat.le_of_ble_eq_true rfl, Nat.le_of_ble_eq_true rfl⟩ rfl rfl (Nat.le_of_ble_eq_true rfl) dX6_rate_2 hm (fun x1 H locs B hm => ?_)
  refine lv_if_ne (tgt := 10) hx hb dX6_rate_5 (by decide) (fun q => ?_) (fun q => ?_)
  · have hm := iff hm q
    refine lv_iload_n hx hb dX6_rate_10 rfl (lv_at hl 2 rfl) ?_
    refine x_callSr (rest := []) hx hb hml hT hown hK hA B hl.1 (c_X6_isRating l D cI cZ (xW cI a) w2) mi_X6_isRating q205 q204 ⟨rfl, rfl⟩ ⟨Nat.le_of_ble_eq_true rfl, Nat.le_of_ble_eq_true rfl⟩ rfl rfl (Nat.le_of_ble_eq_true rfl) dX6_rate_11 hm (fun x2 H locs B hm => ?_)
    refine lv_if_ne (tgt := 20) hx hb dX6_rate_14 (by decide) (fun q => ?_) (fun q => ?_)
    · have hm := iff hm q
      refine lv_aload_n hx hb dX6_rate_20 rfl (lv_at hl 0 rfl) ?_
      refine x_getv (T := TX6) (N := 8) hx hb hT hown hK B xV_X_book inlX6 rfl (by decide) q184 rfl dX6_rate_21 ?_
      refine x_getvN (T := TX0) (N := 12) hx hb hT hown hK B xV_book_ratings inlX0 rfl (by decide) q51 rfl dX6_rate_24 ?_
      refine lv_iload_n hx hb dX6_rate_27 rfl (lv_at hl 1 rfl) ?_
      refine x_callVr (rest := []) hx hb hml hT hown hK hA B hl.1 (c_X2_at l D cI cZ xV_book_ratings_cells xA_book_ratings w1) mi_X2_at mv_X2_at xO_book_ratings rfl q317 ⟨rfl, rfl⟩ ⟨Nat.le_of_ble_eq_true rfl, Nat.le_of_ble_eq_true rfl⟩ rfl rfl (Nat.le_of_ble_eq_true rfl) dX6_rate_28 hm (fun x3 H locs B hm => ?_)
      refine lv_istore_n (lv' := [(3, .int x3), (0, .ref (a 0)), (1, .int w1), (2, .int w2)]) hx hb dX6_rate_31 rfl hl (by decide) rfl (fun ls hl => ?_)
      refine lv_aload_n hx hb dX6_rate_32 rfl (lv_at hl 1 rfl) ?_
      refine x_getv (T := TX6) (N := 8) hx hb hT hown hK B xV_X_book inlX6 rfl (by decide) q184 rfl dX6_rate_33 ?_
      refine x_getvN (T := TX0) (N := 12) hx hb hT hown hK B xV_book_ratings inlX0 rfl (by decide) q51 rfl dX6_rate_36 ?_
      refine lv_iload_n hx hb dX6_rate_39 rfl (lv_at hl 2 rfl) ?_
      refine lv_iload_n hx hb dX6_rate_40 rfl (lv_at hl 3 rfl) ?_
      refine x_callVv (rest := []) hx hb hml hT hown hK hA B hl.1 (c_X2_put l D cI cZ xV_book_ratings_cells xA_book_ratings w1 w2) mi_X2_put mv_X2_put xO_book_ratings rfl q318 ⟨rfl, rfl⟩ ⟨Nat.le_of_ble_eq_true rfl, Nat.le_of_ble_eq_true rfl⟩ rfl rfl (Nat.le_of_ble_eq_true rfl) dX6_rate_41 hm (fun σ H locs B hm => ?_)
      refine lv_aload_n hx hb dX6_rate_44 rfl (lv_at hl 1 rfl) ?_
      refine x_getv (T := TX6) (N := 8) hx hb hT hown hK B xV_X_table inlX6 rfl (by decide) q187 rfl dX6_rate_45 ?_
      refine x_callVv (rest := []) hx hb hml hT hown hK hA B hl.1 (c_X4_reckon l D cI cZ a) mi_X4_reckon mv_X4_reckon xO_table rfl q211 ⟨rfl, rfl⟩ ⟨Nat.le_of_ble_eq_true rfl, Nat.le_of_ble_eq_true rfl⟩ rfl rfl (Nat.le_of_ble_eq_true rfl) dX6_rate_48 hm (fun σ H locs B hm => ?_)
      refine lv_iload_n hx hb dX6_rate_51 rfl (lv_at hl 0 rfl) ?_
      exact x_iret hx hb hr hlk hK B dX6_rate_52 hm
    · have hm := ift hm q
      refine lv_bipush (v := (-2 : Int32)) hx hb dX6_rate_17 (by decide) ?_
      exact x_iret hx hb hr hlk hK B dX6_rate_19 hm
  · have hm := ift hm q
    refine lv_iconst (v := (-1 : Int32)) hx hb dX6_rate_8 (by decide) ?_
    exact x_iret hx hb hr hlk hK B dX6_rate_9 hm
def f_X4_countMet_s4 (σ : Mm) (v1 : Int32) (r4 : Int32 → Int32 → Option Int32) (v2 v3 : Int32) : Option Int32 :=
  if (σ 0 0) ≤ v3 then
    some v2
  else
    (f_X4_haveMet σ v1 v3).bind fun x1 =>
    if x1 = 0 then
      r4 v2 (v3 + (1 : Int32))
    else
      r4 (v2 + (1 : Int32)) (v3 + (1 : Int32))
def f_X4_countMet (σ : Mm) (w1 : Int32) : Option Int32 :=
  wh2 (f_X4_countMet_s4 σ w1) 5000 (0 : Int32) (0 : Int32)
set_option maxHeartbeats 4000000 in
set_option maxRecDepth 100000 in
theorem c_X4_countMet (l : Launch) (D : va_G) (cI cZ : ClassId) (a : Nat → Nat) (w1 : Int32) : CTr l D [(cI, FieldType.int), (cZ, FieldType.boolean)] (xW cI a) yX4_countMet (.code yX4_countMet cX4_countMet 4 (some FieldType.int) :: wsL_law) ({ frames := 3, cells := 0, slots := 0, locals := 65 } : Room) [.ref (a 35), .int w1] (fun σ => f_X4_countMet σ w1) := by
  refine CTr.of (by decide +kernel) (Nat.le_of_ble_eq_true rfl) ?_
  intro σ r hm p e s m below meth c A ls H locs hx hb hr hlk hml hT hown hK hA B hl
  have hown : s.vm.findClass RX4 = some m.cls := hown
  have hl : lv_has ls 4 [(0, .ref (a 35)), (1, .int w1)] := hl
  have hm : f_X4_countMet σ w1 = some r := hm
  unfold f_X4_countMet at hm
  have L4 : ∀ (v1 : Int32) (nn : Nat) (v2 : Int32) (v3 : Int32), wh2 (f_X4_countMet_s4 σ v1) nn v2 v3 = some r → ∀ (H : Heap) (locs : List Loc) (ls : Array Slot), BD D A s.heap ((xW cI a) σ) H locs → lv_has ls 4 [(0, .ref (a 35)), (1, .int v1), (2, .int v2), (3, .int v3)] → W p l e ({ frames := 3, cells := 0, slots := 0, locals := 65 } : Room) s m ([.ref (a 35), .int w1] : List Value).toArray below meth c H locs 0 0 (MQ below (QI D [(cI, FieldType.int), (cZ, FieldType.boolean)] (xW cI a) A (r, σ)) ([.ref (a 35), .int w1] : List Value).toArray s 0 0 A) (F0 m 4 ls []) := by
    intro v1
    refine loop2 (fun r4 ih4 v2 v3 hm H locs ls B hl => ?_)
    unfold f_X4_countMet_s4 at hm
    refine lv_iload_n hx hb dX4_countMet_4 rfl (lv_at hl 3 rfl) ?_
    refine lv_aload_n hx hb dX4_countMet_5 rfl (lv_at hl 0 rfl) ?_
    refine x_getv (T := TX4) (N := 10) hx hb hT hown hK B xV_table_book inlX4 rfl (by decide) q100 rfl dX4_countMet_6 ?_
    refine x_getiN (T := TX0) (N := 12) hx hb hT hown hK B xI_book_players inlX0 rfl (by decide) q48 rfl dX4_countMet_9 ?_
    refine lv_icmp_ge (tgt := 33) hx hb dX4_countMet_12 (by decide) (fun q => ?_) (fun q => ?_)
    · have hm := ift hm q
      refine lv_iload_n hx hb dX4_countMet_33 rfl (lv_at hl 2 rfl) ?_
      exact x_iretr hx hb hr hlk hK B dX4_countMet_34 hm
    · have hm := iff hm q
      refine lv_aload_n hx hb dX4_countMet_15 rfl (lv_at hl 0 rfl) ?_
      refine lv_iload_n hx hb dX4_countMet_16 rfl (lv_at hl 1 rfl) ?_
      refine lv_iload_n hx hb dX4_countMet_17 rfl (lv_at hl 3 rfl) ?_
      refine x_callVr (rest := []) hx hb hml hT hown hK hA B hl.1 (c_X4_haveMet l D cI cZ a v1 v3) mi_X4_haveMet mv_X4_haveMet xO_table rfl q281 ⟨rfl, rfl⟩ ⟨Nat.le_of_ble_eq_true rfl, Nat.le_of_ble_eq_true rfl⟩ rfl rfl (Nat.le_of_ble_eq_true rfl) dX4_countMet_18 hm (fun x1 H locs B hm => ?_)
      refine lv_if_eq (tgt := 27) hx hb dX4_countMet_21 (by decide) (fun q => ?_) (fun q => ?_)
      · have hm := ift hm q
        refine lv_iinc (v := (v3 + (1 : Int32))) (lv' := [(3, .int (v3 + (1 : Int32))), (0, .ref (a 35)), (1, .int v1), (2, .int v2)]) hx hb dX4_countMet_27 hl (k := 3) rfl rfl (by decide) rfl (fun ls hl => ?_)
        refine lv_goto (tgt := 4) hx hb dX4_countMet_30 (by decide) ?_
        exact ih4 v2 (v3 + (1 : Int32)) hm H locs ls B (lv_sub hl [1, 2, 3, 0] rfl)
      · have hm := iff hm q
        refine lv_iinc (v := (v2 + (1 : Int32))) (lv' := [(2, .int (v2 + (1 : Int32))), (0, .ref (a 35)), (1, .int v1), (3, .int v3)]) hx hb dX4_countMet_24 hl (k := 2) rfl rfl (by decide) rfl (fun ls hl => ?_)
        refine lv_iinc (v := (v3 + (1 : Int32))) (lv' := [(3, .int (v3 + (1 : Int32))), (2, .int (v2 + (1 : Int32))), (0, .ref (a 35)), (1, .int v1)]) hx hb dX4_countMet_27 hl (k := 3) rfl rfl (by decide) rfl (fun ls hl => ?_)
        refine lv_goto (tgt := 4) hx hb dX4_countMet_30 (by decide) ?_
        exact ih4 (v2 + (1 : Int32)) (v3 + (1 : Int32)) hm H locs ls B (lv_sub hl [2, 3, 1, 0] rfl)
  refine lv_iconst (v := (0 : Int32)) hx hb dX4_countMet_0 (by decide) ?_
  refine lv_istore_n (lv' := [(2, .int (0 : Int32)), (0, .ref (a 35)), (1, .int w1)]) hx hb dX4_countMet_1 rfl hl (by decide) rfl (fun ls hl => ?_)
  refine lv_iconst (v := (0 : Int32)) hx hb dX4_countMet_2 (by decide) ?_
  refine lv_istore_n (lv' := [(3, .int (0 : Int32)), (2, .int (0 : Int32)), (0, .ref (a 35)), (1, .int w1)]) hx hb dX4_countMet_3 rfl hl (by decide) rfl (fun ls hl => ?_)
  exact L4 w1 5000 (0 : Int32) (0 : Int32) hm H locs ls B (lv_sub hl [2, 3, 1, 0] rfl)
def f_X6_of (σ : Mm) (w1 : Int32) (w2 : Int32) : Option Int32 :=
  (f_X6_isPlayer σ w1).bind fun x1 =>
  if x1 = 0 then
    some (-1 : Int32)
  else
    if w2 = (0 : Int32) then
      (f_X2_at 12 1 σ w1).bind fun x2 =>
      some x2
    else
      if w2 = (1 : Int32) then
        (f_X2_at 12 2 σ w1).bind fun x3 =>
        some x3
      else
        if w2 = (2 : Int32) then
          (f_X4_tieOf σ w1 (0 : Int32)).bind fun x4 =>
          some x4
        else
          if w2 = (3 : Int32) then
            (f_X2_at 12 51 σ w1).bind fun x5 =>
            some x5
          else
            if w2 = (4 : Int32) then
              (f_X2_at 12 52 σ w1).bind fun x6 =>
              some (x6 + (100 : Int32))
            else
              if w2 = (5 : Int32) then
                (f_X2_at 12 53 σ w1).bind fun x7 =>
                some x7
              else
                if w2 = (6 : Int32) then
                  (f_X2_at 12 54 σ w1).bind fun x8 =>
                  some x8
                else
                  if w2 = (7 : Int32) then
                    (f_X2_at 12 55 σ w1).bind fun x9 =>
                    some x9
                  else
                    if w2 = (8 : Int32) then
                      (f_X4_countMet σ w1).bind fun x10 =>
                      some x10
                    else
                      some (-1 : Int32)
set_option maxHeartbeats 4000000 in
set_option maxRecDepth 100000 in
theorem c_X6_of (l : Launch) (D : va_G) (cI cZ : ClassId) (a : Nat → Nat) (w1 : Int32) (w2 : Int32) : CTr l D [(cI, FieldType.int), (cZ, FieldType.boolean)] (xW cI a) yX6_of (.code yX6_of cX6_of 3 (some FieldType.int) :: wsL_law) ({ frames := 4, cells := 0, slots := 0, locals := 88 } : Room) [.ref (a 0), .int w1, .int w2] (fun σ => f_X6_of σ w1 w2) := by
  refine CTr.of (by decide +kernel) (Nat.le_of_ble_eq_true rfl) ?_
  intro σ r hm p e s m below meth c A ls H locs hx hb hr hlk hml hT hown hK hA B hl
  have hown : s.vm.findClass RX6 = some m.cls := hown
  have hl : lv_has ls 3 [(0, .ref (a 0)), (1, .int w1), (2, .int w2)] := hl
  have hm : f_X6_of σ w1 w2 = some r := hm
  unfold f_X6_of at hm
  refine lv_aload_n hx hb dX6_of_0 rfl (lv_at hl 0 rfl) ?_
  refine lv_iload_n hx hb dX6_of_1 rfl (lv_at hl 1 rfl) ?_
  refine x_callVr (rest := []) hx hb hml hT hown hK hA B hl.1 (c_X6_isPlayer l D cI cZ a w1) mi_X6_isPlayer mv_X6_isPlayer xO_X rfl q314 ⟨rfl, rfl⟩ ⟨Nat.le_of_ble_eq_true rfl, Nat.le_of_ble_eq_true rfl⟩ rfl rfl (Nat.le_of_ble_eq_true rfl) dX6_of_2 hm (fun x1 H locs B hm => ?_)
  refine lv_if_ne (tgt := 10) hx hb dX6_of_5 (by decide) (fun q => ?_) (fun q => ?_)
  · have hm := iff hm q
    refine lv_iload_n hx hb dX6_of_10 rfl (lv_at hl 2 rfl) ?_
    by_cases q0 : w2 = (0 : Int32)
    · have hm := ift hm q0
      refine lv_tableIn (off := 49) (tgt := 60) hx hb dX6_of_11 (by rw [q0]; decide) (by rw [q0]; decide) (by rw [q0]; rfl) (by decide) ?_
      refine lv_aload_n hx hb dX6_of_60 rfl (lv_at hl 0 rfl) ?_
      refine x_getv (T := TX6) (N := 8) hx hb hT hown hK B xV_X_book inlX6 rfl (by decide) q184 rfl dX6_of_61 ?_
      refine x_getvN (T := TX0) (N := 12) hx hb hT hown hK B xV_book_ratings inlX0 rfl (by decide) q51 rfl dX6_of_64 ?_
      refine lv_iload_n hx hb dX6_of_67 rfl (lv_at hl 1 rfl) ?_
      refine x_callVr (rest := []) hx hb hml hT hown hK hA B hl.1 (c_X2_at l D cI cZ xV_book_ratings_cells xA_book_ratings w1) mi_X2_at mv_X2_at xO_book_ratings rfl q317 ⟨rfl, rfl⟩ ⟨Nat.le_of_ble_eq_true rfl, Nat.le_of_ble_eq_true rfl⟩ rfl rfl (Nat.le_of_ble_eq_true rfl) dX6_of_68 hm (fun x2 H locs B hm => ?_)
      exact x_iretr hx hb hr hlk hK B dX6_of_71 hm
    · have hm := iff hm q0
      by_cases q1 : w2 = (1 : Int32)
      · have hm := ift hm q1
        refine lv_tableIn (off := 61) (tgt := 72) hx hb dX6_of_11 (by rw [q1]; decide) (by rw [q1]; decide) (by rw [q1]; rfl) (by decide) ?_
        refine lv_aload_n hx hb dX6_of_72 rfl (lv_at hl 0 rfl) ?_
        refine x_getv (T := TX6) (N := 8) hx hb hT hown hK B xV_X_book inlX6 rfl (by decide) q184 rfl dX6_of_73 ?_
        refine x_getvN (T := TX0) (N := 12) hx hb hT hown hK B xV_book_inside inlX0 rfl (by decide) q54 rfl dX6_of_76 ?_
        refine lv_iload_n hx hb dX6_of_79 rfl (lv_at hl 1 rfl) ?_
        refine x_callVr (rest := []) hx hb hml hT hown hK hA B hl.1 (c_X2_at l D cI cZ xV_book_inside_cells xA_book_inside w1) mi_X2_at mv_X2_at xO_book_inside rfl q317 ⟨rfl, rfl⟩ ⟨Nat.le_of_ble_eq_true rfl, Nat.le_of_ble_eq_true rfl⟩ rfl rfl (Nat.le_of_ble_eq_true rfl) dX6_of_80 hm (fun x3 H locs B hm => ?_)
        exact x_iretr hx hb hr hlk hK B dX6_of_83 hm
      · have hm := iff hm q1
        by_cases q2 : w2 = (2 : Int32)
        · have hm := ift hm q2
          refine lv_tableIn (off := 73) (tgt := 84) hx hb dX6_of_11 (by rw [q2]; decide) (by rw [q2]; decide) (by rw [q2]; rfl) (by decide) ?_
          refine lv_aload_n hx hb dX6_of_84 rfl (lv_at hl 0 rfl) ?_
          refine x_getv (T := TX6) (N := 8) hx hb hT hown hK B xV_X_table inlX6 rfl (by decide) q187 rfl dX6_of_85 ?_
          refine lv_iload_n hx hb dX6_of_88 rfl (lv_at hl 1 rfl) ?_
          refine lv_iconst (v := (0 : Int32)) hx hb dX6_of_89 (by decide) ?_
          refine x_callVr (rest := []) hx hb hml hT hown hK hA B hl.1 (c_X4_tieOf l D cI cZ a w1 (0 : Int32)) mi_X4_tieOf mv_X4_tieOf xO_table rfl q335 ⟨rfl, rfl⟩ ⟨Nat.le_of_ble_eq_true rfl, Nat.le_of_ble_eq_true rfl⟩ rfl rfl (Nat.le_of_ble_eq_true rfl) dX6_of_90 hm (fun x4 H locs B hm => ?_)
          exact x_iretr hx hb hr hlk hK B dX6_of_93 hm
        · have hm := iff hm q2
          by_cases q3 : w2 = (3 : Int32)
          · have hm := ift hm q3
            refine lv_tableIn (off := 83) (tgt := 94) hx hb dX6_of_11 (by rw [q3]; decide) (by rw [q3]; decide) (by rw [q3]; rfl) (by decide) ?_
            refine lv_aload_n hx hb dX6_of_94 rfl (lv_at hl 0 rfl) ?_
            refine x_getv (T := TX6) (N := 8) hx hb hT hown hK B xV_X_table inlX6 rfl (by decide) q187 rfl dX6_of_95 ?_
            refine x_getvN (T := TX4) (N := 10) hx hb hT hown hK B xV_table_played inlX4 rfl (by decide) q103 rfl dX6_of_98 ?_
            refine lv_iload_n hx hb dX6_of_101 rfl (lv_at hl 1 rfl) ?_
            refine x_callVr (rest := []) hx hb hml hT hown hK hA B hl.1 (c_X2_at l D cI cZ xV_table_played_cells xA_table_played w1) mi_X2_at mv_X2_at xO_table_played rfl q317 ⟨rfl, rfl⟩ ⟨Nat.le_of_ble_eq_true rfl, Nat.le_of_ble_eq_true rfl⟩ rfl rfl (Nat.le_of_ble_eq_true rfl) dX6_of_102 hm (fun x5 H locs B hm => ?_)
            exact x_iretr hx hb hr hlk hK B dX6_of_105 hm
          · have hm := iff hm q3
            by_cases q4 : w2 = (4 : Int32)
            · have hm := ift hm q4
              refine lv_tableIn (off := 95) (tgt := 106) hx hb dX6_of_11 (by rw [q4]; decide) (by rw [q4]; decide) (by rw [q4]; rfl) (by decide) ?_
              refine lv_aload_n hx hb dX6_of_106 rfl (lv_at hl 0 rfl) ?_
              refine x_getv (T := TX6) (N := 8) hx hb hT hown hK B xV_X_table inlX6 rfl (by decide) q187 rfl dX6_of_107 ?_
              refine x_getvN (T := TX4) (N := 10) hx hb hT hown hK B xV_table_balances inlX4 rfl (by decide) q105 rfl dX6_of_110 ?_
              refine lv_iload_n hx hb dX6_of_113 rfl (lv_at hl 1 rfl) ?_
              refine x_callVr (rest := []) hx hb hml hT hown hK hA B hl.1 (c_X2_at l D cI cZ xV_table_balances_cells xA_table_balances w1) mi_X2_at mv_X2_at xO_table_balances rfl q317 ⟨rfl, rfl⟩ ⟨Nat.le_of_ble_eq_true rfl, Nat.le_of_ble_eq_true rfl⟩ rfl rfl (Nat.le_of_ble_eq_true rfl) dX6_of_114 hm (fun x6 H locs B hm => ?_)
              refine lv_bipush (v := (100 : Int32)) hx hb dX6_of_117 (by decide) ?_
              refine lv_iadd hx hb dX6_of_119 ?_
              exact x_iretr hx hb hr hlk hK B dX6_of_120 hm
            · have hm := iff hm q4
              by_cases q5 : w2 = (5 : Int32)
              · have hm := ift hm q5
                refine lv_tableIn (off := 110) (tgt := 121) hx hb dX6_of_11 (by rw [q5]; decide) (by rw [q5]; decide) (by rw [q5]; rfl) (by decide) ?_
                refine lv_aload_n hx hb dX6_of_121 rfl (lv_at hl 0 rfl) ?_
                refine x_getv (T := TX6) (N := 8) hx hb hT hown hK B xV_X_table inlX6 rfl (by decide) q187 rfl dX6_of_122 ?_
                refine x_getvN (T := TX4) (N := 10) hx hb hT hown hK B xV_table_latest inlX4 rfl (by decide) q108 rfl dX6_of_125 ?_
                refine lv_iload_n hx hb dX6_of_128 rfl (lv_at hl 1 rfl) ?_
                refine x_callVr (rest := []) hx hb hml hT hown hK hA B hl.1 (c_X2_at l D cI cZ xV_table_latest_cells xA_table_latest w1) mi_X2_at mv_X2_at xO_table_latest rfl q317 ⟨rfl, rfl⟩ ⟨Nat.le_of_ble_eq_true rfl, Nat.le_of_ble_eq_true rfl⟩ rfl rfl (Nat.le_of_ble_eq_true rfl) dX6_of_129 hm (fun x7 H locs B hm => ?_)
                exact x_iretr hx hb hr hlk hK B dX6_of_132 hm
              · have hm := iff hm q5
                by_cases q6 : w2 = (6 : Int32)
                · have hm := ift hm q6
                  refine lv_tableIn (off := 122) (tgt := 133) hx hb dX6_of_11 (by rw [q6]; decide) (by rw [q6]; decide) (by rw [q6]; rfl) (by decide) ?_
                  refine lv_aload_n hx hb dX6_of_133 rfl (lv_at hl 0 rfl) ?_
                  refine x_getv (T := TX6) (N := 8) hx hb hT hown hK B xV_X_table inlX6 rfl (by decide) q187 rfl dX6_of_134 ?_
                  refine x_getvN (T := TX4) (N := 10) hx hb hT hown hK B xV_table_byes inlX4 rfl (by decide) q111 rfl dX6_of_137 ?_
                  refine lv_iload_n hx hb dX6_of_140 rfl (lv_at hl 1 rfl) ?_
                  refine x_callVr (rest := []) hx hb hml hT hown hK hA B hl.1 (c_X2_at l D cI cZ xV_table_byes_cells xA_table_byes w1) mi_X2_at mv_X2_at xO_table_byes rfl q317 ⟨rfl, rfl⟩ ⟨Nat.le_of_ble_eq_true rfl, Nat.le_of_ble_eq_true rfl⟩ rfl rfl (Nat.le_of_ble_eq_true rfl) dX6_of_141 hm (fun x8 H locs B hm => ?_)
                  exact x_iretr hx hb hr hlk hK B dX6_of_144 hm
                · have hm := iff hm q6
                  by_cases q7 : w2 = (7 : Int32)
                  · have hm := ift hm q7
                    refine lv_tableIn (off := 134) (tgt := 145) hx hb dX6_of_11 (by rw [q7]; decide) (by rw [q7]; decide) (by rw [q7]; rfl) (by decide) ?_
                    refine lv_aload_n hx hb dX6_of_145 rfl (lv_at hl 0 rfl) ?_
                    refine x_getv (T := TX6) (N := 8) hx hb hT hown hK B xV_X_table inlX6 rfl (by decide) q187 rfl dX6_of_146 ?_
                    refine x_getvN (T := TX4) (N := 10) hx hb hT hown hK B xV_table_forfeits inlX4 rfl (by decide) q114 rfl dX6_of_149 ?_
                    refine lv_iload_n hx hb dX6_of_152 rfl (lv_at hl 1 rfl) ?_
                    refine x_callVr (rest := []) hx hb hml hT hown hK hA B hl.1 (c_X2_at l D cI cZ xV_table_forfeits_cells xA_table_forfeits w1) mi_X2_at mv_X2_at xO_table_forfeits rfl q317 ⟨rfl, rfl⟩ ⟨Nat.le_of_ble_eq_true rfl, Nat.le_of_ble_eq_true rfl⟩ rfl rfl (Nat.le_of_ble_eq_true rfl) dX6_of_153 hm (fun x9 H locs B hm => ?_)
                    exact x_iretr hx hb hr hlk hK B dX6_of_156 hm
                  · have hm := iff hm q7
                    by_cases q8 : w2 = (8 : Int32)
                    · have hm := ift hm q8
                      refine lv_tableIn (off := 146) (tgt := 157) hx hb dX6_of_11 (by rw [q8]; decide) (by rw [q8]; decide) (by rw [q8]; rfl) (by decide) ?_
                      refine lv_aload_n hx hb dX6_of_157 rfl (lv_at hl 0 rfl) ?_
                      refine x_getv (T := TX6) (N := 8) hx hb hT hown hK B xV_X_table inlX6 rfl (by decide) q187 rfl dX6_of_158 ?_
                      refine lv_iload_n hx hb dX6_of_161 rfl (lv_at hl 1 rfl) ?_
                      refine x_callVr (rest := []) hx hb hml hT hown hK hA B hl.1 (c_X4_countMet l D cI cZ a w1) mi_X4_countMet mv_X4_countMet xO_table rfl q336 ⟨rfl, rfl⟩ ⟨Nat.le_of_ble_eq_true rfl, Nat.le_of_ble_eq_true rfl⟩ rfl rfl (Nat.le_of_ble_eq_true rfl) dX6_of_162 hm (fun x10 H locs B hm => ?_)
                      exact x_iretr hx hb hr hlk hK B dX6_of_165 hm
                    · have hm := iff hm q8
                      have z0 := lv_neT (k := (0 : Int32)) (a := 0) q0 (by decide)
                      have z1 := lv_neT (k := (1 : Int32)) (a := 1) q1 (by decide)
                      have z2 := lv_neT (k := (2 : Int32)) (a := 2) q2 (by decide)
                      have z3 := lv_neT (k := (3 : Int32)) (a := 3) q3 (by decide)
                      have z4 := lv_neT (k := (4 : Int32)) (a := 4) q4 (by decide)
                      have z5 := lv_neT (k := (5 : Int32)) (a := 5) q5 (by decide)
                      have z6 := lv_neT (k := (6 : Int32)) (a := 6) q6 (by decide)
                      have z7 := lv_neT (k := (7 : Int32)) (a := 7) q7 (by decide)
                      have z8 := lv_neT (k := (8 : Int32)) (a := 8) q8 (by decide)
                      refine lv_tableOut (tgt := 166) hx hb dX6_of_11 (by omega) (by decide) ?_
                      refine lv_iconst (v := (-1 : Int32)) hx hb dX6_of_166 (by decide) ?_
                      exact x_iretr hx hb hr hlk hK B dX6_of_167 hm
  · have hm := ift hm q
    refine lv_iconst (v := (-1 : Int32)) hx hb dX6_of_8 (by decide) ?_
    exact x_iretr hx hb hr hlk hK B dX6_of_9 hm
def f_X6_tie (σ : Mm) (w1 : Int32) (w2 : Int32) : Option Int32 :=
  (f_X6_isPlayer σ w1).bind fun x1 =>
  if x1 = 0 then
    some (-1 : Int32)
  else
    if w2 < 0 then
      some (-1 : Int32)
    else
      if w2 < (9 : Int32) then
        (f_X4_tieOf σ w1 w2).bind fun x2 =>
        some x2
      else
        some (-1 : Int32)
set_option maxHeartbeats 4000000 in
set_option maxRecDepth 100000 in
theorem c_X6_tie (l : Launch) (D : va_G) (cI cZ : ClassId) (a : Nat → Nat) (w1 : Int32) (w2 : Int32) : CTr l D [(cI, FieldType.int), (cZ, FieldType.boolean)] (xW cI a) yX6_tie (.code yX6_tie cX6_tie 3 (some FieldType.int) :: wsL_law) ({ frames := 2, cells := 0, slots := 0, locals := 43 } : Room) [.ref (a 0), .int w1, .int w2] (fun σ => f_X6_tie σ w1 w2) := by
  refine CTr.of (by decide +kernel) (Nat.le_of_ble_eq_true rfl) ?_
  intro σ r hm p e s m below meth c A ls H locs hx hb hr hlk hml hT hown hK hA B hl
  have hown : s.vm.findClass RX6 = some m.cls := hown
  have hl : lv_has ls 3 [(0, .ref (a 0)), (1, .int w1), (2, .int w2)] := hl
  have hm : f_X6_tie σ w1 w2 = some r := hm
  unfold f_X6_tie at hm
  refine lv_aload_n hx hb dX6_tie_0 rfl (lv_at hl 0 rfl) ?_
  refine lv_iload_n hx hb dX6_tie_1 rfl (lv_at hl 1 rfl) ?_
  refine x_callVr (rest := []) hx hb hml hT hown hK hA B hl.1 (c_X6_isPlayer l D cI cZ a w1) mi_X6_isPlayer mv_X6_isPlayer xO_X rfl q314 ⟨rfl, rfl⟩ ⟨Nat.le_of_ble_eq_true rfl, Nat.le_of_ble_eq_true rfl⟩ rfl rfl (Nat.le_of_ble_eq_true rfl) dX6_tie_2 hm (fun x1 H locs B hm => ?_)
  refine lv_if_eq (tgt := 18) hx hb dX6_tie_5 (by decide) (fun q => ?_) (fun q => ?_)
  · have hm := ift hm q
    refine lv_iconst (v := (-1 : Int32)) hx hb dX6_tie_18 (by decide) ?_
    exact x_iretr hx hb hr hlk hK B dX6_tie_19 hm
  · have hm := iff hm q
    refine lv_iload_n hx hb dX6_tie_8 rfl (lv_at hl 2 rfl) ?_
    refine lv_if_lt (tgt := 18) hx hb dX6_tie_9 (by decide) (fun q => ?_) (fun q => ?_)
    · have hm := ift hm q
      refine lv_iconst (v := (-1 : Int32)) hx hb dX6_tie_18 (by decide) ?_
      exact x_iretr hx hb hr hlk hK B dX6_tie_19 hm
    · have hm := iff hm q
      refine lv_iload_n hx hb dX6_tie_12 rfl (lv_at hl 2 rfl) ?_
      refine lv_bipush (v := (9 : Int32)) hx hb dX6_tie_13 (by decide) ?_
      refine lv_icmp_lt (tgt := 20) hx hb dX6_tie_15 (by decide) (fun q => ?_) (fun q => ?_)
      · have hm := ift hm q
        refine lv_aload_n hx hb dX6_tie_20 rfl (lv_at hl 0 rfl) ?_
        refine x_getv (T := TX6) (N := 8) hx hb hT hown hK B xV_X_table inlX6 rfl (by decide) q187 rfl dX6_tie_21 ?_
        refine lv_iload_n hx hb dX6_tie_24 rfl (lv_at hl 1 rfl) ?_
        refine lv_iload_n hx hb dX6_tie_25 rfl (lv_at hl 2 rfl) ?_
        refine x_callVr (rest := []) hx hb hml hT hown hK hA B hl.1 (c_X4_tieOf l D cI cZ a w1 w2) mi_X4_tieOf mv_X4_tieOf xO_table rfl q335 ⟨rfl, rfl⟩ ⟨Nat.le_of_ble_eq_true rfl, Nat.le_of_ble_eq_true rfl⟩ rfl rfl (Nat.le_of_ble_eq_true rfl) dX6_tie_26 hm (fun x2 H locs B hm => ?_)
        exact x_iretr hx hb hr hlk hK B dX6_tie_29 hm
      · have hm := iff hm q
        refine lv_iconst (v := (-1 : Int32)) hx hb dX6_tie_18 (by decide) ?_
        exact x_iretr hx hb hr hlk hK B dX6_tie_19 hm
def f_X4_placeOf_s2 (σ : Mm) (v1 : Int32) (r2 : Int32 → Option Int32) (v2 : Int32) : Option Int32 :=
  if (σ 0 0) ≤ v2 then
    some (-1 : Int32)
  else
    (f_X2_at 12 58 σ v2).bind fun x1 =>
    if x1 = v1 then
      some v2
    else
      r2 (v2 + (1 : Int32))
def f_X4_placeOf (σ : Mm) (w1 : Int32) : Option Int32 :=
  wh1 (f_X4_placeOf_s2 σ w1) 5000 (0 : Int32)
set_option maxHeartbeats 4000000 in
set_option maxRecDepth 100000 in
theorem c_X4_placeOf (l : Launch) (D : va_G) (cI cZ : ClassId) (a : Nat → Nat) (w1 : Int32) : CTr l D [(cI, FieldType.int), (cZ, FieldType.boolean)] (xW cI a) yX4_placeOf (.code yX4_placeOf cX4_placeOf 3 (some FieldType.int) :: wsL_law) ({ frames := 1, cells := 0, slots := 0, locals := 21 } : Room) [.ref (a 35), .int w1] (fun σ => f_X4_placeOf σ w1) := by
  refine CTr.of (by decide +kernel) (Nat.le_of_ble_eq_true rfl) ?_
  intro σ r hm p e s m below meth c A ls H locs hx hb hr hlk hml hT hown hK hA B hl
  have hown : s.vm.findClass RX4 = some m.cls := hown
  have hl : lv_has ls 3 [(0, .ref (a 35)), (1, .int w1)] := hl
  have hm : f_X4_placeOf σ w1 = some r := hm
  unfold f_X4_placeOf at hm
  have L2 : ∀ (v1 : Int32) (nn : Nat) (v2 : Int32), wh1 (f_X4_placeOf_s2 σ v1) nn v2 = some r → ∀ (H : Heap) (locs : List Loc) (ls : Array Slot), BD D A s.heap ((xW cI a) σ) H locs → lv_has ls 3 [(0, .ref (a 35)), (1, .int v1), (2, .int v2)] → W p l e ({ frames := 1, cells := 0, slots := 0, locals := 21 } : Room) s m ([.ref (a 35), .int w1] : List Value).toArray below meth c H locs 0 0 (MQ below (QI D [(cI, FieldType.int), (cZ, FieldType.boolean)] (xW cI a) A (r, σ)) ([.ref (a 35), .int w1] : List Value).toArray s 0 0 A) (F0 m 2 ls []) := by
    intro v1
    refine loop1 (fun r2 ih2 v2 hm H locs ls B hl => ?_)
    unfold f_X4_placeOf_s2 at hm
    refine lv_iload_n hx hb dX4_placeOf_2 rfl (lv_at hl 2 rfl) ?_
    refine lv_aload_n hx hb dX4_placeOf_3 rfl (lv_at hl 0 rfl) ?_
    refine x_getv (T := TX4) (N := 10) hx hb hT hown hK B xV_table_book inlX4 rfl (by decide) q100 rfl dX4_placeOf_4 ?_
    refine x_getiN (T := TX0) (N := 12) hx hb hT hown hK B xI_book_players inlX0 rfl (by decide) q48 rfl dX4_placeOf_7 ?_
    refine lv_icmp_ge (tgt := 33) hx hb dX4_placeOf_10 (by decide) (fun q => ?_) (fun q => ?_)
    · have hm := ift hm q
      refine lv_iconst (v := (-1 : Int32)) hx hb dX4_placeOf_33 (by decide) ?_
      exact x_iretr hx hb hr hlk hK B dX4_placeOf_34 hm
    · have hm := iff hm q
      refine lv_aload_n hx hb dX4_placeOf_13 rfl (lv_at hl 0 rfl) ?_
      refine x_getv (T := TX4) (N := 10) hx hb hT hown hK B xV_table_standing inlX4 rfl (by decide) q118 rfl dX4_placeOf_14 ?_
      refine lv_iload_n hx hb dX4_placeOf_17 rfl (lv_at hl 2 rfl) ?_
      refine x_callVr (rest := []) hx hb hml hT hown hK hA B hl.1 (c_X2_at l D cI cZ xV_table_standing_cells xA_table_standing v2) mi_X2_at mv_X2_at xO_table_standing rfl q226 ⟨rfl, rfl⟩ ⟨Nat.le_of_ble_eq_true rfl, Nat.le_of_ble_eq_true rfl⟩ rfl rfl (Nat.le_of_ble_eq_true rfl) dX4_placeOf_18 hm (fun x1 H locs B hm => ?_)
      refine lv_iload_n hx hb dX4_placeOf_21 rfl (lv_at hl 1 rfl) ?_
      refine lv_icmp_ne (tgt := 27) hx hb dX4_placeOf_22 (by decide) (fun q => ?_) (fun q => ?_)
      · have hm := iff hm q
        refine lv_iinc (v := (v2 + (1 : Int32))) (lv' := [(2, .int (v2 + (1 : Int32))), (0, .ref (a 35)), (1, .int v1)]) hx hb dX4_placeOf_27 hl (k := 2) rfl rfl (by decide) rfl (fun ls hl => ?_)
        refine lv_goto (tgt := 2) hx hb dX4_placeOf_30 (by decide) ?_
        exact ih2 (v2 + (1 : Int32)) hm H locs ls B (lv_sub hl [1, 2, 0] rfl)
      · have hm := ift hm q
        refine lv_iload_n hx hb dX4_placeOf_25 rfl (lv_at hl 2 rfl) ?_
        exact x_iretr hx hb hr hlk hK B dX4_placeOf_26 hm
  refine lv_iconst (v := (0 : Int32)) hx hb dX4_placeOf_0 (by decide) ?_
  refine lv_istore_n (lv' := [(2, .int (0 : Int32)), (0, .ref (a 35)), (1, .int w1)]) hx hb dX4_placeOf_1 rfl hl (by decide) rfl (fun ls hl => ?_)
  exact L2 w1 5000 (0 : Int32) hm H locs ls B (lv_sub hl [1, 2, 0] rfl)
def f_X6_rank (σ : Mm) (w1 : Int32) : Option Int32 :=
  (f_X6_isPlayer σ w1).bind fun x1 =>
  if x1 = 0 then
    some (-1 : Int32)
  else
    (f_X4_placeOf σ w1).bind fun x2 =>
    some x2
set_option maxHeartbeats 4000000 in
set_option maxRecDepth 100000 in
theorem c_X6_rank (l : Launch) (D : va_G) (cI cZ : ClassId) (a : Nat → Nat) (w1 : Int32) : CTr l D [(cI, FieldType.int), (cZ, FieldType.boolean)] (xW cI a) yX6_rank (.code yX6_rank cX6_rank 2 (some FieldType.int) :: wsL_law) ({ frames := 2, cells := 0, slots := 0, locals := 43 } : Room) [.ref (a 0), .int w1] (fun σ => f_X6_rank σ w1) := by
  refine CTr.of (by decide +kernel) (Nat.le_of_ble_eq_true rfl) ?_
  intro σ r hm p e s m below meth c A ls H locs hx hb hr hlk hml hT hown hK hA B hl
  have hown : s.vm.findClass RX6 = some m.cls := hown
  have hl : lv_has ls 2 [(0, .ref (a 0)), (1, .int w1)] := hl
  have hm : f_X6_rank σ w1 = some r := hm
  unfold f_X6_rank at hm
  refine lv_aload_n hx hb dX6_rank_0 rfl (lv_at hl 0 rfl) ?_
  refine lv_iload_n hx hb dX6_rank_1 rfl (lv_at hl 1 rfl) ?_
  refine x_callVr (rest := []) hx hb hml hT hown hK hA B hl.1 (c_X6_isPlayer l D cI cZ a w1) mi_X6_isPlayer mv_X6_isPlayer xO_X rfl q314 ⟨rfl, rfl⟩ ⟨Nat.le_of_ble_eq_true rfl, Nat.le_of_ble_eq_true rfl⟩ rfl rfl (Nat.le_of_ble_eq_true rfl) dX6_rank_2 hm (fun x1 H locs B hm => ?_)
  refine lv_if_eq (tgt := 19) hx hb dX6_rank_5 (by decide) (fun q => ?_) (fun q => ?_)
  · have hm := ift hm q
    refine lv_iconst (v := (-1 : Int32)) hx hb dX6_rank_19 (by decide) ?_
    exact x_iretr hx hb hr hlk hK B dX6_rank_20 hm
  · have hm := iff hm q
    refine lv_aload_n hx hb dX6_rank_8 rfl (lv_at hl 0 rfl) ?_
    refine x_getv (T := TX6) (N := 8) hx hb hT hown hK B xV_X_table inlX6 rfl (by decide) q187 rfl dX6_rank_9 ?_
    refine lv_iload_n hx hb dX6_rank_12 rfl (lv_at hl 1 rfl) ?_
    refine x_callVr (rest := []) hx hb hml hT hown hK hA B hl.1 (c_X4_placeOf l D cI cZ a w1) mi_X4_placeOf mv_X4_placeOf xO_table rfl q348 ⟨rfl, rfl⟩ ⟨Nat.le_of_ble_eq_true rfl, Nat.le_of_ble_eq_true rfl⟩ rfl rfl (Nat.le_of_ble_eq_true rfl) dX6_rank_13 hm (fun x2 H locs B hm => ?_)
    refine lv_goto (tgt := 20) hx hb dX6_rank_16 (by decide) ?_
    exact x_iretr hx hb hr hlk hK B dX6_rank_20 hm
def f_X6_nth (σ : Mm) (w1 : Int32) : Option Int32 :=
  (f_X6_isPlayer σ w1).bind fun x1 =>
  if x1 = 0 then
    some (-1 : Int32)
  else
    (f_X2_at 12 58 σ w1).bind fun x2 =>
    some x2
set_option maxHeartbeats 4000000 in
set_option maxRecDepth 100000 in
theorem c_X6_nth (l : Launch) (D : va_G) (cI cZ : ClassId) (a : Nat → Nat) (w1 : Int32) : CTr l D [(cI, FieldType.int), (cZ, FieldType.boolean)] (xW cI a) yX6_nth (.code yX6_nth cX6_nth 2 (some FieldType.int) :: wsL_law) ({ frames := 1, cells := 0, slots := 0, locals := 21 } : Room) [.ref (a 0), .int w1] (fun σ => f_X6_nth σ w1) := by
  refine CTr.of (by decide +kernel) (Nat.le_of_ble_eq_true rfl) ?_
  intro σ r hm p e s m below meth c A ls H locs hx hb hr hlk hml hT hown hK hA B hl
  have hown : s.vm.findClass RX6 = some m.cls := hown
  have hl : lv_has ls 2 [(0, .ref (a 0)), (1, .int w1)] := hl
  have hm : f_X6_nth σ w1 = some r := hm
  unfold f_X6_nth at hm
  refine lv_aload_n hx hb dX6_nth_0 rfl (lv_at hl 0 rfl) ?_
  refine lv_iload_n hx hb dX6_nth_1 rfl (lv_at hl 1 rfl) ?_
  refine x_callVr (rest := []) hx hb hml hT hown hK hA B hl.1 (c_X6_isPlayer l D cI cZ a w1) mi_X6_isPlayer mv_X6_isPlayer xO_X rfl q314 ⟨rfl, rfl⟩ ⟨Nat.le_of_ble_eq_true rfl, Nat.le_of_ble_eq_true rfl⟩ rfl rfl (Nat.le_of_ble_eq_true rfl) dX6_nth_2 hm (fun x1 H locs B hm => ?_)
  refine lv_if_eq (tgt := 22) hx hb dX6_nth_5 (by decide) (fun q => ?_) (fun q => ?_)
  · have hm := ift hm q
    refine lv_iconst (v := (-1 : Int32)) hx hb dX6_nth_22 (by decide) ?_
    exact x_iretr hx hb hr hlk hK B dX6_nth_23 hm
  · have hm := iff hm q
    refine lv_aload_n hx hb dX6_nth_8 rfl (lv_at hl 0 rfl) ?_
    refine x_getv (T := TX6) (N := 8) hx hb hT hown hK B xV_X_table inlX6 rfl (by decide) q187 rfl dX6_nth_9 ?_
    refine x_getvN (T := TX4) (N := 10) hx hb hT hown hK B xV_table_standing inlX4 rfl (by decide) q120 rfl dX6_nth_12 ?_
    refine lv_iload_n hx hb dX6_nth_15 rfl (lv_at hl 1 rfl) ?_
    refine x_callVr (rest := []) hx hb hml hT hown hK hA B hl.1 (c_X2_at l D cI cZ xV_table_standing_cells xA_table_standing w1) mi_X2_at mv_X2_at xO_table_standing rfl q317 ⟨rfl, rfl⟩ ⟨Nat.le_of_ble_eq_true rfl, Nat.le_of_ble_eq_true rfl⟩ rfl rfl (Nat.le_of_ble_eq_true rfl) dX6_nth_16 hm (fun x2 H locs B hm => ?_)
    refine lv_goto (tgt := 23) hx hb dX6_nth_19 (by decide) ?_
    exact x_iretr hx hb hr hlk hK B dX6_nth_23 hm
def f_X6_areTwo (σ : Mm) (w1 : Int32) (w2 : Int32) : Option Int32 :=
  (f_X6_isPlayer σ w1).bind fun x1 =>
  if x1 = 0 then
    some (0 : Int32)
  else
    (f_X6_isPlayer σ w2).bind fun x2 =>
    if x2 = 0 then
      some (0 : Int32)
    else
      if w1 = w2 then
        some (0 : Int32)
      else
        some (1 : Int32)
set_option maxHeartbeats 4000000 in
set_option maxRecDepth 100000 in
theorem c_X6_areTwo (l : Launch) (D : va_G) (cI cZ : ClassId) (a : Nat → Nat) (w1 : Int32) (w2 : Int32) : CTr l D [(cI, FieldType.int), (cZ, FieldType.boolean)] (xW cI a) yX6_areTwo (.code yX6_areTwo cX6_areTwo 3 (some FieldType.boolean) :: wsL_law) ({ frames := 1, cells := 0, slots := 0, locals := 21 } : Room) [.ref (a 0), .int w1, .int w2] (fun σ => f_X6_areTwo σ w1 w2) := by
  refine CTr.of (by decide +kernel) (Nat.le_of_ble_eq_true rfl) ?_
  intro σ r hm p e s m below meth c A ls H locs hx hb hr hlk hml hT hown hK hA B hl
  have hown : s.vm.findClass RX6 = some m.cls := hown
  have hl : lv_has ls 3 [(0, .ref (a 0)), (1, .int w1), (2, .int w2)] := hl
  have hm : f_X6_areTwo σ w1 w2 = some r := hm
  unfold f_X6_areTwo at hm
  refine lv_aload_n hx hb dX6_areTwo_0 rfl (lv_at hl 0 rfl) ?_
  refine lv_iload_n hx hb dX6_areTwo_1 rfl (lv_at hl 1 rfl) ?_
  refine x_callVr (rest := []) hx hb hml hT hown hK hA B hl.1 (c_X6_isPlayer l D cI cZ a w1) mi_X6_isPlayer mv_X6_isPlayer xO_X rfl q314 ⟨rfl, rfl⟩ ⟨Nat.le_of_ble_eq_true rfl, Nat.le_of_ble_eq_true rfl⟩ rfl rfl (Nat.le_of_ble_eq_true rfl) dX6_areTwo_2 hm (fun x1 H locs B hm => ?_)
  refine lv_if_eq (tgt := 25) hx hb dX6_areTwo_5 (by decide) (fun q => ?_) (fun q => ?_)
  · have hm := ift hm q
    refine lv_iconst (v := (0 : Int32)) hx hb dX6_areTwo_25 (by decide) ?_
    exact x_zretr hx hb hr hlk hK B rfl dX6_areTwo_26 hm
  · have hm := iff hm q
    refine lv_aload_n hx hb dX6_areTwo_8 rfl (lv_at hl 0 rfl) ?_
    refine lv_iload_n hx hb dX6_areTwo_9 rfl (lv_at hl 2 rfl) ?_
    refine x_callVr (rest := []) hx hb hml hT hown hK hA B hl.1 (c_X6_isPlayer l D cI cZ a w2) mi_X6_isPlayer mv_X6_isPlayer xO_X rfl q314 ⟨rfl, rfl⟩ ⟨Nat.le_of_ble_eq_true rfl, Nat.le_of_ble_eq_true rfl⟩ rfl rfl (Nat.le_of_ble_eq_true rfl) dX6_areTwo_10 hm (fun x2 H locs B hm => ?_)
    refine lv_if_eq (tgt := 25) hx hb dX6_areTwo_13 (by decide) (fun q => ?_) (fun q => ?_)
    · have hm := ift hm q
      refine lv_iconst (v := (0 : Int32)) hx hb dX6_areTwo_25 (by decide) ?_
      exact x_zretr hx hb hr hlk hK B rfl dX6_areTwo_26 hm
    · have hm := iff hm q
      refine lv_iload_n hx hb dX6_areTwo_16 rfl (lv_at hl 1 rfl) ?_
      refine lv_iload_n hx hb dX6_areTwo_17 rfl (lv_at hl 2 rfl) ?_
      refine lv_icmp_eq (tgt := 25) hx hb dX6_areTwo_18 (by decide) (fun q => ?_) (fun q => ?_)
      · have hm := ift hm q
        refine lv_iconst (v := (0 : Int32)) hx hb dX6_areTwo_25 (by decide) ?_
        exact x_zretr hx hb hr hlk hK B rfl dX6_areTwo_26 hm
      · have hm := iff hm q
        refine lv_iconst (v := (1 : Int32)) hx hb dX6_areTwo_21 (by decide) ?_
        refine lv_goto (tgt := 26) hx hb dX6_areTwo_22 (by decide) ?_
        exact x_zretr hx hb hr hlk hK B rfl dX6_areTwo_26 hm
def f_X6_explain (σ : Mm) (w1 : Int32) (w2 : Int32) (w3 : Int32) : Option Int32 :=
  (f_X6_areTwo σ w1 w2).bind fun x1 =>
  if x1 = 0 then
    some (-1 : Int32)
  else
    if w3 < 0 then
      some (-1 : Int32)
    else
      if w3 ≤ (1 : Int32) then
        (f_X4_firstDifference σ w1 w2).bind fun x2 =>
        if w3 = 0 then
          some x2
        else
          if x2 = (-5 : Int32) then
            some (w2 - w1)
          else
            (f_X4_tieOf σ w1 x2).bind fun x3 =>
            (f_X4_tieOf σ w2 x2).bind fun x4 =>
            some (x3 - x4)
      else
        some (-1 : Int32)
set_option maxHeartbeats 4000000 in
set_option maxRecDepth 100000 in
theorem c_X6_explain (l : Launch) (D : va_G) (cI cZ : ClassId) (a : Nat → Nat) (w1 : Int32) (w2 : Int32) (w3 : Int32) : CTr l D [(cI, FieldType.int), (cZ, FieldType.boolean)] (xW cI a) yX6_explain (.code yX6_explain cX6_explain 5 (some FieldType.int) :: wsL_law) ({ frames := 3, cells := 0, slots := 0, locals := 67 } : Room) [.ref (a 0), .int w1, .int w2, .int w3] (fun σ => f_X6_explain σ w1 w2 w3) := by
  refine CTr.of (by decide +kernel) (Nat.le_of_ble_eq_true rfl) ?_
  intro σ r hm p e s m below meth c A ls H locs hx hb hr hlk hml hT hown hK hA B hl
  have hown : s.vm.findClass RX6 = some m.cls := hown
  have hl : lv_has ls 5 [(0, .ref (a 0)), (1, .int w1), (2, .int w2), (3, .int w3)] := hl
  have hm : f_X6_explain σ w1 w2 w3 = some r := hm
  unfold f_X6_explain at hm
  refine lv_aload_n hx hb dX6_explain_0 rfl (lv_at hl 0 rfl) ?_
  refine lv_iload_n hx hb dX6_explain_1 rfl (lv_at hl 1 rfl) ?_
  refine lv_iload_n hx hb dX6_explain_2 rfl (lv_at hl 2 rfl) ?_
  refine x_callVr (rest := []) hx hb hml hT hown hK hA B hl.1 (c_X6_areTwo l D cI cZ a w1 w2) mi_X6_areTwo mv_X6_areTwo xO_X rfl q360 ⟨rfl, rfl⟩ ⟨Nat.le_of_ble_eq_true rfl, Nat.le_of_ble_eq_true rfl⟩ rfl rfl (Nat.le_of_ble_eq_true rfl) dX6_explain_3 hm (fun x1 H locs B hm => ?_)
  refine lv_if_eq (tgt := 18) hx hb dX6_explain_6 (by decide) (fun q => ?_) (fun q => ?_)
  · have hm := ift hm q
    refine lv_iconst (v := (-1 : Int32)) hx hb dX6_explain_18 (by decide) ?_
    exact x_iretr hx hb hr hlk hK B dX6_explain_19 hm
  · have hm := iff hm q
    refine lv_iload_n hx hb dX6_explain_9 rfl (lv_at hl 3 rfl) ?_
    refine lv_if_lt (tgt := 18) hx hb dX6_explain_10 (by decide) (fun q => ?_) (fun q => ?_)
    · have hm := ift hm q
      refine lv_iconst (v := (-1 : Int32)) hx hb dX6_explain_18 (by decide) ?_
      exact x_iretr hx hb hr hlk hK B dX6_explain_19 hm
    · have hm := iff hm q
      refine lv_iload_n hx hb dX6_explain_13 rfl (lv_at hl 3 rfl) ?_
      refine lv_iconst (v := (1 : Int32)) hx hb dX6_explain_14 (by decide) ?_
      refine lv_icmp_le (tgt := 20) hx hb dX6_explain_15 (by decide) (fun q => ?_) (fun q => ?_)
      · have hm := ift hm q
        refine lv_aload_n hx hb dX6_explain_20 rfl (lv_at hl 0 rfl) ?_
        refine x_getv (T := TX6) (N := 8) hx hb hT hown hK B xV_X_table inlX6 rfl (by decide) q187 rfl dX6_explain_21 ?_
        refine lv_iload_n hx hb dX6_explain_24 rfl (lv_at hl 1 rfl) ?_
        refine lv_iload_n hx hb dX6_explain_25 rfl (lv_at hl 2 rfl) ?_
        refine x_callVr (rest := []) hx hb hml hT hown hK hA B hl.1 (c_X4_firstDifference l D cI cZ a w1 w2) mi_X4_firstDifference mv_X4_firstDifference xO_table rfl q363 ⟨rfl, rfl⟩ ⟨Nat.le_of_ble_eq_true rfl, Nat.le_of_ble_eq_true rfl⟩ rfl rfl (Nat.le_of_ble_eq_true rfl) dX6_explain_26 hm (fun x2 H locs B hm => ?_)
        refine lv_istore (lv' := [(4, .int x2), (0, .ref (a 0)), (1, .int w1), (2, .int w2), (3, .int w3)]) hx hb dX6_explain_29 hl (by decide) rfl (fun ls hl => ?_)
        refine lv_iload_n hx hb dX6_explain_31 rfl (lv_at hl 4 rfl) ?_
        refine lv_if_ne (tgt := 38) hx hb dX6_explain_32 (by decide) (fun q => ?_) (fun q => ?_)
        · have hm := iff hm q
          refine lv_iload hx hb dX6_explain_38 (lv_at hl 0 rfl) ?_
          refine lv_bipush (v := (-5 : Int32)) hx hb dX6_explain_40 (by decide) ?_
          refine lv_icmp_ne (tgt := 49) hx hb dX6_explain_42 (by decide) (fun q => ?_) (fun q => ?_)
          · have hm := iff hm q
            refine lv_aload_n hx hb dX6_explain_49 rfl (lv_at hl 1 rfl) ?_
            refine x_getv (T := TX6) (N := 8) hx hb hT hown hK B xV_X_table inlX6 rfl (by decide) q187 rfl dX6_explain_50 ?_
            refine lv_iload_n hx hb dX6_explain_53 rfl (lv_at hl 2 rfl) ?_
            refine lv_iload hx hb dX6_explain_54 (lv_at hl 0 rfl) ?_
            refine x_callVr (rest := []) hx hb hml hT hown hK hA B hl.1 (c_X4_tieOf l D cI cZ a w1 x2) mi_X4_tieOf mv_X4_tieOf xO_table rfl q335 ⟨rfl, rfl⟩ ⟨Nat.le_of_ble_eq_true rfl, Nat.le_of_ble_eq_true rfl⟩ rfl rfl (Nat.le_of_ble_eq_true rfl) dX6_explain_56 hm (fun x3 H locs B hm => ?_)
            refine lv_aload_n hx hb dX6_explain_59 rfl (lv_at hl 1 rfl) ?_
            refine x_getv (T := TX6) (N := 8) hx hb hT hown hK B xV_X_table inlX6 rfl (by decide) q187 rfl dX6_explain_60 ?_
            refine lv_iload_n hx hb dX6_explain_63 rfl (lv_at hl 3 rfl) ?_
            refine lv_iload hx hb dX6_explain_64 (lv_at hl 0 rfl) ?_
            refine x_callVr (rest := [.int x3]) hx hb hml hT hown hK hA B hl.1 (c_X4_tieOf l D cI cZ a w2 x2) mi_X4_tieOf mv_X4_tieOf xO_table rfl q335 ⟨rfl, rfl⟩ ⟨Nat.le_of_ble_eq_true rfl, Nat.le_of_ble_eq_true rfl⟩ rfl rfl (Nat.le_of_ble_eq_true rfl) dX6_explain_66 hm (fun x4 H locs B hm => ?_)
            refine lv_isub hx hb dX6_explain_69 ?_
            exact x_iretr hx hb hr hlk hK B dX6_explain_70 hm
          · have hm := ift hm q
            refine lv_iload_n hx hb dX6_explain_45 rfl (lv_at hl 3 rfl) ?_
            refine lv_iload_n hx hb dX6_explain_46 rfl (lv_at hl 2 rfl) ?_
            refine lv_isub hx hb dX6_explain_47 ?_
            exact x_iretr hx hb hr hlk hK B dX6_explain_48 hm
        · have hm := ift hm q
          refine lv_iload hx hb dX6_explain_35 (lv_at hl 0 rfl) ?_
          exact x_iretr hx hb hr hlk hK B dX6_explain_37 hm
      · have hm := iff hm q
        refine lv_iconst (v := (-1 : Int32)) hx hb dX6_explain_18 (by decide) ?_
        exact x_iretr hx hb hr hlk hK B dX6_explain_19 hm
def f_X6_alike_s35 (σ : Mm) (v2 : Int32) (r35 : Int32 → Int32 → Option Int32) (v3 v4 : Int32) : Option Int32 :=
  if (σ 0 0) ≤ v4 then
    some v3
  else
    (f_X4_tieOf σ v4 (0 : Int32)).bind fun x1 =>
    if x1 = v2 then
      r35 (v3 + (1 : Int32)) (v4 + (1 : Int32))
    else
      r35 v3 (v4 + (1 : Int32))
def f_X6_alike (σ : Mm) (w1 : Int32) : Option Int32 :=
  (f_X6_isPlayer σ w1).bind fun x2 =>
  if x2 = 0 then
    some (-1 : Int32)
  else
    (f_X2_at 12 58 σ w1).bind fun x3 =>
    (f_X4_tieOf σ x3 (0 : Int32)).bind fun x4 =>
    wh2 (f_X6_alike_s35 σ x4) 5000 (0 : Int32) (0 : Int32)
set_option maxHeartbeats 4000000 in
set_option maxRecDepth 100000 in
theorem c_X6_alike (l : Launch) (D : va_G) (cI cZ : ClassId) (a : Nat → Nat) (w1 : Int32) : CTr l D [(cI, FieldType.int), (cZ, FieldType.boolean)] (xW cI a) yX6_alike (.code yX6_alike cX6_alike 5 (some FieldType.int) :: wsL_law) ({ frames := 2, cells := 0, slots := 0, locals := 43 } : Room) [.ref (a 0), .int w1] (fun σ => f_X6_alike σ w1) := by
  refine CTr.of (by decide +kernel) (Nat.le_of_ble_eq_true rfl) ?_
  intro σ r hm p e s m below meth c A ls H locs hx hb hr hlk hml hT hown hK hA B hl
  have hown : s.vm.findClass RX6 = some m.cls := hown
  have hl : lv_has ls 5 [(0, .ref (a 0)), (1, .int w1)] := hl
  have hm : f_X6_alike σ w1 = some r := hm
  unfold f_X6_alike at hm
  have L35 : ∀ (v2 : Int32) (nn : Nat) (v3 : Int32) (v4 : Int32), wh2 (f_X6_alike_s35 σ v2) nn v3 v4 = some r → ∀ (H : Heap) (locs : List Loc) (ls : Array Slot), BD D A s.heap ((xW cI a) σ) H locs → lv_has ls 5 [(0, .ref (a 0)), (2, .int v2), (3, .int v3), (4, .int v4)] → W p l e ({ frames := 2, cells := 0, slots := 0, locals := 43 } : Room) s m ([.ref (a 0), .int w1] : List Value).toArray below meth c H locs 0 0 (MQ below (QI D [(cI, FieldType.int), (cZ, FieldType.boolean)] (xW cI a) A (r, σ)) ([.ref (a 0), .int w1] : List Value).toArray s 0 0 A) (F0 m 35 ls []) := by
    intro v2
    refine loop2 (fun r35 ih35 v3 v4 hm H locs ls B hl => ?_)
    unfold f_X6_alike_s35 at hm
    refine lv_iload hx hb dX6_alike_35 (lv_at hl 3 rfl) ?_
    refine lv_aload_n hx hb dX6_alike_37 rfl (lv_at hl 0 rfl) ?_
    refine x_getv (T := TX6) (N := 8) hx hb hT hown hK B xV_X_book inlX6 rfl (by decide) q184 rfl dX6_alike_38 ?_
    refine x_getiN (T := TX0) (N := 12) hx hb hT hown hK B xI_book_players inlX0 rfl (by decide) q47 rfl dX6_alike_41 ?_
    refine lv_icmp_ge (tgt := 70) hx hb dX6_alike_44 (by decide) (fun q => ?_) (fun q => ?_)
    · have hm := ift hm q
      refine lv_iload_n hx hb dX6_alike_70 rfl (lv_at hl 2 rfl) ?_
      exact x_iretr hx hb hr hlk hK B dX6_alike_71 hm
    · have hm := iff hm q
      refine lv_aload_n hx hb dX6_alike_47 rfl (lv_at hl 0 rfl) ?_
      refine x_getv (T := TX6) (N := 8) hx hb hT hown hK B xV_X_table inlX6 rfl (by decide) q187 rfl dX6_alike_48 ?_
      refine lv_iload hx hb dX6_alike_51 (lv_at hl 3 rfl) ?_
      refine lv_iconst (v := (0 : Int32)) hx hb dX6_alike_53 (by decide) ?_
      refine x_callVr (rest := []) hx hb hml hT hown hK hA B hl.1 (c_X4_tieOf l D cI cZ a v4 (0 : Int32)) mi_X4_tieOf mv_X4_tieOf xO_table rfl q335 ⟨rfl, rfl⟩ ⟨Nat.le_of_ble_eq_true rfl, Nat.le_of_ble_eq_true rfl⟩ rfl rfl (Nat.le_of_ble_eq_true rfl) dX6_alike_54 hm (fun x1 H locs B hm => ?_)
      refine lv_iload_n hx hb dX6_alike_57 rfl (lv_at hl 1 rfl) ?_
      refine lv_icmp_ne (tgt := 64) hx hb dX6_alike_58 (by decide) (fun q => ?_) (fun q => ?_)
      · have hm := iff hm q
        refine lv_iinc (v := (v4 + (1 : Int32))) (lv' := [(4, .int (v4 + (1 : Int32))), (0, .ref (a 0)), (2, .int v2), (3, .int v3)]) hx hb dX6_alike_64 hl (k := 3) rfl rfl (by decide) rfl (fun ls hl => ?_)
        refine lv_goto (tgt := 35) hx hb dX6_alike_67 (by decide) ?_
        exact ih35 v3 (v4 + (1 : Int32)) hm H locs ls B (lv_sub hl [1, 2, 3, 0] rfl)
      · have hm := ift hm q
        refine lv_iinc (v := (v3 + (1 : Int32))) (lv' := [(3, .int (v3 + (1 : Int32))), (0, .ref (a 0)), (2, .int v2), (4, .int v4)]) hx hb dX6_alike_61 hl (k := 2) rfl rfl (by decide) rfl (fun ls hl => ?_)
        refine lv_iinc (v := (v4 + (1 : Int32))) (lv' := [(4, .int (v4 + (1 : Int32))), (3, .int (v3 + (1 : Int32))), (0, .ref (a 0)), (2, .int v2)]) hx hb dX6_alike_64 hl (k := 3) rfl rfl (by decide) rfl (fun ls hl => ?_)
        refine lv_goto (tgt := 35) hx hb dX6_alike_67 (by decide) ?_
        exact ih35 (v3 + (1 : Int32)) (v4 + (1 : Int32)) hm H locs ls B (lv_sub hl [2, 3, 1, 0] rfl)
  refine lv_aload_n hx hb dX6_alike_0 rfl (lv_at hl 0 rfl) ?_
  refine lv_iload_n hx hb dX6_alike_1 rfl (lv_at hl 1 rfl) ?_
  refine x_callVr (rest := []) hx hb hml hT hown hK hA B hl.1 (c_X6_isPlayer l D cI cZ a w1) mi_X6_isPlayer mv_X6_isPlayer xO_X rfl q314 ⟨rfl, rfl⟩ ⟨Nat.le_of_ble_eq_true rfl, Nat.le_of_ble_eq_true rfl⟩ rfl rfl (Nat.le_of_ble_eq_true rfl) dX6_alike_2 hm (fun x2 H locs B hm => ?_)
  refine lv_if_ne (tgt := 10) hx hb dX6_alike_5 (by decide) (fun q => ?_) (fun q => ?_)
  · have hm := iff hm q
    refine lv_aload_n hx hb dX6_alike_10 rfl (lv_at hl 0 rfl) ?_
    refine x_getv (T := TX6) (N := 8) hx hb hT hown hK B xV_X_table inlX6 rfl (by decide) q187 rfl dX6_alike_11 ?_
    refine lv_aload_n hx hb dX6_alike_14 rfl (lv_at hl 0 rfl) ?_
    refine x_getv (T := TX6) (N := 8) hx hb hT hown hK B xV_X_table inlX6 rfl (by decide) q187 rfl dX6_alike_15 ?_
    refine x_getvN (T := TX4) (N := 10) hx hb hT hown hK B xV_table_standing inlX4 rfl (by decide) q120 rfl dX6_alike_18 ?_
    refine lv_iload_n hx hb dX6_alike_21 rfl (lv_at hl 1 rfl) ?_
    refine x_callVr (rest := [.ref (a 35)]) hx hb hml hT hown hK hA B hl.1 (c_X2_at l D cI cZ xV_table_standing_cells xA_table_standing w1) mi_X2_at mv_X2_at xO_table_standing rfl q317 ⟨rfl, rfl⟩ ⟨Nat.le_of_ble_eq_true rfl, Nat.le_of_ble_eq_true rfl⟩ rfl rfl (Nat.le_of_ble_eq_true rfl) dX6_alike_22 hm (fun x3 H locs B hm => ?_)
    refine lv_iconst (v := (0 : Int32)) hx hb dX6_alike_25 (by decide) ?_
    refine x_callVr (rest := []) hx hb hml hT hown hK hA B hl.1 (c_X4_tieOf l D cI cZ a x3 (0 : Int32)) mi_X4_tieOf mv_X4_tieOf xO_table rfl q335 ⟨rfl, rfl⟩ ⟨Nat.le_of_ble_eq_true rfl, Nat.le_of_ble_eq_true rfl⟩ rfl rfl (Nat.le_of_ble_eq_true rfl) dX6_alike_26 hm (fun x4 H locs B hm => ?_)
    refine lv_istore_n (lv' := [(2, .int x4), (0, .ref (a 0)), (1, .int w1)]) hx hb dX6_alike_29 rfl hl (by decide) rfl (fun ls hl => ?_)
    refine lv_iconst (v := (0 : Int32)) hx hb dX6_alike_30 (by decide) ?_
    refine lv_istore_n (lv' := [(3, .int (0 : Int32)), (2, .int x4), (0, .ref (a 0)), (1, .int w1)]) hx hb dX6_alike_31 rfl hl (by decide) rfl (fun ls hl => ?_)
    refine lv_iconst (v := (0 : Int32)) hx hb dX6_alike_32 (by decide) ?_
    refine lv_istore (lv' := [(4, .int (0 : Int32)), (3, .int (0 : Int32)), (2, .int x4), (0, .ref (a 0)), (1, .int w1)]) hx hb dX6_alike_33 hl (by decide) rfl (fun ls hl => ?_)
    exact L35 x4 5000 (0 : Int32) (0 : Int32) hm H locs ls B (lv_sub hl [3, 2, 1, 0] rfl)
  · have hm := ift hm q
    refine lv_iconst (v := (-1 : Int32)) hx hb dX6_alike_8 (by decide) ?_
    exact x_iretr hx hb hr hlk hK B dX6_alike_9 hm
def f_X6_isBalance_j39 : Option Int32 :=
  some (1 : Int32)
def f_X6_isBalance (w0 : Int32) (w1 : Int32) : Option Int32 :=
  if w1 = 0 then
    if w0 ≤ 0 then
      some (0 : Int32)
    else
      some (1 : Int32)
  else
    if w1 = (1 : Int32) then
      if 0 ≤ w0 then
        some (0 : Int32)
      else
        some (1 : Int32)
    else
      if (1 : Int32) < w0 then
        f_X6_isBalance_j39
      else
        if (-1 : Int32) ≤ w0 then
          some (0 : Int32)
        else
          f_X6_isBalance_j39
set_option maxHeartbeats 4000000 in
set_option maxRecDepth 100000 in
theorem c_X6_isBalance (l : Launch) (D : va_G) (cI cZ : ClassId) (ww : Mm → va_W) (w0 : Int32) (w1 : Int32) : CTr l D [(cI, FieldType.int), (cZ, FieldType.boolean)] ww yX6_isBalance (.code yX6_isBalance cX6_isBalance 2 (some FieldType.boolean) :: wsL_law) ({ frames := 0, cells := 0, slots := 0, locals := 0 } : Room) [.int w0, .int w1] (fun σ => f_X6_isBalance w0 w1) := by
  refine CTr.of (by decide +kernel) (Nat.le_of_ble_eq_true rfl) ?_
  intro σ r hm p e s m below meth c A ls H locs hx hb hr hlk hml hT hown hK hA B hl
  have hown : s.vm.findClass RX6 = some m.cls := hown
  have hl : lv_has ls 2 [(0, .int w0), (1, .int w1)] := hl
  have hm : f_X6_isBalance w0 w1 = some r := hm
  unfold f_X6_isBalance at hm
  have j39 : ∀  (H : Heap) (locs : List Loc) (ls : Array Slot), BD D A s.heap (ww σ) H locs → lv_has ls 2 [] → f_X6_isBalance_j39 = some r → W p l e ({ frames := 0, cells := 0, slots := 0, locals := 0 } : Room) s m ([.int w0, .int w1] : List Value).toArray below meth c H locs 0 0 (MQ below (QI D [(cI, FieldType.int), (cZ, FieldType.boolean)] ww A (r, σ)) ([.int w0, .int w1] : List Value).toArray s 0 0 A) (F0 m 39 ls []) := by
    intro  H locs ls B hl hm
    unfold f_X6_isBalance_j39 at hm
    refine lv_iconst (v := (1 : Int32)) hx hb dX6_isBalance_39 (by decide) ?_
    refine lv_goto (tgt := 44) hx hb dX6_isBalance_40 (by decide) ?_
    exact x_zretr hx hb hr hlk hK B rfl dX6_isBalance_44 hm
  refine lv_iload_n hx hb dX6_isBalance_0 rfl (lv_at hl 1 rfl) ?_
  refine lv_if_ne (tgt := 14) hx hb dX6_isBalance_1 (by decide) (fun q => ?_) (fun q => ?_)
  · have hm := iff hm q
    refine lv_iload_n hx hb dX6_isBalance_14 rfl (lv_at hl 1 rfl) ?_
    refine lv_iconst (v := (1 : Int32)) hx hb dX6_isBalance_15 (by decide) ?_
    refine lv_icmp_ne (tgt := 29) hx hb dX6_isBalance_16 (by decide) (fun q => ?_) (fun q => ?_)
    · have hm := iff hm q
      refine lv_iload_n hx hb dX6_isBalance_29 rfl (lv_at hl 0 rfl) ?_
      refine lv_iconst (v := (1 : Int32)) hx hb dX6_isBalance_30 (by decide) ?_
      refine lv_icmp_gt (tgt := 39) hx hb dX6_isBalance_31 (by decide) (fun q => ?_) (fun q => ?_)
      · have hm := ift hm q
        exact j39  H locs ls B (lv_sub hl [] rfl) hm
      · have hm := iff hm q
        refine lv_iload_n hx hb dX6_isBalance_34 rfl (lv_at hl 0 rfl) ?_
        refine lv_iconst (v := (-1 : Int32)) hx hb dX6_isBalance_35 (by decide) ?_
        refine lv_icmp_ge (tgt := 43) hx hb dX6_isBalance_36 (by decide) (fun q => ?_) (fun q => ?_)
        · have hm := ift hm q
          refine lv_iconst (v := (0 : Int32)) hx hb dX6_isBalance_43 (by decide) ?_
          exact x_zretr hx hb hr hlk hK B rfl dX6_isBalance_44 hm
        · have hm := iff hm q
          exact j39  H locs ls B (lv_sub hl [] rfl) hm
    · have hm := ift hm q
      refine lv_iload_n hx hb dX6_isBalance_19 rfl (lv_at hl 0 rfl) ?_
      refine lv_if_ge (tgt := 27) hx hb dX6_isBalance_20 (by decide) (fun q => ?_) (fun q => ?_)
      · have hm := ift hm q
        refine lv_iconst (v := (0 : Int32)) hx hb dX6_isBalance_27 (by decide) ?_
        exact x_zretr hx hb hr hlk hK B rfl dX6_isBalance_28 hm
      · have hm := iff hm q
        refine lv_iconst (v := (1 : Int32)) hx hb dX6_isBalance_23 (by decide) ?_
        refine lv_goto (tgt := 28) hx hb dX6_isBalance_24 (by decide) ?_
        exact x_zretr hx hb hr hlk hK B rfl dX6_isBalance_28 hm
  · have hm := ift hm q
    refine lv_iload_n hx hb dX6_isBalance_4 rfl (lv_at hl 0 rfl) ?_
    refine lv_if_le (tgt := 12) hx hb dX6_isBalance_5 (by decide) (fun q => ?_) (fun q => ?_)
    · have hm := ift hm q
      refine lv_iconst (v := (0 : Int32)) hx hb dX6_isBalance_12 (by decide) ?_
      exact x_zretr hx hb hr hlk hK B rfl dX6_isBalance_13 hm
    · have hm := iff hm q
      refine lv_iconst (v := (1 : Int32)) hx hb dX6_isBalance_8 (by decide) ?_
      refine lv_goto (tgt := 13) hx hb dX6_isBalance_9 (by decide) ?_
      exact x_zretr hx hb hr hlk hK B rfl dX6_isBalance_13 hm
def f_X6_colours_s15 (σ : Mm) (v1 : Int32) (r15 : Int32 → Int32 → Option Int32) (v2 v3 : Int32) : Option Int32 :=
  if (σ 0 0) ≤ v3 then
    some v2
  else
    (f_X2_at 12 52 σ v3).bind fun x1 =>
    (f_X6_isBalance x1 v1).bind fun x2 =>
    if x2 = 0 then
      r15 v2 (v3 + (1 : Int32))
    else
      r15 (v2 + (1 : Int32)) (v3 + (1 : Int32))
def f_X6_colours (σ : Mm) (w1 : Int32) : Option Int32 :=
  if w1 < 0 then
    some (-1 : Int32)
  else
    if w1 ≤ (2 : Int32) then
      wh2 (f_X6_colours_s15 σ w1) 5000 (0 : Int32) (0 : Int32)
    else
      some (-1 : Int32)
set_option maxHeartbeats 4000000 in
set_option maxRecDepth 100000 in
theorem c_X6_colours (l : Launch) (D : va_G) (cI cZ : ClassId) (a : Nat → Nat) (w1 : Int32) : CTr l D [(cI, FieldType.int), (cZ, FieldType.boolean)] (xW cI a) yX6_colours (.code yX6_colours cX6_colours 4 (some FieldType.int) :: wsL_law) ({ frames := 1, cells := 0, slots := 0, locals := 21 } : Room) [.ref (a 0), .int w1] (fun σ => f_X6_colours σ w1) := by
  refine CTr.of (by decide +kernel) (Nat.le_of_ble_eq_true rfl) ?_
  intro σ r hm p e s m below meth c A ls H locs hx hb hr hlk hml hT hown hK hA B hl
  have hown : s.vm.findClass RX6 = some m.cls := hown
  have hl : lv_has ls 4 [(0, .ref (a 0)), (1, .int w1)] := hl
  have hm : f_X6_colours σ w1 = some r := hm
  unfold f_X6_colours at hm
  have L15 : ∀ (v1 : Int32) (nn : Nat) (v2 : Int32) (v3 : Int32), wh2 (f_X6_colours_s15 σ v1) nn v2 v3 = some r → ∀ (H : Heap) (locs : List Loc) (ls : Array Slot), BD D A s.heap ((xW cI a) σ) H locs → lv_has ls 4 [(0, .ref (a 0)), (1, .int v1), (2, .int v2), (3, .int v3)] → W p l e ({ frames := 1, cells := 0, slots := 0, locals := 21 } : Room) s m ([.ref (a 0), .int w1] : List Value).toArray below meth c H locs 0 0 (MQ below (QI D [(cI, FieldType.int), (cZ, FieldType.boolean)] (xW cI a) A (r, σ)) ([.ref (a 0), .int w1] : List Value).toArray s 0 0 A) (F0 m 15 ls []) := by
    intro v1
    refine loop2 (fun r15 ih15 v2 v3 hm H locs ls B hl => ?_)
    unfold f_X6_colours_s15 at hm
    refine lv_iload_n hx hb dX6_colours_15 rfl (lv_at hl 3 rfl) ?_
    refine lv_aload_n hx hb dX6_colours_16 rfl (lv_at hl 0 rfl) ?_
    refine x_getv (T := TX6) (N := 8) hx hb hT hown hK B xV_X_book inlX6 rfl (by decide) q184 rfl dX6_colours_17 ?_
    refine x_getiN (T := TX0) (N := 12) hx hb hT hown hK B xI_book_players inlX0 rfl (by decide) q47 rfl dX6_colours_20 ?_
    refine lv_icmp_ge (tgt := 53) hx hb dX6_colours_23 (by decide) (fun q => ?_) (fun q => ?_)
    · have hm := ift hm q
      refine lv_iload_n hx hb dX6_colours_53 rfl (lv_at hl 2 rfl) ?_
      exact x_iretr hx hb hr hlk hK B dX6_colours_54 hm
    · have hm := iff hm q
      refine lv_aload_n hx hb dX6_colours_26 rfl (lv_at hl 0 rfl) ?_
      refine x_getv (T := TX6) (N := 8) hx hb hT hown hK B xV_X_table inlX6 rfl (by decide) q187 rfl dX6_colours_27 ?_
      refine x_getvN (T := TX4) (N := 10) hx hb hT hown hK B xV_table_balances inlX4 rfl (by decide) q105 rfl dX6_colours_30 ?_
      refine lv_iload_n hx hb dX6_colours_33 rfl (lv_at hl 3 rfl) ?_
      refine x_callVr (rest := []) hx hb hml hT hown hK hA B hl.1 (c_X2_at l D cI cZ xV_table_balances_cells xA_table_balances v3) mi_X2_at mv_X2_at xO_table_balances rfl q317 ⟨rfl, rfl⟩ ⟨Nat.le_of_ble_eq_true rfl, Nat.le_of_ble_eq_true rfl⟩ rfl rfl (Nat.le_of_ble_eq_true rfl) dX6_colours_34 hm (fun x1 H locs B hm => ?_)
      refine lv_iload_n hx hb dX6_colours_37 rfl (lv_at hl 1 rfl) ?_
      refine x_callSr (rest := []) hx hb hml hT hown hK hA B hl.1 (c_X6_isBalance l D cI cZ (xW cI a) x1 v1) mi_X6_isBalance q373 q372 ⟨rfl, rfl⟩ ⟨Nat.le_of_ble_eq_true rfl, Nat.le_of_ble_eq_true rfl⟩ rfl rfl (Nat.le_of_ble_eq_true rfl) dX6_colours_38 hm (fun x2 H locs B hm => ?_)
      refine lv_if_eq (tgt := 47) hx hb dX6_colours_41 (by decide) (fun q => ?_) (fun q => ?_)
      · have hm := ift hm q
        refine lv_iinc (v := (v3 + (1 : Int32))) (lv' := [(3, .int (v3 + (1 : Int32))), (0, .ref (a 0)), (1, .int v1), (2, .int v2)]) hx hb dX6_colours_47 hl (k := 3) rfl rfl (by decide) rfl (fun ls hl => ?_)
        refine lv_goto (tgt := 15) hx hb dX6_colours_50 (by decide) ?_
        exact ih15 v2 (v3 + (1 : Int32)) hm H locs ls B (lv_sub hl [1, 2, 3, 0] rfl)
      · have hm := iff hm q
        refine lv_iinc (v := (v2 + (1 : Int32))) (lv' := [(2, .int (v2 + (1 : Int32))), (0, .ref (a 0)), (1, .int v1), (3, .int v3)]) hx hb dX6_colours_44 hl (k := 2) rfl rfl (by decide) rfl (fun ls hl => ?_)
        refine lv_iinc (v := (v3 + (1 : Int32))) (lv' := [(3, .int (v3 + (1 : Int32))), (2, .int (v2 + (1 : Int32))), (0, .ref (a 0)), (1, .int v1)]) hx hb dX6_colours_47 hl (k := 3) rfl rfl (by decide) rfl (fun ls hl => ?_)
        refine lv_goto (tgt := 15) hx hb dX6_colours_50 (by decide) ?_
        exact ih15 (v2 + (1 : Int32)) (v3 + (1 : Int32)) hm H locs ls B (lv_sub hl [2, 3, 1, 0] rfl)
  refine lv_iload_n hx hb dX6_colours_0 rfl (lv_at hl 1 rfl) ?_
  refine lv_if_lt (tgt := 9) hx hb dX6_colours_1 (by decide) (fun q => ?_) (fun q => ?_)
  · have hm := ift hm q
    refine lv_iconst (v := (-1 : Int32)) hx hb dX6_colours_9 (by decide) ?_
    exact x_iretr hx hb hr hlk hK B dX6_colours_10 hm
  · have hm := iff hm q
    refine lv_iload_n hx hb dX6_colours_4 rfl (lv_at hl 1 rfl) ?_
    refine lv_iconst (v := (2 : Int32)) hx hb dX6_colours_5 (by decide) ?_
    refine lv_icmp_le (tgt := 11) hx hb dX6_colours_6 (by decide) (fun q => ?_) (fun q => ?_)
    · have hm := ift hm q
      refine lv_iconst (v := (0 : Int32)) hx hb dX6_colours_11 (by decide) ?_
      refine lv_istore_n (lv' := [(2, .int (0 : Int32)), (0, .ref (a 0)), (1, .int w1)]) hx hb dX6_colours_12 rfl hl (by decide) rfl (fun ls hl => ?_)
      refine lv_iconst (v := (0 : Int32)) hx hb dX6_colours_13 (by decide) ?_
      refine lv_istore_n (lv' := [(3, .int (0 : Int32)), (2, .int (0 : Int32)), (0, .ref (a 0)), (1, .int w1)]) hx hb dX6_colours_14 rfl hl (by decide) rfl (fun ls hl => ?_)
      exact L15 w1 5000 (0 : Int32) (0 : Int32) hm H locs ls B (lv_sub hl [2, 3, 1, 0] rfl)
    · have hm := iff hm q
      refine lv_iconst (v := (-1 : Int32)) hx hb dX6_colours_9 (by decide) ?_
      exact x_iretr hx hb hr hlk hK B dX6_colours_10 hm
def f_X6_met (σ : Mm) (w1 : Int32) (w2 : Int32) : Option Int32 :=
  (f_X6_areTwo σ w1 w2).bind fun x1 =>
  if x1 = 0 then
    some (-1 : Int32)
  else
    (f_X4_meetingOf σ w1 w2).bind fun x2 =>
    some x2
set_option maxHeartbeats 4000000 in
set_option maxRecDepth 100000 in
theorem c_X6_met (l : Launch) (D : va_G) (cI cZ : ClassId) (a : Nat → Nat) (w1 : Int32) (w2 : Int32) : CTr l D [(cI, FieldType.int), (cZ, FieldType.boolean)] (xW cI a) yX6_met (.code yX6_met cX6_met 3 (some FieldType.int) :: wsL_law) ({ frames := 2, cells := 0, slots := 0, locals := 43 } : Room) [.ref (a 0), .int w1, .int w2] (fun σ => f_X6_met σ w1 w2) := by
  refine CTr.of (by decide +kernel) (Nat.le_of_ble_eq_true rfl) ?_
  intro σ r hm p e s m below meth c A ls H locs hx hb hr hlk hml hT hown hK hA B hl
  have hown : s.vm.findClass RX6 = some m.cls := hown
  have hl : lv_has ls 3 [(0, .ref (a 0)), (1, .int w1), (2, .int w2)] := hl
  have hm : f_X6_met σ w1 w2 = some r := hm
  unfold f_X6_met at hm
  refine lv_aload_n hx hb dX6_met_0 rfl (lv_at hl 0 rfl) ?_
  refine lv_iload_n hx hb dX6_met_1 rfl (lv_at hl 1 rfl) ?_
  refine lv_iload_n hx hb dX6_met_2 rfl (lv_at hl 2 rfl) ?_
  refine x_callVr (rest := []) hx hb hml hT hown hK hA B hl.1 (c_X6_areTwo l D cI cZ a w1 w2) mi_X6_areTwo mv_X6_areTwo xO_X rfl q360 ⟨rfl, rfl⟩ ⟨Nat.le_of_ble_eq_true rfl, Nat.le_of_ble_eq_true rfl⟩ rfl rfl (Nat.le_of_ble_eq_true rfl) dX6_met_3 hm (fun x1 H locs B hm => ?_)
  refine lv_if_eq (tgt := 21) hx hb dX6_met_6 (by decide) (fun q => ?_) (fun q => ?_)
  · have hm := ift hm q
    refine lv_iconst (v := (-1 : Int32)) hx hb dX6_met_21 (by decide) ?_
    exact x_iretr hx hb hr hlk hK B dX6_met_22 hm
  · have hm := iff hm q
    refine lv_aload_n hx hb dX6_met_9 rfl (lv_at hl 0 rfl) ?_
    refine x_getv (T := TX6) (N := 8) hx hb hT hown hK B xV_X_table inlX6 rfl (by decide) q187 rfl dX6_met_10 ?_
    refine lv_iload_n hx hb dX6_met_13 rfl (lv_at hl 1 rfl) ?_
    refine lv_iload_n hx hb dX6_met_14 rfl (lv_at hl 2 rfl) ?_
    refine x_callVr (rest := []) hx hb hml hT hown hK hA B hl.1 (c_X4_meetingOf l D cI cZ a w1 w2) mi_X4_meetingOf mv_X4_meetingOf xO_table rfl q379 ⟨rfl, rfl⟩ ⟨Nat.le_of_ble_eq_true rfl, Nat.le_of_ble_eq_true rfl⟩ rfl rfl (Nat.le_of_ble_eq_true rfl) dX6_met_15 hm (fun x2 H locs B hm => ?_)
    refine lv_goto (tgt := 22) hx hb dX6_met_18 (by decide) ?_
    exact x_iretr hx hb hr hlk hK B dX6_met_22 hm
def f_X4_costOf_j55 (σ : Mm) (v1 v2 v3 : Int32) : Option Int32 :=
  (f_X2_at 12 53 σ v1).bind fun x1 =>
  if x1 = (-5 : Int32) then
    some v3
  else
    (f_X2_at 12 53 σ v1).bind fun x2 =>
    (f_X2_at 12 53 σ v2).bind fun x3 =>
    if x2 = x3 then
      some (v3 + (1 : Int32))
    else
      some v3
def f_X4_costOf (σ : Mm) (w1 : Int32) (w2 : Int32) : Option Int32 :=
  (f_X4_haveMet σ w1 w2).bind fun x4 =>
  if x4 = 0 then
    (f_X4_tieOf σ w1 (0 : Int32)).bind fun x5 =>
    (f_X4_tieOf σ w2 (0 : Int32)).bind fun x6 =>
    (some (if 0 ≤ (x5 - x6) then (x5 - x6) else 0 - (x5 - x6))).bind fun x7 =>
    (f_X2_at 12 52 σ w1).bind fun x8 =>
    (f_X2_at 12 52 σ w2).bind fun x9 =>
    if (x8 * x9) ≤ 0 then
      f_X4_costOf_j55 σ w1 w2 ((10 : Int32) * x7)
    else
      f_X4_costOf_j55 σ w1 w2 (((10 : Int32) * x7) + (3 : Int32))
  else
    some (-5 : Int32)
set_option maxHeartbeats 4000000 in
set_option maxRecDepth 100000 in
theorem c_X4_costOf (l : Launch) (D : va_G) (cI cZ : ClassId) (a : Nat → Nat) (w1 : Int32) (w2 : Int32) : CTr l D [(cI, FieldType.int), (cZ, FieldType.boolean)] (xW cI a) yX4_costOf (.code yX4_costOf cX4_costOf 4 (some FieldType.int) :: wsL_law) ({ frames := 3, cells := 0, slots := 0, locals := 65 } : Room) [.ref (a 35), .int w1, .int w2] (fun σ => f_X4_costOf σ w1 w2) := by
  refine CTr.of (by decide +kernel) (Nat.le_of_ble_eq_true rfl) ?_
  intro σ r hm p e s m below meth c A ls H locs hx hb hr hlk hml hT hown hK hA B hl
  have hown : s.vm.findClass RX4 = some m.cls := hown
  have hl : lv_has ls 4 [(0, .ref (a 35)), (1, .int w1), (2, .int w2)] := hl
  have hm : f_X4_costOf σ w1 w2 = some r := hm
  unfold f_X4_costOf at hm
  have j55 : ∀ (v1 : Int32) (v2 : Int32) (v3 : Int32) (H : Heap) (locs : List Loc) (ls : Array Slot), BD D A s.heap ((xW cI a) σ) H locs → lv_has ls 4 [(0, .ref (a 35)), (1, .int v1), (2, .int v2), (3, .int v3)] → f_X4_costOf_j55 σ v1 v2 v3 = some r → W p l e ({ frames := 3, cells := 0, slots := 0, locals := 65 } : Room) s m ([.ref (a 35), .int w1, .int w2] : List Value).toArray below meth c H locs 0 0 (MQ below (QI D [(cI, FieldType.int), (cZ, FieldType.boolean)] (xW cI a) A (r, σ)) ([.ref (a 35), .int w1, .int w2] : List Value).toArray s 0 0 A) (F0 m 55 ls []) := by
    intro v1 v2 v3 H locs ls B hl hm
    unfold f_X4_costOf_j55 at hm
    refine lv_aload_n hx hb dX4_costOf_55 rfl (lv_at hl 0 rfl) ?_
    refine x_getv (T := TX4) (N := 10) hx hb hT hown hK B xV_table_latest inlX4 rfl (by decide) q107 rfl dX4_costOf_56 ?_
    refine lv_iload_n hx hb dX4_costOf_59 rfl (lv_at hl 1 rfl) ?_
    refine x_callVr (rest := []) hx hb hml hT hown hK hA B hl.1 (c_X2_at l D cI cZ xV_table_latest_cells xA_table_latest v1) mi_X2_at mv_X2_at xO_table_latest rfl q226 ⟨rfl, rfl⟩ ⟨Nat.le_of_ble_eq_true rfl, Nat.le_of_ble_eq_true rfl⟩ rfl rfl (Nat.le_of_ble_eq_true rfl) dX4_costOf_60 hm (fun x1 H locs B hm => ?_)
    refine lv_bipush (v := (-5 : Int32)) hx hb dX4_costOf_63 (by decide) ?_
    refine lv_icmp_eq (tgt := 90) hx hb dX4_costOf_65 (by decide) (fun q => ?_) (fun q => ?_)
    · have hm := ift hm q
      refine lv_iload_n hx hb dX4_costOf_90 rfl (lv_at hl 3 rfl) ?_
      exact x_iretr hx hb hr hlk hK B dX4_costOf_91 hm
    · have hm := iff hm q
      refine lv_aload_n hx hb dX4_costOf_68 rfl (lv_at hl 0 rfl) ?_
      refine x_getv (T := TX4) (N := 10) hx hb hT hown hK B xV_table_latest inlX4 rfl (by decide) q107 rfl dX4_costOf_69 ?_
      refine lv_iload_n hx hb dX4_costOf_72 rfl (lv_at hl 1 rfl) ?_
      refine x_callVr (rest := []) hx hb hml hT hown hK hA B hl.1 (c_X2_at l D cI cZ xV_table_latest_cells xA_table_latest v1) mi_X2_at mv_X2_at xO_table_latest rfl q226 ⟨rfl, rfl⟩ ⟨Nat.le_of_ble_eq_true rfl, Nat.le_of_ble_eq_true rfl⟩ rfl rfl (Nat.le_of_ble_eq_true rfl) dX4_costOf_73 hm (fun x2 H locs B hm => ?_)
      refine lv_aload_n hx hb dX4_costOf_76 rfl (lv_at hl 0 rfl) ?_
      refine x_getv (T := TX4) (N := 10) hx hb hT hown hK B xV_table_latest inlX4 rfl (by decide) q107 rfl dX4_costOf_77 ?_
      refine lv_iload_n hx hb dX4_costOf_80 rfl (lv_at hl 2 rfl) ?_
      refine x_callVr (rest := [.int x2]) hx hb hml hT hown hK hA B hl.1 (c_X2_at l D cI cZ xV_table_latest_cells xA_table_latest v2) mi_X2_at mv_X2_at xO_table_latest rfl q226 ⟨rfl, rfl⟩ ⟨Nat.le_of_ble_eq_true rfl, Nat.le_of_ble_eq_true rfl⟩ rfl rfl (Nat.le_of_ble_eq_true rfl) dX4_costOf_81 hm (fun x3 H locs B hm => ?_)
      refine lv_icmp_ne (tgt := 90) hx hb dX4_costOf_84 (by decide) (fun q => ?_) (fun q => ?_)
      · have hm := iff hm q
        refine lv_iload_n hx hb dX4_costOf_90 rfl (lv_at hl 3 rfl) ?_
        exact x_iretr hx hb hr hlk hK B dX4_costOf_91 hm
      · have hm := ift hm q
        refine lv_iinc (v := (v3 + (1 : Int32))) (lv' := [(3, .int (v3 + (1 : Int32))), (0, .ref (a 35)), (1, .int v1), (2, .int v2)]) hx hb dX4_costOf_87 hl (k := 3) rfl rfl (by decide) rfl (fun ls hl => ?_)
        refine lv_iload_n hx hb dX4_costOf_90 rfl (lv_at hl 0 rfl) ?_
        exact x_iretr hx hb hr hlk hK B dX4_costOf_91 hm
  refine lv_aload_n hx hb dX4_costOf_0 rfl (lv_at hl 0 rfl) ?_
  refine lv_iload_n hx hb dX4_costOf_1 rfl (lv_at hl 1 rfl) ?_
  refine lv_iload_n hx hb dX4_costOf_2 rfl (lv_at hl 2 rfl) ?_
  refine x_callVr (rest := []) hx hb hml hT hown hK hA B hl.1 (c_X4_haveMet l D cI cZ a w1 w2) mi_X4_haveMet mv_X4_haveMet xO_table rfl q281 ⟨rfl, rfl⟩ ⟨Nat.le_of_ble_eq_true rfl, Nat.le_of_ble_eq_true rfl⟩ rfl rfl (Nat.le_of_ble_eq_true rfl) dX4_costOf_3 hm (fun x4 H locs B hm => ?_)
  refine lv_if_eq (tgt := 12) hx hb dX4_costOf_6 (by decide) (fun q => ?_) (fun q => ?_)
  · have hm := ift hm q
    refine lv_bipush (v := (10 : Int32)) hx hb dX4_costOf_12 (by decide) ?_
    refine lv_aload_n hx hb dX4_costOf_14 rfl (lv_at hl 0 rfl) ?_
    refine lv_iload_n hx hb dX4_costOf_15 rfl (lv_at hl 1 rfl) ?_
    refine lv_iconst (v := (0 : Int32)) hx hb dX4_costOf_16 (by decide) ?_
    refine x_callVr (rest := [.int (10 : Int32)]) hx hb hml hT hown hK hA B hl.1 (c_X4_tieOf l D cI cZ a w1 (0 : Int32)) mi_X4_tieOf mv_X4_tieOf xO_table rfl q274 ⟨rfl, rfl⟩ ⟨Nat.le_of_ble_eq_true rfl, Nat.le_of_ble_eq_true rfl⟩ rfl rfl (Nat.le_of_ble_eq_true rfl) dX4_costOf_17 hm (fun x5 H locs B hm => ?_)
    refine lv_aload_n hx hb dX4_costOf_20 rfl (lv_at hl 0 rfl) ?_
    refine lv_iload_n hx hb dX4_costOf_21 rfl (lv_at hl 2 rfl) ?_
    refine lv_iconst (v := (0 : Int32)) hx hb dX4_costOf_22 (by decide) ?_
    refine x_callVr (rest := [.int x5, .int (10 : Int32)]) hx hb hml hT hown hK hA B hl.1 (c_X4_tieOf l D cI cZ a w2 (0 : Int32)) mi_X4_tieOf mv_X4_tieOf xO_table rfl q274 ⟨rfl, rfl⟩ ⟨Nat.le_of_ble_eq_true rfl, Nat.le_of_ble_eq_true rfl⟩ rfl rfl (Nat.le_of_ble_eq_true rfl) dX4_costOf_23 hm (fun x6 H locs B hm => ?_)
    refine lv_isub hx hb dX4_costOf_26 ?_
    refine x_mabs hx hb (hml.trans hl.1.symm) hown (hT _ q388) (hT _ q389) (hT _ q4) (hT _ qM_abs) (Nat.le_of_ble_eq_true rfl) (Nat.le_of_ble_eq_true rfl) dX4_costOf_27 hm (fun x7 hm => ?_)
    refine lv_imul hx hb dX4_costOf_30 ?_
    refine lv_istore_n (lv' := [(3, .int ((10 : Int32) * x7)), (0, .ref (a 35)), (1, .int w1), (2, .int w2)]) hx hb dX4_costOf_31 rfl hl (by decide) rfl (fun ls hl => ?_)
    refine lv_aload_n hx hb dX4_costOf_32 rfl (lv_at hl 1 rfl) ?_
    refine x_getv (T := TX4) (N := 10) hx hb hT hown hK B xV_table_balances inlX4 rfl (by decide) q104 rfl dX4_costOf_33 ?_
    refine lv_iload_n hx hb dX4_costOf_36 rfl (lv_at hl 2 rfl) ?_
    refine x_callVr (rest := []) hx hb hml hT hown hK hA B hl.1 (c_X2_at l D cI cZ xV_table_balances_cells xA_table_balances w1) mi_X2_at mv_X2_at xO_table_balances rfl q226 ⟨rfl, rfl⟩ ⟨Nat.le_of_ble_eq_true rfl, Nat.le_of_ble_eq_true rfl⟩ rfl rfl (Nat.le_of_ble_eq_true rfl) dX4_costOf_37 hm (fun x8 H locs B hm => ?_)
    refine lv_aload_n hx hb dX4_costOf_40 rfl (lv_at hl 1 rfl) ?_
    refine x_getv (T := TX4) (N := 10) hx hb hT hown hK B xV_table_balances inlX4 rfl (by decide) q104 rfl dX4_costOf_41 ?_
    refine lv_iload_n hx hb dX4_costOf_44 rfl (lv_at hl 3 rfl) ?_
    refine x_callVr (rest := [.int x8]) hx hb hml hT hown hK hA B hl.1 (c_X2_at l D cI cZ xV_table_balances_cells xA_table_balances w2) mi_X2_at mv_X2_at xO_table_balances rfl q226 ⟨rfl, rfl⟩ ⟨Nat.le_of_ble_eq_true rfl, Nat.le_of_ble_eq_true rfl⟩ rfl rfl (Nat.le_of_ble_eq_true rfl) dX4_costOf_45 hm (fun x9 H locs B hm => ?_)
    refine lv_imul hx hb dX4_costOf_48 ?_
    refine lv_if_le (tgt := 55) hx hb dX4_costOf_49 (by decide) (fun q => ?_) (fun q => ?_)
    · have hm := ift hm q
      exact j55 w1 w2 ((10 : Int32) * x7) H locs ls B (lv_sub hl [1, 2, 3, 0] rfl) hm
    · have hm := iff hm q
      refine lv_iinc (v := (((10 : Int32) * x7) + (3 : Int32))) (lv' := [(3, .int (((10 : Int32) * x7) + (3 : Int32))), (0, .ref (a 35)), (1, .int w1), (2, .int w2)]) hx hb dX4_costOf_52 hl (k := 0) rfl rfl (by decide) rfl (fun ls hl => ?_)
      exact j55 w1 w2 (((10 : Int32) * x7) + (3 : Int32)) H locs ls B (lv_sub hl [1, 2, 3, 0] rfl) hm
  · have hm := iff hm q
    refine lv_bipush (v := (-5 : Int32)) hx hb dX4_costOf_9 (by decide) ?_
    exact x_iretr hx hb hr hlk hK B dX4_costOf_11 hm
def f_X6_cost (σ : Mm) (w1 : Int32) (w2 : Int32) : Option Int32 :=
  (f_X6_areTwo σ w1 w2).bind fun x1 =>
  if x1 = 0 then
    some (-1 : Int32)
  else
    (f_X4_costOf σ w1 w2).bind fun x2 =>
    some x2
set_option maxHeartbeats 4000000 in
set_option maxRecDepth 100000 in
theorem c_X6_cost (l : Launch) (D : va_G) (cI cZ : ClassId) (a : Nat → Nat) (w1 : Int32) (w2 : Int32) : CTr l D [(cI, FieldType.int), (cZ, FieldType.boolean)] (xW cI a) yX6_cost (.code yX6_cost cX6_cost 3 (some FieldType.int) :: wsL_law) ({ frames := 4, cells := 0, slots := 0, locals := 88 } : Room) [.ref (a 0), .int w1, .int w2] (fun σ => f_X6_cost σ w1 w2) := by
  refine CTr.of (by decide +kernel) (Nat.le_of_ble_eq_true rfl) ?_
  intro σ r hm p e s m below meth c A ls H locs hx hb hr hlk hml hT hown hK hA B hl
  have hown : s.vm.findClass RX6 = some m.cls := hown
  have hl : lv_has ls 3 [(0, .ref (a 0)), (1, .int w1), (2, .int w2)] := hl
  have hm : f_X6_cost σ w1 w2 = some r := hm
  unfold f_X6_cost at hm
  refine lv_aload_n hx hb dX6_cost_0 rfl (lv_at hl 0 rfl) ?_
  refine lv_iload_n hx hb dX6_cost_1 rfl (lv_at hl 1 rfl) ?_
  refine lv_iload_n hx hb dX6_cost_2 rfl (lv_at hl 2 rfl) ?_
  refine x_callVr (rest := []) hx hb hml hT hown hK hA B hl.1 (c_X6_areTwo l D cI cZ a w1 w2) mi_X6_areTwo mv_X6_areTwo xO_X rfl q360 ⟨rfl, rfl⟩ ⟨Nat.le_of_ble_eq_true rfl, Nat.le_of_ble_eq_true rfl⟩ rfl rfl (Nat.le_of_ble_eq_true rfl) dX6_cost_3 hm (fun x1 H locs B hm => ?_)
  refine lv_if_eq (tgt := 21) hx hb dX6_cost_6 (by decide) (fun q => ?_) (fun q => ?_)
  · have hm := ift hm q
    refine lv_iconst (v := (-1 : Int32)) hx hb dX6_cost_21 (by decide) ?_
    exact x_iretr hx hb hr hlk hK B dX6_cost_22 hm
  · have hm := iff hm q
    refine lv_aload_n hx hb dX6_cost_9 rfl (lv_at hl 0 rfl) ?_
    refine x_getv (T := TX6) (N := 8) hx hb hT hown hK B xV_X_table inlX6 rfl (by decide) q187 rfl dX6_cost_10 ?_
    refine lv_iload_n hx hb dX6_cost_13 rfl (lv_at hl 1 rfl) ?_
    refine lv_iload_n hx hb dX6_cost_14 rfl (lv_at hl 2 rfl) ?_
    refine x_callVr (rest := []) hx hb hml hT hown hK hA B hl.1 (c_X4_costOf l D cI cZ a w1 w2) mi_X4_costOf mv_X4_costOf xO_table rfl q384 ⟨rfl, rfl⟩ ⟨Nat.le_of_ble_eq_true rfl, Nat.le_of_ble_eq_true rfl⟩ rfl rfl (Nat.le_of_ble_eq_true rfl) dX6_cost_15 hm (fun x2 H locs B hm => ?_)
    refine lv_goto (tgt := 22) hx hb dX6_cost_18 (by decide) ?_
    exact x_iretr hx hb hr hlk hK B dX6_cost_22 hm
def f_X6_direct (σ : Mm) (w1 : Int32) (w2 : Int32) : Option Int32 :=
  (f_X6_areTwo σ w1 w2).bind fun x1 =>
  if x1 = 0 then
    some (-1 : Int32)
  else
    (f_X4_madeAgainst σ w1 w2).bind fun x2 =>
    some x2
set_option maxHeartbeats 4000000 in
set_option maxRecDepth 100000 in
theorem c_X6_direct (l : Launch) (D : va_G) (cI cZ : ClassId) (a : Nat → Nat) (w1 : Int32) (w2 : Int32) : CTr l D [(cI, FieldType.int), (cZ, FieldType.boolean)] (xW cI a) yX6_direct (.code yX6_direct cX6_direct 3 (some FieldType.int) :: wsL_law) ({ frames := 2, cells := 0, slots := 0, locals := 43 } : Room) [.ref (a 0), .int w1, .int w2] (fun σ => f_X6_direct σ w1 w2) := by
  refine CTr.of (by decide +kernel) (Nat.le_of_ble_eq_true rfl) ?_
  intro σ r hm p e s m below meth c A ls H locs hx hb hr hlk hml hT hown hK hA B hl
  have hown : s.vm.findClass RX6 = some m.cls := hown
  have hl : lv_has ls 3 [(0, .ref (a 0)), (1, .int w1), (2, .int w2)] := hl
  have hm : f_X6_direct σ w1 w2 = some r := hm
  unfold f_X6_direct at hm
  refine lv_aload_n hx hb dX6_direct_0 rfl (lv_at hl 0 rfl) ?_
  refine lv_iload_n hx hb dX6_direct_1 rfl (lv_at hl 1 rfl) ?_
  refine lv_iload_n hx hb dX6_direct_2 rfl (lv_at hl 2 rfl) ?_
  refine x_callVr (rest := []) hx hb hml hT hown hK hA B hl.1 (c_X6_areTwo l D cI cZ a w1 w2) mi_X6_areTwo mv_X6_areTwo xO_X rfl q360 ⟨rfl, rfl⟩ ⟨Nat.le_of_ble_eq_true rfl, Nat.le_of_ble_eq_true rfl⟩ rfl rfl (Nat.le_of_ble_eq_true rfl) dX6_direct_3 hm (fun x1 H locs B hm => ?_)
  refine lv_if_eq (tgt := 21) hx hb dX6_direct_6 (by decide) (fun q => ?_) (fun q => ?_)
  · have hm := ift hm q
    refine lv_iconst (v := (-1 : Int32)) hx hb dX6_direct_21 (by decide) ?_
    exact x_iretr hx hb hr hlk hK B dX6_direct_22 hm
  · have hm := iff hm q
    refine lv_aload_n hx hb dX6_direct_9 rfl (lv_at hl 0 rfl) ?_
    refine x_getv (T := TX6) (N := 8) hx hb hT hown hK B xV_X_table inlX6 rfl (by decide) q187 rfl dX6_direct_10 ?_
    refine lv_iload_n hx hb dX6_direct_13 rfl (lv_at hl 1 rfl) ?_
    refine lv_iload_n hx hb dX6_direct_14 rfl (lv_at hl 2 rfl) ?_
    refine x_callVr (rest := []) hx hb hml hT hown hK hA B hl.1 (c_X4_madeAgainst l D cI cZ a w1 w2) mi_X4_madeAgainst mv_X4_madeAgainst xO_table rfl q395 ⟨rfl, rfl⟩ ⟨Nat.le_of_ble_eq_true rfl, Nat.le_of_ble_eq_true rfl⟩ rfl rfl (Nat.le_of_ble_eq_true rfl) dX6_direct_15 hm (fun x2 H locs B hm => ?_)
    refine lv_goto (tgt := 22) hx hb dX6_direct_18 (by decide) ?_
    exact x_iretr hx hb hr hlk hK B dX6_direct_22 hm
def f_J6_bitCount_0f7a4 (w0 : Int32) : Option Int32 :=
  some ((((((((w0 - (((w0.toUInt32 >>> ((1 : Int32).toUInt32 &&& Int32.toUInt32 31)).toInt32) &&& (1431655765 : Int32))) &&& (858993459 : Int32)) + ((((w0 - (((w0.toUInt32 >>> ((1 : Int32).toUInt32 &&& Int32.toUInt32 31)).toInt32) &&& (1431655765 : Int32))).toUInt32 >>> ((2 : Int32).toUInt32 &&& Int32.toUInt32 31)).toInt32) &&& (858993459 : Int32))) + (((((w0 - (((w0.toUInt32 >>> ((1 : Int32).toUInt32 &&& Int32.toUInt32 31)).toInt32) &&& (1431655765 : Int32))) &&& (858993459 : Int32)) + ((((w0 - (((w0.toUInt32 >>> ((1 : Int32).toUInt32 &&& Int32.toUInt32 31)).toInt32) &&& (1431655765 : Int32))).toUInt32 >>> ((2 : Int32).toUInt32 &&& Int32.toUInt32 31)).toInt32) &&& (858993459 : Int32))).toUInt32 >>> ((4 : Int32).toUInt32 &&& Int32.toUInt32 31)).toInt32)) &&& (252645135 : Int32)) + (((((((w0 - (((w0.toUInt32 >>> ((1 : Int32).toUInt32 &&& Int32.toUInt32 31)).toInt32) &&& (1431655765 : Int32))) &&& (858993459 : Int32)) + ((((w0 - (((w0.toUInt32 >>> ((1 : Int32).toUInt32 &&& Int32.toUInt32 31)).toInt32) &&& (1431655765 : Int32))).toUInt32 >>> ((2 : Int32).toUInt32 &&& Int32.toUInt32 31)).toInt32) &&& (858993459 : Int32))) + (((((w0 - (((w0.toUInt32 >>> ((1 : Int32).toUInt32 &&& Int32.toUInt32 31)).toInt32) &&& (1431655765 : Int32))) &&& (858993459 : Int32)) + ((((w0 - (((w0.toUInt32 >>> ((1 : Int32).toUInt32 &&& Int32.toUInt32 31)).toInt32) &&& (1431655765 : Int32))).toUInt32 >>> ((2 : Int32).toUInt32 &&& Int32.toUInt32 31)).toInt32) &&& (858993459 : Int32))).toUInt32 >>> ((4 : Int32).toUInt32 &&& Int32.toUInt32 31)).toInt32)) &&& (252645135 : Int32)).toUInt32 >>> ((8 : Int32).toUInt32 &&& Int32.toUInt32 31)).toInt32)) + ((((((((w0 - (((w0.toUInt32 >>> ((1 : Int32).toUInt32 &&& Int32.toUInt32 31)).toInt32) &&& (1431655765 : Int32))) &&& (858993459 : Int32)) + ((((w0 - (((w0.toUInt32 >>> ((1 : Int32).toUInt32 &&& Int32.toUInt32 31)).toInt32) &&& (1431655765 : Int32))).toUInt32 >>> ((2 : Int32).toUInt32 &&& Int32.toUInt32 31)).toInt32) &&& (858993459 : Int32))) + (((((w0 - (((w0.toUInt32 >>> ((1 : Int32).toUInt32 &&& Int32.toUInt32 31)).toInt32) &&& (1431655765 : Int32))) &&& (858993459 : Int32)) + ((((w0 - (((w0.toUInt32 >>> ((1 : Int32).toUInt32 &&& Int32.toUInt32 31)).toInt32) &&& (1431655765 : Int32))).toUInt32 >>> ((2 : Int32).toUInt32 &&& Int32.toUInt32 31)).toInt32) &&& (858993459 : Int32))).toUInt32 >>> ((4 : Int32).toUInt32 &&& Int32.toUInt32 31)).toInt32)) &&& (252645135 : Int32)) + (((((((w0 - (((w0.toUInt32 >>> ((1 : Int32).toUInt32 &&& Int32.toUInt32 31)).toInt32) &&& (1431655765 : Int32))) &&& (858993459 : Int32)) + ((((w0 - (((w0.toUInt32 >>> ((1 : Int32).toUInt32 &&& Int32.toUInt32 31)).toInt32) &&& (1431655765 : Int32))).toUInt32 >>> ((2 : Int32).toUInt32 &&& Int32.toUInt32 31)).toInt32) &&& (858993459 : Int32))) + (((((w0 - (((w0.toUInt32 >>> ((1 : Int32).toUInt32 &&& Int32.toUInt32 31)).toInt32) &&& (1431655765 : Int32))) &&& (858993459 : Int32)) + ((((w0 - (((w0.toUInt32 >>> ((1 : Int32).toUInt32 &&& Int32.toUInt32 31)).toInt32) &&& (1431655765 : Int32))).toUInt32 >>> ((2 : Int32).toUInt32 &&& Int32.toUInt32 31)).toInt32) &&& (858993459 : Int32))).toUInt32 >>> ((4 : Int32).toUInt32 &&& Int32.toUInt32 31)).toInt32)) &&& (252645135 : Int32)).toUInt32 >>> ((8 : Int32).toUInt32 &&& Int32.toUInt32 31)).toInt32)).toUInt32 >>> ((16 : Int32).toUInt32 &&& Int32.toUInt32 31)).toInt32)) &&& (63 : Int32))
set_option maxHeartbeats 4000000 in
set_option maxRecDepth 100000 in
theorem c_J6_bitCount_0f7a4 (l : Launch) (D : va_G) (cI cZ : ClassId) (ww : Mm → va_W) (w0 : Int32) : CTr l D [(cI, FieldType.int), (cZ, FieldType.boolean)] ww yJ6_bitCount_0f7a4 (.code yJ6_bitCount_0f7a4 cJ6_bitCount_0f7a4 1 (some FieldType.int) :: wsL_law) ({ frames := 0, cells := 0, slots := 0, locals := 0 } : Room) [.int w0] (fun σ => f_J6_bitCount_0f7a4 w0) := by
  refine CTr.of (by decide +kernel) (Nat.le_of_ble_eq_true rfl) ?_
  intro σ r hm p e s m below meth c A ls H locs hx hb hr hlk hml hT hown hK hA B hl
  have hown : s.vm.findClass RJ6 = some m.cls := hown
  have hl : lv_has ls 1 [(0, .int w0)] := hl
  have hm : f_J6_bitCount_0f7a4 w0 = some r := hm
  unfold f_J6_bitCount_0f7a4 at hm
  refine lv_iload_n hx hb dJ6_bitCount_0f7a4_0 rfl (lv_at hl 0 rfl) ?_
  refine lv_iload_n hx hb dJ6_bitCount_0f7a4_1 rfl (lv_at hl 0 rfl) ?_
  refine lv_iconst (v := (1 : Int32)) hx hb dJ6_bitCount_0f7a4_2 (by decide) ?_
  refine lv_iushr (v := (w0.toUInt32 >>> ((1 : Int32).toUInt32 &&& Int32.toUInt32 31)).toInt32) hx hb dJ6_bitCount_0f7a4_3 rfl ?_
  refine lv_ldcw (v := (1431655765 : Int32)) hx hb hown (hT _ q428) dJ6_bitCount_0f7a4_4 ?_
  refine lv_iand hx hb dJ6_bitCount_0f7a4_7 ?_
  refine lv_isub hx hb dJ6_bitCount_0f7a4_8 ?_
  refine lv_istore_n (lv' := [(0, .int (w0 - (((w0.toUInt32 >>> ((1 : Int32).toUInt32 &&& Int32.toUInt32 31)).toInt32) &&& (1431655765 : Int32))))]) hx hb dJ6_bitCount_0f7a4_9 rfl hl (by decide) rfl (fun ls hl => ?_)
  refine lv_iload_n hx hb dJ6_bitCount_0f7a4_10 rfl (lv_at hl 0 rfl) ?_
  refine lv_ldcw (v := (858993459 : Int32)) hx hb hown (hT _ q429) dJ6_bitCount_0f7a4_11 ?_
  refine lv_iand hx hb dJ6_bitCount_0f7a4_14 ?_
  refine lv_iload_n hx hb dJ6_bitCount_0f7a4_15 rfl (lv_at hl 0 rfl) ?_
  refine lv_iconst (v := (2 : Int32)) hx hb dJ6_bitCount_0f7a4_16 (by decide) ?_
  refine lv_iushr (v := ((w0 - (((w0.toUInt32 >>> ((1 : Int32).toUInt32 &&& Int32.toUInt32 31)).toInt32) &&& (1431655765 : Int32))).toUInt32 >>> ((2 : Int32).toUInt32 &&& Int32.toUInt32 31)).toInt32) hx hb dJ6_bitCount_0f7a4_17 rfl ?_
  refine lv_ldcw (v := (858993459 : Int32)) hx hb hown (hT _ q429) dJ6_bitCount_0f7a4_18 ?_
  refine lv_iand hx hb dJ6_bitCount_0f7a4_21 ?_
  refine lv_iadd hx hb dJ6_bitCount_0f7a4_22 ?_
  refine lv_istore_n (lv' := [(0, .int (((w0 - (((w0.toUInt32 >>> ((1 : Int32).toUInt32 &&& Int32.toUInt32 31)).toInt32) &&& (1431655765 : Int32))) &&& (858993459 : Int32)) + ((((w0 - (((w0.toUInt32 >>> ((1 : Int32).toUInt32 &&& Int32.toUInt32 31)).toInt32) &&& (1431655765 : Int32))).toUInt32 >>> ((2 : Int32).toUInt32 &&& Int32.toUInt32 31)).toInt32) &&& (858993459 : Int32))))]) hx hb dJ6_bitCount_0f7a4_23 rfl hl (by decide) rfl (fun ls hl => ?_)
  refine lv_iload_n hx hb dJ6_bitCount_0f7a4_24 rfl (lv_at hl 0 rfl) ?_
  refine lv_iload_n hx hb dJ6_bitCount_0f7a4_25 rfl (lv_at hl 0 rfl) ?_
  refine lv_iconst (v := (4 : Int32)) hx hb dJ6_bitCount_0f7a4_26 (by decide) ?_
  refine lv_iushr (v := ((((w0 - (((w0.toUInt32 >>> ((1 : Int32).toUInt32 &&& Int32.toUInt32 31)).toInt32) &&& (1431655765 : Int32))) &&& (858993459 : Int32)) + ((((w0 - (((w0.toUInt32 >>> ((1 : Int32).toUInt32 &&& Int32.toUInt32 31)).toInt32) &&& (1431655765 : Int32))).toUInt32 >>> ((2 : Int32).toUInt32 &&& Int32.toUInt32 31)).toInt32) &&& (858993459 : Int32))).toUInt32 >>> ((4 : Int32).toUInt32 &&& Int32.toUInt32 31)).toInt32) hx hb dJ6_bitCount_0f7a4_27 rfl ?_
  refine lv_iadd hx hb dJ6_bitCount_0f7a4_28 ?_
  refine lv_ldcw (v := (252645135 : Int32)) hx hb hown (hT _ q430) dJ6_bitCount_0f7a4_29 ?_
  refine lv_iand hx hb dJ6_bitCount_0f7a4_32 ?_
  refine lv_istore_n (lv' := [(0, .int (((((w0 - (((w0.toUInt32 >>> ((1 : Int32).toUInt32 &&& Int32.toUInt32 31)).toInt32) &&& (1431655765 : Int32))) &&& (858993459 : Int32)) + ((((w0 - (((w0.toUInt32 >>> ((1 : Int32).toUInt32 &&& Int32.toUInt32 31)).toInt32) &&& (1431655765 : Int32))).toUInt32 >>> ((2 : Int32).toUInt32 &&& Int32.toUInt32 31)).toInt32) &&& (858993459 : Int32))) + (((((w0 - (((w0.toUInt32 >>> ((1 : Int32).toUInt32 &&& Int32.toUInt32 31)).toInt32) &&& (1431655765 : Int32))) &&& (858993459 : Int32)) + ((((w0 - (((w0.toUInt32 >>> ((1 : Int32).toUInt32 &&& Int32.toUInt32 31)).toInt32) &&& (1431655765 : Int32))).toUInt32 >>> ((2 : Int32).toUInt32 &&& Int32.toUInt32 31)).toInt32) &&& (858993459 : Int32))).toUInt32 >>> ((4 : Int32).toUInt32 &&& Int32.toUInt32 31)).toInt32)) &&& (252645135 : Int32)))]) hx hb dJ6_bitCount_0f7a4_33 rfl hl (by decide) rfl (fun ls hl => ?_)
  refine lv_iload_n hx hb dJ6_bitCount_0f7a4_34 rfl (lv_at hl 0 rfl) ?_
  refine lv_iload_n hx hb dJ6_bitCount_0f7a4_35 rfl (lv_at hl 0 rfl) ?_
  refine lv_bipush (v := (8 : Int32)) hx hb dJ6_bitCount_0f7a4_36 (by decide) ?_
  refine lv_iushr (v := ((((((w0 - (((w0.toUInt32 >>> ((1 : Int32).toUInt32 &&& Int32.toUInt32 31)).toInt32) &&& (1431655765 : Int32))) &&& (858993459 : Int32)) + ((((w0 - (((w0.toUInt32 >>> ((1 : Int32).toUInt32 &&& Int32.toUInt32 31)).toInt32) &&& (1431655765 : Int32))).toUInt32 >>> ((2 : Int32).toUInt32 &&& Int32.toUInt32 31)).toInt32) &&& (858993459 : Int32))) + (((((w0 - (((w0.toUInt32 >>> ((1 : Int32).toUInt32 &&& Int32.toUInt32 31)).toInt32) &&& (1431655765 : Int32))) &&& (858993459 : Int32)) + ((((w0 - (((w0.toUInt32 >>> ((1 : Int32).toUInt32 &&& Int32.toUInt32 31)).toInt32) &&& (1431655765 : Int32))).toUInt32 >>> ((2 : Int32).toUInt32 &&& Int32.toUInt32 31)).toInt32) &&& (858993459 : Int32))).toUInt32 >>> ((4 : Int32).toUInt32 &&& Int32.toUInt32 31)).toInt32)) &&& (252645135 : Int32)).toUInt32 >>> ((8 : Int32).toUInt32 &&& Int32.toUInt32 31)).toInt32) hx hb dJ6_bitCount_0f7a4_38 rfl ?_
  refine lv_iadd hx hb dJ6_bitCount_0f7a4_39 ?_
  refine lv_istore_n (lv' := [(0, .int ((((((w0 - (((w0.toUInt32 >>> ((1 : Int32).toUInt32 &&& Int32.toUInt32 31)).toInt32) &&& (1431655765 : Int32))) &&& (858993459 : Int32)) + ((((w0 - (((w0.toUInt32 >>> ((1 : Int32).toUInt32 &&& Int32.toUInt32 31)).toInt32) &&& (1431655765 : Int32))).toUInt32 >>> ((2 : Int32).toUInt32 &&& Int32.toUInt32 31)).toInt32) &&& (858993459 : Int32))) + (((((w0 - (((w0.toUInt32 >>> ((1 : Int32).toUInt32 &&& Int32.toUInt32 31)).toInt32) &&& (1431655765 : Int32))) &&& (858993459 : Int32)) + ((((w0 - (((w0.toUInt32 >>> ((1 : Int32).toUInt32 &&& Int32.toUInt32 31)).toInt32) &&& (1431655765 : Int32))).toUInt32 >>> ((2 : Int32).toUInt32 &&& Int32.toUInt32 31)).toInt32) &&& (858993459 : Int32))).toUInt32 >>> ((4 : Int32).toUInt32 &&& Int32.toUInt32 31)).toInt32)) &&& (252645135 : Int32)) + (((((((w0 - (((w0.toUInt32 >>> ((1 : Int32).toUInt32 &&& Int32.toUInt32 31)).toInt32) &&& (1431655765 : Int32))) &&& (858993459 : Int32)) + ((((w0 - (((w0.toUInt32 >>> ((1 : Int32).toUInt32 &&& Int32.toUInt32 31)).toInt32) &&& (1431655765 : Int32))).toUInt32 >>> ((2 : Int32).toUInt32 &&& Int32.toUInt32 31)).toInt32) &&& (858993459 : Int32))) + (((((w0 - (((w0.toUInt32 >>> ((1 : Int32).toUInt32 &&& Int32.toUInt32 31)).toInt32) &&& (1431655765 : Int32))) &&& (858993459 : Int32)) + ((((w0 - (((w0.toUInt32 >>> ((1 : Int32).toUInt32 &&& Int32.toUInt32 31)).toInt32) &&& (1431655765 : Int32))).toUInt32 >>> ((2 : Int32).toUInt32 &&& Int32.toUInt32 31)).toInt32) &&& (858993459 : Int32))).toUInt32 >>> ((4 : Int32).toUInt32 &&& Int32.toUInt32 31)).toInt32)) &&& (252645135 : Int32)).toUInt32 >>> ((8 : Int32).toUInt32 &&& Int32.toUInt32 31)).toInt32)))]) hx hb dJ6_bitCount_0f7a4_40 rfl hl (by decide) rfl (fun ls hl => ?_)
  refine lv_iload_n hx hb dJ6_bitCount_0f7a4_41 rfl (lv_at hl 0 rfl) ?_
  refine lv_iload_n hx hb dJ6_bitCount_0f7a4_42 rfl (lv_at hl 0 rfl) ?_
  refine lv_bipush (v := (16 : Int32)) hx hb dJ6_bitCount_0f7a4_43 (by decide) ?_
  refine lv_iushr (v := (((((((w0 - (((w0.toUInt32 >>> ((1 : Int32).toUInt32 &&& Int32.toUInt32 31)).toInt32) &&& (1431655765 : Int32))) &&& (858993459 : Int32)) + ((((w0 - (((w0.toUInt32 >>> ((1 : Int32).toUInt32 &&& Int32.toUInt32 31)).toInt32) &&& (1431655765 : Int32))).toUInt32 >>> ((2 : Int32).toUInt32 &&& Int32.toUInt32 31)).toInt32) &&& (858993459 : Int32))) + (((((w0 - (((w0.toUInt32 >>> ((1 : Int32).toUInt32 &&& Int32.toUInt32 31)).toInt32) &&& (1431655765 : Int32))) &&& (858993459 : Int32)) + ((((w0 - (((w0.toUInt32 >>> ((1 : Int32).toUInt32 &&& Int32.toUInt32 31)).toInt32) &&& (1431655765 : Int32))).toUInt32 >>> ((2 : Int32).toUInt32 &&& Int32.toUInt32 31)).toInt32) &&& (858993459 : Int32))).toUInt32 >>> ((4 : Int32).toUInt32 &&& Int32.toUInt32 31)).toInt32)) &&& (252645135 : Int32)) + (((((((w0 - (((w0.toUInt32 >>> ((1 : Int32).toUInt32 &&& Int32.toUInt32 31)).toInt32) &&& (1431655765 : Int32))) &&& (858993459 : Int32)) + ((((w0 - (((w0.toUInt32 >>> ((1 : Int32).toUInt32 &&& Int32.toUInt32 31)).toInt32) &&& (1431655765 : Int32))).toUInt32 >>> ((2 : Int32).toUInt32 &&& Int32.toUInt32 31)).toInt32) &&& (858993459 : Int32))) + (((((w0 - (((w0.toUInt32 >>> ((1 : Int32).toUInt32 &&& Int32.toUInt32 31)).toInt32) &&& (1431655765 : Int32))) &&& (858993459 : Int32)) + ((((w0 - (((w0.toUInt32 >>> ((1 : Int32).toUInt32 &&& Int32.toUInt32 31)).toInt32) &&& (1431655765 : Int32))).toUInt32 >>> ((2 : Int32).toUInt32 &&& Int32.toUInt32 31)).toInt32) &&& (858993459 : Int32))).toUInt32 >>> ((4 : Int32).toUInt32 &&& Int32.toUInt32 31)).toInt32)) &&& (252645135 : Int32)).toUInt32 >>> ((8 : Int32).toUInt32 &&& Int32.toUInt32 31)).toInt32)).toUInt32 >>> ((16 : Int32).toUInt32 &&& Int32.toUInt32 31)).toInt32) hx hb dJ6_bitCount_0f7a4_45 rfl ?_
  refine lv_iadd hx hb dJ6_bitCount_0f7a4_46 ?_
  refine lv_istore_n (lv' := [(0, .int (((((((w0 - (((w0.toUInt32 >>> ((1 : Int32).toUInt32 &&& Int32.toUInt32 31)).toInt32) &&& (1431655765 : Int32))) &&& (858993459 : Int32)) + ((((w0 - (((w0.toUInt32 >>> ((1 : Int32).toUInt32 &&& Int32.toUInt32 31)).toInt32) &&& (1431655765 : Int32))).toUInt32 >>> ((2 : Int32).toUInt32 &&& Int32.toUInt32 31)).toInt32) &&& (858993459 : Int32))) + (((((w0 - (((w0.toUInt32 >>> ((1 : Int32).toUInt32 &&& Int32.toUInt32 31)).toInt32) &&& (1431655765 : Int32))) &&& (858993459 : Int32)) + ((((w0 - (((w0.toUInt32 >>> ((1 : Int32).toUInt32 &&& Int32.toUInt32 31)).toInt32) &&& (1431655765 : Int32))).toUInt32 >>> ((2 : Int32).toUInt32 &&& Int32.toUInt32 31)).toInt32) &&& (858993459 : Int32))).toUInt32 >>> ((4 : Int32).toUInt32 &&& Int32.toUInt32 31)).toInt32)) &&& (252645135 : Int32)) + (((((((w0 - (((w0.toUInt32 >>> ((1 : Int32).toUInt32 &&& Int32.toUInt32 31)).toInt32) &&& (1431655765 : Int32))) &&& (858993459 : Int32)) + ((((w0 - (((w0.toUInt32 >>> ((1 : Int32).toUInt32 &&& Int32.toUInt32 31)).toInt32) &&& (1431655765 : Int32))).toUInt32 >>> ((2 : Int32).toUInt32 &&& Int32.toUInt32 31)).toInt32) &&& (858993459 : Int32))) + (((((w0 - (((w0.toUInt32 >>> ((1 : Int32).toUInt32 &&& Int32.toUInt32 31)).toInt32) &&& (1431655765 : Int32))) &&& (858993459 : Int32)) + ((((w0 - (((w0.toUInt32 >>> ((1 : Int32).toUInt32 &&& Int32.toUInt32 31)).toInt32) &&& (1431655765 : Int32))).toUInt32 >>> ((2 : Int32).toUInt32 &&& Int32.toUInt32 31)).toInt32) &&& (858993459 : Int32))).toUInt32 >>> ((4 : Int32).toUInt32 &&& Int32.toUInt32 31)).toInt32)) &&& (252645135 : Int32)).toUInt32 >>> ((8 : Int32).toUInt32 &&& Int32.toUInt32 31)).toInt32)) + ((((((((w0 - (((w0.toUInt32 >>> ((1 : Int32).toUInt32 &&& Int32.toUInt32 31)).toInt32) &&& (1431655765 : Int32))) &&& (858993459 : Int32)) + ((((w0 - (((w0.toUInt32 >>> ((1 : Int32).toUInt32 &&& Int32.toUInt32 31)).toInt32) &&& (1431655765 : Int32))).toUInt32 >>> ((2 : Int32).toUInt32 &&& Int32.toUInt32 31)).toInt32) &&& (858993459 : Int32))) + (((((w0 - (((w0.toUInt32 >>> ((1 : Int32).toUInt32 &&& Int32.toUInt32 31)).toInt32) &&& (1431655765 : Int32))) &&& (858993459 : Int32)) + ((((w0 - (((w0.toUInt32 >>> ((1 : Int32).toUInt32 &&& Int32.toUInt32 31)).toInt32) &&& (1431655765 : Int32))).toUInt32 >>> ((2 : Int32).toUInt32 &&& Int32.toUInt32 31)).toInt32) &&& (858993459 : Int32))).toUInt32 >>> ((4 : Int32).toUInt32 &&& Int32.toUInt32 31)).toInt32)) &&& (252645135 : Int32)) + (((((((w0 - (((w0.toUInt32 >>> ((1 : Int32).toUInt32 &&& Int32.toUInt32 31)).toInt32) &&& (1431655765 : Int32))) &&& (858993459 : Int32)) + ((((w0 - (((w0.toUInt32 >>> ((1 : Int32).toUInt32 &&& Int32.toUInt32 31)).toInt32) &&& (1431655765 : Int32))).toUInt32 >>> ((2 : Int32).toUInt32 &&& Int32.toUInt32 31)).toInt32) &&& (858993459 : Int32))) + (((((w0 - (((w0.toUInt32 >>> ((1 : Int32).toUInt32 &&& Int32.toUInt32 31)).toInt32) &&& (1431655765 : Int32))) &&& (858993459 : Int32)) + ((((w0 - (((w0.toUInt32 >>> ((1 : Int32).toUInt32 &&& Int32.toUInt32 31)).toInt32) &&& (1431655765 : Int32))).toUInt32 >>> ((2 : Int32).toUInt32 &&& Int32.toUInt32 31)).toInt32) &&& (858993459 : Int32))).toUInt32 >>> ((4 : Int32).toUInt32 &&& Int32.toUInt32 31)).toInt32)) &&& (252645135 : Int32)).toUInt32 >>> ((8 : Int32).toUInt32 &&& Int32.toUInt32 31)).toInt32)).toUInt32 >>> ((16 : Int32).toUInt32 &&& Int32.toUInt32 31)).toInt32)))]) hx hb dJ6_bitCount_0f7a4_47 rfl hl (by decide) rfl (fun ls hl => ?_)
  refine lv_iload_n hx hb dJ6_bitCount_0f7a4_48 rfl (lv_at hl 0 rfl) ?_
  refine lv_bipush (v := (63 : Int32)) hx hb dJ6_bitCount_0f7a4_49 (by decide) ?_
  refine lv_iand hx hb dJ6_bitCount_0f7a4_51 ?_
  exact x_iretr hx hb hr hlk hK B dJ6_bitCount_0f7a4_52 hm
def f_X1_firstSeat (w0 : Int32) : Option Int32 :=
  (f_J6_bitCount_0f7a4 ((w0 &&& (-w0)) - (1 : Int32))).bind fun x1 =>
  some x1
set_option maxHeartbeats 4000000 in
set_option maxRecDepth 100000 in
theorem c_X1_firstSeat (l : Launch) (D : va_G) (cI cZ : ClassId) (ww : Mm → va_W) (w0 : Int32) : CTr l D [(cI, FieldType.int), (cZ, FieldType.boolean)] ww yX1_firstSeat (.code yX1_firstSeat cX1_firstSeat 1 (some FieldType.int) :: wsL_law) ({ frames := 1, cells := 0, slots := 0, locals := 20 } : Room) [.int w0] (fun σ => f_X1_firstSeat w0) := by
  refine CTr.of (by decide +kernel) (Nat.le_of_ble_eq_true rfl) ?_
  intro σ r hm p e s m below meth c A ls H locs hx hb hr hlk hml hT hown hK hA B hl
  have hown : s.vm.findClass RX1 = some m.cls := hown
  have hl : lv_has ls 1 [(0, .int w0)] := hl
  have hm : f_X1_firstSeat w0 = some r := hm
  unfold f_X1_firstSeat at hm
  refine lv_iload_n hx hb dX1_firstSeat_0 rfl (lv_at hl 0 rfl) ?_
  refine lv_iload_n hx hb dX1_firstSeat_1 rfl (lv_at hl 0 rfl) ?_
  refine lv_ineg hx hb dX1_firstSeat_2 ?_
  refine lv_iand hx hb dX1_firstSeat_3 ?_
  refine lv_iconst (v := (1 : Int32)) hx hb dX1_firstSeat_4 (by decide) ?_
  refine lv_isub hx hb dX1_firstSeat_5 ?_
  refine x_callSr (rest := []) hx hb hml hT hown hK hA B hl.1 (c_J6_bitCount_0f7a4 l D cI cZ ww ((w0 &&& (-w0)) - (1 : Int32))) mi_J6_bitCount_0f7a4 q426 q425 ⟨rfl, rfl⟩ ⟨Nat.le_of_ble_eq_true rfl, Nat.le_of_ble_eq_true rfl⟩ rfl rfl (Nat.le_of_ble_eq_true rfl) dX1_firstSeat_6 hm (fun x1 H locs B hm => ?_)
  exact x_iretr hx hb hr hlk hK B dX1_firstSeat_9 hm
def f_X1_isReached (σ : Mm) (w1 : Int32) : Option Int32 :=
  (f_J6_bitCount_0f7a4 w1).bind fun x1 =>
  (nz (2 : Int32) (((σ 61 0) - x1) - ((σ 61 0) - x1) / (2 : Int32) * (2 : Int32))).bind fun x2 =>
  if x2 = 0 then
    (f_X1_firstSeat w1).bind fun x3 =>
    (nz (2 : Int32) (((σ 61 0) - x1) / (2 : Int32))).bind fun x4 =>
    if x3 < x4 then
      some (0 : Int32)
    else
      some (1 : Int32)
  else
    some (0 : Int32)
set_option maxHeartbeats 4000000 in
set_option maxRecDepth 100000 in
theorem c_X1_isReached (l : Launch) (D : va_G) (cI cZ : ClassId) (a : Nat → Nat) (w1 : Int32) : CTr l D [(cI, FieldType.int), (cZ, FieldType.boolean)] (xW cI a) yX1_isReached (.code yX1_isReached cX1_isReached 3 (some FieldType.boolean) :: wsL_law) ({ frames := 2, cells := 0, slots := 0, locals := 40 } : Room) [.ref (a 54), .int w1] (fun σ => f_X1_isReached σ w1) := by
  refine CTr.of (by decide +kernel) (Nat.le_of_ble_eq_true rfl) ?_
  intro σ r hm p e s m below meth c A ls H locs hx hb hr hlk hml hT hown hK hA B hl
  have hown : s.vm.findClass RX1 = some m.cls := hown
  have hl : lv_has ls 3 [(0, .ref (a 54)), (1, .int w1)] := hl
  have hm : f_X1_isReached σ w1 = some r := hm
  unfold f_X1_isReached at hm
  refine lv_aload_n hx hb dX1_isReached_0 rfl (lv_at hl 0 rfl) ?_
  refine x_geti (T := TX1) (N := 8) hx hb hT hown hK B xI_pairing_count inlX1 rfl (by decide) q142 rfl dX1_isReached_1 ?_
  refine lv_iload_n hx hb dX1_isReached_4 rfl (lv_at hl 1 rfl) ?_
  refine x_callSr (rest := [.int (σ 61 0)]) hx hb hml hT hown hK hA B hl.1 (c_J6_bitCount_0f7a4 l D cI cZ (xW cI a) w1) mi_J6_bitCount_0f7a4 q426 q425 ⟨rfl, rfl⟩ ⟨Nat.le_of_ble_eq_true rfl, Nat.le_of_ble_eq_true rfl⟩ rfl rfl (Nat.le_of_ble_eq_true rfl) dX1_isReached_5 hm (fun x1 H locs B hm => ?_)
  refine lv_isub hx hb dX1_isReached_8 ?_
  refine lv_istore_n (lv' := [(2, .int ((σ 61 0) - x1)), (0, .ref (a 54)), (1, .int w1)]) hx hb dX1_isReached_9 rfl hl (by decide) rfl (fun ls hl => ?_)
  refine lv_iload_n hx hb dX1_isReached_10 rfl (lv_at hl 0 rfl) ?_
  refine lv_iconst (v := (2 : Int32)) hx hb dX1_isReached_11 (by decide) ?_
  refine x_irem hx hb dX1_isReached_12 hm (fun x2 hm => ?_)
  refine lv_if_ne (tgt := 30) hx hb dX1_isReached_13 (by decide) (fun q => ?_) (fun q => ?_)
  · have hm := iff hm q
    refine lv_iconst (v := (0 : Int32)) hx hb dX1_isReached_30 (by decide) ?_
    exact x_zretr hx hb hr hlk hK B rfl dX1_isReached_31 hm
  · have hm := ift hm q
    refine lv_iload_n hx hb dX1_isReached_16 rfl (lv_at hl 2 rfl) ?_
    refine x_callSr (rest := []) hx hb hml hT hown hK hA B hl.1 (c_X1_firstSeat l D cI cZ (xW cI a) w1) mi_X1_firstSeat q432 q431 ⟨rfl, rfl⟩ ⟨Nat.le_of_ble_eq_true rfl, Nat.le_of_ble_eq_true rfl⟩ rfl rfl (Nat.le_of_ble_eq_true rfl) dX1_isReached_17 hm (fun x3 H locs B hm => ?_)
    refine lv_iload_n hx hb dX1_isReached_20 rfl (lv_at hl 0 rfl) ?_
    refine lv_iconst (v := (2 : Int32)) hx hb dX1_isReached_21 (by decide) ?_
    refine x_idiv hx hb dX1_isReached_22 hm (fun x4 hm => ?_)
    refine lv_icmp_lt (tgt := 30) hx hb dX1_isReached_23 (by decide) (fun q => ?_) (fun q => ?_)
    · have hm := ift hm q
      refine lv_iconst (v := (0 : Int32)) hx hb dX1_isReached_30 (by decide) ?_
      exact x_zretr hx hb hr hlk hK B rfl dX1_isReached_31 hm
    · have hm := iff hm q
      refine lv_iconst (v := (1 : Int32)) hx hb dX1_isReached_26 (by decide) ?_
      refine lv_goto (tgt := 31) hx hb dX1_isReached_27 (by decide) ?_
      exact x_zretr hx hb hr hlk hK B rfl dX1_isReached_31 hm
def f_X1_without (w0 : Int32) (w1 : Int32) (w2 : Int32) : Option Int32 :=
  some ((w0 &&& (((1 : Int32) <<< (w1 &&& 31)) ^^^ (-1 : Int32))) &&& (((1 : Int32) <<< (w2 &&& 31)) ^^^ (-1 : Int32)))
set_option maxHeartbeats 4000000 in
set_option maxRecDepth 100000 in
theorem c_X1_without (l : Launch) (D : va_G) (cI cZ : ClassId) (ww : Mm → va_W) (w0 : Int32) (w1 : Int32) (w2 : Int32) : CTr l D [(cI, FieldType.int), (cZ, FieldType.boolean)] ww yX1_without (.code yX1_without cX1_without 3 (some FieldType.int) :: wsL_law) ({ frames := 0, cells := 0, slots := 0, locals := 0 } : Room) [.int w0, .int w1, .int w2] (fun σ => f_X1_without w0 w1 w2) := by
  refine CTr.of (by decide +kernel) (Nat.le_of_ble_eq_true rfl) ?_
  intro σ r hm p e s m below meth c A ls H locs hx hb hr hlk hml hT hown hK hA B hl
  have hown : s.vm.findClass RX1 = some m.cls := hown
  have hl : lv_has ls 3 [(0, .int w0), (1, .int w1), (2, .int w2)] := hl
  have hm : f_X1_without w0 w1 w2 = some r := hm
  unfold f_X1_without at hm
  refine lv_iload_n hx hb dX1_without_0 rfl (lv_at hl 0 rfl) ?_
  refine lv_iconst (v := (1 : Int32)) hx hb dX1_without_1 (by decide) ?_
  refine lv_iload_n hx hb dX1_without_2 rfl (lv_at hl 1 rfl) ?_
  refine lv_ishl hx hb dX1_without_3 ?_
  refine lv_iconst (v := (-1 : Int32)) hx hb dX1_without_4 (by decide) ?_
  refine lv_ixor hx hb dX1_without_5 ?_
  refine lv_iand hx hb dX1_without_6 ?_
  refine lv_iconst (v := (1 : Int32)) hx hb dX1_without_7 (by decide) ?_
  refine lv_iload_n hx hb dX1_without_8 rfl (lv_at hl 2 rfl) ?_
  refine lv_ishl hx hb dX1_without_9 ?_
  refine lv_iconst (v := (-1 : Int32)) hx hb dX1_without_10 (by decide) ?_
  refine lv_ixor hx hb dX1_without_11 ?_
  refine lv_iand hx hb dX1_without_12 ?_
  exact x_iretr hx hb hr hlk hK B dX1_without_13 hm
def f_X1_sumWith (σ : Mm) (w1 : Int32) (w2 : Int32) (w3 : Int32) : Option Int32 :=
  (f_X2_at 144 63 σ ((w2 * (12 : Int32)) + w3)).bind fun x1 =>
  (f_X1_without w1 w2 w3).bind fun x2 =>
  (f_X2_at 4096 64 σ x2).bind fun x3 =>
  if ((w1 >>> (w3 &&& 31)) &&& (1 : Int32)) = 0 then
    some (-9 : Int32)
  else
    if x1 = (-5 : Int32) then
      some (-9 : Int32)
    else
      if x3 = (-9 : Int32) then
        some (-9 : Int32)
      else
        some (x1 + x3)
set_option maxHeartbeats 4000000 in
set_option maxRecDepth 100000 in
theorem c_X1_sumWith (l : Launch) (D : va_G) (cI cZ : ClassId) (a : Nat → Nat) (w1 : Int32) (w2 : Int32) (w3 : Int32) : CTr l D [(cI, FieldType.int), (cZ, FieldType.boolean)] (xW cI a) yX1_sumWith (.code yX1_sumWith cX1_sumWith 6 (some FieldType.int) :: wsL_law) ({ frames := 1, cells := 0, slots := 0, locals := 22 } : Room) [.ref (a 54), .int w1, .int w2, .int w3] (fun σ => f_X1_sumWith σ w1 w2 w3) := by
  refine CTr.of (by decide +kernel) (Nat.le_of_ble_eq_true rfl) ?_
  intro σ r hm p e s m below meth c A ls H locs hx hb hr hlk hml hT hown hK hA B hl
  have hown : s.vm.findClass RX1 = some m.cls := hown
  have hl : lv_has ls 6 [(0, .ref (a 54)), (1, .int w1), (2, .int w2), (3, .int w3)] := hl
  have hm : f_X1_sumWith σ w1 w2 w3 = some r := hm
  unfold f_X1_sumWith at hm
  refine lv_aload_n hx hb dX1_sumWith_0 rfl (lv_at hl 0 rfl) ?_
  refine x_getv (T := TX1) (N := 8) hx hb hT hown hK B xV_pairing_costs inlX1 rfl (by decide) q144 rfl dX1_sumWith_1 ?_
  refine lv_iload_n hx hb dX1_sumWith_4 rfl (lv_at hl 2 rfl) ?_
  refine lv_bipush (v := (12 : Int32)) hx hb dX1_sumWith_5 (by decide) ?_
  refine lv_imul hx hb dX1_sumWith_7 ?_
  refine lv_iload_n hx hb dX1_sumWith_8 rfl (lv_at hl 3 rfl) ?_
  refine lv_iadd hx hb dX1_sumWith_9 ?_
  refine x_callVr (rest := []) hx hb hml hT hown hK hA B hl.1 (c_X2_at l D cI cZ xV_pairing_costs_cells xA_pairing_costs ((w2 * (12 : Int32)) + w3)) mi_X2_at mv_X2_at xO_pairing_costs rfl q407 ⟨rfl, rfl⟩ ⟨Nat.le_of_ble_eq_true rfl, Nat.le_of_ble_eq_true rfl⟩ rfl rfl (Nat.le_of_ble_eq_true rfl) dX1_sumWith_10 hm (fun x1 H locs B hm => ?_)
  refine lv_istore (lv' := [(4, .int x1), (0, .ref (a 54)), (1, .int w1), (2, .int w2), (3, .int w3)]) hx hb dX1_sumWith_13 hl (by decide) rfl (fun ls hl => ?_)
  refine lv_aload_n hx hb dX1_sumWith_15 rfl (lv_at hl 1 rfl) ?_
  refine x_getv (T := TX1) (N := 8) hx hb hT hown hK B xV_pairing_sums inlX1 rfl (by decide) q145 rfl dX1_sumWith_16 ?_
  refine lv_iload_n hx hb dX1_sumWith_19 rfl (lv_at hl 2 rfl) ?_
  refine lv_iload_n hx hb dX1_sumWith_20 rfl (lv_at hl 3 rfl) ?_
  refine lv_iload_n hx hb dX1_sumWith_21 rfl (lv_at hl 4 rfl) ?_
  refine x_callSr (rest := [.ref (a 59)]) hx hb hml hT hown hK hA B hl.1 (c_X1_without l D cI cZ (xW cI a) w1 w2 w3) mi_X1_without q441 q440 ⟨rfl, rfl⟩ ⟨Nat.le_of_ble_eq_true rfl, Nat.le_of_ble_eq_true rfl⟩ rfl rfl (Nat.le_of_ble_eq_true rfl) dX1_sumWith_22 hm (fun x2 H locs B hm => ?_)
  refine x_callVr (rest := []) hx hb hml hT hown hK hA B hl.1 (c_X2_at l D cI cZ xV_pairing_sums_cells xA_pairing_sums x2) mi_X2_at mv_X2_at xO_pairing_sums rfl q407 ⟨rfl, rfl⟩ ⟨Nat.le_of_ble_eq_true rfl, Nat.le_of_ble_eq_true rfl⟩ rfl rfl (Nat.le_of_ble_eq_true rfl) dX1_sumWith_25 hm (fun x3 H locs B hm => ?_)
  refine lv_istore (lv' := [(5, .int x3), (4, .int x1), (0, .ref (a 54)), (1, .int w1), (2, .int w2), (3, .int w3)]) hx hb dX1_sumWith_28 hl (by decide) rfl (fun ls hl => ?_)
  refine lv_iload_n hx hb dX1_sumWith_30 rfl (lv_at hl 3 rfl) ?_
  refine lv_iload_n hx hb dX1_sumWith_31 rfl (lv_at hl 5 rfl) ?_
  refine lv_ishr hx hb dX1_sumWith_32 ?_
  refine lv_iconst (v := (1 : Int32)) hx hb dX1_sumWith_33 (by decide) ?_
  refine lv_iand hx hb dX1_sumWith_34 ?_
  refine lv_if_eq (tgt := 52) hx hb dX1_sumWith_35 (by decide) (fun q => ?_) (fun q => ?_)
  · have hm := ift hm q
    refine lv_bipush (v := (-9 : Int32)) hx hb dX1_sumWith_52 (by decide) ?_
    exact x_iretr hx hb hr hlk hK B dX1_sumWith_54 hm
  · have hm := iff hm q
    refine lv_iload hx hb dX1_sumWith_38 (lv_at hl 1 rfl) ?_
    refine lv_bipush (v := (-5 : Int32)) hx hb dX1_sumWith_40 (by decide) ?_
    refine lv_icmp_eq (tgt := 52) hx hb dX1_sumWith_42 (by decide) (fun q => ?_) (fun q => ?_)
    · have hm := ift hm q
      refine lv_bipush (v := (-9 : Int32)) hx hb dX1_sumWith_52 (by decide) ?_
      exact x_iretr hx hb hr hlk hK B dX1_sumWith_54 hm
    · have hm := iff hm q
      refine lv_iload hx hb dX1_sumWith_45 (lv_at hl 0 rfl) ?_
      refine lv_bipush (v := (-9 : Int32)) hx hb dX1_sumWith_47 (by decide) ?_
      refine lv_icmp_ne (tgt := 55) hx hb dX1_sumWith_49 (by decide) (fun q => ?_) (fun q => ?_)
      · have hm := iff hm q
        refine lv_iload hx hb dX1_sumWith_55 (lv_at hl 1 rfl) ?_
        refine lv_iload hx hb dX1_sumWith_57 (lv_at hl 0 rfl) ?_
        refine lv_iadd hx hb dX1_sumWith_59 ?_
        exact x_iretr hx hb hr hlk hK B dX1_sumWith_60 hm
      · have hm := ift hm q
        refine lv_bipush (v := (-9 : Int32)) hx hb dX1_sumWith_52 (by decide) ?_
        exact x_iretr hx hb hr hlk hK B dX1_sumWith_54 hm
def f_X1_weigh_j85 (σ : Mm) (v1 v3 v4 : Int32) : Option Mm :=
  (f_X2_put 4096 64 σ v1 v3).bind fun σ =>
  (f_X2_put 4096 65 σ v1 v4).bind fun σ =>
  some σ
def f_X1_weigh_s16 (v1 : Int32) (v2 : Int32) (r16 : Mm → Int32 → Int32 → Int32 → Option Mm) (σ : Mm) (v3 v4 v5 : Int32) : Option Mm :=
  (some (σ 61 0)).bind fun x1 =>
  if x1 ≤ v5 then
    f_X1_weigh_j85 σ v1 v3 v4
  else
    (f_X1_sumWith σ v1 v2 v5).bind fun x2 =>
    if x2 = (-9 : Int32) then
      r16 σ v3 v4 (v5 + (1 : Int32))
    else
      (f_X1_without v1 v2 v5).bind fun x3 =>
      (f_X2_at 4096 65 σ x3).bind fun x4 =>
      if v3 = (-9 : Int32) then
        r16 σ x2 (v4 + x4) (v5 + (1 : Int32))
      else
        (some (if x2 < v3 then x2 else v3)).bind fun x5 =>
        r16 σ x5 (v4 + x4) (v5 + (1 : Int32))
def f_X1_weigh (σ : Mm) (w1 : Int32) : Option Mm :=
  (f_X1_firstSeat w1).bind fun x6 =>
  wh4 (f_X1_weigh_s16 w1 x6) 5000 σ (-9 : Int32) (0 : Int32) (x6 + (1 : Int32))
set_option maxHeartbeats 4000000 in
set_option maxRecDepth 100000 in
theorem c_X1_weigh (l : Launch) (D : va_G) (cI cZ : ClassId) (a : Nat → Nat) (w1 : Int32) : CTv l D [(cI, FieldType.int), (cZ, FieldType.boolean)] (xW cI a) yX1_weigh (.code yX1_weigh cX1_weigh 7 (none : Option FieldType) :: wsL_law) ({ frames := 2, cells := 0, slots := 0, locals := 47 } : Room) [.ref (a 54), .int w1] (fun σ => f_X1_weigh σ w1) := by
  refine CTv.of (by decide +kernel) (Nat.le_of_ble_eq_true rfl) ?_
  intro σ out hm p e s m below meth c A ls H locs hx hb hr hlk hml hT hown hK hA B hl
  have hown : s.vm.findClass RX1 = some m.cls := hown
  have hl : lv_has ls 7 [(0, .ref (a 54)), (1, .int w1)] := hl
  have hm : f_X1_weigh σ w1 = some out := hm
  unfold f_X1_weigh at hm
  have j85 : ∀ (σ : Mm) (v1 : Int32) (v3 : Int32) (v4 : Int32) (H : Heap) (locs : List Loc) (ls : Array Slot), BD D A s.heap ((xW cI a) σ) H locs → lv_has ls 7 [(0, .ref (a 54)), (1, .int v1), (3, .int v3), (4, .int v4)] → f_X1_weigh_j85 σ v1 v3 v4 = some out → W p l e ({ frames := 2, cells := 0, slots := 0, locals := 47 } : Room) s m ([.ref (a 54), .int w1] : List Value).toArray below meth c H locs 0 0 (MQ below (QV D [(cI, FieldType.int), (cZ, FieldType.boolean)] (xW cI a) A out) ([.ref (a 54), .int w1] : List Value).toArray s 0 0 A) (F0 m 85 ls []) := by
    intro σ v1 v3 v4 H locs ls B hl hm
    unfold f_X1_weigh_j85 at hm
    refine lv_aload_n hx hb dX1_weigh_85 rfl (lv_at hl 0 rfl) ?_
    refine x_getv (T := TX1) (N := 8) hx hb hT hown hK B xV_pairing_sums inlX1 rfl (by decide) q145 rfl dX1_weigh_86 ?_
    refine lv_iload_n hx hb dX1_weigh_89 rfl (lv_at hl 1 rfl) ?_
    refine lv_iload_n hx hb dX1_weigh_90 rfl (lv_at hl 2 rfl) ?_
    refine x_callVv (rest := []) hx hb hml hT hown hK hA B hl.1 (c_X2_put l D cI cZ xV_pairing_sums_cells xA_pairing_sums v1 v3) mi_X2_put mv_X2_put xO_pairing_sums rfl q408 ⟨rfl, rfl⟩ ⟨Nat.le_of_ble_eq_true rfl, Nat.le_of_ble_eq_true rfl⟩ rfl rfl (Nat.le_of_ble_eq_true rfl) dX1_weigh_91 hm (fun σ H locs B hm => ?_)
    refine lv_aload_n hx hb dX1_weigh_94 rfl (lv_at hl 0 rfl) ?_
    refine x_getv (T := TX1) (N := 8) hx hb hT hown hK B xV_pairing_numbers inlX1 rfl (by decide) q146 rfl dX1_weigh_95 ?_
    refine lv_iload_n hx hb dX1_weigh_98 rfl (lv_at hl 1 rfl) ?_
    refine lv_iload hx hb dX1_weigh_99 (lv_at hl 3 rfl) ?_
    refine x_callVv (rest := []) hx hb hml hT hown hK hA B hl.1 (c_X2_put l D cI cZ xV_pairing_numbers_cells xA_pairing_numbers v1 v4) mi_X2_put mv_X2_put xO_pairing_numbers rfl q408 ⟨rfl, rfl⟩ ⟨Nat.le_of_ble_eq_true rfl, Nat.le_of_ble_eq_true rfl⟩ rfl rfl (Nat.le_of_ble_eq_true rfl) dX1_weigh_101 hm (fun σ H locs B hm => ?_)
    exact x_vret hx hb hr hlk hK B dX1_weigh_104 hm
  have L16 : ∀ (v1 : Int32) (v2 : Int32) (nn : Nat) (σ : Mm) (v3 : Int32) (v4 : Int32) (v5 : Int32), wh4 (f_X1_weigh_s16 v1 v2) nn σ v3 v4 v5 = some out → ∀ (H : Heap) (locs : List Loc) (ls : Array Slot), BD D A s.heap ((xW cI a) σ) H locs → lv_has ls 7 [(0, .ref (a 54)), (1, .int v1), (2, .int v2), (3, .int v3), (4, .int v4), (5, .int v5)] → W p l e ({ frames := 2, cells := 0, slots := 0, locals := 47 } : Room) s m ([.ref (a 54), .int w1] : List Value).toArray below meth c H locs 0 0 (MQ below (QV D [(cI, FieldType.int), (cZ, FieldType.boolean)] (xW cI a) A out) ([.ref (a 54), .int w1] : List Value).toArray s 0 0 A) (F0 m 16 ls []) := by
    intro v1 v2
    refine loop4 (fun r16 ih16 σ v3 v4 v5 hm H locs ls B hl => ?_)
    unfold f_X1_weigh_s16 at hm
    refine lv_iload hx hb dX1_weigh_16 (lv_at hl 5 rfl) ?_
    refine lv_aload_n hx hb dX1_weigh_18 rfl (lv_at hl 0 rfl) ?_
    refine x_getib (T := TX1) (N := 8) hx hb hT hown hK B xI_pairing_count inlX1 rfl (by decide) q142 rfl dX1_weigh_19 hm (fun x1 hm => ?_)
    refine lv_icmp_ge (tgt := 85) hx hb dX1_weigh_22 (by decide) (fun q => ?_) (fun q => ?_)
    · have hm := ift hm q
      exact j85 σ v1 v3 v4 H locs ls B (lv_sub hl [0, 1, 3, 4] rfl) hm
    · have hm := iff hm q
      refine lv_aload_n hx hb dX1_weigh_25 rfl (lv_at hl 0 rfl) ?_
      refine lv_iload_n hx hb dX1_weigh_26 rfl (lv_at hl 1 rfl) ?_
      refine lv_iload_n hx hb dX1_weigh_27 rfl (lv_at hl 2 rfl) ?_
      refine lv_iload hx hb dX1_weigh_28 (lv_at hl 5 rfl) ?_
      refine x_callVr (rest := []) hx hb hml hT hown hK hA B hl.1 (c_X1_sumWith l D cI cZ a v1 v2 v5) mi_X1_sumWith mv_X1_sumWith xO_pairing rfl q437 ⟨rfl, rfl⟩ ⟨Nat.le_of_ble_eq_true rfl, Nat.le_of_ble_eq_true rfl⟩ rfl rfl (Nat.le_of_ble_eq_true rfl) dX1_weigh_30 hm (fun x2 H locs B hm => ?_)
      refine lv_istore (lv' := [(6, .int x2), (0, .ref (a 54)), (1, .int v1), (2, .int v2), (3, .int v3), (4, .int v4), (5, .int v5)]) hx hb dX1_weigh_33 hl (by decide) rfl (fun ls hl => ?_)
      refine lv_iload hx hb dX1_weigh_35 (lv_at hl 0 rfl) ?_
      refine lv_bipush (v := (-9 : Int32)) hx hb dX1_weigh_37 (by decide) ?_
      refine lv_icmp_eq (tgt := 79) hx hb dX1_weigh_39 (by decide) (fun q => ?_) (fun q => ?_)
      · have hm := ift hm q
        refine lv_iinc (v := (v5 + (1 : Int32))) (lv' := [(5, .int (v5 + (1 : Int32))), (6, .int x2), (0, .ref (a 54)), (1, .int v1), (2, .int v2), (3, .int v3), (4, .int v4)]) hx hb dX1_weigh_79 hl (k := 6) rfl rfl (by decide) rfl (fun ls hl => ?_)
        refine lv_goto (tgt := 16) hx hb dX1_weigh_82 (by decide) ?_
        exact ih16 σ v3 v4 (v5 + (1 : Int32)) hm H locs ls B (lv_sub hl [2, 3, 4, 5, 6, 0] rfl)
      · have hm := iff hm q
        refine lv_iload hx hb dX1_weigh_42 (lv_at hl 5 rfl) ?_
        refine lv_aload_n hx hb dX1_weigh_44 rfl (lv_at hl 1 rfl) ?_
        refine x_getv (T := TX1) (N := 8) hx hb hT hown hK B xV_pairing_numbers inlX1 rfl (by decide) q146 rfl dX1_weigh_45 ?_
        refine lv_iload_n hx hb dX1_weigh_48 rfl (lv_at hl 2 rfl) ?_
        refine lv_iload_n hx hb dX1_weigh_49 rfl (lv_at hl 3 rfl) ?_
        refine lv_iload hx hb dX1_weigh_50 (lv_at hl 6 rfl) ?_
        refine x_callSr (rest := [.ref (a 61), .int v4]) hx hb hml hT hown hK hA B hl.1 (c_X1_without l D cI cZ (xW cI a) v1 v2 v5) mi_X1_without q441 q440 ⟨rfl, rfl⟩ ⟨Nat.le_of_ble_eq_true rfl, Nat.le_of_ble_eq_true rfl⟩ rfl rfl (Nat.le_of_ble_eq_true rfl) dX1_weigh_52 hm (fun x3 H locs B hm => ?_)
        refine x_callVr (rest := [.int v4]) hx hb hml hT hown hK hA B hl.1 (c_X2_at l D cI cZ xV_pairing_numbers_cells xA_pairing_numbers x3) mi_X2_at mv_X2_at xO_pairing_numbers rfl q407 ⟨rfl, rfl⟩ ⟨Nat.le_of_ble_eq_true rfl, Nat.le_of_ble_eq_true rfl⟩ rfl rfl (Nat.le_of_ble_eq_true rfl) dX1_weigh_55 hm (fun x4 H locs B hm => ?_)
        refine lv_iadd hx hb dX1_weigh_58 ?_
        refine lv_istore (lv' := [(4, .int (v4 + x4)), (6, .int x2), (0, .ref (a 54)), (1, .int v1), (2, .int v2), (3, .int v3), (5, .int v5)]) hx hb dX1_weigh_59 hl (by decide) rfl (fun ls hl => ?_)
        refine lv_iload_n hx hb dX1_weigh_61 rfl (lv_at hl 5 rfl) ?_
        refine lv_bipush (v := (-9 : Int32)) hx hb dX1_weigh_62 (by decide) ?_
        refine lv_icmp_ne (tgt := 72) hx hb dX1_weigh_64 (by decide) (fun q => ?_) (fun q => ?_)
        · have hm := iff hm q
          refine lv_iload_n hx hb dX1_weigh_72 rfl (lv_at hl 5 rfl) ?_
          refine lv_iload hx hb dX1_weigh_73 (lv_at hl 1 rfl) ?_
          refine x_mmin hx hb (hml.trans hl.1.symm) hown (hT _ q443) (hT _ q294) (hT _ q4) (hT _ qM_min) (Nat.le_of_ble_eq_true rfl) (Nat.le_of_ble_eq_true rfl) dX1_weigh_75 hm (fun x5 hm => ?_)
          refine lv_istore_n (lv' := [(3, .int x5), (4, .int (v4 + x4)), (6, .int x2), (0, .ref (a 54)), (1, .int v1), (2, .int v2), (5, .int v5)]) hx hb dX1_weigh_78 rfl hl (by decide) rfl (fun ls hl => ?_)
          refine lv_iinc (v := (v5 + (1 : Int32))) (lv' := [(5, .int (v5 + (1 : Int32))), (3, .int x5), (4, .int (v4 + x4)), (6, .int x2), (0, .ref (a 54)), (1, .int v1), (2, .int v2)]) hx hb dX1_weigh_79 hl (k := 6) rfl rfl (by decide) rfl (fun ls hl => ?_)
          refine lv_goto (tgt := 16) hx hb dX1_weigh_82 (by decide) ?_
          exact ih16 σ x5 (v4 + x4) (v5 + (1 : Int32)) hm H locs ls B (lv_sub hl [4, 5, 6, 1, 2, 0] rfl)
        · have hm := ift hm q
          refine lv_iload hx hb dX1_weigh_67 (lv_at hl 1 rfl) ?_
          refine lv_goto (tgt := 78) hx hb dX1_weigh_69 (by decide) ?_
          refine lv_istore_n (lv' := [(3, .int x2), (4, .int (v4 + x4)), (6, .int x2), (0, .ref (a 54)), (1, .int v1), (2, .int v2), (5, .int v5)]) hx hb dX1_weigh_78 rfl hl (by decide) rfl (fun ls hl => ?_)
          refine lv_iinc (v := (v5 + (1 : Int32))) (lv' := [(5, .int (v5 + (1 : Int32))), (3, .int x2), (4, .int (v4 + x4)), (6, .int x2), (0, .ref (a 54)), (1, .int v1), (2, .int v2)]) hx hb dX1_weigh_79 hl (k := 6) rfl rfl (by decide) rfl (fun ls hl => ?_)
          refine lv_goto (tgt := 16) hx hb dX1_weigh_82 (by decide) ?_
          exact ih16 σ x2 (v4 + x4) (v5 + (1 : Int32)) hm H locs ls B (lv_sub hl [4, 5, 6, 1, 2, 0] rfl)
  refine lv_iload_n hx hb dX1_weigh_0 rfl (lv_at hl 1 rfl) ?_
  refine x_callSr (rest := []) hx hb hml hT hown hK hA B hl.1 (c_X1_firstSeat l D cI cZ (xW cI a) w1) mi_X1_firstSeat q432 q431 ⟨rfl, rfl⟩ ⟨Nat.le_of_ble_eq_true rfl, Nat.le_of_ble_eq_true rfl⟩ rfl rfl (Nat.le_of_ble_eq_true rfl) dX1_weigh_1 hm (fun x6 H locs B hm => ?_)
  refine lv_istore_n (lv' := [(2, .int x6), (0, .ref (a 54)), (1, .int w1)]) hx hb dX1_weigh_4 rfl hl (by decide) rfl (fun ls hl => ?_)
  refine lv_bipush (v := (-9 : Int32)) hx hb dX1_weigh_5 (by decide) ?_
  refine lv_istore_n (lv' := [(3, .int (-9 : Int32)), (2, .int x6), (0, .ref (a 54)), (1, .int w1)]) hx hb dX1_weigh_7 rfl hl (by decide) rfl (fun ls hl => ?_)
  refine lv_iconst (v := (0 : Int32)) hx hb dX1_weigh_8 (by decide) ?_
  refine lv_istore (lv' := [(4, .int (0 : Int32)), (3, .int (-9 : Int32)), (2, .int x6), (0, .ref (a 54)), (1, .int w1)]) hx hb dX1_weigh_9 hl (by decide) rfl (fun ls hl => ?_)
  refine lv_iload_n hx hb dX1_weigh_11 rfl (lv_at hl 2 rfl) ?_
  refine lv_iconst (v := (1 : Int32)) hx hb dX1_weigh_12 (by decide) ?_
  refine lv_iadd hx hb dX1_weigh_13 ?_
  refine lv_istore (lv' := [(5, .int (x6 + (1 : Int32))), (4, .int (0 : Int32)), (3, .int (-9 : Int32)), (2, .int x6), (0, .ref (a 54)), (1, .int w1)]) hx hb dX1_weigh_14 hl (by decide) rfl (fun ls hl => ?_)
  exact L16 w1 x6 5000 σ (-9 : Int32) (0 : Int32) (x6 + (1 : Int32)) hm H locs ls B (lv_sub hl [4, 5, 3, 2, 1, 0] rfl)
def f_X1_seatAll_s7 (r7 : Mm → Int32 → Option Mm) (σ : Mm) (v1 : Int32) : Option Mm :=
  (some (σ 0 0)).bind fun x1 =>
  if x1 ≤ v1 then
    some σ
  else
    (f_X2_at 12 58 σ v1).bind fun x2 =>
    (f_X2_at 12 2 σ x2).bind fun x3 =>
    if x3 = (1 : Int32) then
      (some (σ 61 0)).bind fun x4 =>
      (f_X2_put 12 60 σ x4 x2).bind fun σ =>
      (some (σ 61 0)).bind fun x5 =>
      (some (sc σ 61 (x5 + (1 : Int32)))).bind fun σ =>
      r7 σ (v1 + (1 : Int32))
    else
      r7 σ (v1 + (1 : Int32))
def f_X1_seatAll (σ : Mm) : Option Mm :=
  (some (sc σ 61 (0 : Int32))).bind fun σ =>
  wh2 (f_X1_seatAll_s7) 5000 σ (0 : Int32)
set_option maxHeartbeats 4000000 in
set_option maxRecDepth 100000 in
theorem c_X1_seatAll (l : Launch) (D : va_G) (cI cZ : ClassId) (a : Nat → Nat) : CTv l D [(cI, FieldType.int), (cZ, FieldType.boolean)] (xW cI a) yX1_seatAll (.code yX1_seatAll cX1_seatAll 3 (none : Option FieldType) :: wsL_law) ({ frames := 1, cells := 0, slots := 0, locals := 22 } : Room) [.ref (a 54)] (fun σ => f_X1_seatAll σ) := by
  refine CTv.of (by decide +kernel) (Nat.le_of_ble_eq_true rfl) ?_
  intro σ out hm p e s m below meth c A ls H locs hx hb hr hlk hml hT hown hK hA B hl
  have hown : s.vm.findClass RX1 = some m.cls := hown
  have hl : lv_has ls 3 [(0, .ref (a 54))] := hl
  have hm : f_X1_seatAll σ = some out := hm
  unfold f_X1_seatAll at hm
  have L7 : ∀ (nn : Nat) (σ : Mm) (v1 : Int32), wh2 f_X1_seatAll_s7 nn σ v1 = some out → ∀ (H : Heap) (locs : List Loc) (ls : Array Slot), BD D A s.heap ((xW cI a) σ) H locs → lv_has ls 3 [(0, .ref (a 54)), (1, .int v1)] → W p l e ({ frames := 1, cells := 0, slots := 0, locals := 22 } : Room) s m ([.ref (a 54)] : List Value).toArray below meth c H locs 0 0 (MQ below (QV D [(cI, FieldType.int), (cZ, FieldType.boolean)] (xW cI a) A out) ([.ref (a 54)] : List Value).toArray s 0 0 A) (F0 m 7 ls []) := by
    refine loop2 (fun r7 ih7 σ v1 hm H locs ls B hl => ?_)
    unfold f_X1_seatAll_s7 at hm
    refine lv_iload_n hx hb dX1_seatAll_7 rfl (lv_at hl 1 rfl) ?_
    refine lv_aload_n hx hb dX1_seatAll_8 rfl (lv_at hl 0 rfl) ?_
    refine x_getv (T := TX1) (N := 8) hx hb hT hown hK B xV_pairing_book inlX1 rfl (by decide) q139 rfl dX1_seatAll_9 ?_
    refine x_getibN (T := TX0) (N := 12) hx hb hT hown hK B xI_book_players inlX0 rfl (by decide) q49 rfl dX1_seatAll_12 hm (fun x1 hm => ?_)
    refine lv_icmp_ge (tgt := 73) hx hb dX1_seatAll_15 (by decide) (fun q => ?_) (fun q => ?_)
    · have hm := ift hm q
      exact x_vret hx hb hr hlk hK B dX1_seatAll_73 hm
    · have hm := iff hm q
      refine lv_aload_n hx hb dX1_seatAll_18 rfl (lv_at hl 0 rfl) ?_
      refine x_getv (T := TX1) (N := 8) hx hb hT hown hK B xV_pairing_table inlX1 rfl (by decide) q140 rfl dX1_seatAll_19 ?_
      refine x_getvN (T := TX4) (N := 10) hx hb hT hown hK B xV_table_standing inlX4 rfl (by decide) q119 rfl dX1_seatAll_22 ?_
      refine lv_iload_n hx hb dX1_seatAll_25 rfl (lv_at hl 1 rfl) ?_
      refine x_callVr (rest := []) hx hb hml hT hown hK hA B hl.1 (c_X2_at l D cI cZ xV_table_standing_cells xA_table_standing v1) mi_X2_at mv_X2_at xO_table_standing rfl q407 ⟨rfl, rfl⟩ ⟨Nat.le_of_ble_eq_true rfl, Nat.le_of_ble_eq_true rfl⟩ rfl rfl (Nat.le_of_ble_eq_true rfl) dX1_seatAll_26 hm (fun x2 H locs B hm => ?_)
      refine lv_istore_n (lv' := [(2, .int x2), (0, .ref (a 54)), (1, .int v1)]) hx hb dX1_seatAll_29 rfl hl (by decide) rfl (fun ls hl => ?_)
      refine lv_aload_n hx hb dX1_seatAll_30 rfl (lv_at hl 1 rfl) ?_
      refine x_getv (T := TX1) (N := 8) hx hb hT hown hK B xV_pairing_book inlX1 rfl (by decide) q139 rfl dX1_seatAll_31 ?_
      refine x_getvN (T := TX0) (N := 12) hx hb hT hown hK B xV_book_inside inlX0 rfl (by decide) q55 rfl dX1_seatAll_34 ?_
      refine lv_iload_n hx hb dX1_seatAll_37 rfl (lv_at hl 0 rfl) ?_
      refine x_callVr (rest := []) hx hb hml hT hown hK hA B hl.1 (c_X2_at l D cI cZ xV_book_inside_cells xA_book_inside x2) mi_X2_at mv_X2_at xO_book_inside rfl q407 ⟨rfl, rfl⟩ ⟨Nat.le_of_ble_eq_true rfl, Nat.le_of_ble_eq_true rfl⟩ rfl rfl (Nat.le_of_ble_eq_true rfl) dX1_seatAll_38 hm (fun x3 H locs B hm => ?_)
      refine lv_iconst (v := (1 : Int32)) hx hb dX1_seatAll_41 (by decide) ?_
      refine lv_icmp_ne (tgt := 67) hx hb dX1_seatAll_42 (by decide) (fun q => ?_) (fun q => ?_)
      · have hm := iff hm q
        refine lv_iinc (v := (v1 + (1 : Int32))) (lv' := [(1, .int (v1 + (1 : Int32))), (2, .int x2), (0, .ref (a 54))]) hx hb dX1_seatAll_67 hl (k := 2) rfl rfl (by decide) rfl (fun ls hl => ?_)
        refine lv_goto (tgt := 7) hx hb dX1_seatAll_70 (by decide) ?_
        exact ih7 σ (v1 + (1 : Int32)) hm H locs ls B (lv_sub hl [2, 0] rfl)
      · have hm := ift hm q
        refine lv_aload_n hx hb dX1_seatAll_45 rfl (lv_at hl 1 rfl) ?_
        refine x_getv (T := TX1) (N := 8) hx hb hT hown hK B xV_pairing_seats inlX1 rfl (by decide) q141 rfl dX1_seatAll_46 ?_
        refine lv_aload_n hx hb dX1_seatAll_49 rfl (lv_at hl 1 rfl) ?_
        refine x_getib (T := TX1) (N := 8) hx hb hT hown hK B xI_pairing_count inlX1 rfl (by decide) q142 rfl dX1_seatAll_50 hm (fun x4 hm => ?_)
        refine lv_iload_n hx hb dX1_seatAll_53 rfl (lv_at hl 0 rfl) ?_
        refine x_callVv (rest := []) hx hb hml hT hown hK hA B hl.1 (c_X2_put l D cI cZ xV_pairing_seats_cells xA_pairing_seats x4 x2) mi_X2_put mv_X2_put xO_pairing_seats rfl q408 ⟨rfl, rfl⟩ ⟨Nat.le_of_ble_eq_true rfl, Nat.le_of_ble_eq_true rfl⟩ rfl rfl (Nat.le_of_ble_eq_true rfl) dX1_seatAll_54 hm (fun σ H locs B hm => ?_)
        refine lv_aload_n hx hb dX1_seatAll_57 rfl (lv_at hl 1 rfl) ?_
        refine lv_dup hx hb dX1_seatAll_58 rfl ?_
        refine x_getib (T := TX1) (N := 8) hx hb hT hown hK B xI_pairing_count inlX1 rfl (by decide) q142 rfl dX1_seatAll_59 hm (fun x5 hm => ?_)
        refine lv_iconst (v := (1 : Int32)) hx hb dX1_seatAll_62 (by decide) ?_
        refine lv_iadd hx hb dX1_seatAll_63 ?_
        refine x_puti (T := TX1) (N := 8) hx hb hT hown hK B xI_pairing_count inlX1 tyX1_ok nmX1 rfl (by decide) q142 rfl rfl rfl rfl rfl dX1_seatAll_64 hm (fun σ H locs B hm => ?_)
        refine lv_iinc (v := (v1 + (1 : Int32))) (lv' := [(1, .int (v1 + (1 : Int32))), (2, .int x2), (0, .ref (a 54))]) hx hb dX1_seatAll_67 hl (k := 2) rfl rfl (by decide) rfl (fun ls hl => ?_)
        refine lv_goto (tgt := 7) hx hb dX1_seatAll_70 (by decide) ?_
        exact ih7 σ (v1 + (1 : Int32)) hm H locs ls B (lv_sub hl [2, 0] rfl)
  refine lv_aload_n hx hb dX1_seatAll_0 rfl (lv_at hl 0 rfl) ?_
  refine lv_iconst (v := (0 : Int32)) hx hb dX1_seatAll_1 (by decide) ?_
  refine x_puti (T := TX1) (N := 8) hx hb hT hown hK B xI_pairing_count inlX1 tyX1_ok nmX1 rfl (by decide) q142 rfl rfl rfl rfl rfl dX1_seatAll_2 hm (fun σ H locs B hm => ?_)
  refine lv_iconst (v := (0 : Int32)) hx hb dX1_seatAll_5 (by decide) ?_
  refine lv_istore_n (lv' := [(1, .int (0 : Int32)), (0, .ref (a 54))]) hx hb dX1_seatAll_6 rfl hl (by decide) rfl (fun ls hl => ?_)
  exact L7 5000 σ (0 : Int32) hm H locs ls B (lv_sub hl [1, 0] rfl)
