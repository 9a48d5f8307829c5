def f_X2_copy_s2 (n : Nat) (k : Nat) (n2 : Nat) (k2 : Nat) (r2 : Mm → Int32 → Option Mm) (σ : Mm) (v2 : Int32) : Option Mm :=
  if (Int32.ofNat n) ≤ v2 then
    some σ
  else
    (f_X2_at n2 k2 σ v2).bind fun x1 =>
    (ast n σ k v2 x1).bind fun σ =>
    r2 σ (v2 + (1 : Int32))
def f_X2_copy (n : Nat) (k : Nat) (n2 : Nat) (k2 : Nat) (σ : Mm) : Option Mm :=
  wh2 (f_X2_copy_s2 n k n2 k2) 5000 σ (0 : Int32)
set_option maxHeartbeats 4000000 in
set_option maxRecDepth 100000 in
theorem c_X2_copy (l : Launch) (D : va_G) (cI cZ : ClassId) {ww : Mm → va_W} {k n q p row arr : Nat} (hV : IsV ww 2 q row 0 (.ref arr)) (hI : IsA ww cI k n p arr) {k2 n2 q2 p2 row2 arr2 : Nat} (hV2 : IsV ww 2 q2 row2 0 (.ref arr2)) (hI2 : IsA ww cI k2 n2 p2 arr2) : CTv l D [(cI, FieldType.int), (cZ, FieldType.boolean)] ww yX2_copy (.code yX2_copy cX2_copy 3 (none : Option FieldType) :: wsL_law) ({ frames := 1, cells := 0, slots := 0, locals := 21 } : Room) [.ref row, .ref row2] (fun σ => f_X2_copy n k n2 k2 σ) := by
  refine CTv.of (by decide +kernel) (Nat.le_of_ble_eq_true rfl) ?_
  intro σ out hm p e s m below meth c A ls H locs hx hb hr hlk hml hT hown hK hA B hl
  have hown : s.vm.findClass RX2 = some m.cls := hown
  have hl : lv_has ls 3 [(0, .ref row), (1, .ref row2)] := hl
  have hm : f_X2_copy n k n2 k2 σ = some out := hm
  unfold f_X2_copy at hm
  have L2 : ∀ (nn : Nat) (σ : Mm) (v2 : Int32), wh2 (f_X2_copy_s2 n k n2 k2) nn σ v2 = some out → ∀ (H : Heap) (locs : List Loc) (ls : Array Slot), BD D A s.heap (ww σ) H locs → lv_has ls 3 [(0, .ref row), (1, .ref row2), (2, .int v2)] → W p l e ({ frames := 1, cells := 0, slots := 0, locals := 21 } : Room) s m ([.ref row, .ref row2] : List Value).toArray below meth c H locs 0 0 (MQ below (QV D [(cI, FieldType.int), (cZ, FieldType.boolean)] ww A out) ([.ref row, .ref row2] : List Value).toArray s 0 0 A) (F0 m 2 ls []) := by
    refine loop2 (fun r2 ih2 σ v2 hm H locs ls B hl => ?_)
    unfold f_X2_copy_s2 at hm
    refine lv_iload_n hx hb dX2_copy_2 rfl (lv_at hl 2 rfl) ?_
    refine lv_aload_n hx hb dX2_copy_3 rfl (lv_at hl 0 rfl) ?_
    refine x_getv (T := TX2) (N := 1) hx hb hT hown hK B hV inlX2 rfl (by decide) q39 rfl dX2_copy_4 ?_
    refine x_alen (t0 := 0) (v := (Int32.ofNat n)) hx hb hK B hI rfl rfl dX2_copy_7 ?_
    refine lv_icmp_ge (tgt := 28) hx hb dX2_copy_8 (by decide) (fun q => ?_) (fun q => ?_)
    · have hm := ift hm q
      exact x_vret hx hb hr hlk hK B dX2_copy_28 hm
    · have hm := iff hm q
      refine lv_aload_n hx hb dX2_copy_11 rfl (lv_at hl 0 rfl) ?_
      refine x_getv (T := TX2) (N := 1) hx hb hT hown hK B hV inlX2 rfl (by decide) q39 rfl dX2_copy_12 ?_
      refine lv_iload_n hx hb dX2_copy_15 rfl (lv_at hl 2 rfl) ?_
      refine lv_aload_n hx hb dX2_copy_16 rfl (lv_at hl 1 rfl) ?_
      refine lv_iload_n hx hb dX2_copy_17 rfl (lv_at hl 2 rfl) ?_
      refine x_callVr (rest := [.int v2, .ref arr]) hx hb hml hT hown hK hA B hl.1 (c_X2_at l D cI cZ hV2 hI2 v2) mi_X2_at mv_X2_at hV2.o rfl q754 ⟨rfl, rfl⟩ ⟨Nat.le_of_ble_eq_true rfl, Nat.le_of_ble_eq_true rfl⟩ rfl rfl (Nat.le_of_ble_eq_true rfl) dX2_copy_18 hm (fun x1 H locs B hm => ?_)
      refine x_iast (t0 := 0) hx hb hK B hI rfl dX2_copy_21 hm (fun σ H locs B hm => ?_)
      refine lv_iinc (v := (v2 + (1 : Int32))) (lv' := [(2, .int (v2 + (1 : Int32))), (0, .ref row), (1, .ref row2)]) hx hb dX2_copy_22 hl (k := 2) rfl rfl (by decide) rfl (fun ls hl => ?_)
      refine lv_goto (tgt := 2) hx hb dX2_copy_25 (by decide) ?_
      exact ih2 σ (v2 + (1 : Int32)) hm H locs ls B (lv_sub hl [1, 2, 0] rfl)
  refine lv_iconst (v := (0 : Int32)) hx hb dX2_copy_0 (by decide) ?_
  refine lv_istore_n (lv' := [(2, .int (0 : Int32)), (0, .ref row), (1, .ref row2)]) hx hb dX2_copy_1 rfl hl (by decide) rfl (fun ls hl => ?_)
  exact L2 5000 σ (0 : Int32) hm H locs ls B (lv_sub hl [1, 2, 0] rfl)
def f_X0_copy_saved (σ : Mm) : Option Mm :=
  (some (σ 0 0)).bind fun x1 =>
  (some (sc σ 20 x1)).bind fun σ =>
  (f_X2_copy 12 21 12 1 σ).bind fun σ =>
  (f_X2_copy 12 22 12 2 σ).bind fun σ =>
  (some (σ 3 0)).bind fun x2 =>
  (some (sc σ 23 x2)).bind fun σ =>
  (some (σ 4 0)).bind fun x3 =>
  (zb x3).bind fun x4 =>
  (some (sc σ 24 x3)).bind fun σ =>
  (f_X2_copy 20 25 20 5 σ).bind fun σ =>
  (f_X2_copy 20 26 20 6 σ).bind fun σ =>
  (f_X2_copy 120 27 120 7 σ).bind fun σ =>
  (f_X2_copy 120 28 120 8 σ).bind fun σ =>
  (f_X2_copy 120 29 120 9 σ).bind fun σ =>
  (some (σ 10 0)).bind fun x5 =>
  (some (sc σ 30 x5)).bind fun σ =>
  (f_X2_copy 9 31 9 11 σ).bind fun σ =>
  some σ
set_option maxHeartbeats 4000000 in
set_option maxRecDepth 100000 in
theorem c_X0_copy_saved (l : Launch) (D : va_G) (cI cZ : ClassId) (a : Nat → Nat) : CTv l D [(cI, FieldType.int), (cZ, FieldType.boolean)] (xW cI a) yX0_copy (.code yX0_copy cX0_copy 2 (none : Option FieldType) :: wsL_law) ({ frames := 2, cells := 0, slots := 0, locals := 43 } : Room) [.ref (a 18), .ref (a 1)] (fun σ => f_X0_copy_saved σ) := by
  refine CTv.of (by decide +kernel) (Nat.le_of_ble_eq_true rfl) ?_
  intro σ out hm p e s m below meth c A ls H locs hx hb hr hlk hml hT hown hK hA B hl
  have hown : s.vm.findClass RX0 = some m.cls := hown
  have hl : lv_has ls 2 [(0, .ref (a 18)), (1, .ref (a 1))] := hl
  have hm : f_X0_copy_saved σ = some out := hm
  unfold f_X0_copy_saved at hm
  refine lv_aload_n hx hb dX0_copy_0 rfl (lv_at hl 0 rfl) ?_
  refine lv_aload_n hx hb dX0_copy_1 rfl (lv_at hl 1 rfl) ?_
  refine x_getib (T := TX0) (N := 12) hx hb hT hown hK B xI_book_players inlX0 rfl (by decide) q46 rfl dX0_copy_2 hm (fun x1 hm => ?_)
  refine x_puti (T := TX0) (N := 12) hx hb hT hown hK B xI_saved_players inlX0 tyX0_ok nmX0 rfl (by decide) q46 rfl rfl rfl rfl rfl dX0_copy_5 hm (fun σ H locs B hm => ?_)
  refine lv_aload_n hx hb dX0_copy_8 rfl (lv_at hl 0 rfl) ?_
  refine x_getv (T := TX0) (N := 12) hx hb hT hown hK B xV_saved_ratings inlX0 rfl (by decide) q50 rfl dX0_copy_9 ?_
  refine lv_aload_n hx hb dX0_copy_12 rfl (lv_at hl 1 rfl) ?_
  refine x_getv (T := TX0) (N := 12) hx hb hT hown hK B xV_book_ratings inlX0 rfl (by decide) q50 rfl dX0_copy_13 ?_
  refine x_callVv (rest := []) hx hb hml hT hown hK hA B hl.1 (c_X2_copy l D cI cZ xV_saved_ratings_cells xA_saved_ratings xV_book_ratings_cells xA_book_ratings) mi_X2_copy mv_X2_copy xO_saved_ratings rfl q750 ⟨rfl, rfl⟩ ⟨Nat.le_of_ble_eq_true rfl, Nat.le_of_ble_eq_true rfl⟩ rfl rfl (Nat.le_of_ble_eq_true rfl) dX0_copy_16 hm (fun σ H locs B hm => ?_)
  refine lv_aload_n hx hb dX0_copy_19 rfl (lv_at hl 0 rfl) ?_
  refine x_getv (T := TX0) (N := 12) hx hb hT hown hK B xV_saved_inside inlX0 rfl (by decide) q53 rfl dX0_copy_20 ?_
  refine lv_aload_n hx hb dX0_copy_23 rfl (lv_at hl 1 rfl) ?_
  refine x_getv (T := TX0) (N := 12) hx hb hT hown hK B xV_book_inside inlX0 rfl (by decide) q53 rfl dX0_copy_24 ?_
  refine x_callVv (rest := []) hx hb hml hT hown hK hA B hl.1 (c_X2_copy l D cI cZ xV_saved_inside_cells xA_saved_inside xV_book_inside_cells xA_book_inside) mi_X2_copy mv_X2_copy xO_saved_inside rfl q750 ⟨rfl, rfl⟩ ⟨Nat.le_of_ble_eq_true rfl, Nat.le_of_ble_eq_true rfl⟩ rfl rfl (Nat.le_of_ble_eq_true rfl) dX0_copy_27 hm (fun σ H locs B hm => ?_)
  refine lv_aload_n hx hb dX0_copy_30 rfl (lv_at hl 0 rfl) ?_
  refine lv_aload_n hx hb dX0_copy_31 rfl (lv_at hl 1 rfl) ?_
  refine x_getib (T := TX0) (N := 12) hx hb hT hown hK B xI_book_rounds inlX0 rfl (by decide) q56 rfl dX0_copy_32 hm (fun x2 hm => ?_)
  refine x_puti (T := TX0) (N := 12) hx hb hT hown hK B xI_saved_rounds inlX0 tyX0_ok nmX0 rfl (by decide) q56 rfl rfl rfl rfl rfl dX0_copy_35 hm (fun σ H locs B hm => ?_)
  refine lv_aload_n hx hb dX0_copy_38 rfl (lv_at hl 0 rfl) ?_
  refine lv_aload_n hx hb dX0_copy_39 rfl (lv_at hl 1 rfl) ?_
  refine x_getib (T := TX0) (N := 12) hx hb hT hown hK B xI_book_open inlX0 rfl (by decide) q59 rfl dX0_copy_40 hm (fun x3 hm => ?_)
  obtain ⟨x4, hz, hm⟩ := Option.bind_eq_some_iff.mp hm
  obtain ⟨hz1, hz2, -⟩ := zb_all hz
  refine x_puti (T := TX0) (N := 12) hx hb hT hown hK B xI_saved_open inlX0 tyX0_ok nmX0 rfl (by decide) q59 rfl rfl rfl hz1 hz2 dX0_copy_43 hm (fun σ H locs B hm => ?_)
  refine lv_aload_n hx hb dX0_copy_46 rfl (lv_at hl 0 rfl) ?_
  refine x_getv (T := TX0) (N := 12) hx hb hT hown hK B xV_saved_boards inlX0 rfl (by decide) q60 rfl dX0_copy_47 ?_
  refine lv_aload_n hx hb dX0_copy_50 rfl (lv_at hl 1 rfl) ?_
  refine x_getv (T := TX0) (N := 12) hx hb hT hown hK B xV_book_boards inlX0 rfl (by decide) q60 rfl dX0_copy_51 ?_
  refine x_callVv (rest := []) hx hb hml hT hown hK hA B hl.1 (c_X2_copy l D cI cZ xV_saved_boards_cells xA_saved_boards xV_book_boards_cells xA_book_boards) mi_X2_copy mv_X2_copy xO_saved_boards rfl q750 ⟨rfl, rfl⟩ ⟨Nat.le_of_ble_eq_true rfl, Nat.le_of_ble_eq_true rfl⟩ rfl rfl (Nat.le_of_ble_eq_true rfl) dX0_copy_54 hm (fun σ H locs B hm => ?_)
  refine lv_aload_n hx hb dX0_copy_57 rfl (lv_at hl 0 rfl) ?_
  refine x_getv (T := TX0) (N := 12) hx hb hT hown hK B xV_saved_byes inlX0 rfl (by decide) q63 rfl dX0_copy_58 ?_
  refine lv_aload_n hx hb dX0_copy_61 rfl (lv_at hl 1 rfl) ?_
  refine x_getv (T := TX0) (N := 12) hx hb hT hown hK B xV_book_byes inlX0 rfl (by decide) q63 rfl dX0_copy_62 ?_
  refine x_callVv (rest := []) hx hb hml hT hown hK hA B hl.1 (c_X2_copy l D cI cZ xV_saved_byes_cells xA_saved_byes xV_book_byes_cells xA_book_byes) mi_X2_copy mv_X2_copy xO_saved_byes rfl q750 ⟨rfl, rfl⟩ ⟨Nat.le_of_ble_eq_true rfl, Nat.le_of_ble_eq_true rfl⟩ rfl rfl (Nat.le_of_ble_eq_true rfl) dX0_copy_65 hm (fun σ H locs B hm => ?_)
  refine lv_aload_n hx hb dX0_copy_68 rfl (lv_at hl 0 rfl) ?_
  refine x_getv (T := TX0) (N := 12) hx hb hT hown hK B xV_saved_whites inlX0 rfl (by decide) q66 rfl dX0_copy_69 ?_
  refine lv_aload_n hx hb dX0_copy_72 rfl (lv_at hl 1 rfl) ?_
  refine x_getv (T := TX0) (N := 12) hx hb hT hown hK B xV_book_whites inlX0 rfl (by decide) q66 rfl dX0_copy_73 ?_
  refine x_callVv (rest := []) hx hb hml hT hown hK hA B hl.1 (c_X2_copy l D cI cZ xV_saved_whites_cells xA_saved_whites xV_book_whites_cells xA_book_whites) mi_X2_copy mv_X2_copy xO_saved_whites rfl q750 ⟨rfl, rfl⟩ ⟨Nat.le_of_ble_eq_true rfl, Nat.le_of_ble_eq_true rfl⟩ rfl rfl (Nat.le_of_ble_eq_true rfl) dX0_copy_76 hm (fun σ H locs B hm => ?_)
  refine lv_aload_n hx hb dX0_copy_79 rfl (lv_at hl 0 rfl) ?_
  refine x_getv (T := TX0) (N := 12) hx hb hT hown hK B xV_saved_blacks inlX0 rfl (by decide) q69 rfl dX0_copy_80 ?_
  refine lv_aload_n hx hb dX0_copy_83 rfl (lv_at hl 1 rfl) ?_
  refine x_getv (T := TX0) (N := 12) hx hb hT hown hK B xV_book_blacks inlX0 rfl (by decide) q69 rfl dX0_copy_84 ?_
  refine x_callVv (rest := []) hx hb hml hT hown hK hA B hl.1 (c_X2_copy l D cI cZ xV_saved_blacks_cells xA_saved_blacks xV_book_blacks_cells xA_book_blacks) mi_X2_copy mv_X2_copy xO_saved_blacks rfl q750 ⟨rfl, rfl⟩ ⟨Nat.le_of_ble_eq_true rfl, Nat.le_of_ble_eq_true rfl⟩ rfl rfl (Nat.le_of_ble_eq_true rfl) dX0_copy_87 hm (fun σ H locs B hm => ?_)
  refine lv_aload_n hx hb dX0_copy_90 rfl (lv_at hl 0 rfl) ?_
  refine x_getv (T := TX0) (N := 12) hx hb hT hown hK B xV_saved_outcomes inlX0 rfl (by decide) q72 rfl dX0_copy_91 ?_
  refine lv_aload_n hx hb dX0_copy_94 rfl (lv_at hl 1 rfl) ?_
  refine x_getv (T := TX0) (N := 12) hx hb hT hown hK B xV_book_outcomes inlX0 rfl (by decide) q72 rfl dX0_copy_95 ?_
  refine x_callVv (rest := []) hx hb hml hT hown hK hA B hl.1 (c_X2_copy l D cI cZ xV_saved_outcomes_cells xA_saved_outcomes xV_book_outcomes_cells xA_book_outcomes) mi_X2_copy mv_X2_copy xO_saved_outcomes rfl q750 ⟨rfl, rfl⟩ ⟨Nat.le_of_ble_eq_true rfl, Nat.le_of_ble_eq_true rfl⟩ rfl rfl (Nat.le_of_ble_eq_true rfl) dX0_copy_98 hm (fun σ H locs B hm => ?_)
  refine lv_aload_n hx hb dX0_copy_101 rfl (lv_at hl 0 rfl) ?_
  refine lv_aload_n hx hb dX0_copy_102 rfl (lv_at hl 1 rfl) ?_
  refine x_getib (T := TX0) (N := 12) hx hb hT hown hK B xI_book_breaks inlX0 rfl (by decide) q74 rfl dX0_copy_103 hm (fun x5 hm => ?_)
  refine x_puti (T := TX0) (N := 12) hx hb hT hown hK B xI_saved_breaks inlX0 tyX0_ok nmX0 rfl (by decide) q74 rfl rfl rfl rfl rfl dX0_copy_106 hm (fun σ H locs B hm => ?_)
  refine lv_aload_n hx hb dX0_copy_109 rfl (lv_at hl 0 rfl) ?_
  refine x_getv (T := TX0) (N := 12) hx hb hT hown hK B xV_saved_breakOrder inlX0 rfl (by decide) q77 rfl dX0_copy_110 ?_
  refine lv_aload_n hx hb dX0_copy_113 rfl (lv_at hl 1 rfl) ?_
  refine x_getv (T := TX0) (N := 12) hx hb hT hown hK B xV_book_breakOrder inlX0 rfl (by decide) q77 rfl dX0_copy_114 ?_
  refine x_callVv (rest := []) hx hb hml hT hown hK hA B hl.1 (c_X2_copy l D cI cZ xV_saved_breakOrder_cells xA_saved_breakOrder xV_book_breakOrder_cells xA_book_breakOrder) mi_X2_copy mv_X2_copy xO_saved_breakOrder rfl q750 ⟨rfl, rfl⟩ ⟨Nat.le_of_ble_eq_true rfl, Nat.le_of_ble_eq_true rfl⟩ rfl rfl (Nat.le_of_ble_eq_true rfl) dX0_copy_117 hm (fun σ H locs B hm => ?_)
  exact x_vret hx hb hr hlk hK B dX0_copy_120 hm
def f_X6_image (σ : Mm) : Option (Int32 × Mm) :=
  (f_X0_copy_saved σ).bind fun σ =>
  (some (sc σ 40 (1 : Int32))).bind fun σ =>
  (some (σ 3 0)).bind fun x1 =>
  some (x1, σ)
set_option maxHeartbeats 4000000 in
set_option maxRecDepth 100000 in
theorem c_X6_image (l : Launch) (D : va_G) (cI cZ : ClassId) (a : Nat → Nat) : CTi l D [(cI, FieldType.int), (cZ, FieldType.boolean)] (xW cI a) yX6_image (.code yX6_image cX6_image 1 (some FieldType.int) :: wsL_law) ({ frames := 3, cells := 0, slots := 0, locals := 64 } : Room) [.ref (a 0)] (fun σ => f_X6_image σ) := by
  refine CTi.of (by decide +kernel) (Nat.le_of_ble_eq_true rfl) ?_
  intro σ out hm p e s m below meth c A ls H locs hx hb hr hlk hml hT hown hK hA B hl
  have hown : s.vm.findClass RX6 = some m.cls := hown
  have hl : lv_has ls 1 [(0, .ref (a 0))] := hl
  have hm : f_X6_image σ = some out := hm
  unfold f_X6_image at hm
  refine lv_aload_n hx hb dX6_image_0 rfl (lv_at hl 0 rfl) ?_
  refine x_getv (T := TX6) (N := 8) hx hb hT hown hK B xV_X_saved inlX6 rfl (by decide) q185 rfl dX6_image_1 ?_
  refine lv_aload_n hx hb dX6_image_4 rfl (lv_at hl 0 rfl) ?_
  refine x_getv (T := TX6) (N := 8) hx hb hT hown hK B xV_X_book inlX6 rfl (by decide) q184 rfl dX6_image_5 ?_
  refine x_callVv (rest := []) hx hb hml hT hown hK hA B hl.1 (c_X0_copy_saved l D cI cZ a) mi_X0_copy mv_X0_copy xO_saved rfl q746 ⟨rfl, rfl⟩ ⟨Nat.le_of_ble_eq_true rfl, Nat.le_of_ble_eq_true rfl⟩ rfl rfl (Nat.le_of_ble_eq_true rfl) dX6_image_8 hm (fun σ H locs B hm => ?_)
  refine lv_aload_n hx hb dX6_image_11 rfl (lv_at hl 0 rfl) ?_
  refine lv_iconst (v := (1 : Int32)) hx hb dX6_image_12 (by decide) ?_
  refine x_puti (T := TX6) (N := 8) hx hb hT hown hK B xI_X_isSaved inlX6 tyX6_ok nmX6 rfl (by decide) q186 rfl rfl rfl rfl rfl dX6_image_13 hm (fun σ H locs B hm => ?_)
  refine lv_aload_n hx hb dX6_image_16 rfl (lv_at hl 0 rfl) ?_
  refine x_getv (T := TX6) (N := 8) hx hb hT hown hK B xV_X_book inlX6 rfl (by decide) q184 rfl dX6_image_17 ?_
  refine x_getibN (T := TX0) (N := 12) hx hb hT hown hK B xI_book_rounds inlX0 rfl (by decide) q57 rfl dX6_image_20 hm (fun x1 hm => ?_)
  exact x_iret hx hb hr hlk hK B dX6_image_23 hm
def f_X0_copy_book (σ : Mm) : Option Mm :=
  (some (σ 20 0)).bind fun x1 =>
  (some (sc σ 0 x1)).bind fun σ =>
  (f_X2_copy 12 1 12 21 σ).bind fun σ =>
  (f_X2_copy 12 2 12 22 σ).bind fun σ =>
  (some (σ 23 0)).bind fun x2 =>
  (some (sc σ 3 x2)).bind fun σ =>
  (some (σ 24 0)).bind fun x3 =>
  (zb x3).bind fun x4 =>
  (some (sc σ 4 x3)).bind fun σ =>
  (f_X2_copy 20 5 20 25 σ).bind fun σ =>
  (f_X2_copy 20 6 20 26 σ).bind fun σ =>
  (f_X2_copy 120 7 120 27 σ).bind fun σ =>
  (f_X2_copy 120 8 120 28 σ).bind fun σ =>
  (f_X2_copy 120 9 120 29 σ).bind fun σ =>
  (some (σ 30 0)).bind fun x5 =>
  (some (sc σ 10 x5)).bind fun σ =>
  (f_X2_copy 9 11 9 31 σ).bind fun σ =>
  some σ
set_option maxHeartbeats 4000000 in
set_option maxRecDepth 100000 in
theorem c_X0_copy_book (l : Launch) (D : va_G) (cI cZ : ClassId) (a : Nat → Nat) : CTv l D [(cI, FieldType.int), (cZ, FieldType.boolean)] (xW cI a) yX0_copy (.code yX0_copy cX0_copy 2 (none : Option FieldType) :: wsL_law) ({ frames := 2, cells := 0, slots := 0, locals := 43 } : Room) [.ref (a 1), .ref (a 18)] (fun σ => f_X0_copy_book σ) := by
  refine CTv.of (by decide +kernel) (Nat.le_of_ble_eq_true rfl) ?_
  intro σ out hm p e s m below meth c A ls H locs hx hb hr hlk hml hT hown hK hA B hl
  have hown : s.vm.findClass RX0 = some m.cls := hown
  have hl : lv_has ls 2 [(0, .ref (a 1)), (1, .ref (a 18))] := hl
  have hm : f_X0_copy_book σ = some out := hm
  unfold f_X0_copy_book at hm
  refine lv_aload_n hx hb dX0_copy_0 rfl (lv_at hl 0 rfl) ?_
  refine lv_aload_n hx hb dX0_copy_1 rfl (lv_at hl 1 rfl) ?_
  refine x_getib (T := TX0) (N := 12) hx hb hT hown hK B xI_saved_players inlX0 rfl (by decide) q46 rfl dX0_copy_2 hm (fun x1 hm => ?_)
  refine x_puti (T := TX0) (N := 12) hx hb hT hown hK B xI_book_players inlX0 tyX0_ok nmX0 rfl (by decide) q46 rfl rfl rfl rfl rfl dX0_copy_5 hm (fun σ H locs B hm => ?_)
  refine lv_aload_n hx hb dX0_copy_8 rfl (lv_at hl 0 rfl) ?_
  refine x_getv (T := TX0) (N := 12) hx hb hT hown hK B xV_book_ratings inlX0 rfl (by decide) q50 rfl dX0_copy_9 ?_
  refine lv_aload_n hx hb dX0_copy_12 rfl (lv_at hl 1 rfl) ?_
  refine x_getv (T := TX0) (N := 12) hx hb hT hown hK B xV_saved_ratings inlX0 rfl (by decide) q50 rfl dX0_copy_13 ?_
  refine x_callVv (rest := []) hx hb hml hT hown hK hA B hl.1 (c_X2_copy l D cI cZ xV_book_ratings_cells xA_book_ratings xV_saved_ratings_cells xA_saved_ratings) mi_X2_copy mv_X2_copy xO_book_ratings rfl q750 ⟨rfl, rfl⟩ ⟨Nat.le_of_ble_eq_true rfl, Nat.le_of_ble_eq_true rfl⟩ rfl rfl (Nat.le_of_ble_eq_true rfl) dX0_copy_16 hm (fun σ H locs B hm => ?_)
  refine lv_aload_n hx hb dX0_copy_19 rfl (lv_at hl 0 rfl) ?_
  refine x_getv (T := TX0) (N := 12) hx hb hT hown hK B xV_book_inside inlX0 rfl (by decide) q53 rfl dX0_copy_20 ?_
  refine lv_aload_n hx hb dX0_copy_23 rfl (lv_at hl 1 rfl) ?_
  refine x_getv (T := TX0) (N := 12) hx hb hT hown hK B xV_saved_inside inlX0 rfl (by decide) q53 rfl dX0_copy_24 ?_
  refine x_callVv (rest := []) hx hb hml hT hown hK hA B hl.1 (c_X2_copy l D cI cZ xV_book_inside_cells xA_book_inside xV_saved_inside_cells xA_saved_inside) mi_X2_copy mv_X2_copy xO_book_inside rfl q750 ⟨rfl, rfl⟩ ⟨Nat.le_of_ble_eq_true rfl, Nat.le_of_ble_eq_true rfl⟩ rfl rfl (Nat.le_of_ble_eq_true rfl) dX0_copy_27 hm (fun σ H locs B hm => ?_)
  refine lv_aload_n hx hb dX0_copy_30 rfl (lv_at hl 0 rfl) ?_
  refine lv_aload_n hx hb dX0_copy_31 rfl (lv_at hl 1 rfl) ?_
  refine x_getib (T := TX0) (N := 12) hx hb hT hown hK B xI_saved_rounds inlX0 rfl (by decide) q56 rfl dX0_copy_32 hm (fun x2 hm => ?_)
  refine x_puti (T := TX0) (N := 12) hx hb hT hown hK B xI_book_rounds inlX0 tyX0_ok nmX0 rfl (by decide) q56 rfl rfl rfl rfl rfl dX0_copy_35 hm (fun σ H locs B hm => ?_)
  refine lv_aload_n hx hb dX0_copy_38 rfl (lv_at hl 0 rfl) ?_
  refine lv_aload_n hx hb dX0_copy_39 rfl (lv_at hl 1 rfl) ?_
  refine x_getib (T := TX0) (N := 12) hx hb hT hown hK B xI_saved_open inlX0 rfl (by decide) q59 rfl dX0_copy_40 hm (fun x3 hm => ?_)
  obtain ⟨x4, hz, hm⟩ := Option.bind_eq_some_iff.mp hm
  obtain ⟨hz1, hz2, -⟩ := zb_all hz
  refine x_puti (T := TX0) (N := 12) hx hb hT hown hK B xI_book_open inlX0 tyX0_ok nmX0 rfl (by decide) q59 rfl rfl rfl hz1 hz2 dX0_copy_43 hm (fun σ H locs B hm => ?_)
  refine lv_aload_n hx hb dX0_copy_46 rfl (lv_at hl 0 rfl) ?_
  refine x_getv (T := TX0) (N := 12) hx hb hT hown hK B xV_book_boards inlX0 rfl (by decide) q60 rfl dX0_copy_47 ?_
  refine lv_aload_n hx hb dX0_copy_50 rfl (lv_at hl 1 rfl) ?_
  refine x_getv (T := TX0) (N := 12) hx hb hT hown hK B xV_saved_boards inlX0 rfl (by decide) q60 rfl dX0_copy_51 ?_
  refine x_callVv (rest := []) hx hb hml hT hown hK hA B hl.1 (c_X2_copy l D cI cZ xV_book_boards_cells xA_book_boards xV_saved_boards_cells xA_saved_boards) mi_X2_copy mv_X2_copy xO_book_boards rfl q750 ⟨rfl, rfl⟩ ⟨Nat.le_of_ble_eq_true rfl, Nat.le_of_ble_eq_true rfl⟩ rfl rfl (Nat.le_of_ble_eq_true rfl) dX0_copy_54 hm (fun σ H locs B hm => ?_)
  refine lv_aload_n hx hb dX0_copy_57 rfl (lv_at hl 0 rfl) ?_
  refine x_getv (T := TX0) (N := 12) hx hb hT hown hK B xV_book_byes inlX0 rfl (by decide) q63 rfl dX0_copy_58 ?_
  refine lv_aload_n hx hb dX0_copy_61 rfl (lv_at hl 1 rfl) ?_
  refine x_getv (T := TX0) (N := 12) hx hb hT hown hK B xV_saved_byes inlX0 rfl (by decide) q63 rfl dX0_copy_62 ?_
  refine x_callVv (rest := []) hx hb hml hT hown hK hA B hl.1 (c_X2_copy l D cI cZ xV_book_byes_cells xA_book_byes xV_saved_byes_cells xA_saved_byes) mi_X2_copy mv_X2_copy xO_book_byes rfl q750 ⟨rfl, rfl⟩ ⟨Nat.le_of_ble_eq_true rfl, Nat.le_of_ble_eq_true rfl⟩ rfl rfl (Nat.le_of_ble_eq_true rfl) dX0_copy_65 hm (fun σ H locs B hm => ?_)
  refine lv_aload_n hx hb dX0_copy_68 rfl (lv_at hl 0 rfl) ?_
  refine x_getv (T := TX0) (N := 12) hx hb hT hown hK B xV_book_whites inlX0 rfl (by decide) q66 rfl dX0_copy_69 ?_
  refine lv_aload_n hx hb dX0_copy_72 rfl (lv_at hl 1 rfl) ?_
  refine x_getv (T := TX0) (N := 12) hx hb hT hown hK B xV_saved_whites inlX0 rfl (by decide) q66 rfl dX0_copy_73 ?_
  refine x_callVv (rest := []) hx hb hml hT hown hK hA B hl.1 (c_X2_copy l D cI cZ xV_book_whites_cells xA_book_whites xV_saved_whites_cells xA_saved_whites) mi_X2_copy mv_X2_copy xO_book_whites rfl q750 ⟨rfl, rfl⟩ ⟨Nat.le_of_ble_eq_true rfl, Nat.le_of_ble_eq_true rfl⟩ rfl rfl (Nat.le_of_ble_eq_true rfl) dX0_copy_76 hm (fun σ H locs B hm => ?_)
  refine lv_aload_n hx hb dX0_copy_79 rfl (lv_at hl 0 rfl) ?_
  refine x_getv (T := TX0) (N := 12) hx hb hT hown hK B xV_book_blacks inlX0 rfl (by decide) q69 rfl dX0_copy_80 ?_
  refine lv_aload_n hx hb dX0_copy_83 rfl (lv_at hl 1 rfl) ?_
  refine x_getv (T := TX0) (N := 12) hx hb hT hown hK B xV_saved_blacks inlX0 rfl (by decide) q69 rfl dX0_copy_84 ?_
  refine x_callVv (rest := []) hx hb hml hT hown hK hA B hl.1 (c_X2_copy l D cI cZ xV_book_blacks_cells xA_book_blacks xV_saved_blacks_cells xA_saved_blacks) mi_X2_copy mv_X2_copy xO_book_blacks rfl q750 ⟨rfl, rfl⟩ ⟨Nat.le_of_ble_eq_true rfl, Nat.le_of_ble_eq_true rfl⟩ rfl rfl (Nat.le_of_ble_eq_true rfl) dX0_copy_87 hm (fun σ H locs B hm => ?_)
  refine lv_aload_n hx hb dX0_copy_90 rfl (lv_at hl 0 rfl) ?_
  refine x_getv (T := TX0) (N := 12) hx hb hT hown hK B xV_book_outcomes inlX0 rfl (by decide) q72 rfl dX0_copy_91 ?_
  refine lv_aload_n hx hb dX0_copy_94 rfl (lv_at hl 1 rfl) ?_
  refine x_getv (T := TX0) (N := 12) hx hb hT hown hK B xV_saved_outcomes inlX0 rfl (by decide) q72 rfl dX0_copy_95 ?_
  refine x_callVv (rest := []) hx hb hml hT hown hK hA B hl.1 (c_X2_copy l D cI cZ xV_book_outcomes_cells xA_book_outcomes xV_saved_outcomes_cells xA_saved_outcomes) mi_X2_copy mv_X2_copy xO_book_outcomes rfl q750 ⟨rfl, rfl⟩ ⟨Nat.le_of_ble_eq_true rfl, Nat.le_of_ble_eq_true rfl⟩ rfl rfl (Nat.le_of_ble_eq_true rfl) dX0_copy_98 hm (fun σ H locs B hm => ?_)
  refine lv_aload_n hx hb dX0_copy_101 rfl (lv_at hl 0 rfl) ?_
  refine lv_aload_n hx hb dX0_copy_102 rfl (lv_at hl 1 rfl) ?_
  refine x_getib (T := TX0) (N := 12) hx hb hT hown hK B xI_saved_breaks inlX0 rfl (by decide) q74 rfl dX0_copy_103 hm (fun x5 hm => ?_)
  refine x_puti (T := TX0) (N := 12) hx hb hT hown hK B xI_book_breaks inlX0 tyX0_ok nmX0 rfl (by decide) q74 rfl rfl rfl rfl rfl dX0_copy_106 hm (fun σ H locs B hm => ?_)
  refine lv_aload_n hx hb dX0_copy_109 rfl (lv_at hl 0 rfl) ?_
  refine x_getv (T := TX0) (N := 12) hx hb hT hown hK B xV_book_breakOrder inlX0 rfl (by decide) q77 rfl dX0_copy_110 ?_
  refine lv_aload_n hx hb dX0_copy_113 rfl (lv_at hl 1 rfl) ?_
  refine x_getv (T := TX0) (N := 12) hx hb hT hown hK B xV_saved_breakOrder inlX0 rfl (by decide) q77 rfl dX0_copy_114 ?_
  refine x_callVv (rest := []) hx hb hml hT hown hK hA B hl.1 (c_X2_copy l D cI cZ xV_book_breakOrder_cells xA_book_breakOrder xV_saved_breakOrder_cells xA_saved_breakOrder) mi_X2_copy mv_X2_copy xO_book_breakOrder rfl q750 ⟨rfl, rfl⟩ ⟨Nat.le_of_ble_eq_true rfl, Nat.le_of_ble_eq_true rfl⟩ rfl rfl (Nat.le_of_ble_eq_true rfl) dX0_copy_117 hm (fun σ H locs B hm => ?_)
  exact x_vret hx hb hr hlk hK B dX0_copy_120 hm
def f_X6_undo (σ : Mm) : Option (Int32 × Mm) :=
  (some (σ 40 0)).bind fun x1 =>
  if x1 = 0 then
    some ((-3 : Int32), σ)
  else
    (f_X0_copy_book σ).bind fun σ =>
    (f_X4_reckon σ).bind fun σ =>
    (some (σ 3 0)).bind fun x2 =>
    some (x2, σ)
set_option maxHeartbeats 4000000 in
set_option maxRecDepth 100000 in
theorem c_X6_undo (l : Launch) (D : va_G) (cI cZ : ClassId) (a : Nat → Nat) : CTi l D [(cI, FieldType.int), (cZ, FieldType.boolean)] (xW cI a) yX6_undo (.code yX6_undo cX6_undo 1 (some FieldType.int) :: wsL_law) ({ frames := 7, cells := 0, slots := 0, locals := 162 } : Room) [.ref (a 0)] (fun σ => f_X6_undo σ) := by
  refine CTi.of (by decide +kernel) (Nat.le_of_ble_eq_true rfl) ?_
  intro σ out hm p e s m below meth c A ls H locs hx hb hr hlk hml hT hown hK hA B hl
  have hown : s.vm.findClass RX6 = some m.cls := hown
  have hl : lv_has ls 1 [(0, .ref (a 0))] := hl
  have hm : f_X6_undo σ = some out := hm
  unfold f_X6_undo at hm
  refine lv_aload_n hx hb dX6_undo_0 rfl (lv_at hl 0 rfl) ?_
  refine x_getib (T := TX6) (N := 8) hx hb hT hown hK B xI_X_isSaved inlX6 rfl (by decide) q186 rfl dX6_undo_1 hm (fun x1 hm => ?_)
  refine lv_if_ne (tgt := 10) hx hb dX6_undo_4 (by decide) (fun q => ?_) (fun q => ?_)
  · have hm := iff hm q
    refine lv_aload_n hx hb dX6_undo_10 rfl (lv_at hl 0 rfl) ?_
    refine x_getv (T := TX6) (N := 8) hx hb hT hown hK B xV_X_book inlX6 rfl (by decide) q184 rfl dX6_undo_11 ?_
    refine lv_aload_n hx hb dX6_undo_14 rfl (lv_at hl 0 rfl) ?_
    refine x_getv (T := TX6) (N := 8) hx hb hT hown hK B xV_X_saved inlX6 rfl (by decide) q185 rfl dX6_undo_15 ?_
    refine x_callVv (rest := []) hx hb hml hT hown hK hA B hl.1 (c_X0_copy_book l D cI cZ a) mi_X0_copy mv_X0_copy xO_book rfl q746 ⟨rfl, rfl⟩ ⟨Nat.le_of_ble_eq_true rfl, Nat.le_of_ble_eq_true rfl⟩ rfl rfl (Nat.le_of_ble_eq_true rfl) dX6_undo_18 hm (fun σ H locs B hm => ?_)
    refine lv_aload_n hx hb dX6_undo_21 rfl (lv_at hl 0 rfl) ?_
    refine x_getv (T := TX6) (N := 8) hx hb hT hown hK B xV_X_table inlX6 rfl (by decide) q187 rfl dX6_undo_22 ?_
    refine x_callVv (rest := []) hx hb hml hT hown hK hA B hl.1 (c_X4_reckon l D cI cZ a) mi_X4_reckon mv_X4_reckon xO_table rfl q211 ⟨rfl, rfl⟩ ⟨Nat.le_of_ble_eq_true rfl, Nat.le_of_ble_eq_true rfl⟩ rfl rfl (Nat.le_of_ble_eq_true rfl) dX6_undo_25 hm (fun σ H locs B hm => ?_)
    refine lv_aload_n hx hb dX6_undo_28 rfl (lv_at hl 0 rfl) ?_
    refine x_getv (T := TX6) (N := 8) hx hb hT hown hK B xV_X_book inlX6 rfl (by decide) q184 rfl dX6_undo_29 ?_
    refine x_getibN (T := TX0) (N := 12) hx hb hT hown hK B xI_book_rounds inlX0 rfl (by decide) q57 rfl dX6_undo_32 hm (fun x2 hm => ?_)
    exact x_iret hx hb hr hlk hK B dX6_undo_35 hm
  · have hm := ift hm q
    refine lv_bipush (v := (-3 : Int32)) hx hb dX6_undo_7 (by decide) ?_
    exact x_iret hx hb hr hlk hK B dX6_undo_9 hm
def f_X5_byteAt_tape (σ : Mm) (w1 : Int32) : Option Int32 :=
  (f_X2_at 40 70 σ w1).bind fun x1 =>
  some x1
set_option maxHeartbeats 4000000 in
set_option maxRecDepth 100000 in
theorem c_X5_byteAt_tape (l : Launch) (D : va_G) (cI cZ : ClassId) (a : Nat → Nat) (w1 : Int32) : CTr l D [(cI, FieldType.int), (cZ, FieldType.boolean)] (xW cI a) yX5_byteAt (.code yX5_byteAt cX5_byteAt 2 (some FieldType.int) :: wsL_law) ({ frames := 1, cells := 0, slots := 0, locals := 21 } : Room) [.ref (a 63), .int w1] (fun σ => f_X5_byteAt_tape σ w1) := by
  refine CTr.of (by decide +kernel) (Nat.le_of_ble_eq_true rfl) ?_
  intro σ r hm p e s m below meth c A ls H locs hx hb hr hlk hml hT hown hK hA B hl
  have hown : s.vm.findClass RX5 = some m.cls := hown
  have hl : lv_has ls 2 [(0, .ref (a 63)), (1, .int w1)] := hl
  have hm : f_X5_byteAt_tape σ w1 = some r := hm
  unfold f_X5_byteAt_tape at hm
  refine lv_aload_n hx hb dX5_byteAt_0 rfl (lv_at hl 0 rfl) ?_
  refine x_getv (T := TX5) (N := 2) hx hb hT hown hK B xV_tape_bytes inlX5 rfl (by decide) q163 rfl dX5_byteAt_1 ?_
  refine lv_iload_n hx hb dX5_byteAt_4 rfl (lv_at hl 1 rfl) ?_
  refine x_callVr (rest := []) hx hb hml hT hown hK hA B hl.1 (c_X2_at l D cI cZ xV_tape_bytes_cells xA_tape_bytes w1) mi_X2_at mv_X2_at xO_tape_bytes rfl q564 ⟨rfl, rfl⟩ ⟨Nat.le_of_ble_eq_true rfl, Nat.le_of_ble_eq_true rfl⟩ rfl rfl (Nat.le_of_ble_eq_true rfl) dX5_byteAt_5 hm (fun x1 H locs B hm => ?_)
  exact x_iretr hx hb hr hlk hK B dX5_byteAt_8 hm
def f_X5_appendNumber_tape_j17 (σ : Mm) (v1 : Int32) : Option Mm :=
  (nz (10 : Int32) (v1 - v1 / (10 : Int32) * (10 : Int32))).bind fun x1 =>
  (f_X5_append_tape σ ((48 : Int32) + x1)).bind fun σ =>
  some σ
def f_X5_appendNumber_tape (σ : Mm) (w1 : Int32) : Option Mm :=
  if w1 < (10 : Int32) then
    f_X5_appendNumber_tape_j17 σ w1
  else
    (nz (10 : Int32) (w1 / (10 : Int32))).bind fun x2 =>
    (f_X5_append_tape σ ((48 : Int32) + x2)).bind fun σ =>
    f_X5_appendNumber_tape_j17 σ w1
set_option maxHeartbeats 4000000 in
set_option maxRecDepth 100000 in
theorem c_X5_appendNumber_tape (l : Launch) (D : va_G) (cI cZ : ClassId) (a : Nat → Nat) (w1 : Int32) : CTv l D [(cI, FieldType.int), (cZ, FieldType.boolean)] (xW cI a) yX5_appendNumber (.code yX5_appendNumber cX5_appendNumber 2 (none : Option FieldType) :: wsL_law) ({ frames := 2, cells := 0, slots := 0, locals := 43 } : Room) [.ref (a 63), .int w1] (fun σ => f_X5_appendNumber_tape σ w1) := by
  refine CTv.of (by decide +kernel) (Nat.le_of_ble_eq_true rfl) ?_
  intro σ out hm p e s m below meth c A ls H locs hx hb hr hlk hml hT hown hK hA B hl
  have hown : s.vm.findClass RX5 = some m.cls := hown
  have hl : lv_has ls 2 [(0, .ref (a 63)), (1, .int w1)] := hl
  have hm : f_X5_appendNumber_tape σ w1 = some out := hm
  unfold f_X5_appendNumber_tape at hm
  have j17 : ∀ (σ : Mm) (v1 : Int32) (H : Heap) (locs : List Loc) (ls : Array Slot), BD D A s.heap ((xW cI a) σ) H locs → lv_has ls 2 [(0, .ref (a 63)), (1, .int v1)] → f_X5_appendNumber_tape_j17 σ v1 = some out → W p l e ({ frames := 2, cells := 0, slots := 0, locals := 43 } : Room) s m ([.ref (a 63), .int w1] : List Value).toArray below meth c H locs 0 0 (MQ below (QV D [(cI, FieldType.int), (cZ, FieldType.boolean)] (xW cI a) A out) ([.ref (a 63), .int w1] : List Value).toArray s 0 0 A) (F0 m 17 ls []) := by
    intro σ v1 H locs ls B hl hm
    unfold f_X5_appendNumber_tape_j17 at hm
    refine lv_aload_n hx hb dX5_appendNumber_17 rfl (lv_at hl 0 rfl) ?_
    refine lv_bipush (v := (48 : Int32)) hx hb dX5_appendNumber_18 (by decide) ?_
    refine lv_iload_n hx hb dX5_appendNumber_20 rfl (lv_at hl 1 rfl) ?_
    refine lv_bipush (v := (10 : Int32)) hx hb dX5_appendNumber_21 (by decide) ?_
    refine x_irem hx hb dX5_appendNumber_23 hm (fun x1 hm => ?_)
    refine lv_iadd hx hb dX5_appendNumber_24 ?_
    refine x_callVv (rest := []) hx hb hml hT hown hK hA B hl.1 (c_X5_append_tape l D cI cZ a ((48 : Int32) + x1)) mi_X5_append mv_X5_append xO_tape rfl q665 ⟨rfl, rfl⟩ ⟨Nat.le_of_ble_eq_true rfl, Nat.le_of_ble_eq_true rfl⟩ rfl rfl (Nat.le_of_ble_eq_true rfl) dX5_appendNumber_25 hm (fun σ H locs B hm => ?_)
    exact x_vret hx hb hr hlk hK B dX5_appendNumber_28 hm
  refine lv_iload_n hx hb dX5_appendNumber_0 rfl (lv_at hl 1 rfl) ?_
  refine lv_bipush (v := (10 : Int32)) hx hb dX5_appendNumber_1 (by decide) ?_
  refine lv_icmp_lt (tgt := 17) hx hb dX5_appendNumber_3 (by decide) (fun q => ?_) (fun q => ?_)
  · have hm := ift hm q
    exact j17 σ w1 H locs ls B (lv_sub hl [0, 1] rfl) hm
  · have hm := iff hm q
    refine lv_aload_n hx hb dX5_appendNumber_6 rfl (lv_at hl 0 rfl) ?_
    refine lv_bipush (v := (48 : Int32)) hx hb dX5_appendNumber_7 (by decide) ?_
    refine lv_iload_n hx hb dX5_appendNumber_9 rfl (lv_at hl 1 rfl) ?_
    refine lv_bipush (v := (10 : Int32)) hx hb dX5_appendNumber_10 (by decide) ?_
    refine x_idiv hx hb dX5_appendNumber_12 hm (fun x2 hm => ?_)
    refine lv_iadd hx hb dX5_appendNumber_13 ?_
    refine x_callVv (rest := []) hx hb hml hT hown hK hA B hl.1 (c_X5_append_tape l D cI cZ a ((48 : Int32) + x2)) mi_X5_append mv_X5_append xO_tape rfl q665 ⟨rfl, rfl⟩ ⟨Nat.le_of_ble_eq_true rfl, Nat.le_of_ble_eq_true rfl⟩ rfl rfl (Nat.le_of_ble_eq_true rfl) dX5_appendNumber_14 hm (fun σ H locs B hm => ?_)
    exact j17 σ w1 H locs ls B (lv_sub hl [0, 1] rfl) hm
