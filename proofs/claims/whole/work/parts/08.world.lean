/-- the cells of a SwissRounds -/
def xW (cI : ClassId) (a : Nat → Nat) (σ : Mm) : va_W := [(a 0, .inr (6, [.ref (a 1), .ref (a 18), .int (σ 40 0), .ref (a 35), .ref (a 54), .ref (a 63), .ref (a 66), .ref (a 69)])),
  (a 1, .inr (0, [.int (σ 0 0), .ref (a 2), .ref (a 4), .int (σ 3 0), .int (σ 4 0), .ref (a 6), .ref (a 8), .ref (a 10), .ref (a 12), .ref (a 14), .int (σ 10 0), .ref (a 16)])),
  (a 2, .inr (2, [.ref (a 3)])),
  (a 3, .inl (cI, 12, .inl (σ 1))),
  (a 4, .inr (2, [.ref (a 5)])),
  (a 5, .inl (cI, 12, .inl (σ 2))),
  (a 6, .inr (2, [.ref (a 7)])),
  (a 7, .inl (cI, 20, .inl (σ 5))),
  (a 8, .inr (2, [.ref (a 9)])),
  (a 9, .inl (cI, 20, .inl (σ 6))),
  (a 10, .inr (2, [.ref (a 11)])),
  (a 11, .inl (cI, 120, .inl (σ 7))),
  (a 12, .inr (2, [.ref (a 13)])),
  (a 13, .inl (cI, 120, .inl (σ 8))),
  (a 14, .inr (2, [.ref (a 15)])),
  (a 15, .inl (cI, 120, .inl (σ 9))),
  (a 16, .inr (2, [.ref (a 17)])),
  (a 17, .inl (cI, 9, .inl (σ 11))),
  (a 18, .inr (0, [.int (σ 20 0), .ref (a 19), .ref (a 21), .int (σ 23 0), .int (σ 24 0), .ref (a 23), .ref (a 25), .ref (a 27), .ref (a 29), .ref (a 31), .int (σ 30 0), .ref (a 33)])),
  (a 19, .inr (2, [.ref (a 20)])),
  (a 20, .inl (cI, 12, .inl (σ 21))),
  (a 21, .inr (2, [.ref (a 22)])),
  (a 22, .inl (cI, 12, .inl (σ 22))),
  (a 23, .inr (2, [.ref (a 24)])),
  (a 24, .inl (cI, 20, .inl (σ 25))),
  (a 25, .inr (2, [.ref (a 26)])),
  (a 26, .inl (cI, 20, .inl (σ 26))),
  (a 27, .inr (2, [.ref (a 28)])),
  (a 28, .inl (cI, 120, .inl (σ 27))),
  (a 29, .inr (2, [.ref (a 30)])),
  (a 30, .inl (cI, 120, .inl (σ 28))),
  (a 31, .inr (2, [.ref (a 32)])),
  (a 32, .inl (cI, 120, .inl (σ 29))),
  (a 33, .inr (2, [.ref (a 34)])),
  (a 34, .inl (cI, 9, .inl (σ 31))),
  (a 35, .inr (4, [.ref (a 1), .ref (a 36), .ref (a 38), .ref (a 40), .ref (a 42), .ref (a 44), .ref (a 46), .ref (a 48), .ref (a 50), .ref (a 52)])),
  (a 36, .inr (2, [.ref (a 37)])),
  (a 37, .inl (cI, 108, .inl (σ 50))),
  (a 38, .inr (2, [.ref (a 39)])),
  (a 39, .inl (cI, 12, .inl (σ 51))),
  (a 40, .inr (2, [.ref (a 41)])),
  (a 41, .inl (cI, 12, .inl (σ 52))),
  (a 42, .inr (2, [.ref (a 43)])),
  (a 43, .inl (cI, 12, .inl (σ 53))),
  (a 44, .inr (2, [.ref (a 45)])),
  (a 45, .inl (cI, 12, .inl (σ 54))),
  (a 46, .inr (2, [.ref (a 47)])),
  (a 47, .inl (cI, 12, .inl (σ 55))),
  (a 48, .inr (2, [.ref (a 49)])),
  (a 49, .inl (cI, 144, .inl (σ 56))),
  (a 50, .inr (2, [.ref (a 51)])),
  (a 51, .inl (cI, 144, .inl (σ 57))),
  (a 52, .inr (2, [.ref (a 53)])),
  (a 53, .inl (cI, 12, .inl (σ 58))),
  (a 54, .inr (1, [.ref (a 1), .ref (a 35), .ref (a 55), .int (σ 61 0), .int (σ 62 0), .ref (a 57), .ref (a 59), .ref (a 61)])),
  (a 55, .inr (2, [.ref (a 56)])),
  (a 56, .inl (cI, 12, .inl (σ 60))),
  (a 57, .inr (2, [.ref (a 58)])),
  (a 58, .inl (cI, 144, .inl (σ 63))),
  (a 59, .inr (2, [.ref (a 60)])),
  (a 60, .inl (cI, 4096, .inl (σ 64))),
  (a 61, .inr (2, [.ref (a 62)])),
  (a 62, .inl (cI, 4096, .inl (σ 65))),
  (a 63, .inr (5, [.ref (a 64), .int (σ 71 0)])),
  (a 64, .inr (2, [.ref (a 65)])),
  (a 65, .inl (cI, 40, .inl (σ 70))),
  (a 66, .inr (5, [.ref (a 67), .int (σ 73 0)])),
  (a 67, .inr (2, [.ref (a 68)])),
  (a 68, .inl (cI, 96, .inl (σ 72))),
  (a 69, .inr (3, [.ref (a 70), .ref (a 72)])),
  (a 70, .inr (2, [.ref (a 71)])),
  (a 71, .inl (cI, 4, .inl (σ 74))),
  (a 72, .inr (2, [.ref (a 73)])),
  (a 73, .inl (cI, 80, .inl (σ 75)))]
def mKept (a : Nat → Nat) (v : Int32) : Value := if v = 0 then .null else .ref (a 20)
/-- the cells of a SwissRoundsModel -/
def mW (cI cZ : ClassId) (a : Nat → Nat) (σ : Mm) : va_W := [(a 0, .inr (7, [.int (σ 0 0), .ref (a 1), .ref (a 2), .int (σ 3 0), .int (σ 4 0), .ref (a 3), .ref (a 4), .ref (a 5), .ref (a 6), .ref (a 7), .int (σ 10 0), .ref (a 8), .int (σ 12 0), .ref (a 9), .ref (a 10), .int (σ 15 0), .ref (a 11), .int (σ 17 0), .ref (a 12), .ref (a 13), .ref (a 14), .ref (a 15), .int (σ 22 0), .ref (a 16), .int (σ 24 0), .ref (a 17), .ref (a 18), .ref (a 19), .int (σ 28 0), .ref (a 20), .int (σ 30 0), .int (σ 31 0), mKept a (σ 32 0)])),
  (a 1, .inl (cI, 12, .inl (σ 1))),
  (a 2, .inl (cI, 12, .inl (σ 2))),
  (a 3, .inl (cI, 20, .inl (σ 5))),
  (a 4, .inl (cI, 20, .inl (σ 6))),
  (a 5, .inl (cI, 120, .inl (σ 7))),
  (a 6, .inl (cI, 120, .inl (σ 8))),
  (a 7, .inl (cI, 120, .inl (σ 9))),
  (a 8, .inl (cI, 9, .inl (σ 11))),
  (a 9, .inl (cI, 108, .inl (σ 13))),
  (a 10, .inl (cI, 12, .inl (σ 14))),
  (a 11, .inl (cI, 12, .inl (σ 16))),
  (a 12, .inl (cI, 144, .inl (σ 18))),
  (a 13, .inl (cI, 4096, .inl (σ 19))),
  (a 14, .inl (cI, 4096, .inl (σ 20))),
  (a 15, .inl (cI, 40, .inl (σ 21))),
  (a 16, .inl (cI, 120, .inl (σ 23))),
  (a 17, .inl (cZ, 4, .inl (σ 25))),
  (a 18, .inl (cI, 4, .inl (σ 26))),
  (a 19, .inl (cI, 80, .inl (σ 27))),
  (a 20, .inl (cI, 460, .inl (σ 29)))]
theorem xV_X_book {cI : ClassId} {a : Nat → Nat} : IsV (xW cI a) 6 0 (a 0) 0 (.ref (a 1)) := fun _ => ⟨_, rfl, rfl⟩
theorem xV_X_saved {cI : ClassId} {a : Nat → Nat} : IsV (xW cI a) 6 0 (a 0) 1 (.ref (a 18)) := fun _ => ⟨_, rfl, rfl⟩
theorem xI_X_isSaved {cI : ClassId} {a : Nat → Nat} : IsI (xW cI a) 6 0 (a 0) 2 40 := fun _ => ⟨_, rfl, rfl, fun _ => rfl⟩
theorem xV_X_table {cI : ClassId} {a : Nat → Nat} : IsV (xW cI a) 6 0 (a 0) 3 (.ref (a 35)) := fun _ => ⟨_, rfl, rfl⟩
theorem xV_X_pairing {cI : ClassId} {a : Nat → Nat} : IsV (xW cI a) 6 0 (a 0) 4 (.ref (a 54)) := fun _ => ⟨_, rfl, rfl⟩
theorem xV_X_tape {cI : ClassId} {a : Nat → Nat} : IsV (xW cI a) 6 0 (a 0) 5 (.ref (a 63)) := fun _ => ⟨_, rfl, rfl⟩
theorem xV_X_sheet {cI : ClassId} {a : Nat → Nat} : IsV (xW cI a) 6 0 (a 0) 6 (.ref (a 66)) := fun _ => ⟨_, rfl, rfl⟩
theorem xV_X_shelf {cI : ClassId} {a : Nat → Nat} : IsV (xW cI a) 6 0 (a 0) 7 (.ref (a 69)) := fun _ => ⟨_, rfl, rfl⟩
theorem xO_X {cI : ClassId} {a : Nat → Nat} : IsO (xW cI a) 6 0 (a 0) := fun _ => ⟨_, rfl⟩
theorem xI_book_players {cI : ClassId} {a : Nat → Nat} : IsI (xW cI a) 0 1 (a 1) 0 0 := fun _ => ⟨_, rfl, rfl, fun _ => rfl⟩
theorem xV_book_ratings {cI : ClassId} {a : Nat → Nat} : IsV (xW cI a) 0 1 (a 1) 1 (.ref (a 2)) := fun _ => ⟨_, rfl, rfl⟩
theorem xV_book_inside {cI : ClassId} {a : Nat → Nat} : IsV (xW cI a) 0 1 (a 1) 2 (.ref (a 4)) := fun _ => ⟨_, rfl, rfl⟩
theorem xI_book_rounds {cI : ClassId} {a : Nat → Nat} : IsI (xW cI a) 0 1 (a 1) 3 3 := fun _ => ⟨_, rfl, rfl, fun _ => rfl⟩
theorem xI_book_open {cI : ClassId} {a : Nat → Nat} : IsI (xW cI a) 0 1 (a 1) 4 4 := fun _ => ⟨_, rfl, rfl, fun _ => rfl⟩
theorem xV_book_boards {cI : ClassId} {a : Nat → Nat} : IsV (xW cI a) 0 1 (a 1) 5 (.ref (a 6)) := fun _ => ⟨_, rfl, rfl⟩
theorem xV_book_byes {cI : ClassId} {a : Nat → Nat} : IsV (xW cI a) 0 1 (a 1) 6 (.ref (a 8)) := fun _ => ⟨_, rfl, rfl⟩
theorem xV_book_whites {cI : ClassId} {a : Nat → Nat} : IsV (xW cI a) 0 1 (a 1) 7 (.ref (a 10)) := fun _ => ⟨_, rfl, rfl⟩
theorem xV_book_blacks {cI : ClassId} {a : Nat → Nat} : IsV (xW cI a) 0 1 (a 1) 8 (.ref (a 12)) := fun _ => ⟨_, rfl, rfl⟩
theorem xV_book_outcomes {cI : ClassId} {a : Nat → Nat} : IsV (xW cI a) 0 1 (a 1) 9 (.ref (a 14)) := fun _ => ⟨_, rfl, rfl⟩
theorem xI_book_breaks {cI : ClassId} {a : Nat → Nat} : IsI (xW cI a) 0 1 (a 1) 10 10 := fun _ => ⟨_, rfl, rfl, fun _ => rfl⟩
theorem xV_book_breakOrder {cI : ClassId} {a : Nat → Nat} : IsV (xW cI a) 0 1 (a 1) 11 (.ref (a 16)) := fun _ => ⟨_, rfl, rfl⟩
theorem xO_book {cI : ClassId} {a : Nat → Nat} : IsO (xW cI a) 0 1 (a 1) := fun _ => ⟨_, rfl⟩
theorem xV_book_ratings_cells {cI : ClassId} {a : Nat → Nat} : IsV (xW cI a) 2 2 (a 2) 0 (.ref (a 3)) := fun _ => ⟨_, rfl, rfl⟩
theorem xO_book_ratings {cI : ClassId} {a : Nat → Nat} : IsO (xW cI a) 2 2 (a 2) := fun _ => ⟨_, rfl⟩
theorem xA_book_ratings {cI : ClassId} {a : Nat → Nat} : IsA (xW cI a) cI 1 12 3 (a 3) := ⟨fun _ => rfl, fun _ _ => rfl⟩
theorem xV_book_inside_cells {cI : ClassId} {a : Nat → Nat} : IsV (xW cI a) 2 4 (a 4) 0 (.ref (a 5)) := fun _ => ⟨_, rfl, rfl⟩
theorem xO_book_inside {cI : ClassId} {a : Nat → Nat} : IsO (xW cI a) 2 4 (a 4) := fun _ => ⟨_, rfl⟩
theorem xA_book_inside {cI : ClassId} {a : Nat → Nat} : IsA (xW cI a) cI 2 12 5 (a 5) := ⟨fun _ => rfl, fun _ _ => rfl⟩
theorem xV_book_boards_cells {cI : ClassId} {a : Nat → Nat} : IsV (xW cI a) 2 6 (a 6) 0 (.ref (a 7)) := fun _ => ⟨_, rfl, rfl⟩
theorem xO_book_boards {cI : ClassId} {a : Nat → Nat} : IsO (xW cI a) 2 6 (a 6) := fun _ => ⟨_, rfl⟩
theorem xA_book_boards {cI : ClassId} {a : Nat → Nat} : IsA (xW cI a) cI 5 20 7 (a 7) := ⟨fun _ => rfl, fun _ _ => rfl⟩
theorem xV_book_byes_cells {cI : ClassId} {a : Nat → Nat} : IsV (xW cI a) 2 8 (a 8) 0 (.ref (a 9)) := fun _ => ⟨_, rfl, rfl⟩
theorem xO_book_byes {cI : ClassId} {a : Nat → Nat} : IsO (xW cI a) 2 8 (a 8) := fun _ => ⟨_, rfl⟩
theorem xA_book_byes {cI : ClassId} {a : Nat → Nat} : IsA (xW cI a) cI 6 20 9 (a 9) := ⟨fun _ => rfl, fun _ _ => rfl⟩
theorem xV_book_whites_cells {cI : ClassId} {a : Nat → Nat} : IsV (xW cI a) 2 10 (a 10) 0 (.ref (a 11)) := fun _ => ⟨_, rfl, rfl⟩
theorem xO_book_whites {cI : ClassId} {a : Nat → Nat} : IsO (xW cI a) 2 10 (a 10) := fun _ => ⟨_, rfl⟩
theorem xA_book_whites {cI : ClassId} {a : Nat → Nat} : IsA (xW cI a) cI 7 120 11 (a 11) := ⟨fun _ => rfl, fun _ _ => rfl⟩
theorem xV_book_blacks_cells {cI : ClassId} {a : Nat → Nat} : IsV (xW cI a) 2 12 (a 12) 0 (.ref (a 13)) := fun _ => ⟨_, rfl, rfl⟩
theorem xO_book_blacks {cI : ClassId} {a : Nat → Nat} : IsO (xW cI a) 2 12 (a 12) := fun _ => ⟨_, rfl⟩
theorem xA_book_blacks {cI : ClassId} {a : Nat → Nat} : IsA (xW cI a) cI 8 120 13 (a 13) := ⟨fun _ => rfl, fun _ _ => rfl⟩
theorem xV_book_outcomes_cells {cI : ClassId} {a : Nat → Nat} : IsV (xW cI a) 2 14 (a 14) 0 (.ref (a 15)) := fun _ => ⟨_, rfl, rfl⟩
theorem xO_book_outcomes {cI : ClassId} {a : Nat → Nat} : IsO (xW cI a) 2 14 (a 14) := fun _ => ⟨_, rfl⟩
theorem xA_book_outcomes {cI : ClassId} {a : Nat → Nat} : IsA (xW cI a) cI 9 120 15 (a 15) := ⟨fun _ => rfl, fun _ _ => rfl⟩
theorem xV_book_breakOrder_cells {cI : ClassId} {a : Nat → Nat} : IsV (xW cI a) 2 16 (a 16) 0 (.ref (a 17)) := fun _ => ⟨_, rfl, rfl⟩
theorem xO_book_breakOrder {cI : ClassId} {a : Nat → Nat} : IsO (xW cI a) 2 16 (a 16) := fun _ => ⟨_, rfl⟩
theorem xA_book_breakOrder {cI : ClassId} {a : Nat → Nat} : IsA (xW cI a) cI 11 9 17 (a 17) := ⟨fun _ => rfl, fun _ _ => rfl⟩
theorem xI_saved_players {cI : ClassId} {a : Nat → Nat} : IsI (xW cI a) 0 18 (a 18) 0 20 := fun _ => ⟨_, rfl, rfl, fun _ => rfl⟩
theorem xV_saved_ratings {cI : ClassId} {a : Nat → Nat} : IsV (xW cI a) 0 18 (a 18) 1 (.ref (a 19)) := fun _ => ⟨_, rfl, rfl⟩
theorem xV_saved_inside {cI : ClassId} {a : Nat → Nat} : IsV (xW cI a) 0 18 (a 18) 2 (.ref (a 21)) := fun _ => ⟨_, rfl, rfl⟩
theorem xI_saved_rounds {cI : ClassId} {a : Nat → Nat} : IsI (xW cI a) 0 18 (a 18) 3 23 := fun _ => ⟨_, rfl, rfl, fun _ => rfl⟩
theorem xI_saved_open {cI : ClassId} {a : Nat → Nat} : IsI (xW cI a) 0 18 (a 18) 4 24 := fun _ => ⟨_, rfl, rfl, fun _ => rfl⟩
theorem xV_saved_boards {cI : ClassId} {a : Nat → Nat} : IsV (xW cI a) 0 18 (a 18) 5 (.ref (a 23)) := fun _ => ⟨_, rfl, rfl⟩
theorem xV_saved_byes {cI : ClassId} {a : Nat → Nat} : IsV (xW cI a) 0 18 (a 18) 6 (.ref (a 25)) := fun _ => ⟨_, rfl, rfl⟩
theorem xV_saved_whites {cI : ClassId} {a : Nat → Nat} : IsV (xW cI a) 0 18 (a 18) 7 (.ref (a 27)) := fun _ => ⟨_, rfl, rfl⟩
theorem xV_saved_blacks {cI : ClassId} {a : Nat → Nat} : IsV (xW cI a) 0 18 (a 18) 8 (.ref (a 29)) := fun _ => ⟨_, rfl, rfl⟩
theorem xV_saved_outcomes {cI : ClassId} {a : Nat → Nat} : IsV (xW cI a) 0 18 (a 18) 9 (.ref (a 31)) := fun _ => ⟨_, rfl, rfl⟩
theorem xI_saved_breaks {cI : ClassId} {a : Nat → Nat} : IsI (xW cI a) 0 18 (a 18) 10 30 := fun _ => ⟨_, rfl, rfl, fun _ => rfl⟩
theorem xV_saved_breakOrder {cI : ClassId} {a : Nat → Nat} : IsV (xW cI a) 0 18 (a 18) 11 (.ref (a 33)) := fun _ => ⟨_, rfl, rfl⟩
theorem xO_saved {cI : ClassId} {a : Nat → Nat} : IsO (xW cI a) 0 18 (a 18) := fun _ => ⟨_, rfl⟩
theorem xV_saved_ratings_cells {cI : ClassId} {a : Nat → Nat} : IsV (xW cI a) 2 19 (a 19) 0 (.ref (a 20)) := fun _ => ⟨_, rfl, rfl⟩
theorem xO_saved_ratings {cI : ClassId} {a : Nat → Nat} : IsO (xW cI a) 2 19 (a 19) := fun _ => ⟨_, rfl⟩
theorem xA_saved_ratings {cI : ClassId} {a : Nat → Nat} : IsA (xW cI a) cI 21 12 20 (a 20) := ⟨fun _ => rfl, fun _ _ => rfl⟩
theorem xV_saved_inside_cells {cI : ClassId} {a : Nat → Nat} : IsV (xW cI a) 2 21 (a 21) 0 (.ref (a 22)) := fun _ => ⟨_, rfl, rfl⟩
theorem xO_saved_inside {cI : ClassId} {a : Nat → Nat} : IsO (xW cI a) 2 21 (a 21) := fun _ => ⟨_, rfl⟩
theorem xA_saved_inside {cI : ClassId} {a : Nat → Nat} : IsA (xW cI a) cI 22 12 22 (a 22) := ⟨fun _ => rfl, fun _ _ => rfl⟩
theorem xV_saved_boards_cells {cI : ClassId} {a : Nat → Nat} : IsV (xW cI a) 2 23 (a 23) 0 (.ref (a 24)) := fun _ => ⟨_, rfl, rfl⟩
theorem xO_saved_boards {cI : ClassId} {a : Nat → Nat} : IsO (xW cI a) 2 23 (a 23) := fun _ => ⟨_, rfl⟩
theorem xA_saved_boards {cI : ClassId} {a : Nat → Nat} : IsA (xW cI a) cI 25 20 24 (a 24) := ⟨fun _ => rfl, fun _ _ => rfl⟩
theorem xV_saved_byes_cells {cI : ClassId} {a : Nat → Nat} : IsV (xW cI a) 2 25 (a 25) 0 (.ref (a 26)) := fun _ => ⟨_, rfl, rfl⟩
theorem xO_saved_byes {cI : ClassId} {a : Nat → Nat} : IsO (xW cI a) 2 25 (a 25) := fun _ => ⟨_, rfl⟩
theorem xA_saved_byes {cI : ClassId} {a : Nat → Nat} : IsA (xW cI a) cI 26 20 26 (a 26) := ⟨fun _ => rfl, fun _ _ => rfl⟩
theorem xV_saved_whites_cells {cI : ClassId} {a : Nat → Nat} : IsV (xW cI a) 2 27 (a 27) 0 (.ref (a 28)) := fun _ => ⟨_, rfl, rfl⟩
theorem xO_saved_whites {cI : ClassId} {a : Nat → Nat} : IsO (xW cI a) 2 27 (a 27) := fun _ => ⟨_, rfl⟩
theorem xA_saved_whites {cI : ClassId} {a : Nat → Nat} : IsA (xW cI a) cI 27 120 28 (a 28) := ⟨fun _ => rfl, fun _ _ => rfl⟩
theorem xV_saved_blacks_cells {cI : ClassId} {a : Nat → Nat} : IsV (xW cI a) 2 29 (a 29) 0 (.ref (a 30)) := fun _ => ⟨_, rfl, rfl⟩
theorem xO_saved_blacks {cI : ClassId} {a : Nat → Nat} : IsO (xW cI a) 2 29 (a 29) := fun _ => ⟨_, rfl⟩
theorem xA_saved_blacks {cI : ClassId} {a : Nat → Nat} : IsA (xW cI a) cI 28 120 30 (a 30) := ⟨fun _ => rfl, fun _ _ => rfl⟩
theorem xV_saved_outcomes_cells {cI : ClassId} {a : Nat → Nat} : IsV (xW cI a) 2 31 (a 31) 0 (.ref (a 32)) := fun _ => ⟨_, rfl, rfl⟩
theorem xO_saved_outcomes {cI : ClassId} {a : Nat → Nat} : IsO (xW cI a) 2 31 (a 31) := fun _ => ⟨_, rfl⟩
theorem xA_saved_outcomes {cI : ClassId} {a : Nat → Nat} : IsA (xW cI a) cI 29 120 32 (a 32) := ⟨fun _ => rfl, fun _ _ => rfl⟩
theorem xV_saved_breakOrder_cells {cI : ClassId} {a : Nat → Nat} : IsV (xW cI a) 2 33 (a 33) 0 (.ref (a 34)) := fun _ => ⟨_, rfl, rfl⟩
theorem xO_saved_breakOrder {cI : ClassId} {a : Nat → Nat} : IsO (xW cI a) 2 33 (a 33) := fun _ => ⟨_, rfl⟩
theorem xA_saved_breakOrder {cI : ClassId} {a : Nat → Nat} : IsA (xW cI a) cI 31 9 34 (a 34) := ⟨fun _ => rfl, fun _ _ => rfl⟩
theorem xV_table_book {cI : ClassId} {a : Nat → Nat} : IsV (xW cI a) 4 35 (a 35) 0 (.ref (a 1)) := fun _ => ⟨_, rfl, rfl⟩
theorem xV_table_ties {cI : ClassId} {a : Nat → Nat} : IsV (xW cI a) 4 35 (a 35) 1 (.ref (a 36)) := fun _ => ⟨_, rfl, rfl⟩
theorem xV_table_played {cI : ClassId} {a : Nat → Nat} : IsV (xW cI a) 4 35 (a 35) 2 (.ref (a 38)) := fun _ => ⟨_, rfl, rfl⟩
theorem xV_table_balances {cI : ClassId} {a : Nat → Nat} : IsV (xW cI a) 4 35 (a 35) 3 (.ref (a 40)) := fun _ => ⟨_, rfl, rfl⟩
theorem xV_table_latest {cI : ClassId} {a : Nat → Nat} : IsV (xW cI a) 4 35 (a 35) 4 (.ref (a 42)) := fun _ => ⟨_, rfl, rfl⟩
theorem xV_table_byes {cI : ClassId} {a : Nat → Nat} : IsV (xW cI a) 4 35 (a 35) 5 (.ref (a 44)) := fun _ => ⟨_, rfl, rfl⟩
theorem xV_table_forfeits {cI : ClassId} {a : Nat → Nat} : IsV (xW cI a) 4 35 (a 35) 6 (.ref (a 46)) := fun _ => ⟨_, rfl, rfl⟩
theorem xV_table_meetings {cI : ClassId} {a : Nat → Nat} : IsV (xW cI a) 4 35 (a 35) 7 (.ref (a 48)) := fun _ => ⟨_, rfl, rfl⟩
theorem xV_table_made {cI : ClassId} {a : Nat → Nat} : IsV (xW cI a) 4 35 (a 35) 8 (.ref (a 50)) := fun _ => ⟨_, rfl, rfl⟩
theorem xV_table_standing {cI : ClassId} {a : Nat → Nat} : IsV (xW cI a) 4 35 (a 35) 9 (.ref (a 52)) := fun _ => ⟨_, rfl, rfl⟩
theorem xO_table {cI : ClassId} {a : Nat → Nat} : IsO (xW cI a) 4 35 (a 35) := fun _ => ⟨_, rfl⟩
theorem xV_table_ties_cells {cI : ClassId} {a : Nat → Nat} : IsV (xW cI a) 2 36 (a 36) 0 (.ref (a 37)) := fun _ => ⟨_, rfl, rfl⟩
theorem xO_table_ties {cI : ClassId} {a : Nat → Nat} : IsO (xW cI a) 2 36 (a 36) := fun _ => ⟨_, rfl⟩
theorem xA_table_ties {cI : ClassId} {a : Nat → Nat} : IsA (xW cI a) cI 50 108 37 (a 37) := ⟨fun _ => rfl, fun _ _ => rfl⟩
theorem xV_table_played_cells {cI : ClassId} {a : Nat → Nat} : IsV (xW cI a) 2 38 (a 38) 0 (.ref (a 39)) := fun _ => ⟨_, rfl, rfl⟩
theorem xO_table_played {cI : ClassId} {a : Nat → Nat} : IsO (xW cI a) 2 38 (a 38) := fun _ => ⟨_, rfl⟩
theorem xA_table_played {cI : ClassId} {a : Nat → Nat} : IsA (xW cI a) cI 51 12 39 (a 39) := ⟨fun _ => rfl, fun _ _ => rfl⟩
theorem xV_table_balances_cells {cI : ClassId} {a : Nat → Nat} : IsV (xW cI a) 2 40 (a 40) 0 (.ref (a 41)) := fun _ => ⟨_, rfl, rfl⟩
theorem xO_table_balances {cI : ClassId} {a : Nat → Nat} : IsO (xW cI a) 2 40 (a 40) := fun _ => ⟨_, rfl⟩
theorem xA_table_balances {cI : ClassId} {a : Nat → Nat} : IsA (xW cI a) cI 52 12 41 (a 41) := ⟨fun _ => rfl, fun _ _ => rfl⟩
theorem xV_table_latest_cells {cI : ClassId} {a : Nat → Nat} : IsV (xW cI a) 2 42 (a 42) 0 (.ref (a 43)) := fun _ => ⟨_, rfl, rfl⟩
theorem xO_table_latest {cI : ClassId} {a : Nat → Nat} : IsO (xW cI a) 2 42 (a 42) := fun _ => ⟨_, rfl⟩
theorem xA_table_latest {cI : ClassId} {a : Nat → Nat} : IsA (xW cI a) cI 53 12 43 (a 43) := ⟨fun _ => rfl, fun _ _ => rfl⟩
theorem xV_table_byes_cells {cI : ClassId} {a : Nat → Nat} : IsV (xW cI a) 2 44 (a 44) 0 (.ref (a 45)) := fun _ => ⟨_, rfl, rfl⟩
theorem xO_table_byes {cI : ClassId} {a : Nat → Nat} : IsO (xW cI a) 2 44 (a 44) := fun _ => ⟨_, rfl⟩
theorem xA_table_byes {cI : ClassId} {a : Nat → Nat} : IsA (xW cI a) cI 54 12 45 (a 45) := ⟨fun _ => rfl, fun _ _ => rfl⟩
theorem xV_table_forfeits_cells {cI : ClassId} {a : Nat → Nat} : IsV (xW cI a) 2 46 (a 46) 0 (.ref (a 47)) := fun _ => ⟨_, rfl, rfl⟩
theorem xO_table_forfeits {cI : ClassId} {a : Nat → Nat} : IsO (xW cI a) 2 46 (a 46) := fun _ => ⟨_, rfl⟩
theorem xA_table_forfeits {cI : ClassId} {a : Nat → Nat} : IsA (xW cI a) cI 55 12 47 (a 47) := ⟨fun _ => rfl, fun _ _ => rfl⟩
theorem xV_table_meetings_cells {cI : ClassId} {a : Nat → Nat} : IsV (xW cI a) 2 48 (a 48) 0 (.ref (a 49)) := fun _ => ⟨_, rfl, rfl⟩
theorem xO_table_meetings {cI : ClassId} {a : Nat → Nat} : IsO (xW cI a) 2 48 (a 48) := fun _ => ⟨_, rfl⟩
theorem xA_table_meetings {cI : ClassId} {a : Nat → Nat} : IsA (xW cI a) cI 56 144 49 (a 49) := ⟨fun _ => rfl, fun _ _ => rfl⟩
theorem xV_table_made_cells {cI : ClassId} {a : Nat → Nat} : IsV (xW cI a) 2 50 (a 50) 0 (.ref (a 51)) := fun _ => ⟨_, rfl, rfl⟩
theorem xO_table_made {cI : ClassId} {a : Nat → Nat} : IsO (xW cI a) 2 50 (a 50) := fun _ => ⟨_, rfl⟩
theorem xA_table_made {cI : ClassId} {a : Nat → Nat} : IsA (xW cI a) cI 57 144 51 (a 51) := ⟨fun _ => rfl, fun _ _ => rfl⟩
theorem xV_table_standing_cells {cI : ClassId} {a : Nat → Nat} : IsV (xW cI a) 2 52 (a 52) 0 (.ref (a 53)) := fun _ => ⟨_, rfl, rfl⟩
theorem xO_table_standing {cI : ClassId} {a : Nat → Nat} : IsO (xW cI a) 2 52 (a 52) := fun _ => ⟨_, rfl⟩
theorem xA_table_standing {cI : ClassId} {a : Nat → Nat} : IsA (xW cI a) cI 58 12 53 (a 53) := ⟨fun _ => rfl, fun _ _ => rfl⟩
theorem xV_pairing_book {cI : ClassId} {a : Nat → Nat} : IsV (xW cI a) 1 54 (a 54) 0 (.ref (a 1)) := fun _ => ⟨_, rfl, rfl⟩
theorem xV_pairing_table {cI : ClassId} {a : Nat → Nat} : IsV (xW cI a) 1 54 (a 54) 1 (.ref (a 35)) := fun _ => ⟨_, rfl, rfl⟩
theorem xV_pairing_seats {cI : ClassId} {a : Nat → Nat} : IsV (xW cI a) 1 54 (a 54) 2 (.ref (a 55)) := fun _ => ⟨_, rfl, rfl⟩
theorem xI_pairing_count {cI : ClassId} {a : Nat → Nat} : IsI (xW cI a) 1 54 (a 54) 3 61 := fun _ => ⟨_, rfl, rfl, fun _ => rfl⟩
theorem xI_pairing_resting {cI : ClassId} {a : Nat → Nat} : IsI (xW cI a) 1 54 (a 54) 4 62 := fun _ => ⟨_, rfl, rfl, fun _ => rfl⟩
theorem xV_pairing_costs {cI : ClassId} {a : Nat → Nat} : IsV (xW cI a) 1 54 (a 54) 5 (.ref (a 57)) := fun _ => ⟨_, rfl, rfl⟩
theorem xV_pairing_sums {cI : ClassId} {a : Nat → Nat} : IsV (xW cI a) 1 54 (a 54) 6 (.ref (a 59)) := fun _ => ⟨_, rfl, rfl⟩
theorem xV_pairing_numbers {cI : ClassId} {a : Nat → Nat} : IsV (xW cI a) 1 54 (a 54) 7 (.ref (a 61)) := fun _ => ⟨_, rfl, rfl⟩
theorem xO_pairing {cI : ClassId} {a : Nat → Nat} : IsO (xW cI a) 1 54 (a 54) := fun _ => ⟨_, rfl⟩
theorem xV_pairing_seats_cells {cI : ClassId} {a : Nat → Nat} : IsV (xW cI a) 2 55 (a 55) 0 (.ref (a 56)) := fun _ => ⟨_, rfl, rfl⟩
theorem xO_pairing_seats {cI : ClassId} {a : Nat → Nat} : IsO (xW cI a) 2 55 (a 55) := fun _ => ⟨_, rfl⟩
theorem xA_pairing_seats {cI : ClassId} {a : Nat → Nat} : IsA (xW cI a) cI 60 12 56 (a 56) := ⟨fun _ => rfl, fun _ _ => rfl⟩
theorem xV_pairing_costs_cells {cI : ClassId} {a : Nat → Nat} : IsV (xW cI a) 2 57 (a 57) 0 (.ref (a 58)) := fun _ => ⟨_, rfl, rfl⟩
theorem xO_pairing_costs {cI : ClassId} {a : Nat → Nat} : IsO (xW cI a) 2 57 (a 57) := fun _ => ⟨_, rfl⟩
theorem xA_pairing_costs {cI : ClassId} {a : Nat → Nat} : IsA (xW cI a) cI 63 144 58 (a 58) := ⟨fun _ => rfl, fun _ _ => rfl⟩
theorem xV_pairing_sums_cells {cI : ClassId} {a : Nat → Nat} : IsV (xW cI a) 2 59 (a 59) 0 (.ref (a 60)) := fun _ => ⟨_, rfl, rfl⟩
theorem xO_pairing_sums {cI : ClassId} {a : Nat → Nat} : IsO (xW cI a) 2 59 (a 59) := fun _ => ⟨_, rfl⟩
theorem xA_pairing_sums {cI : ClassId} {a : Nat → Nat} : IsA (xW cI a) cI 64 4096 60 (a 60) := ⟨fun _ => rfl, fun _ _ => rfl⟩
theorem xV_pairing_numbers_cells {cI : ClassId} {a : Nat → Nat} : IsV (xW cI a) 2 61 (a 61) 0 (.ref (a 62)) := fun _ => ⟨_, rfl, rfl⟩
theorem xO_pairing_numbers {cI : ClassId} {a : Nat → Nat} : IsO (xW cI a) 2 61 (a 61) := fun _ => ⟨_, rfl⟩
theorem xA_pairing_numbers {cI : ClassId} {a : Nat → Nat} : IsA (xW cI a) cI 65 4096 62 (a 62) := ⟨fun _ => rfl, fun _ _ => rfl⟩
theorem xV_tape_bytes {cI : ClassId} {a : Nat → Nat} : IsV (xW cI a) 5 63 (a 63) 0 (.ref (a 64)) := fun _ => ⟨_, rfl, rfl⟩
theorem xI_tape_length {cI : ClassId} {a : Nat → Nat} : IsI (xW cI a) 5 63 (a 63) 1 71 := fun _ => ⟨_, rfl, rfl, fun _ => rfl⟩
theorem xO_tape {cI : ClassId} {a : Nat → Nat} : IsO (xW cI a) 5 63 (a 63) := fun _ => ⟨_, rfl⟩
theorem xV_tape_bytes_cells {cI : ClassId} {a : Nat → Nat} : IsV (xW cI a) 2 64 (a 64) 0 (.ref (a 65)) := fun _ => ⟨_, rfl, rfl⟩
theorem xO_tape_bytes {cI : ClassId} {a : Nat → Nat} : IsO (xW cI a) 2 64 (a 64) := fun _ => ⟨_, rfl⟩
theorem xA_tape_bytes {cI : ClassId} {a : Nat → Nat} : IsA (xW cI a) cI 70 40 65 (a 65) := ⟨fun _ => rfl, fun _ _ => rfl⟩
theorem xV_sheet_bytes {cI : ClassId} {a : Nat → Nat} : IsV (xW cI a) 5 66 (a 66) 0 (.ref (a 67)) := fun _ => ⟨_, rfl, rfl⟩
theorem xI_sheet_length {cI : ClassId} {a : Nat → Nat} : IsI (xW cI a) 5 66 (a 66) 1 73 := fun _ => ⟨_, rfl, rfl, fun _ => rfl⟩
theorem xO_sheet {cI : ClassId} {a : Nat → Nat} : IsO (xW cI a) 5 66 (a 66) := fun _ => ⟨_, rfl⟩
theorem xV_sheet_bytes_cells {cI : ClassId} {a : Nat → Nat} : IsV (xW cI a) 2 67 (a 67) 0 (.ref (a 68)) := fun _ => ⟨_, rfl, rfl⟩
theorem xO_sheet_bytes {cI : ClassId} {a : Nat → Nat} : IsO (xW cI a) 2 67 (a 67) := fun _ => ⟨_, rfl⟩
theorem xA_sheet_bytes {cI : ClassId} {a : Nat → Nat} : IsA (xW cI a) cI 72 96 68 (a 68) := ⟨fun _ => rfl, fun _ _ => rfl⟩
theorem xV_shelf_sizes {cI : ClassId} {a : Nat → Nat} : IsV (xW cI a) 3 69 (a 69) 0 (.ref (a 70)) := fun _ => ⟨_, rfl, rfl⟩
theorem xV_shelf_cells {cI : ClassId} {a : Nat → Nat} : IsV (xW cI a) 3 69 (a 69) 1 (.ref (a 72)) := fun _ => ⟨_, rfl, rfl⟩
theorem xO_shelf {cI : ClassId} {a : Nat → Nat} : IsO (xW cI a) 3 69 (a 69) := fun _ => ⟨_, rfl⟩
theorem xV_shelf_sizes_cells {cI : ClassId} {a : Nat → Nat} : IsV (xW cI a) 2 70 (a 70) 0 (.ref (a 71)) := fun _ => ⟨_, rfl, rfl⟩
theorem xO_shelf_sizes {cI : ClassId} {a : Nat → Nat} : IsO (xW cI a) 2 70 (a 70) := fun _ => ⟨_, rfl⟩
theorem xA_shelf_sizes {cI : ClassId} {a : Nat → Nat} : IsA (xW cI a) cI 74 4 71 (a 71) := ⟨fun _ => rfl, fun _ _ => rfl⟩
theorem xV_shelf_cells_cells {cI : ClassId} {a : Nat → Nat} : IsV (xW cI a) 2 72 (a 72) 0 (.ref (a 73)) := fun _ => ⟨_, rfl, rfl⟩
theorem xO_shelf_cells {cI : ClassId} {a : Nat → Nat} : IsO (xW cI a) 2 72 (a 72) := fun _ => ⟨_, rfl⟩
theorem xA_shelf_cells {cI : ClassId} {a : Nat → Nat} : IsA (xW cI a) cI 75 80 73 (a 73) := ⟨fun _ => rfl, fun _ _ => rfl⟩
theorem mI_players {cI cZ : ClassId} {a : Nat → Nat} : IsI (mW cI cZ a) 7 0 (a 0) 0 0 := fun _ => ⟨_, rfl, rfl, fun _ => rfl⟩
theorem mV_ratings {cI cZ : ClassId} {a : Nat → Nat} : IsV (mW cI cZ a) 7 0 (a 0) 1 (.ref (a 1)) := fun _ => ⟨_, rfl, rfl⟩
theorem mA_ratings {cI cZ : ClassId} {a : Nat → Nat} : IsA (mW cI cZ a) cI 1 12 1 (a 1) := ⟨fun _ => rfl, fun _ _ => rfl⟩
theorem mV_isIn {cI cZ : ClassId} {a : Nat → Nat} : IsV (mW cI cZ a) 7 0 (a 0) 2 (.ref (a 2)) := fun _ => ⟨_, rfl, rfl⟩
theorem mA_isIn {cI cZ : ClassId} {a : Nat → Nat} : IsA (mW cI cZ a) cI 2 12 2 (a 2) := ⟨fun _ => rfl, fun _ _ => rfl⟩
theorem mI_rounds {cI cZ : ClassId} {a : Nat → Nat} : IsI (mW cI cZ a) 7 0 (a 0) 3 3 := fun _ => ⟨_, rfl, rfl, fun _ => rfl⟩
theorem mI_isOpen {cI cZ : ClassId} {a : Nat → Nat} : IsI (mW cI cZ a) 7 0 (a 0) 4 4 := fun _ => ⟨_, rfl, rfl, fun _ => rfl⟩
theorem mV_boardMany {cI cZ : ClassId} {a : Nat → Nat} : IsV (mW cI cZ a) 7 0 (a 0) 5 (.ref (a 3)) := fun _ => ⟨_, rfl, rfl⟩
theorem mA_boardMany {cI cZ : ClassId} {a : Nat → Nat} : IsA (mW cI cZ a) cI 5 20 3 (a 3) := ⟨fun _ => rfl, fun _ _ => rfl⟩
theorem mV_byes {cI cZ : ClassId} {a : Nat → Nat} : IsV (mW cI cZ a) 7 0 (a 0) 6 (.ref (a 4)) := fun _ => ⟨_, rfl, rfl⟩
theorem mA_byes {cI cZ : ClassId} {a : Nat → Nat} : IsA (mW cI cZ a) cI 6 20 4 (a 4) := ⟨fun _ => rfl, fun _ _ => rfl⟩
theorem mV_whites {cI cZ : ClassId} {a : Nat → Nat} : IsV (mW cI cZ a) 7 0 (a 0) 7 (.ref (a 5)) := fun _ => ⟨_, rfl, rfl⟩
theorem mA_whites {cI cZ : ClassId} {a : Nat → Nat} : IsA (mW cI cZ a) cI 7 120 5 (a 5) := ⟨fun _ => rfl, fun _ _ => rfl⟩
theorem mV_blacks {cI cZ : ClassId} {a : Nat → Nat} : IsV (mW cI cZ a) 7 0 (a 0) 8 (.ref (a 6)) := fun _ => ⟨_, rfl, rfl⟩
theorem mA_blacks {cI cZ : ClassId} {a : Nat → Nat} : IsA (mW cI cZ a) cI 8 120 6 (a 6) := ⟨fun _ => rfl, fun _ _ => rfl⟩
theorem mV_results0 {cI cZ : ClassId} {a : Nat → Nat} : IsV (mW cI cZ a) 7 0 (a 0) 9 (.ref (a 7)) := fun _ => ⟨_, rfl, rfl⟩
theorem mA_results0 {cI cZ : ClassId} {a : Nat → Nat} : IsA (mW cI cZ a) cI 9 120 7 (a 7) := ⟨fun _ => rfl, fun _ _ => rfl⟩
theorem mI_tieMany {cI cZ : ClassId} {a : Nat → Nat} : IsI (mW cI cZ a) 7 0 (a 0) 10 10 := fun _ => ⟨_, rfl, rfl, fun _ => rfl⟩
theorem mV_ties {cI cZ : ClassId} {a : Nat → Nat} : IsV (mW cI cZ a) 7 0 (a 0) 11 (.ref (a 8)) := fun _ => ⟨_, rfl, rfl⟩
theorem mA_ties {cI cZ : ClassId} {a : Nat → Nat} : IsA (mW cI cZ a) cI 11 9 8 (a 8) := ⟨fun _ => rfl, fun _ _ => rfl⟩
theorem mI_thrown {cI cZ : ClassId} {a : Nat → Nat} : IsI (mW cI cZ a) 7 0 (a 0) 12 12 := fun _ => ⟨_, rfl, rfl, fun _ => rfl⟩
theorem mV_tiesOf {cI cZ : ClassId} {a : Nat → Nat} : IsV (mW cI cZ a) 7 0 (a 0) 13 (.ref (a 9)) := fun _ => ⟨_, rfl, rfl⟩
theorem mA_tiesOf {cI cZ : ClassId} {a : Nat → Nat} : IsA (mW cI cZ a) cI 13 108 9 (a 9) := ⟨fun _ => rfl, fun _ _ => rfl⟩
theorem mV_standing {cI cZ : ClassId} {a : Nat → Nat} : IsV (mW cI cZ a) 7 0 (a 0) 14 (.ref (a 10)) := fun _ => ⟨_, rfl, rfl⟩
theorem mA_standing {cI cZ : ClassId} {a : Nat → Nat} : IsA (mW cI cZ a) cI 14 12 10 (a 10) := ⟨fun _ => rfl, fun _ _ => rfl⟩
theorem mI_paired {cI cZ : ClassId} {a : Nat → Nat} : IsI (mW cI cZ a) 7 0 (a 0) 15 15 := fun _ => ⟨_, rfl, rfl, fun _ => rfl⟩
theorem mV_atPlace {cI cZ : ClassId} {a : Nat → Nat} : IsV (mW cI cZ a) 7 0 (a 0) 16 (.ref (a 11)) := fun _ => ⟨_, rfl, rfl⟩
theorem mA_atPlace {cI cZ : ClassId} {a : Nat → Nat} : IsA (mW cI cZ a) cI 16 12 11 (a 11) := ⟨fun _ => rfl, fun _ _ => rfl⟩
theorem mI_byeNow {cI cZ : ClassId} {a : Nat → Nat} : IsI (mW cI cZ a) 7 0 (a 0) 17 17 := fun _ => ⟨_, rfl, rfl, fun _ => rfl⟩
theorem mV_costs {cI cZ : ClassId} {a : Nat → Nat} : IsV (mW cI cZ a) 7 0 (a 0) 18 (.ref (a 12)) := fun _ => ⟨_, rfl, rfl⟩
theorem mA_costs {cI cZ : ClassId} {a : Nat → Nat} : IsA (mW cI cZ a) cI 18 144 12 (a 12) := ⟨fun _ => rfl, fun _ _ => rfl⟩
theorem mV_bests {cI cZ : ClassId} {a : Nat → Nat} : IsV (mW cI cZ a) 7 0 (a 0) 19 (.ref (a 13)) := fun _ => ⟨_, rfl, rfl⟩
theorem mA_bests {cI cZ : ClassId} {a : Nat → Nat} : IsA (mW cI cZ a) cI 19 4096 13 (a 13) := ⟨fun _ => rfl, fun _ _ => rfl⟩
theorem mV_manyWays {cI cZ : ClassId} {a : Nat → Nat} : IsV (mW cI cZ a) 7 0 (a 0) 20 (.ref (a 14)) := fun _ => ⟨_, rfl, rfl⟩
theorem mA_manyWays {cI cZ : ClassId} {a : Nat → Nat} : IsA (mW cI cZ a) cI 20 4096 14 (a 14) := ⟨fun _ => rfl, fun _ _ => rfl⟩
theorem mV_tape {cI cZ : ClassId} {a : Nat → Nat} : IsV (mW cI cZ a) 7 0 (a 0) 21 (.ref (a 15)) := fun _ => ⟨_, rfl, rfl⟩
theorem mA_tape {cI cZ : ClassId} {a : Nat → Nat} : IsA (mW cI cZ a) cI 21 40 15 (a 15) := ⟨fun _ => rfl, fun _ _ => rfl⟩
theorem mI_size {cI cZ : ClassId} {a : Nat → Nat} : IsI (mW cI cZ a) 7 0 (a 0) 22 22 := fun _ => ⟨_, rfl, rfl, fun _ => rfl⟩
theorem mV_paper0 {cI cZ : ClassId} {a : Nat → Nat} : IsV (mW cI cZ a) 7 0 (a 0) 23 (.ref (a 16)) := fun _ => ⟨_, rfl, rfl⟩
theorem mA_paper0 {cI cZ : ClassId} {a : Nat → Nat} : IsA (mW cI cZ a) cI 23 120 16 (a 16) := ⟨fun _ => rfl, fun _ _ => rfl⟩
theorem mI_paperSize {cI cZ : ClassId} {a : Nat → Nat} : IsI (mW cI cZ a) 7 0 (a 0) 24 24 := fun _ => ⟨_, rfl, rfl, fun _ => rfl⟩
theorem mV_holdsList {cI cZ : ClassId} {a : Nat → Nat} : IsV (mW cI cZ a) 7 0 (a 0) 25 (.ref (a 17)) := fun _ => ⟨_, rfl, rfl⟩
theorem mA_holdsList {cI cZ : ClassId} {a : Nat → Nat} : IsA (mW cI cZ a) cZ 25 4 17 (a 17) := ⟨fun _ => rfl, fun _ _ => rfl⟩
theorem mV_listMany {cI cZ : ClassId} {a : Nat → Nat} : IsV (mW cI cZ a) 7 0 (a 0) 26 (.ref (a 18)) := fun _ => ⟨_, rfl, rfl⟩
theorem mA_listMany {cI cZ : ClassId} {a : Nat → Nat} : IsA (mW cI cZ a) cI 26 4 18 (a 18) := ⟨fun _ => rfl, fun _ _ => rfl⟩
theorem mV_listed {cI cZ : ClassId} {a : Nat → Nat} : IsV (mW cI cZ a) 7 0 (a 0) 27 (.ref (a 19)) := fun _ => ⟨_, rfl, rfl⟩
theorem mA_listed {cI cZ : ClassId} {a : Nat → Nat} : IsA (mW cI cZ a) cI 27 80 19 (a 19) := ⟨fun _ => rfl, fun _ _ => rfl⟩
theorem mI_hasImage {cI cZ : ClassId} {a : Nat → Nat} : IsI (mW cI cZ a) 7 0 (a 0) 28 28 := fun _ => ⟨_, rfl, rfl, fun _ => rfl⟩
theorem mV_imaged {cI cZ : ClassId} {a : Nat → Nat} : IsV (mW cI cZ a) 7 0 (a 0) 29 (.ref (a 20)) := fun _ => ⟨_, rfl, rfl⟩
theorem mA_imaged {cI cZ : ClassId} {a : Nat → Nat} : IsA (mW cI cZ a) cI 29 460 20 (a 20) := ⟨fun _ => rfl, fun _ _ => rfl⟩
theorem mI_place0 {cI cZ : ClassId} {a : Nat → Nat} : IsI (mW cI cZ a) 7 0 (a 0) 30 30 := fun _ => ⟨_, rfl, rfl, fun _ => rfl⟩
theorem mI_isTaking {cI cZ : ClassId} {a : Nat → Nat} : IsI (mW cI cZ a) 7 0 (a 0) 31 31 := fun _ => ⟨_, rfl, rfl, fun _ => rfl⟩
theorem mO_M {cI cZ : ClassId} {a : Nat → Nat} : IsO (mW cI cZ a) 7 0 (a 0) := fun _ => ⟨_, rfl⟩
section XK
variable {p : Program} {l : Launch} {e : Env} {R : Room} {s : State} {m : MethodId} {args : Array Value} {below : List Frame} {meth : Method} {c : Code} {H : Heap} {locs : List Loc} {Q : State → Prop}
variable {cc : ByteArray} {pc : Nat} {ls : Array Slot} {rest : List Value} {D : va_G} {A : Nat → Prop} {a : Nat → Nat} {cI cZ : ClassId} {tys : List (ClassId × FieldType)} {H0 : Heap} {σ : Mm} {α : Type} {out : α}
theorem x_getk {own ref : String} {T : u_T} {index : Nat} {body : Option α} (hx : p.tables.exec = Jvm.exec) (hb : c.code = cc) (hT : ∀ w ∈ wsL_law, w.before args s = true) (hown : s.vm.findClass own = some m.cls) (hK : va_K D vwCl tys s) (B : BD D A H0 (mW cI cZ a σ) H locs)
    (hin : ∀ w ∈ u_ws RX7 T 33, w ∈ wsL_law) (hc : vwCl[7]? = some (RX7, T, 33)) (hk : 32 < 33) (hlk : Cond.fieldLink own index ref (T 32).2.1 (T 32).2.2.1 ∈ wsL_law) (hr : ref = (T 32).1) (hdg : decode cc pc = .ok (.getfield index, 3)) (hm : (if σ 32 0 = 0 then none else body) = some out)
    (kk : body = some out → W p l e R s m args below meth c H locs 0 0 Q (F0 m (pc + 3) ls (.ref (a 20) :: rest))) : W p l e R s m args below meth c H locs 0 0 Q (F0 m pc ls (.ref (a 0) :: rest)) := by
  subst hr
  by_cases q : σ 32 0 = 0
  · rw [if_pos q] at hm; exact no_none hm
  · rw [if_neg q] at hm
    exact va_get hx hb hT hin hown hK B.1 0 rfl hc 32 hk (hT _ hlk) (fun _ h9 => h9) (v := .ref (a 20)) (show some (mKept a (σ 32 0)) = some (.ref (a 20)) by rw [mKept, if_neg q]) hdg (kk hm)
theorem x_putk {own ref : String} {T : u_T} {index : Nat} {ty0 : Nat → FieldType} {body : Mm → Option α} (hx : p.tables.exec = Jvm.exec) (hb : c.code = cc) (hT : ∀ w ∈ wsL_law, w.before args s = true) (hown : s.vm.findClass own = some m.cls) (hK : va_K D vwCl tys s) (B : BD D A H0 (mW cI cZ a σ) H locs)
    (hin : ∀ w ∈ u_ws RX7 T 33, w ∈ wsL_law) (hty : ∀ k, k < 33 → parseFieldDescriptor (T k).2.2.1 = some (ty0 k)) (hnm : ∀ a, a < 33 → ∀ b, b < 33 → a ≠ b → (T a).2.1 ≠ (T b).2.1) (hc : vwCl[7]? = some (RX7, T, 33)) (hk : 32 < 33) (hlk : Cond.fieldLink own index ref (T 32).2.1 (T 32).2.2.1 ∈ wsL_law) (hr : ref = (T 32).1) (hfin : (T 32).2.2.2 = false) (hf : ty0 32 = .array .int) (hdg : decode cc pc = .ok (.putfield index, 3)) (hm : (some (sc σ 32 1)).bind body = some out)
    (kk : ∀ (σ1 : Mm) (H1 : Heap) (locs1 : List Loc), BD D A H0 (mW cI cZ a σ1) H1 locs1 → body σ1 = some out → W p l e R s m args below meth c H1 locs1 0 0 Q (F0 m (pc + 3) ls rest)) : W p l e R s m args below meth c H locs 0 0 Q (F0 m pc ls (.ref (a 20) :: .ref (a 0) :: rest)) := by
  subst hr
  refine va_put hx hb hT hin ty0 hty hnm hown hK B.1 B.2.1 B.2.2 0 rfl hc 32 hk (hT _ hlk) (fun _ h9 => h9) hfin (hty 32 hk) (by rw [hf]; rfl) (by rw [hf]; rfl) (Nat.le_of_ble_eq_true rfl) hdg (fun H1 locs1 hP hD hS => ?_)
  have e : ∀ σ : Mm, (mW cI cZ a σ).set 0 (a 0, .inr (7, ([.int (σ 0 0), .ref (a 1), .ref (a 2), .int (σ 3 0), .int (σ 4 0), .ref (a 3), .ref (a 4), .ref (a 5), .ref (a 6), .ref (a 7), .int (σ 10 0), .ref (a 8), .int (σ 12 0), .ref (a 9), .ref (a 10), .int (σ 15 0), .ref (a 11), .int (σ 17 0), .ref (a 12), .ref (a 13), .ref (a 14), .ref (a 15), .int (σ 22 0), .ref (a 16), .int (σ 24 0), .ref (a 17), .ref (a 18), .ref (a 19), .int (σ 28 0), .ref (a 20), .int (σ 30 0), .int (σ 31 0), mKept a (σ 32 0)]).set 32 (.ref (a 20)))) = mW cI cZ a (sc σ 32 1) := fun _ => rfl
  exact kk _ H1 locs1 ⟨(e σ) ▸ hP, (e σ) ▸ hD, hS⟩ hm
end XK
theorem mi_X0_init : MI yX0_init cX0_init 1 (none : Option FieldType) 0 := ⟨⟨by decide +kernel, by decide +kernel, by decide +kernel⟩, q2, q28⟩
theorem mi_X0_copy : MI yX0_copy cX0_copy 2 (none : Option FieldType) 1 := ⟨⟨by decide +kernel, by decide +kernel, by decide +kernel⟩, q2, q749⟩
theorem mv_X0_copy : MV yX0_copy := ⟨q747, q748⟩
theorem mi_X0_enter : MI yX0_enter cX0_enter 3 (some FieldType.int) 1 := ⟨⟨by decide +kernel, by decide +kernel, by decide +kernel⟩, q2, q210⟩
theorem mv_X0_enter : MV yX0_enter := ⟨q208, q209⟩
theorem mi_X0_countInside : MI yX0_countInside cX0_countInside 3 (some FieldType.int) 0 := ⟨⟨by decide +kernel, by decide +kernel, by decide +kernel⟩, q2, q322⟩
theorem mv_X0_countInside : MV yX0_countInside := ⟨q320, q321⟩
theorem mi_X0_countDone : MI yX0_countDone cX0_countDone 1 (some FieldType.int) 0 := ⟨⟨by decide +kernel, by decide +kernel, by decide +kernel⟩, q2, q222⟩
theorem mv_X0_countDone : MV yX0_countDone := ⟨q220, q221⟩
theorem mi_X0_boardCell : MI yX0_boardCell cX0_boardCell 2 (some FieldType.int) 2 := ⟨⟨by decide +kernel, by decide +kernel, by decide +kernel⟩, q2, q232⟩
theorem mi_X0_countOutcomes : MI yX0_countOutcomes cX0_countOutcomes 4 (some FieldType.int) 1 := ⟨⟨by decide +kernel, by decide +kernel, by decide +kernel⟩, q2, q505⟩
theorem mv_X0_countOutcomes : MV yX0_countOutcomes := ⟨q503, q504⟩
theorem mi_X0_startRound : MI yX0_startRound cX0_startRound 2 (none : Option FieldType) 1 := ⟨⟨by decide +kernel, by decide +kernel, by decide +kernel⟩, q2, q455⟩
theorem mv_X0_startRound : MV yX0_startRound := ⟨q453, q454⟩
theorem mi_X0_addBoard : MI yX0_addBoard cX0_addBoard 5 (none : Option FieldType) 2 := ⟨⟨by decide +kernel, by decide +kernel, by decide +kernel⟩, q2, q468⟩
theorem mv_X0_addBoard : MV yX0_addBoard := ⟨q466, q467⟩
theorem mi_X0_boardWith : MI yX0_boardWith cX0_boardWith 5 (some FieldType.int) 2 := ⟨⟨by decide +kernel, by decide +kernel, by decide +kernel⟩, q2, q517⟩
theorem mv_X0_boardWith : MV yX0_boardWith := ⟨q515, q516⟩
theorem mi_X0_colourAt : MI yX0_colourAt cX0_colourAt 4 (some FieldType.int) 3 := ⟨⟨by decide +kernel, by decide +kernel, by decide +kernel⟩, q2, q245⟩
theorem mv_X0_colourAt : MV yX0_colourAt := ⟨q243, q244⟩
theorem mi_X0_otherAt : MI yX0_otherAt cX0_otherAt 5 (some FieldType.int) 3 := ⟨⟨by decide +kernel, by decide +kernel, by decide +kernel⟩, q2, q269⟩
theorem mv_X0_otherAt : MV yX0_otherAt := ⟨q267, q268⟩
theorem mi_X0_outcomeFor : MI yX0_outcomeFor cX0_outcomeFor 5 (some FieldType.int) 3 := ⟨⟨by decide +kernel, by decide +kernel, by decide +kernel⟩, q2, q239⟩
theorem mv_X0_outcomeFor : MV yX0_outcomeFor := ⟨q237, q238⟩
theorem mi_X1_init : MI yX1_init cX1_init 3 (none : Option FieldType) 2 := ⟨⟨by decide +kernel, by decide +kernel, by decide +kernel⟩, q6, q135⟩
theorem mi_X1_arrange : MI yX1_arrange cX1_arrange 3 (none : Option FieldType) 0 := ⟨⟨by decide +kernel, by decide +kernel, by decide +kernel⟩, q6, q403⟩
theorem mv_X1_arrange : MV yX1_arrange := ⟨q401, q402⟩
theorem mi_X1_leastCost : MI yX1_leastCost cX1_leastCost 1 (some FieldType.int) 0 := ⟨⟨by decide +kernel, by decide +kernel, by decide +kernel⟩, q6, q447⟩
theorem mv_X1_leastCost : MV yX1_leastCost := ⟨q445, q446⟩
theorem mi_X1_countWays : MI yX1_countWays cX1_countWays 1 (some FieldType.int) 0 := ⟨⟨by decide +kernel, by decide +kernel, by decide +kernel⟩, q6, q481⟩
theorem mv_X1_countWays : MV yX1_countWays := ⟨q479, q480⟩
theorem mi_X1_openRound : MI yX1_openRound cX1_openRound 5 (none : Option FieldType) 0 := ⟨⟨by decide +kernel, by decide +kernel, by decide +kernel⟩, q6, q451⟩
theorem mv_X1_openRound : MV yX1_openRound := ⟨q449, q450⟩
theorem mi_X1_wholeSet : MI yX1_wholeSet cX1_wholeSet 1 (some FieldType.int) 0 := ⟨⟨by decide +kernel, by decide +kernel, by decide +kernel⟩, q6, q421⟩
theorem mv_X1_wholeSet : MV yX1_wholeSet := ⟨q420, q1166⟩
theorem mi_X1_firstSeat : MI yX1_firstSeat cX1_firstSeat 1 (some FieldType.int) 1 := ⟨⟨by decide +kernel, by decide +kernel, by decide +kernel⟩, q6, q433⟩
theorem mi_X1_without : MI yX1_without cX1_without 3 (some FieldType.int) 3 := ⟨⟨by decide +kernel, by decide +kernel, by decide +kernel⟩, q6, q442⟩
theorem mi_X1_seatAll : MI yX1_seatAll cX1_seatAll 3 (none : Option FieldType) 0 := ⟨⟨by decide +kernel, by decide +kernel, by decide +kernel⟩, q6, q406⟩
theorem mv_X1_seatAll : MV yX1_seatAll := ⟨q405, q1162⟩
theorem mi_X1_giveBye : MI yX1_giveBye cX1_giveBye 3 (none : Option FieldType) 0 := ⟨⟨by decide +kernel, by decide +kernel, by decide +kernel⟩, q6, q411⟩
theorem mv_X1_giveBye : MV yX1_giveBye := ⟨q410, q1163⟩
theorem mi_X1_seatOfBye : MI yX1_seatOfBye cX1_seatOfBye 3 (some FieldType.int) 0 := ⟨⟨by decide +kernel, by decide +kernel, by decide +kernel⟩, q6, q414⟩
theorem mv_X1_seatOfBye : MV yX1_seatOfBye := ⟨q413, q1164⟩
theorem mi_X1_noteCosts : MI yX1_noteCosts cX1_noteCosts 3 (none : Option FieldType) 0 := ⟨⟨by decide +kernel, by decide +kernel, by decide +kernel⟩, q6, q417⟩
theorem mv_X1_noteCosts : MV yX1_noteCosts := ⟨q416, q1165⟩
theorem mi_X1_isReached : MI yX1_isReached cX1_isReached 3 (some FieldType.boolean) 1 := ⟨⟨by decide +kernel, by decide +kernel, by decide +kernel⟩, q6, q424⟩
theorem mv_X1_isReached : MV yX1_isReached := ⟨q423, q1167⟩
theorem mi_X1_weigh : MI yX1_weigh cX1_weigh 7 (none : Option FieldType) 1 := ⟨⟨by decide +kernel, by decide +kernel, by decide +kernel⟩, q6, q436⟩
theorem mv_X1_weigh : MV yX1_weigh := ⟨q435, q1168⟩
theorem mi_X1_sumWith : MI yX1_sumWith cX1_sumWith 6 (some FieldType.int) 3 := ⟨⟨by decide +kernel, by decide +kernel, by decide +kernel⟩, q6, q439⟩
theorem mv_X1_sumWith : MV yX1_sumWith := ⟨q438, q1169⟩
theorem mi_X1_earliestMate : MI yX1_earliestMate cX1_earliestMate 5 (some FieldType.int) 1 := ⟨⟨by decide +kernel, by decide +kernel, by decide +kernel⟩, q6, q458⟩
theorem mv_X1_earliestMate : MV yX1_earliestMate := ⟨q457, q1170⟩
theorem mi_X1_seatBoard : MI yX1_seatBoard cX1_seatBoard 4 (none : Option FieldType) 3 := ⟨⟨by decide +kernel, by decide +kernel, by decide +kernel⟩, q6, q461⟩
theorem mv_X1_seatBoard : MV yX1_seatBoard := ⟨q460, q1171⟩
theorem mi_X1_hasWhite : MI yX1_hasWhite cX1_hasWhite 8 (some FieldType.boolean) 3 := ⟨⟨by decide +kernel, by decide +kernel, by decide +kernel⟩, q6, q464⟩
theorem mv_X1_hasWhite : MV yX1_hasWhite := ⟨q463, q1172⟩
theorem mi_X2_init : MI yX2_init cX2_init 2 (none : Option FieldType) 1 := ⟨⟨by decide +kernel, by decide +kernel, by decide +kernel⟩, q3, q34⟩
theorem mi_X2_at : MI yX2_at cX2_at 2 (some FieldType.int) 1 := ⟨⟨by decide +kernel, by decide +kernel, by decide +kernel⟩, q3, q229⟩
theorem mv_X2_at : MV yX2_at := ⟨q227, q228⟩
theorem mi_X2_put : MI yX2_put cX2_put 3 (none : Option FieldType) 2 := ⟨⟨by decide +kernel, by decide +kernel, by decide +kernel⟩, q3, q45⟩
theorem mv_X2_put : MV yX2_put := ⟨q43, q44⟩
theorem mi_X2_add : MI yX2_add cX2_add 3 (none : Option FieldType) 2 := ⟨⟨by decide +kernel, by decide +kernel, by decide +kernel⟩, q3, q258⟩
theorem mv_X2_add : MV yX2_add := ⟨q256, q257⟩
theorem mi_X2_fill : MI yX2_fill cX2_fill 3 (none : Option FieldType) 1 := ⟨⟨by decide +kernel, by decide +kernel, by decide +kernel⟩, q3, q179⟩
theorem mv_X2_fill : MV yX2_fill := ⟨q177, q178⟩
theorem mi_X2_copy : MI yX2_copy cX2_copy 3 (none : Option FieldType) 1 := ⟨⟨by decide +kernel, by decide +kernel, by decide +kernel⟩, q3, q753⟩
theorem mv_X2_copy : MV yX2_copy := ⟨q751, q752⟩
theorem mi_X3_init : MI yX3_init cX3_init 1 (none : Option FieldType) 0 := ⟨⟨by decide +kernel, by decide +kernel, by decide +kernel⟩, q8, q172⟩
theorem mi_X3_isList : MI yX3_isList cX3_isList 1 (some FieldType.boolean) 1 := ⟨⟨by decide +kernel, by decide +kernel, by decide +kernel⟩, q8, q698⟩
theorem mi_X3_isHeld : MI yX3_isHeld cX3_isHeld 2 (some FieldType.boolean) 1 := ⟨⟨by decide +kernel, by decide +kernel, by decide +kernel⟩, q8, q718⟩
theorem mv_X3_isHeld : MV yX3_isHeld := ⟨q716, q717⟩
theorem mi_X3_hasPlace : MI yX3_hasPlace cX3_hasPlace 3 (some FieldType.boolean) 2 := ⟨⟨by decide +kernel, by decide +kernel, by decide +kernel⟩, q8, q723⟩
theorem mv_X3_hasPlace : MV yX3_hasPlace := ⟨q721, q722⟩
theorem mi_X3_hold : MI yX3_hold cX3_hold 4 (none : Option FieldType) 2 := ⟨⟨by decide +kernel, by decide +kernel, by decide +kernel⟩, q8, q702⟩
theorem mv_X3_hold : MV yX3_hold := ⟨q700, q701⟩
theorem mi_X3_valueAt : MI yX3_valueAt cX3_valueAt 3 (some FieldType.int) 2 := ⟨⟨by decide +kernel, by decide +kernel, by decide +kernel⟩, q8, q733⟩
theorem mv_X3_valueAt : MV yX3_valueAt := ⟨q731, q732⟩
theorem mi_X3_putAt : MI yX3_putAt cX3_putAt 4 (none : Option FieldType) 3 := ⟨⟨by decide +kernel, by decide +kernel, by decide +kernel⟩, q8, q707⟩
theorem mv_X3_putAt : MV yX3_putAt := ⟨q705, q706⟩
theorem mi_X4_init : MI yX4_init cX4_init 2 (none : Option FieldType) 1 := ⟨⟨by decide +kernel, by decide +kernel, by decide +kernel⟩, q5, q96⟩
theorem mi_X4_tieOf : MI yX4_tieOf cX4_tieOf 3 (some FieldType.int) 2 := ⟨⟨by decide +kernel, by decide +kernel, by decide +kernel⟩, q5, q277⟩
theorem mv_X4_tieOf : MV yX4_tieOf := ⟨q275, q276⟩
theorem mi_X4_addTie : MI yX4_addTie cX4_addTie 4 (none : Option FieldType) 3 := ⟨⟨by decide +kernel, by decide +kernel, by decide +kernel⟩, q5, q254⟩
theorem mv_X4_addTie : MV yX4_addTie := ⟨q253, q1154⟩
theorem mi_X4_twoCell : MI yX4_twoCell cX4_twoCell 2 (some FieldType.int) 2 := ⟨⟨by decide +kernel, by decide +kernel, by decide +kernel⟩, q5, q272⟩
theorem mi_X4_meetingOf : MI yX4_meetingOf cX4_meetingOf 3 (some FieldType.int) 2 := ⟨⟨by decide +kernel, by decide +kernel, by decide +kernel⟩, q5, q288⟩
theorem mv_X4_meetingOf : MV yX4_meetingOf := ⟨q286, q287⟩
theorem mi_X4_haveMet : MI yX4_haveMet cX4_haveMet 3 (some FieldType.boolean) 2 := ⟨⟨by decide +kernel, by decide +kernel, by decide +kernel⟩, q5, q284⟩
theorem mv_X4_haveMet : MV yX4_haveMet := ⟨q282, q283⟩
theorem mi_X4_madeAgainst : MI yX4_madeAgainst cX4_madeAgainst 3 (some FieldType.int) 2 := ⟨⟨by decide +kernel, by decide +kernel, by decide +kernel⟩, q5, q292⟩
theorem mv_X4_madeAgainst : MV yX4_madeAgainst := ⟨q290, q291⟩
theorem mi_X4_reckon : MI yX4_reckon cX4_reckon 2 (none : Option FieldType) 0 := ⟨⟨by decide +kernel, by decide +kernel, by decide +kernel⟩, q5, q214⟩
theorem mv_X4_reckon : MV yX4_reckon := ⟨q212, q213⟩
theorem mi_X4_wipe : MI yX4_wipe cX4_wipe 1 (none : Option FieldType) 0 := ⟨⟨by decide +kernel, by decide +kernel, by decide +kernel⟩, q5, q217⟩
theorem mv_X4_wipe : MV yX4_wipe := ⟨q216, q1151⟩
theorem mi_X4_countRound : MI yX4_countRound cX4_countRound 4 (none : Option FieldType) 1 := ⟨⟨by decide +kernel, by decide +kernel, by decide +kernel⟩, q5, q225⟩
theorem mv_X4_countRound : MV yX4_countRound := ⟨q224, q1152⟩
theorem mi_X4_countSide : MI yX4_countSide cX4_countSide 5 (none : Option FieldType) 3 := ⟨⟨by decide +kernel, by decide +kernel, by decide +kernel⟩, q5, q235⟩
theorem mv_X4_countSide : MV yX4_countSide := ⟨q234, q1153⟩
theorem mi_X4_countPlayed : MI yX4_countPlayed cX4_countPlayed 7 (none : Option FieldType) 3 := ⟨⟨by decide +kernel, by decide +kernel, by decide +kernel⟩, q5, q264⟩
theorem mv_X4_countPlayed : MV yX4_countPlayed := ⟨q263, q1155⟩
theorem mi_X4_compareWithOpponents : MI yX4_compareWithOpponents cX4_compareWithOpponents 7 (none : Option FieldType) 1 := ⟨⟨by decide +kernel, by decide +kernel, by decide +kernel⟩, q5, q280⟩
theorem mv_X4_compareWithOpponents : MV yX4_compareWithOpponents := ⟨q279, q1156⟩
theorem mi_X4_stand : MI yX4_stand cX4_stand 3 (none : Option FieldType) 0 := ⟨⟨by decide +kernel, by decide +kernel, by decide +kernel⟩, q5, q299⟩
theorem mv_X4_stand : MV yX4_stand := ⟨q298, q1157⟩
theorem mi_X4_isAhead : MI yX4_isAhead cX4_isAhead 4 (some FieldType.boolean) 2 := ⟨⟨by decide +kernel, by decide +kernel, by decide +kernel⟩, q5, q302⟩
theorem mv_X4_isAhead : MV yX4_isAhead := ⟨q301, q1158⟩
theorem mi_X4_firstDifference : MI yX4_firstDifference cX4_firstDifference 5 (some FieldType.int) 2 := ⟨⟨by decide +kernel, by decide +kernel, by decide +kernel⟩, q5, q306⟩
theorem mv_X4_firstDifference : MV yX4_firstDifference := ⟨q304, q305⟩
theorem mi_X4_placeOf : MI yX4_placeOf cX4_placeOf 3 (some FieldType.int) 1 := ⟨⟨by decide +kernel, by decide +kernel, by decide +kernel⟩, q5, q351⟩
theorem mv_X4_placeOf : MV yX4_placeOf := ⟨q349, q350⟩
theorem mi_X4_countMet : MI yX4_countMet cX4_countMet 4 (some FieldType.int) 1 := ⟨⟨by decide +kernel, by decide +kernel, by decide +kernel⟩, q5, q339⟩
theorem mv_X4_countMet : MV yX4_countMet := ⟨q337, q338⟩
theorem mi_X4_countMeetings : MI yX4_countMeetings cX4_countMeetings 3 (some FieldType.int) 0 := ⟨⟨by decide +kernel, by decide +kernel, by decide +kernel⟩, q5, q686⟩
theorem mv_X4_countMeetings : MV yX4_countMeetings := ⟨q684, q685⟩
theorem mi_X4_sumPoints : MI yX4_sumPoints cX4_sumPoints 3 (some FieldType.int) 0 := ⟨⟨by decide +kernel, by decide +kernel, by decide +kernel⟩, q5, q691⟩
theorem mv_X4_sumPoints : MV yX4_sumPoints := ⟨q689, q690⟩
theorem mi_X4_sumRatings : MI yX4_sumRatings cX4_sumRatings 4 (some FieldType.int) 1 := ⟨⟨by decide +kernel, by decide +kernel, by decide +kernel⟩, q5, q533⟩
theorem mv_X4_sumRatings : MV yX4_sumRatings := ⟨q531, q532⟩
theorem mi_X4_costOf : MI yX4_costOf cX4_costOf 4 (some FieldType.int) 2 := ⟨⟨by decide +kernel, by decide +kernel, by decide +kernel⟩, q5, q387⟩
theorem mv_X4_costOf : MV yX4_costOf := ⟨q385, q386⟩
theorem mi_X5_init : MI yX5_init cX5_init 2 (none : Option FieldType) 1 := ⟨⟨by decide +kernel, by decide +kernel, by decide +kernel⟩, q7, q159⟩
theorem mi_X5_byteAt : MI yX5_byteAt cX5_byteAt 2 (some FieldType.int) 1 := ⟨⟨by decide +kernel, by decide +kernel, by decide +kernel⟩, q7, q563⟩
theorem mv_X5_byteAt : MV yX5_byteAt := ⟨q561, q562⟩
theorem mi_X5_append : MI yX5_append cX5_append 2 (none : Option FieldType) 1 := ⟨⟨by decide +kernel, by decide +kernel, by decide +kernel⟩, q7, q544⟩
theorem mv_X5_append : MV yX5_append := ⟨q542, q543⟩
theorem mi_X5_appendNumber : MI yX5_appendNumber cX5_appendNumber 2 (none : Option FieldType) 1 := ⟨⟨by decide +kernel, by decide +kernel, by decide +kernel⟩, q7, q664⟩
theorem mv_X5_appendNumber : MV yX5_appendNumber := ⟨q662, q663⟩
theorem mi_X6_init : MI yX6_init cX6_init 1 (none : Option FieldType) 0 := ⟨⟨by decide +kernel, by decide +kernel, by decide +kernel⟩, q1, q20⟩
theorem mi_X6_join : MI yX6_join cX6_join 3 (some FieldType.int) 1 := ⟨⟨by decide +kernel, by decide +kernel, by decide +kernel⟩, q1, q203⟩
theorem mv_X6_join : MV yX6_join := ⟨q201, q202⟩
theorem mi_X6_leave : MI yX6_leave cX6_leave 2 (some FieldType.int) 1 := ⟨⟨by decide +kernel, by decide +kernel, by decide +kernel⟩, q1, q310⟩
theorem mv_X6_leave : MV yX6_leave := ⟨q308, q309⟩
theorem mi_X6_back : MI yX6_back cX6_back 2 (some FieldType.int) 1 := ⟨⟨by decide +kernel, by decide +kernel, by decide +kernel⟩, q1, q326⟩
theorem mv_X6_back : MV yX6_back := ⟨q324, q325⟩
theorem mi_X6_move : MI yX6_move cX6_move 3 (some FieldType.int) 2 := ⟨⟨by decide +kernel, by decide +kernel, by decide +kernel⟩, q1, q313⟩
theorem mv_X6_move : MV yX6_move := ⟨q312, q1159⟩
theorem mi_X6_rate : MI yX6_rate cX6_rate 4 (some FieldType.int) 2 := ⟨⟨by decide +kernel, by decide +kernel, by decide +kernel⟩, q1, q330⟩
theorem mv_X6_rate : MV yX6_rate := ⟨q328, q329⟩
theorem mi_X6_of : MI yX6_of cX6_of 3 (some FieldType.int) 2 := ⟨⟨by decide +kernel, by decide +kernel, by decide +kernel⟩, q1, q334⟩
theorem mv_X6_of : MV yX6_of := ⟨q332, q333⟩
theorem mi_X6_tie : MI yX6_tie cX6_tie 3 (some FieldType.int) 2 := ⟨⟨by decide +kernel, by decide +kernel, by decide +kernel⟩, q1, q343⟩
theorem mv_X6_tie : MV yX6_tie := ⟨q341, q342⟩
theorem mi_X6_rank : MI yX6_rank cX6_rank 2 (some FieldType.int) 1 := ⟨⟨by decide +kernel, by decide +kernel, by decide +kernel⟩, q1, q347⟩
theorem mv_X6_rank : MV yX6_rank := ⟨q345, q346⟩
theorem mi_X6_nth : MI yX6_nth cX6_nth 2 (some FieldType.int) 1 := ⟨⟨by decide +kernel, by decide +kernel, by decide +kernel⟩, q1, q355⟩
theorem mv_X6_nth : MV yX6_nth := ⟨q353, q354⟩
theorem mi_X6_explain : MI yX6_explain cX6_explain 5 (some FieldType.int) 3 := ⟨⟨by decide +kernel, by decide +kernel, by decide +kernel⟩, q1, q359⟩
theorem mv_X6_explain : MV yX6_explain := ⟨q357, q358⟩
theorem mi_X6_alike : MI yX6_alike cX6_alike 5 (some FieldType.int) 1 := ⟨⟨by decide +kernel, by decide +kernel, by decide +kernel⟩, q1, q367⟩
theorem mv_X6_alike : MV yX6_alike := ⟨q365, q366⟩
theorem mi_X6_colours : MI yX6_colours cX6_colours 4 (some FieldType.int) 1 := ⟨⟨by decide +kernel, by decide +kernel, by decide +kernel⟩, q1, q371⟩
theorem mv_X6_colours : MV yX6_colours := ⟨q369, q370⟩
theorem mi_X6_isBalance : MI yX6_isBalance cX6_isBalance 2 (some FieldType.boolean) 2 := ⟨⟨by decide +kernel, by decide +kernel, by decide +kernel⟩, q1, q374⟩
theorem mi_X6_met : MI yX6_met cX6_met 3 (some FieldType.int) 2 := ⟨⟨by decide +kernel, by decide +kernel, by decide +kernel⟩, q1, q378⟩
theorem mv_X6_met : MV yX6_met := ⟨q376, q377⟩
theorem mi_X6_cost : MI yX6_cost cX6_cost 3 (some FieldType.int) 2 := ⟨⟨by decide +kernel, by decide +kernel, by decide +kernel⟩, q1, q383⟩
theorem mv_X6_cost : MV yX6_cost := ⟨q381, q382⟩
theorem mi_X6_direct : MI yX6_direct cX6_direct 3 (some FieldType.int) 2 := ⟨⟨by decide +kernel, by decide +kernel, by decide +kernel⟩, q1, q394⟩
theorem mv_X6_direct : MV yX6_direct := ⟨q392, q393⟩
theorem mi_X6_pair : MI yX6_pair cX6_pair 1 (some FieldType.int) 0 := ⟨⟨by decide +kernel, by decide +kernel, by decide +kernel⟩, q1, q399⟩
theorem mv_X6_pair : MV yX6_pair := ⟨q397, q398⟩
theorem mi_X6_least : MI yX6_least cX6_least 1 (some FieldType.int) 0 := ⟨⟨by decide +kernel, by decide +kernel, by decide +kernel⟩, q1, q473⟩
theorem mv_X6_least : MV yX6_least := ⟨q471, q472⟩
theorem mi_X6_ways : MI yX6_ways cX6_ways 1 (some FieldType.int) 0 := ⟨⟨by decide +kernel, by decide +kernel, by decide +kernel⟩, q1, q477⟩
theorem mv_X6_ways : MV yX6_ways := ⟨q475, q476⟩
theorem mi_X6_board : MI yX6_board cX6_board 5 (some FieldType.int) 3 := ⟨⟨by decide +kernel, by decide +kernel, by decide +kernel⟩, q1, q485⟩
theorem mv_X6_board : MV yX6_board := ⟨q483, q484⟩
theorem mi_X6_bye : MI yX6_bye cX6_bye 2 (some FieldType.int) 1 := ⟨⟨by decide +kernel, by decide +kernel, by decide +kernel⟩, q1, q493⟩
theorem mv_X6_bye : MV yX6_bye := ⟨q491, q492⟩
theorem mi_X6_result : MI yX6_result cX6_result 6 (some FieldType.int) 2 := ⟨⟨by decide +kernel, by decide +kernel, by decide +kernel⟩, q1, q497⟩
theorem mv_X6_result : MV yX6_result := ⟨q495, q496⟩
theorem mi_X6_close : MI yX6_close cX6_close 2 (some FieldType.int) 0 := ⟨⟨by decide +kernel, by decide +kernel, by decide +kernel⟩, q1, q501⟩
theorem mv_X6_close : MV yX6_close := ⟨q499, q500⟩
theorem mi_X6_drop : MI yX6_drop cX6_drop 1 (some FieldType.int) 0 := ⟨⟨by decide +kernel, by decide +kernel, by decide +kernel⟩, q1, q509⟩
theorem mv_X6_drop : MV yX6_drop := ⟨q507, q508⟩
theorem mi_X6_game : MI yX6_game cX6_game 5 (some FieldType.int) 3 := ⟨⟨by decide +kernel, by decide +kernel, by decide +kernel⟩, q1, q513⟩
theorem mv_X6_game : MV yX6_game := ⟨q511, q512⟩
theorem mi_X6_pointsMade : MI yX6_pointsMade cX6_pointsMade 4 (some FieldType.int) 3 := ⟨⟨by decide +kernel, by decide +kernel, by decide +kernel⟩, q1, q523⟩
theorem mv_X6_pointsMade : MV yX6_pointsMade := ⟨q522, q1174⟩
theorem mi_X6_average : MI yX6_average cX6_average 6 (some FieldType.int) 2 := ⟨⟨by decide +kernel, by decide +kernel, by decide +kernel⟩, q1, q529⟩
theorem mv_X6_average : MV yX6_average := ⟨q527, q528⟩
theorem mi_X6_commonDivisor : MI yX6_commonDivisor cX6_commonDivisor 3 (some FieldType.int) 2 := ⟨⟨by decide +kernel, by decide +kernel, by decide +kernel⟩, q1, q536⟩
theorem mi_X6_feed : MI yX6_feed cX6_feed 2 (some FieldType.int) 1 := ⟨⟨by decide +kernel, by decide +kernel, by decide +kernel⟩, q1, q540⟩
theorem mv_X6_feed : MV yX6_feed := ⟨q538, q539⟩
theorem mi_X6_clear : MI yX6_clear cX6_clear 2 (some FieldType.int) 0 := ⟨⟨by decide +kernel, by decide +kernel, by decide +kernel⟩, q1, q549⟩
theorem mv_X6_clear : MV yX6_clear := ⟨q547, q548⟩
theorem mi_X6_results : MI yX6_results cX6_results 2 (some FieldType.int) 0 := ⟨⟨by decide +kernel, by decide +kernel, by decide +kernel⟩, q1, q553⟩
theorem mv_X6_results : MV yX6_results := ⟨q551, q552⟩
theorem mi_X6_readResults : MI yX6_readResults cX6_readResults 6 (some FieldType.int) 0 := ⟨⟨by decide +kernel, by decide +kernel, by decide +kernel⟩, q1, q556⟩
theorem mv_X6_readResults : MV yX6_readResults := ⟨q555, q1175⟩
theorem mi_X6_faultOfResults : MI yX6_faultOfResults cX6_faultOfResults 3 (some FieldType.int) 1 := ⟨⟨by decide +kernel, by decide +kernel, by decide +kernel⟩, q1, q559⟩
theorem mv_X6_faultOfResults : MV yX6_faultOfResults := ⟨q558, q1176⟩
theorem mi_X6_order : MI yX6_order cX6_order 2 (some FieldType.int) 0 := ⟨⟨by decide +kernel, by decide +kernel, by decide +kernel⟩, q1, q646⟩
theorem mv_X6_order : MV yX6_order := ⟨q644, q645⟩
theorem mi_X6_faultOfOrder : MI yX6_faultOfOrder cX6_faultOfOrder 4 (some FieldType.int) 0 := ⟨⟨by decide +kernel, by decide +kernel, by decide +kernel⟩, q1, q649⟩
theorem mv_X6_faultOfOrder : MV yX6_faultOfOrder := ⟨q648, q1177⟩
theorem mi_X6_readOrder : MI yX6_readOrder cX6_readOrder 2 (none : Option FieldType) 0 := ⟨⟨by decide +kernel, by decide +kernel, by decide +kernel⟩, q1, q652⟩
theorem mv_X6_readOrder : MV yX6_readOrder := ⟨q651, q1178⟩
theorem mi_X6_ordered : MI yX6_ordered cX6_ordered 2 (some FieldType.int) 1 := ⟨⟨by decide +kernel, by decide +kernel, by decide +kernel⟩, q1, q656⟩
theorem mv_X6_ordered : MV yX6_ordered := ⟨q654, q655⟩
theorem mi_X6_line : MI yX6_line cX6_line 3 (some FieldType.int) 1 := ⟨⟨by decide +kernel, by decide +kernel, by decide +kernel⟩, q1, q660⟩
theorem mv_X6_line : MV yX6_line := ⟨q658, q659⟩
theorem mi_X6_writeHalved : MI yX6_writeHalved cX6_writeHalved 2 (none : Option FieldType) 1 := ⟨⟨by decide +kernel, by decide +kernel, by decide +kernel⟩, q1, q668⟩
theorem mv_X6_writeHalved : MV yX6_writeHalved := ⟨q667, q1179⟩
theorem mi_X6_writeRound : MI yX6_writeRound cX6_writeRound 4 (none : Option FieldType) 2 := ⟨⟨by decide +kernel, by decide +kernel, by decide +kernel⟩, q1, q671⟩
theorem mv_X6_writeRound : MV yX6_writeRound := ⟨q670, q1180⟩
theorem mi_X6_markFor : MI yX6_markFor cX6_markFor 1 (some FieldType.char) 1 := ⟨⟨by decide +kernel, by decide +kernel, by decide +kernel⟩, q1, q674⟩
theorem mi_X6_paper : MI yX6_paper cX6_paper 2 (some FieldType.int) 1 := ⟨⟨by decide +kernel, by decide +kernel, by decide +kernel⟩, q1, q678⟩
theorem mv_X6_paper : MV yX6_paper := ⟨q676, q677⟩
theorem mi_X6_told : MI yX6_told cX6_told 2 (some FieldType.int) 1 := ⟨⟨by decide +kernel, by decide +kernel, by decide +kernel⟩, q1, q682⟩
theorem mv_X6_told : MV yX6_told := ⟨q680, q681⟩
theorem mi_X6_list : MI yX6_list cX6_list 3 (some FieldType.int) 2 := ⟨⟨by decide +kernel, by decide +kernel, by decide +kernel⟩, q1, q695⟩
theorem mv_X6_list : MV yX6_list := ⟨q693, q694⟩
theorem mi_X6_set : MI yX6_set cX6_set 5 (some FieldType.int) 3 := ⟨⟨by decide +kernel, by decide +kernel, by decide +kernel⟩, q1, q711⟩
theorem mv_X6_set : MV yX6_set := ⟨q709, q710⟩
theorem mi_X6_get : MI yX6_get cX6_get 3 (some FieldType.int) 2 := ⟨⟨by decide +kernel, by decide +kernel, by decide +kernel⟩, q1, q728⟩
theorem mv_X6_get : MV yX6_get := ⟨q726, q727⟩
theorem mi_X6_lay : MI yX6_lay cX6_lay 5 (some FieldType.int) 2 := ⟨⟨by decide +kernel, by decide +kernel, by decide +kernel⟩, q1, q737⟩
theorem mv_X6_lay : MV yX6_lay := ⟨q735, q736⟩
theorem mi_X6_judge : MI yX6_judge cX6_judge 5 (some FieldType.int) 2 := ⟨⟨by decide +kernel, by decide +kernel, by decide +kernel⟩, q1, q741⟩
theorem mv_X6_judge : MV yX6_judge := ⟨q739, q740⟩
theorem mi_X6_refusalOfList : MI yX6_refusalOfList cX6_refusalOfList 2 (some FieldType.int) 1 := ⟨⟨by decide +kernel, by decide +kernel, by decide +kernel⟩, q1, q714⟩
theorem mv_X6_refusalOfList : MV yX6_refusalOfList := ⟨q713, q1181⟩
theorem mi_X6_image : MI yX6_image cX6_image 1 (some FieldType.int) 0 := ⟨⟨by decide +kernel, by decide +kernel, by decide +kernel⟩, q1, q745⟩
theorem mv_X6_image : MV yX6_image := ⟨q743, q744⟩
theorem mi_X6_undo : MI yX6_undo cX6_undo 1 (some FieldType.int) 0 := ⟨⟨by decide +kernel, by decide +kernel, by decide +kernel⟩, q1, q758⟩
theorem mv_X6_undo : MV yX6_undo := ⟨q756, q757⟩
theorem mi_X6_isRating : MI yX6_isRating cX6_isRating 1 (some FieldType.boolean) 1 := ⟨⟨by decide +kernel, by decide +kernel, by decide +kernel⟩, q1, q206⟩
theorem mi_X6_isPlayer : MI yX6_isPlayer cX6_isPlayer 2 (some FieldType.boolean) 1 := ⟨⟨by decide +kernel, by decide +kernel, by decide +kernel⟩, q1, q316⟩
theorem mv_X6_isPlayer : MV yX6_isPlayer := ⟨q315, q1160⟩
theorem mi_X6_areTwo : MI yX6_areTwo cX6_areTwo 3 (some FieldType.boolean) 2 := ⟨⟨by decide +kernel, by decide +kernel, by decide +kernel⟩, q1, q362⟩
theorem mv_X6_areTwo : MV yX6_areTwo := ⟨q361, q1161⟩
theorem mi_X6_isRound : MI yX6_isRound cX6_isRound 2 (some FieldType.boolean) 1 := ⟨⟨by decide +kernel, by decide +kernel, by decide +kernel⟩, q1, q488⟩
theorem mv_X6_isRound : MV yX6_isRound := ⟨q487, q1173⟩
theorem mi_X6_mirrored : MI yX6_mirrored cX6_mirrored 1 (some FieldType.int) 1 := ⟨⟨by decide +kernel, by decide +kernel, by decide +kernel⟩, q1, q248⟩
theorem mi_X6_pointsFor : MI yX6_pointsFor cX6_pointsFor 1 (some FieldType.int) 1 := ⟨⟨by decide +kernel, by decide +kernel, by decide +kernel⟩, q1, q251⟩
theorem mi_X6_isOverTheBoard : MI yX6_isOverTheBoard cX6_isOverTheBoard 1 (some FieldType.boolean) 1 := ⟨⟨by decide +kernel, by decide +kernel, by decide +kernel⟩, q1, q261⟩
theorem mi_X7_init : MI yX7_init cX7_init 1 (none : Option FieldType) 0 := ⟨⟨by decide +kernel, by decide +kernel, by decide +kernel⟩, q9, q763⟩
theorem mi_X7_in : MI yX7_in cX7_in 6 (some FieldType.boolean) 3 := ⟨⟨by decide +kernel, by decide +kernel, by decide +kernel⟩, q9, q882⟩
theorem mi_X7_isPlayer : MI yX7_isPlayer cX7_isPlayer 2 (some FieldType.boolean) 1 := ⟨⟨by decide +kernel, by decide +kernel, by decide +kernel⟩, q9, q965⟩
theorem mv_X7_isPlayer : MV yX7_isPlayer := ⟨q964, q1216⟩
theorem mi_X7_areTwo : MI yX7_areTwo cX7_areTwo 3 (some FieldType.boolean) 2 := ⟨⟨by decide +kernel, by decide +kernel, by decide +kernel⟩, q9, q997⟩
theorem mv_X7_areTwo : MV yX7_areTwo := ⟨q996, q1217⟩
theorem mi_X7_manyIn : MI yX7_manyIn cX7_manyIn 3 (some FieldType.int) 0 := ⟨⟨by decide +kernel, by decide +kernel, by decide +kernel⟩, q9, q841⟩
theorem mv_X7_manyIn : MV yX7_manyIn := ⟨q840, q1183⟩
theorem mi_X7_done : MI yX7_done cX7_done 1 (some FieldType.int) 0 := ⟨⟨by decide +kernel, by decide +kernel, by decide +kernel⟩, q9, q859⟩
theorem mv_X7_done : MV yX7_done := ⟨q858, q1189⟩
theorem mi_X7_boardOf : MI yX7_boardOf cX7_boardOf 5 (some FieldType.int) 2 := ⟨⟨by decide +kernel, by decide +kernel, by decide +kernel⟩, q9, q868⟩
theorem mv_X7_boardOf : MV yX7_boardOf := ⟨q867, q1192⟩
theorem mi_X7_otherOn : MI yX7_otherOn cX7_otherOn 3 (some FieldType.int) 2 := ⟨⟨by decide +kernel, by decide +kernel, by decide +kernel⟩, q9, q885⟩
theorem mv_X7_otherOn : MV yX7_otherOn := ⟨q884, q1196⟩
theorem mi_X7_madeOn : MI yX7_madeOn cX7_madeOn 5 (some FieldType.int) 2 := ⟨⟨by decide +kernel, by decide +kernel, by decide +kernel⟩, q9, q871⟩
theorem mv_X7_madeOn : MV yX7_madeOn := ⟨q870, q1193⟩
theorem mi_X7_playedIn : MI yX7_playedIn cX7_playedIn 4 (some FieldType.int) 2 := ⟨⟨by decide +kernel, by decide +kernel, by decide +kernel⟩, q9, q878⟩
theorem mv_X7_playedIn : MV yX7_playedIn := ⟨q877, q1195⟩
theorem mi_X7_madeIn : MI yX7_madeIn cX7_madeIn 4 (some FieldType.int) 2 := ⟨⟨by decide +kernel, by decide +kernel, by decide +kernel⟩, q9, q865⟩
theorem mv_X7_madeIn : MV yX7_madeIn := ⟨q864, q1191⟩
theorem mi_X7_pointsBehind : MI yX7_pointsBehind cX7_pointsBehind 5 (some FieldType.int) 2 := ⟨⟨by decide +kernel, by decide +kernel, by decide +kernel⟩, q9, q862⟩
theorem mv_X7_pointsBehind : MV yX7_pointsBehind := ⟨q861, q1190⟩
theorem mi_X7_pointsOf : MI yX7_pointsOf cX7_pointsOf 2 (some FieldType.int) 1 := ⟨⟨by decide +kernel, by decide +kernel, by decide +kernel⟩, q9, q856⟩
theorem mv_X7_pointsOf : MV yX7_pointsOf := ⟨q855, q1188⟩
theorem mi_X7_metIn : MI yX7_metIn cX7_metIn 6 (some FieldType.int) 2 := ⟨⟨by decide +kernel, by decide +kernel, by decide +kernel⟩, q9, q921⟩
theorem mv_X7_metIn : MV yX7_metIn := ⟨q920, q1208⟩
theorem mi_X7_playedMany : MI yX7_playedMany cX7_playedMany 4 (some FieldType.int) 1 := ⟨⟨by decide +kernel, by decide +kernel, by decide +kernel⟩, q9, q930⟩
theorem mv_X7_playedMany : MV yX7_playedMany := ⟨q929, q1211⟩
theorem mi_X7_blacksOf : MI yX7_blacksOf cX7_blacksOf 4 (some FieldType.int) 1 := ⟨⟨by decide +kernel, by decide +kernel, by decide +kernel⟩, q9, q894⟩
theorem mv_X7_blacksOf : MV yX7_blacksOf := ⟨q893, q1199⟩
theorem mi_X7_balanceOf : MI yX7_balanceOf cX7_balanceOf 2 (some FieldType.int) 1 := ⟨⟨by decide +kernel, by decide +kernel, by decide +kernel⟩, q9, q927⟩
theorem mv_X7_balanceOf : MV yX7_balanceOf := ⟨q926, q1210⟩
theorem mi_X7_latestOf : MI yX7_latestOf cX7_latestOf 5 (some FieldType.int) 1 := ⟨⟨by decide +kernel, by decide +kernel, by decide +kernel⟩, q9, q933⟩
theorem mv_X7_latestOf : MV yX7_latestOf := ⟨q932, q1212⟩
theorem mi_X7_byesOf : MI yX7_byesOf cX7_byesOf 4 (some FieldType.int) 1 := ⟨⟨by decide +kernel, by decide +kernel, by decide +kernel⟩, q9, q915⟩
theorem mv_X7_byesOf : MV yX7_byesOf := ⟨q914, q1206⟩
theorem mi_X7_forfeitsOf : MI yX7_forfeitsOf cX7_forfeitsOf 5 (some FieldType.int) 1 := ⟨⟨by decide +kernel, by decide +kernel, by decide +kernel⟩, q9, q918⟩
theorem mv_X7_forfeitsOf : MV yX7_forfeitsOf := ⟨q917, q1207⟩
theorem mi_X7_opponentsOf : MI yX7_opponentsOf cX7_opponentsOf 8 (some FieldType.int) 2 := ⟨⟨by decide +kernel, by decide +kernel, by decide +kernel⟩, q9, q874⟩
theorem mv_X7_opponentsOf : MV yX7_opponentsOf := ⟨q873, q1194⟩
theorem mi_X7_beatenOf : MI yX7_beatenOf cX7_beatenOf 5 (some FieldType.int) 1 := ⟨⟨by decide +kernel, by decide +kernel, by decide +kernel⟩, q9, q888⟩
theorem mv_X7_beatenOf : MV yX7_beatenOf := ⟨q887, q1197⟩
theorem mi_X7_winsOf : MI yX7_winsOf cX7_winsOf 5 (some FieldType.int) 1 := ⟨⟨by decide +kernel, by decide +kernel, by decide +kernel⟩, q9, q891⟩
theorem mv_X7_winsOf : MV yX7_winsOf := ⟨q890, q1198⟩
theorem mi_X7_growthOf : MI yX7_growthOf cX7_growthOf 4 (some FieldType.int) 1 := ⟨⟨by decide +kernel, by decide +kernel, by decide +kernel⟩, q9, q897⟩
theorem mv_X7_growthOf : MV yX7_growthOf := ⟨q896, q1200⟩
theorem mi_X7_directOf : MI yX7_directOf cX7_directOf 5 (some FieldType.int) 1 := ⟨⟨by decide +kernel, by decide +kernel, by decide +kernel⟩, q9, q900⟩
theorem mv_X7_directOf : MV yX7_directOf := ⟨q899, q1201⟩
theorem mi_X7_tieOf : MI yX7_tieOf cX7_tieOf 3 (some FieldType.int) 2 := ⟨⟨by decide +kernel, by decide +kernel, by decide +kernel⟩, q9, q853⟩
theorem mv_X7_tieOf : MV yX7_tieOf := ⟨q852, q1187⟩
theorem mi_X7_differsIn : MI yX7_differsIn cX7_differsIn 5 (some FieldType.int) 2 := ⟨⟨by decide +kernel, by decide +kernel, by decide +kernel⟩, q9, q909⟩
theorem mv_X7_differsIn : MV yX7_differsIn := ⟨q908, q1204⟩
theorem mi_X7_isAhead : MI yX7_isAhead cX7_isAhead 4 (some FieldType.boolean) 2 := ⟨⟨by decide +kernel, by decide +kernel, by decide +kernel⟩, q9, q906⟩
theorem mv_X7_isAhead : MV yX7_isAhead := ⟨q905, q1203⟩
theorem mi_X7_aheadOf : MI yX7_aheadOf cX7_aheadOf 4 (some FieldType.int) 1 := ⟨⟨by decide +kernel, by decide +kernel, by decide +kernel⟩, q9, q903⟩
theorem mv_X7_aheadOf : MV yX7_aheadOf := ⟨q902, q1202⟩
theorem mi_X7_layStanding : MI yX7_layStanding cX7_layStanding 3 (none : Option FieldType) 0 := ⟨⟨by decide +kernel, by decide +kernel, by decide +kernel⟩, q9, q850⟩
theorem mv_X7_layStanding : MV yX7_layStanding := ⟨q849, q1186⟩
theorem mi_X7_costOf : MI yX7_costOf cX7_costOf 7 (some FieldType.int) 2 := ⟨⟨by decide +kernel, by decide +kernel, by decide +kernel⟩, q9, q924⟩
theorem mv_X7_costOf : MV yX7_costOf := ⟨q923, q1209⟩
theorem mi_X7_layBye : MI yX7_layBye cX7_layBye 4 (none : Option FieldType) 0 := ⟨⟨by decide +kernel, by decide +kernel, by decide +kernel⟩, q9, q912⟩
theorem mv_X7_layBye : MV yX7_layBye := ⟨q911, q1205⟩
theorem mi_X7_layPlaces : MI yX7_layPlaces cX7_layPlaces 4 (none : Option FieldType) 0 := ⟨⟨by decide +kernel, by decide +kernel, by decide +kernel⟩, q9, q847⟩
theorem mv_X7_layPlaces : MV yX7_layPlaces := ⟨q846, q1185⟩
theorem mi_X7_leastBit : MI yX7_leastBit cX7_leastBit 2 (some FieldType.int) 1 := ⟨⟨by decide +kernel, by decide +kernel, by decide +kernel⟩, q9, q936⟩
theorem mi_X7_layBests : MI yX7_layBests cX7_layBests 6 (none : Option FieldType) 0 := ⟨⟨by decide +kernel, by decide +kernel, by decide +kernel⟩, q9, q844⟩
theorem mv_X7_layBests : MV yX7_layBests := ⟨q843, q1184⟩
theorem mi_X7_isWhite : MI yX7_isWhite cX7_isWhite 8 (some FieldType.boolean) 3 := ⟨⟨by decide +kernel, by decide +kernel, by decide +kernel⟩, q9, q945⟩
theorem mv_X7_isWhite : MV yX7_isWhite := ⟨q944, q1215⟩
theorem mi_X7_putBoard : MI yX7_putBoard cX7_putBoard 6 (none : Option FieldType) 3 := ⟨⟨by decide +kernel, by decide +kernel, by decide +kernel⟩, q9, q942⟩
theorem mv_X7_putBoard : MV yX7_putBoard := ⟨q941, q1214⟩
theorem mi_X7_earliestWith : MI yX7_earliestWith cX7_earliestWith 7 (some FieldType.int) 1 := ⟨⟨by decide +kernel, by decide +kernel, by decide +kernel⟩, q9, q939⟩
theorem mv_X7_earliestWith : MV yX7_earliestWith := ⟨q938, q1213⟩
theorem mi_X7_wrongPairing : MI yX7_wrongPairing cX7_wrongPairing 1 (some FieldType.int) 0 := ⟨⟨by decide +kernel, by decide +kernel, by decide +kernel⟩, q9, q838⟩
theorem mv_X7_wrongPairing : MV yX7_wrongPairing := ⟨q837, q1182⟩
theorem mi_X7_pair : MI yX7_pair cX7_pair 5 (some FieldType.int) 0 := ⟨⟨by decide +kernel, by decide +kernel, by decide +kernel⟩, q9, q835⟩
theorem mv_X7_pair : MV yX7_pair := ⟨q833, q834⟩
theorem mi_X7_least : MI yX7_least cX7_least 2 (some FieldType.int) 0 := ⟨⟨by decide +kernel, by decide +kernel, by decide +kernel⟩, q9, q949⟩
theorem mv_X7_least : MV yX7_least := ⟨q947, q948⟩
theorem mi_X7_ways : MI yX7_ways cX7_ways 1 (some FieldType.int) 0 := ⟨⟨by decide +kernel, by decide +kernel, by decide +kernel⟩, q9, q953⟩
theorem mv_X7_ways : MV yX7_ways := ⟨q951, q952⟩
theorem mi_X7_join : MI yX7_join cX7_join 2 (some FieldType.int) 1 := ⟨⟨by decide +kernel, by decide +kernel, by decide +kernel⟩, q9, q957⟩
theorem mv_X7_join : MV yX7_join := ⟨q955, q956⟩
theorem mi_X7_leave : MI yX7_leave cX7_leave 2 (some FieldType.int) 1 := ⟨⟨by decide +kernel, by decide +kernel, by decide +kernel⟩, q9, q962⟩
theorem mv_X7_leave : MV yX7_leave := ⟨q960, q961⟩
theorem mi_X7_back : MI yX7_back cX7_back 2 (some FieldType.int) 1 := ⟨⟨by decide +kernel, by decide +kernel, by decide +kernel⟩, q9, q969⟩
theorem mv_X7_back : MV yX7_back := ⟨q967, q968⟩
theorem mi_X7_rate : MI yX7_rate cX7_rate 4 (some FieldType.int) 2 := ⟨⟨by decide +kernel, by decide +kernel, by decide +kernel⟩, q9, q973⟩
theorem mv_X7_rate : MV yX7_rate := ⟨q971, q972⟩
theorem mi_X7_of : MI yX7_of cX7_of 3 (some FieldType.int) 2 := ⟨⟨by decide +kernel, by decide +kernel, by decide +kernel⟩, q9, q977⟩
theorem mv_X7_of : MV yX7_of := ⟨q975, q976⟩
theorem mi_X7_tie : MI yX7_tie cX7_tie 3 (some FieldType.int) 2 := ⟨⟨by decide +kernel, by decide +kernel, by decide +kernel⟩, q9, q982⟩
theorem mv_X7_tie : MV yX7_tie := ⟨q980, q981⟩
theorem mi_X7_rank : MI yX7_rank cX7_rank 2 (some FieldType.int) 1 := ⟨⟨by decide +kernel, by decide +kernel, by decide +kernel⟩, q9, q986⟩
theorem mv_X7_rank : MV yX7_rank := ⟨q984, q985⟩
theorem mi_X7_nth : MI yX7_nth cX7_nth 2 (some FieldType.int) 1 := ⟨⟨by decide +kernel, by decide +kernel, by decide +kernel⟩, q9, q990⟩
theorem mv_X7_nth : MV yX7_nth := ⟨q988, q989⟩
theorem mi_X7_explain : MI yX7_explain cX7_explain 5 (some FieldType.int) 3 := ⟨⟨by decide +kernel, by decide +kernel, by decide +kernel⟩, q9, q994⟩
theorem mv_X7_explain : MV yX7_explain := ⟨q992, q993⟩
theorem mi_X7_met : MI yX7_met cX7_met 3 (some FieldType.int) 2 := ⟨⟨by decide +kernel, by decide +kernel, by decide +kernel⟩, q9, q1001⟩
theorem mv_X7_met : MV yX7_met := ⟨q999, q1000⟩
theorem mi_X7_cost : MI yX7_cost cX7_cost 3 (some FieldType.int) 2 := ⟨⟨by decide +kernel, by decide +kernel, by decide +kernel⟩, q9, q1005⟩
theorem mv_X7_cost : MV yX7_cost := ⟨q1003, q1004⟩
theorem mi_X7_direct : MI yX7_direct cX7_direct 4 (some FieldType.int) 2 := ⟨⟨by decide +kernel, by decide +kernel, by decide +kernel⟩, q9, q1009⟩
theorem mv_X7_direct : MV yX7_direct := ⟨q1007, q1008⟩
theorem mi_X7_divisor : MI yX7_divisor cX7_divisor 5 (some FieldType.int) 2 := ⟨⟨by decide +kernel, by decide +kernel, by decide +kernel⟩, q9, q1016⟩
theorem mi_X7_average : MI yX7_average cX7_average 7 (some FieldType.int) 2 := ⟨⟨by decide +kernel, by decide +kernel, by decide +kernel⟩, q9, q1013⟩
theorem mv_X7_average : MV yX7_average := ⟨q1011, q1012⟩
theorem mi_X7_alike : MI yX7_alike cX7_alike 4 (some FieldType.int) 1 := ⟨⟨by decide +kernel, by decide +kernel, by decide +kernel⟩, q9, q1020⟩
theorem mv_X7_alike : MV yX7_alike := ⟨q1018, q1019⟩
theorem mi_X7_colours : MI yX7_colours cX7_colours 5 (some FieldType.int) 1 := ⟨⟨by decide +kernel, by decide +kernel, by decide +kernel⟩, q9, q1024⟩
theorem mv_X7_colours : MV yX7_colours := ⟨q1022, q1023⟩
theorem mi_X7_board : MI yX7_board cX7_board 4 (some FieldType.int) 3 := ⟨⟨by decide +kernel, by decide +kernel, by decide +kernel⟩, q9, q1029⟩
theorem mv_X7_board : MV yX7_board := ⟨q1027, q1028⟩
theorem mi_X7_bye : MI yX7_bye cX7_bye 2 (some FieldType.int) 1 := ⟨⟨by decide +kernel, by decide +kernel, by decide +kernel⟩, q9, q1033⟩
theorem mv_X7_bye : MV yX7_bye := ⟨q1031, q1032⟩
theorem mi_X7_result : MI yX7_result cX7_result 5 (some FieldType.int) 2 := ⟨⟨by decide +kernel, by decide +kernel, by decide +kernel⟩, q9, q1037⟩
theorem mv_X7_result : MV yX7_result := ⟨q1035, q1036⟩
theorem mi_X7_withResult : MI yX7_withResult cX7_withResult 3 (some FieldType.int) 0 := ⟨⟨by decide +kernel, by decide +kernel, by decide +kernel⟩, q9, q1045⟩
theorem mv_X7_withResult : MV yX7_withResult := ⟨q1044, q1218⟩
theorem mi_X7_close : MI yX7_close cX7_close 1 (some FieldType.int) 0 := ⟨⟨by decide +kernel, by decide +kernel, by decide +kernel⟩, q9, q1042⟩
theorem mv_X7_close : MV yX7_close := ⟨q1040, q1041⟩
theorem mi_X7_drop : MI yX7_drop cX7_drop 1 (some FieldType.int) 0 := ⟨⟨by decide +kernel, by decide +kernel, by decide +kernel⟩, q9, q1049⟩
theorem mv_X7_drop : MV yX7_drop := ⟨q1047, q1048⟩
theorem mi_X7_game : MI yX7_game cX7_game 5 (some FieldType.int) 3 := ⟨⟨by decide +kernel, by decide +kernel, by decide +kernel⟩, q9, q1053⟩
theorem mv_X7_game : MV yX7_game := ⟨q1051, q1052⟩
theorem mi_X7_feed : MI yX7_feed cX7_feed 2 (some FieldType.int) 1 := ⟨⟨by decide +kernel, by decide +kernel, by decide +kernel⟩, q9, q1057⟩
theorem mv_X7_feed : MV yX7_feed := ⟨q1055, q1056⟩
theorem mi_X7_clear : MI yX7_clear cX7_clear 2 (some FieldType.int) 0 := ⟨⟨by decide +kernel, by decide +kernel, by decide +kernel⟩, q9, q1062⟩
theorem mv_X7_clear : MV yX7_clear := ⟨q1060, q1061⟩
theorem mi_X7_resultOf : MI yX7_resultOf cX7_resultOf 1 (some FieldType.int) 1 := ⟨⟨by decide +kernel, by decide +kernel, by decide +kernel⟩, q9, q1069⟩
theorem mi_X7_results : MI yX7_results cX7_results 6 (some FieldType.int) 0 := ⟨⟨by decide +kernel, by decide +kernel, by decide +kernel⟩, q9, q1066⟩
theorem mv_X7_results : MV yX7_results := ⟨q1064, q1065⟩
theorem mi_X7_tieBy : MI yX7_tieBy cX7_tieBy 1 (some FieldType.int) 1 := ⟨⟨by decide +kernel, by decide +kernel, by decide +kernel⟩, q9, q1076⟩
theorem mi_X7_isAgain : MI yX7_isAgain cX7_isAgain 4 (some FieldType.boolean) 1 := ⟨⟨by decide +kernel, by decide +kernel, by decide +kernel⟩, q9, q1079⟩
theorem mv_X7_isAgain : MV yX7_isAgain := ⟨q1078, q1219⟩
theorem mi_X7_order : MI yX7_order cX7_order 4 (some FieldType.int) 0 := ⟨⟨by decide +kernel, by decide +kernel, by decide +kernel⟩, q9, q1073⟩
theorem mv_X7_order : MV yX7_order := ⟨q1071, q1072⟩
theorem mi_X7_ordered : MI yX7_ordered cX7_ordered 2 (some FieldType.int) 1 := ⟨⟨by decide +kernel, by decide +kernel, by decide +kernel⟩, q9, q1083⟩
theorem mv_X7_ordered : MV yX7_ordered := ⟨q1081, q1082⟩
theorem mi_X7_writes : MI yX7_writes cX7_writes 2 (none : Option FieldType) 1 := ⟨⟨by decide +kernel, by decide +kernel, by decide +kernel⟩, q9, q1093⟩
theorem mv_X7_writes : MV yX7_writes := ⟨q1092, q1221⟩
theorem mi_X7_writesNumber : MI yX7_writesNumber cX7_writesNumber 2 (none : Option FieldType) 1 := ⟨⟨by decide +kernel, by decide +kernel, by decide +kernel⟩, q9, q1090⟩
theorem mv_X7_writesNumber : MV yX7_writesNumber := ⟨q1089, q1220⟩
theorem mi_X7_writesRound : MI yX7_writesRound cX7_writesRound 5 (none : Option FieldType) 2 := ⟨⟨by decide +kernel, by decide +kernel, by decide +kernel⟩, q9, q1096⟩
theorem mv_X7_writesRound : MV yX7_writesRound := ⟨q1095, q1222⟩
theorem mi_X7_line : MI yX7_line cX7_line 3 (some FieldType.int) 1 := ⟨⟨by decide +kernel, by decide +kernel, by decide +kernel⟩, q9, q1087⟩
theorem mv_X7_line : MV yX7_line := ⟨q1085, q1086⟩
theorem mi_X7_paper : MI yX7_paper cX7_paper 2 (some FieldType.int) 1 := ⟨⟨by decide +kernel, by decide +kernel, by decide +kernel⟩, q9, q1100⟩
theorem mv_X7_paper : MV yX7_paper := ⟨q1098, q1099⟩
theorem mi_X7_metTwos : MI yX7_metTwos cX7_metTwos 4 (some FieldType.int) 0 := ⟨⟨by decide +kernel, by decide +kernel, by decide +kernel⟩, q9, q1107⟩
theorem mv_X7_metTwos : MV yX7_metTwos := ⟨q1106, q1223⟩
theorem mi_X7_allPoints : MI yX7_allPoints cX7_allPoints 3 (some FieldType.int) 0 := ⟨⟨by decide +kernel, by decide +kernel, by decide +kernel⟩, q9, q1110⟩
theorem mv_X7_allPoints : MV yX7_allPoints := ⟨q1109, q1224⟩
theorem mi_X7_told : MI yX7_told cX7_told 2 (some FieldType.int) 1 := ⟨⟨by decide +kernel, by decide +kernel, by decide +kernel⟩, q9, q1104⟩
theorem mv_X7_told : MV yX7_told := ⟨q1102, q1103⟩
theorem mi_X7_isList : MI yX7_isList cX7_isList 1 (some FieldType.boolean) 1 := ⟨⟨by decide +kernel, by decide +kernel, by decide +kernel⟩, q9, q1117⟩
theorem mi_X7_list : MI yX7_list cX7_list 4 (some FieldType.int) 2 := ⟨⟨by decide +kernel, by decide +kernel, by decide +kernel⟩, q9, q1114⟩
theorem mv_X7_list : MV yX7_list := ⟨q1112, q1113⟩
theorem mi_X7_set : MI yX7_set cX7_set 4 (some FieldType.int) 3 := ⟨⟨by decide +kernel, by decide +kernel, by decide +kernel⟩, q9, q1121⟩
theorem mv_X7_set : MV yX7_set := ⟨q1119, q1120⟩
theorem mi_X7_get : MI yX7_get cX7_get 3 (some FieldType.int) 2 := ⟨⟨by decide +kernel, by decide +kernel, by decide +kernel⟩, q9, q1125⟩
theorem mv_X7_get : MV yX7_get := ⟨q1123, q1124⟩
theorem mi_X7_lay : MI yX7_lay cX7_lay 4 (some FieldType.int) 2 := ⟨⟨by decide +kernel, by decide +kernel, by decide +kernel⟩, q9, q1130⟩
theorem mv_X7_lay : MV yX7_lay := ⟨q1128, q1129⟩
theorem mi_X7_judge : MI yX7_judge cX7_judge 4 (some FieldType.int) 2 := ⟨⟨by decide +kernel, by decide +kernel, by decide +kernel⟩, q9, q1134⟩
theorem mv_X7_judge : MV yX7_judge := ⟨q1132, q1133⟩
theorem mi_X7_carry : MI yX7_carry cX7_carry 2 (some FieldType.int) 1 := ⟨⟨by decide +kernel, by decide +kernel, by decide +kernel⟩, q9, q1144⟩
theorem mv_X7_carry : MV yX7_carry := ⟨q1143, q1226⟩
theorem mi_X7_carryAll : MI yX7_carryAll cX7_carryAll 3 (none : Option FieldType) 1 := ⟨⟨by decide +kernel, by decide +kernel, by decide +kernel⟩, q9, q1141⟩
theorem mv_X7_carryAll : MV yX7_carryAll := ⟨q1140, q1225⟩
theorem mi_X7_image : MI yX7_image cX7_image 1 (some FieldType.int) 0 := ⟨⟨by decide +kernel, by decide +kernel, by decide +kernel⟩, q9, q1138⟩
theorem mv_X7_image : MV yX7_image := ⟨q1136, q1137⟩
theorem mi_X7_undo : MI yX7_undo cX7_undo 1 (some FieldType.int) 0 := ⟨⟨by decide +kernel, by decide +kernel, by decide +kernel⟩, q9, q1148⟩
theorem mv_X7_undo : MV yX7_undo := ⟨q1146, q1147⟩
theorem mi_J6_bitCount_0f7a4 : MI yJ6_bitCount_0f7a4 cJ6_bitCount_0f7a4 1 (some FieldType.int) 1 := ⟨⟨by decide +kernel, by decide +kernel, by decide +kernel⟩, q10, q427⟩
theorem qM_max : Cond.code Lib.Math.max.name Lib.Math.max.code 2 (some FieldType.int) ∈ wsL_law := q38
theorem qM_min : Cond.code Lib.Math.min.name Lib.Math.min.code 2 (some FieldType.int) ∈ wsL_law := q295
theorem qM_abs : Cond.code Lib.Math.abs.name Lib.Math.abs.code 1 (some FieldType.int) ∈ wsL_law := q390
