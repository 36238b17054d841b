/-! the world wH: ints 0 HailPads.faultPlace, 1 HailPads.refusal, 2 Boards.told, 3 Dents.told, 4 View.hour, 5 View.workedOut, 6 Track.width, 7 Track.lower, 8 Track.other, 9 CountyMap.found, 10 Tape.length, 11 RuleReader.start, 12 RuleReader.stop, 13 RuleReader.number, 14 Claims.told, 15 RuleBookB.losses, 16 RuleBookB.radarOff, 17 RuleBookB.bear, 18 RuleBookB.told, 19 RuleBookD.losses, 20 RuleBookD.radarOff, 21 RuleBookD.bear, 22 RuleBookD.told; arrays 0 Boards.x, 1 Boards.y, 2 Boards.clearFrom, 3 Dents.cell, 4 Dents.hand, 5 Dents.width, 6 Dents.known, 7 SizeTable.width, 8 SizeTable.size, 9 View.widths, 10 View.hands, 11 View.raw, 12 View.leanings, 13 View.row, 14 Track.hit, 15 CountyMap.near, 16 CountyMap.apart, 17 CountyMap.stones, 18 RadarSquares.above, 19 Tape.bytes, 20 Claims.x, 21 Claims.y, 22 Claims.worth, 23 Claims.said, 24 RuleBookB.loss, 25 RuleBookB.from, 26 RuleBookB.sure, 27 RuleBookD.loss, 28 RuleBookD.from, 29 RuleBookD.sure; longs  -/
def wHx (ad : Nat → Nat) (cI cZ : ClassId) (bk dr : Nat) (u : UU) : va_W := [(ad 0, .inr (11, [.ref (ad 1), .ref (ad 2), .ref (ad 3), .ref (ad 4), .ref (ad 5), .ref (ad 6), .ref (ad 7), .ref (ad 8), .ref (ad 9), .ref (ad 10), .ref bk, .ref dr, .int (u.1 0), .int (u.1 1)])),
  (ad 1, .inr (0, [.ref (ad 13), .ref (ad 14), .ref (ad 15), .int (u.1 2)])),
  (ad 2, .inr (3, [.ref (ad 16), .ref (ad 17), .ref (ad 18), .ref (ad 19), .int (u.1 3)])),
  (ad 3, .inr (7, [.ref (ad 20), .ref (ad 21)])),
  (ad 4, .inr (10, [.ref (ad 1), .ref (ad 2), .ref (ad 3), .ref (ad 22), .ref (ad 23), .ref (ad 24), .ref (ad 25), .ref (ad 26), .int (u.1 4), .int (u.1 5)])),
  (ad 5, .inr (9, [.ref (ad 1), .ref (ad 27), .int (u.1 6), .int (u.1 7), .int (u.1 8)])),
  (ad 6, .inr (2, [.ref (ad 1), .ref (ad 4), .ref (ad 28), .ref (ad 29), .ref (ad 30), .int (u.1 9)])),
  (ad 7, .inr (4, [.ref (ad 31)])),
  (ad 8, .inr (8, [.ref (ad 32), .int (u.1 10)])),
  (ad 9, .inr (6, [.ref (ad 8), .int (u.1 11), .int (u.1 12), .int (u.1 13)])),
  (ad 10, .inr (1, [.ref (ad 33), .ref (ad 34), .ref (ad 35), .ref (ad 36), .int (u.1 14)])),
  (ad 11, .inr (5, [.ref (ad 37), .ref (ad 38), .ref (ad 39), .int (u.1 15), .int (u.1 16), .int (u.1 17), .int (u.1 18)])),
  (ad 12, .inr (5, [.ref (ad 40), .ref (ad 41), .ref (ad 42), .int (u.1 19), .int (u.1 20), .int (u.1 21), .int (u.1 22)])),
  (ad 13, .inl (cI, 30, .inl (u.2.1 0))),
  (ad 14, .inl (cI, 30, .inl (u.2.1 1))),
  (ad 15, .inl (cI, 30, .inl (u.2.1 2))),
  (ad 16, .inl (cI, 300, .inl (u.2.1 3))),
  (ad 17, .inl (cI, 300, .inl (u.2.1 4))),
  (ad 18, .inl (cI, 300, .inl (u.2.1 5))),
  (ad 19, .inl (cI, 300, .inl (u.2.1 6))),
  (ad 20, .inl (cI, 8, .inl (u.2.1 7))),
  (ad 21, .inl (cI, 8, .inl (u.2.1 8))),
  (ad 22, .inl (cI, 2400, .inl (u.2.1 9))),
  (ad 23, .inl (cI, 300, .inl (u.2.1 10))),
  (ad 24, .inl (cI, 300, .inl (u.2.1 11))),
  (ad 25, .inl (cI, 8, .inl (u.2.1 12))),
  (ad 26, .inl (cI, 300, .inl (u.2.1 13))),
  (ad 27, .inl (cZ, 30, .inl (u.2.1 14))),
  (ad 28, .inl (cI, 3, .inl (u.2.1 15))),
  (ad 29, .inl (cI, 3, .inl (u.2.1 16))),
  (ad 30, .inl (cI, 3, .inl (u.2.1 17))),
  (ad 31, .inl (cI, 64, .inl (u.2.1 18))),
  (ad 32, .inl (cI, 200, .inl (u.2.1 19))),
  (ad 33, .inl (cI, 40, .inl (u.2.1 20))),
  (ad 34, .inl (cI, 40, .inl (u.2.1 21))),
  (ad 35, .inl (cI, 40, .inl (u.2.1 22))),
  (ad 36, .inl (cI, 40, .inl (u.2.1 23))),
  (ad 37, .inl (cI, 20, .inl (u.2.1 24))),
  (ad 38, .inl (cI, 20, .inl (u.2.1 25))),
  (ad 39, .inl (cI, 20, .inl (u.2.1 26))),
  (ad 40, .inl (cI, 20, .inl (u.2.1 27))),
  (ad 41, .inl (cI, 20, .inl (u.2.1 28))),
  (ad 42, .inl (cI, 20, .inl (u.2.1 29)))]
def wH (ad : Nat → Nat) (cI cZ : ClassId) (u : UU) : va_W := wHx ad cI cZ (ad 11) (ad 12) u
section
variable {ad : Nat → Nat} {cI cZ : ClassId} {u : UU}
theorem HF_0_0 : FG (wH ad cI cZ u) (ad 0) 11 0 (.ref (ad 1)) := ⟨0, _, rfl, rfl⟩
theorem HF_0_1 : FG (wH ad cI cZ u) (ad 0) 11 1 (.ref (ad 2)) := ⟨0, _, rfl, rfl⟩
theorem HF_0_2 : FG (wH ad cI cZ u) (ad 0) 11 2 (.ref (ad 3)) := ⟨0, _, rfl, rfl⟩
theorem HF_0_3 : FG (wH ad cI cZ u) (ad 0) 11 3 (.ref (ad 4)) := ⟨0, _, rfl, rfl⟩
theorem HF_0_4 : FG (wH ad cI cZ u) (ad 0) 11 4 (.ref (ad 5)) := ⟨0, _, rfl, rfl⟩
theorem HF_0_5 : FG (wH ad cI cZ u) (ad 0) 11 5 (.ref (ad 6)) := ⟨0, _, rfl, rfl⟩
theorem HF_0_6 : FG (wH ad cI cZ u) (ad 0) 11 6 (.ref (ad 7)) := ⟨0, _, rfl, rfl⟩
theorem HF_0_7 : FG (wH ad cI cZ u) (ad 0) 11 7 (.ref (ad 8)) := ⟨0, _, rfl, rfl⟩
theorem HF_0_8 : FG (wH ad cI cZ u) (ad 0) 11 8 (.ref (ad 9)) := ⟨0, _, rfl, rfl⟩
theorem HF_0_9 : FG (wH ad cI cZ u) (ad 0) 11 9 (.ref (ad 10)) := ⟨0, _, rfl, rfl⟩
theorem HF_0_10 : FG (wH ad cI cZ u) (ad 0) 11 10 (.ref (ad 11)) := ⟨0, _, rfl, rfl⟩
theorem HF_0_11 : FG (wH ad cI cZ u) (ad 0) 11 11 (.ref (ad 12)) := ⟨0, _, rfl, rfl⟩
theorem HF_0_12 : FG (wH ad cI cZ u) (ad 0) 11 12 (.int (u.1 0)) := ⟨0, _, rfl, rfl⟩
theorem HS_0_12 {v : Int32} : FS (wH ad cI cZ u) (ad 0) 11 12 (.int v) (wH ad cI cZ (sI u 0 v)) := ⟨0, _, rfl, Nat.le_of_ble_eq_true rfl, rfl⟩
theorem HF_0_13 : FG (wH ad cI cZ u) (ad 0) 11 13 (.int (u.1 1)) := ⟨0, _, rfl, rfl⟩
theorem HS_0_13 {v : Int32} : FS (wH ad cI cZ u) (ad 0) 11 13 (.int v) (wH ad cI cZ (sI u 1 v)) := ⟨0, _, rfl, Nat.le_of_ble_eq_true rfl, rfl⟩
theorem HF_1_0 : FG (wH ad cI cZ u) (ad 1) 0 0 (.ref (ad 13)) := ⟨1, _, rfl, rfl⟩
theorem HF_1_1 : FG (wH ad cI cZ u) (ad 1) 0 1 (.ref (ad 14)) := ⟨1, _, rfl, rfl⟩
theorem HF_1_2 : FG (wH ad cI cZ u) (ad 1) 0 2 (.ref (ad 15)) := ⟨1, _, rfl, rfl⟩
theorem HF_1_3 : FG (wH ad cI cZ u) (ad 1) 0 3 (.int (u.1 2)) := ⟨1, _, rfl, rfl⟩
theorem HS_1_3 {v : Int32} : FS (wH ad cI cZ u) (ad 1) 0 3 (.int v) (wH ad cI cZ (sI u 2 v)) := ⟨1, _, rfl, Nat.le_of_ble_eq_true rfl, rfl⟩
theorem HF_2_0 : FG (wH ad cI cZ u) (ad 2) 3 0 (.ref (ad 16)) := ⟨2, _, rfl, rfl⟩
theorem HF_2_1 : FG (wH ad cI cZ u) (ad 2) 3 1 (.ref (ad 17)) := ⟨2, _, rfl, rfl⟩
theorem HF_2_2 : FG (wH ad cI cZ u) (ad 2) 3 2 (.ref (ad 18)) := ⟨2, _, rfl, rfl⟩
theorem HF_2_3 : FG (wH ad cI cZ u) (ad 2) 3 3 (.ref (ad 19)) := ⟨2, _, rfl, rfl⟩
theorem HF_2_4 : FG (wH ad cI cZ u) (ad 2) 3 4 (.int (u.1 3)) := ⟨2, _, rfl, rfl⟩
theorem HS_2_4 {v : Int32} : FS (wH ad cI cZ u) (ad 2) 3 4 (.int v) (wH ad cI cZ (sI u 3 v)) := ⟨2, _, rfl, Nat.le_of_ble_eq_true rfl, rfl⟩
theorem HF_3_0 : FG (wH ad cI cZ u) (ad 3) 7 0 (.ref (ad 20)) := ⟨3, _, rfl, rfl⟩
theorem HF_3_1 : FG (wH ad cI cZ u) (ad 3) 7 1 (.ref (ad 21)) := ⟨3, _, rfl, rfl⟩
theorem HF_4_0 : FG (wH ad cI cZ u) (ad 4) 10 0 (.ref (ad 1)) := ⟨4, _, rfl, rfl⟩
theorem HF_4_1 : FG (wH ad cI cZ u) (ad 4) 10 1 (.ref (ad 2)) := ⟨4, _, rfl, rfl⟩
theorem HF_4_2 : FG (wH ad cI cZ u) (ad 4) 10 2 (.ref (ad 3)) := ⟨4, _, rfl, rfl⟩
theorem HF_4_3 : FG (wH ad cI cZ u) (ad 4) 10 3 (.ref (ad 22)) := ⟨4, _, rfl, rfl⟩
theorem HF_4_4 : FG (wH ad cI cZ u) (ad 4) 10 4 (.ref (ad 23)) := ⟨4, _, rfl, rfl⟩
theorem HF_4_5 : FG (wH ad cI cZ u) (ad 4) 10 5 (.ref (ad 24)) := ⟨4, _, rfl, rfl⟩
theorem HF_4_6 : FG (wH ad cI cZ u) (ad 4) 10 6 (.ref (ad 25)) := ⟨4, _, rfl, rfl⟩
theorem HF_4_7 : FG (wH ad cI cZ u) (ad 4) 10 7 (.ref (ad 26)) := ⟨4, _, rfl, rfl⟩
theorem HF_4_8 : FG (wH ad cI cZ u) (ad 4) 10 8 (.int (u.1 4)) := ⟨4, _, rfl, rfl⟩
theorem HS_4_8 {v : Int32} : FS (wH ad cI cZ u) (ad 4) 10 8 (.int v) (wH ad cI cZ (sI u 4 v)) := ⟨4, _, rfl, Nat.le_of_ble_eq_true rfl, rfl⟩
theorem HF_4_9 : FG (wH ad cI cZ u) (ad 4) 10 9 (.int (u.1 5)) := ⟨4, _, rfl, rfl⟩
theorem HS_4_9 {v : Int32} : FS (wH ad cI cZ u) (ad 4) 10 9 (.int v) (wH ad cI cZ (sI u 5 v)) := ⟨4, _, rfl, Nat.le_of_ble_eq_true rfl, rfl⟩
theorem HF_5_0 : FG (wH ad cI cZ u) (ad 5) 9 0 (.ref (ad 1)) := ⟨5, _, rfl, rfl⟩
theorem HF_5_1 : FG (wH ad cI cZ u) (ad 5) 9 1 (.ref (ad 27)) := ⟨5, _, rfl, rfl⟩
theorem HF_5_2 : FG (wH ad cI cZ u) (ad 5) 9 2 (.int (u.1 6)) := ⟨5, _, rfl, rfl⟩
theorem HS_5_2 {v : Int32} : FS (wH ad cI cZ u) (ad 5) 9 2 (.int v) (wH ad cI cZ (sI u 6 v)) := ⟨5, _, rfl, Nat.le_of_ble_eq_true rfl, rfl⟩
theorem HF_5_3 : FG (wH ad cI cZ u) (ad 5) 9 3 (.int (u.1 7)) := ⟨5, _, rfl, rfl⟩
theorem HS_5_3 {v : Int32} : FS (wH ad cI cZ u) (ad 5) 9 3 (.int v) (wH ad cI cZ (sI u 7 v)) := ⟨5, _, rfl, Nat.le_of_ble_eq_true rfl, rfl⟩
theorem HF_5_4 : FG (wH ad cI cZ u) (ad 5) 9 4 (.int (u.1 8)) := ⟨5, _, rfl, rfl⟩
theorem HS_5_4 {v : Int32} : FS (wH ad cI cZ u) (ad 5) 9 4 (.int v) (wH ad cI cZ (sI u 8 v)) := ⟨5, _, rfl, Nat.le_of_ble_eq_true rfl, rfl⟩
theorem HF_6_0 : FG (wH ad cI cZ u) (ad 6) 2 0 (.ref (ad 1)) := ⟨6, _, rfl, rfl⟩
theorem HF_6_1 : FG (wH ad cI cZ u) (ad 6) 2 1 (.ref (ad 4)) := ⟨6, _, rfl, rfl⟩
theorem HF_6_2 : FG (wH ad cI cZ u) (ad 6) 2 2 (.ref (ad 28)) := ⟨6, _, rfl, rfl⟩
theorem HF_6_3 : FG (wH ad cI cZ u) (ad 6) 2 3 (.ref (ad 29)) := ⟨6, _, rfl, rfl⟩
theorem HF_6_4 : FG (wH ad cI cZ u) (ad 6) 2 4 (.ref (ad 30)) := ⟨6, _, rfl, rfl⟩
theorem HF_6_5 : FG (wH ad cI cZ u) (ad 6) 2 5 (.int (u.1 9)) := ⟨6, _, rfl, rfl⟩
theorem HS_6_5 {v : Int32} : FS (wH ad cI cZ u) (ad 6) 2 5 (.int v) (wH ad cI cZ (sI u 9 v)) := ⟨6, _, rfl, Nat.le_of_ble_eq_true rfl, rfl⟩
theorem HF_7_0 : FG (wH ad cI cZ u) (ad 7) 4 0 (.ref (ad 31)) := ⟨7, _, rfl, rfl⟩
theorem HF_8_0 : FG (wH ad cI cZ u) (ad 8) 8 0 (.ref (ad 32)) := ⟨8, _, rfl, rfl⟩
theorem HF_8_1 : FG (wH ad cI cZ u) (ad 8) 8 1 (.int (u.1 10)) := ⟨8, _, rfl, rfl⟩
theorem HS_8_1 {v : Int32} : FS (wH ad cI cZ u) (ad 8) 8 1 (.int v) (wH ad cI cZ (sI u 10 v)) := ⟨8, _, rfl, Nat.le_of_ble_eq_true rfl, rfl⟩
theorem HF_9_0 : FG (wH ad cI cZ u) (ad 9) 6 0 (.ref (ad 8)) := ⟨9, _, rfl, rfl⟩
theorem HF_9_1 : FG (wH ad cI cZ u) (ad 9) 6 1 (.int (u.1 11)) := ⟨9, _, rfl, rfl⟩
theorem HS_9_1 {v : Int32} : FS (wH ad cI cZ u) (ad 9) 6 1 (.int v) (wH ad cI cZ (sI u 11 v)) := ⟨9, _, rfl, Nat.le_of_ble_eq_true rfl, rfl⟩
theorem HF_9_2 : FG (wH ad cI cZ u) (ad 9) 6 2 (.int (u.1 12)) := ⟨9, _, rfl, rfl⟩
theorem HS_9_2 {v : Int32} : FS (wH ad cI cZ u) (ad 9) 6 2 (.int v) (wH ad cI cZ (sI u 12 v)) := ⟨9, _, rfl, Nat.le_of_ble_eq_true rfl, rfl⟩
theorem HF_9_3 : FG (wH ad cI cZ u) (ad 9) 6 3 (.int (u.1 13)) := ⟨9, _, rfl, rfl⟩
theorem HS_9_3 {v : Int32} : FS (wH ad cI cZ u) (ad 9) 6 3 (.int v) (wH ad cI cZ (sI u 13 v)) := ⟨9, _, rfl, Nat.le_of_ble_eq_true rfl, rfl⟩
theorem HF_10_0 : FG (wH ad cI cZ u) (ad 10) 1 0 (.ref (ad 33)) := ⟨10, _, rfl, rfl⟩
theorem HF_10_1 : FG (wH ad cI cZ u) (ad 10) 1 1 (.ref (ad 34)) := ⟨10, _, rfl, rfl⟩
theorem HF_10_2 : FG (wH ad cI cZ u) (ad 10) 1 2 (.ref (ad 35)) := ⟨10, _, rfl, rfl⟩
theorem HF_10_3 : FG (wH ad cI cZ u) (ad 10) 1 3 (.ref (ad 36)) := ⟨10, _, rfl, rfl⟩
theorem HF_10_4 : FG (wH ad cI cZ u) (ad 10) 1 4 (.int (u.1 14)) := ⟨10, _, rfl, rfl⟩
theorem HS_10_4 {v : Int32} : FS (wH ad cI cZ u) (ad 10) 1 4 (.int v) (wH ad cI cZ (sI u 14 v)) := ⟨10, _, rfl, Nat.le_of_ble_eq_true rfl, rfl⟩
theorem HF_11_0 : FG (wH ad cI cZ u) (ad 11) 5 0 (.ref (ad 37)) := ⟨11, _, rfl, rfl⟩
theorem HF_11_1 : FG (wH ad cI cZ u) (ad 11) 5 1 (.ref (ad 38)) := ⟨11, _, rfl, rfl⟩
theorem HF_11_2 : FG (wH ad cI cZ u) (ad 11) 5 2 (.ref (ad 39)) := ⟨11, _, rfl, rfl⟩
theorem HF_11_3 : FG (wH ad cI cZ u) (ad 11) 5 3 (.int (u.1 15)) := ⟨11, _, rfl, rfl⟩
theorem HS_11_3 {v : Int32} : FS (wH ad cI cZ u) (ad 11) 5 3 (.int v) (wH ad cI cZ (sI u 15 v)) := ⟨11, _, rfl, Nat.le_of_ble_eq_true rfl, rfl⟩
theorem HF_11_4 : FG (wH ad cI cZ u) (ad 11) 5 4 (.int (u.1 16)) := ⟨11, _, rfl, rfl⟩
theorem HS_11_4 {v : Int32} : FS (wH ad cI cZ u) (ad 11) 5 4 (.int v) (wH ad cI cZ (sI u 16 v)) := ⟨11, _, rfl, Nat.le_of_ble_eq_true rfl, rfl⟩
theorem HF_11_5 : FG (wH ad cI cZ u) (ad 11) 5 5 (.int (u.1 17)) := ⟨11, _, rfl, rfl⟩
theorem HS_11_5 {v : Int32} : FS (wH ad cI cZ u) (ad 11) 5 5 (.int v) (wH ad cI cZ (sI u 17 v)) := ⟨11, _, rfl, Nat.le_of_ble_eq_true rfl, rfl⟩
theorem HF_11_6 : FG (wH ad cI cZ u) (ad 11) 5 6 (.int (u.1 18)) := ⟨11, _, rfl, rfl⟩
theorem HS_11_6 {v : Int32} : FS (wH ad cI cZ u) (ad 11) 5 6 (.int v) (wH ad cI cZ (sI u 18 v)) := ⟨11, _, rfl, Nat.le_of_ble_eq_true rfl, rfl⟩
theorem HF_12_0 : FG (wH ad cI cZ u) (ad 12) 5 0 (.ref (ad 40)) := ⟨12, _, rfl, rfl⟩
theorem HF_12_1 : FG (wH ad cI cZ u) (ad 12) 5 1 (.ref (ad 41)) := ⟨12, _, rfl, rfl⟩
theorem HF_12_2 : FG (wH ad cI cZ u) (ad 12) 5 2 (.ref (ad 42)) := ⟨12, _, rfl, rfl⟩
theorem HF_12_3 : FG (wH ad cI cZ u) (ad 12) 5 3 (.int (u.1 19)) := ⟨12, _, rfl, rfl⟩
theorem HS_12_3 {v : Int32} : FS (wH ad cI cZ u) (ad 12) 5 3 (.int v) (wH ad cI cZ (sI u 19 v)) := ⟨12, _, rfl, Nat.le_of_ble_eq_true rfl, rfl⟩
theorem HF_12_4 : FG (wH ad cI cZ u) (ad 12) 5 4 (.int (u.1 20)) := ⟨12, _, rfl, rfl⟩
theorem HS_12_4 {v : Int32} : FS (wH ad cI cZ u) (ad 12) 5 4 (.int v) (wH ad cI cZ (sI u 20 v)) := ⟨12, _, rfl, Nat.le_of_ble_eq_true rfl, rfl⟩
theorem HF_12_5 : FG (wH ad cI cZ u) (ad 12) 5 5 (.int (u.1 21)) := ⟨12, _, rfl, rfl⟩
theorem HS_12_5 {v : Int32} : FS (wH ad cI cZ u) (ad 12) 5 5 (.int v) (wH ad cI cZ (sI u 21 v)) := ⟨12, _, rfl, Nat.le_of_ble_eq_true rfl, rfl⟩
theorem HF_12_6 : FG (wH ad cI cZ u) (ad 12) 5 6 (.int (u.1 22)) := ⟨12, _, rfl, rfl⟩
theorem HS_12_6 {v : Int32} : FS (wH ad cI cZ u) (ad 12) 5 6 (.int v) (wH ad cI cZ (sI u 22 v)) := ⟨12, _, rfl, Nat.le_of_ble_eq_true rfl, rfl⟩
theorem HA_13 : AG (wH ad cI cZ u) (ad 13) cI 30 (u.2.1 0) := ⟨13, rfl⟩
theorem HU_13 {g : Nat → Int32} : AS (wH ad cI cZ u) (ad 13) cI 30 (u.2.1 0) g (wH ad cI cZ (sA u 0 g)) := ⟨13, rfl, rfl⟩
theorem HA_14 : AG (wH ad cI cZ u) (ad 14) cI 30 (u.2.1 1) := ⟨14, rfl⟩
theorem HU_14 {g : Nat → Int32} : AS (wH ad cI cZ u) (ad 14) cI 30 (u.2.1 1) g (wH ad cI cZ (sA u 1 g)) := ⟨14, rfl, rfl⟩
theorem HA_15 : AG (wH ad cI cZ u) (ad 15) cI 30 (u.2.1 2) := ⟨15, rfl⟩
theorem HU_15 {g : Nat → Int32} : AS (wH ad cI cZ u) (ad 15) cI 30 (u.2.1 2) g (wH ad cI cZ (sA u 2 g)) := ⟨15, rfl, rfl⟩
theorem HA_16 : AG (wH ad cI cZ u) (ad 16) cI 300 (u.2.1 3) := ⟨16, rfl⟩
theorem HU_16 {g : Nat → Int32} : AS (wH ad cI cZ u) (ad 16) cI 300 (u.2.1 3) g (wH ad cI cZ (sA u 3 g)) := ⟨16, rfl, rfl⟩
theorem HA_17 : AG (wH ad cI cZ u) (ad 17) cI 300 (u.2.1 4) := ⟨17, rfl⟩
theorem HU_17 {g : Nat → Int32} : AS (wH ad cI cZ u) (ad 17) cI 300 (u.2.1 4) g (wH ad cI cZ (sA u 4 g)) := ⟨17, rfl, rfl⟩
theorem HA_18 : AG (wH ad cI cZ u) (ad 18) cI 300 (u.2.1 5) := ⟨18, rfl⟩
theorem HU_18 {g : Nat → Int32} : AS (wH ad cI cZ u) (ad 18) cI 300 (u.2.1 5) g (wH ad cI cZ (sA u 5 g)) := ⟨18, rfl, rfl⟩
theorem HA_19 : AG (wH ad cI cZ u) (ad 19) cI 300 (u.2.1 6) := ⟨19, rfl⟩
theorem HU_19 {g : Nat → Int32} : AS (wH ad cI cZ u) (ad 19) cI 300 (u.2.1 6) g (wH ad cI cZ (sA u 6 g)) := ⟨19, rfl, rfl⟩
theorem HA_20 : AG (wH ad cI cZ u) (ad 20) cI 8 (u.2.1 7) := ⟨20, rfl⟩
theorem HU_20 {g : Nat → Int32} : AS (wH ad cI cZ u) (ad 20) cI 8 (u.2.1 7) g (wH ad cI cZ (sA u 7 g)) := ⟨20, rfl, rfl⟩
theorem HA_21 : AG (wH ad cI cZ u) (ad 21) cI 8 (u.2.1 8) := ⟨21, rfl⟩
theorem HU_21 {g : Nat → Int32} : AS (wH ad cI cZ u) (ad 21) cI 8 (u.2.1 8) g (wH ad cI cZ (sA u 8 g)) := ⟨21, rfl, rfl⟩
theorem HA_22 : AG (wH ad cI cZ u) (ad 22) cI 2400 (u.2.1 9) := ⟨22, rfl⟩
theorem HU_22 {g : Nat → Int32} : AS (wH ad cI cZ u) (ad 22) cI 2400 (u.2.1 9) g (wH ad cI cZ (sA u 9 g)) := ⟨22, rfl, rfl⟩
theorem HA_23 : AG (wH ad cI cZ u) (ad 23) cI 300 (u.2.1 10) := ⟨23, rfl⟩
theorem HU_23 {g : Nat → Int32} : AS (wH ad cI cZ u) (ad 23) cI 300 (u.2.1 10) g (wH ad cI cZ (sA u 10 g)) := ⟨23, rfl, rfl⟩
theorem HA_24 : AG (wH ad cI cZ u) (ad 24) cI 300 (u.2.1 11) := ⟨24, rfl⟩
theorem HU_24 {g : Nat → Int32} : AS (wH ad cI cZ u) (ad 24) cI 300 (u.2.1 11) g (wH ad cI cZ (sA u 11 g)) := ⟨24, rfl, rfl⟩
theorem HA_25 : AG (wH ad cI cZ u) (ad 25) cI 8 (u.2.1 12) := ⟨25, rfl⟩
theorem HU_25 {g : Nat → Int32} : AS (wH ad cI cZ u) (ad 25) cI 8 (u.2.1 12) g (wH ad cI cZ (sA u 12 g)) := ⟨25, rfl, rfl⟩
theorem HA_26 : AG (wH ad cI cZ u) (ad 26) cI 300 (u.2.1 13) := ⟨26, rfl⟩
theorem HU_26 {g : Nat → Int32} : AS (wH ad cI cZ u) (ad 26) cI 300 (u.2.1 13) g (wH ad cI cZ (sA u 13 g)) := ⟨26, rfl, rfl⟩
theorem HA_27 : AG (wH ad cI cZ u) (ad 27) cZ 30 (u.2.1 14) := ⟨27, rfl⟩
theorem HU_27 {g : Nat → Int32} : AS (wH ad cI cZ u) (ad 27) cZ 30 (u.2.1 14) g (wH ad cI cZ (sA u 14 g)) := ⟨27, rfl, rfl⟩
theorem HA_28 : AG (wH ad cI cZ u) (ad 28) cI 3 (u.2.1 15) := ⟨28, rfl⟩
theorem HU_28 {g : Nat → Int32} : AS (wH ad cI cZ u) (ad 28) cI 3 (u.2.1 15) g (wH ad cI cZ (sA u 15 g)) := ⟨28, rfl, rfl⟩
theorem HA_29 : AG (wH ad cI cZ u) (ad 29) cI 3 (u.2.1 16) := ⟨29, rfl⟩
theorem HU_29 {g : Nat → Int32} : AS (wH ad cI cZ u) (ad 29) cI 3 (u.2.1 16) g (wH ad cI cZ (sA u 16 g)) := ⟨29, rfl, rfl⟩
theorem HA_30 : AG (wH ad cI cZ u) (ad 30) cI 3 (u.2.1 17) := ⟨30, rfl⟩
theorem HU_30 {g : Nat → Int32} : AS (wH ad cI cZ u) (ad 30) cI 3 (u.2.1 17) g (wH ad cI cZ (sA u 17 g)) := ⟨30, rfl, rfl⟩
theorem HA_31 : AG (wH ad cI cZ u) (ad 31) cI 64 (u.2.1 18) := ⟨31, rfl⟩
theorem HU_31 {g : Nat → Int32} : AS (wH ad cI cZ u) (ad 31) cI 64 (u.2.1 18) g (wH ad cI cZ (sA u 18 g)) := ⟨31, rfl, rfl⟩
theorem HA_32 : AG (wH ad cI cZ u) (ad 32) cI 200 (u.2.1 19) := ⟨32, rfl⟩
theorem HU_32 {g : Nat → Int32} : AS (wH ad cI cZ u) (ad 32) cI 200 (u.2.1 19) g (wH ad cI cZ (sA u 19 g)) := ⟨32, rfl, rfl⟩
theorem HA_33 : AG (wH ad cI cZ u) (ad 33) cI 40 (u.2.1 20) := ⟨33, rfl⟩
theorem HU_33 {g : Nat → Int32} : AS (wH ad cI cZ u) (ad 33) cI 40 (u.2.1 20) g (wH ad cI cZ (sA u 20 g)) := ⟨33, rfl, rfl⟩
theorem HA_34 : AG (wH ad cI cZ u) (ad 34) cI 40 (u.2.1 21) := ⟨34, rfl⟩
theorem HU_34 {g : Nat → Int32} : AS (wH ad cI cZ u) (ad 34) cI 40 (u.2.1 21) g (wH ad cI cZ (sA u 21 g)) := ⟨34, rfl, rfl⟩
theorem HA_35 : AG (wH ad cI cZ u) (ad 35) cI 40 (u.2.1 22) := ⟨35, rfl⟩
theorem HU_35 {g : Nat → Int32} : AS (wH ad cI cZ u) (ad 35) cI 40 (u.2.1 22) g (wH ad cI cZ (sA u 22 g)) := ⟨35, rfl, rfl⟩
theorem HA_36 : AG (wH ad cI cZ u) (ad 36) cI 40 (u.2.1 23) := ⟨36, rfl⟩
theorem HU_36 {g : Nat → Int32} : AS (wH ad cI cZ u) (ad 36) cI 40 (u.2.1 23) g (wH ad cI cZ (sA u 23 g)) := ⟨36, rfl, rfl⟩
theorem HA_37 : AG (wH ad cI cZ u) (ad 37) cI 20 (u.2.1 24) := ⟨37, rfl⟩
theorem HU_37 {g : Nat → Int32} : AS (wH ad cI cZ u) (ad 37) cI 20 (u.2.1 24) g (wH ad cI cZ (sA u 24 g)) := ⟨37, rfl, rfl⟩
theorem HA_38 : AG (wH ad cI cZ u) (ad 38) cI 20 (u.2.1 25) := ⟨38, rfl⟩
theorem HU_38 {g : Nat → Int32} : AS (wH ad cI cZ u) (ad 38) cI 20 (u.2.1 25) g (wH ad cI cZ (sA u 25 g)) := ⟨38, rfl, rfl⟩
theorem HA_39 : AG (wH ad cI cZ u) (ad 39) cI 20 (u.2.1 26) := ⟨39, rfl⟩
theorem HU_39 {g : Nat → Int32} : AS (wH ad cI cZ u) (ad 39) cI 20 (u.2.1 26) g (wH ad cI cZ (sA u 26 g)) := ⟨39, rfl, rfl⟩
theorem HA_40 : AG (wH ad cI cZ u) (ad 40) cI 20 (u.2.1 27) := ⟨40, rfl⟩
theorem HU_40 {g : Nat → Int32} : AS (wH ad cI cZ u) (ad 40) cI 20 (u.2.1 27) g (wH ad cI cZ (sA u 27 g)) := ⟨40, rfl, rfl⟩
theorem HA_41 : AG (wH ad cI cZ u) (ad 41) cI 20 (u.2.1 28) := ⟨41, rfl⟩
theorem HU_41 {g : Nat → Int32} : AS (wH ad cI cZ u) (ad 41) cI 20 (u.2.1 28) g (wH ad cI cZ (sA u 28 g)) := ⟨41, rfl, rfl⟩
theorem HA_42 : AG (wH ad cI cZ u) (ad 42) cI 20 (u.2.1 29) := ⟨42, rfl⟩
theorem HU_42 {g : Nat → Int32} : AS (wH ad cI cZ u) (ad 42) cI 20 (u.2.1 29) g (wH ad cI cZ (sA u 29 g)) := ⟨42, rfl, rfl⟩
end
def sgP (k : Nat) : Nat := match k with
  | 11 => 12
  | 12 => 11
  | 37 => 40
  | 38 => 41
  | 39 => 42
  | 40 => 37
  | 41 => 38
  | 42 => 39
  | k => k
def sgI (k : Nat) : Nat := match k with
  | 15 => 19
  | 16 => 20
  | 17 => 21
  | 18 => 22
  | 19 => 15
  | 20 => 16
  | 21 => 17
  | 22 => 18
  | k => k
def sgA (k : Nat) : Nat := match k with
  | 24 => 27
  | 25 => 28
  | 26 => 29
  | 27 => 24
  | 28 => 25
  | 29 => 26
  | k => k
def swA (ad : Nat → Nat) : Nat → Nat := fun k => ad (sgP k)
def swU (u : UU) : UU := (fun k => u.1 (sgI k), fun k => u.2.1 (sgA k), u.2.2)
def swP : List Nat := (List.range 43).map sgP
def woR (ad : Nat → Nat) (cI cZ : ClassId) (z : Bool × UU) : va_W := wH (cond z.1 (swA ad) ad) cI cZ z.2
theorem HSx_0_10 {ad : Nat → Nat} {cI cZ : ClassId} {bk dr v : Nat} {u : UU} : FS (wHx ad cI cZ bk dr u) (ad 0) 11 10 (.ref v) (wHx ad cI cZ v dr u) := ⟨0, _, rfl, Nat.le_of_ble_eq_true rfl, rfl⟩
theorem HSx_0_11 {ad : Nat → Nat} {cI cZ : ClassId} {bk dr v : Nat} {u : UU} : FS (wHx ad cI cZ bk dr u) (ad 0) 11 11 (.ref v) (wHx ad cI cZ bk v u) := ⟨0, _, rfl, Nat.le_of_ble_eq_true rfl, rfl⟩
def nwH : List Cond := [.methodLinkNest RX11 11 yX0_init "HailPads", .methodLinkNest RX11 18 yX3_init "HailPads", .methodLinkNest RX11 25 yX7_init "HailPads", .methodLinkNest RX11 59 yX4_init "HailPads", .methodLinkNest RX11 66 yX8_init "HailPads", .methodLinkNest RX11 82 yX1_init "HailPads", .methodLinkNest RX11 89 yX5_init "HailPads", .methodLinkNest RX0 25 yX11_isIn "HailPads", .methodLinkNest RX7 18 yX11_isIn "HailPads", .methodLinkNest RX10 92 yX11_isIn "HailPads", .methodLinkNest RX9 29 yX11_isIn "HailPads", .methodLinkNest RX4 15 yX11_isIn "HailPads", .methodLinkNest RX4 19 yX11_isPlace "HailPads", .methodLinkNest RX1 28 yX11_isIn "HailPads"]
theorem nwH_ok : nwH.all nwOk = true := rfl
def lenS : List Nat := [4, 4, 4, 5, 3, 4, 1]
def bytS : List (List Int32) := [[108, 111, 115, 115], [102, 114, 111, 109], [115, 117, 114, 101], [114, 97, 100, 97, 114], [111, 102, 102], [98, 101, 97, 114], [59]]
def idxS : List Nat := [50, 69, 71, 55, 57, 65, 44]
def txtS : List String := ["loss", "from", "sure", "radar", "off", "bear", ";"]
/-- what the class's methods find beside their own cells: links to nest mates, the String constants, two statics of the JDK's -/
def EH (kK kV : Nat → Nat) (A : Nat → Prop) (U : State) : Prop := (∀ w ∈ nwH, va_Nw w U) ∧ vk_S 7 lenS bytS kK kV A U U.heap ∧ (∀ i, i < 7 → vk_R RX6 (idxS.getD i 0) (txtS.getD i "") (kK i) U) ∧ va_Z "java/lang/String" "COMPACT_STRINGS" "Z" (.int 1) A U U.heap ∧ va_Zq "jdk/internal/util/Preconditions" "SIOOBE_FORMATTER" "Ljava/util/function/BiFunction;" A U U.heap
theorem EH_ok {kK kV : Nat → Nat} : EOk (EH kK kV) := by
  refine ⟨fun A U g mk a h => ?_, fun A B s U locs h hW hS hB => ?_⟩
  · obtain ⟨h1, h2, h3, h4, h5⟩ := h
    exact ⟨fun w hw => nw_same (s := U) (U := U.calling g mk a) (List.all_eq_true.mp nwH_ok w hw) rfl (h1 w hw), vk_S.moved (u := U) (U := U.calling g mk a) (Vm.Alike.refl U.vm) h2, fun i hi => vk_R.same (u := U) (U := U.calling g mk a) rfl (h3 i hi), va_Z.moved (u := U) (U := U.calling g mk a) (Vm.Alike.refl U.vm) h4, va_Zq.moved (u := U) (U := U.calling g mk a) (Vm.Alike.refl U.vm) h5⟩
  · obtain ⟨h1, h2, h3, h4, h5⟩ := h
    exact ⟨fun w hw => nw_warm (List.all_eq_true.mp nwH_ok w hw) hW (h1 w hw), ((vk_S.moved hW.alike h2).kept hS.2.1).narrow hB, fun i hi => vk_R.warm hW (h3 i hi), ((va_Z.moved hW.alike h4).kept hS.2.1).narrow hB, ((va_Zq.moved hW.alike h5).kept hS.2.1).narrow hB⟩
/-! the world wM: ints 0 thrown, 1 status, 2 boards, 3 dents, 4 rowMany, 5 trackA, 6 trackB, 7 trackWide, 8 mapSize, 9 mapSure, 10 rules, 11 nMany, 12 taped, 13 from, 14 to, 15 sort, 16 fault, 17 bad, 18 claims; arrays 0 bX, 1 bY, 2 bClear, 3 dPlace, 4 dWidth, 5 dKnown, 6 tableWidth, 7 tableSize, 8 widths, 9 raws, 10 trues, 11 hands, 12 leanings, 13 row, 14 sizes, 15 many, 16 isSeen, 17 isTaken, 18 radars, 19 rSort, 20 rA, 21 rB, 22 rC, 23 nRule, 24 tape, 25 cX, 26 cY, 27 cWorth, 28 cSaid; longs 0 worth -/
def wM (ad : Nat → Nat) (cI cZ : ClassId) (u : UU) : va_W := [(ad 0, .inr (12, [.int (u.1 0), .int (u.1 1), .int (u.1 2), .ref (ad 1), .ref (ad 2), .ref (ad 3), .int (u.1 3), .ref (ad 4), .ref (ad 5), .ref (ad 6), .ref (ad 7), .ref (ad 8), .ref (ad 9), .ref (ad 10), .ref (ad 11), .ref (ad 12), .ref (ad 13), .ref (ad 14), .int (u.1 4), .ref (ad 15), .ref (ad 16), .ref (ad 17), .int (u.1 5), .int (u.1 6), .int (u.1 7), .ref (ad 18), .int (u.1 8), .int (u.1 9), .ref (ad 19), .int (u.1 10), .ref (ad 20), .ref (ad 21), .ref (ad 22), .ref (ad 23), .int (u.1 11), .ref (ad 24), .ref (ad 25), .int (u.1 12), .int (u.1 13), .int (u.1 14), .int (u.1 15), .long (u.2.2 0), .int (u.1 16), .int (u.1 17), .int (u.1 18), .ref (ad 26), .ref (ad 27), .ref (ad 28), .ref (ad 29)])),
  (ad 1, .inl (cI, 30, .inl (u.2.1 0))),
  (ad 2, .inl (cI, 30, .inl (u.2.1 1))),
  (ad 3, .inl (cI, 30, .inl (u.2.1 2))),
  (ad 4, .inl (cI, 300, .inl (u.2.1 3))),
  (ad 5, .inl (cI, 300, .inl (u.2.1 4))),
  (ad 6, .inl (cI, 300, .inl (u.2.1 5))),
  (ad 7, .inl (cI, 8, .inl (u.2.1 6))),
  (ad 8, .inl (cI, 8, .inl (u.2.1 7))),
  (ad 9, .inl (cI, 2400, .inl (u.2.1 8))),
  (ad 10, .inl (cI, 300, .inl (u.2.1 9))),
  (ad 11, .inl (cI, 300, .inl (u.2.1 10))),
  (ad 12, .inl (cI, 300, .inl (u.2.1 11))),
  (ad 13, .inl (cI, 8, .inl (u.2.1 12))),
  (ad 14, .inl (cI, 300, .inl (u.2.1 13))),
  (ad 15, .inl (cI, 30, .inl (u.2.1 14))),
  (ad 16, .inl (cI, 30, .inl (u.2.1 15))),
  (ad 17, .inl (cZ, 30, .inl (u.2.1 16))),
  (ad 18, .inl (cZ, 30, .inl (u.2.1 17))),
  (ad 19, .inl (cI, 64, .inl (u.2.1 18))),
  (ad 20, .inl (cI, 20, .inl (u.2.1 19))),
  (ad 21, .inl (cI, 20, .inl (u.2.1 20))),
  (ad 22, .inl (cI, 20, .inl (u.2.1 21))),
  (ad 23, .inl (cI, 20, .inl (u.2.1 22))),
  (ad 24, .inl (cI, 80, .inl (u.2.1 23))),
  (ad 25, .inl (cI, 200, .inl (u.2.1 24))),
  (ad 26, .inl (cI, 40, .inl (u.2.1 25))),
  (ad 27, .inl (cI, 40, .inl (u.2.1 26))),
  (ad 28, .inl (cI, 40, .inl (u.2.1 27))),
  (ad 29, .inl (cI, 40, .inl (u.2.1 28)))]
section
variable {ad : Nat → Nat} {cI cZ : ClassId} {u : UU}
theorem MF_0_0 : FG (wM ad cI cZ u) (ad 0) 12 0 (.int (u.1 0)) := ⟨0, _, rfl, rfl⟩
theorem MS_0_0 {v : Int32} : FS (wM ad cI cZ u) (ad 0) 12 0 (.int v) (wM ad cI cZ (sI u 0 v)) := ⟨0, _, rfl, Nat.le_of_ble_eq_true rfl, rfl⟩
theorem MF_0_1 : FG (wM ad cI cZ u) (ad 0) 12 1 (.int (u.1 1)) := ⟨0, _, rfl, rfl⟩
theorem MS_0_1 {v : Int32} : FS (wM ad cI cZ u) (ad 0) 12 1 (.int v) (wM ad cI cZ (sI u 1 v)) := ⟨0, _, rfl, Nat.le_of_ble_eq_true rfl, rfl⟩
theorem MF_0_2 : FG (wM ad cI cZ u) (ad 0) 12 2 (.int (u.1 2)) := ⟨0, _, rfl, rfl⟩
theorem MS_0_2 {v : Int32} : FS (wM ad cI cZ u) (ad 0) 12 2 (.int v) (wM ad cI cZ (sI u 2 v)) := ⟨0, _, rfl, Nat.le_of_ble_eq_true rfl, rfl⟩
theorem MF_0_3 : FG (wM ad cI cZ u) (ad 0) 12 3 (.ref (ad 1)) := ⟨0, _, rfl, rfl⟩
theorem MF_0_4 : FG (wM ad cI cZ u) (ad 0) 12 4 (.ref (ad 2)) := ⟨0, _, rfl, rfl⟩
theorem MF_0_5 : FG (wM ad cI cZ u) (ad 0) 12 5 (.ref (ad 3)) := ⟨0, _, rfl, rfl⟩
theorem MF_0_6 : FG (wM ad cI cZ u) (ad 0) 12 6 (.int (u.1 3)) := ⟨0, _, rfl, rfl⟩
theorem MS_0_6 {v : Int32} : FS (wM ad cI cZ u) (ad 0) 12 6 (.int v) (wM ad cI cZ (sI u 3 v)) := ⟨0, _, rfl, Nat.le_of_ble_eq_true rfl, rfl⟩
theorem MF_0_7 : FG (wM ad cI cZ u) (ad 0) 12 7 (.ref (ad 4)) := ⟨0, _, rfl, rfl⟩
theorem MF_0_8 : FG (wM ad cI cZ u) (ad 0) 12 8 (.ref (ad 5)) := ⟨0, _, rfl, rfl⟩
theorem MF_0_9 : FG (wM ad cI cZ u) (ad 0) 12 9 (.ref (ad 6)) := ⟨0, _, rfl, rfl⟩
theorem MF_0_10 : FG (wM ad cI cZ u) (ad 0) 12 10 (.ref (ad 7)) := ⟨0, _, rfl, rfl⟩
theorem MF_0_11 : FG (wM ad cI cZ u) (ad 0) 12 11 (.ref (ad 8)) := ⟨0, _, rfl, rfl⟩
theorem MF_0_12 : FG (wM ad cI cZ u) (ad 0) 12 12 (.ref (ad 9)) := ⟨0, _, rfl, rfl⟩
theorem MF_0_13 : FG (wM ad cI cZ u) (ad 0) 12 13 (.ref (ad 10)) := ⟨0, _, rfl, rfl⟩
theorem MF_0_14 : FG (wM ad cI cZ u) (ad 0) 12 14 (.ref (ad 11)) := ⟨0, _, rfl, rfl⟩
theorem MF_0_15 : FG (wM ad cI cZ u) (ad 0) 12 15 (.ref (ad 12)) := ⟨0, _, rfl, rfl⟩
theorem MF_0_16 : FG (wM ad cI cZ u) (ad 0) 12 16 (.ref (ad 13)) := ⟨0, _, rfl, rfl⟩
theorem MF_0_17 : FG (wM ad cI cZ u) (ad 0) 12 17 (.ref (ad 14)) := ⟨0, _, rfl, rfl⟩
theorem MF_0_18 : FG (wM ad cI cZ u) (ad 0) 12 18 (.int (u.1 4)) := ⟨0, _, rfl, rfl⟩
theorem MS_0_18 {v : Int32} : FS (wM ad cI cZ u) (ad 0) 12 18 (.int v) (wM ad cI cZ (sI u 4 v)) := ⟨0, _, rfl, Nat.le_of_ble_eq_true rfl, rfl⟩
theorem MF_0_19 : FG (wM ad cI cZ u) (ad 0) 12 19 (.ref (ad 15)) := ⟨0, _, rfl, rfl⟩
theorem MF_0_20 : FG (wM ad cI cZ u) (ad 0) 12 20 (.ref (ad 16)) := ⟨0, _, rfl, rfl⟩
theorem MF_0_21 : FG (wM ad cI cZ u) (ad 0) 12 21 (.ref (ad 17)) := ⟨0, _, rfl, rfl⟩
theorem MF_0_22 : FG (wM ad cI cZ u) (ad 0) 12 22 (.int (u.1 5)) := ⟨0, _, rfl, rfl⟩
theorem MS_0_22 {v : Int32} : FS (wM ad cI cZ u) (ad 0) 12 22 (.int v) (wM ad cI cZ (sI u 5 v)) := ⟨0, _, rfl, Nat.le_of_ble_eq_true rfl, rfl⟩
theorem MF_0_23 : FG (wM ad cI cZ u) (ad 0) 12 23 (.int (u.1 6)) := ⟨0, _, rfl, rfl⟩
theorem MS_0_23 {v : Int32} : FS (wM ad cI cZ u) (ad 0) 12 23 (.int v) (wM ad cI cZ (sI u 6 v)) := ⟨0, _, rfl, Nat.le_of_ble_eq_true rfl, rfl⟩
theorem MF_0_24 : FG (wM ad cI cZ u) (ad 0) 12 24 (.int (u.1 7)) := ⟨0, _, rfl, rfl⟩
theorem MS_0_24 {v : Int32} : FS (wM ad cI cZ u) (ad 0) 12 24 (.int v) (wM ad cI cZ (sI u 7 v)) := ⟨0, _, rfl, Nat.le_of_ble_eq_true rfl, rfl⟩
theorem MF_0_25 : FG (wM ad cI cZ u) (ad 0) 12 25 (.ref (ad 18)) := ⟨0, _, rfl, rfl⟩
theorem MF_0_26 : FG (wM ad cI cZ u) (ad 0) 12 26 (.int (u.1 8)) := ⟨0, _, rfl, rfl⟩
theorem MS_0_26 {v : Int32} : FS (wM ad cI cZ u) (ad 0) 12 26 (.int v) (wM ad cI cZ (sI u 8 v)) := ⟨0, _, rfl, Nat.le_of_ble_eq_true rfl, rfl⟩
theorem MF_0_27 : FG (wM ad cI cZ u) (ad 0) 12 27 (.int (u.1 9)) := ⟨0, _, rfl, rfl⟩
theorem MS_0_27 {v : Int32} : FS (wM ad cI cZ u) (ad 0) 12 27 (.int v) (wM ad cI cZ (sI u 9 v)) := ⟨0, _, rfl, Nat.le_of_ble_eq_true rfl, rfl⟩
theorem MF_0_28 : FG (wM ad cI cZ u) (ad 0) 12 28 (.ref (ad 19)) := ⟨0, _, rfl, rfl⟩
theorem MF_0_29 : FG (wM ad cI cZ u) (ad 0) 12 29 (.int (u.1 10)) := ⟨0, _, rfl, rfl⟩
theorem MS_0_29 {v : Int32} : FS (wM ad cI cZ u) (ad 0) 12 29 (.int v) (wM ad cI cZ (sI u 10 v)) := ⟨0, _, rfl, Nat.le_of_ble_eq_true rfl, rfl⟩
theorem MF_0_30 : FG (wM ad cI cZ u) (ad 0) 12 30 (.ref (ad 20)) := ⟨0, _, rfl, rfl⟩
theorem MF_0_31 : FG (wM ad cI cZ u) (ad 0) 12 31 (.ref (ad 21)) := ⟨0, _, rfl, rfl⟩
theorem MF_0_32 : FG (wM ad cI cZ u) (ad 0) 12 32 (.ref (ad 22)) := ⟨0, _, rfl, rfl⟩
theorem MF_0_33 : FG (wM ad cI cZ u) (ad 0) 12 33 (.ref (ad 23)) := ⟨0, _, rfl, rfl⟩
theorem MF_0_34 : FG (wM ad cI cZ u) (ad 0) 12 34 (.int (u.1 11)) := ⟨0, _, rfl, rfl⟩
theorem MS_0_34 {v : Int32} : FS (wM ad cI cZ u) (ad 0) 12 34 (.int v) (wM ad cI cZ (sI u 11 v)) := ⟨0, _, rfl, Nat.le_of_ble_eq_true rfl, rfl⟩
theorem MF_0_35 : FG (wM ad cI cZ u) (ad 0) 12 35 (.ref (ad 24)) := ⟨0, _, rfl, rfl⟩
theorem MF_0_36 : FG (wM ad cI cZ u) (ad 0) 12 36 (.ref (ad 25)) := ⟨0, _, rfl, rfl⟩
theorem MF_0_37 : FG (wM ad cI cZ u) (ad 0) 12 37 (.int (u.1 12)) := ⟨0, _, rfl, rfl⟩
theorem MS_0_37 {v : Int32} : FS (wM ad cI cZ u) (ad 0) 12 37 (.int v) (wM ad cI cZ (sI u 12 v)) := ⟨0, _, rfl, Nat.le_of_ble_eq_true rfl, rfl⟩
theorem MF_0_38 : FG (wM ad cI cZ u) (ad 0) 12 38 (.int (u.1 13)) := ⟨0, _, rfl, rfl⟩
theorem MS_0_38 {v : Int32} : FS (wM ad cI cZ u) (ad 0) 12 38 (.int v) (wM ad cI cZ (sI u 13 v)) := ⟨0, _, rfl, Nat.le_of_ble_eq_true rfl, rfl⟩
theorem MF_0_39 : FG (wM ad cI cZ u) (ad 0) 12 39 (.int (u.1 14)) := ⟨0, _, rfl, rfl⟩
theorem MS_0_39 {v : Int32} : FS (wM ad cI cZ u) (ad 0) 12 39 (.int v) (wM ad cI cZ (sI u 14 v)) := ⟨0, _, rfl, Nat.le_of_ble_eq_true rfl, rfl⟩
theorem MF_0_40 : FG (wM ad cI cZ u) (ad 0) 12 40 (.int (u.1 15)) := ⟨0, _, rfl, rfl⟩
theorem MS_0_40 {v : Int32} : FS (wM ad cI cZ u) (ad 0) 12 40 (.int v) (wM ad cI cZ (sI u 15 v)) := ⟨0, _, rfl, Nat.le_of_ble_eq_true rfl, rfl⟩
theorem MF_0_41 : FG (wM ad cI cZ u) (ad 0) 12 41 (.long (u.2.2 0)) := ⟨0, _, rfl, rfl⟩
theorem MS_0_41 {v : Int64} : FS (wM ad cI cZ u) (ad 0) 12 41 (.long v) (wM ad cI cZ (sL u 0 v)) := ⟨0, _, rfl, Nat.le_of_ble_eq_true rfl, rfl⟩
theorem MF_0_42 : FG (wM ad cI cZ u) (ad 0) 12 42 (.int (u.1 16)) := ⟨0, _, rfl, rfl⟩
theorem MS_0_42 {v : Int32} : FS (wM ad cI cZ u) (ad 0) 12 42 (.int v) (wM ad cI cZ (sI u 16 v)) := ⟨0, _, rfl, Nat.le_of_ble_eq_true rfl, rfl⟩
theorem MF_0_43 : FG (wM ad cI cZ u) (ad 0) 12 43 (.int (u.1 17)) := ⟨0, _, rfl, rfl⟩
theorem MS_0_43 {v : Int32} : FS (wM ad cI cZ u) (ad 0) 12 43 (.int v) (wM ad cI cZ (sI u 17 v)) := ⟨0, _, rfl, Nat.le_of_ble_eq_true rfl, rfl⟩
theorem MF_0_44 : FG (wM ad cI cZ u) (ad 0) 12 44 (.int (u.1 18)) := ⟨0, _, rfl, rfl⟩
theorem MS_0_44 {v : Int32} : FS (wM ad cI cZ u) (ad 0) 12 44 (.int v) (wM ad cI cZ (sI u 18 v)) := ⟨0, _, rfl, Nat.le_of_ble_eq_true rfl, rfl⟩
theorem MF_0_45 : FG (wM ad cI cZ u) (ad 0) 12 45 (.ref (ad 26)) := ⟨0, _, rfl, rfl⟩
theorem MF_0_46 : FG (wM ad cI cZ u) (ad 0) 12 46 (.ref (ad 27)) := ⟨0, _, rfl, rfl⟩
theorem MF_0_47 : FG (wM ad cI cZ u) (ad 0) 12 47 (.ref (ad 28)) := ⟨0, _, rfl, rfl⟩
theorem MF_0_48 : FG (wM ad cI cZ u) (ad 0) 12 48 (.ref (ad 29)) := ⟨0, _, rfl, rfl⟩
theorem MA_1 : AG (wM ad cI cZ u) (ad 1) cI 30 (u.2.1 0) := ⟨1, rfl⟩
theorem MU_1 {g : Nat → Int32} : AS (wM ad cI cZ u) (ad 1) cI 30 (u.2.1 0) g (wM ad cI cZ (sA u 0 g)) := ⟨1, rfl, rfl⟩
theorem MA_2 : AG (wM ad cI cZ u) (ad 2) cI 30 (u.2.1 1) := ⟨2, rfl⟩
theorem MU_2 {g : Nat → Int32} : AS (wM ad cI cZ u) (ad 2) cI 30 (u.2.1 1) g (wM ad cI cZ (sA u 1 g)) := ⟨2, rfl, rfl⟩
theorem MA_3 : AG (wM ad cI cZ u) (ad 3) cI 30 (u.2.1 2) := ⟨3, rfl⟩
theorem MU_3 {g : Nat → Int32} : AS (wM ad cI cZ u) (ad 3) cI 30 (u.2.1 2) g (wM ad cI cZ (sA u 2 g)) := ⟨3, rfl, rfl⟩
theorem MA_4 : AG (wM ad cI cZ u) (ad 4) cI 300 (u.2.1 3) := ⟨4, rfl⟩
theorem MU_4 {g : Nat → Int32} : AS (wM ad cI cZ u) (ad 4) cI 300 (u.2.1 3) g (wM ad cI cZ (sA u 3 g)) := ⟨4, rfl, rfl⟩
theorem MA_5 : AG (wM ad cI cZ u) (ad 5) cI 300 (u.2.1 4) := ⟨5, rfl⟩
theorem MU_5 {g : Nat → Int32} : AS (wM ad cI cZ u) (ad 5) cI 300 (u.2.1 4) g (wM ad cI cZ (sA u 4 g)) := ⟨5, rfl, rfl⟩
theorem MA_6 : AG (wM ad cI cZ u) (ad 6) cI 300 (u.2.1 5) := ⟨6, rfl⟩
theorem MU_6 {g : Nat → Int32} : AS (wM ad cI cZ u) (ad 6) cI 300 (u.2.1 5) g (wM ad cI cZ (sA u 5 g)) := ⟨6, rfl, rfl⟩
theorem MA_7 : AG (wM ad cI cZ u) (ad 7) cI 8 (u.2.1 6) := ⟨7, rfl⟩
theorem MU_7 {g : Nat → Int32} : AS (wM ad cI cZ u) (ad 7) cI 8 (u.2.1 6) g (wM ad cI cZ (sA u 6 g)) := ⟨7, rfl, rfl⟩
theorem MA_8 : AG (wM ad cI cZ u) (ad 8) cI 8 (u.2.1 7) := ⟨8, rfl⟩
theorem MU_8 {g : Nat → Int32} : AS (wM ad cI cZ u) (ad 8) cI 8 (u.2.1 7) g (wM ad cI cZ (sA u 7 g)) := ⟨8, rfl, rfl⟩
theorem MA_9 : AG (wM ad cI cZ u) (ad 9) cI 2400 (u.2.1 8) := ⟨9, rfl⟩
theorem MU_9 {g : Nat → Int32} : AS (wM ad cI cZ u) (ad 9) cI 2400 (u.2.1 8) g (wM ad cI cZ (sA u 8 g)) := ⟨9, rfl, rfl⟩
theorem MA_10 : AG (wM ad cI cZ u) (ad 10) cI 300 (u.2.1 9) := ⟨10, rfl⟩
theorem MU_10 {g : Nat → Int32} : AS (wM ad cI cZ u) (ad 10) cI 300 (u.2.1 9) g (wM ad cI cZ (sA u 9 g)) := ⟨10, rfl, rfl⟩
theorem MA_11 : AG (wM ad cI cZ u) (ad 11) cI 300 (u.2.1 10) := ⟨11, rfl⟩
theorem MU_11 {g : Nat → Int32} : AS (wM ad cI cZ u) (ad 11) cI 300 (u.2.1 10) g (wM ad cI cZ (sA u 10 g)) := ⟨11, rfl, rfl⟩
theorem MA_12 : AG (wM ad cI cZ u) (ad 12) cI 300 (u.2.1 11) := ⟨12, rfl⟩
theorem MU_12 {g : Nat → Int32} : AS (wM ad cI cZ u) (ad 12) cI 300 (u.2.1 11) g (wM ad cI cZ (sA u 11 g)) := ⟨12, rfl, rfl⟩
theorem MA_13 : AG (wM ad cI cZ u) (ad 13) cI 8 (u.2.1 12) := ⟨13, rfl⟩
theorem MU_13 {g : Nat → Int32} : AS (wM ad cI cZ u) (ad 13) cI 8 (u.2.1 12) g (wM ad cI cZ (sA u 12 g)) := ⟨13, rfl, rfl⟩
theorem MA_14 : AG (wM ad cI cZ u) (ad 14) cI 300 (u.2.1 13) := ⟨14, rfl⟩
theorem MU_14 {g : Nat → Int32} : AS (wM ad cI cZ u) (ad 14) cI 300 (u.2.1 13) g (wM ad cI cZ (sA u 13 g)) := ⟨14, rfl, rfl⟩
theorem MA_15 : AG (wM ad cI cZ u) (ad 15) cI 30 (u.2.1 14) := ⟨15, rfl⟩
theorem MU_15 {g : Nat → Int32} : AS (wM ad cI cZ u) (ad 15) cI 30 (u.2.1 14) g (wM ad cI cZ (sA u 14 g)) := ⟨15, rfl, rfl⟩
theorem MA_16 : AG (wM ad cI cZ u) (ad 16) cI 30 (u.2.1 15) := ⟨16, rfl⟩
theorem MU_16 {g : Nat → Int32} : AS (wM ad cI cZ u) (ad 16) cI 30 (u.2.1 15) g (wM ad cI cZ (sA u 15 g)) := ⟨16, rfl, rfl⟩
theorem MA_17 : AG (wM ad cI cZ u) (ad 17) cZ 30 (u.2.1 16) := ⟨17, rfl⟩
theorem MU_17 {g : Nat → Int32} : AS (wM ad cI cZ u) (ad 17) cZ 30 (u.2.1 16) g (wM ad cI cZ (sA u 16 g)) := ⟨17, rfl, rfl⟩
theorem MA_18 : AG (wM ad cI cZ u) (ad 18) cZ 30 (u.2.1 17) := ⟨18, rfl⟩
theorem MU_18 {g : Nat → Int32} : AS (wM ad cI cZ u) (ad 18) cZ 30 (u.2.1 17) g (wM ad cI cZ (sA u 17 g)) := ⟨18, rfl, rfl⟩
theorem MA_19 : AG (wM ad cI cZ u) (ad 19) cI 64 (u.2.1 18) := ⟨19, rfl⟩
theorem MU_19 {g : Nat → Int32} : AS (wM ad cI cZ u) (ad 19) cI 64 (u.2.1 18) g (wM ad cI cZ (sA u 18 g)) := ⟨19, rfl, rfl⟩
theorem MA_20 : AG (wM ad cI cZ u) (ad 20) cI 20 (u.2.1 19) := ⟨20, rfl⟩
theorem MU_20 {g : Nat → Int32} : AS (wM ad cI cZ u) (ad 20) cI 20 (u.2.1 19) g (wM ad cI cZ (sA u 19 g)) := ⟨20, rfl, rfl⟩
theorem MA_21 : AG (wM ad cI cZ u) (ad 21) cI 20 (u.2.1 20) := ⟨21, rfl⟩
theorem MU_21 {g : Nat → Int32} : AS (wM ad cI cZ u) (ad 21) cI 20 (u.2.1 20) g (wM ad cI cZ (sA u 20 g)) := ⟨21, rfl, rfl⟩
theorem MA_22 : AG (wM ad cI cZ u) (ad 22) cI 20 (u.2.1 21) := ⟨22, rfl⟩
theorem MU_22 {g : Nat → Int32} : AS (wM ad cI cZ u) (ad 22) cI 20 (u.2.1 21) g (wM ad cI cZ (sA u 21 g)) := ⟨22, rfl, rfl⟩
theorem MA_23 : AG (wM ad cI cZ u) (ad 23) cI 20 (u.2.1 22) := ⟨23, rfl⟩
theorem MU_23 {g : Nat → Int32} : AS (wM ad cI cZ u) (ad 23) cI 20 (u.2.1 22) g (wM ad cI cZ (sA u 22 g)) := ⟨23, rfl, rfl⟩
theorem MA_24 : AG (wM ad cI cZ u) (ad 24) cI 80 (u.2.1 23) := ⟨24, rfl⟩
theorem MU_24 {g : Nat → Int32} : AS (wM ad cI cZ u) (ad 24) cI 80 (u.2.1 23) g (wM ad cI cZ (sA u 23 g)) := ⟨24, rfl, rfl⟩
theorem MA_25 : AG (wM ad cI cZ u) (ad 25) cI 200 (u.2.1 24) := ⟨25, rfl⟩
theorem MU_25 {g : Nat → Int32} : AS (wM ad cI cZ u) (ad 25) cI 200 (u.2.1 24) g (wM ad cI cZ (sA u 24 g)) := ⟨25, rfl, rfl⟩
theorem MA_26 : AG (wM ad cI cZ u) (ad 26) cI 40 (u.2.1 25) := ⟨26, rfl⟩
theorem MU_26 {g : Nat → Int32} : AS (wM ad cI cZ u) (ad 26) cI 40 (u.2.1 25) g (wM ad cI cZ (sA u 25 g)) := ⟨26, rfl, rfl⟩
theorem MA_27 : AG (wM ad cI cZ u) (ad 27) cI 40 (u.2.1 26) := ⟨27, rfl⟩
theorem MU_27 {g : Nat → Int32} : AS (wM ad cI cZ u) (ad 27) cI 40 (u.2.1 26) g (wM ad cI cZ (sA u 26 g)) := ⟨27, rfl, rfl⟩
theorem MA_28 : AG (wM ad cI cZ u) (ad 28) cI 40 (u.2.1 27) := ⟨28, rfl⟩
theorem MU_28 {g : Nat → Int32} : AS (wM ad cI cZ u) (ad 28) cI 40 (u.2.1 27) g (wM ad cI cZ (sA u 27 g)) := ⟨28, rfl, rfl⟩
theorem MA_29 : AG (wM ad cI cZ u) (ad 29) cI 40 (u.2.1 28) := ⟨29, rfl⟩
theorem MU_29 {g : Nat → Int32} : AS (wM ad cI cZ u) (ad 29) cI 40 (u.2.1 28) g (wM ad cI cZ (sA u 28 g)) := ⟨29, rfl, rfl⟩
end
def EM (_ : Nat → Prop) (_ : State) : Prop := True
theorem EM_ok : EOk EM := ⟨fun _ _ _ _ _ _ => trivial, fun _ _ _ _ _ _ _ _ _ => trivial⟩
