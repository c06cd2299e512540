theorem zcbipush_m9 : (Int8.ofInt (-9)).toInt32 = (-9) := by decide
theorem zcbipush_m4 : (Int8.ofInt (-4)).toInt32 = (-4) := by decide
theorem zcbipush_m3 : (Int8.ofInt (-3)).toInt32 = (-3) := by decide
theorem zcbipush_m2 : (Int8.ofInt (-2)).toInt32 = (-2) := by decide
theorem zcbipush_6 : (Int8.ofInt 6).toInt32 = 6 := by decide
theorem zcbipush_7 : (Int8.ofInt 7).toInt32 = 7 := by decide
theorem zcbipush_8 : (Int8.ofInt 8).toInt32 = 8 := by decide
theorem zcbipush_9 : (Int8.ofInt 9).toInt32 = 9 := by decide
theorem zcbipush_10 : (Int8.ofInt 10).toInt32 = 10 := by decide
theorem zcbipush_11 : (Int8.ofInt 11).toInt32 = 11 := by decide
theorem zcbipush_16 : (Int8.ofInt 16).toInt32 = 16 := by decide
theorem zcbipush_25 : (Int8.ofInt 25).toInt32 = 25 := by decide
theorem zcbipush_36 : (Int8.ofInt 36).toInt32 = 36 := by decide
theorem zcbipush_63 : (Int8.ofInt 63).toInt32 = 63 := by decide
theorem zciconst_m1 : Int32.ofInt (-1) = (-1) := by decide
theorem zciconst_0 : Int32.ofInt 0 = 0 := by decide
theorem zciconst_1 : Int32.ofInt 1 = 1 := by decide
theorem zciconst_2 : Int32.ofInt 2 = 2 := by decide
theorem zciconst_3 : Int32.ofInt 3 = 3 := by decide
theorem zciconst_4 : Int32.ofInt 4 = 4 := by decide
theorem zciconst_5 : Int32.ofInt 5 = 5 := by decide
theorem zclconst_0 : Int64.ofNat ((0 : Fin 2) : Nat) = 0 := by decide
theorem zclconst_1 : Int64.ofNat ((1 : Fin 2) : Nat) = 1 := by decide
theorem zcsipush_288 : (Int16.ofInt 288).toInt32 = 288 := by decide
