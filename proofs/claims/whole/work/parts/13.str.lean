theorem st_ldcS_1 {bytes : ByteArray} {ret : Option FieldType} {nm : String} {nL lv pc n : Nat} (hd : decode bytes pc = .ok (.ldc 79, 2)) (hn : pc + 2 = n) : SOK RX1 bytes ret nm nL lv pc (x_push (vR 1) n) := by
  sorry
theorem st_ldcS_2 {bytes : ByteArray} {ret : Option FieldType} {nm : String} {nL lv pc n : Nat} (hd : decode bytes pc = .ok (.ldc 85, 2)) (hn : pc + 2 = n) : SOK RX1 bytes ret nm nL lv pc (x_push (vR 2) n) := by
  sorry
theorem st_ldcS_3 {bytes : ByteArray} {ret : Option FieldType} {nm : String} {nL lv pc n : Nat} (hd : decode bytes pc = .ok (.ldc 87, 2)) (hn : pc + 2 = n) : SOK RX1 bytes ret nm nL lv pc (x_push (vR 3) n) := by
  sorry
theorem st_ldcS_4 {bytes : ByteArray} {ret : Option FieldType} {nm : String} {nL lv pc n : Nat} (hd : decode bytes pc = .ok (.ldc 89, 2)) (hn : pc + 2 = n) : SOK RX1 bytes ret nm nL lv pc (x_push (vR 4) n) := by
  sorry
theorem st_ldcS_5 {bytes : ByteArray} {ret : Option FieldType} {nm : String} {nL lv pc n : Nat} (hd : decode bytes pc = .ok (.ldc 91, 2)) (hn : pc + 2 = n) : SOK RX1 bytes ret nm nL lv pc (x_push (vR 5) n) := by
  sorry
theorem st_ldcS_6 {bytes : ByteArray} {ret : Option FieldType} {nm : String} {nL lv pc n : Nat} (hd : decode bytes pc = .ok (.ldc 93, 2)) (hn : pc + 2 = n) : SOK RX1 bytes ret nm nL lv pc (x_push (vR 6) n) := by
  sorry
theorem st_ldcS_7 {bytes : ByteArray} {ret : Option FieldType} {nm : String} {nL lv pc n : Nat} (hd : decode bytes pc = .ok (.ldc 95, 2)) (hn : pc + 2 = n) : SOK RX1 bytes ret nm nL lv pc (x_push (vR 7) n) := by
  sorry
theorem st_tlen {bytes : ByteArray} {ret : Option FieldType} {nm : String} {nL pc n : Nat} {idx : Nat} (hd : decode bytes pc = .ok (.invokevirtual idx, 3)) (hn : pc + 3 = n) : SOK RX1 bytes ret nm nL 5 pc (x_tlen n) := by
  sorry
theorem st_tchr {bytes : ByteArray} {ret : Option FieldType} {nm : String} {nL pc n : Nat} {idx : Nat} (hd : decode bytes pc = .ok (.invokevirtual idx, 3)) (hn : pc + 3 = n) : SOK RX1 bytes ret nm nL 5 pc (x_tchr n) := by
  sorry
