/-! the stretches of the code, by program (gen16.py) -/
theorem zs_Int_bitCount : zsrt zc_Int_bitCount = true := by decide +kernel
set_option maxRecDepth 100000 in
theorem sg_Int_bitCount_0 {C : zC} {Q : zQ} (hC : zCm C) (a : Int32) (m : zM) (h :
    Q (some (.int ((((((((a - (((a.toUInt32 >>> ((1 : Int32).toUInt32 &&& Int32.toUInt32 31)).toInt32) &&& (1431655765 : Int32))) &&& (858993459 : Int32)) + ((((a - (((a.toUInt32 >>> ((1 : Int32).toUInt32 &&& Int32.toUInt32 31)).toInt32) &&& (1431655765 : Int32))).toUInt32 >>> ((2 : Int32).toUInt32 &&& Int32.toUInt32 31)).toInt32) &&& (858993459 : Int32))) + (((((a - (((a.toUInt32 >>> ((1 : Int32).toUInt32 &&& Int32.toUInt32 31)).toInt32) &&& (1431655765 : Int32))) &&& (858993459 : Int32)) + ((((a - (((a.toUInt32 >>> ((1 : Int32).toUInt32 &&& Int32.toUInt32 31)).toInt32) &&& (1431655765 : Int32))).toUInt32 >>> ((2 : Int32).toUInt32 &&& Int32.toUInt32 31)).toInt32) &&& (858993459 : Int32))).toUInt32 >>> ((4 : Int32).toUInt32 &&& Int32.toUInt32 31)).toInt32)) &&& (252645135 : Int32)) + (((((((a - (((a.toUInt32 >>> ((1 : Int32).toUInt32 &&& Int32.toUInt32 31)).toInt32) &&& (1431655765 : Int32))) &&& (858993459 : Int32)) + ((((a - (((a.toUInt32 >>> ((1 : Int32).toUInt32 &&& Int32.toUInt32 31)).toInt32) &&& (1431655765 : Int32))).toUInt32 >>> ((2 : Int32).toUInt32 &&& Int32.toUInt32 31)).toInt32) &&& (858993459 : Int32))) + (((((a - (((a.toUInt32 >>> ((1 : Int32).toUInt32 &&& Int32.toUInt32 31)).toInt32) &&& (1431655765 : Int32))) &&& (858993459 : Int32)) + ((((a - (((a.toUInt32 >>> ((1 : Int32).toUInt32 &&& Int32.toUInt32 31)).toInt32) &&& (1431655765 : Int32))).toUInt32 >>> ((2 : Int32).toUInt32 &&& Int32.toUInt32 31)).toInt32) &&& (858993459 : Int32))).toUInt32 >>> ((4 : Int32).toUInt32 &&& Int32.toUInt32 31)).toInt32)) &&& (252645135 : Int32)).toUInt32 >>> ((8 : Int32).toUInt32 &&& Int32.toUInt32 31)).toInt32)) + ((((((((a - (((a.toUInt32 >>> ((1 : Int32).toUInt32 &&& Int32.toUInt32 31)).toInt32) &&& (1431655765 : Int32))) &&& (858993459 : Int32)) + ((((a - (((a.toUInt32 >>> ((1 : Int32).toUInt32 &&& Int32.toUInt32 31)).toInt32) &&& (1431655765 : Int32))).toUInt32 >>> ((2 : Int32).toUInt32 &&& Int32.toUInt32 31)).toInt32) &&& (858993459 : Int32))) + (((((a - (((a.toUInt32 >>> ((1 : Int32).toUInt32 &&& Int32.toUInt32 31)).toInt32) &&& (1431655765 : Int32))) &&& (858993459 : Int32)) + ((((a - (((a.toUInt32 >>> ((1 : Int32).toUInt32 &&& Int32.toUInt32 31)).toInt32) &&& (1431655765 : Int32))).toUInt32 >>> ((2 : Int32).toUInt32 &&& Int32.toUInt32 31)).toInt32) &&& (858993459 : Int32))).toUInt32 >>> ((4 : Int32).toUInt32 &&& Int32.toUInt32 31)).toInt32)) &&& (252645135 : Int32)) + (((((((a - (((a.toUInt32 >>> ((1 : Int32).toUInt32 &&& Int32.toUInt32 31)).toInt32) &&& (1431655765 : Int32))) &&& (858993459 : Int32)) + ((((a - (((a.toUInt32 >>> ((1 : Int32).toUInt32 &&& Int32.toUInt32 31)).toInt32) &&& (1431655765 : Int32))).toUInt32 >>> ((2 : Int32).toUInt32 &&& Int32.toUInt32 31)).toInt32) &&& (858993459 : Int32))) + (((((a - (((a.toUInt32 >>> ((1 : Int32).toUInt32 &&& Int32.toUInt32 31)).toInt32) &&& (1431655765 : Int32))) &&& (858993459 : Int32)) + ((((a - (((a.toUInt32 >>> ((1 : Int32).toUInt32 &&& Int32.toUInt32 31)).toInt32) &&& (1431655765 : Int32))).toUInt32 >>> ((2 : Int32).toUInt32 &&& Int32.toUInt32 31)).toInt32) &&& (858993459 : Int32))).toUInt32 >>> ((4 : Int32).toUInt32 &&& Int32.toUInt32 31)).toInt32)) &&& (252645135 : Int32)).toUInt32 >>> ((8 : Int32).toUInt32 &&& Int32.toUInt32 31)).toInt32)).toUInt32 >>> ((16 : Int32).toUInt32 &&& Int32.toUInt32 31)).toInt32)) &&& (63 : Int32)))) m) :
    zRun C 13 (some .int) zc_Int_bitCount Q 0 [.int a] [] m := zgo [] hC zs_Int_bitCount (i := .iload_n 0) (r := zfind zc_Int_bitCount 1) rfl h
theorem en_Int_bitCount (dd : Nat) {Q : zQ} (a : Int32) (m : zM) (h : zRun (zCall dd) 13 (some .int) zc_Int_bitCount Q 0 [.int a] [] m) : zCall (dd + 1) m_Int_bitCount [.int a] m Q := ⟨Nat.le_of_ble_eq_true rfl, h⟩
theorem zs_Str_length : zsrt zc_Str_length = true := by decide +kernel
set_option maxRecDepth 100000 in
theorem sg_Str_length_7_0 {C : zC} {Q : zQ} (hC : zCm C) (m : zM) (h :
    C m_Str_coder [.ref 7] m (fun o1 m2 => ∃ x3, o1 = some (.int x3) ∧ (Q (some (.int ((4 : Int32) >>> (x3 &&& 31)))) m2))) :
    zRun C 10 (some .int) zc_Str_length Q 0 [.ref 7] [] m := zgo [] hC zs_Str_length (i := .aload_n 0) (r := zfind zc_Str_length 1) rfl h
theorem en_Str_length_7 (dd : Nat) {Q : zQ} (m : zM) (h : zRun (zCall dd) 10 (some .int) zc_Str_length Q 0 [.ref 7] [] m) : zCall (dd + 1) m_Str_length [.ref 7] m Q := ⟨Nat.le_of_ble_eq_true rfl, h⟩
set_option maxRecDepth 100000 in
theorem sg_Str_length_8_0 {C : zC} {Q : zQ} (hC : zCm C) (m : zM) (h :
    C m_Str_coder [.ref 8] m (fun o1 m2 => ∃ x3, o1 = some (.int x3) ∧ (Q (some (.int ((5 : Int32) >>> (x3 &&& 31)))) m2))) :
    zRun C 10 (some .int) zc_Str_length Q 0 [.ref 8] [] m := zgo [] hC zs_Str_length (i := .aload_n 0) (r := zfind zc_Str_length 1) rfl h
theorem en_Str_length_8 (dd : Nat) {Q : zQ} (m : zM) (h : zRun (zCall dd) 10 (some .int) zc_Str_length Q 0 [.ref 8] [] m) : zCall (dd + 1) m_Str_length [.ref 8] m Q := ⟨Nat.le_of_ble_eq_true rfl, h⟩
set_option maxRecDepth 100000 in
theorem sg_Str_length_9_0 {C : zC} {Q : zQ} (hC : zCm C) (m : zM) (h :
    C m_Str_coder [.ref 9] m (fun o1 m2 => ∃ x3, o1 = some (.int x3) ∧ (Q (some (.int ((5 : Int32) >>> (x3 &&& 31)))) m2))) :
    zRun C 10 (some .int) zc_Str_length Q 0 [.ref 9] [] m := zgo [] hC zs_Str_length (i := .aload_n 0) (r := zfind zc_Str_length 1) rfl h
theorem en_Str_length_9 (dd : Nat) {Q : zQ} (m : zM) (h : zRun (zCall dd) 10 (some .int) zc_Str_length Q 0 [.ref 9] [] m) : zCall (dd + 1) m_Str_length [.ref 9] m Q := ⟨Nat.le_of_ble_eq_true rfl, h⟩
set_option maxRecDepth 100000 in
theorem sg_Str_length_10_0 {C : zC} {Q : zQ} (hC : zCm C) (m : zM) (h :
    C m_Str_coder [.ref 10] m (fun o1 m2 => ∃ x3, o1 = some (.int x3) ∧ (Q (some (.int ((4 : Int32) >>> (x3 &&& 31)))) m2))) :
    zRun C 10 (some .int) zc_Str_length Q 0 [.ref 10] [] m := zgo [] hC zs_Str_length (i := .aload_n 0) (r := zfind zc_Str_length 1) rfl h
theorem en_Str_length_10 (dd : Nat) {Q : zQ} (m : zM) (h : zRun (zCall dd) 10 (some .int) zc_Str_length Q 0 [.ref 10] [] m) : zCall (dd + 1) m_Str_length [.ref 10] m Q := ⟨Nat.le_of_ble_eq_true rfl, h⟩
theorem zs_Str_charAt : zsrt zc_Str_charAt = true := by decide +kernel
set_option maxRecDepth 100000 in
theorem sg_Str_charAt_7_0 {C : zC} {Q : zQ} (hC : zCm C) (a : Int32) (m : zM) (h :
    C m_Str_isLatin1 [.ref 7] m (fun o1 m2 => ∃ x3, o1 = some (.int x3) ∧ (if x3 = (0 : Int32) then False
    else C m_Lat_charAt [.ref 14, .int a] m2 (fun o4 m5 => ∃ x6, o4 = some (.int x6) ∧ (x6.toUInt32.toUInt16.toUInt32.toInt32 = x6 ∧ Q (some (.int x6)) m5))))) :
    zRun C 10 (some .char) zc_Str_charAt Q 0 [.ref 7, .int a] [] m := zgo [] hC zs_Str_charAt (i := .aload_n 0) (r := zfind zc_Str_charAt 1) rfl h
theorem en_Str_charAt_7 (dd : Nat) {Q : zQ} (a : Int32) (m : zM) (h : zRun (zCall dd) 10 (some .char) zc_Str_charAt Q 0 [.ref 7, .int a] [] m) : zCall (dd + 1) m_Str_charAt [.ref 7, .int a] m Q := ⟨Nat.le_of_ble_eq_true rfl, h⟩
set_option maxRecDepth 100000 in
theorem sg_Str_charAt_8_0 {C : zC} {Q : zQ} (hC : zCm C) (a : Int32) (m : zM) (h :
    C m_Str_isLatin1 [.ref 8] m (fun o1 m2 => ∃ x3, o1 = some (.int x3) ∧ (if x3 = (0 : Int32) then False
    else C m_Lat_charAt [.ref 15, .int a] m2 (fun o4 m5 => ∃ x6, o4 = some (.int x6) ∧ (x6.toUInt32.toUInt16.toUInt32.toInt32 = x6 ∧ Q (some (.int x6)) m5))))) :
    zRun C 10 (some .char) zc_Str_charAt Q 0 [.ref 8, .int a] [] m := zgo [] hC zs_Str_charAt (i := .aload_n 0) (r := zfind zc_Str_charAt 1) rfl h
theorem en_Str_charAt_8 (dd : Nat) {Q : zQ} (a : Int32) (m : zM) (h : zRun (zCall dd) 10 (some .char) zc_Str_charAt Q 0 [.ref 8, .int a] [] m) : zCall (dd + 1) m_Str_charAt [.ref 8, .int a] m Q := ⟨Nat.le_of_ble_eq_true rfl, h⟩
set_option maxRecDepth 100000 in
theorem sg_Str_charAt_9_0 {C : zC} {Q : zQ} (hC : zCm C) (a : Int32) (m : zM) (h :
    C m_Str_isLatin1 [.ref 9] m (fun o1 m2 => ∃ x3, o1 = some (.int x3) ∧ (if x3 = (0 : Int32) then False
    else C m_Lat_charAt [.ref 16, .int a] m2 (fun o4 m5 => ∃ x6, o4 = some (.int x6) ∧ (x6.toUInt32.toUInt16.toUInt32.toInt32 = x6 ∧ Q (some (.int x6)) m5))))) :
    zRun C 10 (some .char) zc_Str_charAt Q 0 [.ref 9, .int a] [] m := zgo [] hC zs_Str_charAt (i := .aload_n 0) (r := zfind zc_Str_charAt 1) rfl h
theorem en_Str_charAt_9 (dd : Nat) {Q : zQ} (a : Int32) (m : zM) (h : zRun (zCall dd) 10 (some .char) zc_Str_charAt Q 0 [.ref 9, .int a] [] m) : zCall (dd + 1) m_Str_charAt [.ref 9, .int a] m Q := ⟨Nat.le_of_ble_eq_true rfl, h⟩
set_option maxRecDepth 100000 in
theorem sg_Str_charAt_10_0 {C : zC} {Q : zQ} (hC : zCm C) (a : Int32) (m : zM) (h :
    C m_Str_isLatin1 [.ref 10] m (fun o1 m2 => ∃ x3, o1 = some (.int x3) ∧ (if x3 = (0 : Int32) then False
    else C m_Lat_charAt [.ref 17, .int a] m2 (fun o4 m5 => ∃ x6, o4 = some (.int x6) ∧ (x6.toUInt32.toUInt16.toUInt32.toInt32 = x6 ∧ Q (some (.int x6)) m5))))) :
    zRun C 10 (some .char) zc_Str_charAt Q 0 [.ref 10, .int a] [] m := zgo [] hC zs_Str_charAt (i := .aload_n 0) (r := zfind zc_Str_charAt 1) rfl h
theorem en_Str_charAt_10 (dd : Nat) {Q : zQ} (a : Int32) (m : zM) (h : zRun (zCall dd) 10 (some .char) zc_Str_charAt Q 0 [.ref 10, .int a] [] m) : zCall (dd + 1) m_Str_charAt [.ref 10, .int a] m Q := ⟨Nat.le_of_ble_eq_true rfl, h⟩
theorem zs_Str_indexOf : zsrt zc_Str_indexOf = true := by decide +kernel
set_option maxRecDepth 100000 in
theorem sg_Str_indexOf_4_0 {C : zC} {Q : zQ} (hC : zCm C) (a : Int32) (m : zM) (h :
    C m_Str_indexOf2 [.ref 4, .int a, .int (0 : Int32)] m (fun o1 m2 => ∃ x3, o1 = some (.int x3) ∧ (Q (some (.int x3)) m2))) :
    zRun C 10 (some .int) zc_Str_indexOf Q 0 [.ref 4, .int a] [] m := zgo [] hC zs_Str_indexOf (i := .aload_n 0) (r := zfind zc_Str_indexOf 1) rfl h
theorem en_Str_indexOf_4 (dd : Nat) {Q : zQ} (a : Int32) (m : zM) (h : zRun (zCall dd) 10 (some .int) zc_Str_indexOf Q 0 [.ref 4, .int a] [] m) : zCall (dd + 1) m_Str_indexOf [.ref 4, .int a] m Q := ⟨Nat.le_of_ble_eq_true rfl, h⟩
set_option maxRecDepth 100000 in
theorem sg_Str_indexOf_5_0 {C : zC} {Q : zQ} (hC : zCm C) (a : Int32) (m : zM) (h :
    C m_Str_indexOf2 [.ref 5, .int a, .int (0 : Int32)] m (fun o1 m2 => ∃ x3, o1 = some (.int x3) ∧ (Q (some (.int x3)) m2))) :
    zRun C 10 (some .int) zc_Str_indexOf Q 0 [.ref 5, .int a] [] m := zgo [] hC zs_Str_indexOf (i := .aload_n 0) (r := zfind zc_Str_indexOf 1) rfl h
theorem en_Str_indexOf_5 (dd : Nat) {Q : zQ} (a : Int32) (m : zM) (h : zRun (zCall dd) 10 (some .int) zc_Str_indexOf Q 0 [.ref 5, .int a] [] m) : zCall (dd + 1) m_Str_indexOf [.ref 5, .int a] m Q := ⟨Nat.le_of_ble_eq_true rfl, h⟩
set_option maxRecDepth 100000 in
theorem sg_Str_indexOf_6_0 {C : zC} {Q : zQ} (hC : zCm C) (a : Int32) (m : zM) (h :
    C m_Str_indexOf2 [.ref 6, .int a, .int (0 : Int32)] m (fun o1 m2 => ∃ x3, o1 = some (.int x3) ∧ (Q (some (.int x3)) m2))) :
    zRun C 10 (some .int) zc_Str_indexOf Q 0 [.ref 6, .int a] [] m := zgo [] hC zs_Str_indexOf (i := .aload_n 0) (r := zfind zc_Str_indexOf 1) rfl h
theorem en_Str_indexOf_6 (dd : Nat) {Q : zQ} (a : Int32) (m : zM) (h : zRun (zCall dd) 10 (some .int) zc_Str_indexOf Q 0 [.ref 6, .int a] [] m) : zCall (dd + 1) m_Str_indexOf [.ref 6, .int a] m Q := ⟨Nat.le_of_ble_eq_true rfl, h⟩
theorem zs_Str_indexOf2 : zsrt zc_Str_indexOf2 = true := by decide +kernel
set_option maxRecDepth 100000 in
theorem sg_Str_indexOf2_4_0 {C : zC} {Q : zQ} (hC : zCm C) (a : Int32) (b : Int32) (m : zM) (h :
    C m_Str_isLatin1 [.ref 4] m (fun o1 m2 => ∃ x3, o1 = some (.int x3) ∧ (if x3 = (0 : Int32) then C m_Str_length [.ref 4] m2 (fun o4 m5 => ∃ x6, o4 = some (.int x6) ∧ (False))
    else C m_Str_length [.ref 4] m2 (fun o7 m8 => ∃ x9, o7 = some (.int x9) ∧ (C m_Lat_indexOf [.ref 11, .int a, .int b, .int x9] m8 (fun o10 m11 => ∃ x12, o10 = some (.int x12) ∧ (Q (some (.int x12)) m11))))))) :
    zRun C 10 (some .int) zc_Str_indexOf2 Q 0 [.ref 4, .int a, .int b] [] m := zgo [] hC zs_Str_indexOf2 (i := .aload_n 0) (r := zfind zc_Str_indexOf2 1) rfl h
theorem en_Str_indexOf2_4 (dd : Nat) {Q : zQ} (a : Int32) (b : Int32) (m : zM) (h : zRun (zCall dd) 10 (some .int) zc_Str_indexOf2 Q 0 [.ref 4, .int a, .int b] [] m) : zCall (dd + 1) m_Str_indexOf2 [.ref 4, .int a, .int b] m Q := ⟨Nat.le_of_ble_eq_true rfl, h⟩
set_option maxRecDepth 100000 in
theorem sg_Str_indexOf2_5_0 {C : zC} {Q : zQ} (hC : zCm C) (a : Int32) (b : Int32) (m : zM) (h :
    C m_Str_isLatin1 [.ref 5] m (fun o1 m2 => ∃ x3, o1 = some (.int x3) ∧ (if x3 = (0 : Int32) then C m_Str_length [.ref 5] m2 (fun o4 m5 => ∃ x6, o4 = some (.int x6) ∧ (False))
    else C m_Str_length [.ref 5] m2 (fun o7 m8 => ∃ x9, o7 = some (.int x9) ∧ (C m_Lat_indexOf [.ref 12, .int a, .int b, .int x9] m8 (fun o10 m11 => ∃ x12, o10 = some (.int x12) ∧ (Q (some (.int x12)) m11))))))) :
    zRun C 10 (some .int) zc_Str_indexOf2 Q 0 [.ref 5, .int a, .int b] [] m := zgo [] hC zs_Str_indexOf2 (i := .aload_n 0) (r := zfind zc_Str_indexOf2 1) rfl h
theorem en_Str_indexOf2_5 (dd : Nat) {Q : zQ} (a : Int32) (b : Int32) (m : zM) (h : zRun (zCall dd) 10 (some .int) zc_Str_indexOf2 Q 0 [.ref 5, .int a, .int b] [] m) : zCall (dd + 1) m_Str_indexOf2 [.ref 5, .int a, .int b] m Q := ⟨Nat.le_of_ble_eq_true rfl, h⟩
set_option maxRecDepth 100000 in
theorem sg_Str_indexOf2_6_0 {C : zC} {Q : zQ} (hC : zCm C) (a : Int32) (b : Int32) (m : zM) (h :
    C m_Str_isLatin1 [.ref 6] m (fun o1 m2 => ∃ x3, o1 = some (.int x3) ∧ (if x3 = (0 : Int32) then C m_Str_length [.ref 6] m2 (fun o4 m5 => ∃ x6, o4 = some (.int x6) ∧ (False))
    else C m_Str_length [.ref 6] m2 (fun o7 m8 => ∃ x9, o7 = some (.int x9) ∧ (C m_Lat_indexOf [.ref 13, .int a, .int b, .int x9] m8 (fun o10 m11 => ∃ x12, o10 = some (.int x12) ∧ (Q (some (.int x12)) m11))))))) :
    zRun C 10 (some .int) zc_Str_indexOf2 Q 0 [.ref 6, .int a, .int b] [] m := zgo [] hC zs_Str_indexOf2 (i := .aload_n 0) (r := zfind zc_Str_indexOf2 1) rfl h
theorem en_Str_indexOf2_6 (dd : Nat) {Q : zQ} (a : Int32) (b : Int32) (m : zM) (h : zRun (zCall dd) 10 (some .int) zc_Str_indexOf2 Q 0 [.ref 6, .int a, .int b] [] m) : zCall (dd + 1) m_Str_indexOf2 [.ref 6, .int a, .int b] m Q := ⟨Nat.le_of_ble_eq_true rfl, h⟩
theorem zs_Str_coder : zsrt zc_Str_coder = true := by decide +kernel
set_option maxRecDepth 100000 in
theorem sg_Str_coder_4_0 {C : zC} {Q : zQ} (hC : zCm C) (m : zM) (h :
    (0 : Int32).toInt8.toInt32 = (0 : Int32) ∧ Q (some (.int (0 : Int32))) m) :
    zRun C 10 (some .byte) zc_Str_coder Q 0 [.ref 4] [] m := zgo [] hC zs_Str_coder (i := .getstatic 38) (r := zfind zc_Str_coder 3) rfl h
theorem en_Str_coder_4 (dd : Nat) {Q : zQ} (m : zM) (h : zRun (zCall dd) 10 (some .byte) zc_Str_coder Q 0 [.ref 4] [] m) : zCall (dd + 1) m_Str_coder [.ref 4] m Q := ⟨Nat.le_of_ble_eq_true rfl, h⟩
set_option maxRecDepth 100000 in
theorem sg_Str_coder_5_0 {C : zC} {Q : zQ} (hC : zCm C) (m : zM) (h :
    (0 : Int32).toInt8.toInt32 = (0 : Int32) ∧ Q (some (.int (0 : Int32))) m) :
    zRun C 10 (some .byte) zc_Str_coder Q 0 [.ref 5] [] m := zgo [] hC zs_Str_coder (i := .getstatic 38) (r := zfind zc_Str_coder 3) rfl h
theorem en_Str_coder_5 (dd : Nat) {Q : zQ} (m : zM) (h : zRun (zCall dd) 10 (some .byte) zc_Str_coder Q 0 [.ref 5] [] m) : zCall (dd + 1) m_Str_coder [.ref 5] m Q := ⟨Nat.le_of_ble_eq_true rfl, h⟩
set_option maxRecDepth 100000 in
theorem sg_Str_coder_6_0 {C : zC} {Q : zQ} (hC : zCm C) (m : zM) (h :
    (0 : Int32).toInt8.toInt32 = (0 : Int32) ∧ Q (some (.int (0 : Int32))) m) :
    zRun C 10 (some .byte) zc_Str_coder Q 0 [.ref 6] [] m := zgo [] hC zs_Str_coder (i := .getstatic 38) (r := zfind zc_Str_coder 3) rfl h
theorem en_Str_coder_6 (dd : Nat) {Q : zQ} (m : zM) (h : zRun (zCall dd) 10 (some .byte) zc_Str_coder Q 0 [.ref 6] [] m) : zCall (dd + 1) m_Str_coder [.ref 6] m Q := ⟨Nat.le_of_ble_eq_true rfl, h⟩
set_option maxRecDepth 100000 in
theorem sg_Str_coder_7_0 {C : zC} {Q : zQ} (hC : zCm C) (m : zM) (h :
    (0 : Int32).toInt8.toInt32 = (0 : Int32) ∧ Q (some (.int (0 : Int32))) m) :
    zRun C 10 (some .byte) zc_Str_coder Q 0 [.ref 7] [] m := zgo [] hC zs_Str_coder (i := .getstatic 38) (r := zfind zc_Str_coder 3) rfl h
theorem en_Str_coder_7 (dd : Nat) {Q : zQ} (m : zM) (h : zRun (zCall dd) 10 (some .byte) zc_Str_coder Q 0 [.ref 7] [] m) : zCall (dd + 1) m_Str_coder [.ref 7] m Q := ⟨Nat.le_of_ble_eq_true rfl, h⟩
set_option maxRecDepth 100000 in
theorem sg_Str_coder_8_0 {C : zC} {Q : zQ} (hC : zCm C) (m : zM) (h :
    (0 : Int32).toInt8.toInt32 = (0 : Int32) ∧ Q (some (.int (0 : Int32))) m) :
    zRun C 10 (some .byte) zc_Str_coder Q 0 [.ref 8] [] m := zgo [] hC zs_Str_coder (i := .getstatic 38) (r := zfind zc_Str_coder 3) rfl h
theorem en_Str_coder_8 (dd : Nat) {Q : zQ} (m : zM) (h : zRun (zCall dd) 10 (some .byte) zc_Str_coder Q 0 [.ref 8] [] m) : zCall (dd + 1) m_Str_coder [.ref 8] m Q := ⟨Nat.le_of_ble_eq_true rfl, h⟩
set_option maxRecDepth 100000 in
theorem sg_Str_coder_9_0 {C : zC} {Q : zQ} (hC : zCm C) (m : zM) (h :
    (0 : Int32).toInt8.toInt32 = (0 : Int32) ∧ Q (some (.int (0 : Int32))) m) :
    zRun C 10 (some .byte) zc_Str_coder Q 0 [.ref 9] [] m := zgo [] hC zs_Str_coder (i := .getstatic 38) (r := zfind zc_Str_coder 3) rfl h
theorem en_Str_coder_9 (dd : Nat) {Q : zQ} (m : zM) (h : zRun (zCall dd) 10 (some .byte) zc_Str_coder Q 0 [.ref 9] [] m) : zCall (dd + 1) m_Str_coder [.ref 9] m Q := ⟨Nat.le_of_ble_eq_true rfl, h⟩
set_option maxRecDepth 100000 in
theorem sg_Str_coder_10_0 {C : zC} {Q : zQ} (hC : zCm C) (m : zM) (h :
    (0 : Int32).toInt8.toInt32 = (0 : Int32) ∧ Q (some (.int (0 : Int32))) m) :
    zRun C 10 (some .byte) zc_Str_coder Q 0 [.ref 10] [] m := zgo [] hC zs_Str_coder (i := .getstatic 38) (r := zfind zc_Str_coder 3) rfl h
theorem en_Str_coder_10 (dd : Nat) {Q : zQ} (m : zM) (h : zRun (zCall dd) 10 (some .byte) zc_Str_coder Q 0 [.ref 10] [] m) : zCall (dd + 1) m_Str_coder [.ref 10] m Q := ⟨Nat.le_of_ble_eq_true rfl, h⟩
theorem zs_Str_isLatin1 : zsrt zc_Str_isLatin1 = true := by decide +kernel
set_option maxRecDepth 100000 in
theorem sg_Str_isLatin1_4_0 {C : zC} {Q : zQ} (hC : zCm C) (m : zM) (h :
    (1 : Int32) &&& 1 = (1 : Int32) ∧ Q (some (.int (1 : Int32))) m) :
    zRun C 10 (some .boolean) zc_Str_isLatin1 Q 0 [.ref 4] [] m := zgo [] hC zs_Str_isLatin1 (i := .getstatic 38) (r := zfind zc_Str_isLatin1 3) rfl h
theorem en_Str_isLatin1_4 (dd : Nat) {Q : zQ} (m : zM) (h : zRun (zCall dd) 10 (some .boolean) zc_Str_isLatin1 Q 0 [.ref 4] [] m) : zCall (dd + 1) m_Str_isLatin1 [.ref 4] m Q := ⟨Nat.le_of_ble_eq_true rfl, h⟩
set_option maxRecDepth 100000 in
theorem sg_Str_isLatin1_5_0 {C : zC} {Q : zQ} (hC : zCm C) (m : zM) (h :
    (1 : Int32) &&& 1 = (1 : Int32) ∧ Q (some (.int (1 : Int32))) m) :
    zRun C 10 (some .boolean) zc_Str_isLatin1 Q 0 [.ref 5] [] m := zgo [] hC zs_Str_isLatin1 (i := .getstatic 38) (r := zfind zc_Str_isLatin1 3) rfl h
theorem en_Str_isLatin1_5 (dd : Nat) {Q : zQ} (m : zM) (h : zRun (zCall dd) 10 (some .boolean) zc_Str_isLatin1 Q 0 [.ref 5] [] m) : zCall (dd + 1) m_Str_isLatin1 [.ref 5] m Q := ⟨Nat.le_of_ble_eq_true rfl, h⟩
set_option maxRecDepth 100000 in
theorem sg_Str_isLatin1_6_0 {C : zC} {Q : zQ} (hC : zCm C) (m : zM) (h :
    (1 : Int32) &&& 1 = (1 : Int32) ∧ Q (some (.int (1 : Int32))) m) :
    zRun C 10 (some .boolean) zc_Str_isLatin1 Q 0 [.ref 6] [] m := zgo [] hC zs_Str_isLatin1 (i := .getstatic 38) (r := zfind zc_Str_isLatin1 3) rfl h
theorem en_Str_isLatin1_6 (dd : Nat) {Q : zQ} (m : zM) (h : zRun (zCall dd) 10 (some .boolean) zc_Str_isLatin1 Q 0 [.ref 6] [] m) : zCall (dd + 1) m_Str_isLatin1 [.ref 6] m Q := ⟨Nat.le_of_ble_eq_true rfl, h⟩
set_option maxRecDepth 100000 in
theorem sg_Str_isLatin1_7_0 {C : zC} {Q : zQ} (hC : zCm C) (m : zM) (h :
    (1 : Int32) &&& 1 = (1 : Int32) ∧ Q (some (.int (1 : Int32))) m) :
    zRun C 10 (some .boolean) zc_Str_isLatin1 Q 0 [.ref 7] [] m := zgo [] hC zs_Str_isLatin1 (i := .getstatic 38) (r := zfind zc_Str_isLatin1 3) rfl h
theorem en_Str_isLatin1_7 (dd : Nat) {Q : zQ} (m : zM) (h : zRun (zCall dd) 10 (some .boolean) zc_Str_isLatin1 Q 0 [.ref 7] [] m) : zCall (dd + 1) m_Str_isLatin1 [.ref 7] m Q := ⟨Nat.le_of_ble_eq_true rfl, h⟩
set_option maxRecDepth 100000 in
theorem sg_Str_isLatin1_8_0 {C : zC} {Q : zQ} (hC : zCm C) (m : zM) (h :
    (1 : Int32) &&& 1 = (1 : Int32) ∧ Q (some (.int (1 : Int32))) m) :
    zRun C 10 (some .boolean) zc_Str_isLatin1 Q 0 [.ref 8] [] m := zgo [] hC zs_Str_isLatin1 (i := .getstatic 38) (r := zfind zc_Str_isLatin1 3) rfl h
theorem en_Str_isLatin1_8 (dd : Nat) {Q : zQ} (m : zM) (h : zRun (zCall dd) 10 (some .boolean) zc_Str_isLatin1 Q 0 [.ref 8] [] m) : zCall (dd + 1) m_Str_isLatin1 [.ref 8] m Q := ⟨Nat.le_of_ble_eq_true rfl, h⟩
set_option maxRecDepth 100000 in
theorem sg_Str_isLatin1_9_0 {C : zC} {Q : zQ} (hC : zCm C) (m : zM) (h :
    (1 : Int32) &&& 1 = (1 : Int32) ∧ Q (some (.int (1 : Int32))) m) :
    zRun C 10 (some .boolean) zc_Str_isLatin1 Q 0 [.ref 9] [] m := zgo [] hC zs_Str_isLatin1 (i := .getstatic 38) (r := zfind zc_Str_isLatin1 3) rfl h
theorem en_Str_isLatin1_9 (dd : Nat) {Q : zQ} (m : zM) (h : zRun (zCall dd) 10 (some .boolean) zc_Str_isLatin1 Q 0 [.ref 9] [] m) : zCall (dd + 1) m_Str_isLatin1 [.ref 9] m Q := ⟨Nat.le_of_ble_eq_true rfl, h⟩
set_option maxRecDepth 100000 in
theorem sg_Str_isLatin1_10_0 {C : zC} {Q : zQ} (hC : zCm C) (m : zM) (h :
    (1 : Int32) &&& 1 = (1 : Int32) ∧ Q (some (.int (1 : Int32))) m) :
    zRun C 10 (some .boolean) zc_Str_isLatin1 Q 0 [.ref 10] [] m := zgo [] hC zs_Str_isLatin1 (i := .getstatic 38) (r := zfind zc_Str_isLatin1 3) rfl h
theorem en_Str_isLatin1_10 (dd : Nat) {Q : zQ} (m : zM) (h : zRun (zCall dd) 10 (some .boolean) zc_Str_isLatin1 Q 0 [.ref 10] [] m) : zCall (dd + 1) m_Str_isLatin1 [.ref 10] m Q := ⟨Nat.le_of_ble_eq_true rfl, h⟩
theorem zs_Str_checkIndex : zsrt zc_Str_checkIndex = true := by decide +kernel
set_option maxRecDepth 100000 in
theorem sg_Str_checkIndex_4_0 {C : zC} {Q : zQ} (hC : zCm C) (a : Int32) (b : Int32) (m : zM) (h :
    C m_Pre_checkIndex [.int a, .int b, .ref 18] m (fun o1 m2 => ∃ x3, o1 = some (.int x3) ∧ (Q none m2))) :
    zRun C 10 none zc_Str_checkIndex Q 0 [.int a, .int b] [] m := zgo [] hC zs_Str_checkIndex (i := .iload_n 0) (r := zfind zc_Str_checkIndex 1) rfl h
theorem en_Str_checkIndex_4 (dd : Nat) {Q : zQ} (a : Int32) (b : Int32) (m : zM) (h : zRun (zCall dd) 10 none zc_Str_checkIndex Q 0 [.int a, .int b] [] m) : zCall (dd + 1) m_Str_checkIndex [.int a, .int b] m Q := ⟨Nat.le_of_ble_eq_true rfl, h⟩
set_option maxRecDepth 100000 in
theorem sg_Str_checkIndex_5_0 {C : zC} {Q : zQ} (hC : zCm C) (a : Int32) (b : Int32) (m : zM) (h :
    C m_Pre_checkIndex [.int a, .int b, .ref 18] m (fun o1 m2 => ∃ x3, o1 = some (.int x3) ∧ (Q none m2))) :
    zRun C 10 none zc_Str_checkIndex Q 0 [.int a, .int b] [] m := zgo [] hC zs_Str_checkIndex (i := .iload_n 0) (r := zfind zc_Str_checkIndex 1) rfl h
theorem en_Str_checkIndex_5 (dd : Nat) {Q : zQ} (a : Int32) (b : Int32) (m : zM) (h : zRun (zCall dd) 10 none zc_Str_checkIndex Q 0 [.int a, .int b] [] m) : zCall (dd + 1) m_Str_checkIndex [.int a, .int b] m Q := ⟨Nat.le_of_ble_eq_true rfl, h⟩
set_option maxRecDepth 100000 in
theorem sg_Str_checkIndex_6_0 {C : zC} {Q : zQ} (hC : zCm C) (a : Int32) (b : Int32) (m : zM) (h :
    C m_Pre_checkIndex [.int a, .int b, .ref 18] m (fun o1 m2 => ∃ x3, o1 = some (.int x3) ∧ (Q none m2))) :
    zRun C 10 none zc_Str_checkIndex Q 0 [.int a, .int b] [] m := zgo [] hC zs_Str_checkIndex (i := .iload_n 0) (r := zfind zc_Str_checkIndex 1) rfl h
theorem en_Str_checkIndex_6 (dd : Nat) {Q : zQ} (a : Int32) (b : Int32) (m : zM) (h : zRun (zCall dd) 10 none zc_Str_checkIndex Q 0 [.int a, .int b] [] m) : zCall (dd + 1) m_Str_checkIndex [.int a, .int b] m Q := ⟨Nat.le_of_ble_eq_true rfl, h⟩
set_option maxRecDepth 100000 in
theorem sg_Str_checkIndex_7_0 {C : zC} {Q : zQ} (hC : zCm C) (a : Int32) (b : Int32) (m : zM) (h :
    C m_Pre_checkIndex [.int a, .int b, .ref 18] m (fun o1 m2 => ∃ x3, o1 = some (.int x3) ∧ (Q none m2))) :
    zRun C 10 none zc_Str_checkIndex Q 0 [.int a, .int b] [] m := zgo [] hC zs_Str_checkIndex (i := .iload_n 0) (r := zfind zc_Str_checkIndex 1) rfl h
theorem en_Str_checkIndex_7 (dd : Nat) {Q : zQ} (a : Int32) (b : Int32) (m : zM) (h : zRun (zCall dd) 10 none zc_Str_checkIndex Q 0 [.int a, .int b] [] m) : zCall (dd + 1) m_Str_checkIndex [.int a, .int b] m Q := ⟨Nat.le_of_ble_eq_true rfl, h⟩
set_option maxRecDepth 100000 in
theorem sg_Str_checkIndex_8_0 {C : zC} {Q : zQ} (hC : zCm C) (a : Int32) (b : Int32) (m : zM) (h :
    C m_Pre_checkIndex [.int a, .int b, .ref 18] m (fun o1 m2 => ∃ x3, o1 = some (.int x3) ∧ (Q none m2))) :
    zRun C 10 none zc_Str_checkIndex Q 0 [.int a, .int b] [] m := zgo [] hC zs_Str_checkIndex (i := .iload_n 0) (r := zfind zc_Str_checkIndex 1) rfl h
theorem en_Str_checkIndex_8 (dd : Nat) {Q : zQ} (a : Int32) (b : Int32) (m : zM) (h : zRun (zCall dd) 10 none zc_Str_checkIndex Q 0 [.int a, .int b] [] m) : zCall (dd + 1) m_Str_checkIndex [.int a, .int b] m Q := ⟨Nat.le_of_ble_eq_true rfl, h⟩
set_option maxRecDepth 100000 in
theorem sg_Str_checkIndex_9_0 {C : zC} {Q : zQ} (hC : zCm C) (a : Int32) (b : Int32) (m : zM) (h :
    C m_Pre_checkIndex [.int a, .int b, .ref 18] m (fun o1 m2 => ∃ x3, o1 = some (.int x3) ∧ (Q none m2))) :
    zRun C 10 none zc_Str_checkIndex Q 0 [.int a, .int b] [] m := zgo [] hC zs_Str_checkIndex (i := .iload_n 0) (r := zfind zc_Str_checkIndex 1) rfl h
theorem en_Str_checkIndex_9 (dd : Nat) {Q : zQ} (a : Int32) (b : Int32) (m : zM) (h : zRun (zCall dd) 10 none zc_Str_checkIndex Q 0 [.int a, .int b] [] m) : zCall (dd + 1) m_Str_checkIndex [.int a, .int b] m Q := ⟨Nat.le_of_ble_eq_true rfl, h⟩
set_option maxRecDepth 100000 in
theorem sg_Str_checkIndex_10_0 {C : zC} {Q : zQ} (hC : zCm C) (a : Int32) (b : Int32) (m : zM) (h :
    C m_Pre_checkIndex [.int a, .int b, .ref 18] m (fun o1 m2 => ∃ x3, o1 = some (.int x3) ∧ (Q none m2))) :
    zRun C 10 none zc_Str_checkIndex Q 0 [.int a, .int b] [] m := zgo [] hC zs_Str_checkIndex (i := .iload_n 0) (r := zfind zc_Str_checkIndex 1) rfl h
theorem en_Str_checkIndex_10 (dd : Nat) {Q : zQ} (a : Int32) (b : Int32) (m : zM) (h : zRun (zCall dd) 10 none zc_Str_checkIndex Q 0 [.int a, .int b] [] m) : zCall (dd + 1) m_Str_checkIndex [.int a, .int b] m Q := ⟨Nat.le_of_ble_eq_true rfl, h⟩
theorem zs_Lat_charAt : zsrt zc_Lat_charAt = true := by decide +kernel
set_option maxRecDepth 100000 in
theorem sg_Lat_charAt_14_0 {C : zC} {Q : zQ} (hC : zCm C) (a : Int32) (m : zM) (h :
    C m_Str_checkIndex [.int a, .int (4 : Int32)] m (fun o1 m2 => o1 = none ∧ (vp_in a 4 ∧ (((((gI m2 14 a.toNatClampNeg) &&& (255 : Int32)).toUInt32 % 65536).toInt32).toUInt32.toUInt16.toUInt32.toInt32 = ((((gI m2 14 a.toNatClampNeg) &&& (255 : Int32)).toUInt32 % 65536).toInt32) ∧ Q (some (.int ((((gI m2 14 a.toNatClampNeg) &&& (255 : Int32)).toUInt32 % 65536).toInt32))) m2)))) :
    zRun C 11 (some .char) zc_Lat_charAt Q 0 [.ref 14, .int a] [] m := zgo [] hC zs_Lat_charAt (i := .iload_n 1) (r := zfind zc_Lat_charAt 1) rfl h
theorem en_Lat_charAt_14 (dd : Nat) {Q : zQ} (a : Int32) (m : zM) (h : zRun (zCall dd) 11 (some .char) zc_Lat_charAt Q 0 [.ref 14, .int a] [] m) : zCall (dd + 1) m_Lat_charAt [.ref 14, .int a] m Q := ⟨Nat.le_of_ble_eq_true rfl, h⟩
set_option maxRecDepth 100000 in
theorem sg_Lat_charAt_15_0 {C : zC} {Q : zQ} (hC : zCm C) (a : Int32) (m : zM) (h :
    C m_Str_checkIndex [.int a, .int (5 : Int32)] m (fun o1 m2 => o1 = none ∧ (vp_in a 5 ∧ (((((gI m2 15 a.toNatClampNeg) &&& (255 : Int32)).toUInt32 % 65536).toInt32).toUInt32.toUInt16.toUInt32.toInt32 = ((((gI m2 15 a.toNatClampNeg) &&& (255 : Int32)).toUInt32 % 65536).toInt32) ∧ Q (some (.int ((((gI m2 15 a.toNatClampNeg) &&& (255 : Int32)).toUInt32 % 65536).toInt32))) m2)))) :
    zRun C 11 (some .char) zc_Lat_charAt Q 0 [.ref 15, .int a] [] m := zgo [] hC zs_Lat_charAt (i := .iload_n 1) (r := zfind zc_Lat_charAt 1) rfl h
theorem en_Lat_charAt_15 (dd : Nat) {Q : zQ} (a : Int32) (m : zM) (h : zRun (zCall dd) 11 (some .char) zc_Lat_charAt Q 0 [.ref 15, .int a] [] m) : zCall (dd + 1) m_Lat_charAt [.ref 15, .int a] m Q := ⟨Nat.le_of_ble_eq_true rfl, h⟩
set_option maxRecDepth 100000 in
theorem sg_Lat_charAt_16_0 {C : zC} {Q : zQ} (hC : zCm C) (a : Int32) (m : zM) (h :
    C m_Str_checkIndex [.int a, .int (5 : Int32)] m (fun o1 m2 => o1 = none ∧ (vp_in a 5 ∧ (((((gI m2 16 a.toNatClampNeg) &&& (255 : Int32)).toUInt32 % 65536).toInt32).toUInt32.toUInt16.toUInt32.toInt32 = ((((gI m2 16 a.toNatClampNeg) &&& (255 : Int32)).toUInt32 % 65536).toInt32) ∧ Q (some (.int ((((gI m2 16 a.toNatClampNeg) &&& (255 : Int32)).toUInt32 % 65536).toInt32))) m2)))) :
    zRun C 11 (some .char) zc_Lat_charAt Q 0 [.ref 16, .int a] [] m := zgo [] hC zs_Lat_charAt (i := .iload_n 1) (r := zfind zc_Lat_charAt 1) rfl h
theorem en_Lat_charAt_16 (dd : Nat) {Q : zQ} (a : Int32) (m : zM) (h : zRun (zCall dd) 11 (some .char) zc_Lat_charAt Q 0 [.ref 16, .int a] [] m) : zCall (dd + 1) m_Lat_charAt [.ref 16, .int a] m Q := ⟨Nat.le_of_ble_eq_true rfl, h⟩
set_option maxRecDepth 100000 in
theorem sg_Lat_charAt_17_0 {C : zC} {Q : zQ} (hC : zCm C) (a : Int32) (m : zM) (h :
    C m_Str_checkIndex [.int a, .int (4 : Int32)] m (fun o1 m2 => o1 = none ∧ (vp_in a 4 ∧ (((((gI m2 17 a.toNatClampNeg) &&& (255 : Int32)).toUInt32 % 65536).toInt32).toUInt32.toUInt16.toUInt32.toInt32 = ((((gI m2 17 a.toNatClampNeg) &&& (255 : Int32)).toUInt32 % 65536).toInt32) ∧ Q (some (.int ((((gI m2 17 a.toNatClampNeg) &&& (255 : Int32)).toUInt32 % 65536).toInt32))) m2)))) :
    zRun C 11 (some .char) zc_Lat_charAt Q 0 [.ref 17, .int a] [] m := zgo [] hC zs_Lat_charAt (i := .iload_n 1) (r := zfind zc_Lat_charAt 1) rfl h
theorem en_Lat_charAt_17 (dd : Nat) {Q : zQ} (a : Int32) (m : zM) (h : zRun (zCall dd) 11 (some .char) zc_Lat_charAt Q 0 [.ref 17, .int a] [] m) : zCall (dd + 1) m_Lat_charAt [.ref 17, .int a] m Q := ⟨Nat.le_of_ble_eq_true rfl, h⟩
theorem zs_Lat_canEncode : zsrt zc_Lat_canEncode = true := by decide +kernel
set_option maxRecDepth 100000 in
theorem sg_Lat_canEncode_0 {C : zC} {Q : zQ} (hC : zCm C) (a : Int32) (m : zM) (h :
    if a < (0 : Int32) then (0 : Int32) &&& 1 = (0 : Int32) ∧ Q (some (.int (0 : Int32))) m
    else if (255 : Int32) < a then (0 : Int32) &&& 1 = (0 : Int32) ∧ Q (some (.int (0 : Int32))) m
      else (1 : Int32) &&& 1 = (1 : Int32) ∧ Q (some (.int (1 : Int32))) m) :
    zRun C 11 (some .boolean) zc_Lat_canEncode Q 0 [.int a] [] m := zgo [] hC zs_Lat_canEncode (i := .iload_n 0) (r := zfind zc_Lat_canEncode 1) rfl h
theorem en_Lat_canEncode (dd : Nat) {Q : zQ} (a : Int32) (m : zM) (h : zRun (zCall dd) 11 (some .boolean) zc_Lat_canEncode Q 0 [.int a] [] m) : zCall (dd + 1) m_Lat_canEncode [.int a] m Q := ⟨Nat.le_of_ble_eq_true rfl, h⟩
theorem zs_Lat_indexOf : zsrt zc_Lat_indexOf = true := by decide +kernel
set_option maxRecDepth 100000 in
theorem sg_Lat_indexOf_11_0 {C : zC} {Q : zQ} (hC : zCm C) (a : Int32) (b : Int32) (c : Int32) (m : zM) (h :
    C m_Lat_canEncode [.int a] m (fun o1 m2 => ∃ x3, o1 = some (.int x3) ∧ (if ¬ x3 = (0 : Int32) then if (if b < (0 : Int32) then (0 : Int32) else b) < (if (4 : Int32) < c then (4 : Int32) else c) then C m_Lat_indexOfChar [.ref 11, .int a, .int (if b < (0 : Int32) then (0 : Int32) else b), .int (if (4 : Int32) < c then (4 : Int32) else c)] m2 (fun o4 m5 => ∃ x6, o4 = some (.int x6) ∧ (Q (some (.int x6)) m5))
      else Q (some (.int (-1 : Int32))) m2
    else Q (some (.int (-1 : Int32))) m2))) :
    zRun C 11 (some .int) zc_Lat_indexOf Q 0 [.ref 11, .int a, .int b, .int c] [] m := zgo [] hC zs_Lat_indexOf (i := .iload_n 1) (r := zfind zc_Lat_indexOf 1) rfl h
theorem en_Lat_indexOf_11 (dd : Nat) {Q : zQ} (a : Int32) (b : Int32) (c : Int32) (m : zM) (h : zRun (zCall dd) 11 (some .int) zc_Lat_indexOf Q 0 [.ref 11, .int a, .int b, .int c] [] m) : zCall (dd + 1) m_Lat_indexOf [.ref 11, .int a, .int b, .int c] m Q := ⟨Nat.le_of_ble_eq_true rfl, h⟩
set_option maxRecDepth 100000 in
theorem sg_Lat_indexOf_12_0 {C : zC} {Q : zQ} (hC : zCm C) (a : Int32) (b : Int32) (c : Int32) (m : zM) (h :
    C m_Lat_canEncode [.int a] m (fun o1 m2 => ∃ x3, o1 = some (.int x3) ∧ (if ¬ x3 = (0 : Int32) then if (if b < (0 : Int32) then (0 : Int32) else b) < (if (6 : Int32) < c then (6 : Int32) else c) then C m_Lat_indexOfChar [.ref 12, .int a, .int (if b < (0 : Int32) then (0 : Int32) else b), .int (if (6 : Int32) < c then (6 : Int32) else c)] m2 (fun o4 m5 => ∃ x6, o4 = some (.int x6) ∧ (Q (some (.int x6)) m5))
      else Q (some (.int (-1 : Int32))) m2
    else Q (some (.int (-1 : Int32))) m2))) :
    zRun C 11 (some .int) zc_Lat_indexOf Q 0 [.ref 12, .int a, .int b, .int c] [] m := zgo [] hC zs_Lat_indexOf (i := .iload_n 1) (r := zfind zc_Lat_indexOf 1) rfl h
theorem en_Lat_indexOf_12 (dd : Nat) {Q : zQ} (a : Int32) (b : Int32) (c : Int32) (m : zM) (h : zRun (zCall dd) 11 (some .int) zc_Lat_indexOf Q 0 [.ref 12, .int a, .int b, .int c] [] m) : zCall (dd + 1) m_Lat_indexOf [.ref 12, .int a, .int b, .int c] m Q := ⟨Nat.le_of_ble_eq_true rfl, h⟩
set_option maxRecDepth 100000 in
theorem sg_Lat_indexOf_13_0 {C : zC} {Q : zQ} (hC : zCm C) (a : Int32) (b : Int32) (c : Int32) (m : zM) (h :
    C m_Lat_canEncode [.int a] m (fun o1 m2 => ∃ x3, o1 = some (.int x3) ∧ (if ¬ x3 = (0 : Int32) then if (if b < (0 : Int32) then (0 : Int32) else b) < (if (3 : Int32) < c then (3 : Int32) else c) then C m_Lat_indexOfChar [.ref 13, .int a, .int (if b < (0 : Int32) then (0 : Int32) else b), .int (if (3 : Int32) < c then (3 : Int32) else c)] m2 (fun o4 m5 => ∃ x6, o4 = some (.int x6) ∧ (Q (some (.int x6)) m5))
      else Q (some (.int (-1 : Int32))) m2
    else Q (some (.int (-1 : Int32))) m2))) :
    zRun C 11 (some .int) zc_Lat_indexOf Q 0 [.ref 13, .int a, .int b, .int c] [] m := zgo [] hC zs_Lat_indexOf (i := .iload_n 1) (r := zfind zc_Lat_indexOf 1) rfl h
theorem en_Lat_indexOf_13 (dd : Nat) {Q : zQ} (a : Int32) (b : Int32) (c : Int32) (m : zM) (h : zRun (zCall dd) 11 (some .int) zc_Lat_indexOf Q 0 [.ref 13, .int a, .int b, .int c] [] m) : zCall (dd + 1) m_Lat_indexOf [.ref 13, .int a, .int b, .int c] m Q := ⟨Nat.le_of_ble_eq_true rfl, h⟩
theorem zs_Lat_indexOfChar : zsrt zc_Lat_indexOfChar = true := by decide +kernel
set_option maxRecDepth 100000 in
theorem sg_Lat_indexOfChar_11_0 {C : zC} {Q : zQ} (hC : zCm C) (a : Int32) (b : Int32) (c : Int32) (m : zM) (h :
    zRun C 11 (some .int) zc_Lat_indexOfChar Q 7 [.ref 11, .int a, .int b, .int c, .int (a.toInt8.toInt32), .int b] [] m) :
    zRun C 11 (some .int) zc_Lat_indexOfChar Q 0 [.ref 11, .int a, .int b, .int c, .retAddr 0, .retAddr 0] [] m := zgo [7] hC zs_Lat_indexOfChar (i := .iload_n 1) (r := zfind zc_Lat_indexOfChar 1) rfl h
set_option maxRecDepth 100000 in
theorem sg_Lat_indexOfChar_11_7 {C : zC} {Q : zQ} (hC : zCm C) (v1 : Int32) (v2 : Int32) (v3 : Int32) (v4 : Int32) (v5 : Int32) (m : zM) (h :
    if v3 ≤ v5 then Q (some (.int (-1 : Int32))) m
    else vp_in v5 4 ∧ (if ¬ (gI m 11 v5.toNatClampNeg) = v4 then zRun C 11 (some .int) zc_Lat_indexOfChar Q 7 [.ref 11, .int v1, .int v2, .int v3, .int v4, .int (v5 + (1 : Int32))] [] m
      else Q (some (.int v5)) m)) :
    zRun C 11 (some .int) zc_Lat_indexOfChar Q 7 [.ref 11, .int v1, .int v2, .int v3, .int v4, .int v5] [] m := zgo [7] hC zs_Lat_indexOfChar (i := .iload 5) (r := zfind zc_Lat_indexOfChar 9) rfl h
theorem en_Lat_indexOfChar_11 (dd : Nat) {Q : zQ} (a : Int32) (b : Int32) (c : Int32) (m : zM) (h : zRun (zCall dd) 11 (some .int) zc_Lat_indexOfChar Q 0 [.ref 11, .int a, .int b, .int c, .retAddr 0, .retAddr 0] [] m) : zCall (dd + 1) m_Lat_indexOfChar [.ref 11, .int a, .int b, .int c] m Q := ⟨Nat.le_of_ble_eq_true rfl, h⟩
set_option maxRecDepth 100000 in
theorem sg_Lat_indexOfChar_12_0 {C : zC} {Q : zQ} (hC : zCm C) (a : Int32) (b : Int32) (c : Int32) (m : zM) (h :
    zRun C 11 (some .int) zc_Lat_indexOfChar Q 7 [.ref 12, .int a, .int b, .int c, .int (a.toInt8.toInt32), .int b] [] m) :
    zRun C 11 (some .int) zc_Lat_indexOfChar Q 0 [.ref 12, .int a, .int b, .int c, .retAddr 0, .retAddr 0] [] m := zgo [7] hC zs_Lat_indexOfChar (i := .iload_n 1) (r := zfind zc_Lat_indexOfChar 1) rfl h
set_option maxRecDepth 100000 in
theorem sg_Lat_indexOfChar_12_7 {C : zC} {Q : zQ} (hC : zCm C) (v1 : Int32) (v2 : Int32) (v3 : Int32) (v4 : Int32) (v5 : Int32) (m : zM) (h :
    if v3 ≤ v5 then Q (some (.int (-1 : Int32))) m
    else vp_in v5 6 ∧ (if ¬ (gI m 12 v5.toNatClampNeg) = v4 then zRun C 11 (some .int) zc_Lat_indexOfChar Q 7 [.ref 12, .int v1, .int v2, .int v3, .int v4, .int (v5 + (1 : Int32))] [] m
      else Q (some (.int v5)) m)) :
    zRun C 11 (some .int) zc_Lat_indexOfChar Q 7 [.ref 12, .int v1, .int v2, .int v3, .int v4, .int v5] [] m := zgo [7] hC zs_Lat_indexOfChar (i := .iload 5) (r := zfind zc_Lat_indexOfChar 9) rfl h
theorem en_Lat_indexOfChar_12 (dd : Nat) {Q : zQ} (a : Int32) (b : Int32) (c : Int32) (m : zM) (h : zRun (zCall dd) 11 (some .int) zc_Lat_indexOfChar Q 0 [.ref 12, .int a, .int b, .int c, .retAddr 0, .retAddr 0] [] m) : zCall (dd + 1) m_Lat_indexOfChar [.ref 12, .int a, .int b, .int c] m Q := ⟨Nat.le_of_ble_eq_true rfl, h⟩
set_option maxRecDepth 100000 in
theorem sg_Lat_indexOfChar_13_0 {C : zC} {Q : zQ} (hC : zCm C) (a : Int32) (b : Int32) (c : Int32) (m : zM) (h :
    zRun C 11 (some .int) zc_Lat_indexOfChar Q 7 [.ref 13, .int a, .int b, .int c, .int (a.toInt8.toInt32), .int b] [] m) :
    zRun C 11 (some .int) zc_Lat_indexOfChar Q 0 [.ref 13, .int a, .int b, .int c, .retAddr 0, .retAddr 0] [] m := zgo [7] hC zs_Lat_indexOfChar (i := .iload_n 1) (r := zfind zc_Lat_indexOfChar 1) rfl h
set_option maxRecDepth 100000 in
theorem sg_Lat_indexOfChar_13_7 {C : zC} {Q : zQ} (hC : zCm C) (v1 : Int32) (v2 : Int32) (v3 : Int32) (v4 : Int32) (v5 : Int32) (m : zM) (h :
    if v3 ≤ v5 then Q (some (.int (-1 : Int32))) m
    else vp_in v5 3 ∧ (if ¬ (gI m 13 v5.toNatClampNeg) = v4 then zRun C 11 (some .int) zc_Lat_indexOfChar Q 7 [.ref 13, .int v1, .int v2, .int v3, .int v4, .int (v5 + (1 : Int32))] [] m
      else Q (some (.int v5)) m)) :
    zRun C 11 (some .int) zc_Lat_indexOfChar Q 7 [.ref 13, .int v1, .int v2, .int v3, .int v4, .int v5] [] m := zgo [7] hC zs_Lat_indexOfChar (i := .iload 5) (r := zfind zc_Lat_indexOfChar 9) rfl h
theorem en_Lat_indexOfChar_13 (dd : Nat) {Q : zQ} (a : Int32) (b : Int32) (c : Int32) (m : zM) (h : zRun (zCall dd) 11 (some .int) zc_Lat_indexOfChar Q 0 [.ref 13, .int a, .int b, .int c, .retAddr 0, .retAddr 0] [] m) : zCall (dd + 1) m_Lat_indexOfChar [.ref 13, .int a, .int b, .int c] m Q := ⟨Nat.le_of_ble_eq_true rfl, h⟩
theorem zs_Pre_checkIndex : zsrt zc_Pre_checkIndex = true := by decide +kernel
set_option maxRecDepth 100000 in
theorem sg_Pre_checkIndex_0 {C : zC} {Q : zQ} (hC : zCm C) (a : Int32) (b : Int32) (m : zM) (h :
    if a < (0 : Int32) then False
    else if a < b then Q (some (.int a)) m
      else False) :
    zRun C 12 (some .int) zc_Pre_checkIndex Q 0 [.int a, .int b, .ref 18] [] m := zgo [] hC zs_Pre_checkIndex (i := .iload_n 0) (r := zfind zc_Pre_checkIndex 1) rfl h
theorem en_Pre_checkIndex (dd : Nat) {Q : zQ} (a : Int32) (b : Int32) (m : zM) (h : zRun (zCall dd) 12 (some .int) zc_Pre_checkIndex Q 0 [.int a, .int b, .ref 18] [] m) : zCall (dd + 1) m_Pre_checkIndex [.int a, .int b, .ref 18] m Q := ⟨Nat.le_of_ble_eq_true rfl, h⟩
