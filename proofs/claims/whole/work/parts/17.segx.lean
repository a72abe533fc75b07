/-! the stretches of the code, by program (gen16.py) -/
theorem zs_Acts_forget : zsrt zc_Acts_forget = true := by decide +kernel
set_option maxRecDepth 100000 in
theorem sg_Acts_forget_0 {C : zC} {Q : zQ} (hC : zCm C) (m : zM) (h :
    Q none (sI m 98 1 (0 : Int32))) :
    zRun C 0 none zc_Acts_forget Q 0 [.ref 98] [] m := zgo [] hC zs_Acts_forget (i := .aload_n 0) (r := zfind zc_Acts_forget 1) rfl h
theorem en_Acts_forget (dd : Nat) {Q : zQ} (m : zM) (h : zRun (zCall dd) 0 none zc_Acts_forget Q 0 [.ref 98] [] m) : zCall (dd + 1) m_Acts_forget [.ref 98] m Q := ⟨Nat.le_of_ble_eq_true rfl, h⟩
theorem zs_Acts_perform : zsrt zc_Acts_perform = true := by decide +kernel
set_option maxRecDepth 100000 in
theorem sg_Acts_perform_0 {C : zC} {Q : zQ} (hC : zCm C) (a : Int32) (b : Int32) (c : Int32) (m : zM) (h :
    vp_in a 8 ∧ (vp_in a 8 ∧ (C m_Acts_run [.ref 98, .int b, .int (gI (sI (sI (sI m 98 2 (gI m 22 a.toNatClampNeg)) 98 3 a) 98 4 (gI (sI (sI m 98 2 (gI m 22 a.toNatClampNeg)) 98 3 a) 23 a.toNatClampNeg)) 98 2), .int c, .int (0 : Int32)] (sI (sI (sI m 98 2 (gI m 22 a.toNatClampNeg)) 98 3 a) 98 4 (gI (sI (sI m 98 2 (gI m 22 a.toNatClampNeg)) 98 3 a) 23 a.toNatClampNeg)) (fun o1 m2 => ∃ x3, o1 = some (.int x3) ∧ (Q (some (.int x3)) m2))))) :
    zRun C 0 (some .int) zc_Acts_perform Q 0 [.ref 98, .ref 21, .int a, .int b, .int c] [] m := zgo [] hC zs_Acts_perform (i := .aload_n 0) (r := zfind zc_Acts_perform 1) rfl h
theorem en_Acts_perform (dd : Nat) {Q : zQ} (a : Int32) (b : Int32) (c : Int32) (m : zM) (h : zRun (zCall dd) 0 (some .int) zc_Acts_perform Q 0 [.ref 98, .ref 21, .int a, .int b, .int c] [] m) : zCall (dd + 1) m_Acts_perform [.ref 98, .ref 21, .int a, .int b, .int c] m Q := ⟨Nat.le_of_ble_eq_true rfl, h⟩
theorem zs_Acts_run : zsrt zc_Acts_run = true := by decide +kernel
set_option maxRecDepth 100000 in
theorem sg_Acts_run_0 {C : zC} {Q : zQ} (hC : zCm C) (a : Int32) (b : Int32) (c : Int32) (d : Int32) (m : zM) (h :
    C m_Acts_bodyOf [.int a, .int b] m (fun o1 m2 => ∃ x3, o1 = some (.int x3) ∧ (if x3 = (0 : Int32) then Q (some (.int (0 : Int32))) m2
    else if d < (40 : Int32) then C m_Acts_begin [.ref 98, .int x3] m2 (fun o4 m5 => o4 = none ∧ (if x3 = (10 : Int32) then Q (some (.int (c + (gI m5 98 3)))) m5
        else if x3 = (11 : Int32) then C m_Acts_run [.ref 98, .int (0 : Int32), .int (gI m5 98 2), .int c, .int (d + (1 : Int32))] m5 (fun o39 m40 => ∃ x41, o39 = some (.int x41) ∧ (Q (some (.int (x41 - (gI m40 98 4)))) m40))
        else if x3 = (12 : Int32) then C m_Acts_run [.ref 98, .int (1 : Int32), .int (gI m5 98 2), .int c, .int (d + (1 : Int32))] m5 (fun o36 m37 => ∃ x38, o36 = some (.int x38) ∧ (Q (some (.int (x38 * (2 : Int32)))) m37))
        else if x3 = (20 : Int32) then vp_in (1 : Int32) 7 ∧ (C m_Acts_run [.ref 98, .int (1 : Int32), .int (gI m5 2 (1 : Int32).toNatClampNeg), .int c, .int (d + (1 : Int32))] m5 (fun o33 m34 => ∃ x35, o33 = some (.int x35) ∧ (Q (some (.int (x35 ^^^ (6 : Int32)))) m34)))
        else if x3 = (30 : Int32) then vp_in (2 : Int32) 7 ∧ (C m_Acts_run [.ref 98, .int (0 : Int32), .int (gI m5 2 (2 : Int32).toNatClampNeg), .int (c * (3 : Int32)), .int (d + (1 : Int32))] m5 (fun o30 m31 => ∃ x32, o30 = some (.int x32) ∧ (Q (some (.int x32)) m31)))
        else if x3 = (40 : Int32) then vp_in (3 : Int32) 7 ∧ (C m_Acts_run [.ref 98, .int (2 : Int32), .int (gI m5 2 (3 : Int32).toNatClampNeg), .int c, .int (d + (1 : Int32))] m5 (fun o24 m25 => ∃ x26, o24 = some (.int x26) ∧ (C m_Acts_run [.ref 98, .int (1 : Int32), .int (gI m25 98 2), .int (1 : Int32), .int (d + (1 : Int32))] m25 (fun o27 m28 => ∃ x29, o27 = some (.int x29) ∧ (Q (some (.int (x26 + x29))) m28)))))
        else if x3 = (50 : Int32) then vp_in (4 : Int32) 7 ∧ (C m_Acts_run [.ref 98, .int (0 : Int32), .int (gI m5 2 (4 : Int32).toNatClampNeg), .int c, .int (d + (1 : Int32))] m5 (fun o21 m22 => ∃ x23, o21 = some (.int x23) ∧ (Q (some (.int (-x23))) m22)))
        else if x3 = (51 : Int32) then vp_in (4 : Int32) 7 ∧ (C m_Acts_run [.ref 98, .int (1 : Int32), .int (gI m5 2 (4 : Int32).toNatClampNeg), .int (c + (1 : Int32)), .int (d + (1 : Int32))] m5 (fun o18 m19 => ∃ x20, o18 = some (.int x20) ∧ (Q (some (.int x20)) m19)))
        else if x3 = (60 : Int32) then vp_in (5 : Int32) 7 ∧ (C m_Acts_run [.ref 98, .int (2 : Int32), .int (gI m5 2 (5 : Int32).toNatClampNeg), .int (c - (gI m5 98 3)), .int (d + (1 : Int32))] m5 (fun o15 m16 => ∃ x17, o15 = some (.int x17) ∧ (Q (some (.int x17)) m16)))
        else if x3 = (70 : Int32) then vp_in (6 : Int32) 7 ∧ (C m_Acts_run [.ref 98, .int (1 : Int32), .int (gI m5 2 (6 : Int32).toNatClampNeg), .int c, .int (d + (1 : Int32))] m5 (fun o9 m10 => ∃ x11, o9 = some (.int x11) ∧ (vp_in (6 : Int32) 7 ∧ (C m_Acts_run [.ref 98, .int (0 : Int32), .int (gI m10 2 (6 : Int32).toNatClampNeg), .int (2 : Int32), .int (d + (1 : Int32))] m10 (fun o12 m13 => ∃ x14, o12 = some (.int x14) ∧ (Q (some (.int (x11 + x14))) m13))))))
        else if x3 = (71 : Int32) then vp_in (6 : Int32) 7 ∧ (C m_Acts_run [.ref 98, .int (0 : Int32), .int (gI m5 2 (6 : Int32).toNatClampNeg), .int c, .int (d + (1 : Int32))] m5 (fun o6 m7 => ∃ x8, o6 = some (.int x8) ∧ (Q (some (.int (x8 ^^^ (gI m7 98 4)))) m7)))
        else Q (some (.int (0 : Int32))) m5))
      else Q (some (.int (0 : Int32))) m2))) :
    zRun C 0 (some .int) zc_Acts_run Q 0 [.ref 98, .int a, .int b, .int c, .int d, .retAddr 0, .retAddr 0] [] m := zgo [] hC zs_Acts_run (i := .iload_n 1) (r := zfind zc_Acts_run 1) rfl h
theorem en_Acts_run (dd : Nat) {Q : zQ} (a : Int32) (b : Int32) (c : Int32) (d : Int32) (m : zM) (h : zRun (zCall dd) 0 (some .int) zc_Acts_run Q 0 [.ref 98, .int a, .int b, .int c, .int d, .retAddr 0, .retAddr 0] [] m) : zCall (dd + 1) m_Acts_run [.ref 98, .int a, .int b, .int c, .int d] m Q := ⟨Nat.le_of_ble_eq_true rfl, h⟩
theorem zs_Acts_bodyOf : zsrt zc_Acts_bodyOf = true := by decide +kernel
set_option maxRecDepth 100000 in
theorem sg_Acts_bodyOf_0 {C : zC} {Q : zQ} (hC : zCm C) (a : Int32) (b : Int32) (m : zM) (h :
    zRun C 0 (some .int) zc_Acts_bodyOf Q 4 [.int a, .int b, .int b, .int (0 : Int32)] [] m) :
    zRun C 0 (some .int) zc_Acts_bodyOf Q 0 [.int a, .int b, .retAddr 0, .retAddr 0] [] m := zgo [4] hC zs_Acts_bodyOf (i := .iload_n 1) (r := zfind zc_Acts_bodyOf 1) rfl h
set_option maxRecDepth 100000 in
theorem sg_Acts_bodyOf_4 {C : zC} {Q : zQ} (hC : zCm C) (v0 : Int32) (v1 : Int32) (v2 : Int32) (v3 : Int32) (m : zM) (h :
    if (7 : Int32) ≤ v3 then Q (some (.int (0 : Int32))) m
    else if v2 < (0 : Int32) then Q (some (.int (0 : Int32))) m
      else vp_in ((v2 * (3 : Int32)) + v0) 21 ∧ (if (gI m 3 ((v2 * (3 : Int32)) + v0).toNatClampNeg) = (0 : Int32) then vp_in v2 7 ∧ (zRun C 0 (some .int) zc_Acts_bodyOf Q 4 [.int v0, .int v1, .int (gI m 2 v2.toNatClampNeg), .int (v3 + (1 : Int32))] [] m)
        else vp_in ((v2 * (3 : Int32)) + v0) 21 ∧ (Q (some (.int (gI m 3 ((v2 * (3 : Int32)) + v0).toNatClampNeg))) m))) :
    zRun C 0 (some .int) zc_Acts_bodyOf Q 4 [.int v0, .int v1, .int v2, .int v3] [] m := zgo [4] hC zs_Acts_bodyOf (i := .iload_n 3) (r := zfind zc_Acts_bodyOf 5) rfl h
theorem en_Acts_bodyOf (dd : Nat) {Q : zQ} (a : Int32) (b : Int32) (m : zM) (h : zRun (zCall dd) 0 (some .int) zc_Acts_bodyOf Q 0 [.int a, .int b, .retAddr 0, .retAddr 0] [] m) : zCall (dd + 1) m_Acts_bodyOf [.int a, .int b] m Q := ⟨Nat.le_of_ble_eq_true rfl, h⟩
theorem zs_Acts_begin : zsrt zc_Acts_begin = true := by decide +kernel
set_option maxRecDepth 100000 in
theorem sg_Acts_begin_0 {C : zC} {Q : zQ} (hC : zCm C) (a : Int32) (m : zM) (h :
    if (20 : Int32) ≤ (gI m 98 1) then Q none (sI m 98 1 ((gI m 98 1) + (1 : Int32)))
    else vp_in (gI m 98 1) 20 ∧ (Q none (sI (sI m 99 (gI m 98 1).toNatClampNeg a) 98 1 ((gI (sI m 99 (gI m 98 1).toNatClampNeg a) 98 1) + (1 : Int32))))) :
    zRun C 0 none zc_Acts_begin Q 0 [.ref 98, .int a] [] m := zgo [] hC zs_Acts_begin (i := .aload_n 0) (r := zfind zc_Acts_begin 1) rfl h
theorem en_Acts_begin (dd : Nat) {Q : zQ} (a : Int32) (m : zM) (h : zRun (zCall dd) 0 none zc_Acts_begin Q 0 [.ref 98, .int a] [] m) : zCall (dd + 1) m_Acts_begin [.ref 98, .int a] m Q := ⟨Nat.le_of_ble_eq_true rfl, h⟩
theorem zs_Garden_clear : zsrt zc_Garden_clear = true := by decide +kernel
set_option maxRecDepth 100000 in
theorem sg_Garden_clear_58_0 {C : zC} {Q : zQ} (hC : zCm C) (m : zM) (h :
    Q none (sI (sI (sI (sI m 58 0 (-1 : Int32)) 58 1 (-1 : Int32)) 58 2 (0 : Int32)) 58 6 (0 : Int32))) :
    zRun C 1 none zc_Garden_clear Q 0 [.ref 58] [] m := zgo [] hC zs_Garden_clear (i := .aload_n 0) (r := zfind zc_Garden_clear 1) rfl h
theorem en_Garden_clear_58 (dd : Nat) {Q : zQ} (m : zM) (h : zRun (zCall dd) 1 none zc_Garden_clear Q 0 [.ref 58] [] m) : zCall (dd + 1) m_Garden_clear [.ref 58] m Q := ⟨Nat.le_of_ble_eq_true rfl, h⟩
set_option maxRecDepth 100000 in
theorem sg_Garden_clear_63_0 {C : zC} {Q : zQ} (hC : zCm C) (m : zM) (h :
    Q none (sI (sI (sI (sI m 63 0 (-1 : Int32)) 63 1 (-1 : Int32)) 63 2 (0 : Int32)) 63 6 (0 : Int32))) :
    zRun C 1 none zc_Garden_clear Q 0 [.ref 63] [] m := zgo [] hC zs_Garden_clear (i := .aload_n 0) (r := zfind zc_Garden_clear 1) rfl h
theorem en_Garden_clear_63 (dd : Nat) {Q : zQ} (m : zM) (h : zRun (zCall dd) 1 none zc_Garden_clear Q 0 [.ref 63] [] m) : zCall (dd + 1) m_Garden_clear [.ref 63] m Q := ⟨Nat.le_of_ble_eq_true rfl, h⟩
set_option maxRecDepth 100000 in
theorem sg_Garden_clear_68_0 {C : zC} {Q : zQ} (hC : zCm C) (m : zM) (h :
    Q none (sI (sI (sI (sI m 68 0 (-1 : Int32)) 68 1 (-1 : Int32)) 68 2 (0 : Int32)) 68 6 (0 : Int32))) :
    zRun C 1 none zc_Garden_clear Q 0 [.ref 68] [] m := zgo [] hC zs_Garden_clear (i := .aload_n 0) (r := zfind zc_Garden_clear 1) rfl h
theorem en_Garden_clear_68 (dd : Nat) {Q : zQ} (m : zM) (h : zRun (zCall dd) 1 none zc_Garden_clear Q 0 [.ref 68] [] m) : zCall (dd + 1) m_Garden_clear [.ref 68] m Q := ⟨Nat.le_of_ble_eq_true rfl, h⟩
set_option maxRecDepth 100000 in
theorem sg_Garden_clear_73_0 {C : zC} {Q : zQ} (hC : zCm C) (m : zM) (h :
    Q none (sI (sI (sI (sI m 73 0 (-1 : Int32)) 73 1 (-1 : Int32)) 73 2 (0 : Int32)) 73 6 (0 : Int32))) :
    zRun C 1 none zc_Garden_clear Q 0 [.ref 73] [] m := zgo [] hC zs_Garden_clear (i := .aload_n 0) (r := zfind zc_Garden_clear 1) rfl h
theorem en_Garden_clear_73 (dd : Nat) {Q : zQ} (m : zM) (h : zRun (zCall dd) 1 none zc_Garden_clear Q 0 [.ref 73] [] m) : zCall (dd + 1) m_Garden_clear [.ref 73] m Q := ⟨Nat.le_of_ble_eq_true rfl, h⟩
set_option maxRecDepth 100000 in
theorem sg_Garden_clear_78_0 {C : zC} {Q : zQ} (hC : zCm C) (m : zM) (h :
    Q none (sI (sI (sI (sI m 78 0 (-1 : Int32)) 78 1 (-1 : Int32)) 78 2 (0 : Int32)) 78 6 (0 : Int32))) :
    zRun C 1 none zc_Garden_clear Q 0 [.ref 78] [] m := zgo [] hC zs_Garden_clear (i := .aload_n 0) (r := zfind zc_Garden_clear 1) rfl h
theorem en_Garden_clear_78 (dd : Nat) {Q : zQ} (m : zM) (h : zRun (zCall dd) 1 none zc_Garden_clear Q 0 [.ref 78] [] m) : zCall (dd + 1) m_Garden_clear [.ref 78] m Q := ⟨Nat.le_of_ble_eq_true rfl, h⟩
set_option maxRecDepth 100000 in
theorem sg_Garden_clear_83_0 {C : zC} {Q : zQ} (hC : zCm C) (m : zM) (h :
    Q none (sI (sI (sI (sI m 83 0 (-1 : Int32)) 83 1 (-1 : Int32)) 83 2 (0 : Int32)) 83 6 (0 : Int32))) :
    zRun C 1 none zc_Garden_clear Q 0 [.ref 83] [] m := zgo [] hC zs_Garden_clear (i := .aload_n 0) (r := zfind zc_Garden_clear 1) rfl h
theorem en_Garden_clear_83 (dd : Nat) {Q : zQ} (m : zM) (h : zRun (zCall dd) 1 none zc_Garden_clear Q 0 [.ref 83] [] m) : zCall (dd + 1) m_Garden_clear [.ref 83] m Q := ⟨Nat.le_of_ble_eq_true rfl, h⟩
theorem zs_Garden_begin : zsrt zc_Garden_begin = true := by decide +kernel
set_option maxRecDepth 100000 in
theorem sg_Garden_begin_58_0 {C : zC} {Q : zQ} (hC : zCm C) (a : Int32) (b : Int32) (m : zM) (h :
    if (gI m 58 2) < (10 : Int32) then vp_in (gI m 58 2) 10 ∧ (vp_in (gI (sI m 59 (gI m 58 2).toNatClampNeg a) 58 2) 10 ∧ (vp_in (gI (sI (sI m 59 (gI m 58 2).toNatClampNeg a) 60 (gI (sI m 59 (gI m 58 2).toNatClampNeg a) 58 2).toNatClampNeg b) 58 2) 10 ∧ (if ¬ a = (2 : Int32) then if ¬ a = (3 : Int32) then Q none (sI (sI (sI (sI m 59 (gI m 58 2).toNatClampNeg a) 60 (gI (sI m 59 (gI m 58 2).toNatClampNeg a) 58 2).toNatClampNeg b) 61 (gI (sI (sI m 59 (gI m 58 2).toNatClampNeg a) 60 (gI (sI m 59 (gI m 58 2).toNatClampNeg a) 58 2).toNatClampNeg b) 58 2).toNatClampNeg (gI (sI (sI m 59 (gI m 58 2).toNatClampNeg a) 60 (gI (sI m 59 (gI m 58 2).toNatClampNeg a) 58 2).toNatClampNeg b) 58 6)) 58 2 ((gI (sI (sI (sI m 59 (gI m 58 2).toNatClampNeg a) 60 (gI (sI m 59 (gI m 58 2).toNatClampNeg a) 58 2).toNatClampNeg b) 61 (gI (sI (sI m 59 (gI m 58 2).toNatClampNeg a) 60 (gI (sI m 59 (gI m 58 2).toNatClampNeg a) 58 2).toNatClampNeg b) 58 2).toNatClampNeg (gI (sI (sI m 59 (gI m 58 2).toNatClampNeg a) 60 (gI (sI m 59 (gI m 58 2).toNatClampNeg a) 58 2).toNatClampNeg b) 58 6)) 58 2) + (1 : Int32)))
        else Q none (sI (sI (sI (sI (sI m 59 (gI m 58 2).toNatClampNeg a) 60 (gI (sI m 59 (gI m 58 2).toNatClampNeg a) 58 2).toNatClampNeg b) 61 (gI (sI (sI m 59 (gI m 58 2).toNatClampNeg a) 60 (gI (sI m 59 (gI m 58 2).toNatClampNeg a) 58 2).toNatClampNeg b) 58 2).toNatClampNeg (gI (sI (sI m 59 (gI m 58 2).toNatClampNeg a) 60 (gI (sI m 59 (gI m 58 2).toNatClampNeg a) 58 2).toNatClampNeg b) 58 6)) 58 2 ((gI (sI (sI (sI m 59 (gI m 58 2).toNatClampNeg a) 60 (gI (sI m 59 (gI m 58 2).toNatClampNeg a) 58 2).toNatClampNeg b) 61 (gI (sI (sI m 59 (gI m 58 2).toNatClampNeg a) 60 (gI (sI m 59 (gI m 58 2).toNatClampNeg a) 58 2).toNatClampNeg b) 58 2).toNatClampNeg (gI (sI (sI m 59 (gI m 58 2).toNatClampNeg a) 60 (gI (sI m 59 (gI m 58 2).toNatClampNeg a) 58 2).toNatClampNeg b) 58 6)) 58 2) + (1 : Int32))) 58 1 b)
      else Q none (sI (sI (sI (sI (sI m 59 (gI m 58 2).toNatClampNeg a) 60 (gI (sI m 59 (gI m 58 2).toNatClampNeg a) 58 2).toNatClampNeg b) 61 (gI (sI (sI m 59 (gI m 58 2).toNatClampNeg a) 60 (gI (sI m 59 (gI m 58 2).toNatClampNeg a) 58 2).toNatClampNeg b) 58 2).toNatClampNeg (gI (sI (sI m 59 (gI m 58 2).toNatClampNeg a) 60 (gI (sI m 59 (gI m 58 2).toNatClampNeg a) 58 2).toNatClampNeg b) 58 6)) 58 2 ((gI (sI (sI (sI m 59 (gI m 58 2).toNatClampNeg a) 60 (gI (sI m 59 (gI m 58 2).toNatClampNeg a) 58 2).toNatClampNeg b) 61 (gI (sI (sI m 59 (gI m 58 2).toNatClampNeg a) 60 (gI (sI m 59 (gI m 58 2).toNatClampNeg a) 58 2).toNatClampNeg b) 58 2).toNatClampNeg (gI (sI (sI m 59 (gI m 58 2).toNatClampNeg a) 60 (gI (sI m 59 (gI m 58 2).toNatClampNeg a) 58 2).toNatClampNeg b) 58 6)) 58 2) + (1 : Int32))) 58 0 b))))
    else Q none m) :
    zRun C 1 none zc_Garden_begin Q 0 [.ref 58, .int a, .int b] [] m := zgo [] hC zs_Garden_begin (i := .aload_n 0) (r := zfind zc_Garden_begin 1) rfl h
theorem en_Garden_begin_58 (dd : Nat) {Q : zQ} (a : Int32) (b : Int32) (m : zM) (h : zRun (zCall dd) 1 none zc_Garden_begin Q 0 [.ref 58, .int a, .int b] [] m) : zCall (dd + 1) m_Garden_begin [.ref 58, .int a, .int b] m Q := ⟨Nat.le_of_ble_eq_true rfl, h⟩
set_option maxRecDepth 100000 in
theorem sg_Garden_begin_63_0 {C : zC} {Q : zQ} (hC : zCm C) (a : Int32) (b : Int32) (m : zM) (h :
    if (gI m 63 2) < (10 : Int32) then vp_in (gI m 63 2) 10 ∧ (vp_in (gI (sI m 64 (gI m 63 2).toNatClampNeg a) 63 2) 10 ∧ (vp_in (gI (sI (sI m 64 (gI m 63 2).toNatClampNeg a) 65 (gI (sI m 64 (gI m 63 2).toNatClampNeg a) 63 2).toNatClampNeg b) 63 2) 10 ∧ (if ¬ a = (2 : Int32) then if ¬ a = (3 : Int32) then Q none (sI (sI (sI (sI m 64 (gI m 63 2).toNatClampNeg a) 65 (gI (sI m 64 (gI m 63 2).toNatClampNeg a) 63 2).toNatClampNeg b) 66 (gI (sI (sI m 64 (gI m 63 2).toNatClampNeg a) 65 (gI (sI m 64 (gI m 63 2).toNatClampNeg a) 63 2).toNatClampNeg b) 63 2).toNatClampNeg (gI (sI (sI m 64 (gI m 63 2).toNatClampNeg a) 65 (gI (sI m 64 (gI m 63 2).toNatClampNeg a) 63 2).toNatClampNeg b) 63 6)) 63 2 ((gI (sI (sI (sI m 64 (gI m 63 2).toNatClampNeg a) 65 (gI (sI m 64 (gI m 63 2).toNatClampNeg a) 63 2).toNatClampNeg b) 66 (gI (sI (sI m 64 (gI m 63 2).toNatClampNeg a) 65 (gI (sI m 64 (gI m 63 2).toNatClampNeg a) 63 2).toNatClampNeg b) 63 2).toNatClampNeg (gI (sI (sI m 64 (gI m 63 2).toNatClampNeg a) 65 (gI (sI m 64 (gI m 63 2).toNatClampNeg a) 63 2).toNatClampNeg b) 63 6)) 63 2) + (1 : Int32)))
        else Q none (sI (sI (sI (sI (sI m 64 (gI m 63 2).toNatClampNeg a) 65 (gI (sI m 64 (gI m 63 2).toNatClampNeg a) 63 2).toNatClampNeg b) 66 (gI (sI (sI m 64 (gI m 63 2).toNatClampNeg a) 65 (gI (sI m 64 (gI m 63 2).toNatClampNeg a) 63 2).toNatClampNeg b) 63 2).toNatClampNeg (gI (sI (sI m 64 (gI m 63 2).toNatClampNeg a) 65 (gI (sI m 64 (gI m 63 2).toNatClampNeg a) 63 2).toNatClampNeg b) 63 6)) 63 2 ((gI (sI (sI (sI m 64 (gI m 63 2).toNatClampNeg a) 65 (gI (sI m 64 (gI m 63 2).toNatClampNeg a) 63 2).toNatClampNeg b) 66 (gI (sI (sI m 64 (gI m 63 2).toNatClampNeg a) 65 (gI (sI m 64 (gI m 63 2).toNatClampNeg a) 63 2).toNatClampNeg b) 63 2).toNatClampNeg (gI (sI (sI m 64 (gI m 63 2).toNatClampNeg a) 65 (gI (sI m 64 (gI m 63 2).toNatClampNeg a) 63 2).toNatClampNeg b) 63 6)) 63 2) + (1 : Int32))) 63 1 b)
      else Q none (sI (sI (sI (sI (sI m 64 (gI m 63 2).toNatClampNeg a) 65 (gI (sI m 64 (gI m 63 2).toNatClampNeg a) 63 2).toNatClampNeg b) 66 (gI (sI (sI m 64 (gI m 63 2).toNatClampNeg a) 65 (gI (sI m 64 (gI m 63 2).toNatClampNeg a) 63 2).toNatClampNeg b) 63 2).toNatClampNeg (gI (sI (sI m 64 (gI m 63 2).toNatClampNeg a) 65 (gI (sI m 64 (gI m 63 2).toNatClampNeg a) 63 2).toNatClampNeg b) 63 6)) 63 2 ((gI (sI (sI (sI m 64 (gI m 63 2).toNatClampNeg a) 65 (gI (sI m 64 (gI m 63 2).toNatClampNeg a) 63 2).toNatClampNeg b) 66 (gI (sI (sI m 64 (gI m 63 2).toNatClampNeg a) 65 (gI (sI m 64 (gI m 63 2).toNatClampNeg a) 63 2).toNatClampNeg b) 63 2).toNatClampNeg (gI (sI (sI m 64 (gI m 63 2).toNatClampNeg a) 65 (gI (sI m 64 (gI m 63 2).toNatClampNeg a) 63 2).toNatClampNeg b) 63 6)) 63 2) + (1 : Int32))) 63 0 b))))
    else Q none m) :
    zRun C 1 none zc_Garden_begin Q 0 [.ref 63, .int a, .int b] [] m := zgo [] hC zs_Garden_begin (i := .aload_n 0) (r := zfind zc_Garden_begin 1) rfl h
theorem en_Garden_begin_63 (dd : Nat) {Q : zQ} (a : Int32) (b : Int32) (m : zM) (h : zRun (zCall dd) 1 none zc_Garden_begin Q 0 [.ref 63, .int a, .int b] [] m) : zCall (dd + 1) m_Garden_begin [.ref 63, .int a, .int b] m Q := ⟨Nat.le_of_ble_eq_true rfl, h⟩
set_option maxRecDepth 100000 in
theorem sg_Garden_begin_68_0 {C : zC} {Q : zQ} (hC : zCm C) (a : Int32) (b : Int32) (m : zM) (h :
    if (gI m 68 2) < (10 : Int32) then vp_in (gI m 68 2) 10 ∧ (vp_in (gI (sI m 69 (gI m 68 2).toNatClampNeg a) 68 2) 10 ∧ (vp_in (gI (sI (sI m 69 (gI m 68 2).toNatClampNeg a) 70 (gI (sI m 69 (gI m 68 2).toNatClampNeg a) 68 2).toNatClampNeg b) 68 2) 10 ∧ (if ¬ a = (2 : Int32) then if ¬ a = (3 : Int32) then Q none (sI (sI (sI (sI m 69 (gI m 68 2).toNatClampNeg a) 70 (gI (sI m 69 (gI m 68 2).toNatClampNeg a) 68 2).toNatClampNeg b) 71 (gI (sI (sI m 69 (gI m 68 2).toNatClampNeg a) 70 (gI (sI m 69 (gI m 68 2).toNatClampNeg a) 68 2).toNatClampNeg b) 68 2).toNatClampNeg (gI (sI (sI m 69 (gI m 68 2).toNatClampNeg a) 70 (gI (sI m 69 (gI m 68 2).toNatClampNeg a) 68 2).toNatClampNeg b) 68 6)) 68 2 ((gI (sI (sI (sI m 69 (gI m 68 2).toNatClampNeg a) 70 (gI (sI m 69 (gI m 68 2).toNatClampNeg a) 68 2).toNatClampNeg b) 71 (gI (sI (sI m 69 (gI m 68 2).toNatClampNeg a) 70 (gI (sI m 69 (gI m 68 2).toNatClampNeg a) 68 2).toNatClampNeg b) 68 2).toNatClampNeg (gI (sI (sI m 69 (gI m 68 2).toNatClampNeg a) 70 (gI (sI m 69 (gI m 68 2).toNatClampNeg a) 68 2).toNatClampNeg b) 68 6)) 68 2) + (1 : Int32)))
        else Q none (sI (sI (sI (sI (sI m 69 (gI m 68 2).toNatClampNeg a) 70 (gI (sI m 69 (gI m 68 2).toNatClampNeg a) 68 2).toNatClampNeg b) 71 (gI (sI (sI m 69 (gI m 68 2).toNatClampNeg a) 70 (gI (sI m 69 (gI m 68 2).toNatClampNeg a) 68 2).toNatClampNeg b) 68 2).toNatClampNeg (gI (sI (sI m 69 (gI m 68 2).toNatClampNeg a) 70 (gI (sI m 69 (gI m 68 2).toNatClampNeg a) 68 2).toNatClampNeg b) 68 6)) 68 2 ((gI (sI (sI (sI m 69 (gI m 68 2).toNatClampNeg a) 70 (gI (sI m 69 (gI m 68 2).toNatClampNeg a) 68 2).toNatClampNeg b) 71 (gI (sI (sI m 69 (gI m 68 2).toNatClampNeg a) 70 (gI (sI m 69 (gI m 68 2).toNatClampNeg a) 68 2).toNatClampNeg b) 68 2).toNatClampNeg (gI (sI (sI m 69 (gI m 68 2).toNatClampNeg a) 70 (gI (sI m 69 (gI m 68 2).toNatClampNeg a) 68 2).toNatClampNeg b) 68 6)) 68 2) + (1 : Int32))) 68 1 b)
      else Q none (sI (sI (sI (sI (sI m 69 (gI m 68 2).toNatClampNeg a) 70 (gI (sI m 69 (gI m 68 2).toNatClampNeg a) 68 2).toNatClampNeg b) 71 (gI (sI (sI m 69 (gI m 68 2).toNatClampNeg a) 70 (gI (sI m 69 (gI m 68 2).toNatClampNeg a) 68 2).toNatClampNeg b) 68 2).toNatClampNeg (gI (sI (sI m 69 (gI m 68 2).toNatClampNeg a) 70 (gI (sI m 69 (gI m 68 2).toNatClampNeg a) 68 2).toNatClampNeg b) 68 6)) 68 2 ((gI (sI (sI (sI m 69 (gI m 68 2).toNatClampNeg a) 70 (gI (sI m 69 (gI m 68 2).toNatClampNeg a) 68 2).toNatClampNeg b) 71 (gI (sI (sI m 69 (gI m 68 2).toNatClampNeg a) 70 (gI (sI m 69 (gI m 68 2).toNatClampNeg a) 68 2).toNatClampNeg b) 68 2).toNatClampNeg (gI (sI (sI m 69 (gI m 68 2).toNatClampNeg a) 70 (gI (sI m 69 (gI m 68 2).toNatClampNeg a) 68 2).toNatClampNeg b) 68 6)) 68 2) + (1 : Int32))) 68 0 b))))
    else Q none m) :
    zRun C 1 none zc_Garden_begin Q 0 [.ref 68, .int a, .int b] [] m := zgo [] hC zs_Garden_begin (i := .aload_n 0) (r := zfind zc_Garden_begin 1) rfl h
theorem en_Garden_begin_68 (dd : Nat) {Q : zQ} (a : Int32) (b : Int32) (m : zM) (h : zRun (zCall dd) 1 none zc_Garden_begin Q 0 [.ref 68, .int a, .int b] [] m) : zCall (dd + 1) m_Garden_begin [.ref 68, .int a, .int b] m Q := ⟨Nat.le_of_ble_eq_true rfl, h⟩
set_option maxRecDepth 100000 in
theorem sg_Garden_begin_73_0 {C : zC} {Q : zQ} (hC : zCm C) (a : Int32) (b : Int32) (m : zM) (h :
    if (gI m 73 2) < (10 : Int32) then vp_in (gI m 73 2) 10 ∧ (vp_in (gI (sI m 74 (gI m 73 2).toNatClampNeg a) 73 2) 10 ∧ (vp_in (gI (sI (sI m 74 (gI m 73 2).toNatClampNeg a) 75 (gI (sI m 74 (gI m 73 2).toNatClampNeg a) 73 2).toNatClampNeg b) 73 2) 10 ∧ (if ¬ a = (2 : Int32) then if ¬ a = (3 : Int32) then Q none (sI (sI (sI (sI m 74 (gI m 73 2).toNatClampNeg a) 75 (gI (sI m 74 (gI m 73 2).toNatClampNeg a) 73 2).toNatClampNeg b) 76 (gI (sI (sI m 74 (gI m 73 2).toNatClampNeg a) 75 (gI (sI m 74 (gI m 73 2).toNatClampNeg a) 73 2).toNatClampNeg b) 73 2).toNatClampNeg (gI (sI (sI m 74 (gI m 73 2).toNatClampNeg a) 75 (gI (sI m 74 (gI m 73 2).toNatClampNeg a) 73 2).toNatClampNeg b) 73 6)) 73 2 ((gI (sI (sI (sI m 74 (gI m 73 2).toNatClampNeg a) 75 (gI (sI m 74 (gI m 73 2).toNatClampNeg a) 73 2).toNatClampNeg b) 76 (gI (sI (sI m 74 (gI m 73 2).toNatClampNeg a) 75 (gI (sI m 74 (gI m 73 2).toNatClampNeg a) 73 2).toNatClampNeg b) 73 2).toNatClampNeg (gI (sI (sI m 74 (gI m 73 2).toNatClampNeg a) 75 (gI (sI m 74 (gI m 73 2).toNatClampNeg a) 73 2).toNatClampNeg b) 73 6)) 73 2) + (1 : Int32)))
        else Q none (sI (sI (sI (sI (sI m 74 (gI m 73 2).toNatClampNeg a) 75 (gI (sI m 74 (gI m 73 2).toNatClampNeg a) 73 2).toNatClampNeg b) 76 (gI (sI (sI m 74 (gI m 73 2).toNatClampNeg a) 75 (gI (sI m 74 (gI m 73 2).toNatClampNeg a) 73 2).toNatClampNeg b) 73 2).toNatClampNeg (gI (sI (sI m 74 (gI m 73 2).toNatClampNeg a) 75 (gI (sI m 74 (gI m 73 2).toNatClampNeg a) 73 2).toNatClampNeg b) 73 6)) 73 2 ((gI (sI (sI (sI m 74 (gI m 73 2).toNatClampNeg a) 75 (gI (sI m 74 (gI m 73 2).toNatClampNeg a) 73 2).toNatClampNeg b) 76 (gI (sI (sI m 74 (gI m 73 2).toNatClampNeg a) 75 (gI (sI m 74 (gI m 73 2).toNatClampNeg a) 73 2).toNatClampNeg b) 73 2).toNatClampNeg (gI (sI (sI m 74 (gI m 73 2).toNatClampNeg a) 75 (gI (sI m 74 (gI m 73 2).toNatClampNeg a) 73 2).toNatClampNeg b) 73 6)) 73 2) + (1 : Int32))) 73 1 b)
      else Q none (sI (sI (sI (sI (sI m 74 (gI m 73 2).toNatClampNeg a) 75 (gI (sI m 74 (gI m 73 2).toNatClampNeg a) 73 2).toNatClampNeg b) 76 (gI (sI (sI m 74 (gI m 73 2).toNatClampNeg a) 75 (gI (sI m 74 (gI m 73 2).toNatClampNeg a) 73 2).toNatClampNeg b) 73 2).toNatClampNeg (gI (sI (sI m 74 (gI m 73 2).toNatClampNeg a) 75 (gI (sI m 74 (gI m 73 2).toNatClampNeg a) 73 2).toNatClampNeg b) 73 6)) 73 2 ((gI (sI (sI (sI m 74 (gI m 73 2).toNatClampNeg a) 75 (gI (sI m 74 (gI m 73 2).toNatClampNeg a) 73 2).toNatClampNeg b) 76 (gI (sI (sI m 74 (gI m 73 2).toNatClampNeg a) 75 (gI (sI m 74 (gI m 73 2).toNatClampNeg a) 73 2).toNatClampNeg b) 73 2).toNatClampNeg (gI (sI (sI m 74 (gI m 73 2).toNatClampNeg a) 75 (gI (sI m 74 (gI m 73 2).toNatClampNeg a) 73 2).toNatClampNeg b) 73 6)) 73 2) + (1 : Int32))) 73 0 b))))
    else Q none m) :
    zRun C 1 none zc_Garden_begin Q 0 [.ref 73, .int a, .int b] [] m := zgo [] hC zs_Garden_begin (i := .aload_n 0) (r := zfind zc_Garden_begin 1) rfl h
theorem en_Garden_begin_73 (dd : Nat) {Q : zQ} (a : Int32) (b : Int32) (m : zM) (h : zRun (zCall dd) 1 none zc_Garden_begin Q 0 [.ref 73, .int a, .int b] [] m) : zCall (dd + 1) m_Garden_begin [.ref 73, .int a, .int b] m Q := ⟨Nat.le_of_ble_eq_true rfl, h⟩
set_option maxRecDepth 100000 in
theorem sg_Garden_begin_78_0 {C : zC} {Q : zQ} (hC : zCm C) (a : Int32) (b : Int32) (m : zM) (h :
    if (gI m 78 2) < (10 : Int32) then vp_in (gI m 78 2) 10 ∧ (vp_in (gI (sI m 79 (gI m 78 2).toNatClampNeg a) 78 2) 10 ∧ (vp_in (gI (sI (sI m 79 (gI m 78 2).toNatClampNeg a) 80 (gI (sI m 79 (gI m 78 2).toNatClampNeg a) 78 2).toNatClampNeg b) 78 2) 10 ∧ (if ¬ a = (2 : Int32) then if ¬ a = (3 : Int32) then Q none (sI (sI (sI (sI m 79 (gI m 78 2).toNatClampNeg a) 80 (gI (sI m 79 (gI m 78 2).toNatClampNeg a) 78 2).toNatClampNeg b) 81 (gI (sI (sI m 79 (gI m 78 2).toNatClampNeg a) 80 (gI (sI m 79 (gI m 78 2).toNatClampNeg a) 78 2).toNatClampNeg b) 78 2).toNatClampNeg (gI (sI (sI m 79 (gI m 78 2).toNatClampNeg a) 80 (gI (sI m 79 (gI m 78 2).toNatClampNeg a) 78 2).toNatClampNeg b) 78 6)) 78 2 ((gI (sI (sI (sI m 79 (gI m 78 2).toNatClampNeg a) 80 (gI (sI m 79 (gI m 78 2).toNatClampNeg a) 78 2).toNatClampNeg b) 81 (gI (sI (sI m 79 (gI m 78 2).toNatClampNeg a) 80 (gI (sI m 79 (gI m 78 2).toNatClampNeg a) 78 2).toNatClampNeg b) 78 2).toNatClampNeg (gI (sI (sI m 79 (gI m 78 2).toNatClampNeg a) 80 (gI (sI m 79 (gI m 78 2).toNatClampNeg a) 78 2).toNatClampNeg b) 78 6)) 78 2) + (1 : Int32)))
        else Q none (sI (sI (sI (sI (sI m 79 (gI m 78 2).toNatClampNeg a) 80 (gI (sI m 79 (gI m 78 2).toNatClampNeg a) 78 2).toNatClampNeg b) 81 (gI (sI (sI m 79 (gI m 78 2).toNatClampNeg a) 80 (gI (sI m 79 (gI m 78 2).toNatClampNeg a) 78 2).toNatClampNeg b) 78 2).toNatClampNeg (gI (sI (sI m 79 (gI m 78 2).toNatClampNeg a) 80 (gI (sI m 79 (gI m 78 2).toNatClampNeg a) 78 2).toNatClampNeg b) 78 6)) 78 2 ((gI (sI (sI (sI m 79 (gI m 78 2).toNatClampNeg a) 80 (gI (sI m 79 (gI m 78 2).toNatClampNeg a) 78 2).toNatClampNeg b) 81 (gI (sI (sI m 79 (gI m 78 2).toNatClampNeg a) 80 (gI (sI m 79 (gI m 78 2).toNatClampNeg a) 78 2).toNatClampNeg b) 78 2).toNatClampNeg (gI (sI (sI m 79 (gI m 78 2).toNatClampNeg a) 80 (gI (sI m 79 (gI m 78 2).toNatClampNeg a) 78 2).toNatClampNeg b) 78 6)) 78 2) + (1 : Int32))) 78 1 b)
      else Q none (sI (sI (sI (sI (sI m 79 (gI m 78 2).toNatClampNeg a) 80 (gI (sI m 79 (gI m 78 2).toNatClampNeg a) 78 2).toNatClampNeg b) 81 (gI (sI (sI m 79 (gI m 78 2).toNatClampNeg a) 80 (gI (sI m 79 (gI m 78 2).toNatClampNeg a) 78 2).toNatClampNeg b) 78 2).toNatClampNeg (gI (sI (sI m 79 (gI m 78 2).toNatClampNeg a) 80 (gI (sI m 79 (gI m 78 2).toNatClampNeg a) 78 2).toNatClampNeg b) 78 6)) 78 2 ((gI (sI (sI (sI m 79 (gI m 78 2).toNatClampNeg a) 80 (gI (sI m 79 (gI m 78 2).toNatClampNeg a) 78 2).toNatClampNeg b) 81 (gI (sI (sI m 79 (gI m 78 2).toNatClampNeg a) 80 (gI (sI m 79 (gI m 78 2).toNatClampNeg a) 78 2).toNatClampNeg b) 78 2).toNatClampNeg (gI (sI (sI m 79 (gI m 78 2).toNatClampNeg a) 80 (gI (sI m 79 (gI m 78 2).toNatClampNeg a) 78 2).toNatClampNeg b) 78 6)) 78 2) + (1 : Int32))) 78 0 b))))
    else Q none m) :
    zRun C 1 none zc_Garden_begin Q 0 [.ref 78, .int a, .int b] [] m := zgo [] hC zs_Garden_begin (i := .aload_n 0) (r := zfind zc_Garden_begin 1) rfl h
theorem en_Garden_begin_78 (dd : Nat) {Q : zQ} (a : Int32) (b : Int32) (m : zM) (h : zRun (zCall dd) 1 none zc_Garden_begin Q 0 [.ref 78, .int a, .int b] [] m) : zCall (dd + 1) m_Garden_begin [.ref 78, .int a, .int b] m Q := ⟨Nat.le_of_ble_eq_true rfl, h⟩
set_option maxRecDepth 100000 in
theorem sg_Garden_begin_83_0 {C : zC} {Q : zQ} (hC : zCm C) (a : Int32) (b : Int32) (m : zM) (h :
    if (gI m 83 2) < (10 : Int32) then vp_in (gI m 83 2) 10 ∧ (vp_in (gI (sI m 84 (gI m 83 2).toNatClampNeg a) 83 2) 10 ∧ (vp_in (gI (sI (sI m 84 (gI m 83 2).toNatClampNeg a) 85 (gI (sI m 84 (gI m 83 2).toNatClampNeg a) 83 2).toNatClampNeg b) 83 2) 10 ∧ (if ¬ a = (2 : Int32) then if ¬ a = (3 : Int32) then Q none (sI (sI (sI (sI m 84 (gI m 83 2).toNatClampNeg a) 85 (gI (sI m 84 (gI m 83 2).toNatClampNeg a) 83 2).toNatClampNeg b) 86 (gI (sI (sI m 84 (gI m 83 2).toNatClampNeg a) 85 (gI (sI m 84 (gI m 83 2).toNatClampNeg a) 83 2).toNatClampNeg b) 83 2).toNatClampNeg (gI (sI (sI m 84 (gI m 83 2).toNatClampNeg a) 85 (gI (sI m 84 (gI m 83 2).toNatClampNeg a) 83 2).toNatClampNeg b) 83 6)) 83 2 ((gI (sI (sI (sI m 84 (gI m 83 2).toNatClampNeg a) 85 (gI (sI m 84 (gI m 83 2).toNatClampNeg a) 83 2).toNatClampNeg b) 86 (gI (sI (sI m 84 (gI m 83 2).toNatClampNeg a) 85 (gI (sI m 84 (gI m 83 2).toNatClampNeg a) 83 2).toNatClampNeg b) 83 2).toNatClampNeg (gI (sI (sI m 84 (gI m 83 2).toNatClampNeg a) 85 (gI (sI m 84 (gI m 83 2).toNatClampNeg a) 83 2).toNatClampNeg b) 83 6)) 83 2) + (1 : Int32)))
        else Q none (sI (sI (sI (sI (sI m 84 (gI m 83 2).toNatClampNeg a) 85 (gI (sI m 84 (gI m 83 2).toNatClampNeg a) 83 2).toNatClampNeg b) 86 (gI (sI (sI m 84 (gI m 83 2).toNatClampNeg a) 85 (gI (sI m 84 (gI m 83 2).toNatClampNeg a) 83 2).toNatClampNeg b) 83 2).toNatClampNeg (gI (sI (sI m 84 (gI m 83 2).toNatClampNeg a) 85 (gI (sI m 84 (gI m 83 2).toNatClampNeg a) 83 2).toNatClampNeg b) 83 6)) 83 2 ((gI (sI (sI (sI m 84 (gI m 83 2).toNatClampNeg a) 85 (gI (sI m 84 (gI m 83 2).toNatClampNeg a) 83 2).toNatClampNeg b) 86 (gI (sI (sI m 84 (gI m 83 2).toNatClampNeg a) 85 (gI (sI m 84 (gI m 83 2).toNatClampNeg a) 83 2).toNatClampNeg b) 83 2).toNatClampNeg (gI (sI (sI m 84 (gI m 83 2).toNatClampNeg a) 85 (gI (sI m 84 (gI m 83 2).toNatClampNeg a) 83 2).toNatClampNeg b) 83 6)) 83 2) + (1 : Int32))) 83 1 b)
      else Q none (sI (sI (sI (sI (sI m 84 (gI m 83 2).toNatClampNeg a) 85 (gI (sI m 84 (gI m 83 2).toNatClampNeg a) 83 2).toNatClampNeg b) 86 (gI (sI (sI m 84 (gI m 83 2).toNatClampNeg a) 85 (gI (sI m 84 (gI m 83 2).toNatClampNeg a) 83 2).toNatClampNeg b) 83 2).toNatClampNeg (gI (sI (sI m 84 (gI m 83 2).toNatClampNeg a) 85 (gI (sI m 84 (gI m 83 2).toNatClampNeg a) 83 2).toNatClampNeg b) 83 6)) 83 2 ((gI (sI (sI (sI m 84 (gI m 83 2).toNatClampNeg a) 85 (gI (sI m 84 (gI m 83 2).toNatClampNeg a) 83 2).toNatClampNeg b) 86 (gI (sI (sI m 84 (gI m 83 2).toNatClampNeg a) 85 (gI (sI m 84 (gI m 83 2).toNatClampNeg a) 83 2).toNatClampNeg b) 83 2).toNatClampNeg (gI (sI (sI m 84 (gI m 83 2).toNatClampNeg a) 85 (gI (sI m 84 (gI m 83 2).toNatClampNeg a) 83 2).toNatClampNeg b) 83 6)) 83 2) + (1 : Int32))) 83 0 b))))
    else Q none m) :
    zRun C 1 none zc_Garden_begin Q 0 [.ref 83, .int a, .int b] [] m := zgo [] hC zs_Garden_begin (i := .aload_n 0) (r := zfind zc_Garden_begin 1) rfl h
theorem en_Garden_begin_83 (dd : Nat) {Q : zQ} (a : Int32) (b : Int32) (m : zM) (h : zRun (zCall dd) 1 none zc_Garden_begin Q 0 [.ref 83, .int a, .int b] [] m) : zCall (dd + 1) m_Garden_begin [.ref 83, .int a, .int b] m Q := ⟨Nat.le_of_ble_eq_true rfl, h⟩
theorem zs_Garden_put : zsrt zc_Garden_put = true := by decide +kernel
set_option maxRecDepth 100000 in
theorem sg_Garden_put_58_0 {C : zC} {Q : zQ} (hC : zCm C) (a : Int32) (m : zM) (h :
    if (100 : Int32) ≤ (gI m 58 6) then Q none m
    else if (1 : Int32) ≤ (gI m 58 2) then vp_in (gI m 58 6) 100 ∧ (vp_in ((gI (sI (sI m 62 (gI m 58 6).toNatClampNeg a) 58 6 ((gI (sI m 62 (gI m 58 6).toNatClampNeg a) 58 6) + (1 : Int32))) 58 2) - (1 : Int32)) 10 ∧ (Q none (sI (sI (sI m 62 (gI m 58 6).toNatClampNeg a) 58 6 ((gI (sI m 62 (gI m 58 6).toNatClampNeg a) 58 6) + (1 : Int32))) 61 ((gI (sI (sI m 62 (gI m 58 6).toNatClampNeg a) 58 6 ((gI (sI m 62 (gI m 58 6).toNatClampNeg a) 58 6) + (1 : Int32))) 58 2) - (1 : Int32)).toNatClampNeg (gI (sI (sI m 62 (gI m 58 6).toNatClampNeg a) 58 6 ((gI (sI m 62 (gI m 58 6).toNatClampNeg a) 58 6) + (1 : Int32))) 58 6))))
      else Q none m) :
    zRun C 1 none zc_Garden_put Q 0 [.ref 58, .int a] [] m := zgo [] hC zs_Garden_put (i := .aload_n 0) (r := zfind zc_Garden_put 1) rfl h
theorem en_Garden_put_58 (dd : Nat) {Q : zQ} (a : Int32) (m : zM) (h : zRun (zCall dd) 1 none zc_Garden_put Q 0 [.ref 58, .int a] [] m) : zCall (dd + 1) m_Garden_put [.ref 58, .int a] m Q := ⟨Nat.le_of_ble_eq_true rfl, h⟩
set_option maxRecDepth 100000 in
theorem sg_Garden_put_63_0 {C : zC} {Q : zQ} (hC : zCm C) (a : Int32) (m : zM) (h :
    if (100 : Int32) ≤ (gI m 63 6) then Q none m
    else if (1 : Int32) ≤ (gI m 63 2) then vp_in (gI m 63 6) 100 ∧ (vp_in ((gI (sI (sI m 67 (gI m 63 6).toNatClampNeg a) 63 6 ((gI (sI m 67 (gI m 63 6).toNatClampNeg a) 63 6) + (1 : Int32))) 63 2) - (1 : Int32)) 10 ∧ (Q none (sI (sI (sI m 67 (gI m 63 6).toNatClampNeg a) 63 6 ((gI (sI m 67 (gI m 63 6).toNatClampNeg a) 63 6) + (1 : Int32))) 66 ((gI (sI (sI m 67 (gI m 63 6).toNatClampNeg a) 63 6 ((gI (sI m 67 (gI m 63 6).toNatClampNeg a) 63 6) + (1 : Int32))) 63 2) - (1 : Int32)).toNatClampNeg (gI (sI (sI m 67 (gI m 63 6).toNatClampNeg a) 63 6 ((gI (sI m 67 (gI m 63 6).toNatClampNeg a) 63 6) + (1 : Int32))) 63 6))))
      else Q none m) :
    zRun C 1 none zc_Garden_put Q 0 [.ref 63, .int a] [] m := zgo [] hC zs_Garden_put (i := .aload_n 0) (r := zfind zc_Garden_put 1) rfl h
theorem en_Garden_put_63 (dd : Nat) {Q : zQ} (a : Int32) (m : zM) (h : zRun (zCall dd) 1 none zc_Garden_put Q 0 [.ref 63, .int a] [] m) : zCall (dd + 1) m_Garden_put [.ref 63, .int a] m Q := ⟨Nat.le_of_ble_eq_true rfl, h⟩
set_option maxRecDepth 100000 in
theorem sg_Garden_put_68_0 {C : zC} {Q : zQ} (hC : zCm C) (a : Int32) (m : zM) (h :
    if (100 : Int32) ≤ (gI m 68 6) then Q none m
    else if (1 : Int32) ≤ (gI m 68 2) then vp_in (gI m 68 6) 100 ∧ (vp_in ((gI (sI (sI m 72 (gI m 68 6).toNatClampNeg a) 68 6 ((gI (sI m 72 (gI m 68 6).toNatClampNeg a) 68 6) + (1 : Int32))) 68 2) - (1 : Int32)) 10 ∧ (Q none (sI (sI (sI m 72 (gI m 68 6).toNatClampNeg a) 68 6 ((gI (sI m 72 (gI m 68 6).toNatClampNeg a) 68 6) + (1 : Int32))) 71 ((gI (sI (sI m 72 (gI m 68 6).toNatClampNeg a) 68 6 ((gI (sI m 72 (gI m 68 6).toNatClampNeg a) 68 6) + (1 : Int32))) 68 2) - (1 : Int32)).toNatClampNeg (gI (sI (sI m 72 (gI m 68 6).toNatClampNeg a) 68 6 ((gI (sI m 72 (gI m 68 6).toNatClampNeg a) 68 6) + (1 : Int32))) 68 6))))
      else Q none m) :
    zRun C 1 none zc_Garden_put Q 0 [.ref 68, .int a] [] m := zgo [] hC zs_Garden_put (i := .aload_n 0) (r := zfind zc_Garden_put 1) rfl h
theorem en_Garden_put_68 (dd : Nat) {Q : zQ} (a : Int32) (m : zM) (h : zRun (zCall dd) 1 none zc_Garden_put Q 0 [.ref 68, .int a] [] m) : zCall (dd + 1) m_Garden_put [.ref 68, .int a] m Q := ⟨Nat.le_of_ble_eq_true rfl, h⟩
set_option maxRecDepth 100000 in
theorem sg_Garden_put_73_0 {C : zC} {Q : zQ} (hC : zCm C) (a : Int32) (m : zM) (h :
    if (100 : Int32) ≤ (gI m 73 6) then Q none m
    else if (1 : Int32) ≤ (gI m 73 2) then vp_in (gI m 73 6) 100 ∧ (vp_in ((gI (sI (sI m 77 (gI m 73 6).toNatClampNeg a) 73 6 ((gI (sI m 77 (gI m 73 6).toNatClampNeg a) 73 6) + (1 : Int32))) 73 2) - (1 : Int32)) 10 ∧ (Q none (sI (sI (sI m 77 (gI m 73 6).toNatClampNeg a) 73 6 ((gI (sI m 77 (gI m 73 6).toNatClampNeg a) 73 6) + (1 : Int32))) 76 ((gI (sI (sI m 77 (gI m 73 6).toNatClampNeg a) 73 6 ((gI (sI m 77 (gI m 73 6).toNatClampNeg a) 73 6) + (1 : Int32))) 73 2) - (1 : Int32)).toNatClampNeg (gI (sI (sI m 77 (gI m 73 6).toNatClampNeg a) 73 6 ((gI (sI m 77 (gI m 73 6).toNatClampNeg a) 73 6) + (1 : Int32))) 73 6))))
      else Q none m) :
    zRun C 1 none zc_Garden_put Q 0 [.ref 73, .int a] [] m := zgo [] hC zs_Garden_put (i := .aload_n 0) (r := zfind zc_Garden_put 1) rfl h
theorem en_Garden_put_73 (dd : Nat) {Q : zQ} (a : Int32) (m : zM) (h : zRun (zCall dd) 1 none zc_Garden_put Q 0 [.ref 73, .int a] [] m) : zCall (dd + 1) m_Garden_put [.ref 73, .int a] m Q := ⟨Nat.le_of_ble_eq_true rfl, h⟩
set_option maxRecDepth 100000 in
theorem sg_Garden_put_78_0 {C : zC} {Q : zQ} (hC : zCm C) (a : Int32) (m : zM) (h :
    if (100 : Int32) ≤ (gI m 78 6) then Q none m
    else if (1 : Int32) ≤ (gI m 78 2) then vp_in (gI m 78 6) 100 ∧ (vp_in ((gI (sI (sI m 82 (gI m 78 6).toNatClampNeg a) 78 6 ((gI (sI m 82 (gI m 78 6).toNatClampNeg a) 78 6) + (1 : Int32))) 78 2) - (1 : Int32)) 10 ∧ (Q none (sI (sI (sI m 82 (gI m 78 6).toNatClampNeg a) 78 6 ((gI (sI m 82 (gI m 78 6).toNatClampNeg a) 78 6) + (1 : Int32))) 81 ((gI (sI (sI m 82 (gI m 78 6).toNatClampNeg a) 78 6 ((gI (sI m 82 (gI m 78 6).toNatClampNeg a) 78 6) + (1 : Int32))) 78 2) - (1 : Int32)).toNatClampNeg (gI (sI (sI m 82 (gI m 78 6).toNatClampNeg a) 78 6 ((gI (sI m 82 (gI m 78 6).toNatClampNeg a) 78 6) + (1 : Int32))) 78 6))))
      else Q none m) :
    zRun C 1 none zc_Garden_put Q 0 [.ref 78, .int a] [] m := zgo [] hC zs_Garden_put (i := .aload_n 0) (r := zfind zc_Garden_put 1) rfl h
theorem en_Garden_put_78 (dd : Nat) {Q : zQ} (a : Int32) (m : zM) (h : zRun (zCall dd) 1 none zc_Garden_put Q 0 [.ref 78, .int a] [] m) : zCall (dd + 1) m_Garden_put [.ref 78, .int a] m Q := ⟨Nat.le_of_ble_eq_true rfl, h⟩
set_option maxRecDepth 100000 in
theorem sg_Garden_put_83_0 {C : zC} {Q : zQ} (hC : zCm C) (a : Int32) (m : zM) (h :
    if (100 : Int32) ≤ (gI m 83 6) then Q none m
    else if (1 : Int32) ≤ (gI m 83 2) then vp_in (gI m 83 6) 100 ∧ (vp_in ((gI (sI (sI m 87 (gI m 83 6).toNatClampNeg a) 83 6 ((gI (sI m 87 (gI m 83 6).toNatClampNeg a) 83 6) + (1 : Int32))) 83 2) - (1 : Int32)) 10 ∧ (Q none (sI (sI (sI m 87 (gI m 83 6).toNatClampNeg a) 83 6 ((gI (sI m 87 (gI m 83 6).toNatClampNeg a) 83 6) + (1 : Int32))) 86 ((gI (sI (sI m 87 (gI m 83 6).toNatClampNeg a) 83 6 ((gI (sI m 87 (gI m 83 6).toNatClampNeg a) 83 6) + (1 : Int32))) 83 2) - (1 : Int32)).toNatClampNeg (gI (sI (sI m 87 (gI m 83 6).toNatClampNeg a) 83 6 ((gI (sI m 87 (gI m 83 6).toNatClampNeg a) 83 6) + (1 : Int32))) 83 6))))
      else Q none m) :
    zRun C 1 none zc_Garden_put Q 0 [.ref 83, .int a] [] m := zgo [] hC zs_Garden_put (i := .aload_n 0) (r := zfind zc_Garden_put 1) rfl h
theorem en_Garden_put_83 (dd : Nat) {Q : zQ} (a : Int32) (m : zM) (h : zRun (zCall dd) 1 none zc_Garden_put Q 0 [.ref 83, .int a] [] m) : zCall (dd + 1) m_Garden_put [.ref 83, .int a] m Q := ⟨Nat.le_of_ble_eq_true rfl, h⟩
theorem zs_Garden_test : zsrt zc_Garden_test = true := by decide +kernel
set_option maxRecDepth 100000 in
theorem sg_Garden_test_0 {C : zC} {Q : zQ} (hC : zCm C) (a : Int32) (b : Int32) (c : Int32) (m : zM) (h :
    Q (some (.int ((((a * (3 : Int32)) + b) * (100 : Int32)) + c))) m) :
    zRun C 1 (some .int) zc_Garden_test Q 0 [.int a, .int b, .int c] [] m := zgo [] hC zs_Garden_test (i := .iload_n 0) (r := zfind zc_Garden_test 1) rfl h
theorem en_Garden_test (dd : Nat) {Q : zQ} (a : Int32) (b : Int32) (c : Int32) (m : zM) (h : zRun (zCall dd) 1 (some .int) zc_Garden_test Q 0 [.int a, .int b, .int c] [] m) : zCall (dd + 1) m_Garden_test [.int a, .int b, .int c] m Q := ⟨Nat.le_of_ble_eq_true rfl, h⟩
theorem zs_Garden_slowness : zsrt zc_Garden_slowness = true := by decide +kernel
set_option maxRecDepth 100000 in
theorem sg_Garden_slowness_58_26_0 {C : zC} {Q : zQ} (hC : zCm C) (m : zM) (h :
    zRun C 1 (some .int) zc_Garden_slowness Q 7 [.ref 58, .ref 26, .int (0 : Int32), .int (0 : Int32), .int (0 : Int32)] [] m) :
    zRun C 1 (some .int) zc_Garden_slowness Q 0 [.ref 58, .ref 26, .retAddr 0, .retAddr 0, .retAddr 0] [] m := zgo [7] hC zs_Garden_slowness (i := .iconst 0) (r := zfind zc_Garden_slowness 1) rfl h
set_option maxRecDepth 100000 in
theorem sg_Garden_slowness_58_26_7 {C : zC} {Q : zQ} (hC : zCm C) (v2 : Int32) (v3 : Int32) (v4 : Int32) (m : zM) (h :
    if (gI m 58 2) ≤ v4 then Q (some (.int v2)) m
    else vp_in v4 10 ∧ (if ¬ (gI m 59 v4.toNatClampNeg) = (0 : Int32) then vp_in v4 10 ∧ (if ¬ (gI m 59 v4.toNatClampNeg) = (1 : Int32) then vp_in v4 10 ∧ (zRun C 1 (some .int) zc_Garden_slowness Q 7 [.ref 58, .ref 26, .int v2, .int (gI m 61 v4.toNatClampNeg), .int (v4 + (1 : Int32))] [] m)
        else vp_in v4 10 ∧ (C m_Garden_stands [.ref 58, .ref 26, .int v3, .int (gI m 61 v4.toNatClampNeg)] m (fun o1 m2 => ∃ x3, o1 = some (.int x3) ∧ (if x3 = (0 : Int32) then vp_in v4 10 ∧ (zRun C 1 (some .int) zc_Garden_slowness Q 7 [.ref 58, .ref 26, .int v2, .int (gI m2 61 v4.toNatClampNeg), .int (v4 + (1 : Int32))] [] m2)
          else vp_in v4 10 ∧ (vp_in v4 10 ∧ (zRun C 1 (some .int) zc_Garden_slowness Q 7 [.ref 58, .ref 26, .int (v2 - (gI m2 60 v4.toNatClampNeg)), .int (gI m2 61 v4.toNatClampNeg), .int (v4 + (1 : Int32))] [] m2))))))
      else vp_in v4 10 ∧ (C m_Garden_stands [.ref 58, .ref 26, .int v3, .int (gI m 61 v4.toNatClampNeg)] m (fun o4 m5 => ∃ x6, o4 = some (.int x6) ∧ (if x6 = (0 : Int32) then vp_in v4 10 ∧ (if ¬ (gI m5 59 v4.toNatClampNeg) = (1 : Int32) then vp_in v4 10 ∧ (zRun C 1 (some .int) zc_Garden_slowness Q 7 [.ref 58, .ref 26, .int v2, .int (gI m5 61 v4.toNatClampNeg), .int (v4 + (1 : Int32))] [] m5)
          else vp_in v4 10 ∧ (C m_Garden_stands [.ref 58, .ref 26, .int v3, .int (gI m5 61 v4.toNatClampNeg)] m5 (fun o7 m8 => ∃ x9, o7 = some (.int x9) ∧ (if x9 = (0 : Int32) then vp_in v4 10 ∧ (zRun C 1 (some .int) zc_Garden_slowness Q 7 [.ref 58, .ref 26, .int v2, .int (gI m8 61 v4.toNatClampNeg), .int (v4 + (1 : Int32))] [] m8)
            else vp_in v4 10 ∧ (vp_in v4 10 ∧ (zRun C 1 (some .int) zc_Garden_slowness Q 7 [.ref 58, .ref 26, .int (v2 - (gI m8 60 v4.toNatClampNeg)), .int (gI m8 61 v4.toNatClampNeg), .int (v4 + (1 : Int32))] [] m8))))))
        else vp_in v4 10 ∧ (vp_in v4 10 ∧ (zRun C 1 (some .int) zc_Garden_slowness Q 7 [.ref 58, .ref 26, .int (v2 + (gI m5 60 v4.toNatClampNeg)), .int (gI m5 61 v4.toNatClampNeg), .int (v4 + (1 : Int32))] [] m5))))))) :
    zRun C 1 (some .int) zc_Garden_slowness Q 7 [.ref 58, .ref 26, .int v2, .int v3, .int v4] [] m := zgo [7] hC zs_Garden_slowness (i := .iload 4) (r := zfind zc_Garden_slowness 9) rfl h
theorem en_Garden_slowness_58_26 (dd : Nat) {Q : zQ} (m : zM) (h : zRun (zCall dd) 1 (some .int) zc_Garden_slowness Q 0 [.ref 58, .ref 26, .retAddr 0, .retAddr 0, .retAddr 0] [] m) : zCall (dd + 1) m_Garden_slowness [.ref 58, .ref 26] m Q := ⟨Nat.le_of_ble_eq_true rfl, h⟩
set_option maxRecDepth 100000 in
theorem sg_Garden_slowness_58_50_0 {C : zC} {Q : zQ} (hC : zCm C) (m : zM) (h :
    zRun C 1 (some .int) zc_Garden_slowness Q 7 [.ref 58, .ref 50, .int (0 : Int32), .int (0 : Int32), .int (0 : Int32)] [] m) :
    zRun C 1 (some .int) zc_Garden_slowness Q 0 [.ref 58, .ref 50, .retAddr 0, .retAddr 0, .retAddr 0] [] m := zgo [7] hC zs_Garden_slowness (i := .iconst 0) (r := zfind zc_Garden_slowness 1) rfl h
set_option maxRecDepth 100000 in
theorem sg_Garden_slowness_58_50_7 {C : zC} {Q : zQ} (hC : zCm C) (v2 : Int32) (v3 : Int32) (v4 : Int32) (m : zM) (h :
    if (gI m 58 2) ≤ v4 then Q (some (.int v2)) m
    else vp_in v4 10 ∧ (if ¬ (gI m 59 v4.toNatClampNeg) = (0 : Int32) then vp_in v4 10 ∧ (if ¬ (gI m 59 v4.toNatClampNeg) = (1 : Int32) then vp_in v4 10 ∧ (zRun C 1 (some .int) zc_Garden_slowness Q 7 [.ref 58, .ref 50, .int v2, .int (gI m 61 v4.toNatClampNeg), .int (v4 + (1 : Int32))] [] m)
        else vp_in v4 10 ∧ (C m_Garden_stands [.ref 58, .ref 50, .int v3, .int (gI m 61 v4.toNatClampNeg)] m (fun o1 m2 => ∃ x3, o1 = some (.int x3) ∧ (if x3 = (0 : Int32) then vp_in v4 10 ∧ (zRun C 1 (some .int) zc_Garden_slowness Q 7 [.ref 58, .ref 50, .int v2, .int (gI m2 61 v4.toNatClampNeg), .int (v4 + (1 : Int32))] [] m2)
          else vp_in v4 10 ∧ (vp_in v4 10 ∧ (zRun C 1 (some .int) zc_Garden_slowness Q 7 [.ref 58, .ref 50, .int (v2 - (gI m2 60 v4.toNatClampNeg)), .int (gI m2 61 v4.toNatClampNeg), .int (v4 + (1 : Int32))] [] m2))))))
      else vp_in v4 10 ∧ (C m_Garden_stands [.ref 58, .ref 50, .int v3, .int (gI m 61 v4.toNatClampNeg)] m (fun o4 m5 => ∃ x6, o4 = some (.int x6) ∧ (if x6 = (0 : Int32) then vp_in v4 10 ∧ (if ¬ (gI m5 59 v4.toNatClampNeg) = (1 : Int32) then vp_in v4 10 ∧ (zRun C 1 (some .int) zc_Garden_slowness Q 7 [.ref 58, .ref 50, .int v2, .int (gI m5 61 v4.toNatClampNeg), .int (v4 + (1 : Int32))] [] m5)
          else vp_in v4 10 ∧ (C m_Garden_stands [.ref 58, .ref 50, .int v3, .int (gI m5 61 v4.toNatClampNeg)] m5 (fun o7 m8 => ∃ x9, o7 = some (.int x9) ∧ (if x9 = (0 : Int32) then vp_in v4 10 ∧ (zRun C 1 (some .int) zc_Garden_slowness Q 7 [.ref 58, .ref 50, .int v2, .int (gI m8 61 v4.toNatClampNeg), .int (v4 + (1 : Int32))] [] m8)
            else vp_in v4 10 ∧ (vp_in v4 10 ∧ (zRun C 1 (some .int) zc_Garden_slowness Q 7 [.ref 58, .ref 50, .int (v2 - (gI m8 60 v4.toNatClampNeg)), .int (gI m8 61 v4.toNatClampNeg), .int (v4 + (1 : Int32))] [] m8))))))
        else vp_in v4 10 ∧ (vp_in v4 10 ∧ (zRun C 1 (some .int) zc_Garden_slowness Q 7 [.ref 58, .ref 50, .int (v2 + (gI m5 60 v4.toNatClampNeg)), .int (gI m5 61 v4.toNatClampNeg), .int (v4 + (1 : Int32))] [] m5))))))) :
    zRun C 1 (some .int) zc_Garden_slowness Q 7 [.ref 58, .ref 50, .int v2, .int v3, .int v4] [] m := zgo [7] hC zs_Garden_slowness (i := .iload 4) (r := zfind zc_Garden_slowness 9) rfl h
theorem en_Garden_slowness_58_50 (dd : Nat) {Q : zQ} (m : zM) (h : zRun (zCall dd) 1 (some .int) zc_Garden_slowness Q 0 [.ref 58, .ref 50, .retAddr 0, .retAddr 0, .retAddr 0] [] m) : zCall (dd + 1) m_Garden_slowness [.ref 58, .ref 50] m Q := ⟨Nat.le_of_ble_eq_true rfl, h⟩
set_option maxRecDepth 100000 in
theorem sg_Garden_slowness_63_26_0 {C : zC} {Q : zQ} (hC : zCm C) (m : zM) (h :
    zRun C 1 (some .int) zc_Garden_slowness Q 7 [.ref 63, .ref 26, .int (0 : Int32), .int (0 : Int32), .int (0 : Int32)] [] m) :
    zRun C 1 (some .int) zc_Garden_slowness Q 0 [.ref 63, .ref 26, .retAddr 0, .retAddr 0, .retAddr 0] [] m := zgo [7] hC zs_Garden_slowness (i := .iconst 0) (r := zfind zc_Garden_slowness 1) rfl h
set_option maxRecDepth 100000 in
theorem sg_Garden_slowness_63_26_7 {C : zC} {Q : zQ} (hC : zCm C) (v2 : Int32) (v3 : Int32) (v4 : Int32) (m : zM) (h :
    if (gI m 63 2) ≤ v4 then Q (some (.int v2)) m
    else vp_in v4 10 ∧ (if ¬ (gI m 64 v4.toNatClampNeg) = (0 : Int32) then vp_in v4 10 ∧ (if ¬ (gI m 64 v4.toNatClampNeg) = (1 : Int32) then vp_in v4 10 ∧ (zRun C 1 (some .int) zc_Garden_slowness Q 7 [.ref 63, .ref 26, .int v2, .int (gI m 66 v4.toNatClampNeg), .int (v4 + (1 : Int32))] [] m)
        else vp_in v4 10 ∧ (C m_Garden_stands [.ref 63, .ref 26, .int v3, .int (gI m 66 v4.toNatClampNeg)] m (fun o1 m2 => ∃ x3, o1 = some (.int x3) ∧ (if x3 = (0 : Int32) then vp_in v4 10 ∧ (zRun C 1 (some .int) zc_Garden_slowness Q 7 [.ref 63, .ref 26, .int v2, .int (gI m2 66 v4.toNatClampNeg), .int (v4 + (1 : Int32))] [] m2)
          else vp_in v4 10 ∧ (vp_in v4 10 ∧ (zRun C 1 (some .int) zc_Garden_slowness Q 7 [.ref 63, .ref 26, .int (v2 - (gI m2 65 v4.toNatClampNeg)), .int (gI m2 66 v4.toNatClampNeg), .int (v4 + (1 : Int32))] [] m2))))))
      else vp_in v4 10 ∧ (C m_Garden_stands [.ref 63, .ref 26, .int v3, .int (gI m 66 v4.toNatClampNeg)] m (fun o4 m5 => ∃ x6, o4 = some (.int x6) ∧ (if x6 = (0 : Int32) then vp_in v4 10 ∧ (if ¬ (gI m5 64 v4.toNatClampNeg) = (1 : Int32) then vp_in v4 10 ∧ (zRun C 1 (some .int) zc_Garden_slowness Q 7 [.ref 63, .ref 26, .int v2, .int (gI m5 66 v4.toNatClampNeg), .int (v4 + (1 : Int32))] [] m5)
          else vp_in v4 10 ∧ (C m_Garden_stands [.ref 63, .ref 26, .int v3, .int (gI m5 66 v4.toNatClampNeg)] m5 (fun o7 m8 => ∃ x9, o7 = some (.int x9) ∧ (if x9 = (0 : Int32) then vp_in v4 10 ∧ (zRun C 1 (some .int) zc_Garden_slowness Q 7 [.ref 63, .ref 26, .int v2, .int (gI m8 66 v4.toNatClampNeg), .int (v4 + (1 : Int32))] [] m8)
            else vp_in v4 10 ∧ (vp_in v4 10 ∧ (zRun C 1 (some .int) zc_Garden_slowness Q 7 [.ref 63, .ref 26, .int (v2 - (gI m8 65 v4.toNatClampNeg)), .int (gI m8 66 v4.toNatClampNeg), .int (v4 + (1 : Int32))] [] m8))))))
        else vp_in v4 10 ∧ (vp_in v4 10 ∧ (zRun C 1 (some .int) zc_Garden_slowness Q 7 [.ref 63, .ref 26, .int (v2 + (gI m5 65 v4.toNatClampNeg)), .int (gI m5 66 v4.toNatClampNeg), .int (v4 + (1 : Int32))] [] m5))))))) :
    zRun C 1 (some .int) zc_Garden_slowness Q 7 [.ref 63, .ref 26, .int v2, .int v3, .int v4] [] m := zgo [7] hC zs_Garden_slowness (i := .iload 4) (r := zfind zc_Garden_slowness 9) rfl h
theorem en_Garden_slowness_63_26 (dd : Nat) {Q : zQ} (m : zM) (h : zRun (zCall dd) 1 (some .int) zc_Garden_slowness Q 0 [.ref 63, .ref 26, .retAddr 0, .retAddr 0, .retAddr 0] [] m) : zCall (dd + 1) m_Garden_slowness [.ref 63, .ref 26] m Q := ⟨Nat.le_of_ble_eq_true rfl, h⟩
set_option maxRecDepth 100000 in
theorem sg_Garden_slowness_63_50_0 {C : zC} {Q : zQ} (hC : zCm C) (m : zM) (h :
    zRun C 1 (some .int) zc_Garden_slowness Q 7 [.ref 63, .ref 50, .int (0 : Int32), .int (0 : Int32), .int (0 : Int32)] [] m) :
    zRun C 1 (some .int) zc_Garden_slowness Q 0 [.ref 63, .ref 50, .retAddr 0, .retAddr 0, .retAddr 0] [] m := zgo [7] hC zs_Garden_slowness (i := .iconst 0) (r := zfind zc_Garden_slowness 1) rfl h
set_option maxRecDepth 100000 in
theorem sg_Garden_slowness_63_50_7 {C : zC} {Q : zQ} (hC : zCm C) (v2 : Int32) (v3 : Int32) (v4 : Int32) (m : zM) (h :
    if (gI m 63 2) ≤ v4 then Q (some (.int v2)) m
    else vp_in v4 10 ∧ (if ¬ (gI m 64 v4.toNatClampNeg) = (0 : Int32) then vp_in v4 10 ∧ (if ¬ (gI m 64 v4.toNatClampNeg) = (1 : Int32) then vp_in v4 10 ∧ (zRun C 1 (some .int) zc_Garden_slowness Q 7 [.ref 63, .ref 50, .int v2, .int (gI m 66 v4.toNatClampNeg), .int (v4 + (1 : Int32))] [] m)
        else vp_in v4 10 ∧ (C m_Garden_stands [.ref 63, .ref 50, .int v3, .int (gI m 66 v4.toNatClampNeg)] m (fun o1 m2 => ∃ x3, o1 = some (.int x3) ∧ (if x3 = (0 : Int32) then vp_in v4 10 ∧ (zRun C 1 (some .int) zc_Garden_slowness Q 7 [.ref 63, .ref 50, .int v2, .int (gI m2 66 v4.toNatClampNeg), .int (v4 + (1 : Int32))] [] m2)
          else vp_in v4 10 ∧ (vp_in v4 10 ∧ (zRun C 1 (some .int) zc_Garden_slowness Q 7 [.ref 63, .ref 50, .int (v2 - (gI m2 65 v4.toNatClampNeg)), .int (gI m2 66 v4.toNatClampNeg), .int (v4 + (1 : Int32))] [] m2))))))
      else vp_in v4 10 ∧ (C m_Garden_stands [.ref 63, .ref 50, .int v3, .int (gI m 66 v4.toNatClampNeg)] m (fun o4 m5 => ∃ x6, o4 = some (.int x6) ∧ (if x6 = (0 : Int32) then vp_in v4 10 ∧ (if ¬ (gI m5 64 v4.toNatClampNeg) = (1 : Int32) then vp_in v4 10 ∧ (zRun C 1 (some .int) zc_Garden_slowness Q 7 [.ref 63, .ref 50, .int v2, .int (gI m5 66 v4.toNatClampNeg), .int (v4 + (1 : Int32))] [] m5)
          else vp_in v4 10 ∧ (C m_Garden_stands [.ref 63, .ref 50, .int v3, .int (gI m5 66 v4.toNatClampNeg)] m5 (fun o7 m8 => ∃ x9, o7 = some (.int x9) ∧ (if x9 = (0 : Int32) then vp_in v4 10 ∧ (zRun C 1 (some .int) zc_Garden_slowness Q 7 [.ref 63, .ref 50, .int v2, .int (gI m8 66 v4.toNatClampNeg), .int (v4 + (1 : Int32))] [] m8)
            else vp_in v4 10 ∧ (vp_in v4 10 ∧ (zRun C 1 (some .int) zc_Garden_slowness Q 7 [.ref 63, .ref 50, .int (v2 - (gI m8 65 v4.toNatClampNeg)), .int (gI m8 66 v4.toNatClampNeg), .int (v4 + (1 : Int32))] [] m8))))))
        else vp_in v4 10 ∧ (vp_in v4 10 ∧ (zRun C 1 (some .int) zc_Garden_slowness Q 7 [.ref 63, .ref 50, .int (v2 + (gI m5 65 v4.toNatClampNeg)), .int (gI m5 66 v4.toNatClampNeg), .int (v4 + (1 : Int32))] [] m5))))))) :
    zRun C 1 (some .int) zc_Garden_slowness Q 7 [.ref 63, .ref 50, .int v2, .int v3, .int v4] [] m := zgo [7] hC zs_Garden_slowness (i := .iload 4) (r := zfind zc_Garden_slowness 9) rfl h
theorem en_Garden_slowness_63_50 (dd : Nat) {Q : zQ} (m : zM) (h : zRun (zCall dd) 1 (some .int) zc_Garden_slowness Q 0 [.ref 63, .ref 50, .retAddr 0, .retAddr 0, .retAddr 0] [] m) : zCall (dd + 1) m_Garden_slowness [.ref 63, .ref 50] m Q := ⟨Nat.le_of_ble_eq_true rfl, h⟩
set_option maxRecDepth 100000 in
theorem sg_Garden_slowness_68_26_0 {C : zC} {Q : zQ} (hC : zCm C) (m : zM) (h :
    zRun C 1 (some .int) zc_Garden_slowness Q 7 [.ref 68, .ref 26, .int (0 : Int32), .int (0 : Int32), .int (0 : Int32)] [] m) :
    zRun C 1 (some .int) zc_Garden_slowness Q 0 [.ref 68, .ref 26, .retAddr 0, .retAddr 0, .retAddr 0] [] m := zgo [7] hC zs_Garden_slowness (i := .iconst 0) (r := zfind zc_Garden_slowness 1) rfl h
set_option maxRecDepth 100000 in
theorem sg_Garden_slowness_68_26_7 {C : zC} {Q : zQ} (hC : zCm C) (v2 : Int32) (v3 : Int32) (v4 : Int32) (m : zM) (h :
    if (gI m 68 2) ≤ v4 then Q (some (.int v2)) m
    else vp_in v4 10 ∧ (if ¬ (gI m 69 v4.toNatClampNeg) = (0 : Int32) then vp_in v4 10 ∧ (if ¬ (gI m 69 v4.toNatClampNeg) = (1 : Int32) then vp_in v4 10 ∧ (zRun C 1 (some .int) zc_Garden_slowness Q 7 [.ref 68, .ref 26, .int v2, .int (gI m 71 v4.toNatClampNeg), .int (v4 + (1 : Int32))] [] m)
        else vp_in v4 10 ∧ (C m_Garden_stands [.ref 68, .ref 26, .int v3, .int (gI m 71 v4.toNatClampNeg)] m (fun o1 m2 => ∃ x3, o1 = some (.int x3) ∧ (if x3 = (0 : Int32) then vp_in v4 10 ∧ (zRun C 1 (some .int) zc_Garden_slowness Q 7 [.ref 68, .ref 26, .int v2, .int (gI m2 71 v4.toNatClampNeg), .int (v4 + (1 : Int32))] [] m2)
          else vp_in v4 10 ∧ (vp_in v4 10 ∧ (zRun C 1 (some .int) zc_Garden_slowness Q 7 [.ref 68, .ref 26, .int (v2 - (gI m2 70 v4.toNatClampNeg)), .int (gI m2 71 v4.toNatClampNeg), .int (v4 + (1 : Int32))] [] m2))))))
      else vp_in v4 10 ∧ (C m_Garden_stands [.ref 68, .ref 26, .int v3, .int (gI m 71 v4.toNatClampNeg)] m (fun o4 m5 => ∃ x6, o4 = some (.int x6) ∧ (if x6 = (0 : Int32) then vp_in v4 10 ∧ (if ¬ (gI m5 69 v4.toNatClampNeg) = (1 : Int32) then vp_in v4 10 ∧ (zRun C 1 (some .int) zc_Garden_slowness Q 7 [.ref 68, .ref 26, .int v2, .int (gI m5 71 v4.toNatClampNeg), .int (v4 + (1 : Int32))] [] m5)
          else vp_in v4 10 ∧ (C m_Garden_stands [.ref 68, .ref 26, .int v3, .int (gI m5 71 v4.toNatClampNeg)] m5 (fun o7 m8 => ∃ x9, o7 = some (.int x9) ∧ (if x9 = (0 : Int32) then vp_in v4 10 ∧ (zRun C 1 (some .int) zc_Garden_slowness Q 7 [.ref 68, .ref 26, .int v2, .int (gI m8 71 v4.toNatClampNeg), .int (v4 + (1 : Int32))] [] m8)
            else vp_in v4 10 ∧ (vp_in v4 10 ∧ (zRun C 1 (some .int) zc_Garden_slowness Q 7 [.ref 68, .ref 26, .int (v2 - (gI m8 70 v4.toNatClampNeg)), .int (gI m8 71 v4.toNatClampNeg), .int (v4 + (1 : Int32))] [] m8))))))
        else vp_in v4 10 ∧ (vp_in v4 10 ∧ (zRun C 1 (some .int) zc_Garden_slowness Q 7 [.ref 68, .ref 26, .int (v2 + (gI m5 70 v4.toNatClampNeg)), .int (gI m5 71 v4.toNatClampNeg), .int (v4 + (1 : Int32))] [] m5))))))) :
    zRun C 1 (some .int) zc_Garden_slowness Q 7 [.ref 68, .ref 26, .int v2, .int v3, .int v4] [] m := zgo [7] hC zs_Garden_slowness (i := .iload 4) (r := zfind zc_Garden_slowness 9) rfl h
theorem en_Garden_slowness_68_26 (dd : Nat) {Q : zQ} (m : zM) (h : zRun (zCall dd) 1 (some .int) zc_Garden_slowness Q 0 [.ref 68, .ref 26, .retAddr 0, .retAddr 0, .retAddr 0] [] m) : zCall (dd + 1) m_Garden_slowness [.ref 68, .ref 26] m Q := ⟨Nat.le_of_ble_eq_true rfl, h⟩
set_option maxRecDepth 100000 in
theorem sg_Garden_slowness_68_50_0 {C : zC} {Q : zQ} (hC : zCm C) (m : zM) (h :
    zRun C 1 (some .int) zc_Garden_slowness Q 7 [.ref 68, .ref 50, .int (0 : Int32), .int (0 : Int32), .int (0 : Int32)] [] m) :
    zRun C 1 (some .int) zc_Garden_slowness Q 0 [.ref 68, .ref 50, .retAddr 0, .retAddr 0, .retAddr 0] [] m := zgo [7] hC zs_Garden_slowness (i := .iconst 0) (r := zfind zc_Garden_slowness 1) rfl h
set_option maxRecDepth 100000 in
theorem sg_Garden_slowness_68_50_7 {C : zC} {Q : zQ} (hC : zCm C) (v2 : Int32) (v3 : Int32) (v4 : Int32) (m : zM) (h :
    if (gI m 68 2) ≤ v4 then Q (some (.int v2)) m
    else vp_in v4 10 ∧ (if ¬ (gI m 69 v4.toNatClampNeg) = (0 : Int32) then vp_in v4 10 ∧ (if ¬ (gI m 69 v4.toNatClampNeg) = (1 : Int32) then vp_in v4 10 ∧ (zRun C 1 (some .int) zc_Garden_slowness Q 7 [.ref 68, .ref 50, .int v2, .int (gI m 71 v4.toNatClampNeg), .int (v4 + (1 : Int32))] [] m)
        else vp_in v4 10 ∧ (C m_Garden_stands [.ref 68, .ref 50, .int v3, .int (gI m 71 v4.toNatClampNeg)] m (fun o1 m2 => ∃ x3, o1 = some (.int x3) ∧ (if x3 = (0 : Int32) then vp_in v4 10 ∧ (zRun C 1 (some .int) zc_Garden_slowness Q 7 [.ref 68, .ref 50, .int v2, .int (gI m2 71 v4.toNatClampNeg), .int (v4 + (1 : Int32))] [] m2)
          else vp_in v4 10 ∧ (vp_in v4 10 ∧ (zRun C 1 (some .int) zc_Garden_slowness Q 7 [.ref 68, .ref 50, .int (v2 - (gI m2 70 v4.toNatClampNeg)), .int (gI m2 71 v4.toNatClampNeg), .int (v4 + (1 : Int32))] [] m2))))))
      else vp_in v4 10 ∧ (C m_Garden_stands [.ref 68, .ref 50, .int v3, .int (gI m 71 v4.toNatClampNeg)] m (fun o4 m5 => ∃ x6, o4 = some (.int x6) ∧ (if x6 = (0 : Int32) then vp_in v4 10 ∧ (if ¬ (gI m5 69 v4.toNatClampNeg) = (1 : Int32) then vp_in v4 10 ∧ (zRun C 1 (some .int) zc_Garden_slowness Q 7 [.ref 68, .ref 50, .int v2, .int (gI m5 71 v4.toNatClampNeg), .int (v4 + (1 : Int32))] [] m5)
          else vp_in v4 10 ∧ (C m_Garden_stands [.ref 68, .ref 50, .int v3, .int (gI m5 71 v4.toNatClampNeg)] m5 (fun o7 m8 => ∃ x9, o7 = some (.int x9) ∧ (if x9 = (0 : Int32) then vp_in v4 10 ∧ (zRun C 1 (some .int) zc_Garden_slowness Q 7 [.ref 68, .ref 50, .int v2, .int (gI m8 71 v4.toNatClampNeg), .int (v4 + (1 : Int32))] [] m8)
            else vp_in v4 10 ∧ (vp_in v4 10 ∧ (zRun C 1 (some .int) zc_Garden_slowness Q 7 [.ref 68, .ref 50, .int (v2 - (gI m8 70 v4.toNatClampNeg)), .int (gI m8 71 v4.toNatClampNeg), .int (v4 + (1 : Int32))] [] m8))))))
        else vp_in v4 10 ∧ (vp_in v4 10 ∧ (zRun C 1 (some .int) zc_Garden_slowness Q 7 [.ref 68, .ref 50, .int (v2 + (gI m5 70 v4.toNatClampNeg)), .int (gI m5 71 v4.toNatClampNeg), .int (v4 + (1 : Int32))] [] m5))))))) :
    zRun C 1 (some .int) zc_Garden_slowness Q 7 [.ref 68, .ref 50, .int v2, .int v3, .int v4] [] m := zgo [7] hC zs_Garden_slowness (i := .iload 4) (r := zfind zc_Garden_slowness 9) rfl h
theorem en_Garden_slowness_68_50 (dd : Nat) {Q : zQ} (m : zM) (h : zRun (zCall dd) 1 (some .int) zc_Garden_slowness Q 0 [.ref 68, .ref 50, .retAddr 0, .retAddr 0, .retAddr 0] [] m) : zCall (dd + 1) m_Garden_slowness [.ref 68, .ref 50] m Q := ⟨Nat.le_of_ble_eq_true rfl, h⟩
set_option maxRecDepth 100000 in
theorem sg_Garden_slowness_73_26_0 {C : zC} {Q : zQ} (hC : zCm C) (m : zM) (h :
    zRun C 1 (some .int) zc_Garden_slowness Q 7 [.ref 73, .ref 26, .int (0 : Int32), .int (0 : Int32), .int (0 : Int32)] [] m) :
    zRun C 1 (some .int) zc_Garden_slowness Q 0 [.ref 73, .ref 26, .retAddr 0, .retAddr 0, .retAddr 0] [] m := zgo [7] hC zs_Garden_slowness (i := .iconst 0) (r := zfind zc_Garden_slowness 1) rfl h
set_option maxRecDepth 100000 in
theorem sg_Garden_slowness_73_26_7 {C : zC} {Q : zQ} (hC : zCm C) (v2 : Int32) (v3 : Int32) (v4 : Int32) (m : zM) (h :
    if (gI m 73 2) ≤ v4 then Q (some (.int v2)) m
    else vp_in v4 10 ∧ (if ¬ (gI m 74 v4.toNatClampNeg) = (0 : Int32) then vp_in v4 10 ∧ (if ¬ (gI m 74 v4.toNatClampNeg) = (1 : Int32) then vp_in v4 10 ∧ (zRun C 1 (some .int) zc_Garden_slowness Q 7 [.ref 73, .ref 26, .int v2, .int (gI m 76 v4.toNatClampNeg), .int (v4 + (1 : Int32))] [] m)
        else vp_in v4 10 ∧ (C m_Garden_stands [.ref 73, .ref 26, .int v3, .int (gI m 76 v4.toNatClampNeg)] m (fun o1 m2 => ∃ x3, o1 = some (.int x3) ∧ (if x3 = (0 : Int32) then vp_in v4 10 ∧ (zRun C 1 (some .int) zc_Garden_slowness Q 7 [.ref 73, .ref 26, .int v2, .int (gI m2 76 v4.toNatClampNeg), .int (v4 + (1 : Int32))] [] m2)
          else vp_in v4 10 ∧ (vp_in v4 10 ∧ (zRun C 1 (some .int) zc_Garden_slowness Q 7 [.ref 73, .ref 26, .int (v2 - (gI m2 75 v4.toNatClampNeg)), .int (gI m2 76 v4.toNatClampNeg), .int (v4 + (1 : Int32))] [] m2))))))
      else vp_in v4 10 ∧ (C m_Garden_stands [.ref 73, .ref 26, .int v3, .int (gI m 76 v4.toNatClampNeg)] m (fun o4 m5 => ∃ x6, o4 = some (.int x6) ∧ (if x6 = (0 : Int32) then vp_in v4 10 ∧ (if ¬ (gI m5 74 v4.toNatClampNeg) = (1 : Int32) then vp_in v4 10 ∧ (zRun C 1 (some .int) zc_Garden_slowness Q 7 [.ref 73, .ref 26, .int v2, .int (gI m5 76 v4.toNatClampNeg), .int (v4 + (1 : Int32))] [] m5)
          else vp_in v4 10 ∧ (C m_Garden_stands [.ref 73, .ref 26, .int v3, .int (gI m5 76 v4.toNatClampNeg)] m5 (fun o7 m8 => ∃ x9, o7 = some (.int x9) ∧ (if x9 = (0 : Int32) then vp_in v4 10 ∧ (zRun C 1 (some .int) zc_Garden_slowness Q 7 [.ref 73, .ref 26, .int v2, .int (gI m8 76 v4.toNatClampNeg), .int (v4 + (1 : Int32))] [] m8)
            else vp_in v4 10 ∧ (vp_in v4 10 ∧ (zRun C 1 (some .int) zc_Garden_slowness Q 7 [.ref 73, .ref 26, .int (v2 - (gI m8 75 v4.toNatClampNeg)), .int (gI m8 76 v4.toNatClampNeg), .int (v4 + (1 : Int32))] [] m8))))))
        else vp_in v4 10 ∧ (vp_in v4 10 ∧ (zRun C 1 (some .int) zc_Garden_slowness Q 7 [.ref 73, .ref 26, .int (v2 + (gI m5 75 v4.toNatClampNeg)), .int (gI m5 76 v4.toNatClampNeg), .int (v4 + (1 : Int32))] [] m5))))))) :
    zRun C 1 (some .int) zc_Garden_slowness Q 7 [.ref 73, .ref 26, .int v2, .int v3, .int v4] [] m := zgo [7] hC zs_Garden_slowness (i := .iload 4) (r := zfind zc_Garden_slowness 9) rfl h
theorem en_Garden_slowness_73_26 (dd : Nat) {Q : zQ} (m : zM) (h : zRun (zCall dd) 1 (some .int) zc_Garden_slowness Q 0 [.ref 73, .ref 26, .retAddr 0, .retAddr 0, .retAddr 0] [] m) : zCall (dd + 1) m_Garden_slowness [.ref 73, .ref 26] m Q := ⟨Nat.le_of_ble_eq_true rfl, h⟩
set_option maxRecDepth 100000 in
theorem sg_Garden_slowness_73_50_0 {C : zC} {Q : zQ} (hC : zCm C) (m : zM) (h :
    zRun C 1 (some .int) zc_Garden_slowness Q 7 [.ref 73, .ref 50, .int (0 : Int32), .int (0 : Int32), .int (0 : Int32)] [] m) :
    zRun C 1 (some .int) zc_Garden_slowness Q 0 [.ref 73, .ref 50, .retAddr 0, .retAddr 0, .retAddr 0] [] m := zgo [7] hC zs_Garden_slowness (i := .iconst 0) (r := zfind zc_Garden_slowness 1) rfl h
set_option maxRecDepth 100000 in
theorem sg_Garden_slowness_73_50_7 {C : zC} {Q : zQ} (hC : zCm C) (v2 : Int32) (v3 : Int32) (v4 : Int32) (m : zM) (h :
    if (gI m 73 2) ≤ v4 then Q (some (.int v2)) m
    else vp_in v4 10 ∧ (if ¬ (gI m 74 v4.toNatClampNeg) = (0 : Int32) then vp_in v4 10 ∧ (if ¬ (gI m 74 v4.toNatClampNeg) = (1 : Int32) then vp_in v4 10 ∧ (zRun C 1 (some .int) zc_Garden_slowness Q 7 [.ref 73, .ref 50, .int v2, .int (gI m 76 v4.toNatClampNeg), .int (v4 + (1 : Int32))] [] m)
        else vp_in v4 10 ∧ (C m_Garden_stands [.ref 73, .ref 50, .int v3, .int (gI m 76 v4.toNatClampNeg)] m (fun o1 m2 => ∃ x3, o1 = some (.int x3) ∧ (if x3 = (0 : Int32) then vp_in v4 10 ∧ (zRun C 1 (some .int) zc_Garden_slowness Q 7 [.ref 73, .ref 50, .int v2, .int (gI m2 76 v4.toNatClampNeg), .int (v4 + (1 : Int32))] [] m2)
          else vp_in v4 10 ∧ (vp_in v4 10 ∧ (zRun C 1 (some .int) zc_Garden_slowness Q 7 [.ref 73, .ref 50, .int (v2 - (gI m2 75 v4.toNatClampNeg)), .int (gI m2 76 v4.toNatClampNeg), .int (v4 + (1 : Int32))] [] m2))))))
      else vp_in v4 10 ∧ (C m_Garden_stands [.ref 73, .ref 50, .int v3, .int (gI m 76 v4.toNatClampNeg)] m (fun o4 m5 => ∃ x6, o4 = some (.int x6) ∧ (if x6 = (0 : Int32) then vp_in v4 10 ∧ (if ¬ (gI m5 74 v4.toNatClampNeg) = (1 : Int32) then vp_in v4 10 ∧ (zRun C 1 (some .int) zc_Garden_slowness Q 7 [.ref 73, .ref 50, .int v2, .int (gI m5 76 v4.toNatClampNeg), .int (v4 + (1 : Int32))] [] m5)
          else vp_in v4 10 ∧ (C m_Garden_stands [.ref 73, .ref 50, .int v3, .int (gI m5 76 v4.toNatClampNeg)] m5 (fun o7 m8 => ∃ x9, o7 = some (.int x9) ∧ (if x9 = (0 : Int32) then vp_in v4 10 ∧ (zRun C 1 (some .int) zc_Garden_slowness Q 7 [.ref 73, .ref 50, .int v2, .int (gI m8 76 v4.toNatClampNeg), .int (v4 + (1 : Int32))] [] m8)
            else vp_in v4 10 ∧ (vp_in v4 10 ∧ (zRun C 1 (some .int) zc_Garden_slowness Q 7 [.ref 73, .ref 50, .int (v2 - (gI m8 75 v4.toNatClampNeg)), .int (gI m8 76 v4.toNatClampNeg), .int (v4 + (1 : Int32))] [] m8))))))
        else vp_in v4 10 ∧ (vp_in v4 10 ∧ (zRun C 1 (some .int) zc_Garden_slowness Q 7 [.ref 73, .ref 50, .int (v2 + (gI m5 75 v4.toNatClampNeg)), .int (gI m5 76 v4.toNatClampNeg), .int (v4 + (1 : Int32))] [] m5))))))) :
    zRun C 1 (some .int) zc_Garden_slowness Q 7 [.ref 73, .ref 50, .int v2, .int v3, .int v4] [] m := zgo [7] hC zs_Garden_slowness (i := .iload 4) (r := zfind zc_Garden_slowness 9) rfl h
theorem en_Garden_slowness_73_50 (dd : Nat) {Q : zQ} (m : zM) (h : zRun (zCall dd) 1 (some .int) zc_Garden_slowness Q 0 [.ref 73, .ref 50, .retAddr 0, .retAddr 0, .retAddr 0] [] m) : zCall (dd + 1) m_Garden_slowness [.ref 73, .ref 50] m Q := ⟨Nat.le_of_ble_eq_true rfl, h⟩
set_option maxRecDepth 100000 in
theorem sg_Garden_slowness_78_26_0 {C : zC} {Q : zQ} (hC : zCm C) (m : zM) (h :
    zRun C 1 (some .int) zc_Garden_slowness Q 7 [.ref 78, .ref 26, .int (0 : Int32), .int (0 : Int32), .int (0 : Int32)] [] m) :
    zRun C 1 (some .int) zc_Garden_slowness Q 0 [.ref 78, .ref 26, .retAddr 0, .retAddr 0, .retAddr 0] [] m := zgo [7] hC zs_Garden_slowness (i := .iconst 0) (r := zfind zc_Garden_slowness 1) rfl h
set_option maxRecDepth 100000 in
theorem sg_Garden_slowness_78_26_7 {C : zC} {Q : zQ} (hC : zCm C) (v2 : Int32) (v3 : Int32) (v4 : Int32) (m : zM) (h :
    if (gI m 78 2) ≤ v4 then Q (some (.int v2)) m
    else vp_in v4 10 ∧ (if ¬ (gI m 79 v4.toNatClampNeg) = (0 : Int32) then vp_in v4 10 ∧ (if ¬ (gI m 79 v4.toNatClampNeg) = (1 : Int32) then vp_in v4 10 ∧ (zRun C 1 (some .int) zc_Garden_slowness Q 7 [.ref 78, .ref 26, .int v2, .int (gI m 81 v4.toNatClampNeg), .int (v4 + (1 : Int32))] [] m)
        else vp_in v4 10 ∧ (C m_Garden_stands [.ref 78, .ref 26, .int v3, .int (gI m 81 v4.toNatClampNeg)] m (fun o1 m2 => ∃ x3, o1 = some (.int x3) ∧ (if x3 = (0 : Int32) then vp_in v4 10 ∧ (zRun C 1 (some .int) zc_Garden_slowness Q 7 [.ref 78, .ref 26, .int v2, .int (gI m2 81 v4.toNatClampNeg), .int (v4 + (1 : Int32))] [] m2)
          else vp_in v4 10 ∧ (vp_in v4 10 ∧ (zRun C 1 (some .int) zc_Garden_slowness Q 7 [.ref 78, .ref 26, .int (v2 - (gI m2 80 v4.toNatClampNeg)), .int (gI m2 81 v4.toNatClampNeg), .int (v4 + (1 : Int32))] [] m2))))))
      else vp_in v4 10 ∧ (C m_Garden_stands [.ref 78, .ref 26, .int v3, .int (gI m 81 v4.toNatClampNeg)] m (fun o4 m5 => ∃ x6, o4 = some (.int x6) ∧ (if x6 = (0 : Int32) then vp_in v4 10 ∧ (if ¬ (gI m5 79 v4.toNatClampNeg) = (1 : Int32) then vp_in v4 10 ∧ (zRun C 1 (some .int) zc_Garden_slowness Q 7 [.ref 78, .ref 26, .int v2, .int (gI m5 81 v4.toNatClampNeg), .int (v4 + (1 : Int32))] [] m5)
          else vp_in v4 10 ∧ (C m_Garden_stands [.ref 78, .ref 26, .int v3, .int (gI m5 81 v4.toNatClampNeg)] m5 (fun o7 m8 => ∃ x9, o7 = some (.int x9) ∧ (if x9 = (0 : Int32) then vp_in v4 10 ∧ (zRun C 1 (some .int) zc_Garden_slowness Q 7 [.ref 78, .ref 26, .int v2, .int (gI m8 81 v4.toNatClampNeg), .int (v4 + (1 : Int32))] [] m8)
            else vp_in v4 10 ∧ (vp_in v4 10 ∧ (zRun C 1 (some .int) zc_Garden_slowness Q 7 [.ref 78, .ref 26, .int (v2 - (gI m8 80 v4.toNatClampNeg)), .int (gI m8 81 v4.toNatClampNeg), .int (v4 + (1 : Int32))] [] m8))))))
        else vp_in v4 10 ∧ (vp_in v4 10 ∧ (zRun C 1 (some .int) zc_Garden_slowness Q 7 [.ref 78, .ref 26, .int (v2 + (gI m5 80 v4.toNatClampNeg)), .int (gI m5 81 v4.toNatClampNeg), .int (v4 + (1 : Int32))] [] m5))))))) :
    zRun C 1 (some .int) zc_Garden_slowness Q 7 [.ref 78, .ref 26, .int v2, .int v3, .int v4] [] m := zgo [7] hC zs_Garden_slowness (i := .iload 4) (r := zfind zc_Garden_slowness 9) rfl h
theorem en_Garden_slowness_78_26 (dd : Nat) {Q : zQ} (m : zM) (h : zRun (zCall dd) 1 (some .int) zc_Garden_slowness Q 0 [.ref 78, .ref 26, .retAddr 0, .retAddr 0, .retAddr 0] [] m) : zCall (dd + 1) m_Garden_slowness [.ref 78, .ref 26] m Q := ⟨Nat.le_of_ble_eq_true rfl, h⟩
set_option maxRecDepth 100000 in
theorem sg_Garden_slowness_78_50_0 {C : zC} {Q : zQ} (hC : zCm C) (m : zM) (h :
    zRun C 1 (some .int) zc_Garden_slowness Q 7 [.ref 78, .ref 50, .int (0 : Int32), .int (0 : Int32), .int (0 : Int32)] [] m) :
    zRun C 1 (some .int) zc_Garden_slowness Q 0 [.ref 78, .ref 50, .retAddr 0, .retAddr 0, .retAddr 0] [] m := zgo [7] hC zs_Garden_slowness (i := .iconst 0) (r := zfind zc_Garden_slowness 1) rfl h
set_option maxRecDepth 100000 in
theorem sg_Garden_slowness_78_50_7 {C : zC} {Q : zQ} (hC : zCm C) (v2 : Int32) (v3 : Int32) (v4 : Int32) (m : zM) (h :
    if (gI m 78 2) ≤ v4 then Q (some (.int v2)) m
    else vp_in v4 10 ∧ (if ¬ (gI m 79 v4.toNatClampNeg) = (0 : Int32) then vp_in v4 10 ∧ (if ¬ (gI m 79 v4.toNatClampNeg) = (1 : Int32) then vp_in v4 10 ∧ (zRun C 1 (some .int) zc_Garden_slowness Q 7 [.ref 78, .ref 50, .int v2, .int (gI m 81 v4.toNatClampNeg), .int (v4 + (1 : Int32))] [] m)
        else vp_in v4 10 ∧ (C m_Garden_stands [.ref 78, .ref 50, .int v3, .int (gI m 81 v4.toNatClampNeg)] m (fun o1 m2 => ∃ x3, o1 = some (.int x3) ∧ (if x3 = (0 : Int32) then vp_in v4 10 ∧ (zRun C 1 (some .int) zc_Garden_slowness Q 7 [.ref 78, .ref 50, .int v2, .int (gI m2 81 v4.toNatClampNeg), .int (v4 + (1 : Int32))] [] m2)
          else vp_in v4 10 ∧ (vp_in v4 10 ∧ (zRun C 1 (some .int) zc_Garden_slowness Q 7 [.ref 78, .ref 50, .int (v2 - (gI m2 80 v4.toNatClampNeg)), .int (gI m2 81 v4.toNatClampNeg), .int (v4 + (1 : Int32))] [] m2))))))
      else vp_in v4 10 ∧ (C m_Garden_stands [.ref 78, .ref 50, .int v3, .int (gI m 81 v4.toNatClampNeg)] m (fun o4 m5 => ∃ x6, o4 = some (.int x6) ∧ (if x6 = (0 : Int32) then vp_in v4 10 ∧ (if ¬ (gI m5 79 v4.toNatClampNeg) = (1 : Int32) then vp_in v4 10 ∧ (zRun C 1 (some .int) zc_Garden_slowness Q 7 [.ref 78, .ref 50, .int v2, .int (gI m5 81 v4.toNatClampNeg), .int (v4 + (1 : Int32))] [] m5)
          else vp_in v4 10 ∧ (C m_Garden_stands [.ref 78, .ref 50, .int v3, .int (gI m5 81 v4.toNatClampNeg)] m5 (fun o7 m8 => ∃ x9, o7 = some (.int x9) ∧ (if x9 = (0 : Int32) then vp_in v4 10 ∧ (zRun C 1 (some .int) zc_Garden_slowness Q 7 [.ref 78, .ref 50, .int v2, .int (gI m8 81 v4.toNatClampNeg), .int (v4 + (1 : Int32))] [] m8)
            else vp_in v4 10 ∧ (vp_in v4 10 ∧ (zRun C 1 (some .int) zc_Garden_slowness Q 7 [.ref 78, .ref 50, .int (v2 - (gI m8 80 v4.toNatClampNeg)), .int (gI m8 81 v4.toNatClampNeg), .int (v4 + (1 : Int32))] [] m8))))))
        else vp_in v4 10 ∧ (vp_in v4 10 ∧ (zRun C 1 (some .int) zc_Garden_slowness Q 7 [.ref 78, .ref 50, .int (v2 + (gI m5 80 v4.toNatClampNeg)), .int (gI m5 81 v4.toNatClampNeg), .int (v4 + (1 : Int32))] [] m5))))))) :
    zRun C 1 (some .int) zc_Garden_slowness Q 7 [.ref 78, .ref 50, .int v2, .int v3, .int v4] [] m := zgo [7] hC zs_Garden_slowness (i := .iload 4) (r := zfind zc_Garden_slowness 9) rfl h
theorem en_Garden_slowness_78_50 (dd : Nat) {Q : zQ} (m : zM) (h : zRun (zCall dd) 1 (some .int) zc_Garden_slowness Q 0 [.ref 78, .ref 50, .retAddr 0, .retAddr 0, .retAddr 0] [] m) : zCall (dd + 1) m_Garden_slowness [.ref 78, .ref 50] m Q := ⟨Nat.le_of_ble_eq_true rfl, h⟩
set_option maxRecDepth 100000 in
theorem sg_Garden_slowness_83_26_0 {C : zC} {Q : zQ} (hC : zCm C) (m : zM) (h :
    zRun C 1 (some .int) zc_Garden_slowness Q 7 [.ref 83, .ref 26, .int (0 : Int32), .int (0 : Int32), .int (0 : Int32)] [] m) :
    zRun C 1 (some .int) zc_Garden_slowness Q 0 [.ref 83, .ref 26, .retAddr 0, .retAddr 0, .retAddr 0] [] m := zgo [7] hC zs_Garden_slowness (i := .iconst 0) (r := zfind zc_Garden_slowness 1) rfl h
set_option maxRecDepth 100000 in
theorem sg_Garden_slowness_83_26_7 {C : zC} {Q : zQ} (hC : zCm C) (v2 : Int32) (v3 : Int32) (v4 : Int32) (m : zM) (h :
    if (gI m 83 2) ≤ v4 then Q (some (.int v2)) m
    else vp_in v4 10 ∧ (if ¬ (gI m 84 v4.toNatClampNeg) = (0 : Int32) then vp_in v4 10 ∧ (if ¬ (gI m 84 v4.toNatClampNeg) = (1 : Int32) then vp_in v4 10 ∧ (zRun C 1 (some .int) zc_Garden_slowness Q 7 [.ref 83, .ref 26, .int v2, .int (gI m 86 v4.toNatClampNeg), .int (v4 + (1 : Int32))] [] m)
        else vp_in v4 10 ∧ (C m_Garden_stands [.ref 83, .ref 26, .int v3, .int (gI m 86 v4.toNatClampNeg)] m (fun o1 m2 => ∃ x3, o1 = some (.int x3) ∧ (if x3 = (0 : Int32) then vp_in v4 10 ∧ (zRun C 1 (some .int) zc_Garden_slowness Q 7 [.ref 83, .ref 26, .int v2, .int (gI m2 86 v4.toNatClampNeg), .int (v4 + (1 : Int32))] [] m2)
          else vp_in v4 10 ∧ (vp_in v4 10 ∧ (zRun C 1 (some .int) zc_Garden_slowness Q 7 [.ref 83, .ref 26, .int (v2 - (gI m2 85 v4.toNatClampNeg)), .int (gI m2 86 v4.toNatClampNeg), .int (v4 + (1 : Int32))] [] m2))))))
      else vp_in v4 10 ∧ (C m_Garden_stands [.ref 83, .ref 26, .int v3, .int (gI m 86 v4.toNatClampNeg)] m (fun o4 m5 => ∃ x6, o4 = some (.int x6) ∧ (if x6 = (0 : Int32) then vp_in v4 10 ∧ (if ¬ (gI m5 84 v4.toNatClampNeg) = (1 : Int32) then vp_in v4 10 ∧ (zRun C 1 (some .int) zc_Garden_slowness Q 7 [.ref 83, .ref 26, .int v2, .int (gI m5 86 v4.toNatClampNeg), .int (v4 + (1 : Int32))] [] m5)
          else vp_in v4 10 ∧ (C m_Garden_stands [.ref 83, .ref 26, .int v3, .int (gI m5 86 v4.toNatClampNeg)] m5 (fun o7 m8 => ∃ x9, o7 = some (.int x9) ∧ (if x9 = (0 : Int32) then vp_in v4 10 ∧ (zRun C 1 (some .int) zc_Garden_slowness Q 7 [.ref 83, .ref 26, .int v2, .int (gI m8 86 v4.toNatClampNeg), .int (v4 + (1 : Int32))] [] m8)
            else vp_in v4 10 ∧ (vp_in v4 10 ∧ (zRun C 1 (some .int) zc_Garden_slowness Q 7 [.ref 83, .ref 26, .int (v2 - (gI m8 85 v4.toNatClampNeg)), .int (gI m8 86 v4.toNatClampNeg), .int (v4 + (1 : Int32))] [] m8))))))
        else vp_in v4 10 ∧ (vp_in v4 10 ∧ (zRun C 1 (some .int) zc_Garden_slowness Q 7 [.ref 83, .ref 26, .int (v2 + (gI m5 85 v4.toNatClampNeg)), .int (gI m5 86 v4.toNatClampNeg), .int (v4 + (1 : Int32))] [] m5))))))) :
    zRun C 1 (some .int) zc_Garden_slowness Q 7 [.ref 83, .ref 26, .int v2, .int v3, .int v4] [] m := zgo [7] hC zs_Garden_slowness (i := .iload 4) (r := zfind zc_Garden_slowness 9) rfl h
theorem en_Garden_slowness_83_26 (dd : Nat) {Q : zQ} (m : zM) (h : zRun (zCall dd) 1 (some .int) zc_Garden_slowness Q 0 [.ref 83, .ref 26, .retAddr 0, .retAddr 0, .retAddr 0] [] m) : zCall (dd + 1) m_Garden_slowness [.ref 83, .ref 26] m Q := ⟨Nat.le_of_ble_eq_true rfl, h⟩
set_option maxRecDepth 100000 in
theorem sg_Garden_slowness_83_50_0 {C : zC} {Q : zQ} (hC : zCm C) (m : zM) (h :
    zRun C 1 (some .int) zc_Garden_slowness Q 7 [.ref 83, .ref 50, .int (0 : Int32), .int (0 : Int32), .int (0 : Int32)] [] m) :
    zRun C 1 (some .int) zc_Garden_slowness Q 0 [.ref 83, .ref 50, .retAddr 0, .retAddr 0, .retAddr 0] [] m := zgo [7] hC zs_Garden_slowness (i := .iconst 0) (r := zfind zc_Garden_slowness 1) rfl h
set_option maxRecDepth 100000 in
theorem sg_Garden_slowness_83_50_7 {C : zC} {Q : zQ} (hC : zCm C) (v2 : Int32) (v3 : Int32) (v4 : Int32) (m : zM) (h :
    if (gI m 83 2) ≤ v4 then Q (some (.int v2)) m
    else vp_in v4 10 ∧ (if ¬ (gI m 84 v4.toNatClampNeg) = (0 : Int32) then vp_in v4 10 ∧ (if ¬ (gI m 84 v4.toNatClampNeg) = (1 : Int32) then vp_in v4 10 ∧ (zRun C 1 (some .int) zc_Garden_slowness Q 7 [.ref 83, .ref 50, .int v2, .int (gI m 86 v4.toNatClampNeg), .int (v4 + (1 : Int32))] [] m)
        else vp_in v4 10 ∧ (C m_Garden_stands [.ref 83, .ref 50, .int v3, .int (gI m 86 v4.toNatClampNeg)] m (fun o1 m2 => ∃ x3, o1 = some (.int x3) ∧ (if x3 = (0 : Int32) then vp_in v4 10 ∧ (zRun C 1 (some .int) zc_Garden_slowness Q 7 [.ref 83, .ref 50, .int v2, .int (gI m2 86 v4.toNatClampNeg), .int (v4 + (1 : Int32))] [] m2)
          else vp_in v4 10 ∧ (vp_in v4 10 ∧ (zRun C 1 (some .int) zc_Garden_slowness Q 7 [.ref 83, .ref 50, .int (v2 - (gI m2 85 v4.toNatClampNeg)), .int (gI m2 86 v4.toNatClampNeg), .int (v4 + (1 : Int32))] [] m2))))))
      else vp_in v4 10 ∧ (C m_Garden_stands [.ref 83, .ref 50, .int v3, .int (gI m 86 v4.toNatClampNeg)] m (fun o4 m5 => ∃ x6, o4 = some (.int x6) ∧ (if x6 = (0 : Int32) then vp_in v4 10 ∧ (if ¬ (gI m5 84 v4.toNatClampNeg) = (1 : Int32) then vp_in v4 10 ∧ (zRun C 1 (some .int) zc_Garden_slowness Q 7 [.ref 83, .ref 50, .int v2, .int (gI m5 86 v4.toNatClampNeg), .int (v4 + (1 : Int32))] [] m5)
          else vp_in v4 10 ∧ (C m_Garden_stands [.ref 83, .ref 50, .int v3, .int (gI m5 86 v4.toNatClampNeg)] m5 (fun o7 m8 => ∃ x9, o7 = some (.int x9) ∧ (if x9 = (0 : Int32) then vp_in v4 10 ∧ (zRun C 1 (some .int) zc_Garden_slowness Q 7 [.ref 83, .ref 50, .int v2, .int (gI m8 86 v4.toNatClampNeg), .int (v4 + (1 : Int32))] [] m8)
            else vp_in v4 10 ∧ (vp_in v4 10 ∧ (zRun C 1 (some .int) zc_Garden_slowness Q 7 [.ref 83, .ref 50, .int (v2 - (gI m8 85 v4.toNatClampNeg)), .int (gI m8 86 v4.toNatClampNeg), .int (v4 + (1 : Int32))] [] m8))))))
        else vp_in v4 10 ∧ (vp_in v4 10 ∧ (zRun C 1 (some .int) zc_Garden_slowness Q 7 [.ref 83, .ref 50, .int (v2 + (gI m5 85 v4.toNatClampNeg)), .int (gI m5 86 v4.toNatClampNeg), .int (v4 + (1 : Int32))] [] m5))))))) :
    zRun C 1 (some .int) zc_Garden_slowness Q 7 [.ref 83, .ref 50, .int v2, .int v3, .int v4] [] m := zgo [7] hC zs_Garden_slowness (i := .iload 4) (r := zfind zc_Garden_slowness 9) rfl h
theorem en_Garden_slowness_83_50 (dd : Nat) {Q : zQ} (m : zM) (h : zRun (zCall dd) 1 (some .int) zc_Garden_slowness Q 0 [.ref 83, .ref 50, .retAddr 0, .retAddr 0, .retAddr 0] [] m) : zCall (dd + 1) m_Garden_slowness [.ref 83, .ref 50] m Q := ⟨Nat.le_of_ble_eq_true rfl, h⟩
theorem zs_Garden_stands : zsrt zc_Garden_stands = true := by decide +kernel
set_option maxRecDepth 100000 in
theorem sg_Garden_stands_58_26_0 {C : zC} {Q : zQ} (hC : zCm C) (a : Int32) (b : Int32) (m : zM) (h :
    zRun C 1 (some .boolean) zc_Garden_stands Q 6 [.ref 58, .ref 26, .int a, .int b, .int (0 : Int32), .int a, .retAddr 0, .retAddr 0, .retAddr 0, .retAddr 0, .retAddr 0] [] m) :
    zRun C 1 (some .boolean) zc_Garden_stands Q 0 [.ref 58, .ref 26, .int a, .int b, .retAddr 0, .retAddr 0, .retAddr 0, .retAddr 0, .retAddr 0, .retAddr 0, .retAddr 0] [] m := zgo [6, 130] hC zs_Garden_stands (i := .iconst 0) (r := zfind zc_Garden_stands 1) rfl h
set_option maxRecDepth 100000 in
theorem sg_Garden_stands_58_26_6 {C : zC} {Q : zQ} (hC : zCm C) (v2 : Int32) (v3 : Int32) (v4 : Int32) (v5 : Int32) (m : zM) (h :
    if v3 ≤ v5 then if ¬ (v4 &&& (1 : Int32)) = (1 : Int32) then (0 : Int32) &&& 1 = (0 : Int32) ∧ Q (some (.int (0 : Int32))) m
      else (1 : Int32) &&& 1 = (1 : Int32) ∧ Q (some (.int (1 : Int32))) m
    else vp_in v5 100 ∧ (if ¬ (gI m 62 v5.toNatClampNeg) = (-1 : Int32) then if ¬ (gI m 62 v5.toNatClampNeg) = (-2 : Int32) then if ¬ (gI m 62 v5.toNatClampNeg) = (-3 : Int32) then ¬ (300 : Int32) = 0 ∧ (¬ (100 : Int32) = 0 ∧ (¬ (3 : Int32) = 0 ∧ (¬ (100 : Int32) = 0 ∧ (vp_in ((gI m 62 v5.toNatClampNeg) / (300 : Int32)) 6 ∧ (if ((gI m 62 v5.toNatClampNeg) - (gI m 62 v5.toNatClampNeg) / (100 : Int32) * (100 : Int32)) ≤ (gI m 26 ((gI m 62 v5.toNatClampNeg) / (300 : Int32)).toNatClampNeg) then vp_in ((gI m 62 v5.toNatClampNeg) / (300 : Int32)) 6 ∧ (if ¬ (gI m 26 ((gI m 62 v5.toNatClampNeg) / (300 : Int32)).toNatClampNeg) = ((gI m 62 v5.toNatClampNeg) - (gI m 62 v5.toNatClampNeg) / (100 : Int32) * (100 : Int32)) then zRun C 1 (some .boolean) zc_Garden_stands Q 130 [.ref 58, .ref 26, .int v2, .int v3, .int v4, .int v5, .int (gI m 62 v5.toNatClampNeg), .int ((gI m 62 v5.toNatClampNeg) / (300 : Int32)), .int (((gI m 62 v5.toNatClampNeg) / (100 : Int32)) - ((gI m 62 v5.toNatClampNeg) / (100 : Int32)) / (3 : Int32) * (3 : Int32)), .int ((gI m 62 v5.toNatClampNeg) - (gI m 62 v5.toNatClampNeg) / (100 : Int32) * (100 : Int32)), .retAddr 0] [.int (2 : Int32)] m
              else zRun C 1 (some .boolean) zc_Garden_stands Q 130 [.ref 58, .ref 26, .int v2, .int v3, .int v4, .int v5, .int (gI m 62 v5.toNatClampNeg), .int ((gI m 62 v5.toNatClampNeg) / (300 : Int32)), .int (((gI m 62 v5.toNatClampNeg) / (100 : Int32)) - ((gI m 62 v5.toNatClampNeg) / (100 : Int32)) / (3 : Int32) * (3 : Int32)), .int ((gI m 62 v5.toNatClampNeg) - (gI m 62 v5.toNatClampNeg) / (100 : Int32) * (100 : Int32)), .retAddr 0] [.int (1 : Int32)] m)
            else zRun C 1 (some .boolean) zc_Garden_stands Q 130 [.ref 58, .ref 26, .int v2, .int v3, .int v4, .int v5, .int (gI m 62 v5.toNatClampNeg), .int ((gI m 62 v5.toNatClampNeg) / (300 : Int32)), .int (((gI m 62 v5.toNatClampNeg) / (100 : Int32)) - ((gI m 62 v5.toNatClampNeg) / (100 : Int32)) / (3 : Int32) * (3 : Int32)), .int ((gI m 62 v5.toNatClampNeg) - (gI m 62 v5.toNatClampNeg) / (100 : Int32) * (100 : Int32)), .retAddr 0] [.int (0 : Int32)] m)))))
          else zRun C 1 (some .boolean) zc_Garden_stands Q 6 [.ref 58, .ref 26, .int v2, .int v3, .int ((v4 >>> ((1 : Int32) &&& 31)) ||| (v4 &&& (1 : Int32))), .int (v5 + (1 : Int32)), .int (gI m 62 v5.toNatClampNeg), .retAddr 0, .retAddr 0, .retAddr 0, .retAddr 0] [] m
        else zRun C 1 (some .boolean) zc_Garden_stands Q 6 [.ref 58, .ref 26, .int v2, .int v3, .int ((v4 >>> ((1 : Int32) &&& 31)) &&& (v4 ||| (-2 : Int32))), .int (v5 + (1 : Int32)), .int (gI m 62 v5.toNatClampNeg), .retAddr 0, .retAddr 0, .retAddr 0, .retAddr 0] [] m
      else zRun C 1 (some .boolean) zc_Garden_stands Q 6 [.ref 58, .ref 26, .int v2, .int v3, .int (v4 ^^^ (1 : Int32)), .int (v5 + (1 : Int32)), .int (gI m 62 v5.toNatClampNeg), .retAddr 0, .retAddr 0, .retAddr 0, .retAddr 0] [] m)) :
    zRun C 1 (some .boolean) zc_Garden_stands Q 6 [.ref 58, .ref 26, .int v2, .int v3, .int v4, .int v5, .retAddr 0, .retAddr 0, .retAddr 0, .retAddr 0, .retAddr 0] [] m := zgo [6, 130] hC zs_Garden_stands (i := .iload 5) (r := zfind zc_Garden_stands 8) rfl h
set_option maxRecDepth 100000 in
theorem sg_Garden_stands_58_26_130 {C : zC} {Q : zQ} (hC : zCm C) (v2 : Int32) (v3 : Int32) (v4 : Int32) (v5 : Int32) (v6 : Int32) (v7 : Int32) (v8 : Int32) (v9 : Int32) (t0 : Int32) (m : zM) (h :
    if ¬ t0 = v8 then zRun C 1 (some .boolean) zc_Garden_stands Q 6 [.ref 58, .ref 26, .int v2, .int v3, .int ((v4 <<< ((1 : Int32) &&& 31)) ||| (0 : Int32)), .int (v5 + (1 : Int32)), .int v6, .int v7, .int v8, .int v9, .int t0] [] m
    else zRun C 1 (some .boolean) zc_Garden_stands Q 6 [.ref 58, .ref 26, .int v2, .int v3, .int ((v4 <<< ((1 : Int32) &&& 31)) ||| (1 : Int32)), .int (v5 + (1 : Int32)), .int v6, .int v7, .int v8, .int v9, .int t0] [] m) :
    zRun C 1 (some .boolean) zc_Garden_stands Q 130 [.ref 58, .ref 26, .int v2, .int v3, .int v4, .int v5, .int v6, .int v7, .int v8, .int v9, .retAddr 0] [.int t0] m := zgo [6, 130] hC zs_Garden_stands (i := .istore 10) (r := zfind zc_Garden_stands 132) rfl h
theorem en_Garden_stands_58_26 (dd : Nat) {Q : zQ} (a : Int32) (b : Int32) (m : zM) (h : zRun (zCall dd) 1 (some .boolean) zc_Garden_stands Q 0 [.ref 58, .ref 26, .int a, .int b, .retAddr 0, .retAddr 0, .retAddr 0, .retAddr 0, .retAddr 0, .retAddr 0, .retAddr 0] [] m) : zCall (dd + 1) m_Garden_stands [.ref 58, .ref 26, .int a, .int b] m Q := ⟨Nat.le_of_ble_eq_true rfl, h⟩
set_option maxRecDepth 100000 in
theorem sg_Garden_stands_58_50_0 {C : zC} {Q : zQ} (hC : zCm C) (a : Int32) (b : Int32) (m : zM) (h :
    zRun C 1 (some .boolean) zc_Garden_stands Q 6 [.ref 58, .ref 50, .int a, .int b, .int (0 : Int32), .int a, .retAddr 0, .retAddr 0, .retAddr 0, .retAddr 0, .retAddr 0] [] m) :
    zRun C 1 (some .boolean) zc_Garden_stands Q 0 [.ref 58, .ref 50, .int a, .int b, .retAddr 0, .retAddr 0, .retAddr 0, .retAddr 0, .retAddr 0, .retAddr 0, .retAddr 0] [] m := zgo [6, 130] hC zs_Garden_stands (i := .iconst 0) (r := zfind zc_Garden_stands 1) rfl h
set_option maxRecDepth 100000 in
theorem sg_Garden_stands_58_50_6 {C : zC} {Q : zQ} (hC : zCm C) (v2 : Int32) (v3 : Int32) (v4 : Int32) (v5 : Int32) (m : zM) (h :
    if v3 ≤ v5 then if ¬ (v4 &&& (1 : Int32)) = (1 : Int32) then (0 : Int32) &&& 1 = (0 : Int32) ∧ Q (some (.int (0 : Int32))) m
      else (1 : Int32) &&& 1 = (1 : Int32) ∧ Q (some (.int (1 : Int32))) m
    else vp_in v5 100 ∧ (if ¬ (gI m 62 v5.toNatClampNeg) = (-1 : Int32) then if ¬ (gI m 62 v5.toNatClampNeg) = (-2 : Int32) then if ¬ (gI m 62 v5.toNatClampNeg) = (-3 : Int32) then ¬ (300 : Int32) = 0 ∧ (¬ (100 : Int32) = 0 ∧ (¬ (3 : Int32) = 0 ∧ (¬ (100 : Int32) = 0 ∧ (vp_in ((gI m 62 v5.toNatClampNeg) / (300 : Int32)) 6 ∧ (if ((gI m 62 v5.toNatClampNeg) - (gI m 62 v5.toNatClampNeg) / (100 : Int32) * (100 : Int32)) ≤ (gI m 50 ((gI m 62 v5.toNatClampNeg) / (300 : Int32)).toNatClampNeg) then vp_in ((gI m 62 v5.toNatClampNeg) / (300 : Int32)) 6 ∧ (if ¬ (gI m 50 ((gI m 62 v5.toNatClampNeg) / (300 : Int32)).toNatClampNeg) = ((gI m 62 v5.toNatClampNeg) - (gI m 62 v5.toNatClampNeg) / (100 : Int32) * (100 : Int32)) then zRun C 1 (some .boolean) zc_Garden_stands Q 130 [.ref 58, .ref 50, .int v2, .int v3, .int v4, .int v5, .int (gI m 62 v5.toNatClampNeg), .int ((gI m 62 v5.toNatClampNeg) / (300 : Int32)), .int (((gI m 62 v5.toNatClampNeg) / (100 : Int32)) - ((gI m 62 v5.toNatClampNeg) / (100 : Int32)) / (3 : Int32) * (3 : Int32)), .int ((gI m 62 v5.toNatClampNeg) - (gI m 62 v5.toNatClampNeg) / (100 : Int32) * (100 : Int32)), .retAddr 0] [.int (2 : Int32)] m
              else zRun C 1 (some .boolean) zc_Garden_stands Q 130 [.ref 58, .ref 50, .int v2, .int v3, .int v4, .int v5, .int (gI m 62 v5.toNatClampNeg), .int ((gI m 62 v5.toNatClampNeg) / (300 : Int32)), .int (((gI m 62 v5.toNatClampNeg) / (100 : Int32)) - ((gI m 62 v5.toNatClampNeg) / (100 : Int32)) / (3 : Int32) * (3 : Int32)), .int ((gI m 62 v5.toNatClampNeg) - (gI m 62 v5.toNatClampNeg) / (100 : Int32) * (100 : Int32)), .retAddr 0] [.int (1 : Int32)] m)
            else zRun C 1 (some .boolean) zc_Garden_stands Q 130 [.ref 58, .ref 50, .int v2, .int v3, .int v4, .int v5, .int (gI m 62 v5.toNatClampNeg), .int ((gI m 62 v5.toNatClampNeg) / (300 : Int32)), .int (((gI m 62 v5.toNatClampNeg) / (100 : Int32)) - ((gI m 62 v5.toNatClampNeg) / (100 : Int32)) / (3 : Int32) * (3 : Int32)), .int ((gI m 62 v5.toNatClampNeg) - (gI m 62 v5.toNatClampNeg) / (100 : Int32) * (100 : Int32)), .retAddr 0] [.int (0 : Int32)] m)))))
          else zRun C 1 (some .boolean) zc_Garden_stands Q 6 [.ref 58, .ref 50, .int v2, .int v3, .int ((v4 >>> ((1 : Int32) &&& 31)) ||| (v4 &&& (1 : Int32))), .int (v5 + (1 : Int32)), .int (gI m 62 v5.toNatClampNeg), .retAddr 0, .retAddr 0, .retAddr 0, .retAddr 0] [] m
        else zRun C 1 (some .boolean) zc_Garden_stands Q 6 [.ref 58, .ref 50, .int v2, .int v3, .int ((v4 >>> ((1 : Int32) &&& 31)) &&& (v4 ||| (-2 : Int32))), .int (v5 + (1 : Int32)), .int (gI m 62 v5.toNatClampNeg), .retAddr 0, .retAddr 0, .retAddr 0, .retAddr 0] [] m
      else zRun C 1 (some .boolean) zc_Garden_stands Q 6 [.ref 58, .ref 50, .int v2, .int v3, .int (v4 ^^^ (1 : Int32)), .int (v5 + (1 : Int32)), .int (gI m 62 v5.toNatClampNeg), .retAddr 0, .retAddr 0, .retAddr 0, .retAddr 0] [] m)) :
    zRun C 1 (some .boolean) zc_Garden_stands Q 6 [.ref 58, .ref 50, .int v2, .int v3, .int v4, .int v5, .retAddr 0, .retAddr 0, .retAddr 0, .retAddr 0, .retAddr 0] [] m := zgo [6, 130] hC zs_Garden_stands (i := .iload 5) (r := zfind zc_Garden_stands 8) rfl h
set_option maxRecDepth 100000 in
theorem sg_Garden_stands_58_50_130 {C : zC} {Q : zQ} (hC : zCm C) (v2 : Int32) (v3 : Int32) (v4 : Int32) (v5 : Int32) (v6 : Int32) (v7 : Int32) (v8 : Int32) (v9 : Int32) (t0 : Int32) (m : zM) (h :
    if ¬ t0 = v8 then zRun C 1 (some .boolean) zc_Garden_stands Q 6 [.ref 58, .ref 50, .int v2, .int v3, .int ((v4 <<< ((1 : Int32) &&& 31)) ||| (0 : Int32)), .int (v5 + (1 : Int32)), .int v6, .int v7, .int v8, .int v9, .int t0] [] m
    else zRun C 1 (some .boolean) zc_Garden_stands Q 6 [.ref 58, .ref 50, .int v2, .int v3, .int ((v4 <<< ((1 : Int32) &&& 31)) ||| (1 : Int32)), .int (v5 + (1 : Int32)), .int v6, .int v7, .int v8, .int v9, .int t0] [] m) :
    zRun C 1 (some .boolean) zc_Garden_stands Q 130 [.ref 58, .ref 50, .int v2, .int v3, .int v4, .int v5, .int v6, .int v7, .int v8, .int v9, .retAddr 0] [.int t0] m := zgo [6, 130] hC zs_Garden_stands (i := .istore 10) (r := zfind zc_Garden_stands 132) rfl h
theorem en_Garden_stands_58_50 (dd : Nat) {Q : zQ} (a : Int32) (b : Int32) (m : zM) (h : zRun (zCall dd) 1 (some .boolean) zc_Garden_stands Q 0 [.ref 58, .ref 50, .int a, .int b, .retAddr 0, .retAddr 0, .retAddr 0, .retAddr 0, .retAddr 0, .retAddr 0, .retAddr 0] [] m) : zCall (dd + 1) m_Garden_stands [.ref 58, .ref 50, .int a, .int b] m Q := ⟨Nat.le_of_ble_eq_true rfl, h⟩
set_option maxRecDepth 100000 in
theorem sg_Garden_stands_63_26_0 {C : zC} {Q : zQ} (hC : zCm C) (a : Int32) (b : Int32) (m : zM) (h :
    zRun C 1 (some .boolean) zc_Garden_stands Q 6 [.ref 63, .ref 26, .int a, .int b, .int (0 : Int32), .int a, .retAddr 0, .retAddr 0, .retAddr 0, .retAddr 0, .retAddr 0] [] m) :
    zRun C 1 (some .boolean) zc_Garden_stands Q 0 [.ref 63, .ref 26, .int a, .int b, .retAddr 0, .retAddr 0, .retAddr 0, .retAddr 0, .retAddr 0, .retAddr 0, .retAddr 0] [] m := zgo [6, 130] hC zs_Garden_stands (i := .iconst 0) (r := zfind zc_Garden_stands 1) rfl h
set_option maxRecDepth 100000 in
theorem sg_Garden_stands_63_26_6 {C : zC} {Q : zQ} (hC : zCm C) (v2 : Int32) (v3 : Int32) (v4 : Int32) (v5 : Int32) (m : zM) (h :
    if v3 ≤ v5 then if ¬ (v4 &&& (1 : Int32)) = (1 : Int32) then (0 : Int32) &&& 1 = (0 : Int32) ∧ Q (some (.int (0 : Int32))) m
      else (1 : Int32) &&& 1 = (1 : Int32) ∧ Q (some (.int (1 : Int32))) m
    else vp_in v5 100 ∧ (if ¬ (gI m 67 v5.toNatClampNeg) = (-1 : Int32) then if ¬ (gI m 67 v5.toNatClampNeg) = (-2 : Int32) then if ¬ (gI m 67 v5.toNatClampNeg) = (-3 : Int32) then ¬ (300 : Int32) = 0 ∧ (¬ (100 : Int32) = 0 ∧ (¬ (3 : Int32) = 0 ∧ (¬ (100 : Int32) = 0 ∧ (vp_in ((gI m 67 v5.toNatClampNeg) / (300 : Int32)) 6 ∧ (if ((gI m 67 v5.toNatClampNeg) - (gI m 67 v5.toNatClampNeg) / (100 : Int32) * (100 : Int32)) ≤ (gI m 26 ((gI m 67 v5.toNatClampNeg) / (300 : Int32)).toNatClampNeg) then vp_in ((gI m 67 v5.toNatClampNeg) / (300 : Int32)) 6 ∧ (if ¬ (gI m 26 ((gI m 67 v5.toNatClampNeg) / (300 : Int32)).toNatClampNeg) = ((gI m 67 v5.toNatClampNeg) - (gI m 67 v5.toNatClampNeg) / (100 : Int32) * (100 : Int32)) then zRun C 1 (some .boolean) zc_Garden_stands Q 130 [.ref 63, .ref 26, .int v2, .int v3, .int v4, .int v5, .int (gI m 67 v5.toNatClampNeg), .int ((gI m 67 v5.toNatClampNeg) / (300 : Int32)), .int (((gI m 67 v5.toNatClampNeg) / (100 : Int32)) - ((gI m 67 v5.toNatClampNeg) / (100 : Int32)) / (3 : Int32) * (3 : Int32)), .int ((gI m 67 v5.toNatClampNeg) - (gI m 67 v5.toNatClampNeg) / (100 : Int32) * (100 : Int32)), .retAddr 0] [.int (2 : Int32)] m
              else zRun C 1 (some .boolean) zc_Garden_stands Q 130 [.ref 63, .ref 26, .int v2, .int v3, .int v4, .int v5, .int (gI m 67 v5.toNatClampNeg), .int ((gI m 67 v5.toNatClampNeg) / (300 : Int32)), .int (((gI m 67 v5.toNatClampNeg) / (100 : Int32)) - ((gI m 67 v5.toNatClampNeg) / (100 : Int32)) / (3 : Int32) * (3 : Int32)), .int ((gI m 67 v5.toNatClampNeg) - (gI m 67 v5.toNatClampNeg) / (100 : Int32) * (100 : Int32)), .retAddr 0] [.int (1 : Int32)] m)
            else zRun C 1 (some .boolean) zc_Garden_stands Q 130 [.ref 63, .ref 26, .int v2, .int v3, .int v4, .int v5, .int (gI m 67 v5.toNatClampNeg), .int ((gI m 67 v5.toNatClampNeg) / (300 : Int32)), .int (((gI m 67 v5.toNatClampNeg) / (100 : Int32)) - ((gI m 67 v5.toNatClampNeg) / (100 : Int32)) / (3 : Int32) * (3 : Int32)), .int ((gI m 67 v5.toNatClampNeg) - (gI m 67 v5.toNatClampNeg) / (100 : Int32) * (100 : Int32)), .retAddr 0] [.int (0 : Int32)] m)))))
          else zRun C 1 (some .boolean) zc_Garden_stands Q 6 [.ref 63, .ref 26, .int v2, .int v3, .int ((v4 >>> ((1 : Int32) &&& 31)) ||| (v4 &&& (1 : Int32))), .int (v5 + (1 : Int32)), .int (gI m 67 v5.toNatClampNeg), .retAddr 0, .retAddr 0, .retAddr 0, .retAddr 0] [] m
        else zRun C 1 (some .boolean) zc_Garden_stands Q 6 [.ref 63, .ref 26, .int v2, .int v3, .int ((v4 >>> ((1 : Int32) &&& 31)) &&& (v4 ||| (-2 : Int32))), .int (v5 + (1 : Int32)), .int (gI m 67 v5.toNatClampNeg), .retAddr 0, .retAddr 0, .retAddr 0, .retAddr 0] [] m
      else zRun C 1 (some .boolean) zc_Garden_stands Q 6 [.ref 63, .ref 26, .int v2, .int v3, .int (v4 ^^^ (1 : Int32)), .int (v5 + (1 : Int32)), .int (gI m 67 v5.toNatClampNeg), .retAddr 0, .retAddr 0, .retAddr 0, .retAddr 0] [] m)) :
    zRun C 1 (some .boolean) zc_Garden_stands Q 6 [.ref 63, .ref 26, .int v2, .int v3, .int v4, .int v5, .retAddr 0, .retAddr 0, .retAddr 0, .retAddr 0, .retAddr 0] [] m := zgo [6, 130] hC zs_Garden_stands (i := .iload 5) (r := zfind zc_Garden_stands 8) rfl h
set_option maxRecDepth 100000 in
theorem sg_Garden_stands_63_26_130 {C : zC} {Q : zQ} (hC : zCm C) (v2 : Int32) (v3 : Int32) (v4 : Int32) (v5 : Int32) (v6 : Int32) (v7 : Int32) (v8 : Int32) (v9 : Int32) (t0 : Int32) (m : zM) (h :
    if ¬ t0 = v8 then zRun C 1 (some .boolean) zc_Garden_stands Q 6 [.ref 63, .ref 26, .int v2, .int v3, .int ((v4 <<< ((1 : Int32) &&& 31)) ||| (0 : Int32)), .int (v5 + (1 : Int32)), .int v6, .int v7, .int v8, .int v9, .int t0] [] m
    else zRun C 1 (some .boolean) zc_Garden_stands Q 6 [.ref 63, .ref 26, .int v2, .int v3, .int ((v4 <<< ((1 : Int32) &&& 31)) ||| (1 : Int32)), .int (v5 + (1 : Int32)), .int v6, .int v7, .int v8, .int v9, .int t0] [] m) :
    zRun C 1 (some .boolean) zc_Garden_stands Q 130 [.ref 63, .ref 26, .int v2, .int v3, .int v4, .int v5, .int v6, .int v7, .int v8, .int v9, .retAddr 0] [.int t0] m := zgo [6, 130] hC zs_Garden_stands (i := .istore 10) (r := zfind zc_Garden_stands 132) rfl h
theorem en_Garden_stands_63_26 (dd : Nat) {Q : zQ} (a : Int32) (b : Int32) (m : zM) (h : zRun (zCall dd) 1 (some .boolean) zc_Garden_stands Q 0 [.ref 63, .ref 26, .int a, .int b, .retAddr 0, .retAddr 0, .retAddr 0, .retAddr 0, .retAddr 0, .retAddr 0, .retAddr 0] [] m) : zCall (dd + 1) m_Garden_stands [.ref 63, .ref 26, .int a, .int b] m Q := ⟨Nat.le_of_ble_eq_true rfl, h⟩
set_option maxRecDepth 100000 in
theorem sg_Garden_stands_63_50_0 {C : zC} {Q : zQ} (hC : zCm C) (a : Int32) (b : Int32) (m : zM) (h :
    zRun C 1 (some .boolean) zc_Garden_stands Q 6 [.ref 63, .ref 50, .int a, .int b, .int (0 : Int32), .int a, .retAddr 0, .retAddr 0, .retAddr 0, .retAddr 0, .retAddr 0] [] m) :
    zRun C 1 (some .boolean) zc_Garden_stands Q 0 [.ref 63, .ref 50, .int a, .int b, .retAddr 0, .retAddr 0, .retAddr 0, .retAddr 0, .retAddr 0, .retAddr 0, .retAddr 0] [] m := zgo [6, 130] hC zs_Garden_stands (i := .iconst 0) (r := zfind zc_Garden_stands 1) rfl h
set_option maxRecDepth 100000 in
theorem sg_Garden_stands_63_50_6 {C : zC} {Q : zQ} (hC : zCm C) (v2 : Int32) (v3 : Int32) (v4 : Int32) (v5 : Int32) (m : zM) (h :
    if v3 ≤ v5 then if ¬ (v4 &&& (1 : Int32)) = (1 : Int32) then (0 : Int32) &&& 1 = (0 : Int32) ∧ Q (some (.int (0 : Int32))) m
      else (1 : Int32) &&& 1 = (1 : Int32) ∧ Q (some (.int (1 : Int32))) m
    else vp_in v5 100 ∧ (if ¬ (gI m 67 v5.toNatClampNeg) = (-1 : Int32) then if ¬ (gI m 67 v5.toNatClampNeg) = (-2 : Int32) then if ¬ (gI m 67 v5.toNatClampNeg) = (-3 : Int32) then ¬ (300 : Int32) = 0 ∧ (¬ (100 : Int32) = 0 ∧ (¬ (3 : Int32) = 0 ∧ (¬ (100 : Int32) = 0 ∧ (vp_in ((gI m 67 v5.toNatClampNeg) / (300 : Int32)) 6 ∧ (if ((gI m 67 v5.toNatClampNeg) - (gI m 67 v5.toNatClampNeg) / (100 : Int32) * (100 : Int32)) ≤ (gI m 50 ((gI m 67 v5.toNatClampNeg) / (300 : Int32)).toNatClampNeg) then vp_in ((gI m 67 v5.toNatClampNeg) / (300 : Int32)) 6 ∧ (if ¬ (gI m 50 ((gI m 67 v5.toNatClampNeg) / (300 : Int32)).toNatClampNeg) = ((gI m 67 v5.toNatClampNeg) - (gI m 67 v5.toNatClampNeg) / (100 : Int32) * (100 : Int32)) then zRun C 1 (some .boolean) zc_Garden_stands Q 130 [.ref 63, .ref 50, .int v2, .int v3, .int v4, .int v5, .int (gI m 67 v5.toNatClampNeg), .int ((gI m 67 v5.toNatClampNeg) / (300 : Int32)), .int (((gI m 67 v5.toNatClampNeg) / (100 : Int32)) - ((gI m 67 v5.toNatClampNeg) / (100 : Int32)) / (3 : Int32) * (3 : Int32)), .int ((gI m 67 v5.toNatClampNeg) - (gI m 67 v5.toNatClampNeg) / (100 : Int32) * (100 : Int32)), .retAddr 0] [.int (2 : Int32)] m
              else zRun C 1 (some .boolean) zc_Garden_stands Q 130 [.ref 63, .ref 50, .int v2, .int v3, .int v4, .int v5, .int (gI m 67 v5.toNatClampNeg), .int ((gI m 67 v5.toNatClampNeg) / (300 : Int32)), .int (((gI m 67 v5.toNatClampNeg) / (100 : Int32)) - ((gI m 67 v5.toNatClampNeg) / (100 : Int32)) / (3 : Int32) * (3 : Int32)), .int ((gI m 67 v5.toNatClampNeg) - (gI m 67 v5.toNatClampNeg) / (100 : Int32) * (100 : Int32)), .retAddr 0] [.int (1 : Int32)] m)
            else zRun C 1 (some .boolean) zc_Garden_stands Q 130 [.ref 63, .ref 50, .int v2, .int v3, .int v4, .int v5, .int (gI m 67 v5.toNatClampNeg), .int ((gI m 67 v5.toNatClampNeg) / (300 : Int32)), .int (((gI m 67 v5.toNatClampNeg) / (100 : Int32)) - ((gI m 67 v5.toNatClampNeg) / (100 : Int32)) / (3 : Int32) * (3 : Int32)), .int ((gI m 67 v5.toNatClampNeg) - (gI m 67 v5.toNatClampNeg) / (100 : Int32) * (100 : Int32)), .retAddr 0] [.int (0 : Int32)] m)))))
          else zRun C 1 (some .boolean) zc_Garden_stands Q 6 [.ref 63, .ref 50, .int v2, .int v3, .int ((v4 >>> ((1 : Int32) &&& 31)) ||| (v4 &&& (1 : Int32))), .int (v5 + (1 : Int32)), .int (gI m 67 v5.toNatClampNeg), .retAddr 0, .retAddr 0, .retAddr 0, .retAddr 0] [] m
        else zRun C 1 (some .boolean) zc_Garden_stands Q 6 [.ref 63, .ref 50, .int v2, .int v3, .int ((v4 >>> ((1 : Int32) &&& 31)) &&& (v4 ||| (-2 : Int32))), .int (v5 + (1 : Int32)), .int (gI m 67 v5.toNatClampNeg), .retAddr 0, .retAddr 0, .retAddr 0, .retAddr 0] [] m
      else zRun C 1 (some .boolean) zc_Garden_stands Q 6 [.ref 63, .ref 50, .int v2, .int v3, .int (v4 ^^^ (1 : Int32)), .int (v5 + (1 : Int32)), .int (gI m 67 v5.toNatClampNeg), .retAddr 0, .retAddr 0, .retAddr 0, .retAddr 0] [] m)) :
    zRun C 1 (some .boolean) zc_Garden_stands Q 6 [.ref 63, .ref 50, .int v2, .int v3, .int v4, .int v5, .retAddr 0, .retAddr 0, .retAddr 0, .retAddr 0, .retAddr 0] [] m := zgo [6, 130] hC zs_Garden_stands (i := .iload 5) (r := zfind zc_Garden_stands 8) rfl h
set_option maxRecDepth 100000 in
theorem sg_Garden_stands_63_50_130 {C : zC} {Q : zQ} (hC : zCm C) (v2 : Int32) (v3 : Int32) (v4 : Int32) (v5 : Int32) (v6 : Int32) (v7 : Int32) (v8 : Int32) (v9 : Int32) (t0 : Int32) (m : zM) (h :
    if ¬ t0 = v8 then zRun C 1 (some .boolean) zc_Garden_stands Q 6 [.ref 63, .ref 50, .int v2, .int v3, .int ((v4 <<< ((1 : Int32) &&& 31)) ||| (0 : Int32)), .int (v5 + (1 : Int32)), .int v6, .int v7, .int v8, .int v9, .int t0] [] m
    else zRun C 1 (some .boolean) zc_Garden_stands Q 6 [.ref 63, .ref 50, .int v2, .int v3, .int ((v4 <<< ((1 : Int32) &&& 31)) ||| (1 : Int32)), .int (v5 + (1 : Int32)), .int v6, .int v7, .int v8, .int v9, .int t0] [] m) :
    zRun C 1 (some .boolean) zc_Garden_stands Q 130 [.ref 63, .ref 50, .int v2, .int v3, .int v4, .int v5, .int v6, .int v7, .int v8, .int v9, .retAddr 0] [.int t0] m := zgo [6, 130] hC zs_Garden_stands (i := .istore 10) (r := zfind zc_Garden_stands 132) rfl h
theorem en_Garden_stands_63_50 (dd : Nat) {Q : zQ} (a : Int32) (b : Int32) (m : zM) (h : zRun (zCall dd) 1 (some .boolean) zc_Garden_stands Q 0 [.ref 63, .ref 50, .int a, .int b, .retAddr 0, .retAddr 0, .retAddr 0, .retAddr 0, .retAddr 0, .retAddr 0, .retAddr 0] [] m) : zCall (dd + 1) m_Garden_stands [.ref 63, .ref 50, .int a, .int b] m Q := ⟨Nat.le_of_ble_eq_true rfl, h⟩
set_option maxRecDepth 100000 in
theorem sg_Garden_stands_68_26_0 {C : zC} {Q : zQ} (hC : zCm C) (a : Int32) (b : Int32) (m : zM) (h :
    zRun C 1 (some .boolean) zc_Garden_stands Q 6 [.ref 68, .ref 26, .int a, .int b, .int (0 : Int32), .int a, .retAddr 0, .retAddr 0, .retAddr 0, .retAddr 0, .retAddr 0] [] m) :
    zRun C 1 (some .boolean) zc_Garden_stands Q 0 [.ref 68, .ref 26, .int a, .int b, .retAddr 0, .retAddr 0, .retAddr 0, .retAddr 0, .retAddr 0, .retAddr 0, .retAddr 0] [] m := zgo [6, 130] hC zs_Garden_stands (i := .iconst 0) (r := zfind zc_Garden_stands 1) rfl h
set_option maxRecDepth 100000 in
theorem sg_Garden_stands_68_26_6 {C : zC} {Q : zQ} (hC : zCm C) (v2 : Int32) (v3 : Int32) (v4 : Int32) (v5 : Int32) (m : zM) (h :
    if v3 ≤ v5 then if ¬ (v4 &&& (1 : Int32)) = (1 : Int32) then (0 : Int32) &&& 1 = (0 : Int32) ∧ Q (some (.int (0 : Int32))) m
      else (1 : Int32) &&& 1 = (1 : Int32) ∧ Q (some (.int (1 : Int32))) m
    else vp_in v5 100 ∧ (if ¬ (gI m 72 v5.toNatClampNeg) = (-1 : Int32) then if ¬ (gI m 72 v5.toNatClampNeg) = (-2 : Int32) then if ¬ (gI m 72 v5.toNatClampNeg) = (-3 : Int32) then ¬ (300 : Int32) = 0 ∧ (¬ (100 : Int32) = 0 ∧ (¬ (3 : Int32) = 0 ∧ (¬ (100 : Int32) = 0 ∧ (vp_in ((gI m 72 v5.toNatClampNeg) / (300 : Int32)) 6 ∧ (if ((gI m 72 v5.toNatClampNeg) - (gI m 72 v5.toNatClampNeg) / (100 : Int32) * (100 : Int32)) ≤ (gI m 26 ((gI m 72 v5.toNatClampNeg) / (300 : Int32)).toNatClampNeg) then vp_in ((gI m 72 v5.toNatClampNeg) / (300 : Int32)) 6 ∧ (if ¬ (gI m 26 ((gI m 72 v5.toNatClampNeg) / (300 : Int32)).toNatClampNeg) = ((gI m 72 v5.toNatClampNeg) - (gI m 72 v5.toNatClampNeg) / (100 : Int32) * (100 : Int32)) then zRun C 1 (some .boolean) zc_Garden_stands Q 130 [.ref 68, .ref 26, .int v2, .int v3, .int v4, .int v5, .int (gI m 72 v5.toNatClampNeg), .int ((gI m 72 v5.toNatClampNeg) / (300 : Int32)), .int (((gI m 72 v5.toNatClampNeg) / (100 : Int32)) - ((gI m 72 v5.toNatClampNeg) / (100 : Int32)) / (3 : Int32) * (3 : Int32)), .int ((gI m 72 v5.toNatClampNeg) - (gI m 72 v5.toNatClampNeg) / (100 : Int32) * (100 : Int32)), .retAddr 0] [.int (2 : Int32)] m
              else zRun C 1 (some .boolean) zc_Garden_stands Q 130 [.ref 68, .ref 26, .int v2, .int v3, .int v4, .int v5, .int (gI m 72 v5.toNatClampNeg), .int ((gI m 72 v5.toNatClampNeg) / (300 : Int32)), .int (((gI m 72 v5.toNatClampNeg) / (100 : Int32)) - ((gI m 72 v5.toNatClampNeg) / (100 : Int32)) / (3 : Int32) * (3 : Int32)), .int ((gI m 72 v5.toNatClampNeg) - (gI m 72 v5.toNatClampNeg) / (100 : Int32) * (100 : Int32)), .retAddr 0] [.int (1 : Int32)] m)
            else zRun C 1 (some .boolean) zc_Garden_stands Q 130 [.ref 68, .ref 26, .int v2, .int v3, .int v4, .int v5, .int (gI m 72 v5.toNatClampNeg), .int ((gI m 72 v5.toNatClampNeg) / (300 : Int32)), .int (((gI m 72 v5.toNatClampNeg) / (100 : Int32)) - ((gI m 72 v5.toNatClampNeg) / (100 : Int32)) / (3 : Int32) * (3 : Int32)), .int ((gI m 72 v5.toNatClampNeg) - (gI m 72 v5.toNatClampNeg) / (100 : Int32) * (100 : Int32)), .retAddr 0] [.int (0 : Int32)] m)))))
          else zRun C 1 (some .boolean) zc_Garden_stands Q 6 [.ref 68, .ref 26, .int v2, .int v3, .int ((v4 >>> ((1 : Int32) &&& 31)) ||| (v4 &&& (1 : Int32))), .int (v5 + (1 : Int32)), .int (gI m 72 v5.toNatClampNeg), .retAddr 0, .retAddr 0, .retAddr 0, .retAddr 0] [] m
        else zRun C 1 (some .boolean) zc_Garden_stands Q 6 [.ref 68, .ref 26, .int v2, .int v3, .int ((v4 >>> ((1 : Int32) &&& 31)) &&& (v4 ||| (-2 : Int32))), .int (v5 + (1 : Int32)), .int (gI m 72 v5.toNatClampNeg), .retAddr 0, .retAddr 0, .retAddr 0, .retAddr 0] [] m
      else zRun C 1 (some .boolean) zc_Garden_stands Q 6 [.ref 68, .ref 26, .int v2, .int v3, .int (v4 ^^^ (1 : Int32)), .int (v5 + (1 : Int32)), .int (gI m 72 v5.toNatClampNeg), .retAddr 0, .retAddr 0, .retAddr 0, .retAddr 0] [] m)) :
    zRun C 1 (some .boolean) zc_Garden_stands Q 6 [.ref 68, .ref 26, .int v2, .int v3, .int v4, .int v5, .retAddr 0, .retAddr 0, .retAddr 0, .retAddr 0, .retAddr 0] [] m := zgo [6, 130] hC zs_Garden_stands (i := .iload 5) (r := zfind zc_Garden_stands 8) rfl h
set_option maxRecDepth 100000 in
theorem sg_Garden_stands_68_26_130 {C : zC} {Q : zQ} (hC : zCm C) (v2 : Int32) (v3 : Int32) (v4 : Int32) (v5 : Int32) (v6 : Int32) (v7 : Int32) (v8 : Int32) (v9 : Int32) (t0 : Int32) (m : zM) (h :
    if ¬ t0 = v8 then zRun C 1 (some .boolean) zc_Garden_stands Q 6 [.ref 68, .ref 26, .int v2, .int v3, .int ((v4 <<< ((1 : Int32) &&& 31)) ||| (0 : Int32)), .int (v5 + (1 : Int32)), .int v6, .int v7, .int v8, .int v9, .int t0] [] m
    else zRun C 1 (some .boolean) zc_Garden_stands Q 6 [.ref 68, .ref 26, .int v2, .int v3, .int ((v4 <<< ((1 : Int32) &&& 31)) ||| (1 : Int32)), .int (v5 + (1 : Int32)), .int v6, .int v7, .int v8, .int v9, .int t0] [] m) :
    zRun C 1 (some .boolean) zc_Garden_stands Q 130 [.ref 68, .ref 26, .int v2, .int v3, .int v4, .int v5, .int v6, .int v7, .int v8, .int v9, .retAddr 0] [.int t0] m := zgo [6, 130] hC zs_Garden_stands (i := .istore 10) (r := zfind zc_Garden_stands 132) rfl h
theorem en_Garden_stands_68_26 (dd : Nat) {Q : zQ} (a : Int32) (b : Int32) (m : zM) (h : zRun (zCall dd) 1 (some .boolean) zc_Garden_stands Q 0 [.ref 68, .ref 26, .int a, .int b, .retAddr 0, .retAddr 0, .retAddr 0, .retAddr 0, .retAddr 0, .retAddr 0, .retAddr 0] [] m) : zCall (dd + 1) m_Garden_stands [.ref 68, .ref 26, .int a, .int b] m Q := ⟨Nat.le_of_ble_eq_true rfl, h⟩
set_option maxRecDepth 100000 in
theorem sg_Garden_stands_68_50_0 {C : zC} {Q : zQ} (hC : zCm C) (a : Int32) (b : Int32) (m : zM) (h :
    zRun C 1 (some .boolean) zc_Garden_stands Q 6 [.ref 68, .ref 50, .int a, .int b, .int (0 : Int32), .int a, .retAddr 0, .retAddr 0, .retAddr 0, .retAddr 0, .retAddr 0] [] m) :
    zRun C 1 (some .boolean) zc_Garden_stands Q 0 [.ref 68, .ref 50, .int a, .int b, .retAddr 0, .retAddr 0, .retAddr 0, .retAddr 0, .retAddr 0, .retAddr 0, .retAddr 0] [] m := zgo [6, 130] hC zs_Garden_stands (i := .iconst 0) (r := zfind zc_Garden_stands 1) rfl h
set_option maxRecDepth 100000 in
theorem sg_Garden_stands_68_50_6 {C : zC} {Q : zQ} (hC : zCm C) (v2 : Int32) (v3 : Int32) (v4 : Int32) (v5 : Int32) (m : zM) (h :
    if v3 ≤ v5 then if ¬ (v4 &&& (1 : Int32)) = (1 : Int32) then (0 : Int32) &&& 1 = (0 : Int32) ∧ Q (some (.int (0 : Int32))) m
      else (1 : Int32) &&& 1 = (1 : Int32) ∧ Q (some (.int (1 : Int32))) m
    else vp_in v5 100 ∧ (if ¬ (gI m 72 v5.toNatClampNeg) = (-1 : Int32) then if ¬ (gI m 72 v5.toNatClampNeg) = (-2 : Int32) then if ¬ (gI m 72 v5.toNatClampNeg) = (-3 : Int32) then ¬ (300 : Int32) = 0 ∧ (¬ (100 : Int32) = 0 ∧ (¬ (3 : Int32) = 0 ∧ (¬ (100 : Int32) = 0 ∧ (vp_in ((gI m 72 v5.toNatClampNeg) / (300 : Int32)) 6 ∧ (if ((gI m 72 v5.toNatClampNeg) - (gI m 72 v5.toNatClampNeg) / (100 : Int32) * (100 : Int32)) ≤ (gI m 50 ((gI m 72 v5.toNatClampNeg) / (300 : Int32)).toNatClampNeg) then vp_in ((gI m 72 v5.toNatClampNeg) / (300 : Int32)) 6 ∧ (if ¬ (gI m 50 ((gI m 72 v5.toNatClampNeg) / (300 : Int32)).toNatClampNeg) = ((gI m 72 v5.toNatClampNeg) - (gI m 72 v5.toNatClampNeg) / (100 : Int32) * (100 : Int32)) then zRun C 1 (some .boolean) zc_Garden_stands Q 130 [.ref 68, .ref 50, .int v2, .int v3, .int v4, .int v5, .int (gI m 72 v5.toNatClampNeg), .int ((gI m 72 v5.toNatClampNeg) / (300 : Int32)), .int (((gI m 72 v5.toNatClampNeg) / (100 : Int32)) - ((gI m 72 v5.toNatClampNeg) / (100 : Int32)) / (3 : Int32) * (3 : Int32)), .int ((gI m 72 v5.toNatClampNeg) - (gI m 72 v5.toNatClampNeg) / (100 : Int32) * (100 : Int32)), .retAddr 0] [.int (2 : Int32)] m
              else zRun C 1 (some .boolean) zc_Garden_stands Q 130 [.ref 68, .ref 50, .int v2, .int v3, .int v4, .int v5, .int (gI m 72 v5.toNatClampNeg), .int ((gI m 72 v5.toNatClampNeg) / (300 : Int32)), .int (((gI m 72 v5.toNatClampNeg) / (100 : Int32)) - ((gI m 72 v5.toNatClampNeg) / (100 : Int32)) / (3 : Int32) * (3 : Int32)), .int ((gI m 72 v5.toNatClampNeg) - (gI m 72 v5.toNatClampNeg) / (100 : Int32) * (100 : Int32)), .retAddr 0] [.int (1 : Int32)] m)
            else zRun C 1 (some .boolean) zc_Garden_stands Q 130 [.ref 68, .ref 50, .int v2, .int v3, .int v4, .int v5, .int (gI m 72 v5.toNatClampNeg), .int ((gI m 72 v5.toNatClampNeg) / (300 : Int32)), .int (((gI m 72 v5.toNatClampNeg) / (100 : Int32)) - ((gI m 72 v5.toNatClampNeg) / (100 : Int32)) / (3 : Int32) * (3 : Int32)), .int ((gI m 72 v5.toNatClampNeg) - (gI m 72 v5.toNatClampNeg) / (100 : Int32) * (100 : Int32)), .retAddr 0] [.int (0 : Int32)] m)))))
          else zRun C 1 (some .boolean) zc_Garden_stands Q 6 [.ref 68, .ref 50, .int v2, .int v3, .int ((v4 >>> ((1 : Int32) &&& 31)) ||| (v4 &&& (1 : Int32))), .int (v5 + (1 : Int32)), .int (gI m 72 v5.toNatClampNeg), .retAddr 0, .retAddr 0, .retAddr 0, .retAddr 0] [] m
        else zRun C 1 (some .boolean) zc_Garden_stands Q 6 [.ref 68, .ref 50, .int v2, .int v3, .int ((v4 >>> ((1 : Int32) &&& 31)) &&& (v4 ||| (-2 : Int32))), .int (v5 + (1 : Int32)), .int (gI m 72 v5.toNatClampNeg), .retAddr 0, .retAddr 0, .retAddr 0, .retAddr 0] [] m
      else zRun C 1 (some .boolean) zc_Garden_stands Q 6 [.ref 68, .ref 50, .int v2, .int v3, .int (v4 ^^^ (1 : Int32)), .int (v5 + (1 : Int32)), .int (gI m 72 v5.toNatClampNeg), .retAddr 0, .retAddr 0, .retAddr 0, .retAddr 0] [] m)) :
    zRun C 1 (some .boolean) zc_Garden_stands Q 6 [.ref 68, .ref 50, .int v2, .int v3, .int v4, .int v5, .retAddr 0, .retAddr 0, .retAddr 0, .retAddr 0, .retAddr 0] [] m := zgo [6, 130] hC zs_Garden_stands (i := .iload 5) (r := zfind zc_Garden_stands 8) rfl h
set_option maxRecDepth 100000 in
theorem sg_Garden_stands_68_50_130 {C : zC} {Q : zQ} (hC : zCm C) (v2 : Int32) (v3 : Int32) (v4 : Int32) (v5 : Int32) (v6 : Int32) (v7 : Int32) (v8 : Int32) (v9 : Int32) (t0 : Int32) (m : zM) (h :
    if ¬ t0 = v8 then zRun C 1 (some .boolean) zc_Garden_stands Q 6 [.ref 68, .ref 50, .int v2, .int v3, .int ((v4 <<< ((1 : Int32) &&& 31)) ||| (0 : Int32)), .int (v5 + (1 : Int32)), .int v6, .int v7, .int v8, .int v9, .int t0] [] m
    else zRun C 1 (some .boolean) zc_Garden_stands Q 6 [.ref 68, .ref 50, .int v2, .int v3, .int ((v4 <<< ((1 : Int32) &&& 31)) ||| (1 : Int32)), .int (v5 + (1 : Int32)), .int v6, .int v7, .int v8, .int v9, .int t0] [] m) :
    zRun C 1 (some .boolean) zc_Garden_stands Q 130 [.ref 68, .ref 50, .int v2, .int v3, .int v4, .int v5, .int v6, .int v7, .int v8, .int v9, .retAddr 0] [.int t0] m := zgo [6, 130] hC zs_Garden_stands (i := .istore 10) (r := zfind zc_Garden_stands 132) rfl h
theorem en_Garden_stands_68_50 (dd : Nat) {Q : zQ} (a : Int32) (b : Int32) (m : zM) (h : zRun (zCall dd) 1 (some .boolean) zc_Garden_stands Q 0 [.ref 68, .ref 50, .int a, .int b, .retAddr 0, .retAddr 0, .retAddr 0, .retAddr 0, .retAddr 0, .retAddr 0, .retAddr 0] [] m) : zCall (dd + 1) m_Garden_stands [.ref 68, .ref 50, .int a, .int b] m Q := ⟨Nat.le_of_ble_eq_true rfl, h⟩
set_option maxRecDepth 100000 in
theorem sg_Garden_stands_73_26_0 {C : zC} {Q : zQ} (hC : zCm C) (a : Int32) (b : Int32) (m : zM) (h :
    zRun C 1 (some .boolean) zc_Garden_stands Q 6 [.ref 73, .ref 26, .int a, .int b, .int (0 : Int32), .int a, .retAddr 0, .retAddr 0, .retAddr 0, .retAddr 0, .retAddr 0] [] m) :
    zRun C 1 (some .boolean) zc_Garden_stands Q 0 [.ref 73, .ref 26, .int a, .int b, .retAddr 0, .retAddr 0, .retAddr 0, .retAddr 0, .retAddr 0, .retAddr 0, .retAddr 0] [] m := zgo [6, 130] hC zs_Garden_stands (i := .iconst 0) (r := zfind zc_Garden_stands 1) rfl h
set_option maxRecDepth 100000 in
theorem sg_Garden_stands_73_26_6 {C : zC} {Q : zQ} (hC : zCm C) (v2 : Int32) (v3 : Int32) (v4 : Int32) (v5 : Int32) (m : zM) (h :
    if v3 ≤ v5 then if ¬ (v4 &&& (1 : Int32)) = (1 : Int32) then (0 : Int32) &&& 1 = (0 : Int32) ∧ Q (some (.int (0 : Int32))) m
      else (1 : Int32) &&& 1 = (1 : Int32) ∧ Q (some (.int (1 : Int32))) m
    else vp_in v5 100 ∧ (if ¬ (gI m 77 v5.toNatClampNeg) = (-1 : Int32) then if ¬ (gI m 77 v5.toNatClampNeg) = (-2 : Int32) then if ¬ (gI m 77 v5.toNatClampNeg) = (-3 : Int32) then ¬ (300 : Int32) = 0 ∧ (¬ (100 : Int32) = 0 ∧ (¬ (3 : Int32) = 0 ∧ (¬ (100 : Int32) = 0 ∧ (vp_in ((gI m 77 v5.toNatClampNeg) / (300 : Int32)) 6 ∧ (if ((gI m 77 v5.toNatClampNeg) - (gI m 77 v5.toNatClampNeg) / (100 : Int32) * (100 : Int32)) ≤ (gI m 26 ((gI m 77 v5.toNatClampNeg) / (300 : Int32)).toNatClampNeg) then vp_in ((gI m 77 v5.toNatClampNeg) / (300 : Int32)) 6 ∧ (if ¬ (gI m 26 ((gI m 77 v5.toNatClampNeg) / (300 : Int32)).toNatClampNeg) = ((gI m 77 v5.toNatClampNeg) - (gI m 77 v5.toNatClampNeg) / (100 : Int32) * (100 : Int32)) then zRun C 1 (some .boolean) zc_Garden_stands Q 130 [.ref 73, .ref 26, .int v2, .int v3, .int v4, .int v5, .int (gI m 77 v5.toNatClampNeg), .int ((gI m 77 v5.toNatClampNeg) / (300 : Int32)), .int (((gI m 77 v5.toNatClampNeg) / (100 : Int32)) - ((gI m 77 v5.toNatClampNeg) / (100 : Int32)) / (3 : Int32) * (3 : Int32)), .int ((gI m 77 v5.toNatClampNeg) - (gI m 77 v5.toNatClampNeg) / (100 : Int32) * (100 : Int32)), .retAddr 0] [.int (2 : Int32)] m
              else zRun C 1 (some .boolean) zc_Garden_stands Q 130 [.ref 73, .ref 26, .int v2, .int v3, .int v4, .int v5, .int (gI m 77 v5.toNatClampNeg), .int ((gI m 77 v5.toNatClampNeg) / (300 : Int32)), .int (((gI m 77 v5.toNatClampNeg) / (100 : Int32)) - ((gI m 77 v5.toNatClampNeg) / (100 : Int32)) / (3 : Int32) * (3 : Int32)), .int ((gI m 77 v5.toNatClampNeg) - (gI m 77 v5.toNatClampNeg) / (100 : Int32) * (100 : Int32)), .retAddr 0] [.int (1 : Int32)] m)
            else zRun C 1 (some .boolean) zc_Garden_stands Q 130 [.ref 73, .ref 26, .int v2, .int v3, .int v4, .int v5, .int (gI m 77 v5.toNatClampNeg), .int ((gI m 77 v5.toNatClampNeg) / (300 : Int32)), .int (((gI m 77 v5.toNatClampNeg) / (100 : Int32)) - ((gI m 77 v5.toNatClampNeg) / (100 : Int32)) / (3 : Int32) * (3 : Int32)), .int ((gI m 77 v5.toNatClampNeg) - (gI m 77 v5.toNatClampNeg) / (100 : Int32) * (100 : Int32)), .retAddr 0] [.int (0 : Int32)] m)))))
          else zRun C 1 (some .boolean) zc_Garden_stands Q 6 [.ref 73, .ref 26, .int v2, .int v3, .int ((v4 >>> ((1 : Int32) &&& 31)) ||| (v4 &&& (1 : Int32))), .int (v5 + (1 : Int32)), .int (gI m 77 v5.toNatClampNeg), .retAddr 0, .retAddr 0, .retAddr 0, .retAddr 0] [] m
        else zRun C 1 (some .boolean) zc_Garden_stands Q 6 [.ref 73, .ref 26, .int v2, .int v3, .int ((v4 >>> ((1 : Int32) &&& 31)) &&& (v4 ||| (-2 : Int32))), .int (v5 + (1 : Int32)), .int (gI m 77 v5.toNatClampNeg), .retAddr 0, .retAddr 0, .retAddr 0, .retAddr 0] [] m
      else zRun C 1 (some .boolean) zc_Garden_stands Q 6 [.ref 73, .ref 26, .int v2, .int v3, .int (v4 ^^^ (1 : Int32)), .int (v5 + (1 : Int32)), .int (gI m 77 v5.toNatClampNeg), .retAddr 0, .retAddr 0, .retAddr 0, .retAddr 0] [] m)) :
    zRun C 1 (some .boolean) zc_Garden_stands Q 6 [.ref 73, .ref 26, .int v2, .int v3, .int v4, .int v5, .retAddr 0, .retAddr 0, .retAddr 0, .retAddr 0, .retAddr 0] [] m := zgo [6, 130] hC zs_Garden_stands (i := .iload 5) (r := zfind zc_Garden_stands 8) rfl h
set_option maxRecDepth 100000 in
theorem sg_Garden_stands_73_26_130 {C : zC} {Q : zQ} (hC : zCm C) (v2 : Int32) (v3 : Int32) (v4 : Int32) (v5 : Int32) (v6 : Int32) (v7 : Int32) (v8 : Int32) (v9 : Int32) (t0 : Int32) (m : zM) (h :
    if ¬ t0 = v8 then zRun C 1 (some .boolean) zc_Garden_stands Q 6 [.ref 73, .ref 26, .int v2, .int v3, .int ((v4 <<< ((1 : Int32) &&& 31)) ||| (0 : Int32)), .int (v5 + (1 : Int32)), .int v6, .int v7, .int v8, .int v9, .int t0] [] m
    else zRun C 1 (some .boolean) zc_Garden_stands Q 6 [.ref 73, .ref 26, .int v2, .int v3, .int ((v4 <<< ((1 : Int32) &&& 31)) ||| (1 : Int32)), .int (v5 + (1 : Int32)), .int v6, .int v7, .int v8, .int v9, .int t0] [] m) :
    zRun C 1 (some .boolean) zc_Garden_stands Q 130 [.ref 73, .ref 26, .int v2, .int v3, .int v4, .int v5, .int v6, .int v7, .int v8, .int v9, .retAddr 0] [.int t0] m := zgo [6, 130] hC zs_Garden_stands (i := .istore 10) (r := zfind zc_Garden_stands 132) rfl h
theorem en_Garden_stands_73_26 (dd : Nat) {Q : zQ} (a : Int32) (b : Int32) (m : zM) (h : zRun (zCall dd) 1 (some .boolean) zc_Garden_stands Q 0 [.ref 73, .ref 26, .int a, .int b, .retAddr 0, .retAddr 0, .retAddr 0, .retAddr 0, .retAddr 0, .retAddr 0, .retAddr 0] [] m) : zCall (dd + 1) m_Garden_stands [.ref 73, .ref 26, .int a, .int b] m Q := ⟨Nat.le_of_ble_eq_true rfl, h⟩
set_option maxRecDepth 100000 in
theorem sg_Garden_stands_73_50_0 {C : zC} {Q : zQ} (hC : zCm C) (a : Int32) (b : Int32) (m : zM) (h :
    zRun C 1 (some .boolean) zc_Garden_stands Q 6 [.ref 73, .ref 50, .int a, .int b, .int (0 : Int32), .int a, .retAddr 0, .retAddr 0, .retAddr 0, .retAddr 0, .retAddr 0] [] m) :
    zRun C 1 (some .boolean) zc_Garden_stands Q 0 [.ref 73, .ref 50, .int a, .int b, .retAddr 0, .retAddr 0, .retAddr 0, .retAddr 0, .retAddr 0, .retAddr 0, .retAddr 0] [] m := zgo [6, 130] hC zs_Garden_stands (i := .iconst 0) (r := zfind zc_Garden_stands 1) rfl h
set_option maxRecDepth 100000 in
theorem sg_Garden_stands_73_50_6 {C : zC} {Q : zQ} (hC : zCm C) (v2 : Int32) (v3 : Int32) (v4 : Int32) (v5 : Int32) (m : zM) (h :
    if v3 ≤ v5 then if ¬ (v4 &&& (1 : Int32)) = (1 : Int32) then (0 : Int32) &&& 1 = (0 : Int32) ∧ Q (some (.int (0 : Int32))) m
      else (1 : Int32) &&& 1 = (1 : Int32) ∧ Q (some (.int (1 : Int32))) m
    else vp_in v5 100 ∧ (if ¬ (gI m 77 v5.toNatClampNeg) = (-1 : Int32) then if ¬ (gI m 77 v5.toNatClampNeg) = (-2 : Int32) then if ¬ (gI m 77 v5.toNatClampNeg) = (-3 : Int32) then ¬ (300 : Int32) = 0 ∧ (¬ (100 : Int32) = 0 ∧ (¬ (3 : Int32) = 0 ∧ (¬ (100 : Int32) = 0 ∧ (vp_in ((gI m 77 v5.toNatClampNeg) / (300 : Int32)) 6 ∧ (if ((gI m 77 v5.toNatClampNeg) - (gI m 77 v5.toNatClampNeg) / (100 : Int32) * (100 : Int32)) ≤ (gI m 50 ((gI m 77 v5.toNatClampNeg) / (300 : Int32)).toNatClampNeg) then vp_in ((gI m 77 v5.toNatClampNeg) / (300 : Int32)) 6 ∧ (if ¬ (gI m 50 ((gI m 77 v5.toNatClampNeg) / (300 : Int32)).toNatClampNeg) = ((gI m 77 v5.toNatClampNeg) - (gI m 77 v5.toNatClampNeg) / (100 : Int32) * (100 : Int32)) then zRun C 1 (some .boolean) zc_Garden_stands Q 130 [.ref 73, .ref 50, .int v2, .int v3, .int v4, .int v5, .int (gI m 77 v5.toNatClampNeg), .int ((gI m 77 v5.toNatClampNeg) / (300 : Int32)), .int (((gI m 77 v5.toNatClampNeg) / (100 : Int32)) - ((gI m 77 v5.toNatClampNeg) / (100 : Int32)) / (3 : Int32) * (3 : Int32)), .int ((gI m 77 v5.toNatClampNeg) - (gI m 77 v5.toNatClampNeg) / (100 : Int32) * (100 : Int32)), .retAddr 0] [.int (2 : Int32)] m
              else zRun C 1 (some .boolean) zc_Garden_stands Q 130 [.ref 73, .ref 50, .int v2, .int v3, .int v4, .int v5, .int (gI m 77 v5.toNatClampNeg), .int ((gI m 77 v5.toNatClampNeg) / (300 : Int32)), .int (((gI m 77 v5.toNatClampNeg) / (100 : Int32)) - ((gI m 77 v5.toNatClampNeg) / (100 : Int32)) / (3 : Int32) * (3 : Int32)), .int ((gI m 77 v5.toNatClampNeg) - (gI m 77 v5.toNatClampNeg) / (100 : Int32) * (100 : Int32)), .retAddr 0] [.int (1 : Int32)] m)
            else zRun C 1 (some .boolean) zc_Garden_stands Q 130 [.ref 73, .ref 50, .int v2, .int v3, .int v4, .int v5, .int (gI m 77 v5.toNatClampNeg), .int ((gI m 77 v5.toNatClampNeg) / (300 : Int32)), .int (((gI m 77 v5.toNatClampNeg) / (100 : Int32)) - ((gI m 77 v5.toNatClampNeg) / (100 : Int32)) / (3 : Int32) * (3 : Int32)), .int ((gI m 77 v5.toNatClampNeg) - (gI m 77 v5.toNatClampNeg) / (100 : Int32) * (100 : Int32)), .retAddr 0] [.int (0 : Int32)] m)))))
          else zRun C 1 (some .boolean) zc_Garden_stands Q 6 [.ref 73, .ref 50, .int v2, .int v3, .int ((v4 >>> ((1 : Int32) &&& 31)) ||| (v4 &&& (1 : Int32))), .int (v5 + (1 : Int32)), .int (gI m 77 v5.toNatClampNeg), .retAddr 0, .retAddr 0, .retAddr 0, .retAddr 0] [] m
        else zRun C 1 (some .boolean) zc_Garden_stands Q 6 [.ref 73, .ref 50, .int v2, .int v3, .int ((v4 >>> ((1 : Int32) &&& 31)) &&& (v4 ||| (-2 : Int32))), .int (v5 + (1 : Int32)), .int (gI m 77 v5.toNatClampNeg), .retAddr 0, .retAddr 0, .retAddr 0, .retAddr 0] [] m
      else zRun C 1 (some .boolean) zc_Garden_stands Q 6 [.ref 73, .ref 50, .int v2, .int v3, .int (v4 ^^^ (1 : Int32)), .int (v5 + (1 : Int32)), .int (gI m 77 v5.toNatClampNeg), .retAddr 0, .retAddr 0, .retAddr 0, .retAddr 0] [] m)) :
    zRun C 1 (some .boolean) zc_Garden_stands Q 6 [.ref 73, .ref 50, .int v2, .int v3, .int v4, .int v5, .retAddr 0, .retAddr 0, .retAddr 0, .retAddr 0, .retAddr 0] [] m := zgo [6, 130] hC zs_Garden_stands (i := .iload 5) (r := zfind zc_Garden_stands 8) rfl h
set_option maxRecDepth 100000 in
theorem sg_Garden_stands_73_50_130 {C : zC} {Q : zQ} (hC : zCm C) (v2 : Int32) (v3 : Int32) (v4 : Int32) (v5 : Int32) (v6 : Int32) (v7 : Int32) (v8 : Int32) (v9 : Int32) (t0 : Int32) (m : zM) (h :
    if ¬ t0 = v8 then zRun C 1 (some .boolean) zc_Garden_stands Q 6 [.ref 73, .ref 50, .int v2, .int v3, .int ((v4 <<< ((1 : Int32) &&& 31)) ||| (0 : Int32)), .int (v5 + (1 : Int32)), .int v6, .int v7, .int v8, .int v9, .int t0] [] m
    else zRun C 1 (some .boolean) zc_Garden_stands Q 6 [.ref 73, .ref 50, .int v2, .int v3, .int ((v4 <<< ((1 : Int32) &&& 31)) ||| (1 : Int32)), .int (v5 + (1 : Int32)), .int v6, .int v7, .int v8, .int v9, .int t0] [] m) :
    zRun C 1 (some .boolean) zc_Garden_stands Q 130 [.ref 73, .ref 50, .int v2, .int v3, .int v4, .int v5, .int v6, .int v7, .int v8, .int v9, .retAddr 0] [.int t0] m := zgo [6, 130] hC zs_Garden_stands (i := .istore 10) (r := zfind zc_Garden_stands 132) rfl h
theorem en_Garden_stands_73_50 (dd : Nat) {Q : zQ} (a : Int32) (b : Int32) (m : zM) (h : zRun (zCall dd) 1 (some .boolean) zc_Garden_stands Q 0 [.ref 73, .ref 50, .int a, .int b, .retAddr 0, .retAddr 0, .retAddr 0, .retAddr 0, .retAddr 0, .retAddr 0, .retAddr 0] [] m) : zCall (dd + 1) m_Garden_stands [.ref 73, .ref 50, .int a, .int b] m Q := ⟨Nat.le_of_ble_eq_true rfl, h⟩
set_option maxRecDepth 100000 in
theorem sg_Garden_stands_78_26_0 {C : zC} {Q : zQ} (hC : zCm C) (a : Int32) (b : Int32) (m : zM) (h :
    zRun C 1 (some .boolean) zc_Garden_stands Q 6 [.ref 78, .ref 26, .int a, .int b, .int (0 : Int32), .int a, .retAddr 0, .retAddr 0, .retAddr 0, .retAddr 0, .retAddr 0] [] m) :
    zRun C 1 (some .boolean) zc_Garden_stands Q 0 [.ref 78, .ref 26, .int a, .int b, .retAddr 0, .retAddr 0, .retAddr 0, .retAddr 0, .retAddr 0, .retAddr 0, .retAddr 0] [] m := zgo [6, 130] hC zs_Garden_stands (i := .iconst 0) (r := zfind zc_Garden_stands 1) rfl h
set_option maxRecDepth 100000 in
theorem sg_Garden_stands_78_26_6 {C : zC} {Q : zQ} (hC : zCm C) (v2 : Int32) (v3 : Int32) (v4 : Int32) (v5 : Int32) (m : zM) (h :
    if v3 ≤ v5 then if ¬ (v4 &&& (1 : Int32)) = (1 : Int32) then (0 : Int32) &&& 1 = (0 : Int32) ∧ Q (some (.int (0 : Int32))) m
      else (1 : Int32) &&& 1 = (1 : Int32) ∧ Q (some (.int (1 : Int32))) m
    else vp_in v5 100 ∧ (if ¬ (gI m 82 v5.toNatClampNeg) = (-1 : Int32) then if ¬ (gI m 82 v5.toNatClampNeg) = (-2 : Int32) then if ¬ (gI m 82 v5.toNatClampNeg) = (-3 : Int32) then ¬ (300 : Int32) = 0 ∧ (¬ (100 : Int32) = 0 ∧ (¬ (3 : Int32) = 0 ∧ (¬ (100 : Int32) = 0 ∧ (vp_in ((gI m 82 v5.toNatClampNeg) / (300 : Int32)) 6 ∧ (if ((gI m 82 v5.toNatClampNeg) - (gI m 82 v5.toNatClampNeg) / (100 : Int32) * (100 : Int32)) ≤ (gI m 26 ((gI m 82 v5.toNatClampNeg) / (300 : Int32)).toNatClampNeg) then vp_in ((gI m 82 v5.toNatClampNeg) / (300 : Int32)) 6 ∧ (if ¬ (gI m 26 ((gI m 82 v5.toNatClampNeg) / (300 : Int32)).toNatClampNeg) = ((gI m 82 v5.toNatClampNeg) - (gI m 82 v5.toNatClampNeg) / (100 : Int32) * (100 : Int32)) then zRun C 1 (some .boolean) zc_Garden_stands Q 130 [.ref 78, .ref 26, .int v2, .int v3, .int v4, .int v5, .int (gI m 82 v5.toNatClampNeg), .int ((gI m 82 v5.toNatClampNeg) / (300 : Int32)), .int (((gI m 82 v5.toNatClampNeg) / (100 : Int32)) - ((gI m 82 v5.toNatClampNeg) / (100 : Int32)) / (3 : Int32) * (3 : Int32)), .int ((gI m 82 v5.toNatClampNeg) - (gI m 82 v5.toNatClampNeg) / (100 : Int32) * (100 : Int32)), .retAddr 0] [.int (2 : Int32)] m
              else zRun C 1 (some .boolean) zc_Garden_stands Q 130 [.ref 78, .ref 26, .int v2, .int v3, .int v4, .int v5, .int (gI m 82 v5.toNatClampNeg), .int ((gI m 82 v5.toNatClampNeg) / (300 : Int32)), .int (((gI m 82 v5.toNatClampNeg) / (100 : Int32)) - ((gI m 82 v5.toNatClampNeg) / (100 : Int32)) / (3 : Int32) * (3 : Int32)), .int ((gI m 82 v5.toNatClampNeg) - (gI m 82 v5.toNatClampNeg) / (100 : Int32) * (100 : Int32)), .retAddr 0] [.int (1 : Int32)] m)
            else zRun C 1 (some .boolean) zc_Garden_stands Q 130 [.ref 78, .ref 26, .int v2, .int v3, .int v4, .int v5, .int (gI m 82 v5.toNatClampNeg), .int ((gI m 82 v5.toNatClampNeg) / (300 : Int32)), .int (((gI m 82 v5.toNatClampNeg) / (100 : Int32)) - ((gI m 82 v5.toNatClampNeg) / (100 : Int32)) / (3 : Int32) * (3 : Int32)), .int ((gI m 82 v5.toNatClampNeg) - (gI m 82 v5.toNatClampNeg) / (100 : Int32) * (100 : Int32)), .retAddr 0] [.int (0 : Int32)] m)))))
          else zRun C 1 (some .boolean) zc_Garden_stands Q 6 [.ref 78, .ref 26, .int v2, .int v3, .int ((v4 >>> ((1 : Int32) &&& 31)) ||| (v4 &&& (1 : Int32))), .int (v5 + (1 : Int32)), .int (gI m 82 v5.toNatClampNeg), .retAddr 0, .retAddr 0, .retAddr 0, .retAddr 0] [] m
        else zRun C 1 (some .boolean) zc_Garden_stands Q 6 [.ref 78, .ref 26, .int v2, .int v3, .int ((v4 >>> ((1 : Int32) &&& 31)) &&& (v4 ||| (-2 : Int32))), .int (v5 + (1 : Int32)), .int (gI m 82 v5.toNatClampNeg), .retAddr 0, .retAddr 0, .retAddr 0, .retAddr 0] [] m
      else zRun C 1 (some .boolean) zc_Garden_stands Q 6 [.ref 78, .ref 26, .int v2, .int v3, .int (v4 ^^^ (1 : Int32)), .int (v5 + (1 : Int32)), .int (gI m 82 v5.toNatClampNeg), .retAddr 0, .retAddr 0, .retAddr 0, .retAddr 0] [] m)) :
    zRun C 1 (some .boolean) zc_Garden_stands Q 6 [.ref 78, .ref 26, .int v2, .int v3, .int v4, .int v5, .retAddr 0, .retAddr 0, .retAddr 0, .retAddr 0, .retAddr 0] [] m := zgo [6, 130] hC zs_Garden_stands (i := .iload 5) (r := zfind zc_Garden_stands 8) rfl h
set_option maxRecDepth 100000 in
theorem sg_Garden_stands_78_26_130 {C : zC} {Q : zQ} (hC : zCm C) (v2 : Int32) (v3 : Int32) (v4 : Int32) (v5 : Int32) (v6 : Int32) (v7 : Int32) (v8 : Int32) (v9 : Int32) (t0 : Int32) (m : zM) (h :
    if ¬ t0 = v8 then zRun C 1 (some .boolean) zc_Garden_stands Q 6 [.ref 78, .ref 26, .int v2, .int v3, .int ((v4 <<< ((1 : Int32) &&& 31)) ||| (0 : Int32)), .int (v5 + (1 : Int32)), .int v6, .int v7, .int v8, .int v9, .int t0] [] m
    else zRun C 1 (some .boolean) zc_Garden_stands Q 6 [.ref 78, .ref 26, .int v2, .int v3, .int ((v4 <<< ((1 : Int32) &&& 31)) ||| (1 : Int32)), .int (v5 + (1 : Int32)), .int v6, .int v7, .int v8, .int v9, .int t0] [] m) :
    zRun C 1 (some .boolean) zc_Garden_stands Q 130 [.ref 78, .ref 26, .int v2, .int v3, .int v4, .int v5, .int v6, .int v7, .int v8, .int v9, .retAddr 0] [.int t0] m := zgo [6, 130] hC zs_Garden_stands (i := .istore 10) (r := zfind zc_Garden_stands 132) rfl h
theorem en_Garden_stands_78_26 (dd : Nat) {Q : zQ} (a : Int32) (b : Int32) (m : zM) (h : zRun (zCall dd) 1 (some .boolean) zc_Garden_stands Q 0 [.ref 78, .ref 26, .int a, .int b, .retAddr 0, .retAddr 0, .retAddr 0, .retAddr 0, .retAddr 0, .retAddr 0, .retAddr 0] [] m) : zCall (dd + 1) m_Garden_stands [.ref 78, .ref 26, .int a, .int b] m Q := ⟨Nat.le_of_ble_eq_true rfl, h⟩
set_option maxRecDepth 100000 in
theorem sg_Garden_stands_78_50_0 {C : zC} {Q : zQ} (hC : zCm C) (a : Int32) (b : Int32) (m : zM) (h :
    zRun C 1 (some .boolean) zc_Garden_stands Q 6 [.ref 78, .ref 50, .int a, .int b, .int (0 : Int32), .int a, .retAddr 0, .retAddr 0, .retAddr 0, .retAddr 0, .retAddr 0] [] m) :
    zRun C 1 (some .boolean) zc_Garden_stands Q 0 [.ref 78, .ref 50, .int a, .int b, .retAddr 0, .retAddr 0, .retAddr 0, .retAddr 0, .retAddr 0, .retAddr 0, .retAddr 0] [] m := zgo [6, 130] hC zs_Garden_stands (i := .iconst 0) (r := zfind zc_Garden_stands 1) rfl h
set_option maxRecDepth 100000 in
theorem sg_Garden_stands_78_50_6 {C : zC} {Q : zQ} (hC : zCm C) (v2 : Int32) (v3 : Int32) (v4 : Int32) (v5 : Int32) (m : zM) (h :
    if v3 ≤ v5 then if ¬ (v4 &&& (1 : Int32)) = (1 : Int32) then (0 : Int32) &&& 1 = (0 : Int32) ∧ Q (some (.int (0 : Int32))) m
      else (1 : Int32) &&& 1 = (1 : Int32) ∧ Q (some (.int (1 : Int32))) m
    else vp_in v5 100 ∧ (if ¬ (gI m 82 v5.toNatClampNeg) = (-1 : Int32) then if ¬ (gI m 82 v5.toNatClampNeg) = (-2 : Int32) then if ¬ (gI m 82 v5.toNatClampNeg) = (-3 : Int32) then ¬ (300 : Int32) = 0 ∧ (¬ (100 : Int32) = 0 ∧ (¬ (3 : Int32) = 0 ∧ (¬ (100 : Int32) = 0 ∧ (vp_in ((gI m 82 v5.toNatClampNeg) / (300 : Int32)) 6 ∧ (if ((gI m 82 v5.toNatClampNeg) - (gI m 82 v5.toNatClampNeg) / (100 : Int32) * (100 : Int32)) ≤ (gI m 50 ((gI m 82 v5.toNatClampNeg) / (300 : Int32)).toNatClampNeg) then vp_in ((gI m 82 v5.toNatClampNeg) / (300 : Int32)) 6 ∧ (if ¬ (gI m 50 ((gI m 82 v5.toNatClampNeg) / (300 : Int32)).toNatClampNeg) = ((gI m 82 v5.toNatClampNeg) - (gI m 82 v5.toNatClampNeg) / (100 : Int32) * (100 : Int32)) then zRun C 1 (some .boolean) zc_Garden_stands Q 130 [.ref 78, .ref 50, .int v2, .int v3, .int v4, .int v5, .int (gI m 82 v5.toNatClampNeg), .int ((gI m 82 v5.toNatClampNeg) / (300 : Int32)), .int (((gI m 82 v5.toNatClampNeg) / (100 : Int32)) - ((gI m 82 v5.toNatClampNeg) / (100 : Int32)) / (3 : Int32) * (3 : Int32)), .int ((gI m 82 v5.toNatClampNeg) - (gI m 82 v5.toNatClampNeg) / (100 : Int32) * (100 : Int32)), .retAddr 0] [.int (2 : Int32)] m
              else zRun C 1 (some .boolean) zc_Garden_stands Q 130 [.ref 78, .ref 50, .int v2, .int v3, .int v4, .int v5, .int (gI m 82 v5.toNatClampNeg), .int ((gI m 82 v5.toNatClampNeg) / (300 : Int32)), .int (((gI m 82 v5.toNatClampNeg) / (100 : Int32)) - ((gI m 82 v5.toNatClampNeg) / (100 : Int32)) / (3 : Int32) * (3 : Int32)), .int ((gI m 82 v5.toNatClampNeg) - (gI m 82 v5.toNatClampNeg) / (100 : Int32) * (100 : Int32)), .retAddr 0] [.int (1 : Int32)] m)
            else zRun C 1 (some .boolean) zc_Garden_stands Q 130 [.ref 78, .ref 50, .int v2, .int v3, .int v4, .int v5, .int (gI m 82 v5.toNatClampNeg), .int ((gI m 82 v5.toNatClampNeg) / (300 : Int32)), .int (((gI m 82 v5.toNatClampNeg) / (100 : Int32)) - ((gI m 82 v5.toNatClampNeg) / (100 : Int32)) / (3 : Int32) * (3 : Int32)), .int ((gI m 82 v5.toNatClampNeg) - (gI m 82 v5.toNatClampNeg) / (100 : Int32) * (100 : Int32)), .retAddr 0] [.int (0 : Int32)] m)))))
          else zRun C 1 (some .boolean) zc_Garden_stands Q 6 [.ref 78, .ref 50, .int v2, .int v3, .int ((v4 >>> ((1 : Int32) &&& 31)) ||| (v4 &&& (1 : Int32))), .int (v5 + (1 : Int32)), .int (gI m 82 v5.toNatClampNeg), .retAddr 0, .retAddr 0, .retAddr 0, .retAddr 0] [] m
        else zRun C 1 (some .boolean) zc_Garden_stands Q 6 [.ref 78, .ref 50, .int v2, .int v3, .int ((v4 >>> ((1 : Int32) &&& 31)) &&& (v4 ||| (-2 : Int32))), .int (v5 + (1 : Int32)), .int (gI m 82 v5.toNatClampNeg), .retAddr 0, .retAddr 0, .retAddr 0, .retAddr 0] [] m
      else zRun C 1 (some .boolean) zc_Garden_stands Q 6 [.ref 78, .ref 50, .int v2, .int v3, .int (v4 ^^^ (1 : Int32)), .int (v5 + (1 : Int32)), .int (gI m 82 v5.toNatClampNeg), .retAddr 0, .retAddr 0, .retAddr 0, .retAddr 0] [] m)) :
    zRun C 1 (some .boolean) zc_Garden_stands Q 6 [.ref 78, .ref 50, .int v2, .int v3, .int v4, .int v5, .retAddr 0, .retAddr 0, .retAddr 0, .retAddr 0, .retAddr 0] [] m := zgo [6, 130] hC zs_Garden_stands (i := .iload 5) (r := zfind zc_Garden_stands 8) rfl h
set_option maxRecDepth 100000 in
theorem sg_Garden_stands_78_50_130 {C : zC} {Q : zQ} (hC : zCm C) (v2 : Int32) (v3 : Int32) (v4 : Int32) (v5 : Int32) (v6 : Int32) (v7 : Int32) (v8 : Int32) (v9 : Int32) (t0 : Int32) (m : zM) (h :
    if ¬ t0 = v8 then zRun C 1 (some .boolean) zc_Garden_stands Q 6 [.ref 78, .ref 50, .int v2, .int v3, .int ((v4 <<< ((1 : Int32) &&& 31)) ||| (0 : Int32)), .int (v5 + (1 : Int32)), .int v6, .int v7, .int v8, .int v9, .int t0] [] m
    else zRun C 1 (some .boolean) zc_Garden_stands Q 6 [.ref 78, .ref 50, .int v2, .int v3, .int ((v4 <<< ((1 : Int32) &&& 31)) ||| (1 : Int32)), .int (v5 + (1 : Int32)), .int v6, .int v7, .int v8, .int v9, .int t0] [] m) :
    zRun C 1 (some .boolean) zc_Garden_stands Q 130 [.ref 78, .ref 50, .int v2, .int v3, .int v4, .int v5, .int v6, .int v7, .int v8, .int v9, .retAddr 0] [.int t0] m := zgo [6, 130] hC zs_Garden_stands (i := .istore 10) (r := zfind zc_Garden_stands 132) rfl h
theorem en_Garden_stands_78_50 (dd : Nat) {Q : zQ} (a : Int32) (b : Int32) (m : zM) (h : zRun (zCall dd) 1 (some .boolean) zc_Garden_stands Q 0 [.ref 78, .ref 50, .int a, .int b, .retAddr 0, .retAddr 0, .retAddr 0, .retAddr 0, .retAddr 0, .retAddr 0, .retAddr 0] [] m) : zCall (dd + 1) m_Garden_stands [.ref 78, .ref 50, .int a, .int b] m Q := ⟨Nat.le_of_ble_eq_true rfl, h⟩
set_option maxRecDepth 100000 in
theorem sg_Garden_stands_83_26_0 {C : zC} {Q : zQ} (hC : zCm C) (a : Int32) (b : Int32) (m : zM) (h :
    zRun C 1 (some .boolean) zc_Garden_stands Q 6 [.ref 83, .ref 26, .int a, .int b, .int (0 : Int32), .int a, .retAddr 0, .retAddr 0, .retAddr 0, .retAddr 0, .retAddr 0] [] m) :
    zRun C 1 (some .boolean) zc_Garden_stands Q 0 [.ref 83, .ref 26, .int a, .int b, .retAddr 0, .retAddr 0, .retAddr 0, .retAddr 0, .retAddr 0, .retAddr 0, .retAddr 0] [] m := zgo [6, 130] hC zs_Garden_stands (i := .iconst 0) (r := zfind zc_Garden_stands 1) rfl h
set_option maxRecDepth 100000 in
theorem sg_Garden_stands_83_26_6 {C : zC} {Q : zQ} (hC : zCm C) (v2 : Int32) (v3 : Int32) (v4 : Int32) (v5 : Int32) (m : zM) (h :
    if v3 ≤ v5 then if ¬ (v4 &&& (1 : Int32)) = (1 : Int32) then (0 : Int32) &&& 1 = (0 : Int32) ∧ Q (some (.int (0 : Int32))) m
      else (1 : Int32) &&& 1 = (1 : Int32) ∧ Q (some (.int (1 : Int32))) m
    else vp_in v5 100 ∧ (if ¬ (gI m 87 v5.toNatClampNeg) = (-1 : Int32) then if ¬ (gI m 87 v5.toNatClampNeg) = (-2 : Int32) then if ¬ (gI m 87 v5.toNatClampNeg) = (-3 : Int32) then ¬ (300 : Int32) = 0 ∧ (¬ (100 : Int32) = 0 ∧ (¬ (3 : Int32) = 0 ∧ (¬ (100 : Int32) = 0 ∧ (vp_in ((gI m 87 v5.toNatClampNeg) / (300 : Int32)) 6 ∧ (if ((gI m 87 v5.toNatClampNeg) - (gI m 87 v5.toNatClampNeg) / (100 : Int32) * (100 : Int32)) ≤ (gI m 26 ((gI m 87 v5.toNatClampNeg) / (300 : Int32)).toNatClampNeg) then vp_in ((gI m 87 v5.toNatClampNeg) / (300 : Int32)) 6 ∧ (if ¬ (gI m 26 ((gI m 87 v5.toNatClampNeg) / (300 : Int32)).toNatClampNeg) = ((gI m 87 v5.toNatClampNeg) - (gI m 87 v5.toNatClampNeg) / (100 : Int32) * (100 : Int32)) then zRun C 1 (some .boolean) zc_Garden_stands Q 130 [.ref 83, .ref 26, .int v2, .int v3, .int v4, .int v5, .int (gI m 87 v5.toNatClampNeg), .int ((gI m 87 v5.toNatClampNeg) / (300 : Int32)), .int (((gI m 87 v5.toNatClampNeg) / (100 : Int32)) - ((gI m 87 v5.toNatClampNeg) / (100 : Int32)) / (3 : Int32) * (3 : Int32)), .int ((gI m 87 v5.toNatClampNeg) - (gI m 87 v5.toNatClampNeg) / (100 : Int32) * (100 : Int32)), .retAddr 0] [.int (2 : Int32)] m
              else zRun C 1 (some .boolean) zc_Garden_stands Q 130 [.ref 83, .ref 26, .int v2, .int v3, .int v4, .int v5, .int (gI m 87 v5.toNatClampNeg), .int ((gI m 87 v5.toNatClampNeg) / (300 : Int32)), .int (((gI m 87 v5.toNatClampNeg) / (100 : Int32)) - ((gI m 87 v5.toNatClampNeg) / (100 : Int32)) / (3 : Int32) * (3 : Int32)), .int ((gI m 87 v5.toNatClampNeg) - (gI m 87 v5.toNatClampNeg) / (100 : Int32) * (100 : Int32)), .retAddr 0] [.int (1 : Int32)] m)
            else zRun C 1 (some .boolean) zc_Garden_stands Q 130 [.ref 83, .ref 26, .int v2, .int v3, .int v4, .int v5, .int (gI m 87 v5.toNatClampNeg), .int ((gI m 87 v5.toNatClampNeg) / (300 : Int32)), .int (((gI m 87 v5.toNatClampNeg) / (100 : Int32)) - ((gI m 87 v5.toNatClampNeg) / (100 : Int32)) / (3 : Int32) * (3 : Int32)), .int ((gI m 87 v5.toNatClampNeg) - (gI m 87 v5.toNatClampNeg) / (100 : Int32) * (100 : Int32)), .retAddr 0] [.int (0 : Int32)] m)))))
          else zRun C 1 (some .boolean) zc_Garden_stands Q 6 [.ref 83, .ref 26, .int v2, .int v3, .int ((v4 >>> ((1 : Int32) &&& 31)) ||| (v4 &&& (1 : Int32))), .int (v5 + (1 : Int32)), .int (gI m 87 v5.toNatClampNeg), .retAddr 0, .retAddr 0, .retAddr 0, .retAddr 0] [] m
        else zRun C 1 (some .boolean) zc_Garden_stands Q 6 [.ref 83, .ref 26, .int v2, .int v3, .int ((v4 >>> ((1 : Int32) &&& 31)) &&& (v4 ||| (-2 : Int32))), .int (v5 + (1 : Int32)), .int (gI m 87 v5.toNatClampNeg), .retAddr 0, .retAddr 0, .retAddr 0, .retAddr 0] [] m
      else zRun C 1 (some .boolean) zc_Garden_stands Q 6 [.ref 83, .ref 26, .int v2, .int v3, .int (v4 ^^^ (1 : Int32)), .int (v5 + (1 : Int32)), .int (gI m 87 v5.toNatClampNeg), .retAddr 0, .retAddr 0, .retAddr 0, .retAddr 0] [] m)) :
    zRun C 1 (some .boolean) zc_Garden_stands Q 6 [.ref 83, .ref 26, .int v2, .int v3, .int v4, .int v5, .retAddr 0, .retAddr 0, .retAddr 0, .retAddr 0, .retAddr 0] [] m := zgo [6, 130] hC zs_Garden_stands (i := .iload 5) (r := zfind zc_Garden_stands 8) rfl h
set_option maxRecDepth 100000 in
theorem sg_Garden_stands_83_26_130 {C : zC} {Q : zQ} (hC : zCm C) (v2 : Int32) (v3 : Int32) (v4 : Int32) (v5 : Int32) (v6 : Int32) (v7 : Int32) (v8 : Int32) (v9 : Int32) (t0 : Int32) (m : zM) (h :
    if ¬ t0 = v8 then zRun C 1 (some .boolean) zc_Garden_stands Q 6 [.ref 83, .ref 26, .int v2, .int v3, .int ((v4 <<< ((1 : Int32) &&& 31)) ||| (0 : Int32)), .int (v5 + (1 : Int32)), .int v6, .int v7, .int v8, .int v9, .int t0] [] m
    else zRun C 1 (some .boolean) zc_Garden_stands Q 6 [.ref 83, .ref 26, .int v2, .int v3, .int ((v4 <<< ((1 : Int32) &&& 31)) ||| (1 : Int32)), .int (v5 + (1 : Int32)), .int v6, .int v7, .int v8, .int v9, .int t0] [] m) :
    zRun C 1 (some .boolean) zc_Garden_stands Q 130 [.ref 83, .ref 26, .int v2, .int v3, .int v4, .int v5, .int v6, .int v7, .int v8, .int v9, .retAddr 0] [.int t0] m := zgo [6, 130] hC zs_Garden_stands (i := .istore 10) (r := zfind zc_Garden_stands 132) rfl h
theorem en_Garden_stands_83_26 (dd : Nat) {Q : zQ} (a : Int32) (b : Int32) (m : zM) (h : zRun (zCall dd) 1 (some .boolean) zc_Garden_stands Q 0 [.ref 83, .ref 26, .int a, .int b, .retAddr 0, .retAddr 0, .retAddr 0, .retAddr 0, .retAddr 0, .retAddr 0, .retAddr 0] [] m) : zCall (dd + 1) m_Garden_stands [.ref 83, .ref 26, .int a, .int b] m Q := ⟨Nat.le_of_ble_eq_true rfl, h⟩
set_option maxRecDepth 100000 in
theorem sg_Garden_stands_83_50_0 {C : zC} {Q : zQ} (hC : zCm C) (a : Int32) (b : Int32) (m : zM) (h :
    zRun C 1 (some .boolean) zc_Garden_stands Q 6 [.ref 83, .ref 50, .int a, .int b, .int (0 : Int32), .int a, .retAddr 0, .retAddr 0, .retAddr 0, .retAddr 0, .retAddr 0] [] m) :
    zRun C 1 (some .boolean) zc_Garden_stands Q 0 [.ref 83, .ref 50, .int a, .int b, .retAddr 0, .retAddr 0, .retAddr 0, .retAddr 0, .retAddr 0, .retAddr 0, .retAddr 0] [] m := zgo [6, 130] hC zs_Garden_stands (i := .iconst 0) (r := zfind zc_Garden_stands 1) rfl h
set_option maxRecDepth 100000 in
theorem sg_Garden_stands_83_50_6 {C : zC} {Q : zQ} (hC : zCm C) (v2 : Int32) (v3 : Int32) (v4 : Int32) (v5 : Int32) (m : zM) (h :
    if v3 ≤ v5 then if ¬ (v4 &&& (1 : Int32)) = (1 : Int32) then (0 : Int32) &&& 1 = (0 : Int32) ∧ Q (some (.int (0 : Int32))) m
      else (1 : Int32) &&& 1 = (1 : Int32) ∧ Q (some (.int (1 : Int32))) m
    else vp_in v5 100 ∧ (if ¬ (gI m 87 v5.toNatClampNeg) = (-1 : Int32) then if ¬ (gI m 87 v5.toNatClampNeg) = (-2 : Int32) then if ¬ (gI m 87 v5.toNatClampNeg) = (-3 : Int32) then ¬ (300 : Int32) = 0 ∧ (¬ (100 : Int32) = 0 ∧ (¬ (3 : Int32) = 0 ∧ (¬ (100 : Int32) = 0 ∧ (vp_in ((gI m 87 v5.toNatClampNeg) / (300 : Int32)) 6 ∧ (if ((gI m 87 v5.toNatClampNeg) - (gI m 87 v5.toNatClampNeg) / (100 : Int32) * (100 : Int32)) ≤ (gI m 50 ((gI m 87 v5.toNatClampNeg) / (300 : Int32)).toNatClampNeg) then vp_in ((gI m 87 v5.toNatClampNeg) / (300 : Int32)) 6 ∧ (if ¬ (gI m 50 ((gI m 87 v5.toNatClampNeg) / (300 : Int32)).toNatClampNeg) = ((gI m 87 v5.toNatClampNeg) - (gI m 87 v5.toNatClampNeg) / (100 : Int32) * (100 : Int32)) then zRun C 1 (some .boolean) zc_Garden_stands Q 130 [.ref 83, .ref 50, .int v2, .int v3, .int v4, .int v5, .int (gI m 87 v5.toNatClampNeg), .int ((gI m 87 v5.toNatClampNeg) / (300 : Int32)), .int (((gI m 87 v5.toNatClampNeg) / (100 : Int32)) - ((gI m 87 v5.toNatClampNeg) / (100 : Int32)) / (3 : Int32) * (3 : Int32)), .int ((gI m 87 v5.toNatClampNeg) - (gI m 87 v5.toNatClampNeg) / (100 : Int32) * (100 : Int32)), .retAddr 0] [.int (2 : Int32)] m
              else zRun C 1 (some .boolean) zc_Garden_stands Q 130 [.ref 83, .ref 50, .int v2, .int v3, .int v4, .int v5, .int (gI m 87 v5.toNatClampNeg), .int ((gI m 87 v5.toNatClampNeg) / (300 : Int32)), .int (((gI m 87 v5.toNatClampNeg) / (100 : Int32)) - ((gI m 87 v5.toNatClampNeg) / (100 : Int32)) / (3 : Int32) * (3 : Int32)), .int ((gI m 87 v5.toNatClampNeg) - (gI m 87 v5.toNatClampNeg) / (100 : Int32) * (100 : Int32)), .retAddr 0] [.int (1 : Int32)] m)
            else zRun C 1 (some .boolean) zc_Garden_stands Q 130 [.ref 83, .ref 50, .int v2, .int v3, .int v4, .int v5, .int (gI m 87 v5.toNatClampNeg), .int ((gI m 87 v5.toNatClampNeg) / (300 : Int32)), .int (((gI m 87 v5.toNatClampNeg) / (100 : Int32)) - ((gI m 87 v5.toNatClampNeg) / (100 : Int32)) / (3 : Int32) * (3 : Int32)), .int ((gI m 87 v5.toNatClampNeg) - (gI m 87 v5.toNatClampNeg) / (100 : Int32) * (100 : Int32)), .retAddr 0] [.int (0 : Int32)] m)))))
          else zRun C 1 (some .boolean) zc_Garden_stands Q 6 [.ref 83, .ref 50, .int v2, .int v3, .int ((v4 >>> ((1 : Int32) &&& 31)) ||| (v4 &&& (1 : Int32))), .int (v5 + (1 : Int32)), .int (gI m 87 v5.toNatClampNeg), .retAddr 0, .retAddr 0, .retAddr 0, .retAddr 0] [] m
        else zRun C 1 (some .boolean) zc_Garden_stands Q 6 [.ref 83, .ref 50, .int v2, .int v3, .int ((v4 >>> ((1 : Int32) &&& 31)) &&& (v4 ||| (-2 : Int32))), .int (v5 + (1 : Int32)), .int (gI m 87 v5.toNatClampNeg), .retAddr 0, .retAddr 0, .retAddr 0, .retAddr 0] [] m
      else zRun C 1 (some .boolean) zc_Garden_stands Q 6 [.ref 83, .ref 50, .int v2, .int v3, .int (v4 ^^^ (1 : Int32)), .int (v5 + (1 : Int32)), .int (gI m 87 v5.toNatClampNeg), .retAddr 0, .retAddr 0, .retAddr 0, .retAddr 0] [] m)) :
    zRun C 1 (some .boolean) zc_Garden_stands Q 6 [.ref 83, .ref 50, .int v2, .int v3, .int v4, .int v5, .retAddr 0, .retAddr 0, .retAddr 0, .retAddr 0, .retAddr 0] [] m := zgo [6, 130] hC zs_Garden_stands (i := .iload 5) (r := zfind zc_Garden_stands 8) rfl h
set_option maxRecDepth 100000 in
theorem sg_Garden_stands_83_50_130 {C : zC} {Q : zQ} (hC : zCm C) (v2 : Int32) (v3 : Int32) (v4 : Int32) (v5 : Int32) (v6 : Int32) (v7 : Int32) (v8 : Int32) (v9 : Int32) (t0 : Int32) (m : zM) (h :
    if ¬ t0 = v8 then zRun C 1 (some .boolean) zc_Garden_stands Q 6 [.ref 83, .ref 50, .int v2, .int v3, .int ((v4 <<< ((1 : Int32) &&& 31)) ||| (0 : Int32)), .int (v5 + (1 : Int32)), .int v6, .int v7, .int v8, .int v9, .int t0] [] m
    else zRun C 1 (some .boolean) zc_Garden_stands Q 6 [.ref 83, .ref 50, .int v2, .int v3, .int ((v4 <<< ((1 : Int32) &&& 31)) ||| (1 : Int32)), .int (v5 + (1 : Int32)), .int v6, .int v7, .int v8, .int v9, .int t0] [] m) :
    zRun C 1 (some .boolean) zc_Garden_stands Q 130 [.ref 83, .ref 50, .int v2, .int v3, .int v4, .int v5, .int v6, .int v7, .int v8, .int v9, .retAddr 0] [.int t0] m := zgo [6, 130] hC zs_Garden_stands (i := .istore 10) (r := zfind zc_Garden_stands 132) rfl h
theorem en_Garden_stands_83_50 (dd : Nat) {Q : zQ} (a : Int32) (b : Int32) (m : zM) (h : zRun (zCall dd) 1 (some .boolean) zc_Garden_stands Q 0 [.ref 83, .ref 50, .int a, .int b, .retAddr 0, .retAddr 0, .retAddr 0, .retAddr 0, .retAddr 0, .retAddr 0, .retAddr 0] [] m) : zCall (dd + 1) m_Garden_stands [.ref 83, .ref 50, .int a, .int b] m Q := ⟨Nat.le_of_ble_eq_true rfl, h⟩
theorem zs_Hearing_measure : zsrt zc_Hearing_measure = true := by decide +kernel
set_option maxRecDepth 100000 in
theorem sg_Hearing_measure_21_0 {C : zC} {Q : zQ} (hC : zCm C) (m : zM) (h :
    zRun C 2 none zc_Hearing_measure Q 2 [.ref 92, .ref 21, .int (0 : Int32)] [] m) :
    zRun C 2 none zc_Hearing_measure Q 0 [.ref 92, .ref 21, .retAddr 0] [] m := zgo [2] hC zs_Hearing_measure (i := .iconst 0) (r := zfind zc_Hearing_measure 1) rfl h
set_option maxRecDepth 100000 in
theorem sg_Hearing_measure_21_2 {C : zC} {Q : zQ} (hC : zCm C) (v2 : Int32) (m : zM) (h :
    if (gI m 21 0) ≤ v2 then Q none m
    else C m_Hedge_takesOf [.ref 21, .int v2] m (fun o1 m2 => ∃ x3, o1 = some (.int x3) ∧ (vp_in v2 8 ∧ (zRun C 2 none zc_Hearing_measure Q 2 [.ref 92, .ref 21, .int (v2 + (1 : Int32))] [] (sI m2 93 v2.toNatClampNeg x3))))) :
    zRun C 2 none zc_Hearing_measure Q 2 [.ref 92, .ref 21, .int v2] [] m := zgo [2] hC zs_Hearing_measure (i := .iload_n 2) (r := zfind zc_Hearing_measure 3) rfl h
theorem en_Hearing_measure_21 (dd : Nat) {Q : zQ} (m : zM) (h : zRun (zCall dd) 2 none zc_Hearing_measure Q 0 [.ref 92, .ref 21, .retAddr 0] [] m) : zCall (dd + 1) m_Hearing_measure [.ref 92, .ref 21] m Q := ⟨Nat.le_of_ble_eq_true rfl, h⟩
set_option maxRecDepth 100000 in
theorem sg_Hearing_measure_45_0 {C : zC} {Q : zQ} (hC : zCm C) (m : zM) (h :
    zRun C 2 none zc_Hearing_measure Q 2 [.ref 92, .ref 45, .int (0 : Int32)] [] m) :
    zRun C 2 none zc_Hearing_measure Q 0 [.ref 92, .ref 45, .retAddr 0] [] m := zgo [2] hC zs_Hearing_measure (i := .iconst 0) (r := zfind zc_Hearing_measure 1) rfl h
set_option maxRecDepth 100000 in
theorem sg_Hearing_measure_45_2 {C : zC} {Q : zQ} (hC : zCm C) (v2 : Int32) (m : zM) (h :
    if (gI m 45 0) ≤ v2 then Q none m
    else C m_Hedge_takesOf [.ref 45, .int v2] m (fun o1 m2 => ∃ x3, o1 = some (.int x3) ∧ (vp_in v2 8 ∧ (zRun C 2 none zc_Hearing_measure Q 2 [.ref 92, .ref 45, .int (v2 + (1 : Int32))] [] (sI m2 93 v2.toNatClampNeg x3))))) :
    zRun C 2 none zc_Hearing_measure Q 2 [.ref 92, .ref 45, .int v2] [] m := zgo [2] hC zs_Hearing_measure (i := .iload_n 2) (r := zfind zc_Hearing_measure 3) rfl h
theorem en_Hearing_measure_45 (dd : Nat) {Q : zQ} (m : zM) (h : zRun (zCall dd) 2 none zc_Hearing_measure Q 0 [.ref 92, .ref 45, .retAddr 0] [] m) : zCall (dd + 1) m_Hearing_measure [.ref 92, .ref 45] m Q := ⟨Nat.le_of_ble_eq_true rfl, h⟩
theorem zs_Hearing_spread : zsrt zc_Hearing_spread = true := by decide +kernel
set_option maxRecDepth 100000 in
theorem sg_Hearing_spread_21_0 {C : zC} {Q : zQ} (hC : zCm C) (a : Int32) (m : zM) (h :
    zRun C 2 none zc_Hearing_spread Q 2 [.ref 92, .ref 21, .int a, .int (0 : Int32), .retAddr 0, .retAddr 0] [] m) :
    zRun C 2 none zc_Hearing_spread Q 0 [.ref 92, .ref 21, .int a, .retAddr 0, .retAddr 0, .retAddr 0] [] m := zgo [2, 62] hC zs_Hearing_spread (i := .iconst 0) (r := zfind zc_Hearing_spread 1) rfl h
set_option maxRecDepth 100000 in
theorem sg_Hearing_spread_21_2 {C : zC} {Q : zQ} (hC : zCm C) (v2 : Int32) (v3 : Int32) (m : zM) (h :
    if (gI m 21 0) ≤ v3 then zRun C 2 none zc_Hearing_spread Q 62 [.ref 92, .ref 21, .int v2, .int (0 : Int32), .int (0 : Int32), .retAddr 0] [] (sI m 92 4 (0 : Int32))
    else C m_Box_holds [.int v2, .int v3] m (fun o1 m2 => ∃ x3, o1 = some (.int x3) ∧ (if x3 = (0 : Int32) then vp_in v3 8 ∧ (vp_in v3 8 ∧ (zRun C 2 none zc_Hearing_spread Q 2 [.ref 92, .ref 21, .int v2, .int (v3 + (1 : Int32)), .retAddr 0, .retAddr 0] [] (sI (sI m2 94 v3.toNatClampNeg (-5 : Int32)) 95 v3.toNatClampNeg (-5 : Int32))))
      else C m_Hedge_isDead [.ref 21, .int v3] m2 (fun o4 m5 => ∃ x6, o4 = some (.int x6) ∧ (if ¬ x6 = (0 : Int32) then vp_in v3 8 ∧ (vp_in v3 8 ∧ (zRun C 2 none zc_Hearing_spread Q 2 [.ref 92, .ref 21, .int v2, .int (v3 + (1 : Int32)), .retAddr 0, .retAddr 0] [] (sI (sI m5 94 v3.toNatClampNeg (-5 : Int32)) 95 v3.toNatClampNeg (-5 : Int32))))
        else vp_in v3 8 ∧ (vp_in v3 8 ∧ (zRun C 2 none zc_Hearing_spread Q 2 [.ref 92, .ref 21, .int v2, .int (v3 + (1 : Int32)), .retAddr 0, .retAddr 0] [] (sI (sI m5 94 v3.toNatClampNeg (0 : Int32)) 95 v3.toNatClampNeg (-5 : Int32))))))))) :
    zRun C 2 none zc_Hearing_spread Q 2 [.ref 92, .ref 21, .int v2, .int v3, .retAddr 0, .retAddr 0] [] m := zgo [2, 62] hC zs_Hearing_spread (i := .iload_n 3) (r := zfind zc_Hearing_spread 3) rfl h
set_option maxRecDepth 100000 in
theorem sg_Hearing_spread_21_62 {C : zC} {Q : zQ} (hC : zCm C) (v2 : Int32) (v3 : Int32) (v4 : Int32) (m : zM) (h :
    if (gI m 21 0) ≤ v4 then Q none m
    else C m_Hearing_soonest [.ref 92, .int (gI m 21 0), .int v3] m (fun o1 m2 => ∃ x3, o1 = some (.int x3) ∧ (if ¬ x3 = (-5 : Int32) then vp_in (gI m2 92 4) 8 ∧ (C m_Box_bit [.int x3] (sI (sI m2 96 (gI m2 92 4).toNatClampNeg x3) 92 4 ((gI (sI m2 96 (gI m2 92 4).toNatClampNeg x3) 92 4) + (1 : Int32))) (fun o4 m5 => ∃ x6, o4 = some (.int x6) ∧ (C m_Hearing_passOn [.ref 92, .ref 21, .int x3] m5 (fun o7 m8 => o7 = none ∧ (zRun C 2 none zc_Hearing_spread Q 62 [.ref 92, .ref 21, .int v2, .int (v3 ||| x6), .int (v4 + (1 : Int32)), .int x3] [] m8)))))
      else Q none m2))) :
    zRun C 2 none zc_Hearing_spread Q 62 [.ref 92, .ref 21, .int v2, .int v3, .int v4, .retAddr 0] [] m := zgo [2, 62] hC zs_Hearing_spread (i := .iload 4) (r := zfind zc_Hearing_spread 64) rfl h
theorem en_Hearing_spread_21 (dd : Nat) {Q : zQ} (a : Int32) (m : zM) (h : zRun (zCall dd) 2 none zc_Hearing_spread Q 0 [.ref 92, .ref 21, .int a, .retAddr 0, .retAddr 0, .retAddr 0] [] m) : zCall (dd + 1) m_Hearing_spread [.ref 92, .ref 21, .int a] m Q := ⟨Nat.le_of_ble_eq_true rfl, h⟩
set_option maxRecDepth 100000 in
theorem sg_Hearing_spread_45_0 {C : zC} {Q : zQ} (hC : zCm C) (a : Int32) (m : zM) (h :
    zRun C 2 none zc_Hearing_spread Q 2 [.ref 92, .ref 45, .int a, .int (0 : Int32), .retAddr 0, .retAddr 0] [] m) :
    zRun C 2 none zc_Hearing_spread Q 0 [.ref 92, .ref 45, .int a, .retAddr 0, .retAddr 0, .retAddr 0] [] m := zgo [2, 62] hC zs_Hearing_spread (i := .iconst 0) (r := zfind zc_Hearing_spread 1) rfl h
set_option maxRecDepth 100000 in
theorem sg_Hearing_spread_45_2 {C : zC} {Q : zQ} (hC : zCm C) (v2 : Int32) (v3 : Int32) (m : zM) (h :
    if (gI m 45 0) ≤ v3 then zRun C 2 none zc_Hearing_spread Q 62 [.ref 92, .ref 45, .int v2, .int (0 : Int32), .int (0 : Int32), .retAddr 0] [] (sI m 92 4 (0 : Int32))
    else C m_Box_holds [.int v2, .int v3] m (fun o1 m2 => ∃ x3, o1 = some (.int x3) ∧ (if x3 = (0 : Int32) then vp_in v3 8 ∧ (vp_in v3 8 ∧ (zRun C 2 none zc_Hearing_spread Q 2 [.ref 92, .ref 45, .int v2, .int (v3 + (1 : Int32)), .retAddr 0, .retAddr 0] [] (sI (sI m2 94 v3.toNatClampNeg (-5 : Int32)) 95 v3.toNatClampNeg (-5 : Int32))))
      else C m_Hedge_isDead [.ref 45, .int v3] m2 (fun o4 m5 => ∃ x6, o4 = some (.int x6) ∧ (if ¬ x6 = (0 : Int32) then vp_in v3 8 ∧ (vp_in v3 8 ∧ (zRun C 2 none zc_Hearing_spread Q 2 [.ref 92, .ref 45, .int v2, .int (v3 + (1 : Int32)), .retAddr 0, .retAddr 0] [] (sI (sI m5 94 v3.toNatClampNeg (-5 : Int32)) 95 v3.toNatClampNeg (-5 : Int32))))
        else vp_in v3 8 ∧ (vp_in v3 8 ∧ (zRun C 2 none zc_Hearing_spread Q 2 [.ref 92, .ref 45, .int v2, .int (v3 + (1 : Int32)), .retAddr 0, .retAddr 0] [] (sI (sI m5 94 v3.toNatClampNeg (0 : Int32)) 95 v3.toNatClampNeg (-5 : Int32))))))))) :
    zRun C 2 none zc_Hearing_spread Q 2 [.ref 92, .ref 45, .int v2, .int v3, .retAddr 0, .retAddr 0] [] m := zgo [2, 62] hC zs_Hearing_spread (i := .iload_n 3) (r := zfind zc_Hearing_spread 3) rfl h
set_option maxRecDepth 100000 in
theorem sg_Hearing_spread_45_62 {C : zC} {Q : zQ} (hC : zCm C) (v2 : Int32) (v3 : Int32) (v4 : Int32) (m : zM) (h :
    if (gI m 45 0) ≤ v4 then Q none m
    else C m_Hearing_soonest [.ref 92, .int (gI m 45 0), .int v3] m (fun o1 m2 => ∃ x3, o1 = some (.int x3) ∧ (if ¬ x3 = (-5 : Int32) then vp_in (gI m2 92 4) 8 ∧ (C m_Box_bit [.int x3] (sI (sI m2 96 (gI m2 92 4).toNatClampNeg x3) 92 4 ((gI (sI m2 96 (gI m2 92 4).toNatClampNeg x3) 92 4) + (1 : Int32))) (fun o4 m5 => ∃ x6, o4 = some (.int x6) ∧ (C m_Hearing_passOn [.ref 92, .ref 45, .int x3] m5 (fun o7 m8 => o7 = none ∧ (zRun C 2 none zc_Hearing_spread Q 62 [.ref 92, .ref 45, .int v2, .int (v3 ||| x6), .int (v4 + (1 : Int32)), .int x3] [] m8)))))
      else Q none m2))) :
    zRun C 2 none zc_Hearing_spread Q 62 [.ref 92, .ref 45, .int v2, .int v3, .int v4, .retAddr 0] [] m := zgo [2, 62] hC zs_Hearing_spread (i := .iload 4) (r := zfind zc_Hearing_spread 64) rfl h
theorem en_Hearing_spread_45 (dd : Nat) {Q : zQ} (a : Int32) (m : zM) (h : zRun (zCall dd) 2 none zc_Hearing_spread Q 0 [.ref 92, .ref 45, .int a, .retAddr 0, .retAddr 0, .retAddr 0] [] m) : zCall (dd + 1) m_Hearing_spread [.ref 92, .ref 45, .int a] m Q := ⟨Nat.le_of_ble_eq_true rfl, h⟩
theorem zs_Hearing_soonest : zsrt zc_Hearing_soonest = true := by decide +kernel
set_option maxRecDepth 100000 in
theorem sg_Hearing_soonest_0 {C : zC} {Q : zQ} (hC : zCm C) (a : Int32) (b : Int32) (m : zM) (h :
    zRun C 2 (some .int) zc_Hearing_soonest Q 6 [.ref 92, .int a, .int b, .int (-5 : Int32), .int (0 : Int32)] [] m) :
    zRun C 2 (some .int) zc_Hearing_soonest Q 0 [.ref 92, .int a, .int b, .retAddr 0, .retAddr 0] [] m := zgo [6] hC zs_Hearing_soonest (i := .bipush (-5)) (r := zfind zc_Hearing_soonest 2) rfl h
set_option maxRecDepth 100000 in
theorem sg_Hearing_soonest_6 {C : zC} {Q : zQ} (hC : zCm C) (v1 : Int32) (v2 : Int32) (v3 : Int32) (v4 : Int32) (m : zM) (h :
    if v1 ≤ v4 then Q (some (.int v3)) m
    else vp_in v4 8 ∧ (if (gI m 94 v4.toNatClampNeg) = (-5 : Int32) then zRun C 2 (some .int) zc_Hearing_soonest Q 6 [.ref 92, .int v1, .int v2, .int v3, .int (v4 + (1 : Int32))] [] m
      else C m_Box_holds [.int v2, .int v4] m (fun o1 m2 => ∃ x3, o1 = some (.int x3) ∧ (if ¬ x3 = (0 : Int32) then zRun C 2 (some .int) zc_Hearing_soonest Q 6 [.ref 92, .int v1, .int v2, .int v3, .int (v4 + (1 : Int32))] [] m2
        else if v3 = (-5 : Int32) then zRun C 2 (some .int) zc_Hearing_soonest Q 6 [.ref 92, .int v1, .int v2, .int v4, .int (v4 + (1 : Int32))] [] m2
          else vp_in v4 8 ∧ (vp_in v3 8 ∧ (if (gI m2 94 v3.toNatClampNeg) ≤ (gI m2 94 v4.toNatClampNeg) then zRun C 2 (some .int) zc_Hearing_soonest Q 6 [.ref 92, .int v1, .int v2, .int v3, .int (v4 + (1 : Int32))] [] m2
            else zRun C 2 (some .int) zc_Hearing_soonest Q 6 [.ref 92, .int v1, .int v2, .int v4, .int (v4 + (1 : Int32))] [] m2)))))) :
    zRun C 2 (some .int) zc_Hearing_soonest Q 6 [.ref 92, .int v1, .int v2, .int v3, .int v4] [] m := zgo [6] hC zs_Hearing_soonest (i := .iload 4) (r := zfind zc_Hearing_soonest 8) rfl h
theorem en_Hearing_soonest (dd : Nat) {Q : zQ} (a : Int32) (b : Int32) (m : zM) (h : zRun (zCall dd) 2 (some .int) zc_Hearing_soonest Q 0 [.ref 92, .int a, .int b, .retAddr 0, .retAddr 0] [] m) : zCall (dd + 1) m_Hearing_soonest [.ref 92, .int a, .int b] m Q := ⟨Nat.le_of_ble_eq_true rfl, h⟩
theorem zs_Hearing_passOn : zsrt zc_Hearing_passOn = true := by decide +kernel
set_option maxRecDepth 100000 in
theorem sg_Hearing_passOn_21_0 {C : zC} {Q : zQ} (hC : zCm C) (a : Int32) (m : zM) (h :
    vp_in a 8 ∧ (vp_in a 8 ∧ (vp_in a 8 ∧ (zRun C 2 none zc_Hearing_passOn Q 32 [.ref 92, .ref 21, .int a, .int ((gI m 94 a.toNatClampNeg) + (gI m 93 a.toNatClampNeg)), .int ((gI m 24 a.toNatClampNeg) &&& ((gI m 21 5) ^^^ (-1 : Int32))), .int (0 : Int32), .retAddr 0] [] m)))) :
    zRun C 2 none zc_Hearing_passOn Q 0 [.ref 92, .ref 21, .int a, .retAddr 0, .retAddr 0, .retAddr 0, .retAddr 0] [] m := zgo [32] hC zs_Hearing_passOn (i := .aload_n 0) (r := zfind zc_Hearing_passOn 1) rfl h
set_option maxRecDepth 100000 in
theorem sg_Hearing_passOn_21_32 {C : zC} {Q : zQ} (hC : zCm C) (v2 : Int32) (v3 : Int32) (v4 : Int32) (v5 : Int32) (m : zM) (h :
    if (gI m 21 0) ≤ v5 then Q none m
    else C m_Box_holds [.int v4, .int v5] m (fun o1 m2 => ∃ x3, o1 = some (.int x3) ∧ (if ¬ x3 = (0 : Int32) then vp_in v5 8 ∧ (if (gI m2 94 v5.toNatClampNeg) = (-5 : Int32) then vp_in v5 8 ∧ (vp_in v5 8 ∧ (zRun C 2 none zc_Hearing_passOn Q 32 [.ref 92, .ref 21, .int v2, .int v3, .int v4, .int (v5 + (1 : Int32)), .int (1 : Int32)] [] (sI (sI m2 94 v5.toNatClampNeg v3) 95 v5.toNatClampNeg v2)))
        else vp_in v5 8 ∧ (if (gI m2 94 v5.toNatClampNeg) ≤ v3 then vp_in v5 8 ∧ (if ¬ v3 = (gI m2 94 v5.toNatClampNeg) then zRun C 2 none zc_Hearing_passOn Q 32 [.ref 92, .ref 21, .int v2, .int v3, .int v4, .int (v5 + (1 : Int32)), .int (0 : Int32)] [] m2
            else vp_in v5 8 ∧ (if (gI m2 95 v5.toNatClampNeg) ≤ v2 then zRun C 2 none zc_Hearing_passOn Q 32 [.ref 92, .ref 21, .int v2, .int v3, .int v4, .int (v5 + (1 : Int32)), .int (0 : Int32)] [] m2
              else vp_in v5 8 ∧ (vp_in v5 8 ∧ (zRun C 2 none zc_Hearing_passOn Q 32 [.ref 92, .ref 21, .int v2, .int v3, .int v4, .int (v5 + (1 : Int32)), .int (0 : Int32)] [] (sI (sI m2 94 v5.toNatClampNeg v3) 95 v5.toNatClampNeg v2)))))
          else vp_in v5 8 ∧ (vp_in v5 8 ∧ (zRun C 2 none zc_Hearing_passOn Q 32 [.ref 92, .ref 21, .int v2, .int v3, .int v4, .int (v5 + (1 : Int32)), .int (1 : Int32)] [] (sI (sI m2 94 v5.toNatClampNeg v3) 95 v5.toNatClampNeg v2)))))
      else zRun C 2 none zc_Hearing_passOn Q 32 [.ref 92, .ref 21, .int v2, .int v3, .int v4, .int (v5 + (1 : Int32)), .retAddr 0] [] m2))) :
    zRun C 2 none zc_Hearing_passOn Q 32 [.ref 92, .ref 21, .int v2, .int v3, .int v4, .int v5, .retAddr 0] [] m := zgo [32] hC zs_Hearing_passOn (i := .iload 5) (r := zfind zc_Hearing_passOn 34) rfl h
theorem en_Hearing_passOn_21 (dd : Nat) {Q : zQ} (a : Int32) (m : zM) (h : zRun (zCall dd) 2 none zc_Hearing_passOn Q 0 [.ref 92, .ref 21, .int a, .retAddr 0, .retAddr 0, .retAddr 0, .retAddr 0] [] m) : zCall (dd + 1) m_Hearing_passOn [.ref 92, .ref 21, .int a] m Q := ⟨Nat.le_of_ble_eq_true rfl, h⟩
set_option maxRecDepth 100000 in
theorem sg_Hearing_passOn_45_0 {C : zC} {Q : zQ} (hC : zCm C) (a : Int32) (m : zM) (h :
    vp_in a 8 ∧ (vp_in a 8 ∧ (vp_in a 8 ∧ (zRun C 2 none zc_Hearing_passOn Q 32 [.ref 92, .ref 45, .int a, .int ((gI m 94 a.toNatClampNeg) + (gI m 93 a.toNatClampNeg)), .int ((gI m 48 a.toNatClampNeg) &&& ((gI m 45 5) ^^^ (-1 : Int32))), .int (0 : Int32), .retAddr 0] [] m)))) :
    zRun C 2 none zc_Hearing_passOn Q 0 [.ref 92, .ref 45, .int a, .retAddr 0, .retAddr 0, .retAddr 0, .retAddr 0] [] m := zgo [32] hC zs_Hearing_passOn (i := .aload_n 0) (r := zfind zc_Hearing_passOn 1) rfl h
set_option maxRecDepth 100000 in
theorem sg_Hearing_passOn_45_32 {C : zC} {Q : zQ} (hC : zCm C) (v2 : Int32) (v3 : Int32) (v4 : Int32) (v5 : Int32) (m : zM) (h :
    if (gI m 45 0) ≤ v5 then Q none m
    else C m_Box_holds [.int v4, .int v5] m (fun o1 m2 => ∃ x3, o1 = some (.int x3) ∧ (if ¬ x3 = (0 : Int32) then vp_in v5 8 ∧ (if (gI m2 94 v5.toNatClampNeg) = (-5 : Int32) then vp_in v5 8 ∧ (vp_in v5 8 ∧ (zRun C 2 none zc_Hearing_passOn Q 32 [.ref 92, .ref 45, .int v2, .int v3, .int v4, .int (v5 + (1 : Int32)), .int (1 : Int32)] [] (sI (sI m2 94 v5.toNatClampNeg v3) 95 v5.toNatClampNeg v2)))
        else vp_in v5 8 ∧ (if (gI m2 94 v5.toNatClampNeg) ≤ v3 then vp_in v5 8 ∧ (if ¬ v3 = (gI m2 94 v5.toNatClampNeg) then zRun C 2 none zc_Hearing_passOn Q 32 [.ref 92, .ref 45, .int v2, .int v3, .int v4, .int (v5 + (1 : Int32)), .int (0 : Int32)] [] m2
            else vp_in v5 8 ∧ (if (gI m2 95 v5.toNatClampNeg) ≤ v2 then zRun C 2 none zc_Hearing_passOn Q 32 [.ref 92, .ref 45, .int v2, .int v3, .int v4, .int (v5 + (1 : Int32)), .int (0 : Int32)] [] m2
              else vp_in v5 8 ∧ (vp_in v5 8 ∧ (zRun C 2 none zc_Hearing_passOn Q 32 [.ref 92, .ref 45, .int v2, .int v3, .int v4, .int (v5 + (1 : Int32)), .int (0 : Int32)] [] (sI (sI m2 94 v5.toNatClampNeg v3) 95 v5.toNatClampNeg v2)))))
          else vp_in v5 8 ∧ (vp_in v5 8 ∧ (zRun C 2 none zc_Hearing_passOn Q 32 [.ref 92, .ref 45, .int v2, .int v3, .int v4, .int (v5 + (1 : Int32)), .int (1 : Int32)] [] (sI (sI m2 94 v5.toNatClampNeg v3) 95 v5.toNatClampNeg v2)))))
      else zRun C 2 none zc_Hearing_passOn Q 32 [.ref 92, .ref 45, .int v2, .int v3, .int v4, .int (v5 + (1 : Int32)), .retAddr 0] [] m2))) :
    zRun C 2 none zc_Hearing_passOn Q 32 [.ref 92, .ref 45, .int v2, .int v3, .int v4, .int v5, .retAddr 0] [] m := zgo [32] hC zs_Hearing_passOn (i := .iload 5) (r := zfind zc_Hearing_passOn 34) rfl h
theorem en_Hearing_passOn_45 (dd : Nat) {Q : zQ} (a : Int32) (m : zM) (h : zRun (zCall dd) 2 none zc_Hearing_passOn Q 0 [.ref 92, .ref 45, .int a, .retAddr 0, .retAddr 0, .retAddr 0, .retAddr 0] [] m) : zCall (dd + 1) m_Hearing_passOn [.ref 92, .ref 45, .int a] m Q := ⟨Nat.le_of_ble_eq_true rfl, h⟩
theorem zs_Hearing_speak : zsrt zc_Hearing_speak = true := by decide +kernel
set_option maxRecDepth 100000 in
theorem sg_Hearing_speak_0 {C : zC} {Q : zQ} (hC : zCm C) (a : Int32) (m : zM) (h :
    zRun C 2 none zc_Hearing_speak Q 2 [.ref 92, .ref 21, .int a, .int (0 : Int32), .retAddr 0, .retAddr 0] [] m) :
    zRun C 2 none zc_Hearing_speak Q 0 [.ref 92, .ref 21, .int a, .retAddr 0, .retAddr 0, .retAddr 0] [] m := zgo [2] hC zs_Hearing_speak (i := .iconst 0) (r := zfind zc_Hearing_speak 1) rfl h
set_option maxRecDepth 100000 in
theorem sg_Hearing_speak_2 {C : zC} {Q : zQ} (hC : zCm C) (v2 : Int32) (v3 : Int32) (m : zM) (h :
    if (gI m 92 4) ≤ v3 then Q none m
    else vp_in v3 8 ∧ (vp_in (gI m 96 v3.toNatClampNeg) 8 ∧ (if (0 : Int32) ≤ (gI m 95 (gI m 96 v3.toNatClampNeg).toNatClampNeg) then vp_in (gI m 95 (gI m 96 v3.toNatClampNeg).toNatClampNeg) 8 ∧ (C m_Hedge_passedOn [.ref 21, .int (gI m 95 (gI m 96 v3.toNatClampNeg).toNatClampNeg), .int (gI m 97 (gI m 95 (gI m 96 v3.toNatClampNeg).toNatClampNeg).toNatClampNeg)] m (fun o1 m2 => ∃ x3, o1 = some (.int x3) ∧ (vp_in (gI m 96 v3.toNatClampNeg) 8 ∧ (zRun C 2 none zc_Hearing_speak Q 2 [.ref 92, .ref 21, .int v2, .int (v3 + (1 : Int32)), .int (gI m 96 v3.toNatClampNeg), .int (gI m 95 (gI m 96 v3.toNatClampNeg).toNatClampNeg)] [] (sI m2 97 (gI m 96 v3.toNatClampNeg).toNatClampNeg x3)))))
      else vp_in (gI m 96 v3.toNatClampNeg) 8 ∧ (zRun C 2 none zc_Hearing_speak Q 2 [.ref 92, .ref 21, .int v2, .int (v3 + (1 : Int32)), .int (gI m 96 v3.toNatClampNeg), .int (gI m 95 (gI m 96 v3.toNatClampNeg).toNatClampNeg)] [] (sI m 97 (gI m 96 v3.toNatClampNeg).toNatClampNeg v2))))) :
    zRun C 2 none zc_Hearing_speak Q 2 [.ref 92, .ref 21, .int v2, .int v3, .retAddr 0, .retAddr 0] [] m := zgo [2] hC zs_Hearing_speak (i := .iload_n 3) (r := zfind zc_Hearing_speak 3) rfl h
theorem en_Hearing_speak (dd : Nat) {Q : zQ} (a : Int32) (m : zM) (h : zRun (zCall dd) 2 none zc_Hearing_speak Q 0 [.ref 92, .ref 21, .int a, .retAddr 0, .retAddr 0, .retAddr 0] [] m) : zCall (dd + 1) m_Hearing_speak [.ref 92, .ref 21, .int a] m Q := ⟨Nat.le_of_ble_eq_true rfl, h⟩
theorem zs_Hearing_wordAt : zsrt zc_Hearing_wordAt = true := by decide +kernel
set_option maxRecDepth 100000 in
theorem sg_Hearing_wordAt_0 {C : zC} {Q : zQ} (hC : zCm C) (a : Int32) (m : zM) (h :
    vp_in a 8 ∧ (if ¬ (gI m 94 a.toNatClampNeg) = (-5 : Int32) then vp_in a 8 ∧ (Q (some (.int (gI m 97 a.toNatClampNeg))) m)
    else Q (some (.int (-5 : Int32))) m)) :
    zRun C 2 (some .int) zc_Hearing_wordAt Q 0 [.ref 92, .int a] [] m := zgo [] hC zs_Hearing_wordAt (i := .aload_n 0) (r := zfind zc_Hearing_wordAt 1) rfl h
theorem en_Hearing_wordAt (dd : Nat) {Q : zQ} (a : Int32) (m : zM) (h : zRun (zCall dd) 2 (some .int) zc_Hearing_wordAt Q 0 [.ref 92, .int a] [] m) : zCall (dd + 1) m_Hearing_wordAt [.ref 92, .int a] m Q := ⟨Nat.le_of_ble_eq_true rfl, h⟩
theorem zs_Hedge_become : zsrt zc_Hedge_become = true := by decide +kernel
set_option maxRecDepth 100000 in
theorem sg_Hedge_become_33_0 {C : zC} {Q : zQ} (hC : zCm C) (m : zM) (h :
    (¬ (0 : Int32) < 0 ∧ ¬ (0 : Int32) < 0 ∧ ¬ (8 : Int32) < 0 ∧ (0 : Int32).toNatClampNeg + (8 : Int32).toNatClampNeg ≤ 8 ∧ (0 : Int32).toNatClampNeg + (8 : Int32).toNatClampNeg ≤ 8) ∧ ((¬ (0 : Int32) < 0 ∧ ¬ (0 : Int32) < 0 ∧ ¬ (8 : Int32) < 0 ∧ (0 : Int32).toNatClampNeg + (8 : Int32).toNatClampNeg ≤ 8 ∧ (0 : Int32).toNatClampNeg + (8 : Int32).toNatClampNeg ≤ 8) ∧ ((¬ (0 : Int32) < 0 ∧ ¬ (0 : Int32) < 0 ∧ ¬ (8 : Int32) < 0 ∧ (0 : Int32).toNatClampNeg + (8 : Int32).toNatClampNeg ≤ 8 ∧ (0 : Int32).toNatClampNeg + (8 : Int32).toNatClampNeg ≤ 8) ∧ ((¬ (0 : Int32) < 0 ∧ ¬ (0 : Int32) < 0 ∧ ¬ (32 : Int32) < 0 ∧ (0 : Int32).toNatClampNeg + (32 : Int32).toNatClampNeg ≤ 32 ∧ (0 : Int32).toNatClampNeg + (32 : Int32).toNatClampNeg ≤ 32) ∧ ((∀ q1, gG (sI (sI (cpI (cpI (cpI (cpI (sI m 33 0 (gI m 21 0)) 22 (0 : Int32).toNatClampNeg 34 (0 : Int32).toNatClampNeg (8 : Int32).toNatClampNeg) 23 (0 : Int32).toNatClampNeg 35 (0 : Int32).toNatClampNeg (8 : Int32).toNatClampNeg) 24 (0 : Int32).toNatClampNeg 36 (0 : Int32).toNatClampNeg (8 : Int32).toNatClampNeg) 25 (0 : Int32).toNatClampNeg 37 (0 : Int32).toNatClampNeg (32 : Int32).toNatClampNeg) 33 5 (gI (cpI (cpI (cpI (cpI (sI m 33 0 (gI m 21 0)) 22 (0 : Int32).toNatClampNeg 34 (0 : Int32).toNatClampNeg (8 : Int32).toNatClampNeg) 23 (0 : Int32).toNatClampNeg 35 (0 : Int32).toNatClampNeg (8 : Int32).toNatClampNeg) 24 (0 : Int32).toNatClampNeg 36 (0 : Int32).toNatClampNeg (8 : Int32).toNatClampNeg) 25 (0 : Int32).toNatClampNeg 37 (0 : Int32).toNatClampNeg (32 : Int32).toNatClampNeg) 21 5)) 33 6 (gI (sI (cpI (cpI (cpI (cpI (sI m 33 0 (gI m 21 0)) 22 (0 : Int32).toNatClampNeg 34 (0 : Int32).toNatClampNeg (8 : Int32).toNatClampNeg) 23 (0 : Int32).toNatClampNeg 35 (0 : Int32).toNatClampNeg (8 : Int32).toNatClampNeg) 24 (0 : Int32).toNatClampNeg 36 (0 : Int32).toNatClampNeg (8 : Int32).toNatClampNeg) 25 (0 : Int32).toNatClampNeg 37 (0 : Int32).toNatClampNeg (32 : Int32).toNatClampNeg) 33 5 (gI (cpI (cpI (cpI (cpI (sI m 33 0 (gI m 21 0)) 22 (0 : Int32).toNatClampNeg 34 (0 : Int32).toNatClampNeg (8 : Int32).toNatClampNeg) 23 (0 : Int32).toNatClampNeg 35 (0 : Int32).toNatClampNeg (8 : Int32).toNatClampNeg) 24 (0 : Int32).toNatClampNeg 36 (0 : Int32).toNatClampNeg (8 : Int32).toNatClampNeg) 25 (0 : Int32).toNatClampNeg 37 (0 : Int32).toNatClampNeg (32 : Int32).toNatClampNeg) 21 5)) 21 6)) 21 = some q1 → bif Nat.beq (zsh (q1)) 1 then (C m_Rows_become [.ref 39, .ref 27] (sG (sI (sI (cpI (cpI (cpI (cpI (sI m 33 0 (gI m 21 0)) 22 (0 : Int32).toNatClampNeg 34 (0 : Int32).toNatClampNeg (8 : Int32).toNatClampNeg) 23 (0 : Int32).toNatClampNeg 35 (0 : Int32).toNatClampNeg (8 : Int32).toNatClampNeg) 24 (0 : Int32).toNatClampNeg 36 (0 : Int32).toNatClampNeg (8 : Int32).toNatClampNeg) 25 (0 : Int32).toNatClampNeg 37 (0 : Int32).toNatClampNeg (32 : Int32).toNatClampNeg) 33 5 (gI (cpI (cpI (cpI (cpI (sI m 33 0 (gI m 21 0)) 22 (0 : Int32).toNatClampNeg 34 (0 : Int32).toNatClampNeg (8 : Int32).toNatClampNeg) 23 (0 : Int32).toNatClampNeg 35 (0 : Int32).toNatClampNeg (8 : Int32).toNatClampNeg) 24 (0 : Int32).toNatClampNeg 36 (0 : Int32).toNatClampNeg (8 : Int32).toNatClampNeg) 25 (0 : Int32).toNatClampNeg 37 (0 : Int32).toNatClampNeg (32 : Int32).toNatClampNeg) 21 5)) 33 6 (gI (sI (cpI (cpI (cpI (cpI (sI m 33 0 (gI m 21 0)) 22 (0 : Int32).toNatClampNeg 34 (0 : Int32).toNatClampNeg (8 : Int32).toNatClampNeg) 23 (0 : Int32).toNatClampNeg 35 (0 : Int32).toNatClampNeg (8 : Int32).toNatClampNeg) 24 (0 : Int32).toNatClampNeg 36 (0 : Int32).toNatClampNeg (8 : Int32).toNatClampNeg) 25 (0 : Int32).toNatClampNeg 37 (0 : Int32).toNatClampNeg (32 : Int32).toNatClampNeg) 33 5 (gI (cpI (cpI (cpI (cpI (sI m 33 0 (gI m 21 0)) 22 (0 : Int32).toNatClampNeg 34 (0 : Int32).toNatClampNeg (8 : Int32).toNatClampNeg) 23 (0 : Int32).toNatClampNeg 35 (0 : Int32).toNatClampNeg (8 : Int32).toNatClampNeg) 24 (0 : Int32).toNatClampNeg 36 (0 : Int32).toNatClampNeg (8 : Int32).toNatClampNeg) 25 (0 : Int32).toNatClampNeg 37 (0 : Int32).toNatClampNeg (32 : Int32).toNatClampNeg) 21 5)) 21 6)) 33 (some q1)) (fun o2 m3 => o2 = none ∧ (C m_Rows_become [.ref 41, .ref 29] m3 (fun o4 m5 => o4 = none ∧ (C m_Rows_become [.ref 43, .ref 31] m5 (fun o6 m7 => o6 = none ∧ (Q none m7))))))) else False) ∧
    (gG (sI (sI (cpI (cpI (cpI (cpI (sI m 33 0 (gI m 21 0)) 22 (0 : Int32).toNatClampNeg 34 (0 : Int32).toNatClampNeg (8 : Int32).toNatClampNeg) 23 (0 : Int32).toNatClampNeg 35 (0 : Int32).toNatClampNeg (8 : Int32).toNatClampNeg) 24 (0 : Int32).toNatClampNeg 36 (0 : Int32).toNatClampNeg (8 : Int32).toNatClampNeg) 25 (0 : Int32).toNatClampNeg 37 (0 : Int32).toNatClampNeg (32 : Int32).toNatClampNeg) 33 5 (gI (cpI (cpI (cpI (cpI (sI m 33 0 (gI m 21 0)) 22 (0 : Int32).toNatClampNeg 34 (0 : Int32).toNatClampNeg (8 : Int32).toNatClampNeg) 23 (0 : Int32).toNatClampNeg 35 (0 : Int32).toNatClampNeg (8 : Int32).toNatClampNeg) 24 (0 : Int32).toNatClampNeg 36 (0 : Int32).toNatClampNeg (8 : Int32).toNatClampNeg) 25 (0 : Int32).toNatClampNeg 37 (0 : Int32).toNatClampNeg (32 : Int32).toNatClampNeg) 21 5)) 33 6 (gI (sI (cpI (cpI (cpI (cpI (sI m 33 0 (gI m 21 0)) 22 (0 : Int32).toNatClampNeg 34 (0 : Int32).toNatClampNeg (8 : Int32).toNatClampNeg) 23 (0 : Int32).toNatClampNeg 35 (0 : Int32).toNatClampNeg (8 : Int32).toNatClampNeg) 24 (0 : Int32).toNatClampNeg 36 (0 : Int32).toNatClampNeg (8 : Int32).toNatClampNeg) 25 (0 : Int32).toNatClampNeg 37 (0 : Int32).toNatClampNeg (32 : Int32).toNatClampNeg) 33 5 (gI (cpI (cpI (cpI (cpI (sI m 33 0 (gI m 21 0)) 22 (0 : Int32).toNatClampNeg 34 (0 : Int32).toNatClampNeg (8 : Int32).toNatClampNeg) 23 (0 : Int32).toNatClampNeg 35 (0 : Int32).toNatClampNeg (8 : Int32).toNatClampNeg) 24 (0 : Int32).toNatClampNeg 36 (0 : Int32).toNatClampNeg (8 : Int32).toNatClampNeg) 25 (0 : Int32).toNatClampNeg 37 (0 : Int32).toNatClampNeg (32 : Int32).toNatClampNeg) 21 5)) 21 6)) 21 = none → C m_Rows_become [.ref 39, .ref 27] (sG (sI (sI (cpI (cpI (cpI (cpI (sI m 33 0 (gI m 21 0)) 22 (0 : Int32).toNatClampNeg 34 (0 : Int32).toNatClampNeg (8 : Int32).toNatClampNeg) 23 (0 : Int32).toNatClampNeg 35 (0 : Int32).toNatClampNeg (8 : Int32).toNatClampNeg) 24 (0 : Int32).toNatClampNeg 36 (0 : Int32).toNatClampNeg (8 : Int32).toNatClampNeg) 25 (0 : Int32).toNatClampNeg 37 (0 : Int32).toNatClampNeg (32 : Int32).toNatClampNeg) 33 5 (gI (cpI (cpI (cpI (cpI (sI m 33 0 (gI m 21 0)) 22 (0 : Int32).toNatClampNeg 34 (0 : Int32).toNatClampNeg (8 : Int32).toNatClampNeg) 23 (0 : Int32).toNatClampNeg 35 (0 : Int32).toNatClampNeg (8 : Int32).toNatClampNeg) 24 (0 : Int32).toNatClampNeg 36 (0 : Int32).toNatClampNeg (8 : Int32).toNatClampNeg) 25 (0 : Int32).toNatClampNeg 37 (0 : Int32).toNatClampNeg (32 : Int32).toNatClampNeg) 21 5)) 33 6 (gI (sI (cpI (cpI (cpI (cpI (sI m 33 0 (gI m 21 0)) 22 (0 : Int32).toNatClampNeg 34 (0 : Int32).toNatClampNeg (8 : Int32).toNatClampNeg) 23 (0 : Int32).toNatClampNeg 35 (0 : Int32).toNatClampNeg (8 : Int32).toNatClampNeg) 24 (0 : Int32).toNatClampNeg 36 (0 : Int32).toNatClampNeg (8 : Int32).toNatClampNeg) 25 (0 : Int32).toNatClampNeg 37 (0 : Int32).toNatClampNeg (32 : Int32).toNatClampNeg) 33 5 (gI (cpI (cpI (cpI (cpI (sI m 33 0 (gI m 21 0)) 22 (0 : Int32).toNatClampNeg 34 (0 : Int32).toNatClampNeg (8 : Int32).toNatClampNeg) 23 (0 : Int32).toNatClampNeg 35 (0 : Int32).toNatClampNeg (8 : Int32).toNatClampNeg) 24 (0 : Int32).toNatClampNeg 36 (0 : Int32).toNatClampNeg (8 : Int32).toNatClampNeg) 25 (0 : Int32).toNatClampNeg 37 (0 : Int32).toNatClampNeg (32 : Int32).toNatClampNeg) 21 5)) 21 6)) 33 none) (fun o8 m9 => o8 = none ∧ (C m_Rows_become [.ref 41, .ref 29] m9 (fun o10 m11 => o10 = none ∧ (C m_Rows_become [.ref 43, .ref 31] m11 (fun o12 m13 => o12 = none ∧ (Q none m13)))))))))))) :
    zRun C 3 none zc_Hedge_become Q 0 [.ref 33, .ref 21] [] m := zgo [] hC zs_Hedge_become (i := .aload_n 0) (r := zfind zc_Hedge_become 1) rfl h
theorem en_Hedge_become_33 (dd : Nat) {Q : zQ} (m : zM) (h : zRun (zCall dd) 3 none zc_Hedge_become Q 0 [.ref 33, .ref 21] [] m) : zCall (dd + 1) m_Hedge_become [.ref 33, .ref 21] m Q := ⟨Nat.le_of_ble_eq_true rfl, h⟩
set_option maxRecDepth 100000 in
theorem sg_Hedge_become_21_0 {C : zC} {Q : zQ} (hC : zCm C) (m : zM) (h :
    (¬ (0 : Int32) < 0 ∧ ¬ (0 : Int32) < 0 ∧ ¬ (8 : Int32) < 0 ∧ (0 : Int32).toNatClampNeg + (8 : Int32).toNatClampNeg ≤ 8 ∧ (0 : Int32).toNatClampNeg + (8 : Int32).toNatClampNeg ≤ 8) ∧ ((¬ (0 : Int32) < 0 ∧ ¬ (0 : Int32) < 0 ∧ ¬ (8 : Int32) < 0 ∧ (0 : Int32).toNatClampNeg + (8 : Int32).toNatClampNeg ≤ 8 ∧ (0 : Int32).toNatClampNeg + (8 : Int32).toNatClampNeg ≤ 8) ∧ ((¬ (0 : Int32) < 0 ∧ ¬ (0 : Int32) < 0 ∧ ¬ (8 : Int32) < 0 ∧ (0 : Int32).toNatClampNeg + (8 : Int32).toNatClampNeg ≤ 8 ∧ (0 : Int32).toNatClampNeg + (8 : Int32).toNatClampNeg ≤ 8) ∧ ((¬ (0 : Int32) < 0 ∧ ¬ (0 : Int32) < 0 ∧ ¬ (32 : Int32) < 0 ∧ (0 : Int32).toNatClampNeg + (32 : Int32).toNatClampNeg ≤ 32 ∧ (0 : Int32).toNatClampNeg + (32 : Int32).toNatClampNeg ≤ 32) ∧ ((∀ q1, gG (sI (sI (cpI (cpI (cpI (cpI (sI m 21 0 (gI m 33 0)) 34 (0 : Int32).toNatClampNeg 22 (0 : Int32).toNatClampNeg (8 : Int32).toNatClampNeg) 35 (0 : Int32).toNatClampNeg 23 (0 : Int32).toNatClampNeg (8 : Int32).toNatClampNeg) 36 (0 : Int32).toNatClampNeg 24 (0 : Int32).toNatClampNeg (8 : Int32).toNatClampNeg) 37 (0 : Int32).toNatClampNeg 25 (0 : Int32).toNatClampNeg (32 : Int32).toNatClampNeg) 21 5 (gI (cpI (cpI (cpI (cpI (sI m 21 0 (gI m 33 0)) 34 (0 : Int32).toNatClampNeg 22 (0 : Int32).toNatClampNeg (8 : Int32).toNatClampNeg) 35 (0 : Int32).toNatClampNeg 23 (0 : Int32).toNatClampNeg (8 : Int32).toNatClampNeg) 36 (0 : Int32).toNatClampNeg 24 (0 : Int32).toNatClampNeg (8 : Int32).toNatClampNeg) 37 (0 : Int32).toNatClampNeg 25 (0 : Int32).toNatClampNeg (32 : Int32).toNatClampNeg) 33 5)) 21 6 (gI (sI (cpI (cpI (cpI (cpI (sI m 21 0 (gI m 33 0)) 34 (0 : Int32).toNatClampNeg 22 (0 : Int32).toNatClampNeg (8 : Int32).toNatClampNeg) 35 (0 : Int32).toNatClampNeg 23 (0 : Int32).toNatClampNeg (8 : Int32).toNatClampNeg) 36 (0 : Int32).toNatClampNeg 24 (0 : Int32).toNatClampNeg (8 : Int32).toNatClampNeg) 37 (0 : Int32).toNatClampNeg 25 (0 : Int32).toNatClampNeg (32 : Int32).toNatClampNeg) 21 5 (gI (cpI (cpI (cpI (cpI (sI m 21 0 (gI m 33 0)) 34 (0 : Int32).toNatClampNeg 22 (0 : Int32).toNatClampNeg (8 : Int32).toNatClampNeg) 35 (0 : Int32).toNatClampNeg 23 (0 : Int32).toNatClampNeg (8 : Int32).toNatClampNeg) 36 (0 : Int32).toNatClampNeg 24 (0 : Int32).toNatClampNeg (8 : Int32).toNatClampNeg) 37 (0 : Int32).toNatClampNeg 25 (0 : Int32).toNatClampNeg (32 : Int32).toNatClampNeg) 33 5)) 33 6)) 33 = some q1 → bif Nat.beq (zsh (q1)) 1 then (C m_Rows_become [.ref 27, .ref 39] (sG (sI (sI (cpI (cpI (cpI (cpI (sI m 21 0 (gI m 33 0)) 34 (0 : Int32).toNatClampNeg 22 (0 : Int32).toNatClampNeg (8 : Int32).toNatClampNeg) 35 (0 : Int32).toNatClampNeg 23 (0 : Int32).toNatClampNeg (8 : Int32).toNatClampNeg) 36 (0 : Int32).toNatClampNeg 24 (0 : Int32).toNatClampNeg (8 : Int32).toNatClampNeg) 37 (0 : Int32).toNatClampNeg 25 (0 : Int32).toNatClampNeg (32 : Int32).toNatClampNeg) 21 5 (gI (cpI (cpI (cpI (cpI (sI m 21 0 (gI m 33 0)) 34 (0 : Int32).toNatClampNeg 22 (0 : Int32).toNatClampNeg (8 : Int32).toNatClampNeg) 35 (0 : Int32).toNatClampNeg 23 (0 : Int32).toNatClampNeg (8 : Int32).toNatClampNeg) 36 (0 : Int32).toNatClampNeg 24 (0 : Int32).toNatClampNeg (8 : Int32).toNatClampNeg) 37 (0 : Int32).toNatClampNeg 25 (0 : Int32).toNatClampNeg (32 : Int32).toNatClampNeg) 33 5)) 21 6 (gI (sI (cpI (cpI (cpI (cpI (sI m 21 0 (gI m 33 0)) 34 (0 : Int32).toNatClampNeg 22 (0 : Int32).toNatClampNeg (8 : Int32).toNatClampNeg) 35 (0 : Int32).toNatClampNeg 23 (0 : Int32).toNatClampNeg (8 : Int32).toNatClampNeg) 36 (0 : Int32).toNatClampNeg 24 (0 : Int32).toNatClampNeg (8 : Int32).toNatClampNeg) 37 (0 : Int32).toNatClampNeg 25 (0 : Int32).toNatClampNeg (32 : Int32).toNatClampNeg) 21 5 (gI (cpI (cpI (cpI (cpI (sI m 21 0 (gI m 33 0)) 34 (0 : Int32).toNatClampNeg 22 (0 : Int32).toNatClampNeg (8 : Int32).toNatClampNeg) 35 (0 : Int32).toNatClampNeg 23 (0 : Int32).toNatClampNeg (8 : Int32).toNatClampNeg) 36 (0 : Int32).toNatClampNeg 24 (0 : Int32).toNatClampNeg (8 : Int32).toNatClampNeg) 37 (0 : Int32).toNatClampNeg 25 (0 : Int32).toNatClampNeg (32 : Int32).toNatClampNeg) 33 5)) 33 6)) 21 (some q1)) (fun o2 m3 => o2 = none ∧ (C m_Rows_become [.ref 29, .ref 41] m3 (fun o4 m5 => o4 = none ∧ (C m_Rows_become [.ref 31, .ref 43] m5 (fun o6 m7 => o6 = none ∧ (Q none m7))))))) else False) ∧
    (gG (sI (sI (cpI (cpI (cpI (cpI (sI m 21 0 (gI m 33 0)) 34 (0 : Int32).toNatClampNeg 22 (0 : Int32).toNatClampNeg (8 : Int32).toNatClampNeg) 35 (0 : Int32).toNatClampNeg 23 (0 : Int32).toNatClampNeg (8 : Int32).toNatClampNeg) 36 (0 : Int32).toNatClampNeg 24 (0 : Int32).toNatClampNeg (8 : Int32).toNatClampNeg) 37 (0 : Int32).toNatClampNeg 25 (0 : Int32).toNatClampNeg (32 : Int32).toNatClampNeg) 21 5 (gI (cpI (cpI (cpI (cpI (sI m 21 0 (gI m 33 0)) 34 (0 : Int32).toNatClampNeg 22 (0 : Int32).toNatClampNeg (8 : Int32).toNatClampNeg) 35 (0 : Int32).toNatClampNeg 23 (0 : Int32).toNatClampNeg (8 : Int32).toNatClampNeg) 36 (0 : Int32).toNatClampNeg 24 (0 : Int32).toNatClampNeg (8 : Int32).toNatClampNeg) 37 (0 : Int32).toNatClampNeg 25 (0 : Int32).toNatClampNeg (32 : Int32).toNatClampNeg) 33 5)) 21 6 (gI (sI (cpI (cpI (cpI (cpI (sI m 21 0 (gI m 33 0)) 34 (0 : Int32).toNatClampNeg 22 (0 : Int32).toNatClampNeg (8 : Int32).toNatClampNeg) 35 (0 : Int32).toNatClampNeg 23 (0 : Int32).toNatClampNeg (8 : Int32).toNatClampNeg) 36 (0 : Int32).toNatClampNeg 24 (0 : Int32).toNatClampNeg (8 : Int32).toNatClampNeg) 37 (0 : Int32).toNatClampNeg 25 (0 : Int32).toNatClampNeg (32 : Int32).toNatClampNeg) 21 5 (gI (cpI (cpI (cpI (cpI (sI m 21 0 (gI m 33 0)) 34 (0 : Int32).toNatClampNeg 22 (0 : Int32).toNatClampNeg (8 : Int32).toNatClampNeg) 35 (0 : Int32).toNatClampNeg 23 (0 : Int32).toNatClampNeg (8 : Int32).toNatClampNeg) 36 (0 : Int32).toNatClampNeg 24 (0 : Int32).toNatClampNeg (8 : Int32).toNatClampNeg) 37 (0 : Int32).toNatClampNeg 25 (0 : Int32).toNatClampNeg (32 : Int32).toNatClampNeg) 33 5)) 33 6)) 33 = none → C m_Rows_become [.ref 27, .ref 39] (sG (sI (sI (cpI (cpI (cpI (cpI (sI m 21 0 (gI m 33 0)) 34 (0 : Int32).toNatClampNeg 22 (0 : Int32).toNatClampNeg (8 : Int32).toNatClampNeg) 35 (0 : Int32).toNatClampNeg 23 (0 : Int32).toNatClampNeg (8 : Int32).toNatClampNeg) 36 (0 : Int32).toNatClampNeg 24 (0 : Int32).toNatClampNeg (8 : Int32).toNatClampNeg) 37 (0 : Int32).toNatClampNeg 25 (0 : Int32).toNatClampNeg (32 : Int32).toNatClampNeg) 21 5 (gI (cpI (cpI (cpI (cpI (sI m 21 0 (gI m 33 0)) 34 (0 : Int32).toNatClampNeg 22 (0 : Int32).toNatClampNeg (8 : Int32).toNatClampNeg) 35 (0 : Int32).toNatClampNeg 23 (0 : Int32).toNatClampNeg (8 : Int32).toNatClampNeg) 36 (0 : Int32).toNatClampNeg 24 (0 : Int32).toNatClampNeg (8 : Int32).toNatClampNeg) 37 (0 : Int32).toNatClampNeg 25 (0 : Int32).toNatClampNeg (32 : Int32).toNatClampNeg) 33 5)) 21 6 (gI (sI (cpI (cpI (cpI (cpI (sI m 21 0 (gI m 33 0)) 34 (0 : Int32).toNatClampNeg 22 (0 : Int32).toNatClampNeg (8 : Int32).toNatClampNeg) 35 (0 : Int32).toNatClampNeg 23 (0 : Int32).toNatClampNeg (8 : Int32).toNatClampNeg) 36 (0 : Int32).toNatClampNeg 24 (0 : Int32).toNatClampNeg (8 : Int32).toNatClampNeg) 37 (0 : Int32).toNatClampNeg 25 (0 : Int32).toNatClampNeg (32 : Int32).toNatClampNeg) 21 5 (gI (cpI (cpI (cpI (cpI (sI m 21 0 (gI m 33 0)) 34 (0 : Int32).toNatClampNeg 22 (0 : Int32).toNatClampNeg (8 : Int32).toNatClampNeg) 35 (0 : Int32).toNatClampNeg 23 (0 : Int32).toNatClampNeg (8 : Int32).toNatClampNeg) 36 (0 : Int32).toNatClampNeg 24 (0 : Int32).toNatClampNeg (8 : Int32).toNatClampNeg) 37 (0 : Int32).toNatClampNeg 25 (0 : Int32).toNatClampNeg (32 : Int32).toNatClampNeg) 33 5)) 33 6)) 21 none) (fun o8 m9 => o8 = none ∧ (C m_Rows_become [.ref 29, .ref 41] m9 (fun o10 m11 => o10 = none ∧ (C m_Rows_become [.ref 31, .ref 43] m11 (fun o12 m13 => o12 = none ∧ (Q none m13)))))))))))) :
    zRun C 3 none zc_Hedge_become Q 0 [.ref 21, .ref 33] [] m := zgo [] hC zs_Hedge_become (i := .aload_n 0) (r := zfind zc_Hedge_become 1) rfl h
theorem en_Hedge_become_21 (dd : Nat) {Q : zQ} (m : zM) (h : zRun (zCall dd) 3 none zc_Hedge_become Q 0 [.ref 21, .ref 33] [] m) : zCall (dd + 1) m_Hedge_become [.ref 21, .ref 33] m Q := ⟨Nat.le_of_ble_eq_true rfl, h⟩
set_option maxRecDepth 100000 in
theorem sg_Hedge_become_45_0 {C : zC} {Q : zQ} (hC : zCm C) (m : zM) (h :
    (¬ (0 : Int32) < 0 ∧ ¬ (0 : Int32) < 0 ∧ ¬ (8 : Int32) < 0 ∧ (0 : Int32).toNatClampNeg + (8 : Int32).toNatClampNeg ≤ 8 ∧ (0 : Int32).toNatClampNeg + (8 : Int32).toNatClampNeg ≤ 8) ∧ ((¬ (0 : Int32) < 0 ∧ ¬ (0 : Int32) < 0 ∧ ¬ (8 : Int32) < 0 ∧ (0 : Int32).toNatClampNeg + (8 : Int32).toNatClampNeg ≤ 8 ∧ (0 : Int32).toNatClampNeg + (8 : Int32).toNatClampNeg ≤ 8) ∧ ((¬ (0 : Int32) < 0 ∧ ¬ (0 : Int32) < 0 ∧ ¬ (8 : Int32) < 0 ∧ (0 : Int32).toNatClampNeg + (8 : Int32).toNatClampNeg ≤ 8 ∧ (0 : Int32).toNatClampNeg + (8 : Int32).toNatClampNeg ≤ 8) ∧ ((¬ (0 : Int32) < 0 ∧ ¬ (0 : Int32) < 0 ∧ ¬ (32 : Int32) < 0 ∧ (0 : Int32).toNatClampNeg + (32 : Int32).toNatClampNeg ≤ 32 ∧ (0 : Int32).toNatClampNeg + (32 : Int32).toNatClampNeg ≤ 32) ∧ ((∀ q1, gG (sI (sI (cpI (cpI (cpI (cpI (sI m 45 0 (gI m 21 0)) 22 (0 : Int32).toNatClampNeg 46 (0 : Int32).toNatClampNeg (8 : Int32).toNatClampNeg) 23 (0 : Int32).toNatClampNeg 47 (0 : Int32).toNatClampNeg (8 : Int32).toNatClampNeg) 24 (0 : Int32).toNatClampNeg 48 (0 : Int32).toNatClampNeg (8 : Int32).toNatClampNeg) 25 (0 : Int32).toNatClampNeg 49 (0 : Int32).toNatClampNeg (32 : Int32).toNatClampNeg) 45 5 (gI (cpI (cpI (cpI (cpI (sI m 45 0 (gI m 21 0)) 22 (0 : Int32).toNatClampNeg 46 (0 : Int32).toNatClampNeg (8 : Int32).toNatClampNeg) 23 (0 : Int32).toNatClampNeg 47 (0 : Int32).toNatClampNeg (8 : Int32).toNatClampNeg) 24 (0 : Int32).toNatClampNeg 48 (0 : Int32).toNatClampNeg (8 : Int32).toNatClampNeg) 25 (0 : Int32).toNatClampNeg 49 (0 : Int32).toNatClampNeg (32 : Int32).toNatClampNeg) 21 5)) 45 6 (gI (sI (cpI (cpI (cpI (cpI (sI m 45 0 (gI m 21 0)) 22 (0 : Int32).toNatClampNeg 46 (0 : Int32).toNatClampNeg (8 : Int32).toNatClampNeg) 23 (0 : Int32).toNatClampNeg 47 (0 : Int32).toNatClampNeg (8 : Int32).toNatClampNeg) 24 (0 : Int32).toNatClampNeg 48 (0 : Int32).toNatClampNeg (8 : Int32).toNatClampNeg) 25 (0 : Int32).toNatClampNeg 49 (0 : Int32).toNatClampNeg (32 : Int32).toNatClampNeg) 45 5 (gI (cpI (cpI (cpI (cpI (sI m 45 0 (gI m 21 0)) 22 (0 : Int32).toNatClampNeg 46 (0 : Int32).toNatClampNeg (8 : Int32).toNatClampNeg) 23 (0 : Int32).toNatClampNeg 47 (0 : Int32).toNatClampNeg (8 : Int32).toNatClampNeg) 24 (0 : Int32).toNatClampNeg 48 (0 : Int32).toNatClampNeg (8 : Int32).toNatClampNeg) 25 (0 : Int32).toNatClampNeg 49 (0 : Int32).toNatClampNeg (32 : Int32).toNatClampNeg) 21 5)) 21 6)) 21 = some q1 → bif Nat.beq (zsh (q1)) 1 then (C m_Rows_become [.ref 51, .ref 27] (sG (sI (sI (cpI (cpI (cpI (cpI (sI m 45 0 (gI m 21 0)) 22 (0 : Int32).toNatClampNeg 46 (0 : Int32).toNatClampNeg (8 : Int32).toNatClampNeg) 23 (0 : Int32).toNatClampNeg 47 (0 : Int32).toNatClampNeg (8 : Int32).toNatClampNeg) 24 (0 : Int32).toNatClampNeg 48 (0 : Int32).toNatClampNeg (8 : Int32).toNatClampNeg) 25 (0 : Int32).toNatClampNeg 49 (0 : Int32).toNatClampNeg (32 : Int32).toNatClampNeg) 45 5 (gI (cpI (cpI (cpI (cpI (sI m 45 0 (gI m 21 0)) 22 (0 : Int32).toNatClampNeg 46 (0 : Int32).toNatClampNeg (8 : Int32).toNatClampNeg) 23 (0 : Int32).toNatClampNeg 47 (0 : Int32).toNatClampNeg (8 : Int32).toNatClampNeg) 24 (0 : Int32).toNatClampNeg 48 (0 : Int32).toNatClampNeg (8 : Int32).toNatClampNeg) 25 (0 : Int32).toNatClampNeg 49 (0 : Int32).toNatClampNeg (32 : Int32).toNatClampNeg) 21 5)) 45 6 (gI (sI (cpI (cpI (cpI (cpI (sI m 45 0 (gI m 21 0)) 22 (0 : Int32).toNatClampNeg 46 (0 : Int32).toNatClampNeg (8 : Int32).toNatClampNeg) 23 (0 : Int32).toNatClampNeg 47 (0 : Int32).toNatClampNeg (8 : Int32).toNatClampNeg) 24 (0 : Int32).toNatClampNeg 48 (0 : Int32).toNatClampNeg (8 : Int32).toNatClampNeg) 25 (0 : Int32).toNatClampNeg 49 (0 : Int32).toNatClampNeg (32 : Int32).toNatClampNeg) 45 5 (gI (cpI (cpI (cpI (cpI (sI m 45 0 (gI m 21 0)) 22 (0 : Int32).toNatClampNeg 46 (0 : Int32).toNatClampNeg (8 : Int32).toNatClampNeg) 23 (0 : Int32).toNatClampNeg 47 (0 : Int32).toNatClampNeg (8 : Int32).toNatClampNeg) 24 (0 : Int32).toNatClampNeg 48 (0 : Int32).toNatClampNeg (8 : Int32).toNatClampNeg) 25 (0 : Int32).toNatClampNeg 49 (0 : Int32).toNatClampNeg (32 : Int32).toNatClampNeg) 21 5)) 21 6)) 45 (some q1)) (fun o2 m3 => o2 = none ∧ (C m_Rows_become [.ref 53, .ref 29] m3 (fun o4 m5 => o4 = none ∧ (C m_Rows_become [.ref 55, .ref 31] m5 (fun o6 m7 => o6 = none ∧ (Q none m7))))))) else False) ∧
    (gG (sI (sI (cpI (cpI (cpI (cpI (sI m 45 0 (gI m 21 0)) 22 (0 : Int32).toNatClampNeg 46 (0 : Int32).toNatClampNeg (8 : Int32).toNatClampNeg) 23 (0 : Int32).toNatClampNeg 47 (0 : Int32).toNatClampNeg (8 : Int32).toNatClampNeg) 24 (0 : Int32).toNatClampNeg 48 (0 : Int32).toNatClampNeg (8 : Int32).toNatClampNeg) 25 (0 : Int32).toNatClampNeg 49 (0 : Int32).toNatClampNeg (32 : Int32).toNatClampNeg) 45 5 (gI (cpI (cpI (cpI (cpI (sI m 45 0 (gI m 21 0)) 22 (0 : Int32).toNatClampNeg 46 (0 : Int32).toNatClampNeg (8 : Int32).toNatClampNeg) 23 (0 : Int32).toNatClampNeg 47 (0 : Int32).toNatClampNeg (8 : Int32).toNatClampNeg) 24 (0 : Int32).toNatClampNeg 48 (0 : Int32).toNatClampNeg (8 : Int32).toNatClampNeg) 25 (0 : Int32).toNatClampNeg 49 (0 : Int32).toNatClampNeg (32 : Int32).toNatClampNeg) 21 5)) 45 6 (gI (sI (cpI (cpI (cpI (cpI (sI m 45 0 (gI m 21 0)) 22 (0 : Int32).toNatClampNeg 46 (0 : Int32).toNatClampNeg (8 : Int32).toNatClampNeg) 23 (0 : Int32).toNatClampNeg 47 (0 : Int32).toNatClampNeg (8 : Int32).toNatClampNeg) 24 (0 : Int32).toNatClampNeg 48 (0 : Int32).toNatClampNeg (8 : Int32).toNatClampNeg) 25 (0 : Int32).toNatClampNeg 49 (0 : Int32).toNatClampNeg (32 : Int32).toNatClampNeg) 45 5 (gI (cpI (cpI (cpI (cpI (sI m 45 0 (gI m 21 0)) 22 (0 : Int32).toNatClampNeg 46 (0 : Int32).toNatClampNeg (8 : Int32).toNatClampNeg) 23 (0 : Int32).toNatClampNeg 47 (0 : Int32).toNatClampNeg (8 : Int32).toNatClampNeg) 24 (0 : Int32).toNatClampNeg 48 (0 : Int32).toNatClampNeg (8 : Int32).toNatClampNeg) 25 (0 : Int32).toNatClampNeg 49 (0 : Int32).toNatClampNeg (32 : Int32).toNatClampNeg) 21 5)) 21 6)) 21 = none → C m_Rows_become [.ref 51, .ref 27] (sG (sI (sI (cpI (cpI (cpI (cpI (sI m 45 0 (gI m 21 0)) 22 (0 : Int32).toNatClampNeg 46 (0 : Int32).toNatClampNeg (8 : Int32).toNatClampNeg) 23 (0 : Int32).toNatClampNeg 47 (0 : Int32).toNatClampNeg (8 : Int32).toNatClampNeg) 24 (0 : Int32).toNatClampNeg 48 (0 : Int32).toNatClampNeg (8 : Int32).toNatClampNeg) 25 (0 : Int32).toNatClampNeg 49 (0 : Int32).toNatClampNeg (32 : Int32).toNatClampNeg) 45 5 (gI (cpI (cpI (cpI (cpI (sI m 45 0 (gI m 21 0)) 22 (0 : Int32).toNatClampNeg 46 (0 : Int32).toNatClampNeg (8 : Int32).toNatClampNeg) 23 (0 : Int32).toNatClampNeg 47 (0 : Int32).toNatClampNeg (8 : Int32).toNatClampNeg) 24 (0 : Int32).toNatClampNeg 48 (0 : Int32).toNatClampNeg (8 : Int32).toNatClampNeg) 25 (0 : Int32).toNatClampNeg 49 (0 : Int32).toNatClampNeg (32 : Int32).toNatClampNeg) 21 5)) 45 6 (gI (sI (cpI (cpI (cpI (cpI (sI m 45 0 (gI m 21 0)) 22 (0 : Int32).toNatClampNeg 46 (0 : Int32).toNatClampNeg (8 : Int32).toNatClampNeg) 23 (0 : Int32).toNatClampNeg 47 (0 : Int32).toNatClampNeg (8 : Int32).toNatClampNeg) 24 (0 : Int32).toNatClampNeg 48 (0 : Int32).toNatClampNeg (8 : Int32).toNatClampNeg) 25 (0 : Int32).toNatClampNeg 49 (0 : Int32).toNatClampNeg (32 : Int32).toNatClampNeg) 45 5 (gI (cpI (cpI (cpI (cpI (sI m 45 0 (gI m 21 0)) 22 (0 : Int32).toNatClampNeg 46 (0 : Int32).toNatClampNeg (8 : Int32).toNatClampNeg) 23 (0 : Int32).toNatClampNeg 47 (0 : Int32).toNatClampNeg (8 : Int32).toNatClampNeg) 24 (0 : Int32).toNatClampNeg 48 (0 : Int32).toNatClampNeg (8 : Int32).toNatClampNeg) 25 (0 : Int32).toNatClampNeg 49 (0 : Int32).toNatClampNeg (32 : Int32).toNatClampNeg) 21 5)) 21 6)) 45 none) (fun o8 m9 => o8 = none ∧ (C m_Rows_become [.ref 53, .ref 29] m9 (fun o10 m11 => o10 = none ∧ (C m_Rows_become [.ref 55, .ref 31] m11 (fun o12 m13 => o12 = none ∧ (Q none m13)))))))))))) :
    zRun C 3 none zc_Hedge_become Q 0 [.ref 45, .ref 21] [] m := zgo [] hC zs_Hedge_become (i := .aload_n 0) (r := zfind zc_Hedge_become 1) rfl h
theorem en_Hedge_become_45 (dd : Nat) {Q : zQ} (m : zM) (h : zRun (zCall dd) 3 none zc_Hedge_become Q 0 [.ref 45, .ref 21] [] m) : zCall (dd + 1) m_Hedge_become [.ref 45, .ref 21] m Q := ⟨Nat.le_of_ble_eq_true rfl, h⟩
theorem zs_Hedge_add : zsrt zc_Hedge_add = true := by decide +kernel
set_option maxRecDepth 100000 in
theorem sg_Hedge_add_0 {C : zC} {Q : zQ} (hC : zCm C) (a : Int32) (b : Int32) (m : zM) (h :
    if (gI m 21 0) < (8 : Int32) then vp_in (gI m 21 0) 8 ∧ (vp_in (gI m 21 0) 8 ∧ (Q (some (.int (gI m 21 0))) (sI (sI (sI m 22 (gI m 21 0).toNatClampNeg a) 23 (gI m 21 0).toNatClampNeg b) 21 0 ((gI (sI (sI m 22 (gI m 21 0).toNatClampNeg a) 23 (gI m 21 0).toNatClampNeg b) 21 0) + (1 : Int32)))))
    else Q (some (.int (-4 : Int32))) m) :
    zRun C 3 (some .int) zc_Hedge_add Q 0 [.ref 21, .int a, .int b, .retAddr 0] [] m := zgo [] hC zs_Hedge_add (i := .aload_n 0) (r := zfind zc_Hedge_add 1) rfl h
theorem en_Hedge_add (dd : Nat) {Q : zQ} (a : Int32) (b : Int32) (m : zM) (h : zRun (zCall dd) 3 (some .int) zc_Hedge_add Q 0 [.ref 21, .int a, .int b, .retAddr 0] [] m) : zCall (dd + 1) m_Hedge_add [.ref 21, .int a, .int b] m Q := ⟨Nat.le_of_ble_eq_true rfl, h⟩
theorem zs_Hedge_has : zsrt zc_Hedge_has = true := by decide +kernel
set_option maxRecDepth 100000 in
theorem sg_Hedge_has_0 {C : zC} {Q : zQ} (hC : zCm C) (a : Int32) (m : zM) (h :
    if a < (0 : Int32) then (0 : Int32) &&& 1 = (0 : Int32) ∧ Q (some (.int (0 : Int32))) m
    else if (gI m 21 0) ≤ a then (0 : Int32) &&& 1 = (0 : Int32) ∧ Q (some (.int (0 : Int32))) m
      else (1 : Int32) &&& 1 = (1 : Int32) ∧ Q (some (.int (1 : Int32))) m) :
    zRun C 3 (some .boolean) zc_Hedge_has Q 0 [.ref 21, .int a] [] m := zgo [] hC zs_Hedge_has (i := .iload_n 1) (r := zfind zc_Hedge_has 1) rfl h
theorem en_Hedge_has (dd : Nat) {Q : zQ} (a : Int32) (m : zM) (h : zRun (zCall dd) 3 (some .boolean) zc_Hedge_has Q 0 [.ref 21, .int a] [] m) : zCall (dd + 1) m_Hedge_has [.ref 21, .int a] m Q := ⟨Nat.le_of_ble_eq_true rfl, h⟩
theorem zs_Hedge_isDead : zsrt zc_Hedge_isDead = true := by decide +kernel
set_option maxRecDepth 100000 in
theorem sg_Hedge_isDead_21_0 {C : zC} {Q : zQ} (hC : zCm C) (a : Int32) (m : zM) (h :
    C m_Box_holds [.int (gI m 21 5), .int a] m (fun o1 m2 => ∃ x3, o1 = some (.int x3) ∧ (x3 &&& 1 = x3 ∧ Q (some (.int x3)) m2))) :
    zRun C 3 (some .boolean) zc_Hedge_isDead Q 0 [.ref 21, .int a] [] m := zgo [] hC zs_Hedge_isDead (i := .aload_n 0) (r := zfind zc_Hedge_isDead 1) rfl h
theorem en_Hedge_isDead_21 (dd : Nat) {Q : zQ} (a : Int32) (m : zM) (h : zRun (zCall dd) 3 (some .boolean) zc_Hedge_isDead Q 0 [.ref 21, .int a] [] m) : zCall (dd + 1) m_Hedge_isDead [.ref 21, .int a] m Q := ⟨Nat.le_of_ble_eq_true rfl, h⟩
set_option maxRecDepth 100000 in
theorem sg_Hedge_isDead_45_0 {C : zC} {Q : zQ} (hC : zCm C) (a : Int32) (m : zM) (h :
    C m_Box_holds [.int (gI m 45 5), .int a] m (fun o1 m2 => ∃ x3, o1 = some (.int x3) ∧ (x3 &&& 1 = x3 ∧ Q (some (.int x3)) m2))) :
    zRun C 3 (some .boolean) zc_Hedge_isDead Q 0 [.ref 45, .int a] [] m := zgo [] hC zs_Hedge_isDead (i := .aload_n 0) (r := zfind zc_Hedge_isDead 1) rfl h
theorem en_Hedge_isDead_45 (dd : Nat) {Q : zQ} (a : Int32) (m : zM) (h : zRun (zCall dd) 3 (some .boolean) zc_Hedge_isDead Q 0 [.ref 45, .int a] [] m) : zCall (dd + 1) m_Hedge_isDead [.ref 45, .int a] m Q := ⟨Nat.le_of_ble_eq_true rfl, h⟩
theorem zs_Hedge_frost : zsrt zc_Hedge_frost = true := by decide +kernel
set_option maxRecDepth 100000 in
theorem sg_Hedge_frost_21_0 {C : zC} {Q : zQ} (hC : zCm C) (m : zM) (h :
    (∀ q1, gG m 21 = some q1 → ¬ q1 = 18 ∧ ((∀ q2, gG m 21 = some q2 → bif Nat.beq (zsh (q2)) 1 then (if (0 : Int32) ≤ (gI m q2 0) then (∀ q3, gG m 21 = some q3 → bif Nat.beq (zsh (q3)) 1 then (Q (some (.int (gI m q3 0))) m) else False) ∧
          (gG m 21 = none → False)
        else Q (some (.int (20 : Int32))) m) else False) ∧
      (gG m 21 = none → False))) ∧
    (gG m 21 = none → Q (some (.int (20 : Int32))) m)) :
    zRun C 3 (some .int) zc_Hedge_frost Q 0 [.ref 21] [] m := zgo [] hC zs_Hedge_frost (i := .aload_n 0) (r := zfind zc_Hedge_frost 1) rfl h
theorem en_Hedge_frost_21 (dd : Nat) {Q : zQ} (m : zM) (h : zRun (zCall dd) 3 (some .int) zc_Hedge_frost Q 0 [.ref 21] [] m) : zCall (dd + 1) m_Hedge_frost [.ref 21] m Q := ⟨Nat.le_of_ble_eq_true rfl, h⟩
set_option maxRecDepth 100000 in
theorem sg_Hedge_frost_45_0 {C : zC} {Q : zQ} (hC : zCm C) (m : zM) (h :
    (∀ q1, gG m 45 = some q1 → ¬ q1 = 18 ∧ ((∀ q2, gG m 45 = some q2 → bif Nat.beq (zsh (q2)) 1 then (if (0 : Int32) ≤ (gI m q2 0) then (∀ q3, gG m 45 = some q3 → bif Nat.beq (zsh (q3)) 1 then (Q (some (.int (gI m q3 0))) m) else False) ∧
          (gG m 45 = none → False)
        else Q (some (.int (20 : Int32))) m) else False) ∧
      (gG m 45 = none → False))) ∧
    (gG m 45 = none → Q (some (.int (20 : Int32))) m)) :
    zRun C 3 (some .int) zc_Hedge_frost Q 0 [.ref 45] [] m := zgo [] hC zs_Hedge_frost (i := .aload_n 0) (r := zfind zc_Hedge_frost 1) rfl h
theorem en_Hedge_frost_45 (dd : Nat) {Q : zQ} (m : zM) (h : zRun (zCall dd) 3 (some .int) zc_Hedge_frost Q 0 [.ref 45] [] m) : zCall (dd + 1) m_Hedge_frost [.ref 45] m Q := ⟨Nat.le_of_ble_eq_true rfl, h⟩
theorem zs_Hedge_lose : zsrt zc_Hedge_lose = true := by decide +kernel
set_option maxRecDepth 100000 in
theorem sg_Hedge_lose_21_0 {C : zC} {Q : zQ} (hC : zCm C) (m : zM) (h :
    (∀ q1, gG m 21 = some q1 → ¬ q1 = 18 ∧ ((∀ q2, gG m 21 = some q2 → bif Nat.beq (zsh (q2)) 1 then (if (0 : Int32) ≤ (gI m q2 1) then (∀ q3, gG m 21 = some q3 → bif Nat.beq (zsh (q3)) 1 then (Q (some (.int (if (1 : Int32) < (gI m q3 1) then (gI m q3 1) else (1 : Int32)))) m) else False) ∧
          (gG m 21 = none → False)
        else Q (some (.int (2 : Int32))) m) else False) ∧
      (gG m 21 = none → False))) ∧
    (gG m 21 = none → Q (some (.int (2 : Int32))) m)) :
    zRun C 3 (some .int) zc_Hedge_lose Q 0 [.ref 21] [] m := zgo [] hC zs_Hedge_lose (i := .aload_n 0) (r := zfind zc_Hedge_lose 1) rfl h
theorem en_Hedge_lose_21 (dd : Nat) {Q : zQ} (m : zM) (h : zRun (zCall dd) 3 (some .int) zc_Hedge_lose Q 0 [.ref 21] [] m) : zCall (dd + 1) m_Hedge_lose [.ref 21] m Q := ⟨Nat.le_of_ble_eq_true rfl, h⟩
set_option maxRecDepth 100000 in
theorem sg_Hedge_lose_45_0 {C : zC} {Q : zQ} (hC : zCm C) (m : zM) (h :
    (∀ q1, gG m 45 = some q1 → ¬ q1 = 18 ∧ ((∀ q2, gG m 45 = some q2 → bif Nat.beq (zsh (q2)) 1 then (if (0 : Int32) ≤ (gI m q2 1) then (∀ q3, gG m 45 = some q3 → bif Nat.beq (zsh (q3)) 1 then (Q (some (.int (if (1 : Int32) < (gI m q3 1) then (gI m q3 1) else (1 : Int32)))) m) else False) ∧
          (gG m 45 = none → False)
        else Q (some (.int (2 : Int32))) m) else False) ∧
      (gG m 45 = none → False))) ∧
    (gG m 45 = none → Q (some (.int (2 : Int32))) m)) :
    zRun C 3 (some .int) zc_Hedge_lose Q 0 [.ref 45] [] m := zgo [] hC zs_Hedge_lose (i := .aload_n 0) (r := zfind zc_Hedge_lose 1) rfl h
theorem en_Hedge_lose_45 (dd : Nat) {Q : zQ} (m : zM) (h : zRun (zCall dd) 3 (some .int) zc_Hedge_lose Q 0 [.ref 45] [] m) : zCall (dd + 1) m_Hedge_lose [.ref 45] m Q := ⟨Nat.le_of_ble_eq_true rfl, h⟩
theorem zs_Hedge_paceOf : zsrt zc_Hedge_paceOf = true := by decide +kernel
set_option maxRecDepth 100000 in
theorem sg_Hedge_paceOf_21_0 {C : zC} {Q : zQ} (hC : zCm C) (a : Int32) (m : zM) (h :
    (∀ q1, gG m 21 = some q1 → ¬ q1 = 18 ∧ (vp_in (0 : Int32) 6 ∧ (vp_in a 8 ∧ (vp_in (1 : Int32) 6 ∧ (vp_in a 8 ∧ (vp_in (2 : Int32) 6 ∧ (vp_in a 8 ∧ (C m_Int_bitCount [.int (gI (sI (sI (sI m 26 (0 : Int32).toNatClampNeg a) 26 (1 : Int32).toNatClampNeg (gI (sI m 26 (0 : Int32).toNatClampNeg a) 22 a.toNatClampNeg)) 26 (2 : Int32).toNatClampNeg (gI (sI (sI m 26 (0 : Int32).toNatClampNeg a) 26 (1 : Int32).toNatClampNeg (gI (sI m 26 (0 : Int32).toNatClampNeg a) 22 a.toNatClampNeg)) 23 a.toNatClampNeg)) 24 a.toNatClampNeg)] (sI (sI (sI m 26 (0 : Int32).toNatClampNeg a) 26 (1 : Int32).toNatClampNeg (gI (sI m 26 (0 : Int32).toNatClampNeg a) 22 a.toNatClampNeg)) 26 (2 : Int32).toNatClampNeg (gI (sI (sI m 26 (0 : Int32).toNatClampNeg a) 26 (1 : Int32).toNatClampNeg (gI (sI m 26 (0 : Int32).toNatClampNeg a) 22 a.toNatClampNeg)) 23 a.toNatClampNeg)) (fun o2 m3 => ∃ x4, o2 = some (.int x4) ∧ (vp_in (3 : Int32) 6 ∧ (¬ (24 : Int32) = 0 ∧ (vp_in (4 : Int32) 6 ∧ (¬ (24 : Int32) = 0 ∧ (vp_in (5 : Int32) 6 ∧ ((∀ q5, gG (sI (sI (sI m3 26 (3 : Int32).toNatClampNeg x4) 26 (4 : Int32).toNatClampNeg ((gI (sI m3 26 (3 : Int32).toNatClampNeg x4) 21 6) - (gI (sI m3 26 (3 : Int32).toNatClampNeg x4) 21 6) / (24 : Int32) * (24 : Int32))) 26 (5 : Int32).toNatClampNeg (if ((gI (sI (sI m3 26 (3 : Int32).toNatClampNeg x4) 26 (4 : Int32).toNatClampNeg ((gI (sI m3 26 (3 : Int32).toNatClampNeg x4) 21 6) - (gI (sI m3 26 (3 : Int32).toNatClampNeg x4) 21 6) / (24 : Int32) * (24 : Int32))) 21 6) / (24 : Int32)) < (99 : Int32) then ((gI (sI (sI m3 26 (3 : Int32).toNatClampNeg x4) 26 (4 : Int32).toNatClampNeg ((gI (sI m3 26 (3 : Int32).toNatClampNeg x4) 21 6) - (gI (sI m3 26 (3 : Int32).toNatClampNeg x4) 21 6) / (24 : Int32) * (24 : Int32))) 21 6) / (24 : Int32)) else (99 : Int32))) 21 = some q5 → bif zrc 9 [.ref q5, .ref 26] && (true && true) then (C m_Garden_slowness [.ref q5, .ref 26] (sI (sI (sI m3 26 (3 : Int32).toNatClampNeg x4) 26 (4 : Int32).toNatClampNeg ((gI (sI m3 26 (3 : Int32).toNatClampNeg x4) 21 6) - (gI (sI m3 26 (3 : Int32).toNatClampNeg x4) 21 6) / (24 : Int32) * (24 : Int32))) 26 (5 : Int32).toNatClampNeg (if ((gI (sI (sI m3 26 (3 : Int32).toNatClampNeg x4) 26 (4 : Int32).toNatClampNeg ((gI (sI m3 26 (3 : Int32).toNatClampNeg x4) 21 6) - (gI (sI m3 26 (3 : Int32).toNatClampNeg x4) 21 6) / (24 : Int32) * (24 : Int32))) 21 6) / (24 : Int32)) < (99 : Int32) then ((gI (sI (sI m3 26 (3 : Int32).toNatClampNeg x4) 26 (4 : Int32).toNatClampNeg ((gI (sI m3 26 (3 : Int32).toNatClampNeg x4) 21 6) - (gI (sI m3 26 (3 : Int32).toNatClampNeg x4) 21 6) / (24 : Int32) * (24 : Int32))) 21 6) / (24 : Int32)) else (99 : Int32))) (fun o6 m7 => ∃ x8, o6 = some (.int x8) ∧ (Q (some (.int (if (1 : Int32) < ((3 : Int32) + x8) then ((3 : Int32) + x8) else (1 : Int32)))) m7))) else False) ∧
      (gG (sI (sI (sI m3 26 (3 : Int32).toNatClampNeg x4) 26 (4 : Int32).toNatClampNeg ((gI (sI m3 26 (3 : Int32).toNatClampNeg x4) 21 6) - (gI (sI m3 26 (3 : Int32).toNatClampNeg x4) 21 6) / (24 : Int32) * (24 : Int32))) 26 (5 : Int32).toNatClampNeg (if ((gI (sI (sI m3 26 (3 : Int32).toNatClampNeg x4) 26 (4 : Int32).toNatClampNeg ((gI (sI m3 26 (3 : Int32).toNatClampNeg x4) 21 6) - (gI (sI m3 26 (3 : Int32).toNatClampNeg x4) 21 6) / (24 : Int32) * (24 : Int32))) 21 6) / (24 : Int32)) < (99 : Int32) then ((gI (sI (sI m3 26 (3 : Int32).toNatClampNeg x4) 26 (4 : Int32).toNatClampNeg ((gI (sI m3 26 (3 : Int32).toNatClampNeg x4) 21 6) - (gI (sI m3 26 (3 : Int32).toNatClampNeg x4) 21 6) / (24 : Int32) * (24 : Int32))) 21 6) / (24 : Int32)) else (99 : Int32))) 21 = none → bif zrc 9 [.null, .ref 26] && (true && true) then (C m_Garden_slowness [.null, .ref 26] (sI (sI (sI m3 26 (3 : Int32).toNatClampNeg x4) 26 (4 : Int32).toNatClampNeg ((gI (sI m3 26 (3 : Int32).toNatClampNeg x4) 21 6) - (gI (sI m3 26 (3 : Int32).toNatClampNeg x4) 21 6) / (24 : Int32) * (24 : Int32))) 26 (5 : Int32).toNatClampNeg (if ((gI (sI (sI m3 26 (3 : Int32).toNatClampNeg x4) 26 (4 : Int32).toNatClampNeg ((gI (sI m3 26 (3 : Int32).toNatClampNeg x4) 21 6) - (gI (sI m3 26 (3 : Int32).toNatClampNeg x4) 21 6) / (24 : Int32) * (24 : Int32))) 21 6) / (24 : Int32)) < (99 : Int32) then ((gI (sI (sI m3 26 (3 : Int32).toNatClampNeg x4) 26 (4 : Int32).toNatClampNeg ((gI (sI m3 26 (3 : Int32).toNatClampNeg x4) 21 6) - (gI (sI m3 26 (3 : Int32).toNatClampNeg x4) 21 6) / (24 : Int32) * (24 : Int32))) 21 6) / (24 : Int32)) else (99 : Int32))) (fun o9 m10 => ∃ x11, o9 = some (.int x11) ∧ (Q (some (.int (if (1 : Int32) < ((3 : Int32) + x11) then ((3 : Int32) + x11) else (1 : Int32)))) m10))) else False)))))))))))))))) ∧
    (gG m 21 = none → Q (some (.int (3 : Int32))) m)) :
    zRun C 3 (some .int) zc_Hedge_paceOf Q 0 [.ref 21, .int a] [] m := zgo [] hC zs_Hedge_paceOf (i := .aload_n 0) (r := zfind zc_Hedge_paceOf 1) rfl h
theorem en_Hedge_paceOf_21 (dd : Nat) {Q : zQ} (a : Int32) (m : zM) (h : zRun (zCall dd) 3 (some .int) zc_Hedge_paceOf Q 0 [.ref 21, .int a] [] m) : zCall (dd + 1) m_Hedge_paceOf [.ref 21, .int a] m Q := ⟨Nat.le_of_ble_eq_true rfl, h⟩
set_option maxRecDepth 100000 in
theorem sg_Hedge_paceOf_45_0 {C : zC} {Q : zQ} (hC : zCm C) (a : Int32) (m : zM) (h :
    (∀ q1, gG m 45 = some q1 → ¬ q1 = 18 ∧ (vp_in (0 : Int32) 6 ∧ (vp_in a 8 ∧ (vp_in (1 : Int32) 6 ∧ (vp_in a 8 ∧ (vp_in (2 : Int32) 6 ∧ (vp_in a 8 ∧ (C m_Int_bitCount [.int (gI (sI (sI (sI m 50 (0 : Int32).toNatClampNeg a) 50 (1 : Int32).toNatClampNeg (gI (sI m 50 (0 : Int32).toNatClampNeg a) 46 a.toNatClampNeg)) 50 (2 : Int32).toNatClampNeg (gI (sI (sI m 50 (0 : Int32).toNatClampNeg a) 50 (1 : Int32).toNatClampNeg (gI (sI m 50 (0 : Int32).toNatClampNeg a) 46 a.toNatClampNeg)) 47 a.toNatClampNeg)) 48 a.toNatClampNeg)] (sI (sI (sI m 50 (0 : Int32).toNatClampNeg a) 50 (1 : Int32).toNatClampNeg (gI (sI m 50 (0 : Int32).toNatClampNeg a) 46 a.toNatClampNeg)) 50 (2 : Int32).toNatClampNeg (gI (sI (sI m 50 (0 : Int32).toNatClampNeg a) 50 (1 : Int32).toNatClampNeg (gI (sI m 50 (0 : Int32).toNatClampNeg a) 46 a.toNatClampNeg)) 47 a.toNatClampNeg)) (fun o2 m3 => ∃ x4, o2 = some (.int x4) ∧ (vp_in (3 : Int32) 6 ∧ (¬ (24 : Int32) = 0 ∧ (vp_in (4 : Int32) 6 ∧ (¬ (24 : Int32) = 0 ∧ (vp_in (5 : Int32) 6 ∧ ((∀ q5, gG (sI (sI (sI m3 50 (3 : Int32).toNatClampNeg x4) 50 (4 : Int32).toNatClampNeg ((gI (sI m3 50 (3 : Int32).toNatClampNeg x4) 45 6) - (gI (sI m3 50 (3 : Int32).toNatClampNeg x4) 45 6) / (24 : Int32) * (24 : Int32))) 50 (5 : Int32).toNatClampNeg (if ((gI (sI (sI m3 50 (3 : Int32).toNatClampNeg x4) 50 (4 : Int32).toNatClampNeg ((gI (sI m3 50 (3 : Int32).toNatClampNeg x4) 45 6) - (gI (sI m3 50 (3 : Int32).toNatClampNeg x4) 45 6) / (24 : Int32) * (24 : Int32))) 45 6) / (24 : Int32)) < (99 : Int32) then ((gI (sI (sI m3 50 (3 : Int32).toNatClampNeg x4) 50 (4 : Int32).toNatClampNeg ((gI (sI m3 50 (3 : Int32).toNatClampNeg x4) 45 6) - (gI (sI m3 50 (3 : Int32).toNatClampNeg x4) 45 6) / (24 : Int32) * (24 : Int32))) 45 6) / (24 : Int32)) else (99 : Int32))) 45 = some q5 → bif zrc 9 [.ref q5, .ref 50] && (true && true) then (C m_Garden_slowness [.ref q5, .ref 50] (sI (sI (sI m3 50 (3 : Int32).toNatClampNeg x4) 50 (4 : Int32).toNatClampNeg ((gI (sI m3 50 (3 : Int32).toNatClampNeg x4) 45 6) - (gI (sI m3 50 (3 : Int32).toNatClampNeg x4) 45 6) / (24 : Int32) * (24 : Int32))) 50 (5 : Int32).toNatClampNeg (if ((gI (sI (sI m3 50 (3 : Int32).toNatClampNeg x4) 50 (4 : Int32).toNatClampNeg ((gI (sI m3 50 (3 : Int32).toNatClampNeg x4) 45 6) - (gI (sI m3 50 (3 : Int32).toNatClampNeg x4) 45 6) / (24 : Int32) * (24 : Int32))) 45 6) / (24 : Int32)) < (99 : Int32) then ((gI (sI (sI m3 50 (3 : Int32).toNatClampNeg x4) 50 (4 : Int32).toNatClampNeg ((gI (sI m3 50 (3 : Int32).toNatClampNeg x4) 45 6) - (gI (sI m3 50 (3 : Int32).toNatClampNeg x4) 45 6) / (24 : Int32) * (24 : Int32))) 45 6) / (24 : Int32)) else (99 : Int32))) (fun o6 m7 => ∃ x8, o6 = some (.int x8) ∧ (Q (some (.int (if (1 : Int32) < ((3 : Int32) + x8) then ((3 : Int32) + x8) else (1 : Int32)))) m7))) else False) ∧
      (gG (sI (sI (sI m3 50 (3 : Int32).toNatClampNeg x4) 50 (4 : Int32).toNatClampNeg ((gI (sI m3 50 (3 : Int32).toNatClampNeg x4) 45 6) - (gI (sI m3 50 (3 : Int32).toNatClampNeg x4) 45 6) / (24 : Int32) * (24 : Int32))) 50 (5 : Int32).toNatClampNeg (if ((gI (sI (sI m3 50 (3 : Int32).toNatClampNeg x4) 50 (4 : Int32).toNatClampNeg ((gI (sI m3 50 (3 : Int32).toNatClampNeg x4) 45 6) - (gI (sI m3 50 (3 : Int32).toNatClampNeg x4) 45 6) / (24 : Int32) * (24 : Int32))) 45 6) / (24 : Int32)) < (99 : Int32) then ((gI (sI (sI m3 50 (3 : Int32).toNatClampNeg x4) 50 (4 : Int32).toNatClampNeg ((gI (sI m3 50 (3 : Int32).toNatClampNeg x4) 45 6) - (gI (sI m3 50 (3 : Int32).toNatClampNeg x4) 45 6) / (24 : Int32) * (24 : Int32))) 45 6) / (24 : Int32)) else (99 : Int32))) 45 = none → bif zrc 9 [.null, .ref 50] && (true && true) then (C m_Garden_slowness [.null, .ref 50] (sI (sI (sI m3 50 (3 : Int32).toNatClampNeg x4) 50 (4 : Int32).toNatClampNeg ((gI (sI m3 50 (3 : Int32).toNatClampNeg x4) 45 6) - (gI (sI m3 50 (3 : Int32).toNatClampNeg x4) 45 6) / (24 : Int32) * (24 : Int32))) 50 (5 : Int32).toNatClampNeg (if ((gI (sI (sI m3 50 (3 : Int32).toNatClampNeg x4) 50 (4 : Int32).toNatClampNeg ((gI (sI m3 50 (3 : Int32).toNatClampNeg x4) 45 6) - (gI (sI m3 50 (3 : Int32).toNatClampNeg x4) 45 6) / (24 : Int32) * (24 : Int32))) 45 6) / (24 : Int32)) < (99 : Int32) then ((gI (sI (sI m3 50 (3 : Int32).toNatClampNeg x4) 50 (4 : Int32).toNatClampNeg ((gI (sI m3 50 (3 : Int32).toNatClampNeg x4) 45 6) - (gI (sI m3 50 (3 : Int32).toNatClampNeg x4) 45 6) / (24 : Int32) * (24 : Int32))) 45 6) / (24 : Int32)) else (99 : Int32))) (fun o9 m10 => ∃ x11, o9 = some (.int x11) ∧ (Q (some (.int (if (1 : Int32) < ((3 : Int32) + x11) then ((3 : Int32) + x11) else (1 : Int32)))) m10))) else False)))))))))))))))) ∧
    (gG m 45 = none → Q (some (.int (3 : Int32))) m)) :
    zRun C 3 (some .int) zc_Hedge_paceOf Q 0 [.ref 45, .int a] [] m := zgo [] hC zs_Hedge_paceOf (i := .aload_n 0) (r := zfind zc_Hedge_paceOf 1) rfl h
theorem en_Hedge_paceOf_45 (dd : Nat) {Q : zQ} (a : Int32) (m : zM) (h : zRun (zCall dd) 3 (some .int) zc_Hedge_paceOf Q 0 [.ref 45, .int a] [] m) : zCall (dd + 1) m_Hedge_paceOf [.ref 45, .int a] m Q := ⟨Nat.le_of_ble_eq_true rfl, h⟩
theorem zs_Hedge_takesOf : zsrt zc_Hedge_takesOf = true := by decide +kernel
set_option maxRecDepth 100000 in
theorem sg_Hedge_takesOf_21_0 {C : zC} {Q : zQ} (hC : zCm C) (a : Int32) (m : zM) (h :
    C m_Hedge_paceOf [.ref 21, .int a] m (fun o1 m2 => ∃ x3, o1 = some (.int x3) ∧ (vp_in a 8 ∧ (if (gI m2 22 a.toNatClampNeg) = (2 : Int32) then Q (some (.int ((2 : Int32) * x3))) m2
    else if (gI m2 22 a.toNatClampNeg) = (3 : Int32) then Q (some (.int x3)) m2
    else if (gI m2 22 a.toNatClampNeg) = (4 : Int32) then Q (some (.int (if (1 : Int32) < (x3 - (1 : Int32)) then (x3 - (1 : Int32)) else (1 : Int32)))) m2
    else if (gI m2 22 a.toNatClampNeg) = (5 : Int32) then ¬ (24 : Int32) = 0 ∧ (if (6 : Int32) ≤ ((gI m2 21 6) - (gI m2 21 6) / (24 : Int32) * (24 : Int32)) then Q (some (.int (((2 : Int32) * x3) + (0 : Int32)))) m2
      else C m_Hedge_frost [.ref 21] m2 (fun o4 m5 => ∃ x6, o4 = some (.int x6) ∧ (Q (some (.int (((2 : Int32) * x3) + x6))) m5)))
    else if (gI m2 22 a.toNatClampNeg) = (6 : Int32) then ¬ (4 : Int32) = 0 ∧ (vp_in ((a * (4 : Int32)) + ((gI m2 21 6) - (gI m2 21 6) / (4 : Int32) * (4 : Int32))) 32 ∧ (Q (some (.int (x3 + (gI m2 25 ((a * (4 : Int32)) + ((gI m2 21 6) - (gI m2 21 6) / (4 : Int32) * (4 : Int32))).toNatClampNeg)))) m2))
    else Q (some (.int x3)) m2)))) :
    zRun C 3 (some .int) zc_Hedge_takesOf Q 0 [.ref 21, .int a, .retAddr 0] [] m := zgo [] hC zs_Hedge_takesOf (i := .aload_n 0) (r := zfind zc_Hedge_takesOf 1) rfl h
theorem en_Hedge_takesOf_21 (dd : Nat) {Q : zQ} (a : Int32) (m : zM) (h : zRun (zCall dd) 3 (some .int) zc_Hedge_takesOf Q 0 [.ref 21, .int a, .retAddr 0] [] m) : zCall (dd + 1) m_Hedge_takesOf [.ref 21, .int a] m Q := ⟨Nat.le_of_ble_eq_true rfl, h⟩
set_option maxRecDepth 100000 in
theorem sg_Hedge_takesOf_45_0 {C : zC} {Q : zQ} (hC : zCm C) (a : Int32) (m : zM) (h :
    C m_Hedge_paceOf [.ref 45, .int a] m (fun o1 m2 => ∃ x3, o1 = some (.int x3) ∧ (vp_in a 8 ∧ (if (gI m2 46 a.toNatClampNeg) = (2 : Int32) then Q (some (.int ((2 : Int32) * x3))) m2
    else if (gI m2 46 a.toNatClampNeg) = (3 : Int32) then Q (some (.int x3)) m2
    else if (gI m2 46 a.toNatClampNeg) = (4 : Int32) then Q (some (.int (if (1 : Int32) < (x3 - (1 : Int32)) then (x3 - (1 : Int32)) else (1 : Int32)))) m2
    else if (gI m2 46 a.toNatClampNeg) = (5 : Int32) then ¬ (24 : Int32) = 0 ∧ (if (6 : Int32) ≤ ((gI m2 45 6) - (gI m2 45 6) / (24 : Int32) * (24 : Int32)) then Q (some (.int (((2 : Int32) * x3) + (0 : Int32)))) m2
      else C m_Hedge_frost [.ref 45] m2 (fun o4 m5 => ∃ x6, o4 = some (.int x6) ∧ (Q (some (.int (((2 : Int32) * x3) + x6))) m5)))
    else if (gI m2 46 a.toNatClampNeg) = (6 : Int32) then ¬ (4 : Int32) = 0 ∧ (vp_in ((a * (4 : Int32)) + ((gI m2 45 6) - (gI m2 45 6) / (4 : Int32) * (4 : Int32))) 32 ∧ (Q (some (.int (x3 + (gI m2 49 ((a * (4 : Int32)) + ((gI m2 45 6) - (gI m2 45 6) / (4 : Int32) * (4 : Int32))).toNatClampNeg)))) m2))
    else Q (some (.int x3)) m2)))) :
    zRun C 3 (some .int) zc_Hedge_takesOf Q 0 [.ref 45, .int a, .retAddr 0] [] m := zgo [] hC zs_Hedge_takesOf (i := .aload_n 0) (r := zfind zc_Hedge_takesOf 1) rfl h
theorem en_Hedge_takesOf_45 (dd : Nat) {Q : zQ} (a : Int32) (m : zM) (h : zRun (zCall dd) 3 (some .int) zc_Hedge_takesOf Q 0 [.ref 45, .int a, .retAddr 0] [] m) : zCall (dd + 1) m_Hedge_takesOf [.ref 45, .int a] m Q := ⟨Nat.le_of_ble_eq_true rfl, h⟩
theorem zs_Hedge_passedOn : zsrt zc_Hedge_passedOn = true := by decide +kernel
set_option maxRecDepth 100000 in
theorem sg_Hedge_passedOn_21_0 {C : zC} {Q : zQ} (hC : zCm C) (a : Int32) (b : Int32) (m : zM) (h :
    vp_in a 8 ∧ (vp_in a 8 ∧ (if (gI m 22 a.toNatClampNeg) = (1 : Int32) then ¬ (10000 : Int32) = 0 ∧ (Q (some (.int ((b + (gI m 23 a.toNatClampNeg)) - (b + (gI m 23 a.toNatClampNeg)) / (10000 : Int32) * (10000 : Int32)))) m)
    else if (gI m 22 a.toNatClampNeg) = (2 : Int32) then Q (some (.int b)) m
    else if (gI m 22 a.toNatClampNeg) = (3 : Int32) then C m_Hedge_clipped [.ref 21, .int b] m (fun o4 m5 => ∃ x6, o4 = some (.int x6) ∧ (Q (some (.int x6)) m5))
    else if (gI m 22 a.toNatClampNeg) = (4 : Int32) then ¬ (10000 : Int32) = 0 ∧ (Q (some (.int (((2 : Int32) * (b + (gI m 23 a.toNatClampNeg))) - ((2 : Int32) * (b + (gI m 23 a.toNatClampNeg))) / (10000 : Int32) * (10000 : Int32)))) m)
    else if (gI m 22 a.toNatClampNeg) = (5 : Int32) then Q (some (.int b)) m
    else if (gI m 22 a.toNatClampNeg) = (6 : Int32) then C m_Hedge_clipped [.ref 21, .int b] m (fun o1 m2 => ∃ x3, o1 = some (.int x3) ∧ (¬ (10000 : Int32) = 0 ∧ (Q (some (.int ((x3 + (gI m 23 a.toNatClampNeg)) - (x3 + (gI m 23 a.toNatClampNeg)) / (10000 : Int32) * (10000 : Int32)))) m2)))
    else Q (some (.int b)) m))) :
    zRun C 3 (some .int) zc_Hedge_passedOn Q 0 [.ref 21, .int a, .int b, .retAddr 0] [] m := zgo [] hC zs_Hedge_passedOn (i := .aload_n 0) (r := zfind zc_Hedge_passedOn 1) rfl h
theorem en_Hedge_passedOn_21 (dd : Nat) {Q : zQ} (a : Int32) (b : Int32) (m : zM) (h : zRun (zCall dd) 3 (some .int) zc_Hedge_passedOn Q 0 [.ref 21, .int a, .int b, .retAddr 0] [] m) : zCall (dd + 1) m_Hedge_passedOn [.ref 21, .int a, .int b] m Q := ⟨Nat.le_of_ble_eq_true rfl, h⟩
set_option maxRecDepth 100000 in
theorem sg_Hedge_passedOn_45_0 {C : zC} {Q : zQ} (hC : zCm C) (a : Int32) (b : Int32) (m : zM) (h :
    vp_in a 8 ∧ (vp_in a 8 ∧ (if (gI m 46 a.toNatClampNeg) = (1 : Int32) then ¬ (10000 : Int32) = 0 ∧ (Q (some (.int ((b + (gI m 47 a.toNatClampNeg)) - (b + (gI m 47 a.toNatClampNeg)) / (10000 : Int32) * (10000 : Int32)))) m)
    else if (gI m 46 a.toNatClampNeg) = (2 : Int32) then Q (some (.int b)) m
    else if (gI m 46 a.toNatClampNeg) = (3 : Int32) then C m_Hedge_clipped [.ref 45, .int b] m (fun o4 m5 => ∃ x6, o4 = some (.int x6) ∧ (Q (some (.int x6)) m5))
    else if (gI m 46 a.toNatClampNeg) = (4 : Int32) then ¬ (10000 : Int32) = 0 ∧ (Q (some (.int (((2 : Int32) * (b + (gI m 47 a.toNatClampNeg))) - ((2 : Int32) * (b + (gI m 47 a.toNatClampNeg))) / (10000 : Int32) * (10000 : Int32)))) m)
    else if (gI m 46 a.toNatClampNeg) = (5 : Int32) then Q (some (.int b)) m
    else if (gI m 46 a.toNatClampNeg) = (6 : Int32) then C m_Hedge_clipped [.ref 45, .int b] m (fun o1 m2 => ∃ x3, o1 = some (.int x3) ∧ (¬ (10000 : Int32) = 0 ∧ (Q (some (.int ((x3 + (gI m 47 a.toNatClampNeg)) - (x3 + (gI m 47 a.toNatClampNeg)) / (10000 : Int32) * (10000 : Int32)))) m2)))
    else Q (some (.int b)) m))) :
    zRun C 3 (some .int) zc_Hedge_passedOn Q 0 [.ref 45, .int a, .int b, .retAddr 0] [] m := zgo [] hC zs_Hedge_passedOn (i := .aload_n 0) (r := zfind zc_Hedge_passedOn 1) rfl h
theorem en_Hedge_passedOn_45 (dd : Nat) {Q : zQ} (a : Int32) (b : Int32) (m : zM) (h : zRun (zCall dd) 3 (some .int) zc_Hedge_passedOn Q 0 [.ref 45, .int a, .int b, .retAddr 0] [] m) : zCall (dd + 1) m_Hedge_passedOn [.ref 45, .int a, .int b] m Q := ⟨Nat.le_of_ble_eq_true rfl, h⟩
theorem zs_Hedge_clipped : zsrt zc_Hedge_clipped = true := by decide +kernel
set_option maxRecDepth 100000 in
theorem sg_Hedge_clipped_21_0 {C : zC} {Q : zQ} (hC : zCm C) (a : Int32) (m : zM) (h :
    C m_Hedge_lose [.ref 21] m (fun o1 m2 => ∃ x3, o1 = some (.int x3) ∧ (if (1 : Int32) ≤ x3 then ¬ x3 = 0 ∧ (Q (some (.int (a / x3))) m2)
    else Q (some (.int a)) m2))) :
    zRun C 3 (some .int) zc_Hedge_clipped Q 0 [.ref 21, .int a, .retAddr 0] [] m := zgo [] hC zs_Hedge_clipped (i := .aload_n 0) (r := zfind zc_Hedge_clipped 1) rfl h
theorem en_Hedge_clipped_21 (dd : Nat) {Q : zQ} (a : Int32) (m : zM) (h : zRun (zCall dd) 3 (some .int) zc_Hedge_clipped Q 0 [.ref 21, .int a, .retAddr 0] [] m) : zCall (dd + 1) m_Hedge_clipped [.ref 21, .int a] m Q := ⟨Nat.le_of_ble_eq_true rfl, h⟩
set_option maxRecDepth 100000 in
theorem sg_Hedge_clipped_45_0 {C : zC} {Q : zQ} (hC : zCm C) (a : Int32) (m : zM) (h :
    C m_Hedge_lose [.ref 45] m (fun o1 m2 => ∃ x3, o1 = some (.int x3) ∧ (if (1 : Int32) ≤ x3 then ¬ x3 = 0 ∧ (Q (some (.int (a / x3))) m2)
    else Q (some (.int a)) m2))) :
    zRun C 3 (some .int) zc_Hedge_clipped Q 0 [.ref 45, .int a, .retAddr 0] [] m := zgo [] hC zs_Hedge_clipped (i := .aload_n 0) (r := zfind zc_Hedge_clipped 1) rfl h
theorem en_Hedge_clipped_45 (dd : Nat) {Q : zQ} (a : Int32) (m : zM) (h : zRun (zCall dd) 3 (some .int) zc_Hedge_clipped Q 0 [.ref 45, .int a, .retAddr 0] [] m) : zCall (dd + 1) m_Hedge_clipped [.ref 45, .int a] m Q := ⟨Nat.le_of_ble_eq_true rfl, h⟩
theorem zs_Hedge_judged : zsrt zc_Hedge_judged = true := by decide +kernel
set_option maxRecDepth 100000 in
theorem sg_Hedge_judged_101_0 {C : zC} {Q : zQ} (hC : zCm C) (a : Int32) (m : zM) (h :
    zRun C 3 (some .int) zc_Hedge_judged Q 13 [.ref 21, .ref 101, .int a, .int ((gI m 21 0) * (gI m 21 0)), .int (0 : Int32), .retAddr 0, .retAddr 0] [] m) :
    zRun C 3 (some .int) zc_Hedge_judged Q 0 [.ref 21, .ref 101, .int a, .retAddr 0, .retAddr 0, .retAddr 0, .retAddr 0] [] m := zgo [13] hC zs_Hedge_judged (i := .aload_n 0) (r := zfind zc_Hedge_judged 1) rfl h
set_option maxRecDepth 100000 in
theorem sg_Hedge_judged_101_13 {C : zC} {Q : zQ} (hC : zCm C) (v2 : Int32) (v3 : Int32) (v4 : Int32) (m : zM) (h :
    if v3 ≤ v4 then Q (some (.int (-5 : Int32))) m
    else if v2 < (0 : Int32) then Q (some (.int ((100 : Int32) + v4))) m
      else if v2 < ((gI m 101 1) - v4) then ¬ (gI m 21 0) = 0 ∧ (¬ (gI m 21 0) = 0 ∧ (vp_in (v4 / (gI m 21 0)) 8 ∧ (C m_Box_holds [.int (gI m 24 (v4 / (gI m 21 0)).toNatClampNeg), .int (v4 - v4 / (gI m 21 0) * (gI m 21 0))] m (fun o1 m2 => ∃ x3, o1 = some (.int x3) ∧ (vp_in (v2 + v4) 60 ∧ (if (lg_cmp (gL m2 102 (v2 + v4).toNatClampNeg) (0 : Int64)) = (0 : Int32) then if x3 = (0 : Int32) then zRun C 3 (some .int) zc_Hedge_judged Q 13 [.ref 21, .ref 101, .int v2, .int v3, .int (v4 + (1 : Int32)), .int (v4 / (gI m 21 0)), .int (v4 - v4 / (gI m 21 0) * (gI m 21 0))] [] m2
            else Q (some (.int (((10 : Int32) * (v4 / (gI m 21 0))) + (v4 - v4 / (gI m 21 0) * (gI m 21 0))))) m2
          else if x3 = (1 : Int32) then zRun C 3 (some .int) zc_Hedge_judged Q 13 [.ref 21, .ref 101, .int v2, .int v3, .int (v4 + (1 : Int32)), .int (v4 / (gI m 21 0)), .int (v4 - v4 / (gI m 21 0) * (gI m 21 0))] [] m2
            else Q (some (.int (((10 : Int32) * (v4 / (gI m 21 0))) + (v4 - v4 / (gI m 21 0) * (gI m 21 0))))) m2))))))
        else Q (some (.int ((100 : Int32) + v4))) m) :
    zRun C 3 (some .int) zc_Hedge_judged Q 13 [.ref 21, .ref 101, .int v2, .int v3, .int v4, .retAddr 0, .retAddr 0] [] m := zgo [13] hC zs_Hedge_judged (i := .iload 4) (r := zfind zc_Hedge_judged 15) rfl h
theorem en_Hedge_judged_101 (dd : Nat) {Q : zQ} (a : Int32) (m : zM) (h : zRun (zCall dd) 3 (some .int) zc_Hedge_judged Q 0 [.ref 21, .ref 101, .int a, .retAddr 0, .retAddr 0, .retAddr 0, .retAddr 0] [] m) : zCall (dd + 1) m_Hedge_judged [.ref 21, .ref 101, .int a] m Q := ⟨Nat.le_of_ble_eq_true rfl, h⟩
set_option maxRecDepth 100000 in
theorem sg_Hedge_judged_103_0 {C : zC} {Q : zQ} (hC : zCm C) (a : Int32) (m : zM) (h :
    zRun C 3 (some .int) zc_Hedge_judged Q 13 [.ref 21, .ref 103, .int a, .int ((gI m 21 0) * (gI m 21 0)), .int (0 : Int32), .retAddr 0, .retAddr 0] [] m) :
    zRun C 3 (some .int) zc_Hedge_judged Q 0 [.ref 21, .ref 103, .int a, .retAddr 0, .retAddr 0, .retAddr 0, .retAddr 0] [] m := zgo [13] hC zs_Hedge_judged (i := .aload_n 0) (r := zfind zc_Hedge_judged 1) rfl h
set_option maxRecDepth 100000 in
theorem sg_Hedge_judged_103_13 {C : zC} {Q : zQ} (hC : zCm C) (v2 : Int32) (v3 : Int32) (v4 : Int32) (m : zM) (h :
    if v3 ≤ v4 then Q (some (.int (-5 : Int32))) m
    else if v2 < (0 : Int32) then Q (some (.int ((100 : Int32) + v4))) m
      else if v2 < ((gI m 103 1) - v4) then ¬ (gI m 21 0) = 0 ∧ (¬ (gI m 21 0) = 0 ∧ (vp_in (v4 / (gI m 21 0)) 8 ∧ (C m_Box_holds [.int (gI m 24 (v4 / (gI m 21 0)).toNatClampNeg), .int (v4 - v4 / (gI m 21 0) * (gI m 21 0))] m (fun o1 m2 => ∃ x3, o1 = some (.int x3) ∧ (vp_in (v2 + v4) 60 ∧ (if (lg_cmp (gL m2 104 (v2 + v4).toNatClampNeg) (0 : Int64)) = (0 : Int32) then if x3 = (0 : Int32) then zRun C 3 (some .int) zc_Hedge_judged Q 13 [.ref 21, .ref 103, .int v2, .int v3, .int (v4 + (1 : Int32)), .int (v4 / (gI m 21 0)), .int (v4 - v4 / (gI m 21 0) * (gI m 21 0))] [] m2
            else Q (some (.int (((10 : Int32) * (v4 / (gI m 21 0))) + (v4 - v4 / (gI m 21 0) * (gI m 21 0))))) m2
          else if x3 = (1 : Int32) then zRun C 3 (some .int) zc_Hedge_judged Q 13 [.ref 21, .ref 103, .int v2, .int v3, .int (v4 + (1 : Int32)), .int (v4 / (gI m 21 0)), .int (v4 - v4 / (gI m 21 0) * (gI m 21 0))] [] m2
            else Q (some (.int (((10 : Int32) * (v4 / (gI m 21 0))) + (v4 - v4 / (gI m 21 0) * (gI m 21 0))))) m2))))))
        else Q (some (.int ((100 : Int32) + v4))) m) :
    zRun C 3 (some .int) zc_Hedge_judged Q 13 [.ref 21, .ref 103, .int v2, .int v3, .int v4, .retAddr 0, .retAddr 0] [] m := zgo [13] hC zs_Hedge_judged (i := .iload 4) (r := zfind zc_Hedge_judged 15) rfl h
theorem en_Hedge_judged_103 (dd : Nat) {Q : zQ} (a : Int32) (m : zM) (h : zRun (zCall dd) 3 (some .int) zc_Hedge_judged Q 0 [.ref 21, .ref 103, .int a, .retAddr 0, .retAddr 0, .retAddr 0, .retAddr 0] [] m) : zCall (dd + 1) m_Hedge_judged [.ref 21, .ref 103, .int a] m Q := ⟨Nat.le_of_ble_eq_true rfl, h⟩
set_option maxRecDepth 100000 in
theorem sg_Hedge_judged_105_0 {C : zC} {Q : zQ} (hC : zCm C) (a : Int32) (m : zM) (h :
    zRun C 3 (some .int) zc_Hedge_judged Q 13 [.ref 21, .ref 105, .int a, .int ((gI m 21 0) * (gI m 21 0)), .int (0 : Int32), .retAddr 0, .retAddr 0] [] m) :
    zRun C 3 (some .int) zc_Hedge_judged Q 0 [.ref 21, .ref 105, .int a, .retAddr 0, .retAddr 0, .retAddr 0, .retAddr 0] [] m := zgo [13] hC zs_Hedge_judged (i := .aload_n 0) (r := zfind zc_Hedge_judged 1) rfl h
set_option maxRecDepth 100000 in
theorem sg_Hedge_judged_105_13 {C : zC} {Q : zQ} (hC : zCm C) (v2 : Int32) (v3 : Int32) (v4 : Int32) (m : zM) (h :
    if v3 ≤ v4 then Q (some (.int (-5 : Int32))) m
    else if v2 < (0 : Int32) then Q (some (.int ((100 : Int32) + v4))) m
      else if v2 < ((gI m 105 1) - v4) then ¬ (gI m 21 0) = 0 ∧ (¬ (gI m 21 0) = 0 ∧ (vp_in (v4 / (gI m 21 0)) 8 ∧ (C m_Box_holds [.int (gI m 24 (v4 / (gI m 21 0)).toNatClampNeg), .int (v4 - v4 / (gI m 21 0) * (gI m 21 0))] m (fun o1 m2 => ∃ x3, o1 = some (.int x3) ∧ (vp_in (v2 + v4) 60 ∧ (if (lg_cmp (gL m2 106 (v2 + v4).toNatClampNeg) (0 : Int64)) = (0 : Int32) then if x3 = (0 : Int32) then zRun C 3 (some .int) zc_Hedge_judged Q 13 [.ref 21, .ref 105, .int v2, .int v3, .int (v4 + (1 : Int32)), .int (v4 / (gI m 21 0)), .int (v4 - v4 / (gI m 21 0) * (gI m 21 0))] [] m2
            else Q (some (.int (((10 : Int32) * (v4 / (gI m 21 0))) + (v4 - v4 / (gI m 21 0) * (gI m 21 0))))) m2
          else if x3 = (1 : Int32) then zRun C 3 (some .int) zc_Hedge_judged Q 13 [.ref 21, .ref 105, .int v2, .int v3, .int (v4 + (1 : Int32)), .int (v4 / (gI m 21 0)), .int (v4 - v4 / (gI m 21 0) * (gI m 21 0))] [] m2
            else Q (some (.int (((10 : Int32) * (v4 / (gI m 21 0))) + (v4 - v4 / (gI m 21 0) * (gI m 21 0))))) m2))))))
        else Q (some (.int ((100 : Int32) + v4))) m) :
    zRun C 3 (some .int) zc_Hedge_judged Q 13 [.ref 21, .ref 105, .int v2, .int v3, .int v4, .retAddr 0, .retAddr 0] [] m := zgo [13] hC zs_Hedge_judged (i := .iload 4) (r := zfind zc_Hedge_judged 15) rfl h
theorem en_Hedge_judged_105 (dd : Nat) {Q : zQ} (a : Int32) (m : zM) (h : zRun (zCall dd) 3 (some .int) zc_Hedge_judged Q 0 [.ref 21, .ref 105, .int a, .retAddr 0, .retAddr 0, .retAddr 0, .retAddr 0] [] m) : zCall (dd + 1) m_Hedge_judged [.ref 21, .ref 105, .int a] m Q := ⟨Nat.le_of_ble_eq_true rfl, h⟩
set_option maxRecDepth 100000 in
theorem sg_Hedge_judged_107_0 {C : zC} {Q : zQ} (hC : zCm C) (a : Int32) (m : zM) (h :
    zRun C 3 (some .int) zc_Hedge_judged Q 13 [.ref 21, .ref 107, .int a, .int ((gI m 21 0) * (gI m 21 0)), .int (0 : Int32), .retAddr 0, .retAddr 0] [] m) :
    zRun C 3 (some .int) zc_Hedge_judged Q 0 [.ref 21, .ref 107, .int a, .retAddr 0, .retAddr 0, .retAddr 0, .retAddr 0] [] m := zgo [13] hC zs_Hedge_judged (i := .aload_n 0) (r := zfind zc_Hedge_judged 1) rfl h
set_option maxRecDepth 100000 in
theorem sg_Hedge_judged_107_13 {C : zC} {Q : zQ} (hC : zCm C) (v2 : Int32) (v3 : Int32) (v4 : Int32) (m : zM) (h :
    if v3 ≤ v4 then Q (some (.int (-5 : Int32))) m
    else if v2 < (0 : Int32) then Q (some (.int ((100 : Int32) + v4))) m
      else if v2 < ((gI m 107 1) - v4) then ¬ (gI m 21 0) = 0 ∧ (¬ (gI m 21 0) = 0 ∧ (vp_in (v4 / (gI m 21 0)) 8 ∧ (C m_Box_holds [.int (gI m 24 (v4 / (gI m 21 0)).toNatClampNeg), .int (v4 - v4 / (gI m 21 0) * (gI m 21 0))] m (fun o1 m2 => ∃ x3, o1 = some (.int x3) ∧ (vp_in (v2 + v4) 60 ∧ (if (lg_cmp (gL m2 108 (v2 + v4).toNatClampNeg) (0 : Int64)) = (0 : Int32) then if x3 = (0 : Int32) then zRun C 3 (some .int) zc_Hedge_judged Q 13 [.ref 21, .ref 107, .int v2, .int v3, .int (v4 + (1 : Int32)), .int (v4 / (gI m 21 0)), .int (v4 - v4 / (gI m 21 0) * (gI m 21 0))] [] m2
            else Q (some (.int (((10 : Int32) * (v4 / (gI m 21 0))) + (v4 - v4 / (gI m 21 0) * (gI m 21 0))))) m2
          else if x3 = (1 : Int32) then zRun C 3 (some .int) zc_Hedge_judged Q 13 [.ref 21, .ref 107, .int v2, .int v3, .int (v4 + (1 : Int32)), .int (v4 / (gI m 21 0)), .int (v4 - v4 / (gI m 21 0) * (gI m 21 0))] [] m2
            else Q (some (.int (((10 : Int32) * (v4 / (gI m 21 0))) + (v4 - v4 / (gI m 21 0) * (gI m 21 0))))) m2))))))
        else Q (some (.int ((100 : Int32) + v4))) m) :
    zRun C 3 (some .int) zc_Hedge_judged Q 13 [.ref 21, .ref 107, .int v2, .int v3, .int v4, .retAddr 0, .retAddr 0] [] m := zgo [13] hC zs_Hedge_judged (i := .iload 4) (r := zfind zc_Hedge_judged 15) rfl h
theorem en_Hedge_judged_107 (dd : Nat) {Q : zQ} (a : Int32) (m : zM) (h : zRun (zCall dd) 3 (some .int) zc_Hedge_judged Q 0 [.ref 21, .ref 107, .int a, .retAddr 0, .retAddr 0, .retAddr 0, .retAddr 0] [] m) : zCall (dd + 1) m_Hedge_judged [.ref 21, .ref 107, .int a] m Q := ⟨Nat.le_of_ble_eq_true rfl, h⟩
set_option maxRecDepth 100000 in
theorem sg_Hedge_judged_109_0 {C : zC} {Q : zQ} (hC : zCm C) (a : Int32) (m : zM) (h :
    zRun C 3 (some .int) zc_Hedge_judged Q 13 [.ref 21, .ref 109, .int a, .int ((gI m 21 0) * (gI m 21 0)), .int (0 : Int32), .retAddr 0, .retAddr 0] [] m) :
    zRun C 3 (some .int) zc_Hedge_judged Q 0 [.ref 21, .ref 109, .int a, .retAddr 0, .retAddr 0, .retAddr 0, .retAddr 0] [] m := zgo [13] hC zs_Hedge_judged (i := .aload_n 0) (r := zfind zc_Hedge_judged 1) rfl h
set_option maxRecDepth 100000 in
theorem sg_Hedge_judged_109_13 {C : zC} {Q : zQ} (hC : zCm C) (v2 : Int32) (v3 : Int32) (v4 : Int32) (m : zM) (h :
    if v3 ≤ v4 then Q (some (.int (-5 : Int32))) m
    else if v2 < (0 : Int32) then Q (some (.int ((100 : Int32) + v4))) m
      else if v2 < ((gI m 109 1) - v4) then ¬ (gI m 21 0) = 0 ∧ (¬ (gI m 21 0) = 0 ∧ (vp_in (v4 / (gI m 21 0)) 8 ∧ (C m_Box_holds [.int (gI m 24 (v4 / (gI m 21 0)).toNatClampNeg), .int (v4 - v4 / (gI m 21 0) * (gI m 21 0))] m (fun o1 m2 => ∃ x3, o1 = some (.int x3) ∧ (vp_in (v2 + v4) 60 ∧ (if (lg_cmp (gL m2 110 (v2 + v4).toNatClampNeg) (0 : Int64)) = (0 : Int32) then if x3 = (0 : Int32) then zRun C 3 (some .int) zc_Hedge_judged Q 13 [.ref 21, .ref 109, .int v2, .int v3, .int (v4 + (1 : Int32)), .int (v4 / (gI m 21 0)), .int (v4 - v4 / (gI m 21 0) * (gI m 21 0))] [] m2
            else Q (some (.int (((10 : Int32) * (v4 / (gI m 21 0))) + (v4 - v4 / (gI m 21 0) * (gI m 21 0))))) m2
          else if x3 = (1 : Int32) then zRun C 3 (some .int) zc_Hedge_judged Q 13 [.ref 21, .ref 109, .int v2, .int v3, .int (v4 + (1 : Int32)), .int (v4 / (gI m 21 0)), .int (v4 - v4 / (gI m 21 0) * (gI m 21 0))] [] m2
            else Q (some (.int (((10 : Int32) * (v4 / (gI m 21 0))) + (v4 - v4 / (gI m 21 0) * (gI m 21 0))))) m2))))))
        else Q (some (.int ((100 : Int32) + v4))) m) :
    zRun C 3 (some .int) zc_Hedge_judged Q 13 [.ref 21, .ref 109, .int v2, .int v3, .int v4, .retAddr 0, .retAddr 0] [] m := zgo [13] hC zs_Hedge_judged (i := .iload 4) (r := zfind zc_Hedge_judged 15) rfl h
theorem en_Hedge_judged_109 (dd : Nat) {Q : zQ} (a : Int32) (m : zM) (h : zRun (zCall dd) 3 (some .int) zc_Hedge_judged Q 0 [.ref 21, .ref 109, .int a, .retAddr 0, .retAddr 0, .retAddr 0, .retAddr 0] [] m) : zCall (dd + 1) m_Hedge_judged [.ref 21, .ref 109, .int a] m Q := ⟨Nat.le_of_ble_eq_true rfl, h⟩
set_option maxRecDepth 100000 in
theorem sg_Hedge_judged_111_0 {C : zC} {Q : zQ} (hC : zCm C) (a : Int32) (m : zM) (h :
    zRun C 3 (some .int) zc_Hedge_judged Q 13 [.ref 21, .ref 111, .int a, .int ((gI m 21 0) * (gI m 21 0)), .int (0 : Int32), .retAddr 0, .retAddr 0] [] m) :
    zRun C 3 (some .int) zc_Hedge_judged Q 0 [.ref 21, .ref 111, .int a, .retAddr 0, .retAddr 0, .retAddr 0, .retAddr 0] [] m := zgo [13] hC zs_Hedge_judged (i := .aload_n 0) (r := zfind zc_Hedge_judged 1) rfl h
set_option maxRecDepth 100000 in
theorem sg_Hedge_judged_111_13 {C : zC} {Q : zQ} (hC : zCm C) (v2 : Int32) (v3 : Int32) (v4 : Int32) (m : zM) (h :
    if v3 ≤ v4 then Q (some (.int (-5 : Int32))) m
    else if v2 < (0 : Int32) then Q (some (.int ((100 : Int32) + v4))) m
      else if v2 < ((gI m 111 1) - v4) then ¬ (gI m 21 0) = 0 ∧ (¬ (gI m 21 0) = 0 ∧ (vp_in (v4 / (gI m 21 0)) 8 ∧ (C m_Box_holds [.int (gI m 24 (v4 / (gI m 21 0)).toNatClampNeg), .int (v4 - v4 / (gI m 21 0) * (gI m 21 0))] m (fun o1 m2 => ∃ x3, o1 = some (.int x3) ∧ (vp_in (v2 + v4) 60 ∧ (if (lg_cmp (gL m2 112 (v2 + v4).toNatClampNeg) (0 : Int64)) = (0 : Int32) then if x3 = (0 : Int32) then zRun C 3 (some .int) zc_Hedge_judged Q 13 [.ref 21, .ref 111, .int v2, .int v3, .int (v4 + (1 : Int32)), .int (v4 / (gI m 21 0)), .int (v4 - v4 / (gI m 21 0) * (gI m 21 0))] [] m2
            else Q (some (.int (((10 : Int32) * (v4 / (gI m 21 0))) + (v4 - v4 / (gI m 21 0) * (gI m 21 0))))) m2
          else if x3 = (1 : Int32) then zRun C 3 (some .int) zc_Hedge_judged Q 13 [.ref 21, .ref 111, .int v2, .int v3, .int (v4 + (1 : Int32)), .int (v4 / (gI m 21 0)), .int (v4 - v4 / (gI m 21 0) * (gI m 21 0))] [] m2
            else Q (some (.int (((10 : Int32) * (v4 / (gI m 21 0))) + (v4 - v4 / (gI m 21 0) * (gI m 21 0))))) m2))))))
        else Q (some (.int ((100 : Int32) + v4))) m) :
    zRun C 3 (some .int) zc_Hedge_judged Q 13 [.ref 21, .ref 111, .int v2, .int v3, .int v4, .retAddr 0, .retAddr 0] [] m := zgo [13] hC zs_Hedge_judged (i := .iload 4) (r := zfind zc_Hedge_judged 15) rfl h
theorem en_Hedge_judged_111 (dd : Nat) {Q : zQ} (a : Int32) (m : zM) (h : zRun (zCall dd) 3 (some .int) zc_Hedge_judged Q 0 [.ref 21, .ref 111, .int a, .retAddr 0, .retAddr 0, .retAddr 0, .retAddr 0] [] m) : zCall (dd + 1) m_Hedge_judged [.ref 21, .ref 111, .int a] m Q := ⟨Nat.le_of_ble_eq_true rfl, h⟩
theorem zs_Qu_say : zsrt zc_Qu_say = true := by decide +kernel
set_option maxRecDepth 100000 in
theorem sg_Qu_say_0 {C : zC} {Q : zQ} (hC : zCm C) (a : Int32) (b : Int32) (m : zM) (h :
    C m_Hearing_measure [.ref 92, .ref 21] m (fun o1 m2 => o1 = none ∧ (C m_Box_bit [.int a] m2 (fun o3 m4 => ∃ x5, o3 = some (.int x5) ∧ (C m_Hearing_spread [.ref 92, .ref 21, .int x5] m4 (fun o6 m7 => o6 = none ∧ (C m_Hearing_speak [.ref 92, .ref 21, .int b] m7 (fun o8 m9 => o8 = none ∧ (Q none m9))))))))) :
    zRun C 4 none zc_Qu_say Q 0 [.ref 90, .int a, .int b] [] m := zgo [] hC zs_Qu_say (i := .aload_n 0) (r := zfind zc_Qu_say 1) rfl h
theorem en_Qu_say (dd : Nat) {Q : zQ} (a : Int32) (b : Int32) (m : zM) (h : zRun (zCall dd) 4 none zc_Qu_say Q 0 [.ref 90, .int a, .int b] [] m) : zCall (dd + 1) m_Qu_say [.ref 90, .int a, .int b] m Q := ⟨Nat.le_of_ble_eq_true rfl, h⟩
theorem zs_Qu_hearingOf : zsrt zc_Qu_hearingOf = true := by decide +kernel
set_option maxRecDepth 100000 in
theorem sg_Qu_hearingOf_0 {C : zC} {Q : zQ} (hC : zCm C) (a : Int32) (b : Int32) (c : Int32) (d : Int32) (m : zM) (h :
    C m_Qu_say [.ref 90, .int a, .int b] m (fun o1 m2 => o1 = none ∧ (if d = (0 : Int32) then vp_in c 8 ∧ (Q (some (.int (gI m2 94 c.toNatClampNeg))) m2)
    else if d = (1 : Int32) then C m_Hearing_wordAt [.ref 92, .int c] m2 (fun o3 m4 => ∃ x5, o3 = some (.int x5) ∧ (Q (some (.int x5)) m4))
    else vp_in c 8 ∧ (Q (some (.int (gI m2 95 c.toNatClampNeg))) m2)))) :
    zRun C 4 (some .int) zc_Qu_hearingOf Q 0 [.ref 90, .int a, .int b, .int c, .int d] [] m := zgo [] hC zs_Qu_hearingOf (i := .aload_n 0) (r := zfind zc_Qu_hearingOf 1) rfl h
theorem en_Qu_hearingOf (dd : Nat) {Q : zQ} (a : Int32) (b : Int32) (c : Int32) (d : Int32) (m : zM) (h : zRun (zCall dd) 4 (some .int) zc_Qu_hearingOf Q 0 [.ref 90, .int a, .int b, .int c, .int d] [] m) : zCall (dd + 1) m_Qu_hearingOf [.ref 90, .int a, .int b, .int c, .int d] m Q := ⟨Nat.le_of_ble_eq_true rfl, h⟩
theorem zs_Qu_hearersWithin : zsrt zc_Qu_hearersWithin = true := by decide +kernel
set_option maxRecDepth 100000 in
theorem sg_Qu_hearersWithin_0 {C : zC} {Q : zQ} (hC : zCm C) (a : Int32) (b : Int32) (m : zM) (h :
    C m_Qu_say [.ref 90, .int a, .int (0 : Int32)] m (fun o1 m2 => o1 = none ∧ (zRun C 4 (some .int) zc_Qu_hearersWithin Q 11 [.ref 90, .int a, .int b, .int (0 : Int32), .int (0 : Int32), .retAddr 0] [] m2))) :
    zRun C 4 (some .int) zc_Qu_hearersWithin Q 0 [.ref 90, .int a, .int b, .retAddr 0, .retAddr 0, .retAddr 0] [] m := zgo [11] hC zs_Qu_hearersWithin (i := .aload_n 0) (r := zfind zc_Qu_hearersWithin 1) rfl h
set_option maxRecDepth 100000 in
theorem sg_Qu_hearersWithin_11 {C : zC} {Q : zQ} (hC : zCm C) (v1 : Int32) (v2 : Int32) (v3 : Int32) (v4 : Int32) (m : zM) (h :
    if (gI m 92 4) ≤ v4 then Q (some (.int v3)) m
    else vp_in v4 8 ∧ (vp_in (gI m 96 v4.toNatClampNeg) 8 ∧ (if v2 < (gI m 94 (gI m 96 v4.toNatClampNeg).toNatClampNeg) then zRun C 4 (some .int) zc_Qu_hearersWithin Q 11 [.ref 90, .int v1, .int v2, .int v3, .int (v4 + (1 : Int32)), .int (gI m 96 v4.toNatClampNeg)] [] m
      else C m_Box_bit [.int (gI m 96 v4.toNatClampNeg)] m (fun o1 m2 => ∃ x3, o1 = some (.int x3) ∧ (zRun C 4 (some .int) zc_Qu_hearersWithin Q 11 [.ref 90, .int v1, .int v2, .int (v3 ||| x3), .int (v4 + (1 : Int32)), .int (gI m 96 v4.toNatClampNeg)] [] m2))))) :
    zRun C 4 (some .int) zc_Qu_hearersWithin Q 11 [.ref 90, .int v1, .int v2, .int v3, .int v4, .retAddr 0] [] m := zgo [11] hC zs_Qu_hearersWithin (i := .iload 4) (r := zfind zc_Qu_hearersWithin 13) rfl h
theorem en_Qu_hearersWithin (dd : Nat) {Q : zQ} (a : Int32) (b : Int32) (m : zM) (h : zRun (zCall dd) 4 (some .int) zc_Qu_hearersWithin Q 0 [.ref 90, .int a, .int b, .retAddr 0, .retAddr 0, .retAddr 0] [] m) : zCall (dd + 1) m_Qu_hearersWithin [.ref 90, .int a, .int b] m Q := ⟨Nat.le_of_ble_eq_true rfl, h⟩
theorem zs_Qu_hearersOfJust : zsrt zc_Qu_hearersOfJust = true := by decide +kernel
set_option maxRecDepth 100000 in
theorem sg_Qu_hearersOfJust_0 {C : zC} {Q : zQ} (hC : zCm C) (a : Int32) (b : Int32) (m : zM) (h :
    C m_Qu_say [.ref 90, .int a, .int b] m (fun o1 m2 => o1 = none ∧ (zRun C 4 (some .int) zc_Qu_hearersOfJust Q 11 [.ref 90, .int a, .int b, .int (0 : Int32), .int (0 : Int32)] [] m2))) :
    zRun C 4 (some .int) zc_Qu_hearersOfJust Q 0 [.ref 90, .int a, .int b, .retAddr 0, .retAddr 0] [] m := zgo [11] hC zs_Qu_hearersOfJust (i := .aload_n 0) (r := zfind zc_Qu_hearersOfJust 1) rfl h
set_option maxRecDepth 100000 in
theorem sg_Qu_hearersOfJust_11 {C : zC} {Q : zQ} (hC : zCm C) (v1 : Int32) (v2 : Int32) (v3 : Int32) (v4 : Int32) (m : zM) (h :
    if (gI m 21 0) ≤ v4 then Q (some (.int v3)) m
    else if v4 = v1 then zRun C 4 (some .int) zc_Qu_hearersOfJust Q 11 [.ref 90, .int v1, .int v2, .int v3, .int (v4 + (1 : Int32))] [] m
      else C m_Hearing_wordAt [.ref 92, .int v4] m (fun o1 m2 => ∃ x3, o1 = some (.int x3) ∧ (if ¬ x3 = v2 then zRun C 4 (some .int) zc_Qu_hearersOfJust Q 11 [.ref 90, .int v1, .int v2, .int v3, .int (v4 + (1 : Int32))] [] m2
        else C m_Box_bit [.int v4] m2 (fun o4 m5 => ∃ x6, o4 = some (.int x6) ∧ (zRun C 4 (some .int) zc_Qu_hearersOfJust Q 11 [.ref 90, .int v1, .int v2, .int (v3 ||| x6), .int (v4 + (1 : Int32))] [] m5))))) :
    zRun C 4 (some .int) zc_Qu_hearersOfJust Q 11 [.ref 90, .int v1, .int v2, .int v3, .int v4] [] m := zgo [11] hC zs_Qu_hearersOfJust (i := .iload 4) (r := zfind zc_Qu_hearersOfJust 13) rfl h
theorem en_Qu_hearersOfJust (dd : Nat) {Q : zQ} (a : Int32) (b : Int32) (m : zM) (h : zRun (zCall dd) 4 (some .int) zc_Qu_hearersOfJust Q 0 [.ref 90, .int a, .int b, .retAddr 0, .retAddr 0] [] m) : zCall (dd + 1) m_Qu_hearersOfJust [.ref 90, .int a, .int b] m Q := ⟨Nat.le_of_ble_eq_true rfl, h⟩
theorem zs_Qu_latest : zsrt zc_Qu_latest = true := by decide +kernel
set_option maxRecDepth 100000 in
theorem sg_Qu_latest_0 {C : zC} {Q : zQ} (hC : zCm C) (a : Int32) (m : zM) (h :
    C m_Qu_say [.ref 90, .int a, .int (0 : Int32)] m (fun o1 m2 => o1 = none ∧ (if (1 : Int32) ≤ (gI m2 92 4) then vp_in ((gI m2 92 4) - (1 : Int32)) 8 ∧ (vp_in (gI m2 96 ((gI m2 92 4) - (1 : Int32)).toNatClampNeg) 8 ∧ (Q (some (.int (gI m2 94 (gI m2 96 ((gI m2 92 4) - (1 : Int32)).toNatClampNeg).toNatClampNeg))) m2))
    else Q (some (.int (-5 : Int32))) m2))) :
    zRun C 4 (some .int) zc_Qu_latest Q 0 [.ref 90, .int a] [] m := zgo [] hC zs_Qu_latest (i := .aload_n 0) (r := zfind zc_Qu_latest 1) rfl h
theorem en_Qu_latest (dd : Nat) {Q : zQ} (a : Int32) (m : zM) (h : zRun (zCall dd) 4 (some .int) zc_Qu_latest Q 0 [.ref 90, .int a] [] m) : zCall (dd + 1) m_Qu_latest [.ref 90, .int a] m Q := ⟨Nat.le_of_ble_eq_true rfl, h⟩
theorem zs_Qu_reaches : zsrt zc_Qu_reaches = true := by decide +kernel
set_option maxRecDepth 100000 in
theorem sg_Qu_reaches_0 {C : zC} {Q : zQ} (hC : zCm C) (a : Int32) (b : Int32) (c : Int32) (m : zM) (h :
    C m_Box_bit [.int a] m (fun o1 m2 => ∃ x3, o1 = some (.int x3) ∧ (zRun C 4 (some .boolean) zc_Qu_reaches Q 25 [.ref 90, .int a, .int b, .int c, .int (((gI m 21 5) ||| c) ^^^ (-1 : Int32)), .int (x3 &&& (((gI m 21 5) ||| c) ^^^ (-1 : Int32))), .int (1 : Int32), .retAddr 0] [] m2))) :
    zRun C 4 (some .boolean) zc_Qu_reaches Q 0 [.ref 90, .int a, .int b, .int c, .retAddr 0, .retAddr 0, .retAddr 0, .retAddr 0] [] m := zgo [25, 40] hC zs_Qu_reaches (i := .aload_n 0) (r := zfind zc_Qu_reaches 1) rfl h
set_option maxRecDepth 100000 in
theorem sg_Qu_reaches_25 {C : zC} {Q : zQ} (hC : zCm C) (v1 : Int32) (v2 : Int32) (v3 : Int32) (v4 : Int32) (v5 : Int32) (v6 : Int32) (m : zM) (h :
    if (gI m 21 0) ≤ v6 then C m_Box_holds [.int v5, .int v2] m (fun o1 m2 => ∃ x3, o1 = some (.int x3) ∧ (x3 &&& 1 = x3 ∧ Q (some (.int x3)) m2))
    else zRun C 4 (some .boolean) zc_Qu_reaches Q 40 [.ref 90, .int v1, .int v2, .int v3, .int v4, .int v5, .int v6, .int (0 : Int32)] [] m) :
    zRun C 4 (some .boolean) zc_Qu_reaches Q 25 [.ref 90, .int v1, .int v2, .int v3, .int v4, .int v5, .int v6, .retAddr 0] [] m := zgo [25, 40] hC zs_Qu_reaches (i := .iload 6) (r := zfind zc_Qu_reaches 27) rfl h
set_option maxRecDepth 100000 in
theorem sg_Qu_reaches_40 {C : zC} {Q : zQ} (hC : zCm C) (v1 : Int32) (v2 : Int32) (v3 : Int32) (v4 : Int32) (v5 : Int32) (v6 : Int32) (v7 : Int32) (m : zM) (h :
    if (gI m 21 0) ≤ v7 then zRun C 4 (some .boolean) zc_Qu_reaches Q 25 [.ref 90, .int v1, .int v2, .int v3, .int v4, .int v5, .int (v6 + (1 : Int32)), .int v7] [] m
    else C m_Box_holds [.int v5, .int v7] m (fun o1 m2 => ∃ x3, o1 = some (.int x3) ∧ (if x3 = (0 : Int32) then zRun C 4 (some .boolean) zc_Qu_reaches Q 40 [.ref 90, .int v1, .int v2, .int v3, .int v4, .int v5, .int v6, .int (v7 + (1 : Int32))] [] m2
      else vp_in v7 8 ∧ (zRun C 4 (some .boolean) zc_Qu_reaches Q 40 [.ref 90, .int v1, .int v2, .int v3, .int v4, .int (v5 ||| ((gI m2 24 v7.toNatClampNeg) &&& v4)), .int v6, .int (v7 + (1 : Int32))] [] m2)))) :
    zRun C 4 (some .boolean) zc_Qu_reaches Q 40 [.ref 90, .int v1, .int v2, .int v3, .int v4, .int v5, .int v6, .int v7] [] m := zgo [25, 40] hC zs_Qu_reaches (i := .iload 7) (r := zfind zc_Qu_reaches 42) rfl h
theorem en_Qu_reaches (dd : Nat) {Q : zQ} (a : Int32) (b : Int32) (c : Int32) (m : zM) (h : zRun (zCall dd) 4 (some .boolean) zc_Qu_reaches Q 0 [.ref 90, .int a, .int b, .int c, .retAddr 0, .retAddr 0, .retAddr 0, .retAddr 0] [] m) : zCall (dd + 1) m_Qu_reaches [.ref 90, .int a, .int b, .int c] m Q := ⟨Nat.le_of_ble_eq_true rfl, h⟩
theorem zs_Qu_fewestBetween : zsrt zc_Qu_fewestBetween = true := by decide +kernel
set_option maxRecDepth 100000 in
theorem sg_Qu_fewestBetween_0 {C : zC} {Q : zQ} (hC : zCm C) (a : Int32) (b : Int32) (m : zM) (h :
    C m_Box_bit [.int a] m (fun o1 m2 => ∃ x3, o1 = some (.int x3) ∧ (C m_Box_bit [.int b] m2 (fun o4 m5 => ∃ x6, o4 = some (.int x6) ∧ (C m_Box_bit [.int (gI m5 21 0)] m5 (fun o7 m8 => ∃ x9, o7 = some (.int x9) ∧ (zRun C 4 (some .int) zc_Qu_fewestBetween Q 25 [.ref 90, .int a, .int b, .int (x3 ||| x6), .int x9, .int (0 : Int32), .retAddr 0] [] m8))))))) :
    zRun C 4 (some .int) zc_Qu_fewestBetween Q 0 [.ref 90, .int a, .int b, .retAddr 0, .retAddr 0, .retAddr 0, .retAddr 0] [] m := zgo [25, 34] hC zs_Qu_fewestBetween (i := .iload_n 1) (r := zfind zc_Qu_fewestBetween 1) rfl h
set_option maxRecDepth 100000 in
theorem sg_Qu_fewestBetween_25 {C : zC} {Q : zQ} (hC : zCm C) (v1 : Int32) (v2 : Int32) (v3 : Int32) (v4 : Int32) (v5 : Int32) (m : zM) (h :
    if (3 : Int32) < v5 then Q (some (.int (-5 : Int32))) m
    else zRun C 4 (some .int) zc_Qu_fewestBetween Q 34 [.ref 90, .int v1, .int v2, .int v3, .int v4, .int v5, .int (0 : Int32)] [] m) :
    zRun C 4 (some .int) zc_Qu_fewestBetween Q 25 [.ref 90, .int v1, .int v2, .int v3, .int v4, .int v5, .retAddr 0] [] m := zgo [25, 34] hC zs_Qu_fewestBetween (i := .iload 5) (r := zfind zc_Qu_fewestBetween 27) rfl h
set_option maxRecDepth 100000 in
theorem sg_Qu_fewestBetween_34 {C : zC} {Q : zQ} (hC : zCm C) (v1 : Int32) (v2 : Int32) (v3 : Int32) (v4 : Int32) (v5 : Int32) (v6 : Int32) (m : zM) (h :
    if v4 ≤ v6 then zRun C 4 (some .int) zc_Qu_fewestBetween Q 25 [.ref 90, .int v1, .int v2, .int v3, .int v4, .int (v5 + (1 : Int32)), .int v6] [] m
    else if ¬ (v6 &&& v3) = (0 : Int32) then zRun C 4 (some .int) zc_Qu_fewestBetween Q 34 [.ref 90, .int v1, .int v2, .int v3, .int v4, .int v5, .int (v6 + (1 : Int32))] [] m
      else C m_Int_bitCount [.int v6] m (fun o1 m2 => ∃ x3, o1 = some (.int x3) ∧ (if ¬ x3 = v5 then zRun C 4 (some .int) zc_Qu_fewestBetween Q 34 [.ref 90, .int v1, .int v2, .int v3, .int v4, .int v5, .int (v6 + (1 : Int32))] [] m2
        else C m_Qu_reaches [.ref 90, .int v1, .int v2, .int v6] m2 (fun o4 m5 => ∃ x6, o4 = some (.int x6) ∧ (if ¬ x6 = (0 : Int32) then zRun C 4 (some .int) zc_Qu_fewestBetween Q 34 [.ref 90, .int v1, .int v2, .int v3, .int v4, .int v5, .int (v6 + (1 : Int32))] [] m5
          else Q (some (.int v6)) m5))))) :
    zRun C 4 (some .int) zc_Qu_fewestBetween Q 34 [.ref 90, .int v1, .int v2, .int v3, .int v4, .int v5, .int v6] [] m := zgo [25, 34] hC zs_Qu_fewestBetween (i := .iload 6) (r := zfind zc_Qu_fewestBetween 36) rfl h
theorem en_Qu_fewestBetween (dd : Nat) {Q : zQ} (a : Int32) (b : Int32) (m : zM) (h : zRun (zCall dd) 4 (some .int) zc_Qu_fewestBetween Q 0 [.ref 90, .int a, .int b, .retAddr 0, .retAddr 0, .retAddr 0, .retAddr 0] [] m) : zCall (dd + 1) m_Qu_fewestBetween [.ref 90, .int a, .int b] m Q := ⟨Nat.le_of_ble_eq_true rfl, h⟩
theorem zs_Qu_eachNeededBetween : zsrt zc_Qu_eachNeededBetween = true := by decide +kernel
set_option maxRecDepth 100000 in
theorem sg_Qu_eachNeededBetween_0 {C : zC} {Q : zQ} (hC : zCm C) (a : Int32) (b : Int32) (m : zM) (h :
    C m_Qu_reaches [.ref 90, .int a, .int b, .int (0 : Int32)] m (fun o1 m2 => ∃ x3, o1 = some (.int x3) ∧ (if ¬ x3 = (0 : Int32) then zRun C 4 (some .int) zc_Qu_eachNeededBetween Q 17 [.ref 90, .int a, .int b, .int (0 : Int32), .int (0 : Int32)] [] m2
    else Q (some (.int (0 : Int32))) m2))) :
    zRun C 4 (some .int) zc_Qu_eachNeededBetween Q 0 [.ref 90, .int a, .int b, .retAddr 0, .retAddr 0] [] m := zgo [17] hC zs_Qu_eachNeededBetween (i := .aload_n 0) (r := zfind zc_Qu_eachNeededBetween 1) rfl h
set_option maxRecDepth 100000 in
theorem sg_Qu_eachNeededBetween_17 {C : zC} {Q : zQ} (hC : zCm C) (v1 : Int32) (v2 : Int32) (v3 : Int32) (v4 : Int32) (m : zM) (h :
    if (gI m 21 0) ≤ v4 then Q (some (.int v3)) m
    else if v4 = v1 then zRun C 4 (some .int) zc_Qu_eachNeededBetween Q 17 [.ref 90, .int v1, .int v2, .int v3, .int (v4 + (1 : Int32))] [] m
      else if v4 = v2 then zRun C 4 (some .int) zc_Qu_eachNeededBetween Q 17 [.ref 90, .int v1, .int v2, .int v3, .int (v4 + (1 : Int32))] [] m
        else C m_Box_bit [.int v4] m (fun o1 m2 => ∃ x3, o1 = some (.int x3) ∧ (C m_Qu_reaches [.ref 90, .int v1, .int v2, .int x3] m2 (fun o4 m5 => ∃ x6, o4 = some (.int x6) ∧ (if ¬ x6 = (0 : Int32) then zRun C 4 (some .int) zc_Qu_eachNeededBetween Q 17 [.ref 90, .int v1, .int v2, .int v3, .int (v4 + (1 : Int32))] [] m5
          else C m_Box_bit [.int v4] m5 (fun o7 m8 => ∃ x9, o7 = some (.int x9) ∧ (zRun C 4 (some .int) zc_Qu_eachNeededBetween Q 17 [.ref 90, .int v1, .int v2, .int (v3 ||| x9), .int (v4 + (1 : Int32))] [] m8))))))) :
    zRun C 4 (some .int) zc_Qu_eachNeededBetween Q 17 [.ref 90, .int v1, .int v2, .int v3, .int v4] [] m := zgo [17] hC zs_Qu_eachNeededBetween (i := .iload 4) (r := zfind zc_Qu_eachNeededBetween 19) rfl h
theorem en_Qu_eachNeededBetween (dd : Nat) {Q : zQ} (a : Int32) (b : Int32) (m : zM) (h : zRun (zCall dd) 4 (some .int) zc_Qu_eachNeededBetween Q 0 [.ref 90, .int a, .int b, .retAddr 0, .retAddr 0] [] m) : zCall (dd + 1) m_Qu_eachNeededBetween [.ref 90, .int a, .int b] m Q := ⟨Nat.le_of_ble_eq_true rfl, h⟩
theorem zs_Qu_comingBack : zsrt zc_Qu_comingBack = true := by decide +kernel
set_option maxRecDepth 100000 in
theorem sg_Qu_comingBack_0 {C : zC} {Q : zQ} (hC : zCm C) (a : Int32) (b : Int32) (c : Int32) (m : zM) (h :
    C m_Qu_say [.ref 90, .int a, .int b] m (fun o1 m2 => o1 = none ∧ (zRun C 4 (some .int) zc_Qu_comingBack Q 17 [.ref 90, .int a, .int b, .int c, .int (-5 : Int32), .int (-5 : Int32), .int (0 : Int32), .retAddr 0] [] m2))) :
    zRun C 4 (some .int) zc_Qu_comingBack Q 0 [.ref 90, .int a, .int b, .int c, .retAddr 0, .retAddr 0, .retAddr 0, .retAddr 0] [] m := zgo [17] hC zs_Qu_comingBack (i := .aload_n 0) (r := zfind zc_Qu_comingBack 1) rfl h
set_option maxRecDepth 100000 in
theorem sg_Qu_comingBack_17 {C : zC} {Q : zQ} (hC : zCm C) (v1 : Int32) (v2 : Int32) (v3 : Int32) (v4 : Int32) (v5 : Int32) (v6 : Int32) (m : zM) (h :
    if (gI m 21 0) ≤ v6 then if v4 = (-5 : Int32) then Q (some (.int v5)) m
      else if ¬ v3 = (0 : Int32) then C m_Hearing_wordAt [.ref 92, .int v4] m (fun o1 m2 => ∃ x3, o1 = some (.int x3) ∧ (C m_Hedge_passedOn [.ref 21, .int v4, .int x3] m2 (fun o4 m5 => ∃ x6, o4 = some (.int x6) ∧ (Q (some (.int x6)) m5))))
        else Q (some (.int v5)) m
    else vp_in v6 8 ∧ (if (gI m 94 v6.toNatClampNeg) = (-5 : Int32) then zRun C 4 (some .int) zc_Qu_comingBack Q 17 [.ref 90, .int v1, .int v2, .int v3, .int v4, .int v5, .int (v6 + (1 : Int32)), .retAddr 0] [] m
      else vp_in v6 8 ∧ (C m_Box_holds [.int (gI m 24 v6.toNatClampNeg), .int v1] m (fun o7 m8 => ∃ x9, o7 = some (.int x9) ∧ (if ¬ x9 = (0 : Int32) then vp_in v6 8 ∧ (vp_in v6 8 ∧ (if v4 = (-5 : Int32) then zRun C 4 (some .int) zc_Qu_comingBack Q 17 [.ref 90, .int v1, .int v2, .int v3, .int v6, .int ((gI m8 94 v6.toNatClampNeg) + (gI m8 93 v6.toNatClampNeg)), .int (v6 + (1 : Int32)), .int ((gI m8 94 v6.toNatClampNeg) + (gI m8 93 v6.toNatClampNeg))] [] m8
          else if v5 ≤ ((gI m8 94 v6.toNatClampNeg) + (gI m8 93 v6.toNatClampNeg)) then zRun C 4 (some .int) zc_Qu_comingBack Q 17 [.ref 90, .int v1, .int v2, .int v3, .int v4, .int v5, .int (v6 + (1 : Int32)), .int ((gI m8 94 v6.toNatClampNeg) + (gI m8 93 v6.toNatClampNeg))] [] m8
            else zRun C 4 (some .int) zc_Qu_comingBack Q 17 [.ref 90, .int v1, .int v2, .int v3, .int v6, .int ((gI m8 94 v6.toNatClampNeg) + (gI m8 93 v6.toNatClampNeg)), .int (v6 + (1 : Int32)), .int ((gI m8 94 v6.toNatClampNeg) + (gI m8 93 v6.toNatClampNeg))] [] m8))
        else zRun C 4 (some .int) zc_Qu_comingBack Q 17 [.ref 90, .int v1, .int v2, .int v3, .int v4, .int v5, .int (v6 + (1 : Int32)), .retAddr 0] [] m8))))) :
    zRun C 4 (some .int) zc_Qu_comingBack Q 17 [.ref 90, .int v1, .int v2, .int v3, .int v4, .int v5, .int v6, .retAddr 0] [] m := zgo [17] hC zs_Qu_comingBack (i := .iload 6) (r := zfind zc_Qu_comingBack 19) rfl h
theorem en_Qu_comingBack (dd : Nat) {Q : zQ} (a : Int32) (b : Int32) (c : Int32) (m : zM) (h : zRun (zCall dd) 4 (some .int) zc_Qu_comingBack Q 0 [.ref 90, .int a, .int b, .int c, .retAddr 0, .retAddr 0, .retAddr 0, .retAddr 0] [] m) : zCall (dd + 1) m_Qu_comingBack [.ref 90, .int a, .int b, .int c] m Q := ⟨Nat.le_of_ble_eq_true rfl, h⟩
theorem zs_Qu_hearersOfTheFirst : zsrt zc_Qu_hearersOfTheFirst = true := by decide +kernel
set_option maxRecDepth 100000 in
theorem sg_Qu_hearersOfTheFirst_0 {C : zC} {Q : zQ} (hC : zCm C) (a : Int32) (b : Int32) (m : zM) (h :
    C m_Hearing_measure [.ref 92, .ref 21] m (fun o1 m2 => o1 = none ∧ (C m_Box_bit [.int a] m2 (fun o3 m4 => ∃ x5, o3 = some (.int x5) ∧ (C m_Box_bit [.int b] m4 (fun o6 m7 => ∃ x8, o6 = some (.int x8) ∧ (C m_Hearing_spread [.ref 92, .ref 21, .int (x5 ||| x8)] m7 (fun o9 m10 => o9 = none ∧ (zRun C 4 (some .int) zc_Qu_hearersOfTheFirst Q 36 [.ref 90, .int a, .int b, .int (0 : Int32), .int (0 : Int32), .retAddr 0, .retAddr 0] [] m10))))))))) :
    zRun C 4 (some .int) zc_Qu_hearersOfTheFirst Q 0 [.ref 90, .int a, .int b, .retAddr 0, .retAddr 0, .retAddr 0, .retAddr 0] [] m := zgo [36] hC zs_Qu_hearersOfTheFirst (i := .aload_n 0) (r := zfind zc_Qu_hearersOfTheFirst 1) rfl h
set_option maxRecDepth 100000 in
theorem sg_Qu_hearersOfTheFirst_36 {C : zC} {Q : zQ} (hC : zCm C) (v1 : Int32) (v2 : Int32) (v3 : Int32) (v4 : Int32) (m : zM) (h :
    if (gI m 92 4) ≤ v4 then Q (some (.int v3)) m
    else vp_in v4 8 ∧ (vp_in (gI m 96 v4.toNatClampNeg) 8 ∧ (if (gI m 96 v4.toNatClampNeg) = v1 then C m_Box_bit [.int (gI m 96 v4.toNatClampNeg)] m (fun o1 m2 => ∃ x3, o1 = some (.int x3) ∧ (zRun C 4 (some .int) zc_Qu_hearersOfTheFirst Q 36 [.ref 90, .int v1, .int v2, .int (v3 ||| x3), .int (v4 + (1 : Int32)), .int (gI m 96 v4.toNatClampNeg), .int (gI m 95 (gI m 96 v4.toNatClampNeg).toNatClampNeg)] [] m2))
      else if (gI m 95 (gI m 96 v4.toNatClampNeg).toNatClampNeg) < (0 : Int32) then zRun C 4 (some .int) zc_Qu_hearersOfTheFirst Q 36 [.ref 90, .int v1, .int v2, .int v3, .int (v4 + (1 : Int32)), .int (gI m 96 v4.toNatClampNeg), .int (gI m 95 (gI m 96 v4.toNatClampNeg).toNatClampNeg)] [] m
        else C m_Box_holds [.int v3, .int (gI m 95 (gI m 96 v4.toNatClampNeg).toNatClampNeg)] m (fun o4 m5 => ∃ x6, o4 = some (.int x6) ∧ (if x6 = (0 : Int32) then zRun C 4 (some .int) zc_Qu_hearersOfTheFirst Q 36 [.ref 90, .int v1, .int v2, .int v3, .int (v4 + (1 : Int32)), .int (gI m 96 v4.toNatClampNeg), .int (gI m 95 (gI m 96 v4.toNatClampNeg).toNatClampNeg)] [] m5
          else C m_Box_bit [.int (gI m 96 v4.toNatClampNeg)] m5 (fun o7 m8 => ∃ x9, o7 = some (.int x9) ∧ (zRun C 4 (some .int) zc_Qu_hearersOfTheFirst Q 36 [.ref 90, .int v1, .int v2, .int (v3 ||| x9), .int (v4 + (1 : Int32)), .int (gI m 96 v4.toNatClampNeg), .int (gI m 95 (gI m 96 v4.toNatClampNeg).toNatClampNeg)] [] m8))))))) :
    zRun C 4 (some .int) zc_Qu_hearersOfTheFirst Q 36 [.ref 90, .int v1, .int v2, .int v3, .int v4, .retAddr 0, .retAddr 0] [] m := zgo [36] hC zs_Qu_hearersOfTheFirst (i := .iload 4) (r := zfind zc_Qu_hearersOfTheFirst 38) rfl h
theorem en_Qu_hearersOfTheFirst (dd : Nat) {Q : zQ} (a : Int32) (b : Int32) (m : zM) (h : zRun (zCall dd) 4 (some .int) zc_Qu_hearersOfTheFirst Q 0 [.ref 90, .int a, .int b, .retAddr 0, .retAddr 0, .retAddr 0, .retAddr 0] [] m) : zCall (dd + 1) m_Qu_hearersOfTheFirst [.ref 90, .int a, .int b] m Q := ⟨Nat.le_of_ble_eq_true rfl, h⟩
theorem zs_Qu_soonestTouch : zsrt zc_Qu_soonestTouch = true := by decide +kernel
set_option maxRecDepth 100000 in
theorem sg_Qu_soonestTouch_0 {C : zC} {Q : zQ} (hC : zCm C) (a : Int32) (b : Int32) (m : zM) (h :
    C m_Qu_say [.ref 90, .int a, .int (0 : Int32)] m (fun o1 m2 => o1 = none ∧ (vp_in b 8 ∧ (C m_Hedge_become [.ref 45, .ref 21] m2 (fun o3 m4 => o3 = none ∧ (zRun C 4 (some .int) zc_Qu_soonestTouch Q 34 [.ref 90, .int a, .int b, .int (gI m2 94 b.toNatClampNeg), .int (-5 : Int32), .int (0 : Int32), .retAddr 0, .retAddr 0, .retAddr 0] [] m4)))))) :
    zRun C 4 (some .int) zc_Qu_soonestTouch Q 0 [.ref 90, .int a, .int b, .retAddr 0, .retAddr 0, .retAddr 0, .retAddr 0, .retAddr 0, .retAddr 0] [] m := zgo [34, 49] hC zs_Qu_soonestTouch (i := .aload_n 0) (r := zfind zc_Qu_soonestTouch 1) rfl h
set_option maxRecDepth 100000 in
theorem sg_Qu_soonestTouch_34 {C : zC} {Q : zQ} (hC : zCm C) (v1 : Int32) (v2 : Int32) (v3 : Int32) (v4 : Int32) (v5 : Int32) (m : zM) (h :
    if (gI m 21 0) ≤ v5 then Q (some (.int v4)) m
    else zRun C 4 (some .int) zc_Qu_soonestTouch Q 49 [.ref 90, .int v1, .int v2, .int v3, .int v4, .int v5, .int (0 : Int32), .retAddr 0, .retAddr 0] [] m) :
    zRun C 4 (some .int) zc_Qu_soonestTouch Q 34 [.ref 90, .int v1, .int v2, .int v3, .int v4, .int v5, .retAddr 0, .retAddr 0, .retAddr 0] [] m := zgo [34, 49] hC zs_Qu_soonestTouch (i := .iload 5) (r := zfind zc_Qu_soonestTouch 36) rfl h
set_option maxRecDepth 100000 in
theorem sg_Qu_soonestTouch_49 {C : zC} {Q : zQ} (hC : zCm C) (v1 : Int32) (v2 : Int32) (v3 : Int32) (v4 : Int32) (v5 : Int32) (v6 : Int32) (m : zM) (h :
    if (gI m 21 0) ≤ v6 then zRun C 4 (some .int) zc_Qu_soonestTouch Q 34 [.ref 90, .int v1, .int v2, .int v3, .int v4, .int (v5 + (1 : Int32)), .int v6, .retAddr 0, .retAddr 0] [] m
    else if v5 = v6 then zRun C 4 (some .int) zc_Qu_soonestTouch Q 49 [.ref 90, .int v1, .int v2, .int v3, .int v4, .int v5, .int (v6 + (1 : Int32)), .retAddr 0, .retAddr 0] [] m
      else vp_in v5 8 ∧ (C m_Box_holds [.int (gI m 24 v5.toNatClampNeg), .int v6] m (fun o1 m2 => ∃ x3, o1 = some (.int x3) ∧ (if x3 = (0 : Int32) then C m_Qu_hoursWithTouch [.ref 90, .int v1, .int v2, .int v5, .int v6] m2 (fun o4 m5 => ∃ x6, o4 = some (.int x6) ∧ (if x6 = (-5 : Int32) then zRun C 4 (some .int) zc_Qu_soonestTouch Q 49 [.ref 90, .int v1, .int v2, .int v3, .int v4, .int v5, .int (v6 + (1 : Int32)), .int x6, .int (((x6 * (100 : Int32)) + ((10 : Int32) * v5)) + v6)] [] m5
          else if v3 = (-5 : Int32) then if v4 = (-5 : Int32) then zRun C 4 (some .int) zc_Qu_soonestTouch Q 49 [.ref 90, .int v1, .int v2, .int v3, .int (((x6 * (100 : Int32)) + ((10 : Int32) * v5)) + v6), .int v5, .int (v6 + (1 : Int32)), .int x6, .int (((x6 * (100 : Int32)) + ((10 : Int32) * v5)) + v6)] [] m5
              else if v4 ≤ (((x6 * (100 : Int32)) + ((10 : Int32) * v5)) + v6) then zRun C 4 (some .int) zc_Qu_soonestTouch Q 49 [.ref 90, .int v1, .int v2, .int v3, .int v4, .int v5, .int (v6 + (1 : Int32)), .int x6, .int (((x6 * (100 : Int32)) + ((10 : Int32) * v5)) + v6)] [] m5
                else zRun C 4 (some .int) zc_Qu_soonestTouch Q 49 [.ref 90, .int v1, .int v2, .int v3, .int (((x6 * (100 : Int32)) + ((10 : Int32) * v5)) + v6), .int v5, .int (v6 + (1 : Int32)), .int x6, .int (((x6 * (100 : Int32)) + ((10 : Int32) * v5)) + v6)] [] m5
            else if v3 ≤ x6 then zRun C 4 (some .int) zc_Qu_soonestTouch Q 49 [.ref 90, .int v1, .int v2, .int v3, .int v4, .int v5, .int (v6 + (1 : Int32)), .int x6, .int (((x6 * (100 : Int32)) + ((10 : Int32) * v5)) + v6)] [] m5
              else if v4 = (-5 : Int32) then zRun C 4 (some .int) zc_Qu_soonestTouch Q 49 [.ref 90, .int v1, .int v2, .int v3, .int (((x6 * (100 : Int32)) + ((10 : Int32) * v5)) + v6), .int v5, .int (v6 + (1 : Int32)), .int x6, .int (((x6 * (100 : Int32)) + ((10 : Int32) * v5)) + v6)] [] m5
                else if v4 ≤ (((x6 * (100 : Int32)) + ((10 : Int32) * v5)) + v6) then zRun C 4 (some .int) zc_Qu_soonestTouch Q 49 [.ref 90, .int v1, .int v2, .int v3, .int v4, .int v5, .int (v6 + (1 : Int32)), .int x6, .int (((x6 * (100 : Int32)) + ((10 : Int32) * v5)) + v6)] [] m5
                  else zRun C 4 (some .int) zc_Qu_soonestTouch Q 49 [.ref 90, .int v1, .int v2, .int v3, .int (((x6 * (100 : Int32)) + ((10 : Int32) * v5)) + v6), .int v5, .int (v6 + (1 : Int32)), .int x6, .int (((x6 * (100 : Int32)) + ((10 : Int32) * v5)) + v6)] [] m5))
        else zRun C 4 (some .int) zc_Qu_soonestTouch Q 49 [.ref 90, .int v1, .int v2, .int v3, .int v4, .int v5, .int (v6 + (1 : Int32)), .retAddr 0, .retAddr 0] [] m2)))) :
    zRun C 4 (some .int) zc_Qu_soonestTouch Q 49 [.ref 90, .int v1, .int v2, .int v3, .int v4, .int v5, .int v6, .retAddr 0, .retAddr 0] [] m := zgo [34, 49] hC zs_Qu_soonestTouch (i := .iload 6) (r := zfind zc_Qu_soonestTouch 51) rfl h
theorem en_Qu_soonestTouch (dd : Nat) {Q : zQ} (a : Int32) (b : Int32) (m : zM) (h : zRun (zCall dd) 4 (some .int) zc_Qu_soonestTouch Q 0 [.ref 90, .int a, .int b, .retAddr 0, .retAddr 0, .retAddr 0, .retAddr 0, .retAddr 0, .retAddr 0] [] m) : zCall (dd + 1) m_Qu_soonestTouch [.ref 90, .int a, .int b] m Q := ⟨Nat.le_of_ble_eq_true rfl, h⟩
theorem zs_Qu_hoursWithTouch : zsrt zc_Qu_hoursWithTouch = true := by decide +kernel
set_option maxRecDepth 100000 in
theorem sg_Qu_hoursWithTouch_0 {C : zC} {Q : zQ} (hC : zCm C) (a : Int32) (b : Int32) (c : Int32) (d : Int32) (m : zM) (h :
    vp_in c 8 ∧ (vp_in c 8 ∧ (C m_Box_bit [.int d] m (fun o1 m2 => ∃ x3, o1 = some (.int x3) ∧ (vp_in c 8 ∧ (C m_Hedge_takesOf [.ref 45, .int c] (sI m2 48 c.toNatClampNeg ((gI m 24 c.toNatClampNeg) ||| x3)) (fun o4 m5 => ∃ x6, o4 = some (.int x6) ∧ (vp_in c 8 ∧ (C m_Box_bit [.int a] (sI m5 93 c.toNatClampNeg x6) (fun o7 m8 => ∃ x9, o7 = some (.int x9) ∧ (C m_Hearing_spread [.ref 92, .ref 45, .int x9] m8 (fun o10 m11 => o10 = none ∧ (vp_in c 8 ∧ (vp_in c 8 ∧ (vp_in c 8 ∧ (vp_in b 8 ∧ (Q (some (.int (gI (sI (sI m11 48 c.toNatClampNeg (gI m11 24 c.toNatClampNeg)) 93 c.toNatClampNeg (gI m 93 c.toNatClampNeg)) 94 b.toNatClampNeg))) (sI (sI m11 48 c.toNatClampNeg (gI m11 24 c.toNatClampNeg)) 93 c.toNatClampNeg (gI m 93 c.toNatClampNeg))))))))))))))))))) :
    zRun C 4 (some .int) zc_Qu_hoursWithTouch Q 0 [.ref 90, .int a, .int b, .int c, .int d, .retAddr 0] [] m := zgo [] hC zs_Qu_hoursWithTouch (i := .aload_n 0) (r := zfind zc_Qu_hoursWithTouch 1) rfl h
theorem en_Qu_hoursWithTouch (dd : Nat) {Q : zQ} (a : Int32) (b : Int32) (c : Int32) (d : Int32) (m : zM) (h : zRun (zCall dd) 4 (some .int) zc_Qu_hoursWithTouch Q 0 [.ref 90, .int a, .int b, .int c, .int d, .retAddr 0] [] m) : zCall (dd + 1) m_Qu_hoursWithTouch [.ref 90, .int a, .int b, .int c, .int d] m Q := ⟨Nat.le_of_ble_eq_true rfl, h⟩
theorem zs_Qu_bestListener : zsrt zc_Qu_bestListener = true := by decide +kernel
set_option maxRecDepth 100000 in
theorem sg_Qu_bestListener_0 {C : zC} {Q : zQ} (hC : zCm C) (a : Int32) (m : zM) (h :
    C m_Hearing_measure [.ref 92, .ref 21] m (fun o1 m2 => o1 = none ∧ (zRun C 4 (some .int) zc_Qu_bestListener Q 13 [.ref 90, .int a, .int (0 : Int32), .retAddr 0, .retAddr 0, .retAddr 0] [] m2))) :
    zRun C 4 (some .int) zc_Qu_bestListener Q 0 [.ref 90, .int a, .retAddr 0, .retAddr 0, .retAddr 0, .retAddr 0] [] m := zgo [13, 53, 136] hC zs_Qu_bestListener (i := .aload_n 0) (r := zfind zc_Qu_bestListener 1) rfl h
set_option maxRecDepth 100000 in
theorem sg_Qu_bestListener_13 {C : zC} {Q : zQ} (hC : zCm C) (v1 : Int32) (v2 : Int32) (m : zM) (h :
    if (gI m 21 0) ≤ v2 then zRun C 4 (some .int) zc_Qu_bestListener Q 136 [.ref 90, .int v1, .int (-5 : Int32), .int (0 : Int32), .int (0 : Int32), .retAddr 0] [] m
    else C m_Box_bit [.int v2] m (fun o1 m2 => ∃ x3, o1 = some (.int x3) ∧ (C m_Hearing_spread [.ref 92, .ref 21, .int x3] m2 (fun o4 m5 => o4 = none ∧ (C m_Hearing_speak [.ref 92, .ref 21, .int v1] m5 (fun o6 m7 => o6 = none ∧ (zRun C 4 (some .int) zc_Qu_bestListener Q 53 [.ref 90, .int v1, .int v2, .int (0 : Int32), .retAddr 0, .retAddr 0] [] m7))))))) :
    zRun C 4 (some .int) zc_Qu_bestListener Q 13 [.ref 90, .int v1, .int v2, .retAddr 0, .retAddr 0, .retAddr 0] [] m := zgo [13, 53, 136] hC zs_Qu_bestListener (i := .iload_n 2) (r := zfind zc_Qu_bestListener 14) rfl h
set_option maxRecDepth 100000 in
theorem sg_Qu_bestListener_53 {C : zC} {Q : zQ} (hC : zCm C) (v1 : Int32) (v2 : Int32) (v3 : Int32) (m : zM) (h :
    if (gI m 21 0) ≤ v3 then zRun C 4 (some .int) zc_Qu_bestListener Q 13 [.ref 90, .int v1, .int (v2 + (1 : Int32)), .int v3, .retAddr 0, .retAddr 0] [] m
    else vp_in v3 8 ∧ (if ¬ (gI m 94 v3.toNatClampNeg) = (-5 : Int32) then vp_in v3 8 ∧ (C m_Hearing_wordAt [.ref 92, .int v3] m (fun o1 m2 => ∃ x3, o1 = some (.int x3) ∧ (vp_in ((v3 * (8 : Int32)) + v2) 64 ∧ (zRun C 4 (some .int) zc_Qu_bestListener Q 53 [.ref 90, .int v1, .int v2, .int (v3 + (1 : Int32)), .retAddr 0, .retAddr 0] [] (sI m2 91 ((v3 * (8 : Int32)) + v2).toNatClampNeg (((gI m 94 v3.toNatClampNeg) * (10000 : Int32)) + x3))))))
      else vp_in ((v3 * (8 : Int32)) + v2) 64 ∧ (zRun C 4 (some .int) zc_Qu_bestListener Q 53 [.ref 90, .int v1, .int v2, .int (v3 + (1 : Int32)), .retAddr 0, .retAddr 0] [] (sI m 91 ((v3 * (8 : Int32)) + v2).toNatClampNeg (-5 : Int32))))) :
    zRun C 4 (some .int) zc_Qu_bestListener Q 53 [.ref 90, .int v1, .int v2, .int v3, .retAddr 0, .retAddr 0] [] m := zgo [13, 53, 136] hC zs_Qu_bestListener (i := .iload_n 3) (r := zfind zc_Qu_bestListener 54) rfl h
set_option maxRecDepth 100000 in
theorem sg_Qu_bestListener_136 {C : zC} {Q : zQ} (hC : zCm C) (v1 : Int32) (v2 : Int32) (v3 : Int32) (v4 : Int32) (m : zM) (h :
    if (gI m 21 0) ≤ v4 then Q (some (.int v2)) m
    else C m_Qu_unlikeHearings [.ref 90, .int v4] m (fun o1 m2 => ∃ x3, o1 = some (.int x3) ∧ (if x3 ≤ v3 then zRun C 4 (some .int) zc_Qu_bestListener Q 136 [.ref 90, .int v1, .int v2, .int v3, .int (v4 + (1 : Int32)), .int x3] [] m2
      else zRun C 4 (some .int) zc_Qu_bestListener Q 136 [.ref 90, .int v1, .int v4, .int x3, .int (v4 + (1 : Int32)), .int x3] [] m2))) :
    zRun C 4 (some .int) zc_Qu_bestListener Q 136 [.ref 90, .int v1, .int v2, .int v3, .int v4, .retAddr 0] [] m := zgo [13, 53, 136] hC zs_Qu_bestListener (i := .iload 4) (r := zfind zc_Qu_bestListener 138) rfl h
theorem en_Qu_bestListener (dd : Nat) {Q : zQ} (a : Int32) (m : zM) (h : zRun (zCall dd) 4 (some .int) zc_Qu_bestListener Q 0 [.ref 90, .int a, .retAddr 0, .retAddr 0, .retAddr 0, .retAddr 0] [] m) : zCall (dd + 1) m_Qu_bestListener [.ref 90, .int a] m Q := ⟨Nat.le_of_ble_eq_true rfl, h⟩
theorem zs_Qu_unlikeHearings : zsrt zc_Qu_unlikeHearings = true := by decide +kernel
set_option maxRecDepth 100000 in
theorem sg_Qu_unlikeHearings_0 {C : zC} {Q : zQ} (hC : zCm C) (a : Int32) (m : zM) (h :
    zRun C 4 (some .int) zc_Qu_unlikeHearings Q 10 [.ref 90, .int a, .int (a * (8 : Int32)), .int (0 : Int32), .int (0 : Int32), .retAddr 0, .retAddr 0] [] m) :
    zRun C 4 (some .int) zc_Qu_unlikeHearings Q 0 [.ref 90, .int a, .retAddr 0, .retAddr 0, .retAddr 0, .retAddr 0, .retAddr 0] [] m := zgo [10, 28] hC zs_Qu_unlikeHearings (i := .iload_n 1) (r := zfind zc_Qu_unlikeHearings 1) rfl h
set_option maxRecDepth 100000 in
theorem sg_Qu_unlikeHearings_10 {C : zC} {Q : zQ} (hC : zCm C) (v1 : Int32) (v2 : Int32) (v3 : Int32) (v4 : Int32) (m : zM) (h :
    if (gI m 21 0) ≤ v4 then Q (some (.int v3)) m
    else zRun C 4 (some .int) zc_Qu_unlikeHearings Q 28 [.ref 90, .int v1, .int v2, .int v3, .int v4, .int (0 : Int32), .int (0 : Int32)] [] m) :
    zRun C 4 (some .int) zc_Qu_unlikeHearings Q 10 [.ref 90, .int v1, .int v2, .int v3, .int v4, .retAddr 0, .retAddr 0] [] m := zgo [10, 28] hC zs_Qu_unlikeHearings (i := .iload 4) (r := zfind zc_Qu_unlikeHearings 12) rfl h
set_option maxRecDepth 100000 in
theorem sg_Qu_unlikeHearings_28 {C : zC} {Q : zQ} (hC : zCm C) (v1 : Int32) (v2 : Int32) (v3 : Int32) (v4 : Int32) (v5 : Int32) (v6 : Int32) (m : zM) (h :
    if v4 ≤ v6 then if v5 = (0 : Int32) then zRun C 4 (some .int) zc_Qu_unlikeHearings Q 10 [.ref 90, .int v1, .int v2, .int (v3 + (1 : Int32)), .int (v4 + (1 : Int32)), .int v5, .int v6] [] m
      else zRun C 4 (some .int) zc_Qu_unlikeHearings Q 10 [.ref 90, .int v1, .int v2, .int (v3 + (0 : Int32)), .int (v4 + (1 : Int32)), .int v5, .int v6] [] m
    else if ¬ v5 = (0 : Int32) then zRun C 4 (some .int) zc_Qu_unlikeHearings Q 28 [.ref 90, .int v1, .int v2, .int v3, .int v4, .int (1 : Int32), .int (v6 + (1 : Int32))] [] m
      else vp_in (v2 + v6) 64 ∧ (vp_in (v2 + v4) 64 ∧ (if ¬ (gI m 91 (v2 + v6).toNatClampNeg) = (gI m 91 (v2 + v4).toNatClampNeg) then zRun C 4 (some .int) zc_Qu_unlikeHearings Q 28 [.ref 90, .int v1, .int v2, .int v3, .int v4, .int (0 : Int32), .int (v6 + (1 : Int32))] [] m
        else zRun C 4 (some .int) zc_Qu_unlikeHearings Q 28 [.ref 90, .int v1, .int v2, .int v3, .int v4, .int (1 : Int32), .int (v6 + (1 : Int32))] [] m))) :
    zRun C 4 (some .int) zc_Qu_unlikeHearings Q 28 [.ref 90, .int v1, .int v2, .int v3, .int v4, .int v5, .int v6] [] m := zgo [10, 28] hC zs_Qu_unlikeHearings (i := .iload 6) (r := zfind zc_Qu_unlikeHearings 30) rfl h
theorem en_Qu_unlikeHearings (dd : Nat) {Q : zQ} (a : Int32) (m : zM) (h : zRun (zCall dd) 4 (some .int) zc_Qu_unlikeHearings Q 0 [.ref 90, .int a, .retAddr 0, .retAddr 0, .retAddr 0, .retAddr 0, .retAddr 0] [] m) : zCall (dd + 1) m_Qu_unlikeHearings [.ref 90, .int a] m Q := ⟨Nat.le_of_ble_eq_true rfl, h⟩
theorem zs_Qu_waysToHaveSaid : zsrt zc_Qu_waysToHaveSaid = true := by decide +kernel
set_option maxRecDepth 100000 in
theorem sg_Qu_waysToHaveSaid_0 {C : zC} {Q : zQ} (hC : zCm C) (a : Int32) (m : zM) (h :
    C m_Hearing_measure [.ref 92, .ref 21] m (fun o1 m2 => o1 = none ∧ (zRun C 4 (some .int) zc_Qu_waysToHaveSaid Q 15 [.ref 90, .int a, .int (0 : Int32), .int (0 : Int32), .retAddr 0] [] m2))) :
    zRun C 4 (some .int) zc_Qu_waysToHaveSaid Q 0 [.ref 90, .int a, .retAddr 0, .retAddr 0, .retAddr 0] [] m := zgo [15, 54] hC zs_Qu_waysToHaveSaid (i := .iconst 0) (r := zfind zc_Qu_waysToHaveSaid 1) rfl h
set_option maxRecDepth 100000 in
theorem sg_Qu_waysToHaveSaid_15 {C : zC} {Q : zQ} (hC : zCm C) (v1 : Int32) (v2 : Int32) (v3 : Int32) (m : zM) (h :
    if (gI m 21 0) ≤ v3 then if v1 = (0 : Int32) then Q (some (.int v2)) m
      else Q (some (.int (-5 : Int32))) m
    else C m_Box_bit [.int v3] m (fun o1 m2 => ∃ x3, o1 = some (.int x3) ∧ (C m_Hearing_spread [.ref 92, .ref 21, .int x3] m2 (fun o4 m5 => o4 = none ∧ (C m_Qu_isSeenInTime [.ref 90] m5 (fun o6 m7 => ∃ x8, o6 = some (.int x8) ∧ (if ¬ x8 = (0 : Int32) then zRun C 4 (some .int) zc_Qu_waysToHaveSaid Q 54 [.ref 90, .int v1, .int v2, .int v3, .int (0 : Int32)] [] m7
      else zRun C 4 (some .int) zc_Qu_waysToHaveSaid Q 15 [.ref 90, .int v1, .int v2, .int (v3 + (1 : Int32)), .retAddr 0] [] m7))))))) :
    zRun C 4 (some .int) zc_Qu_waysToHaveSaid Q 15 [.ref 90, .int v1, .int v2, .int v3, .retAddr 0] [] m := zgo [15, 54] hC zs_Qu_waysToHaveSaid (i := .iload_n 3) (r := zfind zc_Qu_waysToHaveSaid 16) rfl h
set_option maxRecDepth 100000 in
theorem sg_Qu_waysToHaveSaid_54 {C : zC} {Q : zQ} (hC : zCm C) (v1 : Int32) (v2 : Int32) (v3 : Int32) (v4 : Int32) (m : zM) (h :
    if (100 : Int32) ≤ v4 then zRun C 4 (some .int) zc_Qu_waysToHaveSaid Q 15 [.ref 90, .int v1, .int v2, .int (v3 + (1 : Int32)), .int v4] [] m
    else C m_Hearing_speak [.ref 92, .ref 21, .int v4] m (fun o1 m2 => o1 = none ∧ (C m_Qu_isSeenAsWords [.ref 90] m2 (fun o3 m4 => ∃ x5, o3 = some (.int x5) ∧ (if ¬ x5 = (0 : Int32) then if v1 = (0 : Int32) then zRun C 4 (some .int) zc_Qu_waysToHaveSaid Q 54 [.ref 90, .int v1, .int (v2 + (1 : Int32)), .int v3, .int (v4 + (1 : Int32))] [] m4
        else Q (some (.int (((100 : Int32) * v3) + v4))) m4
      else zRun C 4 (some .int) zc_Qu_waysToHaveSaid Q 54 [.ref 90, .int v1, .int v2, .int v3, .int (v4 + (1 : Int32))] [] m4))))) :
    zRun C 4 (some .int) zc_Qu_waysToHaveSaid Q 54 [.ref 90, .int v1, .int v2, .int v3, .int v4] [] m := zgo [15, 54] hC zs_Qu_waysToHaveSaid (i := .iload 4) (r := zfind zc_Qu_waysToHaveSaid 56) rfl h
theorem en_Qu_waysToHaveSaid (dd : Nat) {Q : zQ} (a : Int32) (m : zM) (h : zRun (zCall dd) 4 (some .int) zc_Qu_waysToHaveSaid Q 0 [.ref 90, .int a, .retAddr 0, .retAddr 0, .retAddr 0] [] m) : zCall (dd + 1) m_Qu_waysToHaveSaid [.ref 90, .int a] m Q := ⟨Nat.le_of_ble_eq_true rfl, h⟩
theorem zs_Qu_isSeenInTime : zsrt zc_Qu_isSeenInTime = true := by decide +kernel
set_option maxRecDepth 100000 in
theorem sg_Qu_isSeenInTime_0 {C : zC} {Q : zQ} (hC : zCm C) (m : zM) (h :
    zRun C 4 (some .boolean) zc_Qu_isSeenInTime Q 2 [.ref 90, .int (0 : Int32)] [] m) :
    zRun C 4 (some .boolean) zc_Qu_isSeenInTime Q 0 [.ref 90, .retAddr 0] [] m := zgo [2] hC zs_Qu_isSeenInTime (i := .iconst 0) (r := zfind zc_Qu_isSeenInTime 1) rfl h
set_option maxRecDepth 100000 in
theorem sg_Qu_isSeenInTime_2 {C : zC} {Q : zQ} (hC : zCm C) (v1 : Int32) (m : zM) (h :
    if (gI m 27 0) ≤ v1 then (1 : Int32) &&& 1 = (1 : Int32) ∧ Q (some (.int (1 : Int32))) m
    else C m_Rows_cell [.ref 27, .int v1, .int (0 : Int32)] m (fun o1 m2 => ∃ x3, o1 = some (.int x3) ∧ (vp_in x3 8 ∧ (C m_Rows_cell [.ref 27, .int v1, .int (2 : Int32)] m2 (fun o4 m5 => ∃ x6, o4 = some (.int x6) ∧ (if (gI m2 94 x3.toNatClampNeg) = x6 then zRun C 4 (some .boolean) zc_Qu_isSeenInTime Q 2 [.ref 90, .int (v1 + (1 : Int32))] [] m5
      else (0 : Int32) &&& 1 = (0 : Int32) ∧ Q (some (.int (0 : Int32))) m5)))))) :
    zRun C 4 (some .boolean) zc_Qu_isSeenInTime Q 2 [.ref 90, .int v1] [] m := zgo [2] hC zs_Qu_isSeenInTime (i := .iload_n 1) (r := zfind zc_Qu_isSeenInTime 3) rfl h
theorem en_Qu_isSeenInTime (dd : Nat) {Q : zQ} (m : zM) (h : zRun (zCall dd) 4 (some .boolean) zc_Qu_isSeenInTime Q 0 [.ref 90, .retAddr 0] [] m) : zCall (dd + 1) m_Qu_isSeenInTime [.ref 90] m Q := ⟨Nat.le_of_ble_eq_true rfl, h⟩
theorem zs_Qu_isSeenAsWords : zsrt zc_Qu_isSeenAsWords = true := by decide +kernel
set_option maxRecDepth 100000 in
theorem sg_Qu_isSeenAsWords_0 {C : zC} {Q : zQ} (hC : zCm C) (m : zM) (h :
    zRun C 4 (some .boolean) zc_Qu_isSeenAsWords Q 2 [.ref 90, .int (0 : Int32)] [] m) :
    zRun C 4 (some .boolean) zc_Qu_isSeenAsWords Q 0 [.ref 90, .retAddr 0] [] m := zgo [2] hC zs_Qu_isSeenAsWords (i := .iconst 0) (r := zfind zc_Qu_isSeenAsWords 1) rfl h
set_option maxRecDepth 100000 in
theorem sg_Qu_isSeenAsWords_2 {C : zC} {Q : zQ} (hC : zCm C) (v1 : Int32) (m : zM) (h :
    if (gI m 27 0) ≤ v1 then (1 : Int32) &&& 1 = (1 : Int32) ∧ Q (some (.int (1 : Int32))) m
    else C m_Rows_cell [.ref 27, .int v1, .int (0 : Int32)] m (fun o1 m2 => ∃ x3, o1 = some (.int x3) ∧ (C m_Hearing_wordAt [.ref 92, .int x3] m2 (fun o4 m5 => ∃ x6, o4 = some (.int x6) ∧ (C m_Rows_cell [.ref 27, .int v1, .int (1 : Int32)] m5 (fun o7 m8 => ∃ x9, o7 = some (.int x9) ∧ (if x6 = x9 then zRun C 4 (some .boolean) zc_Qu_isSeenAsWords Q 2 [.ref 90, .int (v1 + (1 : Int32))] [] m8
      else (0 : Int32) &&& 1 = (0 : Int32) ∧ Q (some (.int (0 : Int32))) m8))))))) :
    zRun C 4 (some .boolean) zc_Qu_isSeenAsWords Q 2 [.ref 90, .int v1] [] m := zgo [2] hC zs_Qu_isSeenAsWords (i := .iload_n 1) (r := zfind zc_Qu_isSeenAsWords 3) rfl h
theorem en_Qu_isSeenAsWords (dd : Nat) {Q : zQ} (m : zM) (h : zRun (zCall dd) 4 (some .boolean) zc_Qu_isSeenAsWords Q 0 [.ref 90, .retAddr 0] [] m) : zCall (dd + 1) m_Qu_isSeenAsWords [.ref 90] m Q := ⟨Nat.le_of_ble_eq_true rfl, h⟩
theorem zs_Qu_oddsBetween : zsrt zc_Qu_oddsBetween = true := by decide +kernel
set_option maxRecDepth 100000 in
theorem sg_Qu_oddsBetween_0 {C : zC} {Q : zQ} (hC : zCm C) (a : Int32) (b : Int32) (c : Int32) (m : zM) (h :
    zRun C 4 (some .long) zc_Qu_oddsBetween Q 9 [.ref 90, .int a, .int b, .int c, .int (0 : Int32), .int (0 : Int32), .int (0 : Int32)] [] m) :
    zRun C 4 (some .long) zc_Qu_oddsBetween Q 0 [.ref 90, .int a, .int b, .int c, .retAddr 0, .retAddr 0, .retAddr 0] [] m := zgo [9] hC zs_Qu_oddsBetween (i := .iconst 0) (r := zfind zc_Qu_oddsBetween 1) rfl h
set_option maxRecDepth 100000 in
theorem sg_Qu_oddsBetween_9 {C : zC} {Q : zQ} (hC : zCm C) (v1 : Int32) (v2 : Int32) (v3 : Int32) (v4 : Int32) (v5 : Int32) (v6 : Int32) (m : zM) (h :
    if (gI m 21 0) ≤ v6 then C m_Qu_lowest [.int v5, .int v4, .int v3] m (fun o1 m2 => ∃ y3, o1 = some (.long y3) ∧ (Q (some (.long y3)) m2))
    else if v6 = v1 then zRun C 4 (some .long) zc_Qu_oddsBetween Q 9 [.ref 90, .int v1, .int v2, .int v3, .int v4, .int v5, .int (v6 + (1 : Int32))] [] m
      else if v6 = v2 then zRun C 4 (some .long) zc_Qu_oddsBetween Q 9 [.ref 90, .int v1, .int v2, .int v3, .int v4, .int v5, .int (v6 + (1 : Int32))] [] m
        else C m_Hedge_isDead [.ref 21, .int v6] m (fun o4 m5 => ∃ x6, o4 = some (.int x6) ∧ (if x6 = (0 : Int32) then C m_Box_bit [.int v6] m5 (fun o7 m8 => ∃ x9, o7 = some (.int x9) ∧ (C m_Qu_reaches [.ref 90, .int v1, .int v2, .int x9] m8 (fun o10 m11 => ∃ x12, o10 = some (.int x12) ∧ (if x12 = (0 : Int32) then zRun C 4 (some .long) zc_Qu_oddsBetween Q 9 [.ref 90, .int v1, .int v2, .int v3, .int (v4 + (1 : Int32)), .int (v5 + (0 : Int32)), .int (v6 + (1 : Int32))] [] m11
            else zRun C 4 (some .long) zc_Qu_oddsBetween Q 9 [.ref 90, .int v1, .int v2, .int v3, .int (v4 + (1 : Int32)), .int (v5 + (1 : Int32)), .int (v6 + (1 : Int32))] [] m11))))
          else zRun C 4 (some .long) zc_Qu_oddsBetween Q 9 [.ref 90, .int v1, .int v2, .int v3, .int v4, .int v5, .int (v6 + (1 : Int32))] [] m5))) :
    zRun C 4 (some .long) zc_Qu_oddsBetween Q 9 [.ref 90, .int v1, .int v2, .int v3, .int v4, .int v5, .int v6] [] m := zgo [9] hC zs_Qu_oddsBetween (i := .iload 6) (r := zfind zc_Qu_oddsBetween 11) rfl h
theorem en_Qu_oddsBetween (dd : Nat) {Q : zQ} (a : Int32) (b : Int32) (c : Int32) (m : zM) (h : zRun (zCall dd) 4 (some .long) zc_Qu_oddsBetween Q 0 [.ref 90, .int a, .int b, .int c, .retAddr 0, .retAddr 0, .retAddr 0] [] m) : zCall (dd + 1) m_Qu_oddsBetween [.ref 90, .int a, .int b, .int c] m Q := ⟨Nat.le_of_ble_eq_true rfl, h⟩
theorem zs_Qu_meanHours : zsrt zc_Qu_meanHours = true := by decide +kernel
set_option maxRecDepth 100000 in
theorem sg_Qu_meanHours_0 {C : zC} {Q : zQ} (hC : zCm C) (a : Int32) (b : Int32) (m : zM) (h :
    C m_Qu_say [.ref 90, .int a, .int (0 : Int32)] m (fun o1 m2 => o1 = none ∧ (zRun C 4 (some .long) zc_Qu_meanHours Q 11 [.ref 90, .int a, .int b, .int (0 : Int32), .int (0 : Int32)] [] m2))) :
    zRun C 4 (some .long) zc_Qu_meanHours Q 0 [.ref 90, .int a, .int b, .retAddr 0, .retAddr 0] [] m := zgo [11] hC zs_Qu_meanHours (i := .aload_n 0) (r := zfind zc_Qu_meanHours 1) rfl h
set_option maxRecDepth 100000 in
theorem sg_Qu_meanHours_11 {C : zC} {Q : zQ} (hC : zCm C) (v1 : Int32) (v2 : Int32) (v3 : Int32) (v4 : Int32) (m : zM) (h :
    if (gI m 92 4) ≤ v4 then C m_Qu_lowest [.int v3, .int (gI m 92 4), .int v2] m (fun o1 m2 => ∃ y3, o1 = some (.long y3) ∧ (Q (some (.long y3)) m2))
    else vp_in v4 8 ∧ (vp_in (gI m 96 v4.toNatClampNeg) 8 ∧ (zRun C 4 (some .long) zc_Qu_meanHours Q 11 [.ref 90, .int v1, .int v2, .int (v3 + (gI m 94 (gI m 96 v4.toNatClampNeg).toNatClampNeg)), .int (v4 + (1 : Int32))] [] m))) :
    zRun C 4 (some .long) zc_Qu_meanHours Q 11 [.ref 90, .int v1, .int v2, .int v3, .int v4] [] m := zgo [11] hC zs_Qu_meanHours (i := .iload 4) (r := zfind zc_Qu_meanHours 13) rfl h
theorem en_Qu_meanHours (dd : Nat) {Q : zQ} (a : Int32) (b : Int32) (m : zM) (h : zRun (zCall dd) 4 (some .long) zc_Qu_meanHours Q 0 [.ref 90, .int a, .int b, .retAddr 0, .retAddr 0] [] m) : zCall (dd + 1) m_Qu_meanHours [.ref 90, .int a, .int b] m Q := ⟨Nat.le_of_ble_eq_true rfl, h⟩
theorem zs_Qu_lowest : zsrt zc_Qu_lowest = true := by decide +kernel
set_option maxRecDepth 100000 in
theorem sg_Qu_lowest_0 {C : zC} {Q : zQ} (hC : zCm C) (a : Int32) (b : Int32) (c : Int32) (m : zM) (h :
    zRun C 4 (some .long) zc_Qu_lowest Q 2 [.int a, .int b, .int c, .int b] [] m) :
    zRun C 4 (some .long) zc_Qu_lowest Q 0 [.int a, .int b, .int c, .retAddr 0] [] m := zgo [2] hC zs_Qu_lowest (i := .iload_n 1) (r := zfind zc_Qu_lowest 1) rfl h
set_option maxRecDepth 100000 in
theorem sg_Qu_lowest_2 {C : zC} {Q : zQ} (hC : zCm C) (v0 : Int32) (v1 : Int32) (v2 : Int32) (v3 : Int32) (m : zM) (h :
    if v3 ≤ (0 : Int32) then Q (some (.long (-9223372036854775808 : Int64))) m
    else ¬ v3 = 0 ∧ (if ¬ (v0 - v0 / v3 * v3) = (0 : Int32) then zRun C 4 (some .long) zc_Qu_lowest Q 2 [.int v0, .int v1, .int v2, .int (v3 + (-1 : Int32))] [] m
      else ¬ v3 = 0 ∧ (if ¬ (v1 - v1 / v3 * v3) = (0 : Int32) then zRun C 4 (some .long) zc_Qu_lowest Q 2 [.int v0, .int v1, .int v2, .int (v3 + (-1 : Int32))] [] m
        else if ¬ v2 = (0 : Int32) then ¬ v3 = 0 ∧ (Q (some (.long ((v1 / v3).toInt64))) m)
          else ¬ v3 = 0 ∧ (Q (some (.long ((v0 / v3).toInt64))) m)))) :
    zRun C 4 (some .long) zc_Qu_lowest Q 2 [.int v0, .int v1, .int v2, .int v3] [] m := zgo [2] hC zs_Qu_lowest (i := .iload_n 3) (r := zfind zc_Qu_lowest 3) rfl h
theorem en_Qu_lowest (dd : Nat) {Q : zQ} (a : Int32) (b : Int32) (c : Int32) (m : zM) (h : zRun (zCall dd) 4 (some .long) zc_Qu_lowest Q 0 [.int a, .int b, .int c, .retAddr 0] [] m) : zCall (dd + 1) m_Qu_lowest [.int a, .int b, .int c] m Q := ⟨Nat.le_of_ble_eq_true rfl, h⟩
theorem zs_Qu_hoursAfterThePlan : zsrt zc_Qu_hoursAfterThePlan = true := by decide +kernel
set_option maxRecDepth 100000 in
theorem sg_Qu_hoursAfterThePlan_0 {C : zC} {Q : zQ} (hC : zCm C) (a : Int32) (b : Int32) (m : zM) (h :
    C m_Hedge_become [.ref 45, .ref 21] m (fun o1 m2 => o1 = none ∧ (zRun C 4 (some .int) zc_Qu_hoursAfterThePlan Q 13 [.ref 90, .int a, .int b, .int (0 : Int32), .retAddr 0] [] m2))) :
    zRun C 4 (some .int) zc_Qu_hoursAfterThePlan Q 0 [.ref 90, .int a, .int b, .retAddr 0, .retAddr 0] [] m := zgo [13] hC zs_Qu_hoursAfterThePlan (i := .aload_n 0) (r := zfind zc_Qu_hoursAfterThePlan 1) rfl h
set_option maxRecDepth 100000 in
theorem sg_Qu_hoursAfterThePlan_13 {C : zC} {Q : zQ} (hC : zCm C) (v1 : Int32) (v2 : Int32) (v3 : Int32) (m : zM) (h :
    if (gI m 29 0) ≤ v3 then C m_Hearing_measure [.ref 92, .ref 45] m (fun o1 m2 => o1 = none ∧ (C m_Box_bit [.int v1] m2 (fun o3 m4 => ∃ x5, o3 = some (.int x5) ∧ (C m_Hearing_spread [.ref 92, .ref 45, .int x5] m4 (fun o6 m7 => o6 = none ∧ (vp_in v2 8 ∧ (Q (some (.int (gI m7 94 v2.toNatClampNeg))) m7)))))))
    else C m_Rows_cell [.ref 29, .int v3, .int (0 : Int32)] m (fun o8 m9 => ∃ x10, o8 = some (.int x10) ∧ (if x10 = (0 : Int32) then C m_Rows_cell [.ref 29, .int v3, .int (1 : Int32)] m9 (fun o11 m12 => ∃ x13, o11 = some (.int x13) ∧ (if ¬ x10 = (0 : Int32) then C m_Box_with [.int (gI m9 45 5), .int x13, .int (0 : Int32)] m12 (fun o14 m15 => ∃ x16, o14 = some (.int x16) ∧ (zRun C 4 (some .int) zc_Qu_hoursAfterThePlan Q 13 [.ref 90, .int v1, .int v2, .int (v3 + (1 : Int32)), .int x10] [] (sI m15 45 5 x16)))
        else C m_Box_with [.int (gI m9 45 5), .int x13, .int (1 : Int32)] m12 (fun o17 m18 => ∃ x19, o17 = some (.int x19) ∧ (zRun C 4 (some .int) zc_Qu_hoursAfterThePlan Q 13 [.ref 90, .int v1, .int v2, .int (v3 + (1 : Int32)), .int x10] [] (sI m18 45 5 x19)))))
      else if ¬ x10 = (1 : Int32) then zRun C 4 (some .int) zc_Qu_hoursAfterThePlan Q 13 [.ref 90, .int v1, .int v2, .int (v3 + (1 : Int32)), .int x10] [] (sI m9 45 6 ((gI m9 45 6) + (6 : Int32)))
        else C m_Rows_cell [.ref 29, .int v3, .int (1 : Int32)] m9 (fun o20 m21 => ∃ x22, o20 = some (.int x22) ∧ (if ¬ x10 = (0 : Int32) then C m_Box_with [.int (gI m9 45 5), .int x22, .int (0 : Int32)] m21 (fun o23 m24 => ∃ x25, o23 = some (.int x25) ∧ (zRun C 4 (some .int) zc_Qu_hoursAfterThePlan Q 13 [.ref 90, .int v1, .int v2, .int (v3 + (1 : Int32)), .int x10] [] (sI m24 45 5 x25)))
          else C m_Box_with [.int (gI m9 45 5), .int x22, .int (1 : Int32)] m21 (fun o26 m27 => ∃ x28, o26 = some (.int x28) ∧ (zRun C 4 (some .int) zc_Qu_hoursAfterThePlan Q 13 [.ref 90, .int v1, .int v2, .int (v3 + (1 : Int32)), .int x10] [] (sI m27 45 5 x28)))))))) :
    zRun C 4 (some .int) zc_Qu_hoursAfterThePlan Q 13 [.ref 90, .int v1, .int v2, .int v3, .retAddr 0] [] m := zgo [13] hC zs_Qu_hoursAfterThePlan (i := .iload_n 3) (r := zfind zc_Qu_hoursAfterThePlan 14) rfl h
theorem en_Qu_hoursAfterThePlan (dd : Nat) {Q : zQ} (a : Int32) (b : Int32) (m : zM) (h : zRun (zCall dd) 4 (some .int) zc_Qu_hoursAfterThePlan Q 0 [.ref 90, .int a, .int b, .retAddr 0, .retAddr 0] [] m) : zCall (dd + 1) m_Qu_hoursAfterThePlan [.ref 90, .int a, .int b] m Q := ⟨Nat.le_of_ble_eq_true rfl, h⟩
theorem zs_Qu_firstWrongInTheBook : zsrt zc_Qu_firstWrongInTheBook = true := by decide +kernel
set_option maxRecDepth 100000 in
theorem sg_Qu_firstWrongInTheBook_0 {C : zC} {Q : zQ} (hC : zCm C) (m : zM) (h :
    C m_Hearing_measure [.ref 92, .ref 21] m (fun o1 m2 => o1 = none ∧ (zRun C 4 (some .int) zc_Qu_firstWrongInTheBook Q 13 [.ref 90, .int (0 : Int32)] [] m2))) :
    zRun C 4 (some .int) zc_Qu_firstWrongInTheBook Q 0 [.ref 90, .retAddr 0] [] m := zgo [13] hC zs_Qu_firstWrongInTheBook (i := .aload_n 0) (r := zfind zc_Qu_firstWrongInTheBook 1) rfl h
set_option maxRecDepth 100000 in
theorem sg_Qu_firstWrongInTheBook_13 {C : zC} {Q : zQ} (hC : zCm C) (v1 : Int32) (m : zM) (h :
    if (gI m 31 0) ≤ v1 then Q (some (.int (-5 : Int32))) m
    else C m_Rows_cell [.ref 31, .int v1, .int (0 : Int32)] m (fun o1 m2 => ∃ x3, o1 = some (.int x3) ∧ (C m_Box_bit [.int x3] m2 (fun o4 m5 => ∃ x6, o4 = some (.int x6) ∧ (C m_Hearing_spread [.ref 92, .ref 21, .int x6] m5 (fun o7 m8 => o7 = none ∧ (C m_Rows_cell [.ref 31, .int v1, .int (1 : Int32)] m8 (fun o9 m10 => ∃ x11, o9 = some (.int x11) ∧ (vp_in x11 8 ∧ (C m_Rows_cell [.ref 31, .int v1, .int (2 : Int32)] m10 (fun o12 m13 => ∃ x14, o12 = some (.int x14) ∧ (if (gI m10 94 x11.toNatClampNeg) = x14 then zRun C 4 (some .int) zc_Qu_firstWrongInTheBook Q 13 [.ref 90, .int (v1 + (1 : Int32))] [] m13
      else Q (some (.int v1)) m13)))))))))))) :
    zRun C 4 (some .int) zc_Qu_firstWrongInTheBook Q 13 [.ref 90, .int v1] [] m := zgo [13] hC zs_Qu_firstWrongInTheBook (i := .iload_n 1) (r := zfind zc_Qu_firstWrongInTheBook 14) rfl h
theorem en_Qu_firstWrongInTheBook (dd : Nat) {Q : zQ} (m : zM) (h : zRun (zCall dd) 4 (some .int) zc_Qu_firstWrongInTheBook Q 0 [.ref 90, .retAddr 0] [] m) : zCall (dd + 1) m_Qu_firstWrongInTheBook [.ref 90] m Q := ⟨Nat.le_of_ble_eq_true rfl, h⟩
theorem zs_Reader_add : zsrt zc_Reader_add = true := by decide +kernel
set_option maxRecDepth 100000 in
theorem sg_Reader_add_0 {C : zC} {Q : zQ} (hC : zCm C) (a : Int32) (m : zM) (h :
    if (gI m 88 0) < (100 : Int32) then vp_in (gI m 88 0) 100 ∧ (Q (some (.int (gI (sI (sI m 89 (gI m 88 0).toNatClampNeg a) 88 0 ((gI (sI m 89 (gI m 88 0).toNatClampNeg a) 88 0) + (1 : Int32))) 88 0))) (sI (sI m 89 (gI m 88 0).toNatClampNeg a) 88 0 ((gI (sI m 89 (gI m 88 0).toNatClampNeg a) 88 0) + (1 : Int32))))
    else Q (some (.int (-4 : Int32))) m) :
    zRun C 5 (some .int) zc_Reader_add Q 0 [.ref 88, .int a] [] m := zgo [] hC zs_Reader_add (i := .aload_n 0) (r := zfind zc_Reader_add 1) rfl h
theorem en_Reader_add (dd : Nat) {Q : zQ} (a : Int32) (m : zM) (h : zRun (zCall dd) 5 (some .int) zc_Reader_add Q 0 [.ref 88, .int a] [] m) : zCall (dd + 1) m_Reader_add [.ref 88, .int a] m Q := ⟨Nat.le_of_ble_eq_true rfl, h⟩
theorem zs_Reader_readInto : zsrt zc_Reader_readInto = true := by decide +kernel
set_option maxRecDepth 100000 in
theorem sg_Reader_readInto_58_0 {C : zC} {Q : zQ} (hC : zCm C) (m : zM) (h :
    (∀ q1, gG (sG (sI m 88 2 (0 : Int32)) 88 (some 58)) 88 = some q1 → bif zrc 5 [.ref q1] && (true && true) then (C m_Garden_clear [.ref q1] (sG (sI m 88 2 (0 : Int32)) 88 (some 58)) (fun o2 m3 => o2 = none ∧ (C m_Reader_isClause [.ref 88] m3 (fun o4 m5 => ∃ x6, o4 = some (.int x6) ∧ (zRun C 5 (some .int) zc_Reader_readInto Q 24 [.ref 88, .ref 58, .int x6, .int (1 : Int32)] [] m5))))) else False) ∧
    (gG (sG (sI m 88 2 (0 : Int32)) 88 (some 58)) 88 = none → bif zrc 5 [.null] && (true && true) then (C m_Garden_clear [.null] (sG (sI m 88 2 (0 : Int32)) 88 (some 58)) (fun o7 m8 => o7 = none ∧ (C m_Reader_isClause [.ref 88] m8 (fun o9 m10 => ∃ x11, o9 = some (.int x11) ∧ (zRun C 5 (some .int) zc_Reader_readInto Q 24 [.ref 88, .ref 58, .int x11, .int (1 : Int32)] [] m10))))) else False)) :
    zRun C 5 (some .int) zc_Reader_readInto Q 0 [.ref 88, .ref 58, .retAddr 0, .retAddr 0] [] m := zgo [24] hC zs_Reader_readInto (i := .aload_n 0) (r := zfind zc_Reader_readInto 1) rfl h
set_option maxRecDepth 100000 in
theorem sg_Reader_readInto_58_24 {C : zC} {Q : zQ} (hC : zCm C) (v2 : Int32) (v3 : Int32) (m : zM) (h :
    if (10 : Int32) ≤ v3 then if v2 = (0 : Int32) then Q (some (.int (gI (sI m 88 0 (0 : Int32)) 88 2))) (sI m 88 0 (0 : Int32))
      else if (gI m 88 2) < (gI m 88 0) then Q (some (.int (gI (sI m 88 0 (0 : Int32)) 88 2))) (sI m 88 0 (0 : Int32))
        else Q (some (.int (-1 : Int32))) (sI m 88 0 (0 : Int32))
    else if v2 = (0 : Int32) then if v2 = (0 : Int32) then Q (some (.int (gI (sI m 88 0 (0 : Int32)) 88 2))) (sI m 88 0 (0 : Int32))
        else if (gI m 88 2) < (gI m 88 0) then Q (some (.int (gI (sI m 88 0 (0 : Int32)) 88 2))) (sI m 88 0 (0 : Int32))
          else Q (some (.int (-1 : Int32))) (sI m 88 0 (0 : Int32))
      else if (gI m 88 0) ≤ (gI m 88 2) then if v2 = (0 : Int32) then Q (some (.int (gI (sI m 88 0 (0 : Int32)) 88 2))) (sI m 88 0 (0 : Int32))
          else if (gI m 88 2) < (gI m 88 0) then Q (some (.int (gI (sI m 88 0 (0 : Int32)) 88 2))) (sI m 88 0 (0 : Int32))
            else Q (some (.int (-1 : Int32))) (sI m 88 0 (0 : Int32))
        else C m_Reader_skips [.ref 88, .int (59 : Int32)] m (fun o1 m2 => ∃ x3, o1 = some (.int x3) ∧ (if x3 = (0 : Int32) then zRun C 5 (some .int) zc_Reader_readInto Q 24 [.ref 88, .ref 58, .int (0 : Int32), .int (v3 + (1 : Int32))] [] m2
          else C m_Reader_isClause [.ref 88] m2 (fun o4 m5 => ∃ x6, o4 = some (.int x6) ∧ (if x6 = (0 : Int32) then zRun C 5 (some .int) zc_Reader_readInto Q 24 [.ref 88, .ref 58, .int (0 : Int32), .int (v3 + (1 : Int32))] [] m5
            else zRun C 5 (some .int) zc_Reader_readInto Q 24 [.ref 88, .ref 58, .int (1 : Int32), .int (v3 + (1 : Int32))] [] m5))))) :
    zRun C 5 (some .int) zc_Reader_readInto Q 24 [.ref 88, .ref 58, .int v2, .int v3] [] m := zgo [24] hC zs_Reader_readInto (i := .iload_n 3) (r := zfind zc_Reader_readInto 25) rfl h
theorem en_Reader_readInto_58 (dd : Nat) {Q : zQ} (m : zM) (h : zRun (zCall dd) 5 (some .int) zc_Reader_readInto Q 0 [.ref 88, .ref 58, .retAddr 0, .retAddr 0] [] m) : zCall (dd + 1) m_Reader_readInto [.ref 88, .ref 58] m Q := ⟨Nat.le_of_ble_eq_true rfl, h⟩
set_option maxRecDepth 100000 in
theorem sg_Reader_readInto_63_0 {C : zC} {Q : zQ} (hC : zCm C) (m : zM) (h :
    (∀ q1, gG (sG (sI m 88 2 (0 : Int32)) 88 (some 63)) 88 = some q1 → bif zrc 5 [.ref q1] && (true && true) then (C m_Garden_clear [.ref q1] (sG (sI m 88 2 (0 : Int32)) 88 (some 63)) (fun o2 m3 => o2 = none ∧ (C m_Reader_isClause [.ref 88] m3 (fun o4 m5 => ∃ x6, o4 = some (.int x6) ∧ (zRun C 5 (some .int) zc_Reader_readInto Q 24 [.ref 88, .ref 63, .int x6, .int (1 : Int32)] [] m5))))) else False) ∧
    (gG (sG (sI m 88 2 (0 : Int32)) 88 (some 63)) 88 = none → bif zrc 5 [.null] && (true && true) then (C m_Garden_clear [.null] (sG (sI m 88 2 (0 : Int32)) 88 (some 63)) (fun o7 m8 => o7 = none ∧ (C m_Reader_isClause [.ref 88] m8 (fun o9 m10 => ∃ x11, o9 = some (.int x11) ∧ (zRun C 5 (some .int) zc_Reader_readInto Q 24 [.ref 88, .ref 63, .int x11, .int (1 : Int32)] [] m10))))) else False)) :
    zRun C 5 (some .int) zc_Reader_readInto Q 0 [.ref 88, .ref 63, .retAddr 0, .retAddr 0] [] m := zgo [24] hC zs_Reader_readInto (i := .aload_n 0) (r := zfind zc_Reader_readInto 1) rfl h
set_option maxRecDepth 100000 in
theorem sg_Reader_readInto_63_24 {C : zC} {Q : zQ} (hC : zCm C) (v2 : Int32) (v3 : Int32) (m : zM) (h :
    if (10 : Int32) ≤ v3 then if v2 = (0 : Int32) then Q (some (.int (gI (sI m 88 0 (0 : Int32)) 88 2))) (sI m 88 0 (0 : Int32))
      else if (gI m 88 2) < (gI m 88 0) then Q (some (.int (gI (sI m 88 0 (0 : Int32)) 88 2))) (sI m 88 0 (0 : Int32))
        else Q (some (.int (-1 : Int32))) (sI m 88 0 (0 : Int32))
    else if v2 = (0 : Int32) then if v2 = (0 : Int32) then Q (some (.int (gI (sI m 88 0 (0 : Int32)) 88 2))) (sI m 88 0 (0 : Int32))
        else if (gI m 88 2) < (gI m 88 0) then Q (some (.int (gI (sI m 88 0 (0 : Int32)) 88 2))) (sI m 88 0 (0 : Int32))
          else Q (some (.int (-1 : Int32))) (sI m 88 0 (0 : Int32))
      else if (gI m 88 0) ≤ (gI m 88 2) then if v2 = (0 : Int32) then Q (some (.int (gI (sI m 88 0 (0 : Int32)) 88 2))) (sI m 88 0 (0 : Int32))
          else if (gI m 88 2) < (gI m 88 0) then Q (some (.int (gI (sI m 88 0 (0 : Int32)) 88 2))) (sI m 88 0 (0 : Int32))
            else Q (some (.int (-1 : Int32))) (sI m 88 0 (0 : Int32))
        else C m_Reader_skips [.ref 88, .int (59 : Int32)] m (fun o1 m2 => ∃ x3, o1 = some (.int x3) ∧ (if x3 = (0 : Int32) then zRun C 5 (some .int) zc_Reader_readInto Q 24 [.ref 88, .ref 63, .int (0 : Int32), .int (v3 + (1 : Int32))] [] m2
          else C m_Reader_isClause [.ref 88] m2 (fun o4 m5 => ∃ x6, o4 = some (.int x6) ∧ (if x6 = (0 : Int32) then zRun C 5 (some .int) zc_Reader_readInto Q 24 [.ref 88, .ref 63, .int (0 : Int32), .int (v3 + (1 : Int32))] [] m5
            else zRun C 5 (some .int) zc_Reader_readInto Q 24 [.ref 88, .ref 63, .int (1 : Int32), .int (v3 + (1 : Int32))] [] m5))))) :
    zRun C 5 (some .int) zc_Reader_readInto Q 24 [.ref 88, .ref 63, .int v2, .int v3] [] m := zgo [24] hC zs_Reader_readInto (i := .iload_n 3) (r := zfind zc_Reader_readInto 25) rfl h
theorem en_Reader_readInto_63 (dd : Nat) {Q : zQ} (m : zM) (h : zRun (zCall dd) 5 (some .int) zc_Reader_readInto Q 0 [.ref 88, .ref 63, .retAddr 0, .retAddr 0] [] m) : zCall (dd + 1) m_Reader_readInto [.ref 88, .ref 63] m Q := ⟨Nat.le_of_ble_eq_true rfl, h⟩
set_option maxRecDepth 100000 in
theorem sg_Reader_readInto_68_0 {C : zC} {Q : zQ} (hC : zCm C) (m : zM) (h :
    (∀ q1, gG (sG (sI m 88 2 (0 : Int32)) 88 (some 68)) 88 = some q1 → bif zrc 5 [.ref q1] && (true && true) then (C m_Garden_clear [.ref q1] (sG (sI m 88 2 (0 : Int32)) 88 (some 68)) (fun o2 m3 => o2 = none ∧ (C m_Reader_isClause [.ref 88] m3 (fun o4 m5 => ∃ x6, o4 = some (.int x6) ∧ (zRun C 5 (some .int) zc_Reader_readInto Q 24 [.ref 88, .ref 68, .int x6, .int (1 : Int32)] [] m5))))) else False) ∧
    (gG (sG (sI m 88 2 (0 : Int32)) 88 (some 68)) 88 = none → bif zrc 5 [.null] && (true && true) then (C m_Garden_clear [.null] (sG (sI m 88 2 (0 : Int32)) 88 (some 68)) (fun o7 m8 => o7 = none ∧ (C m_Reader_isClause [.ref 88] m8 (fun o9 m10 => ∃ x11, o9 = some (.int x11) ∧ (zRun C 5 (some .int) zc_Reader_readInto Q 24 [.ref 88, .ref 68, .int x11, .int (1 : Int32)] [] m10))))) else False)) :
    zRun C 5 (some .int) zc_Reader_readInto Q 0 [.ref 88, .ref 68, .retAddr 0, .retAddr 0] [] m := zgo [24] hC zs_Reader_readInto (i := .aload_n 0) (r := zfind zc_Reader_readInto 1) rfl h
set_option maxRecDepth 100000 in
theorem sg_Reader_readInto_68_24 {C : zC} {Q : zQ} (hC : zCm C) (v2 : Int32) (v3 : Int32) (m : zM) (h :
    if (10 : Int32) ≤ v3 then if v2 = (0 : Int32) then Q (some (.int (gI (sI m 88 0 (0 : Int32)) 88 2))) (sI m 88 0 (0 : Int32))
      else if (gI m 88 2) < (gI m 88 0) then Q (some (.int (gI (sI m 88 0 (0 : Int32)) 88 2))) (sI m 88 0 (0 : Int32))
        else Q (some (.int (-1 : Int32))) (sI m 88 0 (0 : Int32))
    else if v2 = (0 : Int32) then if v2 = (0 : Int32) then Q (some (.int (gI (sI m 88 0 (0 : Int32)) 88 2))) (sI m 88 0 (0 : Int32))
        else if (gI m 88 2) < (gI m 88 0) then Q (some (.int (gI (sI m 88 0 (0 : Int32)) 88 2))) (sI m 88 0 (0 : Int32))
          else Q (some (.int (-1 : Int32))) (sI m 88 0 (0 : Int32))
      else if (gI m 88 0) ≤ (gI m 88 2) then if v2 = (0 : Int32) then Q (some (.int (gI (sI m 88 0 (0 : Int32)) 88 2))) (sI m 88 0 (0 : Int32))
          else if (gI m 88 2) < (gI m 88 0) then Q (some (.int (gI (sI m 88 0 (0 : Int32)) 88 2))) (sI m 88 0 (0 : Int32))
            else Q (some (.int (-1 : Int32))) (sI m 88 0 (0 : Int32))
        else C m_Reader_skips [.ref 88, .int (59 : Int32)] m (fun o1 m2 => ∃ x3, o1 = some (.int x3) ∧ (if x3 = (0 : Int32) then zRun C 5 (some .int) zc_Reader_readInto Q 24 [.ref 88, .ref 68, .int (0 : Int32), .int (v3 + (1 : Int32))] [] m2
          else C m_Reader_isClause [.ref 88] m2 (fun o4 m5 => ∃ x6, o4 = some (.int x6) ∧ (if x6 = (0 : Int32) then zRun C 5 (some .int) zc_Reader_readInto Q 24 [.ref 88, .ref 68, .int (0 : Int32), .int (v3 + (1 : Int32))] [] m5
            else zRun C 5 (some .int) zc_Reader_readInto Q 24 [.ref 88, .ref 68, .int (1 : Int32), .int (v3 + (1 : Int32))] [] m5))))) :
    zRun C 5 (some .int) zc_Reader_readInto Q 24 [.ref 88, .ref 68, .int v2, .int v3] [] m := zgo [24] hC zs_Reader_readInto (i := .iload_n 3) (r := zfind zc_Reader_readInto 25) rfl h
theorem en_Reader_readInto_68 (dd : Nat) {Q : zQ} (m : zM) (h : zRun (zCall dd) 5 (some .int) zc_Reader_readInto Q 0 [.ref 88, .ref 68, .retAddr 0, .retAddr 0] [] m) : zCall (dd + 1) m_Reader_readInto [.ref 88, .ref 68] m Q := ⟨Nat.le_of_ble_eq_true rfl, h⟩
set_option maxRecDepth 100000 in
theorem sg_Reader_readInto_73_0 {C : zC} {Q : zQ} (hC : zCm C) (m : zM) (h :
    (∀ q1, gG (sG (sI m 88 2 (0 : Int32)) 88 (some 73)) 88 = some q1 → bif zrc 5 [.ref q1] && (true && true) then (C m_Garden_clear [.ref q1] (sG (sI m 88 2 (0 : Int32)) 88 (some 73)) (fun o2 m3 => o2 = none ∧ (C m_Reader_isClause [.ref 88] m3 (fun o4 m5 => ∃ x6, o4 = some (.int x6) ∧ (zRun C 5 (some .int) zc_Reader_readInto Q 24 [.ref 88, .ref 73, .int x6, .int (1 : Int32)] [] m5))))) else False) ∧
    (gG (sG (sI m 88 2 (0 : Int32)) 88 (some 73)) 88 = none → bif zrc 5 [.null] && (true && true) then (C m_Garden_clear [.null] (sG (sI m 88 2 (0 : Int32)) 88 (some 73)) (fun o7 m8 => o7 = none ∧ (C m_Reader_isClause [.ref 88] m8 (fun o9 m10 => ∃ x11, o9 = some (.int x11) ∧ (zRun C 5 (some .int) zc_Reader_readInto Q 24 [.ref 88, .ref 73, .int x11, .int (1 : Int32)] [] m10))))) else False)) :
    zRun C 5 (some .int) zc_Reader_readInto Q 0 [.ref 88, .ref 73, .retAddr 0, .retAddr 0] [] m := zgo [24] hC zs_Reader_readInto (i := .aload_n 0) (r := zfind zc_Reader_readInto 1) rfl h
set_option maxRecDepth 100000 in
theorem sg_Reader_readInto_73_24 {C : zC} {Q : zQ} (hC : zCm C) (v2 : Int32) (v3 : Int32) (m : zM) (h :
    if (10 : Int32) ≤ v3 then if v2 = (0 : Int32) then Q (some (.int (gI (sI m 88 0 (0 : Int32)) 88 2))) (sI m 88 0 (0 : Int32))
      else if (gI m 88 2) < (gI m 88 0) then Q (some (.int (gI (sI m 88 0 (0 : Int32)) 88 2))) (sI m 88 0 (0 : Int32))
        else Q (some (.int (-1 : Int32))) (sI m 88 0 (0 : Int32))
    else if v2 = (0 : Int32) then if v2 = (0 : Int32) then Q (some (.int (gI (sI m 88 0 (0 : Int32)) 88 2))) (sI m 88 0 (0 : Int32))
        else if (gI m 88 2) < (gI m 88 0) then Q (some (.int (gI (sI m 88 0 (0 : Int32)) 88 2))) (sI m 88 0 (0 : Int32))
          else Q (some (.int (-1 : Int32))) (sI m 88 0 (0 : Int32))
      else if (gI m 88 0) ≤ (gI m 88 2) then if v2 = (0 : Int32) then Q (some (.int (gI (sI m 88 0 (0 : Int32)) 88 2))) (sI m 88 0 (0 : Int32))
          else if (gI m 88 2) < (gI m 88 0) then Q (some (.int (gI (sI m 88 0 (0 : Int32)) 88 2))) (sI m 88 0 (0 : Int32))
            else Q (some (.int (-1 : Int32))) (sI m 88 0 (0 : Int32))
        else C m_Reader_skips [.ref 88, .int (59 : Int32)] m (fun o1 m2 => ∃ x3, o1 = some (.int x3) ∧ (if x3 = (0 : Int32) then zRun C 5 (some .int) zc_Reader_readInto Q 24 [.ref 88, .ref 73, .int (0 : Int32), .int (v3 + (1 : Int32))] [] m2
          else C m_Reader_isClause [.ref 88] m2 (fun o4 m5 => ∃ x6, o4 = some (.int x6) ∧ (if x6 = (0 : Int32) then zRun C 5 (some .int) zc_Reader_readInto Q 24 [.ref 88, .ref 73, .int (0 : Int32), .int (v3 + (1 : Int32))] [] m5
            else zRun C 5 (some .int) zc_Reader_readInto Q 24 [.ref 88, .ref 73, .int (1 : Int32), .int (v3 + (1 : Int32))] [] m5))))) :
    zRun C 5 (some .int) zc_Reader_readInto Q 24 [.ref 88, .ref 73, .int v2, .int v3] [] m := zgo [24] hC zs_Reader_readInto (i := .iload_n 3) (r := zfind zc_Reader_readInto 25) rfl h
theorem en_Reader_readInto_73 (dd : Nat) {Q : zQ} (m : zM) (h : zRun (zCall dd) 5 (some .int) zc_Reader_readInto Q 0 [.ref 88, .ref 73, .retAddr 0, .retAddr 0] [] m) : zCall (dd + 1) m_Reader_readInto [.ref 88, .ref 73] m Q := ⟨Nat.le_of_ble_eq_true rfl, h⟩
set_option maxRecDepth 100000 in
theorem sg_Reader_readInto_78_0 {C : zC} {Q : zQ} (hC : zCm C) (m : zM) (h :
    (∀ q1, gG (sG (sI m 88 2 (0 : Int32)) 88 (some 78)) 88 = some q1 → bif zrc 5 [.ref q1] && (true && true) then (C m_Garden_clear [.ref q1] (sG (sI m 88 2 (0 : Int32)) 88 (some 78)) (fun o2 m3 => o2 = none ∧ (C m_Reader_isClause [.ref 88] m3 (fun o4 m5 => ∃ x6, o4 = some (.int x6) ∧ (zRun C 5 (some .int) zc_Reader_readInto Q 24 [.ref 88, .ref 78, .int x6, .int (1 : Int32)] [] m5))))) else False) ∧
    (gG (sG (sI m 88 2 (0 : Int32)) 88 (some 78)) 88 = none → bif zrc 5 [.null] && (true && true) then (C m_Garden_clear [.null] (sG (sI m 88 2 (0 : Int32)) 88 (some 78)) (fun o7 m8 => o7 = none ∧ (C m_Reader_isClause [.ref 88] m8 (fun o9 m10 => ∃ x11, o9 = some (.int x11) ∧ (zRun C 5 (some .int) zc_Reader_readInto Q 24 [.ref 88, .ref 78, .int x11, .int (1 : Int32)] [] m10))))) else False)) :
    zRun C 5 (some .int) zc_Reader_readInto Q 0 [.ref 88, .ref 78, .retAddr 0, .retAddr 0] [] m := zgo [24] hC zs_Reader_readInto (i := .aload_n 0) (r := zfind zc_Reader_readInto 1) rfl h
set_option maxRecDepth 100000 in
theorem sg_Reader_readInto_78_24 {C : zC} {Q : zQ} (hC : zCm C) (v2 : Int32) (v3 : Int32) (m : zM) (h :
    if (10 : Int32) ≤ v3 then if v2 = (0 : Int32) then Q (some (.int (gI (sI m 88 0 (0 : Int32)) 88 2))) (sI m 88 0 (0 : Int32))
      else if (gI m 88 2) < (gI m 88 0) then Q (some (.int (gI (sI m 88 0 (0 : Int32)) 88 2))) (sI m 88 0 (0 : Int32))
        else Q (some (.int (-1 : Int32))) (sI m 88 0 (0 : Int32))
    else if v2 = (0 : Int32) then if v2 = (0 : Int32) then Q (some (.int (gI (sI m 88 0 (0 : Int32)) 88 2))) (sI m 88 0 (0 : Int32))
        else if (gI m 88 2) < (gI m 88 0) then Q (some (.int (gI (sI m 88 0 (0 : Int32)) 88 2))) (sI m 88 0 (0 : Int32))
          else Q (some (.int (-1 : Int32))) (sI m 88 0 (0 : Int32))
      else if (gI m 88 0) ≤ (gI m 88 2) then if v2 = (0 : Int32) then Q (some (.int (gI (sI m 88 0 (0 : Int32)) 88 2))) (sI m 88 0 (0 : Int32))
          else if (gI m 88 2) < (gI m 88 0) then Q (some (.int (gI (sI m 88 0 (0 : Int32)) 88 2))) (sI m 88 0 (0 : Int32))
            else Q (some (.int (-1 : Int32))) (sI m 88 0 (0 : Int32))
        else C m_Reader_skips [.ref 88, .int (59 : Int32)] m (fun o1 m2 => ∃ x3, o1 = some (.int x3) ∧ (if x3 = (0 : Int32) then zRun C 5 (some .int) zc_Reader_readInto Q 24 [.ref 88, .ref 78, .int (0 : Int32), .int (v3 + (1 : Int32))] [] m2
          else C m_Reader_isClause [.ref 88] m2 (fun o4 m5 => ∃ x6, o4 = some (.int x6) ∧ (if x6 = (0 : Int32) then zRun C 5 (some .int) zc_Reader_readInto Q 24 [.ref 88, .ref 78, .int (0 : Int32), .int (v3 + (1 : Int32))] [] m5
            else zRun C 5 (some .int) zc_Reader_readInto Q 24 [.ref 88, .ref 78, .int (1 : Int32), .int (v3 + (1 : Int32))] [] m5))))) :
    zRun C 5 (some .int) zc_Reader_readInto Q 24 [.ref 88, .ref 78, .int v2, .int v3] [] m := zgo [24] hC zs_Reader_readInto (i := .iload_n 3) (r := zfind zc_Reader_readInto 25) rfl h
theorem en_Reader_readInto_78 (dd : Nat) {Q : zQ} (m : zM) (h : zRun (zCall dd) 5 (some .int) zc_Reader_readInto Q 0 [.ref 88, .ref 78, .retAddr 0, .retAddr 0] [] m) : zCall (dd + 1) m_Reader_readInto [.ref 88, .ref 78] m Q := ⟨Nat.le_of_ble_eq_true rfl, h⟩
set_option maxRecDepth 100000 in
theorem sg_Reader_readInto_83_0 {C : zC} {Q : zQ} (hC : zCm C) (m : zM) (h :
    (∀ q1, gG (sG (sI m 88 2 (0 : Int32)) 88 (some 83)) 88 = some q1 → bif zrc 5 [.ref q1] && (true && true) then (C m_Garden_clear [.ref q1] (sG (sI m 88 2 (0 : Int32)) 88 (some 83)) (fun o2 m3 => o2 = none ∧ (C m_Reader_isClause [.ref 88] m3 (fun o4 m5 => ∃ x6, o4 = some (.int x6) ∧ (zRun C 5 (some .int) zc_Reader_readInto Q 24 [.ref 88, .ref 83, .int x6, .int (1 : Int32)] [] m5))))) else False) ∧
    (gG (sG (sI m 88 2 (0 : Int32)) 88 (some 83)) 88 = none → bif zrc 5 [.null] && (true && true) then (C m_Garden_clear [.null] (sG (sI m 88 2 (0 : Int32)) 88 (some 83)) (fun o7 m8 => o7 = none ∧ (C m_Reader_isClause [.ref 88] m8 (fun o9 m10 => ∃ x11, o9 = some (.int x11) ∧ (zRun C 5 (some .int) zc_Reader_readInto Q 24 [.ref 88, .ref 83, .int x11, .int (1 : Int32)] [] m10))))) else False)) :
    zRun C 5 (some .int) zc_Reader_readInto Q 0 [.ref 88, .ref 83, .retAddr 0, .retAddr 0] [] m := zgo [24] hC zs_Reader_readInto (i := .aload_n 0) (r := zfind zc_Reader_readInto 1) rfl h
set_option maxRecDepth 100000 in
theorem sg_Reader_readInto_83_24 {C : zC} {Q : zQ} (hC : zCm C) (v2 : Int32) (v3 : Int32) (m : zM) (h :
    if (10 : Int32) ≤ v3 then if v2 = (0 : Int32) then Q (some (.int (gI (sI m 88 0 (0 : Int32)) 88 2))) (sI m 88 0 (0 : Int32))
      else if (gI m 88 2) < (gI m 88 0) then Q (some (.int (gI (sI m 88 0 (0 : Int32)) 88 2))) (sI m 88 0 (0 : Int32))
        else Q (some (.int (-1 : Int32))) (sI m 88 0 (0 : Int32))
    else if v2 = (0 : Int32) then if v2 = (0 : Int32) then Q (some (.int (gI (sI m 88 0 (0 : Int32)) 88 2))) (sI m 88 0 (0 : Int32))
        else if (gI m 88 2) < (gI m 88 0) then Q (some (.int (gI (sI m 88 0 (0 : Int32)) 88 2))) (sI m 88 0 (0 : Int32))
          else Q (some (.int (-1 : Int32))) (sI m 88 0 (0 : Int32))
      else if (gI m 88 0) ≤ (gI m 88 2) then if v2 = (0 : Int32) then Q (some (.int (gI (sI m 88 0 (0 : Int32)) 88 2))) (sI m 88 0 (0 : Int32))
          else if (gI m 88 2) < (gI m 88 0) then Q (some (.int (gI (sI m 88 0 (0 : Int32)) 88 2))) (sI m 88 0 (0 : Int32))
            else Q (some (.int (-1 : Int32))) (sI m 88 0 (0 : Int32))
        else C m_Reader_skips [.ref 88, .int (59 : Int32)] m (fun o1 m2 => ∃ x3, o1 = some (.int x3) ∧ (if x3 = (0 : Int32) then zRun C 5 (some .int) zc_Reader_readInto Q 24 [.ref 88, .ref 83, .int (0 : Int32), .int (v3 + (1 : Int32))] [] m2
          else C m_Reader_isClause [.ref 88] m2 (fun o4 m5 => ∃ x6, o4 = some (.int x6) ∧ (if x6 = (0 : Int32) then zRun C 5 (some .int) zc_Reader_readInto Q 24 [.ref 88, .ref 83, .int (0 : Int32), .int (v3 + (1 : Int32))] [] m5
            else zRun C 5 (some .int) zc_Reader_readInto Q 24 [.ref 88, .ref 83, .int (1 : Int32), .int (v3 + (1 : Int32))] [] m5))))) :
    zRun C 5 (some .int) zc_Reader_readInto Q 24 [.ref 88, .ref 83, .int v2, .int v3] [] m := zgo [24] hC zs_Reader_readInto (i := .iload_n 3) (r := zfind zc_Reader_readInto 25) rfl h
theorem en_Reader_readInto_83 (dd : Nat) {Q : zQ} (m : zM) (h : zRun (zCall dd) 5 (some .int) zc_Reader_readInto Q 0 [.ref 88, .ref 83, .retAddr 0, .retAddr 0] [] m) : zCall (dd + 1) m_Reader_readInto [.ref 88, .ref 83] m Q := ⟨Nat.le_of_ble_eq_true rfl, h⟩
theorem zs_Reader_isClause : zsrt zc_Reader_isClause = true := by decide +kernel
set_option maxRecDepth 100000 in
theorem sg_Reader_isClause_0 {C : zC} {Q : zQ} (hC : zCm C) (m : zM) (h :
    C m_Reader_here [.ref 88] m (fun o1 m2 => ∃ x3, o1 = some (.int x3) ∧ (C m_Str_indexOf [.ref 4, .int x3] m2 (fun o4 m5 => ∃ x6, o4 = some (.int x6) ∧ (if x6 < (0 : Int32) then (0 : Int32) &&& 1 = (0 : Int32) ∧ Q (some (.int (0 : Int32))) m5
    else C m_Reader_spelled [.int x6] m5 (fun o7 m8 => ∃ r9, o7 = some (.ref r9) ∧ (C m_Reader_skipsAll [.ref 88, .ref r9] m8 (fun o10 m11 => ∃ x12, o10 = some (.int x12) ∧ (if x12 = (0 : Int32) then (0 : Int32) &&& 1 = (0 : Int32) ∧ Q (some (.int (0 : Int32))) m11
      else C m_Reader_skips [.ref 88, .int (32 : Int32)] m11 (fun o13 m14 => ∃ x15, o13 = some (.int x15) ∧ (if ¬ x15 = (0 : Int32) then C m_Reader_number [.ref 88] m14 (fun o16 m17 => ∃ x18, o16 = some (.int x18) ∧ (if (0 : Int32) ≤ x18 then (∀ q19, gG m17 88 = some q19 → bif zrc 6 [.ref q19, .int x6, .int x18] && (true && true) then (C m_Garden_begin [.ref q19, .int x6, .int x18] m17 (fun o20 m21 => o20 = none ∧ (if x6 = (0 : Int32) then C m_Reader_skips [.ref 88, .int (32 : Int32)] m21 (fun o22 m23 => ∃ x24, o22 = some (.int x24) ∧ (if x24 = (0 : Int32) then (0 : Int32) &&& 1 = (0 : Int32) ∧ Q (some (.int (0 : Int32))) m23
                else C m_Reader_isEither [.ref 88, .int (0 : Int32)] m23 (fun o25 m26 => ∃ x27, o25 = some (.int x27) ∧ (if x27 = (0 : Int32) then (0 : Int32) &&& 1 = (0 : Int32) ∧ Q (some (.int (0 : Int32))) m26
                  else (1 : Int32) &&& 1 = (1 : Int32) ∧ Q (some (.int (1 : Int32))) m26))))
              else if ¬ x6 = (1 : Int32) then (1 : Int32) &&& 1 = (1 : Int32) ∧ Q (some (.int (1 : Int32))) m21
                else C m_Reader_skips [.ref 88, .int (32 : Int32)] m21 (fun o28 m29 => ∃ x30, o28 = some (.int x30) ∧ (if x30 = (0 : Int32) then (0 : Int32) &&& 1 = (0 : Int32) ∧ Q (some (.int (0 : Int32))) m29
                  else C m_Reader_isEither [.ref 88, .int (0 : Int32)] m29 (fun o31 m32 => ∃ x33, o31 = some (.int x33) ∧ (if x33 = (0 : Int32) then (0 : Int32) &&& 1 = (0 : Int32) ∧ Q (some (.int (0 : Int32))) m32
                    else (1 : Int32) &&& 1 = (1 : Int32) ∧ Q (some (.int (1 : Int32))) m32))))))) else False) ∧
            (gG m17 88 = none → bif zrc 6 [.null, .int x6, .int x18] && (true && true) then (C m_Garden_begin [.null, .int x6, .int x18] m17 (fun o34 m35 => o34 = none ∧ (if x6 = (0 : Int32) then C m_Reader_skips [.ref 88, .int (32 : Int32)] m35 (fun o36 m37 => ∃ x38, o36 = some (.int x38) ∧ (if x38 = (0 : Int32) then (0 : Int32) &&& 1 = (0 : Int32) ∧ Q (some (.int (0 : Int32))) m37
                else C m_Reader_isEither [.ref 88, .int (0 : Int32)] m37 (fun o39 m40 => ∃ x41, o39 = some (.int x41) ∧ (if x41 = (0 : Int32) then (0 : Int32) &&& 1 = (0 : Int32) ∧ Q (some (.int (0 : Int32))) m40
                  else (1 : Int32) &&& 1 = (1 : Int32) ∧ Q (some (.int (1 : Int32))) m40))))
              else if ¬ x6 = (1 : Int32) then (1 : Int32) &&& 1 = (1 : Int32) ∧ Q (some (.int (1 : Int32))) m35
                else C m_Reader_skips [.ref 88, .int (32 : Int32)] m35 (fun o42 m43 => ∃ x44, o42 = some (.int x44) ∧ (if x44 = (0 : Int32) then (0 : Int32) &&& 1 = (0 : Int32) ∧ Q (some (.int (0 : Int32))) m43
                  else C m_Reader_isEither [.ref 88, .int (0 : Int32)] m43 (fun o45 m46 => ∃ x47, o45 = some (.int x47) ∧ (if x47 = (0 : Int32) then (0 : Int32) &&& 1 = (0 : Int32) ∧ Q (some (.int (0 : Int32))) m46
                    else (1 : Int32) &&& 1 = (1 : Int32) ∧ Q (some (.int (1 : Int32))) m46))))))) else False)
          else (0 : Int32) &&& 1 = (0 : Int32) ∧ Q (some (.int (0 : Int32))) m17))
        else (0 : Int32) &&& 1 = (0 : Int32) ∧ Q (some (.int (0 : Int32))) m14))))))))))) :
    zRun C 5 (some .boolean) zc_Reader_isClause Q 0 [.ref 88, .retAddr 0, .retAddr 0] [] m := zgo [] hC zs_Reader_isClause (i := .ldc 39) (r := zfind zc_Reader_isClause 2) rfl h
theorem en_Reader_isClause (dd : Nat) {Q : zQ} (m : zM) (h : zRun (zCall dd) 5 (some .boolean) zc_Reader_isClause Q 0 [.ref 88, .retAddr 0, .retAddr 0] [] m) : zCall (dd + 1) m_Reader_isClause [.ref 88] m Q := ⟨Nat.le_of_ble_eq_true rfl, h⟩
theorem zs_Reader_spelled : zsrt zc_Reader_spelled = true := by decide +kernel
set_option maxRecDepth 100000 in
theorem sg_Reader_spelled_0 {C : zC} {Q : zQ} (hC : zCm C) (a : Int32) (m : zM) (h :
    if a = (0 : Int32) then Q (some (.ref 7)) m
    else if a = (1 : Int32) then Q (some (.ref 8)) m
    else if a = (2 : Int32) then Q (some (.ref 9)) m
    else Q (some (.ref 10)) m) :
    zRun C 5 (some (.object "java/lang/String")) zc_Reader_spelled Q 0 [.int a] [] m := zgo [] hC zs_Reader_spelled (i := .iload_n 0) (r := zfind zc_Reader_spelled 1) rfl h
theorem en_Reader_spelled (dd : Nat) {Q : zQ} (a : Int32) (m : zM) (h : zRun (zCall dd) 5 (some (.object "java/lang/String")) zc_Reader_spelled Q 0 [.int a] [] m) : zCall (dd + 1) m_Reader_spelled [.int a] m Q := ⟨Nat.le_of_ble_eq_true rfl, h⟩
theorem zs_Reader_isEither : zsrt zc_Reader_isEither = true := by decide +kernel
set_option maxRecDepth 100000 in
theorem sg_Reader_isEither_0 {C : zC} {Q : zQ} (hC : zCm C) (a : Int32) (m : zM) (h :
    zRun C 5 (some .boolean) zc_Reader_isEither Q 2 [.ref 88, .int a, .int (0 : Int32)] [] m) :
    zRun C 5 (some .boolean) zc_Reader_isEither Q 0 [.ref 88, .int a, .retAddr 0] [] m := zgo [2] hC zs_Reader_isEither (i := .iconst 0) (r := zfind zc_Reader_isEither 1) rfl h
set_option maxRecDepth 100000 in
theorem sg_Reader_isEither_2 {C : zC} {Q : zQ} (hC : zCm C) (v1 : Int32) (v2 : Int32) (m : zM) (h :
    if (100 : Int32) ≤ v2 then (0 : Int32) &&& 1 = (0 : Int32) ∧ Q (some (.int (0 : Int32))) m
    else C m_Reader_isBoth [.ref 88, .int v1] m (fun o1 m2 => ∃ x3, o1 = some (.int x3) ∧ (if ¬ x3 = (0 : Int32) then if v2 ≤ (0 : Int32) then C m_Reader_skips [.ref 88, .int (124 : Int32)] m2 (fun o4 m5 => ∃ x6, o4 = some (.int x6) ∧ (if ¬ x6 = (0 : Int32) then zRun C 5 (some .boolean) zc_Reader_isEither Q 2 [.ref 88, .int v1, .int (v2 + (1 : Int32))] [] m5
          else (1 : Int32) &&& 1 = (1 : Int32) ∧ Q (some (.int (1 : Int32))) m5))
        else (∀ q7, gG m2 88 = some q7 → bif zrc 7 [.ref q7, .int (-3 : Int32)] && (true && true) then (C m_Garden_put [.ref q7, .int (-3 : Int32)] m2 (fun o8 m9 => o8 = none ∧ (C m_Reader_skips [.ref 88, .int (124 : Int32)] m9 (fun o10 m11 => ∃ x12, o10 = some (.int x12) ∧ (if ¬ x12 = (0 : Int32) then zRun C 5 (some .boolean) zc_Reader_isEither Q 2 [.ref 88, .int v1, .int (v2 + (1 : Int32))] [] m11
            else (1 : Int32) &&& 1 = (1 : Int32) ∧ Q (some (.int (1 : Int32))) m11))))) else False) ∧
          (gG m2 88 = none → bif zrc 7 [.null, .int (-3 : Int32)] && (true && true) then (C m_Garden_put [.null, .int (-3 : Int32)] m2 (fun o13 m14 => o13 = none ∧ (C m_Reader_skips [.ref 88, .int (124 : Int32)] m14 (fun o15 m16 => ∃ x17, o15 = some (.int x17) ∧ (if ¬ x17 = (0 : Int32) then zRun C 5 (some .boolean) zc_Reader_isEither Q 2 [.ref 88, .int v1, .int (v2 + (1 : Int32))] [] m16
            else (1 : Int32) &&& 1 = (1 : Int32) ∧ Q (some (.int (1 : Int32))) m16))))) else False)
      else (0 : Int32) &&& 1 = (0 : Int32) ∧ Q (some (.int (0 : Int32))) m2))) :
    zRun C 5 (some .boolean) zc_Reader_isEither Q 2 [.ref 88, .int v1, .int v2] [] m := zgo [2] hC zs_Reader_isEither (i := .iload_n 2) (r := zfind zc_Reader_isEither 3) rfl h
theorem en_Reader_isEither (dd : Nat) {Q : zQ} (a : Int32) (m : zM) (h : zRun (zCall dd) 5 (some .boolean) zc_Reader_isEither Q 0 [.ref 88, .int a, .retAddr 0] [] m) : zCall (dd + 1) m_Reader_isEither [.ref 88, .int a] m Q := ⟨Nat.le_of_ble_eq_true rfl, h⟩
theorem zs_Reader_isBoth : zsrt zc_Reader_isBoth = true := by decide +kernel
set_option maxRecDepth 100000 in
theorem sg_Reader_isBoth_0 {C : zC} {Q : zQ} (hC : zCm C) (a : Int32) (m : zM) (h :
    zRun C 5 (some .boolean) zc_Reader_isBoth Q 2 [.ref 88, .int a, .int (0 : Int32)] [] m) :
    zRun C 5 (some .boolean) zc_Reader_isBoth Q 0 [.ref 88, .int a, .retAddr 0] [] m := zgo [2] hC zs_Reader_isBoth (i := .iconst 0) (r := zfind zc_Reader_isBoth 1) rfl h
set_option maxRecDepth 100000 in
theorem sg_Reader_isBoth_2 {C : zC} {Q : zQ} (hC : zCm C) (v1 : Int32) (v2 : Int32) (m : zM) (h :
    if (100 : Int32) ≤ v2 then (0 : Int32) &&& 1 = (0 : Int32) ∧ Q (some (.int (0 : Int32))) m
    else C m_Reader_isPart [.ref 88, .int v1] m (fun o1 m2 => ∃ x3, o1 = some (.int x3) ∧ (if ¬ x3 = (0 : Int32) then if v2 ≤ (0 : Int32) then C m_Reader_skips [.ref 88, .int (38 : Int32)] m2 (fun o4 m5 => ∃ x6, o4 = some (.int x6) ∧ (if ¬ x6 = (0 : Int32) then zRun C 5 (some .boolean) zc_Reader_isBoth Q 2 [.ref 88, .int v1, .int (v2 + (1 : Int32))] [] m5
          else (1 : Int32) &&& 1 = (1 : Int32) ∧ Q (some (.int (1 : Int32))) m5))
        else (∀ q7, gG m2 88 = some q7 → bif zrc 7 [.ref q7, .int (-2 : Int32)] && (true && true) then (C m_Garden_put [.ref q7, .int (-2 : Int32)] m2 (fun o8 m9 => o8 = none ∧ (C m_Reader_skips [.ref 88, .int (38 : Int32)] m9 (fun o10 m11 => ∃ x12, o10 = some (.int x12) ∧ (if ¬ x12 = (0 : Int32) then zRun C 5 (some .boolean) zc_Reader_isBoth Q 2 [.ref 88, .int v1, .int (v2 + (1 : Int32))] [] m11
            else (1 : Int32) &&& 1 = (1 : Int32) ∧ Q (some (.int (1 : Int32))) m11))))) else False) ∧
          (gG m2 88 = none → bif zrc 7 [.null, .int (-2 : Int32)] && (true && true) then (C m_Garden_put [.null, .int (-2 : Int32)] m2 (fun o13 m14 => o13 = none ∧ (C m_Reader_skips [.ref 88, .int (38 : Int32)] m14 (fun o15 m16 => ∃ x17, o15 = some (.int x17) ∧ (if ¬ x17 = (0 : Int32) then zRun C 5 (some .boolean) zc_Reader_isBoth Q 2 [.ref 88, .int v1, .int (v2 + (1 : Int32))] [] m16
            else (1 : Int32) &&& 1 = (1 : Int32) ∧ Q (some (.int (1 : Int32))) m16))))) else False)
      else (0 : Int32) &&& 1 = (0 : Int32) ∧ Q (some (.int (0 : Int32))) m2))) :
    zRun C 5 (some .boolean) zc_Reader_isBoth Q 2 [.ref 88, .int v1, .int v2] [] m := zgo [2] hC zs_Reader_isBoth (i := .iload_n 2) (r := zfind zc_Reader_isBoth 3) rfl h
theorem en_Reader_isBoth (dd : Nat) {Q : zQ} (a : Int32) (m : zM) (h : zRun (zCall dd) 5 (some .boolean) zc_Reader_isBoth Q 0 [.ref 88, .int a, .retAddr 0] [] m) : zCall (dd + 1) m_Reader_isBoth [.ref 88, .int a] m Q := ⟨Nat.le_of_ble_eq_true rfl, h⟩
theorem zs_Reader_isPart : zsrt zc_Reader_isPart = true := by decide +kernel
set_option maxRecDepth 100000 in
theorem sg_Reader_isPart_0 {C : zC} {Q : zQ} (hC : zCm C) (a : Int32) (m : zM) (h :
    C m_Reader_here [.ref 88] m (fun o1 m2 => ∃ x3, o1 = some (.int x3) ∧ (if ¬ x3 = (33 : Int32) then C m_Reader_here [.ref 88] m2 (fun o4 m5 => ∃ x6, o4 = some (.int x6) ∧ (if x6 = (40 : Int32) then if a < (4 : Int32) then C m_Reader_isEither [.ref 88, .int (a + (1 : Int32))] (sI m5 88 2 ((gI m5 88 2) + (1 : Int32))) (fun o7 m8 => ∃ x9, o7 = some (.int x9) ∧ (if x9 = (0 : Int32) then (0 : Int32) &&& 1 = (0 : Int32) ∧ Q (some (.int (0 : Int32))) m8
          else C m_Reader_skips [.ref 88, .int (41 : Int32)] m8 (fun o10 m11 => ∃ x12, o10 = some (.int x12) ∧ (if x12 = (0 : Int32) then (0 : Int32) &&& 1 = (0 : Int32) ∧ Q (some (.int (0 : Int32))) m11
            else (1 : Int32) &&& 1 = (1 : Int32) ∧ Q (some (.int (1 : Int32))) m11))))
        else (0 : Int32) &&& 1 = (0 : Int32) ∧ Q (some (.int (0 : Int32))) m5
      else C m_Reader_isTest [.ref 88] m5 (fun o13 m14 => ∃ x15, o13 = some (.int x15) ∧ (x15 &&& 1 = x15 ∧ Q (some (.int x15)) m14))))
    else if a < (4 : Int32) then C m_Reader_isPart [.ref 88, .int (a + (1 : Int32))] (sI m2 88 2 ((gI m2 88 2) + (1 : Int32))) (fun o16 m17 => ∃ x18, o16 = some (.int x18) ∧ ((∀ q19, gG m17 88 = some q19 → bif zrc 7 [.ref q19, .int (-1 : Int32)] && (true && true) then (C m_Garden_put [.ref q19, .int (-1 : Int32)] m17 (fun o20 m21 => o20 = none ∧ (x18 &&& 1 = x18 ∧ Q (some (.int x18)) m21))) else False) ∧
        (gG m17 88 = none → bif zrc 7 [.null, .int (-1 : Int32)] && (true && true) then (C m_Garden_put [.null, .int (-1 : Int32)] m17 (fun o22 m23 => o22 = none ∧ (x18 &&& 1 = x18 ∧ Q (some (.int x18)) m23))) else False)))
      else (0 : Int32) &&& 1 = (0 : Int32) ∧ Q (some (.int (0 : Int32))) m2))) :
    zRun C 5 (some .boolean) zc_Reader_isPart Q 0 [.ref 88, .int a, .retAddr 0, .retAddr 0] [] m := zgo [] hC zs_Reader_isPart (i := .aload_n 0) (r := zfind zc_Reader_isPart 1) rfl h
theorem en_Reader_isPart (dd : Nat) {Q : zQ} (a : Int32) (m : zM) (h : zRun (zCall dd) 5 (some .boolean) zc_Reader_isPart Q 0 [.ref 88, .int a, .retAddr 0, .retAddr 0] [] m) : zCall (dd + 1) m_Reader_isPart [.ref 88, .int a] m Q := ⟨Nat.le_of_ble_eq_true rfl, h⟩
theorem zs_Reader_isTest : zsrt zc_Reader_isTest = true := by decide +kernel
set_option maxRecDepth 100000 in
theorem sg_Reader_isTest_0 {C : zC} {Q : zQ} (hC : zCm C) (m : zM) (h :
    C m_Reader_here [.ref 88] m (fun o1 m2 => ∃ x3, o1 = some (.int x3) ∧ (C m_Str_indexOf [.ref 5, .int x3] m2 (fun o4 m5 => ∃ x6, o4 = some (.int x6) ∧ (if (0 : Int32) ≤ x6 then C m_Reader_here [.ref 88] (sI m5 88 2 ((gI m5 88 2) + (1 : Int32))) (fun o7 m8 => ∃ x9, o7 = some (.int x9) ∧ (C m_Str_indexOf [.ref 6, .int x9] m8 (fun o10 m11 => ∃ x12, o10 = some (.int x12) ∧ (if (0 : Int32) ≤ x12 then C m_Reader_number [.ref 88] (sI m11 88 2 ((gI m11 88 2) + (1 : Int32))) (fun o13 m14 => ∃ x15, o13 = some (.int x15) ∧ (if (0 : Int32) ≤ x15 then (∀ q16, gG m14 88 = some q16 → C m_Garden_test [.int x6, .int x12, .int x15] m14 (fun o17 m18 => ∃ x19, o17 = some (.int x19) ∧ (bif zrc 7 [.ref q16, .int x19] && (true && true) then (C m_Garden_put [.ref q16, .int x19] m18 (fun o20 m21 => o20 = none ∧ ((1 : Int32) &&& 1 = (1 : Int32) ∧ Q (some (.int (1 : Int32))) m21))) else False))) ∧
          (gG m14 88 = none → C m_Garden_test [.int x6, .int x12, .int x15] m14 (fun o22 m23 => ∃ x24, o22 = some (.int x24) ∧ (bif zrc 7 [.null, .int x24] && (true && true) then (C m_Garden_put [.null, .int x24] m23 (fun o25 m26 => o25 = none ∧ ((1 : Int32) &&& 1 = (1 : Int32) ∧ Q (some (.int (1 : Int32))) m26))) else False)))
        else (0 : Int32) &&& 1 = (0 : Int32) ∧ Q (some (.int (0 : Int32))) m14))
      else (0 : Int32) &&& 1 = (0 : Int32) ∧ Q (some (.int (0 : Int32))) m11))))
    else (0 : Int32) &&& 1 = (0 : Int32) ∧ Q (some (.int (0 : Int32))) m5))))) :
    zRun C 5 (some .boolean) zc_Reader_isTest Q 0 [.ref 88, .retAddr 0, .retAddr 0, .retAddr 0] [] m := zgo [] hC zs_Reader_isTest (i := .ldc 92) (r := zfind zc_Reader_isTest 2) rfl h
theorem en_Reader_isTest (dd : Nat) {Q : zQ} (m : zM) (h : zRun (zCall dd) 5 (some .boolean) zc_Reader_isTest Q 0 [.ref 88, .retAddr 0, .retAddr 0, .retAddr 0] [] m) : zCall (dd + 1) m_Reader_isTest [.ref 88] m Q := ⟨Nat.le_of_ble_eq_true rfl, h⟩
theorem zs_Reader_number : zsrt zc_Reader_number = true := by decide +kernel
set_option maxRecDepth 100000 in
theorem sg_Reader_number_0 {C : zC} {Q : zQ} (hC : zCm C) (m : zM) (h :
    zRun C 5 (some .int) zc_Reader_number Q 4 [.ref 88, .int (-1 : Int32), .int (0 : Int32), .retAddr 0] [] m) :
    zRun C 5 (some .int) zc_Reader_number Q 0 [.ref 88, .retAddr 0, .retAddr 0, .retAddr 0] [] m := zgo [4] hC zs_Reader_number (i := .iconst (-1)) (r := zfind zc_Reader_number 1) rfl h
set_option maxRecDepth 100000 in
theorem sg_Reader_number_4 {C : zC} {Q : zQ} (hC : zCm C) (v1 : Int32) (v2 : Int32) (m : zM) (h :
    if (2 : Int32) ≤ v2 then Q (some (.int v1)) m
    else if (gI m 88 0) ≤ (gI m 88 2) then Q (some (.int v1)) m
      else vp_in (gI m 88 2) 100 ∧ (if (gI m 89 (gI m 88 2).toNatClampNeg) < (48 : Int32) then Q (some (.int v1)) m
        else vp_in (gI m 88 2) 100 ∧ (if (57 : Int32) < (gI m 89 (gI m 88 2).toNatClampNeg) then Q (some (.int v1)) m
          else vp_in (gI m 88 2) 100 ∧ (if (0 : Int32) ≤ v1 then zRun C 5 (some .int) zc_Reader_number Q 4 [.ref 88, .int (((10 : Int32) * v1) + ((gI m 89 (gI m 88 2).toNatClampNeg) - (48 : Int32))), .int (v2 + (1 : Int32)), .int ((gI m 89 (gI m 88 2).toNatClampNeg) - (48 : Int32))] [] (sI m 88 2 ((gI m 88 2) + (1 : Int32)))
            else zRun C 5 (some .int) zc_Reader_number Q 4 [.ref 88, .int ((gI m 89 (gI m 88 2).toNatClampNeg) - (48 : Int32)), .int (v2 + (1 : Int32)), .int ((gI m 89 (gI m 88 2).toNatClampNeg) - (48 : Int32))] [] (sI m 88 2 ((gI m 88 2) + (1 : Int32))))))) :
    zRun C 5 (some .int) zc_Reader_number Q 4 [.ref 88, .int v1, .int v2, .retAddr 0] [] m := zgo [4] hC zs_Reader_number (i := .iload_n 2) (r := zfind zc_Reader_number 5) rfl h
theorem en_Reader_number (dd : Nat) {Q : zQ} (m : zM) (h : zRun (zCall dd) 5 (some .int) zc_Reader_number Q 0 [.ref 88, .retAddr 0, .retAddr 0, .retAddr 0] [] m) : zCall (dd + 1) m_Reader_number [.ref 88] m Q := ⟨Nat.le_of_ble_eq_true rfl, h⟩
theorem zs_Reader_skipsAll : zsrt zc_Reader_skipsAll = true := by decide +kernel
set_option maxRecDepth 100000 in
theorem sg_Reader_skipsAll_7_0 {C : zC} {Q : zQ} (hC : zCm C) (m : zM) (h :
    zRun C 5 (some .boolean) zc_Reader_skipsAll Q 2 [.ref 88, .ref 7, .int (0 : Int32)] [] m) :
    zRun C 5 (some .boolean) zc_Reader_skipsAll Q 0 [.ref 88, .ref 7, .retAddr 0] [] m := zgo [2] hC zs_Reader_skipsAll (i := .iconst 0) (r := zfind zc_Reader_skipsAll 1) rfl h
set_option maxRecDepth 100000 in
theorem sg_Reader_skipsAll_7_2 {C : zC} {Q : zQ} (hC : zCm C) (v2 : Int32) (m : zM) (h :
    C m_Str_length [.ref 7] m (fun o1 m2 => ∃ x3, o1 = some (.int x3) ∧ (if x3 ≤ v2 then (1 : Int32) &&& 1 = (1 : Int32) ∧ Q (some (.int (1 : Int32))) m2
    else C m_Str_charAt [.ref 7, .int v2] m2 (fun o4 m5 => ∃ x6, o4 = some (.int x6) ∧ (C m_Reader_skips [.ref 88, .int x6] m5 (fun o7 m8 => ∃ x9, o7 = some (.int x9) ∧ (if ¬ x9 = (0 : Int32) then zRun C 5 (some .boolean) zc_Reader_skipsAll Q 2 [.ref 88, .ref 7, .int (v2 + (1 : Int32))] [] m8
      else (0 : Int32) &&& 1 = (0 : Int32) ∧ Q (some (.int (0 : Int32))) m8))))))) :
    zRun C 5 (some .boolean) zc_Reader_skipsAll Q 2 [.ref 88, .ref 7, .int v2] [] m := zgo [2] hC zs_Reader_skipsAll (i := .iload_n 2) (r := zfind zc_Reader_skipsAll 3) rfl h
theorem en_Reader_skipsAll_7 (dd : Nat) {Q : zQ} (m : zM) (h : zRun (zCall dd) 5 (some .boolean) zc_Reader_skipsAll Q 0 [.ref 88, .ref 7, .retAddr 0] [] m) : zCall (dd + 1) m_Reader_skipsAll [.ref 88, .ref 7] m Q := ⟨Nat.le_of_ble_eq_true rfl, h⟩
set_option maxRecDepth 100000 in
theorem sg_Reader_skipsAll_8_0 {C : zC} {Q : zQ} (hC : zCm C) (m : zM) (h :
    zRun C 5 (some .boolean) zc_Reader_skipsAll Q 2 [.ref 88, .ref 8, .int (0 : Int32)] [] m) :
    zRun C 5 (some .boolean) zc_Reader_skipsAll Q 0 [.ref 88, .ref 8, .retAddr 0] [] m := zgo [2] hC zs_Reader_skipsAll (i := .iconst 0) (r := zfind zc_Reader_skipsAll 1) rfl h
set_option maxRecDepth 100000 in
theorem sg_Reader_skipsAll_8_2 {C : zC} {Q : zQ} (hC : zCm C) (v2 : Int32) (m : zM) (h :
    C m_Str_length [.ref 8] m (fun o1 m2 => ∃ x3, o1 = some (.int x3) ∧ (if x3 ≤ v2 then (1 : Int32) &&& 1 = (1 : Int32) ∧ Q (some (.int (1 : Int32))) m2
    else C m_Str_charAt [.ref 8, .int v2] m2 (fun o4 m5 => ∃ x6, o4 = some (.int x6) ∧ (C m_Reader_skips [.ref 88, .int x6] m5 (fun o7 m8 => ∃ x9, o7 = some (.int x9) ∧ (if ¬ x9 = (0 : Int32) then zRun C 5 (some .boolean) zc_Reader_skipsAll Q 2 [.ref 88, .ref 8, .int (v2 + (1 : Int32))] [] m8
      else (0 : Int32) &&& 1 = (0 : Int32) ∧ Q (some (.int (0 : Int32))) m8))))))) :
    zRun C 5 (some .boolean) zc_Reader_skipsAll Q 2 [.ref 88, .ref 8, .int v2] [] m := zgo [2] hC zs_Reader_skipsAll (i := .iload_n 2) (r := zfind zc_Reader_skipsAll 3) rfl h
theorem en_Reader_skipsAll_8 (dd : Nat) {Q : zQ} (m : zM) (h : zRun (zCall dd) 5 (some .boolean) zc_Reader_skipsAll Q 0 [.ref 88, .ref 8, .retAddr 0] [] m) : zCall (dd + 1) m_Reader_skipsAll [.ref 88, .ref 8] m Q := ⟨Nat.le_of_ble_eq_true rfl, h⟩
set_option maxRecDepth 100000 in
theorem sg_Reader_skipsAll_9_0 {C : zC} {Q : zQ} (hC : zCm C) (m : zM) (h :
    zRun C 5 (some .boolean) zc_Reader_skipsAll Q 2 [.ref 88, .ref 9, .int (0 : Int32)] [] m) :
    zRun C 5 (some .boolean) zc_Reader_skipsAll Q 0 [.ref 88, .ref 9, .retAddr 0] [] m := zgo [2] hC zs_Reader_skipsAll (i := .iconst 0) (r := zfind zc_Reader_skipsAll 1) rfl h
set_option maxRecDepth 100000 in
theorem sg_Reader_skipsAll_9_2 {C : zC} {Q : zQ} (hC : zCm C) (v2 : Int32) (m : zM) (h :
    C m_Str_length [.ref 9] m (fun o1 m2 => ∃ x3, o1 = some (.int x3) ∧ (if x3 ≤ v2 then (1 : Int32) &&& 1 = (1 : Int32) ∧ Q (some (.int (1 : Int32))) m2
    else C m_Str_charAt [.ref 9, .int v2] m2 (fun o4 m5 => ∃ x6, o4 = some (.int x6) ∧ (C m_Reader_skips [.ref 88, .int x6] m5 (fun o7 m8 => ∃ x9, o7 = some (.int x9) ∧ (if ¬ x9 = (0 : Int32) then zRun C 5 (some .boolean) zc_Reader_skipsAll Q 2 [.ref 88, .ref 9, .int (v2 + (1 : Int32))] [] m8
      else (0 : Int32) &&& 1 = (0 : Int32) ∧ Q (some (.int (0 : Int32))) m8))))))) :
    zRun C 5 (some .boolean) zc_Reader_skipsAll Q 2 [.ref 88, .ref 9, .int v2] [] m := zgo [2] hC zs_Reader_skipsAll (i := .iload_n 2) (r := zfind zc_Reader_skipsAll 3) rfl h
theorem en_Reader_skipsAll_9 (dd : Nat) {Q : zQ} (m : zM) (h : zRun (zCall dd) 5 (some .boolean) zc_Reader_skipsAll Q 0 [.ref 88, .ref 9, .retAddr 0] [] m) : zCall (dd + 1) m_Reader_skipsAll [.ref 88, .ref 9] m Q := ⟨Nat.le_of_ble_eq_true rfl, h⟩
set_option maxRecDepth 100000 in
theorem sg_Reader_skipsAll_10_0 {C : zC} {Q : zQ} (hC : zCm C) (m : zM) (h :
    zRun C 5 (some .boolean) zc_Reader_skipsAll Q 2 [.ref 88, .ref 10, .int (0 : Int32)] [] m) :
    zRun C 5 (some .boolean) zc_Reader_skipsAll Q 0 [.ref 88, .ref 10, .retAddr 0] [] m := zgo [2] hC zs_Reader_skipsAll (i := .iconst 0) (r := zfind zc_Reader_skipsAll 1) rfl h
set_option maxRecDepth 100000 in
theorem sg_Reader_skipsAll_10_2 {C : zC} {Q : zQ} (hC : zCm C) (v2 : Int32) (m : zM) (h :
    C m_Str_length [.ref 10] m (fun o1 m2 => ∃ x3, o1 = some (.int x3) ∧ (if x3 ≤ v2 then (1 : Int32) &&& 1 = (1 : Int32) ∧ Q (some (.int (1 : Int32))) m2
    else C m_Str_charAt [.ref 10, .int v2] m2 (fun o4 m5 => ∃ x6, o4 = some (.int x6) ∧ (C m_Reader_skips [.ref 88, .int x6] m5 (fun o7 m8 => ∃ x9, o7 = some (.int x9) ∧ (if ¬ x9 = (0 : Int32) then zRun C 5 (some .boolean) zc_Reader_skipsAll Q 2 [.ref 88, .ref 10, .int (v2 + (1 : Int32))] [] m8
      else (0 : Int32) &&& 1 = (0 : Int32) ∧ Q (some (.int (0 : Int32))) m8))))))) :
    zRun C 5 (some .boolean) zc_Reader_skipsAll Q 2 [.ref 88, .ref 10, .int v2] [] m := zgo [2] hC zs_Reader_skipsAll (i := .iload_n 2) (r := zfind zc_Reader_skipsAll 3) rfl h
theorem en_Reader_skipsAll_10 (dd : Nat) {Q : zQ} (m : zM) (h : zRun (zCall dd) 5 (some .boolean) zc_Reader_skipsAll Q 0 [.ref 88, .ref 10, .retAddr 0] [] m) : zCall (dd + 1) m_Reader_skipsAll [.ref 88, .ref 10] m Q := ⟨Nat.le_of_ble_eq_true rfl, h⟩
theorem zs_Reader_skips : zsrt zc_Reader_skips = true := by decide +kernel
set_option maxRecDepth 100000 in
theorem sg_Reader_skips_0 {C : zC} {Q : zQ} (hC : zCm C) (a : Int32) (m : zM) (h :
    C m_Reader_here [.ref 88] m (fun o1 m2 => ∃ x3, o1 = some (.int x3) ∧ (if x3 = a then (1 : Int32) &&& 1 = (1 : Int32) ∧ Q (some (.int (1 : Int32))) (sI m2 88 2 ((gI m2 88 2) + (1 : Int32)))
    else (0 : Int32) &&& 1 = (0 : Int32) ∧ Q (some (.int (0 : Int32))) m2))) :
    zRun C 5 (some .boolean) zc_Reader_skips Q 0 [.ref 88, .int a] [] m := zgo [] hC zs_Reader_skips (i := .aload_n 0) (r := zfind zc_Reader_skips 1) rfl h
theorem en_Reader_skips (dd : Nat) {Q : zQ} (a : Int32) (m : zM) (h : zRun (zCall dd) 5 (some .boolean) zc_Reader_skips Q 0 [.ref 88, .int a] [] m) : zCall (dd + 1) m_Reader_skips [.ref 88, .int a] m Q := ⟨Nat.le_of_ble_eq_true rfl, h⟩
theorem zs_Reader_here : zsrt zc_Reader_here = true := by decide +kernel
set_option maxRecDepth 100000 in
theorem sg_Reader_here_0 {C : zC} {Q : zQ} (hC : zCm C) (m : zM) (h :
    if (gI m 88 0) ≤ (gI m 88 2) then (0 : Int32).toUInt32.toUInt16.toUInt32.toInt32 = (0 : Int32) ∧ Q (some (.int (0 : Int32))) m
    else vp_in (gI m 88 2) 100 ∧ ((((gI m 89 (gI m 88 2).toNatClampNeg).toUInt32 % 65536).toInt32).toUInt32.toUInt16.toUInt32.toInt32 = (((gI m 89 (gI m 88 2).toNatClampNeg).toUInt32 % 65536).toInt32) ∧ Q (some (.int (((gI m 89 (gI m 88 2).toNatClampNeg).toUInt32 % 65536).toInt32))) m)) :
    zRun C 5 (some .char) zc_Reader_here Q 0 [.ref 88] [] m := zgo [] hC zs_Reader_here (i := .aload_n 0) (r := zfind zc_Reader_here 1) rfl h
theorem en_Reader_here (dd : Nat) {Q : zQ} (m : zM) (h : zRun (zCall dd) 5 (some .char) zc_Reader_here Q 0 [.ref 88] [] m) : zCall (dd + 1) m_Reader_here [.ref 88] m Q := ⟨Nat.le_of_ble_eq_true rfl, h⟩
theorem zs_Rows_become : zsrt zc_Rows_become = true := by decide +kernel
set_option maxRecDepth 100000 in
theorem sg_Rows_become_39_0 {C : zC} {Q : zQ} (hC : zCm C) (m : zM) (h :
    (¬ (0 : Int32) < 0 ∧ ¬ (0 : Int32) < 0 ∧ ¬ (if (15 : Int32) < (15 : Int32) then (15 : Int32) else (15 : Int32)) < 0 ∧ (0 : Int32).toNatClampNeg + (if (15 : Int32) < (15 : Int32) then (15 : Int32) else (15 : Int32)).toNatClampNeg ≤ 15 ∧ (0 : Int32).toNatClampNeg + (if (15 : Int32) < (15 : Int32) then (15 : Int32) else (15 : Int32)).toNatClampNeg ≤ 15) ∧ (Q none (cpI (sI m 39 0 (if (gI m 39 1) < (gI m 27 0) then (gI m 39 1) else (gI m 27 0))) 28 (0 : Int32).toNatClampNeg 40 (0 : Int32).toNatClampNeg (if (15 : Int32) < (15 : Int32) then (15 : Int32) else (15 : Int32)).toNatClampNeg))) :
    zRun C 6 none zc_Rows_become Q 0 [.ref 39, .ref 27] [] m := zgo [] hC zs_Rows_become (i := .aload_n 0) (r := zfind zc_Rows_become 1) rfl h
theorem en_Rows_become_39 (dd : Nat) {Q : zQ} (m : zM) (h : zRun (zCall dd) 6 none zc_Rows_become Q 0 [.ref 39, .ref 27] [] m) : zCall (dd + 1) m_Rows_become [.ref 39, .ref 27] m Q := ⟨Nat.le_of_ble_eq_true rfl, h⟩
set_option maxRecDepth 100000 in
theorem sg_Rows_become_41_0 {C : zC} {Q : zQ} (hC : zCm C) (m : zM) (h :
    (¬ (0 : Int32) < 0 ∧ ¬ (0 : Int32) < 0 ∧ ¬ (if (24 : Int32) < (24 : Int32) then (24 : Int32) else (24 : Int32)) < 0 ∧ (0 : Int32).toNatClampNeg + (if (24 : Int32) < (24 : Int32) then (24 : Int32) else (24 : Int32)).toNatClampNeg ≤ 24 ∧ (0 : Int32).toNatClampNeg + (if (24 : Int32) < (24 : Int32) then (24 : Int32) else (24 : Int32)).toNatClampNeg ≤ 24) ∧ (Q none (cpI (sI m 41 0 (if (gI m 41 1) < (gI m 29 0) then (gI m 41 1) else (gI m 29 0))) 30 (0 : Int32).toNatClampNeg 42 (0 : Int32).toNatClampNeg (if (24 : Int32) < (24 : Int32) then (24 : Int32) else (24 : Int32)).toNatClampNeg))) :
    zRun C 6 none zc_Rows_become Q 0 [.ref 41, .ref 29] [] m := zgo [] hC zs_Rows_become (i := .aload_n 0) (r := zfind zc_Rows_become 1) rfl h
theorem en_Rows_become_41 (dd : Nat) {Q : zQ} (m : zM) (h : zRun (zCall dd) 6 none zc_Rows_become Q 0 [.ref 41, .ref 29] [] m) : zCall (dd + 1) m_Rows_become [.ref 41, .ref 29] m Q := ⟨Nat.le_of_ble_eq_true rfl, h⟩
set_option maxRecDepth 100000 in
theorem sg_Rows_become_43_0 {C : zC} {Q : zQ} (hC : zCm C) (m : zM) (h :
    (¬ (0 : Int32) < 0 ∧ ¬ (0 : Int32) < 0 ∧ ¬ (if (24 : Int32) < (24 : Int32) then (24 : Int32) else (24 : Int32)) < 0 ∧ (0 : Int32).toNatClampNeg + (if (24 : Int32) < (24 : Int32) then (24 : Int32) else (24 : Int32)).toNatClampNeg ≤ 24 ∧ (0 : Int32).toNatClampNeg + (if (24 : Int32) < (24 : Int32) then (24 : Int32) else (24 : Int32)).toNatClampNeg ≤ 24) ∧ (Q none (cpI (sI m 43 0 (if (gI m 43 1) < (gI m 31 0) then (gI m 43 1) else (gI m 31 0))) 32 (0 : Int32).toNatClampNeg 44 (0 : Int32).toNatClampNeg (if (24 : Int32) < (24 : Int32) then (24 : Int32) else (24 : Int32)).toNatClampNeg))) :
    zRun C 6 none zc_Rows_become Q 0 [.ref 43, .ref 31] [] m := zgo [] hC zs_Rows_become (i := .aload_n 0) (r := zfind zc_Rows_become 1) rfl h
theorem en_Rows_become_43 (dd : Nat) {Q : zQ} (m : zM) (h : zRun (zCall dd) 6 none zc_Rows_become Q 0 [.ref 43, .ref 31] [] m) : zCall (dd + 1) m_Rows_become [.ref 43, .ref 31] m Q := ⟨Nat.le_of_ble_eq_true rfl, h⟩
set_option maxRecDepth 100000 in
theorem sg_Rows_become_27_0 {C : zC} {Q : zQ} (hC : zCm C) (m : zM) (h :
    (¬ (0 : Int32) < 0 ∧ ¬ (0 : Int32) < 0 ∧ ¬ (if (15 : Int32) < (15 : Int32) then (15 : Int32) else (15 : Int32)) < 0 ∧ (0 : Int32).toNatClampNeg + (if (15 : Int32) < (15 : Int32) then (15 : Int32) else (15 : Int32)).toNatClampNeg ≤ 15 ∧ (0 : Int32).toNatClampNeg + (if (15 : Int32) < (15 : Int32) then (15 : Int32) else (15 : Int32)).toNatClampNeg ≤ 15) ∧ (Q none (cpI (sI m 27 0 (if (gI m 27 1) < (gI m 39 0) then (gI m 27 1) else (gI m 39 0))) 40 (0 : Int32).toNatClampNeg 28 (0 : Int32).toNatClampNeg (if (15 : Int32) < (15 : Int32) then (15 : Int32) else (15 : Int32)).toNatClampNeg))) :
    zRun C 6 none zc_Rows_become Q 0 [.ref 27, .ref 39] [] m := zgo [] hC zs_Rows_become (i := .aload_n 0) (r := zfind zc_Rows_become 1) rfl h
theorem en_Rows_become_27 (dd : Nat) {Q : zQ} (m : zM) (h : zRun (zCall dd) 6 none zc_Rows_become Q 0 [.ref 27, .ref 39] [] m) : zCall (dd + 1) m_Rows_become [.ref 27, .ref 39] m Q := ⟨Nat.le_of_ble_eq_true rfl, h⟩
set_option maxRecDepth 100000 in
theorem sg_Rows_become_29_0 {C : zC} {Q : zQ} (hC : zCm C) (m : zM) (h :
    (¬ (0 : Int32) < 0 ∧ ¬ (0 : Int32) < 0 ∧ ¬ (if (24 : Int32) < (24 : Int32) then (24 : Int32) else (24 : Int32)) < 0 ∧ (0 : Int32).toNatClampNeg + (if (24 : Int32) < (24 : Int32) then (24 : Int32) else (24 : Int32)).toNatClampNeg ≤ 24 ∧ (0 : Int32).toNatClampNeg + (if (24 : Int32) < (24 : Int32) then (24 : Int32) else (24 : Int32)).toNatClampNeg ≤ 24) ∧ (Q none (cpI (sI m 29 0 (if (gI m 29 1) < (gI m 41 0) then (gI m 29 1) else (gI m 41 0))) 42 (0 : Int32).toNatClampNeg 30 (0 : Int32).toNatClampNeg (if (24 : Int32) < (24 : Int32) then (24 : Int32) else (24 : Int32)).toNatClampNeg))) :
    zRun C 6 none zc_Rows_become Q 0 [.ref 29, .ref 41] [] m := zgo [] hC zs_Rows_become (i := .aload_n 0) (r := zfind zc_Rows_become 1) rfl h
theorem en_Rows_become_29 (dd : Nat) {Q : zQ} (m : zM) (h : zRun (zCall dd) 6 none zc_Rows_become Q 0 [.ref 29, .ref 41] [] m) : zCall (dd + 1) m_Rows_become [.ref 29, .ref 41] m Q := ⟨Nat.le_of_ble_eq_true rfl, h⟩
set_option maxRecDepth 100000 in
theorem sg_Rows_become_31_0 {C : zC} {Q : zQ} (hC : zCm C) (m : zM) (h :
    (¬ (0 : Int32) < 0 ∧ ¬ (0 : Int32) < 0 ∧ ¬ (if (24 : Int32) < (24 : Int32) then (24 : Int32) else (24 : Int32)) < 0 ∧ (0 : Int32).toNatClampNeg + (if (24 : Int32) < (24 : Int32) then (24 : Int32) else (24 : Int32)).toNatClampNeg ≤ 24 ∧ (0 : Int32).toNatClampNeg + (if (24 : Int32) < (24 : Int32) then (24 : Int32) else (24 : Int32)).toNatClampNeg ≤ 24) ∧ (Q none (cpI (sI m 31 0 (if (gI m 31 1) < (gI m 43 0) then (gI m 31 1) else (gI m 43 0))) 44 (0 : Int32).toNatClampNeg 32 (0 : Int32).toNatClampNeg (if (24 : Int32) < (24 : Int32) then (24 : Int32) else (24 : Int32)).toNatClampNeg))) :
    zRun C 6 none zc_Rows_become Q 0 [.ref 31, .ref 43] [] m := zgo [] hC zs_Rows_become (i := .aload_n 0) (r := zfind zc_Rows_become 1) rfl h
theorem en_Rows_become_31 (dd : Nat) {Q : zQ} (m : zM) (h : zRun (zCall dd) 6 none zc_Rows_become Q 0 [.ref 31, .ref 43] [] m) : zCall (dd + 1) m_Rows_become [.ref 31, .ref 43] m Q := ⟨Nat.le_of_ble_eq_true rfl, h⟩
set_option maxRecDepth 100000 in
theorem sg_Rows_become_51_0 {C : zC} {Q : zQ} (hC : zCm C) (m : zM) (h :
    (¬ (0 : Int32) < 0 ∧ ¬ (0 : Int32) < 0 ∧ ¬ (if (15 : Int32) < (15 : Int32) then (15 : Int32) else (15 : Int32)) < 0 ∧ (0 : Int32).toNatClampNeg + (if (15 : Int32) < (15 : Int32) then (15 : Int32) else (15 : Int32)).toNatClampNeg ≤ 15 ∧ (0 : Int32).toNatClampNeg + (if (15 : Int32) < (15 : Int32) then (15 : Int32) else (15 : Int32)).toNatClampNeg ≤ 15) ∧ (Q none (cpI (sI m 51 0 (if (gI m 51 1) < (gI m 27 0) then (gI m 51 1) else (gI m 27 0))) 28 (0 : Int32).toNatClampNeg 52 (0 : Int32).toNatClampNeg (if (15 : Int32) < (15 : Int32) then (15 : Int32) else (15 : Int32)).toNatClampNeg))) :
    zRun C 6 none zc_Rows_become Q 0 [.ref 51, .ref 27] [] m := zgo [] hC zs_Rows_become (i := .aload_n 0) (r := zfind zc_Rows_become 1) rfl h
theorem en_Rows_become_51 (dd : Nat) {Q : zQ} (m : zM) (h : zRun (zCall dd) 6 none zc_Rows_become Q 0 [.ref 51, .ref 27] [] m) : zCall (dd + 1) m_Rows_become [.ref 51, .ref 27] m Q := ⟨Nat.le_of_ble_eq_true rfl, h⟩
set_option maxRecDepth 100000 in
theorem sg_Rows_become_53_0 {C : zC} {Q : zQ} (hC : zCm C) (m : zM) (h :
    (¬ (0 : Int32) < 0 ∧ ¬ (0 : Int32) < 0 ∧ ¬ (if (24 : Int32) < (24 : Int32) then (24 : Int32) else (24 : Int32)) < 0 ∧ (0 : Int32).toNatClampNeg + (if (24 : Int32) < (24 : Int32) then (24 : Int32) else (24 : Int32)).toNatClampNeg ≤ 24 ∧ (0 : Int32).toNatClampNeg + (if (24 : Int32) < (24 : Int32) then (24 : Int32) else (24 : Int32)).toNatClampNeg ≤ 24) ∧ (Q none (cpI (sI m 53 0 (if (gI m 53 1) < (gI m 29 0) then (gI m 53 1) else (gI m 29 0))) 30 (0 : Int32).toNatClampNeg 54 (0 : Int32).toNatClampNeg (if (24 : Int32) < (24 : Int32) then (24 : Int32) else (24 : Int32)).toNatClampNeg))) :
    zRun C 6 none zc_Rows_become Q 0 [.ref 53, .ref 29] [] m := zgo [] hC zs_Rows_become (i := .aload_n 0) (r := zfind zc_Rows_become 1) rfl h
theorem en_Rows_become_53 (dd : Nat) {Q : zQ} (m : zM) (h : zRun (zCall dd) 6 none zc_Rows_become Q 0 [.ref 53, .ref 29] [] m) : zCall (dd + 1) m_Rows_become [.ref 53, .ref 29] m Q := ⟨Nat.le_of_ble_eq_true rfl, h⟩
set_option maxRecDepth 100000 in
theorem sg_Rows_become_55_0 {C : zC} {Q : zQ} (hC : zCm C) (m : zM) (h :
    (¬ (0 : Int32) < 0 ∧ ¬ (0 : Int32) < 0 ∧ ¬ (if (24 : Int32) < (24 : Int32) then (24 : Int32) else (24 : Int32)) < 0 ∧ (0 : Int32).toNatClampNeg + (if (24 : Int32) < (24 : Int32) then (24 : Int32) else (24 : Int32)).toNatClampNeg ≤ 24 ∧ (0 : Int32).toNatClampNeg + (if (24 : Int32) < (24 : Int32) then (24 : Int32) else (24 : Int32)).toNatClampNeg ≤ 24) ∧ (Q none (cpI (sI m 55 0 (if (gI m 55 1) < (gI m 31 0) then (gI m 55 1) else (gI m 31 0))) 32 (0 : Int32).toNatClampNeg 56 (0 : Int32).toNatClampNeg (if (24 : Int32) < (24 : Int32) then (24 : Int32) else (24 : Int32)).toNatClampNeg))) :
    zRun C 6 none zc_Rows_become Q 0 [.ref 55, .ref 31] [] m := zgo [] hC zs_Rows_become (i := .aload_n 0) (r := zfind zc_Rows_become 1) rfl h
theorem en_Rows_become_55 (dd : Nat) {Q : zQ} (m : zM) (h : zRun (zCall dd) 6 none zc_Rows_become Q 0 [.ref 55, .ref 31] [] m) : zCall (dd + 1) m_Rows_become [.ref 55, .ref 31] m Q := ⟨Nat.le_of_ble_eq_true rfl, h⟩
theorem zs_Rows_add : zsrt zc_Rows_add = true := by decide +kernel
set_option maxRecDepth 100000 in
theorem sg_Rows_add_27_0 {C : zC} {Q : zQ} (hC : zCm C) (a : Int32) (b : Int32) (c : Int32) (m : zM) (h :
    if (gI m 27 0) < (gI m 27 1) then vp_in ((gI m 27 0) * (3 : Int32)) 15 ∧ (vp_in (((gI m 27 0) * (3 : Int32)) + (1 : Int32)) 15 ∧ (vp_in (((gI m 27 0) * (3 : Int32)) + (2 : Int32)) 15 ∧ (Q (some (.int (gI (sI (sI (sI (sI m 28 ((gI m 27 0) * (3 : Int32)).toNatClampNeg a) 28 (((gI m 27 0) * (3 : Int32)) + (1 : Int32)).toNatClampNeg b) 28 (((gI m 27 0) * (3 : Int32)) + (2 : Int32)).toNatClampNeg c) 27 0 ((gI (sI (sI (sI m 28 ((gI m 27 0) * (3 : Int32)).toNatClampNeg a) 28 (((gI m 27 0) * (3 : Int32)) + (1 : Int32)).toNatClampNeg b) 28 (((gI m 27 0) * (3 : Int32)) + (2 : Int32)).toNatClampNeg c) 27 0) + (1 : Int32))) 27 0))) (sI (sI (sI (sI m 28 ((gI m 27 0) * (3 : Int32)).toNatClampNeg a) 28 (((gI m 27 0) * (3 : Int32)) + (1 : Int32)).toNatClampNeg b) 28 (((gI m 27 0) * (3 : Int32)) + (2 : Int32)).toNatClampNeg c) 27 0 ((gI (sI (sI (sI m 28 ((gI m 27 0) * (3 : Int32)).toNatClampNeg a) 28 (((gI m 27 0) * (3 : Int32)) + (1 : Int32)).toNatClampNeg b) 28 (((gI m 27 0) * (3 : Int32)) + (2 : Int32)).toNatClampNeg c) 27 0) + (1 : Int32))))))
    else Q (some (.int (-4 : Int32))) m) :
    zRun C 6 (some .int) zc_Rows_add Q 0 [.ref 27, .int a, .int b, .int c, .retAddr 0] [] m := zgo [] hC zs_Rows_add (i := .aload_n 0) (r := zfind zc_Rows_add 1) rfl h
theorem en_Rows_add_27 (dd : Nat) {Q : zQ} (a : Int32) (b : Int32) (c : Int32) (m : zM) (h : zRun (zCall dd) 6 (some .int) zc_Rows_add Q 0 [.ref 27, .int a, .int b, .int c, .retAddr 0] [] m) : zCall (dd + 1) m_Rows_add [.ref 27, .int a, .int b, .int c] m Q := ⟨Nat.le_of_ble_eq_true rfl, h⟩
set_option maxRecDepth 100000 in
theorem sg_Rows_add_29_0 {C : zC} {Q : zQ} (hC : zCm C) (a : Int32) (b : Int32) (c : Int32) (m : zM) (h :
    if (gI m 29 0) < (gI m 29 1) then vp_in ((gI m 29 0) * (3 : Int32)) 24 ∧ (vp_in (((gI m 29 0) * (3 : Int32)) + (1 : Int32)) 24 ∧ (vp_in (((gI m 29 0) * (3 : Int32)) + (2 : Int32)) 24 ∧ (Q (some (.int (gI (sI (sI (sI (sI m 30 ((gI m 29 0) * (3 : Int32)).toNatClampNeg a) 30 (((gI m 29 0) * (3 : Int32)) + (1 : Int32)).toNatClampNeg b) 30 (((gI m 29 0) * (3 : Int32)) + (2 : Int32)).toNatClampNeg c) 29 0 ((gI (sI (sI (sI m 30 ((gI m 29 0) * (3 : Int32)).toNatClampNeg a) 30 (((gI m 29 0) * (3 : Int32)) + (1 : Int32)).toNatClampNeg b) 30 (((gI m 29 0) * (3 : Int32)) + (2 : Int32)).toNatClampNeg c) 29 0) + (1 : Int32))) 29 0))) (sI (sI (sI (sI m 30 ((gI m 29 0) * (3 : Int32)).toNatClampNeg a) 30 (((gI m 29 0) * (3 : Int32)) + (1 : Int32)).toNatClampNeg b) 30 (((gI m 29 0) * (3 : Int32)) + (2 : Int32)).toNatClampNeg c) 29 0 ((gI (sI (sI (sI m 30 ((gI m 29 0) * (3 : Int32)).toNatClampNeg a) 30 (((gI m 29 0) * (3 : Int32)) + (1 : Int32)).toNatClampNeg b) 30 (((gI m 29 0) * (3 : Int32)) + (2 : Int32)).toNatClampNeg c) 29 0) + (1 : Int32))))))
    else Q (some (.int (-4 : Int32))) m) :
    zRun C 6 (some .int) zc_Rows_add Q 0 [.ref 29, .int a, .int b, .int c, .retAddr 0] [] m := zgo [] hC zs_Rows_add (i := .aload_n 0) (r := zfind zc_Rows_add 1) rfl h
theorem en_Rows_add_29 (dd : Nat) {Q : zQ} (a : Int32) (b : Int32) (c : Int32) (m : zM) (h : zRun (zCall dd) 6 (some .int) zc_Rows_add Q 0 [.ref 29, .int a, .int b, .int c, .retAddr 0] [] m) : zCall (dd + 1) m_Rows_add [.ref 29, .int a, .int b, .int c] m Q := ⟨Nat.le_of_ble_eq_true rfl, h⟩
set_option maxRecDepth 100000 in
theorem sg_Rows_add_31_0 {C : zC} {Q : zQ} (hC : zCm C) (a : Int32) (b : Int32) (c : Int32) (m : zM) (h :
    if (gI m 31 0) < (gI m 31 1) then vp_in ((gI m 31 0) * (3 : Int32)) 24 ∧ (vp_in (((gI m 31 0) * (3 : Int32)) + (1 : Int32)) 24 ∧ (vp_in (((gI m 31 0) * (3 : Int32)) + (2 : Int32)) 24 ∧ (Q (some (.int (gI (sI (sI (sI (sI m 32 ((gI m 31 0) * (3 : Int32)).toNatClampNeg a) 32 (((gI m 31 0) * (3 : Int32)) + (1 : Int32)).toNatClampNeg b) 32 (((gI m 31 0) * (3 : Int32)) + (2 : Int32)).toNatClampNeg c) 31 0 ((gI (sI (sI (sI m 32 ((gI m 31 0) * (3 : Int32)).toNatClampNeg a) 32 (((gI m 31 0) * (3 : Int32)) + (1 : Int32)).toNatClampNeg b) 32 (((gI m 31 0) * (3 : Int32)) + (2 : Int32)).toNatClampNeg c) 31 0) + (1 : Int32))) 31 0))) (sI (sI (sI (sI m 32 ((gI m 31 0) * (3 : Int32)).toNatClampNeg a) 32 (((gI m 31 0) * (3 : Int32)) + (1 : Int32)).toNatClampNeg b) 32 (((gI m 31 0) * (3 : Int32)) + (2 : Int32)).toNatClampNeg c) 31 0 ((gI (sI (sI (sI m 32 ((gI m 31 0) * (3 : Int32)).toNatClampNeg a) 32 (((gI m 31 0) * (3 : Int32)) + (1 : Int32)).toNatClampNeg b) 32 (((gI m 31 0) * (3 : Int32)) + (2 : Int32)).toNatClampNeg c) 31 0) + (1 : Int32))))))
    else Q (some (.int (-4 : Int32))) m) :
    zRun C 6 (some .int) zc_Rows_add Q 0 [.ref 31, .int a, .int b, .int c, .retAddr 0] [] m := zgo [] hC zs_Rows_add (i := .aload_n 0) (r := zfind zc_Rows_add 1) rfl h
theorem en_Rows_add_31 (dd : Nat) {Q : zQ} (a : Int32) (b : Int32) (c : Int32) (m : zM) (h : zRun (zCall dd) 6 (some .int) zc_Rows_add Q 0 [.ref 31, .int a, .int b, .int c, .retAddr 0] [] m) : zCall (dd + 1) m_Rows_add [.ref 31, .int a, .int b, .int c] m Q := ⟨Nat.le_of_ble_eq_true rfl, h⟩
theorem zs_Rows_empty : zsrt zc_Rows_empty = true := by decide +kernel
set_option maxRecDepth 100000 in
theorem sg_Rows_empty_27_0 {C : zC} {Q : zQ} (hC : zCm C) (m : zM) (h :
    Q (some (.int (gI (sI m 27 0 (0 : Int32)) 27 0))) (sI m 27 0 (0 : Int32))) :
    zRun C 6 (some .int) zc_Rows_empty Q 0 [.ref 27] [] m := zgo [] hC zs_Rows_empty (i := .aload_n 0) (r := zfind zc_Rows_empty 1) rfl h
theorem en_Rows_empty_27 (dd : Nat) {Q : zQ} (m : zM) (h : zRun (zCall dd) 6 (some .int) zc_Rows_empty Q 0 [.ref 27] [] m) : zCall (dd + 1) m_Rows_empty [.ref 27] m Q := ⟨Nat.le_of_ble_eq_true rfl, h⟩
set_option maxRecDepth 100000 in
theorem sg_Rows_empty_29_0 {C : zC} {Q : zQ} (hC : zCm C) (m : zM) (h :
    Q (some (.int (gI (sI m 29 0 (0 : Int32)) 29 0))) (sI m 29 0 (0 : Int32))) :
    zRun C 6 (some .int) zc_Rows_empty Q 0 [.ref 29] [] m := zgo [] hC zs_Rows_empty (i := .aload_n 0) (r := zfind zc_Rows_empty 1) rfl h
theorem en_Rows_empty_29 (dd : Nat) {Q : zQ} (m : zM) (h : zRun (zCall dd) 6 (some .int) zc_Rows_empty Q 0 [.ref 29] [] m) : zCall (dd + 1) m_Rows_empty [.ref 29] m Q := ⟨Nat.le_of_ble_eq_true rfl, h⟩
set_option maxRecDepth 100000 in
theorem sg_Rows_empty_31_0 {C : zC} {Q : zQ} (hC : zCm C) (m : zM) (h :
    Q (some (.int (gI (sI m 31 0 (0 : Int32)) 31 0))) (sI m 31 0 (0 : Int32))) :
    zRun C 6 (some .int) zc_Rows_empty Q 0 [.ref 31] [] m := zgo [] hC zs_Rows_empty (i := .aload_n 0) (r := zfind zc_Rows_empty 1) rfl h
theorem en_Rows_empty_31 (dd : Nat) {Q : zQ} (m : zM) (h : zRun (zCall dd) 6 (some .int) zc_Rows_empty Q 0 [.ref 31] [] m) : zCall (dd + 1) m_Rows_empty [.ref 31] m Q := ⟨Nat.le_of_ble_eq_true rfl, h⟩
theorem zs_Rows_cell : zsrt zc_Rows_cell = true := by decide +kernel
set_option maxRecDepth 100000 in
theorem sg_Rows_cell_27_0 {C : zC} {Q : zQ} (hC : zCm C) (a : Int32) (b : Int32) (m : zM) (h :
    vp_in ((a * (3 : Int32)) + b) 15 ∧ (Q (some (.int (gI m 28 ((a * (3 : Int32)) + b).toNatClampNeg))) m)) :
    zRun C 6 (some .int) zc_Rows_cell Q 0 [.ref 27, .int a, .int b] [] m := zgo [] hC zs_Rows_cell (i := .aload_n 0) (r := zfind zc_Rows_cell 1) rfl h
theorem en_Rows_cell_27 (dd : Nat) {Q : zQ} (a : Int32) (b : Int32) (m : zM) (h : zRun (zCall dd) 6 (some .int) zc_Rows_cell Q 0 [.ref 27, .int a, .int b] [] m) : zCall (dd + 1) m_Rows_cell [.ref 27, .int a, .int b] m Q := ⟨Nat.le_of_ble_eq_true rfl, h⟩
set_option maxRecDepth 100000 in
theorem sg_Rows_cell_29_0 {C : zC} {Q : zQ} (hC : zCm C) (a : Int32) (b : Int32) (m : zM) (h :
    vp_in ((a * (3 : Int32)) + b) 24 ∧ (Q (some (.int (gI m 30 ((a * (3 : Int32)) + b).toNatClampNeg))) m)) :
    zRun C 6 (some .int) zc_Rows_cell Q 0 [.ref 29, .int a, .int b] [] m := zgo [] hC zs_Rows_cell (i := .aload_n 0) (r := zfind zc_Rows_cell 1) rfl h
theorem en_Rows_cell_29 (dd : Nat) {Q : zQ} (a : Int32) (b : Int32) (m : zM) (h : zRun (zCall dd) 6 (some .int) zc_Rows_cell Q 0 [.ref 29, .int a, .int b] [] m) : zCall (dd + 1) m_Rows_cell [.ref 29, .int a, .int b] m Q := ⟨Nat.le_of_ble_eq_true rfl, h⟩
set_option maxRecDepth 100000 in
theorem sg_Rows_cell_31_0 {C : zC} {Q : zQ} (hC : zCm C) (a : Int32) (b : Int32) (m : zM) (h :
    vp_in ((a * (3 : Int32)) + b) 24 ∧ (Q (some (.int (gI m 32 ((a * (3 : Int32)) + b).toNatClampNeg))) m)) :
    zRun C 6 (some .int) zc_Rows_cell Q 0 [.ref 31, .int a, .int b] [] m := zgo [] hC zs_Rows_cell (i := .aload_n 0) (r := zfind zc_Rows_cell 1) rfl h
theorem en_Rows_cell_31 (dd : Nat) {Q : zQ} (a : Int32) (b : Int32) (m : zM) (h : zRun (zCall dd) 6 (some .int) zc_Rows_cell Q 0 [.ref 31, .int a, .int b] [] m) : zCall (dd + 1) m_Rows_cell [.ref 31, .int a, .int b] m Q := ⟨Nat.le_of_ble_eq_true rfl, h⟩
theorem zs_Tape_become : zsrt zc_Tape_become = true := by decide +kernel
set_option maxRecDepth 100000 in
theorem sg_Tape_become_101_0 {C : zC} {Q : zQ} (hC : zCm C) (a : Int32) (b : Int32) (m : zM) (h :
    zRun C 7 (some .int) zc_Tape_become Q 12 [.ref 101, .int a, .int b, .int (0 : Int32)] [] (sI (sI m 101 0 a) 101 1 b)) :
    zRun C 7 (some .int) zc_Tape_become Q 0 [.ref 101, .int a, .int b, .retAddr 0] [] m := zgo [12] hC zs_Tape_become (i := .aload_n 0) (r := zfind zc_Tape_become 1) rfl h
set_option maxRecDepth 100000 in
theorem sg_Tape_become_101_12 {C : zC} {Q : zQ} (hC : zCm C) (v1 : Int32) (v2 : Int32) (v3 : Int32) (m : zM) (h :
    if (60 : Int32) ≤ v3 then Q (some (.int (1 : Int32))) m
    else vp_in v3 60 ∧ (zRun C 7 (some .int) zc_Tape_become Q 12 [.ref 101, .int v1, .int v2, .int (v3 + (1 : Int32))] [] (sL m 102 v3.toNatClampNeg (0 : Int64)))) :
    zRun C 7 (some .int) zc_Tape_become Q 12 [.ref 101, .int v1, .int v2, .int v3] [] m := zgo [12] hC zs_Tape_become (i := .iload_n 3) (r := zfind zc_Tape_become 13) rfl h
theorem en_Tape_become_101 (dd : Nat) {Q : zQ} (a : Int32) (b : Int32) (m : zM) (h : zRun (zCall dd) 7 (some .int) zc_Tape_become Q 0 [.ref 101, .int a, .int b, .retAddr 0] [] m) : zCall (dd + 1) m_Tape_become [.ref 101, .int a, .int b] m Q := ⟨Nat.le_of_ble_eq_true rfl, h⟩
set_option maxRecDepth 100000 in
theorem sg_Tape_become_103_0 {C : zC} {Q : zQ} (hC : zCm C) (a : Int32) (b : Int32) (m : zM) (h :
    zRun C 7 (some .int) zc_Tape_become Q 12 [.ref 103, .int a, .int b, .int (0 : Int32)] [] (sI (sI m 103 0 a) 103 1 b)) :
    zRun C 7 (some .int) zc_Tape_become Q 0 [.ref 103, .int a, .int b, .retAddr 0] [] m := zgo [12] hC zs_Tape_become (i := .aload_n 0) (r := zfind zc_Tape_become 1) rfl h
set_option maxRecDepth 100000 in
theorem sg_Tape_become_103_12 {C : zC} {Q : zQ} (hC : zCm C) (v1 : Int32) (v2 : Int32) (v3 : Int32) (m : zM) (h :
    if (60 : Int32) ≤ v3 then Q (some (.int (1 : Int32))) m
    else vp_in v3 60 ∧ (zRun C 7 (some .int) zc_Tape_become Q 12 [.ref 103, .int v1, .int v2, .int (v3 + (1 : Int32))] [] (sL m 104 v3.toNatClampNeg (0 : Int64)))) :
    zRun C 7 (some .int) zc_Tape_become Q 12 [.ref 103, .int v1, .int v2, .int v3] [] m := zgo [12] hC zs_Tape_become (i := .iload_n 3) (r := zfind zc_Tape_become 13) rfl h
theorem en_Tape_become_103 (dd : Nat) {Q : zQ} (a : Int32) (b : Int32) (m : zM) (h : zRun (zCall dd) 7 (some .int) zc_Tape_become Q 0 [.ref 103, .int a, .int b, .retAddr 0] [] m) : zCall (dd + 1) m_Tape_become [.ref 103, .int a, .int b] m Q := ⟨Nat.le_of_ble_eq_true rfl, h⟩
set_option maxRecDepth 100000 in
theorem sg_Tape_become_105_0 {C : zC} {Q : zQ} (hC : zCm C) (a : Int32) (b : Int32) (m : zM) (h :
    zRun C 7 (some .int) zc_Tape_become Q 12 [.ref 105, .int a, .int b, .int (0 : Int32)] [] (sI (sI m 105 0 a) 105 1 b)) :
    zRun C 7 (some .int) zc_Tape_become Q 0 [.ref 105, .int a, .int b, .retAddr 0] [] m := zgo [12] hC zs_Tape_become (i := .aload_n 0) (r := zfind zc_Tape_become 1) rfl h
set_option maxRecDepth 100000 in
theorem sg_Tape_become_105_12 {C : zC} {Q : zQ} (hC : zCm C) (v1 : Int32) (v2 : Int32) (v3 : Int32) (m : zM) (h :
    if (60 : Int32) ≤ v3 then Q (some (.int (1 : Int32))) m
    else vp_in v3 60 ∧ (zRun C 7 (some .int) zc_Tape_become Q 12 [.ref 105, .int v1, .int v2, .int (v3 + (1 : Int32))] [] (sL m 106 v3.toNatClampNeg (0 : Int64)))) :
    zRun C 7 (some .int) zc_Tape_become Q 12 [.ref 105, .int v1, .int v2, .int v3] [] m := zgo [12] hC zs_Tape_become (i := .iload_n 3) (r := zfind zc_Tape_become 13) rfl h
theorem en_Tape_become_105 (dd : Nat) {Q : zQ} (a : Int32) (b : Int32) (m : zM) (h : zRun (zCall dd) 7 (some .int) zc_Tape_become Q 0 [.ref 105, .int a, .int b, .retAddr 0] [] m) : zCall (dd + 1) m_Tape_become [.ref 105, .int a, .int b] m Q := ⟨Nat.le_of_ble_eq_true rfl, h⟩
set_option maxRecDepth 100000 in
theorem sg_Tape_become_107_0 {C : zC} {Q : zQ} (hC : zCm C) (a : Int32) (b : Int32) (m : zM) (h :
    zRun C 7 (some .int) zc_Tape_become Q 12 [.ref 107, .int a, .int b, .int (0 : Int32)] [] (sI (sI m 107 0 a) 107 1 b)) :
    zRun C 7 (some .int) zc_Tape_become Q 0 [.ref 107, .int a, .int b, .retAddr 0] [] m := zgo [12] hC zs_Tape_become (i := .aload_n 0) (r := zfind zc_Tape_become 1) rfl h
set_option maxRecDepth 100000 in
theorem sg_Tape_become_107_12 {C : zC} {Q : zQ} (hC : zCm C) (v1 : Int32) (v2 : Int32) (v3 : Int32) (m : zM) (h :
    if (60 : Int32) ≤ v3 then Q (some (.int (1 : Int32))) m
    else vp_in v3 60 ∧ (zRun C 7 (some .int) zc_Tape_become Q 12 [.ref 107, .int v1, .int v2, .int (v3 + (1 : Int32))] [] (sL m 108 v3.toNatClampNeg (0 : Int64)))) :
    zRun C 7 (some .int) zc_Tape_become Q 12 [.ref 107, .int v1, .int v2, .int v3] [] m := zgo [12] hC zs_Tape_become (i := .iload_n 3) (r := zfind zc_Tape_become 13) rfl h
theorem en_Tape_become_107 (dd : Nat) {Q : zQ} (a : Int32) (b : Int32) (m : zM) (h : zRun (zCall dd) 7 (some .int) zc_Tape_become Q 0 [.ref 107, .int a, .int b, .retAddr 0] [] m) : zCall (dd + 1) m_Tape_become [.ref 107, .int a, .int b] m Q := ⟨Nat.le_of_ble_eq_true rfl, h⟩
set_option maxRecDepth 100000 in
theorem sg_Tape_become_109_0 {C : zC} {Q : zQ} (hC : zCm C) (a : Int32) (b : Int32) (m : zM) (h :
    zRun C 7 (some .int) zc_Tape_become Q 12 [.ref 109, .int a, .int b, .int (0 : Int32)] [] (sI (sI m 109 0 a) 109 1 b)) :
    zRun C 7 (some .int) zc_Tape_become Q 0 [.ref 109, .int a, .int b, .retAddr 0] [] m := zgo [12] hC zs_Tape_become (i := .aload_n 0) (r := zfind zc_Tape_become 1) rfl h
set_option maxRecDepth 100000 in
theorem sg_Tape_become_109_12 {C : zC} {Q : zQ} (hC : zCm C) (v1 : Int32) (v2 : Int32) (v3 : Int32) (m : zM) (h :
    if (60 : Int32) ≤ v3 then Q (some (.int (1 : Int32))) m
    else vp_in v3 60 ∧ (zRun C 7 (some .int) zc_Tape_become Q 12 [.ref 109, .int v1, .int v2, .int (v3 + (1 : Int32))] [] (sL m 110 v3.toNatClampNeg (0 : Int64)))) :
    zRun C 7 (some .int) zc_Tape_become Q 12 [.ref 109, .int v1, .int v2, .int v3] [] m := zgo [12] hC zs_Tape_become (i := .iload_n 3) (r := zfind zc_Tape_become 13) rfl h
theorem en_Tape_become_109 (dd : Nat) {Q : zQ} (a : Int32) (b : Int32) (m : zM) (h : zRun (zCall dd) 7 (some .int) zc_Tape_become Q 0 [.ref 109, .int a, .int b, .retAddr 0] [] m) : zCall (dd + 1) m_Tape_become [.ref 109, .int a, .int b] m Q := ⟨Nat.le_of_ble_eq_true rfl, h⟩
set_option maxRecDepth 100000 in
theorem sg_Tape_become_111_0 {C : zC} {Q : zQ} (hC : zCm C) (a : Int32) (b : Int32) (m : zM) (h :
    zRun C 7 (some .int) zc_Tape_become Q 12 [.ref 111, .int a, .int b, .int (0 : Int32)] [] (sI (sI m 111 0 a) 111 1 b)) :
    zRun C 7 (some .int) zc_Tape_become Q 0 [.ref 111, .int a, .int b, .retAddr 0] [] m := zgo [12] hC zs_Tape_become (i := .aload_n 0) (r := zfind zc_Tape_become 1) rfl h
set_option maxRecDepth 100000 in
theorem sg_Tape_become_111_12 {C : zC} {Q : zQ} (hC : zCm C) (v1 : Int32) (v2 : Int32) (v3 : Int32) (m : zM) (h :
    if (60 : Int32) ≤ v3 then Q (some (.int (1 : Int32))) m
    else vp_in v3 60 ∧ (zRun C 7 (some .int) zc_Tape_become Q 12 [.ref 111, .int v1, .int v2, .int (v3 + (1 : Int32))] [] (sL m 112 v3.toNatClampNeg (0 : Int64)))) :
    zRun C 7 (some .int) zc_Tape_become Q 12 [.ref 111, .int v1, .int v2, .int v3] [] m := zgo [12] hC zs_Tape_become (i := .iload_n 3) (r := zfind zc_Tape_become 13) rfl h
theorem en_Tape_become_111 (dd : Nat) {Q : zQ} (a : Int32) (b : Int32) (m : zM) (h : zRun (zCall dd) 7 (some .int) zc_Tape_become Q 0 [.ref 111, .int a, .int b, .retAddr 0] [] m) : zCall (dd + 1) m_Tape_become [.ref 111, .int a, .int b] m Q := ⟨Nat.le_of_ble_eq_true rfl, h⟩
theorem zs_Tape_fitted : zsrt zc_Tape_fitted = true := by decide +kernel
set_option maxRecDepth 100000 in
theorem sg_Tape_fitted_101_0 {C : zC} {Q : zQ} (hC : zCm C) (a : Int64) (m : zM) (h :
    if (gI m 101 0) = (0 : Int32) then Q (some (.long (((a.toInt32).toInt8.toInt32).toInt64))) m
    else if (gI m 101 0) = (1 : Int32) then Q (some (.long (((a.toInt32).toInt16.toInt32).toInt64))) m
    else if (gI m 101 0) = (2 : Int32) then Q (some (.long ((a.toInt32).toInt64))) m
    else if (gI m 101 0) = (3 : Int32) then Q (some (.long a)) m
    else if (gI m 101 0) = (4 : Int32) then if (lg_cmp a (0 : Int64)) = (0 : Int32) then Q (some (.long (0 : Int64))) m
      else Q (some (.long (1 : Int64))) m
    else Q (some (.long a)) m) :
    zRun C 7 (some .long) zc_Tape_fitted Q 0 [.ref 101, .long a, .retAddr 0] [] m := zgo [] hC zs_Tape_fitted (i := .aload_n 0) (r := zfind zc_Tape_fitted 1) rfl h
theorem en_Tape_fitted_101 (dd : Nat) {Q : zQ} (a : Int64) (m : zM) (h : zRun (zCall dd) 7 (some .long) zc_Tape_fitted Q 0 [.ref 101, .long a, .retAddr 0] [] m) : zCall (dd + 1) m_Tape_fitted [.ref 101, .long a] m Q := ⟨Nat.le_of_ble_eq_true rfl, h⟩
set_option maxRecDepth 100000 in
theorem sg_Tape_fitted_103_0 {C : zC} {Q : zQ} (hC : zCm C) (a : Int64) (m : zM) (h :
    if (gI m 103 0) = (0 : Int32) then Q (some (.long (((a.toInt32).toInt8.toInt32).toInt64))) m
    else if (gI m 103 0) = (1 : Int32) then Q (some (.long (((a.toInt32).toInt16.toInt32).toInt64))) m
    else if (gI m 103 0) = (2 : Int32) then Q (some (.long ((a.toInt32).toInt64))) m
    else if (gI m 103 0) = (3 : Int32) then Q (some (.long a)) m
    else if (gI m 103 0) = (4 : Int32) then if (lg_cmp a (0 : Int64)) = (0 : Int32) then Q (some (.long (0 : Int64))) m
      else Q (some (.long (1 : Int64))) m
    else Q (some (.long a)) m) :
    zRun C 7 (some .long) zc_Tape_fitted Q 0 [.ref 103, .long a, .retAddr 0] [] m := zgo [] hC zs_Tape_fitted (i := .aload_n 0) (r := zfind zc_Tape_fitted 1) rfl h
theorem en_Tape_fitted_103 (dd : Nat) {Q : zQ} (a : Int64) (m : zM) (h : zRun (zCall dd) 7 (some .long) zc_Tape_fitted Q 0 [.ref 103, .long a, .retAddr 0] [] m) : zCall (dd + 1) m_Tape_fitted [.ref 103, .long a] m Q := ⟨Nat.le_of_ble_eq_true rfl, h⟩
set_option maxRecDepth 100000 in
theorem sg_Tape_fitted_105_0 {C : zC} {Q : zQ} (hC : zCm C) (a : Int64) (m : zM) (h :
    if (gI m 105 0) = (0 : Int32) then Q (some (.long (((a.toInt32).toInt8.toInt32).toInt64))) m
    else if (gI m 105 0) = (1 : Int32) then Q (some (.long (((a.toInt32).toInt16.toInt32).toInt64))) m
    else if (gI m 105 0) = (2 : Int32) then Q (some (.long ((a.toInt32).toInt64))) m
    else if (gI m 105 0) = (3 : Int32) then Q (some (.long a)) m
    else if (gI m 105 0) = (4 : Int32) then if (lg_cmp a (0 : Int64)) = (0 : Int32) then Q (some (.long (0 : Int64))) m
      else Q (some (.long (1 : Int64))) m
    else Q (some (.long a)) m) :
    zRun C 7 (some .long) zc_Tape_fitted Q 0 [.ref 105, .long a, .retAddr 0] [] m := zgo [] hC zs_Tape_fitted (i := .aload_n 0) (r := zfind zc_Tape_fitted 1) rfl h
theorem en_Tape_fitted_105 (dd : Nat) {Q : zQ} (a : Int64) (m : zM) (h : zRun (zCall dd) 7 (some .long) zc_Tape_fitted Q 0 [.ref 105, .long a, .retAddr 0] [] m) : zCall (dd + 1) m_Tape_fitted [.ref 105, .long a] m Q := ⟨Nat.le_of_ble_eq_true rfl, h⟩
set_option maxRecDepth 100000 in
theorem sg_Tape_fitted_107_0 {C : zC} {Q : zQ} (hC : zCm C) (a : Int64) (m : zM) (h :
    if (gI m 107 0) = (0 : Int32) then Q (some (.long (((a.toInt32).toInt8.toInt32).toInt64))) m
    else if (gI m 107 0) = (1 : Int32) then Q (some (.long (((a.toInt32).toInt16.toInt32).toInt64))) m
    else if (gI m 107 0) = (2 : Int32) then Q (some (.long ((a.toInt32).toInt64))) m
    else if (gI m 107 0) = (3 : Int32) then Q (some (.long a)) m
    else if (gI m 107 0) = (4 : Int32) then if (lg_cmp a (0 : Int64)) = (0 : Int32) then Q (some (.long (0 : Int64))) m
      else Q (some (.long (1 : Int64))) m
    else Q (some (.long a)) m) :
    zRun C 7 (some .long) zc_Tape_fitted Q 0 [.ref 107, .long a, .retAddr 0] [] m := zgo [] hC zs_Tape_fitted (i := .aload_n 0) (r := zfind zc_Tape_fitted 1) rfl h
theorem en_Tape_fitted_107 (dd : Nat) {Q : zQ} (a : Int64) (m : zM) (h : zRun (zCall dd) 7 (some .long) zc_Tape_fitted Q 0 [.ref 107, .long a, .retAddr 0] [] m) : zCall (dd + 1) m_Tape_fitted [.ref 107, .long a] m Q := ⟨Nat.le_of_ble_eq_true rfl, h⟩
set_option maxRecDepth 100000 in
theorem sg_Tape_fitted_109_0 {C : zC} {Q : zQ} (hC : zCm C) (a : Int64) (m : zM) (h :
    if (gI m 109 0) = (0 : Int32) then Q (some (.long (((a.toInt32).toInt8.toInt32).toInt64))) m
    else if (gI m 109 0) = (1 : Int32) then Q (some (.long (((a.toInt32).toInt16.toInt32).toInt64))) m
    else if (gI m 109 0) = (2 : Int32) then Q (some (.long ((a.toInt32).toInt64))) m
    else if (gI m 109 0) = (3 : Int32) then Q (some (.long a)) m
    else if (gI m 109 0) = (4 : Int32) then if (lg_cmp a (0 : Int64)) = (0 : Int32) then Q (some (.long (0 : Int64))) m
      else Q (some (.long (1 : Int64))) m
    else Q (some (.long a)) m) :
    zRun C 7 (some .long) zc_Tape_fitted Q 0 [.ref 109, .long a, .retAddr 0] [] m := zgo [] hC zs_Tape_fitted (i := .aload_n 0) (r := zfind zc_Tape_fitted 1) rfl h
theorem en_Tape_fitted_109 (dd : Nat) {Q : zQ} (a : Int64) (m : zM) (h : zRun (zCall dd) 7 (some .long) zc_Tape_fitted Q 0 [.ref 109, .long a, .retAddr 0] [] m) : zCall (dd + 1) m_Tape_fitted [.ref 109, .long a] m Q := ⟨Nat.le_of_ble_eq_true rfl, h⟩
set_option maxRecDepth 100000 in
theorem sg_Tape_fitted_111_0 {C : zC} {Q : zQ} (hC : zCm C) (a : Int64) (m : zM) (h :
    if (gI m 111 0) = (0 : Int32) then Q (some (.long (((a.toInt32).toInt8.toInt32).toInt64))) m
    else if (gI m 111 0) = (1 : Int32) then Q (some (.long (((a.toInt32).toInt16.toInt32).toInt64))) m
    else if (gI m 111 0) = (2 : Int32) then Q (some (.long ((a.toInt32).toInt64))) m
    else if (gI m 111 0) = (3 : Int32) then Q (some (.long a)) m
    else if (gI m 111 0) = (4 : Int32) then if (lg_cmp a (0 : Int64)) = (0 : Int32) then Q (some (.long (0 : Int64))) m
      else Q (some (.long (1 : Int64))) m
    else Q (some (.long a)) m) :
    zRun C 7 (some .long) zc_Tape_fitted Q 0 [.ref 111, .long a, .retAddr 0] [] m := zgo [] hC zs_Tape_fitted (i := .aload_n 0) (r := zfind zc_Tape_fitted 1) rfl h
theorem en_Tape_fitted_111 (dd : Nat) {Q : zQ} (a : Int64) (m : zM) (h : zRun (zCall dd) 7 (some .long) zc_Tape_fitted Q 0 [.ref 111, .long a, .retAddr 0] [] m) : zCall (dd + 1) m_Tape_fitted [.ref 111, .long a] m Q := ⟨Nat.le_of_ble_eq_true rfl, h⟩
theorem zs_Tape_spans : zsrt zc_Tape_spans = true := by decide +kernel
set_option maxRecDepth 100000 in
theorem sg_Tape_spans_101_0 {C : zC} {Q : zQ} (hC : zCm C) (a : Int32) (b : Int32) (m : zM) (h :
    if b < (0 : Int32) then (0 : Int32) &&& 1 = (0 : Int32) ∧ Q (some (.int (0 : Int32))) m
    else if a < (0 : Int32) then (0 : Int32) &&& 1 = (0 : Int32) ∧ Q (some (.int (0 : Int32))) m
      else if (gI m 101 1) < b then (0 : Int32) &&& 1 = (0 : Int32) ∧ Q (some (.int (0 : Int32))) m
        else if ((gI m 101 1) - b) < a then (0 : Int32) &&& 1 = (0 : Int32) ∧ Q (some (.int (0 : Int32))) m
          else (1 : Int32) &&& 1 = (1 : Int32) ∧ Q (some (.int (1 : Int32))) m) :
    zRun C 7 (some .boolean) zc_Tape_spans Q 0 [.ref 101, .int a, .int b] [] m := zgo [] hC zs_Tape_spans (i := .iload_n 2) (r := zfind zc_Tape_spans 1) rfl h
theorem en_Tape_spans_101 (dd : Nat) {Q : zQ} (a : Int32) (b : Int32) (m : zM) (h : zRun (zCall dd) 7 (some .boolean) zc_Tape_spans Q 0 [.ref 101, .int a, .int b] [] m) : zCall (dd + 1) m_Tape_spans [.ref 101, .int a, .int b] m Q := ⟨Nat.le_of_ble_eq_true rfl, h⟩
set_option maxRecDepth 100000 in
theorem sg_Tape_spans_103_0 {C : zC} {Q : zQ} (hC : zCm C) (a : Int32) (b : Int32) (m : zM) (h :
    if b < (0 : Int32) then (0 : Int32) &&& 1 = (0 : Int32) ∧ Q (some (.int (0 : Int32))) m
    else if a < (0 : Int32) then (0 : Int32) &&& 1 = (0 : Int32) ∧ Q (some (.int (0 : Int32))) m
      else if (gI m 103 1) < b then (0 : Int32) &&& 1 = (0 : Int32) ∧ Q (some (.int (0 : Int32))) m
        else if ((gI m 103 1) - b) < a then (0 : Int32) &&& 1 = (0 : Int32) ∧ Q (some (.int (0 : Int32))) m
          else (1 : Int32) &&& 1 = (1 : Int32) ∧ Q (some (.int (1 : Int32))) m) :
    zRun C 7 (some .boolean) zc_Tape_spans Q 0 [.ref 103, .int a, .int b] [] m := zgo [] hC zs_Tape_spans (i := .iload_n 2) (r := zfind zc_Tape_spans 1) rfl h
theorem en_Tape_spans_103 (dd : Nat) {Q : zQ} (a : Int32) (b : Int32) (m : zM) (h : zRun (zCall dd) 7 (some .boolean) zc_Tape_spans Q 0 [.ref 103, .int a, .int b] [] m) : zCall (dd + 1) m_Tape_spans [.ref 103, .int a, .int b] m Q := ⟨Nat.le_of_ble_eq_true rfl, h⟩
set_option maxRecDepth 100000 in
theorem sg_Tape_spans_105_0 {C : zC} {Q : zQ} (hC : zCm C) (a : Int32) (b : Int32) (m : zM) (h :
    if b < (0 : Int32) then (0 : Int32) &&& 1 = (0 : Int32) ∧ Q (some (.int (0 : Int32))) m
    else if a < (0 : Int32) then (0 : Int32) &&& 1 = (0 : Int32) ∧ Q (some (.int (0 : Int32))) m
      else if (gI m 105 1) < b then (0 : Int32) &&& 1 = (0 : Int32) ∧ Q (some (.int (0 : Int32))) m
        else if ((gI m 105 1) - b) < a then (0 : Int32) &&& 1 = (0 : Int32) ∧ Q (some (.int (0 : Int32))) m
          else (1 : Int32) &&& 1 = (1 : Int32) ∧ Q (some (.int (1 : Int32))) m) :
    zRun C 7 (some .boolean) zc_Tape_spans Q 0 [.ref 105, .int a, .int b] [] m := zgo [] hC zs_Tape_spans (i := .iload_n 2) (r := zfind zc_Tape_spans 1) rfl h
theorem en_Tape_spans_105 (dd : Nat) {Q : zQ} (a : Int32) (b : Int32) (m : zM) (h : zRun (zCall dd) 7 (some .boolean) zc_Tape_spans Q 0 [.ref 105, .int a, .int b] [] m) : zCall (dd + 1) m_Tape_spans [.ref 105, .int a, .int b] m Q := ⟨Nat.le_of_ble_eq_true rfl, h⟩
set_option maxRecDepth 100000 in
theorem sg_Tape_spans_107_0 {C : zC} {Q : zQ} (hC : zCm C) (a : Int32) (b : Int32) (m : zM) (h :
    if b < (0 : Int32) then (0 : Int32) &&& 1 = (0 : Int32) ∧ Q (some (.int (0 : Int32))) m
    else if a < (0 : Int32) then (0 : Int32) &&& 1 = (0 : Int32) ∧ Q (some (.int (0 : Int32))) m
      else if (gI m 107 1) < b then (0 : Int32) &&& 1 = (0 : Int32) ∧ Q (some (.int (0 : Int32))) m
        else if ((gI m 107 1) - b) < a then (0 : Int32) &&& 1 = (0 : Int32) ∧ Q (some (.int (0 : Int32))) m
          else (1 : Int32) &&& 1 = (1 : Int32) ∧ Q (some (.int (1 : Int32))) m) :
    zRun C 7 (some .boolean) zc_Tape_spans Q 0 [.ref 107, .int a, .int b] [] m := zgo [] hC zs_Tape_spans (i := .iload_n 2) (r := zfind zc_Tape_spans 1) rfl h
theorem en_Tape_spans_107 (dd : Nat) {Q : zQ} (a : Int32) (b : Int32) (m : zM) (h : zRun (zCall dd) 7 (some .boolean) zc_Tape_spans Q 0 [.ref 107, .int a, .int b] [] m) : zCall (dd + 1) m_Tape_spans [.ref 107, .int a, .int b] m Q := ⟨Nat.le_of_ble_eq_true rfl, h⟩
set_option maxRecDepth 100000 in
theorem sg_Tape_spans_109_0 {C : zC} {Q : zQ} (hC : zCm C) (a : Int32) (b : Int32) (m : zM) (h :
    if b < (0 : Int32) then (0 : Int32) &&& 1 = (0 : Int32) ∧ Q (some (.int (0 : Int32))) m
    else if a < (0 : Int32) then (0 : Int32) &&& 1 = (0 : Int32) ∧ Q (some (.int (0 : Int32))) m
      else if (gI m 109 1) < b then (0 : Int32) &&& 1 = (0 : Int32) ∧ Q (some (.int (0 : Int32))) m
        else if ((gI m 109 1) - b) < a then (0 : Int32) &&& 1 = (0 : Int32) ∧ Q (some (.int (0 : Int32))) m
          else (1 : Int32) &&& 1 = (1 : Int32) ∧ Q (some (.int (1 : Int32))) m) :
    zRun C 7 (some .boolean) zc_Tape_spans Q 0 [.ref 109, .int a, .int b] [] m := zgo [] hC zs_Tape_spans (i := .iload_n 2) (r := zfind zc_Tape_spans 1) rfl h
theorem en_Tape_spans_109 (dd : Nat) {Q : zQ} (a : Int32) (b : Int32) (m : zM) (h : zRun (zCall dd) 7 (some .boolean) zc_Tape_spans Q 0 [.ref 109, .int a, .int b] [] m) : zCall (dd + 1) m_Tape_spans [.ref 109, .int a, .int b] m Q := ⟨Nat.le_of_ble_eq_true rfl, h⟩
set_option maxRecDepth 100000 in
theorem sg_Tape_spans_111_0 {C : zC} {Q : zQ} (hC : zCm C) (a : Int32) (b : Int32) (m : zM) (h :
    if b < (0 : Int32) then (0 : Int32) &&& 1 = (0 : Int32) ∧ Q (some (.int (0 : Int32))) m
    else if a < (0 : Int32) then (0 : Int32) &&& 1 = (0 : Int32) ∧ Q (some (.int (0 : Int32))) m
      else if (gI m 111 1) < b then (0 : Int32) &&& 1 = (0 : Int32) ∧ Q (some (.int (0 : Int32))) m
        else if ((gI m 111 1) - b) < a then (0 : Int32) &&& 1 = (0 : Int32) ∧ Q (some (.int (0 : Int32))) m
          else (1 : Int32) &&& 1 = (1 : Int32) ∧ Q (some (.int (1 : Int32))) m) :
    zRun C 7 (some .boolean) zc_Tape_spans Q 0 [.ref 111, .int a, .int b] [] m := zgo [] hC zs_Tape_spans (i := .iload_n 2) (r := zfind zc_Tape_spans 1) rfl h
theorem en_Tape_spans_111 (dd : Nat) {Q : zQ} (a : Int32) (b : Int32) (m : zM) (h : zRun (zCall dd) 7 (some .boolean) zc_Tape_spans Q 0 [.ref 111, .int a, .int b] [] m) : zCall (dd + 1) m_Tape_spans [.ref 111, .int a, .int b] m Q := ⟨Nat.le_of_ble_eq_true rfl, h⟩
theorem zs_Box_plant : zsrt zc_Box_plant = true := by decide +kernel
set_option maxRecDepth 100000 in
theorem sg_Box_plant_0 {C : zC} {Q : zQ} (hC : zCm C) (a : Int32) (b : Int32) (m : zM) (h :
    if a < (0 : Int32) then Q (some (.int (-1 : Int32))) m
    else if a < (7 : Int32) then if b < (0 : Int32) then Q (some (.int (-2 : Int32))) m
        else if b ≤ (9 : Int32) then C m_Hedge_add [.ref 21, .int a, .int b] m (fun o1 m2 => ∃ x3, o1 = some (.int x3) ∧ (Q (some (.int x3)) m2))
          else Q (some (.int (-2 : Int32))) m
      else Q (some (.int (-1 : Int32))) m) :
    zRun C 8 (some .int) zc_Box_plant Q 0 [.ref 20, .int a, .int b] [] m := zgo [] hC zs_Box_plant (i := .iload_n 1) (r := zfind zc_Box_plant 1) rfl h
theorem en_Box_plant (dd : Nat) {Q : zQ} (a : Int32) (b : Int32) (m : zM) (h : zRun (zCall dd) 8 (some .int) zc_Box_plant Q 0 [.ref 20, .int a, .int b] [] m) : zCall (dd + 1) m_Box_plant [.ref 20, .int a, .int b] m Q := ⟨Nat.le_of_ble_eq_true rfl, h⟩
theorem zs_Box_of : zsrt zc_Box_of = true := by decide +kernel
set_option maxRecDepth 100000 in
theorem sg_Box_of_0 {C : zC} {Q : zQ} (hC : zCm C) (a : Int32) (b : Int32) (m : zM) (h :
    C m_Hedge_has [.ref 21, .int a] m (fun o1 m2 => ∃ x3, o1 = some (.int x3) ∧ (if ¬ x3 = (0 : Int32) then if b = (0 : Int32) then vp_in a 8 ∧ (Q (some (.int (gI m2 22 a.toNatClampNeg))) m2)
      else if b = (1 : Int32) then vp_in a 8 ∧ (Q (some (.int (gI m2 23 a.toNatClampNeg))) m2)
      else if b = (2 : Int32) then vp_in a 8 ∧ (Q (some (.int (gI m2 24 a.toNatClampNeg))) m2)
      else if b = (3 : Int32) then C m_Hedge_isDead [.ref 21, .int a] m2 (fun o10 m11 => ∃ x12, o10 = some (.int x12) ∧ (if x12 = (0 : Int32) then Q (some (.int (0 : Int32))) m11
        else Q (some (.int (1 : Int32))) m11))
      else if b = (4 : Int32) then C m_Hedge_paceOf [.ref 21, .int a] m2 (fun o7 m8 => ∃ x9, o7 = some (.int x9) ∧ (Q (some (.int x9)) m8))
      else if b = (5 : Int32) then C m_Hedge_takesOf [.ref 21, .int a] m2 (fun o4 m5 => ∃ x6, o4 = some (.int x6) ∧ (Q (some (.int x6)) m5))
      else Q (some (.int (-1 : Int32))) m2
    else Q (some (.int (-1 : Int32))) m2))) :
    zRun C 8 (some .int) zc_Box_of Q 0 [.ref 20, .int a, .int b] [] m := zgo [] hC zs_Box_of (i := .aload_n 0) (r := zfind zc_Box_of 1) rfl h
theorem en_Box_of (dd : Nat) {Q : zQ} (a : Int32) (b : Int32) (m : zM) (h : zRun (zCall dd) 8 (some .int) zc_Box_of Q 0 [.ref 20, .int a, .int b] [] m) : zCall (dd + 1) m_Box_of [.ref 20, .int a, .int b] m Q := ⟨Nat.le_of_ble_eq_true rfl, h⟩
theorem zs_Box_says : zsrt zc_Box_says = true := by decide +kernel
set_option maxRecDepth 100000 in
theorem sg_Box_says_0 {C : zC} {Q : zQ} (hC : zCm C) (a : Int32) (b : Int32) (m : zM) (h :
    C m_Hedge_has [.ref 21, .int a] m (fun o1 m2 => ∃ x3, o1 = some (.int x3) ∧ (if ¬ x3 = (0 : Int32) then C m_Box_isWord [.int b] m2 (fun o4 m5 => ∃ x6, o4 = some (.int x6) ∧ (if ¬ x6 = (0 : Int32) then C m_Hedge_passedOn [.ref 21, .int a, .int b] m5 (fun o7 m8 => ∃ x9, o7 = some (.int x9) ∧ (Q (some (.int x9)) m8))
      else Q (some (.int (-2 : Int32))) m5))
    else Q (some (.int (-1 : Int32))) m2))) :
    zRun C 8 (some .int) zc_Box_says Q 0 [.ref 20, .int a, .int b] [] m := zgo [] hC zs_Box_says (i := .aload_n 0) (r := zfind zc_Box_says 1) rfl h
theorem en_Box_says (dd : Nat) {Q : zQ} (a : Int32) (b : Int32) (m : zM) (h : zRun (zCall dd) 8 (some .int) zc_Box_says Q 0 [.ref 20, .int a, .int b] [] m) : zCall (dd + 1) m_Box_says [.ref 20, .int a, .int b] m Q := ⟨Nat.le_of_ble_eq_true rfl, h⟩
theorem zs_Box_touch : zsrt zc_Box_touch = true := by decide +kernel
set_option maxRecDepth 100000 in
theorem sg_Box_touch_0 {C : zC} {Q : zQ} (hC : zCm C) (a : Int32) (b : Int32) (c : Int32) (m : zM) (h :
    C m_Hedge_has [.ref 21, .int a] m (fun o1 m2 => ∃ x3, o1 = some (.int x3) ∧ (if x3 = (0 : Int32) then Q (some (.int (-1 : Int32))) m2
    else C m_Hedge_has [.ref 21, .int b] m2 (fun o4 m5 => ∃ x6, o4 = some (.int x6) ∧ (if ¬ x6 = (0 : Int32) then if ¬ a = b then vp_in a 8 ∧ (C m_Box_with [.int (gI m5 24 a.toNatClampNeg), .int b, .int c] m5 (fun o7 m8 => ∃ x9, o7 = some (.int x9) ∧ (vp_in a 8 ∧ (C m_Box_holds [.int (gI m5 24 a.toNatClampNeg), .int b] (sI m8 24 a.toNatClampNeg x9) (fun o10 m11 => ∃ x12, o10 = some (.int x12) ∧ (if x12 = (0 : Int32) then Q (some (.int (0 : Int32))) m11
          else Q (some (.int (1 : Int32))) m11))))))
        else Q (some (.int (-2 : Int32))) m5
      else Q (some (.int (-1 : Int32))) m5))))) :
    zRun C 8 (some .int) zc_Box_touch Q 0 [.ref 20, .int a, .int b, .int c, .retAddr 0] [] m := zgo [] hC zs_Box_touch (i := .aload_n 0) (r := zfind zc_Box_touch 1) rfl h
theorem en_Box_touch (dd : Nat) {Q : zQ} (a : Int32) (b : Int32) (c : Int32) (m : zM) (h : zRun (zCall dd) 8 (some .int) zc_Box_touch Q 0 [.ref 20, .int a, .int b, .int c, .retAddr 0] [] m) : zCall (dd + 1) m_Box_touch [.ref 20, .int a, .int b, .int c] m Q := ⟨Nat.le_of_ble_eq_true rfl, h⟩
theorem zs_Box_kill : zsrt zc_Box_kill = true := by decide +kernel
set_option maxRecDepth 100000 in
theorem sg_Box_kill_0 {C : zC} {Q : zQ} (hC : zCm C) (a : Int32) (b : Int32) (m : zM) (h :
    C m_Hedge_has [.ref 21, .int a] m (fun o1 m2 => ∃ x3, o1 = some (.int x3) ∧ (if ¬ x3 = (0 : Int32) then C m_Box_with [.int (gI m2 21 5), .int a, .int b] m2 (fun o4 m5 => ∃ x6, o4 = some (.int x6) ∧ (C m_Box_holds [.int (gI m2 21 5), .int a] (sI m5 21 5 x6) (fun o7 m8 => ∃ x9, o7 = some (.int x9) ∧ (if x9 = (0 : Int32) then Q (some (.int (0 : Int32))) m8
      else Q (some (.int (1 : Int32))) m8))))
    else Q (some (.int (-1 : Int32))) m2))) :
    zRun C 8 (some .int) zc_Box_kill Q 0 [.ref 20, .int a, .int b, .retAddr 0] [] m := zgo [] hC zs_Box_kill (i := .aload_n 0) (r := zfind zc_Box_kill 1) rfl h
theorem en_Box_kill (dd : Nat) {Q : zQ} (a : Int32) (b : Int32) (m : zM) (h : zRun (zCall dd) 8 (some .int) zc_Box_kill Q 0 [.ref 20, .int a, .int b, .retAddr 0] [] m) : zCall (dd + 1) m_Box_kill [.ref 20, .int a, .int b] m Q := ⟨Nat.le_of_ble_eq_true rfl, h⟩
theorem zs_Box_row : zsrt zc_Box_row = true := by decide +kernel
set_option maxRecDepth 100000 in
theorem sg_Box_row_0 {C : zC} {Q : zQ} (hC : zCm C) (a : Int32) (b : Int32) (c : Int32) (m : zM) (h :
    C m_Hedge_has [.ref 21, .int a] m (fun o1 m2 => ∃ x3, o1 = some (.int x3) ∧ (if x3 = (0 : Int32) then Q (some (.int (-1 : Int32))) m2
    else if b < (0 : Int32) then Q (some (.int (-1 : Int32))) m2
      else if b < (4 : Int32) then if c < (0 : Int32) then Q (some (.int (-2 : Int32))) m2
          else if c ≤ (9 : Int32) then vp_in a 8 ∧ (if (gI m2 22 a.toNatClampNeg) = (6 : Int32) then vp_in ((a * (4 : Int32)) + b) 32 ∧ (vp_in ((a * (4 : Int32)) + b) 32 ∧ (Q (some (.int (gI m2 25 ((a * (4 : Int32)) + b).toNatClampNeg))) (sI m2 25 ((a * (4 : Int32)) + b).toNatClampNeg c)))
              else Q (some (.int (-3 : Int32))) m2)
            else Q (some (.int (-2 : Int32))) m2
        else Q (some (.int (-1 : Int32))) m2))) :
    zRun C 8 (some .int) zc_Box_row Q 0 [.ref 20, .int a, .int b, .int c, .retAddr 0, .retAddr 0] [] m := zgo [] hC zs_Box_row (i := .aload_n 0) (r := zfind zc_Box_row 1) rfl h
theorem en_Box_row (dd : Nat) {Q : zQ} (a : Int32) (b : Int32) (c : Int32) (m : zM) (h : zRun (zCall dd) 8 (some .int) zc_Box_row Q 0 [.ref 20, .int a, .int b, .int c, .retAddr 0, .retAddr 0] [] m) : zCall (dd + 1) m_Box_row [.ref 20, .int a, .int b, .int c] m Q := ⟨Nat.le_of_ble_eq_true rfl, h⟩
theorem zs_Box_feed : zsrt zc_Box_feed = true := by decide +kernel
set_option maxRecDepth 100000 in
theorem sg_Box_feed_0 {C : zC} {Q : zQ} (hC : zCm C) (a : Int32) (m : zM) (h :
    if a < (0 : Int32) then Q (some (.int (-2 : Int32))) m
    else if a ≤ (127 : Int32) then C m_Reader_add [.ref 88, .int a] m (fun o1 m2 => ∃ x3, o1 = some (.int x3) ∧ (Q (some (.int x3)) m2))
      else Q (some (.int (-2 : Int32))) m) :
    zRun C 8 (some .int) zc_Box_feed Q 0 [.ref 20, .int a] [] m := zgo [] hC zs_Box_feed (i := .iload_n 1) (r := zfind zc_Box_feed 1) rfl h
theorem en_Box_feed (dd : Nat) {Q : zQ} (a : Int32) (m : zM) (h : zRun (zCall dd) 8 (some .int) zc_Box_feed Q 0 [.ref 20, .int a] [] m) : zCall (dd + 1) m_Box_feed [.ref 20, .int a] m Q := ⟨Nat.le_of_ble_eq_true rfl, h⟩
theorem zs_Box_garden : zsrt zc_Box_garden = true := by decide +kernel
set_option maxRecDepth 100000 in
theorem sg_Box_garden_0 {C : zC} {Q : zQ} (hC : zCm C) (m : zM) (h :
    if (gI m 20 4) < (6 : Int32) then vp_in (gI m 20 4) 6 ∧ (C m_Reader_readInto [.ref 88, .ref (58 + 5 * (gI m 20 4).toNatClampNeg)] m (fun o1 m2 => ∃ x3, o1 = some (.int x3) ∧ (if x3 < (0 : Int32) then vp_in (gI m2 20 4) 6 ∧ (bif Nat.beq (zsh (58 + 5 * (gI m2 20 4).toNatClampNeg)) 1 then (Q (some (.int ((gI (sI (sG m2 21 (some (58 + 5 * (gI m2 20 4).toNatClampNeg))) 20 4 ((gI (sG m2 21 (some (58 + 5 * (gI m2 20 4).toNatClampNeg))) 20 4) + (1 : Int32))) 20 4) - (1 : Int32)))) (sI (sG m2 21 (some (58 + 5 * (gI m2 20 4).toNatClampNeg))) 20 4 ((gI (sG m2 21 (some (58 + 5 * (gI m2 20 4).toNatClampNeg))) 20 4) + (1 : Int32)))) else False)
      else Q (some (.int ((-10 : Int32) - x3))) m2)))
    else Q (some (.int (-4 : Int32))) m) :
    zRun C 8 (some .int) zc_Box_garden Q 0 [.ref 20, .retAddr 0] [] m := zgo [] hC zs_Box_garden (i := .aload_n 0) (r := zfind zc_Box_garden 1) rfl h
theorem en_Box_garden (dd : Nat) {Q : zQ} (m : zM) (h : zRun (zCall dd) 8 (some .int) zc_Box_garden Q 0 [.ref 20, .retAddr 0] [] m) : zCall (dd + 1) m_Box_garden [.ref 20] m Q := ⟨Nat.le_of_ble_eq_true rfl, h⟩
theorem zs_Box_told : zsrt zc_Box_told = true := by decide +kernel
set_option maxRecDepth 100000 in
theorem sg_Box_told_0 {C : zC} {Q : zQ} (hC : zCm C) (a : Int32) (m : zM) (h :
    if a = (0 : Int32) then Q (some (.int (gI m 21 6))) m
    else if a = (1 : Int32) then C m_Hedge_frost [.ref 21] m (fun o4 m5 => ∃ x6, o4 = some (.int x6) ∧ (Q (some (.int x6)) m5))
    else if a = (2 : Int32) then C m_Hedge_lose [.ref 21] m (fun o1 m2 => ∃ x3, o1 = some (.int x3) ∧ (Q (some (.int x3)) m2))
    else if a = (3 : Int32) then Q (some (.int (gI m 21 5))) m
    else Q (some (.int (-1 : Int32))) m) :
    zRun C 8 (some .int) zc_Box_told Q 0 [.ref 20, .int a] [] m := zgo [] hC zs_Box_told (i := .iload_n 1) (r := zfind zc_Box_told 1) rfl h
theorem en_Box_told (dd : Nat) {Q : zQ} (a : Int32) (m : zM) (h : zRun (zCall dd) 8 (some .int) zc_Box_told Q 0 [.ref 20, .int a] [] m) : zCall (dd + 1) m_Box_told [.ref 20, .int a] m Q := ⟨Nat.le_of_ble_eq_true rfl, h⟩
theorem zs_Box_pass : zsrt zc_Box_pass = true := by decide +kernel
set_option maxRecDepth 100000 in
theorem sg_Box_pass_0 {C : zC} {Q : zQ} (hC : zCm C) (a : Int32) (m : zM) (h :
    if a < (0 : Int32) then Q (some (.int (-2 : Int32))) m
    else if a ≤ (99 : Int32) then if ((gI m 21 6) + a) ≤ (9999 : Int32) then Q (some (.int (gI (sI m 21 6 ((gI m 21 6) + a)) 21 6))) (sI m 21 6 ((gI m 21 6) + a))
        else Q (some (.int (-3 : Int32))) m
      else Q (some (.int (-2 : Int32))) m) :
    zRun C 8 (some .int) zc_Box_pass Q 0 [.ref 20, .int a] [] m := zgo [] hC zs_Box_pass (i := .iload_n 1) (r := zfind zc_Box_pass 1) rfl h
theorem en_Box_pass (dd : Nat) {Q : zQ} (a : Int32) (m : zM) (h : zRun (zCall dd) 8 (some .int) zc_Box_pass Q 0 [.ref 20, .int a] [] m) : zCall (dd + 1) m_Box_pass [.ref 20, .int a] m Q := ⟨Nat.le_of_ble_eq_true rfl, h⟩
theorem zs_Box_heard : zsrt zc_Box_heard = true := by decide +kernel
set_option maxRecDepth 100000 in
theorem sg_Box_heard_0 {C : zC} {Q : zQ} (hC : zCm C) (a : Int32) (b : Int32) (c : Int32) (d : Int32) (m : zM) (h :
    C m_Hedge_has [.ref 21, .int a] m (fun o1 m2 => ∃ x3, o1 = some (.int x3) ∧ (if x3 = (0 : Int32) then Q (some (.int (-1 : Int32))) m2
    else C m_Hedge_has [.ref 21, .int c] m2 (fun o4 m5 => ∃ x6, o4 = some (.int x6) ∧ (if x6 = (0 : Int32) then Q (some (.int (-1 : Int32))) m5
      else if d < (0 : Int32) then Q (some (.int (-1 : Int32))) m5
        else if d ≤ (2 : Int32) then C m_Box_isWord [.int b] m5 (fun o7 m8 => ∃ x9, o7 = some (.int x9) ∧ (if ¬ x9 = (0 : Int32) then C m_Qu_hearingOf [.ref 90, .int a, .int b, .int c, .int d] m8 (fun o10 m11 => ∃ x12, o10 = some (.int x12) ∧ (Q (some (.int x12)) m11))
            else Q (some (.int (-2 : Int32))) m8))
          else Q (some (.int (-1 : Int32))) m5))))) :
    zRun C 8 (some .int) zc_Box_heard Q 0 [.ref 20, .int a, .int b, .int c, .int d] [] m := zgo [] hC zs_Box_heard (i := .aload_n 0) (r := zfind zc_Box_heard 1) rfl h
theorem en_Box_heard (dd : Nat) {Q : zQ} (a : Int32) (b : Int32) (c : Int32) (d : Int32) (m : zM) (h : zRun (zCall dd) 8 (some .int) zc_Box_heard Q 0 [.ref 20, .int a, .int b, .int c, .int d] [] m) : zCall (dd + 1) m_Box_heard [.ref 20, .int a, .int b, .int c, .int d] m Q := ⟨Nat.le_of_ble_eq_true rfl, h⟩
theorem zs_Box_by : zsrt zc_Box_by = true := by decide +kernel
set_option maxRecDepth 100000 in
theorem sg_Box_by_0 {C : zC} {Q : zQ} (hC : zCm C) (a : Int32) (b : Int32) (m : zM) (h :
    C m_Hedge_has [.ref 21, .int a] m (fun o1 m2 => ∃ x3, o1 = some (.int x3) ∧ (if ¬ x3 = (0 : Int32) then if b < (0 : Int32) then Q (some (.int (-2 : Int32))) m2
      else if b ≤ (9999 : Int32) then C m_Qu_hearersWithin [.ref 90, .int a, .int b] m2 (fun o4 m5 => ∃ x6, o4 = some (.int x6) ∧ (Q (some (.int x6)) m5))
        else Q (some (.int (-2 : Int32))) m2
    else Q (some (.int (-1 : Int32))) m2))) :
    zRun C 8 (some .int) zc_Box_by Q 0 [.ref 20, .int a, .int b] [] m := zgo [] hC zs_Box_by (i := .aload_n 0) (r := zfind zc_Box_by 1) rfl h
theorem en_Box_by (dd : Nat) {Q : zQ} (a : Int32) (b : Int32) (m : zM) (h : zRun (zCall dd) 8 (some .int) zc_Box_by Q 0 [.ref 20, .int a, .int b] [] m) : zCall (dd + 1) m_Box_by [.ref 20, .int a, .int b] m Q := ⟨Nat.le_of_ble_eq_true rfl, h⟩
theorem zs_Box_right : zsrt zc_Box_right = true := by decide +kernel
set_option maxRecDepth 100000 in
theorem sg_Box_right_0 {C : zC} {Q : zQ} (hC : zCm C) (a : Int32) (b : Int32) (m : zM) (h :
    C m_Hedge_has [.ref 21, .int a] m (fun o1 m2 => ∃ x3, o1 = some (.int x3) ∧ (if ¬ x3 = (0 : Int32) then C m_Box_isWord [.int b] m2 (fun o4 m5 => ∃ x6, o4 = some (.int x6) ∧ (if ¬ x6 = (0 : Int32) then C m_Qu_hearersOfJust [.ref 90, .int a, .int b] m5 (fun o7 m8 => ∃ x9, o7 = some (.int x9) ∧ (Q (some (.int x9)) m8))
      else Q (some (.int (-2 : Int32))) m5))
    else Q (some (.int (-1 : Int32))) m2))) :
    zRun C 8 (some .int) zc_Box_right Q 0 [.ref 20, .int a, .int b] [] m := zgo [] hC zs_Box_right (i := .aload_n 0) (r := zfind zc_Box_right 1) rfl h
theorem en_Box_right (dd : Nat) {Q : zQ} (a : Int32) (b : Int32) (m : zM) (h : zRun (zCall dd) 8 (some .int) zc_Box_right Q 0 [.ref 20, .int a, .int b] [] m) : zCall (dd + 1) m_Box_right [.ref 20, .int a, .int b] m Q := ⟨Nat.le_of_ble_eq_true rfl, h⟩
theorem zs_Box_last : zsrt zc_Box_last = true := by decide +kernel
set_option maxRecDepth 100000 in
theorem sg_Box_last_0 {C : zC} {Q : zQ} (hC : zCm C) (a : Int32) (m : zM) (h :
    C m_Hedge_has [.ref 21, .int a] m (fun o1 m2 => ∃ x3, o1 = some (.int x3) ∧ (if ¬ x3 = (0 : Int32) then C m_Qu_latest [.ref 90, .int a] m2 (fun o4 m5 => ∃ x6, o4 = some (.int x6) ∧ (Q (some (.int x6)) m5))
    else Q (some (.int (-1 : Int32))) m2))) :
    zRun C 8 (some .int) zc_Box_last Q 0 [.ref 20, .int a] [] m := zgo [] hC zs_Box_last (i := .aload_n 0) (r := zfind zc_Box_last 1) rfl h
theorem en_Box_last (dd : Nat) {Q : zQ} (a : Int32) (m : zM) (h : zRun (zCall dd) 8 (some .int) zc_Box_last Q 0 [.ref 20, .int a] [] m) : zCall (dd + 1) m_Box_last [.ref 20, .int a] m Q := ⟨Nat.le_of_ble_eq_true rfl, h⟩
theorem zs_Box_cut : zsrt zc_Box_cut = true := by decide +kernel
set_option maxRecDepth 100000 in
theorem sg_Box_cut_0 {C : zC} {Q : zQ} (hC : zCm C) (a : Int32) (b : Int32) (c : Int32) (m : zM) (h :
    C m_Hedge_has [.ref 21, .int a] m (fun o1 m2 => ∃ x3, o1 = some (.int x3) ∧ (if x3 = (0 : Int32) then Q (some (.int (-1 : Int32))) m2
    else C m_Hedge_has [.ref 21, .int b] m2 (fun o4 m5 => ∃ x6, o4 = some (.int x6) ∧ (if x6 = (0 : Int32) then Q (some (.int (-1 : Int32))) m5
      else if c < (0 : Int32) then Q (some (.int (-1 : Int32))) m5
        else if c ≤ (1 : Int32) then if ¬ a = b then C m_Qu_fewestBetween [.ref 90, .int a, .int b] m5 (fun o7 m8 => ∃ x9, o7 = some (.int x9) ∧ (if c = (1 : Int32) then Q (some (.int x9)) m8
              else if ¬ x9 = (-5 : Int32) then C m_Int_bitCount [.int x9] m8 (fun o10 m11 => ∃ x12, o10 = some (.int x12) ∧ (Q (some (.int x12)) m11))
                else Q (some (.int x9)) m8))
            else Q (some (.int (-2 : Int32))) m5
          else Q (some (.int (-1 : Int32))) m5))))) :
    zRun C 8 (some .int) zc_Box_cut Q 0 [.ref 20, .int a, .int b, .int c, .retAddr 0] [] m := zgo [] hC zs_Box_cut (i := .aload_n 0) (r := zfind zc_Box_cut 1) rfl h
theorem en_Box_cut (dd : Nat) {Q : zQ} (a : Int32) (b : Int32) (c : Int32) (m : zM) (h : zRun (zCall dd) 8 (some .int) zc_Box_cut Q 0 [.ref 20, .int a, .int b, .int c, .retAddr 0] [] m) : zCall (dd + 1) m_Box_cut [.ref 20, .int a, .int b, .int c] m Q := ⟨Nat.le_of_ble_eq_true rfl, h⟩
theorem zs_Box_needed : zsrt zc_Box_needed = true := by decide +kernel
set_option maxRecDepth 100000 in
theorem sg_Box_needed_0 {C : zC} {Q : zQ} (hC : zCm C) (a : Int32) (b : Int32) (m : zM) (h :
    C m_Hedge_has [.ref 21, .int a] m (fun o1 m2 => ∃ x3, o1 = some (.int x3) ∧ (if x3 = (0 : Int32) then Q (some (.int (-1 : Int32))) m2
    else C m_Hedge_has [.ref 21, .int b] m2 (fun o4 m5 => ∃ x6, o4 = some (.int x6) ∧ (if ¬ x6 = (0 : Int32) then if ¬ a = b then C m_Qu_eachNeededBetween [.ref 90, .int a, .int b] m5 (fun o7 m8 => ∃ x9, o7 = some (.int x9) ∧ (Q (some (.int x9)) m8))
        else Q (some (.int (-2 : Int32))) m5
      else Q (some (.int (-1 : Int32))) m5))))) :
    zRun C 8 (some .int) zc_Box_needed Q 0 [.ref 20, .int a, .int b] [] m := zgo [] hC zs_Box_needed (i := .aload_n 0) (r := zfind zc_Box_needed 1) rfl h
theorem en_Box_needed (dd : Nat) {Q : zQ} (a : Int32) (b : Int32) (m : zM) (h : zRun (zCall dd) 8 (some .int) zc_Box_needed Q 0 [.ref 20, .int a, .int b] [] m) : zCall (dd + 1) m_Box_needed [.ref 20, .int a, .int b] m Q := ⟨Nat.le_of_ble_eq_true rfl, h⟩
theorem zs_Box_round : zsrt zc_Box_round = true := by decide +kernel
set_option maxRecDepth 100000 in
theorem sg_Box_round_0 {C : zC} {Q : zQ} (hC : zCm C) (a : Int32) (b : Int32) (c : Int32) (m : zM) (h :
    C m_Hedge_has [.ref 21, .int a] m (fun o1 m2 => ∃ x3, o1 = some (.int x3) ∧ (if x3 = (0 : Int32) then Q (some (.int (-1 : Int32))) m2
    else if c < (0 : Int32) then Q (some (.int (-1 : Int32))) m2
      else if c ≤ (1 : Int32) then C m_Box_isWord [.int b] m2 (fun o4 m5 => ∃ x6, o4 = some (.int x6) ∧ (if ¬ x6 = (0 : Int32) then C m_Qu_comingBack [.ref 90, .int a, .int b, .int c] m5 (fun o7 m8 => ∃ x9, o7 = some (.int x9) ∧ (Q (some (.int x9)) m8))
          else Q (some (.int (-2 : Int32))) m5))
        else Q (some (.int (-1 : Int32))) m2))) :
    zRun C 8 (some .int) zc_Box_round Q 0 [.ref 20, .int a, .int b, .int c] [] m := zgo [] hC zs_Box_round (i := .aload_n 0) (r := zfind zc_Box_round 1) rfl h
theorem en_Box_round (dd : Nat) {Q : zQ} (a : Int32) (b : Int32) (c : Int32) (m : zM) (h : zRun (zCall dd) 8 (some .int) zc_Box_round Q 0 [.ref 20, .int a, .int b, .int c] [] m) : zCall (dd + 1) m_Box_round [.ref 20, .int a, .int b, .int c] m Q := ⟨Nat.le_of_ble_eq_true rfl, h⟩
theorem zs_Box_meet : zsrt zc_Box_meet = true := by decide +kernel
set_option maxRecDepth 100000 in
theorem sg_Box_meet_0 {C : zC} {Q : zQ} (hC : zCm C) (a : Int32) (b : Int32) (m : zM) (h :
    C m_Hedge_has [.ref 21, .int a] m (fun o1 m2 => ∃ x3, o1 = some (.int x3) ∧ (if x3 = (0 : Int32) then Q (some (.int (-1 : Int32))) m2
    else C m_Hedge_has [.ref 21, .int b] m2 (fun o4 m5 => ∃ x6, o4 = some (.int x6) ∧ (if ¬ x6 = (0 : Int32) then if ¬ a = b then C m_Qu_hearersOfTheFirst [.ref 90, .int a, .int b] m5 (fun o7 m8 => ∃ x9, o7 = some (.int x9) ∧ (Q (some (.int x9)) m8))
        else Q (some (.int (-2 : Int32))) m5
      else Q (some (.int (-1 : Int32))) m5))))) :
    zRun C 8 (some .int) zc_Box_meet Q 0 [.ref 20, .int a, .int b] [] m := zgo [] hC zs_Box_meet (i := .aload_n 0) (r := zfind zc_Box_meet 1) rfl h
theorem en_Box_meet (dd : Nat) {Q : zQ} (a : Int32) (b : Int32) (m : zM) (h : zRun (zCall dd) 8 (some .int) zc_Box_meet Q 0 [.ref 20, .int a, .int b] [] m) : zCall (dd + 1) m_Box_meet [.ref 20, .int a, .int b] m Q := ⟨Nat.le_of_ble_eq_true rfl, h⟩
theorem zs_Box_join : zsrt zc_Box_join = true := by decide +kernel
set_option maxRecDepth 100000 in
theorem sg_Box_join_0 {C : zC} {Q : zQ} (hC : zCm C) (a : Int32) (b : Int32) (c : Int32) (m : zM) (h :
    C m_Hedge_has [.ref 21, .int a] m (fun o1 m2 => ∃ x3, o1 = some (.int x3) ∧ (if x3 = (0 : Int32) then Q (some (.int (-1 : Int32))) m2
    else C m_Hedge_has [.ref 21, .int b] m2 (fun o4 m5 => ∃ x6, o4 = some (.int x6) ∧ (if x6 = (0 : Int32) then Q (some (.int (-1 : Int32))) m5
      else if c < (0 : Int32) then Q (some (.int (-1 : Int32))) m5
        else if c ≤ (1 : Int32) then if ¬ a = b then C m_Qu_soonestTouch [.ref 90, .int a, .int b] m5 (fun o7 m8 => ∃ x9, o7 = some (.int x9) ∧ (if ¬ x9 = (-5 : Int32) then if ¬ c = (0 : Int32) then ¬ (100 : Int32) = 0 ∧ (Q (some (.int (x9 / (100 : Int32)))) m8)
                else ¬ (100 : Int32) = 0 ∧ (Q (some (.int (x9 - x9 / (100 : Int32) * (100 : Int32)))) m8)
              else Q (some (.int (-5 : Int32))) m8))
            else Q (some (.int (-2 : Int32))) m5
          else Q (some (.int (-1 : Int32))) m5))))) :
    zRun C 8 (some .int) zc_Box_join Q 0 [.ref 20, .int a, .int b, .int c, .retAddr 0] [] m := zgo [] hC zs_Box_join (i := .aload_n 0) (r := zfind zc_Box_join 1) rfl h
theorem en_Box_join (dd : Nat) {Q : zQ} (a : Int32) (b : Int32) (c : Int32) (m : zM) (h : zRun (zCall dd) 8 (some .int) zc_Box_join Q 0 [.ref 20, .int a, .int b, .int c, .retAddr 0] [] m) : zCall (dd + 1) m_Box_join [.ref 20, .int a, .int b, .int c] m Q := ⟨Nat.le_of_ble_eq_true rfl, h⟩
theorem zs_Box_listen : zsrt zc_Box_listen = true := by decide +kernel
set_option maxRecDepth 100000 in
theorem sg_Box_listen_0 {C : zC} {Q : zQ} (hC : zCm C) (a : Int32) (m : zM) (h :
    C m_Box_isWord [.int a] m (fun o1 m2 => ∃ x3, o1 = some (.int x3) ∧ (if ¬ x3 = (0 : Int32) then C m_Qu_bestListener [.ref 90, .int a] m2 (fun o4 m5 => ∃ x6, o4 = some (.int x6) ∧ (Q (some (.int x6)) m5))
    else Q (some (.int (-2 : Int32))) m2))) :
    zRun C 8 (some .int) zc_Box_listen Q 0 [.ref 20, .int a] [] m := zgo [] hC zs_Box_listen (i := .iload_n 1) (r := zfind zc_Box_listen 1) rfl h
theorem en_Box_listen (dd : Nat) {Q : zQ} (a : Int32) (m : zM) (h : zRun (zCall dd) 8 (some .int) zc_Box_listen Q 0 [.ref 20, .int a] [] m) : zCall (dd + 1) m_Box_listen [.ref 20, .int a] m Q := ⟨Nat.le_of_ble_eq_true rfl, h⟩
theorem zs_Box_see : zsrt zc_Box_see = true := by decide +kernel
set_option maxRecDepth 100000 in
theorem sg_Box_see_0 {C : zC} {Q : zQ} (hC : zCm C) (a : Int32) (b : Int32) (c : Int32) (m : zM) (h :
    if ¬ a = (-1 : Int32) then C m_Hedge_has [.ref 21, .int a] m (fun o1 m2 => ∃ x3, o1 = some (.int x3) ∧ (if ¬ x3 = (0 : Int32) then C m_Box_isWord [.int b] m2 (fun o4 m5 => ∃ x6, o4 = some (.int x6) ∧ (if x6 = (0 : Int32) then Q (some (.int (-2 : Int32))) m5
        else if c < (0 : Int32) then Q (some (.int (-2 : Int32))) m5
          else if c ≤ (9999 : Int32) then C m_Rows_add [.ref 27, .int a, .int b, .int c] m5 (fun o7 m8 => ∃ x9, o7 = some (.int x9) ∧ (Q (some (.int x9)) m8))
            else Q (some (.int (-2 : Int32))) m5))
      else Q (some (.int (-1 : Int32))) m2))
    else C m_Rows_empty [.ref 27] m (fun o10 m11 => ∃ x12, o10 = some (.int x12) ∧ (Q (some (.int x12)) m11))) :
    zRun C 8 (some .int) zc_Box_see Q 0 [.ref 20, .int a, .int b, .int c] [] m := zgo [] hC zs_Box_see (i := .iload_n 1) (r := zfind zc_Box_see 1) rfl h
theorem en_Box_see (dd : Nat) {Q : zQ} (a : Int32) (b : Int32) (c : Int32) (m : zM) (h : zRun (zCall dd) 8 (some .int) zc_Box_see Q 0 [.ref 20, .int a, .int b, .int c] [] m) : zCall (dd + 1) m_Box_see [.ref 20, .int a, .int b, .int c] m Q := ⟨Nat.le_of_ble_eq_true rfl, h⟩
theorem zs_Box_who : zsrt zc_Box_who = true := by decide +kernel
set_option maxRecDepth 100000 in
theorem sg_Box_who_0 {C : zC} {Q : zQ} (hC : zCm C) (a : Int32) (m : zM) (h :
    if a < (0 : Int32) then Q (some (.int (-1 : Int32))) m
    else if a ≤ (1 : Int32) then if ¬ a = (1 : Int32) then C m_Qu_waysToHaveSaid [.ref 90, .int (0 : Int32)] m (fun o1 m2 => ∃ x3, o1 = some (.int x3) ∧ (Q (some (.int x3)) m2))
        else C m_Qu_waysToHaveSaid [.ref 90, .int (1 : Int32)] m (fun o4 m5 => ∃ x6, o4 = some (.int x6) ∧ (Q (some (.int x6)) m5))
      else Q (some (.int (-1 : Int32))) m) :
    zRun C 8 (some .int) zc_Box_who Q 0 [.ref 20, .int a] [] m := zgo [] hC zs_Box_who (i := .iload_n 1) (r := zfind zc_Box_who 1) rfl h
theorem en_Box_who (dd : Nat) {Q : zQ} (a : Int32) (m : zM) (h : zRun (zCall dd) 8 (some .int) zc_Box_who Q 0 [.ref 20, .int a] [] m) : zCall (dd + 1) m_Box_who [.ref 20, .int a] m Q := ⟨Nat.le_of_ble_eq_true rfl, h⟩
theorem zs_Box_odds : zsrt zc_Box_odds = true := by decide +kernel
set_option maxRecDepth 100000 in
theorem sg_Box_odds_0 {C : zC} {Q : zQ} (hC : zCm C) (a : Int32) (b : Int32) (c : Int32) (m : zM) (h :
    C m_Hedge_has [.ref 21, .int a] m (fun o1 m2 => ∃ x3, o1 = some (.int x3) ∧ (if x3 = (0 : Int32) then Q (some (.long (-9223372036854775808 : Int64))) m2
    else C m_Hedge_has [.ref 21, .int b] m2 (fun o4 m5 => ∃ x6, o4 = some (.int x6) ∧ (if x6 = (0 : Int32) then Q (some (.long (-9223372036854775808 : Int64))) m5
      else if a = b then Q (some (.long (-9223372036854775808 : Int64))) m5
        else if c < (0 : Int32) then Q (some (.long (-9223372036854775808 : Int64))) m5
          else if c ≤ (1 : Int32) then C m_Qu_oddsBetween [.ref 90, .int a, .int b, .int c] m5 (fun o7 m8 => ∃ y9, o7 = some (.long y9) ∧ (Q (some (.long y9)) m8))
            else Q (some (.long (-9223372036854775808 : Int64))) m5))))) :
    zRun C 8 (some .long) zc_Box_odds Q 0 [.ref 20, .int a, .int b, .int c] [] m := zgo [] hC zs_Box_odds (i := .aload_n 0) (r := zfind zc_Box_odds 1) rfl h
theorem en_Box_odds (dd : Nat) {Q : zQ} (a : Int32) (b : Int32) (c : Int32) (m : zM) (h : zRun (zCall dd) 8 (some .long) zc_Box_odds Q 0 [.ref 20, .int a, .int b, .int c] [] m) : zCall (dd + 1) m_Box_odds [.ref 20, .int a, .int b, .int c] m Q := ⟨Nat.le_of_ble_eq_true rfl, h⟩
theorem zs_Box_mean : zsrt zc_Box_mean = true := by decide +kernel
set_option maxRecDepth 100000 in
theorem sg_Box_mean_0 {C : zC} {Q : zQ} (hC : zCm C) (a : Int32) (b : Int32) (m : zM) (h :
    C m_Hedge_has [.ref 21, .int a] m (fun o1 m2 => ∃ x3, o1 = some (.int x3) ∧ (if x3 = (0 : Int32) then Q (some (.long (-9223372036854775808 : Int64))) m2
    else if b < (0 : Int32) then Q (some (.long (-9223372036854775808 : Int64))) m2
      else if b ≤ (1 : Int32) then C m_Qu_meanHours [.ref 90, .int a, .int b] m2 (fun o4 m5 => ∃ y6, o4 = some (.long y6) ∧ (Q (some (.long y6)) m5))
        else Q (some (.long (-9223372036854775808 : Int64))) m2))) :
    zRun C 8 (some .long) zc_Box_mean Q 0 [.ref 20, .int a, .int b] [] m := zgo [] hC zs_Box_mean (i := .aload_n 0) (r := zfind zc_Box_mean 1) rfl h
theorem en_Box_mean (dd : Nat) {Q : zQ} (a : Int32) (b : Int32) (m : zM) (h : zRun (zCall dd) 8 (some .long) zc_Box_mean Q 0 [.ref 20, .int a, .int b] [] m) : zCall (dd + 1) m_Box_mean [.ref 20, .int a, .int b] m Q := ⟨Nat.le_of_ble_eq_true rfl, h⟩
theorem zs_Box_plan : zsrt zc_Box_plan = true := by decide +kernel
set_option maxRecDepth 100000 in
theorem sg_Box_plan_0 {C : zC} {Q : zQ} (hC : zCm C) (a : Int32) (b : Int32) (m : zM) (h :
    if ¬ a = (-1 : Int32) then if a < (0 : Int32) then Q (some (.int (-1 : Int32))) m
      else if (2 : Int32) < a then Q (some (.int (-1 : Int32))) m
        else if a = (2 : Int32) then C m_Rows_add [.ref 29, .int a, .int b, .int (0 : Int32)] m (fun o1 m2 => ∃ x3, o1 = some (.int x3) ∧ (Q (some (.int x3)) m2))
          else C m_Hedge_has [.ref 21, .int b] m (fun o4 m5 => ∃ x6, o4 = some (.int x6) ∧ (if ¬ x6 = (0 : Int32) then C m_Rows_add [.ref 29, .int a, .int b, .int (0 : Int32)] m5 (fun o7 m8 => ∃ x9, o7 = some (.int x9) ∧ (Q (some (.int x9)) m8))
            else Q (some (.int (-1 : Int32))) m5))
    else C m_Rows_empty [.ref 29] m (fun o10 m11 => ∃ x12, o10 = some (.int x12) ∧ (Q (some (.int x12)) m11))) :
    zRun C 8 (some .int) zc_Box_plan Q 0 [.ref 20, .int a, .int b] [] m := zgo [] hC zs_Box_plan (i := .iload_n 1) (r := zfind zc_Box_plan 1) rfl h
theorem en_Box_plan (dd : Nat) {Q : zQ} (a : Int32) (b : Int32) (m : zM) (h : zRun (zCall dd) 8 (some .int) zc_Box_plan Q 0 [.ref 20, .int a, .int b] [] m) : zCall (dd + 1) m_Box_plan [.ref 20, .int a, .int b] m Q := ⟨Nat.le_of_ble_eq_true rfl, h⟩
theorem zs_Box_planned : zsrt zc_Box_planned = true := by decide +kernel
set_option maxRecDepth 100000 in
theorem sg_Box_planned_0 {C : zC} {Q : zQ} (hC : zCm C) (a : Int32) (b : Int32) (m : zM) (h :
    C m_Hedge_has [.ref 21, .int a] m (fun o1 m2 => ∃ x3, o1 = some (.int x3) ∧ (if x3 = (0 : Int32) then Q (some (.int (-1 : Int32))) m2
    else C m_Hedge_has [.ref 21, .int b] m2 (fun o4 m5 => ∃ x6, o4 = some (.int x6) ∧ (if ¬ x6 = (0 : Int32) then C m_Qu_hoursAfterThePlan [.ref 90, .int a, .int b] m5 (fun o7 m8 => ∃ x9, o7 = some (.int x9) ∧ (Q (some (.int x9)) m8))
      else Q (some (.int (-1 : Int32))) m5))))) :
    zRun C 8 (some .int) zc_Box_planned Q 0 [.ref 20, .int a, .int b] [] m := zgo [] hC zs_Box_planned (i := .aload_n 0) (r := zfind zc_Box_planned 1) rfl h
theorem en_Box_planned (dd : Nat) {Q : zQ} (a : Int32) (b : Int32) (m : zM) (h : zRun (zCall dd) 8 (some .int) zc_Box_planned Q 0 [.ref 20, .int a, .int b] [] m) : zCall (dd + 1) m_Box_planned [.ref 20, .int a, .int b] m Q := ⟨Nat.le_of_ble_eq_true rfl, h⟩
theorem zs_Box_book : zsrt zc_Box_book = true := by decide +kernel
set_option maxRecDepth 100000 in
theorem sg_Box_book_0 {C : zC} {Q : zQ} (hC : zCm C) (a : Int32) (b : Int32) (c : Int32) (m : zM) (h :
    if ¬ a = (-1 : Int32) then C m_Hedge_has [.ref 21, .int a] m (fun o1 m2 => ∃ x3, o1 = some (.int x3) ∧ (if x3 = (0 : Int32) then Q (some (.int (-1 : Int32))) m2
      else C m_Hedge_has [.ref 21, .int b] m2 (fun o4 m5 => ∃ x6, o4 = some (.int x6) ∧ (if ¬ x6 = (0 : Int32) then if c < (0 : Int32) then Q (some (.int (-2 : Int32))) m5
          else if c ≤ (9999 : Int32) then C m_Rows_add [.ref 31, .int a, .int b, .int c] m5 (fun o7 m8 => ∃ x9, o7 = some (.int x9) ∧ (Q (some (.int x9)) m8))
            else Q (some (.int (-2 : Int32))) m5
        else Q (some (.int (-1 : Int32))) m5))))
    else C m_Rows_empty [.ref 31] m (fun o10 m11 => ∃ x12, o10 = some (.int x12) ∧ (Q (some (.int x12)) m11))) :
    zRun C 8 (some .int) zc_Box_book Q 0 [.ref 20, .int a, .int b, .int c] [] m := zgo [] hC zs_Box_book (i := .iload_n 1) (r := zfind zc_Box_book 1) rfl h
theorem en_Box_book (dd : Nat) {Q : zQ} (a : Int32) (b : Int32) (c : Int32) (m : zM) (h : zRun (zCall dd) 8 (some .int) zc_Box_book Q 0 [.ref 20, .int a, .int b, .int c] [] m) : zCall (dd + 1) m_Box_book [.ref 20, .int a, .int b, .int c] m Q := ⟨Nat.le_of_ble_eq_true rfl, h⟩
theorem zs_Box_looked : zsrt zc_Box_looked = true := by decide +kernel
set_option maxRecDepth 100000 in
theorem sg_Box_looked_0 {C : zC} {Q : zQ} (hC : zCm C) (m : zM) (h :
    C m_Qu_firstWrongInTheBook [.ref 90] m (fun o1 m2 => ∃ x3, o1 = some (.int x3) ∧ (Q (some (.int x3)) m2))) :
    zRun C 8 (some .int) zc_Box_looked Q 0 [.ref 20] [] m := zgo [] hC zs_Box_looked (i := .aload_n 0) (r := zfind zc_Box_looked 1) rfl h
theorem en_Box_looked (dd : Nat) {Q : zQ} (m : zM) (h : zRun (zCall dd) 8 (some .int) zc_Box_looked Q 0 [.ref 20] [] m) : zCall (dd + 1) m_Box_looked [.ref 20] m Q := ⟨Nat.le_of_ble_eq_true rfl, h⟩
theorem zs_Box_judge : zsrt zc_Box_judge = true := by decide +kernel
set_option maxRecDepth 100000 in
theorem sg_Box_judge_0 {C : zC} {Q : zQ} (hC : zCm C) (a : Int32) (b : Int32) (m : zM) (h :
    C m_Box_isTape [.int a] m (fun o1 m2 => ∃ x3, o1 = some (.int x3) ∧ (if ¬ x3 = (0 : Int32) then vp_in a 6 ∧ (bif Nat.beq (zsh (101 + 2 * a.toNatClampNeg)) 7 then (if (gI m2 (101 + 2 * a.toNatClampNeg) 0) = (-1 : Int32) then C m_Hedge_judged [.ref 21, .ref (101 + 2 * a.toNatClampNeg), .int b] m2 (fun o4 m5 => ∃ x6, o4 = some (.int x6) ∧ (Q (some (.int x6)) m5))
      else bif Nat.beq (zsh (101 + 2 * a.toNatClampNeg)) 7 then (if (gI m2 (101 + 2 * a.toNatClampNeg) 0) = (4 : Int32) then C m_Hedge_judged [.ref 21, .ref (101 + 2 * a.toNatClampNeg), .int b] m2 (fun o7 m8 => ∃ x9, o7 = some (.int x9) ∧ (Q (some (.int x9)) m8))
        else Q (some (.int (-12 : Int32))) m2) else False) else False)
    else Q (some (.int (-1 : Int32))) m2))) :
    zRun C 8 (some .int) zc_Box_judge Q 0 [.ref 20, .int a, .int b, .retAddr 0] [] m := zgo [] hC zs_Box_judge (i := .iload_n 1) (r := zfind zc_Box_judge 1) rfl h
theorem en_Box_judge (dd : Nat) {Q : zQ} (a : Int32) (b : Int32) (m : zM) (h : zRun (zCall dd) 8 (some .int) zc_Box_judge Q 0 [.ref 20, .int a, .int b, .retAddr 0] [] m) : zCall (dd + 1) m_Box_judge [.ref 20, .int a, .int b] m Q := ⟨Nat.le_of_ble_eq_true rfl, h⟩
theorem zs_Box_image : zsrt zc_Box_image = true := by decide +kernel
set_option maxRecDepth 100000 in
theorem sg_Box_image_0 {C : zC} {Q : zQ} (hC : zCm C) (m : zM) (h :
    C m_Hedge_become [.ref 33, .ref 21] m (fun o1 m2 => o1 = none ∧ (((1 : Int32) = 0 ∨ (1 : Int32) = 1) ∧ (Q (some (.int (gI (sI m2 20 2 (1 : Int32)) 21 0))) (sI m2 20 2 (1 : Int32)))))) :
    zRun C 8 (some .int) zc_Box_image Q 0 [.ref 20] [] m := zgo [] hC zs_Box_image (i := .aload_n 0) (r := zfind zc_Box_image 1) rfl h
theorem en_Box_image (dd : Nat) {Q : zQ} (m : zM) (h : zRun (zCall dd) 8 (some .int) zc_Box_image Q 0 [.ref 20] [] m) : zCall (dd + 1) m_Box_image [.ref 20] m Q := ⟨Nat.le_of_ble_eq_true rfl, h⟩
theorem zs_Box_undo : zsrt zc_Box_undo = true := by decide +kernel
set_option maxRecDepth 100000 in
theorem sg_Box_undo_0 {C : zC} {Q : zQ} (hC : zCm C) (m : zM) (h :
    if ¬ (gI m 20 2) = (0 : Int32) then C m_Hedge_become [.ref 21, .ref 33] m (fun o1 m2 => o1 = none ∧ (Q (some (.int (gI m2 21 0))) m2))
    else Q (some (.int (-3 : Int32))) m) :
    zRun C 8 (some .int) zc_Box_undo Q 0 [.ref 20] [] m := zgo [] hC zs_Box_undo (i := .aload_n 0) (r := zfind zc_Box_undo 1) rfl h
theorem en_Box_undo (dd : Nat) {Q : zQ} (m : zM) (h : zRun (zCall dd) 8 (some .int) zc_Box_undo Q 0 [.ref 20] [] m) : zCall (dd + 1) m_Box_undo [.ref 20] m Q := ⟨Nat.le_of_ble_eq_true rfl, h⟩
theorem zs_Box_act : zsrt zc_Box_act = true := by decide +kernel
set_option maxRecDepth 100000 in
theorem sg_Box_act_0 {C : zC} {Q : zQ} (hC : zCm C) (a : Int32) (b : Int32) (c : Int32) (m : zM) (h :
    C m_Acts_forget [.ref 98] m (fun o1 m2 => o1 = none ∧ (C m_Hedge_has [.ref 21, .int a] m2 (fun o3 m4 => ∃ x5, o3 = some (.int x5) ∧ (if x5 = (0 : Int32) then Q (some (.int (0 : Int32))) m4
    else if b < (0 : Int32) then Q (some (.int (0 : Int32))) m4
      else if b < (3 : Int32) then C m_Acts_perform [.ref 98, .ref 21, .int a, .int b, .int c] m4 (fun o6 m7 => ∃ x8, o6 = some (.int x8) ∧ (Q (some (.int x8)) m7))
        else Q (some (.int (0 : Int32))) m4))))) :
    zRun C 8 (some .int) zc_Box_act Q 0 [.ref 20, .int a, .int b, .int c] [] m := zgo [] hC zs_Box_act (i := .aload_n 0) (r := zfind zc_Box_act 1) rfl h
theorem en_Box_act (dd : Nat) {Q : zQ} (a : Int32) (b : Int32) (c : Int32) (m : zM) (h : zRun (zCall dd) 8 (some .int) zc_Box_act Q 0 [.ref 20, .int a, .int b, .int c] [] m) : zCall (dd + 1) m_Box_act [.ref 20, .int a, .int b, .int c] m Q := ⟨Nat.le_of_ble_eq_true rfl, h⟩
theorem zs_Box_trace : zsrt zc_Box_trace = true := by decide +kernel
set_option maxRecDepth 100000 in
theorem sg_Box_trace_0 {C : zC} {Q : zQ} (hC : zCm C) (a : Int32) (m : zM) (h :
    if a < (0 : Int32) then Q (some (.int (-1 : Int32))) m
    else if (gI m 98 1) ≤ a then Q (some (.int (-1 : Int32))) m
      else if a < (20 : Int32) then vp_in a 20 ∧ (Q (some (.int (gI m 99 a.toNatClampNeg))) m)
        else Q (some (.int (-1 : Int32))) m) :
    zRun C 8 (some .int) zc_Box_trace Q 0 [.ref 20, .int a] [] m := zgo [] hC zs_Box_trace (i := .iload_n 1) (r := zfind zc_Box_trace 1) rfl h
theorem en_Box_trace (dd : Nat) {Q : zQ} (a : Int32) (m : zM) (h : zRun (zCall dd) 8 (some .int) zc_Box_trace Q 0 [.ref 20, .int a] [] m) : zCall (dd + 1) m_Box_trace [.ref 20, .int a] m Q := ⟨Nat.le_of_ble_eq_true rfl, h⟩
theorem zs_Box_taken : zsrt zc_Box_taken = true := by decide +kernel
set_option maxRecDepth 100000 in
theorem sg_Box_taken_0 {C : zC} {Q : zQ} (hC : zCm C) (a : Int32) (b : Int32) (m : zM) (h :
    if b < (0 : Int32) then Q (some (.int (-2 : Int32))) m
    else if b < (7 : Int32) then C m_Hedge_has [.ref 21, .int a] m (fun o1 m2 => ∃ x3, o1 = some (.int x3) ∧ (if ¬ x3 = (0 : Int32) then vp_in a 8 ∧ (C m_Box_isUnder [.int (gI m2 22 a.toNatClampNeg), .int b] m2 (fun o4 m5 => ∃ x6, o4 = some (.int x6) ∧ (if x6 = (0 : Int32) then Q (some (.int (-12 : Int32))) m5
          else Q (some (.int (gI m2 22 a.toNatClampNeg))) m5)))
        else Q (some (.int (-11 : Int32))) m2))
      else Q (some (.int (-2 : Int32))) m) :
    zRun C 8 (some .int) zc_Box_taken Q 0 [.ref 20, .int a, .int b, .retAddr 0] [] m := zgo [] hC zs_Box_taken (i := .iload_n 2) (r := zfind zc_Box_taken 1) rfl h
theorem en_Box_taken (dd : Nat) {Q : zQ} (a : Int32) (b : Int32) (m : zM) (h : zRun (zCall dd) 8 (some .int) zc_Box_taken Q 0 [.ref 20, .int a, .int b, .retAddr 0] [] m) : zCall (dd + 1) m_Box_taken [.ref 20, .int a, .int b] m Q := ⟨Nat.le_of_ble_eq_true rfl, h⟩
theorem zs_Box_count : zsrt zc_Box_count = true := by decide +kernel
set_option maxRecDepth 100000 in
theorem sg_Box_count_0 {C : zC} {Q : zQ} (hC : zCm C) (a : Int32) (m : zM) (h :
    if a = (0 : Int32) then Q (some (.int (gI m 21 0))) m
    else if a = (1 : Int32) then Q (some (.int (gI m 20 4))) m
    else if a = (2 : Int32) then Q (some (.int (gI m 27 0))) m
    else if a = (3 : Int32) then Q (some (.int (gI m 29 0))) m
    else if a = (4 : Int32) then Q (some (.int (gI m 31 0))) m
    else if a = (5 : Int32) then Q (some (.int (gI m 88 0))) m
    else if a = (6 : Int32) then Q (some (.int (gI m 98 1))) m
    else Q (some (.int (-2 : Int32))) m) :
    zRun C 8 (some .int) zc_Box_count Q 0 [.ref 20, .int a] [] m := zgo [] hC zs_Box_count (i := .iload_n 1) (r := zfind zc_Box_count 1) rfl h
theorem en_Box_count (dd : Nat) {Q : zQ} (a : Int32) (m : zM) (h : zRun (zCall dd) 8 (some .int) zc_Box_count Q 0 [.ref 20, .int a] [] m) : zCall (dd + 1) m_Box_count [.ref 20, .int a] m Q := ⟨Nat.le_of_ble_eq_true rfl, h⟩
theorem zs_Box_tape : zsrt zc_Box_tape = true := by decide +kernel
set_option maxRecDepth 100000 in
theorem sg_Box_tape_0 {C : zC} {Q : zQ} (hC : zCm C) (a : Int32) (b : Int32) (c : Int32) (m : zM) (h :
    C m_Box_isTape [.int a] m (fun o1 m2 => ∃ x3, o1 = some (.int x3) ∧ (if ¬ x3 = (0 : Int32) then if ¬ b = (-1 : Int32) then if b < (0 : Int32) then Q (some (.int (-2 : Int32))) m2
        else if (4 : Int32) < b then Q (some (.int (-2 : Int32))) m2
          else if c ≤ (60 : Int32) then if (0 : Int32) ≤ c then vp_in a 6 ∧ (bif zrc 66 [.ref (101 + 2 * a.toNatClampNeg), .int b, .int c] && (true && true) then (C m_Tape_become [.ref (101 + 2 * a.toNatClampNeg), .int b, .int c] m2 (fun o4 m5 => ∃ x6, o4 = some (.int x6) ∧ (Q (some (.int x6)) m5))) else False)
              else Q (some (.int (-14 : Int32))) m2
            else Q (some (.int (-2 : Int32))) m2
      else vp_in a 6 ∧ (bif zrc 66 [.ref (101 + 2 * a.toNatClampNeg), .int (-1 : Int32), .int (0 : Int32)] && (true && true) then (C m_Tape_become [.ref (101 + 2 * a.toNatClampNeg), .int (-1 : Int32), .int (0 : Int32)] m2 (fun o7 m8 => ∃ x9, o7 = some (.int x9) ∧ (Q (some (.int x9)) m8))) else False)
    else Q (some (.int (-1 : Int32))) m2))) :
    zRun C 8 (some .int) zc_Box_tape Q 0 [.ref 20, .int a, .int b, .int c] [] m := zgo [] hC zs_Box_tape (i := .iload_n 1) (r := zfind zc_Box_tape 1) rfl h
theorem en_Box_tape (dd : Nat) {Q : zQ} (a : Int32) (b : Int32) (c : Int32) (m : zM) (h : zRun (zCall dd) 8 (some .int) zc_Box_tape Q 0 [.ref 20, .int a, .int b, .int c] [] m) : zCall (dd + 1) m_Box_tape [.ref 20, .int a, .int b, .int c] m Q := ⟨Nat.le_of_ble_eq_true rfl, h⟩
theorem zs_Box_item : zsrt zc_Box_item = true := by decide +kernel
set_option maxRecDepth 100000 in
theorem sg_Box_item_0 {C : zC} {Q : zQ} (hC : zCm C) (a : Int32) (b : Int32) (c : Int64) (m : zM) (h :
    C m_Box_isTape [.int a] m (fun o1 m2 => ∃ x3, o1 = some (.int x3) ∧ (if ¬ x3 = (0 : Int32) then vp_in a 6 ∧ (bif Nat.beq (zsh (101 + 2 * a.toNatClampNeg)) 7 then (if ¬ (gI m2 (101 + 2 * a.toNatClampNeg) 0) = (-1 : Int32) then if b < (0 : Int32) then Q (some (.int (-13 : Int32))) m2
        else bif Nat.beq (zsh (101 + 2 * a.toNatClampNeg)) 7 then (if b < (gI m2 (101 + 2 * a.toNatClampNeg) 1) then bif Nat.beq (zsh (101 + 2 * a.toNatClampNeg)) 7 then (bif zrc 67 [.ref (101 + 2 * a.toNatClampNeg), .long c] && (true && true) then (C m_Tape_fitted [.ref (101 + 2 * a.toNatClampNeg), .long c] m2 (fun o4 m5 => ∃ y6, o4 = some (.long y6) ∧ (bif Nat.beq (zsh (zrf (101 + 2 * a.toNatClampNeg) 2)) 22 then (vp_in b (zlen (zrf (101 + 2 * a.toNatClampNeg) 2)) ∧ (Q (some (.int (1 : Int32))) (sL m5 (zrf (101 + 2 * a.toNatClampNeg) 2) b.toNatClampNeg y6))) else False))) else False) else False
          else Q (some (.int (-13 : Int32))) m2) else False
      else Q (some (.int (-11 : Int32))) m2) else False)
    else Q (some (.int (-1 : Int32))) m2))) :
    zRun C 8 (some .int) zc_Box_item Q 0 [.ref 20, .int a, .int b, .long c, .retAddr 0, .retAddr 0] [] m := zgo [] hC zs_Box_item (i := .iload_n 1) (r := zfind zc_Box_item 1) rfl h
theorem en_Box_item (dd : Nat) {Q : zQ} (a : Int32) (b : Int32) (c : Int64) (m : zM) (h : zRun (zCall dd) 8 (some .int) zc_Box_item Q 0 [.ref 20, .int a, .int b, .long c, .retAddr 0, .retAddr 0] [] m) : zCall (dd + 1) m_Box_item [.ref 20, .int a, .int b, .long c] m Q := ⟨Nat.le_of_ble_eq_true rfl, h⟩
theorem zs_Box_read : zsrt zc_Box_read = true := by decide +kernel
set_option maxRecDepth 100000 in
theorem sg_Box_read_0 {C : zC} {Q : zQ} (hC : zCm C) (a : Int32) (b : Int32) (m : zM) (h :
    C m_Box_isTape [.int a] m (fun o1 m2 => ∃ x3, o1 = some (.int x3) ∧ (if x3 = (0 : Int32) then Q (some (.long (-9223372036854775808 : Int64))) m2
    else if b < (0 : Int32) then Q (some (.long (-9223372036854775808 : Int64))) m2
      else vp_in a 6 ∧ (bif Nat.beq (zsh (101 + 2 * a.toNatClampNeg)) 7 then (if b < (gI m2 (101 + 2 * a.toNatClampNeg) 1) then vp_in a 6 ∧ (bif Nat.beq (zsh (101 + 2 * a.toNatClampNeg)) 7 then (bif Nat.beq (zsh (zrf (101 + 2 * a.toNatClampNeg) 2)) 22 then (vp_in b (zlen (zrf (101 + 2 * a.toNatClampNeg) 2)) ∧ (Q (some (.long (gL m2 (zrf (101 + 2 * a.toNatClampNeg) 2) b.toNatClampNeg))) m2)) else False) else False)
        else Q (some (.long (-9223372036854775808 : Int64))) m2) else False)))) :
    zRun C 8 (some .long) zc_Box_read Q 0 [.ref 20, .int a, .int b] [] m := zgo [] hC zs_Box_read (i := .iload_n 1) (r := zfind zc_Box_read 1) rfl h
theorem en_Box_read (dd : Nat) {Q : zQ} (a : Int32) (b : Int32) (m : zM) (h : zRun (zCall dd) 8 (some .long) zc_Box_read Q 0 [.ref 20, .int a, .int b] [] m) : zCall (dd + 1) m_Box_read [.ref 20, .int a, .int b] m Q := ⟨Nat.le_of_ble_eq_true rfl, h⟩
theorem zs_Box_shift : zsrt zc_Box_shift = true := by decide +kernel
set_option maxRecDepth 100000 in
theorem sg_Box_shift_0 {C : zC} {Q : zQ} (hC : zCm C) (a : Int32) (b : Int32) (c : Int32) (d : Int32) (e : Int32) (m : zM) (h :
    C m_Box_isTape [.int a] m (fun o1 m2 => ∃ x3, o1 = some (.int x3) ∧ (if x3 = (0 : Int32) then Q (some (.int (-1 : Int32))) m2
    else C m_Box_isTape [.int c] m2 (fun o4 m5 => ∃ x6, o4 = some (.int x6) ∧ (if ¬ x6 = (0 : Int32) then vp_in a 6 ∧ (vp_in c 6 ∧ (bif Nat.beq (zsh (101 + 2 * a.toNatClampNeg)) 7 then (if (gI m5 (101 + 2 * a.toNatClampNeg) 0) = (-1 : Int32) then Q (some (.int (-11 : Int32))) m5
        else bif Nat.beq (zsh (101 + 2 * c.toNatClampNeg)) 7 then (if ¬ (gI m5 (101 + 2 * c.toNatClampNeg) 0) = (-1 : Int32) then bif Nat.beq (zsh (101 + 2 * a.toNatClampNeg)) 7 then (bif Nat.beq (zsh (101 + 2 * c.toNatClampNeg)) 7 then (if (gI m5 (101 + 2 * a.toNatClampNeg) 0) = (gI m5 (101 + 2 * c.toNatClampNeg) 0) then bif zrc 68 [.ref (101 + 2 * a.toNatClampNeg), .int b, .int e] && (true && true) then (C m_Tape_spans [.ref (101 + 2 * a.toNatClampNeg), .int b, .int e] m5 (fun o7 m8 => ∃ x9, o7 = some (.int x9) ∧ (if x9 = (0 : Int32) then Q (some (.int (-13 : Int32))) m8
              else bif zrc 68 [.ref (101 + 2 * c.toNatClampNeg), .int d, .int e] && (true && true) then (C m_Tape_spans [.ref (101 + 2 * c.toNatClampNeg), .int d, .int e] m8 (fun o10 m11 => ∃ x12, o10 = some (.int x12) ∧ (if ¬ x12 = (0 : Int32) then bif Nat.beq (zsh (101 + 2 * a.toNatClampNeg)) 7 then (bif Nat.beq (zsh (101 + 2 * c.toNatClampNeg)) 7 then (bif Nat.beq (zsh (zrf (101 + 2 * a.toNatClampNeg) 2)) 20 && Nat.beq (zsh (zrf (101 + 2 * c.toNatClampNeg) 2)) 20 then ((¬ b < 0 ∧ ¬ d < 0 ∧ ¬ e < 0 ∧ b.toNatClampNeg + e.toNatClampNeg ≤ zlen (zrf (101 + 2 * a.toNatClampNeg) 2) ∧ d.toNatClampNeg + e.toNatClampNeg ≤ zlen (zrf (101 + 2 * c.toNatClampNeg) 2)) ∧ Q (some (.int e)) (cpI m11 (zrf (101 + 2 * a.toNatClampNeg) 2) b.toNatClampNeg (zrf (101 + 2 * c.toNatClampNeg) 2) d.toNatClampNeg e.toNatClampNeg)) else bif Nat.beq (zsh (zrf (101 + 2 * a.toNatClampNeg) 2)) 22 && Nat.beq (zsh (zrf (101 + 2 * c.toNatClampNeg) 2)) 22 then ((¬ b < 0 ∧ ¬ d < 0 ∧ ¬ e < 0 ∧ b.toNatClampNeg + e.toNatClampNeg ≤ zlen (zrf (101 + 2 * a.toNatClampNeg) 2) ∧ d.toNatClampNeg + e.toNatClampNeg ≤ zlen (zrf (101 + 2 * c.toNatClampNeg) 2)) ∧ (Q (some (.int e)) (cpL m11 (zrf (101 + 2 * a.toNatClampNeg) 2) b.toNatClampNeg (zrf (101 + 2 * c.toNatClampNeg) 2) d.toNatClampNeg e.toNatClampNeg))) else False) else False) else False
                else Q (some (.int (-13 : Int32))) m11))) else False))) else False
            else Q (some (.int (-12 : Int32))) m5) else False) else False
          else Q (some (.int (-11 : Int32))) m5) else False) else False))
      else Q (some (.int (-1 : Int32))) m5))))) :
    zRun C 8 (some .int) zc_Box_shift Q 0 [.ref 20, .int a, .int b, .int c, .int d, .int e, .retAddr 0, .retAddr 0] [] m := zgo [] hC zs_Box_shift (i := .iload_n 1) (r := zfind zc_Box_shift 1) rfl h
theorem en_Box_shift (dd : Nat) {Q : zQ} (a : Int32) (b : Int32) (c : Int32) (d : Int32) (e : Int32) (m : zM) (h : zRun (zCall dd) 8 (some .int) zc_Box_shift Q 0 [.ref 20, .int a, .int b, .int c, .int d, .int e, .retAddr 0, .retAddr 0] [] m) : zCall (dd + 1) m_Box_shift [.ref 20, .int a, .int b, .int c, .int d, .int e] m Q := ⟨Nat.le_of_ble_eq_true rfl, h⟩
theorem zs_Box_isWord : zsrt zc_Box_isWord = true := by decide +kernel
set_option maxRecDepth 100000 in
theorem sg_Box_isWord_0 {C : zC} {Q : zQ} (hC : zCm C) (a : Int32) (m : zM) (h :
    if a < (0 : Int32) then (0 : Int32) &&& 1 = (0 : Int32) ∧ Q (some (.int (0 : Int32))) m
    else if (10000 : Int32) ≤ a then (0 : Int32) &&& 1 = (0 : Int32) ∧ Q (some (.int (0 : Int32))) m
      else (1 : Int32) &&& 1 = (1 : Int32) ∧ Q (some (.int (1 : Int32))) m) :
    zRun C 8 (some .boolean) zc_Box_isWord Q 0 [.int a] [] m := zgo [] hC zs_Box_isWord (i := .iload_n 0) (r := zfind zc_Box_isWord 1) rfl h
theorem en_Box_isWord (dd : Nat) {Q : zQ} (a : Int32) (m : zM) (h : zRun (zCall dd) 8 (some .boolean) zc_Box_isWord Q 0 [.int a] [] m) : zCall (dd + 1) m_Box_isWord [.int a] m Q := ⟨Nat.le_of_ble_eq_true rfl, h⟩
theorem zs_Box_isTape : zsrt zc_Box_isTape = true := by decide +kernel
set_option maxRecDepth 100000 in
theorem sg_Box_isTape_0 {C : zC} {Q : zQ} (hC : zCm C) (a : Int32) (m : zM) (h :
    if a < (0 : Int32) then (0 : Int32) &&& 1 = (0 : Int32) ∧ Q (some (.int (0 : Int32))) m
    else if (6 : Int32) ≤ a then (0 : Int32) &&& 1 = (0 : Int32) ∧ Q (some (.int (0 : Int32))) m
      else (1 : Int32) &&& 1 = (1 : Int32) ∧ Q (some (.int (1 : Int32))) m) :
    zRun C 8 (some .boolean) zc_Box_isTape Q 0 [.int a] [] m := zgo [] hC zs_Box_isTape (i := .iload_n 0) (r := zfind zc_Box_isTape 1) rfl h
theorem en_Box_isTape (dd : Nat) {Q : zQ} (a : Int32) (m : zM) (h : zRun (zCall dd) 8 (some .boolean) zc_Box_isTape Q 0 [.int a] [] m) : zCall (dd + 1) m_Box_isTape [.int a] m Q := ⟨Nat.le_of_ble_eq_true rfl, h⟩
theorem zs_Box_isUnder : zsrt zc_Box_isUnder = true := by decide +kernel
set_option maxRecDepth 100000 in
theorem sg_Box_isUnder_0 {C : zC} {Q : zQ} (hC : zCm C) (a : Int32) (b : Int32) (m : zM) (h :
    zRun C 8 (some .boolean) zc_Box_isUnder Q 4 [.int a, .int b, .int a, .int (0 : Int32)] [] m) :
    zRun C 8 (some .boolean) zc_Box_isUnder Q 0 [.int a, .int b, .retAddr 0, .retAddr 0] [] m := zgo [4] hC zs_Box_isUnder (i := .iload_n 0) (r := zfind zc_Box_isUnder 1) rfl h
set_option maxRecDepth 100000 in
theorem sg_Box_isUnder_4 {C : zC} {Q : zQ} (hC : zCm C) (v0 : Int32) (v1 : Int32) (v2 : Int32) (v3 : Int32) (m : zM) (h :
    if (7 : Int32) ≤ v3 then if ¬ v2 = v1 then (0 : Int32) &&& 1 = (0 : Int32) ∧ Q (some (.int (0 : Int32))) m
      else (1 : Int32) &&& 1 = (1 : Int32) ∧ Q (some (.int (1 : Int32))) m
    else if v2 ≤ (0 : Int32) then if ¬ v2 = v1 then (0 : Int32) &&& 1 = (0 : Int32) ∧ Q (some (.int (0 : Int32))) m
        else (1 : Int32) &&& 1 = (1 : Int32) ∧ Q (some (.int (1 : Int32))) m
      else if v2 = v1 then if ¬ v2 = v1 then (0 : Int32) &&& 1 = (0 : Int32) ∧ Q (some (.int (0 : Int32))) m
          else (1 : Int32) &&& 1 = (1 : Int32) ∧ Q (some (.int (1 : Int32))) m
        else vp_in v2 7 ∧ (zRun C 8 (some .boolean) zc_Box_isUnder Q 4 [.int v0, .int v1, .int (gI m 2 v2.toNatClampNeg), .int (v3 + (1 : Int32))] [] m)) :
    zRun C 8 (some .boolean) zc_Box_isUnder Q 4 [.int v0, .int v1, .int v2, .int v3] [] m := zgo [4] hC zs_Box_isUnder (i := .iload_n 3) (r := zfind zc_Box_isUnder 5) rfl h
theorem en_Box_isUnder (dd : Nat) {Q : zQ} (a : Int32) (b : Int32) (m : zM) (h : zRun (zCall dd) 8 (some .boolean) zc_Box_isUnder Q 0 [.int a, .int b, .retAddr 0, .retAddr 0] [] m) : zCall (dd + 1) m_Box_isUnder [.int a, .int b] m Q := ⟨Nat.le_of_ble_eq_true rfl, h⟩
theorem zs_Box_bit : zsrt zc_Box_bit = true := by decide +kernel
set_option maxRecDepth 100000 in
theorem sg_Box_bit_0 {C : zC} {Q : zQ} (hC : zCm C) (a : Int32) (m : zM) (h :
    Q (some (.int ((1 : Int32) <<< (a &&& 31)))) m) :
    zRun C 8 (some .int) zc_Box_bit Q 0 [.int a] [] m := zgo [] hC zs_Box_bit (i := .iconst 1) (r := zfind zc_Box_bit 1) rfl h
theorem en_Box_bit (dd : Nat) {Q : zQ} (a : Int32) (m : zM) (h : zRun (zCall dd) 8 (some .int) zc_Box_bit Q 0 [.int a] [] m) : zCall (dd + 1) m_Box_bit [.int a] m Q := ⟨Nat.le_of_ble_eq_true rfl, h⟩
theorem zs_Box_holds : zsrt zc_Box_holds = true := by decide +kernel
set_option maxRecDepth 100000 in
theorem sg_Box_holds_0 {C : zC} {Q : zQ} (hC : zCm C) (a : Int32) (b : Int32) (m : zM) (h :
    C m_Box_bit [.int b] m (fun o1 m2 => ∃ x3, o1 = some (.int x3) ∧ (if (a &&& x3) = (0 : Int32) then (0 : Int32) &&& 1 = (0 : Int32) ∧ Q (some (.int (0 : Int32))) m2
    else (1 : Int32) &&& 1 = (1 : Int32) ∧ Q (some (.int (1 : Int32))) m2))) :
    zRun C 8 (some .boolean) zc_Box_holds Q 0 [.int a, .int b] [] m := zgo [] hC zs_Box_holds (i := .iload_n 0) (r := zfind zc_Box_holds 1) rfl h
theorem en_Box_holds (dd : Nat) {Q : zQ} (a : Int32) (b : Int32) (m : zM) (h : zRun (zCall dd) 8 (some .boolean) zc_Box_holds Q 0 [.int a, .int b] [] m) : zCall (dd + 1) m_Box_holds [.int a, .int b] m Q := ⟨Nat.le_of_ble_eq_true rfl, h⟩
theorem zs_Box_with : zsrt zc_Box_with = true := by decide +kernel
set_option maxRecDepth 100000 in
theorem sg_Box_with_0 {C : zC} {Q : zQ} (hC : zCm C) (a : Int32) (b : Int32) (c : Int32) (m : zM) (h :
    if c = (0 : Int32) then C m_Box_bit [.int b] m (fun o1 m2 => ∃ x3, o1 = some (.int x3) ∧ (Q (some (.int (a &&& (x3 ^^^ (-1 : Int32))))) m2))
    else C m_Box_bit [.int b] m (fun o4 m5 => ∃ x6, o4 = some (.int x6) ∧ (Q (some (.int (a ||| x6))) m5))) :
    zRun C 8 (some .int) zc_Box_with Q 0 [.int a, .int b, .int c] [] m := zgo [] hC zs_Box_with (i := .iload_n 2) (r := zfind zc_Box_with 1) rfl h
theorem en_Box_with (dd : Nat) {Q : zQ} (a : Int32) (b : Int32) (c : Int32) (m : zM) (h : zRun (zCall dd) 8 (some .int) zc_Box_with Q 0 [.int a, .int b, .int c] [] m) : zCall (dd + 1) m_Box_with [.int a, .int b, .int c] m Q := ⟨Nat.le_of_ble_eq_true rfl, h⟩
