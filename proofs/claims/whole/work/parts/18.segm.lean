/-! the stretches of the code, by program (gen16.py) -/
theorem zs_Mod_in : zsrt zc_Mod_in = true := by decide +kernel
set_option maxRecDepth 100000 in
theorem sg_Mod_in_0 {C : zC} {Q : zQ} (hC : zCm C) (a : Int32) (b : Int32) (c : Int32) (m : zM) (h :
    if a < b then (0 : Int32) &&& 1 = (0 : Int32) ∧ Q (some (.int (0 : Int32))) m
    else if c < a then (0 : Int32) &&& 1 = (0 : Int32) ∧ Q (some (.int (0 : Int32))) m
      else (1 : Int32) &&& 1 = (1 : Int32) ∧ Q (some (.int (1 : Int32))) m) :
    zRun C 9 (some .boolean) zc_Mod_in Q 0 [.ref 113, .int a, .int b, .int c] [] m := zgo [] hC zs_Mod_in (i := .iload_n 1) (r := zfind zc_Mod_in 1) rfl h
theorem en_Mod_in (dd : Nat) {Q : zQ} (a : Int32) (b : Int32) (c : Int32) (m : zM) (h : zRun (zCall dd) 9 (some .boolean) zc_Mod_in Q 0 [.ref 113, .int a, .int b, .int c] [] m) : zCall (dd + 1) m_Mod_in [.ref 113, .int a, .int b, .int c] m Q := ⟨Nat.le_of_ble_eq_true rfl, h⟩
theorem zs_Mod_has : zsrt zc_Mod_has = true := by decide +kernel
set_option maxRecDepth 100000 in
theorem sg_Mod_has_0 {C : zC} {Q : zQ} (hC : zCm C) (a : Int32) (b : Int32) (m : zM) (h :
    if ¬ ((a >>> (b &&& 31)) &&& (1 : Int32)) = (1 : Int32) then (0 : Int32) &&& 1 = (0 : Int32) ∧ Q (some (.int (0 : Int32))) m
    else (1 : Int32) &&& 1 = (1 : Int32) ∧ Q (some (.int (1 : Int32))) m) :
    zRun C 9 (some .boolean) zc_Mod_has Q 0 [.ref 113, .int a, .int b] [] m := zgo [] hC zs_Mod_has (i := .iload_n 1) (r := zfind zc_Mod_has 1) rfl h
theorem en_Mod_has (dd : Nat) {Q : zQ} (a : Int32) (b : Int32) (m : zM) (h : zRun (zCall dd) 9 (some .boolean) zc_Mod_has Q 0 [.ref 113, .int a, .int b] [] m) : zCall (dd + 1) m_Mod_has [.ref 113, .int a, .int b] m Q := ⟨Nat.le_of_ble_eq_true rfl, h⟩
theorem zs_Mod_ones : zsrt zc_Mod_ones = true := by decide +kernel
set_option maxRecDepth 100000 in
theorem sg_Mod_ones_0 {C : zC} {Q : zQ} (hC : zCm C) (a : Int32) (m : zM) (h :
    zRun C 9 (some .int) zc_Mod_ones Q 4 [.ref 113, .int a, .int (0 : Int32), .int a] [] m) :
    zRun C 9 (some .int) zc_Mod_ones Q 0 [.ref 113, .int a, .retAddr 0, .retAddr 0] [] m := zgo [4] hC zs_Mod_ones (i := .iconst 0) (r := zfind zc_Mod_ones 1) rfl h
set_option maxRecDepth 100000 in
theorem sg_Mod_ones_4 {C : zC} {Q : zQ} (hC : zCm C) (v1 : Int32) (v2 : Int32) (v3 : Int32) (m : zM) (h :
    if v3 = (0 : Int32) then Q (some (.int v2)) m
    else zRun C 9 (some .int) zc_Mod_ones Q 4 [.ref 113, .int v1, .int (v2 + (1 : Int32)), .int (v3 &&& (v3 - (1 : Int32)))] [] m) :
    zRun C 9 (some .int) zc_Mod_ones Q 4 [.ref 113, .int v1, .int v2, .int v3] [] m := zgo [4] hC zs_Mod_ones (i := .iload_n 3) (r := zfind zc_Mod_ones 5) rfl h
theorem en_Mod_ones (dd : Nat) {Q : zQ} (a : Int32) (m : zM) (h : zRun (zCall dd) 9 (some .int) zc_Mod_ones Q 0 [.ref 113, .int a, .retAddr 0, .retAddr 0] [] m) : zCall (dd + 1) m_Mod_ones [.ref 113, .int a] m Q := ⟨Nat.le_of_ble_eq_true rfl, h⟩
theorem zs_Mod_isPlant : zsrt zc_Mod_isPlant = true := by decide +kernel
set_option maxRecDepth 100000 in
theorem sg_Mod_isPlant_0 {C : zC} {Q : zQ} (hC : zCm C) (a : Int32) (m : zM) (h :
    C m_Mod_in [.ref 113, .int a, .int (0 : Int32), .int ((gI m 113 0) - (1 : Int32))] m (fun o1 m2 => ∃ x3, o1 = some (.int x3) ∧ (x3 &&& 1 = x3 ∧ Q (some (.int x3)) m2))) :
    zRun C 9 (some .boolean) zc_Mod_isPlant Q 0 [.ref 113, .int a] [] m := zgo [] hC zs_Mod_isPlant (i := .aload_n 0) (r := zfind zc_Mod_isPlant 1) rfl h
theorem en_Mod_isPlant (dd : Nat) {Q : zQ} (a : Int32) (m : zM) (h : zRun (zCall dd) 9 (some .boolean) zc_Mod_isPlant Q 0 [.ref 113, .int a] [] m) : zCall (dd + 1) m_Mod_isPlant [.ref 113, .int a] m Q := ⟨Nat.le_of_ble_eq_true rfl, h⟩
theorem zs_Mod_isWord : zsrt zc_Mod_isWord = true := by decide +kernel
set_option maxRecDepth 100000 in
theorem sg_Mod_isWord_0 {C : zC} {Q : zQ} (hC : zCm C) (a : Int32) (m : zM) (h :
    C m_Mod_in [.ref 113, .int a, .int (0 : Int32), .int (9999 : Int32)] m (fun o1 m2 => ∃ x3, o1 = some (.int x3) ∧ (x3 &&& 1 = x3 ∧ Q (some (.int x3)) m2))) :
    zRun C 9 (some .boolean) zc_Mod_isWord Q 0 [.ref 113, .int a] [] m := zgo [] hC zs_Mod_isWord (i := .aload_n 0) (r := zfind zc_Mod_isWord 1) rfl h
theorem en_Mod_isWord (dd : Nat) {Q : zQ} (a : Int32) (m : zM) (h : zRun (zCall dd) 9 (some .boolean) zc_Mod_isWord Q 0 [.ref 113, .int a] [] m) : zCall (dd + 1) m_Mod_isWord [.ref 113, .int a] m Q := ⟨Nat.le_of_ble_eq_true rfl, h⟩
theorem zs_Mod_plant : zsrt zc_Mod_plant = true := by decide +kernel
set_option maxRecDepth 100000 in
theorem sg_Mod_plant_0 {C : zC} {Q : zQ} (hC : zCm C) (a : Int32) (b : Int32) (m : zM) (h :
    C m_Mod_in [.ref 113, .int a, .int (0 : Int32), .int (6 : Int32)] m (fun o1 m2 => ∃ x3, o1 = some (.int x3) ∧ (if ¬ x3 = (0 : Int32) then C m_Mod_in [.ref 113, .int b, .int (0 : Int32), .int (9 : Int32)] m2 (fun o4 m5 => ∃ x6, o4 = some (.int x6) ∧ (if ¬ x6 = (0 : Int32) then if ¬ (gI m5 113 0) = (8 : Int32) then vp_in (gI m5 113 0) 8 ∧ (vp_in (gI (sI m5 114 (gI m5 113 0).toNatClampNeg a) 113 0) 8 ∧ (vp_in (gI (sI (sI m5 114 (gI m5 113 0).toNatClampNeg a) 115 (gI (sI m5 114 (gI m5 113 0).toNatClampNeg a) 113 0).toNatClampNeg b) 113 0) 8 ∧ (zRun C 9 (some .int) zc_Mod_plant Q 88 [.ref 113, .int a, .int b, .int (0 : Int32)] [] (sI (sI (sI (sI m5 114 (gI m5 113 0).toNatClampNeg a) 115 (gI (sI m5 114 (gI m5 113 0).toNatClampNeg a) 113 0).toNatClampNeg b) 116 (gI (sI (sI m5 114 (gI m5 113 0).toNatClampNeg a) 115 (gI (sI m5 114 (gI m5 113 0).toNatClampNeg a) 113 0).toNatClampNeg b) 113 0).toNatClampNeg (0 : Int32)) 113 2 ((gI (sI (sI (sI m5 114 (gI m5 113 0).toNatClampNeg a) 115 (gI (sI m5 114 (gI m5 113 0).toNatClampNeg a) 113 0).toNatClampNeg b) 116 (gI (sI (sI m5 114 (gI m5 113 0).toNatClampNeg a) 115 (gI (sI m5 114 (gI m5 113 0).toNatClampNeg a) 113 0).toNatClampNeg b) 113 0).toNatClampNeg (0 : Int32)) 113 2) &&& (((1 : Int32) <<< ((gI (sI (sI (sI m5 114 (gI m5 113 0).toNatClampNeg a) 115 (gI (sI m5 114 (gI m5 113 0).toNatClampNeg a) 113 0).toNatClampNeg b) 116 (gI (sI (sI m5 114 (gI m5 113 0).toNatClampNeg a) 115 (gI (sI m5 114 (gI m5 113 0).toNatClampNeg a) 113 0).toNatClampNeg b) 113 0).toNatClampNeg (0 : Int32)) 113 0) &&& 31)) ^^^ (-1 : Int32)))))))
        else Q (some (.int (-4 : Int32))) m5
      else Q (some (.int (-2 : Int32))) m5))
    else Q (some (.int (-1 : Int32))) m2))) :
    zRun C 9 (some .int) zc_Mod_plant Q 0 [.ref 113, .int a, .int b, .retAddr 0] [] m := zgo [88] hC zs_Mod_plant (i := .aload_n 0) (r := zfind zc_Mod_plant 1) rfl h
set_option maxRecDepth 100000 in
theorem sg_Mod_plant_88 {C : zC} {Q : zQ} (hC : zCm C) (v1 : Int32) (v2 : Int32) (v3 : Int32) (m : zM) (h :
    if (4 : Int32) ≤ v3 then Q (some (.int ((gI (sI m 113 0 ((gI m 113 0) + (1 : Int32))) 113 0) - (1 : Int32)))) (sI m 113 0 ((gI m 113 0) + (1 : Int32)))
    else vp_in (((4 : Int32) * (gI m 113 0)) + v3) 32 ∧ (zRun C 9 (some .int) zc_Mod_plant Q 88 [.ref 113, .int v1, .int v2, .int (v3 + (1 : Int32))] [] (sI m 117 (((4 : Int32) * (gI m 113 0)) + v3).toNatClampNeg (0 : Int32)))) :
    zRun C 9 (some .int) zc_Mod_plant Q 88 [.ref 113, .int v1, .int v2, .int v3] [] m := zgo [88] hC zs_Mod_plant (i := .iload_n 3) (r := zfind zc_Mod_plant 89) rfl h
theorem en_Mod_plant (dd : Nat) {Q : zQ} (a : Int32) (b : Int32) (m : zM) (h : zRun (zCall dd) 9 (some .int) zc_Mod_plant Q 0 [.ref 113, .int a, .int b, .retAddr 0] [] m) : zCall (dd + 1) m_Mod_plant [.ref 113, .int a, .int b] m Q := ⟨Nat.le_of_ble_eq_true rfl, h⟩
theorem zs_Mod_touch : zsrt zc_Mod_touch = true := by decide +kernel
set_option maxRecDepth 100000 in
theorem sg_Mod_touch_0 {C : zC} {Q : zQ} (hC : zCm C) (a : Int32) (b : Int32) (c : Int32) (m : zM) (h :
    C m_Mod_isPlant [.ref 113, .int a] m (fun o1 m2 => ∃ x3, o1 = some (.int x3) ∧ (if x3 = (0 : Int32) then Q (some (.int (-1 : Int32))) m2
    else C m_Mod_isPlant [.ref 113, .int b] m2 (fun o4 m5 => ∃ x6, o4 = some (.int x6) ∧ (if ¬ x6 = (0 : Int32) then if ¬ a = b then vp_in a 8 ∧ (C m_Mod_has [.ref 113, .int (gI m5 116 a.toNatClampNeg), .int b] m5 (fun o7 m8 => ∃ x9, o7 = some (.int x9) ∧ (if x9 = (0 : Int32) then if c = (0 : Int32) then vp_in a 8 ∧ (vp_in a 8 ∧ (Q (some (.int (0 : Int32))) (sI m8 116 a.toNatClampNeg ((gI m8 116 a.toNatClampNeg) &&& (((1 : Int32) <<< (b &&& 31)) ^^^ (-1 : Int32))))))
            else vp_in a 8 ∧ (vp_in a 8 ∧ (Q (some (.int (0 : Int32))) (sI m8 116 a.toNatClampNeg ((gI m8 116 a.toNatClampNeg) ||| ((1 : Int32) <<< (b &&& 31))))))
          else if c = (0 : Int32) then vp_in a 8 ∧ (vp_in a 8 ∧ (Q (some (.int (1 : Int32))) (sI m8 116 a.toNatClampNeg ((gI m8 116 a.toNatClampNeg) &&& (((1 : Int32) <<< (b &&& 31)) ^^^ (-1 : Int32))))))
            else vp_in a 8 ∧ (vp_in a 8 ∧ (Q (some (.int (1 : Int32))) (sI m8 116 a.toNatClampNeg ((gI m8 116 a.toNatClampNeg) ||| ((1 : Int32) <<< (b &&& 31)))))))))
        else Q (some (.int (-2 : Int32))) m5
      else Q (some (.int (-1 : Int32))) m5))))) :
    zRun C 9 (some .int) zc_Mod_touch Q 0 [.ref 113, .int a, .int b, .int c, .retAddr 0] [] m := zgo [] hC zs_Mod_touch (i := .aload_n 0) (r := zfind zc_Mod_touch 1) rfl h
theorem en_Mod_touch (dd : Nat) {Q : zQ} (a : Int32) (b : Int32) (c : Int32) (m : zM) (h : zRun (zCall dd) 9 (some .int) zc_Mod_touch Q 0 [.ref 113, .int a, .int b, .int c, .retAddr 0] [] m) : zCall (dd + 1) m_Mod_touch [.ref 113, .int a, .int b, .int c] m Q := ⟨Nat.le_of_ble_eq_true rfl, h⟩
theorem zs_Mod_kill : zsrt zc_Mod_kill = true := by decide +kernel
set_option maxRecDepth 100000 in
theorem sg_Mod_kill_0 {C : zC} {Q : zQ} (hC : zCm C) (a : Int32) (b : Int32) (m : zM) (h :
    C m_Mod_isPlant [.ref 113, .int a] m (fun o1 m2 => ∃ x3, o1 = some (.int x3) ∧ (if ¬ x3 = (0 : Int32) then C m_Mod_has [.ref 113, .int (gI m2 113 2), .int a] m2 (fun o4 m5 => ∃ x6, o4 = some (.int x6) ∧ (if x6 = (0 : Int32) then if b = (0 : Int32) then Q (some (.int (0 : Int32))) (sI m5 113 2 ((gI m5 113 2) &&& (((1 : Int32) <<< (a &&& 31)) ^^^ (-1 : Int32))))
        else Q (some (.int (0 : Int32))) (sI m5 113 2 ((gI m5 113 2) ||| ((1 : Int32) <<< (a &&& 31))))
      else if b = (0 : Int32) then Q (some (.int (1 : Int32))) (sI m5 113 2 ((gI m5 113 2) &&& (((1 : Int32) <<< (a &&& 31)) ^^^ (-1 : Int32))))
        else Q (some (.int (1 : Int32))) (sI m5 113 2 ((gI m5 113 2) ||| ((1 : Int32) <<< (a &&& 31))))))
    else Q (some (.int (-1 : Int32))) m2))) :
    zRun C 9 (some .int) zc_Mod_kill Q 0 [.ref 113, .int a, .int b, .retAddr 0] [] m := zgo [] hC zs_Mod_kill (i := .aload_n 0) (r := zfind zc_Mod_kill 1) rfl h
theorem en_Mod_kill (dd : Nat) {Q : zQ} (a : Int32) (b : Int32) (m : zM) (h : zRun (zCall dd) 9 (some .int) zc_Mod_kill Q 0 [.ref 113, .int a, .int b, .retAddr 0] [] m) : zCall (dd + 1) m_Mod_kill [.ref 113, .int a, .int b] m Q := ⟨Nat.le_of_ble_eq_true rfl, h⟩
theorem zs_Mod_row : zsrt zc_Mod_row = true := by decide +kernel
set_option maxRecDepth 100000 in
theorem sg_Mod_row_0 {C : zC} {Q : zQ} (hC : zCm C) (a : Int32) (b : Int32) (c : Int32) (m : zM) (h :
    C m_Mod_isPlant [.ref 113, .int a] m (fun o1 m2 => ∃ x3, o1 = some (.int x3) ∧ (if x3 = (0 : Int32) then Q (some (.int (-1 : Int32))) m2
    else C m_Mod_in [.ref 113, .int b, .int (0 : Int32), .int (3 : Int32)] m2 (fun o4 m5 => ∃ x6, o4 = some (.int x6) ∧ (if ¬ x6 = (0 : Int32) then C m_Mod_in [.ref 113, .int c, .int (0 : Int32), .int (9 : Int32)] m5 (fun o7 m8 => ∃ x9, o7 = some (.int x9) ∧ (if ¬ x9 = (0 : Int32) then vp_in a 8 ∧ (if (gI m8 114 a.toNatClampNeg) = (6 : Int32) then vp_in (((4 : Int32) * a) + b) 32 ∧ (vp_in (((4 : Int32) * a) + b) 32 ∧ (Q (some (.int (gI m8 117 (((4 : Int32) * a) + b).toNatClampNeg))) (sI m8 117 (((4 : Int32) * a) + b).toNatClampNeg c)))
          else Q (some (.int (-3 : Int32))) m8)
        else Q (some (.int (-2 : Int32))) m8))
      else Q (some (.int (-1 : Int32))) m5))))) :
    zRun C 9 (some .int) zc_Mod_row Q 0 [.ref 113, .int a, .int b, .int c, .retAddr 0] [] m := zgo [] hC zs_Mod_row (i := .aload_n 0) (r := zfind zc_Mod_row 1) rfl h
theorem en_Mod_row (dd : Nat) {Q : zQ} (a : Int32) (b : Int32) (c : Int32) (m : zM) (h : zRun (zCall dd) 9 (some .int) zc_Mod_row Q 0 [.ref 113, .int a, .int b, .int c, .retAddr 0] [] m) : zCall (dd + 1) m_Mod_row [.ref 113, .int a, .int b, .int c] m Q := ⟨Nat.le_of_ble_eq_true rfl, h⟩
theorem zs_Mod_feed : zsrt zc_Mod_feed = true := by decide +kernel
set_option maxRecDepth 100000 in
theorem sg_Mod_feed_0 {C : zC} {Q : zQ} (hC : zCm C) (a : Int32) (m : zM) (h :
    C m_Mod_in [.ref 113, .int a, .int (0 : Int32), .int (127 : Int32)] m (fun o1 m2 => ∃ x3, o1 = some (.int x3) ∧ (if ¬ x3 = (0 : Int32) then if ¬ (gI m2 113 9) = (100 : Int32) then vp_in (gI m2 113 9) 100 ∧ (Q (some (.int (gI (sI (sI m2 118 (gI m2 113 9).toNatClampNeg a) 113 9 ((gI (sI m2 118 (gI m2 113 9).toNatClampNeg a) 113 9) + (1 : Int32))) 113 9))) (sI (sI m2 118 (gI m2 113 9).toNatClampNeg a) 113 9 ((gI (sI m2 118 (gI m2 113 9).toNatClampNeg a) 113 9) + (1 : Int32))))
      else Q (some (.int (-4 : Int32))) m2
    else Q (some (.int (-2 : Int32))) m2))) :
    zRun C 9 (some .int) zc_Mod_feed Q 0 [.ref 113, .int a] [] m := zgo [] hC zs_Mod_feed (i := .aload_n 0) (r := zfind zc_Mod_feed 1) rfl h
theorem en_Mod_feed (dd : Nat) {Q : zQ} (a : Int32) (m : zM) (h : zRun (zCall dd) 9 (some .int) zc_Mod_feed Q 0 [.ref 113, .int a] [] m) : zCall (dd + 1) m_Mod_feed [.ref 113, .int a] m Q := ⟨Nat.le_of_ble_eq_true rfl, h⟩
theorem zs_Mod_next : zsrt zc_Mod_next = true := by decide +kernel
set_option maxRecDepth 100000 in
theorem sg_Mod_next_0 {C : zC} {Q : zQ} (hC : zCm C) (m : zM) (h :
    if (gI m 113 9) ≤ (gI m 113 10) then Q (some (.int (-1 : Int32))) m
    else vp_in (gI m 113 10) 100 ∧ (Q (some (.int (gI m 118 (gI m 113 10).toNatClampNeg))) m)) :
    zRun C 9 (some .int) zc_Mod_next Q 0 [.ref 113] [] m := zgo [] hC zs_Mod_next (i := .aload_n 0) (r := zfind zc_Mod_next 1) rfl h
theorem en_Mod_next (dd : Nat) {Q : zQ} (m : zM) (h : zRun (zCall dd) 9 (some .int) zc_Mod_next Q 0 [.ref 113] [] m) : zCall (dd + 1) m_Mod_next [.ref 113] m Q := ⟨Nat.le_of_ble_eq_true rfl, h⟩
theorem zs_Mod_takes : zsrt zc_Mod_takes = true := by decide +kernel
set_option maxRecDepth 100000 in
theorem sg_Mod_takes_0 {C : zC} {Q : zQ} (hC : zCm C) (a : Int32) (m : zM) (h :
    C m_Mod_next [.ref 113] m (fun o1 m2 => ∃ x3, o1 = some (.int x3) ∧ (if x3 = a then (1 : Int32) &&& 1 = (1 : Int32) ∧ Q (some (.int (1 : Int32))) (sI m2 113 10 ((gI m2 113 10) + (1 : Int32)))
    else (0 : Int32) &&& 1 = (0 : Int32) ∧ Q (some (.int (0 : Int32))) m2))) :
    zRun C 9 (some .boolean) zc_Mod_takes Q 0 [.ref 113, .int a] [] m := zgo [] hC zs_Mod_takes (i := .aload_n 0) (r := zfind zc_Mod_takes 1) rfl h
theorem en_Mod_takes (dd : Nat) {Q : zQ} (a : Int32) (m : zM) (h : zRun (zCall dd) 9 (some .boolean) zc_Mod_takes Q 0 [.ref 113, .int a] [] m) : zCall (dd + 1) m_Mod_takes [.ref 113, .int a] m Q := ⟨Nat.le_of_ble_eq_true rfl, h⟩
theorem zs_Mod_takesWord : zsrt zc_Mod_takesWord = true := by decide +kernel
set_option maxRecDepth 100000 in
theorem sg_Mod_takesWord_0 {C : zC} {Q : zQ} (hC : zCm C) (a : Int32) (b : Int32) (m : zM) (h :
    zRun C 9 (some .boolean) zc_Mod_takesWord Q 2 [.ref 113, .int a, .int b, .int (0 : Int32)] [] m) :
    zRun C 9 (some .boolean) zc_Mod_takesWord Q 0 [.ref 113, .int a, .int b, .retAddr 0] [] m := zgo [2] hC zs_Mod_takesWord (i := .iconst 0) (r := zfind zc_Mod_takesWord 1) rfl h
set_option maxRecDepth 100000 in
theorem sg_Mod_takesWord_2 {C : zC} {Q : zQ} (hC : zCm C) (v1 : Int32) (v2 : Int32) (v3 : Int32) (m : zM) (h :
    if v2 ≤ v3 then C m_Mod_takes [.ref 113, .int (32 : Int32)] m (fun o1 m2 => ∃ x3, o1 = some (.int x3) ∧ (x3 &&& 1 = x3 ∧ Q (some (.int x3)) m2))
    else vp_in (v1 + v3) 18 ∧ (C m_Mod_takes [.ref 113, .int (gI m 126 (v1 + v3).toNatClampNeg)] m (fun o4 m5 => ∃ x6, o4 = some (.int x6) ∧ (if ¬ x6 = (0 : Int32) then zRun C 9 (some .boolean) zc_Mod_takesWord Q 2 [.ref 113, .int v1, .int v2, .int (v3 + (1 : Int32))] [] m5
      else (0 : Int32) &&& 1 = (0 : Int32) ∧ Q (some (.int (0 : Int32))) m5)))) :
    zRun C 9 (some .boolean) zc_Mod_takesWord Q 2 [.ref 113, .int v1, .int v2, .int v3] [] m := zgo [2] hC zs_Mod_takesWord (i := .iload_n 3) (r := zfind zc_Mod_takesWord 3) rfl h
theorem en_Mod_takesWord (dd : Nat) {Q : zQ} (a : Int32) (b : Int32) (m : zM) (h : zRun (zCall dd) 9 (some .boolean) zc_Mod_takesWord Q 0 [.ref 113, .int a, .int b, .retAddr 0] [] m) : zCall (dd + 1) m_Mod_takesWord [.ref 113, .int a, .int b] m Q := ⟨Nat.le_of_ble_eq_true rfl, h⟩
theorem zs_Mod_isDigit : zsrt zc_Mod_isDigit = true := by decide +kernel
set_option maxRecDepth 100000 in
theorem sg_Mod_isDigit_0 {C : zC} {Q : zQ} (hC : zCm C) (m : zM) (h :
    C m_Mod_next [.ref 113] m (fun o1 m2 => ∃ x3, o1 = some (.int x3) ∧ (C m_Mod_in [.ref 113, .int x3, .int (48 : Int32), .int (57 : Int32)] m2 (fun o4 m5 => ∃ x6, o4 = some (.int x6) ∧ (x6 &&& 1 = x6 ∧ Q (some (.int x6)) m5))))) :
    zRun C 9 (some .boolean) zc_Mod_isDigit Q 0 [.ref 113] [] m := zgo [] hC zs_Mod_isDigit (i := .aload_n 0) (r := zfind zc_Mod_isDigit 1) rfl h
theorem en_Mod_isDigit (dd : Nat) {Q : zQ} (m : zM) (h : zRun (zCall dd) 9 (some .boolean) zc_Mod_isDigit Q 0 [.ref 113] [] m) : zCall (dd + 1) m_Mod_isDigit [.ref 113] m Q := ⟨Nat.le_of_ble_eq_true rfl, h⟩
theorem zs_Mod_takesNumber : zsrt zc_Mod_takesNumber = true := by decide +kernel
set_option maxRecDepth 100000 in
theorem sg_Mod_takesNumber_0 {C : zC} {Q : zQ} (hC : zCm C) (m : zM) (h :
    C m_Mod_isDigit [.ref 113] m (fun o1 m2 => ∃ x3, o1 = some (.int x3) ∧ (if ¬ x3 = (0 : Int32) then zRun C 9 (some .boolean) zc_Mod_takesNumber Q 16 [.ref 113, .int (0 : Int32)] [] (sI m2 113 11 (0 : Int32))
    else (0 : Int32) &&& 1 = (0 : Int32) ∧ Q (some (.int (0 : Int32))) m2))) :
    zRun C 9 (some .boolean) zc_Mod_takesNumber Q 0 [.ref 113, .retAddr 0] [] m := zgo [16] hC zs_Mod_takesNumber (i := .aload_n 0) (r := zfind zc_Mod_takesNumber 1) rfl h
set_option maxRecDepth 100000 in
theorem sg_Mod_takesNumber_16 {C : zC} {Q : zQ} (hC : zCm C) (v1 : Int32) (m : zM) (h :
    if (2 : Int32) ≤ v1 then (1 : Int32) &&& 1 = (1 : Int32) ∧ Q (some (.int (1 : Int32))) m
    else C m_Mod_isDigit [.ref 113] m (fun o1 m2 => ∃ x3, o1 = some (.int x3) ∧ (if x3 = (0 : Int32) then (1 : Int32) &&& 1 = (1 : Int32) ∧ Q (some (.int (1 : Int32))) m2
      else C m_Mod_next [.ref 113] m2 (fun o4 m5 => ∃ x6, o4 = some (.int x6) ∧ (zRun C 9 (some .boolean) zc_Mod_takesNumber Q 16 [.ref 113, .int (v1 + (1 : Int32))] [] (sI (sI m5 113 11 ((((10 : Int32) * (gI m2 113 11)) + x6) - (48 : Int32))) 113 10 ((gI (sI m5 113 11 ((((10 : Int32) * (gI m2 113 11)) + x6) - (48 : Int32))) 113 10) + (1 : Int32)))))))) :
    zRun C 9 (some .boolean) zc_Mod_takesNumber Q 16 [.ref 113, .int v1] [] m := zgo [16] hC zs_Mod_takesNumber (i := .iload_n 1) (r := zfind zc_Mod_takesNumber 17) rfl h
theorem en_Mod_takesNumber (dd : Nat) {Q : zQ} (m : zM) (h : zRun (zCall dd) 9 (some .boolean) zc_Mod_takesNumber Q 0 [.ref 113, .retAddr 0] [] m) : zCall (dd + 1) m_Mod_takesNumber [.ref 113] m Q := ⟨Nat.le_of_ble_eq_true rfl, h⟩
theorem zs_Mod_emits : zsrt zc_Mod_emits = true := by decide +kernel
set_option maxRecDepth 100000 in
theorem sg_Mod_emits_0 {C : zC} {Q : zQ} (hC : zCm C) (a : Int32) (m : zM) (h :
    vp_in (gI m 113 20) 600 ∧ (Q none (sI (sI m 124 (gI m 113 20).toNatClampNeg a) 113 20 ((gI (sI m 124 (gI m 113 20).toNatClampNeg a) 113 20) + (1 : Int32))))) :
    zRun C 9 none zc_Mod_emits Q 0 [.ref 113, .int a] [] m := zgo [] hC zs_Mod_emits (i := .aload_n 0) (r := zfind zc_Mod_emits 1) rfl h
theorem en_Mod_emits (dd : Nat) {Q : zQ} (a : Int32) (m : zM) (h : zRun (zCall dd) 9 none zc_Mod_emits Q 0 [.ref 113, .int a] [] m) : zCall (dd + 1) m_Mod_emits [.ref 113, .int a] m Q := ⟨Nat.le_of_ble_eq_true rfl, h⟩
theorem zs_Mod_whole : zsrt zc_Mod_whole = true := by decide +kernel
set_option maxRecDepth 100000 in
theorem sg_Mod_whole_0 {C : zC} {Q : zQ} (hC : zCm C) (m : zM) (h :
    if (gI m 113 21) ≤ (0 : Int32) then Q none m
    else vp_in ((gI m 113 21) - (1 : Int32)) 101 ∧ (if ¬ (gI m 125 ((gI m 113 21) - (1 : Int32)).toNatClampNeg) = (33 : Int32) then Q none m
      else C m_Mod_emits [.ref 113, .int (-33 : Int32)] m (fun o1 m2 => o1 = none ∧ (zRun C 9 none zc_Mod_whole Q 0 [.ref 113] [] (sI (sI m2 113 21 ((gI m2 113 21) - (1 : Int32))) 113 22 ((gI (sI m2 113 21 ((gI m2 113 21) - (1 : Int32))) 113 22) - (1 : Int32))))))) :
    zRun C 9 none zc_Mod_whole Q 0 [.ref 113] [] m := zgo [0] hC zs_Mod_whole (i := .aload_n 0) (r := zfind zc_Mod_whole 1) rfl h
theorem en_Mod_whole (dd : Nat) {Q : zQ} (m : zM) (h : zRun (zCall dd) 9 none zc_Mod_whole Q 0 [.ref 113] [] m) : zCall (dd + 1) m_Mod_whole [.ref 113] m Q := ⟨Nat.le_of_ble_eq_true rfl, h⟩
theorem zs_Mod_settle : zsrt zc_Mod_settle = true := by decide +kernel
set_option maxRecDepth 100000 in
theorem sg_Mod_settle_0 {C : zC} {Q : zQ} (hC : zCm C) (a : Int32) (m : zM) (h :
    if (gI m 113 21) ≤ (0 : Int32) then Q none m
    else vp_in ((gI m 113 21) - (1 : Int32)) 101 ∧ (if (gI m 125 ((gI m 113 21) - (1 : Int32)).toNatClampNeg) = (38 : Int32) then vp_in (gI (sI m 113 21 ((gI m 113 21) - (1 : Int32))) 113 21) 101 ∧ (C m_Mod_emits [.ref 113, .int (-(gI (sI m 113 21 ((gI m 113 21) - (1 : Int32))) 125 (gI (sI m 113 21 ((gI m 113 21) - (1 : Int32))) 113 21).toNatClampNeg))] (sI m 113 21 ((gI m 113 21) - (1 : Int32))) (fun o1 m2 => o1 = none ∧ (zRun C 9 none zc_Mod_settle Q 0 [.ref 113, .int a] [] m2)))
      else vp_in ((gI m 113 21) - (1 : Int32)) 101 ∧ (if ¬ (gI m 125 ((gI m 113 21) - (1 : Int32)).toNatClampNeg) = (124 : Int32) then Q none m
        else if a = (38 : Int32) then Q none m
          else vp_in (gI (sI m 113 21 ((gI m 113 21) - (1 : Int32))) 113 21) 101 ∧ (C m_Mod_emits [.ref 113, .int (-(gI (sI m 113 21 ((gI m 113 21) - (1 : Int32))) 125 (gI (sI m 113 21 ((gI m 113 21) - (1 : Int32))) 113 21).toNatClampNeg))] (sI m 113 21 ((gI m 113 21) - (1 : Int32))) (fun o3 m4 => o3 = none ∧ (zRun C 9 none zc_Mod_settle Q 0 [.ref 113, .int a] [] m4)))))) :
    zRun C 9 none zc_Mod_settle Q 0 [.ref 113, .int a] [] m := zgo [0] hC zs_Mod_settle (i := .aload_n 0) (r := zfind zc_Mod_settle 1) rfl h
theorem en_Mod_settle (dd : Nat) {Q : zQ} (a : Int32) (m : zM) (h : zRun (zCall dd) 9 none zc_Mod_settle Q 0 [.ref 113, .int a] [] m) : zCall (dd + 1) m_Mod_settle [.ref 113, .int a] m Q := ⟨Nat.le_of_ble_eq_true rfl, h⟩
theorem zs_Mod_place : zsrt zc_Mod_place = true := by decide +kernel
set_option maxRecDepth 100000 in
theorem sg_Mod_place_0 {C : zC} {Q : zQ} (hC : zCm C) (a : Int32) (m : zM) (h :
    if a = (100 : Int32) then Q (some (.int (5 : Int32))) m
    else if a = (101 : Int32) then Q (some (.int (-1 : Int32))) m
    else if a = (102 : Int32) then Q (some (.int (-1 : Int32))) m
    else if a = (103 : Int32) then Q (some (.int (-1 : Int32))) m
    else if a = (104 : Int32) then Q (some (.int (4 : Int32))) m
    else if a = (105 : Int32) then Q (some (.int (-1 : Int32))) m
    else if a = (106 : Int32) then Q (some (.int (-1 : Int32))) m
    else if a = (107 : Int32) then Q (some (.int (1 : Int32))) m
    else if a = (108 : Int32) then Q (some (.int (-1 : Int32))) m
    else if a = (109 : Int32) then Q (some (.int (-1 : Int32))) m
    else if a = (110 : Int32) then Q (some (.int (-1 : Int32))) m
    else if a = (111 : Int32) then Q (some (.int (-1 : Int32))) m
    else if a = (112 : Int32) then Q (some (.int (0 : Int32))) m
    else if a = (113 : Int32) then Q (some (.int (-1 : Int32))) m
    else if a = (114 : Int32) then Q (some (.int (-1 : Int32))) m
    else if a = (115 : Int32) then Q (some (.int (-1 : Int32))) m
    else if a = (116 : Int32) then Q (some (.int (3 : Int32))) m
    else if a = (117 : Int32) then Q (some (.int (-1 : Int32))) m
    else if a = (118 : Int32) then Q (some (.int (2 : Int32))) m
    else Q (some (.int (-1 : Int32))) m) :
    zRun C 9 (some .int) zc_Mod_place Q 0 [.ref 113, .int a] [] m := zgo [] hC zs_Mod_place (i := .iload_n 1) (r := zfind zc_Mod_place 1) rfl h
theorem en_Mod_place (dd : Nat) {Q : zQ} (a : Int32) (m : zM) (h : zRun (zCall dd) 9 (some .int) zc_Mod_place Q 0 [.ref 113, .int a] [] m) : zCall (dd + 1) m_Mod_place [.ref 113, .int a] m Q := ⟨Nat.le_of_ble_eq_true rfl, h⟩
theorem zs_Mod_takesTest : zsrt zc_Mod_takesTest = true := by decide +kernel
set_option maxRecDepth 100000 in
theorem sg_Mod_takesTest_0 {C : zC} {Q : zQ} (hC : zCm C) (m : zM) (h :
    C m_Mod_next [.ref 113] m (fun o1 m2 => ∃ x3, o1 = some (.int x3) ∧ (C m_Mod_place [.ref 113, .int x3] m2 (fun o4 m5 => ∃ x6, o4 = some (.int x6) ∧ (if (0 : Int32) ≤ x6 then C m_Mod_next [.ref 113] (sI m5 113 10 ((gI m5 113 10) + (1 : Int32))) (fun o7 m8 => ∃ x9, o7 = some (.int x9) ∧ (C m_Mod_in [.ref 113, .int x9, .int (60 : Int32), .int (62 : Int32)] m8 (fun o10 m11 => ∃ x12, o10 = some (.int x12) ∧ (if ¬ x12 = (0 : Int32) then C m_Mod_takesNumber [.ref 113] (sI m11 113 10 ((gI m11 113 10) + (1 : Int32))) (fun o13 m14 => ∃ x15, o13 = some (.int x15) ∧ (if ¬ x15 = (0 : Int32) then C m_Mod_emits [.ref 113, .int ((((1000 : Int32) * x6) + ((100 : Int32) * (x9 - (60 : Int32)))) + (gI m14 113 11))] m14 (fun o16 m17 => o16 = none ∧ (C m_Mod_whole [.ref 113] m17 (fun o18 m19 => o18 = none ∧ ((1 : Int32) &&& 1 = (1 : Int32) ∧ Q (some (.int (1 : Int32))) m19))))
        else (0 : Int32) &&& 1 = (0 : Int32) ∧ Q (some (.int (0 : Int32))) m14))
      else (0 : Int32) &&& 1 = (0 : Int32) ∧ Q (some (.int (0 : Int32))) m11))))
    else (0 : Int32) &&& 1 = (0 : Int32) ∧ Q (some (.int (0 : Int32))) m5))))) :
    zRun C 9 (some .boolean) zc_Mod_takesTest Q 0 [.ref 113, .retAddr 0, .retAddr 0] [] m := zgo [] hC zs_Mod_takesTest (i := .aload_n 0) (r := zfind zc_Mod_takesTest 1) rfl h
theorem en_Mod_takesTest (dd : Nat) {Q : zQ} (m : zM) (h : zRun (zCall dd) 9 (some .boolean) zc_Mod_takesTest Q 0 [.ref 113, .retAddr 0, .retAddr 0] [] m) : zCall (dd + 1) m_Mod_takesTest [.ref 113] m Q := ⟨Nat.le_of_ble_eq_true rfl, h⟩
theorem zs_Mod_takesE : zsrt zc_Mod_takesE = true := by decide +kernel
set_option maxRecDepth 100000 in
theorem sg_Mod_takesE_0 {C : zC} {Q : zQ} (hC : zCm C) (a : Int32) (m : zM) (h :
    vp_in a 60 ∧ (zRun C 9 (some .boolean) zc_Mod_takesE Q 22 [.ref 113, .int a, .int (1 : Int32), .retAddr 0] [] (sI (sI (sI m 113 21 (0 : Int32)) 113 22 (0 : Int32)) 122 a.toNatClampNeg (gI (sI (sI m 113 21 (0 : Int32)) 113 22 (0 : Int32)) 113 20)))) :
    zRun C 9 (some .boolean) zc_Mod_takesE Q 0 [.ref 113, .int a, .retAddr 0, .retAddr 0] [] m := zgo [22] hC zs_Mod_takesE (i := .aload_n 0) (r := zfind zc_Mod_takesE 1) rfl h
set_option maxRecDepth 100000 in
theorem sg_Mod_takesE_22 {C : zC} {Q : zQ} (hC : zCm C) (v1 : Int32) (v2 : Int32) (m : zM) (h :
    C m_Mod_next [.ref 113] m (fun o1 m2 => ∃ x3, o1 = some (.int x3) ∧ (if v2 = (0 : Int32) then if x3 = (38 : Int32) then C m_Mod_settle [.ref 113, .int x3] m2 (fun o4 m5 => o4 = none ∧ (vp_in (gI m5 113 21) 101 ∧ (zRun C 9 (some .boolean) zc_Mod_takesE Q 22 [.ref 113, .int v1, .int (1 : Int32), .int x3] [] (sI (sI (sI m5 125 (gI m5 113 21).toNatClampNeg x3) 113 21 ((gI (sI m5 125 (gI m5 113 21).toNatClampNeg x3) 113 21) + (1 : Int32))) 113 10 ((gI (sI (sI m5 125 (gI m5 113 21).toNatClampNeg x3) 113 21 ((gI (sI m5 125 (gI m5 113 21).toNatClampNeg x3) 113 21) + (1 : Int32))) 113 10) + (1 : Int32))))))
      else if ¬ x3 = (124 : Int32) then C m_Mod_settle [.ref 113, .int (124 : Int32)] m2 (fun o6 m7 => o6 = none ∧ (vp_in v1 60 ∧ (if ¬ (gI (sI m7 123 v1.toNatClampNeg (gI m7 113 20)) 113 21) = (0 : Int32) then if x3 = (41 : Int32) then C m_Mod_whole [.ref 113] (sI (sI (sI (sI m7 123 v1.toNatClampNeg (gI m7 113 20)) 113 21 ((gI (sI m7 123 v1.toNatClampNeg (gI m7 113 20)) 113 21) - (1 : Int32))) 113 22 ((gI (sI (sI m7 123 v1.toNatClampNeg (gI m7 113 20)) 113 21 ((gI (sI m7 123 v1.toNatClampNeg (gI m7 113 20)) 113 21) - (1 : Int32))) 113 22) - (1 : Int32))) 113 10 ((gI (sI (sI (sI m7 123 v1.toNatClampNeg (gI m7 113 20)) 113 21 ((gI (sI m7 123 v1.toNatClampNeg (gI m7 113 20)) 113 21) - (1 : Int32))) 113 22 ((gI (sI (sI m7 123 v1.toNatClampNeg (gI m7 113 20)) 113 21 ((gI (sI m7 123 v1.toNatClampNeg (gI m7 113 20)) 113 21) - (1 : Int32))) 113 22) - (1 : Int32))) 113 10) + (1 : Int32))) (fun o8 m9 => o8 = none ∧ (zRun C 9 (some .boolean) zc_Mod_takesE Q 22 [.ref 113, .int v1, .int v2, .int x3] [] m9))
            else (0 : Int32) &&& 1 = (0 : Int32) ∧ Q (some (.int (0 : Int32))) (sI m7 123 v1.toNatClampNeg (gI m7 113 20))
          else (1 : Int32) &&& 1 = (1 : Int32) ∧ Q (some (.int (1 : Int32))) (sI m7 123 v1.toNatClampNeg (gI m7 113 20)))))
        else C m_Mod_settle [.ref 113, .int x3] m2 (fun o10 m11 => o10 = none ∧ (vp_in (gI m11 113 21) 101 ∧ (zRun C 9 (some .boolean) zc_Mod_takesE Q 22 [.ref 113, .int v1, .int (1 : Int32), .int x3] [] (sI (sI (sI m11 125 (gI m11 113 21).toNatClampNeg x3) 113 21 ((gI (sI m11 125 (gI m11 113 21).toNatClampNeg x3) 113 21) + (1 : Int32))) 113 10 ((gI (sI (sI m11 125 (gI m11 113 21).toNatClampNeg x3) 113 21 ((gI (sI m11 125 (gI m11 113 21).toNatClampNeg x3) 113 21) + (1 : Int32))) 113 10) + (1 : Int32))))))
    else if x3 = (33 : Int32) then if ¬ (gI m2 113 22) = (4 : Int32) then vp_in (gI (sI m2 113 22 ((gI m2 113 22) + (1 : Int32))) 113 21) 101 ∧ (zRun C 9 (some .boolean) zc_Mod_takesE Q 22 [.ref 113, .int v1, .int v2, .int x3] [] (sI (sI (sI (sI m2 113 22 ((gI m2 113 22) + (1 : Int32))) 125 (gI (sI m2 113 22 ((gI m2 113 22) + (1 : Int32))) 113 21).toNatClampNeg x3) 113 21 ((gI (sI (sI m2 113 22 ((gI m2 113 22) + (1 : Int32))) 125 (gI (sI m2 113 22 ((gI m2 113 22) + (1 : Int32))) 113 21).toNatClampNeg x3) 113 21) + (1 : Int32))) 113 10 ((gI (sI (sI (sI m2 113 22 ((gI m2 113 22) + (1 : Int32))) 125 (gI (sI m2 113 22 ((gI m2 113 22) + (1 : Int32))) 113 21).toNatClampNeg x3) 113 21 ((gI (sI (sI m2 113 22 ((gI m2 113 22) + (1 : Int32))) 125 (gI (sI m2 113 22 ((gI m2 113 22) + (1 : Int32))) 113 21).toNatClampNeg x3) 113 21) + (1 : Int32))) 113 10) + (1 : Int32))))
        else (0 : Int32) &&& 1 = (0 : Int32) ∧ Q (some (.int (0 : Int32))) m2
      else if ¬ x3 = (40 : Int32) then C m_Mod_takesTest [.ref 113] m2 (fun o12 m13 => ∃ x14, o12 = some (.int x14) ∧ (if x14 = (0 : Int32) then (0 : Int32) &&& 1 = (0 : Int32) ∧ Q (some (.int (0 : Int32))) m13
          else zRun C 9 (some .boolean) zc_Mod_takesE Q 22 [.ref 113, .int v1, .int (0 : Int32), .int x3] [] m13))
        else if ¬ (gI m2 113 22) = (4 : Int32) then vp_in (gI (sI m2 113 22 ((gI m2 113 22) + (1 : Int32))) 113 21) 101 ∧ (zRun C 9 (some .boolean) zc_Mod_takesE Q 22 [.ref 113, .int v1, .int v2, .int x3] [] (sI (sI (sI (sI m2 113 22 ((gI m2 113 22) + (1 : Int32))) 125 (gI (sI m2 113 22 ((gI m2 113 22) + (1 : Int32))) 113 21).toNatClampNeg x3) 113 21 ((gI (sI (sI m2 113 22 ((gI m2 113 22) + (1 : Int32))) 125 (gI (sI m2 113 22 ((gI m2 113 22) + (1 : Int32))) 113 21).toNatClampNeg x3) 113 21) + (1 : Int32))) 113 10 ((gI (sI (sI (sI m2 113 22 ((gI m2 113 22) + (1 : Int32))) 125 (gI (sI m2 113 22 ((gI m2 113 22) + (1 : Int32))) 113 21).toNatClampNeg x3) 113 21 ((gI (sI (sI m2 113 22 ((gI m2 113 22) + (1 : Int32))) 125 (gI (sI m2 113 22 ((gI m2 113 22) + (1 : Int32))) 113 21).toNatClampNeg x3) 113 21) + (1 : Int32))) 113 10) + (1 : Int32))))
          else (0 : Int32) &&& 1 = (0 : Int32) ∧ Q (some (.int (0 : Int32))) m2))) :
    zRun C 9 (some .boolean) zc_Mod_takesE Q 22 [.ref 113, .int v1, .int v2, .retAddr 0] [] m := zgo [22] hC zs_Mod_takesE (i := .aload_n 0) (r := zfind zc_Mod_takesE 23) rfl h
theorem en_Mod_takesE (dd : Nat) {Q : zQ} (a : Int32) (m : zM) (h : zRun (zCall dd) 9 (some .boolean) zc_Mod_takesE Q 0 [.ref 113, .int a, .retAddr 0, .retAddr 0] [] m) : zCall (dd + 1) m_Mod_takesE [.ref 113, .int a] m Q := ⟨Nat.le_of_ble_eq_true rfl, h⟩
theorem zs_Mod_takesHead : zsrt zc_Mod_takesHead = true := by decide +kernel
set_option maxRecDepth 100000 in
theorem sg_Mod_takesHead_0 {C : zC} {Q : zQ} (hC : zCm C) (a : Int32) (m : zM) (h :
    C m_Mod_next [.ref 113] m (fun o1 m2 => ∃ x3, o1 = some (.int x3) ∧ (if x3 = (102 : Int32) then vp_in a 60 ∧ (C m_Mod_takesWord [.ref 113, .int (9 : Int32), .int (5 : Int32)] (sI m2 120 a.toNatClampNeg (2 : Int32)) (fun o13 m14 => ∃ x15, o13 = some (.int x15) ∧ (x15 &&& 1 = x15 ∧ Q (some (.int x15)) m14)))
    else if x3 = (113 : Int32) then vp_in a 60 ∧ (C m_Mod_takesWord [.ref 113, .int (4 : Int32), .int (5 : Int32)] (sI m2 120 a.toNatClampNeg (1 : Int32)) (fun o10 m11 => ∃ x12, o10 = some (.int x12) ∧ (x12 &&& 1 = x12 ∧ Q (some (.int x12)) m11)))
    else if x3 = (115 : Int32) then vp_in a 60 ∧ (C m_Mod_takesWord [.ref 113, .int (0 : Int32), .int (4 : Int32)] (sI m2 120 a.toNatClampNeg (0 : Int32)) (fun o7 m8 => ∃ x9, o7 = some (.int x9) ∧ (x9 &&& 1 = x9 ∧ Q (some (.int x9)) m8)))
    else vp_in a 60 ∧ (C m_Mod_takesWord [.ref 113, .int (14 : Int32), .int (4 : Int32)] (sI m2 120 a.toNatClampNeg (3 : Int32)) (fun o4 m5 => ∃ x6, o4 = some (.int x6) ∧ (x6 &&& 1 = x6 ∧ Q (some (.int x6)) m5)))))) :
    zRun C 9 (some .boolean) zc_Mod_takesHead Q 0 [.ref 113, .int a] [] m := zgo [] hC zs_Mod_takesHead (i := .aload_n 0) (r := zfind zc_Mod_takesHead 1) rfl h
theorem en_Mod_takesHead (dd : Nat) {Q : zQ} (a : Int32) (m : zM) (h : zRun (zCall dd) 9 (some .boolean) zc_Mod_takesHead Q 0 [.ref 113, .int a] [] m) : zCall (dd + 1) m_Mod_takesHead [.ref 113, .int a] m Q := ⟨Nat.le_of_ble_eq_true rfl, h⟩
theorem zs_Mod_takesClause : zsrt zc_Mod_takesClause = true := by decide +kernel
set_option maxRecDepth 100000 in
theorem sg_Mod_takesClause_0 {C : zC} {Q : zQ} (hC : zCm C) (a : Int32) (m : zM) (h :
    C m_Mod_takesHead [.ref 113, .int a] m (fun o1 m2 => ∃ x3, o1 = some (.int x3) ∧ (if x3 = (0 : Int32) then (0 : Int32) &&& 1 = (0 : Int32) ∧ Q (some (.int (0 : Int32))) m2
    else C m_Mod_takesNumber [.ref 113] m2 (fun o4 m5 => ∃ x6, o4 = some (.int x6) ∧ (if ¬ x6 = (0 : Int32) then vp_in a 60 ∧ (vp_in a 60 ∧ (if (2 : Int32) ≤ (gI (sI m5 121 a.toNatClampNeg (gI m5 113 11)) 120 a.toNatClampNeg) then (1 : Int32) &&& 1 = (1 : Int32) ∧ Q (some (.int (1 : Int32))) (sI m5 121 a.toNatClampNeg (gI m5 113 11))
        else C m_Mod_takes [.ref 113, .int (32 : Int32)] (sI m5 121 a.toNatClampNeg (gI m5 113 11)) (fun o7 m8 => ∃ x9, o7 = some (.int x9) ∧ (if x9 = (0 : Int32) then (0 : Int32) &&& 1 = (0 : Int32) ∧ Q (some (.int (0 : Int32))) m8
          else C m_Mod_takesE [.ref 113, .int a] m8 (fun o10 m11 => ∃ x12, o10 = some (.int x12) ∧ (if x12 = (0 : Int32) then (0 : Int32) &&& 1 = (0 : Int32) ∧ Q (some (.int (0 : Int32))) m11
            else (1 : Int32) &&& 1 = (1 : Int32) ∧ Q (some (.int (1 : Int32))) m11))))))
      else (0 : Int32) &&& 1 = (0 : Int32) ∧ Q (some (.int (0 : Int32))) m5))))) :
    zRun C 9 (some .boolean) zc_Mod_takesClause Q 0 [.ref 113, .int a] [] m := zgo [] hC zs_Mod_takesClause (i := .aload_n 0) (r := zfind zc_Mod_takesClause 1) rfl h
theorem en_Mod_takesClause (dd : Nat) {Q : zQ} (a : Int32) (m : zM) (h : zRun (zCall dd) 9 (some .boolean) zc_Mod_takesClause Q 0 [.ref 113, .int a] [] m) : zCall (dd + 1) m_Mod_takesClause [.ref 113, .int a] m Q := ⟨Nat.le_of_ble_eq_true rfl, h⟩
theorem zs_Mod_goesText : zsrt zc_Mod_goesText = true := by decide +kernel
set_option maxRecDepth 100000 in
theorem sg_Mod_goesText_0 {C : zC} {Q : zQ} (hC : zCm C) (a : Int32) (m : zM) (h :
    zRun C 9 (some .boolean) zc_Mod_goesText Q 15 [.ref 113, .int a, .int (0 : Int32)] [] (sI (sI m 113 10 (0 : Int32)) 113 20 ((100 : Int32) * a))) :
    zRun C 9 (some .boolean) zc_Mod_goesText Q 0 [.ref 113, .int a, .retAddr 0] [] m := zgo [15] hC zs_Mod_goesText (i := .aload_n 0) (r := zfind zc_Mod_goesText 1) rfl h
set_option maxRecDepth 100000 in
theorem sg_Mod_goesText_15 {C : zC} {Q : zQ} (hC : zCm C) (v1 : Int32) (v2 : Int32) (m : zM) (h :
    C m_Mod_takesClause [.ref 113, .int (((10 : Int32) * v1) + v2)] m (fun o1 m2 => ∃ x3, o1 = some (.int x3) ∧ (if ¬ x3 = (0 : Int32) then vp_in v1 6 ∧ (if ¬ (gI (sI m2 119 v1.toNatClampNeg (v2 + (1 : Int32))) 113 10) = (gI (sI m2 119 v1.toNatClampNeg (v2 + (1 : Int32))) 113 9) then if (v2 + (1 : Int32)) = (10 : Int32) then (0 : Int32) &&& 1 = (0 : Int32) ∧ Q (some (.int (0 : Int32))) (sI m2 119 v1.toNatClampNeg (v2 + (1 : Int32)))
        else C m_Mod_takes [.ref 113, .int (59 : Int32)] (sI m2 119 v1.toNatClampNeg (v2 + (1 : Int32))) (fun o4 m5 => ∃ x6, o4 = some (.int x6) ∧ (if ¬ x6 = (0 : Int32) then zRun C 9 (some .boolean) zc_Mod_goesText Q 15 [.ref 113, .int v1, .int (v2 + (1 : Int32))] [] m5
          else (0 : Int32) &&& 1 = (0 : Int32) ∧ Q (some (.int (0 : Int32))) m5))
      else (1 : Int32) &&& 1 = (1 : Int32) ∧ Q (some (.int (1 : Int32))) (sI m2 119 v1.toNatClampNeg (v2 + (1 : Int32))))
    else (0 : Int32) &&& 1 = (0 : Int32) ∧ Q (some (.int (0 : Int32))) m2))) :
    zRun C 9 (some .boolean) zc_Mod_goesText Q 15 [.ref 113, .int v1, .int v2] [] m := zgo [15] hC zs_Mod_goesText (i := .aload_n 0) (r := zfind zc_Mod_goesText 16) rfl h
theorem en_Mod_goesText (dd : Nat) {Q : zQ} (a : Int32) (m : zM) (h : zRun (zCall dd) 9 (some .boolean) zc_Mod_goesText Q 0 [.ref 113, .int a, .retAddr 0] [] m) : zCall (dd + 1) m_Mod_goesText [.ref 113, .int a] m Q := ⟨Nat.le_of_ble_eq_true rfl, h⟩
theorem zs_Mod_garden : zsrt zc_Mod_garden = true := by decide +kernel
set_option maxRecDepth 100000 in
theorem sg_Mod_garden_0 {C : zC} {Q : zQ} (hC : zCm C) (m : zM) (h :
    if ¬ (gI m 113 7) = (6 : Int32) then C m_Mod_goesText [.ref 113, .int (gI m 113 7)] m (fun o1 m2 => ∃ x3, o1 = some (.int x3) ∧ (if ¬ x3 = (0 : Int32) then Q (some (.int (gI (sI (sI (sI m2 113 9 (0 : Int32)) 113 8 (gI (sI m2 113 9 (0 : Int32)) 113 7)) 113 7 ((gI (sI (sI m2 113 9 (0 : Int32)) 113 8 (gI (sI m2 113 9 (0 : Int32)) 113 7)) 113 7) + (1 : Int32))) 113 8))) (sI (sI (sI m2 113 9 (0 : Int32)) 113 8 (gI (sI m2 113 9 (0 : Int32)) 113 7)) 113 7 ((gI (sI (sI m2 113 9 (0 : Int32)) 113 8 (gI (sI m2 113 9 (0 : Int32)) 113 7)) 113 7) + (1 : Int32)))
      else Q (some (.int ((-10 : Int32) - (gI (sI m2 113 9 (0 : Int32)) 113 10)))) (sI m2 113 9 (0 : Int32))))
    else Q (some (.int (-4 : Int32))) m) :
    zRun C 9 (some .int) zc_Mod_garden Q 0 [.ref 113, .retAddr 0] [] m := zgo [] hC zs_Mod_garden (i := .aload_n 0) (r := zfind zc_Mod_garden 1) rfl h
theorem en_Mod_garden (dd : Nat) {Q : zQ} (m : zM) (h : zRun (zCall dd) 9 (some .int) zc_Mod_garden Q 0 [.ref 113, .retAddr 0] [] m) : zCall (dd + 1) m_Mod_garden [.ref 113] m Q := ⟨Nat.le_of_ble_eq_true rfl, h⟩
theorem zs_Mod_begin : zsrt zc_Mod_begin = true := by decide +kernel
set_option maxRecDepth 100000 in
theorem sg_Mod_begin_0 {C : zC} {Q : zQ} (hC : zCm C) (m : zM) (h :
    if (0 : Int32) ≤ (gI m 113 8) then Q (some (.int ((10 : Int32) * (gI m 113 8)))) m
    else Q (some (.int (0 : Int32))) m) :
    zRun C 9 (some .int) zc_Mod_begin Q 0 [.ref 113] [] m := zgo [] hC zs_Mod_begin (i := .aload_n 0) (r := zfind zc_Mod_begin 1) rfl h
theorem en_Mod_begin (dd : Nat) {Q : zQ} (m : zM) (h : zRun (zCall dd) 9 (some .int) zc_Mod_begin Q 0 [.ref 113] [] m) : zCall (dd + 1) m_Mod_begin [.ref 113] m Q := ⟨Nat.le_of_ble_eq_true rfl, h⟩
theorem zs_Mod_behind : zsrt zc_Mod_behind = true := by decide +kernel
set_option maxRecDepth 100000 in
theorem sg_Mod_behind_0 {C : zC} {Q : zQ} (hC : zCm C) (m : zM) (h :
    if (0 : Int32) ≤ (gI m 113 8) then vp_in (gI m 113 8) 6 ∧ (Q (some (.int (((10 : Int32) * (gI m 113 8)) + (gI m 119 (gI m 113 8).toNatClampNeg)))) m)
    else Q (some (.int (0 : Int32))) m) :
    zRun C 9 (some .int) zc_Mod_behind Q 0 [.ref 113] [] m := zgo [] hC zs_Mod_behind (i := .aload_n 0) (r := zfind zc_Mod_behind 1) rfl h
theorem en_Mod_behind (dd : Nat) {Q : zQ} (m : zM) (h : zRun (zCall dd) 9 (some .int) zc_Mod_behind Q 0 [.ref 113] [] m) : zCall (dd + 1) m_Mod_behind [.ref 113] m Q := ⟨Nat.le_of_ble_eq_true rfl, h⟩
theorem zs_Mod_lastOf : zsrt zc_Mod_lastOf = true := by decide +kernel
set_option maxRecDepth 100000 in
theorem sg_Mod_lastOf_0 {C : zC} {Q : zQ} (hC : zCm C) (a : Int32) (b : Int32) (m : zM) (h :
    C m_Mod_begin [.ref 113] m (fun o1 m2 => ∃ x3, o1 = some (.int x3) ∧ (zRun C 9 (some .int) zc_Mod_lastOf Q 8 [.ref 113, .int a, .int b, .int b, .int x3] [] m2))) :
    zRun C 9 (some .int) zc_Mod_lastOf Q 0 [.ref 113, .int a, .int b, .retAddr 0, .retAddr 0] [] m := zgo [8] hC zs_Mod_lastOf (i := .iload_n 2) (r := zfind zc_Mod_lastOf 1) rfl h
set_option maxRecDepth 100000 in
theorem sg_Mod_lastOf_8 {C : zC} {Q : zQ} (hC : zCm C) (v1 : Int32) (v2 : Int32) (v3 : Int32) (v4 : Int32) (m : zM) (h :
    C m_Mod_behind [.ref 113] m (fun o1 m2 => ∃ x3, o1 = some (.int x3) ∧ (if x3 ≤ v4 then Q (some (.int v3)) m2
    else vp_in v4 60 ∧ (if ¬ (gI m2 120 v4.toNatClampNeg) = v1 then zRun C 9 (some .int) zc_Mod_lastOf Q 8 [.ref 113, .int v1, .int v2, .int v3, .int (v4 + (1 : Int32))] [] m2
      else vp_in v4 60 ∧ (zRun C 9 (some .int) zc_Mod_lastOf Q 8 [.ref 113, .int v1, .int v2, .int (gI m2 121 v4.toNatClampNeg), .int (v4 + (1 : Int32))] [] m2))))) :
    zRun C 9 (some .int) zc_Mod_lastOf Q 8 [.ref 113, .int v1, .int v2, .int v3, .int v4] [] m := zgo [8] hC zs_Mod_lastOf (i := .iload 4) (r := zfind zc_Mod_lastOf 10) rfl h
theorem en_Mod_lastOf (dd : Nat) {Q : zQ} (a : Int32) (b : Int32) (m : zM) (h : zRun (zCall dd) 9 (some .int) zc_Mod_lastOf Q 0 [.ref 113, .int a, .int b, .retAddr 0, .retAddr 0] [] m) : zCall (dd + 1) m_Mod_lastOf [.ref 113, .int a, .int b] m Q := ⟨Nat.le_of_ble_eq_true rfl, h⟩
theorem zs_Mod_frost : zsrt zc_Mod_frost = true := by decide +kernel
set_option maxRecDepth 100000 in
theorem sg_Mod_frost_0 {C : zC} {Q : zQ} (hC : zCm C) (m : zM) (h :
    C m_Mod_lastOf [.ref 113, .int (2 : Int32), .int (20 : Int32)] m (fun o1 m2 => ∃ x3, o1 = some (.int x3) ∧ (Q (some (.int x3)) m2))) :
    zRun C 9 (some .int) zc_Mod_frost Q 0 [.ref 113] [] m := zgo [] hC zs_Mod_frost (i := .aload_n 0) (r := zfind zc_Mod_frost 1) rfl h
theorem en_Mod_frost (dd : Nat) {Q : zQ} (m : zM) (h : zRun (zCall dd) 9 (some .int) zc_Mod_frost Q 0 [.ref 113] [] m) : zCall (dd + 1) m_Mod_frost [.ref 113] m Q := ⟨Nat.le_of_ble_eq_true rfl, h⟩
theorem zs_Mod_lose : zsrt zc_Mod_lose = true := by decide +kernel
set_option maxRecDepth 100000 in
theorem sg_Mod_lose_0 {C : zC} {Q : zQ} (hC : zCm C) (m : zM) (h :
    C m_Mod_lastOf [.ref 113, .int (3 : Int32), .int (2 : Int32)] m (fun o1 m2 => ∃ x3, o1 = some (.int x3) ∧ (if (1 : Int32) ≤ x3 then Q (some (.int x3)) m2
    else Q (some (.int (1 : Int32))) m2))) :
    zRun C 9 (some .int) zc_Mod_lose Q 0 [.ref 113, .retAddr 0] [] m := zgo [] hC zs_Mod_lose (i := .aload_n 0) (r := zfind zc_Mod_lose 1) rfl h
theorem en_Mod_lose (dd : Nat) {Q : zQ} (m : zM) (h : zRun (zCall dd) 9 (some .int) zc_Mod_lose Q 0 [.ref 113, .retAddr 0] [] m) : zCall (dd + 1) m_Mod_lose [.ref 113] m Q := ⟨Nat.le_of_ble_eq_true rfl, h⟩
theorem zs_Mod_factOf : zsrt zc_Mod_factOf = true := by decide +kernel
set_option maxRecDepth 100000 in
theorem sg_Mod_factOf_0 {C : zC} {Q : zQ} (hC : zCm C) (a : Int32) (b : Int32) (m : zM) (h :
    if a = (0 : Int32) then Q (some (.int b)) m
    else if a = (1 : Int32) then vp_in b 8 ∧ (Q (some (.int (gI m 114 b.toNatClampNeg))) m)
    else if a = (2 : Int32) then vp_in b 8 ∧ (Q (some (.int (gI m 115 b.toNatClampNeg))) m)
    else if a = (3 : Int32) then vp_in b 8 ∧ (C m_Mod_ones [.ref 113, .int (gI m 116 b.toNatClampNeg)] m (fun o1 m2 => ∃ x3, o1 = some (.int x3) ∧ (Q (some (.int x3)) m2)))
    else if a = (4 : Int32) then ¬ (24 : Int32) = 0 ∧ (Q (some (.int ((gI m 113 1) - (gI m 113 1) / (24 : Int32) * (24 : Int32)))) m)
    else ¬ (24 : Int32) = 0 ∧ (if ((gI m 113 1) / (24 : Int32)) ≤ (99 : Int32) then ¬ (24 : Int32) = 0 ∧ (Q (some (.int ((gI m 113 1) / (24 : Int32)))) m)
      else Q (some (.int (99 : Int32))) m)) :
    zRun C 9 (some .int) zc_Mod_factOf Q 0 [.ref 113, .int a, .int b] [] m := zgo [] hC zs_Mod_factOf (i := .iload_n 1) (r := zfind zc_Mod_factOf 1) rfl h
theorem en_Mod_factOf (dd : Nat) {Q : zQ} (a : Int32) (b : Int32) (m : zM) (h : zRun (zCall dd) 9 (some .int) zc_Mod_factOf Q 0 [.ref 113, .int a, .int b] [] m) : zCall (dd + 1) m_Mod_factOf [.ref 113, .int a, .int b] m Q := ⟨Nat.le_of_ble_eq_true rfl, h⟩
theorem zs_Mod_holds : zsrt zc_Mod_holds = true := by decide +kernel
set_option maxRecDepth 100000 in
theorem sg_Mod_holds_0 {C : zC} {Q : zQ} (hC : zCm C) (a : Int32) (b : Int32) (m : zM) (h :
    vp_in a 60 ∧ (zRun C 9 (some .boolean) zc_Mod_holds Q 10 [.ref 113, .int a, .int b, .int (0 : Int32), .int (gI m 122 a.toNatClampNeg), .retAddr 0, .retAddr 0, .retAddr 0] [] m)) :
    zRun C 9 (some .boolean) zc_Mod_holds Q 0 [.ref 113, .int a, .int b, .retAddr 0, .retAddr 0, .retAddr 0, .retAddr 0, .retAddr 0] [] m := zgo [10, 60, 110, 134, 139, 233, 237] hC zs_Mod_holds (i := .iconst 0) (r := zfind zc_Mod_holds 1) rfl h
set_option maxRecDepth 100000 in
theorem sg_Mod_holds_10 {C : zC} {Q : zQ} (hC : zCm C) (v1 : Int32) (v2 : Int32) (v3 : Int32) (v4 : Int32) (m : zM) (h :
    vp_in v1 60 ∧ (if (gI m 123 v1.toNatClampNeg) ≤ v4 then vp_in (0 : Int32) 100 ∧ ((gI m 127 (0 : Int32).toNatClampNeg) &&& 1 = (gI m 127 (0 : Int32).toNatClampNeg) ∧ Q (some (.int (gI m 127 (0 : Int32).toNatClampNeg))) m)
    else vp_in v4 600 ∧ (if ¬ (gI m 124 v4.toNatClampNeg) = (-33 : Int32) then if (0 : Int32) ≤ (gI m 124 v4.toNatClampNeg) then ¬ (1000 : Int32) = 0 ∧ (C m_Mod_factOf [.ref 113, .int ((gI m 124 v4.toNatClampNeg) / (1000 : Int32)), .int v2] m (fun o1 m2 => ∃ x3, o1 = some (.int x3) ∧ (¬ (100 : Int32) = 0 ∧ (¬ (10 : Int32) = 0 ∧ (if ¬ (((gI m 124 v4.toNatClampNeg) / (100 : Int32)) - ((gI m 124 v4.toNatClampNeg) / (100 : Int32)) / (10 : Int32) * (10 : Int32)) = (0 : Int32) then if ¬ (((gI m 124 v4.toNatClampNeg) / (100 : Int32)) - ((gI m 124 v4.toNatClampNeg) / (100 : Int32)) / (10 : Int32) * (10 : Int32)) = (1 : Int32) then ¬ (100 : Int32) = 0 ∧ (if x3 ≤ ((gI m 124 v4.toNatClampNeg) - (gI m 124 v4.toNatClampNeg) / (100 : Int32) * (100 : Int32)) then zRun C 9 (some .boolean) zc_Mod_holds Q 233 [.ref 113, .int v1, .int v2, .int v3, .int v4, .int (gI m 124 v4.toNatClampNeg), .int x3, .int (((gI m 124 v4.toNatClampNeg) / (100 : Int32)) - ((gI m 124 v4.toNatClampNeg) / (100 : Int32)) / (10 : Int32) * (10 : Int32))] [.int (0 : Int32), .int v3, .ref 127] m2
              else zRun C 9 (some .boolean) zc_Mod_holds Q 233 [.ref 113, .int v1, .int v2, .int v3, .int v4, .int (gI m 124 v4.toNatClampNeg), .int x3, .int (((gI m 124 v4.toNatClampNeg) / (100 : Int32)) - ((gI m 124 v4.toNatClampNeg) / (100 : Int32)) / (10 : Int32) * (10 : Int32))] [.int (1 : Int32), .int v3, .ref 127] m2)
            else ¬ (100 : Int32) = 0 ∧ (if ¬ x3 = ((gI m 124 v4.toNatClampNeg) - (gI m 124 v4.toNatClampNeg) / (100 : Int32) * (100 : Int32)) then zRun C 9 (some .boolean) zc_Mod_holds Q 233 [.ref 113, .int v1, .int v2, .int v3, .int v4, .int (gI m 124 v4.toNatClampNeg), .int x3, .int (((gI m 124 v4.toNatClampNeg) / (100 : Int32)) - ((gI m 124 v4.toNatClampNeg) / (100 : Int32)) / (10 : Int32) * (10 : Int32))] [.int (0 : Int32), .int v3, .ref 127] m2
              else zRun C 9 (some .boolean) zc_Mod_holds Q 233 [.ref 113, .int v1, .int v2, .int v3, .int v4, .int (gI m 124 v4.toNatClampNeg), .int x3, .int (((gI m 124 v4.toNatClampNeg) / (100 : Int32)) - ((gI m 124 v4.toNatClampNeg) / (100 : Int32)) / (10 : Int32) * (10 : Int32))] [.int (1 : Int32), .int v3, .ref 127] m2)
          else ¬ (100 : Int32) = 0 ∧ (if ((gI m 124 v4.toNatClampNeg) - (gI m 124 v4.toNatClampNeg) / (100 : Int32) * (100 : Int32)) ≤ x3 then zRun C 9 (some .boolean) zc_Mod_holds Q 233 [.ref 113, .int v1, .int v2, .int v3, .int v4, .int (gI m 124 v4.toNatClampNeg), .int x3, .int (((gI m 124 v4.toNatClampNeg) / (100 : Int32)) - ((gI m 124 v4.toNatClampNeg) / (100 : Int32)) / (10 : Int32) * (10 : Int32))] [.int (0 : Int32), .int v3, .ref 127] m2
            else zRun C 9 (some .boolean) zc_Mod_holds Q 233 [.ref 113, .int v1, .int v2, .int v3, .int v4, .int (gI m 124 v4.toNatClampNeg), .int x3, .int (((gI m 124 v4.toNatClampNeg) / (100 : Int32)) - ((gI m 124 v4.toNatClampNeg) / (100 : Int32)) / (10 : Int32) * (10 : Int32))] [.int (1 : Int32), .int v3, .ref 127] m2))))))
        else if ¬ (gI m 124 v4.toNatClampNeg) = (-38 : Int32) then vp_in ((v3 + (-1 : Int32)) - (1 : Int32)) 100 ∧ (if ¬ (gI m 127 ((v3 + (-1 : Int32)) - (1 : Int32)).toNatClampNeg) = (0 : Int32) then zRun C 9 (some .boolean) zc_Mod_holds Q 134 [.ref 113, .int v1, .int v2, .int (v3 + (-1 : Int32)), .int v4, .int (gI m 124 v4.toNatClampNeg), .retAddr 0, .retAddr 0] [.int ((v3 + (-1 : Int32)) - (1 : Int32)), .ref 127] m
            else vp_in (v3 + (-1 : Int32)) 100 ∧ (if (gI m 127 (v3 + (-1 : Int32)).toNatClampNeg) = (0 : Int32) then zRun C 9 (some .boolean) zc_Mod_holds Q 139 [.ref 113, .int v1, .int v2, .int (v3 + (-1 : Int32)), .int v4, .int (gI m 124 v4.toNatClampNeg), .retAddr 0, .retAddr 0] [.int (0 : Int32), .int ((v3 + (-1 : Int32)) - (1 : Int32)), .ref 127] m
              else zRun C 9 (some .boolean) zc_Mod_holds Q 134 [.ref 113, .int v1, .int v2, .int (v3 + (-1 : Int32)), .int v4, .int (gI m 124 v4.toNatClampNeg), .retAddr 0, .retAddr 0] [.int ((v3 + (-1 : Int32)) - (1 : Int32)), .ref 127] m))
          else vp_in ((v3 + (-1 : Int32)) - (1 : Int32)) 100 ∧ (if (gI m 127 ((v3 + (-1 : Int32)) - (1 : Int32)).toNatClampNeg) = (0 : Int32) then zRun C 9 (some .boolean) zc_Mod_holds Q 110 [.ref 113, .int v1, .int v2, .int (v3 + (-1 : Int32)), .int v4, .int (gI m 124 v4.toNatClampNeg), .retAddr 0, .retAddr 0] [.int ((v3 + (-1 : Int32)) - (1 : Int32)), .ref 127] m
            else vp_in (v3 + (-1 : Int32)) 100 ∧ (if (gI m 127 (v3 + (-1 : Int32)).toNatClampNeg) = (0 : Int32) then zRun C 9 (some .boolean) zc_Mod_holds Q 110 [.ref 113, .int v1, .int v2, .int (v3 + (-1 : Int32)), .int v4, .int (gI m 124 v4.toNatClampNeg), .retAddr 0, .retAddr 0] [.int ((v3 + (-1 : Int32)) - (1 : Int32)), .ref 127] m
              else zRun C 9 (some .boolean) zc_Mod_holds Q 139 [.ref 113, .int v1, .int v2, .int (v3 + (-1 : Int32)), .int v4, .int (gI m 124 v4.toNatClampNeg), .retAddr 0, .retAddr 0] [.int (1 : Int32), .int ((v3 + (-1 : Int32)) - (1 : Int32)), .ref 127] m))
      else vp_in (v3 - (1 : Int32)) 100 ∧ (if ¬ (gI m 127 (v3 - (1 : Int32)).toNatClampNeg) = (0 : Int32) then zRun C 9 (some .boolean) zc_Mod_holds Q 60 [.ref 113, .int v1, .int v2, .int v3, .int v4, .int (gI m 124 v4.toNatClampNeg), .retAddr 0, .retAddr 0] [.int (0 : Int32), .int (v3 - (1 : Int32)), .ref 127] m
        else zRun C 9 (some .boolean) zc_Mod_holds Q 60 [.ref 113, .int v1, .int v2, .int v3, .int v4, .int (gI m 124 v4.toNatClampNeg), .retAddr 0, .retAddr 0] [.int (1 : Int32), .int (v3 - (1 : Int32)), .ref 127] m)))) :
    zRun C 9 (some .boolean) zc_Mod_holds Q 10 [.ref 113, .int v1, .int v2, .int v3, .int v4, .retAddr 0, .retAddr 0, .retAddr 0] [] m := zgo [10, 60, 110, 134, 139, 233, 237] hC zs_Mod_holds (i := .iload 4) (r := zfind zc_Mod_holds 12) rfl h
set_option maxRecDepth 100000 in
theorem sg_Mod_holds_60 {C : zC} {Q : zQ} (hC : zCm C) (v1 : Int32) (v2 : Int32) (v3 : Int32) (v4 : Int32) (v5 : Int32) (t1 : Int32) (t2 : Int32) (m : zM) (h :
    vp_in t1 100 ∧ (zRun C 9 (some .boolean) zc_Mod_holds Q 237 [.ref 113, .int v1, .int v2, .int v3, .int v4, .int v5, .retAddr 0, .retAddr 0] [] (sI m 127 t1.toNatClampNeg (t2 &&& 1)))) :
    zRun C 9 (some .boolean) zc_Mod_holds Q 60 [.ref 113, .int v1, .int v2, .int v3, .int v4, .int v5, .retAddr 0, .retAddr 0] [.int t2, .int t1, .ref 127] m := zgo [10, 60, 110, 134, 139, 233, 237] hC zs_Mod_holds (i := .bastore) (r := zfind zc_Mod_holds 61) rfl h
set_option maxRecDepth 100000 in
theorem sg_Mod_holds_110 {C : zC} {Q : zQ} (hC : zCm C) (v1 : Int32) (v2 : Int32) (v3 : Int32) (v4 : Int32) (v5 : Int32) (t1 : Int32) (m : zM) (h :
    zRun C 9 (some .boolean) zc_Mod_holds Q 139 [.ref 113, .int v1, .int v2, .int v3, .int v4, .int v5, .retAddr 0, .retAddr 0] [.int (0 : Int32), .int t1, .ref 127] m) :
    zRun C 9 (some .boolean) zc_Mod_holds Q 110 [.ref 113, .int v1, .int v2, .int v3, .int v4, .int v5, .retAddr 0, .retAddr 0] [.int t1, .ref 127] m := zgo [10, 60, 110, 134, 139, 233, 237] hC zs_Mod_holds (i := .iconst 0) (r := zfind zc_Mod_holds 111) rfl h
set_option maxRecDepth 100000 in
theorem sg_Mod_holds_134 {C : zC} {Q : zQ} (hC : zCm C) (v1 : Int32) (v2 : Int32) (v3 : Int32) (v4 : Int32) (v5 : Int32) (t1 : Int32) (m : zM) (h :
    zRun C 9 (some .boolean) zc_Mod_holds Q 139 [.ref 113, .int v1, .int v2, .int v3, .int v4, .int v5, .retAddr 0, .retAddr 0] [.int (1 : Int32), .int t1, .ref 127] m) :
    zRun C 9 (some .boolean) zc_Mod_holds Q 134 [.ref 113, .int v1, .int v2, .int v3, .int v4, .int v5, .retAddr 0, .retAddr 0] [.int t1, .ref 127] m := zgo [10, 60, 110, 134, 139, 233, 237] hC zs_Mod_holds (i := .iconst 1) (r := zfind zc_Mod_holds 135) rfl h
set_option maxRecDepth 100000 in
theorem sg_Mod_holds_139 {C : zC} {Q : zQ} (hC : zCm C) (v1 : Int32) (v2 : Int32) (v3 : Int32) (v4 : Int32) (v5 : Int32) (t1 : Int32) (t2 : Int32) (m : zM) (h :
    vp_in t1 100 ∧ (zRun C 9 (some .boolean) zc_Mod_holds Q 237 [.ref 113, .int v1, .int v2, .int v3, .int v4, .int v5, .retAddr 0, .retAddr 0] [] (sI m 127 t1.toNatClampNeg (t2 &&& 1)))) :
    zRun C 9 (some .boolean) zc_Mod_holds Q 139 [.ref 113, .int v1, .int v2, .int v3, .int v4, .int v5, .retAddr 0, .retAddr 0] [.int t2, .int t1, .ref 127] m := zgo [10, 60, 110, 134, 139, 233, 237] hC zs_Mod_holds (i := .bastore) (r := zfind zc_Mod_holds 140) rfl h
set_option maxRecDepth 100000 in
theorem sg_Mod_holds_233 {C : zC} {Q : zQ} (hC : zCm C) (v1 : Int32) (v2 : Int32) (v3 : Int32) (v4 : Int32) (v5 : Int32) (v6 : Int32) (v7 : Int32) (t1 : Int32) (t2 : Int32) (m : zM) (h :
    vp_in t1 100 ∧ (zRun C 9 (some .boolean) zc_Mod_holds Q 237 [.ref 113, .int v1, .int v2, .int (v3 + (1 : Int32)), .int v4, .int v5, .int v6, .int v7] [] (sI m 127 t1.toNatClampNeg (t2 &&& 1)))) :
    zRun C 9 (some .boolean) zc_Mod_holds Q 233 [.ref 113, .int v1, .int v2, .int v3, .int v4, .int v5, .int v6, .int v7] [.int t2, .int t1, .ref 127] m := zgo [10, 60, 110, 134, 139, 233, 237] hC zs_Mod_holds (i := .bastore) (r := zfind zc_Mod_holds 234) rfl h
set_option maxRecDepth 100000 in
theorem sg_Mod_holds_237 {C : zC} {Q : zQ} (hC : zCm C) (v1 : Int32) (v2 : Int32) (v3 : Int32) (v4 : Int32) (v5 : Int32) (m : zM) (h :
    zRun C 9 (some .boolean) zc_Mod_holds Q 10 [.ref 113, .int v1, .int v2, .int v3, .int (v4 + (1 : Int32)), .int v5, .retAddr 0, .retAddr 0] [] m) :
    zRun C 9 (some .boolean) zc_Mod_holds Q 237 [.ref 113, .int v1, .int v2, .int v3, .int v4, .int v5, .retAddr 0, .retAddr 0] [] m := zgo [10, 60, 110, 134, 139, 233, 237] hC zs_Mod_holds (i := .iinc 4 1) (r := zfind zc_Mod_holds 240) rfl h
theorem en_Mod_holds (dd : Nat) {Q : zQ} (a : Int32) (b : Int32) (m : zM) (h : zRun (zCall dd) 9 (some .boolean) zc_Mod_holds Q 0 [.ref 113, .int a, .int b, .retAddr 0, .retAddr 0, .retAddr 0, .retAddr 0, .retAddr 0] [] m) : zCall (dd + 1) m_Mod_holds [.ref 113, .int a, .int b] m Q := ⟨Nat.le_of_ble_eq_true rfl, h⟩
theorem zs_Mod_atLeastOne : zsrt zc_Mod_atLeastOne = true := by decide +kernel
set_option maxRecDepth 100000 in
theorem sg_Mod_atLeastOne_0 {C : zC} {Q : zQ} (hC : zCm C) (a : Int32) (m : zM) (h :
    if (1 : Int32) ≤ a then Q (some (.int a)) m
    else Q (some (.int (1 : Int32))) m) :
    zRun C 9 (some .int) zc_Mod_atLeastOne Q 0 [.ref 113, .int a] [] m := zgo [] hC zs_Mod_atLeastOne (i := .iload_n 1) (r := zfind zc_Mod_atLeastOne 1) rfl h
theorem en_Mod_atLeastOne (dd : Nat) {Q : zQ} (a : Int32) (m : zM) (h : zRun (zCall dd) 9 (some .int) zc_Mod_atLeastOne Q 0 [.ref 113, .int a] [] m) : zCall (dd + 1) m_Mod_atLeastOne [.ref 113, .int a] m Q := ⟨Nat.le_of_ble_eq_true rfl, h⟩
theorem zs_Mod_pace : zsrt zc_Mod_pace = true := by decide +kernel
set_option maxRecDepth 100000 in
theorem sg_Mod_pace_0 {C : zC} {Q : zQ} (hC : zCm C) (a : Int32) (m : zM) (h :
    C m_Mod_begin [.ref 113] m (fun o1 m2 => ∃ x3, o1 = some (.int x3) ∧ (zRun C 9 (some .int) zc_Mod_pace Q 7 [.ref 113, .int a, .int (3 : Int32), .int x3] [] m2))) :
    zRun C 9 (some .int) zc_Mod_pace Q 0 [.ref 113, .int a, .retAddr 0, .retAddr 0] [] m := zgo [7] hC zs_Mod_pace (i := .iconst 3) (r := zfind zc_Mod_pace 1) rfl h
set_option maxRecDepth 100000 in
theorem sg_Mod_pace_7 {C : zC} {Q : zQ} (hC : zCm C) (v1 : Int32) (v2 : Int32) (v3 : Int32) (m : zM) (h :
    C m_Mod_behind [.ref 113] m (fun o1 m2 => ∃ x3, o1 = some (.int x3) ∧ (if x3 ≤ v3 then C m_Mod_atLeastOne [.ref 113, .int v2] m2 (fun o4 m5 => ∃ x6, o4 = some (.int x6) ∧ (Q (some (.int x6)) m5))
    else vp_in v3 60 ∧ (if (1 : Int32) < (gI m2 120 v3.toNatClampNeg) then zRun C 9 (some .int) zc_Mod_pace Q 7 [.ref 113, .int v1, .int v2, .int (v3 + (1 : Int32))] [] m2
      else C m_Mod_holds [.ref 113, .int v3, .int v1] m2 (fun o7 m8 => ∃ x9, o7 = some (.int x9) ∧ (if ¬ x9 = (0 : Int32) then vp_in v3 60 ∧ (if ¬ (gI m8 120 v3.toNatClampNeg) = (0 : Int32) then vp_in v3 60 ∧ (zRun C 9 (some .int) zc_Mod_pace Q 7 [.ref 113, .int v1, .int (v2 + (-(gI m8 121 v3.toNatClampNeg))), .int (v3 + (1 : Int32))] [] m8)
          else vp_in v3 60 ∧ (zRun C 9 (some .int) zc_Mod_pace Q 7 [.ref 113, .int v1, .int (v2 + (gI m8 121 v3.toNatClampNeg)), .int (v3 + (1 : Int32))] [] m8))
        else zRun C 9 (some .int) zc_Mod_pace Q 7 [.ref 113, .int v1, .int v2, .int (v3 + (1 : Int32))] [] m8)))))) :
    zRun C 9 (some .int) zc_Mod_pace Q 7 [.ref 113, .int v1, .int v2, .int v3] [] m := zgo [7] hC zs_Mod_pace (i := .iload_n 3) (r := zfind zc_Mod_pace 8) rfl h
theorem en_Mod_pace (dd : Nat) {Q : zQ} (a : Int32) (m : zM) (h : zRun (zCall dd) 9 (some .int) zc_Mod_pace Q 0 [.ref 113, .int a, .retAddr 0, .retAddr 0] [] m) : zCall (dd + 1) m_Mod_pace [.ref 113, .int a] m Q := ⟨Nat.le_of_ble_eq_true rfl, h⟩
theorem zs_Mod_takesLong : zsrt zc_Mod_takesLong = true := by decide +kernel
set_option maxRecDepth 100000 in
theorem sg_Mod_takesLong_0 {C : zC} {Q : zQ} (hC : zCm C) (a : Int32) (m : zM) (h :
    C m_Mod_pace [.ref 113, .int a] m (fun o1 m2 => ∃ x3, o1 = some (.int x3) ∧ (vp_in a 8 ∧ (if (gI m2 114 a.toNatClampNeg) = (2 : Int32) then Q (some (.int ((2 : Int32) * x3))) m2
    else if (gI m2 114 a.toNatClampNeg) = (3 : Int32) then Q (some (.int x3)) m2
    else if (gI m2 114 a.toNatClampNeg) = (4 : Int32) then C m_Mod_atLeastOne [.ref 113, .int (x3 - (1 : Int32))] m2 (fun o7 m8 => ∃ x9, o7 = some (.int x9) ∧ (Q (some (.int x9)) m8))
    else if (gI m2 114 a.toNatClampNeg) = (5 : Int32) then ¬ (24 : Int32) = 0 ∧ (if (6 : Int32) ≤ ((gI m2 113 1) - (gI m2 113 1) / (24 : Int32) * (24 : Int32)) then Q (some (.int ((2 : Int32) * x3))) m2
      else C m_Mod_frost [.ref 113] m2 (fun o4 m5 => ∃ x6, o4 = some (.int x6) ∧ (Q (some (.int (((2 : Int32) * x3) + x6))) m5)))
    else if (gI m2 114 a.toNatClampNeg) = (6 : Int32) then ¬ (4 : Int32) = 0 ∧ (vp_in (((4 : Int32) * a) + ((gI m2 113 1) - (gI m2 113 1) / (4 : Int32) * (4 : Int32))) 32 ∧ (Q (some (.int (x3 + (gI m2 117 (((4 : Int32) * a) + ((gI m2 113 1) - (gI m2 113 1) / (4 : Int32) * (4 : Int32))).toNatClampNeg)))) m2))
    else Q (some (.int x3)) m2)))) :
    zRun C 9 (some .int) zc_Mod_takesLong Q 0 [.ref 113, .int a, .retAddr 0] [] m := zgo [] hC zs_Mod_takesLong (i := .aload_n 0) (r := zfind zc_Mod_takesLong 1) rfl h
theorem en_Mod_takesLong (dd : Nat) {Q : zQ} (a : Int32) (m : zM) (h : zRun (zCall dd) 9 (some .int) zc_Mod_takesLong Q 0 [.ref 113, .int a, .retAddr 0] [] m) : zCall (dd + 1) m_Mod_takesLong [.ref 113, .int a] m Q := ⟨Nat.le_of_ble_eq_true rfl, h⟩
theorem zs_Mod_saysOf : zsrt zc_Mod_saysOf = true := by decide +kernel
set_option maxRecDepth 100000 in
theorem sg_Mod_saysOf_0 {C : zC} {Q : zQ} (hC : zCm C) (a : Int32) (b : Int32) (m : zM) (h :
    vp_in a 8 ∧ (if (gI m 114 a.toNatClampNeg) = (1 : Int32) then vp_in a 8 ∧ (¬ (10000 : Int32) = 0 ∧ (Q (some (.int ((b + (gI m 115 a.toNatClampNeg)) - (b + (gI m 115 a.toNatClampNeg)) / (10000 : Int32) * (10000 : Int32)))) m))
    else if (gI m 114 a.toNatClampNeg) = (2 : Int32) then Q (some (.int b)) m
    else if (gI m 114 a.toNatClampNeg) = (3 : Int32) then C m_Mod_lose [.ref 113] m (fun o4 m5 => ∃ x6, o4 = some (.int x6) ∧ (¬ x6 = 0 ∧ (Q (some (.int (b / x6))) m5)))
    else if (gI m 114 a.toNatClampNeg) = (4 : Int32) then vp_in a 8 ∧ (¬ (10000 : Int32) = 0 ∧ (¬ (10000 : Int32) = 0 ∧ (Q (some (.int (((2 : Int32) * ((b + (gI m 115 a.toNatClampNeg)) - (b + (gI m 115 a.toNatClampNeg)) / (10000 : Int32) * (10000 : Int32))) - ((2 : Int32) * ((b + (gI m 115 a.toNatClampNeg)) - (b + (gI m 115 a.toNatClampNeg)) / (10000 : Int32) * (10000 : Int32))) / (10000 : Int32) * (10000 : Int32)))) m)))
    else if (gI m 114 a.toNatClampNeg) = (5 : Int32) then Q (some (.int b)) m
    else if (gI m 114 a.toNatClampNeg) = (6 : Int32) then C m_Mod_lose [.ref 113] m (fun o1 m2 => ∃ x3, o1 = some (.int x3) ∧ (¬ x3 = 0 ∧ (vp_in a 8 ∧ (¬ (10000 : Int32) = 0 ∧ (Q (some (.int (((b / x3) + (gI m2 115 a.toNatClampNeg)) - ((b / x3) + (gI m2 115 a.toNatClampNeg)) / (10000 : Int32) * (10000 : Int32)))) m2)))))
    else Q (some (.int b)) m)) :
    zRun C 9 (some .int) zc_Mod_saysOf Q 0 [.ref 113, .int a, .int b] [] m := zgo [] hC zs_Mod_saysOf (i := .aload_n 0) (r := zfind zc_Mod_saysOf 1) rfl h
theorem en_Mod_saysOf (dd : Nat) {Q : zQ} (a : Int32) (b : Int32) (m : zM) (h : zRun (zCall dd) 9 (some .int) zc_Mod_saysOf Q 0 [.ref 113, .int a, .int b] [] m) : zCall (dd + 1) m_Mod_saysOf [.ref 113, .int a, .int b] m Q := ⟨Nat.le_of_ble_eq_true rfl, h⟩
theorem zs_Mod_says : zsrt zc_Mod_says = true := by decide +kernel
set_option maxRecDepth 100000 in
theorem sg_Mod_says_0 {C : zC} {Q : zQ} (hC : zCm C) (a : Int32) (b : Int32) (m : zM) (h :
    C m_Mod_isPlant [.ref 113, .int a] m (fun o1 m2 => ∃ x3, o1 = some (.int x3) ∧ (if ¬ x3 = (0 : Int32) then C m_Mod_isWord [.ref 113, .int b] m2 (fun o4 m5 => ∃ x6, o4 = some (.int x6) ∧ (if x6 = (0 : Int32) then Q (some (.int (-2 : Int32))) m5
      else C m_Mod_saysOf [.ref 113, .int a, .int b] m5 (fun o7 m8 => ∃ x9, o7 = some (.int x9) ∧ (Q (some (.int x9)) m8))))
    else Q (some (.int (-1 : Int32))) m2))) :
    zRun C 9 (some .int) zc_Mod_says Q 0 [.ref 113, .int a, .int b] [] m := zgo [] hC zs_Mod_says (i := .aload_n 0) (r := zfind zc_Mod_says 1) rfl h
theorem en_Mod_says (dd : Nat) {Q : zQ} (a : Int32) (b : Int32) (m : zM) (h : zRun (zCall dd) 9 (some .int) zc_Mod_says Q 0 [.ref 113, .int a, .int b] [] m) : zCall (dd + 1) m_Mod_says [.ref 113, .int a, .int b] m Q := ⟨Nat.le_of_ble_eq_true rfl, h⟩
theorem zs_Mod_of : zsrt zc_Mod_of = true := by decide +kernel
set_option maxRecDepth 100000 in
theorem sg_Mod_of_0 {C : zC} {Q : zQ} (hC : zCm C) (a : Int32) (b : Int32) (m : zM) (h :
    C m_Mod_isPlant [.ref 113, .int a] m (fun o1 m2 => ∃ x3, o1 = some (.int x3) ∧ (if ¬ x3 = (0 : Int32) then if b = (0 : Int32) then vp_in a 8 ∧ (Q (some (.int (gI m2 114 a.toNatClampNeg))) m2)
      else if b = (1 : Int32) then vp_in a 8 ∧ (Q (some (.int (gI m2 115 a.toNatClampNeg))) m2)
      else if b = (2 : Int32) then vp_in a 8 ∧ (Q (some (.int (gI m2 116 a.toNatClampNeg))) m2)
      else if b = (3 : Int32) then C m_Mod_has [.ref 113, .int (gI m2 113 2), .int a] m2 (fun o10 m11 => ∃ x12, o10 = some (.int x12) ∧ (if x12 = (0 : Int32) then Q (some (.int (0 : Int32))) m11
        else Q (some (.int (1 : Int32))) m11))
      else if b = (4 : Int32) then C m_Mod_pace [.ref 113, .int a] m2 (fun o7 m8 => ∃ x9, o7 = some (.int x9) ∧ (Q (some (.int x9)) m8))
      else if b = (5 : Int32) then C m_Mod_takesLong [.ref 113, .int a] m2 (fun o4 m5 => ∃ x6, o4 = some (.int x6) ∧ (Q (some (.int x6)) m5))
      else Q (some (.int (-1 : Int32))) m2
    else Q (some (.int (-1 : Int32))) m2))) :
    zRun C 9 (some .int) zc_Mod_of Q 0 [.ref 113, .int a, .int b] [] m := zgo [] hC zs_Mod_of (i := .aload_n 0) (r := zfind zc_Mod_of 1) rfl h
theorem en_Mod_of (dd : Nat) {Q : zQ} (a : Int32) (b : Int32) (m : zM) (h : zRun (zCall dd) 9 (some .int) zc_Mod_of Q 0 [.ref 113, .int a, .int b] [] m) : zCall (dd + 1) m_Mod_of [.ref 113, .int a, .int b] m Q := ⟨Nat.le_of_ble_eq_true rfl, h⟩
theorem zs_Mod_told : zsrt zc_Mod_told = true := by decide +kernel
set_option maxRecDepth 100000 in
theorem sg_Mod_told_0 {C : zC} {Q : zQ} (hC : zCm C) (a : Int32) (m : zM) (h :
    if ¬ a = (0 : Int32) then if ¬ a = (1 : Int32) then if ¬ a = (2 : Int32) then if ¬ a = (3 : Int32) then Q (some (.int (-1 : Int32))) m
          else Q (some (.int (gI m 113 2))) m
        else C m_Mod_lose [.ref 113] m (fun o1 m2 => ∃ x3, o1 = some (.int x3) ∧ (Q (some (.int x3)) m2))
      else C m_Mod_frost [.ref 113] m (fun o4 m5 => ∃ x6, o4 = some (.int x6) ∧ (Q (some (.int x6)) m5))
    else Q (some (.int (gI m 113 1))) m) :
    zRun C 9 (some .int) zc_Mod_told Q 0 [.ref 113, .int a] [] m := zgo [] hC zs_Mod_told (i := .iload_n 1) (r := zfind zc_Mod_told 1) rfl h
theorem en_Mod_told (dd : Nat) {Q : zQ} (a : Int32) (m : zM) (h : zRun (zCall dd) 9 (some .int) zc_Mod_told Q 0 [.ref 113, .int a] [] m) : zCall (dd + 1) m_Mod_told [.ref 113, .int a] m Q := ⟨Nat.le_of_ble_eq_true rfl, h⟩
theorem zs_Mod_pass : zsrt zc_Mod_pass = true := by decide +kernel
set_option maxRecDepth 100000 in
theorem sg_Mod_pass_0 {C : zC} {Q : zQ} (hC : zCm C) (a : Int32) (m : zM) (h :
    C m_Mod_in [.ref 113, .int a, .int (0 : Int32), .int (99 : Int32)] m (fun o1 m2 => ∃ x3, o1 = some (.int x3) ∧ (if ¬ x3 = (0 : Int32) then if ((gI m2 113 1) + a) ≤ (9999 : Int32) then Q (some (.int (gI (sI m2 113 1 ((gI m2 113 1) + a)) 113 1))) (sI m2 113 1 ((gI m2 113 1) + a))
      else Q (some (.int (-3 : Int32))) m2
    else Q (some (.int (-2 : Int32))) m2))) :
    zRun C 9 (some .int) zc_Mod_pass Q 0 [.ref 113, .int a] [] m := zgo [] hC zs_Mod_pass (i := .aload_n 0) (r := zfind zc_Mod_pass 1) rfl h
theorem en_Mod_pass (dd : Nat) {Q : zQ} (a : Int32) (m : zM) (h : zRun (zCall dd) 9 (some .int) zc_Mod_pass Q 0 [.ref 113, .int a] [] m) : zCall (dd + 1) m_Mod_pass [.ref 113, .int a] m Q := ⟨Nat.le_of_ble_eq_true rfl, h⟩
theorem zs_Mod_clears : zsrt zc_Mod_clears = true := by decide +kernel
set_option maxRecDepth 100000 in
theorem sg_Mod_clears_0 {C : zC} {Q : zQ} (hC : zCm C) (m : zM) (h :
    zRun C 9 none zc_Mod_clears Q 2 [.ref 113, .int (0 : Int32)] [] m) :
    zRun C 9 none zc_Mod_clears Q 0 [.ref 113, .retAddr 0] [] m := zgo [2] hC zs_Mod_clears (i := .iconst 0) (r := zfind zc_Mod_clears 1) rfl h
set_option maxRecDepth 100000 in
theorem sg_Mod_clears_2 {C : zC} {Q : zQ} (hC : zCm C) (v1 : Int32) (m : zM) (h :
    if (gI m 113 0) ≤ v1 then Q none m
    else vp_in v1 8 ∧ (vp_in v1 8 ∧ (vp_in v1 8 ∧ (C m_Mod_takesLong [.ref 113, .int v1] (sI (sI (sI m 128 v1.toNatClampNeg (-1 : Int32)) 129 v1.toNatClampNeg (-1 : Int32)) 133 v1.toNatClampNeg ((0 : Int32) &&& 1)) (fun o1 m2 => ∃ x3, o1 = some (.int x3) ∧ (vp_in v1 8 ∧ (zRun C 9 none zc_Mod_clears Q 2 [.ref 113, .int (v1 + (1 : Int32))] [] (sI m2 132 v1.toNatClampNeg x3)))))))) :
    zRun C 9 none zc_Mod_clears Q 2 [.ref 113, .int v1] [] m := zgo [2] hC zs_Mod_clears (i := .iload_n 1) (r := zfind zc_Mod_clears 3) rfl h
theorem en_Mod_clears (dd : Nat) {Q : zQ} (m : zM) (h : zRun (zCall dd) 9 none zc_Mod_clears Q 0 [.ref 113, .retAddr 0] [] m) : zCall (dd + 1) m_Mod_clears [.ref 113] m Q := ⟨Nat.le_of_ble_eq_true rfl, h⟩
theorem zs_Mod_saidTo : zsrt zc_Mod_saidTo = true := by decide +kernel
set_option maxRecDepth 100000 in
theorem sg_Mod_saidTo_0 {C : zC} {Q : zQ} (hC : zCm C) (a : Int32) (b : Int32) (c : Int32) (m : zM) (h :
    C m_Mod_has [.ref 113, .int (gI m 113 2), .int a] m (fun o1 m2 => ∃ x3, o1 = some (.int x3) ∧ (if x3 = (0 : Int32) then vp_in a 8 ∧ (vp_in a 8 ∧ (vp_in a 8 ∧ (Q none (sI (sI (sI m2 128 a.toNatClampNeg (0 : Int32)) 130 a.toNatClampNeg b) 131 a.toNatClampNeg c))))
    else Q none m2))) :
    zRun C 9 none zc_Mod_saidTo Q 0 [.ref 113, .int a, .int b, .int c] [] m := zgo [] hC zs_Mod_saidTo (i := .aload_n 0) (r := zfind zc_Mod_saidTo 1) rfl h
theorem en_Mod_saidTo (dd : Nat) {Q : zQ} (a : Int32) (b : Int32) (c : Int32) (m : zM) (h : zRun (zCall dd) 9 none zc_Mod_saidTo Q 0 [.ref 113, .int a, .int b, .int c] [] m) : zCall (dd + 1) m_Mod_saidTo [.ref 113, .int a, .int b, .int c] m Q := ⟨Nat.le_of_ble_eq_true rfl, h⟩
theorem zs_Mod_nextOne : zsrt zc_Mod_nextOne = true := by decide +kernel
set_option maxRecDepth 100000 in
theorem sg_Mod_nextOne_0 {C : zC} {Q : zQ} (hC : zCm C) (m : zM) (h :
    zRun C 9 (some .int) zc_Mod_nextOne Q 4 [.ref 113, .int (-1 : Int32), .int (0 : Int32)] [] m) :
    zRun C 9 (some .int) zc_Mod_nextOne Q 0 [.ref 113, .retAddr 0, .retAddr 0] [] m := zgo [4] hC zs_Mod_nextOne (i := .iconst (-1)) (r := zfind zc_Mod_nextOne 1) rfl h
set_option maxRecDepth 100000 in
theorem sg_Mod_nextOne_4 {C : zC} {Q : zQ} (hC : zCm C) (v1 : Int32) (v2 : Int32) (m : zM) (h :
    if (gI m 113 0) ≤ v2 then Q (some (.int v1)) m
    else vp_in v2 8 ∧ (if (gI m 128 v2.toNatClampNeg) < (0 : Int32) then zRun C 9 (some .int) zc_Mod_nextOne Q 4 [.ref 113, .int v1, .int (v2 + (1 : Int32))] [] m
      else vp_in v2 8 ∧ (if ¬ (gI m 133 v2.toNatClampNeg) = (0 : Int32) then zRun C 9 (some .int) zc_Mod_nextOne Q 4 [.ref 113, .int v1, .int (v2 + (1 : Int32))] [] m
        else if v1 < (0 : Int32) then zRun C 9 (some .int) zc_Mod_nextOne Q 4 [.ref 113, .int v2, .int (v2 + (1 : Int32))] [] m
          else vp_in v2 8 ∧ (vp_in v1 8 ∧ (if (gI m 128 v1.toNatClampNeg) ≤ (gI m 128 v2.toNatClampNeg) then zRun C 9 (some .int) zc_Mod_nextOne Q 4 [.ref 113, .int v1, .int (v2 + (1 : Int32))] [] m
            else zRun C 9 (some .int) zc_Mod_nextOne Q 4 [.ref 113, .int v2, .int (v2 + (1 : Int32))] [] m))))) :
    zRun C 9 (some .int) zc_Mod_nextOne Q 4 [.ref 113, .int v1, .int v2] [] m := zgo [4] hC zs_Mod_nextOne (i := .iload_n 2) (r := zfind zc_Mod_nextOne 5) rfl h
theorem en_Mod_nextOne (dd : Nat) {Q : zQ} (m : zM) (h : zRun (zCall dd) 9 (some .int) zc_Mod_nextOne Q 0 [.ref 113, .retAddr 0, .retAddr 0] [] m) : zCall (dd + 1) m_Mod_nextOne [.ref 113] m Q := ⟨Nat.le_of_ble_eq_true rfl, h⟩
theorem zs_Mod_passes : zsrt zc_Mod_passes = true := by decide +kernel
set_option maxRecDepth 100000 in
theorem sg_Mod_passes_0 {C : zC} {Q : zQ} (hC : zCm C) (a : Int32) (m : zM) (h :
    vp_in a 8 ∧ (vp_in a 8 ∧ (vp_in a 8 ∧ (zRun C 9 none zc_Mod_passes Q 23 [.ref 113, .int a, .int ((gI (sI m 133 a.toNatClampNeg ((1 : Int32) &&& 1)) 128 a.toNatClampNeg) + (gI (sI m 133 a.toNatClampNeg ((1 : Int32) &&& 1)) 132 a.toNatClampNeg)), .int (0 : Int32)] [] (sI m 133 a.toNatClampNeg ((1 : Int32) &&& 1)))))) :
    zRun C 9 none zc_Mod_passes Q 0 [.ref 113, .int a, .retAddr 0, .retAddr 0] [] m := zgo [23] hC zs_Mod_passes (i := .aload_n 0) (r := zfind zc_Mod_passes 1) rfl h
set_option maxRecDepth 100000 in
theorem sg_Mod_passes_23 {C : zC} {Q : zQ} (hC : zCm C) (v1 : Int32) (v2 : Int32) (v3 : Int32) (m : zM) (h :
    if (gI m 113 0) ≤ v3 then Q none m
    else vp_in v1 8 ∧ (C m_Mod_has [.ref 113, .int (gI m 116 v1.toNatClampNeg), .int v3] m (fun o1 m2 => ∃ x3, o1 = some (.int x3) ∧ (if x3 = (0 : Int32) then zRun C 9 none zc_Mod_passes Q 23 [.ref 113, .int v1, .int v2, .int (v3 + (1 : Int32))] [] m2
      else C m_Mod_has [.ref 113, .int (gI m2 113 2), .int v3] m2 (fun o4 m5 => ∃ x6, o4 = some (.int x6) ∧ (if x6 = (0 : Int32) then vp_in v3 8 ∧ (if (gI m5 128 v3.toNatClampNeg) < (0 : Int32) then vp_in v3 8 ∧ (vp_in v3 8 ∧ (vp_in v1 8 ∧ (C m_Mod_saysOf [.ref 113, .int v1, .int (gI (sI (sI m5 128 v3.toNatClampNeg v2) 129 v3.toNatClampNeg v1) 130 v1.toNatClampNeg)] (sI (sI m5 128 v3.toNatClampNeg v2) 129 v3.toNatClampNeg v1) (fun o7 m8 => ∃ x9, o7 = some (.int x9) ∧ (vp_in v3 8 ∧ (vp_in v1 8 ∧ (vp_in v3 8 ∧ (zRun C 9 none zc_Mod_passes Q 23 [.ref 113, .int v1, .int v2, .int (v3 + (1 : Int32))] [] (sI (sI m8 130 v3.toNatClampNeg x9) 131 v3.toNatClampNeg (gI (sI m8 130 v3.toNatClampNeg x9) 131 v1.toNatClampNeg))))))))))
          else vp_in v3 8 ∧ (if (gI m5 128 v3.toNatClampNeg) < v2 then zRun C 9 none zc_Mod_passes Q 23 [.ref 113, .int v1, .int v2, .int (v3 + (1 : Int32))] [] m5
            else vp_in v3 8 ∧ (if ¬ v2 = (gI m5 128 v3.toNatClampNeg) then vp_in v3 8 ∧ (vp_in v3 8 ∧ (vp_in v1 8 ∧ (C m_Mod_saysOf [.ref 113, .int v1, .int (gI (sI (sI m5 128 v3.toNatClampNeg v2) 129 v3.toNatClampNeg v1) 130 v1.toNatClampNeg)] (sI (sI m5 128 v3.toNatClampNeg v2) 129 v3.toNatClampNeg v1) (fun o10 m11 => ∃ x12, o10 = some (.int x12) ∧ (vp_in v3 8 ∧ (vp_in v1 8 ∧ (vp_in v3 8 ∧ (zRun C 9 none zc_Mod_passes Q 23 [.ref 113, .int v1, .int v2, .int (v3 + (1 : Int32))] [] (sI (sI m11 130 v3.toNatClampNeg x12) 131 v3.toNatClampNeg (gI (sI m11 130 v3.toNatClampNeg x12) 131 v1.toNatClampNeg))))))))))
              else vp_in v3 8 ∧ (if v1 ≤ (gI m5 129 v3.toNatClampNeg) then vp_in v3 8 ∧ (vp_in v3 8 ∧ (vp_in v1 8 ∧ (C m_Mod_saysOf [.ref 113, .int v1, .int (gI (sI (sI m5 128 v3.toNatClampNeg v2) 129 v3.toNatClampNeg v1) 130 v1.toNatClampNeg)] (sI (sI m5 128 v3.toNatClampNeg v2) 129 v3.toNatClampNeg v1) (fun o13 m14 => ∃ x15, o13 = some (.int x15) ∧ (vp_in v3 8 ∧ (vp_in v1 8 ∧ (vp_in v3 8 ∧ (zRun C 9 none zc_Mod_passes Q 23 [.ref 113, .int v1, .int v2, .int (v3 + (1 : Int32))] [] (sI (sI m14 130 v3.toNatClampNeg x15) 131 v3.toNatClampNeg (gI (sI m14 130 v3.toNatClampNeg x15) 131 v1.toNatClampNeg))))))))))
                else zRun C 9 none zc_Mod_passes Q 23 [.ref 113, .int v1, .int v2, .int (v3 + (1 : Int32))] [] m5))))
        else zRun C 9 none zc_Mod_passes Q 23 [.ref 113, .int v1, .int v2, .int (v3 + (1 : Int32))] [] m5)))))) :
    zRun C 9 none zc_Mod_passes Q 23 [.ref 113, .int v1, .int v2, .int v3] [] m := zgo [23] hC zs_Mod_passes (i := .iload_n 3) (r := zfind zc_Mod_passes 24) rfl h
theorem en_Mod_passes (dd : Nat) {Q : zQ} (a : Int32) (m : zM) (h : zRun (zCall dd) 9 none zc_Mod_passes Q 0 [.ref 113, .int a, .retAddr 0, .retAddr 0] [] m) : zCall (dd + 1) m_Mod_passes [.ref 113, .int a] m Q := ⟨Nat.le_of_ble_eq_true rfl, h⟩
theorem zs_Mod_spreads : zsrt zc_Mod_spreads = true := by decide +kernel
set_option maxRecDepth 100000 in
theorem sg_Mod_spreads_0 {C : zC} {Q : zQ} (hC : zCm C) (m : zM) (h :
    C m_Mod_nextOne [.ref 113] m (fun o1 m2 => ∃ x3, o1 = some (.int x3) ∧ (zRun C 9 none zc_Mod_spreads Q 5 [.ref 113, .int x3] [] m2))) :
    zRun C 9 none zc_Mod_spreads Q 0 [.ref 113, .retAddr 0] [] m := zgo [5] hC zs_Mod_spreads (i := .aload_n 0) (r := zfind zc_Mod_spreads 1) rfl h
set_option maxRecDepth 100000 in
theorem sg_Mod_spreads_5 {C : zC} {Q : zQ} (hC : zCm C) (v1 : Int32) (m : zM) (h :
    if v1 < (0 : Int32) then Q none m
    else C m_Mod_passes [.ref 113, .int v1] m (fun o1 m2 => o1 = none ∧ (C m_Mod_nextOne [.ref 113] m2 (fun o3 m4 => ∃ x5, o3 = some (.int x5) ∧ (zRun C 9 none zc_Mod_spreads Q 5 [.ref 113, .int x5] [] m4))))) :
    zRun C 9 none zc_Mod_spreads Q 5 [.ref 113, .int v1] [] m := zgo [5] hC zs_Mod_spreads (i := .iload_n 1) (r := zfind zc_Mod_spreads 6) rfl h
theorem en_Mod_spreads (dd : Nat) {Q : zQ} (m : zM) (h : zRun (zCall dd) 9 none zc_Mod_spreads Q 0 [.ref 113, .retAddr 0] [] m) : zCall (dd + 1) m_Mod_spreads [.ref 113] m Q := ⟨Nat.le_of_ble_eq_true rfl, h⟩
theorem zs_Mod_lay : zsrt zc_Mod_lay = true := by decide +kernel
set_option maxRecDepth 100000 in
theorem sg_Mod_lay_0 {C : zC} {Q : zQ} (hC : zCm C) (a : Int32) (b : Int32) (m : zM) (h :
    C m_Mod_clears [.ref 113] m (fun o1 m2 => o1 = none ∧ (C m_Mod_saidTo [.ref 113, .int a, .int b, .int (0 : Int32)] m2 (fun o3 m4 => o3 = none ∧ (C m_Mod_spreads [.ref 113] m4 (fun o5 m6 => o5 = none ∧ (Q none m6))))))) :
    zRun C 9 none zc_Mod_lay Q 0 [.ref 113, .int a, .int b] [] m := zgo [] hC zs_Mod_lay (i := .aload_n 0) (r := zfind zc_Mod_lay 1) rfl h
theorem en_Mod_lay (dd : Nat) {Q : zQ} (a : Int32) (b : Int32) (m : zM) (h : zRun (zCall dd) 9 none zc_Mod_lay Q 0 [.ref 113, .int a, .int b] [] m) : zCall (dd + 1) m_Mod_lay [.ref 113, .int a, .int b] m Q := ⟨Nat.le_of_ble_eq_true rfl, h⟩
theorem zs_Mod_whenOf : zsrt zc_Mod_whenOf = true := by decide +kernel
set_option maxRecDepth 100000 in
theorem sg_Mod_whenOf_0 {C : zC} {Q : zQ} (hC : zCm C) (a : Int32) (b : Int32) (m : zM) (h :
    C m_Mod_lay [.ref 113, .int a, .int (0 : Int32)] m (fun o1 m2 => o1 = none ∧ (vp_in b 8 ∧ (if (0 : Int32) ≤ (gI m2 128 b.toNatClampNeg) then vp_in b 8 ∧ (Q (some (.int (gI m2 128 b.toNatClampNeg))) m2)
    else Q (some (.int (-5 : Int32))) m2)))) :
    zRun C 9 (some .int) zc_Mod_whenOf Q 0 [.ref 113, .int a, .int b] [] m := zgo [] hC zs_Mod_whenOf (i := .aload_n 0) (r := zfind zc_Mod_whenOf 1) rfl h
theorem en_Mod_whenOf (dd : Nat) {Q : zQ} (a : Int32) (b : Int32) (m : zM) (h : zRun (zCall dd) 9 (some .int) zc_Mod_whenOf Q 0 [.ref 113, .int a, .int b] [] m) : zCall (dd + 1) m_Mod_whenOf [.ref 113, .int a, .int b] m Q := ⟨Nat.le_of_ble_eq_true rfl, h⟩
theorem zs_Mod_heard : zsrt zc_Mod_heard = true := by decide +kernel
set_option maxRecDepth 100000 in
theorem sg_Mod_heard_0 {C : zC} {Q : zQ} (hC : zCm C) (a : Int32) (b : Int32) (c : Int32) (d : Int32) (m : zM) (h :
    C m_Mod_isPlant [.ref 113, .int a] m (fun o1 m2 => ∃ x3, o1 = some (.int x3) ∧ (if x3 = (0 : Int32) then Q (some (.int (-1 : Int32))) m2
    else C m_Mod_isPlant [.ref 113, .int c] m2 (fun o4 m5 => ∃ x6, o4 = some (.int x6) ∧ (if x6 = (0 : Int32) then Q (some (.int (-1 : Int32))) m5
      else C m_Mod_in [.ref 113, .int d, .int (0 : Int32), .int (2 : Int32)] m5 (fun o7 m8 => ∃ x9, o7 = some (.int x9) ∧ (if ¬ x9 = (0 : Int32) then C m_Mod_isWord [.ref 113, .int b] m8 (fun o10 m11 => ∃ x12, o10 = some (.int x12) ∧ (if ¬ x12 = (0 : Int32) then C m_Mod_lay [.ref 113, .int a, .int b] m11 (fun o13 m14 => o13 = none ∧ (vp_in c 8 ∧ (if (0 : Int32) ≤ (gI m14 128 c.toNatClampNeg) then if ¬ d = (0 : Int32) then if ¬ d = (1 : Int32) then vp_in c 8 ∧ (if (0 : Int32) ≤ (gI m14 129 c.toNatClampNeg) then vp_in c 8 ∧ (Q (some (.int (gI m14 129 c.toNatClampNeg))) m14)
                  else Q (some (.int (-5 : Int32))) m14)
                else vp_in c 8 ∧ (Q (some (.int (gI m14 130 c.toNatClampNeg))) m14)
              else vp_in c 8 ∧ (Q (some (.int (gI m14 128 c.toNatClampNeg))) m14)
            else Q (some (.int (-5 : Int32))) m14)))
          else Q (some (.int (-2 : Int32))) m11))
        else Q (some (.int (-1 : Int32))) m8))))))) :
    zRun C 9 (some .int) zc_Mod_heard Q 0 [.ref 113, .int a, .int b, .int c, .int d] [] m := zgo [] hC zs_Mod_heard (i := .aload_n 0) (r := zfind zc_Mod_heard 1) rfl h
theorem en_Mod_heard (dd : Nat) {Q : zQ} (a : Int32) (b : Int32) (c : Int32) (d : Int32) (m : zM) (h : zRun (zCall dd) 9 (some .int) zc_Mod_heard Q 0 [.ref 113, .int a, .int b, .int c, .int d] [] m) : zCall (dd + 1) m_Mod_heard [.ref 113, .int a, .int b, .int c, .int d] m Q := ⟨Nat.le_of_ble_eq_true rfl, h⟩
theorem zs_Mod_by : zsrt zc_Mod_by = true := by decide +kernel
set_option maxRecDepth 100000 in
theorem sg_Mod_by_0 {C : zC} {Q : zQ} (hC : zCm C) (a : Int32) (b : Int32) (m : zM) (h :
    C m_Mod_isPlant [.ref 113, .int a] m (fun o1 m2 => ∃ x3, o1 = some (.int x3) ∧ (if ¬ x3 = (0 : Int32) then C m_Mod_in [.ref 113, .int b, .int (0 : Int32), .int (9999 : Int32)] m2 (fun o4 m5 => ∃ x6, o4 = some (.int x6) ∧ (if ¬ x6 = (0 : Int32) then C m_Mod_lay [.ref 113, .int a, .int (0 : Int32)] m5 (fun o7 m8 => o7 = none ∧ (zRun C 9 (some .int) zc_Mod_by Q 36 [.ref 113, .int a, .int b, .int (0 : Int32), .int (0 : Int32)] [] m8))
      else Q (some (.int (-2 : Int32))) m5))
    else Q (some (.int (-1 : Int32))) m2))) :
    zRun C 9 (some .int) zc_Mod_by Q 0 [.ref 113, .int a, .int b, .retAddr 0, .retAddr 0] [] m := zgo [36] hC zs_Mod_by (i := .aload_n 0) (r := zfind zc_Mod_by 1) rfl h
set_option maxRecDepth 100000 in
theorem sg_Mod_by_36 {C : zC} {Q : zQ} (hC : zCm C) (v1 : Int32) (v2 : Int32) (v3 : Int32) (v4 : Int32) (m : zM) (h :
    if (gI m 113 0) ≤ v4 then Q (some (.int v3)) m
    else vp_in v4 8 ∧ (C m_Mod_in [.ref 113, .int (gI m 128 v4.toNatClampNeg), .int (0 : Int32), .int v2] m (fun o1 m2 => ∃ x3, o1 = some (.int x3) ∧ (if x3 = (0 : Int32) then zRun C 9 (some .int) zc_Mod_by Q 36 [.ref 113, .int v1, .int v2, .int (v3 ||| (0 : Int32)), .int (v4 + (1 : Int32))] [] m2
      else zRun C 9 (some .int) zc_Mod_by Q 36 [.ref 113, .int v1, .int v2, .int (v3 ||| ((1 : Int32) <<< (v4 &&& 31))), .int (v4 + (1 : Int32))] [] m2)))) :
    zRun C 9 (some .int) zc_Mod_by Q 36 [.ref 113, .int v1, .int v2, .int v3, .int v4] [] m := zgo [36] hC zs_Mod_by (i := .iload 4) (r := zfind zc_Mod_by 38) rfl h
theorem en_Mod_by (dd : Nat) {Q : zQ} (a : Int32) (b : Int32) (m : zM) (h : zRun (zCall dd) 9 (some .int) zc_Mod_by Q 0 [.ref 113, .int a, .int b, .retAddr 0, .retAddr 0] [] m) : zCall (dd + 1) m_Mod_by [.ref 113, .int a, .int b] m Q := ⟨Nat.le_of_ble_eq_true rfl, h⟩
theorem zs_Mod_right : zsrt zc_Mod_right = true := by decide +kernel
set_option maxRecDepth 100000 in
theorem sg_Mod_right_0 {C : zC} {Q : zQ} (hC : zCm C) (a : Int32) (b : Int32) (m : zM) (h :
    C m_Mod_isPlant [.ref 113, .int a] m (fun o1 m2 => ∃ x3, o1 = some (.int x3) ∧ (if ¬ x3 = (0 : Int32) then C m_Mod_isWord [.ref 113, .int b] m2 (fun o4 m5 => ∃ x6, o4 = some (.int x6) ∧ (if ¬ x6 = (0 : Int32) then C m_Mod_lay [.ref 113, .int a, .int b] m5 (fun o7 m8 => o7 = none ∧ (zRun C 9 (some .int) zc_Mod_right Q 32 [.ref 113, .int a, .int b, .int (0 : Int32), .int (0 : Int32)] [] m8))
      else Q (some (.int (-2 : Int32))) m5))
    else Q (some (.int (-1 : Int32))) m2))) :
    zRun C 9 (some .int) zc_Mod_right Q 0 [.ref 113, .int a, .int b, .retAddr 0, .retAddr 0] [] m := zgo [32] hC zs_Mod_right (i := .aload_n 0) (r := zfind zc_Mod_right 1) rfl h
set_option maxRecDepth 100000 in
theorem sg_Mod_right_32 {C : zC} {Q : zQ} (hC : zCm C) (v1 : Int32) (v2 : Int32) (v3 : Int32) (v4 : Int32) (m : zM) (h :
    if (gI m 113 0) ≤ v4 then Q (some (.int v3)) m
    else if v4 = v1 then zRun C 9 (some .int) zc_Mod_right Q 32 [.ref 113, .int v1, .int v2, .int (v3 ||| (0 : Int32)), .int (v4 + (1 : Int32))] [] m
      else vp_in v4 8 ∧ (if (gI m 128 v4.toNatClampNeg) < (0 : Int32) then zRun C 9 (some .int) zc_Mod_right Q 32 [.ref 113, .int v1, .int v2, .int (v3 ||| (0 : Int32)), .int (v4 + (1 : Int32))] [] m
        else vp_in v4 8 ∧ (if ¬ (gI m 130 v4.toNatClampNeg) = v2 then zRun C 9 (some .int) zc_Mod_right Q 32 [.ref 113, .int v1, .int v2, .int (v3 ||| (0 : Int32)), .int (v4 + (1 : Int32))] [] m
          else zRun C 9 (some .int) zc_Mod_right Q 32 [.ref 113, .int v1, .int v2, .int (v3 ||| ((1 : Int32) <<< (v4 &&& 31))), .int (v4 + (1 : Int32))] [] m))) :
    zRun C 9 (some .int) zc_Mod_right Q 32 [.ref 113, .int v1, .int v2, .int v3, .int v4] [] m := zgo [32] hC zs_Mod_right (i := .iload 4) (r := zfind zc_Mod_right 34) rfl h
theorem en_Mod_right (dd : Nat) {Q : zQ} (a : Int32) (b : Int32) (m : zM) (h : zRun (zCall dd) 9 (some .int) zc_Mod_right Q 0 [.ref 113, .int a, .int b, .retAddr 0, .retAddr 0] [] m) : zCall (dd + 1) m_Mod_right [.ref 113, .int a, .int b] m Q := ⟨Nat.le_of_ble_eq_true rfl, h⟩
theorem zs_Mod_last : zsrt zc_Mod_last = true := by decide +kernel
set_option maxRecDepth 100000 in
theorem sg_Mod_last_0 {C : zC} {Q : zQ} (hC : zCm C) (a : Int32) (m : zM) (h :
    C m_Mod_isPlant [.ref 113, .int a] m (fun o1 m2 => ∃ x3, o1 = some (.int x3) ∧ (if ¬ x3 = (0 : Int32) then C m_Mod_lay [.ref 113, .int a, .int (0 : Int32)] m2 (fun o4 m5 => o4 = none ∧ (zRun C 9 (some .int) zc_Mod_last Q 21 [.ref 113, .int a, .int (-5 : Int32), .int (0 : Int32)] [] m5))
    else Q (some (.int (-1 : Int32))) m2))) :
    zRun C 9 (some .int) zc_Mod_last Q 0 [.ref 113, .int a, .retAddr 0, .retAddr 0] [] m := zgo [21] hC zs_Mod_last (i := .aload_n 0) (r := zfind zc_Mod_last 1) rfl h
set_option maxRecDepth 100000 in
theorem sg_Mod_last_21 {C : zC} {Q : zQ} (hC : zCm C) (v1 : Int32) (v2 : Int32) (v3 : Int32) (m : zM) (h :
    if (gI m 113 0) ≤ v3 then Q (some (.int v2)) m
    else vp_in v3 8 ∧ (if (gI m 128 v3.toNatClampNeg) ≤ v2 then zRun C 9 (some .int) zc_Mod_last Q 21 [.ref 113, .int v1, .int v2, .int (v3 + (1 : Int32))] [] m
      else vp_in v3 8 ∧ (if (gI m 128 v3.toNatClampNeg) < (0 : Int32) then zRun C 9 (some .int) zc_Mod_last Q 21 [.ref 113, .int v1, .int v2, .int (v3 + (1 : Int32))] [] m
        else vp_in v3 8 ∧ (zRun C 9 (some .int) zc_Mod_last Q 21 [.ref 113, .int v1, .int (gI m 128 v3.toNatClampNeg), .int (v3 + (1 : Int32))] [] m)))) :
    zRun C 9 (some .int) zc_Mod_last Q 21 [.ref 113, .int v1, .int v2, .int v3] [] m := zgo [21] hC zs_Mod_last (i := .iload_n 3) (r := zfind zc_Mod_last 22) rfl h
theorem en_Mod_last (dd : Nat) {Q : zQ} (a : Int32) (m : zM) (h : zRun (zCall dd) 9 (some .int) zc_Mod_last Q 0 [.ref 113, .int a, .retAddr 0, .retAddr 0] [] m) : zCall (dd + 1) m_Mod_last [.ref 113, .int a] m Q := ⟨Nat.le_of_ble_eq_true rfl, h⟩
theorem zs_Mod_isCutBy : zsrt zc_Mod_isCutBy = true := by decide +kernel
set_option maxRecDepth 100000 in
theorem sg_Mod_isCutBy_0 {C : zC} {Q : zQ} (hC : zCm C) (a : Int32) (b : Int32) (c : Int32) (m : zM) (h :
    C m_Mod_whenOf [.ref 113, .int a, .int b] (sI m 113 2 ((gI m 113 2) ||| c)) (fun o1 m2 => ∃ x3, o1 = some (.int x3) ∧ (if (0 : Int32) ≤ x3 then (0 : Int32) &&& 1 = (0 : Int32) ∧ Q (some (.int (0 : Int32))) (sI m2 113 2 (gI m 113 2))
    else (1 : Int32) &&& 1 = (1 : Int32) ∧ Q (some (.int (1 : Int32))) (sI m2 113 2 (gI m 113 2))))) :
    zRun C 9 (some .boolean) zc_Mod_isCutBy Q 0 [.ref 113, .int a, .int b, .int c, .retAddr 0, .retAddr 0] [] m := zgo [] hC zs_Mod_isCutBy (i := .aload_n 0) (r := zfind zc_Mod_isCutBy 1) rfl h
theorem en_Mod_isCutBy (dd : Nat) {Q : zQ} (a : Int32) (b : Int32) (c : Int32) (m : zM) (h : zRun (zCall dd) 9 (some .boolean) zc_Mod_isCutBy Q 0 [.ref 113, .int a, .int b, .int c, .retAddr 0, .retAddr 0] [] m) : zCall (dd + 1) m_Mod_isCutBy [.ref 113, .int a, .int b, .int c] m Q := ⟨Nat.le_of_ble_eq_true rfl, h⟩
theorem zs_Mod_cut : zsrt zc_Mod_cut = true := by decide +kernel
set_option maxRecDepth 100000 in
theorem sg_Mod_cut_0 {C : zC} {Q : zQ} (hC : zCm C) (a : Int32) (b : Int32) (c : Int32) (m : zM) (h :
    C m_Mod_isPlant [.ref 113, .int a] m (fun o1 m2 => ∃ x3, o1 = some (.int x3) ∧ (if x3 = (0 : Int32) then Q (some (.int (-1 : Int32))) m2
    else C m_Mod_isPlant [.ref 113, .int b] m2 (fun o4 m5 => ∃ x6, o4 = some (.int x6) ∧ (if x6 = (0 : Int32) then Q (some (.int (-1 : Int32))) m5
      else C m_Mod_in [.ref 113, .int c, .int (0 : Int32), .int (1 : Int32)] m5 (fun o7 m8 => ∃ x9, o7 = some (.int x9) ∧ (if ¬ x9 = (0 : Int32) then if ¬ a = b then zRun C 9 (some .int) zc_Mod_cut Q 48 [.ref 113, .int a, .int b, .int c, .int (((1 : Int32) <<< (a &&& 31)) ||| ((1 : Int32) <<< (b &&& 31))), .int (0 : Int32), .retAddr 0] [] m8
          else Q (some (.int (-2 : Int32))) m8
        else Q (some (.int (-1 : Int32))) m8))))))) :
    zRun C 9 (some .int) zc_Mod_cut Q 0 [.ref 113, .int a, .int b, .int c, .retAddr 0, .retAddr 0, .retAddr 0] [] m := zgo [48, 57] hC zs_Mod_cut (i := .aload_n 0) (r := zfind zc_Mod_cut 1) rfl h
set_option maxRecDepth 100000 in
theorem sg_Mod_cut_48 {C : zC} {Q : zQ} (hC : zCm C) (v1 : Int32) (v2 : Int32) (v3 : Int32) (v4 : Int32) (v5 : Int32) (m : zM) (h :
    if (4 : Int32) ≤ v5 then Q (some (.int (-5 : Int32))) m
    else zRun C 9 (some .int) zc_Mod_cut Q 57 [.ref 113, .int v1, .int v2, .int v3, .int v4, .int v5, .int (0 : Int32)] [] m) :
    zRun C 9 (some .int) zc_Mod_cut Q 48 [.ref 113, .int v1, .int v2, .int v3, .int v4, .int v5, .retAddr 0] [] m := zgo [48, 57] hC zs_Mod_cut (i := .iload 5) (r := zfind zc_Mod_cut 50) rfl h
set_option maxRecDepth 100000 in
theorem sg_Mod_cut_57 {C : zC} {Q : zQ} (hC : zCm C) (v1 : Int32) (v2 : Int32) (v3 : Int32) (v4 : Int32) (v5 : Int32) (v6 : Int32) (m : zM) (h :
    if ((1 : Int32) <<< ((gI m 113 0) &&& 31)) ≤ v6 then zRun C 9 (some .int) zc_Mod_cut Q 48 [.ref 113, .int v1, .int v2, .int v3, .int v4, .int (v5 + (1 : Int32)), .int v6] [] m
    else if ¬ (v6 &&& v4) = (0 : Int32) then zRun C 9 (some .int) zc_Mod_cut Q 57 [.ref 113, .int v1, .int v2, .int v3, .int v4, .int v5, .int (v6 + (1 : Int32))] [] m
      else C m_Mod_ones [.ref 113, .int v6] m (fun o1 m2 => ∃ x3, o1 = some (.int x3) ∧ (if ¬ x3 = v5 then zRun C 9 (some .int) zc_Mod_cut Q 57 [.ref 113, .int v1, .int v2, .int v3, .int v4, .int v5, .int (v6 + (1 : Int32))] [] m2
        else C m_Mod_isCutBy [.ref 113, .int v1, .int v2, .int v6] m2 (fun o4 m5 => ∃ x6, o4 = some (.int x6) ∧ (if ¬ x6 = (0 : Int32) then if ¬ v3 = (0 : Int32) then Q (some (.int v6)) m5
            else Q (some (.int v5)) m5
          else zRun C 9 (some .int) zc_Mod_cut Q 57 [.ref 113, .int v1, .int v2, .int v3, .int v4, .int v5, .int (v6 + (1 : Int32))] [] m5))))) :
    zRun C 9 (some .int) zc_Mod_cut Q 57 [.ref 113, .int v1, .int v2, .int v3, .int v4, .int v5, .int v6] [] m := zgo [48, 57] hC zs_Mod_cut (i := .iload 6) (r := zfind zc_Mod_cut 59) rfl h
theorem en_Mod_cut (dd : Nat) {Q : zQ} (a : Int32) (b : Int32) (c : Int32) (m : zM) (h : zRun (zCall dd) 9 (some .int) zc_Mod_cut Q 0 [.ref 113, .int a, .int b, .int c, .retAddr 0, .retAddr 0, .retAddr 0] [] m) : zCall (dd + 1) m_Mod_cut [.ref 113, .int a, .int b, .int c] m Q := ⟨Nat.le_of_ble_eq_true rfl, h⟩
theorem zs_Mod_needed : zsrt zc_Mod_needed = true := by decide +kernel
set_option maxRecDepth 100000 in
theorem sg_Mod_needed_0 {C : zC} {Q : zQ} (hC : zCm C) (a : Int32) (b : Int32) (m : zM) (h :
    C m_Mod_isPlant [.ref 113, .int a] m (fun o1 m2 => ∃ x3, o1 = some (.int x3) ∧ (if x3 = (0 : Int32) then Q (some (.int (-1 : Int32))) m2
    else C m_Mod_isPlant [.ref 113, .int b] m2 (fun o4 m5 => ∃ x6, o4 = some (.int x6) ∧ (if ¬ x6 = (0 : Int32) then if ¬ a = b then C m_Mod_whenOf [.ref 113, .int a, .int b] m5 (fun o7 m8 => ∃ x9, o7 = some (.int x9) ∧ (if (0 : Int32) ≤ x9 then zRun C 9 (some .int) zc_Mod_needed Q 42 [.ref 113, .int a, .int b, .int (0 : Int32), .int (0 : Int32)] [] m8
          else Q (some (.int (0 : Int32))) m8))
        else Q (some (.int (-2 : Int32))) m5
      else Q (some (.int (-1 : Int32))) m5))))) :
    zRun C 9 (some .int) zc_Mod_needed Q 0 [.ref 113, .int a, .int b, .retAddr 0, .retAddr 0] [] m := zgo [42] hC zs_Mod_needed (i := .aload_n 0) (r := zfind zc_Mod_needed 1) rfl h
set_option maxRecDepth 100000 in
theorem sg_Mod_needed_42 {C : zC} {Q : zQ} (hC : zCm C) (v1 : Int32) (v2 : Int32) (v3 : Int32) (v4 : Int32) (m : zM) (h :
    if (gI m 113 0) ≤ v4 then Q (some (.int v3)) m
    else if v4 = v1 then zRun C 9 (some .int) zc_Mod_needed Q 42 [.ref 113, .int v1, .int v2, .int (v3 ||| (0 : Int32)), .int (v4 + (1 : Int32))] [] m
      else if v4 = v2 then zRun C 9 (some .int) zc_Mod_needed Q 42 [.ref 113, .int v1, .int v2, .int (v3 ||| (0 : Int32)), .int (v4 + (1 : Int32))] [] m
        else C m_Mod_isCutBy [.ref 113, .int v1, .int v2, .int ((1 : Int32) <<< (v4 &&& 31))] m (fun o1 m2 => ∃ x3, o1 = some (.int x3) ∧ (if x3 = (0 : Int32) then zRun C 9 (some .int) zc_Mod_needed Q 42 [.ref 113, .int v1, .int v2, .int (v3 ||| (0 : Int32)), .int (v4 + (1 : Int32))] [] m2
          else zRun C 9 (some .int) zc_Mod_needed Q 42 [.ref 113, .int v1, .int v2, .int (v3 ||| ((1 : Int32) <<< (v4 &&& 31))), .int (v4 + (1 : Int32))] [] m2))) :
    zRun C 9 (some .int) zc_Mod_needed Q 42 [.ref 113, .int v1, .int v2, .int v3, .int v4] [] m := zgo [42] hC zs_Mod_needed (i := .iload 4) (r := zfind zc_Mod_needed 44) rfl h
theorem en_Mod_needed (dd : Nat) {Q : zQ} (a : Int32) (b : Int32) (m : zM) (h : zRun (zCall dd) 9 (some .int) zc_Mod_needed Q 0 [.ref 113, .int a, .int b, .retAddr 0, .retAddr 0] [] m) : zCall (dd + 1) m_Mod_needed [.ref 113, .int a, .int b] m Q := ⟨Nat.le_of_ble_eq_true rfl, h⟩
theorem zs_Mod_round : zsrt zc_Mod_round = true := by decide +kernel
set_option maxRecDepth 100000 in
theorem sg_Mod_round_0 {C : zC} {Q : zQ} (hC : zCm C) (a : Int32) (b : Int32) (c : Int32) (m : zM) (h :
    C m_Mod_isPlant [.ref 113, .int a] m (fun o1 m2 => ∃ x3, o1 = some (.int x3) ∧ (if x3 = (0 : Int32) then Q (some (.int (-1 : Int32))) m2
    else C m_Mod_in [.ref 113, .int c, .int (0 : Int32), .int (1 : Int32)] m2 (fun o4 m5 => ∃ x6, o4 = some (.int x6) ∧ (if ¬ x6 = (0 : Int32) then C m_Mod_isWord [.ref 113, .int b] m5 (fun o7 m8 => ∃ x9, o7 = some (.int x9) ∧ (if ¬ x9 = (0 : Int32) then C m_Mod_lay [.ref 113, .int a, .int b] m8 (fun o10 m11 => o10 = none ∧ (C m_Mod_has [.ref 113, .int (gI m11 113 2), .int a] m11 (fun o12 m13 => ∃ x14, o12 = some (.int x14) ∧ (if x14 = (0 : Int32) then zRun C 9 (some .int) zc_Mod_round Q 63 [.ref 113, .int a, .int b, .int c, .int (-5 : Int32), .int (-5 : Int32), .int (0 : Int32), .retAddr 0] [] m13
          else Q (some (.int (-5 : Int32))) m13))))
        else Q (some (.int (-2 : Int32))) m8))
      else Q (some (.int (-1 : Int32))) m5))))) :
    zRun C 9 (some .int) zc_Mod_round Q 0 [.ref 113, .int a, .int b, .int c, .retAddr 0, .retAddr 0, .retAddr 0, .retAddr 0] [] m := zgo [63] hC zs_Mod_round (i := .aload_n 0) (r := zfind zc_Mod_round 1) rfl h
set_option maxRecDepth 100000 in
theorem sg_Mod_round_63 {C : zC} {Q : zQ} (hC : zCm C) (v1 : Int32) (v2 : Int32) (v3 : Int32) (v4 : Int32) (v5 : Int32) (v6 : Int32) (m : zM) (h :
    if (gI m 113 0) ≤ v6 then if ¬ v3 = (0 : Int32) then Q (some (.int v5)) m
      else Q (some (.int v4)) m
    else vp_in v6 8 ∧ (if (gI m 128 v6.toNatClampNeg) < (0 : Int32) then zRun C 9 (some .int) zc_Mod_round Q 63 [.ref 113, .int v1, .int v2, .int v3, .int v4, .int v5, .int (v6 + (1 : Int32)), .retAddr 0] [] m
      else vp_in v6 8 ∧ (C m_Mod_has [.ref 113, .int (gI m 116 v6.toNatClampNeg), .int v1] m (fun o1 m2 => ∃ x3, o1 = some (.int x3) ∧ (if ¬ x3 = (0 : Int32) then vp_in v6 8 ∧ (vp_in v6 8 ∧ (if v4 < (0 : Int32) then vp_in v6 8 ∧ (C m_Mod_saysOf [.ref 113, .int v6, .int (gI m2 130 v6.toNatClampNeg)] m2 (fun o4 m5 => ∃ x6, o4 = some (.int x6) ∧ (zRun C 9 (some .int) zc_Mod_round Q 63 [.ref 113, .int v1, .int v2, .int v3, .int ((gI m2 128 v6.toNatClampNeg) + (gI m2 132 v6.toNatClampNeg)), .int x6, .int (v6 + (1 : Int32)), .int ((gI m2 128 v6.toNatClampNeg) + (gI m2 132 v6.toNatClampNeg))] [] m5)))
          else if ((gI m2 128 v6.toNatClampNeg) + (gI m2 132 v6.toNatClampNeg)) < v4 then vp_in v6 8 ∧ (C m_Mod_saysOf [.ref 113, .int v6, .int (gI m2 130 v6.toNatClampNeg)] m2 (fun o7 m8 => ∃ x9, o7 = some (.int x9) ∧ (zRun C 9 (some .int) zc_Mod_round Q 63 [.ref 113, .int v1, .int v2, .int v3, .int ((gI m2 128 v6.toNatClampNeg) + (gI m2 132 v6.toNatClampNeg)), .int x9, .int (v6 + (1 : Int32)), .int ((gI m2 128 v6.toNatClampNeg) + (gI m2 132 v6.toNatClampNeg))] [] m8)))
            else zRun C 9 (some .int) zc_Mod_round Q 63 [.ref 113, .int v1, .int v2, .int v3, .int v4, .int v5, .int (v6 + (1 : Int32)), .int ((gI m2 128 v6.toNatClampNeg) + (gI m2 132 v6.toNatClampNeg))] [] m2))
        else zRun C 9 (some .int) zc_Mod_round Q 63 [.ref 113, .int v1, .int v2, .int v3, .int v4, .int v5, .int (v6 + (1 : Int32)), .retAddr 0] [] m2))))) :
    zRun C 9 (some .int) zc_Mod_round Q 63 [.ref 113, .int v1, .int v2, .int v3, .int v4, .int v5, .int v6, .retAddr 0] [] m := zgo [63] hC zs_Mod_round (i := .iload 6) (r := zfind zc_Mod_round 65) rfl h
theorem en_Mod_round (dd : Nat) {Q : zQ} (a : Int32) (b : Int32) (c : Int32) (m : zM) (h : zRun (zCall dd) 9 (some .int) zc_Mod_round Q 0 [.ref 113, .int a, .int b, .int c, .retAddr 0, .retAddr 0, .retAddr 0, .retAddr 0] [] m) : zCall (dd + 1) m_Mod_round [.ref 113, .int a, .int b, .int c] m Q := ⟨Nat.le_of_ble_eq_true rfl, h⟩
theorem zs_Mod_meet : zsrt zc_Mod_meet = true := by decide +kernel
set_option maxRecDepth 100000 in
theorem sg_Mod_meet_0 {C : zC} {Q : zQ} (hC : zCm C) (a : Int32) (b : Int32) (m : zM) (h :
    C m_Mod_isPlant [.ref 113, .int a] m (fun o1 m2 => ∃ x3, o1 = some (.int x3) ∧ (if x3 = (0 : Int32) then Q (some (.int (-1 : Int32))) m2
    else C m_Mod_isPlant [.ref 113, .int b] m2 (fun o4 m5 => ∃ x6, o4 = some (.int x6) ∧ (if ¬ x6 = (0 : Int32) then if ¬ a = b then C m_Mod_clears [.ref 113] m5 (fun o7 m8 => o7 = none ∧ (C m_Mod_saidTo [.ref 113, .int a, .int (0 : Int32), .int (0 : Int32)] m8 (fun o9 m10 => o9 = none ∧ (C m_Mod_saidTo [.ref 113, .int b, .int (0 : Int32), .int (1 : Int32)] m10 (fun o11 m12 => o11 = none ∧ (C m_Mod_spreads [.ref 113] m12 (fun o13 m14 => o13 = none ∧ (zRun C 9 (some .int) zc_Mod_meet Q 53 [.ref 113, .int a, .int b, .int (0 : Int32), .int (0 : Int32)] [] m14))))))))
        else Q (some (.int (-2 : Int32))) m5
      else Q (some (.int (-1 : Int32))) m5))))) :
    zRun C 9 (some .int) zc_Mod_meet Q 0 [.ref 113, .int a, .int b, .retAddr 0, .retAddr 0] [] m := zgo [53] hC zs_Mod_meet (i := .aload_n 0) (r := zfind zc_Mod_meet 1) rfl h
set_option maxRecDepth 100000 in
theorem sg_Mod_meet_53 {C : zC} {Q : zQ} (hC : zCm C) (v1 : Int32) (v2 : Int32) (v3 : Int32) (v4 : Int32) (m : zM) (h :
    if (gI m 113 0) ≤ v4 then Q (some (.int v3)) m
    else vp_in v4 8 ∧ (if (gI m 128 v4.toNatClampNeg) < (0 : Int32) then zRun C 9 (some .int) zc_Mod_meet Q 53 [.ref 113, .int v1, .int v2, .int (v3 ||| (0 : Int32)), .int (v4 + (1 : Int32))] [] m
      else vp_in v4 8 ∧ (if ¬ (gI m 131 v4.toNatClampNeg) = (0 : Int32) then zRun C 9 (some .int) zc_Mod_meet Q 53 [.ref 113, .int v1, .int v2, .int (v3 ||| (0 : Int32)), .int (v4 + (1 : Int32))] [] m
        else zRun C 9 (some .int) zc_Mod_meet Q 53 [.ref 113, .int v1, .int v2, .int (v3 ||| ((1 : Int32) <<< (v4 &&& 31))), .int (v4 + (1 : Int32))] [] m))) :
    zRun C 9 (some .int) zc_Mod_meet Q 53 [.ref 113, .int v1, .int v2, .int v3, .int v4] [] m := zgo [53] hC zs_Mod_meet (i := .iload 4) (r := zfind zc_Mod_meet 55) rfl h
theorem en_Mod_meet (dd : Nat) {Q : zQ} (a : Int32) (b : Int32) (m : zM) (h : zRun (zCall dd) 9 (some .int) zc_Mod_meet Q 0 [.ref 113, .int a, .int b, .retAddr 0, .retAddr 0] [] m) : zCall (dd + 1) m_Mod_meet [.ref 113, .int a, .int b] m Q := ⟨Nat.le_of_ble_eq_true rfl, h⟩
theorem zs_Mod_join : zsrt zc_Mod_join = true := by decide +kernel
set_option maxRecDepth 100000 in
theorem sg_Mod_join_0 {C : zC} {Q : zQ} (hC : zCm C) (a : Int32) (b : Int32) (c : Int32) (m : zM) (h :
    C m_Mod_isPlant [.ref 113, .int a] m (fun o1 m2 => ∃ x3, o1 = some (.int x3) ∧ (if x3 = (0 : Int32) then Q (some (.int (-1 : Int32))) m2
    else C m_Mod_isPlant [.ref 113, .int b] m2 (fun o4 m5 => ∃ x6, o4 = some (.int x6) ∧ (if x6 = (0 : Int32) then Q (some (.int (-1 : Int32))) m5
      else C m_Mod_in [.ref 113, .int c, .int (0 : Int32), .int (1 : Int32)] m5 (fun o7 m8 => ∃ x9, o7 = some (.int x9) ∧ (if ¬ x9 = (0 : Int32) then if ¬ a = b then C m_Mod_whenOf [.ref 113, .int a, .int b] m8 (fun o10 m11 => ∃ x12, o10 = some (.int x12) ∧ (zRun C 9 (some .int) zc_Mod_join Q 51 [.ref 113, .int a, .int b, .int c, .int x12, .int (-5 : Int32), .int (0 : Int32), .retAddr 0, .retAddr 0] [] m11))
          else Q (some (.int (-2 : Int32))) m8
        else Q (some (.int (-1 : Int32))) m8))))))) :
    zRun C 9 (some .int) zc_Mod_join Q 0 [.ref 113, .int a, .int b, .int c, .retAddr 0, .retAddr 0, .retAddr 0, .retAddr 0, .retAddr 0] [] m := zgo [51, 63] hC zs_Mod_join (i := .aload_n 0) (r := zfind zc_Mod_join 1) rfl h
set_option maxRecDepth 100000 in
theorem sg_Mod_join_51 {C : zC} {Q : zQ} (hC : zCm C) (v1 : Int32) (v2 : Int32) (v3 : Int32) (v4 : Int32) (v5 : Int32) (v6 : Int32) (m : zM) (h :
    if (gI m 113 0) ≤ v6 then if ¬ v3 = (0 : Int32) then if (0 : Int32) ≤ v5 then Q (some (.int v4)) m
        else Q (some (.int (-5 : Int32))) m
      else Q (some (.int v5)) m
    else zRun C 9 (some .int) zc_Mod_join Q 63 [.ref 113, .int v1, .int v2, .int v3, .int v4, .int v5, .int v6, .int (0 : Int32), .retAddr 0] [] m) :
    zRun C 9 (some .int) zc_Mod_join Q 51 [.ref 113, .int v1, .int v2, .int v3, .int v4, .int v5, .int v6, .retAddr 0, .retAddr 0] [] m := zgo [51, 63] hC zs_Mod_join (i := .iload 6) (r := zfind zc_Mod_join 53) rfl h
set_option maxRecDepth 100000 in
theorem sg_Mod_join_63 {C : zC} {Q : zQ} (hC : zCm C) (v1 : Int32) (v2 : Int32) (v3 : Int32) (v4 : Int32) (v5 : Int32) (v6 : Int32) (v7 : Int32) (m : zM) (h :
    if (gI m 113 0) ≤ v7 then zRun C 9 (some .int) zc_Mod_join Q 51 [.ref 113, .int v1, .int v2, .int v3, .int v4, .int v5, .int (v6 + (1 : Int32)), .int v7, .retAddr 0] [] m
    else if v6 = v7 then zRun C 9 (some .int) zc_Mod_join Q 63 [.ref 113, .int v1, .int v2, .int v3, .int v4, .int v5, .int v6, .int (v7 + (1 : Int32)), .retAddr 0] [] m
      else vp_in v6 8 ∧ (C m_Mod_has [.ref 113, .int (gI m 116 v6.toNatClampNeg), .int v7] m (fun o1 m2 => ∃ x3, o1 = some (.int x3) ∧ (if x3 = (0 : Int32) then vp_in v6 8 ∧ (vp_in v6 8 ∧ (C m_Mod_whenOf [.ref 113, .int v1, .int v2] (sI m2 116 v6.toNatClampNeg ((gI m2 116 v6.toNatClampNeg) ||| ((1 : Int32) <<< (v7 &&& 31)))) (fun o4 m5 => ∃ x6, o4 = some (.int x6) ∧ (vp_in v6 8 ∧ (vp_in v6 8 ∧ (if x6 < (0 : Int32) then zRun C 9 (some .int) zc_Mod_join Q 63 [.ref 113, .int v1, .int v2, .int v3, .int v4, .int v5, .int v6, .int (v7 + (1 : Int32)), .int x6] [] (sI m5 116 v6.toNatClampNeg ((gI m5 116 v6.toNatClampNeg) &&& (((1 : Int32) <<< (v7 &&& 31)) ^^^ (-1 : Int32))))
          else if v4 < (0 : Int32) then zRun C 9 (some .int) zc_Mod_join Q 63 [.ref 113, .int v1, .int v2, .int v3, .int x6, .int (((10 : Int32) * v6) + v7), .int v6, .int (v7 + (1 : Int32)), .int x6] [] (sI m5 116 v6.toNatClampNeg ((gI m5 116 v6.toNatClampNeg) &&& (((1 : Int32) <<< (v7 &&& 31)) ^^^ (-1 : Int32))))
            else if x6 < v4 then zRun C 9 (some .int) zc_Mod_join Q 63 [.ref 113, .int v1, .int v2, .int v3, .int x6, .int (((10 : Int32) * v6) + v7), .int v6, .int (v7 + (1 : Int32)), .int x6] [] (sI m5 116 v6.toNatClampNeg ((gI m5 116 v6.toNatClampNeg) &&& (((1 : Int32) <<< (v7 &&& 31)) ^^^ (-1 : Int32))))
              else zRun C 9 (some .int) zc_Mod_join Q 63 [.ref 113, .int v1, .int v2, .int v3, .int v4, .int v5, .int v6, .int (v7 + (1 : Int32)), .int x6] [] (sI m5 116 v6.toNatClampNeg ((gI m5 116 v6.toNatClampNeg) &&& (((1 : Int32) <<< (v7 &&& 31)) ^^^ (-1 : Int32))))))))))
        else zRun C 9 (some .int) zc_Mod_join Q 63 [.ref 113, .int v1, .int v2, .int v3, .int v4, .int v5, .int v6, .int (v7 + (1 : Int32)), .retAddr 0] [] m2)))) :
    zRun C 9 (some .int) zc_Mod_join Q 63 [.ref 113, .int v1, .int v2, .int v3, .int v4, .int v5, .int v6, .int v7, .retAddr 0] [] m := zgo [51, 63] hC zs_Mod_join (i := .iload 7) (r := zfind zc_Mod_join 65) rfl h
theorem en_Mod_join (dd : Nat) {Q : zQ} (a : Int32) (b : Int32) (c : Int32) (m : zM) (h : zRun (zCall dd) 9 (some .int) zc_Mod_join Q 0 [.ref 113, .int a, .int b, .int c, .retAddr 0, .retAddr 0, .retAddr 0, .retAddr 0, .retAddr 0] [] m) : zCall (dd + 1) m_Mod_join [.ref 113, .int a, .int b, .int c] m Q := ⟨Nat.le_of_ble_eq_true rfl, h⟩
theorem zs_Mod_listen : zsrt zc_Mod_listen = true := by decide +kernel
set_option maxRecDepth 100000 in
theorem sg_Mod_listen_0 {C : zC} {Q : zQ} (hC : zCm C) (a : Int32) (m : zM) (h :
    C m_Mod_isWord [.ref 113, .int a] m (fun o1 m2 => ∃ x3, o1 = some (.int x3) ∧ (if ¬ x3 = (0 : Int32) then zRun C 9 (some .int) zc_Mod_listen Q 13 [.ref 113, .int a, .int (0 : Int32), .retAddr 0, .retAddr 0, .retAddr 0, .retAddr 0, .retAddr 0, .retAddr 0] [] m2
    else Q (some (.int (-2 : Int32))) m2))) :
    zRun C 9 (some .int) zc_Mod_listen Q 0 [.ref 113, .int a, .retAddr 0, .retAddr 0, .retAddr 0, .retAddr 0, .retAddr 0, .retAddr 0, .retAddr 0] [] m := zgo [13, 29, 104, 119, 134] hC zs_Mod_listen (i := .aload_n 0) (r := zfind zc_Mod_listen 1) rfl h
set_option maxRecDepth 100000 in
theorem sg_Mod_listen_13 {C : zC} {Q : zQ} (hC : zCm C) (v1 : Int32) (v2 : Int32) (m : zM) (h :
    if (gI m 113 0) ≤ v2 then zRun C 9 (some .int) zc_Mod_listen Q 104 [.ref 113, .int v1, .int (-5 : Int32), .int (0 : Int32), .int (0 : Int32), .retAddr 0, .retAddr 0, .retAddr 0, .retAddr 0] [] m
    else C m_Mod_lay [.ref 113, .int v2, .int v1] m (fun o1 m2 => o1 = none ∧ (zRun C 9 (some .int) zc_Mod_listen Q 29 [.ref 113, .int v1, .int v2, .int (0 : Int32), .retAddr 0, .retAddr 0, .retAddr 0, .retAddr 0, .retAddr 0] [] m2))) :
    zRun C 9 (some .int) zc_Mod_listen Q 13 [.ref 113, .int v1, .int v2, .retAddr 0, .retAddr 0, .retAddr 0, .retAddr 0, .retAddr 0, .retAddr 0] [] m := zgo [13, 29, 104, 119, 134] hC zs_Mod_listen (i := .iload_n 2) (r := zfind zc_Mod_listen 14) rfl h
set_option maxRecDepth 100000 in
theorem sg_Mod_listen_29 {C : zC} {Q : zQ} (hC : zCm C) (v1 : Int32) (v2 : Int32) (v3 : Int32) (m : zM) (h :
    if (gI m 113 0) ≤ v3 then zRun C 9 (some .int) zc_Mod_listen Q 13 [.ref 113, .int v1, .int (v2 + (1 : Int32)), .int v3, .retAddr 0, .retAddr 0, .retAddr 0, .retAddr 0, .retAddr 0] [] m
    else vp_in v3 8 ∧ (vp_in (((8 : Int32) * v2) + v3) 64 ∧ (vp_in v3 8 ∧ (if (0 : Int32) ≤ (gI (sI m 134 (((8 : Int32) * v2) + v3).toNatClampNeg (gI m 128 v3.toNatClampNeg)) 128 v3.toNatClampNeg) then vp_in v3 8 ∧ (vp_in (((8 : Int32) * v2) + v3) 64 ∧ (zRun C 9 (some .int) zc_Mod_listen Q 29 [.ref 113, .int v1, .int v2, .int (v3 + (1 : Int32)), .retAddr 0, .retAddr 0, .retAddr 0, .retAddr 0, .retAddr 0] [] (sI (sI m 134 (((8 : Int32) * v2) + v3).toNatClampNeg (gI m 128 v3.toNatClampNeg)) 135 (((8 : Int32) * v2) + v3).toNatClampNeg (gI (sI m 134 (((8 : Int32) * v2) + v3).toNatClampNeg (gI m 128 v3.toNatClampNeg)) 130 v3.toNatClampNeg))))
      else vp_in (((8 : Int32) * v2) + v3) 64 ∧ (zRun C 9 (some .int) zc_Mod_listen Q 29 [.ref 113, .int v1, .int v2, .int (v3 + (1 : Int32)), .retAddr 0, .retAddr 0, .retAddr 0, .retAddr 0, .retAddr 0] [] (sI (sI m 134 (((8 : Int32) * v2) + v3).toNatClampNeg (gI m 128 v3.toNatClampNeg)) 135 (((8 : Int32) * v2) + v3).toNatClampNeg (-1 : Int32))))))) :
    zRun C 9 (some .int) zc_Mod_listen Q 29 [.ref 113, .int v1, .int v2, .int v3, .retAddr 0, .retAddr 0, .retAddr 0, .retAddr 0, .retAddr 0] [] m := zgo [13, 29, 104, 119, 134] hC zs_Mod_listen (i := .iload_n 3) (r := zfind zc_Mod_listen 30) rfl h
set_option maxRecDepth 100000 in
theorem sg_Mod_listen_104 {C : zC} {Q : zQ} (hC : zCm C) (v1 : Int32) (v2 : Int32) (v3 : Int32) (v4 : Int32) (m : zM) (h :
    if (gI m 113 0) ≤ v4 then Q (some (.int v2)) m
    else zRun C 9 (some .int) zc_Mod_listen Q 119 [.ref 113, .int v1, .int v2, .int v3, .int v4, .int (0 : Int32), .int (0 : Int32), .retAddr 0, .retAddr 0] [] m) :
    zRun C 9 (some .int) zc_Mod_listen Q 104 [.ref 113, .int v1, .int v2, .int v3, .int v4, .retAddr 0, .retAddr 0, .retAddr 0, .retAddr 0] [] m := zgo [13, 29, 104, 119, 134] hC zs_Mod_listen (i := .iload 4) (r := zfind zc_Mod_listen 106) rfl h
set_option maxRecDepth 100000 in
theorem sg_Mod_listen_119 {C : zC} {Q : zQ} (hC : zCm C) (v1 : Int32) (v2 : Int32) (v3 : Int32) (v4 : Int32) (v5 : Int32) (v6 : Int32) (m : zM) (h :
    if (gI m 113 0) ≤ v6 then if v3 < v5 then zRun C 9 (some .int) zc_Mod_listen Q 104 [.ref 113, .int v1, .int v4, .int v5, .int (v4 + (1 : Int32)), .int v5, .int v6, .retAddr 0, .retAddr 0] [] m
      else zRun C 9 (some .int) zc_Mod_listen Q 104 [.ref 113, .int v1, .int v2, .int v3, .int (v4 + (1 : Int32)), .int v5, .int v6, .retAddr 0, .retAddr 0] [] m
    else zRun C 9 (some .int) zc_Mod_listen Q 134 [.ref 113, .int v1, .int v2, .int v3, .int v4, .int v5, .int v6, .int (1 : Int32), .int (0 : Int32)] [] m) :
    zRun C 9 (some .int) zc_Mod_listen Q 119 [.ref 113, .int v1, .int v2, .int v3, .int v4, .int v5, .int v6, .retAddr 0, .retAddr 0] [] m := zgo [13, 29, 104, 119, 134] hC zs_Mod_listen (i := .iload 6) (r := zfind zc_Mod_listen 121) rfl h
set_option maxRecDepth 100000 in
theorem sg_Mod_listen_134 {C : zC} {Q : zQ} (hC : zCm C) (v1 : Int32) (v2 : Int32) (v3 : Int32) (v4 : Int32) (v5 : Int32) (v6 : Int32) (v7 : Int32) (v8 : Int32) (m : zM) (h :
    if v6 ≤ v8 then if v7 = (0 : Int32) then zRun C 9 (some .int) zc_Mod_listen Q 119 [.ref 113, .int v1, .int v2, .int v3, .int v4, .int (v5 + (0 : Int32)), .int (v6 + (1 : Int32)), .int v7, .int v8] [] m
      else zRun C 9 (some .int) zc_Mod_listen Q 119 [.ref 113, .int v1, .int v2, .int v3, .int v4, .int (v5 + (1 : Int32)), .int (v6 + (1 : Int32)), .int v7, .int v8] [] m
    else if v7 = (0 : Int32) then zRun C 9 (some .int) zc_Mod_listen Q 134 [.ref 113, .int v1, .int v2, .int v3, .int v4, .int v5, .int v6, .int (0 : Int32), .int (v8 + (1 : Int32))] [] m
      else vp_in (((8 : Int32) * v8) + v4) 64 ∧ (vp_in (((8 : Int32) * v6) + v4) 64 ∧ (if ¬ (gI m 134 (((8 : Int32) * v8) + v4).toNatClampNeg) = (gI m 134 (((8 : Int32) * v6) + v4).toNatClampNeg) then zRun C 9 (some .int) zc_Mod_listen Q 134 [.ref 113, .int v1, .int v2, .int v3, .int v4, .int v5, .int v6, .int (1 : Int32), .int (v8 + (1 : Int32))] [] m
        else vp_in (((8 : Int32) * v8) + v4) 64 ∧ (vp_in (((8 : Int32) * v6) + v4) 64 ∧ (if (gI m 135 (((8 : Int32) * v8) + v4).toNatClampNeg) = (gI m 135 (((8 : Int32) * v6) + v4).toNatClampNeg) then zRun C 9 (some .int) zc_Mod_listen Q 134 [.ref 113, .int v1, .int v2, .int v3, .int v4, .int v5, .int v6, .int (0 : Int32), .int (v8 + (1 : Int32))] [] m
          else zRun C 9 (some .int) zc_Mod_listen Q 134 [.ref 113, .int v1, .int v2, .int v3, .int v4, .int v5, .int v6, .int (1 : Int32), .int (v8 + (1 : Int32))] [] m))))) :
    zRun C 9 (some .int) zc_Mod_listen Q 134 [.ref 113, .int v1, .int v2, .int v3, .int v4, .int v5, .int v6, .int v7, .int v8] [] m := zgo [13, 29, 104, 119, 134] hC zs_Mod_listen (i := .iload 8) (r := zfind zc_Mod_listen 136) rfl h
theorem en_Mod_listen (dd : Nat) {Q : zQ} (a : Int32) (m : zM) (h : zRun (zCall dd) 9 (some .int) zc_Mod_listen Q 0 [.ref 113, .int a, .retAddr 0, .retAddr 0, .retAddr 0, .retAddr 0, .retAddr 0, .retAddr 0, .retAddr 0] [] m) : zCall (dd + 1) m_Mod_listen [.ref 113, .int a] m Q := ⟨Nat.le_of_ble_eq_true rfl, h⟩
theorem zs_Mod_see : zsrt zc_Mod_see = true := by decide +kernel
set_option maxRecDepth 100000 in
theorem sg_Mod_see_0 {C : zC} {Q : zQ} (hC : zCm C) (a : Int32) (b : Int32) (c : Int32) (m : zM) (h :
    if ¬ a = (-1 : Int32) then C m_Mod_isPlant [.ref 113, .int a] m (fun o1 m2 => ∃ x3, o1 = some (.int x3) ∧ (if ¬ x3 = (0 : Int32) then C m_Mod_isWord [.ref 113, .int b] m2 (fun o4 m5 => ∃ x6, o4 = some (.int x6) ∧ (if x6 = (0 : Int32) then Q (some (.int (-2 : Int32))) m5
        else C m_Mod_in [.ref 113, .int c, .int (0 : Int32), .int (9999 : Int32)] m5 (fun o7 m8 => ∃ x9, o7 = some (.int x9) ∧ (if ¬ x9 = (0 : Int32) then if ¬ (gI m8 113 33) = (5 : Int32) then vp_in (gI m8 113 33) 5 ∧ (vp_in (gI (sI m8 136 (gI m8 113 33).toNatClampNeg a) 113 33) 5 ∧ (vp_in (gI (sI (sI m8 136 (gI m8 113 33).toNatClampNeg a) 137 (gI (sI m8 136 (gI m8 113 33).toNatClampNeg a) 113 33).toNatClampNeg b) 113 33) 5 ∧ (Q (some (.int (gI (sI (sI (sI (sI m8 136 (gI m8 113 33).toNatClampNeg a) 137 (gI (sI m8 136 (gI m8 113 33).toNatClampNeg a) 113 33).toNatClampNeg b) 138 (gI (sI (sI m8 136 (gI m8 113 33).toNatClampNeg a) 137 (gI (sI m8 136 (gI m8 113 33).toNatClampNeg a) 113 33).toNatClampNeg b) 113 33).toNatClampNeg c) 113 33 ((gI (sI (sI (sI m8 136 (gI m8 113 33).toNatClampNeg a) 137 (gI (sI m8 136 (gI m8 113 33).toNatClampNeg a) 113 33).toNatClampNeg b) 138 (gI (sI (sI m8 136 (gI m8 113 33).toNatClampNeg a) 137 (gI (sI m8 136 (gI m8 113 33).toNatClampNeg a) 113 33).toNatClampNeg b) 113 33).toNatClampNeg c) 113 33) + (1 : Int32))) 113 33))) (sI (sI (sI (sI m8 136 (gI m8 113 33).toNatClampNeg a) 137 (gI (sI m8 136 (gI m8 113 33).toNatClampNeg a) 113 33).toNatClampNeg b) 138 (gI (sI (sI m8 136 (gI m8 113 33).toNatClampNeg a) 137 (gI (sI m8 136 (gI m8 113 33).toNatClampNeg a) 113 33).toNatClampNeg b) 113 33).toNatClampNeg c) 113 33 ((gI (sI (sI (sI m8 136 (gI m8 113 33).toNatClampNeg a) 137 (gI (sI m8 136 (gI m8 113 33).toNatClampNeg a) 113 33).toNatClampNeg b) 138 (gI (sI (sI m8 136 (gI m8 113 33).toNatClampNeg a) 137 (gI (sI m8 136 (gI m8 113 33).toNatClampNeg a) 113 33).toNatClampNeg b) 113 33).toNatClampNeg c) 113 33) + (1 : Int32))))))
            else Q (some (.int (-4 : Int32))) m8
          else Q (some (.int (-2 : Int32))) m8))))
      else Q (some (.int (-1 : Int32))) m2))
    else Q (some (.int (0 : Int32))) (sI m 113 33 (0 : Int32))) :
    zRun C 9 (some .int) zc_Mod_see Q 0 [.ref 113, .int a, .int b, .int c] [] m := zgo [] hC zs_Mod_see (i := .iload_n 1) (r := zfind zc_Mod_see 1) rfl h
theorem en_Mod_see (dd : Nat) {Q : zQ} (a : Int32) (b : Int32) (c : Int32) (m : zM) (h : zRun (zCall dd) 9 (some .int) zc_Mod_see Q 0 [.ref 113, .int a, .int b, .int c] [] m) : zCall (dd + 1) m_Mod_see [.ref 113, .int a, .int b, .int c] m Q := ⟨Nat.le_of_ble_eq_true rfl, h⟩
theorem zs_Mod_who : zsrt zc_Mod_who = true := by decide +kernel
set_option maxRecDepth 100000 in
theorem sg_Mod_who_0 {C : zC} {Q : zQ} (hC : zCm C) (a : Int32) (m : zM) (h :
    C m_Mod_in [.ref 113, .int a, .int (0 : Int32), .int (1 : Int32)] m (fun o1 m2 => ∃ x3, o1 = some (.int x3) ∧ (if ¬ x3 = (0 : Int32) then zRun C 9 (some .int) zc_Mod_who Q 20 [.ref 113, .int a, .int (0 : Int32), .int (-5 : Int32), .int (0 : Int32), .retAddr 0, .retAddr 0, .retAddr 0] [] m2
    else Q (some (.int (-1 : Int32))) m2))) :
    zRun C 9 (some .int) zc_Mod_who Q 0 [.ref 113, .int a, .retAddr 0, .retAddr 0, .retAddr 0, .retAddr 0, .retAddr 0, .retAddr 0] [] m := zgo [20, 32, 53] hC zs_Mod_who (i := .aload_n 0) (r := zfind zc_Mod_who 1) rfl h
set_option maxRecDepth 100000 in
theorem sg_Mod_who_20 {C : zC} {Q : zQ} (hC : zCm C) (v1 : Int32) (v2 : Int32) (v3 : Int32) (v4 : Int32) (m : zM) (h :
    if (gI m 113 0) ≤ v4 then if ¬ v1 = (0 : Int32) then Q (some (.int v3)) m
      else Q (some (.int v2)) m
    else zRun C 9 (some .int) zc_Mod_who Q 32 [.ref 113, .int v1, .int v2, .int v3, .int v4, .int (0 : Int32), .retAddr 0, .retAddr 0] [] m) :
    zRun C 9 (some .int) zc_Mod_who Q 20 [.ref 113, .int v1, .int v2, .int v3, .int v4, .retAddr 0, .retAddr 0, .retAddr 0] [] m := zgo [20, 32, 53] hC zs_Mod_who (i := .iload 4) (r := zfind zc_Mod_who 22) rfl h
set_option maxRecDepth 100000 in
theorem sg_Mod_who_32 {C : zC} {Q : zQ} (hC : zCm C) (v1 : Int32) (v2 : Int32) (v3 : Int32) (v4 : Int32) (v5 : Int32) (m : zM) (h :
    if (100 : Int32) ≤ v5 then zRun C 9 (some .int) zc_Mod_who Q 20 [.ref 113, .int v1, .int v2, .int v3, .int (v4 + (1 : Int32)), .int v5, .retAddr 0, .retAddr 0] [] m
    else C m_Mod_lay [.ref 113, .int v4, .int v5] m (fun o1 m2 => o1 = none ∧ (zRun C 9 (some .int) zc_Mod_who Q 53 [.ref 113, .int v1, .int v2, .int v3, .int v4, .int v5, .int (1 : Int32), .int (0 : Int32)] [] m2))) :
    zRun C 9 (some .int) zc_Mod_who Q 32 [.ref 113, .int v1, .int v2, .int v3, .int v4, .int v5, .retAddr 0, .retAddr 0] [] m := zgo [20, 32, 53] hC zs_Mod_who (i := .iload 5) (r := zfind zc_Mod_who 34) rfl h
set_option maxRecDepth 100000 in
theorem sg_Mod_who_53 {C : zC} {Q : zQ} (hC : zCm C) (v1 : Int32) (v2 : Int32) (v3 : Int32) (v4 : Int32) (v5 : Int32) (v6 : Int32) (v7 : Int32) (m : zM) (h :
    if (gI m 113 33) ≤ v7 then if ¬ v6 = (0 : Int32) then if ¬ v2 = (0 : Int32) then zRun C 9 (some .int) zc_Mod_who Q 32 [.ref 113, .int v1, .int (v2 + (1 : Int32)), .int v3, .int v4, .int (v5 + (1 : Int32)), .int v6, .int v7] [] m
        else zRun C 9 (some .int) zc_Mod_who Q 32 [.ref 113, .int v1, .int (v2 + (1 : Int32)), .int (((100 : Int32) * v4) + v5), .int v4, .int (v5 + (1 : Int32)), .int v6, .int v7] [] m
      else zRun C 9 (some .int) zc_Mod_who Q 32 [.ref 113, .int v1, .int v2, .int v3, .int v4, .int (v5 + (1 : Int32)), .int v6, .int v7] [] m
    else if v6 = (0 : Int32) then if ¬ v6 = (0 : Int32) then if ¬ v2 = (0 : Int32) then zRun C 9 (some .int) zc_Mod_who Q 32 [.ref 113, .int v1, .int (v2 + (1 : Int32)), .int v3, .int v4, .int (v5 + (1 : Int32)), .int v6, .int v7] [] m
          else zRun C 9 (some .int) zc_Mod_who Q 32 [.ref 113, .int v1, .int (v2 + (1 : Int32)), .int (((100 : Int32) * v4) + v5), .int v4, .int (v5 + (1 : Int32)), .int v6, .int v7] [] m
        else zRun C 9 (some .int) zc_Mod_who Q 32 [.ref 113, .int v1, .int v2, .int v3, .int v4, .int (v5 + (1 : Int32)), .int v6, .int v7] [] m
      else vp_in v7 5 ∧ (vp_in (gI m 136 v7.toNatClampNeg) 8 ∧ (vp_in v7 5 ∧ (if ¬ (gI m 128 (gI m 136 v7.toNatClampNeg).toNatClampNeg) = (gI m 138 v7.toNatClampNeg) then zRun C 9 (some .int) zc_Mod_who Q 53 [.ref 113, .int v1, .int v2, .int v3, .int v4, .int v5, .int (0 : Int32), .int (v7 + (1 : Int32))] [] m
        else vp_in v7 5 ∧ (vp_in (gI m 136 v7.toNatClampNeg) 8 ∧ (vp_in v7 5 ∧ (if ¬ (gI m 130 (gI m 136 v7.toNatClampNeg).toNatClampNeg) = (gI m 137 v7.toNatClampNeg) then zRun C 9 (some .int) zc_Mod_who Q 53 [.ref 113, .int v1, .int v2, .int v3, .int v4, .int v5, .int (0 : Int32), .int (v7 + (1 : Int32))] [] m
          else zRun C 9 (some .int) zc_Mod_who Q 53 [.ref 113, .int v1, .int v2, .int v3, .int v4, .int v5, .int (1 : Int32), .int (v7 + (1 : Int32))] [] m))))))) :
    zRun C 9 (some .int) zc_Mod_who Q 53 [.ref 113, .int v1, .int v2, .int v3, .int v4, .int v5, .int v6, .int v7] [] m := zgo [20, 32, 53] hC zs_Mod_who (i := .iload 7) (r := zfind zc_Mod_who 55) rfl h
theorem en_Mod_who (dd : Nat) {Q : zQ} (a : Int32) (m : zM) (h : zRun (zCall dd) 9 (some .int) zc_Mod_who Q 0 [.ref 113, .int a, .retAddr 0, .retAddr 0, .retAddr 0, .retAddr 0, .retAddr 0, .retAddr 0] [] m) : zCall (dd + 1) m_Mod_who [.ref 113, .int a] m Q := ⟨Nat.le_of_ble_eq_true rfl, h⟩
theorem zs_Mod_divisor : zsrt zc_Mod_divisor = true := by decide +kernel
set_option maxRecDepth 100000 in
theorem sg_Mod_divisor_0 {C : zC} {Q : zQ} (hC : zCm C) (a : Int32) (b : Int32) (m : zM) (h :
    zRun C 9 (some .int) zc_Mod_divisor Q 5 [.ref 113, .int a, .int b, .int a, .int b, .retAddr 0] [] m) :
    zRun C 9 (some .int) zc_Mod_divisor Q 0 [.ref 113, .int a, .int b, .retAddr 0, .retAddr 0, .retAddr 0] [] m := zgo [5] hC zs_Mod_divisor (i := .iload_n 1) (r := zfind zc_Mod_divisor 1) rfl h
set_option maxRecDepth 100000 in
theorem sg_Mod_divisor_5 {C : zC} {Q : zQ} (hC : zCm C) (v1 : Int32) (v2 : Int32) (v3 : Int32) (v4 : Int32) (m : zM) (h :
    if v4 = (0 : Int32) then Q (some (.int v3)) m
    else ¬ v4 = 0 ∧ (zRun C 9 (some .int) zc_Mod_divisor Q 5 [.ref 113, .int v1, .int v2, .int v4, .int (v3 - v3 / v4 * v4), .int (v3 - v3 / v4 * v4)] [] m)) :
    zRun C 9 (some .int) zc_Mod_divisor Q 5 [.ref 113, .int v1, .int v2, .int v3, .int v4, .retAddr 0] [] m := zgo [5] hC zs_Mod_divisor (i := .iload 4) (r := zfind zc_Mod_divisor 7) rfl h
theorem en_Mod_divisor (dd : Nat) {Q : zQ} (a : Int32) (b : Int32) (m : zM) (h : zRun (zCall dd) 9 (some .int) zc_Mod_divisor Q 0 [.ref 113, .int a, .int b, .retAddr 0, .retAddr 0, .retAddr 0] [] m) : zCall (dd + 1) m_Mod_divisor [.ref 113, .int a, .int b] m Q := ⟨Nat.le_of_ble_eq_true rfl, h⟩
theorem zs_Mod_lowest : zsrt zc_Mod_lowest = true := by decide +kernel
set_option maxRecDepth 100000 in
theorem sg_Mod_lowest_0 {C : zC} {Q : zQ} (hC : zCm C) (a : Int32) (b : Int32) (c : Int32) (m : zM) (h :
    C m_Mod_divisor [.ref 113, .int a, .int b] m (fun o1 m2 => ∃ x3, o1 = some (.int x3) ∧ (if ¬ c = (0 : Int32) then ¬ x3 = 0 ∧ (Q (some (.long ((b / x3).toInt64))) m2)
    else ¬ x3 = 0 ∧ (Q (some (.long ((a / x3).toInt64))) m2)))) :
    zRun C 9 (some .long) zc_Mod_lowest Q 0 [.ref 113, .int a, .int b, .int c, .retAddr 0] [] m := zgo [] hC zs_Mod_lowest (i := .aload_n 0) (r := zfind zc_Mod_lowest 1) rfl h
theorem en_Mod_lowest (dd : Nat) {Q : zQ} (a : Int32) (b : Int32) (c : Int32) (m : zM) (h : zRun (zCall dd) 9 (some .long) zc_Mod_lowest Q 0 [.ref 113, .int a, .int b, .int c, .retAddr 0] [] m) : zCall (dd + 1) m_Mod_lowest [.ref 113, .int a, .int b, .int c] m Q := ⟨Nat.le_of_ble_eq_true rfl, h⟩
theorem zs_Mod_odds : zsrt zc_Mod_odds = true := by decide +kernel
set_option maxRecDepth 100000 in
theorem sg_Mod_odds_0 {C : zC} {Q : zQ} (hC : zCm C) (a : Int32) (b : Int32) (c : Int32) (m : zM) (h :
    C m_Mod_isPlant [.ref 113, .int a] m (fun o1 m2 => ∃ x3, o1 = some (.int x3) ∧ (if x3 = (0 : Int32) then Q (some (.long (-9223372036854775808 : Int64))) m2
    else C m_Mod_isPlant [.ref 113, .int b] m2 (fun o4 m5 => ∃ x6, o4 = some (.int x6) ∧ (if x6 = (0 : Int32) then Q (some (.long (-9223372036854775808 : Int64))) m5
      else C m_Mod_in [.ref 113, .int c, .int (0 : Int32), .int (1 : Int32)] m5 (fun o7 m8 => ∃ x9, o7 = some (.int x9) ∧ (if x9 = (0 : Int32) then Q (some (.long (-9223372036854775808 : Int64))) m8
        else if ¬ a = b then zRun C 9 (some .long) zc_Mod_odds Q 44 [.ref 113, .int a, .int b, .int c, .int (0 : Int32), .int (0 : Int32), .int (0 : Int32)] [] m8
          else Q (some (.long (-9223372036854775808 : Int64))) m8))))))) :
    zRun C 9 (some .long) zc_Mod_odds Q 0 [.ref 113, .int a, .int b, .int c, .retAddr 0, .retAddr 0, .retAddr 0] [] m := zgo [44] hC zs_Mod_odds (i := .aload_n 0) (r := zfind zc_Mod_odds 1) rfl h
set_option maxRecDepth 100000 in
theorem sg_Mod_odds_44 {C : zC} {Q : zQ} (hC : zCm C) (v1 : Int32) (v2 : Int32) (v3 : Int32) (v4 : Int32) (v5 : Int32) (v6 : Int32) (m : zM) (h :
    if (gI m 113 0) ≤ v6 then if ¬ v5 = (0 : Int32) then C m_Mod_lowest [.ref 113, .int v4, .int v5, .int v3] m (fun o1 m2 => ∃ y3, o1 = some (.long y3) ∧ (Q (some (.long y3)) m2))
      else Q (some (.long (-9223372036854775808 : Int64))) m
    else if v6 = v1 then zRun C 9 (some .long) zc_Mod_odds Q 44 [.ref 113, .int v1, .int v2, .int v3, .int v4, .int v5, .int (v6 + (1 : Int32))] [] m
      else if v6 = v2 then zRun C 9 (some .long) zc_Mod_odds Q 44 [.ref 113, .int v1, .int v2, .int v3, .int v4, .int v5, .int (v6 + (1 : Int32))] [] m
        else C m_Mod_has [.ref 113, .int (gI m 113 2), .int v6] m (fun o4 m5 => ∃ x6, o4 = some (.int x6) ∧ (if x6 = (0 : Int32) then C m_Mod_isCutBy [.ref 113, .int v1, .int v2, .int ((1 : Int32) <<< (v6 &&& 31))] m5 (fun o7 m8 => ∃ x9, o7 = some (.int x9) ∧ (if x9 = (0 : Int32) then zRun C 9 (some .long) zc_Mod_odds Q 44 [.ref 113, .int v1, .int v2, .int v3, .int (v4 + (1 : Int32)), .int (v5 + (1 : Int32)), .int (v6 + (1 : Int32))] [] m8
            else zRun C 9 (some .long) zc_Mod_odds Q 44 [.ref 113, .int v1, .int v2, .int v3, .int (v4 + (0 : Int32)), .int (v5 + (1 : Int32)), .int (v6 + (1 : Int32))] [] m8))
          else zRun C 9 (some .long) zc_Mod_odds Q 44 [.ref 113, .int v1, .int v2, .int v3, .int v4, .int v5, .int (v6 + (1 : Int32))] [] m5))) :
    zRun C 9 (some .long) zc_Mod_odds Q 44 [.ref 113, .int v1, .int v2, .int v3, .int v4, .int v5, .int v6] [] m := zgo [44] hC zs_Mod_odds (i := .iload 6) (r := zfind zc_Mod_odds 46) rfl h
theorem en_Mod_odds (dd : Nat) {Q : zQ} (a : Int32) (b : Int32) (c : Int32) (m : zM) (h : zRun (zCall dd) 9 (some .long) zc_Mod_odds Q 0 [.ref 113, .int a, .int b, .int c, .retAddr 0, .retAddr 0, .retAddr 0] [] m) : zCall (dd + 1) m_Mod_odds [.ref 113, .int a, .int b, .int c] m Q := ⟨Nat.le_of_ble_eq_true rfl, h⟩
theorem zs_Mod_mean : zsrt zc_Mod_mean = true := by decide +kernel
set_option maxRecDepth 100000 in
theorem sg_Mod_mean_0 {C : zC} {Q : zQ} (hC : zCm C) (a : Int32) (b : Int32) (m : zM) (h :
    C m_Mod_isPlant [.ref 113, .int a] m (fun o1 m2 => ∃ x3, o1 = some (.int x3) ∧ (if x3 = (0 : Int32) then Q (some (.long (-9223372036854775808 : Int64))) m2
    else C m_Mod_in [.ref 113, .int b, .int (0 : Int32), .int (1 : Int32)] m2 (fun o4 m5 => ∃ x6, o4 = some (.int x6) ∧ (if ¬ x6 = (0 : Int32) then C m_Mod_lay [.ref 113, .int a, .int (0 : Int32)] m5 (fun o7 m8 => o7 = none ∧ (zRun C 9 (some .long) zc_Mod_mean Q 36 [.ref 113, .int a, .int b, .int (0 : Int32), .int (0 : Int32), .int (0 : Int32)] [] m8))
      else Q (some (.long (-9223372036854775808 : Int64))) m5))))) :
    zRun C 9 (some .long) zc_Mod_mean Q 0 [.ref 113, .int a, .int b, .retAddr 0, .retAddr 0, .retAddr 0] [] m := zgo [36] hC zs_Mod_mean (i := .aload_n 0) (r := zfind zc_Mod_mean 1) rfl h
set_option maxRecDepth 100000 in
theorem sg_Mod_mean_36 {C : zC} {Q : zQ} (hC : zCm C) (v1 : Int32) (v2 : Int32) (v3 : Int32) (v4 : Int32) (v5 : Int32) (m : zM) (h :
    if (gI m 113 0) ≤ v5 then if ¬ v4 = (0 : Int32) then C m_Mod_lowest [.ref 113, .int v3, .int v4, .int v2] m (fun o1 m2 => ∃ y3, o1 = some (.long y3) ∧ (Q (some (.long y3)) m2))
      else Q (some (.long (-9223372036854775808 : Int64))) m
    else vp_in v5 8 ∧ (if (0 : Int32) ≤ (gI m 128 v5.toNatClampNeg) then vp_in v5 8 ∧ (zRun C 9 (some .long) zc_Mod_mean Q 36 [.ref 113, .int v1, .int v2, .int (v3 + (gI m 128 v5.toNatClampNeg)), .int (v4 + (1 : Int32)), .int (v5 + (1 : Int32))] [] m)
      else zRun C 9 (some .long) zc_Mod_mean Q 36 [.ref 113, .int v1, .int v2, .int v3, .int v4, .int (v5 + (1 : Int32))] [] m)) :
    zRun C 9 (some .long) zc_Mod_mean Q 36 [.ref 113, .int v1, .int v2, .int v3, .int v4, .int v5] [] m := zgo [36] hC zs_Mod_mean (i := .iload 5) (r := zfind zc_Mod_mean 38) rfl h
theorem en_Mod_mean (dd : Nat) {Q : zQ} (a : Int32) (b : Int32) (m : zM) (h : zRun (zCall dd) 9 (some .long) zc_Mod_mean Q 0 [.ref 113, .int a, .int b, .retAddr 0, .retAddr 0, .retAddr 0] [] m) : zCall (dd + 1) m_Mod_mean [.ref 113, .int a, .int b] m Q := ⟨Nat.le_of_ble_eq_true rfl, h⟩
theorem zs_Mod_plan : zsrt zc_Mod_plan = true := by decide +kernel
set_option maxRecDepth 100000 in
theorem sg_Mod_plan_0 {C : zC} {Q : zQ} (hC : zCm C) (a : Int32) (b : Int32) (m : zM) (h :
    if ¬ a = (-1 : Int32) then C m_Mod_in [.ref 113, .int a, .int (0 : Int32), .int (2 : Int32)] m (fun o1 m2 => ∃ x3, o1 = some (.int x3) ∧ (if x3 = (0 : Int32) then Q (some (.int (-1 : Int32))) m2
      else if (2 : Int32) ≤ a then if ¬ (gI m2 113 37) = (8 : Int32) then vp_in (gI m2 113 37) 8 ∧ (if (2 : Int32) ≤ a then vp_in (gI (sI m2 139 (gI m2 113 37).toNatClampNeg a) 113 37) 8 ∧ (Q (some (.int (gI (sI (sI (sI m2 139 (gI m2 113 37).toNatClampNeg a) 140 (gI (sI m2 139 (gI m2 113 37).toNatClampNeg a) 113 37).toNatClampNeg (0 : Int32)) 113 37 ((gI (sI (sI m2 139 (gI m2 113 37).toNatClampNeg a) 140 (gI (sI m2 139 (gI m2 113 37).toNatClampNeg a) 113 37).toNatClampNeg (0 : Int32)) 113 37) + (1 : Int32))) 113 37))) (sI (sI (sI m2 139 (gI m2 113 37).toNatClampNeg a) 140 (gI (sI m2 139 (gI m2 113 37).toNatClampNeg a) 113 37).toNatClampNeg (0 : Int32)) 113 37 ((gI (sI (sI m2 139 (gI m2 113 37).toNatClampNeg a) 140 (gI (sI m2 139 (gI m2 113 37).toNatClampNeg a) 113 37).toNatClampNeg (0 : Int32)) 113 37) + (1 : Int32))))
            else vp_in (gI (sI m2 139 (gI m2 113 37).toNatClampNeg a) 113 37) 8 ∧ (Q (some (.int (gI (sI (sI (sI m2 139 (gI m2 113 37).toNatClampNeg a) 140 (gI (sI m2 139 (gI m2 113 37).toNatClampNeg a) 113 37).toNatClampNeg b) 113 37 ((gI (sI (sI m2 139 (gI m2 113 37).toNatClampNeg a) 140 (gI (sI m2 139 (gI m2 113 37).toNatClampNeg a) 113 37).toNatClampNeg b) 113 37) + (1 : Int32))) 113 37))) (sI (sI (sI m2 139 (gI m2 113 37).toNatClampNeg a) 140 (gI (sI m2 139 (gI m2 113 37).toNatClampNeg a) 113 37).toNatClampNeg b) 113 37 ((gI (sI (sI m2 139 (gI m2 113 37).toNatClampNeg a) 140 (gI (sI m2 139 (gI m2 113 37).toNatClampNeg a) 113 37).toNatClampNeg b) 113 37) + (1 : Int32)))))
          else Q (some (.int (-4 : Int32))) m2
        else C m_Mod_isPlant [.ref 113, .int b] m2 (fun o4 m5 => ∃ x6, o4 = some (.int x6) ∧ (if ¬ x6 = (0 : Int32) then if ¬ (gI m5 113 37) = (8 : Int32) then vp_in (gI m5 113 37) 8 ∧ (if (2 : Int32) ≤ a then vp_in (gI (sI m5 139 (gI m5 113 37).toNatClampNeg a) 113 37) 8 ∧ (Q (some (.int (gI (sI (sI (sI m5 139 (gI m5 113 37).toNatClampNeg a) 140 (gI (sI m5 139 (gI m5 113 37).toNatClampNeg a) 113 37).toNatClampNeg (0 : Int32)) 113 37 ((gI (sI (sI m5 139 (gI m5 113 37).toNatClampNeg a) 140 (gI (sI m5 139 (gI m5 113 37).toNatClampNeg a) 113 37).toNatClampNeg (0 : Int32)) 113 37) + (1 : Int32))) 113 37))) (sI (sI (sI m5 139 (gI m5 113 37).toNatClampNeg a) 140 (gI (sI m5 139 (gI m5 113 37).toNatClampNeg a) 113 37).toNatClampNeg (0 : Int32)) 113 37 ((gI (sI (sI m5 139 (gI m5 113 37).toNatClampNeg a) 140 (gI (sI m5 139 (gI m5 113 37).toNatClampNeg a) 113 37).toNatClampNeg (0 : Int32)) 113 37) + (1 : Int32))))
              else vp_in (gI (sI m5 139 (gI m5 113 37).toNatClampNeg a) 113 37) 8 ∧ (Q (some (.int (gI (sI (sI (sI m5 139 (gI m5 113 37).toNatClampNeg a) 140 (gI (sI m5 139 (gI m5 113 37).toNatClampNeg a) 113 37).toNatClampNeg b) 113 37 ((gI (sI (sI m5 139 (gI m5 113 37).toNatClampNeg a) 140 (gI (sI m5 139 (gI m5 113 37).toNatClampNeg a) 113 37).toNatClampNeg b) 113 37) + (1 : Int32))) 113 37))) (sI (sI (sI m5 139 (gI m5 113 37).toNatClampNeg a) 140 (gI (sI m5 139 (gI m5 113 37).toNatClampNeg a) 113 37).toNatClampNeg b) 113 37 ((gI (sI (sI m5 139 (gI m5 113 37).toNatClampNeg a) 140 (gI (sI m5 139 (gI m5 113 37).toNatClampNeg a) 113 37).toNatClampNeg b) 113 37) + (1 : Int32)))))
            else Q (some (.int (-4 : Int32))) m5
          else Q (some (.int (-1 : Int32))) m5))))
    else Q (some (.int (0 : Int32))) (sI m 113 37 (0 : Int32))) :
    zRun C 9 (some .int) zc_Mod_plan Q 0 [.ref 113, .int a, .int b] [] m := zgo [] hC zs_Mod_plan (i := .iload_n 1) (r := zfind zc_Mod_plan 1) rfl h
theorem en_Mod_plan (dd : Nat) {Q : zQ} (a : Int32) (b : Int32) (m : zM) (h : zRun (zCall dd) 9 (some .int) zc_Mod_plan Q 0 [.ref 113, .int a, .int b] [] m) : zCall (dd + 1) m_Mod_plan [.ref 113, .int a, .int b] m Q := ⟨Nat.le_of_ble_eq_true rfl, h⟩
theorem zs_Mod_planned : zsrt zc_Mod_planned = true := by decide +kernel
set_option maxRecDepth 100000 in
theorem sg_Mod_planned_0 {C : zC} {Q : zQ} (hC : zCm C) (a : Int32) (b : Int32) (m : zM) (h :
    C m_Mod_isPlant [.ref 113, .int a] m (fun o1 m2 => ∃ x3, o1 = some (.int x3) ∧ (if x3 = (0 : Int32) then Q (some (.int (-1 : Int32))) m2
    else C m_Mod_isPlant [.ref 113, .int b] m2 (fun o4 m5 => ∃ x6, o4 = some (.int x6) ∧ (if ¬ x6 = (0 : Int32) then zRun C 9 (some .int) zc_Mod_planned Q 32 [.ref 113, .int a, .int b, .int (gI m5 113 2), .int (gI m5 113 1), .int (0 : Int32)] [] m5
      else Q (some (.int (-1 : Int32))) m5))))) :
    zRun C 9 (some .int) zc_Mod_planned Q 0 [.ref 113, .int a, .int b, .retAddr 0, .retAddr 0, .retAddr 0] [] m := zgo [32] hC zs_Mod_planned (i := .aload_n 0) (r := zfind zc_Mod_planned 1) rfl h
set_option maxRecDepth 100000 in
theorem sg_Mod_planned_32 {C : zC} {Q : zQ} (hC : zCm C) (v1 : Int32) (v2 : Int32) (v3 : Int32) (v4 : Int32) (v5 : Int32) (m : zM) (h :
    if (gI m 113 37) ≤ v5 then C m_Mod_whenOf [.ref 113, .int v1, .int v2] m (fun o1 m2 => ∃ x3, o1 = some (.int x3) ∧ (Q (some (.int x3)) (sI (sI m2 113 2 v3) 113 1 v4)))
    else vp_in v5 8 ∧ (if ¬ (gI m 139 v5.toNatClampNeg) = (0 : Int32) then vp_in v5 8 ∧ (if ¬ (gI m 139 v5.toNatClampNeg) = (1 : Int32) then vp_in v5 8 ∧ (if ¬ (gI m 139 v5.toNatClampNeg) = (2 : Int32) then zRun C 9 (some .int) zc_Mod_planned Q 32 [.ref 113, .int v1, .int v2, .int v3, .int v4, .int (v5 + (1 : Int32))] [] m
          else zRun C 9 (some .int) zc_Mod_planned Q 32 [.ref 113, .int v1, .int v2, .int v3, .int v4, .int (v5 + (1 : Int32))] [] (sI m 113 1 ((gI m 113 1) + (6 : Int32))))
        else vp_in v5 8 ∧ (vp_in v5 8 ∧ (if ¬ (gI (sI m 113 2 ((gI m 113 2) &&& (((1 : Int32) <<< ((gI m 140 v5.toNatClampNeg) &&& 31)) ^^^ (-1 : Int32)))) 139 v5.toNatClampNeg) = (2 : Int32) then zRun C 9 (some .int) zc_Mod_planned Q 32 [.ref 113, .int v1, .int v2, .int v3, .int v4, .int (v5 + (1 : Int32))] [] (sI m 113 2 ((gI m 113 2) &&& (((1 : Int32) <<< ((gI m 140 v5.toNatClampNeg) &&& 31)) ^^^ (-1 : Int32))))
          else zRun C 9 (some .int) zc_Mod_planned Q 32 [.ref 113, .int v1, .int v2, .int v3, .int v4, .int (v5 + (1 : Int32))] [] (sI (sI m 113 2 ((gI m 113 2) &&& (((1 : Int32) <<< ((gI m 140 v5.toNatClampNeg) &&& 31)) ^^^ (-1 : Int32)))) 113 1 ((gI (sI m 113 2 ((gI m 113 2) &&& (((1 : Int32) <<< ((gI m 140 v5.toNatClampNeg) &&& 31)) ^^^ (-1 : Int32)))) 113 1) + (6 : Int32))))))
      else vp_in v5 8 ∧ (vp_in v5 8 ∧ (if ¬ (gI (sI m 113 2 ((gI m 113 2) ||| ((1 : Int32) <<< ((gI m 140 v5.toNatClampNeg) &&& 31)))) 139 v5.toNatClampNeg) = (1 : Int32) then vp_in v5 8 ∧ (if ¬ (gI (sI m 113 2 ((gI m 113 2) ||| ((1 : Int32) <<< ((gI m 140 v5.toNatClampNeg) &&& 31)))) 139 v5.toNatClampNeg) = (2 : Int32) then zRun C 9 (some .int) zc_Mod_planned Q 32 [.ref 113, .int v1, .int v2, .int v3, .int v4, .int (v5 + (1 : Int32))] [] (sI m 113 2 ((gI m 113 2) ||| ((1 : Int32) <<< ((gI m 140 v5.toNatClampNeg) &&& 31))))
          else zRun C 9 (some .int) zc_Mod_planned Q 32 [.ref 113, .int v1, .int v2, .int v3, .int v4, .int (v5 + (1 : Int32))] [] (sI (sI m 113 2 ((gI m 113 2) ||| ((1 : Int32) <<< ((gI m 140 v5.toNatClampNeg) &&& 31)))) 113 1 ((gI (sI m 113 2 ((gI m 113 2) ||| ((1 : Int32) <<< ((gI m 140 v5.toNatClampNeg) &&& 31)))) 113 1) + (6 : Int32))))
        else vp_in v5 8 ∧ (vp_in v5 8 ∧ (if ¬ (gI (sI (sI m 113 2 ((gI m 113 2) ||| ((1 : Int32) <<< ((gI m 140 v5.toNatClampNeg) &&& 31)))) 113 2 ((gI (sI m 113 2 ((gI m 113 2) ||| ((1 : Int32) <<< ((gI m 140 v5.toNatClampNeg) &&& 31)))) 113 2) &&& (((1 : Int32) <<< ((gI (sI m 113 2 ((gI m 113 2) ||| ((1 : Int32) <<< ((gI m 140 v5.toNatClampNeg) &&& 31)))) 140 v5.toNatClampNeg) &&& 31)) ^^^ (-1 : Int32)))) 139 v5.toNatClampNeg) = (2 : Int32) then zRun C 9 (some .int) zc_Mod_planned Q 32 [.ref 113, .int v1, .int v2, .int v3, .int v4, .int (v5 + (1 : Int32))] [] (sI (sI m 113 2 ((gI m 113 2) ||| ((1 : Int32) <<< ((gI m 140 v5.toNatClampNeg) &&& 31)))) 113 2 ((gI (sI m 113 2 ((gI m 113 2) ||| ((1 : Int32) <<< ((gI m 140 v5.toNatClampNeg) &&& 31)))) 113 2) &&& (((1 : Int32) <<< ((gI (sI m 113 2 ((gI m 113 2) ||| ((1 : Int32) <<< ((gI m 140 v5.toNatClampNeg) &&& 31)))) 140 v5.toNatClampNeg) &&& 31)) ^^^ (-1 : Int32))))
          else zRun C 9 (some .int) zc_Mod_planned Q 32 [.ref 113, .int v1, .int v2, .int v3, .int v4, .int (v5 + (1 : Int32))] [] (sI (sI (sI m 113 2 ((gI m 113 2) ||| ((1 : Int32) <<< ((gI m 140 v5.toNatClampNeg) &&& 31)))) 113 2 ((gI (sI m 113 2 ((gI m 113 2) ||| ((1 : Int32) <<< ((gI m 140 v5.toNatClampNeg) &&& 31)))) 113 2) &&& (((1 : Int32) <<< ((gI (sI m 113 2 ((gI m 113 2) ||| ((1 : Int32) <<< ((gI m 140 v5.toNatClampNeg) &&& 31)))) 140 v5.toNatClampNeg) &&& 31)) ^^^ (-1 : Int32)))) 113 1 ((gI (sI (sI m 113 2 ((gI m 113 2) ||| ((1 : Int32) <<< ((gI m 140 v5.toNatClampNeg) &&& 31)))) 113 2 ((gI (sI m 113 2 ((gI m 113 2) ||| ((1 : Int32) <<< ((gI m 140 v5.toNatClampNeg) &&& 31)))) 113 2) &&& (((1 : Int32) <<< ((gI (sI m 113 2 ((gI m 113 2) ||| ((1 : Int32) <<< ((gI m 140 v5.toNatClampNeg) &&& 31)))) 140 v5.toNatClampNeg) &&& 31)) ^^^ (-1 : Int32)))) 113 1) + (6 : Int32))))))))) :
    zRun C 9 (some .int) zc_Mod_planned Q 32 [.ref 113, .int v1, .int v2, .int v3, .int v4, .int v5] [] m := zgo [32] hC zs_Mod_planned (i := .iload 5) (r := zfind zc_Mod_planned 34) rfl h
theorem en_Mod_planned (dd : Nat) {Q : zQ} (a : Int32) (b : Int32) (m : zM) (h : zRun (zCall dd) 9 (some .int) zc_Mod_planned Q 0 [.ref 113, .int a, .int b, .retAddr 0, .retAddr 0, .retAddr 0] [] m) : zCall (dd + 1) m_Mod_planned [.ref 113, .int a, .int b] m Q := ⟨Nat.le_of_ble_eq_true rfl, h⟩
theorem zs_Mod_book : zsrt zc_Mod_book = true := by decide +kernel
set_option maxRecDepth 100000 in
theorem sg_Mod_book_0 {C : zC} {Q : zQ} (hC : zCm C) (a : Int32) (b : Int32) (c : Int32) (m : zM) (h :
    if ¬ a = (-1 : Int32) then C m_Mod_isPlant [.ref 113, .int a] m (fun o1 m2 => ∃ x3, o1 = some (.int x3) ∧ (if x3 = (0 : Int32) then Q (some (.int (-1 : Int32))) m2
      else C m_Mod_isPlant [.ref 113, .int b] m2 (fun o4 m5 => ∃ x6, o4 = some (.int x6) ∧ (if ¬ x6 = (0 : Int32) then C m_Mod_in [.ref 113, .int c, .int (0 : Int32), .int (9999 : Int32)] m5 (fun o7 m8 => ∃ x9, o7 = some (.int x9) ∧ (if ¬ x9 = (0 : Int32) then if ¬ (gI m8 113 38) = (8 : Int32) then vp_in (gI m8 113 38) 8 ∧ (vp_in (gI (sI m8 141 (gI m8 113 38).toNatClampNeg a) 113 38) 8 ∧ (vp_in (gI (sI (sI m8 141 (gI m8 113 38).toNatClampNeg a) 142 (gI (sI m8 141 (gI m8 113 38).toNatClampNeg a) 113 38).toNatClampNeg b) 113 38) 8 ∧ (Q (some (.int (gI (sI (sI (sI (sI m8 141 (gI m8 113 38).toNatClampNeg a) 142 (gI (sI m8 141 (gI m8 113 38).toNatClampNeg a) 113 38).toNatClampNeg b) 143 (gI (sI (sI m8 141 (gI m8 113 38).toNatClampNeg a) 142 (gI (sI m8 141 (gI m8 113 38).toNatClampNeg a) 113 38).toNatClampNeg b) 113 38).toNatClampNeg c) 113 38 ((gI (sI (sI (sI m8 141 (gI m8 113 38).toNatClampNeg a) 142 (gI (sI m8 141 (gI m8 113 38).toNatClampNeg a) 113 38).toNatClampNeg b) 143 (gI (sI (sI m8 141 (gI m8 113 38).toNatClampNeg a) 142 (gI (sI m8 141 (gI m8 113 38).toNatClampNeg a) 113 38).toNatClampNeg b) 113 38).toNatClampNeg c) 113 38) + (1 : Int32))) 113 38))) (sI (sI (sI (sI m8 141 (gI m8 113 38).toNatClampNeg a) 142 (gI (sI m8 141 (gI m8 113 38).toNatClampNeg a) 113 38).toNatClampNeg b) 143 (gI (sI (sI m8 141 (gI m8 113 38).toNatClampNeg a) 142 (gI (sI m8 141 (gI m8 113 38).toNatClampNeg a) 113 38).toNatClampNeg b) 113 38).toNatClampNeg c) 113 38 ((gI (sI (sI (sI m8 141 (gI m8 113 38).toNatClampNeg a) 142 (gI (sI m8 141 (gI m8 113 38).toNatClampNeg a) 113 38).toNatClampNeg b) 143 (gI (sI (sI m8 141 (gI m8 113 38).toNatClampNeg a) 142 (gI (sI m8 141 (gI m8 113 38).toNatClampNeg a) 113 38).toNatClampNeg b) 113 38).toNatClampNeg c) 113 38) + (1 : Int32))))))
            else Q (some (.int (-4 : Int32))) m8
          else Q (some (.int (-2 : Int32))) m8))
        else Q (some (.int (-1 : Int32))) m5))))
    else Q (some (.int (0 : Int32))) (sI m 113 38 (0 : Int32))) :
    zRun C 9 (some .int) zc_Mod_book Q 0 [.ref 113, .int a, .int b, .int c] [] m := zgo [] hC zs_Mod_book (i := .iload_n 1) (r := zfind zc_Mod_book 1) rfl h
theorem en_Mod_book (dd : Nat) {Q : zQ} (a : Int32) (b : Int32) (c : Int32) (m : zM) (h : zRun (zCall dd) 9 (some .int) zc_Mod_book Q 0 [.ref 113, .int a, .int b, .int c] [] m) : zCall (dd + 1) m_Mod_book [.ref 113, .int a, .int b, .int c] m Q := ⟨Nat.le_of_ble_eq_true rfl, h⟩
theorem zs_Mod_looked : zsrt zc_Mod_looked = true := by decide +kernel
set_option maxRecDepth 100000 in
theorem sg_Mod_looked_0 {C : zC} {Q : zQ} (hC : zCm C) (m : zM) (h :
    zRun C 9 (some .int) zc_Mod_looked Q 2 [.ref 113, .int (0 : Int32)] [] m) :
    zRun C 9 (some .int) zc_Mod_looked Q 0 [.ref 113, .retAddr 0] [] m := zgo [2] hC zs_Mod_looked (i := .iconst 0) (r := zfind zc_Mod_looked 1) rfl h
set_option maxRecDepth 100000 in
theorem sg_Mod_looked_2 {C : zC} {Q : zQ} (hC : zCm C) (v1 : Int32) (m : zM) (h :
    if (gI m 113 38) ≤ v1 then Q (some (.int (-5 : Int32))) m
    else vp_in v1 8 ∧ (vp_in v1 8 ∧ (C m_Mod_whenOf [.ref 113, .int (gI m 141 v1.toNatClampNeg), .int (gI m 142 v1.toNatClampNeg)] m (fun o1 m2 => ∃ x3, o1 = some (.int x3) ∧ (vp_in v1 8 ∧ (if x3 = (gI m2 143 v1.toNatClampNeg) then zRun C 9 (some .int) zc_Mod_looked Q 2 [.ref 113, .int (v1 + (1 : Int32))] [] m2
      else Q (some (.int v1)) m2)))))) :
    zRun C 9 (some .int) zc_Mod_looked Q 2 [.ref 113, .int v1] [] m := zgo [2] hC zs_Mod_looked (i := .iload_n 1) (r := zfind zc_Mod_looked 3) rfl h
theorem en_Mod_looked (dd : Nat) {Q : zQ} (m : zM) (h : zRun (zCall dd) 9 (some .int) zc_Mod_looked Q 0 [.ref 113, .retAddr 0] [] m) : zCall (dd + 1) m_Mod_looked [.ref 113] m Q := ⟨Nat.le_of_ble_eq_true rfl, h⟩
theorem zs_Mod_judge : zsrt zc_Mod_judge = true := by decide +kernel
set_option maxRecDepth 100000 in
theorem sg_Mod_judge_0 {C : zC} {Q : zQ} (hC : zCm C) (a : Int32) (b : Int32) (m : zM) (h :
    C m_Mod_isTape [.ref 113, .int a] m (fun o1 m2 => ∃ x3, o1 = some (.int x3) ∧ (if ¬ x3 = (0 : Int32) then vp_in a 6 ∧ (if (gI m2 157 a.toNatClampNeg) < (0 : Int32) then zRun C 9 (some .int) zc_Mod_judge Q 34 [.ref 113, .int a, .int b, .int (0 : Int32), .retAddr 0, .retAddr 0] [] m2
      else vp_in a 6 ∧ (if (gI m2 157 a.toNatClampNeg) = (4 : Int32) then zRun C 9 (some .int) zc_Mod_judge Q 34 [.ref 113, .int a, .int b, .int (0 : Int32), .retAddr 0, .retAddr 0] [] m2
        else Q (some (.int (-12 : Int32))) m2))
    else Q (some (.int (-1 : Int32))) m2))) :
    zRun C 9 (some .int) zc_Mod_judge Q 0 [.ref 113, .int a, .int b, .retAddr 0, .retAddr 0, .retAddr 0] [] m := zgo [34] hC zs_Mod_judge (i := .aload_n 0) (r := zfind zc_Mod_judge 1) rfl h
set_option maxRecDepth 100000 in
theorem sg_Mod_judge_34 {C : zC} {Q : zQ} (hC : zCm C) (v1 : Int32) (v2 : Int32) (v3 : Int32) (m : zM) (h :
    if ((gI m 113 0) * (gI m 113 0)) ≤ v3 then Q (some (.int (-5 : Int32))) m
    else ¬ (gI m 113 0) = 0 ∧ (¬ (gI m 113 0) = 0 ∧ (vp_in v1 6 ∧ (if (gI m 157 v1.toNatClampNeg) < (0 : Int32) then Q (some (.int ((100 : Int32) + v3))) m
      else if v2 < (0 : Int32) then Q (some (.int ((100 : Int32) + v3))) m
        else vp_in v1 6 ∧ (if v2 ≤ (((gI m 158 v1.toNatClampNeg) - v3) - (1 : Int32)) then vp_in ((((60 : Int32) * v1) + v2) + v3) 360 ∧ (vp_in (v3 / (gI m 113 0)) 8 ∧ (C m_Mod_has [.ref 113, .int (gI m 116 (v3 / (gI m 113 0)).toNatClampNeg), .int (v3 - v3 / (gI m 113 0) * (gI m 113 0))] m (fun o1 m2 => ∃ x3, o1 = some (.int x3) ∧ (if x3 = (0 : Int32) then if (lg_cmp (gL m 159 ((((60 : Int32) * v1) + v2) + v3).toNatClampNeg) (0 : Int64)) = (0 : Int32) then zRun C 9 (some .int) zc_Mod_judge Q 34 [.ref 113, .int v1, .int v2, .int (v3 + (1 : Int32)), .int (v3 / (gI m 113 0)), .int (v3 - v3 / (gI m 113 0) * (gI m 113 0))] [] m2
              else Q (some (.int (((10 : Int32) * (v3 / (gI m 113 0))) + (v3 - v3 / (gI m 113 0) * (gI m 113 0))))) m2
            else if (lg_cmp (gL m 159 ((((60 : Int32) * v1) + v2) + v3).toNatClampNeg) (1 : Int64)) = (0 : Int32) then zRun C 9 (some .int) zc_Mod_judge Q 34 [.ref 113, .int v1, .int v2, .int (v3 + (1 : Int32)), .int (v3 / (gI m 113 0)), .int (v3 - v3 / (gI m 113 0) * (gI m 113 0))] [] m2
              else Q (some (.int (((10 : Int32) * (v3 / (gI m 113 0))) + (v3 - v3 / (gI m 113 0) * (gI m 113 0))))) m2))))
          else Q (some (.int ((100 : Int32) + v3))) m))))) :
    zRun C 9 (some .int) zc_Mod_judge Q 34 [.ref 113, .int v1, .int v2, .int v3, .retAddr 0, .retAddr 0] [] m := zgo [34] hC zs_Mod_judge (i := .iload_n 3) (r := zfind zc_Mod_judge 35) rfl h
theorem en_Mod_judge (dd : Nat) {Q : zQ} (a : Int32) (b : Int32) (m : zM) (h : zRun (zCall dd) 9 (some .int) zc_Mod_judge Q 0 [.ref 113, .int a, .int b, .retAddr 0, .retAddr 0, .retAddr 0] [] m) : zCall (dd + 1) m_Mod_judge [.ref 113, .int a, .int b] m Q := ⟨Nat.le_of_ble_eq_true rfl, h⟩
theorem zs_Mod_image : zsrt zc_Mod_image = true := by decide +kernel
set_option maxRecDepth 100000 in
theorem sg_Mod_image_0 {C : zC} {Q : zQ} (hC : zCm C) (m : zM) (h :
    ((1 : Int32) = 0 ∨ (1 : Int32) = 1) ∧ (zRun C 9 (some .int) zc_Mod_image Q 63 [.ref 113, .int (0 : Int32)] [] (sI (sI (sI (sI (sI (sI (sI (sI m 113 44 (1 : Int32)) 113 45 (gI (sI m 113 44 (1 : Int32)) 113 8)) 113 46 (gI (sI (sI m 113 44 (1 : Int32)) 113 45 (gI (sI m 113 44 (1 : Int32)) 113 8)) 113 0)) 113 47 (gI (sI (sI (sI m 113 44 (1 : Int32)) 113 45 (gI (sI m 113 44 (1 : Int32)) 113 8)) 113 46 (gI (sI (sI m 113 44 (1 : Int32)) 113 45 (gI (sI m 113 44 (1 : Int32)) 113 8)) 113 0)) 113 1)) 113 48 (gI (sI (sI (sI (sI m 113 44 (1 : Int32)) 113 45 (gI (sI m 113 44 (1 : Int32)) 113 8)) 113 46 (gI (sI (sI m 113 44 (1 : Int32)) 113 45 (gI (sI m 113 44 (1 : Int32)) 113 8)) 113 0)) 113 47 (gI (sI (sI (sI m 113 44 (1 : Int32)) 113 45 (gI (sI m 113 44 (1 : Int32)) 113 8)) 113 46 (gI (sI (sI m 113 44 (1 : Int32)) 113 45 (gI (sI m 113 44 (1 : Int32)) 113 8)) 113 0)) 113 1)) 113 2)) 113 49 (gI (sI (sI (sI (sI (sI m 113 44 (1 : Int32)) 113 45 (gI (sI m 113 44 (1 : Int32)) 113 8)) 113 46 (gI (sI (sI m 113 44 (1 : Int32)) 113 45 (gI (sI m 113 44 (1 : Int32)) 113 8)) 113 0)) 113 47 (gI (sI (sI (sI m 113 44 (1 : Int32)) 113 45 (gI (sI m 113 44 (1 : Int32)) 113 8)) 113 46 (gI (sI (sI m 113 44 (1 : Int32)) 113 45 (gI (sI m 113 44 (1 : Int32)) 113 8)) 113 0)) 113 1)) 113 48 (gI (sI (sI (sI (sI m 113 44 (1 : Int32)) 113 45 (gI (sI m 113 44 (1 : Int32)) 113 8)) 113 46 (gI (sI (sI m 113 44 (1 : Int32)) 113 45 (gI (sI m 113 44 (1 : Int32)) 113 8)) 113 0)) 113 47 (gI (sI (sI (sI m 113 44 (1 : Int32)) 113 45 (gI (sI m 113 44 (1 : Int32)) 113 8)) 113 46 (gI (sI (sI m 113 44 (1 : Int32)) 113 45 (gI (sI m 113 44 (1 : Int32)) 113 8)) 113 0)) 113 1)) 113 2)) 113 33)) 113 50 (gI (sI (sI (sI (sI (sI (sI m 113 44 (1 : Int32)) 113 45 (gI (sI m 113 44 (1 : Int32)) 113 8)) 113 46 (gI (sI (sI m 113 44 (1 : Int32)) 113 45 (gI (sI m 113 44 (1 : Int32)) 113 8)) 113 0)) 113 47 (gI (sI (sI (sI m 113 44 (1 : Int32)) 113 45 (gI (sI m 113 44 (1 : Int32)) 113 8)) 113 46 (gI (sI (sI m 113 44 (1 : Int32)) 113 45 (gI (sI m 113 44 (1 : Int32)) 113 8)) 113 0)) 113 1)) 113 48 (gI (sI (sI (sI (sI m 113 44 (1 : Int32)) 113 45 (gI (sI m 113 44 (1 : Int32)) 113 8)) 113 46 (gI (sI (sI m 113 44 (1 : Int32)) 113 45 (gI (sI m 113 44 (1 : Int32)) 113 8)) 113 0)) 113 47 (gI (sI (sI (sI m 113 44 (1 : Int32)) 113 45 (gI (sI m 113 44 (1 : Int32)) 113 8)) 113 46 (gI (sI (sI m 113 44 (1 : Int32)) 113 45 (gI (sI m 113 44 (1 : Int32)) 113 8)) 113 0)) 113 1)) 113 2)) 113 49 (gI (sI (sI (sI (sI (sI m 113 44 (1 : Int32)) 113 45 (gI (sI m 113 44 (1 : Int32)) 113 8)) 113 46 (gI (sI (sI m 113 44 (1 : Int32)) 113 45 (gI (sI m 113 44 (1 : Int32)) 113 8)) 113 0)) 113 47 (gI (sI (sI (sI m 113 44 (1 : Int32)) 113 45 (gI (sI m 113 44 (1 : Int32)) 113 8)) 113 46 (gI (sI (sI m 113 44 (1 : Int32)) 113 45 (gI (sI m 113 44 (1 : Int32)) 113 8)) 113 0)) 113 1)) 113 48 (gI (sI (sI (sI (sI m 113 44 (1 : Int32)) 113 45 (gI (sI m 113 44 (1 : Int32)) 113 8)) 113 46 (gI (sI (sI m 113 44 (1 : Int32)) 113 45 (gI (sI m 113 44 (1 : Int32)) 113 8)) 113 0)) 113 47 (gI (sI (sI (sI m 113 44 (1 : Int32)) 113 45 (gI (sI m 113 44 (1 : Int32)) 113 8)) 113 46 (gI (sI (sI m 113 44 (1 : Int32)) 113 45 (gI (sI m 113 44 (1 : Int32)) 113 8)) 113 0)) 113 1)) 113 2)) 113 33)) 113 37)) 113 51 (gI (sI (sI (sI (sI (sI (sI (sI m 113 44 (1 : Int32)) 113 45 (gI (sI m 113 44 (1 : Int32)) 113 8)) 113 46 (gI (sI (sI m 113 44 (1 : Int32)) 113 45 (gI (sI m 113 44 (1 : Int32)) 113 8)) 113 0)) 113 47 (gI (sI (sI (sI m 113 44 (1 : Int32)) 113 45 (gI (sI m 113 44 (1 : Int32)) 113 8)) 113 46 (gI (sI (sI m 113 44 (1 : Int32)) 113 45 (gI (sI m 113 44 (1 : Int32)) 113 8)) 113 0)) 113 1)) 113 48 (gI (sI (sI (sI (sI m 113 44 (1 : Int32)) 113 45 (gI (sI m 113 44 (1 : Int32)) 113 8)) 113 46 (gI (sI (sI m 113 44 (1 : Int32)) 113 45 (gI (sI m 113 44 (1 : Int32)) 113 8)) 113 0)) 113 47 (gI (sI (sI (sI m 113 44 (1 : Int32)) 113 45 (gI (sI m 113 44 (1 : Int32)) 113 8)) 113 46 (gI (sI (sI m 113 44 (1 : Int32)) 113 45 (gI (sI m 113 44 (1 : Int32)) 113 8)) 113 0)) 113 1)) 113 2)) 113 49 (gI (sI (sI (sI (sI (sI m 113 44 (1 : Int32)) 113 45 (gI (sI m 113 44 (1 : Int32)) 113 8)) 113 46 (gI (sI (sI m 113 44 (1 : Int32)) 113 45 (gI (sI m 113 44 (1 : Int32)) 113 8)) 113 0)) 113 47 (gI (sI (sI (sI m 113 44 (1 : Int32)) 113 45 (gI (sI m 113 44 (1 : Int32)) 113 8)) 113 46 (gI (sI (sI m 113 44 (1 : Int32)) 113 45 (gI (sI m 113 44 (1 : Int32)) 113 8)) 113 0)) 113 1)) 113 48 (gI (sI (sI (sI (sI m 113 44 (1 : Int32)) 113 45 (gI (sI m 113 44 (1 : Int32)) 113 8)) 113 46 (gI (sI (sI m 113 44 (1 : Int32)) 113 45 (gI (sI m 113 44 (1 : Int32)) 113 8)) 113 0)) 113 47 (gI (sI (sI (sI m 113 44 (1 : Int32)) 113 45 (gI (sI m 113 44 (1 : Int32)) 113 8)) 113 46 (gI (sI (sI m 113 44 (1 : Int32)) 113 45 (gI (sI m 113 44 (1 : Int32)) 113 8)) 113 0)) 113 1)) 113 2)) 113 33)) 113 50 (gI (sI (sI (sI (sI (sI (sI m 113 44 (1 : Int32)) 113 45 (gI (sI m 113 44 (1 : Int32)) 113 8)) 113 46 (gI (sI (sI m 113 44 (1 : Int32)) 113 45 (gI (sI m 113 44 (1 : Int32)) 113 8)) 113 0)) 113 47 (gI (sI (sI (sI m 113 44 (1 : Int32)) 113 45 (gI (sI m 113 44 (1 : Int32)) 113 8)) 113 46 (gI (sI (sI m 113 44 (1 : Int32)) 113 45 (gI (sI m 113 44 (1 : Int32)) 113 8)) 113 0)) 113 1)) 113 48 (gI (sI (sI (sI (sI m 113 44 (1 : Int32)) 113 45 (gI (sI m 113 44 (1 : Int32)) 113 8)) 113 46 (gI (sI (sI m 113 44 (1 : Int32)) 113 45 (gI (sI m 113 44 (1 : Int32)) 113 8)) 113 0)) 113 47 (gI (sI (sI (sI m 113 44 (1 : Int32)) 113 45 (gI (sI m 113 44 (1 : Int32)) 113 8)) 113 46 (gI (sI (sI m 113 44 (1 : Int32)) 113 45 (gI (sI m 113 44 (1 : Int32)) 113 8)) 113 0)) 113 1)) 113 2)) 113 49 (gI (sI (sI (sI (sI (sI m 113 44 (1 : Int32)) 113 45 (gI (sI m 113 44 (1 : Int32)) 113 8)) 113 46 (gI (sI (sI m 113 44 (1 : Int32)) 113 45 (gI (sI m 113 44 (1 : Int32)) 113 8)) 113 0)) 113 47 (gI (sI (sI (sI m 113 44 (1 : Int32)) 113 45 (gI (sI m 113 44 (1 : Int32)) 113 8)) 113 46 (gI (sI (sI m 113 44 (1 : Int32)) 113 45 (gI (sI m 113 44 (1 : Int32)) 113 8)) 113 0)) 113 1)) 113 48 (gI (sI (sI (sI (sI m 113 44 (1 : Int32)) 113 45 (gI (sI m 113 44 (1 : Int32)) 113 8)) 113 46 (gI (sI (sI m 113 44 (1 : Int32)) 113 45 (gI (sI m 113 44 (1 : Int32)) 113 8)) 113 0)) 113 47 (gI (sI (sI (sI m 113 44 (1 : Int32)) 113 45 (gI (sI m 113 44 (1 : Int32)) 113 8)) 113 46 (gI (sI (sI m 113 44 (1 : Int32)) 113 45 (gI (sI m 113 44 (1 : Int32)) 113 8)) 113 0)) 113 1)) 113 2)) 113 33)) 113 37)) 113 38)))) :
    zRun C 9 (some .int) zc_Mod_image Q 0 [.ref 113, .retAddr 0] [] m := zgo [63, 173, 199] hC zs_Mod_image (i := .aload_n 0) (r := zfind zc_Mod_image 1) rfl h
set_option maxRecDepth 100000 in
theorem sg_Mod_image_63 {C : zC} {Q : zQ} (hC : zCm C) (v1 : Int32) (m : zM) (h :
    if (8 : Int32) ≤ v1 then zRun C 9 (some .int) zc_Mod_image Q 173 [.ref 113, .int (0 : Int32)] [] m
    else vp_in v1 8 ∧ (vp_in v1 8 ∧ (vp_in v1 8 ∧ (vp_in v1 8 ∧ (vp_in v1 8 ∧ (vp_in v1 8 ∧ (vp_in v1 8 ∧ (vp_in v1 8 ∧ (vp_in v1 8 ∧ (vp_in v1 8 ∧ (vp_in v1 8 ∧ (vp_in v1 8 ∧ (vp_in v1 8 ∧ (vp_in v1 8 ∧ (vp_in v1 8 ∧ (vp_in v1 8 ∧ (zRun C 9 (some .int) zc_Mod_image Q 63 [.ref 113, .int (v1 + (1 : Int32))] [] (sI (sI (sI (sI (sI (sI (sI (sI m 144 v1.toNatClampNeg (gI m 114 v1.toNatClampNeg)) 145 v1.toNatClampNeg (gI (sI m 144 v1.toNatClampNeg (gI m 114 v1.toNatClampNeg)) 115 v1.toNatClampNeg)) 146 v1.toNatClampNeg (gI (sI (sI m 144 v1.toNatClampNeg (gI m 114 v1.toNatClampNeg)) 145 v1.toNatClampNeg (gI (sI m 144 v1.toNatClampNeg (gI m 114 v1.toNatClampNeg)) 115 v1.toNatClampNeg)) 116 v1.toNatClampNeg)) 151 v1.toNatClampNeg (gI (sI (sI (sI m 144 v1.toNatClampNeg (gI m 114 v1.toNatClampNeg)) 145 v1.toNatClampNeg (gI (sI m 144 v1.toNatClampNeg (gI m 114 v1.toNatClampNeg)) 115 v1.toNatClampNeg)) 146 v1.toNatClampNeg (gI (sI (sI m 144 v1.toNatClampNeg (gI m 114 v1.toNatClampNeg)) 145 v1.toNatClampNeg (gI (sI m 144 v1.toNatClampNeg (gI m 114 v1.toNatClampNeg)) 115 v1.toNatClampNeg)) 116 v1.toNatClampNeg)) 139 v1.toNatClampNeg)) 152 v1.toNatClampNeg (gI (sI (sI (sI (sI m 144 v1.toNatClampNeg (gI m 114 v1.toNatClampNeg)) 145 v1.toNatClampNeg (gI (sI m 144 v1.toNatClampNeg (gI m 114 v1.toNatClampNeg)) 115 v1.toNatClampNeg)) 146 v1.toNatClampNeg (gI (sI (sI m 144 v1.toNatClampNeg (gI m 114 v1.toNatClampNeg)) 145 v1.toNatClampNeg (gI (sI m 144 v1.toNatClampNeg (gI m 114 v1.toNatClampNeg)) 115 v1.toNatClampNeg)) 116 v1.toNatClampNeg)) 151 v1.toNatClampNeg (gI (sI (sI (sI m 144 v1.toNatClampNeg (gI m 114 v1.toNatClampNeg)) 145 v1.toNatClampNeg (gI (sI m 144 v1.toNatClampNeg (gI m 114 v1.toNatClampNeg)) 115 v1.toNatClampNeg)) 146 v1.toNatClampNeg (gI (sI (sI m 144 v1.toNatClampNeg (gI m 114 v1.toNatClampNeg)) 145 v1.toNatClampNeg (gI (sI m 144 v1.toNatClampNeg (gI m 114 v1.toNatClampNeg)) 115 v1.toNatClampNeg)) 116 v1.toNatClampNeg)) 139 v1.toNatClampNeg)) 140 v1.toNatClampNeg)) 153 v1.toNatClampNeg (gI (sI (sI (sI (sI (sI m 144 v1.toNatClampNeg (gI m 114 v1.toNatClampNeg)) 145 v1.toNatClampNeg (gI (sI m 144 v1.toNatClampNeg (gI m 114 v1.toNatClampNeg)) 115 v1.toNatClampNeg)) 146 v1.toNatClampNeg (gI (sI (sI m 144 v1.toNatClampNeg (gI m 114 v1.toNatClampNeg)) 145 v1.toNatClampNeg (gI (sI m 144 v1.toNatClampNeg (gI m 114 v1.toNatClampNeg)) 115 v1.toNatClampNeg)) 116 v1.toNatClampNeg)) 151 v1.toNatClampNeg (gI (sI (sI (sI m 144 v1.toNatClampNeg (gI m 114 v1.toNatClampNeg)) 145 v1.toNatClampNeg (gI (sI m 144 v1.toNatClampNeg (gI m 114 v1.toNatClampNeg)) 115 v1.toNatClampNeg)) 146 v1.toNatClampNeg (gI (sI (sI m 144 v1.toNatClampNeg (gI m 114 v1.toNatClampNeg)) 145 v1.toNatClampNeg (gI (sI m 144 v1.toNatClampNeg (gI m 114 v1.toNatClampNeg)) 115 v1.toNatClampNeg)) 116 v1.toNatClampNeg)) 139 v1.toNatClampNeg)) 152 v1.toNatClampNeg (gI (sI (sI (sI (sI m 144 v1.toNatClampNeg (gI m 114 v1.toNatClampNeg)) 145 v1.toNatClampNeg (gI (sI m 144 v1.toNatClampNeg (gI m 114 v1.toNatClampNeg)) 115 v1.toNatClampNeg)) 146 v1.toNatClampNeg (gI (sI (sI m 144 v1.toNatClampNeg (gI m 114 v1.toNatClampNeg)) 145 v1.toNatClampNeg (gI (sI m 144 v1.toNatClampNeg (gI m 114 v1.toNatClampNeg)) 115 v1.toNatClampNeg)) 116 v1.toNatClampNeg)) 151 v1.toNatClampNeg (gI (sI (sI (sI m 144 v1.toNatClampNeg (gI m 114 v1.toNatClampNeg)) 145 v1.toNatClampNeg (gI (sI m 144 v1.toNatClampNeg (gI m 114 v1.toNatClampNeg)) 115 v1.toNatClampNeg)) 146 v1.toNatClampNeg (gI (sI (sI m 144 v1.toNatClampNeg (gI m 114 v1.toNatClampNeg)) 145 v1.toNatClampNeg (gI (sI m 144 v1.toNatClampNeg (gI m 114 v1.toNatClampNeg)) 115 v1.toNatClampNeg)) 116 v1.toNatClampNeg)) 139 v1.toNatClampNeg)) 140 v1.toNatClampNeg)) 141 v1.toNatClampNeg)) 154 v1.toNatClampNeg (gI (sI (sI (sI (sI (sI (sI m 144 v1.toNatClampNeg (gI m 114 v1.toNatClampNeg)) 145 v1.toNatClampNeg (gI (sI m 144 v1.toNatClampNeg (gI m 114 v1.toNatClampNeg)) 115 v1.toNatClampNeg)) 146 v1.toNatClampNeg (gI (sI (sI m 144 v1.toNatClampNeg (gI m 114 v1.toNatClampNeg)) 145 v1.toNatClampNeg (gI (sI m 144 v1.toNatClampNeg (gI m 114 v1.toNatClampNeg)) 115 v1.toNatClampNeg)) 116 v1.toNatClampNeg)) 151 v1.toNatClampNeg (gI (sI (sI (sI m 144 v1.toNatClampNeg (gI m 114 v1.toNatClampNeg)) 145 v1.toNatClampNeg (gI (sI m 144 v1.toNatClampNeg (gI m 114 v1.toNatClampNeg)) 115 v1.toNatClampNeg)) 146 v1.toNatClampNeg (gI (sI (sI m 144 v1.toNatClampNeg (gI m 114 v1.toNatClampNeg)) 145 v1.toNatClampNeg (gI (sI m 144 v1.toNatClampNeg (gI m 114 v1.toNatClampNeg)) 115 v1.toNatClampNeg)) 116 v1.toNatClampNeg)) 139 v1.toNatClampNeg)) 152 v1.toNatClampNeg (gI (sI (sI (sI (sI m 144 v1.toNatClampNeg (gI m 114 v1.toNatClampNeg)) 145 v1.toNatClampNeg (gI (sI m 144 v1.toNatClampNeg (gI m 114 v1.toNatClampNeg)) 115 v1.toNatClampNeg)) 146 v1.toNatClampNeg (gI (sI (sI m 144 v1.toNatClampNeg (gI m 114 v1.toNatClampNeg)) 145 v1.toNatClampNeg (gI (sI m 144 v1.toNatClampNeg (gI m 114 v1.toNatClampNeg)) 115 v1.toNatClampNeg)) 116 v1.toNatClampNeg)) 151 v1.toNatClampNeg (gI (sI (sI (sI m 144 v1.toNatClampNeg (gI m 114 v1.toNatClampNeg)) 145 v1.toNatClampNeg (gI (sI m 144 v1.toNatClampNeg (gI m 114 v1.toNatClampNeg)) 115 v1.toNatClampNeg)) 146 v1.toNatClampNeg (gI (sI (sI m 144 v1.toNatClampNeg (gI m 114 v1.toNatClampNeg)) 145 v1.toNatClampNeg (gI (sI m 144 v1.toNatClampNeg (gI m 114 v1.toNatClampNeg)) 115 v1.toNatClampNeg)) 116 v1.toNatClampNeg)) 139 v1.toNatClampNeg)) 140 v1.toNatClampNeg)) 153 v1.toNatClampNeg (gI (sI (sI (sI (sI (sI m 144 v1.toNatClampNeg (gI m 114 v1.toNatClampNeg)) 145 v1.toNatClampNeg (gI (sI m 144 v1.toNatClampNeg (gI m 114 v1.toNatClampNeg)) 115 v1.toNatClampNeg)) 146 v1.toNatClampNeg (gI (sI (sI m 144 v1.toNatClampNeg (gI m 114 v1.toNatClampNeg)) 145 v1.toNatClampNeg (gI (sI m 144 v1.toNatClampNeg (gI m 114 v1.toNatClampNeg)) 115 v1.toNatClampNeg)) 116 v1.toNatClampNeg)) 151 v1.toNatClampNeg (gI (sI (sI (sI m 144 v1.toNatClampNeg (gI m 114 v1.toNatClampNeg)) 145 v1.toNatClampNeg (gI (sI m 144 v1.toNatClampNeg (gI m 114 v1.toNatClampNeg)) 115 v1.toNatClampNeg)) 146 v1.toNatClampNeg (gI (sI (sI m 144 v1.toNatClampNeg (gI m 114 v1.toNatClampNeg)) 145 v1.toNatClampNeg (gI (sI m 144 v1.toNatClampNeg (gI m 114 v1.toNatClampNeg)) 115 v1.toNatClampNeg)) 116 v1.toNatClampNeg)) 139 v1.toNatClampNeg)) 152 v1.toNatClampNeg (gI (sI (sI (sI (sI m 144 v1.toNatClampNeg (gI m 114 v1.toNatClampNeg)) 145 v1.toNatClampNeg (gI (sI m 144 v1.toNatClampNeg (gI m 114 v1.toNatClampNeg)) 115 v1.toNatClampNeg)) 146 v1.toNatClampNeg (gI (sI (sI m 144 v1.toNatClampNeg (gI m 114 v1.toNatClampNeg)) 145 v1.toNatClampNeg (gI (sI m 144 v1.toNatClampNeg (gI m 114 v1.toNatClampNeg)) 115 v1.toNatClampNeg)) 116 v1.toNatClampNeg)) 151 v1.toNatClampNeg (gI (sI (sI (sI m 144 v1.toNatClampNeg (gI m 114 v1.toNatClampNeg)) 145 v1.toNatClampNeg (gI (sI m 144 v1.toNatClampNeg (gI m 114 v1.toNatClampNeg)) 115 v1.toNatClampNeg)) 146 v1.toNatClampNeg (gI (sI (sI m 144 v1.toNatClampNeg (gI m 114 v1.toNatClampNeg)) 145 v1.toNatClampNeg (gI (sI m 144 v1.toNatClampNeg (gI m 114 v1.toNatClampNeg)) 115 v1.toNatClampNeg)) 116 v1.toNatClampNeg)) 139 v1.toNatClampNeg)) 140 v1.toNatClampNeg)) 141 v1.toNatClampNeg)) 142 v1.toNatClampNeg)) 155 v1.toNatClampNeg (gI (sI (sI (sI (sI (sI (sI (sI m 144 v1.toNatClampNeg (gI m 114 v1.toNatClampNeg)) 145 v1.toNatClampNeg (gI (sI m 144 v1.toNatClampNeg (gI m 114 v1.toNatClampNeg)) 115 v1.toNatClampNeg)) 146 v1.toNatClampNeg (gI (sI (sI m 144 v1.toNatClampNeg (gI m 114 v1.toNatClampNeg)) 145 v1.toNatClampNeg (gI (sI m 144 v1.toNatClampNeg (gI m 114 v1.toNatClampNeg)) 115 v1.toNatClampNeg)) 116 v1.toNatClampNeg)) 151 v1.toNatClampNeg (gI (sI (sI (sI m 144 v1.toNatClampNeg (gI m 114 v1.toNatClampNeg)) 145 v1.toNatClampNeg (gI (sI m 144 v1.toNatClampNeg (gI m 114 v1.toNatClampNeg)) 115 v1.toNatClampNeg)) 146 v1.toNatClampNeg (gI (sI (sI m 144 v1.toNatClampNeg (gI m 114 v1.toNatClampNeg)) 145 v1.toNatClampNeg (gI (sI m 144 v1.toNatClampNeg (gI m 114 v1.toNatClampNeg)) 115 v1.toNatClampNeg)) 116 v1.toNatClampNeg)) 139 v1.toNatClampNeg)) 152 v1.toNatClampNeg (gI (sI (sI (sI (sI m 144 v1.toNatClampNeg (gI m 114 v1.toNatClampNeg)) 145 v1.toNatClampNeg (gI (sI m 144 v1.toNatClampNeg (gI m 114 v1.toNatClampNeg)) 115 v1.toNatClampNeg)) 146 v1.toNatClampNeg (gI (sI (sI m 144 v1.toNatClampNeg (gI m 114 v1.toNatClampNeg)) 145 v1.toNatClampNeg (gI (sI m 144 v1.toNatClampNeg (gI m 114 v1.toNatClampNeg)) 115 v1.toNatClampNeg)) 116 v1.toNatClampNeg)) 151 v1.toNatClampNeg (gI (sI (sI (sI m 144 v1.toNatClampNeg (gI m 114 v1.toNatClampNeg)) 145 v1.toNatClampNeg (gI (sI m 144 v1.toNatClampNeg (gI m 114 v1.toNatClampNeg)) 115 v1.toNatClampNeg)) 146 v1.toNatClampNeg (gI (sI (sI m 144 v1.toNatClampNeg (gI m 114 v1.toNatClampNeg)) 145 v1.toNatClampNeg (gI (sI m 144 v1.toNatClampNeg (gI m 114 v1.toNatClampNeg)) 115 v1.toNatClampNeg)) 116 v1.toNatClampNeg)) 139 v1.toNatClampNeg)) 140 v1.toNatClampNeg)) 153 v1.toNatClampNeg (gI (sI (sI (sI (sI (sI m 144 v1.toNatClampNeg (gI m 114 v1.toNatClampNeg)) 145 v1.toNatClampNeg (gI (sI m 144 v1.toNatClampNeg (gI m 114 v1.toNatClampNeg)) 115 v1.toNatClampNeg)) 146 v1.toNatClampNeg (gI (sI (sI m 144 v1.toNatClampNeg (gI m 114 v1.toNatClampNeg)) 145 v1.toNatClampNeg (gI (sI m 144 v1.toNatClampNeg (gI m 114 v1.toNatClampNeg)) 115 v1.toNatClampNeg)) 116 v1.toNatClampNeg)) 151 v1.toNatClampNeg (gI (sI (sI (sI m 144 v1.toNatClampNeg (gI m 114 v1.toNatClampNeg)) 145 v1.toNatClampNeg (gI (sI m 144 v1.toNatClampNeg (gI m 114 v1.toNatClampNeg)) 115 v1.toNatClampNeg)) 146 v1.toNatClampNeg (gI (sI (sI m 144 v1.toNatClampNeg (gI m 114 v1.toNatClampNeg)) 145 v1.toNatClampNeg (gI (sI m 144 v1.toNatClampNeg (gI m 114 v1.toNatClampNeg)) 115 v1.toNatClampNeg)) 116 v1.toNatClampNeg)) 139 v1.toNatClampNeg)) 152 v1.toNatClampNeg (gI (sI (sI (sI (sI m 144 v1.toNatClampNeg (gI m 114 v1.toNatClampNeg)) 145 v1.toNatClampNeg (gI (sI m 144 v1.toNatClampNeg (gI m 114 v1.toNatClampNeg)) 115 v1.toNatClampNeg)) 146 v1.toNatClampNeg (gI (sI (sI m 144 v1.toNatClampNeg (gI m 114 v1.toNatClampNeg)) 145 v1.toNatClampNeg (gI (sI m 144 v1.toNatClampNeg (gI m 114 v1.toNatClampNeg)) 115 v1.toNatClampNeg)) 116 v1.toNatClampNeg)) 151 v1.toNatClampNeg (gI (sI (sI (sI m 144 v1.toNatClampNeg (gI m 114 v1.toNatClampNeg)) 145 v1.toNatClampNeg (gI (sI m 144 v1.toNatClampNeg (gI m 114 v1.toNatClampNeg)) 115 v1.toNatClampNeg)) 146 v1.toNatClampNeg (gI (sI (sI m 144 v1.toNatClampNeg (gI m 114 v1.toNatClampNeg)) 145 v1.toNatClampNeg (gI (sI m 144 v1.toNatClampNeg (gI m 114 v1.toNatClampNeg)) 115 v1.toNatClampNeg)) 116 v1.toNatClampNeg)) 139 v1.toNatClampNeg)) 140 v1.toNatClampNeg)) 141 v1.toNatClampNeg)) 154 v1.toNatClampNeg (gI (sI (sI (sI (sI (sI (sI m 144 v1.toNatClampNeg (gI m 114 v1.toNatClampNeg)) 145 v1.toNatClampNeg (gI (sI m 144 v1.toNatClampNeg (gI m 114 v1.toNatClampNeg)) 115 v1.toNatClampNeg)) 146 v1.toNatClampNeg (gI (sI (sI m 144 v1.toNatClampNeg (gI m 114 v1.toNatClampNeg)) 145 v1.toNatClampNeg (gI (sI m 144 v1.toNatClampNeg (gI m 114 v1.toNatClampNeg)) 115 v1.toNatClampNeg)) 116 v1.toNatClampNeg)) 151 v1.toNatClampNeg (gI (sI (sI (sI m 144 v1.toNatClampNeg (gI m 114 v1.toNatClampNeg)) 145 v1.toNatClampNeg (gI (sI m 144 v1.toNatClampNeg (gI m 114 v1.toNatClampNeg)) 115 v1.toNatClampNeg)) 146 v1.toNatClampNeg (gI (sI (sI m 144 v1.toNatClampNeg (gI m 114 v1.toNatClampNeg)) 145 v1.toNatClampNeg (gI (sI m 144 v1.toNatClampNeg (gI m 114 v1.toNatClampNeg)) 115 v1.toNatClampNeg)) 116 v1.toNatClampNeg)) 139 v1.toNatClampNeg)) 152 v1.toNatClampNeg (gI (sI (sI (sI (sI m 144 v1.toNatClampNeg (gI m 114 v1.toNatClampNeg)) 145 v1.toNatClampNeg (gI (sI m 144 v1.toNatClampNeg (gI m 114 v1.toNatClampNeg)) 115 v1.toNatClampNeg)) 146 v1.toNatClampNeg (gI (sI (sI m 144 v1.toNatClampNeg (gI m 114 v1.toNatClampNeg)) 145 v1.toNatClampNeg (gI (sI m 144 v1.toNatClampNeg (gI m 114 v1.toNatClampNeg)) 115 v1.toNatClampNeg)) 116 v1.toNatClampNeg)) 151 v1.toNatClampNeg (gI (sI (sI (sI m 144 v1.toNatClampNeg (gI m 114 v1.toNatClampNeg)) 145 v1.toNatClampNeg (gI (sI m 144 v1.toNatClampNeg (gI m 114 v1.toNatClampNeg)) 115 v1.toNatClampNeg)) 146 v1.toNatClampNeg (gI (sI (sI m 144 v1.toNatClampNeg (gI m 114 v1.toNatClampNeg)) 145 v1.toNatClampNeg (gI (sI m 144 v1.toNatClampNeg (gI m 114 v1.toNatClampNeg)) 115 v1.toNatClampNeg)) 116 v1.toNatClampNeg)) 139 v1.toNatClampNeg)) 140 v1.toNatClampNeg)) 153 v1.toNatClampNeg (gI (sI (sI (sI (sI (sI m 144 v1.toNatClampNeg (gI m 114 v1.toNatClampNeg)) 145 v1.toNatClampNeg (gI (sI m 144 v1.toNatClampNeg (gI m 114 v1.toNatClampNeg)) 115 v1.toNatClampNeg)) 146 v1.toNatClampNeg (gI (sI (sI m 144 v1.toNatClampNeg (gI m 114 v1.toNatClampNeg)) 145 v1.toNatClampNeg (gI (sI m 144 v1.toNatClampNeg (gI m 114 v1.toNatClampNeg)) 115 v1.toNatClampNeg)) 116 v1.toNatClampNeg)) 151 v1.toNatClampNeg (gI (sI (sI (sI m 144 v1.toNatClampNeg (gI m 114 v1.toNatClampNeg)) 145 v1.toNatClampNeg (gI (sI m 144 v1.toNatClampNeg (gI m 114 v1.toNatClampNeg)) 115 v1.toNatClampNeg)) 146 v1.toNatClampNeg (gI (sI (sI m 144 v1.toNatClampNeg (gI m 114 v1.toNatClampNeg)) 145 v1.toNatClampNeg (gI (sI m 144 v1.toNatClampNeg (gI m 114 v1.toNatClampNeg)) 115 v1.toNatClampNeg)) 116 v1.toNatClampNeg)) 139 v1.toNatClampNeg)) 152 v1.toNatClampNeg (gI (sI (sI (sI (sI m 144 v1.toNatClampNeg (gI m 114 v1.toNatClampNeg)) 145 v1.toNatClampNeg (gI (sI m 144 v1.toNatClampNeg (gI m 114 v1.toNatClampNeg)) 115 v1.toNatClampNeg)) 146 v1.toNatClampNeg (gI (sI (sI m 144 v1.toNatClampNeg (gI m 114 v1.toNatClampNeg)) 145 v1.toNatClampNeg (gI (sI m 144 v1.toNatClampNeg (gI m 114 v1.toNatClampNeg)) 115 v1.toNatClampNeg)) 116 v1.toNatClampNeg)) 151 v1.toNatClampNeg (gI (sI (sI (sI m 144 v1.toNatClampNeg (gI m 114 v1.toNatClampNeg)) 145 v1.toNatClampNeg (gI (sI m 144 v1.toNatClampNeg (gI m 114 v1.toNatClampNeg)) 115 v1.toNatClampNeg)) 146 v1.toNatClampNeg (gI (sI (sI m 144 v1.toNatClampNeg (gI m 114 v1.toNatClampNeg)) 145 v1.toNatClampNeg (gI (sI m 144 v1.toNatClampNeg (gI m 114 v1.toNatClampNeg)) 115 v1.toNatClampNeg)) 116 v1.toNatClampNeg)) 139 v1.toNatClampNeg)) 140 v1.toNatClampNeg)) 141 v1.toNatClampNeg)) 142 v1.toNatClampNeg)) 143 v1.toNatClampNeg))))))))))))))))))) :
    zRun C 9 (some .int) zc_Mod_image Q 63 [.ref 113, .int v1] [] m := zgo [63, 173, 199] hC zs_Mod_image (i := .iload_n 1) (r := zfind zc_Mod_image 64) rfl h
set_option maxRecDepth 100000 in
theorem sg_Mod_image_173 {C : zC} {Q : zQ} (hC : zCm C) (v1 : Int32) (m : zM) (h :
    if (32 : Int32) ≤ v1 then zRun C 9 (some .int) zc_Mod_image Q 199 [.ref 113, .int (0 : Int32)] [] m
    else vp_in v1 32 ∧ (vp_in v1 32 ∧ (zRun C 9 (some .int) zc_Mod_image Q 173 [.ref 113, .int (v1 + (1 : Int32))] [] (sI m 147 v1.toNatClampNeg (gI m 117 v1.toNatClampNeg))))) :
    zRun C 9 (some .int) zc_Mod_image Q 173 [.ref 113, .int v1] [] m := zgo [63, 173, 199] hC zs_Mod_image (i := .iload_n 1) (r := zfind zc_Mod_image 174) rfl h
set_option maxRecDepth 100000 in
theorem sg_Mod_image_199 {C : zC} {Q : zQ} (hC : zCm C) (v1 : Int32) (m : zM) (h :
    if (5 : Int32) ≤ v1 then Q (some (.int (gI m 113 0))) m
    else vp_in v1 5 ∧ (vp_in v1 5 ∧ (vp_in v1 5 ∧ (vp_in v1 5 ∧ (vp_in v1 5 ∧ (vp_in v1 5 ∧ (zRun C 9 (some .int) zc_Mod_image Q 199 [.ref 113, .int (v1 + (1 : Int32))] [] (sI (sI (sI m 148 v1.toNatClampNeg (gI m 136 v1.toNatClampNeg)) 149 v1.toNatClampNeg (gI (sI m 148 v1.toNatClampNeg (gI m 136 v1.toNatClampNeg)) 137 v1.toNatClampNeg)) 150 v1.toNatClampNeg (gI (sI (sI m 148 v1.toNatClampNeg (gI m 136 v1.toNatClampNeg)) 149 v1.toNatClampNeg (gI (sI m 148 v1.toNatClampNeg (gI m 136 v1.toNatClampNeg)) 137 v1.toNatClampNeg)) 138 v1.toNatClampNeg))))))))) :
    zRun C 9 (some .int) zc_Mod_image Q 199 [.ref 113, .int v1] [] m := zgo [63, 173, 199] hC zs_Mod_image (i := .iload_n 1) (r := zfind zc_Mod_image 200) rfl h
theorem en_Mod_image (dd : Nat) {Q : zQ} (m : zM) (h : zRun (zCall dd) 9 (some .int) zc_Mod_image Q 0 [.ref 113, .retAddr 0] [] m) : zCall (dd + 1) m_Mod_image [.ref 113] m Q := ⟨Nat.le_of_ble_eq_true rfl, h⟩
theorem zs_Mod_undo : zsrt zc_Mod_undo = true := by decide +kernel
set_option maxRecDepth 100000 in
theorem sg_Mod_undo_0 {C : zC} {Q : zQ} (hC : zCm C) (m : zM) (h :
    if ¬ (gI m 113 44) = (0 : Int32) then zRun C 9 (some .int) zc_Mod_undo Q 68 [.ref 113, .int (0 : Int32)] [] (sI (sI (sI (sI (sI (sI (sI m 113 8 (gI m 113 45)) 113 0 (gI (sI m 113 8 (gI m 113 45)) 113 46)) 113 1 (gI (sI (sI m 113 8 (gI m 113 45)) 113 0 (gI (sI m 113 8 (gI m 113 45)) 113 46)) 113 47)) 113 2 (gI (sI (sI (sI m 113 8 (gI m 113 45)) 113 0 (gI (sI m 113 8 (gI m 113 45)) 113 46)) 113 1 (gI (sI (sI m 113 8 (gI m 113 45)) 113 0 (gI (sI m 113 8 (gI m 113 45)) 113 46)) 113 47)) 113 48)) 113 33 (gI (sI (sI (sI (sI m 113 8 (gI m 113 45)) 113 0 (gI (sI m 113 8 (gI m 113 45)) 113 46)) 113 1 (gI (sI (sI m 113 8 (gI m 113 45)) 113 0 (gI (sI m 113 8 (gI m 113 45)) 113 46)) 113 47)) 113 2 (gI (sI (sI (sI m 113 8 (gI m 113 45)) 113 0 (gI (sI m 113 8 (gI m 113 45)) 113 46)) 113 1 (gI (sI (sI m 113 8 (gI m 113 45)) 113 0 (gI (sI m 113 8 (gI m 113 45)) 113 46)) 113 47)) 113 48)) 113 49)) 113 37 (gI (sI (sI (sI (sI (sI m 113 8 (gI m 113 45)) 113 0 (gI (sI m 113 8 (gI m 113 45)) 113 46)) 113 1 (gI (sI (sI m 113 8 (gI m 113 45)) 113 0 (gI (sI m 113 8 (gI m 113 45)) 113 46)) 113 47)) 113 2 (gI (sI (sI (sI m 113 8 (gI m 113 45)) 113 0 (gI (sI m 113 8 (gI m 113 45)) 113 46)) 113 1 (gI (sI (sI m 113 8 (gI m 113 45)) 113 0 (gI (sI m 113 8 (gI m 113 45)) 113 46)) 113 47)) 113 48)) 113 33 (gI (sI (sI (sI (sI m 113 8 (gI m 113 45)) 113 0 (gI (sI m 113 8 (gI m 113 45)) 113 46)) 113 1 (gI (sI (sI m 113 8 (gI m 113 45)) 113 0 (gI (sI m 113 8 (gI m 113 45)) 113 46)) 113 47)) 113 2 (gI (sI (sI (sI m 113 8 (gI m 113 45)) 113 0 (gI (sI m 113 8 (gI m 113 45)) 113 46)) 113 1 (gI (sI (sI m 113 8 (gI m 113 45)) 113 0 (gI (sI m 113 8 (gI m 113 45)) 113 46)) 113 47)) 113 48)) 113 49)) 113 50)) 113 38 (gI (sI (sI (sI (sI (sI (sI m 113 8 (gI m 113 45)) 113 0 (gI (sI m 113 8 (gI m 113 45)) 113 46)) 113 1 (gI (sI (sI m 113 8 (gI m 113 45)) 113 0 (gI (sI m 113 8 (gI m 113 45)) 113 46)) 113 47)) 113 2 (gI (sI (sI (sI m 113 8 (gI m 113 45)) 113 0 (gI (sI m 113 8 (gI m 113 45)) 113 46)) 113 1 (gI (sI (sI m 113 8 (gI m 113 45)) 113 0 (gI (sI m 113 8 (gI m 113 45)) 113 46)) 113 47)) 113 48)) 113 33 (gI (sI (sI (sI (sI m 113 8 (gI m 113 45)) 113 0 (gI (sI m 113 8 (gI m 113 45)) 113 46)) 113 1 (gI (sI (sI m 113 8 (gI m 113 45)) 113 0 (gI (sI m 113 8 (gI m 113 45)) 113 46)) 113 47)) 113 2 (gI (sI (sI (sI m 113 8 (gI m 113 45)) 113 0 (gI (sI m 113 8 (gI m 113 45)) 113 46)) 113 1 (gI (sI (sI m 113 8 (gI m 113 45)) 113 0 (gI (sI m 113 8 (gI m 113 45)) 113 46)) 113 47)) 113 48)) 113 49)) 113 37 (gI (sI (sI (sI (sI (sI m 113 8 (gI m 113 45)) 113 0 (gI (sI m 113 8 (gI m 113 45)) 113 46)) 113 1 (gI (sI (sI m 113 8 (gI m 113 45)) 113 0 (gI (sI m 113 8 (gI m 113 45)) 113 46)) 113 47)) 113 2 (gI (sI (sI (sI m 113 8 (gI m 113 45)) 113 0 (gI (sI m 113 8 (gI m 113 45)) 113 46)) 113 1 (gI (sI (sI m 113 8 (gI m 113 45)) 113 0 (gI (sI m 113 8 (gI m 113 45)) 113 46)) 113 47)) 113 48)) 113 33 (gI (sI (sI (sI (sI m 113 8 (gI m 113 45)) 113 0 (gI (sI m 113 8 (gI m 113 45)) 113 46)) 113 1 (gI (sI (sI m 113 8 (gI m 113 45)) 113 0 (gI (sI m 113 8 (gI m 113 45)) 113 46)) 113 47)) 113 2 (gI (sI (sI (sI m 113 8 (gI m 113 45)) 113 0 (gI (sI m 113 8 (gI m 113 45)) 113 46)) 113 1 (gI (sI (sI m 113 8 (gI m 113 45)) 113 0 (gI (sI m 113 8 (gI m 113 45)) 113 46)) 113 47)) 113 48)) 113 49)) 113 50)) 113 51))
    else Q (some (.int (-3 : Int32))) m) :
    zRun C 9 (some .int) zc_Mod_undo Q 0 [.ref 113, .retAddr 0] [] m := zgo [68, 178, 204] hC zs_Mod_undo (i := .aload_n 0) (r := zfind zc_Mod_undo 1) rfl h
set_option maxRecDepth 100000 in
theorem sg_Mod_undo_68 {C : zC} {Q : zQ} (hC : zCm C) (v1 : Int32) (m : zM) (h :
    if (8 : Int32) ≤ v1 then zRun C 9 (some .int) zc_Mod_undo Q 178 [.ref 113, .int (0 : Int32)] [] m
    else vp_in v1 8 ∧ (vp_in v1 8 ∧ (vp_in v1 8 ∧ (vp_in v1 8 ∧ (vp_in v1 8 ∧ (vp_in v1 8 ∧ (vp_in v1 8 ∧ (vp_in v1 8 ∧ (vp_in v1 8 ∧ (vp_in v1 8 ∧ (vp_in v1 8 ∧ (vp_in v1 8 ∧ (vp_in v1 8 ∧ (vp_in v1 8 ∧ (vp_in v1 8 ∧ (vp_in v1 8 ∧ (zRun C 9 (some .int) zc_Mod_undo Q 68 [.ref 113, .int (v1 + (1 : Int32))] [] (sI (sI (sI (sI (sI (sI (sI (sI m 114 v1.toNatClampNeg (gI m 144 v1.toNatClampNeg)) 115 v1.toNatClampNeg (gI (sI m 114 v1.toNatClampNeg (gI m 144 v1.toNatClampNeg)) 145 v1.toNatClampNeg)) 116 v1.toNatClampNeg (gI (sI (sI m 114 v1.toNatClampNeg (gI m 144 v1.toNatClampNeg)) 115 v1.toNatClampNeg (gI (sI m 114 v1.toNatClampNeg (gI m 144 v1.toNatClampNeg)) 145 v1.toNatClampNeg)) 146 v1.toNatClampNeg)) 139 v1.toNatClampNeg (gI (sI (sI (sI m 114 v1.toNatClampNeg (gI m 144 v1.toNatClampNeg)) 115 v1.toNatClampNeg (gI (sI m 114 v1.toNatClampNeg (gI m 144 v1.toNatClampNeg)) 145 v1.toNatClampNeg)) 116 v1.toNatClampNeg (gI (sI (sI m 114 v1.toNatClampNeg (gI m 144 v1.toNatClampNeg)) 115 v1.toNatClampNeg (gI (sI m 114 v1.toNatClampNeg (gI m 144 v1.toNatClampNeg)) 145 v1.toNatClampNeg)) 146 v1.toNatClampNeg)) 151 v1.toNatClampNeg)) 140 v1.toNatClampNeg (gI (sI (sI (sI (sI m 114 v1.toNatClampNeg (gI m 144 v1.toNatClampNeg)) 115 v1.toNatClampNeg (gI (sI m 114 v1.toNatClampNeg (gI m 144 v1.toNatClampNeg)) 145 v1.toNatClampNeg)) 116 v1.toNatClampNeg (gI (sI (sI m 114 v1.toNatClampNeg (gI m 144 v1.toNatClampNeg)) 115 v1.toNatClampNeg (gI (sI m 114 v1.toNatClampNeg (gI m 144 v1.toNatClampNeg)) 145 v1.toNatClampNeg)) 146 v1.toNatClampNeg)) 139 v1.toNatClampNeg (gI (sI (sI (sI m 114 v1.toNatClampNeg (gI m 144 v1.toNatClampNeg)) 115 v1.toNatClampNeg (gI (sI m 114 v1.toNatClampNeg (gI m 144 v1.toNatClampNeg)) 145 v1.toNatClampNeg)) 116 v1.toNatClampNeg (gI (sI (sI m 114 v1.toNatClampNeg (gI m 144 v1.toNatClampNeg)) 115 v1.toNatClampNeg (gI (sI m 114 v1.toNatClampNeg (gI m 144 v1.toNatClampNeg)) 145 v1.toNatClampNeg)) 146 v1.toNatClampNeg)) 151 v1.toNatClampNeg)) 152 v1.toNatClampNeg)) 141 v1.toNatClampNeg (gI (sI (sI (sI (sI (sI m 114 v1.toNatClampNeg (gI m 144 v1.toNatClampNeg)) 115 v1.toNatClampNeg (gI (sI m 114 v1.toNatClampNeg (gI m 144 v1.toNatClampNeg)) 145 v1.toNatClampNeg)) 116 v1.toNatClampNeg (gI (sI (sI m 114 v1.toNatClampNeg (gI m 144 v1.toNatClampNeg)) 115 v1.toNatClampNeg (gI (sI m 114 v1.toNatClampNeg (gI m 144 v1.toNatClampNeg)) 145 v1.toNatClampNeg)) 146 v1.toNatClampNeg)) 139 v1.toNatClampNeg (gI (sI (sI (sI m 114 v1.toNatClampNeg (gI m 144 v1.toNatClampNeg)) 115 v1.toNatClampNeg (gI (sI m 114 v1.toNatClampNeg (gI m 144 v1.toNatClampNeg)) 145 v1.toNatClampNeg)) 116 v1.toNatClampNeg (gI (sI (sI m 114 v1.toNatClampNeg (gI m 144 v1.toNatClampNeg)) 115 v1.toNatClampNeg (gI (sI m 114 v1.toNatClampNeg (gI m 144 v1.toNatClampNeg)) 145 v1.toNatClampNeg)) 146 v1.toNatClampNeg)) 151 v1.toNatClampNeg)) 140 v1.toNatClampNeg (gI (sI (sI (sI (sI m 114 v1.toNatClampNeg (gI m 144 v1.toNatClampNeg)) 115 v1.toNatClampNeg (gI (sI m 114 v1.toNatClampNeg (gI m 144 v1.toNatClampNeg)) 145 v1.toNatClampNeg)) 116 v1.toNatClampNeg (gI (sI (sI m 114 v1.toNatClampNeg (gI m 144 v1.toNatClampNeg)) 115 v1.toNatClampNeg (gI (sI m 114 v1.toNatClampNeg (gI m 144 v1.toNatClampNeg)) 145 v1.toNatClampNeg)) 146 v1.toNatClampNeg)) 139 v1.toNatClampNeg (gI (sI (sI (sI m 114 v1.toNatClampNeg (gI m 144 v1.toNatClampNeg)) 115 v1.toNatClampNeg (gI (sI m 114 v1.toNatClampNeg (gI m 144 v1.toNatClampNeg)) 145 v1.toNatClampNeg)) 116 v1.toNatClampNeg (gI (sI (sI m 114 v1.toNatClampNeg (gI m 144 v1.toNatClampNeg)) 115 v1.toNatClampNeg (gI (sI m 114 v1.toNatClampNeg (gI m 144 v1.toNatClampNeg)) 145 v1.toNatClampNeg)) 146 v1.toNatClampNeg)) 151 v1.toNatClampNeg)) 152 v1.toNatClampNeg)) 153 v1.toNatClampNeg)) 142 v1.toNatClampNeg (gI (sI (sI (sI (sI (sI (sI m 114 v1.toNatClampNeg (gI m 144 v1.toNatClampNeg)) 115 v1.toNatClampNeg (gI (sI m 114 v1.toNatClampNeg (gI m 144 v1.toNatClampNeg)) 145 v1.toNatClampNeg)) 116 v1.toNatClampNeg (gI (sI (sI m 114 v1.toNatClampNeg (gI m 144 v1.toNatClampNeg)) 115 v1.toNatClampNeg (gI (sI m 114 v1.toNatClampNeg (gI m 144 v1.toNatClampNeg)) 145 v1.toNatClampNeg)) 146 v1.toNatClampNeg)) 139 v1.toNatClampNeg (gI (sI (sI (sI m 114 v1.toNatClampNeg (gI m 144 v1.toNatClampNeg)) 115 v1.toNatClampNeg (gI (sI m 114 v1.toNatClampNeg (gI m 144 v1.toNatClampNeg)) 145 v1.toNatClampNeg)) 116 v1.toNatClampNeg (gI (sI (sI m 114 v1.toNatClampNeg (gI m 144 v1.toNatClampNeg)) 115 v1.toNatClampNeg (gI (sI m 114 v1.toNatClampNeg (gI m 144 v1.toNatClampNeg)) 145 v1.toNatClampNeg)) 146 v1.toNatClampNeg)) 151 v1.toNatClampNeg)) 140 v1.toNatClampNeg (gI (sI (sI (sI (sI m 114 v1.toNatClampNeg (gI m 144 v1.toNatClampNeg)) 115 v1.toNatClampNeg (gI (sI m 114 v1.toNatClampNeg (gI m 144 v1.toNatClampNeg)) 145 v1.toNatClampNeg)) 116 v1.toNatClampNeg (gI (sI (sI m 114 v1.toNatClampNeg (gI m 144 v1.toNatClampNeg)) 115 v1.toNatClampNeg (gI (sI m 114 v1.toNatClampNeg (gI m 144 v1.toNatClampNeg)) 145 v1.toNatClampNeg)) 146 v1.toNatClampNeg)) 139 v1.toNatClampNeg (gI (sI (sI (sI m 114 v1.toNatClampNeg (gI m 144 v1.toNatClampNeg)) 115 v1.toNatClampNeg (gI (sI m 114 v1.toNatClampNeg (gI m 144 v1.toNatClampNeg)) 145 v1.toNatClampNeg)) 116 v1.toNatClampNeg (gI (sI (sI m 114 v1.toNatClampNeg (gI m 144 v1.toNatClampNeg)) 115 v1.toNatClampNeg (gI (sI m 114 v1.toNatClampNeg (gI m 144 v1.toNatClampNeg)) 145 v1.toNatClampNeg)) 146 v1.toNatClampNeg)) 151 v1.toNatClampNeg)) 152 v1.toNatClampNeg)) 141 v1.toNatClampNeg (gI (sI (sI (sI (sI (sI m 114 v1.toNatClampNeg (gI m 144 v1.toNatClampNeg)) 115 v1.toNatClampNeg (gI (sI m 114 v1.toNatClampNeg (gI m 144 v1.toNatClampNeg)) 145 v1.toNatClampNeg)) 116 v1.toNatClampNeg (gI (sI (sI m 114 v1.toNatClampNeg (gI m 144 v1.toNatClampNeg)) 115 v1.toNatClampNeg (gI (sI m 114 v1.toNatClampNeg (gI m 144 v1.toNatClampNeg)) 145 v1.toNatClampNeg)) 146 v1.toNatClampNeg)) 139 v1.toNatClampNeg (gI (sI (sI (sI m 114 v1.toNatClampNeg (gI m 144 v1.toNatClampNeg)) 115 v1.toNatClampNeg (gI (sI m 114 v1.toNatClampNeg (gI m 144 v1.toNatClampNeg)) 145 v1.toNatClampNeg)) 116 v1.toNatClampNeg (gI (sI (sI m 114 v1.toNatClampNeg (gI m 144 v1.toNatClampNeg)) 115 v1.toNatClampNeg (gI (sI m 114 v1.toNatClampNeg (gI m 144 v1.toNatClampNeg)) 145 v1.toNatClampNeg)) 146 v1.toNatClampNeg)) 151 v1.toNatClampNeg)) 140 v1.toNatClampNeg (gI (sI (sI (sI (sI m 114 v1.toNatClampNeg (gI m 144 v1.toNatClampNeg)) 115 v1.toNatClampNeg (gI (sI m 114 v1.toNatClampNeg (gI m 144 v1.toNatClampNeg)) 145 v1.toNatClampNeg)) 116 v1.toNatClampNeg (gI (sI (sI m 114 v1.toNatClampNeg (gI m 144 v1.toNatClampNeg)) 115 v1.toNatClampNeg (gI (sI m 114 v1.toNatClampNeg (gI m 144 v1.toNatClampNeg)) 145 v1.toNatClampNeg)) 146 v1.toNatClampNeg)) 139 v1.toNatClampNeg (gI (sI (sI (sI m 114 v1.toNatClampNeg (gI m 144 v1.toNatClampNeg)) 115 v1.toNatClampNeg (gI (sI m 114 v1.toNatClampNeg (gI m 144 v1.toNatClampNeg)) 145 v1.toNatClampNeg)) 116 v1.toNatClampNeg (gI (sI (sI m 114 v1.toNatClampNeg (gI m 144 v1.toNatClampNeg)) 115 v1.toNatClampNeg (gI (sI m 114 v1.toNatClampNeg (gI m 144 v1.toNatClampNeg)) 145 v1.toNatClampNeg)) 146 v1.toNatClampNeg)) 151 v1.toNatClampNeg)) 152 v1.toNatClampNeg)) 153 v1.toNatClampNeg)) 154 v1.toNatClampNeg)) 143 v1.toNatClampNeg (gI (sI (sI (sI (sI (sI (sI (sI m 114 v1.toNatClampNeg (gI m 144 v1.toNatClampNeg)) 115 v1.toNatClampNeg (gI (sI m 114 v1.toNatClampNeg (gI m 144 v1.toNatClampNeg)) 145 v1.toNatClampNeg)) 116 v1.toNatClampNeg (gI (sI (sI m 114 v1.toNatClampNeg (gI m 144 v1.toNatClampNeg)) 115 v1.toNatClampNeg (gI (sI m 114 v1.toNatClampNeg (gI m 144 v1.toNatClampNeg)) 145 v1.toNatClampNeg)) 146 v1.toNatClampNeg)) 139 v1.toNatClampNeg (gI (sI (sI (sI m 114 v1.toNatClampNeg (gI m 144 v1.toNatClampNeg)) 115 v1.toNatClampNeg (gI (sI m 114 v1.toNatClampNeg (gI m 144 v1.toNatClampNeg)) 145 v1.toNatClampNeg)) 116 v1.toNatClampNeg (gI (sI (sI m 114 v1.toNatClampNeg (gI m 144 v1.toNatClampNeg)) 115 v1.toNatClampNeg (gI (sI m 114 v1.toNatClampNeg (gI m 144 v1.toNatClampNeg)) 145 v1.toNatClampNeg)) 146 v1.toNatClampNeg)) 151 v1.toNatClampNeg)) 140 v1.toNatClampNeg (gI (sI (sI (sI (sI m 114 v1.toNatClampNeg (gI m 144 v1.toNatClampNeg)) 115 v1.toNatClampNeg (gI (sI m 114 v1.toNatClampNeg (gI m 144 v1.toNatClampNeg)) 145 v1.toNatClampNeg)) 116 v1.toNatClampNeg (gI (sI (sI m 114 v1.toNatClampNeg (gI m 144 v1.toNatClampNeg)) 115 v1.toNatClampNeg (gI (sI m 114 v1.toNatClampNeg (gI m 144 v1.toNatClampNeg)) 145 v1.toNatClampNeg)) 146 v1.toNatClampNeg)) 139 v1.toNatClampNeg (gI (sI (sI (sI m 114 v1.toNatClampNeg (gI m 144 v1.toNatClampNeg)) 115 v1.toNatClampNeg (gI (sI m 114 v1.toNatClampNeg (gI m 144 v1.toNatClampNeg)) 145 v1.toNatClampNeg)) 116 v1.toNatClampNeg (gI (sI (sI m 114 v1.toNatClampNeg (gI m 144 v1.toNatClampNeg)) 115 v1.toNatClampNeg (gI (sI m 114 v1.toNatClampNeg (gI m 144 v1.toNatClampNeg)) 145 v1.toNatClampNeg)) 146 v1.toNatClampNeg)) 151 v1.toNatClampNeg)) 152 v1.toNatClampNeg)) 141 v1.toNatClampNeg (gI (sI (sI (sI (sI (sI m 114 v1.toNatClampNeg (gI m 144 v1.toNatClampNeg)) 115 v1.toNatClampNeg (gI (sI m 114 v1.toNatClampNeg (gI m 144 v1.toNatClampNeg)) 145 v1.toNatClampNeg)) 116 v1.toNatClampNeg (gI (sI (sI m 114 v1.toNatClampNeg (gI m 144 v1.toNatClampNeg)) 115 v1.toNatClampNeg (gI (sI m 114 v1.toNatClampNeg (gI m 144 v1.toNatClampNeg)) 145 v1.toNatClampNeg)) 146 v1.toNatClampNeg)) 139 v1.toNatClampNeg (gI (sI (sI (sI m 114 v1.toNatClampNeg (gI m 144 v1.toNatClampNeg)) 115 v1.toNatClampNeg (gI (sI m 114 v1.toNatClampNeg (gI m 144 v1.toNatClampNeg)) 145 v1.toNatClampNeg)) 116 v1.toNatClampNeg (gI (sI (sI m 114 v1.toNatClampNeg (gI m 144 v1.toNatClampNeg)) 115 v1.toNatClampNeg (gI (sI m 114 v1.toNatClampNeg (gI m 144 v1.toNatClampNeg)) 145 v1.toNatClampNeg)) 146 v1.toNatClampNeg)) 151 v1.toNatClampNeg)) 140 v1.toNatClampNeg (gI (sI (sI (sI (sI m 114 v1.toNatClampNeg (gI m 144 v1.toNatClampNeg)) 115 v1.toNatClampNeg (gI (sI m 114 v1.toNatClampNeg (gI m 144 v1.toNatClampNeg)) 145 v1.toNatClampNeg)) 116 v1.toNatClampNeg (gI (sI (sI m 114 v1.toNatClampNeg (gI m 144 v1.toNatClampNeg)) 115 v1.toNatClampNeg (gI (sI m 114 v1.toNatClampNeg (gI m 144 v1.toNatClampNeg)) 145 v1.toNatClampNeg)) 146 v1.toNatClampNeg)) 139 v1.toNatClampNeg (gI (sI (sI (sI m 114 v1.toNatClampNeg (gI m 144 v1.toNatClampNeg)) 115 v1.toNatClampNeg (gI (sI m 114 v1.toNatClampNeg (gI m 144 v1.toNatClampNeg)) 145 v1.toNatClampNeg)) 116 v1.toNatClampNeg (gI (sI (sI m 114 v1.toNatClampNeg (gI m 144 v1.toNatClampNeg)) 115 v1.toNatClampNeg (gI (sI m 114 v1.toNatClampNeg (gI m 144 v1.toNatClampNeg)) 145 v1.toNatClampNeg)) 146 v1.toNatClampNeg)) 151 v1.toNatClampNeg)) 152 v1.toNatClampNeg)) 153 v1.toNatClampNeg)) 142 v1.toNatClampNeg (gI (sI (sI (sI (sI (sI (sI m 114 v1.toNatClampNeg (gI m 144 v1.toNatClampNeg)) 115 v1.toNatClampNeg (gI (sI m 114 v1.toNatClampNeg (gI m 144 v1.toNatClampNeg)) 145 v1.toNatClampNeg)) 116 v1.toNatClampNeg (gI (sI (sI m 114 v1.toNatClampNeg (gI m 144 v1.toNatClampNeg)) 115 v1.toNatClampNeg (gI (sI m 114 v1.toNatClampNeg (gI m 144 v1.toNatClampNeg)) 145 v1.toNatClampNeg)) 146 v1.toNatClampNeg)) 139 v1.toNatClampNeg (gI (sI (sI (sI m 114 v1.toNatClampNeg (gI m 144 v1.toNatClampNeg)) 115 v1.toNatClampNeg (gI (sI m 114 v1.toNatClampNeg (gI m 144 v1.toNatClampNeg)) 145 v1.toNatClampNeg)) 116 v1.toNatClampNeg (gI (sI (sI m 114 v1.toNatClampNeg (gI m 144 v1.toNatClampNeg)) 115 v1.toNatClampNeg (gI (sI m 114 v1.toNatClampNeg (gI m 144 v1.toNatClampNeg)) 145 v1.toNatClampNeg)) 146 v1.toNatClampNeg)) 151 v1.toNatClampNeg)) 140 v1.toNatClampNeg (gI (sI (sI (sI (sI m 114 v1.toNatClampNeg (gI m 144 v1.toNatClampNeg)) 115 v1.toNatClampNeg (gI (sI m 114 v1.toNatClampNeg (gI m 144 v1.toNatClampNeg)) 145 v1.toNatClampNeg)) 116 v1.toNatClampNeg (gI (sI (sI m 114 v1.toNatClampNeg (gI m 144 v1.toNatClampNeg)) 115 v1.toNatClampNeg (gI (sI m 114 v1.toNatClampNeg (gI m 144 v1.toNatClampNeg)) 145 v1.toNatClampNeg)) 146 v1.toNatClampNeg)) 139 v1.toNatClampNeg (gI (sI (sI (sI m 114 v1.toNatClampNeg (gI m 144 v1.toNatClampNeg)) 115 v1.toNatClampNeg (gI (sI m 114 v1.toNatClampNeg (gI m 144 v1.toNatClampNeg)) 145 v1.toNatClampNeg)) 116 v1.toNatClampNeg (gI (sI (sI m 114 v1.toNatClampNeg (gI m 144 v1.toNatClampNeg)) 115 v1.toNatClampNeg (gI (sI m 114 v1.toNatClampNeg (gI m 144 v1.toNatClampNeg)) 145 v1.toNatClampNeg)) 146 v1.toNatClampNeg)) 151 v1.toNatClampNeg)) 152 v1.toNatClampNeg)) 141 v1.toNatClampNeg (gI (sI (sI (sI (sI (sI m 114 v1.toNatClampNeg (gI m 144 v1.toNatClampNeg)) 115 v1.toNatClampNeg (gI (sI m 114 v1.toNatClampNeg (gI m 144 v1.toNatClampNeg)) 145 v1.toNatClampNeg)) 116 v1.toNatClampNeg (gI (sI (sI m 114 v1.toNatClampNeg (gI m 144 v1.toNatClampNeg)) 115 v1.toNatClampNeg (gI (sI m 114 v1.toNatClampNeg (gI m 144 v1.toNatClampNeg)) 145 v1.toNatClampNeg)) 146 v1.toNatClampNeg)) 139 v1.toNatClampNeg (gI (sI (sI (sI m 114 v1.toNatClampNeg (gI m 144 v1.toNatClampNeg)) 115 v1.toNatClampNeg (gI (sI m 114 v1.toNatClampNeg (gI m 144 v1.toNatClampNeg)) 145 v1.toNatClampNeg)) 116 v1.toNatClampNeg (gI (sI (sI m 114 v1.toNatClampNeg (gI m 144 v1.toNatClampNeg)) 115 v1.toNatClampNeg (gI (sI m 114 v1.toNatClampNeg (gI m 144 v1.toNatClampNeg)) 145 v1.toNatClampNeg)) 146 v1.toNatClampNeg)) 151 v1.toNatClampNeg)) 140 v1.toNatClampNeg (gI (sI (sI (sI (sI m 114 v1.toNatClampNeg (gI m 144 v1.toNatClampNeg)) 115 v1.toNatClampNeg (gI (sI m 114 v1.toNatClampNeg (gI m 144 v1.toNatClampNeg)) 145 v1.toNatClampNeg)) 116 v1.toNatClampNeg (gI (sI (sI m 114 v1.toNatClampNeg (gI m 144 v1.toNatClampNeg)) 115 v1.toNatClampNeg (gI (sI m 114 v1.toNatClampNeg (gI m 144 v1.toNatClampNeg)) 145 v1.toNatClampNeg)) 146 v1.toNatClampNeg)) 139 v1.toNatClampNeg (gI (sI (sI (sI m 114 v1.toNatClampNeg (gI m 144 v1.toNatClampNeg)) 115 v1.toNatClampNeg (gI (sI m 114 v1.toNatClampNeg (gI m 144 v1.toNatClampNeg)) 145 v1.toNatClampNeg)) 116 v1.toNatClampNeg (gI (sI (sI m 114 v1.toNatClampNeg (gI m 144 v1.toNatClampNeg)) 115 v1.toNatClampNeg (gI (sI m 114 v1.toNatClampNeg (gI m 144 v1.toNatClampNeg)) 145 v1.toNatClampNeg)) 146 v1.toNatClampNeg)) 151 v1.toNatClampNeg)) 152 v1.toNatClampNeg)) 153 v1.toNatClampNeg)) 154 v1.toNatClampNeg)) 155 v1.toNatClampNeg))))))))))))))))))) :
    zRun C 9 (some .int) zc_Mod_undo Q 68 [.ref 113, .int v1] [] m := zgo [68, 178, 204] hC zs_Mod_undo (i := .iload_n 1) (r := zfind zc_Mod_undo 69) rfl h
set_option maxRecDepth 100000 in
theorem sg_Mod_undo_178 {C : zC} {Q : zQ} (hC : zCm C) (v1 : Int32) (m : zM) (h :
    if (32 : Int32) ≤ v1 then zRun C 9 (some .int) zc_Mod_undo Q 204 [.ref 113, .int (0 : Int32)] [] m
    else vp_in v1 32 ∧ (vp_in v1 32 ∧ (zRun C 9 (some .int) zc_Mod_undo Q 178 [.ref 113, .int (v1 + (1 : Int32))] [] (sI m 117 v1.toNatClampNeg (gI m 147 v1.toNatClampNeg))))) :
    zRun C 9 (some .int) zc_Mod_undo Q 178 [.ref 113, .int v1] [] m := zgo [68, 178, 204] hC zs_Mod_undo (i := .iload_n 1) (r := zfind zc_Mod_undo 179) rfl h
set_option maxRecDepth 100000 in
theorem sg_Mod_undo_204 {C : zC} {Q : zQ} (hC : zCm C) (v1 : Int32) (m : zM) (h :
    if (5 : Int32) ≤ v1 then Q (some (.int (gI m 113 0))) m
    else vp_in v1 5 ∧ (vp_in v1 5 ∧ (vp_in v1 5 ∧ (vp_in v1 5 ∧ (vp_in v1 5 ∧ (vp_in v1 5 ∧ (zRun C 9 (some .int) zc_Mod_undo Q 204 [.ref 113, .int (v1 + (1 : Int32))] [] (sI (sI (sI m 136 v1.toNatClampNeg (gI m 148 v1.toNatClampNeg)) 137 v1.toNatClampNeg (gI (sI m 136 v1.toNatClampNeg (gI m 148 v1.toNatClampNeg)) 149 v1.toNatClampNeg)) 138 v1.toNatClampNeg (gI (sI (sI m 136 v1.toNatClampNeg (gI m 148 v1.toNatClampNeg)) 137 v1.toNatClampNeg (gI (sI m 136 v1.toNatClampNeg (gI m 148 v1.toNatClampNeg)) 149 v1.toNatClampNeg)) 150 v1.toNatClampNeg))))))))) :
    zRun C 9 (some .int) zc_Mod_undo Q 204 [.ref 113, .int v1] [] m := zgo [68, 178, 204] hC zs_Mod_undo (i := .iload_n 1) (r := zfind zc_Mod_undo 205) rfl h
theorem en_Mod_undo (dd : Nat) {Q : zQ} (m : zM) (h : zRun (zCall dd) 9 (some .int) zc_Mod_undo Q 0 [.ref 113, .retAddr 0] [] m) : zCall (dd + 1) m_Mod_undo [.ref 113] m Q := ⟨Nat.le_of_ble_eq_true rfl, h⟩
theorem zs_Mod_body : zsrt zc_Mod_body = true := by decide +kernel
set_option maxRecDepth 100000 in
theorem sg_Mod_body_0 {C : zC} {Q : zQ} (hC : zCm C) (a : Int32) (m : zM) (h :
    if (20 : Int32) ≤ (gI m 113 64) then Q none (sI m 113 64 ((gI m 113 64) + (1 : Int32)))
    else vp_in (gI m 113 64) 20 ∧ (Q none (sI (sI m 156 (gI m 113 64).toNatClampNeg a) 113 64 ((gI (sI m 156 (gI m 113 64).toNatClampNeg a) 113 64) + (1 : Int32))))) :
    zRun C 9 none zc_Mod_body Q 0 [.ref 113, .int a] [] m := zgo [] hC zs_Mod_body (i := .aload_n 0) (r := zfind zc_Mod_body 1) rfl h
theorem en_Mod_body (dd : Nat) {Q : zQ} (a : Int32) (m : zM) (h : zRun (zCall dd) 9 none zc_Mod_body Q 0 [.ref 113, .int a] [] m) : zCall (dd + 1) m_Mod_body [.ref 113, .int a] m Q := ⟨Nat.le_of_ble_eq_true rfl, h⟩
theorem zs_Mod_plantHears : zsrt zc_Mod_plantHears = true := by decide +kernel
set_option maxRecDepth 100000 in
theorem sg_Mod_plantHears_0 {C : zC} {Q : zQ} (hC : zCm C) (a : Int32) (b : Int32) (m : zM) (h :
    C m_Mod_body [.ref 113, .int (10 : Int32)] m (fun o1 m2 => o1 = none ∧ (Q (some (.int (b + a))) m2))) :
    zRun C 9 (some .int) zc_Mod_plantHears Q 0 [.ref 113, .int a, .int b] [] m := zgo [] hC zs_Mod_plantHears (i := .aload_n 0) (r := zfind zc_Mod_plantHears 1) rfl h
theorem en_Mod_plantHears (dd : Nat) {Q : zQ} (a : Int32) (b : Int32) (m : zM) (h : zRun (zCall dd) 9 (some .int) zc_Mod_plantHears Q 0 [.ref 113, .int a, .int b] [] m) : zCall (dd + 1) m_Mod_plantHears [.ref 113, .int a, .int b] m Q := ⟨Nat.le_of_ble_eq_true rfl, h⟩
theorem zs_Mod_hearsAct : zsrt zc_Mod_hearsAct = true := by decide +kernel
set_option maxRecDepth 100000 in
theorem sg_Mod_hearsAct_0 {C : zC} {Q : zQ} (hC : zCm C) (a : Int32) (b : Int32) (m : zM) (h :
    vp_in a 8 ∧ (if (gI m 114 a.toNatClampNeg) = (2 : Int32) then C m_Mod_body [.ref 113, .int (30 : Int32)] m (fun o22 m23 => o22 = none ∧ (C m_Mod_plantHears [.ref 113, .int a, .int (b * (3 : Int32))] m23 (fun o24 m25 => ∃ x26, o24 = some (.int x26) ∧ (Q (some (.int x26)) m25))))
    else if (gI m 114 a.toNatClampNeg) = (3 : Int32) then C m_Mod_plantHears [.ref 113, .int a, .int b] m (fun o19 m20 => ∃ x21, o19 = some (.int x21) ∧ (Q (some (.int x21)) m20))
    else if (gI m 114 a.toNatClampNeg) = (4 : Int32) then C m_Mod_body [.ref 113, .int (50 : Int32)] m (fun o14 m15 => o14 = none ∧ (C m_Mod_plantHears [.ref 113, .int a, .int b] m15 (fun o16 m17 => ∃ x18, o16 = some (.int x18) ∧ (Q (some (.int (-x18))) m17))))
    else if (gI m 114 a.toNatClampNeg) = (5 : Int32) then C m_Mod_body [.ref 113, .int (30 : Int32)] m (fun o9 m10 => o9 = none ∧ (C m_Mod_plantHears [.ref 113, .int a, .int (b * (3 : Int32))] m10 (fun o11 m12 => ∃ x13, o11 = some (.int x13) ∧ (Q (some (.int x13)) m12))))
    else if (gI m 114 a.toNatClampNeg) = (6 : Int32) then C m_Mod_body [.ref 113, .int (71 : Int32)] m (fun o4 m5 => o4 = none ∧ (C m_Mod_plantHears [.ref 113, .int a, .int b] m5 (fun o6 m7 => ∃ x8, o6 = some (.int x8) ∧ (vp_in a 8 ∧ (Q (some (.int (x8 ^^^ (gI m7 115 a.toNatClampNeg)))) m7)))))
    else C m_Mod_plantHears [.ref 113, .int a, .int b] m (fun o1 m2 => ∃ x3, o1 = some (.int x3) ∧ (Q (some (.int x3)) m2)))) :
    zRun C 9 (some .int) zc_Mod_hearsAct Q 0 [.ref 113, .int a, .int b] [] m := zgo [] hC zs_Mod_hearsAct (i := .aload_n 0) (r := zfind zc_Mod_hearsAct 1) rfl h
theorem en_Mod_hearsAct (dd : Nat) {Q : zQ} (a : Int32) (b : Int32) (m : zM) (h : zRun (zCall dd) 9 (some .int) zc_Mod_hearsAct Q 0 [.ref 113, .int a, .int b] [] m) : zCall (dd + 1) m_Mod_hearsAct [.ref 113, .int a, .int b] m Q := ⟨Nat.le_of_ble_eq_true rfl, h⟩
theorem zs_Mod_plantSays : zsrt zc_Mod_plantSays = true := by decide +kernel
set_option maxRecDepth 100000 in
theorem sg_Mod_plantSays_0 {C : zC} {Q : zQ} (hC : zCm C) (a : Int32) (b : Int32) (m : zM) (h :
    C m_Mod_body [.ref 113, .int (11 : Int32)] m (fun o1 m2 => o1 = none ∧ (C m_Mod_hearsAct [.ref 113, .int a, .int b] m2 (fun o3 m4 => ∃ x5, o3 = some (.int x5) ∧ (vp_in a 8 ∧ (Q (some (.int (x5 - (gI m4 115 a.toNatClampNeg)))) m4)))))) :
    zRun C 9 (some .int) zc_Mod_plantSays Q 0 [.ref 113, .int a, .int b] [] m := zgo [] hC zs_Mod_plantSays (i := .aload_n 0) (r := zfind zc_Mod_plantSays 1) rfl h
theorem en_Mod_plantSays (dd : Nat) {Q : zQ} (a : Int32) (b : Int32) (m : zM) (h : zRun (zCall dd) 9 (some .int) zc_Mod_plantSays Q 0 [.ref 113, .int a, .int b] [] m) : zCall (dd + 1) m_Mod_plantSays [.ref 113, .int a, .int b] m Q := ⟨Nat.le_of_ble_eq_true rfl, h⟩
theorem zs_Mod_privetSays : zsrt zc_Mod_privetSays = true := by decide +kernel
set_option maxRecDepth 100000 in
theorem sg_Mod_privetSays_0 {C : zC} {Q : zQ} (hC : zCm C) (a : Int32) (b : Int32) (m : zM) (h :
    C m_Mod_body [.ref 113, .int (20 : Int32)] m (fun o1 m2 => o1 = none ∧ (C m_Mod_plantSays [.ref 113, .int a, .int b] m2 (fun o3 m4 => ∃ x5, o3 = some (.int x5) ∧ (Q (some (.int (x5 ^^^ (6 : Int32)))) m4))))) :
    zRun C 9 (some .int) zc_Mod_privetSays Q 0 [.ref 113, .int a, .int b] [] m := zgo [] hC zs_Mod_privetSays (i := .aload_n 0) (r := zfind zc_Mod_privetSays 1) rfl h
theorem en_Mod_privetSays (dd : Nat) {Q : zQ} (a : Int32) (b : Int32) (m : zM) (h : zRun (zCall dd) 9 (some .int) zc_Mod_privetSays Q 0 [.ref 113, .int a, .int b] [] m) : zCall (dd + 1) m_Mod_privetSays [.ref 113, .int a, .int b] m Q := ⟨Nat.le_of_ble_eq_true rfl, h⟩
theorem zs_Mod_saysAct : zsrt zc_Mod_saysAct = true := by decide +kernel
set_option maxRecDepth 100000 in
theorem sg_Mod_saysAct_0 {C : zC} {Q : zQ} (hC : zCm C) (a : Int32) (b : Int32) (m : zM) (h :
    vp_in a 8 ∧ (if (gI m 114 a.toNatClampNeg) = (1 : Int32) then C m_Mod_privetSays [.ref 113, .int a, .int b] m (fun o17 m18 => ∃ x19, o17 = some (.int x19) ∧ (Q (some (.int x19)) m18))
    else if (gI m 114 a.toNatClampNeg) = (4 : Int32) then C m_Mod_body [.ref 113, .int (51 : Int32)] m (fun o12 m13 => o12 = none ∧ (C m_Mod_privetSays [.ref 113, .int a, .int (b + (1 : Int32))] m13 (fun o14 m15 => ∃ x16, o14 = some (.int x16) ∧ (Q (some (.int x16)) m15))))
    else if (gI m 114 a.toNatClampNeg) = (6 : Int32) then C m_Mod_body [.ref 113, .int (70 : Int32)] m (fun o4 m5 => o4 = none ∧ (C m_Mod_plantSays [.ref 113, .int a, .int b] m5 (fun o6 m7 => ∃ x8, o6 = some (.int x8) ∧ (C m_Mod_plantHears [.ref 113, .int a, .int (2 : Int32)] m7 (fun o9 m10 => ∃ x11, o9 = some (.int x11) ∧ (Q (some (.int (x8 + x11))) m10))))))
    else C m_Mod_plantSays [.ref 113, .int a, .int b] m (fun o1 m2 => ∃ x3, o1 = some (.int x3) ∧ (Q (some (.int x3)) m2)))) :
    zRun C 9 (some .int) zc_Mod_saysAct Q 0 [.ref 113, .int a, .int b, .retAddr 0] [] m := zgo [] hC zs_Mod_saysAct (i := .aload_n 0) (r := zfind zc_Mod_saysAct 1) rfl h
theorem en_Mod_saysAct (dd : Nat) {Q : zQ} (a : Int32) (b : Int32) (m : zM) (h : zRun (zCall dd) 9 (some .int) zc_Mod_saysAct Q 0 [.ref 113, .int a, .int b, .retAddr 0] [] m) : zCall (dd + 1) m_Mod_saysAct [.ref 113, .int a, .int b] m Q := ⟨Nat.le_of_ble_eq_true rfl, h⟩
theorem zs_Mod_plantTells : zsrt zc_Mod_plantTells = true := by decide +kernel
set_option maxRecDepth 100000 in
theorem sg_Mod_plantTells_0 {C : zC} {Q : zQ} (hC : zCm C) (a : Int32) (b : Int32) (m : zM) (h :
    C m_Mod_body [.ref 113, .int (12 : Int32)] m (fun o1 m2 => o1 = none ∧ (C m_Mod_saysAct [.ref 113, .int a, .int b] m2 (fun o3 m4 => ∃ x5, o3 = some (.int x5) ∧ (Q (some (.int (x5 * (2 : Int32)))) m4))))) :
    zRun C 9 (some .int) zc_Mod_plantTells Q 0 [.ref 113, .int a, .int b] [] m := zgo [] hC zs_Mod_plantTells (i := .aload_n 0) (r := zfind zc_Mod_plantTells 1) rfl h
theorem en_Mod_plantTells (dd : Nat) {Q : zQ} (a : Int32) (b : Int32) (m : zM) (h : zRun (zCall dd) 9 (some .int) zc_Mod_plantTells Q 0 [.ref 113, .int a, .int b] [] m) : zCall (dd + 1) m_Mod_plantTells [.ref 113, .int a, .int b] m Q := ⟨Nat.le_of_ble_eq_true rfl, h⟩
theorem zs_Mod_tellsAct : zsrt zc_Mod_tellsAct = true := by decide +kernel
set_option maxRecDepth 100000 in
theorem sg_Mod_tellsAct_0 {C : zC} {Q : zQ} (hC : zCm C) (a : Int32) (b : Int32) (m : zM) (h :
    vp_in a 8 ∧ (if (gI m 114 a.toNatClampNeg) = (3 : Int32) then C m_Mod_body [.ref 113, .int (40 : Int32)] m (fun o20 m21 => o20 = none ∧ (C m_Mod_plantTells [.ref 113, .int a, .int b] m21 (fun o22 m23 => ∃ x24, o22 = some (.int x24) ∧ (C m_Mod_saysAct [.ref 113, .int a, .int (1 : Int32)] m23 (fun o25 m26 => ∃ x27, o25 = some (.int x27) ∧ (Q (some (.int (x24 + x27))) m26))))))
    else if (gI m 114 a.toNatClampNeg) = (4 : Int32) then C m_Mod_plantTells [.ref 113, .int a, .int b] m (fun o17 m18 => ∃ x19, o17 = some (.int x19) ∧ (Q (some (.int x19)) m18))
    else if (gI m 114 a.toNatClampNeg) = (5 : Int32) then C m_Mod_body [.ref 113, .int (60 : Int32)] m (fun o12 m13 => o12 = none ∧ (C m_Mod_plantTells [.ref 113, .int a, .int (b - a)] m13 (fun o14 m15 => ∃ x16, o14 = some (.int x16) ∧ (Q (some (.int x16)) m15))))
    else if (gI m 114 a.toNatClampNeg) = (6 : Int32) then C m_Mod_body [.ref 113, .int (40 : Int32)] m (fun o4 m5 => o4 = none ∧ (C m_Mod_plantTells [.ref 113, .int a, .int b] m5 (fun o6 m7 => ∃ x8, o6 = some (.int x8) ∧ (C m_Mod_saysAct [.ref 113, .int a, .int (1 : Int32)] m7 (fun o9 m10 => ∃ x11, o9 = some (.int x11) ∧ (Q (some (.int (x8 + x11))) m10))))))
    else C m_Mod_plantTells [.ref 113, .int a, .int b] m (fun o1 m2 => ∃ x3, o1 = some (.int x3) ∧ (Q (some (.int x3)) m2)))) :
    zRun C 9 (some .int) zc_Mod_tellsAct Q 0 [.ref 113, .int a, .int b, .retAddr 0] [] m := zgo [] hC zs_Mod_tellsAct (i := .aload_n 0) (r := zfind zc_Mod_tellsAct 1) rfl h
theorem en_Mod_tellsAct (dd : Nat) {Q : zQ} (a : Int32) (b : Int32) (m : zM) (h : zRun (zCall dd) 9 (some .int) zc_Mod_tellsAct Q 0 [.ref 113, .int a, .int b, .retAddr 0] [] m) : zCall (dd + 1) m_Mod_tellsAct [.ref 113, .int a, .int b] m Q := ⟨Nat.le_of_ble_eq_true rfl, h⟩
theorem zs_Mod_act : zsrt zc_Mod_act = true := by decide +kernel
set_option maxRecDepth 100000 in
theorem sg_Mod_act_0 {C : zC} {Q : zQ} (hC : zCm C) (a : Int32) (b : Int32) (c : Int32) (m : zM) (h :
    C m_Mod_isPlant [.ref 113, .int a] (sI m 113 64 (0 : Int32)) (fun o1 m2 => ∃ x3, o1 = some (.int x3) ∧ (if x3 = (0 : Int32) then Q (some (.int (0 : Int32))) m2
    else C m_Mod_in [.ref 113, .int b, .int (0 : Int32), .int (2 : Int32)] m2 (fun o4 m5 => ∃ x6, o4 = some (.int x6) ∧ (if ¬ x6 = (0 : Int32) then if ¬ b = (0 : Int32) then if ¬ b = (1 : Int32) then C m_Mod_tellsAct [.ref 113, .int a, .int c] m5 (fun o7 m8 => ∃ x9, o7 = some (.int x9) ∧ (Q (some (.int x9)) m8))
          else C m_Mod_saysAct [.ref 113, .int a, .int c] m5 (fun o10 m11 => ∃ x12, o10 = some (.int x12) ∧ (Q (some (.int x12)) m11))
        else C m_Mod_hearsAct [.ref 113, .int a, .int c] m5 (fun o13 m14 => ∃ x15, o13 = some (.int x15) ∧ (Q (some (.int x15)) m14))
      else Q (some (.int (0 : Int32))) m5))))) :
    zRun C 9 (some .int) zc_Mod_act Q 0 [.ref 113, .int a, .int b, .int c] [] m := zgo [] hC zs_Mod_act (i := .aload_n 0) (r := zfind zc_Mod_act 1) rfl h
theorem en_Mod_act (dd : Nat) {Q : zQ} (a : Int32) (b : Int32) (c : Int32) (m : zM) (h : zRun (zCall dd) 9 (some .int) zc_Mod_act Q 0 [.ref 113, .int a, .int b, .int c] [] m) : zCall (dd + 1) m_Mod_act [.ref 113, .int a, .int b, .int c] m Q := ⟨Nat.le_of_ble_eq_true rfl, h⟩
theorem zs_Mod_trace : zsrt zc_Mod_trace = true := by decide +kernel
set_option maxRecDepth 100000 in
theorem sg_Mod_trace_0 {C : zC} {Q : zQ} (hC : zCm C) (a : Int32) (m : zM) (h :
    C m_Mod_in [.ref 113, .int a, .int (0 : Int32), .int (19 : Int32)] m (fun o1 m2 => ∃ x3, o1 = some (.int x3) ∧ (if x3 = (0 : Int32) then Q (some (.int (-1 : Int32))) m2
    else if (gI m2 113 64) ≤ a then Q (some (.int (-1 : Int32))) m2
      else vp_in a 20 ∧ (Q (some (.int (gI m2 156 a.toNatClampNeg))) m2)))) :
    zRun C 9 (some .int) zc_Mod_trace Q 0 [.ref 113, .int a] [] m := zgo [] hC zs_Mod_trace (i := .aload_n 0) (r := zfind zc_Mod_trace 1) rfl h
theorem en_Mod_trace (dd : Nat) {Q : zQ} (a : Int32) (m : zM) (h : zRun (zCall dd) 9 (some .int) zc_Mod_trace Q 0 [.ref 113, .int a] [] m) : zCall (dd + 1) m_Mod_trace [.ref 113, .int a] m Q := ⟨Nat.le_of_ble_eq_true rfl, h⟩
theorem zs_Mod_taken : zsrt zc_Mod_taken = true := by decide +kernel
set_option maxRecDepth 100000 in
theorem sg_Mod_taken_0 {C : zC} {Q : zQ} (hC : zCm C) (a : Int32) (b : Int32) (m : zM) (h :
    C m_Mod_in [.ref 113, .int b, .int (0 : Int32), .int (6 : Int32)] m (fun o1 m2 => ∃ x3, o1 = some (.int x3) ∧ (if ¬ x3 = (0 : Int32) then C m_Mod_isPlant [.ref 113, .int a] m2 (fun o4 m5 => ∃ x6, o4 = some (.int x6) ∧ (if ¬ x6 = (0 : Int32) then vp_in a 8 ∧ (if b = (0 : Int32) then Q (some (.int (gI m5 114 a.toNatClampNeg))) m5
        else if (gI m5 114 a.toNatClampNeg) = b then Q (some (.int (gI m5 114 a.toNatClampNeg))) m5
          else if ¬ b = (1 : Int32) then if ¬ b = (2 : Int32) then if ¬ b = (3 : Int32) then Q (some (.int (-12 : Int32))) m5
                else if ¬ (gI m5 114 a.toNatClampNeg) = (6 : Int32) then Q (some (.int (-12 : Int32))) m5
                  else Q (some (.int (gI m5 114 a.toNatClampNeg))) m5
              else if (gI m5 114 a.toNatClampNeg) = (5 : Int32) then Q (some (.int (gI m5 114 a.toNatClampNeg))) m5
                else if ¬ b = (3 : Int32) then Q (some (.int (-12 : Int32))) m5
                  else if ¬ (gI m5 114 a.toNatClampNeg) = (6 : Int32) then Q (some (.int (-12 : Int32))) m5
                    else Q (some (.int (gI m5 114 a.toNatClampNeg))) m5
            else if (gI m5 114 a.toNatClampNeg) = (4 : Int32) then Q (some (.int (gI m5 114 a.toNatClampNeg))) m5
              else if ¬ b = (2 : Int32) then if ¬ b = (3 : Int32) then Q (some (.int (-12 : Int32))) m5
                  else if ¬ (gI m5 114 a.toNatClampNeg) = (6 : Int32) then Q (some (.int (-12 : Int32))) m5
                    else Q (some (.int (gI m5 114 a.toNatClampNeg))) m5
                else if (gI m5 114 a.toNatClampNeg) = (5 : Int32) then Q (some (.int (gI m5 114 a.toNatClampNeg))) m5
                  else if ¬ b = (3 : Int32) then Q (some (.int (-12 : Int32))) m5
                    else if ¬ (gI m5 114 a.toNatClampNeg) = (6 : Int32) then Q (some (.int (-12 : Int32))) m5
                      else Q (some (.int (gI m5 114 a.toNatClampNeg))) m5)
      else Q (some (.int (-11 : Int32))) m5))
    else Q (some (.int (-2 : Int32))) m2))) :
    zRun C 9 (some .int) zc_Mod_taken Q 0 [.ref 113, .int a, .int b, .retAddr 0] [] m := zgo [] hC zs_Mod_taken (i := .aload_n 0) (r := zfind zc_Mod_taken 1) rfl h
theorem en_Mod_taken (dd : Nat) {Q : zQ} (a : Int32) (b : Int32) (m : zM) (h : zRun (zCall dd) 9 (some .int) zc_Mod_taken Q 0 [.ref 113, .int a, .int b, .retAddr 0] [] m) : zCall (dd + 1) m_Mod_taken [.ref 113, .int a, .int b] m Q := ⟨Nat.le_of_ble_eq_true rfl, h⟩
theorem zs_Mod_count : zsrt zc_Mod_count = true := by decide +kernel
set_option maxRecDepth 100000 in
theorem sg_Mod_count_0 {C : zC} {Q : zQ} (hC : zCm C) (a : Int32) (m : zM) (h :
    if a = (0 : Int32) then Q (some (.int (gI m 113 0))) m
    else if a = (1 : Int32) then Q (some (.int (gI m 113 7))) m
    else if a = (2 : Int32) then Q (some (.int (gI m 113 33))) m
    else if a = (3 : Int32) then Q (some (.int (gI m 113 37))) m
    else if a = (4 : Int32) then Q (some (.int (gI m 113 38))) m
    else if a = (5 : Int32) then Q (some (.int (gI m 113 9))) m
    else if a = (6 : Int32) then Q (some (.int (gI m 113 64))) m
    else Q (some (.int (-2 : Int32))) m) :
    zRun C 9 (some .int) zc_Mod_count Q 0 [.ref 113, .int a] [] m := zgo [] hC zs_Mod_count (i := .iload_n 1) (r := zfind zc_Mod_count 1) rfl h
theorem en_Mod_count (dd : Nat) {Q : zQ} (a : Int32) (m : zM) (h : zRun (zCall dd) 9 (some .int) zc_Mod_count Q 0 [.ref 113, .int a] [] m) : zCall (dd + 1) m_Mod_count [.ref 113, .int a] m Q := ⟨Nat.le_of_ble_eq_true rfl, h⟩
theorem zs_Mod_isTape : zsrt zc_Mod_isTape = true := by decide +kernel
set_option maxRecDepth 100000 in
theorem sg_Mod_isTape_0 {C : zC} {Q : zQ} (hC : zCm C) (a : Int32) (m : zM) (h :
    C m_Mod_in [.ref 113, .int a, .int (0 : Int32), .int (5 : Int32)] m (fun o1 m2 => ∃ x3, o1 = some (.int x3) ∧ (x3 &&& 1 = x3 ∧ Q (some (.int x3)) m2))) :
    zRun C 9 (some .boolean) zc_Mod_isTape Q 0 [.ref 113, .int a] [] m := zgo [] hC zs_Mod_isTape (i := .aload_n 0) (r := zfind zc_Mod_isTape 1) rfl h
theorem en_Mod_isTape (dd : Nat) {Q : zQ} (a : Int32) (m : zM) (h : zRun (zCall dd) 9 (some .boolean) zc_Mod_isTape Q 0 [.ref 113, .int a] [] m) : zCall (dd + 1) m_Mod_isTape [.ref 113, .int a] m Q := ⟨Nat.le_of_ble_eq_true rfl, h⟩
theorem zs_Mod_tape : zsrt zc_Mod_tape = true := by decide +kernel
set_option maxRecDepth 100000 in
theorem sg_Mod_tape_0 {C : zC} {Q : zQ} (hC : zCm C) (a : Int32) (b : Int32) (c : Int32) (m : zM) (h :
    C m_Mod_isTape [.ref 113, .int a] m (fun o1 m2 => ∃ x3, o1 = some (.int x3) ∧ (if ¬ x3 = (0 : Int32) then C m_Mod_in [.ref 113, .int b, .int (-1 : Int32), .int (4 : Int32)] m2 (fun o4 m5 => ∃ x6, o4 = some (.int x6) ∧ (if x6 = (0 : Int32) then Q (some (.int (-2 : Int32))) m5
      else if b < (0 : Int32) then if b < (0 : Int32) then vp_in a 6 ∧ (if (0 : Int32) ≤ b then vp_in a 6 ∧ (zRun C 9 (some .int) zc_Mod_tape Q 69 [.ref 113, .int a, .int b, .int c, .int (0 : Int32)] [] (sI (sI m5 157 a.toNatClampNeg b) 158 a.toNatClampNeg c))
            else vp_in a 6 ∧ (zRun C 9 (some .int) zc_Mod_tape Q 69 [.ref 113, .int a, .int b, .int c, .int (0 : Int32)] [] (sI (sI m5 157 a.toNatClampNeg b) 158 a.toNatClampNeg (0 : Int32))))
          else if (0 : Int32) ≤ c then vp_in a 6 ∧ (if (0 : Int32) ≤ b then vp_in a 6 ∧ (zRun C 9 (some .int) zc_Mod_tape Q 69 [.ref 113, .int a, .int b, .int c, .int (0 : Int32)] [] (sI (sI m5 157 a.toNatClampNeg b) 158 a.toNatClampNeg c))
              else vp_in a 6 ∧ (zRun C 9 (some .int) zc_Mod_tape Q 69 [.ref 113, .int a, .int b, .int c, .int (0 : Int32)] [] (sI (sI m5 157 a.toNatClampNeg b) 158 a.toNatClampNeg (0 : Int32))))
            else Q (some (.int (-14 : Int32))) m5
        else if c ≤ (60 : Int32) then if b < (0 : Int32) then vp_in a 6 ∧ (if (0 : Int32) ≤ b then vp_in a 6 ∧ (zRun C 9 (some .int) zc_Mod_tape Q 69 [.ref 113, .int a, .int b, .int c, .int (0 : Int32)] [] (sI (sI m5 157 a.toNatClampNeg b) 158 a.toNatClampNeg c))
              else vp_in a 6 ∧ (zRun C 9 (some .int) zc_Mod_tape Q 69 [.ref 113, .int a, .int b, .int c, .int (0 : Int32)] [] (sI (sI m5 157 a.toNatClampNeg b) 158 a.toNatClampNeg (0 : Int32))))
            else if (0 : Int32) ≤ c then vp_in a 6 ∧ (if (0 : Int32) ≤ b then vp_in a 6 ∧ (zRun C 9 (some .int) zc_Mod_tape Q 69 [.ref 113, .int a, .int b, .int c, .int (0 : Int32)] [] (sI (sI m5 157 a.toNatClampNeg b) 158 a.toNatClampNeg c))
                else vp_in a 6 ∧ (zRun C 9 (some .int) zc_Mod_tape Q 69 [.ref 113, .int a, .int b, .int c, .int (0 : Int32)] [] (sI (sI m5 157 a.toNatClampNeg b) 158 a.toNatClampNeg (0 : Int32))))
              else Q (some (.int (-14 : Int32))) m5
          else Q (some (.int (-2 : Int32))) m5))
    else Q (some (.int (-1 : Int32))) m2))) :
    zRun C 9 (some .int) zc_Mod_tape Q 0 [.ref 113, .int a, .int b, .int c, .retAddr 0] [] m := zgo [69] hC zs_Mod_tape (i := .aload_n 0) (r := zfind zc_Mod_tape 1) rfl h
set_option maxRecDepth 100000 in
theorem sg_Mod_tape_69 {C : zC} {Q : zQ} (hC : zCm C) (v1 : Int32) (v2 : Int32) (v3 : Int32) (v4 : Int32) (m : zM) (h :
    if (60 : Int32) ≤ v4 then Q (some (.int (1 : Int32))) m
    else vp_in (((60 : Int32) * v1) + v4) 360 ∧ (zRun C 9 (some .int) zc_Mod_tape Q 69 [.ref 113, .int v1, .int v2, .int v3, .int (v4 + (1 : Int32))] [] (sL m 159 (((60 : Int32) * v1) + v4).toNatClampNeg (0 : Int64)))) :
    zRun C 9 (some .int) zc_Mod_tape Q 69 [.ref 113, .int v1, .int v2, .int v3, .int v4] [] m := zgo [69] hC zs_Mod_tape (i := .iload 4) (r := zfind zc_Mod_tape 71) rfl h
theorem en_Mod_tape (dd : Nat) {Q : zQ} (a : Int32) (b : Int32) (c : Int32) (m : zM) (h : zRun (zCall dd) 9 (some .int) zc_Mod_tape Q 0 [.ref 113, .int a, .int b, .int c, .retAddr 0] [] m) : zCall (dd + 1) m_Mod_tape [.ref 113, .int a, .int b, .int c] m Q := ⟨Nat.le_of_ble_eq_true rfl, h⟩
theorem zs_Mod_narrow : zsrt zc_Mod_narrow = true := by decide +kernel
set_option maxRecDepth 100000 in
theorem sg_Mod_narrow_0 {C : zC} {Q : zQ} (hC : zCm C) (a : Int32) (b : Int64) (m : zM) (h :
    if ¬ a = (0 : Int32) then if ¬ a = (1 : Int32) then if ¬ a = (2 : Int32) then if ¬ a = (4 : Int32) then Q (some (.long b)) m
          else if (lg_cmp b (0 : Int64)) = (0 : Int32) then Q (some (.long (0 : Int64))) m
            else Q (some (.long (1 : Int64))) m
        else Q (some (.long ((b.toInt32).toInt64))) m
      else Q (some (.long (((b.toInt32).toInt16.toInt32).toInt64))) m
    else Q (some (.long (((b.toInt32).toInt8.toInt32).toInt64))) m) :
    zRun C 9 (some .long) zc_Mod_narrow Q 0 [.ref 113, .int a, .long b, .retAddr 0] [] m := zgo [] hC zs_Mod_narrow (i := .iload_n 1) (r := zfind zc_Mod_narrow 1) rfl h
theorem en_Mod_narrow (dd : Nat) {Q : zQ} (a : Int32) (b : Int64) (m : zM) (h : zRun (zCall dd) 9 (some .long) zc_Mod_narrow Q 0 [.ref 113, .int a, .long b, .retAddr 0] [] m) : zCall (dd + 1) m_Mod_narrow [.ref 113, .int a, .long b] m Q := ⟨Nat.le_of_ble_eq_true rfl, h⟩
theorem zs_Mod_item : zsrt zc_Mod_item = true := by decide +kernel
set_option maxRecDepth 100000 in
theorem sg_Mod_item_0 {C : zC} {Q : zQ} (hC : zCm C) (a : Int32) (b : Int32) (c : Int64) (m : zM) (h :
    C m_Mod_isTape [.ref 113, .int a] m (fun o1 m2 => ∃ x3, o1 = some (.int x3) ∧ (if ¬ x3 = (0 : Int32) then vp_in a 6 ∧ (if (0 : Int32) ≤ (gI m2 157 a.toNatClampNeg) then vp_in a 6 ∧ (C m_Mod_in [.ref 113, .int b, .int (0 : Int32), .int ((gI m2 158 a.toNatClampNeg) - (1 : Int32))] m2 (fun o4 m5 => ∃ x6, o4 = some (.int x6) ∧ (if ¬ x6 = (0 : Int32) then vp_in a 6 ∧ (C m_Mod_narrow [.ref 113, .int (gI m5 157 a.toNatClampNeg), .long c] m5 (fun o7 m8 => ∃ y9, o7 = some (.long y9) ∧ (vp_in (((60 : Int32) * a) + b) 360 ∧ (Q (some (.int (1 : Int32))) (sL m8 159 (((60 : Int32) * a) + b).toNatClampNeg y9)))))
        else Q (some (.int (-13 : Int32))) m5)))
      else Q (some (.int (-11 : Int32))) m2)
    else Q (some (.int (-1 : Int32))) m2))) :
    zRun C 9 (some .int) zc_Mod_item Q 0 [.ref 113, .int a, .int b, .long c, .retAddr 0] [] m := zgo [] hC zs_Mod_item (i := .aload_n 0) (r := zfind zc_Mod_item 1) rfl h
theorem en_Mod_item (dd : Nat) {Q : zQ} (a : Int32) (b : Int32) (c : Int64) (m : zM) (h : zRun (zCall dd) 9 (some .int) zc_Mod_item Q 0 [.ref 113, .int a, .int b, .long c, .retAddr 0] [] m) : zCall (dd + 1) m_Mod_item [.ref 113, .int a, .int b, .long c] m Q := ⟨Nat.le_of_ble_eq_true rfl, h⟩
theorem zs_Mod_read : zsrt zc_Mod_read = true := by decide +kernel
set_option maxRecDepth 100000 in
theorem sg_Mod_read_0 {C : zC} {Q : zQ} (hC : zCm C) (a : Int32) (b : Int32) (m : zM) (h :
    C m_Mod_isTape [.ref 113, .int a] m (fun o1 m2 => ∃ x3, o1 = some (.int x3) ∧ (if x3 = (0 : Int32) then Q (some (.long (-9223372036854775808 : Int64))) m2
    else vp_in a 6 ∧ (if (gI m2 157 a.toNatClampNeg) < (0 : Int32) then Q (some (.long (-9223372036854775808 : Int64))) m2
      else vp_in a 6 ∧ (C m_Mod_in [.ref 113, .int b, .int (0 : Int32), .int ((gI m2 158 a.toNatClampNeg) - (1 : Int32))] m2 (fun o4 m5 => ∃ x6, o4 = some (.int x6) ∧ (if ¬ x6 = (0 : Int32) then vp_in (((60 : Int32) * a) + b) 360 ∧ (Q (some (.long (gL m5 159 (((60 : Int32) * a) + b).toNatClampNeg))) m5)
        else Q (some (.long (-9223372036854775808 : Int64))) m5))))))) :
    zRun C 9 (some .long) zc_Mod_read Q 0 [.ref 113, .int a, .int b] [] m := zgo [] hC zs_Mod_read (i := .aload_n 0) (r := zfind zc_Mod_read 1) rfl h
theorem en_Mod_read (dd : Nat) {Q : zQ} (a : Int32) (b : Int32) (m : zM) (h : zRun (zCall dd) 9 (some .long) zc_Mod_read Q 0 [.ref 113, .int a, .int b] [] m) : zCall (dd + 1) m_Mod_read [.ref 113, .int a, .int b] m Q := ⟨Nat.le_of_ble_eq_true rfl, h⟩
theorem zs_Mod_shift : zsrt zc_Mod_shift = true := by decide +kernel
set_option maxRecDepth 100000 in
theorem sg_Mod_shift_0 {C : zC} {Q : zQ} (hC : zCm C) (a : Int32) (b : Int32) (c : Int32) (d : Int32) (e : Int32) (m : zM) (h :
    C m_Mod_isTape [.ref 113, .int a] m (fun o1 m2 => ∃ x3, o1 = some (.int x3) ∧ (if x3 = (0 : Int32) then Q (some (.int (-1 : Int32))) m2
    else C m_Mod_isTape [.ref 113, .int c] m2 (fun o4 m5 => ∃ x6, o4 = some (.int x6) ∧ (if ¬ x6 = (0 : Int32) then vp_in a 6 ∧ (if (gI m5 157 a.toNatClampNeg) < (0 : Int32) then Q (some (.int (-11 : Int32))) m5
        else vp_in c 6 ∧ (if (0 : Int32) ≤ (gI m5 157 c.toNatClampNeg) then vp_in a 6 ∧ (vp_in c 6 ∧ (if (gI m5 157 a.toNatClampNeg) = (gI m5 157 c.toNatClampNeg) then if e < (0 : Int32) then Q (some (.int (-13 : Int32))) m5
              else if b < (0 : Int32) then Q (some (.int (-13 : Int32))) m5
                else if d < (0 : Int32) then Q (some (.int (-13 : Int32))) m5
                  else vp_in a 6 ∧ (if ((gI m5 158 a.toNatClampNeg) - e) < b then Q (some (.int (-13 : Int32))) m5
                    else vp_in c 6 ∧ (if d ≤ ((gI m5 158 c.toNatClampNeg) - e) then zRun C 9 (some .int) zc_Mod_shift Q 104 [.ref 113, .int a, .int b, .int c, .int d, .int e, .int (0 : Int32)] [] m5
                      else Q (some (.int (-13 : Int32))) m5))
            else Q (some (.int (-12 : Int32))) m5))
          else Q (some (.int (-11 : Int32))) m5))
      else Q (some (.int (-1 : Int32))) m5))))) :
    zRun C 9 (some .int) zc_Mod_shift Q 0 [.ref 113, .int a, .int b, .int c, .int d, .int e, .retAddr 0] [] m := zgo [104, 141] hC zs_Mod_shift (i := .aload_n 0) (r := zfind zc_Mod_shift 1) rfl h
set_option maxRecDepth 100000 in
theorem sg_Mod_shift_104 {C : zC} {Q : zQ} (hC : zCm C) (v1 : Int32) (v2 : Int32) (v3 : Int32) (v4 : Int32) (v5 : Int32) (v6 : Int32) (m : zM) (h :
    if v5 ≤ v6 then zRun C 9 (some .int) zc_Mod_shift Q 141 [.ref 113, .int v1, .int v2, .int v3, .int v4, .int v5, .int (0 : Int32)] [] m
    else vp_in ((((60 : Int32) * v1) + v2) + v6) 360 ∧ (vp_in v6 60 ∧ (zRun C 9 (some .int) zc_Mod_shift Q 104 [.ref 113, .int v1, .int v2, .int v3, .int v4, .int v5, .int (v6 + (1 : Int32))] [] (sL m 160 v6.toNatClampNeg (gL m 159 ((((60 : Int32) * v1) + v2) + v6).toNatClampNeg))))) :
    zRun C 9 (some .int) zc_Mod_shift Q 104 [.ref 113, .int v1, .int v2, .int v3, .int v4, .int v5, .int v6] [] m := zgo [104, 141] hC zs_Mod_shift (i := .iload 6) (r := zfind zc_Mod_shift 106) rfl h
set_option maxRecDepth 100000 in
theorem sg_Mod_shift_141 {C : zC} {Q : zQ} (hC : zCm C) (v1 : Int32) (v2 : Int32) (v3 : Int32) (v4 : Int32) (v5 : Int32) (v6 : Int32) (m : zM) (h :
    if v5 ≤ v6 then Q (some (.int v5)) m
    else vp_in v6 60 ∧ (vp_in ((((60 : Int32) * v3) + v4) + v6) 360 ∧ (zRun C 9 (some .int) zc_Mod_shift Q 141 [.ref 113, .int v1, .int v2, .int v3, .int v4, .int v5, .int (v6 + (1 : Int32))] [] (sL m 159 ((((60 : Int32) * v3) + v4) + v6).toNatClampNeg (gL m 160 v6.toNatClampNeg))))) :
    zRun C 9 (some .int) zc_Mod_shift Q 141 [.ref 113, .int v1, .int v2, .int v3, .int v4, .int v5, .int v6] [] m := zgo [104, 141] hC zs_Mod_shift (i := .iload 6) (r := zfind zc_Mod_shift 143) rfl h
theorem en_Mod_shift (dd : Nat) {Q : zQ} (a : Int32) (b : Int32) (c : Int32) (d : Int32) (e : Int32) (m : zM) (h : zRun (zCall dd) 9 (some .int) zc_Mod_shift Q 0 [.ref 113, .int a, .int b, .int c, .int d, .int e, .retAddr 0] [] m) : zCall (dd + 1) m_Mod_shift [.ref 113, .int a, .int b, .int c, .int d, .int e] m Q := ⟨Nat.le_of_ble_eq_true rfl, h⟩
