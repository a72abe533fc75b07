/-! a garden of the class, as it is read into: clear, begin, put (gen75.py) -/
def putM (p : Nat) (m : zM) (c u : Nat) (x : Int32) : zM := sI (sI (sI m (p + 4) u x) p 6 (nI (u + 1))) (p + 3) (c - 1) (nI (u + 1))
def begM (p : Nat) (m : zM) (c u w v : Nat) : zM :=
  let m1 := sI (sI (sI (sI m (p + 1) c (nI w)) (p + 2) c (nI v)) (p + 3) c (nI u)) p 2 (nI (c + 1))
  if w = 2 then sI m1 p 0 (nI v) else if w = 3 then sI m1 p 1 (nI v) else m1
def cleM (p : Nat) (m : zM) : zM := sI (sI (sI (sI m p 0 (-1)) p 1 (-1)) p 2 0) p 6 0
theorem y_put_58 (d : Nat) {Q : zQ} {m : zM} {c u : Nat} (hc : gI m 58 2 = nI c) (h1 : 1 ≤ c) (h2 : c ≤ 10) (hu : gI m 58 6 = nI u) (h3 : u < 100) (x : Int32) (h : Q none (putM 58 m c u x)) : zCall (d + 1) m_Garden_put [.ref 58, .int x] m Q := by
  refine en_Garden_put_58 d _ m (sg_Garden_put_58_0 (zCall_m d) _ m ?_)
  have n1 : nI c - 1 = nI (c - 1) := by rw [show (1 : Int32) = nI 1 from rfl, pk_sub h1]
  have n2 : (nI (c - 1)).toNatClampNeg = c - 1 := nI_clamp (by omega)
  have n3 : (nI u).toNatClampNeg = u := nI_clamp (by omega)
  have n4 : nI u + 1 = nI (u + 1) := nI_1 u
  simp only [gIs, Nat.reduceEqDiff, false_and, true_and, if_false, reduceIte, hc, hu, n1, n2, n3, n4]
  exact iq (nI_ge (b := 100) (by omega) (by omega)) (ip (nI_le (a := 1) (by omega) (by omega)) ⟨vp_in_nI h3 (by omega), vp_in_nI (by omega) (by omega), h⟩)
theorem y_begin_58 (d : Nat) {Q : zQ} {m : zM} {c u : Nat} (hc : gI m 58 2 = nI c) (h2 : c < 10) (hu : gI m 58 6 = nI u) {w : Nat} (hw : w ≤ 3) (v : Nat) (h : Q none (begM 58 m c u w v)) : zCall (d + 1) m_Garden_begin [.ref 58, .int (nI w), .int (nI v)] m Q := by
  refine en_Garden_begin_58 d _ _ m (sg_Garden_begin_58_0 (zCall_m d) _ _ m ?_)
  have n3 : (nI c).toNatClampNeg = c := nI_clamp (by omega)
  have n4 : nI c + 1 = nI (c + 1) := nI_1 c
  simp only [gIs, Nat.reduceEqDiff, false_and, true_and, if_false, reduceIte, hc, hu, n3, n4]
  refine ip (nI_lt (b := 10) (by omega) (by omega)) ⟨vp_in_nI h2 (by omega), vp_in_nI h2 (by omega), vp_in_nI h2 (by omega), ?_⟩
  rcases (show w = 0 ∨ w = 1 ∨ w = 2 ∨ w = 3 by omega) with rfl | rfl | rfl | rfl
  · exact ip (by decide) (ip (by decide) h)
  · exact ip (by decide) (ip (by decide) h)
  · exact iq (fun z => z rfl) h
  · exact ip (by decide) (iq (fun z => z rfl) h)
theorem y_put_63 (d : Nat) {Q : zQ} {m : zM} {c u : Nat} (hc : gI m 63 2 = nI c) (h1 : 1 ≤ c) (h2 : c ≤ 10) (hu : gI m 63 6 = nI u) (h3 : u < 100) (x : Int32) (h : Q none (putM 63 m c u x)) : zCall (d + 1) m_Garden_put [.ref 63, .int x] m Q := by
  refine en_Garden_put_63 d _ m (sg_Garden_put_63_0 (zCall_m d) _ m ?_)
  have n1 : nI c - 1 = nI (c - 1) := by rw [show (1 : Int32) = nI 1 from rfl, pk_sub h1]
  have n2 : (nI (c - 1)).toNatClampNeg = c - 1 := nI_clamp (by omega)
  have n3 : (nI u).toNatClampNeg = u := nI_clamp (by omega)
  have n4 : nI u + 1 = nI (u + 1) := nI_1 u
  simp only [gIs, Nat.reduceEqDiff, false_and, true_and, if_false, reduceIte, hc, hu, n1, n2, n3, n4]
  exact iq (nI_ge (b := 100) (by omega) (by omega)) (ip (nI_le (a := 1) (by omega) (by omega)) ⟨vp_in_nI h3 (by omega), vp_in_nI (by omega) (by omega), h⟩)
theorem y_begin_63 (d : Nat) {Q : zQ} {m : zM} {c u : Nat} (hc : gI m 63 2 = nI c) (h2 : c < 10) (hu : gI m 63 6 = nI u) {w : Nat} (hw : w ≤ 3) (v : Nat) (h : Q none (begM 63 m c u w v)) : zCall (d + 1) m_Garden_begin [.ref 63, .int (nI w), .int (nI v)] m Q := by
  refine en_Garden_begin_63 d _ _ m (sg_Garden_begin_63_0 (zCall_m d) _ _ m ?_)
  have n3 : (nI c).toNatClampNeg = c := nI_clamp (by omega)
  have n4 : nI c + 1 = nI (c + 1) := nI_1 c
  simp only [gIs, Nat.reduceEqDiff, false_and, true_and, if_false, reduceIte, hc, hu, n3, n4]
  refine ip (nI_lt (b := 10) (by omega) (by omega)) ⟨vp_in_nI h2 (by omega), vp_in_nI h2 (by omega), vp_in_nI h2 (by omega), ?_⟩
  rcases (show w = 0 ∨ w = 1 ∨ w = 2 ∨ w = 3 by omega) with rfl | rfl | rfl | rfl
  · exact ip (by decide) (ip (by decide) h)
  · exact ip (by decide) (ip (by decide) h)
  · exact iq (fun z => z rfl) h
  · exact ip (by decide) (iq (fun z => z rfl) h)
theorem y_put_68 (d : Nat) {Q : zQ} {m : zM} {c u : Nat} (hc : gI m 68 2 = nI c) (h1 : 1 ≤ c) (h2 : c ≤ 10) (hu : gI m 68 6 = nI u) (h3 : u < 100) (x : Int32) (h : Q none (putM 68 m c u x)) : zCall (d + 1) m_Garden_put [.ref 68, .int x] m Q := by
  refine en_Garden_put_68 d _ m (sg_Garden_put_68_0 (zCall_m d) _ m ?_)
  have n1 : nI c - 1 = nI (c - 1) := by rw [show (1 : Int32) = nI 1 from rfl, pk_sub h1]
  have n2 : (nI (c - 1)).toNatClampNeg = c - 1 := nI_clamp (by omega)
  have n3 : (nI u).toNatClampNeg = u := nI_clamp (by omega)
  have n4 : nI u + 1 = nI (u + 1) := nI_1 u
  simp only [gIs, Nat.reduceEqDiff, false_and, true_and, if_false, reduceIte, hc, hu, n1, n2, n3, n4]
  exact iq (nI_ge (b := 100) (by omega) (by omega)) (ip (nI_le (a := 1) (by omega) (by omega)) ⟨vp_in_nI h3 (by omega), vp_in_nI (by omega) (by omega), h⟩)
theorem y_begin_68 (d : Nat) {Q : zQ} {m : zM} {c u : Nat} (hc : gI m 68 2 = nI c) (h2 : c < 10) (hu : gI m 68 6 = nI u) {w : Nat} (hw : w ≤ 3) (v : Nat) (h : Q none (begM 68 m c u w v)) : zCall (d + 1) m_Garden_begin [.ref 68, .int (nI w), .int (nI v)] m Q := by
  refine en_Garden_begin_68 d _ _ m (sg_Garden_begin_68_0 (zCall_m d) _ _ m ?_)
  have n3 : (nI c).toNatClampNeg = c := nI_clamp (by omega)
  have n4 : nI c + 1 = nI (c + 1) := nI_1 c
  simp only [gIs, Nat.reduceEqDiff, false_and, true_and, if_false, reduceIte, hc, hu, n3, n4]
  refine ip (nI_lt (b := 10) (by omega) (by omega)) ⟨vp_in_nI h2 (by omega), vp_in_nI h2 (by omega), vp_in_nI h2 (by omega), ?_⟩
  rcases (show w = 0 ∨ w = 1 ∨ w = 2 ∨ w = 3 by omega) with rfl | rfl | rfl | rfl
  · exact ip (by decide) (ip (by decide) h)
  · exact ip (by decide) (ip (by decide) h)
  · exact iq (fun z => z rfl) h
  · exact ip (by decide) (iq (fun z => z rfl) h)
theorem y_put_73 (d : Nat) {Q : zQ} {m : zM} {c u : Nat} (hc : gI m 73 2 = nI c) (h1 : 1 ≤ c) (h2 : c ≤ 10) (hu : gI m 73 6 = nI u) (h3 : u < 100) (x : Int32) (h : Q none (putM 73 m c u x)) : zCall (d + 1) m_Garden_put [.ref 73, .int x] m Q := by
  refine en_Garden_put_73 d _ m (sg_Garden_put_73_0 (zCall_m d) _ m ?_)
  have n1 : nI c - 1 = nI (c - 1) := by rw [show (1 : Int32) = nI 1 from rfl, pk_sub h1]
  have n2 : (nI (c - 1)).toNatClampNeg = c - 1 := nI_clamp (by omega)
  have n3 : (nI u).toNatClampNeg = u := nI_clamp (by omega)
  have n4 : nI u + 1 = nI (u + 1) := nI_1 u
  simp only [gIs, Nat.reduceEqDiff, false_and, true_and, if_false, reduceIte, hc, hu, n1, n2, n3, n4]
  exact iq (nI_ge (b := 100) (by omega) (by omega)) (ip (nI_le (a := 1) (by omega) (by omega)) ⟨vp_in_nI h3 (by omega), vp_in_nI (by omega) (by omega), h⟩)
theorem y_begin_73 (d : Nat) {Q : zQ} {m : zM} {c u : Nat} (hc : gI m 73 2 = nI c) (h2 : c < 10) (hu : gI m 73 6 = nI u) {w : Nat} (hw : w ≤ 3) (v : Nat) (h : Q none (begM 73 m c u w v)) : zCall (d + 1) m_Garden_begin [.ref 73, .int (nI w), .int (nI v)] m Q := by
  refine en_Garden_begin_73 d _ _ m (sg_Garden_begin_73_0 (zCall_m d) _ _ m ?_)
  have n3 : (nI c).toNatClampNeg = c := nI_clamp (by omega)
  have n4 : nI c + 1 = nI (c + 1) := nI_1 c
  simp only [gIs, Nat.reduceEqDiff, false_and, true_and, if_false, reduceIte, hc, hu, n3, n4]
  refine ip (nI_lt (b := 10) (by omega) (by omega)) ⟨vp_in_nI h2 (by omega), vp_in_nI h2 (by omega), vp_in_nI h2 (by omega), ?_⟩
  rcases (show w = 0 ∨ w = 1 ∨ w = 2 ∨ w = 3 by omega) with rfl | rfl | rfl | rfl
  · exact ip (by decide) (ip (by decide) h)
  · exact ip (by decide) (ip (by decide) h)
  · exact iq (fun z => z rfl) h
  · exact ip (by decide) (iq (fun z => z rfl) h)
theorem y_put_78 (d : Nat) {Q : zQ} {m : zM} {c u : Nat} (hc : gI m 78 2 = nI c) (h1 : 1 ≤ c) (h2 : c ≤ 10) (hu : gI m 78 6 = nI u) (h3 : u < 100) (x : Int32) (h : Q none (putM 78 m c u x)) : zCall (d + 1) m_Garden_put [.ref 78, .int x] m Q := by
  refine en_Garden_put_78 d _ m (sg_Garden_put_78_0 (zCall_m d) _ m ?_)
  have n1 : nI c - 1 = nI (c - 1) := by rw [show (1 : Int32) = nI 1 from rfl, pk_sub h1]
  have n2 : (nI (c - 1)).toNatClampNeg = c - 1 := nI_clamp (by omega)
  have n3 : (nI u).toNatClampNeg = u := nI_clamp (by omega)
  have n4 : nI u + 1 = nI (u + 1) := nI_1 u
  simp only [gIs, Nat.reduceEqDiff, false_and, true_and, if_false, reduceIte, hc, hu, n1, n2, n3, n4]
  exact iq (nI_ge (b := 100) (by omega) (by omega)) (ip (nI_le (a := 1) (by omega) (by omega)) ⟨vp_in_nI h3 (by omega), vp_in_nI (by omega) (by omega), h⟩)
theorem y_begin_78 (d : Nat) {Q : zQ} {m : zM} {c u : Nat} (hc : gI m 78 2 = nI c) (h2 : c < 10) (hu : gI m 78 6 = nI u) {w : Nat} (hw : w ≤ 3) (v : Nat) (h : Q none (begM 78 m c u w v)) : zCall (d + 1) m_Garden_begin [.ref 78, .int (nI w), .int (nI v)] m Q := by
  refine en_Garden_begin_78 d _ _ m (sg_Garden_begin_78_0 (zCall_m d) _ _ m ?_)
  have n3 : (nI c).toNatClampNeg = c := nI_clamp (by omega)
  have n4 : nI c + 1 = nI (c + 1) := nI_1 c
  simp only [gIs, Nat.reduceEqDiff, false_and, true_and, if_false, reduceIte, hc, hu, n3, n4]
  refine ip (nI_lt (b := 10) (by omega) (by omega)) ⟨vp_in_nI h2 (by omega), vp_in_nI h2 (by omega), vp_in_nI h2 (by omega), ?_⟩
  rcases (show w = 0 ∨ w = 1 ∨ w = 2 ∨ w = 3 by omega) with rfl | rfl | rfl | rfl
  · exact ip (by decide) (ip (by decide) h)
  · exact ip (by decide) (ip (by decide) h)
  · exact iq (fun z => z rfl) h
  · exact ip (by decide) (iq (fun z => z rfl) h)
theorem y_put_83 (d : Nat) {Q : zQ} {m : zM} {c u : Nat} (hc : gI m 83 2 = nI c) (h1 : 1 ≤ c) (h2 : c ≤ 10) (hu : gI m 83 6 = nI u) (h3 : u < 100) (x : Int32) (h : Q none (putM 83 m c u x)) : zCall (d + 1) m_Garden_put [.ref 83, .int x] m Q := by
  refine en_Garden_put_83 d _ m (sg_Garden_put_83_0 (zCall_m d) _ m ?_)
  have n1 : nI c - 1 = nI (c - 1) := by rw [show (1 : Int32) = nI 1 from rfl, pk_sub h1]
  have n2 : (nI (c - 1)).toNatClampNeg = c - 1 := nI_clamp (by omega)
  have n3 : (nI u).toNatClampNeg = u := nI_clamp (by omega)
  have n4 : nI u + 1 = nI (u + 1) := nI_1 u
  simp only [gIs, Nat.reduceEqDiff, false_and, true_and, if_false, reduceIte, hc, hu, n1, n2, n3, n4]
  exact iq (nI_ge (b := 100) (by omega) (by omega)) (ip (nI_le (a := 1) (by omega) (by omega)) ⟨vp_in_nI h3 (by omega), vp_in_nI (by omega) (by omega), h⟩)
theorem y_begin_83 (d : Nat) {Q : zQ} {m : zM} {c u : Nat} (hc : gI m 83 2 = nI c) (h2 : c < 10) (hu : gI m 83 6 = nI u) {w : Nat} (hw : w ≤ 3) (v : Nat) (h : Q none (begM 83 m c u w v)) : zCall (d + 1) m_Garden_begin [.ref 83, .int (nI w), .int (nI v)] m Q := by
  refine en_Garden_begin_83 d _ _ m (sg_Garden_begin_83_0 (zCall_m d) _ _ m ?_)
  have n3 : (nI c).toNatClampNeg = c := nI_clamp (by omega)
  have n4 : nI c + 1 = nI (c + 1) := nI_1 c
  simp only [gIs, Nat.reduceEqDiff, false_and, true_and, if_false, reduceIte, hc, hu, n3, n4]
  refine ip (nI_lt (b := 10) (by omega) (by omega)) ⟨vp_in_nI h2 (by omega), vp_in_nI h2 (by omega), vp_in_nI h2 (by omega), ?_⟩
  rcases (show w = 0 ∨ w = 1 ∨ w = 2 ∨ w = 3 by omega) with rfl | rfl | rfl | rfl
  · exact ip (by decide) (ip (by decide) h)
  · exact ip (by decide) (ip (by decide) h)
  · exact iq (fun z => z rfl) h
  · exact ip (by decide) (iq (fun z => z rfl) h)
theorem y_putG (d : Nat) {Q : zQ} {m : zM} {g c u : Nat} (hg : g < 6) (hc : gI m (58 + 5 * g) 2 = nI c) (h1 : 1 ≤ c) (h2 : c ≤ 10) (hu : gI m (58 + 5 * g) 6 = nI u) (h3 : u < 100) (x : Int32) (h : Q none (putM (58 + 5 * g) m c u x)) : zCall (d + 1) m_Garden_put [.ref (58 + 5 * g), .int x] m Q := by
  rcases (show g = 0 ∨ g = 1 ∨ g = 2 ∨ g = 3 ∨ g = 4 ∨ g = 5 by omega) with rfl | rfl | rfl | rfl | rfl | rfl
  · exact y_put_58 d hc h1 h2 hu h3 x h
  · exact y_put_63 d hc h1 h2 hu h3 x h
  · exact y_put_68 d hc h1 h2 hu h3 x h
  · exact y_put_73 d hc h1 h2 hu h3 x h
  · exact y_put_78 d hc h1 h2 hu h3 x h
  · exact y_put_83 d hc h1 h2 hu h3 x h
theorem y_putN (d : Nat) {Q : zQ} {m : zM} {g u : Nat} (hg : g < 6) (hu : gI m (58 + 5 * g) 6 = nI u) (h3 : 100 ≤ u) (h4 : u < 2 ^ 31) (x : Int32) (h : Q none m) : zCall (d + 1) m_Garden_put [.ref (58 + 5 * g), .int x] m Q := by
  rcases (show g = 0 ∨ g = 1 ∨ g = 2 ∨ g = 3 ∨ g = 4 ∨ g = 5 by omega) with rfl | rfl | rfl | rfl | rfl | rfl
  · exact en_Garden_put_58 d _ m (sg_Garden_put_58_0 (zCall_m d) _ m (ip (by rw [show gI m 58 6 = nI u from hu]; exact nI_le (a := 100) h3 h4) h))
  · exact en_Garden_put_63 d _ m (sg_Garden_put_63_0 (zCall_m d) _ m (ip (by rw [show gI m 63 6 = nI u from hu]; exact nI_le (a := 100) h3 h4) h))
  · exact en_Garden_put_68 d _ m (sg_Garden_put_68_0 (zCall_m d) _ m (ip (by rw [show gI m 68 6 = nI u from hu]; exact nI_le (a := 100) h3 h4) h))
  · exact en_Garden_put_73 d _ m (sg_Garden_put_73_0 (zCall_m d) _ m (ip (by rw [show gI m 73 6 = nI u from hu]; exact nI_le (a := 100) h3 h4) h))
  · exact en_Garden_put_78 d _ m (sg_Garden_put_78_0 (zCall_m d) _ m (ip (by rw [show gI m 78 6 = nI u from hu]; exact nI_le (a := 100) h3 h4) h))
  · exact en_Garden_put_83 d _ m (sg_Garden_put_83_0 (zCall_m d) _ m (ip (by rw [show gI m 83 6 = nI u from hu]; exact nI_le (a := 100) h3 h4) h))
theorem y_beginG (d : Nat) {Q : zQ} {m : zM} {g c u : Nat} (hg : g < 6) (hc : gI m (58 + 5 * g) 2 = nI c) (h2 : c < 10) (hu : gI m (58 + 5 * g) 6 = nI u) {w : Nat} (hw : w ≤ 3) (v : Nat) (h : Q none (begM (58 + 5 * g) m c u w v)) : zCall (d + 1) m_Garden_begin [.ref (58 + 5 * g), .int (nI w), .int (nI v)] m Q := by
  rcases (show g = 0 ∨ g = 1 ∨ g = 2 ∨ g = 3 ∨ g = 4 ∨ g = 5 by omega) with rfl | rfl | rfl | rfl | rfl | rfl
  · exact y_begin_58 d hc h2 hu hw v h
  · exact y_begin_63 d hc h2 hu hw v h
  · exact y_begin_68 d hc h2 hu hw v h
  · exact y_begin_73 d hc h2 hu hw v h
  · exact y_begin_78 d hc h2 hu hw v h
  · exact y_begin_83 d hc h2 hu hw v h
theorem y_clearG (d : Nat) {Q : zQ} {m : zM} {g : Nat} (hg : g < 6) (h : Q none (cleM (58 + 5 * g) m)) : zCall (d + 1) m_Garden_clear [.ref (58 + 5 * g)] m Q := by
  rcases (show g = 0 ∨ g = 1 ∨ g = 2 ∨ g = 3 ∨ g = 4 ∨ g = 5 by omega) with rfl | rfl | rfl | rfl | rfl | rfl
  · exact en_Garden_clear_58 d m (sg_Garden_clear_58_0 (zCall_m d) m h)
  · exact en_Garden_clear_63 d m (sg_Garden_clear_63_0 (zCall_m d) m h)
  · exact en_Garden_clear_68 d m (sg_Garden_clear_68_0 (zCall_m d) m h)
  · exact en_Garden_clear_73 d m (sg_Garden_clear_73_0 (zCall_m d) m h)
  · exact en_Garden_clear_78 d m (sg_Garden_clear_78_0 (zCall_m d) m h)
  · exact en_Garden_clear_83 d m (sg_Garden_clear_83_0 (zCall_m d) m h)
theorem y_rc5 {g : Nat} (hg : g < 6) : zrc 5 [.ref (58 + 5 * g)] = true := by
  rcases (show g = 0 ∨ g = 1 ∨ g = 2 ∨ g = 3 ∨ g = 4 ∨ g = 5 by omega) with rfl | rfl | rfl | rfl | rfl | rfl
  · rfl
  · rfl
  · rfl
  · rfl
  · rfl
  · rfl
theorem y_rc6 {g : Nat} (hg : g < 6) (x y : Int32) : zrc 6 [.ref (58 + 5 * g), .int x, .int y] = true := by
  rcases (show g = 0 ∨ g = 1 ∨ g = 2 ∨ g = 3 ∨ g = 4 ∨ g = 5 by omega) with rfl | rfl | rfl | rfl | rfl | rfl
  · rfl
  · rfl
  · rfl
  · rfl
  · rfl
  · rfl
theorem y_rc7 {g : Nat} (hg : g < 6) (x : Int32) : zrc 7 [.ref (58 + 5 * g), .int x] = true := by
  rcases (show g = 0 ∨ g = 1 ∨ g = 2 ∨ g = 3 ∨ g = 4 ∨ g = 5 by omega) with rfl | rfl | rfl | rfl | rfl | rfl
  · rfl
  · rfl
  · rfl
  · rfl
  · rfl
  · rfl
