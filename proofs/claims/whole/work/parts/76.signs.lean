/-! the class reads signs: here, skips, number, indexOf, skipsAll (gen76.py) -/
/-- the places that reading writes -/
def rdP (g q : Nat) : Prop := q = 88 ∨ (58 + 5 * g ≤ q ∧ q ≤ 62 + 5 * g)
/-- the reader stands at a of n, and has laid G -/
def cRd (m0 : zM) (g n a : Nat) (G : zG) (m : zM) : Prop :=
  zsm (rdP g) m0 m ∧ gI m 88 0 = nI n ∧ gI m 88 2 = nI a ∧ gG m 88 = some (58 + 5 * g) ∧ gX m (58 + 5 * g) G ∧ gI m (58 + 5 * g) 6 = nI (gU G) ∧ gMn G ∧ gN G ≤ 10 ∧ gU G ≤ 100
/-- what reading finds given: the text, the strings -/
def rGv (m0 : zM) (n : Nat) (tx : Nat → Nat) : Prop := n ≤ 100 ∧ (∀ j, j < n → gI m0 89 j = nI (tx j) ∧ tx j < 128) ∧ ∀ i, i < 7 → ∀ j, j < zslen.getD i 0 → gI m0 (11 + i) j = (zsby.getD i []).getD j 0
def hr (tx : Nat → Nat) (n a : Nat) : Nat := if a < n then tx a else 0
def oN : Option Nat → Int32
  | none => -1
  | some v => nI v
theorem y_chr : ∀ t, t < 128 → (((nI t).toUInt32 % 65536).toInt32) = nI t ∧ (nI t).toUInt32.toUInt16.toUInt32.toInt32 = nI t ∧ (nI t).toInt8.toInt32 = nI t ∧ (nI t) &&& 255 = nI t := by decide +kernel
section
variable {m0 : zM} {g n : Nat} {tx : Nat → Nat} {G : zG} {a : Nat} {m : zM}
theorem rd_n {q : Nat} (hq : q < 58 ∨ 89 ≤ q) (hg : g < 6) : ¬ rdP g q := by unfold rdP; omega
theorem cRd_g (hg : g < 6) (h : cRd m0 g n a G m) {q : Nat} (hq : q < 58 ∨ 89 ≤ q) (k : Nat) : gI m q k = gI m0 q k := (h.1 q (rd_n hq hg)).1 k
theorem cRd_at (h : cRd m0 g n a G m) (hg : g < 6) (e : Nat) : cRd m0 g n e G (sI m 88 2 (nI e)) := by
  obtain ⟨a1, a2, a3, a4, a5, a6, a7⟩ := h
  refine ⟨zsm_sI a1 (show rdP g 88 from Or.inl rfl) _, ?_, ?_, a4, gX_sm (P := fun q => q = 88) a5 (zsm_sI (P := fun q => q = 88) (zsm_refl m) rfl _) (fun q b c z => by omega), ?_, a7⟩
  · rw [gIs, if_neg (by omega)]; exact a2
  · rw [gIs, if_pos ⟨rfl, rfl⟩]
  · rw [gIs, if_neg (by omega)]; exact a6
theorem y_here (d : Nat) {Q : zQ} (hg : g < 6) (hv : rGv m0 n tx) (h : cRd m0 g n a G m) (ha : a ≤ n) (hQ : Q (some (.int (nI (hr tx n a)))) m) : zCall (d + 1) m_Reader_here [.ref 88] m Q := by
  obtain ⟨hn, ht, _⟩ := hv
  refine en_Reader_here d m (sg_Reader_here_0 (zCall_m d) m ?_)
  rw [h.2.1, h.2.2.1]
  unfold hr at hQ
  by_cases q : a < n
  · rw [if_pos q] at hQ
    refine iq (nI_ge q (by omega)) ⟨vp_in_nI (by omega) (by omega), ?_⟩
    rw [nI_clamp (by omega), cRd_g hg h (by omega), (ht a q).1, (y_chr _ (ht a q).2).1]
    exact ⟨(y_chr _ (ht a q).2).2.1, hQ⟩
  · rw [if_neg q] at hQ
    exact ip (nI_le (by omega) (by omega)) ⟨by decide, hQ⟩
theorem hr_b (hv : rGv m0 n tx) (a : Nat) : hr tx n a < 128 := by
  unfold hr
  split
  · exact (hv.2.1 a (by assumption)).2
  · omega
theorem hr_p {c : Nat} (hc : 1 ≤ c) (a : Nat) : hr tx n a = c ↔ pI tx n c a = true := by
  unfold hr
  rw [pI_t]
  constructor
  · intro z
    by_cases q : a < n
    · rw [if_pos q] at z; exact ⟨q, z⟩
    · rw [if_neg q] at z; omega
  · intro z
    rw [if_pos z.1]; exact z.2
theorem y_skips (d : Nat) {Q : zQ} (hg : g < 6) (hv : rGv m0 n tx) (h : cRd m0 g n a G m) (ha : a ≤ n) {c : Nat} (h1 : 1 ≤ c) (h2 : c < 128) (hQ1 : pI tx n c a = true → Q (some (.int 1)) (sI m 88 2 (nI (a + 1)))) (hQ2 : ¬ pI tx n c a = true → Q (some (.int 0)) m) : zCall (d + 2) m_Reader_skips [.ref 88, .int (nI c)] m Q := by
  have hb := hr_b hv a
  refine en_Reader_skips (d + 1) _ m (sg_Reader_skips_0 (zCall_m _) _ m (y_here d hg hv h ha ⟨_, rfl, ?_⟩))
  rw [h.2.2.1, nI_1]
  by_cases q : pI tx n c a = true
  · exact ip (by rw [(hr_p h1 a).mpr q]) ⟨by decide, hQ1 q⟩
  · exact iq (nI_ne (by omega) (by omega) (fun z => q ((hr_p h1 a).mp z))) ⟨by decide, hQ2 q⟩
theorem y_digit (d : Nat) {Q : zQ} (hg : g < 6) (hv : rGv m0 n tx) (h : cRd m0 g n a G m) (ha : a ≤ n) (v1 : Int32) (k : Nat) (hk : k < 2)
    (hQ1 : pD tx n a = true → (if (0 : Int32) ≤ v1 then zRun (zCall d) 5 (some .int) zc_Reader_number Q 4 [.ref 88, .int ((10 : Int32) * v1 + nI (tx a - 48)), .int (nI (k + 1)), .retAddr 0] [] (sI m 88 2 (nI (a + 1))) else zRun (zCall d) 5 (some .int) zc_Reader_number Q 4 [.ref 88, .int (nI (tx a - 48)), .int (nI (k + 1)), .retAddr 0] [] (sI m 88 2 (nI (a + 1)))))
    (hQ2 : ¬ pD tx n a = true → Q (some (.int v1)) m) : zRun (zCall d) 5 (some .int) zc_Reader_number Q 4 [.ref 88, .int v1, .int (nI k), .retAddr 0] [] m := by
  obtain ⟨hn, ht, _⟩ := hv
  have wk : ∀ {x y : Int32} {m' : zM}, zRun (zCall d) 5 (some .int) zc_Reader_number Q 4 [.ref 88, .int x, .int (nI (k + 1)), .retAddr 0] [] m' → zRun (zCall d) 5 (some .int) zc_Reader_number Q 4 [.ref 88, .int x, .int (nI (k + 1)), .int y] [] m' := fun hz =>
    zRun_le (zCall_m d) (by repeat (first | exact zle_nil | apply zle_same | apply zle_new _ rfl)) hz
  refine sg_Reader_number_4 (zCall_m d) _ _ m (iq (nI_ge (b := 2) hk (by omega)) ?_)
  rw [h.2.1, h.2.2.1]
  by_cases q : a < n
  · have t1 := (ht a q).2
    refine iq (nI_ge q (by omega)) ⟨vp_in_nI (by omega) (by omega), ?_⟩
    rw [nI_clamp (by omega), cRd_g hg h (by omega), (ht a q).1]
    by_cases q2 : tx a < 48
    · exact ip (nI_lt (b := 48) q2 (by omega)) (hQ2 (fun z => by have := of_decide_eq_true z; omega))
    · refine iq (fun z => by have := Int32.lt_iff_toInt_lt.mp z; rw [nI_toInt (by omega), show (48 : Int32) = nI 48 from rfl, nI_toInt (by omega)] at this; omega) ⟨vp_in_nI (by omega) (by omega), ?_⟩
      by_cases q3 : 57 < tx a
      · exact ip (nI_lt (a := 57) q3 (by omega)) (hQ2 (fun z => by have := of_decide_eq_true z; omega))
      · refine iq (fun z => by have := Int32.lt_iff_toInt_lt.mp z; rw [nI_toInt (by omega), show (57 : Int32) = nI 57 from rfl, nI_toInt (by omega)] at this; omega) ⟨vp_in_nI (by omega) (by omega), ?_⟩
        have hd : pD tx n a = true := decide_eq_true ⟨q, by omega, by omega⟩
        have hQ1 := hQ1 hd
        rw [nI_1, nI_1, show nI (tx a) - (48 : Int32) = nI (tx a - 48) from by rw [show (48 : Int32) = nI 48 from rfl, pk_sub (by omega)]]
        by_cases q4 : (0 : Int32) ≤ v1
        · rw [if_pos q4] at hQ1 ⊢
          exact wk hQ1
        · rw [if_neg q4] at hQ1 ⊢
          exact wk hQ1
  · exact ip (nI_le (by omega) (by omega)) (hQ2 (fun z => by have := of_decide_eq_true z; omega))
theorem y_num (d : Nat) {Q : zQ} (hg : g < 6) (hv : rGv m0 n tx) (h : cRd m0 g n a G m) (ha : a ≤ n) (hQ : ∀ m', cRd m0 g n (pNum tx n a).2 G m' → Q (some (.int (oN (pNum tx n a).1))) m') : zCall (d + 1) m_Reader_number [.ref 88] m Q := by
  unfold pNum at hQ
  refine en_Reader_number d m (sg_Reader_number_0 (zCall_m d) m (y_digit d hg hv h ha (-1) 0 (by omega) (fun q => iq (by decide) ?_) (fun q => ?_)))
  · rw [if_pos q] at hQ
    have qa := of_decide_eq_true q
    refine y_digit d hg hv (cRd_at h hg (a + 1)) (by omega) _ 1 (by omega) (fun q2 => ip (nI_pos' (by omega)) ?_) (fun q2 => ?_)
    · rw [if_pos q2] at hQ
      refine sg_Reader_number_4 (zCall_m d) _ _ _ (ip (by decide) ?_)
      rw [show (10 : Int32) = nI 10 from rfl, pk_mul, nI_add]
      exact hQ _ (cRd_at (cRd_at h hg (a + 1)) hg (a + 2))
    · rw [if_neg q2] at hQ
      exact hQ _ (cRd_at h hg (a + 1))
  · rw [if_neg q] at hQ
    exact hQ m h
end
/-- where a letter stands among these -/
def ixF (f : Nat → Nat) (t : Nat) : Nat → Nat → Int32
  | 0, _ => -1
  | k + 1, i => if t = f i then nI i else ixF f t k (i + 1)
theorem sg_Str_length_4_0 {C : zC} {Q : zQ} (hC : zCm C) (m : zM) (h :
    C m_Str_coder [.ref 4] m (fun o1 m2 => ∃ x3, o1 = some (.int x3) ∧ (Q (some (.int ((4 : Int32) >>> (x3 &&& 31)))) m2))) :
    zRun C 10 (some .int) zc_Str_length Q 0 [.ref 4] [] m := zgo [] hC zs_Str_length (i := .aload_n 0) (r := zfind zc_Str_length 1) rfl h
theorem en_Str_length_4 (dd : Nat) {Q : zQ} (m : zM) (h : zRun (zCall dd) 10 (some .int) zc_Str_length Q 0 [.ref 4] [] m) : zCall (dd + 1) m_Str_length [.ref 4] m Q := ⟨Nat.le_of_ble_eq_true rfl, h⟩
theorem y_ixc_11 (d : Nat) {Q : zQ} {m : zM} {f : Nat → Nat} (hb : ∀ j, j < 4 → gI m 11 j = nI (f j) ∧ f j < 128) {t : Nat} (ht : t < 128) : ∀ k i, i + k = 4 → Q (some (.int (ixF f t k i))) m → zRun (zCall d) 11 (some .int) zc_Lat_indexOfChar Q 7 [.ref 11, .int (nI t), .int 0, .int 4, .int (nI t), .int (nI i)] [] m
  | 0, i, hi, h => by
    refine sg_Lat_indexOfChar_11_7 (zCall_m d) _ _ _ _ _ m (ip (nI_le (a := 4) (by omega) (by omega)) h)
  | k + 1, i, hi, h => by
    refine sg_Lat_indexOfChar_11_7 (zCall_m d) _ _ _ _ _ m (iq (nI_ge (b := 4) (by omega) (by omega)) ⟨vp_in_nI (by omega) (by omega), ?_⟩)
    rw [nI_clamp (by omega), (hb i (by omega)).1, nI_1]
    have := (hb i (by omega)).2
    unfold ixF at h
    by_cases q : t = f i
    · rw [if_pos q] at h
      exact iq (fun z => z (by rw [q])) h
    · rw [if_neg q] at h
      exact ip (nI_ne (by omega) (by omega) (fun z => q z.symm)) (y_ixc_11 d hb ht k (i + 1) (by omega) h)
theorem y_ix_4 (d : Nat) {Q : zQ} {m : zM} (hb : ∀ j, j < 4 → gI m 11 j = nI (([115, 113, 102, 108] : List Nat).getD j 0)) {t : Nat} (ht : t < 128) (h : Q (some (.int (ixF (fun j => ([115, 113, 102, 108] : List Nat).getD j 0) t 4 0))) m) : zCall (d + 4) m_Str_indexOf [.ref 4, .int (nI t)] m Q := by
  have hb2 : ∀ j, j < 4 → gI m 11 j = nI ((fun j => ([115, 113, 102, 108] : List Nat).getD j 0) j) ∧ (fun j => ([115, 113, 102, 108] : List Nat).getD j 0) j < 128 := fun j hj => ⟨hb j hj, (by decide : ∀ j, j < 4 → ([115, 113, 102, 108] : List Nat).getD j 0 < 128) j hj⟩
  refine en_Str_indexOf_4 (d + 3) _ m (sg_Str_indexOf_4_0 (zCall_m _) _ m (en_Str_indexOf2_4 (d + 2) _ _ m (sg_Str_indexOf2_4_0 (zCall_m _) _ _ m (en_Str_isLatin1_4 (d + 1) m (sg_Str_isLatin1_4_0 (zCall_m _) m ⟨by decide, _, rfl, iq (by decide) ?_⟩)))))
  refine en_Str_length_4 (d + 1) m (sg_Str_length_4_0 (zCall_m _) m (en_Str_coder_4 d m (sg_Str_coder_4_0 (zCall_m _) m ⟨by decide, _, rfl, _, rfl, ?_⟩)))
  refine en_Lat_indexOf_11 (d + 1) _ _ _ m (sg_Lat_indexOf_11_0 (zCall_m _) _ _ _ m (en_Lat_canEncode d _ m (sg_Lat_canEncode_0 (zCall_m _) _ m (iq (fun z => ?_) (iq (fun z => ?_) ⟨by decide, _, rfl, ip (by decide) (ip (by decide) ?_)⟩)))))
  · have := Int32.lt_iff_toInt_lt.mp z
    rw [nI_toInt (by omega), show (0 : Int32) = nI 0 from rfl, nI_toInt (by omega)] at this
    omega
  · have := Int32.lt_iff_toInt_lt.mp z
    rw [nI_toInt (by omega), show (255 : Int32) = nI 255 from rfl, nI_toInt (by omega)] at this
    omega
  · refine en_Lat_indexOfChar_11 d _ _ _ m (sg_Lat_indexOfChar_11_0 (zCall_m _) _ _ _ m ?_)
    rw [(y_chr t ht).2.2.1]
    exact y_ixc_11 d hb2 ht 4 0 rfl ⟨_, rfl, _, rfl, _, rfl, h⟩
theorem sg_Str_length_5_0 {C : zC} {Q : zQ} (hC : zCm C) (m : zM) (h :
    C m_Str_coder [.ref 5] m (fun o1 m2 => ∃ x3, o1 = some (.int x3) ∧ (Q (some (.int ((6 : Int32) >>> (x3 &&& 31)))) m2))) :
    zRun C 10 (some .int) zc_Str_length Q 0 [.ref 5] [] m := zgo [] hC zs_Str_length (i := .aload_n 0) (r := zfind zc_Str_length 1) rfl h
theorem en_Str_length_5 (dd : Nat) {Q : zQ} (m : zM) (h : zRun (zCall dd) 10 (some .int) zc_Str_length Q 0 [.ref 5] [] m) : zCall (dd + 1) m_Str_length [.ref 5] m Q := ⟨Nat.le_of_ble_eq_true rfl, h⟩
theorem y_ixc_12 (d : Nat) {Q : zQ} {m : zM} {f : Nat → Nat} (hb : ∀ j, j < 6 → gI m 12 j = nI (f j) ∧ f j < 128) {t : Nat} (ht : t < 128) : ∀ k i, i + k = 6 → Q (some (.int (ixF f t k i))) m → zRun (zCall d) 11 (some .int) zc_Lat_indexOfChar Q 7 [.ref 12, .int (nI t), .int 0, .int 6, .int (nI t), .int (nI i)] [] m
  | 0, i, hi, h => by
    refine sg_Lat_indexOfChar_12_7 (zCall_m d) _ _ _ _ _ m (ip (nI_le (a := 6) (by omega) (by omega)) h)
  | k + 1, i, hi, h => by
    refine sg_Lat_indexOfChar_12_7 (zCall_m d) _ _ _ _ _ m (iq (nI_ge (b := 6) (by omega) (by omega)) ⟨vp_in_nI (by omega) (by omega), ?_⟩)
    rw [nI_clamp (by omega), (hb i (by omega)).1, nI_1]
    have := (hb i (by omega)).2
    unfold ixF at h
    by_cases q : t = f i
    · rw [if_pos q] at h
      exact iq (fun z => z (by rw [q])) h
    · rw [if_neg q] at h
      exact ip (nI_ne (by omega) (by omega) (fun z => q z.symm)) (y_ixc_12 d hb ht k (i + 1) (by omega) h)
theorem y_ix_5 (d : Nat) {Q : zQ} {m : zM} (hb : ∀ j, j < 6 → gI m 12 j = nI (([112, 107, 118, 116, 104, 100] : List Nat).getD j 0)) {t : Nat} (ht : t < 128) (h : Q (some (.int (ixF (fun j => ([112, 107, 118, 116, 104, 100] : List Nat).getD j 0) t 6 0))) m) : zCall (d + 4) m_Str_indexOf [.ref 5, .int (nI t)] m Q := by
  have hb2 : ∀ j, j < 6 → gI m 12 j = nI ((fun j => ([112, 107, 118, 116, 104, 100] : List Nat).getD j 0) j) ∧ (fun j => ([112, 107, 118, 116, 104, 100] : List Nat).getD j 0) j < 128 := fun j hj => ⟨hb j hj, (by decide : ∀ j, j < 6 → ([112, 107, 118, 116, 104, 100] : List Nat).getD j 0 < 128) j hj⟩
  refine en_Str_indexOf_5 (d + 3) _ m (sg_Str_indexOf_5_0 (zCall_m _) _ m (en_Str_indexOf2_5 (d + 2) _ _ m (sg_Str_indexOf2_5_0 (zCall_m _) _ _ m (en_Str_isLatin1_5 (d + 1) m (sg_Str_isLatin1_5_0 (zCall_m _) m ⟨by decide, _, rfl, iq (by decide) ?_⟩)))))
  refine en_Str_length_5 (d + 1) m (sg_Str_length_5_0 (zCall_m _) m (en_Str_coder_5 d m (sg_Str_coder_5_0 (zCall_m _) m ⟨by decide, _, rfl, _, rfl, ?_⟩)))
  refine en_Lat_indexOf_12 (d + 1) _ _ _ m (sg_Lat_indexOf_12_0 (zCall_m _) _ _ _ m (en_Lat_canEncode d _ m (sg_Lat_canEncode_0 (zCall_m _) _ m (iq (fun z => ?_) (iq (fun z => ?_) ⟨by decide, _, rfl, ip (by decide) (ip (by decide) ?_)⟩)))))
  · have := Int32.lt_iff_toInt_lt.mp z
    rw [nI_toInt (by omega), show (0 : Int32) = nI 0 from rfl, nI_toInt (by omega)] at this
    omega
  · have := Int32.lt_iff_toInt_lt.mp z
    rw [nI_toInt (by omega), show (255 : Int32) = nI 255 from rfl, nI_toInt (by omega)] at this
    omega
  · refine en_Lat_indexOfChar_12 d _ _ _ m (sg_Lat_indexOfChar_12_0 (zCall_m _) _ _ _ m ?_)
    rw [(y_chr t ht).2.2.1]
    exact y_ixc_12 d hb2 ht 6 0 rfl ⟨_, rfl, _, rfl, _, rfl, h⟩
theorem sg_Str_length_6_0 {C : zC} {Q : zQ} (hC : zCm C) (m : zM) (h :
    C m_Str_coder [.ref 6] m (fun o1 m2 => ∃ x3, o1 = some (.int x3) ∧ (Q (some (.int ((3 : Int32) >>> (x3 &&& 31)))) m2))) :
    zRun C 10 (some .int) zc_Str_length Q 0 [.ref 6] [] m := zgo [] hC zs_Str_length (i := .aload_n 0) (r := zfind zc_Str_length 1) rfl h
theorem en_Str_length_6 (dd : Nat) {Q : zQ} (m : zM) (h : zRun (zCall dd) 10 (some .int) zc_Str_length Q 0 [.ref 6] [] m) : zCall (dd + 1) m_Str_length [.ref 6] m Q := ⟨Nat.le_of_ble_eq_true rfl, h⟩
theorem y_ixc_13 (d : Nat) {Q : zQ} {m : zM} {f : Nat → Nat} (hb : ∀ j, j < 3 → gI m 13 j = nI (f j) ∧ f j < 128) {t : Nat} (ht : t < 128) : ∀ k i, i + k = 3 → Q (some (.int (ixF f t k i))) m → zRun (zCall d) 11 (some .int) zc_Lat_indexOfChar Q 7 [.ref 13, .int (nI t), .int 0, .int 3, .int (nI t), .int (nI i)] [] m
  | 0, i, hi, h => by
    refine sg_Lat_indexOfChar_13_7 (zCall_m d) _ _ _ _ _ m (ip (nI_le (a := 3) (by omega) (by omega)) h)
  | k + 1, i, hi, h => by
    refine sg_Lat_indexOfChar_13_7 (zCall_m d) _ _ _ _ _ m (iq (nI_ge (b := 3) (by omega) (by omega)) ⟨vp_in_nI (by omega) (by omega), ?_⟩)
    rw [nI_clamp (by omega), (hb i (by omega)).1, nI_1]
    have := (hb i (by omega)).2
    unfold ixF at h
    by_cases q : t = f i
    · rw [if_pos q] at h
      exact iq (fun z => z (by rw [q])) h
    · rw [if_neg q] at h
      exact ip (nI_ne (by omega) (by omega) (fun z => q z.symm)) (y_ixc_13 d hb ht k (i + 1) (by omega) h)
theorem y_ix_6 (d : Nat) {Q : zQ} {m : zM} (hb : ∀ j, j < 3 → gI m 13 j = nI (([60, 61, 62] : List Nat).getD j 0)) {t : Nat} (ht : t < 128) (h : Q (some (.int (ixF (fun j => ([60, 61, 62] : List Nat).getD j 0) t 3 0))) m) : zCall (d + 4) m_Str_indexOf [.ref 6, .int (nI t)] m Q := by
  have hb2 : ∀ j, j < 3 → gI m 13 j = nI ((fun j => ([60, 61, 62] : List Nat).getD j 0) j) ∧ (fun j => ([60, 61, 62] : List Nat).getD j 0) j < 128 := fun j hj => ⟨hb j hj, (by decide : ∀ j, j < 3 → ([60, 61, 62] : List Nat).getD j 0 < 128) j hj⟩
  refine en_Str_indexOf_6 (d + 3) _ m (sg_Str_indexOf_6_0 (zCall_m _) _ m (en_Str_indexOf2_6 (d + 2) _ _ m (sg_Str_indexOf2_6_0 (zCall_m _) _ _ m (en_Str_isLatin1_6 (d + 1) m (sg_Str_isLatin1_6_0 (zCall_m _) m ⟨by decide, _, rfl, iq (by decide) ?_⟩)))))
  refine en_Str_length_6 (d + 1) m (sg_Str_length_6_0 (zCall_m _) m (en_Str_coder_6 d m (sg_Str_coder_6_0 (zCall_m _) m ⟨by decide, _, rfl, _, rfl, ?_⟩)))
  refine en_Lat_indexOf_13 (d + 1) _ _ _ m (sg_Lat_indexOf_13_0 (zCall_m _) _ _ _ m (en_Lat_canEncode d _ m (sg_Lat_canEncode_0 (zCall_m _) _ m (iq (fun z => ?_) (iq (fun z => ?_) ⟨by decide, _, rfl, ip (by decide) (ip (by decide) ?_)⟩)))))
  · have := Int32.lt_iff_toInt_lt.mp z
    rw [nI_toInt (by omega), show (0 : Int32) = nI 0 from rfl, nI_toInt (by omega)] at this
    omega
  · have := Int32.lt_iff_toInt_lt.mp z
    rw [nI_toInt (by omega), show (255 : Int32) = nI 255 from rfl, nI_toInt (by omega)] at this
    omega
  · refine en_Lat_indexOfChar_13 d _ _ _ m (sg_Lat_indexOfChar_13_0 (zCall_m _) _ _ _ m ?_)
    rw [(y_chr t ht).2.2.1]
    exact y_ixc_13 d hb2 ht 3 0 rfl ⟨_, rfl, _, rfl, _, rfl, h⟩
theorem y_len_7 (d : Nat) {Q : zQ} {m : zM} (h : Q (some (.int 4)) m) : zCall (d + 2) m_Str_length [.ref 7] m Q :=
  en_Str_length_7 (d + 1) m (sg_Str_length_7_0 (zCall_m _) m (en_Str_coder_7 d m (sg_Str_coder_7_0 (zCall_m _) m ⟨by decide, _, rfl, h⟩)))
theorem y_char_7 (d : Nat) {Q : zQ} {m : zM} {i c : Nat} (hi : i < 4) (hb : gI m 14 i = nI c) (hc : c < 128) (h : Q (some (.int (nI c))) m) : zCall (d + 4) m_Str_charAt [.ref 7, .int (nI i)] m Q := by
  refine en_Str_charAt_7 (d + 3) _ m (sg_Str_charAt_7_0 (zCall_m _) _ m (en_Str_isLatin1_7 (d + 2) m (sg_Str_isLatin1_7_0 (zCall_m _) m ⟨by decide, _, rfl, iq (by decide) ?_⟩)))
  refine en_Lat_charAt_14 (d + 2) _ m (sg_Lat_charAt_14_0 (zCall_m _) _ m (en_Str_checkIndex_7 (d + 1) _ _ m (sg_Str_checkIndex_7_0 (zCall_m _) _ _ m (en_Pre_checkIndex d _ _ m (sg_Pre_checkIndex_0 (zCall_m _) _ _ m (iq (fun z => ?_) (ip (nI_lt (b := 4) hi (by omega)) ⟨_, rfl, rfl, vp_in_nI hi (by omega), ?_⟩)))))))
  · have := Int32.lt_iff_toInt_lt.mp z
    rw [nI_toInt (by omega), show (0 : Int32) = nI 0 from rfl, nI_toInt (by omega)] at this
    omega
  · rw [nI_clamp (by omega), hb, (y_chr c hc).2.2.2, (y_chr c hc).1]
    exact ⟨(y_chr c hc).2.1, _, rfl, (y_chr c hc).2.1, h⟩
theorem y_ska_7 (d : Nat) {Q : zQ} {m0 : zM} {g n : Nat} {tx : Nat → Nat} {G : zG} (hg : g < 6) (hv : rGv m0 n tx) {bs : Nat} (hQ : ∀ e m', e = (pSk tx n ([115, 108, 111, 119] : List Nat) bs).2 → cRd m0 g n e G m' → Q (some (.int (zb (pSk tx n ([115, 108, 111, 119] : List Nat) bs).1))) m') :
    ∀ (r : List Nat) (i a : Nat) (m : zM), ([115, 108, 111, 119] : List Nat).drop i = r → i + r.length = 4 → a ≤ n → cRd m0 g n a G m → pSk tx n r a = pSk tx n ([115, 108, 111, 119] : List Nat) bs → zRun (zCall (d + 4)) 5 (some .boolean) zc_Reader_skipsAll Q 2 [.ref 88, .ref 7, .int (nI i)] [] m
  | [], i, a, m, hr, hi, ha, h, hp => by
    refine sg_Reader_skipsAll_7_2 (zCall_m _) _ m (y_len_7 (d + 2) ⟨_, rfl, ip (nI_le (a := 4) (by rw [List.length_nil] at hi; omega) (by rw [List.length_nil] at hi; omega)) ⟨by decide, ?_⟩⟩)
    rw [← hp] at hQ
    exact hQ a m rfl h
  | c :: r, i, a, m, hr, hi, ha, h, hp => by
    rw [List.length_cons] at hi
    have hc : c = ([115, 108, 111, 119] : List Nat).getD i 0 := by rw [List.getD_eq_getElem?_getD, ← Nat.add_zero i, ← List.getElem?_drop, hr]; rfl
    have hr2 : ([115, 108, 111, 119] : List Nat).drop (i + 1) = r := by rw [← List.drop_drop, hr]; rfl
    have hb : gI m 14 i = nI c ∧ 1 ≤ c ∧ c < 128 := by
      rw [hc, cRd_g hg h (by omega), hv.2.2 3 (by omega) i (by show i < 4; omega)]
      exact (by decide : ∀ i, i < 4 → (zsby.getD 3 []).getD i 0 = nI (([115, 108, 111, 119] : List Nat).getD i 0) ∧ 1 ≤ ([115, 108, 111, 119] : List Nat).getD i 0 ∧ ([115, 108, 111, 119] : List Nat).getD i 0 < 128) i (by omega)
    refine sg_Reader_skipsAll_7_2 (zCall_m _) _ m (y_len_7 (d + 2) ⟨_, rfl, iq (nI_ge (b := 4) (by omega) (by omega)) (y_char_7 d (by omega) hb.1 hb.2.2 ⟨_, rfl, y_skips (d + 2) hg hv h ha hb.2.1 hb.2.2 (fun q => ?_) (fun q => ?_)⟩)⟩)
    · rw [show pSk tx n (c :: r) a = pSk tx n r (a + 1) from if_pos q] at hp
      have := (pI_t.mp q).1
      rw [nI_1]
      exact ⟨_, rfl, ip (by decide) (y_ska_7 d hg hv hQ r (i + 1) (a + 1) _ hr2 (by omega) (by omega) (cRd_at h hg (a + 1)) hp)⟩
    · rw [show pSk tx n (c :: r) a = (false, a) from if_neg q] at hp
      rw [← hp] at hQ
      exact ⟨_, rfl, iq (by decide) ⟨by decide, hQ a m rfl h⟩⟩
theorem y_skC_7 (d : Nat) {Q : zQ} {m0 : zM} {g n : Nat} {tx : Nat → Nat} {G : zG} {a : Nat} {m : zM} (hg : g < 6) (hv : rGv m0 n tx) (h : cRd m0 g n a G m) (ha : a ≤ n) (hQ : ∀ m', cRd m0 g n (pSk tx n ([115, 108, 111, 119] : List Nat) a).2 G m' → Q (some (.int (zb (pSk tx n ([115, 108, 111, 119] : List Nat) a).1))) m') : zCall (d + 5) m_Reader_skipsAll [.ref 88, .ref 7] m Q :=
  en_Reader_skipsAll_7 (d + 4) m (sg_Reader_skipsAll_7_0 (zCall_m _) m (y_ska_7 d hg hv (bs := a) (fun e m' he hm => hQ m' (he ▸ hm)) ([115, 108, 111, 119] : List Nat) 0 a m rfl rfl ha h rfl))
theorem y_len_8 (d : Nat) {Q : zQ} {m : zM} (h : Q (some (.int 5)) m) : zCall (d + 2) m_Str_length [.ref 8] m Q :=
  en_Str_length_8 (d + 1) m (sg_Str_length_8_0 (zCall_m _) m (en_Str_coder_8 d m (sg_Str_coder_8_0 (zCall_m _) m ⟨by decide, _, rfl, h⟩)))
theorem y_char_8 (d : Nat) {Q : zQ} {m : zM} {i c : Nat} (hi : i < 5) (hb : gI m 15 i = nI c) (hc : c < 128) (h : Q (some (.int (nI c))) m) : zCall (d + 4) m_Str_charAt [.ref 8, .int (nI i)] m Q := by
  refine en_Str_charAt_8 (d + 3) _ m (sg_Str_charAt_8_0 (zCall_m _) _ m (en_Str_isLatin1_8 (d + 2) m (sg_Str_isLatin1_8_0 (zCall_m _) m ⟨by decide, _, rfl, iq (by decide) ?_⟩)))
  refine en_Lat_charAt_15 (d + 2) _ m (sg_Lat_charAt_15_0 (zCall_m _) _ m (en_Str_checkIndex_8 (d + 1) _ _ m (sg_Str_checkIndex_8_0 (zCall_m _) _ _ m (en_Pre_checkIndex d _ _ m (sg_Pre_checkIndex_0 (zCall_m _) _ _ m (iq (fun z => ?_) (ip (nI_lt (b := 5) hi (by omega)) ⟨_, rfl, rfl, vp_in_nI hi (by omega), ?_⟩)))))))
  · have := Int32.lt_iff_toInt_lt.mp z
    rw [nI_toInt (by omega), show (0 : Int32) = nI 0 from rfl, nI_toInt (by omega)] at this
    omega
  · rw [nI_clamp (by omega), hb, (y_chr c hc).2.2.2, (y_chr c hc).1]
    exact ⟨(y_chr c hc).2.1, _, rfl, (y_chr c hc).2.1, h⟩
theorem y_ska_8 (d : Nat) {Q : zQ} {m0 : zM} {g n : Nat} {tx : Nat → Nat} {G : zG} (hg : g < 6) (hv : rGv m0 n tx) {bs : Nat} (hQ : ∀ e m', e = (pSk tx n ([113, 117, 105, 99, 107] : List Nat) bs).2 → cRd m0 g n e G m' → Q (some (.int (zb (pSk tx n ([113, 117, 105, 99, 107] : List Nat) bs).1))) m') :
    ∀ (r : List Nat) (i a : Nat) (m : zM), ([113, 117, 105, 99, 107] : List Nat).drop i = r → i + r.length = 5 → a ≤ n → cRd m0 g n a G m → pSk tx n r a = pSk tx n ([113, 117, 105, 99, 107] : List Nat) bs → zRun (zCall (d + 4)) 5 (some .boolean) zc_Reader_skipsAll Q 2 [.ref 88, .ref 8, .int (nI i)] [] m
  | [], i, a, m, hr, hi, ha, h, hp => by
    refine sg_Reader_skipsAll_8_2 (zCall_m _) _ m (y_len_8 (d + 2) ⟨_, rfl, ip (nI_le (a := 5) (by rw [List.length_nil] at hi; omega) (by rw [List.length_nil] at hi; omega)) ⟨by decide, ?_⟩⟩)
    rw [← hp] at hQ
    exact hQ a m rfl h
  | c :: r, i, a, m, hr, hi, ha, h, hp => by
    rw [List.length_cons] at hi
    have hc : c = ([113, 117, 105, 99, 107] : List Nat).getD i 0 := by rw [List.getD_eq_getElem?_getD, ← Nat.add_zero i, ← List.getElem?_drop, hr]; rfl
    have hr2 : ([113, 117, 105, 99, 107] : List Nat).drop (i + 1) = r := by rw [← List.drop_drop, hr]; rfl
    have hb : gI m 15 i = nI c ∧ 1 ≤ c ∧ c < 128 := by
      rw [hc, cRd_g hg h (by omega), hv.2.2 4 (by omega) i (by show i < 5; omega)]
      exact (by decide : ∀ i, i < 5 → (zsby.getD 4 []).getD i 0 = nI (([113, 117, 105, 99, 107] : List Nat).getD i 0) ∧ 1 ≤ ([113, 117, 105, 99, 107] : List Nat).getD i 0 ∧ ([113, 117, 105, 99, 107] : List Nat).getD i 0 < 128) i (by omega)
    refine sg_Reader_skipsAll_8_2 (zCall_m _) _ m (y_len_8 (d + 2) ⟨_, rfl, iq (nI_ge (b := 5) (by omega) (by omega)) (y_char_8 d (by omega) hb.1 hb.2.2 ⟨_, rfl, y_skips (d + 2) hg hv h ha hb.2.1 hb.2.2 (fun q => ?_) (fun q => ?_)⟩)⟩)
    · rw [show pSk tx n (c :: r) a = pSk tx n r (a + 1) from if_pos q] at hp
      have := (pI_t.mp q).1
      rw [nI_1]
      exact ⟨_, rfl, ip (by decide) (y_ska_8 d hg hv hQ r (i + 1) (a + 1) _ hr2 (by omega) (by omega) (cRd_at h hg (a + 1)) hp)⟩
    · rw [show pSk tx n (c :: r) a = (false, a) from if_neg q] at hp
      rw [← hp] at hQ
      exact ⟨_, rfl, iq (by decide) ⟨by decide, hQ a m rfl h⟩⟩
theorem y_skC_8 (d : Nat) {Q : zQ} {m0 : zM} {g n : Nat} {tx : Nat → Nat} {G : zG} {a : Nat} {m : zM} (hg : g < 6) (hv : rGv m0 n tx) (h : cRd m0 g n a G m) (ha : a ≤ n) (hQ : ∀ m', cRd m0 g n (pSk tx n ([113, 117, 105, 99, 107] : List Nat) a).2 G m' → Q (some (.int (zb (pSk tx n ([113, 117, 105, 99, 107] : List Nat) a).1))) m') : zCall (d + 5) m_Reader_skipsAll [.ref 88, .ref 8] m Q :=
  en_Reader_skipsAll_8 (d + 4) m (sg_Reader_skipsAll_8_0 (zCall_m _) m (y_ska_8 d hg hv (bs := a) (fun e m' he hm => hQ m' (he ▸ hm)) ([113, 117, 105, 99, 107] : List Nat) 0 a m rfl rfl ha h rfl))
theorem y_len_9 (d : Nat) {Q : zQ} {m : zM} (h : Q (some (.int 5)) m) : zCall (d + 2) m_Str_length [.ref 9] m Q :=
  en_Str_length_9 (d + 1) m (sg_Str_length_9_0 (zCall_m _) m (en_Str_coder_9 d m (sg_Str_coder_9_0 (zCall_m _) m ⟨by decide, _, rfl, h⟩)))
theorem y_char_9 (d : Nat) {Q : zQ} {m : zM} {i c : Nat} (hi : i < 5) (hb : gI m 16 i = nI c) (hc : c < 128) (h : Q (some (.int (nI c))) m) : zCall (d + 4) m_Str_charAt [.ref 9, .int (nI i)] m Q := by
  refine en_Str_charAt_9 (d + 3) _ m (sg_Str_charAt_9_0 (zCall_m _) _ m (en_Str_isLatin1_9 (d + 2) m (sg_Str_isLatin1_9_0 (zCall_m _) m ⟨by decide, _, rfl, iq (by decide) ?_⟩)))
  refine en_Lat_charAt_16 (d + 2) _ m (sg_Lat_charAt_16_0 (zCall_m _) _ m (en_Str_checkIndex_9 (d + 1) _ _ m (sg_Str_checkIndex_9_0 (zCall_m _) _ _ m (en_Pre_checkIndex d _ _ m (sg_Pre_checkIndex_0 (zCall_m _) _ _ m (iq (fun z => ?_) (ip (nI_lt (b := 5) hi (by omega)) ⟨_, rfl, rfl, vp_in_nI hi (by omega), ?_⟩)))))))
  · have := Int32.lt_iff_toInt_lt.mp z
    rw [nI_toInt (by omega), show (0 : Int32) = nI 0 from rfl, nI_toInt (by omega)] at this
    omega
  · rw [nI_clamp (by omega), hb, (y_chr c hc).2.2.2, (y_chr c hc).1]
    exact ⟨(y_chr c hc).2.1, _, rfl, (y_chr c hc).2.1, h⟩
theorem y_ska_9 (d : Nat) {Q : zQ} {m0 : zM} {g n : Nat} {tx : Nat → Nat} {G : zG} (hg : g < 6) (hv : rGv m0 n tx) {bs : Nat} (hQ : ∀ e m', e = (pSk tx n ([102, 114, 111, 115, 116] : List Nat) bs).2 → cRd m0 g n e G m' → Q (some (.int (zb (pSk tx n ([102, 114, 111, 115, 116] : List Nat) bs).1))) m') :
    ∀ (r : List Nat) (i a : Nat) (m : zM), ([102, 114, 111, 115, 116] : List Nat).drop i = r → i + r.length = 5 → a ≤ n → cRd m0 g n a G m → pSk tx n r a = pSk tx n ([102, 114, 111, 115, 116] : List Nat) bs → zRun (zCall (d + 4)) 5 (some .boolean) zc_Reader_skipsAll Q 2 [.ref 88, .ref 9, .int (nI i)] [] m
  | [], i, a, m, hr, hi, ha, h, hp => by
    refine sg_Reader_skipsAll_9_2 (zCall_m _) _ m (y_len_9 (d + 2) ⟨_, rfl, ip (nI_le (a := 5) (by rw [List.length_nil] at hi; omega) (by rw [List.length_nil] at hi; omega)) ⟨by decide, ?_⟩⟩)
    rw [← hp] at hQ
    exact hQ a m rfl h
  | c :: r, i, a, m, hr, hi, ha, h, hp => by
    rw [List.length_cons] at hi
    have hc : c = ([102, 114, 111, 115, 116] : List Nat).getD i 0 := by rw [List.getD_eq_getElem?_getD, ← Nat.add_zero i, ← List.getElem?_drop, hr]; rfl
    have hr2 : ([102, 114, 111, 115, 116] : List Nat).drop (i + 1) = r := by rw [← List.drop_drop, hr]; rfl
    have hb : gI m 16 i = nI c ∧ 1 ≤ c ∧ c < 128 := by
      rw [hc, cRd_g hg h (by omega), hv.2.2 5 (by omega) i (by show i < 5; omega)]
      exact (by decide : ∀ i, i < 5 → (zsby.getD 5 []).getD i 0 = nI (([102, 114, 111, 115, 116] : List Nat).getD i 0) ∧ 1 ≤ ([102, 114, 111, 115, 116] : List Nat).getD i 0 ∧ ([102, 114, 111, 115, 116] : List Nat).getD i 0 < 128) i (by omega)
    refine sg_Reader_skipsAll_9_2 (zCall_m _) _ m (y_len_9 (d + 2) ⟨_, rfl, iq (nI_ge (b := 5) (by omega) (by omega)) (y_char_9 d (by omega) hb.1 hb.2.2 ⟨_, rfl, y_skips (d + 2) hg hv h ha hb.2.1 hb.2.2 (fun q => ?_) (fun q => ?_)⟩)⟩)
    · rw [show pSk tx n (c :: r) a = pSk tx n r (a + 1) from if_pos q] at hp
      have := (pI_t.mp q).1
      rw [nI_1]
      exact ⟨_, rfl, ip (by decide) (y_ska_9 d hg hv hQ r (i + 1) (a + 1) _ hr2 (by omega) (by omega) (cRd_at h hg (a + 1)) hp)⟩
    · rw [show pSk tx n (c :: r) a = (false, a) from if_neg q] at hp
      rw [← hp] at hQ
      exact ⟨_, rfl, iq (by decide) ⟨by decide, hQ a m rfl h⟩⟩
theorem y_skC_9 (d : Nat) {Q : zQ} {m0 : zM} {g n : Nat} {tx : Nat → Nat} {G : zG} {a : Nat} {m : zM} (hg : g < 6) (hv : rGv m0 n tx) (h : cRd m0 g n a G m) (ha : a ≤ n) (hQ : ∀ m', cRd m0 g n (pSk tx n ([102, 114, 111, 115, 116] : List Nat) a).2 G m' → Q (some (.int (zb (pSk tx n ([102, 114, 111, 115, 116] : List Nat) a).1))) m') : zCall (d + 5) m_Reader_skipsAll [.ref 88, .ref 9] m Q :=
  en_Reader_skipsAll_9 (d + 4) m (sg_Reader_skipsAll_9_0 (zCall_m _) m (y_ska_9 d hg hv (bs := a) (fun e m' he hm => hQ m' (he ▸ hm)) ([102, 114, 111, 115, 116] : List Nat) 0 a m rfl rfl ha h rfl))
theorem y_len_10 (d : Nat) {Q : zQ} {m : zM} (h : Q (some (.int 4)) m) : zCall (d + 2) m_Str_length [.ref 10] m Q :=
  en_Str_length_10 (d + 1) m (sg_Str_length_10_0 (zCall_m _) m (en_Str_coder_10 d m (sg_Str_coder_10_0 (zCall_m _) m ⟨by decide, _, rfl, h⟩)))
theorem y_char_10 (d : Nat) {Q : zQ} {m : zM} {i c : Nat} (hi : i < 4) (hb : gI m 17 i = nI c) (hc : c < 128) (h : Q (some (.int (nI c))) m) : zCall (d + 4) m_Str_charAt [.ref 10, .int (nI i)] m Q := by
  refine en_Str_charAt_10 (d + 3) _ m (sg_Str_charAt_10_0 (zCall_m _) _ m (en_Str_isLatin1_10 (d + 2) m (sg_Str_isLatin1_10_0 (zCall_m _) m ⟨by decide, _, rfl, iq (by decide) ?_⟩)))
  refine en_Lat_charAt_17 (d + 2) _ m (sg_Lat_charAt_17_0 (zCall_m _) _ m (en_Str_checkIndex_10 (d + 1) _ _ m (sg_Str_checkIndex_10_0 (zCall_m _) _ _ m (en_Pre_checkIndex d _ _ m (sg_Pre_checkIndex_0 (zCall_m _) _ _ m (iq (fun z => ?_) (ip (nI_lt (b := 4) hi (by omega)) ⟨_, rfl, rfl, vp_in_nI hi (by omega), ?_⟩)))))))
  · have := Int32.lt_iff_toInt_lt.mp z
    rw [nI_toInt (by omega), show (0 : Int32) = nI 0 from rfl, nI_toInt (by omega)] at this
    omega
  · rw [nI_clamp (by omega), hb, (y_chr c hc).2.2.2, (y_chr c hc).1]
    exact ⟨(y_chr c hc).2.1, _, rfl, (y_chr c hc).2.1, h⟩
theorem y_ska_10 (d : Nat) {Q : zQ} {m0 : zM} {g n : Nat} {tx : Nat → Nat} {G : zG} (hg : g < 6) (hv : rGv m0 n tx) {bs : Nat} (hQ : ∀ e m', e = (pSk tx n ([108, 111, 115, 101] : List Nat) bs).2 → cRd m0 g n e G m' → Q (some (.int (zb (pSk tx n ([108, 111, 115, 101] : List Nat) bs).1))) m') :
    ∀ (r : List Nat) (i a : Nat) (m : zM), ([108, 111, 115, 101] : List Nat).drop i = r → i + r.length = 4 → a ≤ n → cRd m0 g n a G m → pSk tx n r a = pSk tx n ([108, 111, 115, 101] : List Nat) bs → zRun (zCall (d + 4)) 5 (some .boolean) zc_Reader_skipsAll Q 2 [.ref 88, .ref 10, .int (nI i)] [] m
  | [], i, a, m, hr, hi, ha, h, hp => by
    refine sg_Reader_skipsAll_10_2 (zCall_m _) _ m (y_len_10 (d + 2) ⟨_, rfl, ip (nI_le (a := 4) (by rw [List.length_nil] at hi; omega) (by rw [List.length_nil] at hi; omega)) ⟨by decide, ?_⟩⟩)
    rw [← hp] at hQ
    exact hQ a m rfl h
  | c :: r, i, a, m, hr, hi, ha, h, hp => by
    rw [List.length_cons] at hi
    have hc : c = ([108, 111, 115, 101] : List Nat).getD i 0 := by rw [List.getD_eq_getElem?_getD, ← Nat.add_zero i, ← List.getElem?_drop, hr]; rfl
    have hr2 : ([108, 111, 115, 101] : List Nat).drop (i + 1) = r := by rw [← List.drop_drop, hr]; rfl
    have hb : gI m 17 i = nI c ∧ 1 ≤ c ∧ c < 128 := by
      rw [hc, cRd_g hg h (by omega), hv.2.2 6 (by omega) i (by show i < 4; omega)]
      exact (by decide : ∀ i, i < 4 → (zsby.getD 6 []).getD i 0 = nI (([108, 111, 115, 101] : List Nat).getD i 0) ∧ 1 ≤ ([108, 111, 115, 101] : List Nat).getD i 0 ∧ ([108, 111, 115, 101] : List Nat).getD i 0 < 128) i (by omega)
    refine sg_Reader_skipsAll_10_2 (zCall_m _) _ m (y_len_10 (d + 2) ⟨_, rfl, iq (nI_ge (b := 4) (by omega) (by omega)) (y_char_10 d (by omega) hb.1 hb.2.2 ⟨_, rfl, y_skips (d + 2) hg hv h ha hb.2.1 hb.2.2 (fun q => ?_) (fun q => ?_)⟩)⟩)
    · rw [show pSk tx n (c :: r) a = pSk tx n r (a + 1) from if_pos q] at hp
      have := (pI_t.mp q).1
      rw [nI_1]
      exact ⟨_, rfl, ip (by decide) (y_ska_10 d hg hv hQ r (i + 1) (a + 1) _ hr2 (by omega) (by omega) (cRd_at h hg (a + 1)) hp)⟩
    · rw [show pSk tx n (c :: r) a = (false, a) from if_neg q] at hp
      rw [← hp] at hQ
      exact ⟨_, rfl, iq (by decide) ⟨by decide, hQ a m rfl h⟩⟩
theorem y_skC_10 (d : Nat) {Q : zQ} {m0 : zM} {g n : Nat} {tx : Nat → Nat} {G : zG} {a : Nat} {m : zM} (hg : g < 6) (hv : rGv m0 n tx) (h : cRd m0 g n a G m) (ha : a ≤ n) (hQ : ∀ m', cRd m0 g n (pSk tx n ([108, 111, 115, 101] : List Nat) a).2 G m' → Q (some (.int (zb (pSk tx n ([108, 111, 115, 101] : List Nat) a).1))) m') : zCall (d + 5) m_Reader_skipsAll [.ref 88, .ref 10] m Q :=
  en_Reader_skipsAll_10 (d + 4) m (sg_Reader_skipsAll_10_0 (zCall_m _) m (y_ska_10 d hg hv (bs := a) (fun e m' he hm => hQ m' (he ▸ hm)) ([108, 111, 115, 101] : List Nat) 0 a m rfl rfl ha h rfl))
