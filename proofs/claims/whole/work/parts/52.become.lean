/-! a hedge becomes another (gen52.py) -/
def rbX (m m' : zM) (q p L : Nat) : Prop := gI m' p 0 = (if gI m p 1 < gI m q 0 then gI m p 1 else gI m q 0) ∧ gI m' p 1 = gI m p 1 ∧ ∀ j, j < L → gI m' (p + 1) j = gI m (q + 1) j
def bX (m m' : zM) (a b : Nat) : Prop := gI m' b 0 = gI m a 0 ∧ gI m' b 5 = gI m a 5 ∧ gI m' b 6 = gI m a 6 ∧ gG m' b = gG m a ∧ (∀ j, j < 8 → gI m' (b + 1) j = gI m (a + 1) j ∧ gI m' (b + 2) j = gI m (a + 2) j ∧ gI m' (b + 3) j = gI m (a + 3) j) ∧ (∀ j, j < 32 → gI m' (b + 4) j = gI m (a + 4) j) ∧ rbX m m' (a + 6) (b + 6) 15 ∧ rbX m m' (a + 8) (b + 8) 24 ∧ rbX m m' (a + 10) (b + 10) 24
def rb (m : zM) (p q p1 q1 L : Nat) : zM := cpI (sI m p 0 (if gI m p 1 < gI m q 0 then gI m p 1 else gI m q 0)) q1 0 p1 0 L
theorem cp_0 {f g : Nat → Int32} {n j : Nat} (h : j < n) : va_cpy f g 0 0 n j = f j := by
  rw [pk_cpy_in (Nat.zero_le _) (by omega), Nat.sub_zero, Nat.zero_add]
theorem bX_vX {P : Nat → Prop} {m m' : zM} {a b : Nat} {V : zV} (hV : vX m a V) (h : bX m m' a b) (hs : zsm P m m') (hg : ∀ q, 58 ≤ q → q < 88 → ¬ P q) : vX m' b V := by
  obtain ⟨h0, h1, h2, h3, h4, h5, h6, h7⟩ := hV
  obtain ⟨b1, b2, b3, b4, b5, b6, _⟩ := h
  have h8 := h0.1
  refine ⟨h0, b1.trans h1, fun j hj => ?_, fun j hj => (b6 j (by omega)).trans (h3 j hj), b2.trans h4, b3.trans h5, b4.trans h6, fun g G e2 => ?_⟩
  · obtain ⟨x, y, z⟩ := h2 j hj
    obtain ⟨u, v, w⟩ := b5 j (by omega)
    exact ⟨u.trans x, v.trans y, w.trans z⟩
  · have := (h0.2.2.2.2.2 g G e2).1
    exact gX_sm (h7 g G e2) hs (fun q a b => hg q (by omega) (by omega))
theorem rbX_rX {m m' : zM} {K q p L lim : Nat} {R : zRw} (hR : rX K q m R) (h : rbX m m' q p L) (hl : gI m p 1 = nI lim) (hc : rC R ≤ lim) (hl2 : lim < 100) (h3 : 3 * lim ≤ L) : rX K p m' R := by
  obtain ⟨h1, h2⟩ := hR
  obtain ⟨b1, b2, b3⟩ := h
  refine ⟨?_, fun j hj => ?_⟩
  · rw [b1, hl, h1, if_neg (nI_nlt (by omega) (by omega))]
  · obtain ⟨x, y, z⟩ := h2 j hj
    exact ⟨(b3 _ (by omega)).trans x, fun e => (b3 _ (by omega)).trans (y e), (b3 _ (by omega)).trans z⟩
theorem y_rbec_39 (d : Nat) {Q : zQ} {m : zM} (h : Q none (rb m 39 27 40 28 15)) : zCall (d + 1) m_Rows_become [.ref 39, .ref 27] m Q :=
  en_Rows_become_39 d m (sg_Rows_become_39_0 (zCall_m _) m ⟨by decide, h⟩)
theorem y_rbec_41 (d : Nat) {Q : zQ} {m : zM} (h : Q none (rb m 41 29 42 30 24)) : zCall (d + 1) m_Rows_become [.ref 41, .ref 29] m Q :=
  en_Rows_become_41 d m (sg_Rows_become_41_0 (zCall_m _) m ⟨by decide, h⟩)
theorem y_rbec_43 (d : Nat) {Q : zQ} {m : zM} (h : Q none (rb m 43 31 44 32 24)) : zCall (d + 1) m_Rows_become [.ref 43, .ref 31] m Q :=
  en_Rows_become_43 d m (sg_Rows_become_43_0 (zCall_m _) m ⟨by decide, h⟩)
theorem y_rbec_27 (d : Nat) {Q : zQ} {m : zM} (h : Q none (rb m 27 39 28 40 15)) : zCall (d + 1) m_Rows_become [.ref 27, .ref 39] m Q :=
  en_Rows_become_27 d m (sg_Rows_become_27_0 (zCall_m _) m ⟨by decide, h⟩)
theorem y_rbec_29 (d : Nat) {Q : zQ} {m : zM} (h : Q none (rb m 29 41 30 42 24)) : zCall (d + 1) m_Rows_become [.ref 29, .ref 41] m Q :=
  en_Rows_become_29 d m (sg_Rows_become_29_0 (zCall_m _) m ⟨by decide, h⟩)
theorem y_rbec_31 (d : Nat) {Q : zQ} {m : zM} (h : Q none (rb m 31 43 32 44 24)) : zCall (d + 1) m_Rows_become [.ref 31, .ref 43] m Q :=
  en_Rows_become_31 d m (sg_Rows_become_31_0 (zCall_m _) m ⟨by decide, h⟩)
theorem y_rbec_51 (d : Nat) {Q : zQ} {m : zM} (h : Q none (rb m 51 27 52 28 15)) : zCall (d + 1) m_Rows_become [.ref 51, .ref 27] m Q :=
  en_Rows_become_51 d m (sg_Rows_become_51_0 (zCall_m _) m ⟨by decide, h⟩)
theorem y_rbec_53 (d : Nat) {Q : zQ} {m : zM} (h : Q none (rb m 53 29 54 30 24)) : zCall (d + 1) m_Rows_become [.ref 53, .ref 29] m Q :=
  en_Rows_become_53 d m (sg_Rows_become_53_0 (zCall_m _) m ⟨by decide, h⟩)
theorem y_rbec_55 (d : Nat) {Q : zQ} {m : zM} (h : Q none (rb m 55 31 56 32 24)) : zCall (d + 1) m_Rows_become [.ref 55, .ref 31] m Q :=
  en_Rows_become_55 d m (sg_Rows_become_55_0 (zCall_m _) m ⟨by decide, h⟩)
def bM_33 (m : zM) (g : Option Nat) : zM := sG (sI (sI (cpI (cpI (cpI (cpI (sI m 33 0 (gI m 21 0)) 22 0 34 0 8) 23 0 35 0 8) 24 0 36 0 8) 25 0 37 0 32) 33 5 (gI m 21 5)) 33 6 (gI m 21 6)) 33 g
def bF_33 (m : zM) (g : Option Nat) : zM := rb (rb (rb (bM_33 m g) 39 27 40 28 15) 41 29 42 30 24) 43 31 44 32 24
theorem bF_33_sm (m : zM) (g : Option Nat) : zsm (fun q => 33 ≤ q ∧ q ≤ 44) m (bF_33 m g) := by
  refine zsm_cpI (P := (fun q => 33 ≤ q ∧ q ≤ 44)) (zsm_sI (P := (fun q => 33 ≤ q ∧ q ≤ 44)) (zsm_cpI (P := (fun q => 33 ≤ q ∧ q ≤ 44)) (zsm_sI (P := (fun q => 33 ≤ q ∧ q ≤ 44)) (zsm_cpI (P := (fun q => 33 ≤ q ∧ q ≤ 44)) (zsm_sI (P := (fun q => 33 ≤ q ∧ q ≤ 44)) ?_ (show 33 ≤ 39 ∧ 39 ≤ 44 by omega) _) (show 33 ≤ 40 ∧ 40 ≤ 44 by omega)) (show 33 ≤ 41 ∧ 41 ≤ 44 by omega) _) (show 33 ≤ 42 ∧ 42 ≤ 44 by omega)) (show 33 ≤ 43 ∧ 43 ≤ 44 by omega) _) (show 33 ≤ 44 ∧ 44 ≤ 44 by omega)
  exact zsm_sG (P := (fun q => 33 ≤ q ∧ q ≤ 44)) (zsm_sI (P := (fun q => 33 ≤ q ∧ q ≤ 44)) (zsm_sI (P := (fun q => 33 ≤ q ∧ q ≤ 44)) (zsm_cpI (P := (fun q => 33 ≤ q ∧ q ≤ 44)) (zsm_cpI (P := (fun q => 33 ≤ q ∧ q ≤ 44)) (zsm_cpI (P := (fun q => 33 ≤ q ∧ q ≤ 44)) (zsm_cpI (P := (fun q => 33 ≤ q ∧ q ≤ 44)) (zsm_sI (P := (fun q => 33 ≤ q ∧ q ≤ 44)) (zsm_refl m) (show 33 ≤ 33 ∧ 33 ≤ 44 by omega) _) (show 33 ≤ 34 ∧ 34 ≤ 44 by omega)) (show 33 ≤ 35 ∧ 35 ≤ 44 by omega)) (show 33 ≤ 36 ∧ 36 ≤ 44 by omega)) (show 33 ≤ 37 ∧ 37 ≤ 44 by omega)) (show 33 ≤ 33 ∧ 33 ≤ 44 by omega) _) (show 33 ≤ 33 ∧ 33 ≤ 44 by omega) _) (show 33 ≤ 33 ∧ 33 ≤ 44 by omega) _
theorem bF_33_X (m : zM) : bX m (bF_33 m (gG m 21)) 21 33 := by
  refine ⟨rfl, rfl, rfl, rfl, fun j hj => ⟨?_, ?_, ?_⟩, fun j hj => ?_, ⟨rfl, rfl, fun j hj => ?_⟩, ⟨rfl, rfl, fun j hj => ?_⟩, ⟨rfl, rfl, fun j hj => ?_⟩⟩
  · exact (show _ = va_cpy (gI m 22) (gI m 34) 0 0 8 j from rfl).trans (cp_0 hj)
  · exact (show _ = va_cpy (gI m 23) (gI m 35) 0 0 8 j from rfl).trans (cp_0 hj)
  · exact (show _ = va_cpy (gI m 24) (gI m 36) 0 0 8 j from rfl).trans (cp_0 hj)
  · exact (show _ = va_cpy (gI m 25) (gI m 37) 0 0 32 j from rfl).trans (cp_0 hj)
  · exact (show _ = va_cpy (gI m 28) (gI m 40) 0 0 15 j from rfl).trans (cp_0 hj)
  · exact (show _ = va_cpy (gI m 30) (gI m 42) 0 0 24 j from rfl).trans (cp_0 hj)
  · exact (show _ = va_cpy (gI m 32) (gI m 44) 0 0 24 j from rfl).trans (cp_0 hj)
theorem y_become_33 (d : Nat) {Q : zQ} {m : zM} (hg : ∀ q, gG m 21 = some q → zsh q = 1) (h : ∀ m', zsm (fun q => 33 ≤ q ∧ q ≤ 44) m m' → bX m m' 21 33 → Q none m') : zCall (d + 2) m_Hedge_become [.ref 33, .ref 21] m Q := by
  have H := h _ (bF_33_sm m _) (bF_33_X m)
  refine en_Hedge_become_33 (d + 1) m (sg_Hedge_become_33_0 (zCall_m _) m ⟨by decide, by decide, by decide, by decide, fun q1 e => ?_, fun e => ?_⟩)
  · have e : gG m 21 = some q1 := e
    rw [hg q1 e]
    rw [e] at H
    exact y_rbec_39 d (m := bM_33 m (some q1)) ⟨rfl, y_rbec_41 d ⟨rfl, y_rbec_43 d ⟨rfl, H⟩⟩⟩
  · have e : gG m 21 = none := e
    rw [e] at H
    exact y_rbec_39 d (m := bM_33 m none) ⟨rfl, y_rbec_41 d ⟨rfl, y_rbec_43 d ⟨rfl, H⟩⟩⟩
def bM_21 (m : zM) (g : Option Nat) : zM := sG (sI (sI (cpI (cpI (cpI (cpI (sI m 21 0 (gI m 33 0)) 34 0 22 0 8) 35 0 23 0 8) 36 0 24 0 8) 37 0 25 0 32) 21 5 (gI m 33 5)) 21 6 (gI m 33 6)) 21 g
def bF_21 (m : zM) (g : Option Nat) : zM := rb (rb (rb (bM_21 m g) 27 39 28 40 15) 29 41 30 42 24) 31 43 32 44 24
theorem bF_21_sm (m : zM) (g : Option Nat) : zsm (fun q => 21 ≤ q ∧ q ≤ 32) m (bF_21 m g) := by
  refine zsm_cpI (P := (fun q => 21 ≤ q ∧ q ≤ 32)) (zsm_sI (P := (fun q => 21 ≤ q ∧ q ≤ 32)) (zsm_cpI (P := (fun q => 21 ≤ q ∧ q ≤ 32)) (zsm_sI (P := (fun q => 21 ≤ q ∧ q ≤ 32)) (zsm_cpI (P := (fun q => 21 ≤ q ∧ q ≤ 32)) (zsm_sI (P := (fun q => 21 ≤ q ∧ q ≤ 32)) ?_ (show 21 ≤ 27 ∧ 27 ≤ 32 by omega) _) (show 21 ≤ 28 ∧ 28 ≤ 32 by omega)) (show 21 ≤ 29 ∧ 29 ≤ 32 by omega) _) (show 21 ≤ 30 ∧ 30 ≤ 32 by omega)) (show 21 ≤ 31 ∧ 31 ≤ 32 by omega) _) (show 21 ≤ 32 ∧ 32 ≤ 32 by omega)
  exact zsm_sG (P := (fun q => 21 ≤ q ∧ q ≤ 32)) (zsm_sI (P := (fun q => 21 ≤ q ∧ q ≤ 32)) (zsm_sI (P := (fun q => 21 ≤ q ∧ q ≤ 32)) (zsm_cpI (P := (fun q => 21 ≤ q ∧ q ≤ 32)) (zsm_cpI (P := (fun q => 21 ≤ q ∧ q ≤ 32)) (zsm_cpI (P := (fun q => 21 ≤ q ∧ q ≤ 32)) (zsm_cpI (P := (fun q => 21 ≤ q ∧ q ≤ 32)) (zsm_sI (P := (fun q => 21 ≤ q ∧ q ≤ 32)) (zsm_refl m) (show 21 ≤ 21 ∧ 21 ≤ 32 by omega) _) (show 21 ≤ 22 ∧ 22 ≤ 32 by omega)) (show 21 ≤ 23 ∧ 23 ≤ 32 by omega)) (show 21 ≤ 24 ∧ 24 ≤ 32 by omega)) (show 21 ≤ 25 ∧ 25 ≤ 32 by omega)) (show 21 ≤ 21 ∧ 21 ≤ 32 by omega) _) (show 21 ≤ 21 ∧ 21 ≤ 32 by omega) _) (show 21 ≤ 21 ∧ 21 ≤ 32 by omega) _
theorem bF_21_X (m : zM) : bX m (bF_21 m (gG m 33)) 33 21 := by
  refine ⟨rfl, rfl, rfl, rfl, fun j hj => ⟨?_, ?_, ?_⟩, fun j hj => ?_, ⟨rfl, rfl, fun j hj => ?_⟩, ⟨rfl, rfl, fun j hj => ?_⟩, ⟨rfl, rfl, fun j hj => ?_⟩⟩
  · exact (show _ = va_cpy (gI m 34) (gI m 22) 0 0 8 j from rfl).trans (cp_0 hj)
  · exact (show _ = va_cpy (gI m 35) (gI m 23) 0 0 8 j from rfl).trans (cp_0 hj)
  · exact (show _ = va_cpy (gI m 36) (gI m 24) 0 0 8 j from rfl).trans (cp_0 hj)
  · exact (show _ = va_cpy (gI m 37) (gI m 25) 0 0 32 j from rfl).trans (cp_0 hj)
  · exact (show _ = va_cpy (gI m 40) (gI m 28) 0 0 15 j from rfl).trans (cp_0 hj)
  · exact (show _ = va_cpy (gI m 42) (gI m 30) 0 0 24 j from rfl).trans (cp_0 hj)
  · exact (show _ = va_cpy (gI m 44) (gI m 32) 0 0 24 j from rfl).trans (cp_0 hj)
theorem y_become_21 (d : Nat) {Q : zQ} {m : zM} (hg : ∀ q, gG m 33 = some q → zsh q = 1) (h : ∀ m', zsm (fun q => 21 ≤ q ∧ q ≤ 32) m m' → bX m m' 33 21 → Q none m') : zCall (d + 2) m_Hedge_become [.ref 21, .ref 33] m Q := by
  have H := h _ (bF_21_sm m _) (bF_21_X m)
  refine en_Hedge_become_21 (d + 1) m (sg_Hedge_become_21_0 (zCall_m _) m ⟨by decide, by decide, by decide, by decide, fun q1 e => ?_, fun e => ?_⟩)
  · have e : gG m 33 = some q1 := e
    rw [hg q1 e]
    rw [e] at H
    exact y_rbec_27 d (m := bM_21 m (some q1)) ⟨rfl, y_rbec_29 d ⟨rfl, y_rbec_31 d ⟨rfl, H⟩⟩⟩
  · have e : gG m 33 = none := e
    rw [e] at H
    exact y_rbec_27 d (m := bM_21 m none) ⟨rfl, y_rbec_29 d ⟨rfl, y_rbec_31 d ⟨rfl, H⟩⟩⟩
def bM_45 (m : zM) (g : Option Nat) : zM := sG (sI (sI (cpI (cpI (cpI (cpI (sI m 45 0 (gI m 21 0)) 22 0 46 0 8) 23 0 47 0 8) 24 0 48 0 8) 25 0 49 0 32) 45 5 (gI m 21 5)) 45 6 (gI m 21 6)) 45 g
def bF_45 (m : zM) (g : Option Nat) : zM := rb (rb (rb (bM_45 m g) 51 27 52 28 15) 53 29 54 30 24) 55 31 56 32 24
theorem bF_45_sm (m : zM) (g : Option Nat) : zsm (fun q => 45 ≤ q ∧ q ≤ 56) m (bF_45 m g) := by
  refine zsm_cpI (P := (fun q => 45 ≤ q ∧ q ≤ 56)) (zsm_sI (P := (fun q => 45 ≤ q ∧ q ≤ 56)) (zsm_cpI (P := (fun q => 45 ≤ q ∧ q ≤ 56)) (zsm_sI (P := (fun q => 45 ≤ q ∧ q ≤ 56)) (zsm_cpI (P := (fun q => 45 ≤ q ∧ q ≤ 56)) (zsm_sI (P := (fun q => 45 ≤ q ∧ q ≤ 56)) ?_ (show 45 ≤ 51 ∧ 51 ≤ 56 by omega) _) (show 45 ≤ 52 ∧ 52 ≤ 56 by omega)) (show 45 ≤ 53 ∧ 53 ≤ 56 by omega) _) (show 45 ≤ 54 ∧ 54 ≤ 56 by omega)) (show 45 ≤ 55 ∧ 55 ≤ 56 by omega) _) (show 45 ≤ 56 ∧ 56 ≤ 56 by omega)
  exact zsm_sG (P := (fun q => 45 ≤ q ∧ q ≤ 56)) (zsm_sI (P := (fun q => 45 ≤ q ∧ q ≤ 56)) (zsm_sI (P := (fun q => 45 ≤ q ∧ q ≤ 56)) (zsm_cpI (P := (fun q => 45 ≤ q ∧ q ≤ 56)) (zsm_cpI (P := (fun q => 45 ≤ q ∧ q ≤ 56)) (zsm_cpI (P := (fun q => 45 ≤ q ∧ q ≤ 56)) (zsm_cpI (P := (fun q => 45 ≤ q ∧ q ≤ 56)) (zsm_sI (P := (fun q => 45 ≤ q ∧ q ≤ 56)) (zsm_refl m) (show 45 ≤ 45 ∧ 45 ≤ 56 by omega) _) (show 45 ≤ 46 ∧ 46 ≤ 56 by omega)) (show 45 ≤ 47 ∧ 47 ≤ 56 by omega)) (show 45 ≤ 48 ∧ 48 ≤ 56 by omega)) (show 45 ≤ 49 ∧ 49 ≤ 56 by omega)) (show 45 ≤ 45 ∧ 45 ≤ 56 by omega) _) (show 45 ≤ 45 ∧ 45 ≤ 56 by omega) _) (show 45 ≤ 45 ∧ 45 ≤ 56 by omega) _
theorem bF_45_X (m : zM) : bX m (bF_45 m (gG m 21)) 21 45 := by
  refine ⟨rfl, rfl, rfl, rfl, fun j hj => ⟨?_, ?_, ?_⟩, fun j hj => ?_, ⟨rfl, rfl, fun j hj => ?_⟩, ⟨rfl, rfl, fun j hj => ?_⟩, ⟨rfl, rfl, fun j hj => ?_⟩⟩
  · exact (show _ = va_cpy (gI m 22) (gI m 46) 0 0 8 j from rfl).trans (cp_0 hj)
  · exact (show _ = va_cpy (gI m 23) (gI m 47) 0 0 8 j from rfl).trans (cp_0 hj)
  · exact (show _ = va_cpy (gI m 24) (gI m 48) 0 0 8 j from rfl).trans (cp_0 hj)
  · exact (show _ = va_cpy (gI m 25) (gI m 49) 0 0 32 j from rfl).trans (cp_0 hj)
  · exact (show _ = va_cpy (gI m 28) (gI m 52) 0 0 15 j from rfl).trans (cp_0 hj)
  · exact (show _ = va_cpy (gI m 30) (gI m 54) 0 0 24 j from rfl).trans (cp_0 hj)
  · exact (show _ = va_cpy (gI m 32) (gI m 56) 0 0 24 j from rfl).trans (cp_0 hj)
theorem y_become_45 (d : Nat) {Q : zQ} {m : zM} (hg : ∀ q, gG m 21 = some q → zsh q = 1) (h : ∀ m', zsm (fun q => 45 ≤ q ∧ q ≤ 56) m m' → bX m m' 21 45 → Q none m') : zCall (d + 2) m_Hedge_become [.ref 45, .ref 21] m Q := by
  have H := h _ (bF_45_sm m _) (bF_45_X m)
  refine en_Hedge_become_45 (d + 1) m (sg_Hedge_become_45_0 (zCall_m _) m ⟨by decide, by decide, by decide, by decide, fun q1 e => ?_, fun e => ?_⟩)
  · have e : gG m 21 = some q1 := e
    rw [hg q1 e]
    rw [e] at H
    exact y_rbec_51 d (m := bM_45 m (some q1)) ⟨rfl, y_rbec_53 d ⟨rfl, y_rbec_55 d ⟨rfl, H⟩⟩⟩
  · have e : gG m 21 = none := e
    rw [e] at H
    exact y_rbec_51 d (m := bM_45 m none) ⟨rfl, y_rbec_53 d ⟨rfl, y_rbec_55 d ⟨rfl, H⟩⟩⟩
