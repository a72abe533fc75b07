/-! rows told by hand; looked -/
theorem st0_1 (V : zV) {one : Nat} (h1 : one < 32) (h8 : vN V ≤ 8) : st0 V (bt (z1 one)) = st0 V (fun p => decide (p = one)) := by
  unfold st0
  congr 1
  funext p
  by_cases hp : p < vN V
  · rw [b_z1 one h1 p (by omega)]
  · rw [decide_eq_false hp]; rfl
theorem y_sp1_21 (d : Nat) {Q : zQ} {m : zM} {V : zV} (hV : vX m 21 V) (ht : hTk m (vN V) (vTakes V)) {one : Nat} (h1 : one < 32) (h : ∀ m', zsm hP2 m m' → hX m' (vN V) (s1 V one) → Q none m') : zCall (d + 4) m_Hearing_spread [.ref 92, .ref 21, .int (z1 one)] m Q := by
  refine y_spreadC_21 d hV ht (fun p hp => vTakes_b hV.1 hp) (z1 one) fun m' hs hx => h m' hs ?_
  unfold s1 sT
  unfold spr at hx ⊢
  rw [← st0_1 V h1 hV.1.1]
  exact hx
theorem y_sp1_45 (d : Nat) {Q : zQ} {m : zM} {V : zV} (hV : vX m 45 V) (ht : hTk m (vN V) (vTakes V)) {one : Nat} (h1 : one < 32) (h : ∀ m', zsm hP2 m m' → hX m' (vN V) (s1 V one) → Q none m') : zCall (d + 4) m_Hearing_spread [.ref 92, .ref 45, .int (z1 one)] m Q := by
  refine y_spreadC_45 d hV ht (fun p hp => vTakes_b hV.1 hp) (z1 one) fun m' hs hx => h m' hs ?_
  unfold s1 sT
  unfold spr at hx ⊢
  rw [← st0_1 V h1 hV.1.1]
  exact hx
/-- rows of three numbers: how many, the first, the second, the third of each -/
abbrev zRw : Type := Nat × (Nat → Nat) × (Nat → Nat) × (Nat → Nat)
def rC (R : zRw) : Nat := R.1
def rA (R : zRw) : Nat → Nat := R.2.1
def rB (R : zRw) : Nat → Nat := R.2.2.1
def rE (R : zRw) : Nat → Nat := R.2.2.2
def rX (K p : Nat) (m : zM) (R : zRw) : Prop := gI m p 0 = nI (rC R) ∧ ∀ j, j < rC R → gI m (p + 1) (3 * j) = nI (rA R j) ∧ (rA R j < K → gI m (p + 1) (3 * j + 1) = nI (rB R j)) ∧ gI m (p + 1) (3 * j + 2) = nI (rE R j)
def rM (K ci pa pb pe : Nat) (m : zM) (R : zRw) : Prop := gI m 113 ci = nI (rC R) ∧ ∀ j, j < rC R → gI m pa j = nI (rA R j) ∧ (rA R j < K → gI m pb j = nI (rB R j)) ∧ (pe ≠ 0 → gI m pe j = nI (rE R j))
def rW (L K NA NB : Nat) (R : zRw) : Prop := rC R ≤ L ∧ ∀ j, j < rC R → rA R j < NA ∧ (rA R j < K → rB R j < NB) ∧ rE R j < 10000
theorem rX_sm {P : Nat → Prop} {m m' : zM} {K p : Nat} {R : zRw} (h : rX K p m R) (hs : zsm P m m') (h1 : ¬ P p) (h2 : ¬ P (p + 1)) : rX K p m' R :=
  ⟨((hs p h1).1 0).trans h.1, fun j hj => ⟨((hs _ h2).1 _).trans (h.2 j hj).1, fun z => ((hs _ h2).1 _).trans ((h.2 j hj).2.1 z), ((hs _ h2).1 _).trans (h.2 j hj).2.2⟩⟩
theorem rM_sm {P : Nat → Prop} {m m' : zM} {K ci pa pb pe : Nat} {R : zRw} (h : rM K ci pa pb pe m R) (hs : zsm P m m') (h0 : ¬ P 113) (h1 : ¬ P pa) (h2 : ¬ P pb) (h3 : ¬ P pe) : rM K ci pa pb pe m' R :=
  ⟨((hs 113 h0).1 ci).trans h.1, fun j hj => ⟨((hs _ h1).1 _).trans (h.2 j hj).1, fun z => ((hs _ h2).1 _).trans ((h.2 j hj).2.1 z), fun z => ((hs _ h3).1 _).trans ((h.2 j hj).2.2 z)⟩⟩
theorem y_cell_27 (d : Nat) {Q : zQ} {m : zM} {k i : Nat} (hk : k < 5) (hi : i < 3) (h : Q (some (.int (gI m 28 (3 * k + i)))) m) : zCall (d + 1) m_Rows_cell [.ref 27, .int (nI k), .int (nI i)] m Q := by
  refine en_Rows_cell_27 d _ _ m (sg_Rows_cell_27_0 (zCall_m _) _ _ m ?_)
  rw [show (3 : Int32) = nI 3 from rfl, pk_mul, nI_add, nI_clamp (by omega), Nat.mul_comm k 3]
  exact ⟨vp_in_nI (by omega) (by omega), h⟩
theorem y_cell_29 (d : Nat) {Q : zQ} {m : zM} {k i : Nat} (hk : k < 8) (hi : i < 3) (h : Q (some (.int (gI m 30 (3 * k + i)))) m) : zCall (d + 1) m_Rows_cell [.ref 29, .int (nI k), .int (nI i)] m Q := by
  refine en_Rows_cell_29 d _ _ m (sg_Rows_cell_29_0 (zCall_m _) _ _ m ?_)
  rw [show (3 : Int32) = nI 3 from rfl, pk_mul, nI_add, nI_clamp (by omega), Nat.mul_comm k 3]
  exact ⟨vp_in_nI (by omega) (by omega), h⟩
theorem y_cell_31 (d : Nat) {Q : zQ} {m : zM} {k i : Nat} (hk : k < 8) (hi : i < 3) (h : Q (some (.int (gI m 32 (3 * k + i)))) m) : zCall (d + 1) m_Rows_cell [.ref 31, .int (nI k), .int (nI i)] m Q := by
  refine en_Rows_cell_31 d _ _ m (sg_Rows_cell_31_0 (zCall_m _) _ _ m ?_)
  rw [show (3 : Int32) = nI 3 from rfl, pk_mul, nI_add, nI_clamp (by omega), Nat.mul_comm k 3]
  exact ⟨vp_in_nI (by omega) (by omega), h⟩
/-! looked -/
def lkF (V : zV) (R : zRw) : Nat → Nat → Int32
  | 0, _ => -5
  | j + 1, k => if e5 (sW (s1 V (rA R k)) (rB R k)) = nI (rE R k) then lkF V R j (k + 1) else nI k
theorem y_xlook (d : Nat) {Q : zQ} {m : zM} {V : zV} (hV : vX m 21 V) {R : zRw} (hR : rX 8 31 m R) (hw : rW 8 8 (vN V) (vN V) R) :
    ∀ j k m', k + j = rC R → zsm hP3 m m' → hTk m' (vN V) (vTakes V) → (∀ m', zsm hP3 m m' → Q (some (.int (lkF V R j k))) m') → zRun (zCall (d + 4)) 4 (some .int) zc_Qu_firstWrongInTheBook Q 13 [.ref 90, .int (nI k)] [] m'
  | 0, k, m', hk, hs, ht, h => by
    have hR' := rX_sm hR hs (by unfold hP3; omega) (by unfold hP3; omega)
    have hc := hw.1
    refine sg_Qu_firstWrongInTheBook_13 (zCall_m _) _ m' ?_
    rw [hR'.1]
    exact ip (nI_le (by omega) (by omega)) (h m' hs)
  | j + 1, k, m', hk, hs, ht, h => by
    have hR' := rX_sm hR hs (by unfold hP3; omega) (by unfold hP3; omega)
    have hV' := vX_sm hV hs (fun q a b z => by unfold hP3 at z; omega) (fun q a b z => by unfold hP3 at z; omega)
    have hc := hw.1
    have h8 := hV.1.1
    obtain ⟨w1, w2, w3⟩ := hw.2 k (by omega)
    have w2 := w2 (by omega)
    obtain ⟨r1, r2, r3⟩ := hR'.2 k (by omega)
    have r1 : gI m' 32 (3 * k) = nI (rA R k) := r1
    have hb : vp_in (nI (rB R k)) 8 := vp_in_nI (by omega) (by omega)
    refine sg_Qu_firstWrongInTheBook_13 (zCall_m _) _ m' ?_
    rw [hR'.1]
    refine iq (nI_ge (by omega) (by omega)) (y_cell_31 (i := 0) _ (by omega) (by omega) ⟨_, rfl, ?_⟩)
    show zCall _ m_Box_bit [.int (gI m' 32 (3 * k))] m' _
    rw [r1]
    refine y_Box_bit _ _ ⟨_, rfl, y_sp1_21 d hV' ht (one := rA R k) (by omega) fun m2 hs2 hx2 => ⟨rfl, ?_⟩⟩
    have hR2 := rX_sm hR' hs2 (by unfold hP2; omega) (by unfold hP2; omega)
    obtain ⟨q1, q2, q3⟩ := hR2.2 k (by omega)
    have q2 : gI m2 32 (3 * k + 1) = nI (rB R k) := q2 (by omega)
    have q3 : gI m2 32 (3 * k + 2) = nI (rE R k) := q3
    refine y_cell_31 (i := 1) _ (by omega) (by omega) ⟨_, rfl, ?_⟩
    rw [q2]
    refine ⟨hb, y_cell_31 (i := 2) _ (by omega) (by omega) ⟨_, rfl, ?_⟩⟩
    rw [q3, nI_clamp (by omega), (hx2.1 (rB R k) w2).1, nI_1]
    have hs' : zsm hP3 m m2 := zsm_tr hs (zsm_mo (fun q z => by unfold hP2 at z; unfold hP3; omega) hs2)
    unfold lkF at h
    by_cases e : e5 (sW (s1 V (rA R k)) (rB R k)) = nI (rE R k)
    · simp only [if_pos e] at h
      exact ip e (y_xlook d hV hR hw j (k + 1) m2 (by omega) hs' (hTk_sm hs2 (by unfold hP2; omega) ht) h)
    · simp only [if_neg e] at h
      exact iq e (h m2 hs')
def aLooked (V : zV) (R : zRw) : Int32 := lkF V R (rC R) 0
theorem yX_looked (d : Nat) {Q : zQ} {m : zM} {V : zV} (hV : vX m 21 V) {R : zRw} (hR : rX 8 31 m R) (hw : rW 8 8 (vN V) (vN V) R) (h : ∀ m', zsm hP3 m m' → Q (some (.int (aLooked V R))) m') : zCall (d + 7) m_Box_looked [.ref 20] m Q := by
  refine en_Box_looked (d + 6) m (sg_Box_looked_0 (zCall_m _) m (en_Qu_firstWrongInTheBook (d + 5) m (sg_Qu_firstWrongInTheBook_0 (zCall_m _) m (y_measureC_21 d hV fun m1 hs1 ht1 => ⟨rfl, ?_⟩))))
  exact y_xlook (d + 1) hV hR hw (rC R) 0 m1 (Nat.zero_add _) (zsm_mo (fun q z => by unfold hP3; omega) hs1) ht1 (fun m' hs => ⟨_, rfl, h m' hs⟩)
theorem y_mlook (d : Nat) {Q : zQ} {m : zM} {V : zV} (hV : vM m V) {R : zRw} (hR : rM 8 38 141 142 143 m R) (hw : rW 8 8 (vN V) (vN V) R) :
    ∀ j k m', k + j = rC R → zsm mP m m' → (∀ m', zsm mP m m' → Q (some (.int (lkF V R j k))) m') → zRun (zCall (d + 8)) 9 (some .int) zc_Mod_looked Q 2 [.ref 113, .int (nI k)] [] m'
  | 0, k, m', hk, hs, h => by
    have hR' := rM_sm hR hs (by unfold mP; omega) (by unfold mP; omega) (by unfold mP; omega) (by unfold mP; omega)
    have hc := hw.1
    refine sg_Mod_looked_2 (zCall_m _) _ m' ?_
    rw [hR'.1]
    exact ip (nI_le (by omega) (by omega)) (h m' hs)
  | j + 1, k, m', hk, hs, h => by
    have hR' := rM_sm hR hs (by unfold mP; omega) (by unfold mP; omega) (by unfold mP; omega) (by unfold mP; omega)
    have hV' := vM_mP hV hs
    have hc := hw.1
    have h8 := hV.1.1
    obtain ⟨w1, w2, w3⟩ := hw.2 k (by omega)
    have w2 := w2 (by omega)
    obtain ⟨r1, r2, r3⟩ := hR'.2 k (by omega)
    have r2 := r2 (by omega)
    have hin : vp_in (nI k) 8 := vp_in_nI (by omega) (by omega)
    refine sg_Mod_looked_2 (zCall_m _) _ m' ?_
    rw [hR'.1]
    refine iq (nI_ge (by omega) (by omega)) ⟨hin, hin, ?_⟩
    rw [nI_clamp (by omega), r1, r2]
    refine y_whenOf d hV' w1 w2 fun m2 hs2 => ⟨_, rfl, hin, ?_⟩
    have hR2 := rM_sm hR' hs2 (by unfold mP; omega) (by unfold mP; omega) (by unfold mP; omega) (by unfold mP; omega)
    rw [(hR2.2 k (by omega)).2.2 (by decide), nI_1]
    unfold lkF at h
    have hs' := zsm_tr hs hs2
    show @ite Prop (e5 (sW (s1 V (rA R k)) (rB R k)) = nI (rE R k)) _ _ _
    by_cases e : e5 (sW (s1 V (rA R k)) (rB R k)) = nI (rE R k)
    · simp only [if_pos e] at h
      exact ip e (y_mlook d hV hR hw j (k + 1) m2 (by omega) hs' h)
    · simp only [if_neg e] at h
      exact iq e (h m2 hs')
theorem yM_looked (d : Nat) {Q : zQ} {m : zM} {V : zV} (hV : vM m V) {R : zRw} (hR : rM 8 38 141 142 143 m R) (hw : rW 8 8 (vN V) (vN V) R) (h : ∀ m', zsm mP m m' → Q (some (.int (aLooked V R))) m') : zCall (d + 9) m_Mod_looked [.ref 113] m Q :=
  en_Mod_looked (d + 8) m (sg_Mod_looked_0 (zCall_m _) m (y_mlook d hV hR hw (rC R) 0 m (Nat.zero_add _) (zsm_refl m) h))
