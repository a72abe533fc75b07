/-! the reference reads a text: its state, and its small steps -/
theorem n_nlt {a b : Nat} (h : b ≤ a) (ha : a < 2 ^ 31) : ¬ nI a < nI b := fun z => by
  have := Int32.lt_iff_toInt_lt.mp z
  rw [nI_toInt (by omega), nI_toInt (by omega)] at this
  omega
/-- the reference's own numbers that reading writes -/
def rK (k : Nat) : Prop := k = 10 ∨ k = 11 ∨ k = 20 ∨ k = 21 ∨ k = 22
/-- what reading the tests of clause c of garden g leaves alone -/
def mFe (g c : Nat) (m0 m : zM) : Prop := zsm (fun q => q = 113 ∨ (122 ≤ q ∧ q ≤ 125)) m0 m ∧ (∀ k, ¬ rK k → gI m 113 k = gI m0 113 k) ∧ (∀ j, gI m 122 j = gI m0 122 j ∧ (j ≠ c → gI m 123 j = gI m0 123 j)) ∧ ∀ j, (j < 100 * g ∨ 100 * g + 100 ≤ j) → gI m 124 j = gI m0 124 j
/-- what waits, from the top -/
def pil (m : zM) : List Nat → Prop
  | [] => True
  | c :: W => gI m 125 W.length = nI c ∧ pil m W
theorem pil_sI {m : zM} {p k : Nat} {x : Int32} (hp : p ≠ 125) : ∀ {W : List Nat}, pil m W → pil (sI m p k x) W
  | [], _ => trivial
  | c :: W, h => ⟨by rw [gIs, if_neg (fun z => hp z.1.symm)]; exact h.1, pil_sI hp h.2⟩
theorem pil_sP {m : zM} {k : Nat} {x : Int32} : ∀ {W : List Nat}, W.length ≤ k → pil m W → pil (sI m 125 k x) W
  | [], _, _ => trivial
  | c :: W, hk, h => ⟨by rw [gIs, if_neg (fun z => by have := z.2; rw [List.length_cons] at hk; omega)]; exact h.1, pil_sP (by rw [List.length_cons] at hk; omega) h.2⟩
section
variable {m0 m : zM} {g c n a : Nat} {tx : Nat → Nat}
theorem mFe_refl (m : zM) : mFe g c m m := ⟨zsm_refl m, fun _ _ => rfl, fun _ => ⟨rfl, fun _ => rfl⟩, fun _ _ => rfl⟩
theorem mFe_tr {m1 m2 : zM} (h : mFe g c m0 m1) (h2 : mFe g c m1 m2) : mFe g c m0 m2 :=
  ⟨zsm_tr h.1 h2.1, fun k hk => (h2.2.1 k hk).trans (h.2.1 k hk), fun j => ⟨(h2.2.2.1 j).1.trans (h.2.2.1 j).1, fun hj => ((h2.2.2.1 j).2 hj).trans ((h.2.2.1 j).2 hj)⟩, fun j hj => (h2.2.2.2 j hj).trans (h.2.2.2 j hj)⟩
theorem mFe_k (h : mFe g c m0 m) {k : Nat} (hk : rK k) (x : Int32) : mFe g c m0 (sI m 113 k x) :=
  ⟨zsm_sI h.1 (Or.inl rfl) x, fun j hj => by rw [gIs, if_neg (fun (z : 113 = 113 ∧ j = k) => hj (z.2 ▸ hk))]; exact h.2.1 j hj, fun j => ⟨by rw [gIs, if_neg (by omega)]; exact (h.2.2.1 j).1, fun hj => by rw [gIs, if_neg (by omega)]; exact (h.2.2.1 j).2 hj⟩, fun j hj => by rw [gIs, if_neg (by omega)]; exact h.2.2.2 j hj⟩
theorem mFe_p (h : mFe g c m0 m) (k : Nat) (x : Int32) : mFe g c m0 (sI m 125 k x) :=
  ⟨zsm_sI h.1 (Or.inr ⟨by omega, by omega⟩) x, fun j hj => by rw [gIs, if_neg (by omega)]; exact h.2.1 j hj, fun j => ⟨by rw [gIs, if_neg (by omega)]; exact (h.2.2.1 j).1, fun hj => by rw [gIs, if_neg (by omega)]; exact (h.2.2.1 j).2 hj⟩, fun j hj => by rw [gIs, if_neg (by omega)]; exact h.2.2.2 j hj⟩
theorem mFe_t (h : mFe g c m0 m) (x : Int32) : mFe g c m0 (sI m 123 c x) :=
  ⟨zsm_sI h.1 (Or.inr ⟨by omega, by omega⟩) x, fun j hj => by rw [gIs, if_neg (by omega)]; exact h.2.1 j hj, fun j => ⟨by rw [gIs, if_neg (by omega)]; exact (h.2.2.1 j).1, fun hj => by rw [gIs, if_neg (fun z => hj z.2)]; exact (h.2.2.1 j).2 hj⟩, fun j hj => by rw [gIs, if_neg (by omega)]; exact h.2.2.2 j hj⟩
theorem mFe_s (h : mFe g c m0 m) {u : Nat} (hu : u < 100) (x : Int32) : mFe g c m0 (sI m 124 (100 * g + u) x) :=
  ⟨zsm_sI h.1 (Or.inr ⟨by omega, by omega⟩) x, fun j hj => by rw [gIs, if_neg (by omega)]; exact h.2.1 j hj, fun j => ⟨by rw [gIs, if_neg (by omega)]; exact (h.2.2.1 j).1, fun hj => by rw [gIs, if_neg (by omega)]; exact (h.2.2.1 j).2 hj⟩, fun j hj => by rw [gIs, if_neg (by omega)]; exact h.2.2.2 j hj⟩
/-- what the reference finds given -/
def mGv (m0 : zM) (n : Nat) (tx : Nat → Nat) : Prop := n ≤ 100 ∧ gI m0 113 9 = nI n ∧ ∀ j, j < n → gI m0 118 j = nI (tx j) ∧ tx j < 128
/-- the pile machine in the reference: where it stands, what waits, what it has laid -/
def mSt (m0 : zM) (g c : Nat) (H : zG) (W : List Nat) (a : Nat) (m : zM) : Prop :=
  mFe g c m0 m ∧ gI m 113 10 = nI a ∧ gI m 113 21 = nI W.length ∧ pil m W ∧ gI m 113 22 = nI (mOp W) ∧ gI m 113 20 = nI (100 * g + gU H) ∧ ∀ j, j < gU H → gI m 124 (100 * g + j) = cM (gCo H j)
def nx (tx : Nat → Nat) (n a : Nat) : Int32 := if a < n then nI (tx a) else -1
theorem nx_c (hv : mGv m0 n tx) {k : Nat} (hk : k < 2 ^ 31) (a : Nat) : nx tx n a = nI k ↔ pI tx n k a = true := by
  unfold nx
  rw [pI_t]
  by_cases q : a < n
  · have := (hv.2.2 a q).2
    rw [if_pos q, nI_eq (by omega) hk]
    exact ⟨fun z => ⟨q, z⟩, fun z => z.2⟩
  · rw [if_neg q]
    exact ⟨fun z => absurd z.symm (nI_nn hk (by decide)), fun z => absurd z.1 q⟩
/-- what next finds: only the place and the text are asked -/
theorem y_nextM (d : Nat) {Q : zQ} (hv : mGv m0 n tx) (h9 : gI m 113 9 = gI m0 113 9) (h8 : ∀ j, gI m 118 j = gI m0 118 j) (ha : gI m 113 10 = nI a) (hb : a ≤ n) (h : Q (some (.int (nx tx n a))) m) : zCall (d + 1) m_Mod_next [.ref 113] m Q := by
  obtain ⟨v1, v2, v3⟩ := hv
  refine en_Mod_next d m (sg_Mod_next_0 (zCall_m d) m ?_)
  rw [h9, v2, ha]
  unfold nx at h
  by_cases q : a < n
  · rw [if_pos q] at h
    refine iq (nI_ge q (by omega)) ⟨vp_in_nI (by omega) (by omega), ?_⟩
    rw [nI_clamp (by omega), h8, (v3 a q).1]
    exact h
  · rw [if_neg q] at h
    exact ip (nI_le (by omega) (by omega)) h
theorem y_inM (d : Nat) {Q : zQ} (hv : mGv m0 n tx) (lo hi : Nat) (h1 : lo < 128) (h2 : hi < 128) (h : Q (some (.int (zb (decide (a < n ∧ lo ≤ tx a ∧ tx a ≤ hi))))) m) : zCall (d + 1) m_Mod_in [.ref 113, .int (nx tx n a), .int (nI lo), .int (nI hi)] m Q := by
  refine en_Mod_in d _ _ _ m (sg_Mod_in_0 (zCall_m d) _ _ _ m ?_)
  unfold nx
  by_cases q : a < n
  · rw [if_pos q]
    have := (hv.2.2 a q).2
    by_cases q1 : tx a < lo
    · rw [decide_eq_false (by omega)] at h
      exact ip (nI_lt q1 (by omega)) ⟨by decide, h⟩
    · refine iq (n_nlt (by omega) (by omega)) ?_
      by_cases q2 : hi < tx a
      · rw [decide_eq_false (by omega)] at h
        exact ip (nI_lt q2 (by omega)) ⟨by decide, h⟩
      · rw [decide_eq_true (by omega)] at h
        exact iq (n_nlt (by omega) (by omega)) ⟨by decide, h⟩
  · rw [if_neg q]
    rw [decide_eq_false (fun z => q z.1)] at h
    refine ip (Int32.lt_iff_toInt_lt.mpr ?_) ⟨by decide, h⟩
    rw [nI_toInt (by omega), show (-1 : Int32).toInt = -1 from rfl]
    omega
end
