/-! small methods and small numbers -/
def bt (x : Int32) (i : Nat) : Bool := x.toBitVec.getLsbD i
theorem b_ext {x y : Int32} (h : ∀ i, i < 32 → bt x i = bt y i) : x = y := Int32.toBitVec_inj.mp (BitVec.eq_of_getLsbD_eq (fun i hi => h i hi))
theorem b_or (x y : Int32) (i : Nat) : bt (x ||| y) i = (bt x i || bt y i) := by unfold bt; rw [Int32.toBitVec_or, BitVec.getLsbD_or]
theorem b_and (x y : Int32) (i : Nat) : bt (x &&& y) i = (bt x i && bt y i) := by unfold bt; rw [Int32.toBitVec_and, BitVec.getLsbD_and]
theorem b_xor (x y : Int32) (i : Nat) : bt (x ^^^ y) i = (bt x i ^^ bt y i) := by unfold bt; rw [Int32.toBitVec_xor, BitVec.getLsbD_xor]
theorem b_big {x : Int32} {i : Nat} (h : 32 ≤ i) : bt x i = false := BitVec.getLsbD_of_ge _ _ h
theorem b_m1 : ∀ i, i < 32 → bt (-1) i = true := by decide +kernel
theorem b_0 (i : Nat) : bt 0 i = false := BitVec.getLsbD_zero
theorem s_l : ∀ n, n < 32 → ((nI n &&& 31).toBitVec.smod 32).toNat = n := by decide +kernel
theorem b_sshr (n : Nat) (hn : n < 32) (x : Int32) {i : Nat} (hi : i < 32) : bt (x >>> (nI n &&& 31)) i = if n + i < 32 then bt x (n + i) else bt x 31 := by
  unfold bt
  rw [Int32.toBitVec_shiftRight]
  show (x.toBitVec.sshiftRight ((nI n &&& 31).toBitVec.smod 32).toNat).getLsbD i = _
  rw [s_l n hn, BitVec.getLsbD_sshiftRight, BitVec.msb_eq_getLsbD_last]
  simp [hi]
theorem nx_and (a b : Nat) : nI a &&& nI b = nI (a &&& b) := by
  apply Int32.toBitVec_inj.1
  show BitVec.ofNat 32 a &&& BitVec.ofNat 32 b = BitVec.ofNat 32 (a &&& b)
  apply BitVec.eq_of_getLsbD_eq
  intro i hi
  simp [hi]
theorem ip {c : Prop} {i : Decidable c} {A B : Prop} (h : c) (a : A) : @ite Prop c i A B := by rw [if_pos h]; exact a
theorem iq {c : Prop} {i : Decidable c} {A B : Prop} (h : ¬ c) (b : B) : @ite Prop c i A B := by rw [if_neg h]; exact b
/-- one bit -/
def z1 (p : Nat) : Int32 := (1 : Int32) <<< (nI p &&& 31)
def zb (b : Bool) : Int32 := bif b then 1 else 0
theorem zb_1 (b : Bool) : zb b &&& 1 = zb b := by cases b <;> rfl
theorem zb_0 (b : Bool) : zb b = 0 ↔ b = false := by cases b <;> decide
theorem b_z1 : ∀ p, p < 32 → ∀ i, i < 32 → bt (z1 p) i = decide (i = p) := by decide +kernel
theorem b_one : ∀ i, i < 32 → bt 1 i = decide (i = 0) := by decide +kernel
theorem b_ne0 {x : Int32} : x ≠ 0 ↔ ∃ i, i < 32 ∧ bt x i = true := by
  constructor
  · intro h
    refine Classical.byContradiction fun z => h (b_ext fun i hi => ?_)
    rw [b_0]
    cases hb : bt x i with
    | false => rfl
    | true => exact absurd ⟨i, hi, hb⟩ z
  · rintro ⟨i, hi, h⟩ rfl
    rw [b_0] at h
    cases h
theorem b_hold (x : Int32) {p : Nat} (hp : p < 32) : x &&& z1 p = 0 ↔ bt x p = false := by
  constructor
  · intro h
    have := congrArg (bt · p) h
    simp only [b_and, b_z1 p hp p hp, b_0, decide_true, Bool.and_true] at this
    exact this
  · intro h
    apply b_ext
    intro i hi
    rw [b_and, b_z1 p hp i hi, b_0]
    by_cases e : i = p
    · subst e; rw [h]; rfl
    · rw [decide_eq_false e, Bool.and_false]
theorem b_has (x : Int32) {p : Nat} (hp : p < 32) : (x >>> (nI p &&& 31)) &&& 1 = 1 ↔ bt x p = true := by
  constructor
  · intro h
    have := congrArg (bt · 0) h
    simp only [b_and, b_sshr p hp x (show 0 < 32 by omega), Nat.add_zero, hp, if_true, b_one 0 (by omega), decide_true, Bool.and_true] at this
    exact this
  · intro h
    apply b_ext
    intro i hi
    rw [b_and, b_sshr p hp x hi, b_one i hi]
    by_cases e : i = 0
    · subst e
      rw [Nat.add_zero, if_pos hp, h]; rfl
    · rw [decide_eq_false e, Bool.and_false]
/-- a number from 0 up to less than n -/
def zr (x : Int32) (n : Nat) : Bool := decide (0 ≤ x.toInt ∧ x.toInt < (n : Int))
theorem zr_t {x : Int32} {n : Nat} (h : zr x n = true) : ∃ k, k < n ∧ k < 2 ^ 31 ∧ x = nI k := by
  unfold zr at h
  have h := of_decide_eq_true h
  obtain ⟨j, hj, rfl⟩ := nI_of (x := x) (fun z => by
    rw [Int32.lt_iff_toInt_lt] at z
    have : (0 : Int32).toInt = 0 := by decide
    omega)
  rw [nI_toInt hj] at h
  exact ⟨j, by omega, hj, rfl⟩
theorem zr_nI {k n : Nat} (hk : k < n) (h : k < 2 ^ 31) : zr (nI k) n = true := by
  unfold zr
  rw [nI_toInt h]
  exact decide_eq_true ⟨by omega, by omega⟩
theorem zr_f {x : Int32} {n : Nat} (h : zr x n = false) : x.toInt < 0 ∨ (n : Int) ≤ x.toInt := by
  have h := of_decide_eq_false h
  omega
theorem i0 : (0 : Int32).toInt = 0 := by decide
theorem zr_lo {x : Int32} {n : Nat} (h : x < 0) : zr x n = false := by
  rw [Int32.lt_iff_toInt_lt, i0] at h
  exact decide_eq_false (by omega)
theorem zr_hi {x c : Int32} {n : Nat} (hc : c.toInt = n) (h : c ≤ x) : zr x n = false := by
  rw [Int32.le_iff_toInt_le, hc] at h
  exact decide_eq_false (by omega)
theorem zr_hi' {x c : Int32} {n : Nat} (hc : c.toInt = (n : Int) - 1) (h : c < x) : zr x n = false := by
  rw [Int32.lt_iff_toInt_lt, hc] at h
  exact decide_eq_false (by omega)
theorem zr_in {x c : Int32} {n : Nat} (hc : c.toInt = n) (h1 : ¬ x < 0) (h : ¬ c ≤ x) : zr x n = true := by
  rw [Int32.le_iff_toInt_le, hc] at h
  rw [Int32.lt_iff_toInt_lt, i0] at h1
  exact decide_eq_true (by omega)
theorem zr_in' {x c : Int32} {n : Nat} (hc : c.toInt = (n : Int) - 1) (h1 : ¬ x < 0) (h : ¬ c < x) : zr x n = true := by
  rw [Int32.lt_iff_toInt_lt, hc] at h
  rw [Int32.lt_iff_toInt_lt, i0] at h1
  exact decide_eq_true (by omega)
theorem zr_c {x c : Int32} {n : Nat} (hc : c.toInt = n) {A B D : Prop} (hf : zr x n = false → A) (hf2 : zr x n = false → B) (ht : zr x n = true → D) : if x < 0 then A else if c ≤ x then B else D := by
  by_cases h1 : x < 0
  · rw [if_pos h1]; exact hf (zr_lo h1)
  · rw [if_neg h1]
    by_cases h2 : c ≤ x
    · rw [if_pos h2]; exact hf2 (zr_hi hc h2)
    · rw [if_neg h2]; exact ht (zr_in hc h1 h2)
theorem zr_c' {x c : Int32} {n : Nat} (hc : c.toInt = (n : Int) - 1) {A B D : Prop} (hf : zr x n = false → A) (hf2 : zr x n = false → B) (ht : zr x n = true → D) : if x < 0 then A else if c < x then B else D := by
  by_cases h1 : x < 0
  · rw [if_pos h1]; exact hf (zr_lo h1)
  · rw [if_neg h1]
    by_cases h2 : c < x
    · rw [if_pos h2]; exact hf2 (zr_hi' hc h2)
    · rw [if_neg h2]; exact ht (zr_in' hc h1 h2)
theorem nI_m1 {n : Nat} (h : n < 2 ^ 30) : (nI n - 1).toInt = (n : Int) - 1 := pk_sub_toInt (b := 1) h (by decide)
theorem zr_bot {x c : Int32} {n : Nat} (hc : c.toInt = n) {Q : zQ} {m : zM} (h : Q (some (.int (zb (zr x n)))) m) : if x < 0 then (0 : Int32) &&& 1 = 0 ∧ Q (some (.int 0)) m else if c ≤ x then (0 : Int32) &&& 1 = 0 ∧ Q (some (.int 0)) m else (1 : Int32) &&& 1 = 1 ∧ Q (some (.int 1)) m :=
  zr_c hc (fun z => ⟨rfl, by rw [z] at h; exact h⟩) (fun z => ⟨rfl, by rw [z] at h; exact h⟩) (fun z => ⟨rfl, by rw [z] at h; exact h⟩)
theorem zr_bot' {x c : Int32} {n : Nat} (hc : c.toInt = (n : Int) - 1) {Q : zQ} {m : zM} (h : Q (some (.int (zb (zr x n)))) m) : if x < 0 then (0 : Int32) &&& 1 = 0 ∧ Q (some (.int 0)) m else if c < x then (0 : Int32) &&& 1 = 0 ∧ Q (some (.int 0)) m else (1 : Int32) &&& 1 = 1 ∧ Q (some (.int 1)) m :=
  zr_c' hc (fun z => ⟨rfl, by rw [z] at h; exact h⟩) (fun z => ⟨rfl, by rw [z] at h; exact h⟩) (fun z => ⟨rfl, by rw [z] at h; exact h⟩)
section
variable {Q : zQ} {m : zM} (d : Nat)
theorem y_Box_isWord (a : Int32) (h : Q (some (.int (zb (zr a 10000)))) m) : zCall (d + 1) m_Box_isWord [.int a] m Q :=
  en_Box_isWord d a m (sg_Box_isWord_0 (zCall_m d) a m (zr_bot (by decide) h))
theorem y_Box_isTape (a : Int32) (h : Q (some (.int (zb (zr a 6)))) m) : zCall (d + 1) m_Box_isTape [.int a] m Q :=
  en_Box_isTape d a m (sg_Box_isTape_0 (zCall_m d) a m (zr_bot (by decide) h))
theorem y_Hedge_has (a : Int32) {n : Nat} (hn : gI m 21 0 = nI n) (hl : n < 2 ^ 30) (h : Q (some (.int (zb (zr a n)))) m) : zCall (d + 1) m_Hedge_has [.ref 21, .int a] m Q :=
  en_Hedge_has d a m (sg_Hedge_has_0 (zCall_m d) a m (zr_bot (by rw [hn, nI_toInt (by omega)]) h))
theorem y_Mod_in (a c : Int32) {n : Nat} (hc : c.toInt = (n : Int) - 1) (h : Q (some (.int (zb (zr a n)))) m) : zCall (d + 1) m_Mod_in [.ref 113, .int a, .int 0, .int c] m Q :=
  en_Mod_in d a 0 c m (sg_Mod_in_0 (zCall_m d) a 0 c m (zr_bot' hc h))
theorem y_Mod_isPlant (a : Int32) {n : Nat} (hn : gI m 113 0 = nI n) (hl : n < 2 ^ 30) (h : Q (some (.int (zb (zr a n)))) m) : zCall (d + 2) m_Mod_isPlant [.ref 113, .int a] m Q :=
  en_Mod_isPlant (d + 1) a m (sg_Mod_isPlant_0 (zCall_m _) a m (y_Mod_in d a _ (by rw [hn]; exact nI_m1 hl) ⟨_, rfl, zb_1 _, h⟩))
theorem y_Mod_isWord (a : Int32) (h : Q (some (.int (zb (zr a 10000)))) m) : zCall (d + 2) m_Mod_isWord [.ref 113, .int a] m Q :=
  en_Mod_isWord (d + 1) a m (sg_Mod_isWord_0 (zCall_m _) a m (y_Mod_in d a _ (by decide) ⟨_, rfl, zb_1 _, h⟩))
theorem y_Mod_isTape (a : Int32) (h : Q (some (.int (zb (zr a 6)))) m) : zCall (d + 2) m_Mod_isTape [.ref 113, .int a] m Q :=
  en_Mod_isTape (d + 1) a m (sg_Mod_isTape_0 (zCall_m _) a m (y_Mod_in d a _ (by decide) ⟨_, rfl, zb_1 _, h⟩))
theorem y_Box_bit (a : Int32) (h : Q (some (.int ((1 : Int32) <<< (a &&& 31)))) m) : zCall (d + 1) m_Box_bit [.int a] m Q :=
  en_Box_bit d a m (sg_Box_bit_0 (zCall_m d) a m h)
theorem y_Box_holds (x : Int32) {p : Nat} (hp : p < 32) (h : Q (some (.int (zb (bt x p)))) m) : zCall (d + 2) m_Box_holds [.int x, .int (nI p)] m Q := by
  refine en_Box_holds (d + 1) x (nI p) m (sg_Box_holds_0 (zCall_m _) x (nI p) m (y_Box_bit d _ ⟨_, rfl, ?_⟩))
  cases hb : bt x p with
  | false => rw [hb] at h; exact ip ((b_hold x hp).mpr hb) ⟨rfl, h⟩
  | true => rw [hb] at h; exact iq (fun z => by rw [(b_hold x hp).mp z] at hb; cases hb) ⟨rfl, h⟩
theorem y_Mod_has (x : Int32) {p : Nat} (hp : p < 32) (h : Q (some (.int (zb (bt x p)))) m) : zCall (d + 1) m_Mod_has [.ref 113, .int x, .int (nI p)] m Q := by
  refine en_Mod_has d x (nI p) m (sg_Mod_has_0 (zCall_m _) x (nI p) m ?_)
  cases hb : bt x p with
  | false => rw [hb] at h; exact ip (fun z => by rw [(b_has x hp).mp z] at hb; cases hb) ⟨rfl, h⟩
  | true => rw [hb] at h; exact iq (fun z => z ((b_has x hp).mpr hb)) ⟨rfl, h⟩
/-- bits with one more, or one less -/
def zw (x : Int32) (p : Nat) (c : Int32) : Int32 := if c = 0 then x &&& (z1 p ^^^ (-1)) else x ||| z1 p
theorem y_Box_with (x c : Int32) (p : Nat) (h : Q (some (.int (zw x p c))) m) : zCall (d + 2) m_Box_with [.int x, .int (nI p), .int c] m Q := by
  refine en_Box_with (d + 1) x (nI p) c m (sg_Box_with_0 (zCall_m _) x (nI p) c m ?_)
  unfold zw at h
  by_cases hc : c = 0
  · rw [if_pos hc] at h ⊢
    exact y_Box_bit d _ ⟨_, rfl, h⟩
  · rw [if_neg hc] at h ⊢
    exact y_Box_bit d _ ⟨_, rfl, h⟩
end
