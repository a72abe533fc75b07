/-! how a word spreads, as both work it out -/
/-- who is the soonest of those below p that have heard it and not passed it on -/
def nxF (w : Nat → Option Nat) (dn : Nat → Bool) : Nat → Option Nat
  | 0 => none
  | p + 1 => match w p, dn p, nxF w dn p with
    | some _, false, none => some p
    | some x, false, some q => if x < (w q).getD 0 then some p else some q
    | _, _, b => b
theorem nxF_none {w : Nat → Option Nat} {dn : Nat → Bool} : ∀ {n : Nat}, nxF w dn n = none → ∀ u, u < n → dn u = false → w u = none
  | 0, _, u, hu, _ => absurd hu (Nat.not_lt_zero _)
  | p + 1, h, u, hu, hd => by
    unfold nxF at h
    split at h
    · cases h
    · split at h <;> cases h
    · rename_i h1 h2
      rcases Nat.lt_succ_iff_lt_or_eq.mp hu with z | rfl
      · exact nxF_none h u z hd
      · cases hw : w u with
        | none => rfl
        | some x => exact absurd h (fun _ => h1 x hw hd h)
theorem nxF_some {w : Nat → Option Nat} {dn : Nat → Bool} : ∀ {n p : Nat}, nxF w dn n = some p → p < n ∧ dn p = false ∧ ∃ x, w p = some x ∧ ∀ u, u < n → dn u = false → ∀ y, w u = some y → x ≤ y
  | 0, p, h => by cases h
  | k + 1, p, h => by
    unfold nxF at h
    split at h
    · rename_i x h1 h2 h3
      cases h
      refine ⟨by omega, h2, x, h1, fun u hu hd y hy => ?_⟩
      rcases Nat.lt_succ_iff_lt_or_eq.mp hu with z | rfl
      · rw [nxF_none h3 u z hd] at hy; cases hy
      · rw [h1] at hy; cases hy; exact Nat.le_refl _
    · rename_i x q h1 h2 h3
      obtain ⟨a, b, z, c, e⟩ := nxF_some h3
      rw [c, Option.getD_some] at h
      split at h
      · rename_i hlt
        cases h
        refine ⟨by omega, h2, x, h1, fun u hu hd y hy => ?_⟩
        rcases Nat.lt_succ_iff_lt_or_eq.mp hu with zz | rfl
        · have := e u zz hd y hy; omega
        · rw [h1] at hy; cases hy; exact Nat.le_refl _
      · rename_i hlt
        cases h
        refine ⟨by omega, b, z, c, fun u hu hd y hy => ?_⟩
        rcases Nat.lt_succ_iff_lt_or_eq.mp hu with zz | rfl
        · exact e u zz hd y hy
        · rw [h1] at hy; cases hy; omega
    · rename_i h1 h2
      obtain ⟨a, b, z, c, e⟩ := nxF_some h
      refine ⟨by omega, b, z, c, fun u hu hd y hy => ?_⟩
      rcases Nat.lt_succ_iff_lt_or_eq.mp hu with zz | rfl
      · exact e u zz hd y hy
      · cases hn : nxF w dn u with
        | none => exact (h1 y hy hd hn).elim
        | some q => exact (h2 y q hy hd hn).elim
/-- when each has heard it, from whom, who has passed it on, the latest of these first -/
abbrev zS : Type := (Nat → Option Nat) × (Nat → Option Nat) × (Nat → Bool) × List Nat
def sW (s : zS) : Nat → Option Nat := s.1
def sF (s : zS) : Nat → Option Nat := s.2.1
def sD (s : zS) : Nat → Bool := s.2.2.1
def sO (s : zS) : List Nat := s.2.2.2
def thn (t : Nat → Nat) (w : Nat → Option Nat) (p : Nat) : Nat := (w p).getD 0 + t p
def rch (V : zV) (p o : Nat) : Bool := bt (vT V p) o && !bt (vD V) o
def upc (V : zV) (t : Nat → Nat) (w f : Nat → Option Nat) (p o : Nat) : Bool := (decide (o < vN V) && rch V p o) && (match w o with
  | none => true
  | some x => decide (thn t w p < x) || (decide (thn t w p = x) && (match f o with
    | none => false
    | some q => decide (p < q))))
def pw (V : zV) (t : Nat → Nat) (w f : Nat → Option Nat) (p o : Nat) : Option Nat := if upc V t w f p o = true then some (thn t w p) else w o
def pf (V : zV) (t : Nat → Nat) (w f : Nat → Option Nat) (p o : Nat) : Option Nat := if upc V t w f p o = true then some p else f o
def psS (V : zV) (t : Nat → Nat) (s : zS) (p : Nat) : zS := (pw V t (sW s) (sF s) p, pf V t (sW s) (sF s) p, fun q => decide (q = p) || sD s q, p :: sO s)
def rnS (V : zV) (t : Nat → Nat) : Nat → zS → zS
  | 0, s => s
  | k + 1, s => match nxF (sW s) (sD s) (vN V) with
    | none => s
    | some p => rnS V t k (psS V t s p)
def st0 (V : zV) (b : Nat → Bool) : zS := (fun p => if (decide (p < vN V) && (b p && !bt (vD V) p)) = true then some 0 else none, fun _ => none, fun _ => false, [])
def spr (V : zV) (t : Nat → Nat) (b : Nat → Bool) : zS := rnS V t (vN V) (st0 V b)
def cnt (dn : Nat → Bool) : Nat → Nat
  | 0 => 0
  | p + 1 => cnt dn p + (if dn p = true then 1 else 0)
theorem cnt_le (dn : Nat → Bool) : ∀ n, cnt dn n ≤ n
  | 0 => Nat.le_refl _
  | p + 1 => by
    have := cnt_le dn p
    unfold cnt
    split <;> omega
theorem cnt_all {dn : Nat → Bool} : ∀ {n}, cnt dn n = n → ∀ p, p < n → dn p = true
  | 0, _, p, hp => absurd hp (Nat.not_lt_zero _)
  | k + 1, h, p, hp => by
    have := cnt_le dn k
    unfold cnt at h
    split at h
    · rename_i hd
      rcases Nat.lt_succ_iff_lt_or_eq.mp hp with z | rfl
      · exact cnt_all (by omega) p z
      · exact hd
    · omega
theorem cnt_new {dn : Nat → Bool} {p : Nat} (hd : dn p = false) : ∀ n, cnt (fun q => decide (q = p) || dn q) n = cnt dn n + (if p < n then 1 else 0)
  | 0 => rfl
  | k + 1 => by
    unfold cnt
    rw [cnt_new hd k]
    by_cases e : k = p
    · subst e
      simp [hd]
    · by_cases l : p < k
      · simp [e, l, show p < k + 1 by omega]; omega
      · simp [e, l, show ¬ p < k + 1 by omega]
/-- what holds all along -/
def sJ (V : zV) (t : Nat → Nat) (s : zS) : Prop :=
  (∀ p, sW s p ≠ none → p < vN V ∧ bt (vD V) p = false) ∧
  (∀ p, sD s p = true ↔ p ∈ sO s) ∧ (∀ p, sD s p = true → ∃ x, sW s p = some x) ∧
  (∀ p q, sF s p = some q → sD s q = true ∧ sW s p ≠ none) ∧
  (∀ d, sD s d = true → ∀ u y, sD s u = false → sW s u = some y → (sW s d).getD 0 ≤ y) ∧
  (∀ p x, sW s p = some x → x ≤ 2085 * (sO s).length) ∧
  (sO s).length = cnt (sD s) (vN V) ∧
  (∀ p q, sF s p = some q → bt (vT V q) p = true)
theorem sJ_0 (V : zV) (t : Nat → Nat) (b : Nat → Bool) : sJ V t (st0 V b) := by
  have hz : ∀ n, cnt (fun _ => false) n = 0 := by
    intro n
    induction n with
    | zero => rfl
    | succ n ih => unfold cnt; rw [ih]; rfl
  refine ⟨fun p h => ?_, fun p => ⟨fun h => (by cases h), fun h => (by cases h)⟩, fun p h => (by cases h), fun p q h => (by cases h), fun d h => (by cases h), fun p x h => ?_, (hz _).symm, fun p q h => (by cases h)⟩
  · have h : (if (decide (p < vN V) && (b p && !bt (vD V) p)) = true then some 0 else none) ≠ none := h
    split at h
    · rename_i hc
      simp only [Bool.and_eq_true, decide_eq_true_eq, Bool.not_eq_true'] at hc
      exact ⟨hc.1, hc.2.2⟩
    · exact absurd rfl h
  · have h : (if (decide (p < vN V) && (b p && !bt (vD V) p)) = true then some 0 else none) = some x := h
    split at h
    · cases h; exact Nat.zero_le _
    · cases h
theorem upc_t {V : zV} {t : Nat → Nat} {w f : Nat → Option Nat} {p o : Nat} (h : upc V t w f p o = true) : o < vN V ∧ bt (vT V p) o = true ∧ bt (vD V) o = false ∧ (∀ x, w o = some x → thn t w p ≤ x) := by
  unfold upc rch at h
  simp only [Bool.and_eq_true, decide_eq_true_eq, Bool.not_eq_true'] at h
  obtain ⟨⟨h1, h2, h3⟩, h4⟩ := h
  refine ⟨h1, h2, h3, fun x hx => ?_⟩
  rw [hx] at h4
  simp only [Bool.or_eq_true, Bool.and_eq_true, decide_eq_true_eq] at h4
  omega
/-- whoever has passed it on is left as it is -/
theorem upc_dn {V : zV} {t : Nat → Nat} {s : zS} (hJ : sJ V t s) (ht : ∀ p, p < vN V → 1 ≤ t p ∧ t p ≤ 2085) {p : Nat} (hp : nxF (sW s) (sD s) (vN V) = some p) {d : Nat} (hd : sD s d = true ∨ d = p) : upc V t (sW s) (sF s) p d = false := by
  obtain ⟨a, b, x, c, e⟩ := nxF_some hp
  cases hu : upc V t (sW s) (sF s) p d with
  | false => rfl
  | true =>
    obtain ⟨u1, u2, u3, u4⟩ := upc_t hu
    have := (ht p a).1
    have hth : thn t (sW s) p = x + t p := by unfold thn; rw [c]; rfl
    rcases hd with hd | rfl
    · obtain ⟨y, hy⟩ := hJ.2.2.1 d hd
      have h1 := u4 y hy
      have h2 := hJ.2.2.2.2.1 d hd p x b c
      rw [hy, Option.getD_some] at h2
      omega
    · have h1 := u4 x c
      omega
theorem sJ_ps {V : zV} {t : Nat → Nat} {s : zS} (hJ : sJ V t s) (ht : ∀ p, p < vN V → 1 ≤ t p ∧ t p ≤ 2085) {p : Nat} (hp : nxF (sW s) (sD s) (vN V) = some p) : sJ V t (psS V t s p) := by
  obtain ⟨a, b, x, c, e⟩ := nxF_some hp
  have U := fun {d} (hd : sD s d = true ∨ d = p) => upc_dn hJ ht hp hd
  obtain ⟨j1, j2, j3, j4, j5, j6, j7, j8⟩ := hJ
  have hth : thn t (sW s) p = x + t p := by unfold thn; rw [c]; rfl
  have htp := ht p a
  have w_keep : ∀ {d}, sD s d = true ∨ d = p → sW (psS V t s p) d = sW s d := fun {d} hd => by
    show pw V t (sW s) (sF s) p d = _
    unfold pw
    rw [if_neg (by rw [U hd]; decide)]
  have hx6 := j6 p x c
  refine ⟨fun q h => ?_, fun q => ?_, fun q h => ?_, fun q r h => ?_, fun d hd u y hu hy => ?_, fun q y h => ?_, ?_, fun q r h => ?_⟩
  · have h : pw V t (sW s) (sF s) p q ≠ none := h
    unfold pw at h
    split at h
    · rename_i hc
      obtain ⟨u1, u2, u3, u4⟩ := upc_t hc
      exact ⟨u1, u3⟩
    · exact j1 q h
  · show (decide (q = p) || sD s q) = true ↔ q ∈ p :: sO s
    rw [List.mem_cons, Bool.or_eq_true, decide_eq_true_eq, j2 q]
  · have h : (decide (q = p) || sD s q) = true := h
    rw [Bool.or_eq_true, decide_eq_true_eq] at h
    rw [w_keep (h.symm)]
    rcases h with rfl | h
    · exact ⟨x, c⟩
    · exact j3 q h
  · have h : pf V t (sW s) (sF s) p q = some r := h
    unfold pf at h
    show (decide (r = p) || sD s r) = true ∧ pw V t (sW s) (sF s) p q ≠ none
    unfold pw
    split at h
    · rename_i hc
      cases h
      rw [if_pos hc]
      exact ⟨by simp, by simp⟩
    · rename_i hc
      rw [if_neg hc, (j4 q r h).1, Bool.or_true]
      exact ⟨rfl, (j4 q r h).2⟩
  · have hd : (decide (d = p) || sD s d) = true := hd
    have hu : (decide (u = p) || sD s u) = false := hu
    rw [Bool.or_eq_true, decide_eq_true_eq] at hd
    rw [Bool.or_eq_false_iff, decide_eq_false_iff_not] at hu
    rw [w_keep hd.symm]
    have hdx : (sW s d).getD 0 ≤ x := by
      rcases hd with rfl | hd
      · rw [c]; exact Nat.le_refl _
      · exact j5 d hd p x b c
    have hy : pw V t (sW s) (sF s) p u = some y := hy
    unfold pw at hy
    split at hy
    · cases hy
      omega
    · rename_i hc
      have hun : u < vN V := (j1 u (by rw [hy]; simp)).1
      have := e u hun hu.2 y hy
      omega
  · have h : pw V t (sW s) (sF s) p q = some y := h
    show y ≤ 2085 * (p :: sO s).length
    rw [List.length_cons]
    unfold pw at h
    split at h
    · cases h
      omega
    · have := j6 q y h
      omega
  · show (p :: sO s).length = cnt (fun q => decide (q = p) || sD s q) (vN V)
    rw [cnt_new b, if_pos a, List.length_cons, j7]
  · have h : pf V t (sW s) (sF s) p q = some r := h
    unfold pf at h
    split at h
    · rename_i hc
      cases h
      exact (upc_t hc).2.1
    · exact j8 q r h
theorem sJ_rn {V : zV} {t : Nat → Nat} (ht : ∀ p, p < vN V → 1 ≤ t p ∧ t p ≤ 2085) : ∀ k s, sJ V t s → sJ V t (rnS V t k s)
  | 0, s, h => h
  | k + 1, s, h => by
    unfold rnS
    cases hp : nxF (sW s) (sD s) (vN V) with
    | none => exact h
    | some p => exact sJ_rn ht k _ (sJ_ps h ht hp)
theorem sJ_full {V : zV} {t : Nat → Nat} {s : zS} (h : sJ V t s) (hl : (sO s).length = vN V) : nxF (sW s) (sD s) (vN V) = none := by
  cases hp : nxF (sW s) (sD s) (vN V) with
  | none => rfl
  | some p =>
    obtain ⟨a, b, _⟩ := nxF_some hp
    have := cnt_all (h.2.2.2.2.2.2.1.symm.trans hl) p a
    rw [b] at this
    cases this
theorem rn_end {V : zV} {t : Nat → Nat} (ht : ∀ p, p < vN V → 1 ≤ t p ∧ t p ≤ 2085) : ∀ k s, sJ V t s → (sO s).length + k = vN V → nxF (sW (rnS V t k s)) (sD (rnS V t k s)) (vN V) = none
  | 0, s, h, hl => sJ_full h hl
  | k + 1, s, h, hl => by
    unfold rnS
    cases hp : nxF (sW s) (sD s) (vN V) with
    | none => exact hp
    | some p => exact rn_end ht k _ (sJ_ps h ht hp) (by show (p :: sO s).length + k = _; rw [List.length_cons]; omega)
