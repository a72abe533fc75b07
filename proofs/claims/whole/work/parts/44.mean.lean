/-! mean -/
def smL (w : Nat → Option Nat) : List Nat → Nat
  | [] => 0
  | p :: r => (w p).getD 0 + smL w r
def smF (w : Nat → Option Nat) : Nat → Nat
  | 0 => 0
  | k + 1 => smF w k + (w k).getD 0
theorem smL_cg {w w' : Nat → Option Nat} : ∀ {L : List Nat}, (∀ p, p ∈ L → w p = w' p) → smL w L = smL w' L
  | [], _ => rfl
  | p :: r, h => by
    unfold smL
    rw [h p List.mem_cons_self, smL_cg (fun q hq => h q (List.mem_cons_of_mem p hq))]
theorem smF_cg {w w' : Nat → Option Nat} : ∀ {n : Nat}, (∀ p, p < n → w p = w' p) → smF w n = smF w' n
  | 0, _ => rfl
  | k + 1, h => by
    unfold smF
    rw [h k (by omega), smF_cg (fun p hp => h p (by omega))]
theorem smF_new {f g : Nat → Option Nat} {p : Nat} (hf : f p = none) (hg : ∀ q, q ≠ p → g q = f q) : ∀ n, smF g n = smF f n + (if p < n then (g p).getD 0 else 0)
  | 0 => rfl
  | k + 1 => by
    unfold smF
    rw [smF_new hf hg k]
    by_cases e : k = p
    · subst e
      rw [hf, if_neg (Nat.lt_irrefl k), if_pos (Nat.lt_succ_self k)]
      simp
    · rw [hg k e]
      by_cases l : p < k
      · rw [if_pos l, if_pos (by omega)]; omega
      · rw [if_neg l, if_neg (by omega)]; omega
def sdw (s : zS) (p : Nat) : Option Nat := if sD s p = true then sW s p else none
theorem sm_rn {V : zV} {t : Nat → Nat} (ht : ∀ p, p < vN V → 1 ≤ t p ∧ t p ≤ 2085) : ∀ k s, sJ V t s → smL (sW s) (sO s) = smF (sdw s) (vN V) → smL (sW (rnS V t k s)) (sO (rnS V t k s)) = smF (sdw (rnS V t k s)) (vN V)
  | 0, _, _, h => h
  | k + 1, s, hJ, h => by
    unfold rnS
    cases hp : nxF (sW s) (sD s) (vN V) with
    | none => exact h
    | some p =>
      obtain ⟨a, b, x, c, e⟩ := nxF_some hp
      refine sm_rn ht k _ (sJ_ps hJ ht hp) ?_
      have hfz : ∀ q, sD s q = true ∨ q = p → sW (psS V t s p) q = sW s q := fun q hq => (ps_f hJ ht hp hq).2
      show (sW (psS V t s p) p).getD 0 + smL (sW (psS V t s p)) (sO s) = _
      rw [smL_cg (fun q hq => hfz q (Or.inl ((hJ.2.1 q).mpr hq))), h]
      have hd : ∀ q, sD (psS V t s p) q = (decide (q = p) || sD s q) := fun q => rfl
      rw [smF_new (f := sdw s) (g := sdw (psS V t s p)) (p := p) (by unfold sdw; rw [b]; rfl) (fun q hq => ?_) (vN V), if_pos a]
      · have : sdw (psS V t s p) p = sW (psS V t s p) p := by
          unfold sdw
          rw [hd p, decide_eq_true rfl]; rfl
        rw [this]; omega
      · unfold sdw
        rw [hd q, decide_eq_false hq, Bool.false_or]
        cases hq2 : sD s q with
        | false => rfl
        | true => exact hfz q (Or.inl hq2)
theorem sT_sm {V : zV} (hw : vWf V) (b : Nat → Bool) : smL (sW (sT V b)) (sO (sT V b)) = smF (sW (sT V b)) (vN V) := by
  have h0 : ∀ n, smF (sdw (st0 V b)) n = 0 := fun n => by
    induction n with
    | zero => rfl
    | succ n ih => unfold smF; rw [ih]; rfl
  have h := sm_rn (fun _ hp => vTakes_b hw hp) (vN V) (st0 V b) (sJ_0 V (vTakes V) b) (h0 _).symm
  refine h.trans (smF_cg fun p hp => ?_)
  show sdw (sT V b) p = sW (sT V b) p
  unfold sdw
  cases hx : sW (sT V b) p with
  | none => split <;> rfl
  | some x =>
    have := ((sT_J hw b).2.1 p).mpr (sT_in hw b (by rw [hx]; simp))
    rw [if_pos this]
