/-! a garden of both -/
section
variable {tx : Nat → Nat} {n : Nat}
def tOk (n : Nat) : Option zG × Nat → Prop
  | (some G, e) => gWf G ∧ e ≤ n
  | (none, e) => e ≤ n
theorem pTx_wf (hn : n ≤ 100) : ∀ (k : Nat) (G : zG) (a : Nat), gWf G → gN G + k ≤ 10 → gU G ≤ a → a ≤ n → tOk n (pTx tx n k G a)
  | 0, G, a, _, _, _, ha => ha
  | k + 1, G, a, hG, hN, hu, ha => by
    have hb := pCl_b (tx := tx) ha
    rw [pTx_s]
    rcases hx : pCl tx n a with ⟨_ | ⟨w, v, x⟩, e⟩
    · rw [hx] at hb
      exact hb
    · rw [hx] at hb
      obtain ⟨b1, b2, b3, b4, b5, b6⟩ := hb
      have hU := gU_cl G w v x
      have hW : gWf (gPs (gBg G w v) x) := gWf_cl hG (by omega) b3 b4 (by omega) b6
      show tOk n (pAft tx n k (gPs (gBg G w v) x) e)
      unfold pAft
      by_cases q : n ≤ e
      · rw [if_pos q]
        exact ⟨hW, b2⟩
      · rw [if_neg q]
        by_cases r : k = 0
        · rw [if_pos r]
          exact b2
        · rw [if_neg r]
          by_cases t : pI tx n 59 e = true
          · have ta := (pI_t.mp t).1
            rw [if_pos t]
            exact pTx_wf hn k _ (e + 1) hW (by omega) (by omega) ta
          · rw [if_neg t]
            exact b2
theorem gWf_0 : gWf (0, fun _ => 0, fun _ => 0, fun _ => 0, fun _ => 0) := ⟨Nat.zero_le _, fun k hk => absurd hk (Nat.not_lt_zero _)⟩
end
