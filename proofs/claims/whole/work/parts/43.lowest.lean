/-! lowest terms -/
def aLow (a b part : Nat) : Int64 := if b = 0 then -9223372036854775808 else (nI ((if part = 0 then a else b) / Nat.gcd a b)).toInt64
theorem y_div (d : Nat) {Q : zQ} {m : zM} (v1 v2 : Int32) : ∀ (n q p : Nat), q < n → p < 2 ^ 31 → q < 2 ^ 31 → Q (some (.int (nI (Nat.gcd p q)))) m → ∀ u, zle [.ref 113, .int v1, .int v2, .int (nI p), .int (nI q), .retAddr 0] u → zRun (zCall d) 9 (some .int) zc_Mod_divisor Q 5 u [] m
  | 0, _, _, h, _, _, _, _, _ => absurd h (Nat.not_lt_zero _)
  | n + 1, q, p, hq, hp, hq2, h, u, hu => by
    refine zRun_le (zCall_m _) hu (sg_Mod_divisor_5 (zCall_m _) _ _ _ _ m ?_)
    by_cases e : q = 0
    · subst e
      rw [Nat.gcd_zero_right] at h
      exact ip rfl h
    · have hr : p % q < q := Nat.mod_lt _ (by omega)
      refine iq (nI_ne0 (by omega) hq2) ⟨nI_ne0 (by omega) hq2, ?_⟩
      rw [pk_rem hp (by omega) hq2]
      refine y_div d v1 v2 n (p % q) q (by omega) hq2 (by omega) ?_ _ (by repeat (first | exact zle_nil | apply zle_same | apply zle_new _ rfl))
      rw [Nat.gcd_comm q, ← Nat.gcd_rec, Nat.gcd_comm q p]
      exact h
theorem y_mlow (d : Nat) {Q : zQ} {m : zM} {a b part : Nat} (ha : a < 2 ^ 30) (hb : b < 2 ^ 30) (h0 : b ≠ 0) (hp : part < 2) (h : Q (some (.long (aLow a b part))) m) : zCall (d + 2) m_Mod_lowest [.ref 113, .int (nI a), .int (nI b), .int (nI part)] m Q := by
  have hg : 0 < Nat.gcd a b := Nat.gcd_pos_of_pos_right _ (by omega)
  have hgb : Nat.gcd a b ≤ b := Nat.gcd_le_right _ (by omega)
  refine en_Mod_lowest (d + 1) _ _ _ m (sg_Mod_lowest_0 (zCall_m _) _ _ _ m (en_Mod_divisor d _ _ m (sg_Mod_divisor_0 (zCall_m _) _ _ m (y_div d _ _ (b + 1) b a (by omega) (by omega) (by omega) ⟨_, rfl, ?_⟩ _ (zle_refl _)))))
  unfold aLow at h
  rw [if_neg h0] at h
  have hn : ¬ nI (Nat.gcd a b) = 0 := nI_ne0 hg (by omega)
  rw [pk_div (by omega) hg (by omega), pk_div (by omega) hg (by omega)]
  rcases (show part = 0 ∨ part = 1 by omega) with rfl | rfl
  · exact iq (fun z => z rfl) ⟨hn, h⟩
  · exact ip (by decide) ⟨hn, h⟩
theorem y_xlow (d : Nat) {Q : zQ} {m : zM} {a b part : Nat} (ha : a < 2 ^ 30) (hb : b < 2 ^ 30) (hp : part < 2) (h : Q (some (.long (aLow a b part))) m) :
    ∀ k, (b ≠ 0 → Nat.gcd a b ≤ k) → k ≤ b → zRun (zCall d) 4 (some .long) zc_Qu_lowest Q 2 [.int (nI a), .int (nI b), .int (nI part), .int (nI k)] [] m
  | 0, hg, hk => by
    refine sg_Qu_lowest_2 (zCall_m _) _ _ _ _ m (ip (by decide) ?_)
    have h0 : b = 0 := Classical.byContradiction fun z => by
      have h1 := hg z
      have h2 : 0 < Nat.gcd a b := Nat.gcd_pos_of_pos_right _ (by omega)
      omega
    unfold aLow at h
    rw [if_pos h0] at h
    exact h
  | k + 1, hg, hk => by
    have hb0 : b ≠ 0 := by omega
    have hn : ¬ nI (k + 1) = 0 := nI_ne0 (by omega) (by omega)
    refine sg_Qu_lowest_2 (zCall_m _) _ _ _ _ m (iq (nI_nle (by omega) (by omega)) ⟨hn, ?_⟩)
    rw [pk_m1, pk_rem (by omega) (by omega) (by omega), pk_rem (by omega) (by omega) (by omega), pk_div (by omega) (by omega) (by omega), pk_div (by omega) (by omega) (by omega)]
    have next : ¬ (a % (k + 1) = 0 ∧ b % (k + 1) = 0) → zRun (zCall d) 4 (some .long) zc_Qu_lowest Q 2 [.int (nI a), .int (nI b), .int (nI part), .int (nI k)] [] m := fun hz => by
      refine y_xlow d ha hb hp h k (fun _ => ?_) (by omega)
      have h1 := hg hb0
      have h2 : Nat.gcd a b ≠ k + 1 := fun z => hz ⟨by rw [← z]; exact Nat.mod_eq_zero_of_dvd (Nat.gcd_dvd_left a b), by rw [← z]; exact Nat.mod_eq_zero_of_dvd (Nat.gcd_dvd_right a b)⟩
      omega
    by_cases z1 : a % (k + 1) = 0
    · rw [z1]
      refine iq (fun z => z rfl) ⟨hn, ?_⟩
      by_cases z2 : b % (k + 1) = 0
      · rw [z2]
        have hd : k + 1 ∣ Nat.gcd a b := Nat.dvd_gcd (Nat.dvd_of_mod_eq_zero z1) (Nat.dvd_of_mod_eq_zero z2)
        have hle := Nat.le_of_dvd (Nat.gcd_pos_of_pos_right a (by omega)) hd
        have he : Nat.gcd a b = k + 1 := Nat.le_antisymm (hg hb0) hle
        unfold aLow at h
        rw [if_neg hb0, he] at h
        refine iq (fun z => z rfl) ?_
        rcases (show part = 0 ∨ part = 1 by omega) with rfl | rfl
        · exact iq (fun z => z rfl) ⟨hn, h⟩
        · exact ip (by decide) ⟨hn, h⟩
      · exact ip (nI_ne0 (by omega) (by have := Nat.mod_lt b (show 0 < k + 1 by omega); omega)) (next (fun z => z2 z.2))
    · exact ip (nI_ne0 (by omega) (by have := Nat.mod_lt a (show 0 < k + 1 by omega); omega)) (next (fun z => z1 z.1))
theorem y_xlowC (d : Nat) {Q : zQ} {m : zM} {a b part : Nat} (ha : a < 2 ^ 30) (hb : b < 2 ^ 30) (hp : part < 2) (h : Q (some (.long (aLow a b part))) m) : zCall (d + 1) m_Qu_lowest [.int (nI a), .int (nI b), .int (nI part)] m Q :=
  en_Qu_lowest d _ _ _ m (sg_Qu_lowest_0 (zCall_m _) _ _ _ m (y_xlow d ha hb hp h b (fun z => Nat.gcd_le_right _ (by omega)) (Nat.le_refl _)))
