/-! arrays, numbers, branches: the rows of the simulation -/
theorem ztg_ok (pc : Nat) (o : Int) (h : 0 ≤ (pc : Int) + o) : (pc : Int) + o = (ztg pc o : Int) := by
  cases o with
  | ofNat n => rfl
  | negSucc n =>
    show (pc : Int) + Int.negSucc n = ((pc - (n + 1) : Nat) : Int)
    omega
section ZO
variable {p : Program} {l : Launch} {e : Env} {R : Room} {s : State} {m : MethodId} {args : Array Value} {below : List Frame} {meth : Method} {c : Code} {cells slots : Nat} {TQ : State → Prop}
variable {own ml : Nat} {b : ByteArray} {cd : List (Nat × Instr)} {base : Nat} {ad : Nat → Nat} {w : Value} {tb : Nat → Nat → Int32} {D : va_G} {cA : Nat → ClassId} {d : Nat}
variable {pc : Nat} {ls st : List Value} {mm : zM} {Q : zQ} {K : zK} {H : Heap} {locs : List Loc} {la : Array Slot}
theorem zald_ok (X : zCx p l R s m args c cells slots own ml b cd base ad w tb D cA d) (S : zSim s base ad w tb D cA ml ls mm la H locs) (G : zGo p l e R s m args below meth c cells slots TQ ml base ad w tb D cA K) (hdg : decode b pc = .ok (.iaload, 1))
    (h : zald pc ls st mm K) : W p l e R s m args below meth c H locs cells slots TQ (F0 m pc la (st.map (zcv ad w))) := by
  obtain ⟨⟨hx, hb, hml, hown, ho⟩, hts, hK, hSt, hAd, hbs, hdk, hTb, hw, hRm, hC⟩ := X
  obtain ⟨sl, sz, sP, sS, sW⟩ := id S
  unfold zald at h
  have h' := h
  clear h
  match st, h' with
  | .int i :: .ref q :: r, h =>
    dsimp only at h
    have tab : ∀ {n : Nat}, q < 20 → q ≠ 18 → va_T .int (ad q) n (fun j => .int (tb q j)) (zA base) s s.heap → vp_in i n → K (pc + 1) ls (.int (gI mm q i.toNatClampNeg) :: r) mm → W p l e R s m args below meth c H locs cells slots TQ (F0 m pc la ((Value.int i :: Value.ref q :: r).map (zcv ad w))) := by
      intro n hq hq18 hT hin hk
      rw [List.map_cons, List.map_cons, zcv_ne hq18]
      refine va_ti hx hb hT sS hin rfl hdg ?_
      rw [← sW.1 q hq]
      exact G _ _ _ _ _ _ _ hk S
    split at h
    · rename_i hz
      have hpl := zpl_of (p := q) (by omega)
      have he : (zws cA ad mm)[q - 20]? = some (ad q, .inl (cA 0, zlen q, .inl (gI mm q))) := by rw [zws_get hpl, zen_20 hz]
      rw [List.map_cons, List.map_cons, zcv_ne (p := q) (fun z => by have := hpl.1; omega)]
      exact va_iald hx hb hK sP (q - 20) 0 he rfl h.1 hdg (G _ _ _ _ _ _ _ h.2 S)
    · rename_i hz
      have h1 : q = 2 ∨ q = 3 := by
        have h2 : ∀ q, q < 161 → zsh q = 52 → q = 2 ∨ q = 3 := by decide +kernel
        exact h2 q (Nat.lt_of_not_le fun z => by rw [zsh_hi z] at hz; cases hz) hz
      rcases h1 with rfl | rfl
      · exact tab (by decide) (by decide) hSt.1.2.1 h.1 h.2
      · exact tab (by decide) (by decide) hSt.1.2.2 h.1 h.2
    · rename_i hz
      have h1 : q = 0 := by
        have h2 : ∀ q, q < 161 → zsh q = 53 → q = 0 := by decide +kernel
        exact h2 q (Nat.lt_of_not_le fun z => by rw [zsh_hi z] at hz; cases hz) hz
      subst h1
      rw [sW.1 1 (by decide)] at h
      exact tab (by decide) (by decide) hSt.1.1 h.1 h.2
    · exact h.elim
theorem zbld_ok (X : zCx p l R s m args c cells slots own ml b cd base ad w tb D cA d) (S : zSim s base ad w tb D cA ml ls mm la H locs) (G : zGo p l e R s m args below meth c cells slots TQ ml base ad w tb D cA K) (hdg : decode b pc = .ok (.baload, 1))
    (h : zbld pc ls st mm K) : W p l e R s m args below meth c H locs cells slots TQ (F0 m pc la (st.map (zcv ad w))) := by
  obtain ⟨⟨hx, hb, hml, hown, ho⟩, hts, hK, hSt, hAd, hbs, hdk, hTb, hw, hRm, hC⟩ := X
  obtain ⟨sl, sz, sP, sS, sW⟩ := id S
  unfold zbld at h
  have h' := h
  clear h
  match st, h' with
  | .int i :: .ref q :: r, h =>
    dsimp only at h
    split at h
    · rename_i hz
      have hpl := zpl_of (p := q) (by omega)
      have he : (zws cA ad mm)[q - 20]? = some (ad q, .inl (cA 1, zlen q, .inl (gI mm q))) := by rw [zws_get hpl, zen_21 hz]
      rw [List.map_cons, List.map_cons, zcv_ne (p := q) (fun z => by have := hpl.1; omega)]
      exact va_zald hx hb hK sP (q - 20) 1 he rfl h.1 hdg (G _ _ _ _ _ _ _ h.2 S)
    · rename_i hz
      have hqs : ∃ i : Nat, i < 7 ∧ q = 11 + i := by
        have h2 : ∀ q : Nat, q < 161 → zsh q = 51 → ∃ i : Nat, i < 7 ∧ q = 11 + i := by decide +kernel
        exact h2 q (Nat.lt_of_not_le fun z => by rw [zsh_hi z] at hz; cases hz) hz
      obtain ⟨k, hk, rfl⟩ := hqs
      have hlen : zlen (11 + k) = zslen.getD k 0 := (show ∀ k, k < 7 → zlen (11 + k) = zslen.getD k 0 by decide +kernel) k hk
      rw [List.map_cons, List.map_cons, zcv_ne (p := 11 + k) (by omega)]
      obtain ⟨-, -, -, v4⟩ := hSt.2.1.1 k hk
      rw [hlen] at h
      have hlt : i.toNatClampNeg < zslen.getD k 0 := Nat.not_le.mp fun z => h.1 (Or.inr z)
      refine va_tb hx hb v4 sS h.1 rfl hdg ?_
      rw [← hTb.2 k hk _ hlt, ← sW.1 (11 + k) (by omega)]
      exact G _ _ _ _ _ _ _ h.2 S
    · exact h.elim
theorem zast_ok (X : zCx p l R s m args c cells slots own ml b cd base ad w tb D cA d) (S : zSim s base ad w tb D cA ml ls mm la H locs) (G : zGo p l e R s m args below meth c cells slots TQ ml base ad w tb D cA K) (hdg : decode b pc = .ok (.iastore, 1))
    (h : zast pc ls st mm K) : W p l e R s m args below meth c H locs cells slots TQ (F0 m pc la (st.map (zcv ad w))) := by
  obtain ⟨⟨hx, hb, hml, hown, ho⟩, hts, hK, hSt, hAd, hbs, hdk, hTb, hw, hRm, hC⟩ := X
  obtain ⟨sl, sz, sP, sS, sW⟩ := id S
  unfold zast at h
  have h' := h
  clear h
  match st, h' with
  | .int x :: .int i :: .ref q :: r, h =>
    dsimp only at h
    cases hz0 : Nat.beq (zsh q) 20 with
    | false => rw [hz0] at h; exact h.elim
    | true =>
      rw [hz0] at h
      have hz := Nat.eq_of_beq_eq_true hz0
      have hpl := zpl_of (p := q) (by omega)
      have he : (zws cA ad mm)[q - 20]? = some (ad q, .inl (cA 0, zlen q, .inl (gI mm q))) := by rw [zws_get hpl, zen_20 hz]
      rw [List.map_cons, List.map_cons, List.map_cons, zcv_ne (p := q) (fun z => by have := hpl.1; omega)]
      refine va_iast hx hb hK sP (hAd.d mm) sS (q - 20) 0 he rfl h.1 hdg (fun H1 locs1 hP1 _ hS1 => ?_)
      have e1 : zen cA ad (sI mm q i.toNatClampNeg x) q = .inl (cA 0, zlen q, .inl (upd (gI mm q) i.toNatClampNeg x)) := by
        rw [zen_20 hz]
        congr 4
        funext j
        rw [gI_sI]
        unfold upd
        by_cases hj : j = i.toNatClampNeg <;> simp [hj]
      rw [zws_set hpl e1 (fun q2 hq2 => zen_sI hq2)] at hP1
      refine G _ _ _ _ _ _ _ h.2 ⟨sl, sz, hP1, hS1, ⟨fun p hp j => ?_, fun p q2 hg => sW.2 p q2 hg⟩⟩
      rw [gI_sI, if_neg (fun z => by have := hpl.1; omega)]
      exact sW.1 p hp j
theorem zbst_ok (X : zCx p l R s m args c cells slots own ml b cd base ad w tb D cA d) (S : zSim s base ad w tb D cA ml ls mm la H locs) (G : zGo p l e R s m args below meth c cells slots TQ ml base ad w tb D cA K) (hdg : decode b pc = .ok (.bastore, 1))
    (h : zbst pc ls st mm K) : W p l e R s m args below meth c H locs cells slots TQ (F0 m pc la (st.map (zcv ad w))) := by
  obtain ⟨⟨hx, hb, hml, hown, ho⟩, hts, hK, hSt, hAd, hbs, hdk, hTb, hw, hRm, hC⟩ := X
  obtain ⟨sl, sz, sP, sS, sW⟩ := id S
  unfold zbst at h
  have h' := h
  clear h
  match st, h' with
  | .int x :: .int i :: .ref q :: r, h =>
    dsimp only at h
    cases hz0 : Nat.beq (zsh q) 21 with
    | false => rw [hz0] at h; exact h.elim
    | true =>
      rw [hz0] at h
      have hz := Nat.eq_of_beq_eq_true hz0
      have hpl := zpl_of (p := q) (by omega)
      have he : (zws cA ad mm)[q - 20]? = some (ad q, .inl (cA 1, zlen q, .inl (gI mm q))) := by rw [zws_get hpl, zen_21 hz]
      rw [List.map_cons, List.map_cons, List.map_cons, zcv_ne (p := q) (fun z => by have := hpl.1; omega)]
      refine va_zast hx hb hK sP (hAd.d mm) sS (q - 20) 1 he rfl h.1 hdg (fun H1 locs1 hP1 _ hS1 => ?_)
      have e1 : zen cA ad (sI mm q i.toNatClampNeg (x &&& 1)) q = .inl (cA 1, zlen q, .inl (upd (gI mm q) i.toNatClampNeg (vp_nar .boolean x))) := by
        rw [zen_21 hz]
        congr 4
        funext j
        rw [gI_sI]
        unfold upd
        by_cases hj : j = i.toNatClampNeg <;> simp [hj, vp_nar, narrow]
      rw [zws_set hpl e1 (fun q2 hq2 => zen_sI hq2)] at hP1
      refine G _ _ _ _ _ _ _ h.2 ⟨sl, sz, hP1, hS1, ⟨fun p hp j => ?_, fun p q2 hg => sW.2 p q2 hg⟩⟩
      rw [gI_sI, if_neg (fun z => by have := hpl.1; omega)]
      exact sW.1 p hp j
theorem zlld_ok (X : zCx p l R s m args c cells slots own ml b cd base ad w tb D cA d) (S : zSim s base ad w tb D cA ml ls mm la H locs) (G : zGo p l e R s m args below meth c cells slots TQ ml base ad w tb D cA K) (hdg : decode b pc = .ok (.laload, 1))
    (h : zlld pc ls st mm K) : W p l e R s m args below meth c H locs cells slots TQ (F0 m pc la (st.map (zcv ad w))) := by
  obtain ⟨⟨hx, hb, hml, hown, ho⟩, hts, hK, hSt, hAd, hbs, hdk, hTb, hw, hRm, hC⟩ := X
  obtain ⟨sl, sz, sP, sS, sW⟩ := id S
  unfold zlld at h
  have h' := h
  clear h
  match st, h' with
  | .int i :: .ref q :: r, h =>
    dsimp only at h
    cases hz0 : Nat.beq (zsh q) 22 with
    | false => rw [hz0] at h; exact h.elim
    | true =>
      rw [hz0] at h
      have hz := Nat.eq_of_beq_eq_true hz0
      have hpl := zpl_of (p := q) (by omega)
      have he : (zws cA ad mm)[q - 20]? = some (ad q, .inl (cA 2, zlen q, .inr (.inl (gL mm q)))) := by rw [zws_get hpl, zen_22 hz]
      rw [List.map_cons, List.map_cons, zcv_ne (p := q) (fun z => by have := hpl.1; omega)]
      exact va_lald hx hb hK sP (q - 20) 2 he rfl h.1 hdg (G _ _ _ _ _ _ _ h.2 S)
theorem zlst_ok (X : zCx p l R s m args c cells slots own ml b cd base ad w tb D cA d) (S : zSim s base ad w tb D cA ml ls mm la H locs) (G : zGo p l e R s m args below meth c cells slots TQ ml base ad w tb D cA K) (hdg : decode b pc = .ok (.lastore, 1))
    (h : zlst pc ls st mm K) : W p l e R s m args below meth c H locs cells slots TQ (F0 m pc la (st.map (zcv ad w))) := by
  obtain ⟨⟨hx, hb, hml, hown, ho⟩, hts, hK, hSt, hAd, hbs, hdk, hTb, hw, hRm, hC⟩ := X
  obtain ⟨sl, sz, sP, sS, sW⟩ := id S
  unfold zlst at h
  have h' := h
  clear h
  match st, h' with
  | .long x :: .int i :: .ref q :: r, h =>
    dsimp only at h
    cases hz0 : Nat.beq (zsh q) 22 with
    | false => rw [hz0] at h; exact h.elim
    | true =>
      rw [hz0] at h
      have hz := Nat.eq_of_beq_eq_true hz0
      have hpl := zpl_of (p := q) (by omega)
      have he : (zws cA ad mm)[q - 20]? = some (ad q, .inl (cA 2, zlen q, .inr (.inl (gL mm q)))) := by rw [zws_get hpl, zen_22 hz]
      rw [List.map_cons, List.map_cons, List.map_cons, zcv_ne (p := q) (fun z => by have := hpl.1; omega)]
      refine va_last hx hb hK sP (hAd.d mm) sS (q - 20) 2 he rfl h.1 hdg (fun H1 locs1 hP1 _ hS1 => ?_)
      have e1 : zen cA ad (sL mm q i.toNatClampNeg x) q = .inl (cA 2, zlen q, .inr (.inl (vp_updL (gL mm q) i.toNatClampNeg x))) := by
        rw [zen_22 hz]
        congr 5
        funext j
        rw [gL_sL]
        unfold vp_updL
        by_cases hj : j = i.toNatClampNeg <;> simp [hj]
      rw [zws_set hpl e1 (fun q2 hq2 => zen_sL hq2)] at hP1
      exact G _ _ _ _ _ _ _ h.2 ⟨sl, sz, hP1, hS1, ⟨fun p hp j => sW.1 p hp j, fun p q2 hg => sW.2 p q2 hg⟩⟩
theorem zqld_ok (X : zCx p l R s m args c cells slots own ml b cd base ad w tb D cA d) (S : zSim s base ad w tb D cA ml ls mm la H locs) (G : zGo p l e R s m args below meth c cells slots TQ ml base ad w tb D cA K) (hdg : decode b pc = .ok (.aaload, 1))
    (h : zqld pc ls st mm K) : W p l e R s m args below meth c H locs cells slots TQ (F0 m pc la (st.map (zcv ad w))) := by
  obtain ⟨⟨hx, hb, hml, hown, ho⟩, hts, hK, hSt, hAd, hbs, hdk, hTb, hw, hRm, hC⟩ := X
  obtain ⟨sl, sz, sP, sS, sW⟩ := id S
  unfold zqld at h
  have h' := h
  clear h
  match st, h' with
  | .int i :: .ref q :: r, h =>
    dsimp only at h
    split at h
    · rename_i hz
      have hpl := zpl_of (p := q) (by omega)
      have he : (zws cA ad mm)[q - 20]? = some (ad q, .inl (cA 3, zlen q, .inr (.inr (.inr (.inr (fun j => some (ad (zrf q j)))))))) := by rw [zws_get hpl, zen_23 hz]
      rw [List.map_cons, List.map_cons, zcv_ne (p := q) (fun z => by have := hpl.1; omega)]
      have g := G _ _ _ _ _ _ _ h.2 S
      rw [List.map_cons, zcv_ne (zrf_ne _ _)] at g
      exact va_aldq hx hb hK sP (q - 20) 3 he rfl h.1 hdg g
    · rename_i hz
      have hpl := zpl_of (p := q) (by omega)
      have he : (zws cA ad mm)[q - 20]? = some (ad q, .inl (cA 4, zlen q, .inr (.inr (.inr (.inr (fun j => some (ad (zrf q j)))))))) := by rw [zws_get hpl, zen_24 hz]
      rw [List.map_cons, List.map_cons, zcv_ne (p := q) (fun z => by have := hpl.1; omega)]
      have g := G _ _ _ _ _ _ _ h.2 S
      rw [List.map_cons, zcv_ne (zrf_ne _ _)] at g
      exact va_aldq hx hb hK sP (q - 20) 4 he rfl h.1 hdg g
    · exact h.elim
theorem zaln_ok (X : zCx p l R s m args c cells slots own ml b cd base ad w tb D cA d) (S : zSim s base ad w tb D cA ml ls mm la H locs) (G : zGo p l e R s m args below meth c cells slots TQ ml base ad w tb D cA K) (hdg : decode b pc = .ok (.arraylength, 1))
    (h : zaln pc ls st mm K) : W p l e R s m args below meth c H locs cells slots TQ (F0 m pc la (st.map (zcv ad w))) := by
  obtain ⟨⟨hx, hb, hml, hown, ho⟩, hts, hK, hSt, hAd, hbs, hdk, hTb, hw, hRm, hC⟩ := X
  obtain ⟨sl, sz, sP, sS, sW⟩ := id S
  unfold zaln at h
  have h' := h
  clear h
  match st, h' with
  | .ref q :: r, h =>
    dsimp only at h
    split at h
    · rename_i hz
      have hpl := zpl_of (p := q) (by omega)
      have he : (zws cA ad mm)[q - 20]? = some (ad q, .inl (cA 0, zlen q, .inl (gI mm q))) := by rw [zws_get hpl, zen_20 hz]
      rw [List.map_cons, zcv_ne (p := q) (fun z => by have := hpl.1; omega)]
      exact va_alen hx hb hK sP (q - 20) 0 he (ty := .int) rfl rfl hdg (G _ _ _ _ _ _ _ h S)
    · rename_i hz
      have hqs : ∃ i : Nat, i < 7 ∧ q = 11 + i := by
        have h2 : ∀ q : Nat, q < 161 → zsh q = 51 → ∃ i : Nat, i < 7 ∧ q = 11 + i := by decide +kernel
        exact h2 q (Nat.lt_of_not_le fun z => by rw [zsh_hi z] at hz; cases hz) hz
      obtain ⟨k, hk, rfl⟩ := hqs
      have hlen : zlen (11 + k) = zslen.getD k 0 := (show ∀ k, k < 7 → zlen (11 + k) = zslen.getD k 0 by decide +kernel) k hk
      rw [List.map_cons, zcv_ne (p := 11 + k) (by omega)]
      obtain ⟨-, -, -, v4⟩ := hSt.2.1.1 k hk
      rw [hlen] at h
      exact va_tlen hx hb v4 sS rfl hdg (G _ _ _ _ _ _ _ h S)
    · rename_i hz
      have h1 : q = 0 := by
        have h2 : ∀ q, q < 161 → zsh q = 53 → q = 0 := by decide +kernel
        exact h2 q (Nat.lt_of_not_le fun z => by rw [zsh_hi z] at hz; cases hz) hz
      subst h1
      rw [sW.1 1 (by decide)] at h
      rw [List.map_cons, zcv_ne (p := 0) (by decide)]
      exact va_tlen hx hb hSt.1.1 sS hTb.1 hdg (G _ _ _ _ _ _ _ h S)
    · exact h.elim
theorem zi2_ok {f : Int32 → Int32 → List Value → Prop} (h : zi2 st f) : ∃ x y r, st = .int y :: .int x :: r ∧ f x y r := by
  unfold zi2 at h
  split at h
  · exact ⟨_, _, _, rfl, h⟩
  · exact h.elim
theorem zi1_ok {f : Int32 → List Value → Prop} (h : zi1 st f) : ∃ x r, st = .int x :: r ∧ f x r := by
  unfold zi1 at h
  split at h
  · exact ⟨_, _, rfl, h⟩
  · exact h.elim
theorem zj1_ok {f : Int64 → List Value → Prop} (h : zj1 st f) : ∃ x r, st = .long x :: r ∧ f x r := by
  unfold zj1 at h
  split at h
  · exact ⟨_, _, rfl, h⟩
  · exact h.elim
theorem zj2_ok {f : Int64 → Int64 → List Value → Prop} (h : zj2 st f) : ∃ x y r, st = .long y :: .long x :: r ∧ f x y r := by
  unfold zj2 at h
  split at h
  · exact ⟨_, _, _, rfl, h⟩
  · exact h.elim
theorem zji_ok {f : Int64 → Int32 → List Value → Prop} (h : zji st f) : ∃ x y r, st = .int y :: .long x :: r ∧ f x y r := by
  unfold zji at h
  split at h
  · exact ⟨_, _, _, rfl, h⟩
  · exact h.elim
end ZO
