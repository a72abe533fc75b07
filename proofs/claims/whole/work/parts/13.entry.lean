/-! every method's contract, d calls deep -/
theorem zpad_sz : ∀ (n : Nat) (ls : List Value), zsz ls ≤ n → zsz (zpad ls n) = n
  | 0, [], _ => rfl
  | 0, _ :: _, h => absurd h (Nat.not_succ_le_zero _)
  | n + 1, [], _ => congrArg (· + 1) (zpad_sz n [] (Nat.zero_le n))
  | n + 1, _ :: l, h => congrArg (· + 1) (zpad_sz n l (Nat.le_of_succ_le_succ h))
theorem zpad_get : ∀ (n : Nat) (ls : List Value) (i : Nat), zgd (zget (zpad ls n) i) = true → zget (zpad ls n) i = zget ls i
  | 0, _, _, _ => rfl
  | n + 1, [], 0, h => by cases h
  | n + 1, [], i + 1, h => by
    have h1 : zgd (zget (zpad [] n) i) = true := h
    have h2 := zpad_get n [] i h1
    rw [h2] at h1
    cases h1
  | n + 1, _ :: _, 0, _ => rfl
  | n + 1, _ :: l, i + 1, h => zpad_get n l i h
theorem zlg_len {ad : Nat → Nat} {w : Value} (hw : zWv w) : ∀ as : List Value, (lg_sl (as.map (zcv ad w))).length = zsz (zflat as)
  | [] => rfl
  | v :: as => by
    have ih := zlg_len (ad := ad) hw as
    rw [List.map_cons]
    unfold lg_sl at ih ⊢
    rw [List.flatMap_cons, List.length_append, ih, zcv_cat hw]
    have e1 : zflat (v :: as) = bif zlong v then v :: .retAddr 0 :: zflat as else v :: zflat as := rfl
    rw [e1]
    cases zlong v with
    | true =>
      show 2 + zsz (zflat as) = zsz (zflat as) + 1 + 1
      omega
    | false =>
      show 1 + zsz (zflat as) = zsz (zflat as) + 1
      omega
theorem zlv_args {ad : Nat → Nat} {w : Value} (hw : zWv w) : ∀ (as : List Value) (k i : Nat), zgd (zget (zflat as) i) = true → (k + i, zcv ad w (zget (zflat as) i)) ∈ lv_args k (as.map (zcv ad w))
  | [], _, _, h => by cases h
  | v :: as, k, i, h => by
    rw [List.map_cons]
    unfold lv_args
    rw [zcv_cat hw]
    unfold zflat at h ⊢
    cases hz : zlong v with
    | true =>
      rw [hz] at h
      simp only [cond_true] at h ⊢
      match i, h with
      | 0, _ => exact List.mem_cons_self
      | 1, h => cases h
      | i + 2, h =>
        refine List.mem_cons_of_mem _ ?_
        have h3 := zlv_args (ad := ad) hw as (k + 2) i h
        rw [show k + 2 + i = k + (i + 2) by omega] at h3
        exact h3
    | false =>
      rw [hz] at h
      simp only [cond_false] at h ⊢
      match i, h with
      | 0, _ => exact List.mem_cons_self
      | i + 1, h =>
        refine List.mem_cons_of_mem _ ?_
        have h3 := zlv_args (ad := ad) hw as (k + 1) i h
        rw [show k + 1 + i = k + (i + 1) by omega] at h3
        exact h3
theorem zentry {ad : Nat → Nat} {w : Value} (hw : zWv w) {as : List Value} {ml : Nat} (h : zsz (zflat as) ≤ ml) : zLo ad w (zpad (zflat as) ml) ((lg_sl (as.map (zcv ad w)) ++ List.replicate (ml - (lg_sl (as.map (zcv ad w))).length) Slot.unset).toArray) := by
  have e := lv_entry (as.map (zcv ad w)) (n := ml) (by rw [zlg_len hw]; exact h)
  refine ⟨by rw [zpad_sz _ _ h]; exact e.1, e.2.1, fun i hi => ?_⟩
  have h1 := zpad_get _ _ _ hi
  rw [h1] at hi ⊢
  have h2 := zlv_args (ad := ad) hw as 0 i hi
  rw [Nat.zero_add] at h2
  exact e.2.2 _ h2
theorem zCon_succ {l : Launch} {base : Nat} {ad : Nat → Nat} {w : Value} {tb : Nat → Nat → Int32} {D : va_G} {cA : Nat → ClassId} {d : Nat} (hAd : zAd base ad) (hTb : zTb tb) (hw : zWv w) (hC : zCon l base ad w tb D cA d) : zCon l base ad w tb D cA (d + 1) := by
  intro mi y b ml ret own st cd hr as mm Q hR
  unfold zCall at hR
  rw [hr] at hR
  obtain ⟨hsz, hrun⟩ := hR
  obtain ⟨z1, z2, z3, z4, z5, z6, z7, z8⟩ := zrow hr
  refine Met.ofW (cc := b) (maxL := ml) (ret := ret) z5 rfl ?_
  intro p e s m args below meth c s₁ B hml hv
  obtain ⟨rfl, hWo, hK, hSt, hbs, hLw⟩ := hv
  have hx := B.exec
  have hb := B.bytes
  have hret := B.returns
  have hts0 := atoms_spec (ws := Cond.code y b ml ret :: zgood) B.pre
  have hts : ∀ x ∈ zgood, x.before (as.map (zcv ad w)).toArray s = true := fun x h => hts0 x (List.mem_cons_of_mem _ h)
  have hown : s.vm.findClass (zcn own) = some m.cls := z6 ▸ findClass_of_methodNamed B.named
  have hlocks := B.notSynchronized
  have X : zCx p l (zrm (d + 1)) s m (as.map (zcv ad w)).toArray c 0 0 own ml b cd base ad w tb D cA d :=
    ⟨⟨hx, hb, hml, hown, (zrow_own hr).1⟩, hts, hK, hSt, hAd, hbs, zrow_dk hr, hTb, hw, ⟨Nat.le_refl _, Nat.le_refl _, Nat.le_refl _, Nat.le_refl _⟩, hC⟩
  have T : zRt p l e (zrm (d + 1)) s m (as.map (zcv ad w)).toArray below meth c 0 0 (MQ below (zQc base ad w tb D cA Q) (as.map (zcv ad w)).toArray s 0 0 (zA base)) b base ad w tb D cA ret Q := by
    intro pc la mm2 H locs hWo2 hS2 hLw2
    refine ⟨fun x hd h => ?_, fun x hd h => ?_, fun x hd h => ?_, fun hd h => ?_⟩
    · have key : Q (some (Value.int x)) mm2 → ∀ t : State, t.heap = H → s.WarmedH t.vm → zQc base ad w tb D cA Q (as.map (zcv ad w)).toArray s (.returned (some (.int x))) t := by
        intro hq t ht _
        exact ⟨_, _, hq, rfl, by rw [ht]; exact hWo2, hS2.F ht, hLw2⟩
      unfold zrn at h
      split at h
      · exact W.iret hx hb hret (key h) hS2.2.2 hd
      · exact W.zret (ty := .boolean) hx hb hret (congrArg Value.int h.1) (key h.2) hS2.2.2 hd
      · exact W.zret (ty := .char) hx hb hret (congrArg Value.int h.1) (key h.2) hS2.2.2 hd
      · exact W.zret (ty := .byte) hx hb hret (congrArg Value.int h.1) (key h.2) hS2.2.2 hd
      · exact h.elim
    · unfold zrnl at h
      split at h
      · have hq := h
        exact W.lret hx hb hret (fun t ht _ => ⟨_, _, hq, rfl, by rw [ht]; exact hWo2, hS2.F ht, hLw2⟩) hS2.2.2 hd
      · exact h.elim
    · unfold zrna at h
      split at h
      · have hq := h
        have hv : zcv ad w (.ref x) = .null ∨ ∃ a, zcv ad w (.ref x) = .ref a := by
          have e1 : zcv ad w (.ref x) = if x = 18 then w else .ref (ad x) := rfl
          rw [e1]
          by_cases hx18 : x = 18
          · rw [if_pos hx18]
            exact hw
          · rw [if_neg hx18]
            exact Or.inr ⟨_, rfl⟩
        exact W.aret hx hb hret (Or.inl ⟨_, rfl⟩) hv (fun t ht _ => ⟨_, _, hq, rfl, by rw [ht]; exact hWo2, hS2.F ht, hLw2⟩) hS2.2.2 hd
      · exact h.elim
    · unfold zrnv at h
      split at h
      · have hq := h
        exact W.vret hx hb hret (fun t ht _ => ⟨_, _, hq, rfl, by rw [ht]; exact hWo2, hS2.F ht, hLw2⟩) hS2.2.2 hd
      · exact h.elim
  rw [lg_entry_eq]
  exact zrun_ok X T (zrow_of hr) 0 _ [] mm _ s.heap [] hrun ⟨zentry hw hsz, zpad_sz _ _ hsz, hWo, va_S.rf, hLw⟩
theorem zCon_all {l : Launch} {base : Nat} {ad : Nat → Nat} {w : Value} {tb : Nat → Nat → Int32} {D : va_G} {cA : Nat → ClassId} (hAd : zAd base ad) (hTb : zTb tb) (hw : zWv w) : ∀ d, zCon l base ad w tb D cA d
  | 0 => fun _ _ _ _ _ _ _ _ _ _ _ _ h => h.elim
  | d + 1 => zCon_succ hAd hTb hw (zCon_all hAd hTb hw d)
