/-! fields and arrays: the rows of the simulation -/
theorem zne0 : (0 : Nat) ≠ 18 := by decide
theorem zbif_ne {c : Bool} {a b : Nat} (ha : a ≠ 18) (hb : b ≠ 18) : (bif c then a else b) ≠ 18 := by cases c; exact hb; exact ha
theorem zln_ne : ∀ (l : List Nat), l.all (fun a => !Nat.beq a 18) = true → ∀ k, zln l k ≠ 18
  | [], _, _ => by unfold zln; decide
  | a :: l, h, 0 => by
    rw [List.all_cons, Bool.and_eq_true] at h
    show a ≠ 18
    intro e
    rw [e] at h
    exact absurd h.1 (by decide)
  | a :: l, h, k + 1 => by
    rw [List.all_cons, Bool.and_eq_true] at h
    exact zln_ne l h.2 k
theorem zrf_ne (p k : Nat) : zrf p k ≠ 18 := by
  unfold zrf
  exact (zbif_ne (zbif_ne (zbif_ne (zbif_ne (zbif_ne (zbif_ne zne0 (zbif_ne (zbif_ne zne0 (zln_ne _ (by decide +kernel) k)) (zln_ne _ (by decide +kernel) k))) (zbif_ne (zbif_ne (zbif_ne (zln_ne _ (by decide +kernel) k) (zln_ne _ (by decide +kernel) k)) (zln_ne _ (by decide +kernel) k)) (zbif_ne (zln_ne _ (by decide +kernel) k) (zln_ne _ (by decide +kernel) k)))) (zbif_ne zne0 (zbif_ne zne0 (zbif_ne zne0 (zln_ne _ (by decide +kernel) k))))) (zbif_ne (zbif_ne (zbif_ne (zbif_ne (zbif_ne (zln_ne _ (by decide +kernel) k) zne0) zne0) zne0) (zbif_ne (zbif_ne (zbif_ne zne0 (zln_ne _ (by decide +kernel) k)) zne0) (zbif_ne (zln_ne _ (by decide +kernel) k) zne0))) (zbif_ne (zbif_ne (zbif_ne (zbif_ne (zln_ne _ (by decide +kernel) k) zne0) (zln_ne _ (by decide +kernel) k)) zne0) (zbif_ne zne0 (zbif_ne (zln_ne _ (by decide +kernel) k) zne0))))) (zbif_ne (zbif_ne (zbif_ne (zbif_ne (zbif_ne (zbif_ne (zln_ne _ (by decide +kernel) k) zne0) (zln_ne _ (by decide +kernel) k)) (zbif_ne zne0 (zln_ne _ (by decide +kernel) k))) zne0) (zbif_ne (zbif_ne (zbif_ne (zbif_ne (zln_ne _ (by decide +kernel) k) zne0) (zln_ne _ (by decide +kernel) k)) (zbif_ne zne0 (zln_ne _ (by decide +kernel) k))) (zbif_ne (zbif_ne (zbif_ne zne0 (by omega)) (zln_ne _ (by decide +kernel) k)) zne0))) (zbif_ne (zbif_ne (zbif_ne (zbif_ne zne0 (zln_ne _ (by decide +kernel) k)) zne0) (zbif_ne (zbif_ne zne0 (zln_ne _ (by decide +kernel) k)) zne0)) (zbif_ne (zbif_ne (zbif_ne zne0 (zln_ne _ (by decide +kernel) k)) zne0) (zbif_ne (zbif_ne zne0 (zln_ne _ (by decide +kernel) k)) zne0))))) (zbif_ne (zbif_ne (zbif_ne (zbif_ne (zbif_ne (zbif_ne zne0 (zln_ne _ (by decide +kernel) k)) zne0) (zbif_ne (zbif_ne (zbif_ne zne0 (zln_ne _ (by decide +kernel) k)) zne0) (zbif_ne (zln_ne _ (by decide +kernel) k) zne0))) (zbif_ne (zbif_ne (zbif_ne (zbif_ne (zln_ne _ (by decide +kernel) k) zne0) zne0) zne0) (zbif_ne (zbif_ne (zbif_ne zne0 (zln_ne _ (by decide +kernel) k)) zne0) (zbif_ne (by omega) (zln_ne _ (by decide +kernel) k))))) (zbif_ne (zbif_ne (zbif_ne (zbif_ne (zbif_ne zne0 (zln_ne _ (by decide +kernel) k)) zne0) (zbif_ne (zln_ne _ (by decide +kernel) k) zne0)) (zbif_ne (zbif_ne (zbif_ne (zln_ne _ (by decide +kernel) k) zne0) (zln_ne _ (by decide +kernel) k)) (zbif_ne zne0 (zln_ne _ (by decide +kernel) k)))) (zbif_ne (zbif_ne (zbif_ne (zbif_ne zne0 (zln_ne _ (by decide +kernel) k)) zne0) zne0) zne0))) zne0))
theorem zcv_ne {ad : Nat → Nat} {w : Value} {p : Nat} (h : p ≠ 18) : zcv ad w (.ref p) = .ref (ad p) := if_neg h
theorem zsh_ne {p : Nat} (h : zsh p ≠ 54) : p ≠ 18 := fun e => h (by rw [e]; rfl)
theorem zfd {o idx ci k ty : Nat} (ho : o < 16) (h : zl4 (zft o) idx = some (ci, k, ty)) (hc : ci ≠ 50) : ∃ q, vwCl[ci]? = some q ∧ k < q.2.2 ∧ Cond.fieldLink (zcn o) idx (q.2.1 k).1 (q.2.1 k).2.1 (q.2.1 k).2.2.1 ∈ zgood ∧ (zfk ci)[k]? = some ty ∧ ty ≠ 5 ∧ (ty = 1 ∨ ty = 6 ∨ (q.2.1 k).2.2.2 = false) ∧
    ∃ ft, parseFieldDescriptor (q.2.1 k).2.2.1 = some ft ∧ ((ft = .int ∧ (ty = 0 ∨ ty = 6)) ∨ (ft = .boolean ∧ ty = 3) ∨ (∃ n, ft = .object n ∧ (ty = 1 ∨ ty = 2)) ∨ ((∃ t, ft = .array t) ∧ ty = 1)) := by
  obtain ⟨w, hw⟩ := zfield ho h
  unfold zfok at hw
  dsimp only at hw
  rw [if_neg hc] at hw
  cases hq : vwCl[ci]? with
  | none => rw [hq] at hw; cases hw
  | some q =>
    rw [hq] at hw
    dsimp only at hw
    simp only [Bool.and_eq_true, Bool.or_eq_true, decide_eq_true_eq, Bool.not_eq_true'] at hw
    obtain ⟨⟨⟨⟨⟨h1, h2⟩, h3⟩, h4⟩, h5⟩, h6⟩ := hw
    refine ⟨q, rfl, Nat.le_of_ble_eq_true h1, zhas_in h2, h3, h4, ?_, ?_⟩
    · rcases h5 with (h5 | h5) | h5
      · exact Or.inl h5
      · exact Or.inr (Or.inl h5)
      · exact Or.inr (Or.inr h5)
    · cases hd : parseFieldDescriptor (q.2.1 k).2.2.1 with
      | none => rw [hd] at h6; cases h6
      | some ft =>
        rw [hd] at h6
        refine ⟨ft, rfl, ?_⟩
        cases ft with
        | int => simp at h6; exact Or.inl ⟨rfl, h6⟩
        | boolean => simp at h6; exact Or.inr (Or.inl ⟨rfl, h6⟩)
        | object n => simp at h6; exact Or.inr (Or.inr (Or.inl ⟨n, rfl, h6⟩))
        | array t => simp at h6; exact Or.inr (Or.inr (Or.inr ⟨⟨t, rfl⟩, h6⟩))
        | _ => simp at h6
theorem zvw {ci : Nat} {q : vw_C} (h : vwCl[ci]? = some q) : ci < 10 ∧ (∀ w ∈ u_ws q.1 q.2.1 q.2.2, w ∈ zgood) ∧ (∃ tyf : Nat → FieldType, ∀ k, k < q.2.2 → parseFieldDescriptor (q.2.1 k).2.2.1 = some (tyf k)) ∧ (∀ a, a < q.2.2 → ∀ b, b < q.2.2 → a ≠ b → (q.2.1 a).2.1 ≠ (q.2.1 b).2.1) ∧ q.1 = zcn ci := by
  match ci, h with
  | 0, h => cases h; exact ⟨by decide, zlay_0, ⟨tyX0, tyX0_ok⟩, nmX0, rfl⟩
  | 1, h => cases h; exact ⟨by decide, zlay_1, ⟨tyX1, tyX1_ok⟩, nmX1, rfl⟩
  | 2, h => cases h; exact ⟨by decide, zlay_2, ⟨tyX2, tyX2_ok⟩, nmX2, rfl⟩
  | 3, h => cases h; exact ⟨by decide, zlay_3, ⟨tyX3, tyX3_ok⟩, nmX3, rfl⟩
  | 4, h => cases h; exact ⟨by decide, zlay_4, ⟨tyX4, tyX4_ok⟩, nmX4, rfl⟩
  | 5, h => cases h; exact ⟨by decide, zlay_5, ⟨tyX5, tyX5_ok⟩, nmX5, rfl⟩
  | 6, h => cases h; exact ⟨by decide, zlay_6, ⟨tyX6, tyX6_ok⟩, nmX6, rfl⟩
  | 7, h => cases h; exact ⟨by decide, zlay_7, ⟨tyX7, tyX7_ok⟩, nmX7, rfl⟩
  | 8, h => cases h; exact ⟨by decide, zlay_8, ⟨tyX8, tyX8_ok⟩, nmX8, rfl⟩
  | 9, h => cases h; exact ⟨by decide, zlay_9, ⟨tyX9, tyX9_ok⟩, nmX9, rfl⟩
  | n + 10, h => simp [vwCl] at h
section ZF
variable {p : Program} {l : Launch} {e : Env} {R : Room} {s : State} {m : MethodId} {args : Array Value} {below : List Frame} {meth : Method} {c : Code} {cells slots : Nat} {TQ : State → Prop}
variable {own ml : Nat} {b : ByteArray} {cd : List (Nat × Instr)} {base : Nat} {ad : Nat → Nat} {w : Value} {tb : Nat → Nat → Int32} {D : va_G} {cA : Nat → ClassId} {d : Nat}
variable {pc : Nat} {ls st : List Value} {mm : zM} {Q : zQ} {K : zK} {H : Heap} {locs : List Loc} {la : Array Slot}
theorem zgf_ok (X : zCx p l R s m args c cells slots own ml b cd base ad w tb D cA d) (S : zSim s base ad w tb D cA ml ls mm la H locs) (G : zGo p l e R s m args below meth c cells slots TQ ml base ad w tb D cA K) {idx : Nat} (hdg : decode b pc = .ok (.getfield idx, 3))
    (h : zgf own idx pc ls st mm K) : W p l e R s m args below meth c H locs cells slots TQ (F0 m pc la (st.map (zcv ad w))) := by
  obtain ⟨⟨hx, hb, hml, hown, ho⟩, hts, hK, hSt, hAd, hbs, hdk, hTb, hw, hRm, hC⟩ := X
  obtain ⟨sl, sz, sP, sS, sW⟩ := id S
  unfold zgf at h
  cases hf : zl4 (zft own) idx with
  | none => rw [hf] at h; exact h.elim
  | some t =>
    obtain ⟨ci, k, ty⟩ := t
    rw [hf] at h
    match st, h with
    | .ref q :: r, h =>
      dsimp only at h
      cases hs : Nat.beq (zsh q) ci with
      | false => rw [hs] at h; exact h.elim
      | true =>
        rw [hs] at h
        have hs2 : zsh q = ci := Nat.eq_of_beq_eq_true hs
        dsimp only [cond_true] at h
        by_cases h50 : ci = 50
        · subst h50
          have hq18 : q ≠ 18 := zsh_ne (by rw [hs2]; decide)
          obtain ⟨wd, hwd⟩ := zfield ho hf
          unfold zfok at hwd
          dsimp only at hwd
          rw [if_pos rfl] at hwd
          have hqs : ∃ i, i < 7 ∧ q = 4 + i := by
            have h1 : ¬ 161 ≤ q := fun z => by rw [zsh_hi z] at hs2; cases hs2
            have h2 : ∀ q, q < 161 → zsh q = 50 → ∃ i, i < 7 ∧ q = 4 + i := by decide +kernel
            exact h2 q (Nat.lt_of_not_le h1) hs2
          obtain ⟨i, hi, rfl⟩ := hqs
          rw [List.map_cons, zcv_ne hq18]
          obtain ⟨-, ⟨hV, -⟩, -⟩ := hSt
          obtain ⟨-, v2, v3, -⟩ := hV i hi
          by_cases hk0 : k = 0
          · subst hk0
            simp only [if_true, Bool.and_eq_true, decide_eq_true_eq] at hwd
            obtain ⟨rfl, hwd⟩ := hwd
            have hz : zrf (4 + i) 0 = 11 + i := (show ∀ i, i < 7 → zrf (4 + i) 0 = 11 + i by decide +kernel) i hi
            have g := G _ _ _ _ _ _ _ h S
            rw [List.map_cons, zcv_ne (zrf_ne _ _), hz] at g
            exact vk_getf hx hb v3 sS hown (hts _ (zhas_in hwd)) (fun _ h9 => h9) hdg g
          · simp only [if_neg hk0, Bool.and_eq_true, decide_eq_true_eq] at hwd
            obtain ⟨⟨rfl, rfl⟩, hwd⟩ := hwd
            have g := G _ _ _ _ _ _ _ h S
            exact vk_getf hx hb v2 sS hown (hts _ (zhas_in hwd)) (fun _ h9 => h9) hdg g
        · obtain ⟨⟨C, T, N⟩, hq, hkN, hlk, hkt, h5, -, -⟩ := zfd ho hf h50
          obtain ⟨hci, hin, -, -, -⟩ := zvw hq
          have hq18 : q ≠ 18 := zsh_ne (by rw [hs2]; omega)
          have hpl := zpl_of (p := q) (by omega)
          have he : (zws cA ad mm)[q - 20]? = some (ad q, .inr (ci, zfv ad mm q 0 (zfk ci))) := by rw [zws_get hpl, zen_obj hs2 hci]
          have hv : (zfv ad mm q 0 (zfk ci))[k]? = some (zf1 ad mm q k ty) := by rw [zfv_get, hkt, Nat.zero_add]; rfl
          rw [List.map_cons, zcv_ne hq18]
          refine va_get (ref := (T k).1) hx hb hts hin hown hK sP (q - 20) he hq k hkN (hts _ hlk) (fun _ h9 => h9) hv hdg ?_
          match ty, h with
          | 0, h => exact G _ _ _ _ _ _ _ h S
          | 1, h =>
            have g := G _ _ _ _ _ _ _ h S
            rw [List.map_cons, zcv_ne (zrf_ne _ _)] at g
            exact g
          | 2, h =>
            cases hg : gG mm q with
            | none =>
              have g := G _ _ _ _ _ _ _ (h.2 hg) S
              show W p l e R s m args below meth c H locs cells slots TQ (F0 m (pc + 3) la (va_rf ((gG mm q).map ad) :: _))
              rw [hg]
              exact g
            | some q2 =>
              have g := G _ _ _ _ _ _ _ (h.1 q2 hg) S
              rw [List.map_cons, zcv_ne (zsh_ne (by rw [sW.2 q q2 hg]; decide))] at g
              show W p l e R s m args below meth c H locs cells slots TQ (F0 m (pc + 3) la (va_rf ((gG mm q).map ad) :: _))
              rw [hg]
              exact g
          | 3, h => exact G _ _ _ _ _ _ _ h S
          | 6, h => exact G _ _ _ _ _ _ _ h S
          | 5, h => exact absurd rfl h5
theorem zpf_ok (X : zCx p l R s m args c cells slots own ml b cd base ad w tb D cA d) (S : zSim s base ad w tb D cA ml ls mm la H locs) (G : zGo p l e R s m args below meth c cells slots TQ ml base ad w tb D cA K) {idx : Nat} (hdg : decode b pc = .ok (.putfield idx, 3))
    (h : zpf own idx pc ls st mm K) : W p l e R s m args below meth c H locs cells slots TQ (F0 m pc la (st.map (zcv ad w))) := by
  obtain ⟨⟨hx, hb, hml, hown, ho⟩, hts, hK, hSt, hAd, hbs, hdk, hTb, hw, hRm, hC⟩ := X
  obtain ⟨sl, sz, sP, sS, sW⟩ := id S
  have key : ∀ {ci k ty q : Nat} {v : Value} {m' : zM} {r : List Value}, zl4 (zft own) idx = some (ci, k, ty) → zsh q = ci → ty ≠ 1 → ty ≠ 6 → ty ≠ 5 → ci ≠ 50 →
      (∀ ft, ((ft = FieldType.int ∧ (ty = 0 ∨ ty = 6)) ∨ (ft = .boolean ∧ ty = 3) ∨ (∃ n, ft = .object n ∧ (ty = 1 ∨ ty = 2)) ∨ ((∃ t, ft = .array t) ∧ ty = 1)) → narrow ft v = v ∧ fits ft v = true) →
      zf1 ad m' q k ty = v → (∀ j t, j ≠ k → (zfk ci)[j]? = some t → zf1 ad m' q j t = zf1 ad mm q j t) → (∀ q2, q2 ≠ q → zen cA ad m' q2 = zen cA ad mm q2) → zLw tb m' → K (pc + 3) ls r m' →
      W p l e R s m args below meth c H locs cells slots TQ (F0 m pc la (v :: .ref (ad q) :: r.map (zcv ad w))) := by
    intro ci k ty q v m' r hf hs2 n1 n6 n5 n50 hnf hv hj hq2 hlw hK'
    obtain ⟨⟨C, T, N⟩, hq, hkN, hlk, hkt, h5, hfin, ft, hft, hcase⟩ := zfd ho hf n50
    obtain ⟨hci, hin, ⟨tyf, htyf⟩, hnm, -⟩ := zvw hq
    have hpl := zpl_of (p := q) (by omega)
    have he : (zws cA ad mm)[q - 20]? = some (ad q, .inr (ci, zfv ad mm q 0 (zfk ci))) := by rw [zws_get hpl, zen_obj hs2 hci]
    have hfin2 : (T k).2.2.2 = false := by
      rcases hfin with z | z | z
      · exact absurd z n1
      · exact absurd z n6
      · exact z
    have hkl : k < (zfv ad mm q 0 (zfk ci)).length := by rw [zfv_len]; exact (List.getElem?_eq_some_iff.mp hkt).1
    refine va_put (ref := (T k).1) hx hb hts hin tyf htyf hnm hown hK sP (hAd.d mm) sS (q - 20) he hq k hkN (hts _ hlk) (fun _ h9 => h9) hfin2 hft (hnf ft hcase).1 (hnf ft hcase).2 hkl hdg (fun H1 locs1 hP1 _ hS1 => ?_)
    have hset : (zfv ad mm q 0 (zfk ci)).set k v = zfv ad m' q 0 (zfk ci) := zfv_set 0 _ hkt (by rw [Nat.zero_add]; exact hv) (fun j t hjk hjt => by rw [Nat.zero_add]; exact hj j t hjk hjt)
    rw [hset, zws_set hpl (zen_obj (m := m') hs2 hci) hq2] at hP1
    exact G _ _ _ _ _ _ _ hK' ⟨sl, sz, hP1, hS1, hlw⟩
  have lowI : ∀ {q k : Nat} {x : Int32}, 20 ≤ q → zLw tb (sI mm q k x) := fun {q k x} hq => ⟨fun p hp j => by rw [gI_sI, if_neg (fun z => by omega)]; exact sW.1 p hp j, fun p q2 hg => sW.2 p q2 hg⟩
  have f1I : ∀ {q k j t : Nat} {x : Int32}, j ≠ k → zf1 ad (sI mm q k x) q j t = zf1 ad mm q j t := by
    intro q k j t x hjk
    unfold zf1
    split
    · rfl
    · rfl
    · rw [gI_sI, if_neg (fun z => hjk z.2)]
  unfold zpf at h
  cases hf : zl4 (zft own) idx with
  | none => rw [hf] at h; exact h.elim
  | some t =>
    obtain ⟨ci, k, ty⟩ := t
    rw [hf] at h
    have h' := h
    clear h
    match st, h' with
    | .int x :: .ref q :: r, h =>
      dsimp only at h
      cases hs : Nat.beq (zsh q) ci with
      | false => rw [hs] at h; exact h.elim
      | true =>
        rw [hs] at h
        have hs2 : zsh q = ci := Nat.eq_of_beq_eq_true hs
        dsimp only [cond_true] at h
        have hf' := hf
        match ty, h, hf' with
        | 0, h, hf' =>
          have n50 : ci ≠ 50 := by
            rintro rfl
            obtain ⟨wd, hwd⟩ := zfield ho hf'
            unfold zfok at hwd
            dsimp only at hwd
            rw [if_pos rfl] at hwd
            by_cases hk0 : k = 0 <;> simp [hk0] at hwd
          obtain ⟨_, hq, -⟩ := zfd ho hf' n50
          have hpl := zpl_of (p := q) (by have := (zvw hq).1; omega)
          rw [List.map_cons, List.map_cons, zcv_ne (p := q) (fun z => by have := hpl.1; omega)]
          refine key (v := .int x) (m' := sI mm q k x) hf' hs2 (by decide) (by decide) (by decide) n50 (fun ft hc => ?_) ?_ (fun j t hjk _ => f1I hjk) (fun q2 hq2 => zen_sI hq2) (lowI hpl.1) h
          · rcases hc with ⟨rfl, -⟩ | ⟨rfl, hc⟩ | ⟨n, rfl, hc⟩ | ⟨-, hc⟩
            · exact ⟨rfl, rfl⟩
            · cases hc
            · rcases hc with hc | hc <;> cases hc
            · cases hc
          · show Value.int (gI (sI mm q k x) q k) = _
            rw [gI_sI, if_pos ⟨rfl, rfl⟩]
        | 3, h, hf' =>
          have n50 : ci ≠ 50 := by
            rintro rfl
            obtain ⟨wd, hwd⟩ := zfield ho hf'
            unfold zfok at hwd
            dsimp only at hwd
            rw [if_pos rfl] at hwd
            by_cases hk0 : k = 0 <;> simp [hk0] at hwd
          obtain ⟨_, hq, -⟩ := zfd ho hf' n50
          have hpl := zpl_of (p := q) (by have := (zvw hq).1; omega)
          rw [List.map_cons, List.map_cons, zcv_ne (p := q) (fun z => by have := hpl.1; omega)]
          refine key (v := .int x) (m' := sI mm q k x) hf' hs2 (by decide) (by decide) (by decide) n50 (fun ft hc => ?_) ?_ (fun j t hjk _ => f1I hjk) (fun q2 hq2 => zen_sI hq2) (lowI hpl.1) h.2
          · rcases hc with ⟨rfl, hc⟩ | ⟨rfl, -⟩ | ⟨n, rfl, hc⟩ | ⟨-, hc⟩
            · rcases hc with hc | hc <;> cases hc
            · rcases h.1 with rfl | rfl <;> exact ⟨rfl, rfl⟩
            · rcases hc with hc | hc <;> cases hc
            · cases hc
          · show Value.int (gI (sI mm q k x) q k) = _
            rw [gI_sI, if_pos ⟨rfl, rfl⟩]
    | .ref q2 :: .ref q :: r, h =>
      dsimp only at h
      cases hs : Nat.beq (zsh q) ci with
      | false => rw [hs] at h; exact h.elim
      | true =>
        rw [hs] at h
        have hs2 : zsh q = ci := Nat.eq_of_beq_eq_true hs
        dsimp only [cond_true] at h
        cases ht : Nat.beq ty 2 && Nat.beq (zsh q2) 1 with
        | false => rw [ht] at h; exact h.elim
        | true =>
          rw [ht] at h
          rw [Bool.and_eq_true] at ht
          have ht1 : ty = 2 := Nat.eq_of_beq_eq_true ht.1
          have ht2 : zsh q2 = 1 := Nat.eq_of_beq_eq_true ht.2
          subst ht1
          have n50 : ci ≠ 50 := by
            rintro rfl
            obtain ⟨wd, hwd⟩ := zfield ho hf
            unfold zfok at hwd
            dsimp only at hwd
            rw [if_pos rfl] at hwd
            by_cases hk0 : k = 0 <;> simp [hk0] at hwd
          obtain ⟨_, hq, -⟩ := zfd ho hf n50
          have hpl := zpl_of (p := q) (by have := (zvw hq).1; omega)
          rw [List.map_cons, List.map_cons, zcv_ne (p := q) (fun z => by have := hpl.1; omega), zcv_ne (p := q2) (zsh_ne (by rw [ht2]; decide))]
          refine key (v := .ref (ad q2)) (m' := sG mm q (some q2)) hf hs2 (by decide) (by decide) (by decide) n50 (fun ft hc => ?_) ?_ (fun j t hjk hjt => ?_) (fun q3 hq3 => zen_sG hq3) ⟨fun p hp j => sW.1 p hp j, fun p q3 hg => ?_⟩ h
          · rcases hc with ⟨rfl, hc⟩ | ⟨rfl, hc⟩ | ⟨n, rfl, -⟩ | ⟨-, hc⟩
            · rcases hc with hc | hc <;> cases hc
            · cases hc
            · exact ⟨rfl, rfl⟩
            · cases hc
          · show va_rf ((gG (sG mm q (some q2)) q).map ad) = _
            rw [gG_sG, if_pos rfl]
            rfl
          · unfold zf1
            split
            · rfl
            · exfalso
              obtain ⟨_, hq9, _, _, hkt, _⟩ := zfd ho hf n50
              have hlt := (zvw hq9).1
              have : ∀ ci, ci < 10 → ∀ j, j < 70 → (zfk ci)[j]? = some 2 → j = (if ci = 3 then 7 else 3) := by decide +kernel
              have hl : ∀ ci, ci < 10 → (zfk ci).length ≤ 70 := by decide +kernel
              have h1 := (List.getElem?_eq_some_iff.mp hjt).1
              have h2 := (List.getElem?_eq_some_iff.mp hkt).1
              have h3 := hl ci hlt
              exact hjk ((this ci hlt j (by omega) hjt).trans (this ci hlt k (by omega) hkt).symm)
            · rfl
          · rw [gG_sG] at hg
            by_cases e : p = q
            · rw [if_pos e] at hg
              cases hg
              exact ht2
            · rw [if_neg e] at hg
              exact sW.2 p q3 hg
    | .null :: .ref q :: r, h =>
      dsimp only at h
      cases hs : Nat.beq (zsh q) ci with
      | false => rw [hs] at h; exact h.elim
      | true =>
        rw [hs] at h
        have hs2 : zsh q = ci := Nat.eq_of_beq_eq_true hs
        dsimp only [cond_true] at h
        cases ht : Nat.beq ty 2 with
        | false => rw [ht] at h; exact h.elim
        | true =>
          rw [ht] at h
          have ht1 : ty = 2 := Nat.eq_of_beq_eq_true ht
          subst ht1
          have n50 : ci ≠ 50 := by
            rintro rfl
            obtain ⟨wd, hwd⟩ := zfield ho hf
            unfold zfok at hwd
            dsimp only at hwd
            rw [if_pos rfl] at hwd
            by_cases hk0 : k = 0 <;> simp [hk0] at hwd
          obtain ⟨_, hq, -⟩ := zfd ho hf n50
          have hpl := zpl_of (p := q) (by have := (zvw hq).1; omega)
          rw [List.map_cons, List.map_cons, zcv_ne (p := q) (fun z => by have := hpl.1; omega)]
          refine key (v := .null) (m' := sG mm q none) hf hs2 (by decide) (by decide) (by decide) n50 (fun ft hc => ?_) ?_ (fun j t hjk hjt => ?_) (fun q3 hq3 => zen_sG hq3) ⟨fun p hp j => sW.1 p hp j, fun p q3 hg => ?_⟩ h
          · rcases hc with ⟨rfl, hc⟩ | ⟨rfl, hc⟩ | ⟨n, rfl, -⟩ | ⟨-, hc⟩
            · rcases hc with hc | hc <;> cases hc
            · cases hc
            · exact ⟨rfl, rfl⟩
            · cases hc
          · show va_rf ((gG (sG mm q none) q).map ad) = _
            rw [gG_sG, if_pos rfl]
            rfl
          · unfold zf1
            split
            · rfl
            · exfalso
              obtain ⟨_, hq9, _, _, hkt, _⟩ := zfd ho hf n50
              have hlt := (zvw hq9).1
              have : ∀ ci, ci < 10 → ∀ j, j < 70 → (zfk ci)[j]? = some 2 → j = (if ci = 3 then 7 else 3) := by decide +kernel
              have hl : ∀ ci, ci < 10 → (zfk ci).length ≤ 70 := by decide +kernel
              have h1 := (List.getElem?_eq_some_iff.mp hjt).1
              have h2 := (List.getElem?_eq_some_iff.mp hkt).1
              have h3 := hl ci hlt
              exact hjk ((this ci hlt j (by omega) hjt).trans (this ci hlt k (by omega) hkt).symm)
            · rfl
          · rw [gG_sG] at hg
            by_cases e : p = q
            · rw [if_pos e] at hg
              cases hg
            · rw [if_neg e] at hg
              exact sW.2 p q3 hg
end ZF
