/-! what the reader that descends finds, the pile finds -/
section
variable {tx : Nat → Nat} {n : Nat}
theorem mR_open {c : Nat} {k : Nat} {W : List Nat} {a : Nat} {o : List Nat} {res : Option (List Nat)} {e : Nat} (hc : c = 33 ∨ c = 40) (h : pI tx n c a = true) (h4 : mOp W ≠ 4) (hm : mR tx n k true (c :: W) (a + 1) o res e) : mR tx n (k + 1) true W a o res e := by
  unfold mR
  rcases hc with rfl | rfl
  · rw [if_pos h, if_neg h4]; exact hm
  · rw [if_neg (by rw [pI_ne h (by decide)]; decide), if_pos h, if_neg h4]; exact hm
theorem mR_full {c : Nat} {W : List Nat} {a : Nat} {o : List Nat} (hc : c = 33 ∨ c = 40) (h : pI tx n c a = true) (h4 : mOp W = 4) : mR tx n 1 true W a o none a := by
  unfold mR
  rcases hc with rfl | rfl
  · rw [if_pos h, if_pos h4]; exact ⟨rfl, rfl⟩
  · rw [if_neg (by rw [pI_ne h (by decide)]; decide), if_pos h, if_pos h4]; exact ⟨rfl, rfl⟩
theorem mR_bad {W : List Nat} {a e : Nat} {o : List Nat} (h1 : ¬ pI tx n 33 a = true) (h2 : ¬ pI tx n 40 a = true) (h : pTest tx n a = (none, e)) : mR tx n 1 true W a o none e := by
  unfold mR
  rw [if_neg h1, if_neg h2, h]
  exact ⟨rfl, rfl⟩
theorem mR_test {k : Nat} {W : List Nat} {a e e2 : Nat} {o x : List Nat} {res : Option (List Nat)} (h1 : ¬ pI tx n 33 a = true) (h2 : ¬ pI tx n 40 a = true) (h : pTest tx n a = (some x, e)) (hm : mR tx n k false (mWh W (o ++ x)).1 e (mWh W (o ++ x)).2 res e2) : mR tx n (k + 1) true W a o res e2 := by
  unfold mR
  rw [if_neg h1, if_neg h2, h]
  exact hm
/-- a reader of parts and the pile agree, where so many may still be opened -/
def sim (tx : Nat → Nat) (n r : Nat) (p : Nat → zP) : Prop := ∀ a, a ≤ n → match p a with
  | (some x, e) => ∀ W o res e2, mOp W + r = 4 → (∃ k, mR tx n k false (mWh W (o ++ x)).1 e (mWh W (o ++ x)).2 res e2) → ∃ k, mR tx n k true W a o res e2
  | (none, e) => ∀ W o, mOp W + r = 4 → ∃ k, mR tx n k true W a o none e
theorem sim_s {r : Nat} {p : Nat → zP} (h : sim tx n r p) {a : Nat} (ha : a ≤ n) {x : List Nat} {e : Nat} (hp : p a = (some x, e)) {W o : List Nat} {res : Option (List Nat)} {e2 : Nat} (hW : mOp W + r = 4) (hm : ∃ k, mR tx n k false (mWh W (o ++ x)).1 e (mWh W (o ++ x)).2 res e2) : ∃ k, mR tx n k true W a o res e2 := by
  have := h a ha
  rw [hp] at this
  exact this W o res e2 hW hm
theorem sim_n {r : Nat} {p : Nat → zP} (h : sim tx n r p) {a : Nat} (ha : a ≤ n) {e : Nat} (hp : p a = (none, e)) {W o : List Nat} (hW : mOp W + r = 4) : ∃ k, mR tx n k true W a o none e := by
  have := h a ha
  rw [hp] at this
  exact this W o hW
/-- the top of the pile is none of these -/
def hd (l : List Nat) : List Nat → Prop
  | [] => True
  | c :: _ => c ∉ l
theorem mWh_hd {W : List Nat} (h : hd [33] W) (o : List Nat) : mWh W o = (W, o) := by
  match W, h with
  | [], _ => rfl
  | c :: W, h =>
    unfold mWh
    exact if_neg (fun z => h (by rw [z]; simp))
theorem mSet_hd {s : Nat} {W : List Nat} (h : hd [38, 124] W) (o : List Nat) : mSet s W o = (W, o) := by
  match W, h with
  | [], _ => rfl
  | c :: W, h =>
    unfold mSet
    rw [if_neg (fun z => h (by rw [z]; simp)), if_neg (fun z => h (by rw [z]; simp))]
theorem mSet_a {W : List Nat} (h : hd [38] W) (o : List Nat) : mSet 38 W o = (W, o) := by
  match W, h with
  | [], _ => rfl
  | c :: W, h =>
    unfold mSet
    rw [if_neg (fun z => h (by rw [z]; simp))]
    by_cases q : c = 124
    · rw [if_pos q, if_pos rfl]
    · rw [if_neg q]
theorem mSet_1 (s : Nat) (W o : List Nat) : mSet s (38 :: W) o = mSet s W (o ++ [1801]) := rfl
theorem mSet_2 (W o : List Nat) : mSet 124 (124 :: W) o = mSet 124 W (o ++ [1802]) := rfl
theorem mR_and {W : List Nat} {a e : Nat} {o : List Nat} {res : Option (List Nat)} (h : pI tx n 38 a = true) (hm : ∃ k, mR tx n k true (38 :: (mSet 38 W o).1) (a + 1) (mSet 38 W o).2 res e) : ∃ k, mR tx n k false W a o res e := by
  obtain ⟨k, hm⟩ := hm
  refine ⟨k + 1, ?_⟩
  unfold mR
  rw [if_pos h]
  exact hm
theorem mR_or {W : List Nat} {a e : Nat} {o : List Nat} {res : Option (List Nat)} (h : pI tx n 124 a = true) (hm : ∃ k, mR tx n k true (124 :: (mSet 124 W o).1) (a + 1) (mSet 124 W o).2 res e) : ∃ k, mR tx n k false W a o res e := by
  obtain ⟨k, hm⟩ := hm
  refine ⟨k + 1, ?_⟩
  unfold mR
  rw [if_neg (by rw [pI_ne h (by decide)]; decide), if_pos h]
  exact hm
/-- an and on the pile is settled by whatever comes, but an and -/
theorem mR_s1 {W : List Nat} {a e : Nat} {o : List Nat} {res : Option (List Nat)} (h1 : ¬ pI tx n 38 a = true) (hm : ∃ k, mR tx n k false W a (o ++ [1801]) res e) : ∃ k, mR tx n k false (38 :: W) a o res e := by
  obtain ⟨k, hm⟩ := hm
  match k, hm with
  | 0, hm => exact hm.elim
  | k + 1, hm =>
    refine ⟨k + 1, ?_⟩
    unfold mR at hm ⊢
    rw [if_neg h1] at hm ⊢
    exact hm
theorem mR_s2 {W : List Nat} {a e : Nat} {o : List Nat} {res : Option (List Nat)} (h1 : ¬ pI tx n 38 a = true) (h2 : ¬ pI tx n 124 a = true) (hm : ∃ k, mR tx n k false W a (o ++ [1802]) res e) : ∃ k, mR tx n k false (124 :: W) a o res e := by
  obtain ⟨k, hm⟩ := hm
  match k, hm with
  | 0, hm => exact hm.elim
  | k + 1, hm =>
    refine ⟨k + 1, ?_⟩
    unfold mR at hm ⊢
    rw [if_neg h1, if_neg h2] at hm ⊢
    exact hm
/-- the pile under a list: the base, with the list's sign on it behind the first part -/
def pU (c : Nat) (W : List Nat) : Bool → List Nat
  | true => W
  | false => c :: W
theorem mOp_U {c : Nat} (h1 : c ≠ 33) (h2 : c ≠ 40) (W : List Nat) : ∀ b, mOp (pU c W b) = mOp W
  | true => rfl
  | false => by
    show (if c = 33 ∨ c = 40 then 1 else 0) + mOp W = mOp W
    rw [if_neg (fun z => z.elim h1 h2), Nat.zero_add]
theorem hd_m {l l2 W : List Nat} (h : hd l W) (hl : ∀ x, x ∈ l2 → x ∈ l) : hd l2 W := by
  match W, h with
  | [], _ => trivial
  | d :: W, h => exact fun z => h (hl d z)
theorem hd_U {c : Nat} {l l2 : List Nat} {W : List Nat} (h : hd l W) (hl : ∀ x, x ∈ l2 → x ∈ l) (hc : c ∉ l2) : ∀ b, hd l2 (pU c W b)
  | true => by
    match W, h with
    | [], _ => trivial
    | d :: W, h => exact fun z => h (hl d z)
  | false => hc
theorem sim_both {r : Nat} {p : Nat → zP} (hp : sim tx n r p) (hb : ∀ a, a ≤ n → pOk (n := n) a 0 (p a)) : ∀ (k : Nat) (b : Bool) (a : Nat), a ≤ n → n + 1 ≤ a + k → ∀ W, mOp W + r = 4 → hd [33, 38] W →
    match pLst tx n p 38 1801 k b a with
    | (some z, e) => ¬ pI tx n 38 e = true ∧ ∀ o res e2, (∃ k, mR tx n k false W e (o ++ z) res e2) → ∃ k, mR tx n k true (pU 38 W b) a o res e2
    | (none, e) => ∀ o, ∃ k, mR tx n k true (pU 38 W b) a o none e
  | 0, b, a, ha, hk, W, hW, hd => by omega
  | k + 1, b, a, ha, hk, W, hW, hW2 => by
    have hpb := hb a ha
    have hU : mOp (pU 38 W b) + r = 4 := by rw [mOp_U (by decide) (by decide)]; exact hW
    have hH : hd [33] (pU 38 W b) := hd_U hW2 (by simp) (by decide) b
    unfold pLst
    split
    · rename_i z e hz
      split at hz
      · cases hz
      · rename_i x e1 hx
        rw [hx] at hpb
        obtain ⟨b1, b2, b3⟩ := hpb
        split at hz
        · rename_i hc
          have hc2 := (pI_t.mp hc).1
          have IH := sim_both hp hb k false (e1 + 1) (by omega) (by omega) W hW hW2
          split at hz
          · cases hz
          · rename_i z2 e2 hz2
            rw [hz2] at IH
            cases hz
            refine ⟨IH.1, fun o res e3 hm => sim_s hp ha hx hU ?_⟩
            rw [mWh_hd hH]
            refine mR_and hc ?_
            have hq := IH.2 (o ++ (x ++ pT 1801 b)) res e3 (by rw [List.append_assoc]; exact hm)
            cases b
            · rw [show pU 38 W false = 38 :: W from rfl, mSet_1, mSet_a (hd_m hW2 (by simp) : hd [38] W)]
              rw [← List.append_assoc] at hq
              exact hq
            · rw [show pU 38 W true = W from rfl, mSet_a (hd_m hW2 (by simp) : hd [38] W)]
              rw [show x ++ pT 1801 true = x from List.append_nil x] at hq
              exact hq
        · rename_i hc
          cases hz
          refine ⟨hc, fun o res e3 hm => sim_s hp ha hx hU ?_⟩
          rw [mWh_hd hH]
          cases b
          · exact mR_s1 hc (by rw [List.append_assoc]; exact hm)
          · rw [show x ++ pT 1801 true = x from List.append_nil x] at hm
            exact hm
    · rename_i e hz
      split at hz
      · rename_i e1 hx
        cases hz
        exact fun o => sim_n hp ha hx hU
      · rename_i x e1 hx
        rw [hx] at hpb
        obtain ⟨b1, b2, b3⟩ := hpb
        split at hz
        · rename_i hc
          have hc2 := (pI_t.mp hc).1
          have IH := sim_both hp hb k false (e1 + 1) (by omega) (by omega) W hW hW2
          split at hz
          · rename_i e2 hz2
            rw [hz2] at IH
            cases hz
            refine fun o => sim_s hp ha hx hU ?_
            rw [mWh_hd hH]
            refine mR_and hc ?_
            have hq := IH (o ++ (x ++ pT 1801 b))
            cases b
            · rw [show pU 38 W false = 38 :: W from rfl, mSet_1, mSet_a (hd_m hW2 (by simp) : hd [38] W)]
              rw [← List.append_assoc] at hq
              exact hq
            · rw [show pU 38 W true = W from rfl, mSet_a (hd_m hW2 (by simp) : hd [38] W)]
              rw [show x ++ pT 1801 true = x from List.append_nil x] at hq
              exact hq
          · cases hz
        · cases hz
theorem sim_either {r : Nat} {p : Nat → zP} (hp : sim tx n r p) (hb : ∀ a, a ≤ n → pOk (n := n) a 0 (p a)) : ∀ (k : Nat) (b : Bool) (a : Nat), a ≤ n → 1 ≤ a → n ≤ 100 → n + 1 ≤ a + k → ∀ W, mOp W + r = 4 → hd [33, 38, 124] W →
    match pLst tx n (pLst tx n p 38 1801 100 true) 124 1802 k b a with
    | (some z, e) => (¬ pI tx n 38 e = true ∧ ¬ pI tx n 124 e = true) ∧ ∀ o res e2, (∃ k, mR tx n k false W e (o ++ z) res e2) → ∃ k, mR tx n k true (pU 124 W b) a o res e2
    | (none, e) => ∀ o, ∃ k, mR tx n k true (pU 124 W b) a o none e
  | 0, b, a, ha, h1, hn, hk, W, hW, hd => by omega
  | k + 1, b, a, ha, h1, hn, hk, W, hW, hW2 => by
    have hpb := pLst_b (c := 38) (o := 1801) (tx := tx) hb 100 true a ha
    have hU : mOp (pU 124 W b) + r = 4 := by rw [mOp_U (by decide) (by decide)]; exact hW
    have hH : hd [33, 38] (pU 124 W b) := hd_U hW2 (by simp) (by decide) b
    have hB := sim_both hp hb 100 true a ha (by omega) (pU 124 W b) hU hH
    unfold pLst
    split
    · rename_i z e hz
      split at hz
      · cases hz
      · rename_i x e1 hx
        rw [hx] at hpb hB
        obtain ⟨b1, b2, b3⟩ := hpb
        obtain ⟨hB1, hB2⟩ := hB
        split at hz
        · rename_i hc
          have hc2 := (pI_t.mp hc).1
          have IH := sim_either hp hb k false (e1 + 1) (by omega) (by omega) hn (by omega) W hW hW2
          split at hz
          · cases hz
          · rename_i z2 e2 hz2
            rw [hz2] at IH
            cases hz
            refine ⟨IH.1, fun o res e3 hm => hB2 o res e3 (mR_or hc ?_)⟩
            have hq := IH.2 (o ++ (x ++ pT 1802 b)) res e3 (by rw [List.append_assoc]; exact hm)
            cases b
            · rw [show pU 124 W false = 124 :: W from rfl, mSet_2, mSet_hd (hd_m hW2 (by simp) : hd [38, 124] W)]
              rw [← List.append_assoc] at hq
              exact hq
            · rw [show pU 124 W true = W from rfl, mSet_hd (hd_m hW2 (by simp) : hd [38, 124] W)]
              rw [show x ++ pT 1802 true = x from List.append_nil x] at hq
              exact hq
        · rename_i hc
          cases hz
          refine ⟨⟨hB1, hc⟩, fun o res e3 hm => hB2 o res e3 ?_⟩
          cases b
          · exact mR_s2 hB1 hc (by rw [List.append_assoc]; exact hm)
          · rw [show x ++ pT 1802 true = x from List.append_nil x] at hm
            exact hm
    · rename_i e hz
      split at hz
      · rename_i e1 hx
        rw [hx] at hB
        cases hz
        exact hB
      · rename_i x e1 hx
        rw [hx] at hpb hB
        obtain ⟨b1, b2, b3⟩ := hpb
        obtain ⟨hB1, hB2⟩ := hB
        split at hz
        · rename_i hc
          have hc2 := (pI_t.mp hc).1
          have IH := sim_either hp hb k false (e1 + 1) (by omega) (by omega) hn (by omega) W hW hW2
          split at hz
          · rename_i e2 hz2
            rw [hz2] at IH
            cases hz
            refine fun o => hB2 o _ _ (mR_or hc ?_)
            have hq := IH (o ++ (x ++ pT 1802 b))
            cases b
            · rw [show pU 124 W false = 124 :: W from rfl, mSet_2, mSet_hd (hd_m hW2 (by simp) : hd [38, 124] W)]
              rw [← List.append_assoc] at hq
              exact hq
            · rw [show pU 124 W true = W from rfl, mSet_hd (hd_m hW2 (by simp) : hd [38, 124] W)]
              rw [show x ++ pT 1802 true = x from List.append_nil x] at hq
              exact hq
          · cases hz
        · cases hz
theorem mR_shut {W : List Nat} {c a e : Nat} {o : List Nat} {res : Option (List Nat)} (h1 : ¬ pI tx n 38 a = true) (h2 : ¬ pI tx n 124 a = true) (h3 : pI tx n 41 a = true) (hc : hd [38, 124] (c :: W)) (hm : ∃ k, mR tx n k false (mWh W o).1 (a + 1) (mWh W o).2 res e) : ∃ k, mR tx n k false (c :: W) a o res e := by
  obtain ⟨k, hm⟩ := hm
  refine ⟨k + 1, ?_⟩
  unfold mR
  rw [if_neg h1, if_neg h2, mSet_hd hc]
  dsimp only
  rw [if_pos h3]
  exact hm
theorem mR_left {W : List Nat} {c a : Nat} {o : List Nat} (h1 : ¬ pI tx n 38 a = true) (h2 : ¬ pI tx n 124 a = true) (h3 : ¬ pI tx n 41 a = true) (hc : hd [38, 124] (c :: W)) : ∃ k, mR tx n k false (c :: W) a o none a := by
  refine ⟨1, ?_⟩
  unfold mR
  rw [if_neg h1, if_neg h2, mSet_hd hc]
  dsimp only
  rw [if_neg h3]
  exact ⟨rfl, rfl⟩
theorem mR_done {a : Nat} {o : List Nat} (h1 : ¬ pI tx n 38 a = true) (h2 : ¬ pI tx n 124 a = true) : ∃ k, mR tx n k false [] a o (some o) a := by
  refine ⟨1, ?_⟩
  unfold mR
  rw [if_neg h1, if_neg h2]
  exact ⟨rfl, rfl⟩
theorem sim_test (r : Nat) (p : Nat → zP) {a : Nat} (h1 : ¬ pI tx n 33 a = true) (h2 : ¬ pI tx n 40 a = true) : match pTest tx n a with
  | (some x, e) => ∀ W o res e2, mOp W + r = 4 → (∃ k, mR tx n k false (mWh W (o ++ x)).1 e (mWh W (o ++ x)).2 res e2) → ∃ k, mR tx n k true W a o res e2
  | (none, e) => ∀ W o, mOp W + r = 4 → ∃ k, mR tx n k true W a o none e := by
  split
  · rename_i x e hx
    rintro W o res e2 _ ⟨k, hk⟩
    exact ⟨k + 1, mR_test h1 h2 hx hk⟩
  · rename_i e hx
    exact fun W o _ => ⟨1, mR_bad h1 h2 hx⟩
theorem sim_part (hn : n ≤ 100) : ∀ r, r ≤ 4 → sim tx n r (pPart tx n r)
  | 0, _ => fun a ha => by
    unfold pPart
    by_cases h1 : pI tx n 33 a = true
    · rw [if_pos h1]
      exact fun W o hW => ⟨1, mR_full (Or.inl rfl) h1 hW⟩
    · rw [if_neg h1]
      by_cases h2 : pI tx n 40 a = true
      · rw [if_pos h2]
        exact fun W o hW => ⟨1, mR_full (Or.inr rfl) h2 hW⟩
      · rw [if_neg h2]
        exact sim_test 0 (fun _ => (none, 0)) h1 h2
  | r + 1, hr => fun a ha => by
    have IH := sim_part hn r (by omega)
    have hb : ∀ a, a ≤ n → pOk (n := n) a 0 (pPart tx n r a) := fun a ha => pPart_b r a ha
    unfold pPart
    by_cases h1 : pI tx n 33 a = true
    · rw [if_pos h1]
      have ha1 := (pI_t.mp h1).1
      rcases hx : pPart tx n r (a + 1) with ⟨_ | x, e⟩
      · refine fun W o hW => ?_
        obtain ⟨k, hk⟩ := sim_n IH (by omega) hx (W := 33 :: W) (o := o) (by show (1 + mOp W) + r = 4; omega)
        exact ⟨k + 1, mR_open (Or.inl rfl) h1 (by omega) hk⟩
      · refine fun W o res e2 hW hm => ?_
        obtain ⟨k, hk⟩ := sim_s IH (by omega) hx (W := 33 :: W) (o := o) (res := res) (e2 := e2) (by show (1 + mOp W) + r = 4; omega) (by
          rw [show mWh (33 :: W) (o ++ x) = mWh W (o ++ x ++ [1800]) from rfl, List.append_assoc]
          exact hm)
        exact ⟨k + 1, mR_open (Or.inl rfl) h1 (by omega) hk⟩
    · rw [if_neg h1]
      by_cases h2 : pI tx n 40 a = true
      · rw [if_pos h2]
        have ha1 := (pI_t.mp h2).1
        have hE : ∀ W, mOp W + (r + 1) = 4 → _ := fun W hW => sim_either IH hb 100 true (a + 1) (by omega) (by omega) hn (by omega) (40 :: W) (by show (1 + mOp W) + r = 4; omega) (by show 40 ∉ [33, 38, 124]; decide)
        rcases hx : pE tx n (pPart tx n r) (a + 1) with ⟨_ | x, e⟩
        · refine fun W o hW => ?_
          have := hE W hW
          unfold pE at hx
          rw [hx] at this
          obtain ⟨k, hk⟩ := this o
          exact ⟨k + 1, mR_open (Or.inr rfl) h2 (by omega) hk⟩
        · dsimp only
          by_cases h3 : pI tx n 41 e = true
          · rw [if_pos h3]
            refine fun W o res e2 hW hm => ?_
            have := hE W hW
            unfold pE at hx
            rw [hx] at this
            obtain ⟨⟨g1, g2⟩, g3⟩ := this
            obtain ⟨k, hk⟩ := g3 o res e2 (mR_shut g1 g2 h3 (by show 40 ∉ [38, 124]; decide) hm)
            exact ⟨k + 1, mR_open (Or.inr rfl) h2 (by omega) hk⟩
          · rw [if_neg h3]
            refine fun W o hW => ?_
            have := hE W hW
            unfold pE at hx
            rw [hx] at this
            obtain ⟨⟨g1, g2⟩, g3⟩ := this
            obtain ⟨k, hk⟩ := g3 o none e (mR_left g1 g2 h3 (by show 40 ∉ [38, 124]; decide))
            exact ⟨k + 1, mR_open (Or.inr rfl) h2 (by omega) hk⟩
      · rw [if_neg h2]
        exact sim_test (r + 1) (fun _ => (none, 0)) h1 h2
/-- the whole of a clause's tests -/
theorem sim_E (hn : n ≤ 100) {a : Nat} (ha : a ≤ n) (h1 : 1 ≤ a) {y : zP} (hy : pE tx n (pPart tx n 4) a = y) (o : List Nat) : ∃ k, mR tx n k true [] a o (match y.1 with | none => none | some x => some (o ++ x)) y.2 := by
  have := sim_either (tx := tx) (sim_part hn 4 (by omega)) (fun a ha => pPart_b 4 a ha) 100 true a ha h1 hn (by omega) [] rfl trivial
  unfold pE at hy
  rw [hy] at this
  rcases y with ⟨_ | x, e⟩
  · exact this o
  · exact this.2 o _ _ (mR_done this.1.1 this.1.2)
end
