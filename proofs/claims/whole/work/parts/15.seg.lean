/-! stretches of code: from a stretch's demand to the run -/
def zsrt : List (Nat × Instr) → Bool
  | [] => true
  | (k, _) :: r => (match r with | [] => true | (j, _) :: _ => Nat.blt k j) && zsrt r
theorem zsrt_lt : ∀ {r : List (Nat × Instr)} {k : Nat} {i : Instr}, zsrt ((k, i) :: r) = true → ∀ e ∈ r, k < e.1
  | [], _, _, _, e, he => by cases he
  | (j, x) :: r, k, i, h, e, he => by
    unfold zsrt at h
    rw [Bool.and_eq_true] at h
    have h1 : k < j := Nat.le_of_ble_eq_true h.1
    rcases List.mem_cons.mp he with rfl | he
    · exact h1
    · exact Nat.lt_trans h1 (zsrt_lt h.2 e he)
theorem zsrt_tail {e : Nat × Instr} {r : List (Nat × Instr)} (h : zsrt (e :: r) = true) : zsrt r = true := by
  unfold zsrt at h
  rw [Bool.and_eq_true] at h
  exact h.2
theorem zfind_suf : ∀ (cd : List (Nat × Instr)) (pc : Nat), ∃ pre, cd = pre ++ zfind cd pc
  | [], _ => ⟨[], rfl⟩
  | (k, i) :: l, pc => by
    unfold zfind
    cases Nat.beq k pc with
    | true => exact ⟨[], rfl⟩
    | false =>
      obtain ⟨pre, h⟩ := zfind_suf l pc
      exact ⟨(k, i) :: pre, by rw [cond_false, List.cons_append, ← h]⟩
theorem zfind_of : ∀ {cd pre r : List (Nat × Instr)} {k : Nat} {i : Instr}, zsrt cd = true → cd = pre ++ (k, i) :: r → zfind cd k = (k, i) :: r
  | cd, [], r, k, i, _, h => by
    subst h
    show zfind ((k, i) :: r) k = _
    unfold zfind
    rw [show Nat.beq k k = true from Nat.beq_refl k]
    rfl
  | cd, (j, x) :: pre, r, k, i, hs, h => by
    subst h
    show zfind ((j, x) :: (pre ++ (k, i) :: r)) k = _
    have hlt : j < k := zsrt_lt (show zsrt ((j, x) :: (pre ++ (k, i) :: r)) = true from hs) (k, i) (List.mem_append_right _ List.mem_cons_self)
    have hne : Nat.beq j k = false := by
      cases hb : Nat.beq j k with
      | false => rfl
      | true => exact absurd (Nat.eq_of_beq_eq_true hb) (Nat.ne_of_lt hlt)
    unfold zfind
    rw [hne, cond_false]
    exact zfind_of (zsrt_tail (show zsrt ((j, x) :: (pre ++ (k, i) :: r)) = true from hs)) rfl
theorem zseg_run {C : zC} {own : Nat} {ret : Option FieldType} {cd : List (Nat × Instr)} {cut : List Nat} {Q : zQ} (hC : zCm C) (hs : zsrt cd = true) :
    ∀ (n : Nat) (pre r : List (Nat × Instr)) (k : Nat) (i : Instr) (ls st : List Value) (m : zM), cd = pre ++ (k, i) :: r → zseg C own ret cd cut Q (zRun C own ret cd Q) n ((k, i) :: r) ls st m → zRun C own ret cd Q k ls st m
  | 0, _, _, _, _, _, _, _, _, h => h.elim
  | n + 1, pre, r, k, i, ls, st, m, hcd, h => by
    refine zRun_step hC ?_
    unfold zstep
    rw [zfind_of hs hcd]
    refine zwp_m hC (fun pc' ls' st' m' h' => ?_) (fun _ _ q => q) h
    have jump : zseg C own ret cd cut Q (zRun C own ret cd Q) n (zfind cd pc') ls' st' m' → zRun C own ret cd Q pc' ls' st' m' := by
      intro h2
      obtain ⟨pre2, e2⟩ := zfind_suf cd pc'
      cases hf : zfind cd pc' with
      | nil =>
        rw [hf] at h2
        cases n with
        | zero => exact h2.elim
        | succ n => exact h2.elim
      | cons e t =>
        obtain ⟨k2, i2⟩ := e
        have hk : k2 = pc' := by
          have : ∀ (l : List (Nat × Instr)), zfind l pc' = (k2, i2) :: t → k2 = pc' := by
            intro l
            induction l with
            | nil => intro h; cases h
            | cons a l ih =>
              obtain ⟨a1, a2⟩ := a
              intro h
              unfold zfind at h
              cases hb : Nat.beq a1 pc' with
              | true =>
                rw [hb] at h
                cases h
                exact Nat.eq_of_beq_eq_true hb
              | false =>
                rw [hb] at h
                exact ih h
          exact this cd hf
        subst hk
        rw [hf] at h2 e2
        exact zseg_run hC hs n pre2 t k2 i2 ls' st' m' e2 h2
    cases hz : zin pc' cut with
    | true => rw [hz] at h'; exact h'
    | false =>
      rw [hz, cond_false] at h'
      cases r with
      | nil => exact jump h'
      | cons e t =>
        obtain ⟨k2, i2⟩ := e
        dsimp only at h'
        cases hb : Nat.beq k2 pc' with
        | false => rw [hb] at h'; exact jump h'
        | true =>
          rw [hb] at h'
          have hk : k2 = pc' := Nat.eq_of_beq_eq_true hb
          subst hk
          exact zseg_run hC hs n (pre ++ [(k, i)]) t k2 i2 ls' st' m' (by rw [hcd, List.append_assoc]; rfl) h'
/-- a stretch from pc on -/
theorem zgo {C : zC} {own : Nat} {ret : Option FieldType} {cd : List (Nat × Instr)} (cut : List Nat) {Q : zQ} (hC : zCm C) (hs : zsrt cd = true) {pc : Nat} {ls st : List Value} {m : zM} {i : Instr} {r : List (Nat × Instr)} (hf : zfind cd pc = (pc, i) :: r)
    (h : zseg C own ret cd cut Q (zRun C own ret cd Q) 900 ((pc, i) :: r) ls st m) : zRun C own ret cd Q pc ls st m := by
  obtain ⟨pre, e⟩ := zfind_suf cd pc
  rw [hf] at e
  exact zseg_run hC hs _ pre r pc i ls st m e h
