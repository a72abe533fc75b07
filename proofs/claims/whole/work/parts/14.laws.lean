/-! the small machine's own laws: more demanded, less demanded; one outcome; stretches of code -/
section ZM
variable {C : zC} {own : Nat} {ret : Option FieldType} {pc : Nat} {ls st : List Value} {m : zM} {Q Q' : zQ} {K K' : zK}
def zCm (C : zC) : Prop := ∀ mi a m (Q Q' : zQ), (∀ o n, Q o n → Q' o n) → C mi a m Q → C mi a m Q'
def zLe (K K' : zK) : Prop := ∀ pc ls st m, K pc ls st m → K' pc ls st m
theorem zite_m {c : Prop} {i : Decidable c} {a b a' b' : Prop} (ha : a → a') (hb : b → b') (h : @ite Prop c i a b) : @ite Prop c i a' b' := by
  by_cases q : c
  · rw [if_pos q] at h ⊢
    exact ha h
  · rw [if_neg q] at h ⊢
    exact hb h
theorem zrt_m {rk : Nat} {o : Option Value} {k k' : List Value → Prop} (h : ∀ v, k v → k' v) (a : zrt rk o k) : zrt rk o k' := by
  unfold zrt at a ⊢
  split at a
  · exact ⟨a.1, h _ a.2⟩
  · exact a.imp fun x q => ⟨q.1, h _ q.2⟩
  · exact a.imp fun x q => ⟨q.1, h _ q.2⟩
  · exact a.imp fun x q => ⟨q.1, h _ q.2⟩
theorem zlk_m (h : zLe K K') {x : Int32} {d : Int} {r : List Value} : ∀ l, zlk pc x d ls r m K l → zlk pc x d ls r m K' l
  | [], a => h _ _ _ _ a
  | (b, _) :: l, a => by
    unfold zlk at a ⊢
    by_cases e : x = Int32.ofInt b
    · rw [if_pos e] at a ⊢
      exact h _ _ _ _ a
    · rw [if_neg e] at a ⊢
      exact zlk_m h l a
theorem zgf_m (h : zLe K K') {idx : Nat} (a : zgf own idx pc ls st m K) : zgf own idx pc ls st m K' := by
  unfold zgf at a ⊢
  cases hf : zl4 (zft own) idx with
  | none => rw [hf] at a; exact a.elim
  | some t =>
    obtain ⟨ci, k, ty⟩ := t
    rw [hf] at a
    have a' := a
    clear a
    match st, a' with
    | .ref p :: r, a =>
      dsimp only at a ⊢
      cases hs : Nat.beq (zsh p) ci with
      | false => rw [hs] at a; exact a.elim
      | true =>
        rw [hs] at a
        simp only [cond_true] at a ⊢
        split at a
        · exact h _ _ _ _ a
        · exact h _ _ _ _ a
        · exact ⟨fun q e => h _ _ _ _ (a.1 q e), fun e => h _ _ _ _ (a.2 e)⟩
        · exact h _ _ _ _ a
        · exact h _ _ _ _ a
        · exact h _ _ _ _ a
        · exact a.elim
theorem zpf_m (h : zLe K K') {idx : Nat} (a : zpf own idx pc ls st m K) : zpf own idx pc ls st m K' := by
  unfold zpf at a ⊢
  cases hf : zl4 (zft own) idx with
  | none => rw [hf] at a; exact a.elim
  | some t =>
    obtain ⟨ci, k, ty⟩ := t
    rw [hf] at a
    have a' := a
    clear a
    match st, a' with
    | .int x :: .ref p :: r, a =>
      dsimp only at a ⊢
      cases hs : Nat.beq (zsh p) ci with
      | false => rw [hs] at a; exact a.elim
      | true =>
        rw [hs] at a
        simp only [cond_true] at a ⊢
        split at a
        · exact h _ _ _ _ a
        · exact a.elim
        · exact a.elim
        · exact ⟨a.1, h _ _ _ _ a.2⟩
        · exact a.elim
    | .ref q :: .ref p :: r, a =>
      dsimp only at a ⊢
      cases hs : Nat.beq (zsh p) ci with
      | false => rw [hs] at a; exact a.elim
      | true =>
        rw [hs] at a
        simp only [cond_true] at a ⊢
        cases ht : Nat.beq ty 2 && Nat.beq (zsh q) 1 with
        | false => rw [ht] at a; exact a.elim
        | true => rw [ht] at a; exact h _ _ _ _ a
    | .null :: .ref p :: r, a =>
      dsimp only at a ⊢
      cases hs : Nat.beq (zsh p) ci with
      | false => rw [hs] at a; exact a.elim
      | true =>
        rw [hs] at a
        simp only [cond_true] at a ⊢
        cases ht : Nat.beq ty 2 with
        | false => rw [ht] at a; exact a.elim
        | true => rw [ht] at a; exact h _ _ _ _ a
theorem zinv_m (hC : zCm C) (h : zLe K K') {virt : Bool} {idx : Nat} (a : zinv C own virt idx pc ls st m K) : zinv C own virt idx pc ls st m K' := by
  unfold zinv at a ⊢
  cases hf : zl5 (zct own) idx with
  | none => rw [hf] at a; exact a.elim
  | some t =>
    obtain ⟨kind, mi, n, rk⟩ := t
    rw [hf] at a
    dsimp only at a ⊢
    split at a
    · cases hc : zrc mi (zrv (ztk n st) []) && (Nat.ble (zcat (zdr n st)) 8 && Nat.ble n (zsz st)) with
      | false => rw [hc] at a; exact a.elim
      | true => rw [hc] at a; exact hC _ _ _ _ _ (fun o m' q => zrt_m (fun v => h _ _ _ _) q) a
    · cases hc : Nat.ble (zcat (zdr n st)) 8 && Nat.ble n (zsz st) with
      | false => rw [hc] at a; exact a.elim
      | true => rw [hc] at a; exact hC _ _ _ _ _ (fun o m' q => zrt_m (fun v => h _ _ _ _) q) a
    · cases hc : Nat.ble (zcat (zdr n st)) 8 && Nat.ble n (zsz st) with
      | false => rw [hc] at a; exact a.elim
      | true => rw [hc] at a; exact hC _ _ _ _ _ (fun o m' q => zrt_m (fun v => h _ _ _ _) q) a
    · have a' := a
      clear a
      match st, a' with
      | .int nn :: .int j :: .ref b2 :: .int i :: .ref a2 :: r, a =>
        dsimp only at a ⊢
        cases hc : Nat.ble (zcat r) 8 with
        | false => rw [hc] at a; exact a.elim
        | true =>
          rw [hc] at a
          simp only [cond_true] at a ⊢
          cases hq1 : Nat.beq (zsh a2) 20 && Nat.beq (zsh b2) 20 with
          | true => rw [hq1] at a; exact ⟨a.1, h _ _ _ _ a.2⟩
          | false =>
            rw [hq1] at a
            simp only [cond_false] at a ⊢
            cases hq2 : Nat.beq (zsh a2) 22 && Nat.beq (zsh b2) 22 with
            | true => rw [hq2] at a; exact ⟨a.1, h _ _ _ _ a.2⟩
            | false => rw [hq2] at a; exact a.elim
    · obtain ⟨x, y, r, rfl, b⟩ := zi2_ok a
      show bif Nat.ble (zcat r) 8 then _ else False
      cases hc : Nat.ble (zcat r) 8 with
      | false => rw [hc] at b; exact b.elim
      | true => rw [hc] at b; exact h _ _ _ _ b
    · obtain ⟨x, y, r, rfl, b⟩ := zi2_ok a
      show bif Nat.ble (zcat r) 8 then _ else False
      cases hc : Nat.ble (zcat r) 8 with
      | false => rw [hc] at b; exact b.elim
      | true => rw [hc] at b; exact h _ _ _ _ b
    · exact a.elim
theorem zald_m (h : zLe K K') (a : zald pc ls st m K) : zald pc ls st m K' := by
  unfold zald at a ⊢
  have a' := a
  clear a
  match st, a' with
  | .int i :: .ref p :: r, a =>
    dsimp only at a ⊢
    split at a
    · exact ⟨a.1, h _ _ _ _ a.2⟩
    · exact ⟨a.1, h _ _ _ _ a.2⟩
    · exact ⟨a.1, h _ _ _ _ a.2⟩
    · exact a.elim
theorem zbld_m (h : zLe K K') (a : zbld pc ls st m K) : zbld pc ls st m K' := by
  unfold zbld at a ⊢
  have a' := a
  clear a
  match st, a' with
  | .int i :: .ref p :: r, a =>
    dsimp only at a ⊢
    split at a
    · exact ⟨a.1, h _ _ _ _ a.2⟩
    · exact ⟨a.1, h _ _ _ _ a.2⟩
    · exact a.elim
theorem zqld_m (h : zLe K K') (a : zqld pc ls st m K) : zqld pc ls st m K' := by
  unfold zqld at a ⊢
  have a' := a
  clear a
  match st, a' with
  | .int i :: .ref p :: r, a =>
    dsimp only at a ⊢
    split at a
    · exact ⟨a.1, h _ _ _ _ a.2⟩
    · exact ⟨a.1, h _ _ _ _ a.2⟩
    · exact a.elim
theorem zaln_m (h : zLe K K') (a : zaln pc ls st m K) : zaln pc ls st m K' := by
  unfold zaln at a ⊢
  have a' := a
  clear a
  match st, a' with
  | .ref p :: r, a =>
    dsimp only at a ⊢
    split at a
    · exact h _ _ _ _ a
    · exact h _ _ _ _ a
    · exact h _ _ _ _ a
    · exact a.elim
theorem zast_m (h : zLe K K') (a : zast pc ls st m K) : zast pc ls st m K' := by
  unfold zast at a ⊢
  have a' := a
  clear a
  match st, a' with
  | .int x :: .int i :: .ref p :: r, a =>
    dsimp only at a ⊢
    cases hs : Nat.beq (zsh p) 20 with
    | false => rw [hs] at a; exact a.elim
    | true => rw [hs] at a; exact ⟨a.1, h _ _ _ _ a.2⟩
theorem zbst_m (h : zLe K K') (a : zbst pc ls st m K) : zbst pc ls st m K' := by
  unfold zbst at a ⊢
  have a' := a
  clear a
  match st, a' with
  | .int x :: .int i :: .ref p :: r, a =>
    dsimp only at a ⊢
    cases hs : Nat.beq (zsh p) 21 with
    | false => rw [hs] at a; exact a.elim
    | true => rw [hs] at a; exact ⟨a.1, h _ _ _ _ a.2⟩
theorem zlld_m (h : zLe K K') (a : zlld pc ls st m K) : zlld pc ls st m K' := by
  unfold zlld at a ⊢
  have a' := a
  clear a
  match st, a' with
  | .int i :: .ref p :: r, a =>
    dsimp only at a ⊢
    cases hs : Nat.beq (zsh p) 22 with
    | false => rw [hs] at a; exact a.elim
    | true => rw [hs] at a; exact ⟨a.1, h _ _ _ _ a.2⟩
theorem zlst_m (h : zLe K K') (a : zlst pc ls st m K) : zlst pc ls st m K' := by
  unfold zlst at a ⊢
  have a' := a
  clear a
  match st, a' with
  | .long x :: .int i :: .ref p :: r, a =>
    dsimp only at a ⊢
    cases hs : Nat.beq (zsh p) 22 with
    | false => rw [hs] at a; exact a.elim
    | true => rw [hs] at a; exact ⟨a.1, h _ _ _ _ a.2⟩
theorem zstI_m (h : zLe K K') {i n : Nat} (a : zstI i n pc ls st m K) : zstI i n pc ls st m K' := by
  unfold zstI at a ⊢
  have a' := a
  clear a
  match st, a' with
  | .int x :: r, a =>
    dsimp only at a ⊢
    cases hs : zok ls i with
    | false => rw [hs] at a; exact a.elim
    | true => rw [hs] at a; exact h _ _ _ _ a
theorem zstA_m (h : zLe K K') {i n : Nat} (a : zstA i n pc ls st m K) : zstA i n pc ls st m K' := by
  unfold zstA at a ⊢
  have a' := a
  clear a
  match st, a' with
  | .ref x :: r, a =>
    dsimp only at a ⊢
    cases hs : zok ls i with
    | false => rw [hs] at a; exact a.elim
    | true => rw [hs] at a; exact h _ _ _ _ a
  | .null :: r, a =>
    dsimp only at a ⊢
    cases hs : zok ls i with
    | false => rw [hs] at a; exact a.elim
    | true => rw [hs] at a; exact h _ _ _ _ a
theorem zldI_m {v : Value} {k k' : Value → Prop} (h : ∀ v, k v → k' v) (a : zldI v k) : zldI v k' := by
  cases v with
  | int x => exact h _ a
  | _ => exact a.elim
theorem zldL_m {v : Value} {k k' : Value → Prop} (h : ∀ v, k v → k' v) (a : zldL v k) : zldL v k' := by
  cases v with
  | long x => exact h _ a
  | _ => exact a.elim
theorem zldA_m {v : Value} {k k' : Value → Prop} (h : ∀ v, k v → k' v) (a : zldA v k) : zldA v k' := by
  cases v with
  | ref x => exact h _ a
  | null => exact h _ a
  | _ => exact a.elim
theorem zi2_m {k k' : Int32 → Int32 → List Value → Prop} (h : ∀ x y r, k x y r → k' x y r) (a : zi2 st k) : zi2 st k' := by
  obtain ⟨x, y, r, rfl, b⟩ := zi2_ok a
  exact h _ _ _  b
theorem zi1_m {k k' : Int32 → List Value → Prop} (h : ∀ x r, k x r → k' x r) (a : zi1 st k) : zi1 st k' := by
  obtain ⟨x, r, rfl, b⟩ := zi1_ok a
  exact h _ _  b
theorem zj1_m {k k' : Int64 → List Value → Prop} (h : ∀ x r, k x r → k' x r) (a : zj1 st k) : zj1 st k' := by
  obtain ⟨x, r, rfl, b⟩ := zj1_ok a
  exact h _ _  b
theorem zj2_m {k k' : Int64 → Int64 → List Value → Prop} (h : ∀ x y r, k x y r → k' x y r) (a : zj2 st k) : zj2 st k' := by
  obtain ⟨x, y, r, rfl, b⟩ := zj2_ok a
  exact h _ _ _  b
theorem zji_m {k k' : Int64 → Int32 → List Value → Prop} (h : ∀ x y r, k x y r → k' x y r) (a : zji st k) : zji st k' := by
  obtain ⟨x, y, r, rfl, b⟩ := zji_ok a
  exact h _ _ _  b
theorem zrn_m {x : Int32} {P P' : Prop} (h : P → P') (a : zrn ret x P) : zrn ret x P' := by
  unfold zrn at a ⊢
  split at a
  · exact h a
  · exact ⟨a.1, h a.2⟩
  · exact ⟨a.1, h a.2⟩
  · exact ⟨a.1, h a.2⟩
  · exact a.elim
theorem zrnl_m {P P' : Prop} (h : P → P') (a : zrnl ret P) : zrnl ret P' := by
  unfold zrnl at a ⊢
  split at a
  · exact h a
  · exact a.elim
theorem zrna_m {P P' : Prop} (h : P → P') (a : zrna ret P) : zrna ret P' := by
  unfold zrna at a ⊢
  split at a
  · exact h a
  · exact a.elim
theorem zrnv_m {P P' : Prop} (h : P → P') (a : zrnv ret P) : zrnv ret P' := by
  unfold zrnv at a ⊢
  split at a
  · exact h a
  · exact a.elim
theorem zm_aload_n (hC : zCm C) (h : zLe K K') (hQ : ∀ o n, Q o n → Q' o n) (v0 : Fin 4) (a : zwp C own ret (.aload_n v0) pc ls st m Q K) : zwp C own ret (.aload_n v0) pc ls st m Q' K' := by
    exact zldA_m (k := fun v => K (pc + 1) ls (v :: st) m) (fun v => h _ _ _ _) a
theorem zm_aload (hC : zCm C) (h : zLe K K') (hQ : ∀ o n, Q o n → Q' o n) (v0 : Nat) (a : zwp C own ret (.aload v0) pc ls st m Q K) : zwp C own ret (.aload v0) pc ls st m Q' K' := by
    exact zldA_m (k := fun v => K (pc + 2) ls (v :: st) m) (fun v => h _ _ _ _) a
theorem zm_iload_n (hC : zCm C) (h : zLe K K') (hQ : ∀ o n, Q o n → Q' o n) (v0 : Fin 4) (a : zwp C own ret (.iload_n v0) pc ls st m Q K) : zwp C own ret (.iload_n v0) pc ls st m Q' K' := by
    exact zldI_m (k := fun v => K (pc + 1) ls (v :: st) m) (fun v => h _ _ _ _) a
theorem zm_iload (hC : zCm C) (h : zLe K K') (hQ : ∀ o n, Q o n → Q' o n) (v0 : Nat) (a : zwp C own ret (.iload v0) pc ls st m Q K) : zwp C own ret (.iload v0) pc ls st m Q' K' := by
    exact zldI_m (k := fun v => K (pc + 2) ls (v :: st) m) (fun v => h _ _ _ _) a
theorem zm_lload_n (hC : zCm C) (h : zLe K K') (hQ : ∀ o n, Q o n → Q' o n) (v0 : Fin 4) (a : zwp C own ret (.lload_n v0) pc ls st m Q K) : zwp C own ret (.lload_n v0) pc ls st m Q' K' := by
    exact zldL_m (k := fun v => K (pc + 1) ls (v :: st) m) (fun v => h _ _ _ _) a
theorem zm_istore_n (hC : zCm C) (h : zLe K K') (hQ : ∀ o n, Q o n → Q' o n) (v0 : Fin 4) (a : zwp C own ret (.istore_n v0) pc ls st m Q K) : zwp C own ret (.istore_n v0) pc ls st m Q' K' := by
    exact zstI_m h a
theorem zm_istore (hC : zCm C) (h : zLe K K') (hQ : ∀ o n, Q o n → Q' o n) (v0 : Nat) (a : zwp C own ret (.istore v0) pc ls st m Q K) : zwp C own ret (.istore v0) pc ls st m Q' K' := by
    exact zstI_m h a
theorem zm_astore_n (hC : zCm C) (h : zLe K K') (hQ : ∀ o n, Q o n → Q' o n) (v0 : Fin 4) (a : zwp C own ret (.astore_n v0) pc ls st m Q K) : zwp C own ret (.astore_n v0) pc ls st m Q' K' := by
    exact zstA_m h a
theorem zm_astore (hC : zCm C) (h : zLe K K') (hQ : ∀ o n, Q o n → Q' o n) (v0 : Nat) (a : zwp C own ret (.astore v0) pc ls st m Q K) : zwp C own ret (.astore v0) pc ls st m Q' K' := by
    exact zstA_m h a
theorem zm_iconst (hC : zCm C) (h : zLe K K') (hQ : ∀ o n, Q o n → Q' o n) (v0 : Int) (a : zwp C own ret (.iconst v0) pc ls st m Q K) : zwp C own ret (.iconst v0) pc ls st m Q' K' := by
    exact h _ _ _ _ a
theorem zm_bipush (hC : zCm C) (h : zLe K K') (hQ : ∀ o n, Q o n → Q' o n) (v0 : Int) (a : zwp C own ret (.bipush v0) pc ls st m Q K) : zwp C own ret (.bipush v0) pc ls st m Q' K' := by
    exact h _ _ _ _ a
theorem zm_sipush (hC : zCm C) (h : zLe K K') (hQ : ∀ o n, Q o n → Q' o n) (v0 : Int) (a : zwp C own ret (.sipush v0) pc ls st m Q K) : zwp C own ret (.sipush v0) pc ls st m Q' K' := by
    exact h _ _ _ _ a
theorem zm_lconst (hC : zCm C) (h : zLe K K') (hQ : ∀ o n, Q o n → Q' o n) (v0 : Fin 2) (a : zwp C own ret (.lconst v0) pc ls st m Q K) : zwp C own ret (.lconst v0) pc ls st m Q' K' := by
    exact h _ _ _ _ a
theorem zm_goto (hC : zCm C) (h : zLe K K') (hQ : ∀ o n, Q o n → Q' o n) (v0 : Int) (a : zwp C own ret (.goto v0) pc ls st m Q K) : zwp C own ret (.goto v0) pc ls st m Q' K' := by
    exact h _ _ _ _ a
theorem zm_getfield (hC : zCm C) (h : zLe K K') (hQ : ∀ o n, Q o n → Q' o n) (v0 : Nat) (a : zwp C own ret (.getfield v0) pc ls st m Q K) : zwp C own ret (.getfield v0) pc ls st m Q' K' := by
    exact zgf_m h a
theorem zm_putfield (hC : zCm C) (h : zLe K K') (hQ : ∀ o n, Q o n → Q' o n) (v0 : Nat) (a : zwp C own ret (.putfield v0) pc ls st m Q K) : zwp C own ret (.putfield v0) pc ls st m Q' K' := by
    exact zpf_m h a
theorem zm_iaload (hC : zCm C) (h : zLe K K') (hQ : ∀ o n, Q o n → Q' o n) (a : zwp C own ret (.iaload) pc ls st m Q K) : zwp C own ret (.iaload) pc ls st m Q' K' := by
    exact zald_m h a
theorem zm_baload (hC : zCm C) (h : zLe K K') (hQ : ∀ o n, Q o n → Q' o n) (a : zwp C own ret (.baload) pc ls st m Q K) : zwp C own ret (.baload) pc ls st m Q' K' := by
    exact zbld_m h a
theorem zm_iastore (hC : zCm C) (h : zLe K K') (hQ : ∀ o n, Q o n → Q' o n) (a : zwp C own ret (.iastore) pc ls st m Q K) : zwp C own ret (.iastore) pc ls st m Q' K' := by
    exact zast_m h a
theorem zm_bastore (hC : zCm C) (h : zLe K K') (hQ : ∀ o n, Q o n → Q' o n) (a : zwp C own ret (.bastore) pc ls st m Q K) : zwp C own ret (.bastore) pc ls st m Q' K' := by
    exact zbst_m h a
theorem zm_laload (hC : zCm C) (h : zLe K K') (hQ : ∀ o n, Q o n → Q' o n) (a : zwp C own ret (.laload) pc ls st m Q K) : zwp C own ret (.laload) pc ls st m Q' K' := by
    exact zlld_m h a
theorem zm_lastore (hC : zCm C) (h : zLe K K') (hQ : ∀ o n, Q o n → Q' o n) (a : zwp C own ret (.lastore) pc ls st m Q K) : zwp C own ret (.lastore) pc ls st m Q' K' := by
    exact zlst_m h a
theorem zm_aaload (hC : zCm C) (h : zLe K K') (hQ : ∀ o n, Q o n → Q' o n) (a : zwp C own ret (.aaload) pc ls st m Q K) : zwp C own ret (.aaload) pc ls st m Q' K' := by
    exact zqld_m h a
theorem zm_arraylength (hC : zCm C) (h : zLe K K') (hQ : ∀ o n, Q o n → Q' o n) (a : zwp C own ret (.arraylength) pc ls st m Q K) : zwp C own ret (.arraylength) pc ls st m Q' K' := by
    exact zaln_m h a
theorem zm_iadd (hC : zCm C) (h : zLe K K') (hQ : ∀ o n, Q o n → Q' o n) (a : zwp C own ret (.iadd) pc ls st m Q K) : zwp C own ret (.iadd) pc ls st m Q' K' := by
    exact zi2_m (fun x y r => h _ _ _ _) a
theorem zm_isub (hC : zCm C) (h : zLe K K') (hQ : ∀ o n, Q o n → Q' o n) (a : zwp C own ret (.isub) pc ls st m Q K) : zwp C own ret (.isub) pc ls st m Q' K' := by
    exact zi2_m (fun x y r => h _ _ _ _) a
theorem zm_imul (hC : zCm C) (h : zLe K K') (hQ : ∀ o n, Q o n → Q' o n) (a : zwp C own ret (.imul) pc ls st m Q K) : zwp C own ret (.imul) pc ls st m Q' K' := by
    exact zi2_m (fun x y r => h _ _ _ _) a
theorem zm_iand (hC : zCm C) (h : zLe K K') (hQ : ∀ o n, Q o n → Q' o n) (a : zwp C own ret (.iand) pc ls st m Q K) : zwp C own ret (.iand) pc ls st m Q' K' := by
    exact zi2_m (fun x y r => h _ _ _ _) a
theorem zm_ior (hC : zCm C) (h : zLe K K') (hQ : ∀ o n, Q o n → Q' o n) (a : zwp C own ret (.ior) pc ls st m Q K) : zwp C own ret (.ior) pc ls st m Q' K' := by
    exact zi2_m (fun x y r => h _ _ _ _) a
theorem zm_ixor (hC : zCm C) (h : zLe K K') (hQ : ∀ o n, Q o n → Q' o n) (a : zwp C own ret (.ixor) pc ls st m Q K) : zwp C own ret (.ixor) pc ls st m Q' K' := by
    exact zi2_m (fun x y r => h _ _ _ _) a
theorem zm_ishl (hC : zCm C) (h : zLe K K') (hQ : ∀ o n, Q o n → Q' o n) (a : zwp C own ret (.ishl) pc ls st m Q K) : zwp C own ret (.ishl) pc ls st m Q' K' := by
    exact zi2_m (fun x y r => h _ _ _ _) a
theorem zm_ishr (hC : zCm C) (h : zLe K K') (hQ : ∀ o n, Q o n → Q' o n) (a : zwp C own ret (.ishr) pc ls st m Q K) : zwp C own ret (.ishr) pc ls st m Q' K' := by
    exact zi2_m (fun x y r => h _ _ _ _) a
theorem zm_iushr (hC : zCm C) (h : zLe K K') (hQ : ∀ o n, Q o n → Q' o n) (a : zwp C own ret (.iushr) pc ls st m Q K) : zwp C own ret (.iushr) pc ls st m Q' K' := by
    exact zi2_m (fun x y r => h _ _ _ _) a
theorem zm_idiv (hC : zCm C) (h : zLe K K') (hQ : ∀ o n, Q o n → Q' o n) (a : zwp C own ret (.idiv) pc ls st m Q K) : zwp C own ret (.idiv) pc ls st m Q' K' := by
    exact zi2_m (fun x y r q => ⟨q.1, h _ _ _ _ q.2⟩) a
theorem zm_irem (hC : zCm C) (h : zLe K K') (hQ : ∀ o n, Q o n → Q' o n) (a : zwp C own ret (.irem) pc ls st m Q K) : zwp C own ret (.irem) pc ls st m Q' K' := by
    exact zi2_m (fun x y r q => ⟨q.1, h _ _ _ _ q.2⟩) a
theorem zm_ineg (hC : zCm C) (h : zLe K K') (hQ : ∀ o n, Q o n → Q' o n) (a : zwp C own ret (.ineg) pc ls st m Q K) : zwp C own ret (.ineg) pc ls st m Q' K' := by
    exact zi1_m (fun x r => h _ _ _ _) a
theorem zm_i2l (hC : zCm C) (h : zLe K K') (hQ : ∀ o n, Q o n → Q' o n) (a : zwp C own ret (.i2l) pc ls st m Q K) : zwp C own ret (.i2l) pc ls st m Q' K' := by
    exact zi1_m (fun x r => h _ _ _ _) a
theorem zm_i2b (hC : zCm C) (h : zLe K K') (hQ : ∀ o n, Q o n → Q' o n) (a : zwp C own ret (.i2b) pc ls st m Q K) : zwp C own ret (.i2b) pc ls st m Q' K' := by
    exact zi1_m (fun x r => h _ _ _ _) a
theorem zm_i2s (hC : zCm C) (h : zLe K K') (hQ : ∀ o n, Q o n → Q' o n) (a : zwp C own ret (.i2s) pc ls st m Q K) : zwp C own ret (.i2s) pc ls st m Q' K' := by
    exact zi1_m (fun x r => h _ _ _ _) a
theorem zm_i2c (hC : zCm C) (h : zLe K K') (hQ : ∀ o n, Q o n → Q' o n) (a : zwp C own ret (.i2c) pc ls st m Q K) : zwp C own ret (.i2c) pc ls st m Q' K' := by
    exact zi1_m (fun x r => h _ _ _ _) a
theorem zm_l2i (hC : zCm C) (h : zLe K K') (hQ : ∀ o n, Q o n → Q' o n) (a : zwp C own ret (.l2i) pc ls st m Q K) : zwp C own ret (.l2i) pc ls st m Q' K' := by
    exact zj1_m (fun x r => h _ _ _ _) a
theorem zm_land (hC : zCm C) (h : zLe K K') (hQ : ∀ o n, Q o n → Q' o n) (a : zwp C own ret (.land) pc ls st m Q K) : zwp C own ret (.land) pc ls st m Q' K' := by
    exact zj2_m (fun x y r => h _ _ _ _) a
theorem zm_lor (hC : zCm C) (h : zLe K K') (hQ : ∀ o n, Q o n → Q' o n) (a : zwp C own ret (.lor) pc ls st m Q K) : zwp C own ret (.lor) pc ls st m Q' K' := by
    exact zj2_m (fun x y r => h _ _ _ _) a
theorem zm_lcmp (hC : zCm C) (h : zLe K K') (hQ : ∀ o n, Q o n → Q' o n) (a : zwp C own ret (.lcmp) pc ls st m Q K) : zwp C own ret (.lcmp) pc ls st m Q' K' := by
    exact zj2_m (fun x y r => h _ _ _ _) a
theorem zm_lshl (hC : zCm C) (h : zLe K K') (hQ : ∀ o n, Q o n → Q' o n) (a : zwp C own ret (.lshl) pc ls st m Q K) : zwp C own ret (.lshl) pc ls st m Q' K' := by
    exact zji_m (fun x y r => h _ _ _ _) a
theorem zm_if_icmp (hC : zCm C) (h : zLe K K') (hQ : ∀ o n, Q o n → Q' o n) (v0 : ClassFile.Cond) (v1 : Int) (a : zwp C own ret (.if_icmp v0 v1) pc ls st m Q K) : zwp C own ret (.if_icmp v0 v1) pc ls st m Q' K' := by
    exact zi2_m (fun x y r q => zite_m (h _ _ _ _) (h _ _ _ _) q) a
theorem zm_ifCond (hC : zCm C) (h : zLe K K') (hQ : ∀ o n, Q o n → Q' o n) (v0 : ClassFile.Cond) (v1 : Int) (a : zwp C own ret (.ifCond v0 v1) pc ls st m Q K) : zwp C own ret (.ifCond v0 v1) pc ls st m Q' K' := by
    exact zi1_m (fun x r q => zite_m (h _ _ _ _) (h _ _ _ _) q) a
theorem zm_tableswitch (hC : zCm C) (h : zLe K K') (hQ : ∀ o n, Q o n → Q' o n) (v0 : Int) (v1 : Int) (v2 : Int) (v3 : Array Int) (a : zwp C own ret (.tableswitch v0 v1 v2 v3) pc ls st m Q K) : zwp C own ret (.tableswitch v0 v1 v2 v3) pc ls st m Q' K' := by
    exact zi1_m (fun x r => zlk_m h _) a
theorem zm_lookupswitch (hC : zCm C) (h : zLe K K') (hQ : ∀ o n, Q o n → Q' o n) (v0 : Int) (v1 : Array (Int × Int)) (a : zwp C own ret (.lookupswitch v0 v1) pc ls st m Q K) : zwp C own ret (.lookupswitch v0 v1) pc ls st m Q' K' := by
    exact zi1_m (fun x r => zlk_m h _) a
theorem zm_invokevirtual (hC : zCm C) (h : zLe K K') (hQ : ∀ o n, Q o n → Q' o n) (v0 : Nat) (a : zwp C own ret (.invokevirtual v0) pc ls st m Q K) : zwp C own ret (.invokevirtual v0) pc ls st m Q' K' := by
    exact zinv_m hC h a
theorem zm_invokestatic (hC : zCm C) (h : zLe K K') (hQ : ∀ o n, Q o n → Q' o n) (v0 : Nat) (a : zwp C own ret (.invokestatic v0) pc ls st m Q K) : zwp C own ret (.invokestatic v0) pc ls st m Q' K' := by
    exact zinv_m hC h a
theorem zm_dup (hC : zCm C) (h : zLe K K') (hQ : ∀ o n, Q o n → Q' o n) (a : zwp C own ret (.dup) pc ls st m Q K) : zwp C own ret (.dup) pc ls st m Q' K' := by
    unfold zwp at a ⊢
    dsimp only at a ⊢
    split at a
    · exact h _ _ _ _ a
    · exact h _ _ _ _ a
    · exact a.elim
theorem zm_dup2 (hC : zCm C) (h : zLe K K') (hQ : ∀ o n, Q o n → Q' o n) (a : zwp C own ret (.dup2) pc ls st m Q K) : zwp C own ret (.dup2) pc ls st m Q' K' := by
    unfold zwp at a ⊢
    dsimp only at a ⊢
    split at a
    · exact h _ _ _ _ a
    · exact h _ _ _ _ a
    · exact a.elim
theorem zm_pop (hC : zCm C) (h : zLe K K') (hQ : ∀ o n, Q o n → Q' o n) (a : zwp C own ret (.pop) pc ls st m Q K) : zwp C own ret (.pop) pc ls st m Q' K' := by
    unfold zwp at a ⊢
    dsimp only at a ⊢
    split at a
    · exact h _ _ _ _ a
    · exact h _ _ _ _ a
    · exact a.elim
theorem zm_ifnull (hC : zCm C) (h : zLe K K') (hQ : ∀ o n, Q o n → Q' o n) (v0 : Int) (a : zwp C own ret (.ifnull v0) pc ls st m Q K) : zwp C own ret (.ifnull v0) pc ls st m Q' K' := by
    unfold zwp at a ⊢
    dsimp only at a ⊢
    split at a
    · exact h _ _ _ _ a
    · exact ⟨a.1, h _ _ _ _ a.2⟩
    · exact a.elim
theorem zm_ifnonnull (hC : zCm C) (h : zLe K K') (hQ : ∀ o n, Q o n → Q' o n) (v0 : Int) (a : zwp C own ret (.ifnonnull v0) pc ls st m Q K) : zwp C own ret (.ifnonnull v0) pc ls st m Q' K' := by
    unfold zwp at a ⊢
    dsimp only at a ⊢
    split at a
    · exact h _ _ _ _ a
    · exact ⟨a.1, h _ _ _ _ a.2⟩
    · exact a.elim
theorem zm_getstatic (hC : zCm C) (h : zLe K K') (hQ : ∀ o n, Q o n → Q' o n) (v0 : Nat) (a : zwp C own ret (.getstatic v0) pc ls st m Q K) : zwp C own ret (.getstatic v0) pc ls st m Q' K' := by
    unfold zwp at a ⊢
    dsimp only at a ⊢
    cases hv : zlv (zgt own) v0 with
    | none => rw [hv] at a; exact a.elim
    | some v => rw [hv] at a; exact h _ _ _ _ a
theorem zm_ldc (hC : zCm C) (h : zLe K K') (hQ : ∀ o n, Q o n → Q' o n) (v0 : Nat) (a : zwp C own ret (.ldc v0) pc ls st m Q K) : zwp C own ret (.ldc v0) pc ls st m Q' K' := by
    unfold zwp at a ⊢
    dsimp only at a ⊢
    cases hv : zlv (zlt own) v0 with
    | none => rw [hv] at a; exact a.elim
    | some v =>
      rw [hv] at a
      cases v with
      | ref q => exact h _ _ _ _ a
      | _ => exact a.elim
theorem zm_ldc_w (hC : zCm C) (h : zLe K K') (hQ : ∀ o n, Q o n → Q' o n) (v0 : Nat) (a : zwp C own ret (.ldc_w v0) pc ls st m Q K) : zwp C own ret (.ldc_w v0) pc ls st m Q' K' := by
    unfold zwp at a ⊢
    dsimp only at a ⊢
    cases hv : zlv (zlt own) v0 with
    | none => rw [hv] at a; exact a.elim
    | some v =>
      rw [hv] at a
      cases v with
      | int q => exact h _ _ _ _ a
      | _ => exact a.elim
theorem zm_ldc2_w (hC : zCm C) (h : zLe K K') (hQ : ∀ o n, Q o n → Q' o n) (v0 : Nat) (a : zwp C own ret (.ldc2_w v0) pc ls st m Q K) : zwp C own ret (.ldc2_w v0) pc ls st m Q' K' := by
    unfold zwp at a ⊢
    dsimp only at a ⊢
    cases hv : zlv (zlt own) v0 with
    | none => rw [hv] at a; exact a.elim
    | some v =>
      rw [hv] at a
      cases v with
      | long q => exact h _ _ _ _ a
      | _ => exact a.elim
theorem zm_iinc (hC : zCm C) (h : zLe K K') (hQ : ∀ o n, Q o n → Q' o n) (v0 : Nat) (v1 : Int) (a : zwp C own ret (.iinc v0 v1) pc ls st m Q K) : zwp C own ret (.iinc v0 v1) pc ls st m Q' K' := by
    unfold zwp at a ⊢
    dsimp only at a ⊢
    cases hv : zget ls v0 with
    | int x =>
      rw [hv] at a
      dsimp only at a ⊢
      cases hk : zok ls v0 with
      | false => rw [hk] at a; exact a.elim
      | true => rw [hk] at a; exact h _ _ _ _ a
    | _ => rw [hv] at a; exact a.elim
theorem zm_ireturn (hC : zCm C) (h : zLe K K') (hQ : ∀ o n, Q o n → Q' o n) (a : zwp C own ret (.ireturn) pc ls st m Q K) : zwp C own ret (.ireturn) pc ls st m Q' K' := by
    unfold zwp at a ⊢
    dsimp only at a ⊢
    split at a
    · exact zrn_m (hQ _ _) a
    · exact a.elim
theorem zm_lreturn (hC : zCm C) (h : zLe K K') (hQ : ∀ o n, Q o n → Q' o n) (a : zwp C own ret (.lreturn) pc ls st m Q K) : zwp C own ret (.lreturn) pc ls st m Q' K' := by
    unfold zwp at a ⊢
    dsimp only at a ⊢
    split at a
    · exact zrnl_m (hQ _ _) a
    · exact a.elim
theorem zm_areturn (hC : zCm C) (h : zLe K K') (hQ : ∀ o n, Q o n → Q' o n) (a : zwp C own ret (.areturn) pc ls st m Q K) : zwp C own ret (.areturn) pc ls st m Q' K' := by
    unfold zwp at a ⊢
    dsimp only at a ⊢
    split at a
    · exact zrna_m (hQ _ _) a
    · exact a.elim
theorem zm_return_ (hC : zCm C) (h : zLe K K') (hQ : ∀ o n, Q o n → Q' o n) (a : zwp C own ret (.return_) pc ls st m Q K) : zwp C own ret (.return_) pc ls st m Q' K' := by
    unfold zwp at a ⊢
    dsimp only at a ⊢
    split at a
    · exact zrnv_m (hQ _ _) a
    · exact a.elim
theorem zwp_m (hC : zCm C) (h : zLe K K') (hQ : ∀ o n, Q o n → Q' o n) {i : Instr} (a : zwp C own ret i pc ls st m Q K) : zwp C own ret i pc ls st m Q' K' := by
  cases i
  case aload_n _ => exact zm_aload_n hC h hQ _ a
  case aload _ => exact zm_aload hC h hQ _ a
  case iload_n _ => exact zm_iload_n hC h hQ _ a
  case iload _ => exact zm_iload hC h hQ _ a
  case lload_n _ => exact zm_lload_n hC h hQ _ a
  case istore_n _ => exact zm_istore_n hC h hQ _ a
  case istore _ => exact zm_istore hC h hQ _ a
  case astore_n _ => exact zm_astore_n hC h hQ _ a
  case astore _ => exact zm_astore hC h hQ _ a
  case iconst _ => exact zm_iconst hC h hQ _ a
  case bipush _ => exact zm_bipush hC h hQ _ a
  case sipush _ => exact zm_sipush hC h hQ _ a
  case lconst _ => exact zm_lconst hC h hQ _ a
  case goto _ => exact zm_goto hC h hQ _ a
  case getfield _ => exact zm_getfield hC h hQ _ a
  case putfield _ => exact zm_putfield hC h hQ _ a
  case iaload => exact zm_iaload hC h hQ a
  case baload => exact zm_baload hC h hQ a
  case iastore => exact zm_iastore hC h hQ a
  case bastore => exact zm_bastore hC h hQ a
  case laload => exact zm_laload hC h hQ a
  case lastore => exact zm_lastore hC h hQ a
  case aaload => exact zm_aaload hC h hQ a
  case arraylength => exact zm_arraylength hC h hQ a
  case iadd => exact zm_iadd hC h hQ a
  case isub => exact zm_isub hC h hQ a
  case imul => exact zm_imul hC h hQ a
  case iand => exact zm_iand hC h hQ a
  case ior => exact zm_ior hC h hQ a
  case ixor => exact zm_ixor hC h hQ a
  case ishl => exact zm_ishl hC h hQ a
  case ishr => exact zm_ishr hC h hQ a
  case iushr => exact zm_iushr hC h hQ a
  case idiv => exact zm_idiv hC h hQ a
  case irem => exact zm_irem hC h hQ a
  case ineg => exact zm_ineg hC h hQ a
  case i2l => exact zm_i2l hC h hQ a
  case i2b => exact zm_i2b hC h hQ a
  case i2s => exact zm_i2s hC h hQ a
  case i2c => exact zm_i2c hC h hQ a
  case l2i => exact zm_l2i hC h hQ a
  case land => exact zm_land hC h hQ a
  case lor => exact zm_lor hC h hQ a
  case lcmp => exact zm_lcmp hC h hQ a
  case lshl => exact zm_lshl hC h hQ a
  case if_icmp _ _ => exact zm_if_icmp hC h hQ _ _ a
  case ifCond _ _ => exact zm_ifCond hC h hQ _ _ a
  case tableswitch _ _ _ _ => exact zm_tableswitch hC h hQ _ _ _ _ a
  case lookupswitch _ _ => exact zm_lookupswitch hC h hQ _ _ a
  case invokevirtual _ => exact zm_invokevirtual hC h hQ _ a
  case invokestatic _ => exact zm_invokestatic hC h hQ _ a
  case dup => exact zm_dup hC h hQ a
  case dup2 => exact zm_dup2 hC h hQ a
  case pop => exact zm_pop hC h hQ a
  case ifnull _ => exact zm_ifnull hC h hQ _ a
  case ifnonnull _ => exact zm_ifnonnull hC h hQ _ a
  case getstatic _ => exact zm_getstatic hC h hQ _ a
  case ldc _ => exact zm_ldc hC h hQ _ a
  case ldc_w _ => exact zm_ldc_w hC h hQ _ a
  case ldc2_w _ => exact zm_ldc2_w hC h hQ _ a
  case iinc _ _ => exact zm_iinc hC h hQ _ _ a
  case ireturn => exact zm_ireturn hC h hQ a
  case lreturn => exact zm_lreturn hC h hQ a
  case areturn => exact zm_areturn hC h hQ a
  case return_ => exact zm_return_ hC h hQ a
  all_goals exact a.elim
theorem zstep_m {cd : List (Nat × Instr)} (hC : zCm C) (h : zLe K K') (hQ : ∀ o n, Q o n → Q' o n) (a : zstep C own ret cd Q K pc ls st m) : zstep C own ret cd Q' K' pc ls st m := by
  unfold zstep at a ⊢
  split at a
  · exact a
  · exact zwp_m hC h hQ a
theorem zRun_step {cd : List (Nat × Instr)} (hC : zCm C) (a : zstep C own ret cd Q (zRun C own ret cd Q) pc ls st m) : zRun C own ret cd Q pc ls st m :=
  fun K hK => hK _ _ _ _ (zstep_m hC (fun _ _ _ _ h => h K hK) (fun _ _ h => h) a)
theorem zRun_m {cd : List (Nat × Instr)} (hC : zCm C) (hQ : ∀ o n, Q o n → Q' o n) (a : zRun C own ret cd Q pc ls st m) : zRun C own ret cd Q' pc ls st m :=
  a (zRun C own ret cd Q') fun _ _ _ _ h => zRun_step hC (zstep_m hC (fun _ _ _ _ h => h) hQ h)
theorem zCall_m : ∀ d, zCm (zCall d)
  | 0 => fun _ _ _ _ _ _ h => h.elim
  | d + 1 => by
    intro mi a m Q Q' hQ h
    unfold zCall at h ⊢
    split at h
    · exact ⟨h.1, zRun_m (zCall_m d) hQ h.2⟩
    · exact h.elim
end ZM
