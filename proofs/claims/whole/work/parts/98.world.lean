/-! the world at the start, as the places have it -/
def lwix (p : Nat) : Nat := (bif Nat.ble p 90 then (bif Nat.ble p 55 then (bif Nat.ble p 37 then (bif Nat.ble p 28 then (bif Nat.ble p 24 then (bif Nat.ble p 22 then (bif Nat.ble p 21 then (bif Nat.ble p 20 then 0 else 1) else 2) else (bif Nat.ble p 23 then 3 else 4)) else (bif Nat.ble p 26 then (bif Nat.ble p 25 then 5 else 12) else (bif Nat.ble p 27 then 6 else 7))) else (bif Nat.ble p 33 then (bif Nat.ble p 31 then (bif Nat.ble p 30 then (bif Nat.ble p 29 then 8 else 9) else 10) else (bif Nat.ble p 32 then 11 else 13)) else (bif Nat.ble p 35 then (bif Nat.ble p 34 then 14 else 15) else (bif Nat.ble p 36 then 16 else 17)))) else (bif Nat.ble p 46 then (bif Nat.ble p 42 then (bif Nat.ble p 40 then (bif Nat.ble p 39 then (bif Nat.ble p 38 then 24 else 18) else 19) else (bif Nat.ble p 41 then 20 else 21)) else (bif Nat.ble p 44 then (bif Nat.ble p 43 then 22 else 23) else (bif Nat.ble p 45 then 59 else 60))) else (bif Nat.ble p 51 then (bif Nat.ble p 49 then (bif Nat.ble p 48 then (bif Nat.ble p 47 then 61 else 62) else 63) else (bif Nat.ble p 50 then 70 else 64)) else (bif Nat.ble p 53 then (bif Nat.ble p 52 then 65 else 66) else (bif Nat.ble p 54 then 67 else 68))))) else (bif Nat.ble p 73 then (bif Nat.ble p 64 then (bif Nat.ble p 60 then (bif Nat.ble p 58 then (bif Nat.ble p 57 then (bif Nat.ble p 56 then 69 else 25) else 26) else (bif Nat.ble p 59 then 27 else 28)) else (bif Nat.ble p 62 then (bif Nat.ble p 61 then 29 else 30) else (bif Nat.ble p 63 then 31 else 32))) else (bif Nat.ble p 69 then (bif Nat.ble p 67 then (bif Nat.ble p 66 then (bif Nat.ble p 65 then 33 else 34) else 35) else (bif Nat.ble p 68 then 36 else 37)) else (bif Nat.ble p 71 then (bif Nat.ble p 70 then 38 else 39) else (bif Nat.ble p 72 then 40 else 41)))) else (bif Nat.ble p 82 then (bif Nat.ble p 78 then (bif Nat.ble p 76 then (bif Nat.ble p 75 then (bif Nat.ble p 74 then 42 else 43) else 44) else (bif Nat.ble p 77 then 45 else 46)) else (bif Nat.ble p 80 then (bif Nat.ble p 79 then 47 else 48) else (bif Nat.ble p 81 then 49 else 50))) else (bif Nat.ble p 86 then (bif Nat.ble p 84 then (bif Nat.ble p 83 then 51 else 52) else (bif Nat.ble p 85 then 53 else 54)) else (bif Nat.ble p 88 then (bif Nat.ble p 87 then 55 else 56) else (bif Nat.ble p 89 then 57 else 58)))))) else (bif Nat.ble p 125 then (bif Nat.ble p 108 then (bif Nat.ble p 99 then (bif Nat.ble p 95 then (bif Nat.ble p 93 then (bif Nat.ble p 92 then (bif Nat.ble p 91 then 77 else 71) else 72) else (bif Nat.ble p 94 then 73 else 74)) else (bif Nat.ble p 97 then (bif Nat.ble p 96 then 75 else 76) else (bif Nat.ble p 98 then 78 else 79))) else (bif Nat.ble p 104 then (bif Nat.ble p 102 then (bif Nat.ble p 101 then (bif Nat.ble p 100 then 80 else 81) else 82) else (bif Nat.ble p 103 then 83 else 84)) else (bif Nat.ble p 106 then (bif Nat.ble p 105 then 85 else 86) else (bif Nat.ble p 107 then 87 else 88)))) else (bif Nat.ble p 117 then (bif Nat.ble p 113 then (bif Nat.ble p 111 then (bif Nat.ble p 110 then (bif Nat.ble p 109 then 89 else 90) else 91) else (bif Nat.ble p 112 then 92 else 93)) else (bif Nat.ble p 115 then (bif Nat.ble p 114 then 94 else 95) else (bif Nat.ble p 116 then 96 else 97))) else (bif Nat.ble p 121 then (bif Nat.ble p 119 then (bif Nat.ble p 118 then 98 else 99) else (bif Nat.ble p 120 then 100 else 101)) else (bif Nat.ble p 123 then (bif Nat.ble p 122 then 102 else 103) else (bif Nat.ble p 124 then 104 else 105))))) else (bif Nat.ble p 143 then (bif Nat.ble p 134 then (bif Nat.ble p 130 then (bif Nat.ble p 128 then (bif Nat.ble p 127 then (bif Nat.ble p 126 then 106 else 107) else 108) else (bif Nat.ble p 129 then 109 else 110)) else (bif Nat.ble p 132 then (bif Nat.ble p 131 then 111 else 112) else (bif Nat.ble p 133 then 113 else 114))) else (bif Nat.ble p 139 then (bif Nat.ble p 137 then (bif Nat.ble p 136 then (bif Nat.ble p 135 then 115 else 116) else 117) else (bif Nat.ble p 138 then 118 else 119)) else (bif Nat.ble p 141 then (bif Nat.ble p 140 then 120 else 121) else (bif Nat.ble p 142 then 122 else 123)))) else (bif Nat.ble p 152 then (bif Nat.ble p 148 then (bif Nat.ble p 146 then (bif Nat.ble p 145 then (bif Nat.ble p 144 then 124 else 125) else 126) else (bif Nat.ble p 147 then 127 else 128)) else (bif Nat.ble p 150 then (bif Nat.ble p 149 then 129 else 130) else (bif Nat.ble p 151 then 131 else 132))) else (bif Nat.ble p 156 then (bif Nat.ble p 154 then (bif Nat.ble p 153 then 133 else 134) else (bif Nat.ble p 155 then 135 else 136)) else (bif Nat.ble p 158 then (bif Nat.ble p 157 then 137 else 138) else (bif Nat.ble p 159 then 139 else 140)))))))
def lwiy : List Nat := [20, 21, 22, 23, 24, 25, 27, 28, 29, 30, 31, 32, 26, 33, 34, 35, 36, 37, 39, 40, 41, 42, 43, 44, 38, 57, 58, 59, 60, 61, 62, 63, 64, 65, 66, 67, 68, 69, 70, 71, 72, 73, 74, 75, 76, 77, 78, 79, 80, 81, 82, 83, 84, 85, 86, 87, 88, 89, 90, 45, 46, 47, 48, 49, 51, 52, 53, 54, 55, 56, 50, 92, 93, 94, 95, 96, 97, 91, 98, 99, 100, 101, 102, 103, 104, 105, 106, 107, 108, 109, 110, 111, 112, 113, 114, 115, 116, 117, 118, 119, 120, 121, 122, 123, 124, 125, 126, 127, 128, 129, 130, 131, 132, 133, 134, 135, 136, 137, 138, 139, 140, 141, 142, 143, 144, 145, 146, 147, 148, 149, 150, 151, 152, 153, 154, 155, 156, 157, 158, 159, 160]
def lwB (a a' : Nat → Nat) (i : Nat) : Nat := bif Nat.blt i 93 then a i else a' (i - 93)
def lwA (adS a a' : Nat → Nat) (p : Nat) : Nat := bif Nat.blt p 20 then adS p else lwB a a' (lwix p)
theorem lwix_ok : ∀ p, p < 161 → 20 ≤ p → zln lwiy (lwix p) = p ∧ lwix p < 141 := by decide +kernel
theorem lwA_at {adS a a' : Nat → Nat} {p : Nat} (h : 20 ≤ p) : lwA adS a a' p = lwB a a' (lwix p) := by
  unfold lwA
  cases hb : Nat.blt p 20 with
  | false => rfl
  | true =>
    have h1 : p + 1 ≤ 20 := Nat.le_of_ble_eq_true hb
    omega
theorem lwA_low {adS a a' : Nat → Nat} : ∀ p, p < 20 → lwA adS a a' p = adS p := by
  intro p hp
  rcases (show p = 0 ∨ p = 1 ∨ p = 2 ∨ p = 3 ∨ p = 4 ∨ p = 5 ∨ p = 6 ∨ p = 7 ∨ p = 8 ∨ p = 9 ∨ p = 10 ∨ p = 11 ∨ p = 12 ∨ p = 13 ∨ p = 14 ∨ p = 15 ∨ p = 16 ∨ p = 17 ∨ p = 18 ∨ p = 19 by omega) with rfl | rfl | rfl | rfl | rfl | rfl | rfl | rfl | rfl | rfl | rfl | rfl | rfl | rfl | rfl | rfl | rfl | rfl | rfl | rfl <;> rfl
set_option maxHeartbeats 4000000 in
set_option maxRecDepth 100000 in
theorem lw_fst (cA : Nat → ClassId) (a a' : Nat → Nat) : (kw_Box cA a ++ kw_Mod cA a').map Prod.fst = (List.range 141).map (lwB a a') := rfl
theorem lw_ad {base : Nat} {cA : Nat → ClassId} {adS a a' : Nat → Nat} (hD : va_D (zA base) (kw_Box cA a ++ kw_Mod cA a')) : zAd base (lwA adS a a') := by
  have key : ∀ i, i < 141 → ∃ z, (kw_Box cA a ++ kw_Mod cA a')[i]? = some z ∧ z.1 = lwB a a' i := fun i hi => by
    have h1 : ((kw_Box cA a ++ kw_Mod cA a').map Prod.fst)[i]? = some (lwB a a' i) := by
      rw [lw_fst, List.getElem?_map, List.getElem?_range hi]
      rfl
    rw [List.getElem?_map] at h1
    cases hz : (kw_Box cA a ++ kw_Mod cA a')[i]? with
    | none => rw [hz] at h1; cases h1
    | some z => rw [hz] at h1; exact ⟨z, rfl, Option.some.inj h1⟩
  refine ⟨fun p q hp hq e => ?_, fun p hp => ?_⟩
  · rw [lwA_at hp.1, lwA_at hq.1] at e
    obtain ⟨p1, p2⟩ := lwix_ok p hp.2 hp.1
    obtain ⟨q1, q2⟩ := lwix_ok q hq.2 hq.1
    obtain ⟨z, z1, z2⟩ := key _ p2
    obtain ⟨y, y1, y2⟩ := key _ q2
    have h := hD.1 _ _ z y z1 y1 (z2.trans (e.trans y2.symm))
    rw [← p1, ← q1, h]
  · rw [lwA_at hp.1]
    obtain ⟨p1, p2⟩ := lwix_ok p hp.2 hp.1
    obtain ⟨z, z1, z2⟩ := key _ p2
    rw [← z2]
    exact hD.2 _ z z1
theorem kP_R {D : va_G} {H : Heap} {ws : va_W} {q n : Nat} {k : ClassId} (h : va_P D vwCl ws H) (i : Nat) {f g : Nat → Option Nat} (hx : ws[i]? = some (q, .inl (k, n, .inr (.inr (.inr (.inr f)))))) (hfg : ∀ j, j < n → f j = g j) : va_P D vwCl (ws.set i (q, .inl (k, n, .inr (.inr (.inr (.inr g)))))) H :=
  kP_set i hx (fun t => by
    have t : H[q]? = some (vp_cell k (n, .inr (.inr (.inr (.inr f))))) := t
    show H[q]? = some (vp_cell k (n, .inr (.inr (.inr (.inr g)))))
    rw [← kcellR hfg]
    exact t) h
set_option maxHeartbeats 4000000 in
set_option maxRecDepth 100000 in
theorem lw_world {D : va_G} {cA : Nat → ClassId} {adS a a' : Nat → Nat} {tb : Nat → Nat → Int32} {H : Heap} (hP : va_P D vwCl (kw_Box cA a ++ kw_Mod cA a') H) : zWo D cA (lwA adS a a') (zm0 tb) H := by
  have h1 := kP_R hP 25 rfl (g := fun j => some (lwA adS a a' (zrf 57 j))) (fun j hj => by rcases (show j = 0 ∨ j = 1 ∨ j = 2 ∨ j = 3 ∨ j = 4 ∨ j = 5 by omega) with rfl | rfl | rfl | rfl | rfl | rfl <;> rfl)
  have h2 := kP_R h1 80 rfl (g := fun j => some (lwA adS a a' (zrf 100 j))) (fun j hj => by rcases (show j = 0 ∨ j = 1 ∨ j = 2 ∨ j = 3 ∨ j = 4 ∨ j = 5 by omega) with rfl | rfl | rfl | rfl | rfl | rfl <;> rfl)
  exact h2.sub (ws' := zws cA (lwA adS a a') (zm0 tb)) [0, 1, 2, 3, 4, 5, 12, 6, 7, 8, 9, 10, 11, 13, 14, 15, 16, 17, 24, 18, 19, 20, 21, 22, 23, 59, 60, 61, 62, 63, 70, 64, 65, 66, 67, 68, 69, 25, 26, 27, 28, 29, 30, 31, 32, 33, 34, 35, 36, 37, 38, 39, 40, 41, 42, 43, 44, 45, 46, 47, 48, 49, 50, 51, 52, 53, 54, 55, 56, 57, 58, 77, 71, 72, 73, 74, 75, 76, 78, 79, 80, 81, 82, 83, 84, 85, 86, 87, 88, 89, 90, 91, 92, 93, 94, 95, 96, 97, 98, 99, 100, 101, 102, 103, 104, 105, 106, 107, 108, 109, 110, 111, 112, 113, 114, 115, 116, 117, 118, 119, 120, 121, 122, 123, 124, 125, 126, 127, 128, 129, 130, 131, 132, 133, 134, 135, 136, 137, 138, 139, 140] rfl
