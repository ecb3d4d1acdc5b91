/-! CUTTING A WINDOW INTO MINUTES, HOURS AND DAYS -/
def up (len t : Nat) : Nat := (t + len - 1) / len * len
def wcut (f t k : Nat) : Nat :=
  if k = 0 then f
  else if 5 ≤ k then t
  else if up 3600 f < bg 3600 t then
    (if k = 1 then up 3600 f else if k = 4 then bg 3600 t
      else if up 86400 f < bg 86400 t then (if k = 2 then up 86400 f else bg 86400 t) else bg 3600 t)
  else t
theorem lN_one : (1 : Int64) = lN 1 := by decide
theorem sp_X4_roundUp {m : MM} {a l : Nat} (ha : a < 2 ^ 31) (hl : 0 < l) (hl2 : l < 2 ^ 31) {Q : Int64 → MM → Prop} (hq : Q (lN (up l a)) m) : wp_X4_roundUp (nI a) (nI l) m Q := by
  unfold wp_X4_roundUp
  intro x1 e
  have e1 : x1 = lN (a + l - 1) := by
    rw [e, nI_l ha, nI_l hl2, lN_add, lN_one, lN_sub (by omega)]
  have hb : (1 : Int32) ≤ nI l := (nI_leI (a := 1) (by omega) hl2).mpr (by omega)
  refine ⟨fun _ => ⟨?_, ?_⟩, fun z => absurd hb z⟩
  · rw [nI_l hl2]
    intro z
    have := (pk_lEQ (a := l) (b := 0) (by omega) (by omega)).mp z
    omega
  · rw [e1, nI_l hl2, pk_lRem (by omega) hl (by omega), lN_sub (Nat.mod_le _ _)]
    have e2 : a + l - 1 - (a + l - 1) % l = up l a := by
      unfold up
      have := Nat.div_add_mod (a + l - 1) l
      rw [Nat.mul_comm] at this
      omega
    rw [e2]
    exact hq
theorem sp_X4_cutHours {m : MM} {w : Nat} {p q : Int32} (hK : mK m w = 5) {Q : MM → Prop} (hq : ∀ m', mI m' 80 w = mI m 80 w → mI m' 81 w = p → mI m' 82 w = q → mI m' 83 w = q → mI m' 84 w = q → mI m' 85 w = mI m 85 w → mK m' w = 5 → Fr (fun y => y = w) m m' → Q m') : wp_X4_cutHours w p q m Q := by
  unfold wp_X4_cutHours
  refine ⟨hK, fun m2 e2 => ?_⟩
  have k2 : mK m2 w = 5 := by rw [e2]; exact hK
  refine ⟨k2, fun m4 e4 => ?_⟩
  have k4 : mK m4 w = 5 := by rw [e4]; exact k2
  refine ⟨k4, fun m6 e6 => ?_⟩
  have k6 : mK m6 w = 5 := by rw [e6]; exact k4
  refine ⟨k6, fun m8 e8 => ?_⟩
  have k8 : mK m8 w = 5 := by rw [e8]; exact k6
  subst e2 e4 e6 e8
  refine hq _ ?_ ?_ ?_ ?_ ?_ ?_ k8 ((((Fr.sI _ _ _ _).trans (Fr.sI _ _ _ _)).trans (Fr.sI _ _ _ _)).trans (Fr.sI _ _ _ _)) <;> simp [i_sI]
