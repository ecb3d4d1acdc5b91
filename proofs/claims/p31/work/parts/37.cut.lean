/-! THE WHOLE CUT -/
theorem up_ge {len t : Nat} (h : 0 < len) : t ≤ up len t := by
  unfold up
  have h1 := Nat.div_add_mod (t + len - 1) len
  have h2 := Nat.mod_lt (t + len - 1) h
  rw [Nat.mul_comm] at h1
  omega
theorem cmp_lt_N {a b : Nat} (ha : a < 2 ^ 63) (hb : b < 2 ^ 63) : lg_cmp (lN a) (lN b) < 0 ↔ a < b := (lg_cmp_lt _ _).trans (pk_lLT ha hb)
theorem cmp_ge_N {a b : Nat} (ha : a < 2 ^ 63) (hb : b < 2 ^ 63) : 0 ≤ lg_cmp (lN a) (lN b) ↔ b ≤ a := (lg_cmp_ge _ _).trans (pk_lLE hb ha)
theorem up_lt {len t : Nat} (h : 0 < len) (hl : len < 2 ^ 31) (ht : t < 2 ^ 31) : up len t < 2 ^ 63 := by
  have : up len t ≤ t + len - 1 := Nat.div_mul_le_self _ _
  omega
theorem sp_X4_cut {m : MM} {w f t : Nat} (hK : mK m w = 5) (hf : f < 2 ^ 31) (ht : t < 2 ^ 31) {Q : MM → Prop} (hq : ∀ m', Win m' w (wcut f t) → Fr (fun y => y = w) m m' → Q m') : wp_X4_cut w (nI f) (nI t) m Q := by
  have hb : bg 3600 t ≤ t := bg_le _ _
  have hd : bg 86400 t ≤ t := bg_le _ _
  have u1 := up_lt (len := 3600) (by decide) (by decide) hf
  have u2 := up_lt (len := 86400) (by decide) (by decide) hf
  have b1 : nI t - (nI t - nI t / (3600 : Int32) * (3600 : Int32)) = nI (bg 3600 t) := bg_nI (by decide) (by decide) ht
  have b2 : nI t - (nI t - nI t / (86400 : Int32) * (86400 : Int32)) = nI (bg 86400 t) := bg_nI (by decide) (by decide) ht
  unfold wp_X4_cut
  refine ⟨hK, fun m2 e2 => ?_⟩
  have k2 : mK m2 w = 5 := by rw [e2]; exact hK
  refine ⟨k2, fun m4 e4 => ?_⟩
  have k4 : mK m4 w = 5 := by rw [e4]; exact k2
  have v80 : mI m4 80 w = nI f := by rw [e4, e2, i_sI, i_sI, if_neg (by simp), if_pos ⟨rfl, rfl⟩]
  have v85 : mI m4 85 w = nI t := by rw [e4, i_sI, if_pos ⟨rfl, rfl⟩]
  have F4 : Fr (fun y => y = w) m m4 := by
    rw [e4, e2]
    exact (Fr.sI _ _ _ _).trans (Fr.sI _ _ _ _)
  refine ⟨k4, k4, k4, sp_X4_cutHours k4 fun m9 c0 c1 c2 c3 c4 c5 k9 F9 => ⟨k9, ?_⟩⟩
  rw [v80] at c0
  rw [v85] at c1 c2 c3 c4 c5
  rw [c0]
  refine sp_X4_roundUp (l := 3600) hf (by decide) (by decide) ⟨k9, k9, fun x15 e15 => ?_⟩
  rw [c5, b1] at e15
  rw [e15, nI_l (by omega)]
  refine ⟨fun h => ?_, fun h => ?_⟩
  · have h1 := (cmp_lt_N u1 (by omega)).mp h
    rw [lN_i]
    refine ⟨k9, sp_X4_cutHours k9 fun m19 d0 d1 d2 d3 d4 d5 k19 F19 => ⟨k19, ?_⟩⟩
    rw [c0] at d0
    rw [c5] at d5
    rw [d0]
    refine sp_X4_roundUp (l := 86400) hf (by decide) (by decide) ⟨k19, k19, fun x25 e25 => ?_⟩
    rw [d5, b2] at e25
    rw [e25, nI_l (by omega)]
    refine ⟨fun h => ?_, fun h => ⟨k19, fun m28 e28 => ?_⟩⟩
    · have h2 := (cmp_ge_N u2 (by omega)).mp h
      refine hq m19 ⟨k19, fun k hk => ?_⟩ ((F4.trans F9).trans F19)
      have : k = 0 ∨ k = 1 ∨ k = 2 ∨ k = 3 ∨ k = 4 ∨ k = 5 := by omega
      have nd : ¬ up 86400 f < bg 86400 t := by omega
      rcases this with rfl | rfl | rfl | rfl | rfl | rfl
      · exact ⟨d0, hf⟩
      · have e : wcut f t 1 = up 3600 f := by unfold wcut; simp [h1]
        rw [e]; exact ⟨d1, by omega⟩
      · have e : wcut f t 2 = bg 3600 t := by unfold wcut; simp [h1, nd]
        rw [e]; exact ⟨d2, by omega⟩
      · have e : wcut f t 3 = bg 3600 t := by unfold wcut; simp [h1, nd]
        rw [e]; exact ⟨d3, by omega⟩
      · have e : wcut f t 4 = bg 3600 t := by unfold wcut; simp [h1]
        rw [e]; exact ⟨d4, by omega⟩
      · exact ⟨d5, ht⟩
    · have h2 : up 86400 f < bg 86400 t := by
        rcases Nat.lt_or_ge (up 86400 f) (bg 86400 t) with q | q
        · exact q
        · exact absurd ((cmp_ge_N u2 (by omega)).mpr q) h
      have k28 : mK m28 w = 5 := by rw [e28]; exact k19
      refine ⟨k28, fun m30 e30 => ?_⟩
      have k30 : mK m30 w = 5 := by rw [e30]; exact k28
      have F30 : Fr (fun y => y = w) m19 m30 := by
        rw [e30, e28]
        exact (Fr.sI _ _ _ _).trans (Fr.sI _ _ _ _)
      have g : ∀ j, j ≠ 82 → j ≠ 83 → mI m30 j w = mI m19 j w := fun j j1 j2 => by
        rw [e30, e28, i_sI, i_sI, if_neg (fun z => j2 z.1), if_neg (fun z => j1 z.1)]
      refine hq m30 ⟨k30, fun k hk => ?_⟩ (((F4.trans F9).trans F19).trans F30)
      have : k = 0 ∨ k = 1 ∨ k = 2 ∨ k = 3 ∨ k = 4 ∨ k = 5 := by omega
      rcases this with rfl | rfl | rfl | rfl | rfl | rfl
      · exact ⟨(g 80 (by decide) (by decide)).trans d0, hf⟩
      · have e : wcut f t 1 = up 3600 f := by unfold wcut; simp [h1]
        rw [e]; exact ⟨(g 81 (by decide) (by decide)).trans d1, by omega⟩
      · have e : wcut f t 2 = up 86400 f := by unfold wcut; simp [h1, h2]
        rw [e]
        refine ⟨?_, by omega⟩
        rw [e30, e28, i_sI, i_sI, if_neg (by simp), if_pos ⟨rfl, rfl⟩, lN_i]
      · have e : wcut f t 3 = bg 86400 t := by unfold wcut; simp [h1, h2]
        rw [e]
        refine ⟨?_, by omega⟩
        rw [e30, i_sI, if_pos ⟨rfl, rfl⟩]
      · have e : wcut f t 4 = bg 3600 t := by unfold wcut; simp [h1]
        rw [e]; exact ⟨(g 84 (by decide) (by decide)).trans d4, by omega⟩
      · exact ⟨(g 85 (by decide) (by decide)).trans d5, ht⟩
  · have h1 : ¬ up 3600 f < bg 3600 t := fun z => h ((cmp_lt_N u1 (by omega)).mpr z)
    refine hq m9 ⟨k9, fun k hk => ?_⟩ (F4.trans F9)
    have : k = 0 ∨ k = 1 ∨ k = 2 ∨ k = 3 ∨ k = 4 ∨ k = 5 := by omega
    rcases this with rfl | rfl | rfl | rfl | rfl | rfl
    · exact ⟨c0, hf⟩
    · have e : wcut f t 1 = t := by unfold wcut; simp [h1]
      rw [e]; exact ⟨c1, ht⟩
    · have e : wcut f t 2 = t := by unfold wcut; simp [h1]
      rw [e]; exact ⟨c2, ht⟩
    · have e : wcut f t 3 = t := by unfold wcut; simp [h1]
      rw [e]; exact ⟨c3, ht⟩
    · have e : wcut f t 4 = t := by unfold wcut; simp [h1]
      rw [e]; exact ⟨c4, ht⟩
    · exact ⟨c5, ht⟩
