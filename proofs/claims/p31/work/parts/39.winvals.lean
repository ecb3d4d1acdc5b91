/-! THE CUTS OF A WINDOW, and that its parts hold just its points -/
theorem up_dvd (len t : Nat) : len ∣ up len t := ⟨(t + len - 1) / len, Nat.mul_comm _ _⟩
theorem up_min {len t e : Nat} (hl : 0 < len) (he : len ∣ e) (h : t ≤ e) : up len t ≤ e := by
  obtain ⟨q, rfl⟩ := he
  unfold up
  have h1 : (t + len - 1) / len < q + 1 := by
    rw [Nat.div_lt_iff_lt_mul hl, Nat.add_mul, Nat.one_mul, Nat.mul_comm q len]
    omega
  rw [Nat.mul_comm len q]
  exact Nat.mul_le_mul_right _ (by omega)
theorem bg_max {len t e : Nat} (hl : 0 < len) (he : len ∣ e) (h : e ≤ t) : e ≤ bg len t := by
  have := bg_mono (len := len) h
  rw [bg_self hl he] at this
  exact this
theorem wc_0 (f t : Nat) : wcut f t 0 = f := rfl
theorem wc_5 (f t : Nat) : wcut f t 5 = t := rfl
theorem wc_no {f t : Nat} (h : ¬ up 3600 f < bg 3600 t) : wcut f t 1 = t ∧ wcut f t 2 = t ∧ wcut f t 3 = t ∧ wcut f t 4 = t := by
  unfold wcut; simp [h]
theorem wc_h {f t : Nat} (h : up 3600 f < bg 3600 t) (d : ¬ up 86400 f < bg 86400 t) : wcut f t 1 = up 3600 f ∧ wcut f t 2 = bg 3600 t ∧ wcut f t 3 = bg 3600 t ∧ wcut f t 4 = bg 3600 t := by
  unfold wcut; simp [h, d]
theorem wc_d {f t : Nat} (h : up 3600 f < bg 3600 t) (d : up 86400 f < bg 86400 t) : wcut f t 1 = up 3600 f ∧ wcut f t 2 = up 86400 f ∧ wcut f t 3 = bg 86400 t ∧ wcut f t 4 = bg 3600 t := by
  unfold wcut; simp [h, d]
theorem d60 {x : Nat} (h : 3600 ∣ x) : 60 ∣ x := Nat.dvd_trans (by decide) h
theorem d3600 {x : Nat} (h : 86400 ∣ x) : 3600 ∣ x := Nat.dvd_trans (by decide) h
theorem wcut_ok {f t : Nat} (hf : 60 ∣ f) (ht : 60 ∣ t) (hft : f ≤ t) : ∀ k, k ≤ 4 → wcut f t k ≤ wcut f t (k + 1) ∧ (wcut f t k < wcut f t (k + 1) → ln (tr k) ∣ wcut f t k ∧ ln (tr k) ∣ wcut f t (k + 1)) := by
  have g1 : f ≤ up 3600 f := up_ge (by decide)
  have g2 : bg 3600 t ≤ t := bg_le _ _
  have g3 : up 3600 f ≤ up 86400 f := up_min (by decide) (d3600 (up_dvd _ _)) (up_ge (by decide))
  have g4 : bg 86400 t ≤ bg 3600 t := bg_max (by decide) (d3600 (bg_dvd _ _)) (bg_le _ _)
  have v1 : 3600 ∣ up 3600 f := up_dvd _ _
  have v2 : 3600 ∣ bg 3600 t := bg_dvd _ _
  have v3 : 86400 ∣ up 86400 f := up_dvd _ _
  have v4 : 86400 ∣ bg 86400 t := bg_dvd _ _
  intro k hk
  have hk5 : k = 0 ∨ k = 1 ∨ k = 2 ∨ k = 3 ∨ k = 4 := by omega
  by_cases h : up 3600 f < bg 3600 t
  · by_cases d : up 86400 f < bg 86400 t
    · obtain ⟨e1, e2, e3, e4⟩ := wc_d h d
      rcases hk5 with rfl | rfl | rfl | rfl | rfl
      · rw [wc_0, e1]; exact ⟨g1, fun _ => ⟨hf, d60 v1⟩⟩
      · rw [e1, e2]; exact ⟨g3, fun _ => ⟨v1, d3600 v3⟩⟩
      · rw [e2, e3]; exact ⟨Nat.le_of_lt d, fun _ => ⟨v3, v4⟩⟩
      · rw [e3, e4]; exact ⟨g4, fun _ => ⟨d3600 v4, v2⟩⟩
      · rw [e4, wc_5]; exact ⟨g2, fun _ => ⟨d60 v2, ht⟩⟩
    · obtain ⟨e1, e2, e3, e4⟩ := wc_h h d
      rcases hk5 with rfl | rfl | rfl | rfl | rfl
      · rw [wc_0, e1]; exact ⟨g1, fun _ => ⟨hf, d60 v1⟩⟩
      · rw [e1, e2]; exact ⟨Nat.le_of_lt h, fun _ => ⟨v1, v2⟩⟩
      · rw [e2, e3]; exact ⟨Nat.le_refl _, fun z => absurd z (Nat.lt_irrefl _)⟩
      · rw [e3, e4]; exact ⟨Nat.le_refl _, fun z => absurd z (Nat.lt_irrefl _)⟩
      · rw [e4, wc_5]; exact ⟨g2, fun _ => ⟨d60 v2, ht⟩⟩
  · obtain ⟨e1, e2, e3, e4⟩ := wc_no h
    rcases hk5 with rfl | rfl | rfl | rfl | rfl
    · rw [wc_0, e1]; exact ⟨hft, fun _ => ⟨hf, ht⟩⟩
    · rw [e1, e2]; exact ⟨Nat.le_refl _, fun z => absurd z (Nat.lt_irrefl _)⟩
    · rw [e2, e3]; exact ⟨Nat.le_refl _, fun z => absurd z (Nat.lt_irrefl _)⟩
    · rw [e3, e4]; exact ⟨Nat.le_refl _, fun z => absurd z (Nat.lt_irrefl _)⟩
    · rw [e4, wc_5]; exact ⟨Nat.le_refl _, fun z => absurd z (Nat.lt_irrefl _)⟩
/-- what a walk over the parts asks: a part that is not empty ends where an int still is -/
theorem wcut_end {f t : Nat} (hf : 60 ∣ f) (ht : 60 ∣ t) (hft : f ≤ t) (h31 : t < 2 ^ 31) : ∀ k, k ≤ 4 → wcut f t k < wcut f t (k + 1) → wcut f t k + ln (tr k) < 2 ^ 31 := by
  intro k hk hlt
  obtain ⟨v1, v2⟩ := (wcut_ok hf ht hft k hk).2 hlt
  have hle : wcut f t k + ln (tr k) ≤ wcut f t (k + 1) := by
    obtain ⟨a, ea⟩ := v1
    obtain ⟨b, eb⟩ := v2
    rw [ea, eb] at hlt ⊢
    have : a < b := Nat.lt_of_mul_lt_mul_left hlt
    calc ln (tr k) * a + ln (tr k) = ln (tr k) * (a + 1) := by rw [Nat.mul_add, Nat.mul_one]
      _ ≤ ln (tr k) * b := Nat.mul_le_mul_left _ this
  have hup : wcut f t (k + 1) ≤ t := by
    have w : ∀ j, j ≤ 4 → wcut f t (4 - j) ≤ t ∧ wcut f t (4 - j + 1) ≤ t := by
      intro j
      induction j with
      | zero => intro _; exact ⟨by have := (wcut_ok hf ht hft 4 (by decide)).1; rw [wc_5] at this; exact this, Nat.le_of_eq (wc_5 f t)⟩
      | succ j ih =>
        intro hj
        have i1 := (ih (by omega)).1
        have i2 := (wcut_ok hf ht hft (4 - (j + 1)) (by omega)).1
        rw [show 4 - (j + 1) + 1 = 4 - j by omega] at i2 ⊢
        exact ⟨Nat.le_trans i2 i1, i1⟩
    have := (w (4 - k) (by omega)).2
    rw [show 4 - (4 - k) + 1 = k + 1 by omega] at this
    exact this
  omega
theorem seg_nil {a b : Nat} (h : b ≤ a) (P : List (Nat × Int32)) : seg a b P = [] := by
  refine List.eq_nil_iff_forall_not_mem.mpr fun p hp => ?_
  have := (mem_seg.mp hp).2
  omega
theorem vw_seg2 {hz : Nat → Nat} {P : List (Nat × Int32)} {i a b : Nat} (hab : a ≤ b) (hd : a < b → ln i ∣ a ∧ ln i ∣ b) (hk : a < b → hz i < a + ln i) : vw hz P i a b = (seg a b P).map (·.2) := by
  rcases Nat.lt_or_ge a b with q | q
  · exact vw_seg (hd q).1 (hd q).2 hk
  · rw [seg_nil q]
    have e : a = b := by omega
    subst e
    rw [vw_is]
    have : P.filter (fun p => (decide (a ≤ bg (ln i) p.1) && decide (bg (ln i) p.1 < a)) && decide (hz i < bg (ln i) p.1 + ln i)) = [] := by
      refine List.filter_eq_nil_iff.mpr fun p _ z => ?_
      simp only [Bool.and_eq_true, decide_eq_true_iff] at z
      omega
    rw [this]
/-- the values of a known window -/
theorem win_vals {hz : Nat → Nat} {P : List (Nat × Int32)} (hP : Srt kf P) {f t : Nat} (hf : 60 ∣ f) (ht : 60 ∣ t) (hft : f ≤ t) (hk : ∀ k, k ≤ 4 → wcut f t k < wcut f t (k + 1) → hz (tr k) < wcut f t k + ln (tr k)) : vw hz P 1 (wcut f t 0) (wcut f t 1) ++ vw hz P 2 (wcut f t 1) (wcut f t 2) ++ vw hz P 3 (wcut f t 2) (wcut f t 3) ++ vw hz P 2 (wcut f t 3) (wcut f t 4) ++ vw hz P 1 (wcut f t 4) (wcut f t 5) = (seg f t P).map (·.2) := by
  have W := wcut_ok hf ht hft
  have m0 : wcut f t 0 ≤ wcut f t 1 := (W 0 (by decide)).1
  have m1 : wcut f t 1 ≤ wcut f t 2 := (W 1 (by decide)).1
  have m2 : wcut f t 2 ≤ wcut f t 3 := (W 2 (by decide)).1
  have m3 : wcut f t 3 ≤ wcut f t 4 := (W 3 (by decide)).1
  have m4 : wcut f t 4 ≤ wcut f t 5 := (W 4 (by decide)).1
  rw [vw_seg2 (i := 1) m0 (W 0 (by decide)).2 (hk 0 (by decide)), vw_seg2 (i := 2) m1 (W 1 (by decide)).2 (hk 1 (by decide)), vw_seg2 (i := 3) m2 (W 2 (by decide)).2 (hk 2 (by decide)), vw_seg2 (i := 2) m3 (W 3 (by decide)).2 (hk 3 (by decide)), vw_seg2 (i := 1) m4 (W 4 (by decide)).2 (hk 4 (by decide))]
  rw [← List.map_append, ← List.map_append, ← List.map_append, ← List.map_append]
  rw [seg_join hP m0 m1, seg_join hP (by omega) m2, seg_join hP (by omega) m3, seg_join hP (by omega) m4, wc_0, wc_5]
