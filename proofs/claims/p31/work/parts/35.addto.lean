/-! A WINDOW'S VALUES, gathered from the tiers -/
theorem vals_map (a b : Nat) (T : List RT) : vals (hi kt a (lo kt b T)) = (hi kg a (lo kg b (T.map (·.2)))).flatMap (·.2) := by
  rw [← map_lo, ← map_hi]
  unfold vals
  rw [List.flatMap_map]
/-- the values that tier i keeps of the rollups that begin from a up to b -/
def vw (hz : Nat → Nat) (P : List (Nat × Int32)) (i a b : Nat) : List Int32 := (hi kg a (lo kg b (gk (ln i) (hz i) P))).flatMap (·.2)
theorem vw_is (hz : Nat → Nat) (P : List (Nat × Int32)) (i a b : Nat) : vw hz P i a b = (P.filter (fun p => (decide (a ≤ bg (ln i) p.1) && decide (bg (ln i) p.1 < b)) && decide (hz i < bg (ln i) p.1 + ln i))).map (·.2) := by
  have e2 := grp_vals (ln i) (fun x => (decide (a ≤ x) && decide (x < b)) && decide (hz i < x + ln i)) P
  refine Eq.trans ?_ e2
  unfold vw gk hi lo
  rw [List.filter_filter, List.filter_filter]
theorem vw_len (hz : Nat → Nat) (P : List (Nat × Int32)) (i a b : Nat) : (vw hz P i a b).length ≤ P.length := by
  rw [vw_is, List.length_map]
  exact List.length_filter_le _ _
def Win (m : MM) (w : Nat) (a : Nat → Nat) : Prop := mK m w = 5 ∧ ∀ k, k ≤ 5 → mI m (80 + k) w = nI (a k) ∧ a k < 2 ^ 31
theorem Win.fr {S : Nat → Prop} {m m' : MM} {w : Nat} {a : Nat → Nat} (h : Win m w a) (hf : Fr S m m') (hS : ¬ S w) : Win m' w a := by
  obtain ⟨f1, -, f2⟩ := hf w (by rw [h.1]; decide)
  obtain ⟨f3, -⟩ := f2 hS
  exact ⟨by rw [f1]; exact h.1, fun k hk => by rw [f3]; exact h.2 k hk⟩
theorem sp_addTo_step {m : MM} {g : Nat → Nat} {c0 s kd : Nat} {hz : Nat → Nat} {P : List (Nat × Int32)} {C : Nat → Nat} {su w : Nat} {a : Nat → Nat} {L : List Int32} (h : Srs m g c0 s kd hz P C) (hP : Srt kf P) (hw : Win m w a) (hr : RS m su L) (hsu : ¬ (c0 ≤ g su ∧ g su ≤ c0 + 3)) {i j : Nat} (h1 : 1 ≤ i) (h3 : i ≤ 3) (hj : j ≤ 4) (hL : L.length + P.length < 2 ^ 30) {Q : MM → Prop} (hq : ∀ m', Srs m' g c0 s kd hz P C → Win m' w a → RS m' su (L ++ vw hz P i (a j) (a (j + 1))) → Fr (fun x => x = su) m m' → Q m') : mK m s = 4 ∧ ∃ b2 : Nat, mR m (61 + i) s = some b2 ∧ mK m w = 5 ∧ mK m w = 5 ∧ mK m b2 = 3 ∧ wp_X2_addTo b2 su (mI m (80 + j) w) (mI m (80 + (j + 1)) w) m Q := by
  obtain ⟨p, t, v, U, W, T, B, g1, g2⟩ := id h
  have hR := g1.2.2.2.2.2.1 i h1 h3
  obtain ⟨t1, t2, t3⟩ := g1.2.2.2.2.2.2.2.2.2.2 i h1 h3
  obtain ⟨w1, w2⟩ := hw.2 j (by omega)
  obtain ⟨w3, w4⟩ := hw.2 (j + 1) (by omega)
  have hv : vals (hi kt (a j) (lo kt (a (j + 1)) (T i))) = vw hz P i (a j) (a (j + 1)) := by
    rw [vals_map, g2 i h1 h3]; rfl
  have hvl := vw_len hz P i (a j) (a (j + 1))
  have hsw : ¬ w = su := fun z => by
    have := hw.1
    rw [z, hr.1] at this
    exact absurd this (by decide)
  rw [w1, w3]
  refine ⟨g1.1, U i, g1.2.2.2.1 i h1 h3, hw.1, hw.1, hR.1.1, sp_X2_addTo hR hr (fun z => ?_) (gk_ne hP (g2 i h1 h3)) w2 w4 (by rw [hv]; omega) fun m' q1 q2 q3 => ?_⟩
  · have := t3 su (List.mem_append_left _ z)
    exact hsu ⟨by omega, by omega⟩
  · rw [hv] at q1
    exact hq m' (h.fr q2 (fun b b1 b2 z => hsu (by rw [← z]; exact ⟨b1, b2⟩))) (hw.fr q2 hsw) q1 q2
theorem sp_X3_addTo {m : MM} {g : Nat → Nat} {c0 s kd : Nat} {hz : Nat → Nat} {P : List (Nat × Int32)} {C : Nat → Nat} {su w : Nat} {a : Nat → Nat} (h : Srs m g c0 s kd hz P C) (hP : Srt kf P) (hw : Win m w a) (hr : RS m su []) (hsu : ¬ (c0 ≤ g su ∧ g su ≤ c0 + 3)) (hL : P.length < 2 ^ 26) {Q : MM → Prop} (hq : ∀ m', RS m' su (vw hz P 1 (a 0) (a 1) ++ vw hz P 2 (a 1) (a 2) ++ vw hz P 3 (a 2) (a 3) ++ vw hz P 2 (a 3) (a 4) ++ vw hz P 1 (a 4) (a 5)) → Fr (fun x => x = su) m m' → Q m') : wp_X3_addTo s su w m Q := by
  have l1 := vw_len hz P 1 (a 0) (a (0 + 1))
  have l2 := vw_len hz P 2 (a 1) (a (1 + 1))
  have l3 := vw_len hz P 3 (a 2) (a (2 + 1))
  have l4 := vw_len hz P 2 (a 3) (a (3 + 1))
  unfold wp_X3_addTo
  refine sp_addTo_step (i := 1) (j := 0) h hP hw hr hsu (by decide) (by decide) (by decide) (by rw [List.length_nil]; omega) fun m1 s1 w1 r1 f1 => ?_
  rw [List.nil_append] at r1
  refine sp_addTo_step (i := 2) (j := 1) s1 hP w1 r1 hsu (by decide) (by decide) (by decide) (by omega) fun m2 s2 w2 r2 f2 => ?_
  refine sp_addTo_step (i := 3) (j := 2) s2 hP w2 r2 hsu (by decide) (by decide) (by decide) (by rw [List.length_append]; omega) fun m3 s3 w3 r3 f3 => ?_
  refine sp_addTo_step (i := 2) (j := 3) s3 hP w3 r3 hsu (by decide) (by decide) (by decide) (by rw [List.length_append, List.length_append]; omega) fun m4 s4 w4 r4 f4 => ?_
  refine sp_addTo_step (i := 1) (j := 4) s4 hP w4 r4 hsu (by decide) (by decide) (by decide) (by rw [List.length_append, List.length_append, List.length_append]; omega) fun m5 s5 w5 r5 f5 => ?_
  exact hq m5 r5 ((((f1.trans f2).trans f3).trans f4).trans f5)
