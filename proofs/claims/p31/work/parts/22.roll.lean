/-! ROLLUP: its three methods, as what they do to the list of values -/
theorem sp_X1_clear {m : MM} {r : Nat} (hK : mK m r = 2) {Q : MM → Prop} (hq : ∀ m', RS m' r [] → Fr (fun x => x = r) m m' → mI m' 20 r = mI m 20 r → Q m') : wp_X1_clear r m Q := by
  unfold wp_X1_clear
  simp only [forall_eq, k_sI, k_sJ, hK, true_and]
  refine hq _ ⟨hK, ?_, ?_, ?_, fun h => absurd rfl h⟩ (((Fr.sI _ _ _ _).trans (Fr.sJ _ _ _ _)).trans (Fr.sJ _ _ _ _)) ?_
  · simp [i_sI, i_sJ]; rfl
  · simp [j_sI, j_sJ]; rfl
  · simp [j_sI, j_sJ]; rfl
  · simp [i_sI, i_sJ]
theorem sp_X1_join {m : MM} {r : Nat} {n f t : Int32} (hK : mK m r = 2) {Q : MM → Prop} (hq : ∀ m', Fr (fun x => x = r) m m' → mI m' 20 r = mI m 20 r → mI m' 21 r = mI m 21 r + n → mJ m' 22 r = mJ m 22 r → mI m' 23 r = mI m 23 r → mI m' 24 r = mI m 24 r → mI m' 26 r = t → (mI m 21 r = 0 → mI m' 25 r = f ∧ mJ m' 27 r = mJ m 27 r) → (¬ mI m 21 r = 0 → mI m' 25 r = mI m 25 r ∧ mJ m' 27 r = mJ m 27 r + stp (mI m 26 r) f) → Q m') : wp_X1_join r n f t m Q := by
  unfold wp_X1_join
  simp only [forall_eq, k_sI, k_sJ, hK, true_and]
  refine ⟨fun h0 => ⟨fun hc => ?_, fun hc => ?_⟩, fun h0 => ?_⟩
  · refine hq _ (((Fr.sJ _ _ _ _).trans (Fr.sI _ _ _ _)).trans (Fr.sI _ _ _ _)) ?_ ?_ ?_ ?_ ?_ ?_ (fun z => absurd z h0) (fun _ => ⟨?_, ?_⟩) <;> simp [i_sI, i_sJ, j_sI, j_sJ]
    unfold stp
    rw [if_neg (Int32.not_lt.mpr hc)]
  · refine hq _ (((Fr.sJ _ _ _ _).trans (Fr.sI _ _ _ _)).trans (Fr.sI _ _ _ _)) ?_ ?_ ?_ ?_ ?_ ?_ (fun z => absurd z h0) (fun _ => ⟨?_, ?_⟩) <;> simp [i_sI, i_sJ, j_sI, j_sJ]
    unfold stp
    rw [if_pos (Int32.not_le.mp hc)]
  · refine hq _ (((Fr.sI _ _ _ _).trans (Fr.sI _ _ _ _)).trans (Fr.sI _ _ _ _)) ?_ ?_ ?_ ?_ ?_ ?_ (fun _ => ⟨?_, ?_⟩) (fun z => absurd h0 z) <;> simp [i_sI, i_sJ, j_sI, j_sJ]
theorem nI_len_ne0 {n : Nat} (h0 : 0 < n) (h : n < 2 ^ 30) : ¬ nI n = 0 := nI_ne0 h0 (by omega)
theorem vMin_1 (v : Int32) : vMin [v] = v := rfl
theorem vMax_1 (v : Int32) : vMax [v] = v := rfl
theorem mn_is (a b : Int32) : mn a b = if b < a then b else a := rfl
theorem mx_is (a b : Int32) : mx a b = if a < b then b else a := rfl
theorem nI_00 : nI ([] : List Int32).length = 0 := by decide
theorem nI_11 : nI 1 = 1 := by decide
theorem vFst_1 (v : Int32) : vFst [v] = v := rfl
theorem vLst_1 (v : Int32) : vLst [v] = v := rfl
theorem vInc_1 (v : Int32) : vInc [v] = 0 := rfl
theorem sets3 (m : MM) (r : Nat) (a b : Int32) (x : Int64) {m4 m5 m6 : MM} (e4 : m4 = sI m 23 r a) (e5 : m5 = sI m4 24 r b) (e6 : m6 = sJ m5 22 r x) : (mI m6 20 r = mI m 20 r ∧ mI m6 21 r = mI m 21 r ∧ mI m6 23 r = a ∧ mI m6 24 r = b ∧ mI m6 25 r = mI m 25 r ∧ mI m6 26 r = mI m 26 r) ∧ mJ m6 22 r = x ∧ mJ m6 27 r = mJ m 27 r ∧ mK m6 = mK m ∧ Fr (fun y => y = r) m m6 := by
  subst e4 e5 e6
  refine ⟨⟨?_, ?_, ?_, ?_, ?_, ?_⟩, ?_, ?_, rfl, ((Fr.sI _ _ _ _).trans (Fr.sI _ _ _ _)).trans (Fr.sJ _ _ _ _)⟩ <;> simp [i_sI, i_sJ, j_sI, j_sJ]
theorem sets1 (m : MM) (r : Nat) (a : Int32) {m4 : MM} (e4 : m4 = sI m 23 r a) : mI m4 21 r = mI m 21 r ∧ mI m4 24 r = mI m 24 r ∧ mJ m4 22 r = mJ m 22 r ∧ mK m4 = mK m := by
  subst e4
  refine ⟨?_, ?_, ?_, rfl⟩ <;> simp [i_sI, j_sI]
theorem sets2 (m : MM) (r : Nat) (a b : Int32) {m4 m5 : MM} (e4 : m4 = sI m 23 r a) (e5 : m5 = sI m4 24 r b) : mJ m5 22 r = mJ m 22 r ∧ mK m5 = mK m := by
  subst e4 e5
  exact ⟨rfl, rfl⟩
theorem sp_X1_addPoint {m : MM} {r : Nat} {v : Int32} {L : List Int32} (h : RS m r L) (hlen : L.length < 2 ^ 30) {Q : MM → Prop} (hq : ∀ m', RS m' r (L ++ [v]) → Fr (fun x => x = r) m m' → mI m' 20 r = mI m 20 r → Q m') : wp_X1_addPoint r v m Q := by
  obtain ⟨hK, h1, h2, h3, h4⟩ := h
  unfold wp_X1_addPoint
  refine ⟨hK, sp_X1_join hK fun m3 hF hb hc hs hmn hmx hl he hn => ?_⟩
  have hK3 : mK m3 r = 2 := hF.K hK (by decide)
  have hc2 : mI m3 21 r = nI (L.length + 1) := by rw [hc, h1]; exact nI_1 _
  have hlen2 : (L ++ [v]).length = L.length + 1 := by rw [List.length_append]; rfl
  by_cases hL : L = []
  · subst hL
    obtain ⟨e1, e2⟩ := he (h1.trans nI_00)
    have c1 : mI m3 21 r = 1 := hc2.trans nI_11
    refine ⟨hK3, fun z => absurd c1 z, fun _ => ⟨hK3, fun m4 e4 => ?_⟩⟩
    obtain ⟨q1, q2, q3, q4⟩ := sets1 m3 r v e4
    have hK4 : mK m4 r = 2 := by rw [q4]; exact hK3
    refine ⟨hK4, fun z => absurd (q1.trans c1) z, fun _ => ⟨hK4, fun m5 e5 => ?_⟩⟩
    obtain ⟨p1, p2⟩ := sets2 m3 r v v e4 e5
    have hK5 : mK m5 r = 2 := by rw [p2]; exact hK3
    refine ⟨hK5, hK5, fun m6 e6 => ?_⟩
    obtain ⟨⟨w1, w2, w3, w4, w5, w6⟩, w7, w8, w9, wF⟩ := sets3 m3 r v v (mJ m5 22 r + v.toInt64) e4 e5 e6
    refine hq _ ⟨by rw [w9]; exact hK3, ?_, ?_, ?_, fun _ => ⟨w3, w4, ?_, ?_⟩⟩ (hF.trans wF) (w1.trans hb)
    · rw [w2, hc2, hlen2]
    · rw [w7, p1, hs, h2, vSum_1 [] v]
    · rw [w8, e2, h3]; rfl
    · rw [w5, e1]; rfl
    · rw [w6, hl]; rfl
  · have hpos : 0 < L.length := List.length_pos_iff.mpr hL
    obtain ⟨g1, g2, g3, g4⟩ := h4 hL
    obtain ⟨e1, e2⟩ := hn (by rw [h1]; exact nI_len_ne0 hpos hlen)
    have c1 : ¬ mI m3 21 r = 1 := by
      rw [hc2]
      exact fun z => absurd ((nI_eq (a := L.length + 1) (b := 1) (by omega) (by omega)).mp (z.trans nI_11.symm)) (by omega)
    refine ⟨hK3, fun _ => ⟨hK3, hK3, fun m4 e4 => ?_⟩, fun z => absurd z c1⟩
    obtain ⟨q1, q2, q3, q4⟩ := sets1 m3 r _ e4
    have hK4 : mK m4 r = 2 := by rw [q4]; exact hK3
    refine ⟨hK4, fun _ => ⟨hK4, hK4, fun m5 e5 => ?_⟩, fun z => absurd (q1.symm.trans z) c1⟩
    obtain ⟨p1, p2⟩ := sets2 m3 r _ _ e4 e5
    have hK5 : mK m5 r = 2 := by rw [p2]; exact hK3
    refine ⟨hK5, hK5, fun m6 e6 => ?_⟩
    obtain ⟨⟨w1, w2, w3, w4, w5, w6⟩, w7, w8, w9, wF⟩ := sets3 m3 r _ _ _ e4 e5 e6
    refine hq _ ⟨by rw [w9]; exact hK3, ?_, ?_, ?_, fun _ => ⟨?_, ?_, ?_, ?_⟩⟩ (hF.trans wF) (w1.trans hb)
    · rw [w2, hc2, hlen2]
    · rw [w7, p1, hs, h2, vSum_1]
    · rw [w8, e2, h3, g4, vInc_app hL (List.cons_ne_nil _ _), vFst_1, vInc_1, Int64.add_zero]
    · rw [w3, hmn, g1, vMin_app hL (List.cons_ne_nil _ _), vMin_1, mn_is]
    · rw [w4, q2, hmx, g2, vMax_app hL (List.cons_ne_nil _ _), vMax_1, mx_is]
    · rw [w5, e1, g3, vFst_app _ hL]
    · rw [w6, hl, vLst_app _ (List.cons_ne_nil _ _), vLst_1]
