/-- places i - g and i change what they hold, for i from P + g up to k: the first k - g are those of D but the ones at P and the g - 1 behind -/
theorem sp_X2_remove_loop {u w len cap k P g : Nat} {D : List Nat} {Q : MM → Prop} (hkD : k ≤ D.length) (hDc : D.length ≤ cap) (hc : cap ≤ 16384) (hPg : P + g ≤ k) : ∀ (n i : Nat) (m : MM) (E : List Nat), mK m u = 3 → mR m 41 u = some w → mK m w = 14 → mN m w = cap → mI m 42 u = nI k → mI m 40 u = nI len → (∀ x ∈ D, mK m x = 2) → (∀ j, j < cap → mAR m w j = E[j]?) → E.Perm D → (∀ j, j < P ∨ i ≤ j → E[j]? = D[j]?) → (∀ j, P ≤ j → j + g < i → E[j]? = D[j + g]?) → P + g ≤ i → i ≤ k → k + 1 ≤ n + i → (∀ m' (E' : List Nat), mK m' u = 3 → mR m' 41 u = some w → mK m' w = 14 → mN m' w = cap → mI m' 42 u = nI (k - g) → mI m' 40 u = nI len → (∀ j, j < cap → mAR m' w j = E'[j]?) → E'.Perm D → (∀ j, j < P → E'[j]? = D[j]?) → (∀ j, P ≤ j → j + g < k → E'[j]? = D[j + g]?) → Fr (fun x => x = u ∨ x = w) m m' → Q m') → wp_X2_remove_24 Q n u (nI g) (nI i) m := by
  intro n
  induction n with
  | zero => intro i m E h1 h2 h3 h4 h5 h6 h7 h8 h9 ha hb' hd he hf; omega
  | succ n ih =>
    intro i m E h1 h2 h3 h4 h5 h6 h7 h8 hp hE1 hE2 hi hik hn hq
    unfold wp_X2_remove_24
    refine ⟨h1, fun c => ?_, fun c => ?_⟩
    · rw [h5] at c
      have c2 := (nI_leI (by omega) (by omega)).mp c
      have ei : i = k := by omega
      have e4 : nI k - nI g = nI (k - g) := pk_sub (by omega)
      simp only [forall_eq, h1, h5, e4, true_and]
      refine hq _ E h1 h2 h3 h4 (by simp [i_sI]) (by simp [i_sI, h6]) h8 hp (fun j hj => hE1 j (Or.inl hj)) (fun j h9 h10 => hE2 j h9 (by omega)) ((Fr.sI _ _ _ _).mono (fun _ _ z => Or.inl z))
    · rw [h5] at c
      have c2 : i < k := by
        rcases Nat.lt_or_ge i k with q | q
        · exact q
        · exact absurd (nI_le q (by omega)) c
      have e1 : nI i - nI g = nI (i - g) := pk_sub (by omega)
      have e2 : nI i + 1 = nI (i + 1) := nI_1 i
      have hEl : E.length = D.length := hp.length_eq
      obtain ⟨y, hy⟩ : ∃ y, E[i]? = some y := ⟨_, List.getElem?_eq_getElem (by omega)⟩
      obtain ⟨z, hz⟩ : ∃ z, E[i - g]? = some z := ⟨_, List.getElem?_eq_getElem (by omega)⟩
      have hyD : y ∈ D := hp.mem_iff.mp (List.mem_of_getElem? hy)
      have hzD : z ∈ D := hp.mem_iff.mp (List.mem_of_getElem? hz)
      simp only [forall_eq, exists_eq_left', Option.some.injEq, true_and, k_sAR, n_sAR, r_sAR, h1, h2, h3, h4, e1, e2]
      rw [nI_clamp (n := i - g) (by omega), nI_clamp (n := i) (by omega), h8 (i - g) (by omega), h8 i (by omega), hy, hz]
      refine ⟨vp_in_nI (by omega) (by omega), z, rfl, vp_in_nI (by omega) (by omega), y, rfl, vp_in_nI (by omega) (by omega), h7 y hyD, vp_in_nI (by omega) (by omega), h7 z hzD, ?_⟩
      obtain ⟨hi1, hy1⟩ := List.getElem?_eq_some_iff.mp hy
      obtain ⟨hi2, hz1⟩ := List.getElem?_eq_some_iff.mp hz
      have hperm : ((E.set (i - g) y).set i z).Perm E := by
        have := List.set_set_perm (as := E) (i := i - g) (j := i) hi2 hi1
        rw [hy1, hz1] at this
        exact this
      have hix : ∀ j, ((E.set (i - g) y).set i z)[j]? = if j = i then (if i < E.length then some z else none) else if j = i - g then some y else E[j]? := fun j => by
        by_cases q : j = i
        · rw [if_pos q, if_pos hi1, q, List.getElem?_set_self (by rw [List.length_set]; exact hi1)]
        · rw [if_neg q, List.getElem?_set_ne (Ne.symm q)]
          by_cases q2 : j = i - g
          · rw [if_pos q2, q2, List.getElem?_set_self hi2]
          · rw [if_neg q2, List.getElem?_set_ne (Ne.symm q2)]
      refine ih (i + 1) _ ((E.set (i - g) y).set i z) h1 (by simp [r_sAR, h2]) h3 h4 (by simp [i_sAR, h5]) (by simp [i_sAR, h6]) h7 (fun j hj => ?_) (hperm.trans hp) (fun j hj => ?_) (fun j h9 h10 => ?_) (by omega) (by omega) (by omega) (fun m' E' g1 g2 g3 g4 g5 g6 g7 g8 g9 g10 g11 => hq m' E' g1 g2 g3 g4 g5 g6 g7 g8 g9 g10 ((((Fr.sAR _ _ _).mono (fun _ _ z => Or.inr z)).trans ((Fr.sAR _ _ _).mono (fun _ _ z => Or.inr z))).trans g11))
      · rw [hix, if_pos hi1]
        simp only [ar_sAR, if_true]
        by_cases q : j = i
        · rw [if_pos q, q, va_up_self]
        · rw [if_neg q, va_up_ne _ _ q]
          by_cases q2 : j = i - g
          · rw [if_pos q2, q2, va_up_self]
          · rw [if_neg q2, va_up_ne _ _ q2, h8 j hj]
      · rw [hix]
        rw [if_neg (by omega)]
        by_cases q2 : j = i - g
        · omega
        · rw [if_neg q2]; exact hE1 j (by omega)
      · rw [hix]
        by_cases q : j = i
        · have hg0 : g = 0 := by omega
          rw [if_pos q, if_pos hi1, q, hg0, Nat.add_zero, ← hE1 i (Or.inr (Nat.le_refl _)), ← hz, hg0, Nat.sub_zero]
        · rw [if_neg q]
          by_cases q2 : j = i - g
          · rw [if_pos q2, ← hy, q2, show i - g + g = i by omega, hE1 i (Or.inr (Nat.le_refl _))]
          · rw [if_neg q2]; exact hE2 j h9 (by omega)
theorem take_of_ix {α : Type} {l k : List α} {n : Nat} (hn : n ≤ l.length) (h : ∀ j, j < n → l[j]? = k[j]?) (hk : k.length = n) : l.take n = k := by
  apply List.ext_getElem?
  intro j
  by_cases q : j < n
  · rw [List.getElem?_take, if_pos q]; exact h j q
  · rw [List.getElem?_eq_none (by rw [List.length_take]; omega), List.getElem?_eq_none (by omega)]
theorem sp_X2_remove {m : MM} {u w len cap : Nat} {T : List RT} {B : List Nat} (h : Rw m u w len cap T B) {P g : Nat} (hPg : P + g ≤ T.length) {Q : MM → Prop} (hq : ∀ m' B', Rw m' u w len cap (T.take P ++ T.drop (P + g)) B' → (∀ y, y ∈ ad (T.take P ++ T.drop (P + g)) ++ B' ↔ y ∈ ad T ++ B) → Fr (fun x => x = u ∨ x = w) m m' → Q m') : wp_X2_remove u (nI P) (nI g) m Q := by
  obtain ⟨⟨a1, a2, a3, a4, a5, a6, a7, a8, a9, b1, b2, b3, b4⟩, c1, c2, c3⟩ := id h
  have hle := h.len
  unfold wp_X2_remove
  have e1 : nI T.length - nI P = nI (T.length - P) := pk_sub (by omega)
  have e3 : nI P + nI g = nI (P + g) := nI_add _ _
  refine ⟨fun z => absurd z (nI_pos (by omega)), fun _ => ⟨fun z => ?_, fun _ => ⟨a1, ?_⟩⟩⟩
  · have g1 : g < 1 := (nI_ltI (a := g) (b := 1) (by omega) (by omega)).mp z
    have g0 : g = 0 := by omega
    have e : T.take P ++ T.drop (P + g) = T := by rw [g0, Nat.add_zero, List.take_append_drop]
    exact hq m B (by rw [e]; exact h) (fun y => by rw [e]) (Fr.refl _ _)
  rw [a6, e1, e3]
  refine ⟨fun _ => ?_, fun c => absurd (nI_le (by omega) (by omega)) c⟩
  simp only [forall_eq]
  refine ⟨T.length + 1, sp_X2_remove_loop (D := ad T ++ B) (k := T.length) (w := w) (cap := cap) (len := len) a7 a8 b1 hPg _ _ _ (ad T ++ B) a1 a2 a3 a4 a6 a5 b4 b2 (List.Perm.refl _) (fun _ _ => rfl) (fun j h9 h10 => absurd h10 (by omega)) (Nat.le_refl _) hPg (by omega) (fun m' E' g1 g2 g3 g4 g5 g6 g7 g8 g9 g10 g11 => ?_)⟩
  have hTl : (T.take P ++ T.drop (P + g)).length = T.length - g := by
    rw [List.length_append, List.length_take, List.length_drop]; omega
  have hEl : E'.length = (ad T ++ B).length := g8.length_eq
  have hEl2 : (ad T ++ B).length = T.length + B.length := by rw [List.length_append, List.length_map]
  have hix : E'.take (T.length - g) = ad (T.take P ++ T.drop (P + g)) := by
    refine take_of_ix (by omega) (fun j hj => ?_) (by rw [List.length_map]; exact hTl)
    rw [List.getElem?_map]
    by_cases q : j < P
    · rw [g9 j q, List.getElem?_append_left (by rw [List.length_map]; omega), List.getElem?_map, List.getElem?_append_left (by rw [List.length_take]; omega), List.getElem?_take, if_pos q]
    · rw [g10 j (by omega) (by omega), List.getElem?_append_left (by rw [List.length_map]; omega), List.getElem?_map, List.getElem?_append_right (by rw [List.length_take]; omega), List.length_take, List.getElem?_drop, show P + g + (j - min P T.length) = j + g by omega]
  have hE : E' = ad (T.take P ++ T.drop (P + g)) ++ E'.drop (T.length - g) := by rw [← hix, List.take_append_drop]
  have hsub : (T.take P ++ T.drop (P + g)).Sublist T := by
    conv => rhs; rw [← List.take_append_drop P T]
    refine List.Sublist.append (List.Sublist.refl _) ?_
    rw [← List.drop_drop]
    exact List.drop_sublist _ _
  have hk : ∀ x ∈ ad T ++ B, mK m' x = 2 := fun x hx => by rw [(g11 x (by rw [b4 x hx]; decide)).1]; exact b4 x hx
  refine hq m' (E'.drop (T.length - g)) ⟨⟨g1, g2, g3, g4, g6, by rw [hTl]; exact g5, ?_, ?_, a9, b1, ?_, ?_, ?_⟩, fun x hx => ?_, List.Pairwise.sublist hsub c2, fun x hx => c3 x (hsub.subset hx)⟩ ?_ g11
  · rw [← hE, hTl]; omega
  · rw [← hE]; omega
  · rw [← hE]; exact g7
  · rw [← hE]; exact g8.nodup_iff.mpr b3
  · rw [← hE]; exact fun r hr => hk r (g8.mem_iff.mp hr)
  · have hx2 := hsub.subset hx
    have hx3 := b4 x.1 (List.mem_append_left _ (List.mem_map.mpr ⟨x, hx2, rfl⟩))
    exact (c1 x hx2).fr g11 (fun z => z.elim (fun e => by rw [e, a1] at hx3; exact absurd hx3 (by decide)) (fun e => by rw [e, a3] at hx3; exact absurd hx3 (by decide)))
  · intro y
    rw [← hE]
    exact g8.mem_iff
theorem thr {H len : Nat} (hH : H < 2 ^ 30) (hlen : len < 2 ^ 30) : (nI H - nI len + (1 : Int32)).toNatClampNeg = H + 1 - len := by
  have h1 : (nI H - nI len).toInt = (H : Int) - len := pk_sub_toInt hH hlen
  have h2 : (nI H - nI len + (1 : Int32)).toInt = (H : Int) - len + 1 := by
    rw [Int32.toInt_add, h1, show (1 : Int32).toInt = 1 from rfl]
    rw [Int.bmod_eq_of_le] <;> omega
  show (nI H - nI len + (1 : Int32)).toInt.toNat = _
  rw [h2]
  omega
theorem sp_X2_expire {m : MM} {u w len cap : Nat} {T : List RT} {B : List Nat} (h : Rw m u w len cap T B) {H : Nat} (hH : H < 2 ^ 30) (hlen : len < 2 ^ 30) {Q : Int32 → MM → Prop} (hq : ∀ m' B', Rw m' u w len cap (hi kt (H + 1 - len) T) B' → (∀ y, y ∈ ad (hi kt (H + 1 - len) T) ++ B' ↔ y ∈ ad T ++ B) → Fr (fun x => x = u ∨ x = w) m m' → Q (nI (lo kt (H + 1 - len) T).length) m') : wp_X2_expire u (nI H) m Q := by
  have hK : mK m u = 3 := h.1.1
  have hl := h.1.2.2.2.2.1
  have hle := lo_len kt (H + 1 - len) T
  unfold wp_X2_expire
  refine ⟨hK, hK, ?_⟩
  rw [hl]
  refine sp_X2_placeFrom h _ ?_
  rw [thr hH hlen]
  refine ⟨hK, sp_X2_remove h (P := 0) (g := (lo kt (H + 1 - len) T).length) (by omega) fun m' B' h1 h2 h3 => ?_⟩
  rw [List.take_zero, List.nil_append, Nat.zero_add, h.2.2.1.hi_drop] at h1
  rw [List.take_zero, List.nil_append, Nat.zero_add, h.2.2.1.hi_drop] at h2
  exact hq m' B' h1 h2 h3
theorem sets4 (m : MM) (r s : Nat) (a b : Int32) {m4 m5 m6 m7 : MM} (sr : ¬ s = r) (e4 : m4 = sI m 23 r a) (e5 : m5 = sI m4 24 r b) (e6 : m6 = sJ m5 22 r (mJ m5 22 r + mJ m5 22 s)) (e7 : m7 = sJ m6 27 r (mJ m6 27 r + mJ m6 27 s)) : mI m7 20 r = mI m 20 r ∧ mI m7 21 r = mI m 21 r ∧ mI m7 23 r = a ∧ mI m7 24 r = b ∧ mI m7 25 r = mI m 25 r ∧ mI m7 26 r = mI m 26 r ∧ mJ m7 22 r = mJ m 22 r + mJ m 22 s ∧ mJ m7 27 r = mJ m 27 r + mJ m 27 s ∧ mK m7 = mK m ∧ Fr (fun y => y = r) m m7 := by
  subst e4 e5 e6 e7
  refine ⟨?_, ?_, ?_, ?_, ?_, ?_, ?_, ?_, rfl, (((Fr.sI _ _ _ _).trans (Fr.sI _ _ _ _)).trans (Fr.sJ _ _ _ _)).trans (Fr.sJ _ _ _ _)⟩ <;> simp [i_sI, i_sJ, j_sI, j_sJ, sr]
theorem sp_X1_addRollup_52 {m : MM} {r s : Nat} {f x : Int32} {Q : MM → Prop} (hK : mK m r = 2) (hKs : mK m s = 2) (sr : ¬ s = r) (hq : ∀ m', mI m' 20 r = mI m 20 r → mI m' 21 r = mI m 21 r → mI m' 23 r = x → (f = 0 → mI m' 24 r = mx (mI m 24 r) (mI m 24 s)) → (¬ f = 0 → mI m' 24 r = mI m 24 s) → mI m' 25 r = mI m 25 r → mI m' 26 r = mI m 26 r → mJ m' 22 r = mJ m 22 r + mJ m 22 s → mJ m' 27 r = mJ m 27 r + mJ m 27 s → mK m' r = 2 → Fr (fun y => y = r) m m' → Q m') : wp_X1_addRollup_52 Q r s f x r m := by
  unfold wp_X1_addRollup_52
  refine ⟨hK, fun m4 e4 => ?_⟩
  obtain ⟨-, q1, -, q2⟩ := sets1 m r x e4
  have q3 : mI m4 24 s = mI m 24 s := by rw [e4, i_sI, if_neg (fun z => sr z.2)]
  have k4 : mK m4 r = 2 := by rw [q2]; exact hK
  have k4s : mK m4 s = 2 := by rw [q2]; exact hKs
  have go : ∀ y : Int32, (f = 0 → y = mx (mI m 24 r) (mI m 24 s)) → (¬ f = 0 → y = mI m 24 s) → wp_X1_addRollup_78 Q r s y r m4 := by
    intro y hy1 hy2
    unfold wp_X1_addRollup_78
    refine ⟨k4, fun m5 e5 => ?_⟩
    obtain ⟨-, q5⟩ := sets2 m r x y e4 e5
    have k5 : mK m5 r = 2 := by rw [q5]; exact hK
    have k5s : mK m5 s = 2 := by rw [q5]; exact hKs
    refine ⟨k5, k5s, k5, fun m6 e6 => ?_⟩
    have q6 : mK m6 = mK m5 := by rw [e6]; rfl
    have k6 : mK m6 r = 2 := by rw [q6]; exact k5
    have k6s : mK m6 s = 2 := by rw [q6]; exact k5s
    refine ⟨k6, k6s, k6, fun m7 e7 => ?_⟩
    obtain ⟨w1, w2, w3, w4, w5, w6, w7, w8, w9, wF⟩ := sets4 m r s x y sr e4 e5 e6 e7
    exact hq m7 w1 w2 w3 (fun z => w4.trans (hy1 z)) (fun z => w4.trans (hy2 z)) w5 w6 w7 w8 (by rw [w9]; exact hK) wF
  refine ⟨fun z => ⟨k4, k4s, go _ (fun _ => ?_) (fun y => absurd z y)⟩, fun z => ⟨k4s, go _ (fun y => absurd y z) (fun _ => q3)⟩⟩
  rw [q1, q3, mx_is]
theorem sp_X1_addRollup {m : MM} {r s : Nat} {L L2 : List Int32} (h : RS m r L) (h2 : RS m s L2) (hL2 : L2 ≠ []) (hrs : r ≠ s) (hlen : L.length + L2.length < 2 ^ 30) {Q : MM → Prop} (hq : ∀ m', RS m' r (L ++ L2) → Fr (fun x => x = r) m m' → mI m' 20 r = mI m 20 r → Q m') : wp_X1_addRollup r s m Q := by
  obtain ⟨hK, a1, a2, a3, a4⟩ := id h
  obtain ⟨hKs, b1, b2, b3, b4⟩ := id h2
  obtain ⟨b5, b6, b7, b8⟩ := b4 hL2
  have sr : ¬ s = r := fun z => hrs z.symm
  have hp2 : 0 < L2.length := List.length_pos_iff.mpr hL2
  have key : ∀ f : Int32, (f = 0 ↔ L ≠ []) → wp_X1_addRollup_12 Q r s f m := by
    intro f hf
    unfold wp_X1_addRollup_12
    refine ⟨hKs, hKs, hKs, hK, sp_X1_join hK fun m3 hF hb hc hs hmn hmx hl he hn => ?_⟩
    have hK3 : mK m3 r = 2 := hF.K hK (by decide)
    have hs3 : RS m3 s L2 := h2.fr hF sr
    obtain ⟨hKs3, c1, c2, c3, c4⟩ := id hs3
    obtain ⟨c5, c6, c7, c8⟩ := c4 hL2
    have cnt : mI m3 21 r = nI (L ++ L2).length := by rw [hc, a1, b1, nI_add, List.length_append]
    by_cases hL : L = []
    · have hf1 : ¬ f = 0 := fun z => (hf.mp z) hL
      subst hL
      obtain ⟨e1, e2⟩ := he (a1.trans nI_00)
      refine ⟨fun z => absurd z hf1, fun _ => ⟨hKs3, sp_X1_addRollup_52 hK3 hKs3 sr fun m7 w1 w2 w3 _ w4 w5 w6 w7 w8 w9 wF => ?_⟩⟩
      refine hq _ ⟨w9, w2.trans cnt, ?_, ?_, fun _ => ⟨?_, ?_, ?_, ?_⟩⟩ (hF.trans wF) (w1.trans hb)
      · rw [w7, hs, a2, c2, vSum_app]
      · rw [w8, e2, a3, c3, List.nil_append]; exact Int64.zero_add _
      · rw [w3, c5]; rfl
      · rw [w4 hf1, c6]; rfl
      · rw [w5, e1, b7]; rfl
      · rw [w6, hl, b8]; rfl
    · have hf0 : f = 0 := hf.mpr hL
      have hpos : 0 < L.length := List.length_pos_iff.mpr hL
      obtain ⟨g1, g2, g3, g4⟩ := a4 hL
      obtain ⟨e1, e2⟩ := hn (by rw [a1]; exact nI_len_ne0 hpos (by omega))
      refine ⟨fun _ => ⟨hK3, hKs3, sp_X1_addRollup_52 hK3 hKs3 sr fun m7 w1 w2 w3 w4 _ w5 w6 w7 w8 w9 wF => ?_⟩, fun z => absurd hf0 z⟩
      refine hq _ ⟨w9, w2.trans cnt, ?_, ?_, fun _ => ⟨?_, ?_, ?_, ?_⟩⟩ (hF.trans wF) (w1.trans hb)
      · rw [w7, hs, a2, c2, vSum_app]
      · rw [w8, e2, a3, c3, g4, b7, vInc_app hL hL2]
      · rw [w3, hmn, g1, c5, vMin_app hL hL2, mn_is]
      · rw [w4 hf0, hmx, g2, c6, vMax_app hL hL2]
      · rw [w5, e1, g3, vFst_app _ hL]
      · rw [w6, hl, b8, vLst_app _ hL2]
  unfold wp_X1_addRollup
  refine ⟨hK, fun c => key 0 ⟨fun _ z => c (a1.trans ((congrArg (fun l : List Int32 => nI l.length) z).trans nI_00)), fun _ => rfl⟩, fun c => key 1 ⟨fun z => absurd z (by decide), fun z => absurd (a1.symm.trans c) (nI_len_ne0 (List.length_pos_iff.mpr z) (by omega))⟩⟩
/-- all values of the rollups that begin from a up to b -/
def vals (T : List RT) : List Int32 := T.flatMap (fun x => x.2.2)
theorem sp_X2_addTo_loop {u w len cap r : Nat} {T : List RT} {B : List Nat} {b : Nat} (hb : b < 2 ^ 31) (hr9 : r ∉ ad T) (hne : ∀ x ∈ T, x.2.2 ≠ []) {Q : MM → Prop} : ∀ (n j : Nat) (m : MM) (L : List Int32), Rw m u w len cap T B → RS m r L → L.length + (vals ((lo kt b T).drop j)).length < 2 ^ 30 → T.length + 1 ≤ n + j → (∀ m', RS m' r (L ++ vals ((lo kt b T).drop j)) → Fr (fun x => x = r) m m' → mI m' 20 r = mI m 20 r → Q m') → j ≤ T.length → wp_X2_addTo_7 Q n u r (nI b) (nI j) m := by
  intro n
  induction n with
  | zero => intro j m L h hr hL hn hq hj; omega
  | succ n ih =>
    intro j m L h hr hL hn hq hj
    obtain ⟨⟨a1, a2, a3, a4, a5, a6, a7, a8, a9, b1, b2, b3, b4⟩, c1, c2, c3⟩ := id h
    have hle := h.len
    have hlo := lo_len kt b T
    have hstop : (lo kt b T).length ≤ j → Q m := fun q => hq m (by rw [List.drop_eq_nil_of_le q]; show RS m r (L ++ []); rw [List.append_nil]; exact hr) (Fr.refl _ _) rfl
    unfold wp_X2_addTo_7
    refine ⟨a1, fun c => ?_, fun c => ?_⟩
    · rw [a6] at c
      have := (nI_leI (by omega) (by omega)).mp c
      exact hstop (by omega)
    · rw [a6] at c
      have d2 : j < T.length := by
        rcases Nat.lt_or_ge j T.length with q | q
        · exact q
        · exact absurd (nI_le q (by omega)) c
      refine ⟨a1, sp_X2_rowOrNull h (fun j2 x e hx => ⟨fun z => (by cases z), fun y hy => ?_⟩) (fun hn => absurd (hn j rfl (by omega)) (by omega))⟩
      cases hy
      have hj2 := (List.getElem?_eq_some_iff.mp hx).1
      have ej : j2 = j := ((nI_eq (by omega) (by omega)).mp e).symm
      rw [ej] at hx
      have hxm := List.mem_of_getElem? hx
      have hxs := c3 x hxm
      have hix := c2.ix b hx
      have hxa : x.1 ∈ ad T := List.mem_map.mpr ⟨x, hxm, rfl⟩
      have hxk := b4 x.1 (List.mem_append_left _ hxa)
      refine ⟨hxk, ?_⟩
      rw [(c1 x hxm).1]
      refine ⟨fun d3 => ?_, fun d3 => ?_⟩
      · have d4 : x.2.1 < b := (nI_ltI hxs hb).mp d3
        have hjl := hix.mp d4
        have e : (lo kt b T).drop j = x :: (lo kt b T).drop (j + 1) := by
          have hx2 : (lo kt b T)[j]? = some x := by
            have h8 := c2.split b
            rw [← h8, List.getElem?_append_left hjl] at hx
            exact hx
          obtain ⟨g1, g2⟩ := List.getElem?_eq_some_iff.mp hx2
          rw [List.drop_eq_getElem_cons g1, g2]
        have ev : vals ((lo kt b T).drop j) = x.2.2 ++ vals ((lo kt b T).drop (j + 1)) := by
          rw [e]; exact List.flatMap_cons
        rw [ev, List.length_append] at hL
        refine ⟨hr.1, sp_X1_addRollup hr (c1 x hxm).2 (hne x hxm) (fun z => hr9 (by rw [z]; exact hxa)) (by omega) fun m1 hr1 hF1 hb1 => ?_⟩
        simp only [forall_eq]
        rw [show nI j + 1 = nI (j + 1) from nI_1 j]
        have hne9 : ∀ q, mK m q ≠ 2 → q ≠ r := fun q hq9 z => hq9 (by rw [z]; exact hr.1)
        refine ih (j + 1) m1 (L ++ x.2.2) (h.fr hF1 (hne9 u (by rw [a1]; decide)) (hne9 w (by rw [a3]; decide)) (fun y hy z => hr9 (by rw [← z]; exact List.mem_map.mpr ⟨y, hy, rfl⟩))) hr1 (by rw [List.length_append]; omega) (by omega) (fun m' h1 h2 h3 => hq m' ?_ (hF1.trans h2) (h3.trans hb1)) (by omega)
        rw [ev, ← List.append_assoc]
        exact h1
      · have h9 : ¬ x.2.1 < b := fun z => d3 ((nI_ltI hxs hb).mpr z)
        exact hstop (by
          rcases Nat.lt_or_ge j (lo kt b T).length with q | q
          · exact absurd (hix.mpr q) h9
          · exact q)
theorem sp_X2_addTo {m : MM} {u w len cap r : Nat} {T : List RT} {B : List Nat} {L : List Int32} (h : Rw m u w len cap T B) (hr : RS m r L) (hr9 : r ∉ ad T) (hne : ∀ x ∈ T, x.2.2 ≠ []) {a b : Nat} (ha : a < 2 ^ 31) (hb : b < 2 ^ 31) (hL : L.length + (vals (hi kt a (lo kt b T))).length < 2 ^ 30) {Q : MM → Prop} (hq : ∀ m', RS m' r (L ++ vals (hi kt a (lo kt b T))) → Fr (fun x => x = r) m m' → mI m' 20 r = mI m 20 r → Q m') : wp_X2_addTo u r (nI a) (nI b) m Q := by
  unfold wp_X2_addTo
  refine ⟨h.1.1, sp_X2_placeFrom h (nI a) ?_⟩
  rw [nI_clamp ha]
  have hle := lo_len kt a T
  have e := lo_hi h.2.2.1 a b
  refine ⟨T.length + 1, sp_X2_addTo_loop hb hr9 hne _ _ m L h hr (by rw [e]; exact hL) (by omega) (fun m' h1 h2 h3 => hq m' ?_ h2 h3) hle⟩
  rw [e] at h1
  exact h1
