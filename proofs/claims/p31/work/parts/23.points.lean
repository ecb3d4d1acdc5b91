/-! POINTS: the object p with its rows t (times) and v (values) holds the points l -/
abbrev kf : Nat × Int32 → Nat := fun a => a.1
def Pts (m : MM) (p t v : Nat) (l : List (Nat × Int32)) : Prop := mK m p = 1 ∧ mR m 0 p = some t ∧ mR m 1 p = some v ∧ t ≠ v ∧ mK m t = 11 ∧ mK m v = 11 ∧ mN m t = 100 ∧ mN m v = 100 ∧ l.length ≤ 100 ∧ mI m 2 p = nI l.length ∧ (∀ j a, l[j]? = some a → mAI m t j = nI a.1 ∧ mAI m v j = a.2) ∧ (∀ a ∈ l, a.1 < 2 ^ 31) ∧ Srt kf l
theorem Pts.fr {S : Nat → Prop} {m m' : MM} {p t v : Nat} {l : List (Nat × Int32)} (h : Pts m p t v l) (hf : Fr S m m') (h1 : ¬ S p) (h2 : ¬ S t) (h3 : ¬ S v) : Pts m' p t v l := by
  obtain ⟨a1, a2, a3, a4, a5, a6, a7, a8, a9, b1, b2, b3, b4⟩ := h
  obtain ⟨f1, -, f2⟩ := hf p (by rw [a1]; decide)
  obtain ⟨t1, t2, t3⟩ := hf t (by rw [a5]; decide)
  obtain ⟨v1, v2, v3⟩ := hf v (by rw [a6]; decide)
  obtain ⟨g1, -, g3, -⟩ := f2 h1
  obtain ⟨-, -, -, w1, -⟩ := t3 h2
  obtain ⟨-, -, -, w2, -⟩ := v3 h3
  exact ⟨by rw [f1, a1], by rw [g3, a2], by rw [g3, a3], a4, by rw [t1, a5], by rw [v1, a6], by rw [t2, a7], by rw [v2, a8], a9, by rw [g1, b1], fun j a hj => by rw [w1, w2]; exact b2 j a hj, b3, b4⟩
/-- half a power of two, as the leaps go -/
def lp (k : Nat) : Int32 := match k with
  | 0 => 0
  | k + 1 => nI (2 ^ k)
theorem lp_half (k : Nat) (hk : k ≤ 20) : (lp (k + 1) >>> ((1 : Int32) &&& 31)) = lp k := by
  have hp : (2 : Nat) ^ k ≤ 2 ^ 20 := Nat.pow_le_pow_right (by decide) hk
  show nI (2 ^ k) >>> ((1 : Int32) &&& 31) = lp k
  rw [pk_shrN (k := 1) (by omega) _ (by decide)]
  cases k with
  | zero => rfl
  | succ k =>
    show nI (2 ^ (k + 1) / 2 ^ 1) = nI (2 ^ k)
    rw [Nat.pow_succ, Nat.pow_one, Nat.mul_div_cancel _ (by decide)]
theorem sp_X0_placeFrom_loop {m : MM} {p t v : Nat} {l : List (Nat × Int32)} (h : Pts m p t v l) (tm : Int32) {Q : Int32 → MM → Prop} (hq : Q (nI (lo kf tm.toNatClampNeg l).length) m) : ∀ (k a : Nat), k ≤ 7 → a ≤ (lo kf tm.toNatClampNeg l).length → (lo kf tm.toNatClampNeg l).length < a + 2 ^ k → wp_X0_placeFrom_5 Q (k + 1) p tm (nI a) (lp k) m := by
  obtain ⟨a1, a2, a3, a4, a5, a6, a7, a8, a9, b1, b2, b3, b4⟩ := h
  have hle := lo_len kf tm.toNatClampNeg l
  intro k
  induction k with
  | zero =>
    intro a _ h1 h2
    unfold wp_X0_placeFrom_5
    have e : a = (lo kf tm.toNatClampNeg l).length := by omega
    refine ⟨fun _ => by rw [e]; exact hq, fun z => absurd (Int32.le_refl 0) z⟩
  | succ k ih =>
    intro a hk h1 h2
    have hp : (2 : Nat) ^ k ≤ 2 ^ 6 := Nat.pow_le_pow_right (by decide) (by omega)
    have hp0 : 0 < (2 : Nat) ^ k := Nat.pos_of_ne_zero (by simp)
    have hp1 : (2 : Nat) ^ (k + 1) = 2 ^ k + 2 ^ k := by rw [Nat.pow_succ]; omega
    unfold wp_X0_placeFrom_5
    refine ⟨fun z => absurd z (nI_nle hp0 (by omega)), fun _ => ⟨a1, ?_⟩⟩
    have es : nI a + lp (k + 1) = nI (a + 2 ^ k) := nI_add a (2 ^ k)
    simp only [forall_eq, es, lp_half k (by omega), b1]
    refine ⟨fun c => ?_, fun c => ⟨a1, t, a2, a5, ?_⟩⟩
    · have c2 : l.length < a + 2 ^ k := (nI_ltI (by omega) (by omega)).mp c
      exact ih a (by omega) h1 (by omega)
    · have c2 : a + 2 ^ k ≤ l.length := by
        rcases Nat.lt_or_ge l.length (a + 2 ^ k) with q | q
        · exact absurd ((nI_ltI (by omega) (by omega)).mpr q) c
        · exact q
      have e1 : nI (a + 2 ^ k) - (1 : Int32) = nI (a + 2 ^ k - 1) := pk_sub (a := a + 2 ^ k) (b := 1) (by omega)
      rw [e1, a7, nI_clamp (by omega)]
      obtain ⟨b, hb⟩ : ∃ b, l[a + 2 ^ k - 1]? = some b := ⟨_, List.getElem?_eq_getElem (by omega)⟩
      rw [(b2 _ b hb).1]
      have hlt := lt_tn (b3 b (List.mem_of_getElem? hb)) tm
      have hix := b4.ix tm.toNatClampNeg hb
      refine ⟨vp_in_nI (by omega) (by omega), fun c3 => ?_, fun c3 => ?_⟩
      · have : ¬ b.1 < tm.toNatClampNeg := fun z => Int32.not_lt.mpr c3 (hlt.mpr z)
        have : ¬ a + 2 ^ k - 1 < (lo kf tm.toNatClampNeg l).length := fun z => this (hix.mpr z)
        exact ih a (by omega) h1 (by omega)
      · have : b.1 < tm.toNatClampNeg := hlt.mp (Int32.not_le.mp c3)
        have : a + 2 ^ k - 1 < (lo kf tm.toNatClampNeg l).length := hix.mp this
        exact ih (a + 2 ^ k) (by omega) (by omega) (by omega)
theorem sp_X0_placeFrom {m : MM} {p t v : Nat} {l : List (Nat × Int32)} (h : Pts m p t v l) (tm : Int32) {Q : Int32 → MM → Prop} (hq : Q (nI (lo kf tm.toNatClampNeg l).length) m) : wp_X0_placeFrom p tm m Q := by
  have hle := lo_len kf tm.toNatClampNeg l
  have h9 := h.2.2.2.2.2.2.2.2.1
  unfold wp_X0_placeFrom
  simp only [forall_eq]
  exact ⟨8, sp_X0_placeFrom_loop h tm hq 7 0 (Nat.le_refl _) (Nat.zero_le _) (by omega)⟩
theorem Pts.len {m : MM} {p t v : Nat} {l : List (Nat × Int32)} (h : Pts m p t v l) : l.length ≤ 100 := h.2.2.2.2.2.2.2.2.1
theorem Pts.srt {m : MM} {p t v : Nat} {l : List (Nat × Int32)} (h : Pts m p t v l) : Srt kf l := h.2.2.2.2.2.2.2.2.2.2.2.2
theorem Pts.small {m : MM} {p t v : Nat} {l : List (Nat × Int32)} (h : Pts m p t v l) : ∀ a ∈ l, a.1 < 2 ^ 31 := h.2.2.2.2.2.2.2.2.2.2.2.1
/-- of the place that placeFrom tells -/
theorem sp_X0_isAt {m : MM} {p t v : Nat} {l : List (Nat × Int32)} (h : Pts m p t v l) (tm : Int32) {Q : Int32 → MM → Prop} (h1 : ∀ a ∈ l, nI a.1 = tm → l[(lo kf tm.toNatClampNeg l).length]? = some a → Q 1 m) (h0 : (∀ a ∈ l, nI a.1 ≠ tm) → Q 0 m) : wp_X0_isAt p (nI (lo kf tm.toNatClampNeg l).length) tm m Q := by
  obtain ⟨a1, a2, a3, a4, a5, a6, a7, a8, a9, b1, b2, b3, b4⟩ := id h
  have hle := lo_len kf tm.toNatClampNeg l
  have key : ∀ a ∈ l, nI a.1 = tm → l[(lo kf tm.toNatClampNeg l).length]? = some a := fun a ha e => by
    have e2 : tm.toNatClampNeg = a.1 := by rw [← e]; exact nI_clamp (b3 a ha)
    rw [e2]
    exact b4.at ha
  unfold wp_X0_isAt
  refine ⟨fun z => absurd z (nI_pos (by omega)), fun _ => ⟨a1, ?_, ?_⟩⟩
  · intro c
    rw [b1] at c
    have c2 := (nI_leI (by omega) (by omega)).mp c
    refine h0 fun a ha e => ?_
    have := (List.getElem?_eq_some_iff.mp (key a ha e)).1
    omega
  · intro c
    rw [b1] at c
    have c2 : (lo kf tm.toNatClampNeg l).length < l.length := by
      rcases Nat.lt_or_ge (lo kf tm.toNatClampNeg l).length l.length with q | q
      · exact q
      · exact absurd (nI_le q (by omega)) c
    obtain ⟨b, hb⟩ : ∃ b, l[(lo kf tm.toNatClampNeg l).length]? = some b := ⟨_, List.getElem?_eq_getElem c2⟩
    refine ⟨a1, t, a2, a5, ?_⟩
    rw [a7, nI_clamp (by omega), (b2 _ b hb).1]
    refine ⟨vp_in_nI (by omega) (by omega), fun c3 => h0 fun a ha e => ?_, fun c3 => h1 b (List.mem_of_getElem? hb) c3 hb⟩
    have h9 := (key a ha e).symm.trans hb
    cases h9
    exact c3 e
theorem sp_X0_remove {m : MM} {p t v : Nat} {l : List (Nat × Int32)} (h : Pts m p t v l) {a k : Nat} (hak : a + k ≤ l.length) {Q : MM → Prop} (hq : ∀ m', Pts m' p t v (l.take a ++ l.drop (a + k)) → Fr (fun x => x = p ∨ x = t ∨ x = v) m m' → Q m') : wp_X0_remove p (nI a) (nI k) m Q := by
  obtain ⟨a1, a2, a3, a4, a5, a6, a7, a8, a9, b1, b2, b3, b4⟩ := id h
  unfold wp_X0_remove
  have e1 : nI l.length - nI a = nI (l.length - a) := pk_sub (by omega)
  have e2 : nI (l.length - a) - nI k = nI (l.length - a - k) := pk_sub (by omega)
  have e3 : nI a + nI k = nI (a + k) := nI_add _ _
  refine ⟨fun z => absurd z (nI_pos (by omega)), fun _ => ⟨fun z => ?_, fun _ => ⟨a1, ?_⟩⟩⟩
  · have k1 : k < 1 := (nI_ltI (a := k) (b := 1) (by omega) (by omega)).mp z
    have k0 : k = 0 := by omega
    refine hq m ?_ (Fr.refl _ _)
    rw [k0, Nat.add_zero, List.take_append_drop]
    exact h
  rw [b1, e1]
  refine ⟨fun _ => ?_, fun c => absurd (nI_le (by omega) (by omega)) c⟩
  simp only [forall_eq, exists_eq_left', Option.some.injEq, true_and, k_sAI, k_sI, n_sAI, n_sI, r_sAI, r_sI, i_sAI, a1, a2, a3, a5, a6, a7, a8, b1, e1, e2, e3]
  rw [nI_clamp (n := a + k) (by omega), nI_clamp (n := l.length - a - k) (by omega), nI_clamp (n := a) (by omega)]
  refine ⟨nI_pos (by omega), nI_pos (by omega), nI_pos (by omega), by omega, by omega, nI_pos (by omega), nI_pos (by omega), nI_pos (by omega), by omega, by omega, ?_⟩
  have e4 : nI l.length - nI k = nI (l.length - k) := pk_sub (by omega)
  rw [e4]
  have hlen : (l.take a ++ l.drop (a + k)).length = l.length - k := by
    rw [List.length_append, List.length_take, List.length_drop]; omega
  have hsub : ∀ c ∈ l.take a ++ l.drop (a + k), c ∈ l := fun c hc => by
    rcases List.mem_append.mp hc with q | q
    · exact List.mem_of_mem_take q
    · exact List.mem_of_mem_drop q
  refine hq _ ⟨a1, a2, a3, a4, a5, a6, a7, a8, by omega, by rw [hlen]; simp [i_sI], ?_, fun c hc => b3 c (hsub c hc), ?_⟩ ?_
  · intro j c hj
    have hj2 : l[if j < a then j else j + k]? = some c := by
      by_cases q : j < a
      · rw [if_pos q]
        rw [List.getElem?_append_left (by rw [List.length_take]; omega), List.getElem?_take, if_pos q] at hj
        exact hj
      · rw [if_neg q]
        rw [List.getElem?_append_right (by rw [List.length_take]; omega), List.length_take, List.getElem?_drop] at hj
        rw [show j + k = a + k + (j - min a l.length) by omega]
        exact hj
    have hlt := (List.getElem?_eq_some_iff.mp hj2).1
    obtain ⟨g1, g2⟩ := b2 _ c hj2
    have tv : ¬ t = v := a4
    have vt : ¬ v = t := fun z => a4 z.symm
    simp only [ai_sI, ai_sAI, if_true, if_neg tv, if_neg vt]
    have hcp : ∀ f : Nat → Int32, va_cpy f f (a + k) a (l.length - a - k) j = f (if j < a then j else j + k) := fun f => by
      unfold va_cpy
      by_cases q : j < a
      · rw [if_pos q, if_neg (by omega)]
      · rw [if_neg q] at hlt ⊢
        by_cases q2 : j < a + (l.length - a - k)
        · rw [if_pos ⟨by omega, q2⟩]
          congr 1
          omega
        · omega
    rw [hcp, hcp]
    exact ⟨g1, g2⟩
  · have : (l.take a ++ l.drop (a + k)).Sublist l := by
      conv => rhs; rw [← List.take_append_drop a l]
      refine List.Sublist.append (List.Sublist.refl _) ?_
      rw [← List.drop_drop]
      exact List.drop_sublist _ _
    exact List.Pairwise.sublist this b4
  · exact (((Fr.sAI _ _ _).mono (fun _ _ z => Or.inr (Or.inl z))).trans ((Fr.sAI _ _ _).mono (fun _ _ z => Or.inr (Or.inr z)))).trans ((Fr.sI _ _ _ _).mono (fun _ _ z => Or.inl z))
theorem sp_X0_expire {m : MM} {p t v : Nat} {l : List (Nat × Int32)} (h : Pts m p t v l) (tm : Int32) {Q : Int32 → MM → Prop} (hq : ∀ m', Pts m' p t v (hi kf tm.toNatClampNeg l) → Fr (fun x => x = p ∨ x = t ∨ x = v) m m' → Q (nI (lo kf tm.toNatClampNeg l).length) m') : wp_X0_expire p tm m Q := by
  have hle := lo_len kf tm.toNatClampNeg l
  unfold wp_X0_expire
  refine ⟨h.1, sp_X0_placeFrom h tm ⟨h.1, sp_X0_remove h (a := 0) (k := (lo kf tm.toNatClampNeg l).length) (by omega) fun m' h1 h2 => ?_⟩⟩
  rw [List.take_zero, List.nil_append, Nat.zero_add, h.srt.hi_drop] at h1
  exact hq m' h1 h2
/-- the values of the points from a up to b are added to what r tells of -/
theorem sp_X0_addTo_loop {p t v r : Nat} {l : List (Nat × Int32)} {b : Nat} (hb : b < 2 ^ 31) {Q : MM → Prop} : ∀ (n j : Nat) (m : MM) (L : List Int32), Pts m p t v l → RS m r L → L.length + l.length < 2 ^ 30 + j → l.length + 1 ≤ n + j → (∀ m', RS m' r (L ++ ((lo kf b l).drop j).map (·.2)) → Fr (fun x => x = r) m m' → mI m' 20 r = mI m 20 r → Q m') → j ≤ l.length → wp_X0_addTo_7 Q n p r (nI b) (nI j) m := by
  intro n
  induction n with
  | zero => intro j m L h hr hL hn hq hj; omega
  | succ n ih =>
    intro j m L h hr hL hn hq hj
    obtain ⟨a1, a2, a3, a4, a5, a6, a7, a8, a9, b1, b2, b3, b4⟩ := id h
    have hle := lo_len kf b l
    have hstop : (lo kf b l).length ≤ j → Q m := fun q => hq m (by rw [List.drop_eq_nil_of_le q, List.map_nil, List.append_nil]; exact hr) (Fr.refl _ _) rfl
    unfold wp_X0_addTo_7
    refine ⟨a1, ?_, ?_⟩
    · intro c
      rw [b1] at c
      have := (nI_leI (by omega) (by omega)).mp c
      exact hstop (by omega)
    · intro c
      rw [b1] at c
      have c2 : j < l.length := by
        rcases Nat.lt_or_ge j l.length with q | q
        · exact q
        · exact absurd (nI_le q (by omega)) c
      obtain ⟨x, hx⟩ : ∃ x, l[j]? = some x := ⟨_, List.getElem?_eq_getElem c2⟩
      have hxs := b3 x (List.mem_of_getElem? hx)
      have hix := b4.ix b hx
      refine ⟨a1, t, a2, a5, ?_⟩
      rw [a7, nI_clamp (by omega), (b2 _ x hx).1]
      refine ⟨vp_in_nI (by omega) (by omega), fun c3 => ?_, fun c3 => ⟨a1, v, a3, a6, ?_⟩⟩
      · have := (nI_leI hb hxs).mp c3
        have h9 : ¬ x.1 < b := by omega
        exact hstop (by
          rcases Nat.lt_or_ge j (lo kf b l).length with q | q
          · exact absurd (hix.mpr q) h9
          · exact q)
      · have c4 : x.1 < b := by
          rcases Nat.lt_or_ge x.1 b with q | q
          · exact q
          · exact absurd (nI_le q (by omega)) c3
        have hjl := hix.mp c4
        rw [a8, (b2 _ x hx).2]
        refine ⟨vp_in_nI (by omega) (by omega), hr.1, sp_X1_addPoint hr (by omega) fun m1 hr1 hF1 hb1 => ?_⟩
        simp only [forall_eq]
        rw [show nI j + 1 = nI (j + 1) from nI_1 j]
        have hne : ∀ q, mK m q ≠ 2 → q ≠ r := fun q hq9 z => hq9 (by rw [z]; exact hr.1)
        refine ih (j + 1) m1 (L ++ [x.2]) (h.fr hF1 (hne p (by rw [a1]; decide)) (hne t (by rw [a5]; decide)) (hne v (by rw [a6]; decide))) hr1 (by rw [List.length_append, List.length_singleton]; omega) (by omega) (fun m' h1 h2 h3 => hq m' ?_ (hF1.trans h2) (h3.trans hb1)) (by omega)
        have e : (lo kf b l).drop j = x :: (lo kf b l).drop (j + 1) := by
          have hx2 : (lo kf b l)[j]? = some x := by
            have h8 := b4.split b
            rw [← h8, List.getElem?_append_left hjl] at hx
            exact hx
          obtain ⟨g1, g2⟩ := List.getElem?_eq_some_iff.mp hx2
          rw [List.drop_eq_getElem_cons g1, g2]
        rw [e, List.map_cons]
        rw [List.append_assoc] at h1
        exact h1
theorem sp_X0_addTo {m : MM} {p t v r : Nat} {l : List (Nat × Int32)} {L : List Int32} (h : Pts m p t v l) (hr : RS m r L) {a b : Nat} (ha : a < 2 ^ 31) (hb : b < 2 ^ 31) (hL : L.length + l.length < 2 ^ 30) {Q : MM → Prop} (hq : ∀ m', RS m' r (L ++ (hi kf a (lo kf b l)).map (·.2)) → Fr (fun x => x = r) m m' → mI m' 20 r = mI m 20 r → Q m') : wp_X0_addTo p r (nI a) (nI b) m Q := by
  unfold wp_X0_addTo
  refine ⟨h.1, sp_X0_placeFrom h (nI a) ?_⟩
  rw [nI_clamp ha]
  have hle := lo_len kf a l
  refine ⟨l.length + 1, sp_X0_addTo_loop hb _ _ m L h hr (by omega) (by omega) (fun m' h1 h2 h3 => hq m' ?_ h2 h3) hle⟩
  rw [lo_hi h.srt] at h1
  exact h1
theorem sp_X0_isAtN {m : MM} {p t v a : Nat} {l : List (Nat × Int32)} (h : Pts m p t v l) (ha : a < 2 ^ 31) {Q : Int32 → MM → Prop} (h1 : ∀ b ∈ l, b.1 = a → l[(lo kf a l).length]? = some b → Q 1 m) (h0 : (∀ b ∈ l, b.1 ≠ a) → Q 0 m) : wp_X0_isAt p (nI (lo kf a l).length) (nI a) m Q := by
  have := sp_X0_isAt (Q := Q) h (nI a) (fun b hb e hj => h1 b hb ((nI_eq (h.small b hb) ha).mp e) (by rw [nI_clamp ha] at hj; exact hj)) (fun q => h0 fun b hb e => q b hb (by rw [e]))
  rw [nI_clamp ha] at this
  exact this
/-- the value at a time that is there is set -/
theorem Pts.set {m : MM} {p t v a : Nat} {l : List (Nat × Int32)} (h : Pts m p t v l) {b : Nat × Int32} (hb : b ∈ l) (e : b.1 = a) (x : Int32) : Pts (sAI m v (va_up (mAI m v) (lo kf a l).length x)) p t v (ins kf (a, x) l) := by
  obtain ⟨a1, a2, a3, a4, a5, a6, a7, a8, a9, b1, b2, b3, b4⟩ := id h
  have e2 : kf b = kf (a, x) := e
  have hlen := ins_old_len (f := kf) b4 hb e2
  have vt : ¬ t = v := a4
  refine ⟨a1, a2, a3, a4, a5, a6, a7, a8, by rw [hlen]; exact a9, by rw [hlen]; exact b1, ?_, ?_, Srt.ins (f := kf) b4 _⟩
  · intro j c hj
    rw [ins_old (f := kf) b4 hb e2] at hj
    rw [ai_sAI, ai_sAI, if_neg vt, if_pos rfl]
    by_cases q : j = (lo kf a l).length
    · rw [if_pos (show j = (lo kf (kf (a, x)) l).length from q)] at hj
      cases hj
      have h9 := b4.at hb
      rw [show kf b = a from e] at h9
      rw [q, va_up_self]
      exact ⟨by rw [(b2 _ b h9).1, e], rfl⟩
    · rw [if_neg (show ¬ j = (lo kf (kf (a, x)) l).length from q)] at hj
      rw [va_up_ne _ _ q]
      exact b2 j c hj
  · intro c hc
    rcases mem_ins.mp hc with rfl | ⟨q, -⟩
    · show a < _
      rw [← e]; exact b3 b hb
    · exact b3 c q
theorem cpy_up (f : Nat → Int32) {P n : Nat} (j : Nat) (hj : j ≤ n) (hP : P ≤ n) : va_cpy f f P (P + 1) (n - P) j = if P < j then f (j - 1) else f j := by
  unfold va_cpy
  by_cases q : P < j
  · rw [if_pos ⟨by omega, by omega⟩, if_pos q]
    congr 1
    omega
  · rw [if_neg (by omega), if_neg q]
theorem sp_X0_write {m : MM} {p t v a : Nat} {x : Int32} {l : List (Nat × Int32)} (h : Pts m p t v l) (ha : a < 2 ^ 31) (hroom : l.length < 100 ∨ ∃ b ∈ l, b.1 = a) {Q : Int32 → MM → Prop} (hq : ∀ (r : Int32) m', ((∃ b ∈ l, b.1 = a) → r = 1) → ((∀ b ∈ l, b.1 ≠ a) → r = 0) → Pts m' p t v (ins kf (a, x) l) → Fr (fun y => y = p ∨ y = t ∨ y = v) m m' → Q r m') : wp_X0_write p (nI a) x m Q := by
  obtain ⟨a1, a2, a3, a4, a5, a6, a7, a8, a9, b1, b2, b3, b4⟩ := id h
  have hle := lo_len kf a l
  have hv : Fr (fun y => y = p ∨ y = t ∨ y = v) m (sAI m v (va_up (mAI m v) (lo kf a l).length x)) := (Fr.sAI _ _ _).mono (fun _ _ z => Or.inr (Or.inr z))
  unfold wp_X0_write
  refine ⟨a1, sp_X0_placeFrom h (nI a) ?_⟩
  rw [nI_clamp ha]
  refine ⟨a1, sp_X0_isAtN h ha (fun b hb e hj => ⟨fun _ => ⟨a1, sp_X0_isAtN h ha (fun b' hb' e' hj' => ⟨fun z => absurd z (by decide), fun _ => ?_⟩) (fun q => absurd e (q b hb))⟩, fun z => absurd z (by decide)⟩) (fun hn => ⟨fun z => absurd rfl z, fun _ => ?_⟩)⟩
  · have hlt := (List.getElem?_eq_some_iff.mp hj).1
    simp only [forall_eq, exists_eq_left', Option.some.injEq, true_and, a1, a3, a6, a8]
    rw [nI_clamp (by omega)]
    exact ⟨vp_in_nI (by omega) (by omega), Or.inr trivial, hq 1 _ (fun _ => rfl) (fun q => absurd e (q b hb)) (h.set hb e x) hv⟩
  · have hl100 : l.length < 100 := by
      rcases hroom with q | ⟨b, hb, e⟩
      · exact q
      · exact absurd e (hn b hb)
    have e1 : nI (lo kf a l).length + 1 = nI ((lo kf a l).length + 1) := nI_1 _
    have e2 : nI l.length - nI (lo kf a l).length = nI (l.length - (lo kf a l).length) := pk_sub hle
    have e3 : nI l.length + 1 = nI (l.length + 1) := nI_1 _
    refine ⟨a1, fun c => ?_, fun _ => ?_⟩
    · rw [b1] at c
      exact absurd c (nI_ge (b := 100) hl100 (by omega))
    · simp only [forall_eq, exists_eq_left', Option.some.injEq, true_and, k_sAI, k_sI, n_sAI, n_sI, r_sAI, r_sI, i_sAI, a1, a2, a3, a5, a6, a7, a8, b1, e1, e2, e3]
      rw [nI_clamp (n := (lo kf a l).length + 1) (by omega), nI_clamp (n := l.length - (lo kf a l).length) (by omega), nI_clamp (n := (lo kf a l).length) (by omega)]
      refine ⟨nI_pos (by omega), nI_pos (by omega), nI_pos (by omega), by omega, by omega, nI_pos (by omega), nI_pos (by omega), nI_pos (by omega), by omega, by omega, vp_in_nI (by omega) (by omega), ?_⟩
      generalize hm : sI _ 2 p (nI (l.length + 1)) = m61
      have hF : Fr (fun y => y = p ∨ y = t ∨ y = v) m m61 := by
        rw [← hm]
        exact ((((Fr.sAI _ _ _).mono (fun _ _ z => Or.inr (Or.inl z))).trans ((Fr.sAI _ _ _).mono (fun _ _ z => Or.inr (Or.inr z)))).trans ((Fr.sAI _ _ _).mono (fun _ _ z => Or.inr (Or.inl z)))).trans ((Fr.sI _ _ _ _).mono (fun _ _ z => Or.inl z))
      have vt : ¬ v = t := fun z => a4 z.symm
      have tv : ¬ t = v := a4
      have hT : ∀ j, mAI m61 t j = if j = (lo kf a l).length then nI a else va_cpy (mAI m t) (mAI m t) (lo kf a l).length ((lo kf a l).length + 1) (l.length - (lo kf a l).length) j := fun j => by
        rw [← hm]
        simp only [ai_sI, ai_sAI, if_true, if_neg tv]
        unfold va_up
        rfl
      have hV : ∀ j, mAI m61 v j = va_cpy (mAI m v) (mAI m v) (lo kf a l).length ((lo kf a l).length + 1) (l.length - (lo kf a l).length) j := fun j => by
        rw [← hm]
        simp only [ai_sI, ai_sAI, if_true, if_neg vt]
      have hk : ∀ q k, mK m q = k → mK m61 q = k := fun q k hq9 => by rw [← hm]; exact hq9
      have hPn : Pts m61 p t v (ins kf (a, mAI m61 v (lo kf a l).length) l) := by
        have hn2 : ∀ b ∈ l, kf b ≠ kf (a, mAI m61 v (lo kf a l).length) := hn
        have hlen := ins_new_len (f := kf) b4 hn2
        refine ⟨hk _ _ a1, by rw [← hm]; exact a2, by rw [← hm]; exact a3, a4, hk _ _ a5, hk _ _ a6, by rw [← hm]; exact a7, by rw [← hm]; exact a8, by rw [hlen]; omega, by rw [hlen, ← hm]; simp [i_sI], ?_, ?_, Srt.ins (f := kf) b4 _⟩
        · intro j c hj
          have hjl := (List.getElem?_eq_some_iff.mp hj).1
          rw [hlen] at hjl
          rw [ins_new (f := kf) b4 hn2] at hj
          have hP9 : (lo kf (kf (a, mAI m61 v (lo kf a l).length)) l).length = (lo kf a l).length := rfl
          rw [hP9] at hj
          rw [hT, hV, cpy_up _ j (by omega) hle, cpy_up _ j (by omega) hle]
          by_cases q1 : j < (lo kf a l).length
          · rw [if_pos q1] at hj
            rw [if_neg (by omega), if_neg (by omega), if_neg (by omega)]
            exact b2 j c hj
          · rw [if_neg q1] at hj
            by_cases q2 : j = (lo kf a l).length
            · rw [if_pos q2] at hj
              cases hj
              rw [if_pos q2, if_neg (by omega), q2, hV, cpy_up _ _ hle hle, if_neg (by omega)]
              exact ⟨rfl, rfl⟩
            · rw [if_neg q2] at hj
              rw [if_neg q2, if_pos (by omega), if_pos (by omega)]
              exact b2 (j - 1) c hj
        · intro c hc
          rcases mem_ins.mp hc with rfl | ⟨q, -⟩
          · exact ha
          · exact b3 c q
      have hmem : (a, mAI m61 v (lo kf a l).length) ∈ ins kf (a, mAI m61 v (lo kf a l).length) l := mem_ins.mpr (Or.inl rfl)
      have hlo : (lo kf a (ins kf (a, mAI m61 v (lo kf a l).length) l)).length = (lo kf a l).length := congrArg List.length (lo_ins (f := kf) (a, mAI m61 v (lo kf a l).length) l)
      rw [← hlo]
      refine sp_X0_isAtN hPn ha (fun b hb e hj => ⟨fun z => absurd z (by decide), fun _ => ?_⟩) (fun q => absurd rfl (q _ hmem))
      have hsP := hPn.set hmem rfl x
      rw [ins_ins (f := kf) (a := ((a, mAI m61 v (lo kf a l).length).1, x)) (b := (a, mAI m61 v (lo kf a l).length)) b4 rfl] at hsP
      simp only [hPn.1, hPn.2.2.1, hPn.2.2.2.2.2.1, hPn.2.2.2.2.2.2.2.1, exists_eq_left', Option.some.injEq, true_and]
      exact ⟨vp_in_nI (by rw [hlo]; omega) (by omega), Or.inl trivial, hq 0 _ (fun ⟨b, hb, e⟩ => absurd e (hn b hb)) (fun _ => rfl) hsP (hF.trans ((Fr.sAI _ _ _).mono (fun _ _ z => Or.inr (Or.inr z))))⟩
