theorem nI_16384 : (16384 : Int32) = nI 16384 := by decide
/-- places that a row gets when it is full -/
def gro (cap : Nat) : Nat := if 16384 < 2 * cap then 16384 else 2 * cap
theorem sp_X2_makeRoom_loop {u w len cap k w2 cap2 : Nat} {D : List Nat} {kc ks : Nat} {Q : MM → Prop} : ∀ (n j : Nat) (m : MM), Rsh m u w len cap D k → k = D.length → w2 ≠ w → w2 ≠ u → mK m w2 = 14 → mN m w2 = cap2 → k < cap2 ∧ 8 ≤ cap2 → cap2 ≤ 16384 → (∀ i, i < cap2 → mAR m w2 i = if i < j then D[i]? else none) → j ≤ k → k + 1 ≤ n + j → (∀ m', Rsh m' u w2 len cap2 D k → Fr (fun x => x = u ∨ x = w2) m m' → Q m') → wp_X2_makeRoom_32 Q n u w2 (nI j) m kc ks := by
  intro n
  induction n with
  | zero => intro j m h1 h2 h3 h4 h5 h6 h7 h8 h9 h10 h11; omega
  | succ n ih =>
    intro j m h hk hw hwu hK2 hN2 hc2 hc3 hA hj hn hq
    obtain ⟨a1, a2, a3, a4, a5, a6, a7, a8, a9, b1, b2, b3, b4⟩ := id h
    unfold wp_X2_makeRoom_32
    refine ⟨a1, fun c => ⟨a1, ?_⟩, fun c => ⟨a1, w, a2, a3, ?_⟩⟩
    · rw [a6] at c
      have c2 := (nI_leI (by omega) (by omega)).mp c
      simp only [forall_eq]
      refine hq _ ⟨a1, by simp [r_sR], hK2, hN2, a5, a6, a7, by omega, by omega, hc3, fun i hi => ?_, b3, b4⟩ ((Fr.sR _ _ _ _).mono (fun _ _ z => Or.inl z))
      show mAR m w2 i = _
      rw [hA i hi]
      by_cases q : i < j
      · rw [if_pos q]
      · rw [if_neg q, List.getElem?_eq_none (by omega)]
    · rw [a6] at c
      have c2 : j < k := by
        rcases Nat.lt_or_ge j k with q | q
        · exact q
        · exact absurd (nI_le q (by omega)) c
      rw [a4, nI_clamp (by omega)]
      obtain ⟨r, hr⟩ : ∃ r, D[j]? = some r := ⟨_, List.getElem?_eq_getElem (by omega)⟩
      refine ⟨vp_in_nI (by omega) (by omega), fun o ho => ⟨r, by rw [ho, b2 _ (by omega), hr], hK2, ?_⟩⟩
      rw [hN2]
      refine ⟨vp_in_nI (by omega) (by omega), b4 r (List.mem_of_getElem? hr), ?_⟩
      simp only [forall_eq]
      rw [show nI j + 1 = nI (j + 1) from nI_1 j]
      have hF : Fr (fun x => x = u ∨ x = w2) m (sAR m w2 (va_up (mAR m w2) j (some r))) := (Fr.sAR _ _ _).mono (fun _ _ z => Or.inr z)
      refine ih (j + 1) _ (h.fr (Fr.sAR _ _ _) (fun z => hwu z.symm) (fun z => hw z.symm)) hk hw hwu hK2 hN2 hc2 hc3 (fun i hi => ?_) (by omega) (by omega) (fun m' g1 g2 => hq m' g1 (hF.trans g2))
      rw [ar_sAR, if_pos rfl]
      by_cases q : i = j
      · rw [q, va_up_self, if_pos (by omega), hr]
      · rw [va_up_ne _ _ q, hA i hi]
        by_cases q2 : i < j
        · rw [if_pos q2, if_pos (by omega)]
        · rw [if_neg q2, if_neg (by omega)]
theorem sp_X2_makeRoom {m : MM} {u w len cap k : Nat} {D : List Nat} (h : Rsh m u w len cap D k) (hk : k < 16384) {kc ks : Nat} (hkc : cap ≤ k → 1 ≤ kc) (hks : cap ≤ k → gro cap ≤ ks) {Q : MM → Prop} (hq : ∀ m' w' cap', cap' = (if cap ≤ k then gro cap else cap) → (w' = w ∨ mK m w' = 0) → k < cap' → Rsh m' u w' len cap' D k → Fr (fun x => x = u) m m' → Q m') : wp_X2_makeRoom u m Q kc ks := by
  obtain ⟨a1, a2, a3, a4, a5, a6, a7, a8, a9, b1, b2, b3, b4⟩ := id h
  unfold wp_X2_makeRoom
  refine ⟨a1, a1, w, a2, a3, ?_⟩
  rw [a4, a6]
  refine ⟨fun c => ⟨a1, w, a2, a3, ?_⟩, fun c => ?_⟩
  · have c2 : cap ≤ k := (nI_leI (by omega) (by omega)).mp c
    have e : (if (16384 : Int32) < (2 : Int32) * nI (mN m w) then (16384 : Int32) else (2 : Int32) * nI (mN m w)) = nI (gro cap) := by
      rw [a4, show (2 : Int32) * nI cap = nI (2 * cap) from pk_mul 2 cap]
      unfold gro
      rw [nI_16384]
      by_cases q : 16384 < 2 * cap
      · rw [if_pos q, if_pos ((nI_ltI (a := 16384) (by omega) (by omega)).mpr q)]
      · rw [if_neg q, if_neg (fun z => q ((nI_ltI (a := 16384) (by omega) (by omega)).mp z))]
    have hg : k < gro cap ∧ gro cap ≤ 16384 := by unfold gro; split <;> omega
    intro x10 hx
    rw [hx, e, nI_clamp (by omega)]
    refine ⟨nI_pos (by omega), by omega, hkc c2, hks c2, fun a9 h9 => ?_⟩
    simp only [forall_eq]
    have hne : ∀ q, mK m q ≠ 0 → q ≠ a9 := fun q hq9 z => hq9 (by rw [z]; exact h9)
    refine fun kc16 ks17 _ _ => ⟨k + 1, sp_X2_makeRoom_loop (w := w) (cap := cap) (len := len) (D := D) (k := k) (cap2 := gro cap) (k + 1) 0 _ (h.fr (S := fun _ => False) (Fr.nw _ _ _ _ h9 _) id id) (by omega) (fun z => hne w (by rw [a3]; decide) z.symm) (fun z => hne u (by rw [a1]; decide) z.symm) (by rw [k_nw, if_pos rfl]) (by rw [n_nw, if_pos rfl]) ⟨hg.1, by unfold gro; split <;> omega⟩ hg.2 (fun i _ => by rw [ar_nw, if_pos rfl, if_neg (by omega)]) (Nat.zero_le _) (by omega) (fun m' g1 g2 => hq m' a9 (gro cap) (by rw [if_pos c2]) (Or.inr h9) hg.1 g1 ?_)⟩
    exact (Fr.nw m 14 (gro cap) a9 h9 (fun x => x = u)).then g2 (fun q hq9 z => z.elim id (fun e => absurd e (hne q hq9)))
  · have c2 : k < cap := by
      rcases Nat.lt_or_ge k cap with q | q
      · exact q
      · exact absurd (nI_le q (by omega)) c
    exact hq m w cap (by rw [if_neg (by omega)]) (Or.inl rfl) c2 h (Fr.refl _ _)
/-- the rows behind P are moved on by one, then r stands at P -/
theorem sp_X2_findOrMake_loop {u w len cap k P r b : Nat} {D : List Nat} {kc ks : Nat} {Q : Option Nat → MM → Prop} (hb : b < 2 ^ 31) (hkc : k < cap) (hc : cap ≤ 16384) (hkD : k ≤ D.length) (hP : P ≤ k) : ∀ (n i : Nat) (m : MM), mK m u = 3 → mR m 41 u = some w → mK m w = 14 → mN m w = cap → mI m 42 u = nI k → (∀ x ∈ D, mK m x = 2) → mK m r = 2 → (∀ j, j < cap → mAR m w j = if i < j ∧ j ≤ k then D[j - 1]? else D[j]?) → P ≤ i → i ≤ k → i + 1 ≤ n + P → (∀ m', mK m' u = 3 → mR m' 41 u = some w → mK m' w = 14 → mN m' w = cap → mI m' 40 u = mI m 40 u → mI m' 42 u = nI (k + 1) → (∀ j, j < cap → mAR m' w j = if j = P then some r else if P < j ∧ j ≤ k then D[j - 1]? else D[j]?) → mI m' 20 r = nI b → (∀ a, mK m a ≠ 0 → mK m' a = mK m a ∧ mN m' a = mN m a ∧ (a ≠ u → a ≠ w → (∀ g, (g ≠ 20 ∨ a ≠ r) → mI m' g a = mI m g a) ∧ (∀ g, mJ m' g a = mJ m g a) ∧ (∀ g, mR m' g a = mR m g a) ∧ mAI m' a = mAI m a ∧ mAJ m' a = mAJ m a ∧ mAD m' a = mAD m a ∧ mAR m' a = mAR m a)) → Q (some r) m') → wp_X2_findOrMake_81 Q n u (nI b) (nI P) r (nI i) m kc ks := by
  intro n
  induction n with
  | zero => intro i m h1 h2 h3 h4 h5 h6 h7 h8 h9 h10 h11; omega
  | succ n ih =>
    intro i m h1 h2 h3 h4 h5 h6 h7 h8 hPi hik hn hq
    unfold wp_X2_findOrMake_81
    refine ⟨fun c => ?_, fun c => ?_⟩
    · have c2 := (nI_leI (by omega) (by omega)).mp c
      have ei : i = P := by omega
      simp only [forall_eq, exists_eq_left', Option.some.injEq, true_and, k_sAR, k_sI, i_sI, i_sAR, h1, h2, h3, h4, h5, h7]
      rw [nI_clamp (by omega)]
      refine ⟨vp_in_nI (by omega) (by omega), ?_⟩
      have ur : u ≠ r := fun z => by rw [z, h7] at h1; exact absurd h1 (by decide)
      refine hq _ h1 (by simp [r_sI, r_sAR, h2]) h3 h4 ?_ ?_ (fun j hj => ?_) ?_ (fun a ha => ⟨rfl, rfl, fun au aw => ⟨fun g hg => ?_, fun _ => rfl, fun _ => rfl, rfl, rfl, rfl, ?_⟩⟩)
      · simp [i_sI, i_sAR]
      · simp [i_sI, i_sAR, h5]
        exact nI_1 k
      · show mAR _ w j = _
        simp only [ar_sI, ar_sAR, if_true]
        by_cases q : j = P
        · rw [q, va_up_self, if_pos rfl]
        · rw [va_up_ne _ _ q, if_neg q, h8 j hj, ei]
      · have ru : ¬ r = u := fun z => ur z.symm
        simp [i_sI, i_sAR, ru]
      · have : ¬ (g = 42 ∧ a = u) := fun z => au z.2
        have h2 : ¬ (g = 20 ∧ a = r) := fun z => hg.elim (fun y => y z.1) (fun y => y z.2)
        simp only [i_sI, i_sAR, if_neg this, if_neg h2]
      · simp only [ar_sI, ar_sAR, if_neg aw]
    · have c2 : P < i := by
        rcases Nat.lt_or_ge P i with q | q
        · exact q
        · exact absurd (nI_le q (by omega)) c
      obtain ⟨y, hy⟩ : ∃ y, D[i - 1]? = some y := ⟨_, List.getElem?_eq_getElem (by omega)⟩
      have e1 : nI i - (1 : Int32) = nI (i - 1) := pk_sub (a := i) (b := 1) (by omega)
      have e2 : nI i + (-1) = nI (i - 1) := sb_m1 (by omega)
      simp only [forall_eq, exists_eq_left', Option.some.injEq, true_and, h1, h2, h3, h4, e1, e2]
      rw [nI_clamp (n := i - 1) (by omega), nI_clamp (n := i) (by omega), h8 (i - 1) (by omega), if_neg (by omega), hy]
      refine ⟨vp_in_nI (by omega) (by omega), y, rfl, vp_in_nI (by omega) (by omega), h6 y (List.mem_of_getElem? hy), ?_⟩
      refine ih (i - 1) _ h1 (by simp [r_sAR, h2]) h3 h4 (by simp [i_sAR, h5]) h6 h7 (fun j hj => ?_) (by omega) (by omega) (by omega) (fun m' g1 g2 g3 g4 g5 g6 g7 g8 g9 => hq m' g1 g2 g3 g4 (g5.trans (by simp [i_sAR])) g6 g7 g8 fun a ha => ?_)
      · rw [ar_sAR, if_pos rfl]
        by_cases q : j = i
        · rw [q, va_up_self, if_pos ⟨by omega, hik⟩, hy]
        · rw [va_up_ne _ _ q, h8 j hj]
          by_cases q2 : i < j ∧ j ≤ k
          · rw [if_pos q2, if_pos ⟨by omega, q2.2⟩]
          · rw [if_neg q2, if_neg (by omega)]
      · obtain ⟨f1, f2, f3⟩ := g9 a ha
        refine ⟨f1, f2, fun au aw => ?_⟩
        obtain ⟨d1, d2, d3, d4, d5, d6, d7⟩ := f3 au aw
        refine ⟨fun g hg => (d1 g hg).trans (by rw [i_sAR]), d2, d3, d4, d5, d6, d7.trans ?_⟩
        rw [ar_sAR, if_neg aw]
