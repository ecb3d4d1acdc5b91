theorem shift_some {α : Type} (X Y B : List α) (r : α) (j : Nat) : (X ++ r :: (Y ++ B))[j]? = if j = X.length then some r else if X.length < j ∧ j ≤ X.length + Y.length then (X ++ (Y ++ r :: B))[j - 1]? else (X ++ (Y ++ r :: B))[j]? := by
  by_cases h1 : j < X.length
  · rw [List.getElem?_append_left h1, if_neg (by omega), if_neg (by omega), List.getElem?_append_left h1]
  · rw [List.getElem?_append_right (by omega)]
    by_cases h2 : j = X.length
    · rw [if_pos h2, h2, Nat.sub_self]; rfl
    · rw [if_neg h2]
      obtain ⟨i, hi⟩ : ∃ i, j - X.length = i + 1 := ⟨j - X.length - 1, by omega⟩
      rw [hi, List.getElem?_cons_succ]
      by_cases h3 : i < Y.length
      · rw [if_pos ⟨by omega, by omega⟩, List.getElem?_append_left h3, List.getElem?_append_right (by omega), show j - 1 - X.length = i by omega, List.getElem?_append_left h3]
      · rw [if_neg (by omega), List.getElem?_append_right (by omega), List.getElem?_append_right (by omega), hi, List.getElem?_append_right (by omega), show i + 1 - Y.length = (i - Y.length) + 1 by omega, List.getElem?_cons_succ]
theorem shift_new {α : Type} (X Y : List α) (r : α) (j : Nat) : (X ++ r :: (Y ++ []))[j]? = if j = X.length then some r else if X.length < j ∧ j ≤ X.length + Y.length then (X ++ (Y ++ []))[j - 1]? else (X ++ (Y ++ []))[j]? := by
  by_cases h1 : j < X.length
  · rw [List.getElem?_append_left h1, if_neg (by omega), if_neg (by omega), List.getElem?_append_left h1]
  · rw [List.getElem?_append_right (by omega)]
    by_cases h2 : j = X.length
    · rw [if_pos h2, h2, Nat.sub_self]; rfl
    · rw [if_neg h2]
      obtain ⟨i, hi⟩ : ∃ i, j - X.length = i + 1 := ⟨j - X.length - 1, by omega⟩
      rw [hi, List.getElem?_cons_succ, List.append_nil]
      by_cases h3 : i < Y.length
      · rw [if_pos ⟨by omega, by omega⟩, List.getElem?_append_right (by omega), show j - 1 - X.length = i by omega]
      · rw [if_neg (by omega), List.getElem?_eq_none (by omega), List.getElem?_eq_none (by rw [List.length_append]; omega)]
theorem ad_split {T : List RT} (h : Srt kt T) (b : Nat) : ad T = ad (lo kt b T) ++ ad (hi kt b T) := by
  conv => lhs; rw [← h.split b]
  exact List.map_append ..
/-- what a making leaves -/
def Made (m m' : MM) (u w len cap b : Nat) (T : List RT) (B : List Nat) (r w' cap' : Nat) (B' : List Nat) : Prop := cap' = (if cap ≤ T.length then gro cap else cap) ∧ (w' = w ∨ mK m w' = 0) ∧ (r ∈ B ∨ mK m r = 0) ∧ (∀ y ∈ B', y ∈ B) ∧ Rsh m' u w' len cap' (ad (lo kt b T) ++ r :: (ad (hi kt b T) ++ B')) (T.length + 1) ∧ mI m' 20 r = nI b ∧ Fr (fun x => x = u ∨ x = w ∨ x = r) m m'
theorem sp_X2_findOrMake_new {m : MM} {u w len cap : Nat} {T : List RT} {B : List Nat} (h : Rw m u w len cap T B) {b : Nat} (hb : b < 2 ^ 31) (hroom : T.length < 16384) {kc ks : Nat} {Q : Option Nat → MM → Prop} (hbud : (∀ x ∈ T, x.2.1 ≠ b) → 2 ≤ kc ∧ (if cap ≤ T.length then gro cap else 0) + 8 ≤ ks) (h2 : (∀ x ∈ T, x.2.1 ≠ b) → ∀ r m' w' cap' B', Made m m' u w len cap b T B r w' cap' B' → Q (some r) m') (hn : ∀ x ∈ T, x.2.1 ≠ b) : mK m u = 3 ∧ (((mI m 42 u) < (16384 : Int32) → ∃ c10 s11 : Nat, c10 ≤ kc ∧ s11 ≤ ks ∧ mK m u = 3 ∧ wp_X2_makeRoom u m (fun m16 => ∀ kc17 ks18 : Nat, kc17 = kc - c10 → ks18 = ks - s11 → mK m16 u = 3 ∧ ∃ b22 : Nat, mR m16 41 u = some b22 ∧ mK m16 u = 3 ∧ mK m16 b22 = 14 ∧ vp_in (mI m16 42 u) (mN m16 b22) ∧ ∀ o26 : Option Nat, o26 = mAR m16 b22 (mI m16 42 u).toNatClampNeg → ((o26 = none → 1 ≤ kc17 ∧ 8 ≤ ks18 ∧ ∀ a28 : Nat, mK m16 a28 = 0 → ∀ m31 : MM, m31 = nw m16 2 0 a28 → ∀ kc32 ks33 : Nat, kc32 = kc17 - 1 → ks33 = ks18 - 8 → wp_X1_init a28 m31 (fun m37 => mK m37 u = 3 ∧ ∀ x39 : Int32, x39 = (mI m37 42 u) → (∃ n9, wp_X2_findOrMake_81 Q n9 u (nI b) (nI (lo kt b T).length) a28 x39 m37 kc32 ks33))) ∧ (∀ b27 : Nat, o26 = some b27 → mK m16 u = 3 ∧ ∃ b66 : Nat, mR m16 41 u = some b66 ∧ mK m16 u = 3 ∧ mK m16 b66 = 14 ∧ vp_in (mI m16 42 u) (mN m16 b66) ∧ ∀ o70 : Option Nat, o70 = mAR m16 b66 (mI m16 42 u).toNatClampNeg → ∃ b71 : Nat, o70 = some b71 ∧ mK m16 u = 3 ∧ ∀ x73 : Int32, x73 = (mI m16 42 u) → (∃ n9, wp_X2_findOrMake_81 Q n9 u (nI b) (nI (lo kt b T).length) b71 x73 m16 kc17 ks18)))) c10 s11) ∧ (¬ (mI m 42 u) < (16384 : Int32) → Q none m)) := by
  have hK : mK m u = 3 := h.1.1
  have hkk := h.1.2.2.2.2.2.1
  have hle := h.len
  refine ⟨hK, fun _ => ?_, fun c => absurd (by rw [hkk]; exact nI_lt (b := 16384) hroom (by omega)) c⟩
  obtain ⟨k1, k2⟩ := hbud hn
  refine ⟨1, if cap ≤ T.length then gro cap else 0, by omega, by omega, hK, sp_X2_makeRoom h.1 hroom (fun _ => Nat.le_refl _) (fun c => by rw [if_pos c]; exact Nat.le_refl _) fun m1 w1 cap1 hc1 hw1 hk1 hR1 hF1 => ?_⟩
  intro kc1 ks1 ekc eks
  obtain ⟨a1, a2, a3, a4, a5, a6, a7, a8, a9, b1, b2, b3, b4⟩ := id hR1
  have hlo := lo_len kt b T
  refine ⟨a1, w1, a2, a1, a3, ?_⟩
  rw [a6, a4, nI_clamp (by omega), b2 _ hk1]
  refine ⟨vp_in_nI hk1 (by omega), fun o ho => ?_⟩
  have hD : ad T ++ B = ad (lo kt b T) ++ (ad (hi kt b T) ++ B) := by rw [ad_split h.2.2.1 b, List.append_assoc]
  have hTl : T.length = (ad (lo kt b T)).length + (ad (hi kt b T)).length := by
    have := congrArg List.length (ad_split h.2.2.1 b)
    rw [List.length_append, List.length_map] at this
    exact this
  have hPl : (lo kt b T).length = (ad (lo kt b T)).length := (List.length_map ..).symm
  have hwne : ∀ q, mK m q ≠ 0 → q = w1 → q = w := fun q hq9 e => hw1.elim (fun z => e.trans z) (fun z => absurd (by rw [e]; exact z) hq9)
  rw [List.getElem?_append_right (by rw [List.length_map]; exact Nat.le_refl _), List.length_map, Nat.sub_self] at ho
  cases B with
  | nil =>
    have ho : o = none := ho
    subst ho
    refine ⟨fun _ => ⟨by omega, by omega, fun r hr0 => ?_⟩, fun y z => (by cases z)⟩
    simp only [forall_eq]
    intro kc2 ks2 ekc2 eks2
    unfold wp_X1_init
    have hne : ∀ q, mK m1 q ≠ 0 → q ≠ r := fun q hq9 z => hq9 (by rw [z]; exact hr0)
    have hnu : ¬ u = r := hne u (by rw [a1]; decide)
    have hnw : ¬ w1 = r := hne w1 (by rw [a3]; decide)
    have hF2 : Fr (fun _ => False) m1 (nw m1 2 0 r) := Fr.nw _ _ _ _ hr0 _
    have hR2 := hR1.fr hF2 id id
    obtain ⟨d1, d2, d3, d4, d5, d6, d7, d8, d9, e1, e2, e3, e4⟩ := id hR2
    refine ⟨d1, ?_⟩
    rw [d6]
    refine ⟨T.length + 1, sp_X2_findOrMake_loop (len := len) (D := ad T ++ []) (cap := cap1) (w := w1) hb hk1 b1 a7 hlo _ _ _ d1 d2 d3 d4 d6 e4 (by rw [k_nw, if_pos rfl]) (fun j hj => by rw [if_neg (by omega)]; exact e2 j hj) (by omega) (Nat.le_refl _) (by omega) (fun m' g1 g2 g3 g4 g5 g6 g7 g8 g9 => ?_)⟩
    have hrm : mK m r = 0 := Classical.byContradiction fun z => by
      have := (hF1 r z).1
      rw [hr0] at this
      exact z this.symm
    refine h2 hn r m' w1 cap1 [] ⟨hc1, hw1, Or.inr hrm, fun y hy => hy, ⟨g1, g2, g3, g4, g5.trans d5, g6, ?_, ?_, a9, b1, fun j hj => ?_, ?_, ?_⟩, g8, ?_⟩
    · simp only [List.length_append, List.length_cons, List.length_nil]; omega
    · simp only [List.length_append, List.length_cons, List.length_nil]; omega
    · rw [g7 j hj, shift_new, ← hPl, hD, hTl, hPl]
    · have hr9 : r ∉ ad T ++ [] := fun hm => by
        have := b4 r hm
        rw [hr0] at this
        exact absurd this (by decide)
      rw [hD] at hr9
      rw [(List.perm_middle).nodup_iff]
      refine List.nodup_cons.mpr ⟨hr9, ?_⟩
      rw [← hD]; exact b3
    · intro y hy
      rw [List.mem_append, List.mem_cons] at hy
      have hyk : mK (nw m1 2 0 r) y = 2 := by
        rcases hy with q | q | q
        · exact e4 y (by rw [hD]; exact List.mem_append_left _ q)
        · rw [q, k_nw, if_pos rfl]
        · exact e4 y (by rw [hD]; exact List.mem_append_right _ q)
      rw [(g9 y (by rw [hyk]; decide)).1, hyk]
    · refine ((hF1.mono (fun _ _ z => Or.inl z)).trans (Fr.nw m1 2 0 r hr0 _)).then (S' := fun x => x = u ∨ x = w1 ∨ x = r) (fun a ha => ?_) (fun a ha z => z.elim Or.inl (fun z => z.elim (fun z => Or.inr (Or.inl (hwne a ha z))) (fun z => Or.inr (Or.inr z))))
      obtain ⟨f1, f2, f3⟩ := g9 a ha
      refine ⟨f1, f2, fun hs => ?_⟩
      obtain ⟨x1, x2, x3, x4, x5, x6, x7⟩ := f3 (fun z => hs (Or.inl z)) (fun z => hs (Or.inr (Or.inl z)))
      exact ⟨fun g => x1 g (Or.inr (fun z => hs (Or.inr (Or.inr z)))), x2, x3, x4, x5, x6, x7⟩
  | cons r B =>
    have ho : o = some r := ho
    subst ho
    refine ⟨fun z => (by cases z), fun y hy => ?_⟩
    cases hy
    have hrm : r ∈ ad T ++ r :: B := List.mem_append_right _ List.mem_cons_self
    have hr2 := b4 r hrm
    refine ⟨a1, w1, a2, a1, a3, ?_⟩
    rw [a4, b2 _ hk1, List.getElem?_append_right (by rw [List.length_map]; exact Nat.le_refl _), List.length_map, Nat.sub_self]
    refine ⟨vp_in_nI hk1 (by omega), fun o ho => ⟨r, ho, a1, ?_⟩⟩
    simp only [forall_eq]
    refine ⟨T.length + 1, sp_X2_findOrMake_loop (len := len) (D := ad T ++ r :: B) (cap := cap1) (w := w1) hb hk1 b1 a7 hlo _ _ _ a1 a2 a3 a4 a6 b4 hr2 (fun j hj => by rw [if_neg (by omega)]; exact b2 j hj) (by omega) (Nat.le_refl _) (by omega) (fun m' g1 g2 g3 g4 g5 g6 g7 g8 g9 => ?_)⟩
    refine h2 hn r m' w1 cap1 B ⟨hc1, hw1, Or.inl List.mem_cons_self, fun y hy => List.mem_cons_of_mem _ hy, ⟨g1, g2, g3, g4, g5.trans a5, g6, ?_, ?_, a9, b1, fun j hj => ?_, ?_, ?_⟩, g8, ?_⟩
    · simp only [List.length_append, List.length_cons]; omega
    · rw [hD] at a8
      simp only [List.length_append, List.length_cons] at a8 ⊢; omega
    · rw [g7 j hj, shift_some, ← hPl, hD, hTl, hPl]
    · rw [(List.perm_middle).nodup_iff]
      rw [hD, ← List.append_assoc, (List.perm_middle).nodup_iff, List.append_assoc] at b3
      exact b3
    · intro y hy
      rw [List.mem_append, List.mem_cons, List.mem_append] at hy
      have hyk : mK m1 y = 2 := by
        rcases hy with q | q | q | q
        · exact b4 y (by rw [hD]; exact List.mem_append_left _ q)
        · rw [q]; exact hr2
        · exact b4 y (by rw [hD]; exact List.mem_append_right _ (List.mem_append_left _ q))
        · exact b4 y (List.mem_append_right _ (List.mem_cons_of_mem _ q))
      rw [(g9 y (by rw [hyk]; decide)).1, hyk]
    · refine (hF1.mono (fun _ _ z => Or.inl z)).then (S' := fun x => x = u ∨ x = w1 ∨ x = r) (fun a ha => ?_) (fun a ha z => z.elim Or.inl (fun z => z.elim (fun z => Or.inr (Or.inl (hwne a ha z))) (fun z => Or.inr (Or.inr z))))
      obtain ⟨f1, f2, f3⟩ := g9 a ha
      refine ⟨f1, f2, fun hs => ?_⟩
      obtain ⟨x1, x2, x3, x4, x5, x6, x7⟩ := f3 (fun z => hs (Or.inl z)) (fun z => hs (Or.inr (Or.inl z)))
      exact ⟨fun g => x1 g (Or.inr (fun z => hs (Or.inr (Or.inr z)))), x2, x3, x4, x5, x6, x7⟩
theorem sp_X2_findOrMake {m : MM} {u w len cap : Nat} {T : List RT} {B : List Nat} (h : Rw m u w len cap T B) {b : Nat} (hb : b < 2 ^ 31) (hroom : T.length < 16384) {kc ks : Nat} {Q : Option Nat → MM → Prop} (hbud : (∀ x ∈ T, x.2.1 ≠ b) → 2 ≤ kc ∧ (if cap ≤ T.length then gro cap else 0) + 8 ≤ ks) (h1 : ∀ x ∈ T, x.2.1 = b → Q (some x.1) m) (h2 : (∀ x ∈ T, x.2.1 ≠ b) → ∀ r m' w' cap' B', Made m m' u w len cap b T B r w' cap' B' → Q (some r) m') : wp_X2_findOrMake u (nI b) m Q kc ks := by
  have hK : mK m u = 3 := h.1.1
  have hle := h.len
  have hlo := lo_len kt b T
  obtain ⟨-, c1, c2, c3⟩ := id h
  unfold wp_X2_findOrMake
  refine ⟨hK, sp_X2_placeFrom h (nI b) ?_⟩
  rw [nI_clamp hb]
  refine ⟨hK, sp_X2_rowOrNull h (fun j x e hj => ⟨fun z => (by cases z), fun y hy => ?_⟩) (fun hn => ⟨fun _ => sp_X2_findOrMake_new h hb hroom hbud h2 fun x hx e => ?_, fun y z => (by cases z)⟩)⟩
  · cases hy
    have hx := List.mem_of_getElem? hj
    have hjl := (List.getElem?_eq_some_iff.mp hj).1
    have ej : (lo kt b T).length = j := (nI_eq (by omega) (by omega)).mp e
    refine ⟨h.1.2.2.2.2.2.2.2.2.2.2.2.2 _ (List.mem_append_left _ (List.mem_map.mpr ⟨x, hx, rfl⟩)), ?_⟩
    rw [(c1 x hx).1]
    refine ⟨fun c => sp_X2_findOrMake_new h hb hroom hbud h2 fun y hy e2 => c ?_, fun c => h1 x hx ((nI_eq (c3 x hx) hb).mp c)⟩
    have h9 := c2.at hy
    rw [show kt y = b from e2, ej] at h9
    cases h9.symm.trans hj
    rw [e2]
  · have h9 := c2.at hx
    rw [show kt x = b from e] at h9
    have := (List.getElem?_eq_some_iff.mp h9).1
    have := hn _ rfl (by omega)
    omega
