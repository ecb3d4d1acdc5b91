/-! ROLLUPS: the object u, of length len, with its row w of cap places, holds the objects D, the first k of them kept -/
def Rsh (m : MM) (u w len cap : Nat) (D : List Nat) (k : Nat) : Prop := mK m u = 3 ∧ mR m 41 u = some w ∧ mK m w = 14 ∧ mN m w = cap ∧ mI m 40 u = nI len ∧ mI m 42 u = nI k ∧ k ≤ D.length ∧ D.length ≤ cap ∧ 8 ≤ cap ∧ cap ≤ 16384 ∧ (∀ j, j < cap → mAR m w j = D[j]?) ∧ D.Nodup ∧ ∀ r ∈ D, mK m r = 2
abbrev RT : Type := Nat × Nat × List Int32
abbrev kt : RT → Nat := fun x => x.2.1
/-- what the object x.1 tells: a rollup that begins at x.2.1, of the values x.2.2 -/
def Cn (m : MM) (x : RT) : Prop := mI m 20 x.1 = nI x.2.1 ∧ RS m x.1 x.2.2
abbrev ad (T : List RT) : List Nat := T.map (·.1)
def Rw (m : MM) (u w len cap : Nat) (T : List RT) (B : List Nat) : Prop := Rsh m u w len cap (ad T ++ B) T.length ∧ (∀ x ∈ T, Cn m x) ∧ Srt kt T ∧ (∀ x ∈ T, x.2.1 < 2 ^ 31)
theorem Rsh.fr {S : Nat → Prop} {m m' : MM} {u w len cap k : Nat} {D : List Nat} (h : Rsh m u w len cap D k) (hf : Fr S m m') (h1 : ¬ S u) (h2 : ¬ S w) : Rsh m' u w len cap D k := by
  obtain ⟨a1, a2, a3, a4, a5, a6, a7, a8, a9, b1, b2, b3, b4⟩ := h
  obtain ⟨f1, -, f2⟩ := hf u (by rw [a1]; decide)
  obtain ⟨t1, t2, t3⟩ := hf w (by rw [a3]; decide)
  obtain ⟨g1, -, g3, -⟩ := f2 h1
  obtain ⟨-, -, -, -, -, -, w1⟩ := t3 h2
  exact ⟨by rw [f1, a1], by rw [g3, a2], by rw [t1, a3], by rw [t2, a4], by rw [g1, a5], by rw [g1, a6], a7, a8, a9, b1, fun j hj => by rw [w1]; exact b2 j hj, b3, fun r hr => by rw [(hf r (by rw [b4 r hr]; decide)).1]; exact b4 r hr⟩
theorem Cn.fr {S : Nat → Prop} {m m' : MM} {x : RT} (h : Cn m x) (hf : Fr S m m') (hs : ¬ S x.1) : Cn m' x := by
  obtain ⟨h1, h2⟩ := h
  obtain ⟨f1, -, f2⟩ := hf x.1 (by rw [h2.1]; decide)
  exact ⟨by rw [(f2 hs).1, h1], h2.fr hf hs⟩
theorem Rw.fr {S : Nat → Prop} {m m' : MM} {u w len cap : Nat} {T : List RT} {B : List Nat} (h : Rw m u w len cap T B) (hf : Fr S m m') (h1 : ¬ S u) (h2 : ¬ S w) (h3 : ∀ x ∈ T, ¬ S x.1) : Rw m' u w len cap T B := ⟨h.1.fr hf h1 h2, fun x hx => (h.2.1 x hx).fr hf (h3 x hx), h.2.2⟩
theorem ad_get {T : List RT} {B : List Nat} {j : Nat} {x : RT} (hj : T[j]? = some x) : (ad T ++ B)[j]? = some x.1 := by
  have hl := (List.getElem?_eq_some_iff.mp hj).1
  rw [List.getElem?_append_left (by rw [List.length_map]; exact hl), List.getElem?_map, hj]; rfl
theorem Rw.len {m : MM} {u w len cap : Nat} {T : List RT} {B : List Nat} (h : Rw m u w len cap T B) : T.length ≤ cap ∧ cap ≤ 16384 := by
  obtain ⟨⟨a1, a2, a3, a4, a5, a6, a7, a8, a9, b1, -⟩, -⟩ := h
  exact ⟨Nat.le_trans a7 a8, b1⟩
theorem sp_X2_rowOrNull {m : MM} {u w len cap : Nat} {T : List RT} {B : List Nat} (h : Rw m u w len cap T B) {P : Int32} {Q : Option Nat → MM → Prop} (h1 : ∀ j x, P = nI j → T[j]? = some x → Q (some x.1) m) (h2 : (∀ j, P = nI j → j < 2 ^ 31 → T.length ≤ j) → Q none m) : wp_X2_rowOrNull u P m Q := by
  obtain ⟨⟨a1, a2, a3, a4, a5, a6, a7, a8, a9, b1, b2, b3, b4⟩, c1, c2, c3⟩ := id h
  have hle := h.len
  unfold wp_X2_rowOrNull
  refine ⟨fun c => h2 fun j e hj => absurd c (by rw [e]; exact nI_pos hj), fun c => ⟨a1, fun d => ?_, fun d => ?_⟩⟩
  · obtain ⟨j, hj, e⟩ := nI_of c
    rw [a6, e] at d
    have d2 := (nI_ltI hj (by omega)).mp d
    obtain ⟨x, hx⟩ : ∃ x, T[j]? = some x := ⟨_, List.getElem?_eq_getElem d2⟩
    refine ⟨a1, w, a2, a3, ?_⟩
    rw [e, a4, nI_clamp hj]
    refine ⟨vp_in_nI (by omega) (by omega), fun o ho => ?_⟩
    rw [ho, b2 _ (by omega), ad_get hx]
    exact h1 j x e hx
  · refine h2 fun j e hj => ?_
    rw [a6, e] at d
    rcases Nat.lt_or_ge j T.length with q | q
    · exact absurd ((nI_ltI hj (by omega)).mpr q) d
    · exact q
theorem sp_X2_placeFrom_loop {m : MM} {u w len cap : Nat} {T : List RT} {B : List Nat} (h : Rw m u w len cap T B) (tm : Int32) {Q : Int32 → MM → Prop} (hq : Q (nI (lo kt tm.toNatClampNeg T).length) m) : ∀ (k a : Nat), k ≤ 15 → a ≤ (lo kt tm.toNatClampNeg T).length → (lo kt tm.toNatClampNeg T).length < a + 2 ^ k → wp_X2_placeFrom_6 Q (k + 1) u tm (nI a) (lp k) m := by
  obtain ⟨⟨a1, a2, a3, a4, a5, a6, a7, a8, a9, b1, b2, b3, b4⟩, c1, c2, c3⟩ := id h
  have hle9 := h.len
  have hle := lo_len kt tm.toNatClampNeg T
  intro k
  induction k with
  | zero =>
    intro a _ h1 h2
    unfold wp_X2_placeFrom_6
    have e : a = (lo kt tm.toNatClampNeg T).length := by omega
    refine ⟨fun _ => by rw [e]; exact hq, fun z => absurd (Int32.le_refl 0) z⟩
  | succ k ih =>
    intro a hk h1 h2
    have hp : (2 : Nat) ^ k ≤ 2 ^ 14 := Nat.pow_le_pow_right (by decide) (by omega)
    have hp0 : 0 < (2 : Nat) ^ k := Nat.pos_of_ne_zero (by simp)
    have hp1 : (2 : Nat) ^ (k + 1) = 2 ^ k + 2 ^ k := by rw [Nat.pow_succ]; omega
    unfold wp_X2_placeFrom_6
    have es : nI a + lp (k + 1) = nI (a + 2 ^ k) := nI_add a (2 ^ k)
    have e1 : nI a + lp (k + 1) - (1 : Int32) = nI (a + 2 ^ k - 1) := (congrArg (fun z => z - (1 : Int32)) es).trans (pk_sub (a := a + 2 ^ k) (b := 1) (by omega))
    refine ⟨fun z => absurd z (nI_nle hp0 (by omega)), fun _ => ⟨a1, sp_X2_rowOrNull h (fun j b e hb => ⟨fun z => (by cases z), fun y hy => ?_⟩) (fun hn => ⟨fun _ => ?_, fun y z => (by cases z)⟩)⟩⟩
    · cases hy
      have hbm := List.mem_of_getElem? hb
      have hjl := (List.getElem?_eq_some_iff.mp hb).1
      have ej : a + 2 ^ k - 1 = j := (nI_eq (by omega) (by omega)).mp (e1.symm.trans e)
      have hlt := lt_tn (c3 b hbm) tm
      have hix := c2.ix tm.toNatClampNeg hb
      refine ⟨b4 _ (List.mem_append_left _ (List.mem_map.mpr ⟨b, hbm, rfl⟩)), ?_⟩
      rw [(c1 b hbm).1]
      simp only [forall_eq, es, lp_half k (by omega)]
      refine ⟨fun c4 => ?_, fun c4 => ?_⟩
      · have h5 : ¬ b.2.1 < tm.toNatClampNeg := fun z => Int32.not_lt.mpr c4 (hlt.mpr z)
        have h6 : ¬ j < (lo kt tm.toNatClampNeg T).length := fun z => h5 (hix.mpr z)
        exact ih a (by omega) h1 (by omega)
      · have h5 : b.2.1 < tm.toNatClampNeg := hlt.mp (Int32.not_le.mp c4)
        have h6 : j < (lo kt tm.toNatClampNeg T).length := hix.mp h5
        exact ih (a + 2 ^ k) (by omega) (by omega) (by omega)
    · simp only [forall_eq, lp_half k (by omega)]
      have c9 := hn _ e1 (by omega)
      exact ih a (by omega) h1 (by omega)
theorem sp_X2_placeFrom {m : MM} {u w len cap : Nat} {T : List RT} {B : List Nat} (h : Rw m u w len cap T B) (tm : Int32) {Q : Int32 → MM → Prop} (hq : Q (nI (lo kt tm.toNatClampNeg T).length) m) : wp_X2_placeFrom u tm m Q := by
  have hle := lo_len kt tm.toNatClampNeg T
  obtain ⟨h8, h9⟩ := h.len
  unfold wp_X2_placeFrom
  simp only [forall_eq]
  exact ⟨16, sp_X2_placeFrom_loop h tm hq 15 0 (Nat.le_refl _) (Nat.zero_le _) (by omega)⟩
theorem sp_X2_find {m : MM} {u w len cap : Nat} {T : List RT} {B : List Nat} (h : Rw m u w len cap T B) {b : Nat} (hb : b < 2 ^ 31) {Q : Option Nat → MM → Prop} (h1 : ∀ x ∈ T, x.2.1 = b → Q (some x.1) m) (h2 : (∀ x ∈ T, x.2.1 ≠ b) → Q none m) : wp_X2_find u (nI b) m Q := by
  obtain ⟨⟨a1, a2, a3, a4, a5, a6, a7, a8, a9, b1, b2, b3, b4⟩, c1, c2, c3⟩ := id h
  have hle := h.len
  have hlo := lo_len kt b T
  unfold wp_X2_find
  refine ⟨a1, sp_X2_placeFrom h (nI b) ?_⟩
  rw [nI_clamp hb]
  refine ⟨a1, sp_X2_rowOrNull h (fun j x e hj => ⟨fun z => (by cases z), fun y hy => ?_⟩) (fun hn => ⟨fun _ => h2 fun x hx e => ?_, fun y z => (by cases z)⟩)⟩
  · cases hy
    have hx := List.mem_of_getElem? hj
    have hjl := (List.getElem?_eq_some_iff.mp hj).1
    have ej : (lo kt b T).length = j := (nI_eq (by omega) (by omega)).mp e
    refine ⟨b4 _ (List.mem_append_left _ (List.mem_map.mpr ⟨x, hx, rfl⟩)), ?_⟩
    rw [(c1 x hx).1]
    refine ⟨fun c => h2 fun y hy e2 => c ?_, fun c => h1 x hx ((nI_eq (c3 x hx) hb).mp c)⟩
    have h9 := c2.at hy
    rw [show kt y = b from e2, ej] at h9
    cases h9.symm.trans hj
    rw [e2]
  · have h9 := c2.at hx
    rw [show kt x = b from e] at h9
    have := (List.getElem?_eq_some_iff.mp h9).1
    have := hn _ rfl (by omega)
    omega
