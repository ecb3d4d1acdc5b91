/-! WINDOWS: gone through by the longest parts; the rise of two that follow one another -/
/-- the tier of the part that begins at a -/
def gt (t a : Nat) : Nat := if 86400 ∣ a ∧ a + 86400 ≤ t then 3 else if 3600 ∣ a ∧ a + 3600 ≤ t then 2 else 1
theorem gt_1 {t a : Nat} (h : 3600 ∣ a → ¬ a + 3600 ≤ t) : gt t a = 1 := by
  unfold gt
  rw [if_neg (fun z => h (d3600 z.1) (by omega)), if_neg (fun z => h z.1 z.2)]
theorem gt_2 {t a : Nat} (h1 : 3600 ∣ a) (h2 : a + 3600 ≤ t) (h : 86400 ∣ a → ¬ a + 86400 ≤ t) : gt t a = 2 := by
  unfold gt
  rw [if_neg (fun z => h z.1 z.2), if_pos ⟨h1, h2⟩]
theorem gt_3 {t a : Nat} (h1 : 86400 ∣ a) (h2 : a + 86400 ≤ t) : gt t a = 3 := if_pos ⟨h1, h2⟩
theorem dv_step {l a c : Nat} (h1 : l ∣ a) (h2 : l ∣ c) (h : a < c) : a + l ≤ c := by
  obtain ⟨x, rfl⟩ := h1
  obtain ⟨y, rfl⟩ := h2
  have h3 : x < y := Nat.lt_of_mul_lt_mul_left h
  calc l * x + l = l * (x + 1) := (Nat.mul_succ _ _).symm
    _ ≤ l * y := Nat.mul_le_mul_left _ h3
theorem gt_seg {f t k a : Nat} (hk : k ≤ 4) (h1 : wcut f t k ≤ a) (h2 : a < wcut f t (k + 1)) (hd : ln (tr k) ∣ a) : gt t a = tr k := by
  have g1 : f ≤ up 3600 f := up_ge (by decide)
  have g2 : bg 3600 t ≤ t := bg_le _ _
  have g4 : bg 86400 t ≤ bg 3600 t := bg_max (by decide) (d3600 (bg_dvd _ _)) (bg_le _ _)
  have v1 : 3600 ∣ up 3600 f := up_dvd _ _
  have v2 : 3600 ∣ bg 3600 t := bg_dvd _ _
  have v3 : 86400 ∣ up 86400 f := up_dvd _ _
  have v4 : 86400 ∣ bg 86400 t := bg_dvd _ _
  have mn1 : ∀ e, 3600 ∣ e → f ≤ e → up 3600 f ≤ e := fun e a b => up_min (by decide) a b
  have mn2 : ∀ e, 86400 ∣ e → f ≤ e → up 86400 f ≤ e := fun e a b => up_min (by decide) a b
  have mx1 : ∀ e, 3600 ∣ e → e ≤ t → e ≤ bg 3600 t := fun e a b => bg_max (by decide) a b
  have mx2 : ∀ e, 86400 ∣ e → e ≤ t → e ≤ bg 86400 t := fun e a b => bg_max (by decide) a b
  have p1 : ∀ e, 3600 ∣ e → 3600 ∣ e + 3600 := fun e h => Nat.dvd_add h (Nat.dvd_refl _)
  have p2 : ∀ e, 86400 ∣ e → 86400 ∣ e + 86400 := fun e h => Nat.dvd_add h (Nat.dvd_refl _)
  have hk5 : k = 0 ∨ k = 1 ∨ k = 2 ∨ k = 3 ∨ k = 4 := by omega
  by_cases h : up 3600 f < bg 3600 t
  · by_cases d : up 86400 f < bg 86400 t
    · obtain ⟨e1, e2, e3, e4⟩ := wc_d h d
      rcases hk5 with rfl | rfl | rfl | rfl | rfl
      · rw [e1] at h2; rw [wc_0] at h1
        exact gt_1 fun z _ => by have := mn1 a z h1; omega
      · rw [e1] at h1; rw [e2] at h2
        have hd : 3600 ∣ a := hd
        exact gt_2 hd (by have := dv_step hd (d3600 v3) h2; omega) fun z _ => by have := mn2 a z (by omega); omega
      · rw [e2] at h1; rw [e3] at h2
        have hd : 86400 ∣ a := hd
        exact gt_3 hd (by have := dv_step hd v4 h2; omega)
      · rw [e3] at h1; rw [e4] at h2
        have hd : 3600 ∣ a := hd
        exact gt_2 hd (by have := dv_step hd v2 h2; omega) fun z y => by have := mx2 _ (p2 a z) y; omega
      · rw [e4] at h1
        exact gt_1 fun z y => by have := mx1 _ (p1 a z) y; omega
    · obtain ⟨e1, e2, e3, e4⟩ := wc_h h d
      rcases hk5 with rfl | rfl | rfl | rfl | rfl
      · rw [e1] at h2; rw [wc_0] at h1
        exact gt_1 fun z _ => by have := mn1 a z h1; omega
      · rw [e1] at h1; rw [e2] at h2
        have hd : 3600 ∣ a := hd
        exact gt_2 hd (by have := dv_step hd v2 h2; omega) fun z y => by
          have := mn2 a z (by omega)
          have := mx2 _ (p2 a z) y
          omega
      · rw [e2] at h1; rw [e3] at h2; omega
      · rw [e3] at h1; rw [e4] at h2; omega
      · rw [e4] at h1
        exact gt_1 fun z y => by have := mx1 _ (p1 a z) y; omega
  · obtain ⟨e1, e2, e3, e4⟩ := wc_no h
    rcases hk5 with rfl | rfl | rfl | rfl | rfl
    · rw [wc_0] at h1; rw [e1] at h2
      exact gt_1 fun z y => by
        have := mn1 a z h1
        have := mx1 _ (p1 a z) y
        omega
    · rw [e1] at h1; rw [e2] at h2; omega
    · rw [e2] at h1; rw [e3] at h2; omega
    · rw [e3] at h1; rw [e4] at h2; omega
    · rw [e4] at h1; rw [wc_5] at h2; omega
/-- the parts ahead of a, that lies in the k-th stretch -/
def pcW (f t k a : Nat) : Nat := (if 0 < k then (wcut f t 1 - wcut f t 0) / 60 else 0) + (if 1 < k then (wcut f t 2 - wcut f t 1) / 3600 else 0) + (if 2 < k then (wcut f t 3 - wcut f t 2) / 86400 else 0) + (if 3 < k then (wcut f t 4 - wcut f t 3) / 3600 else 0) + (a - wcut f t k) / ln (tr k)
theorem pcW_0 (f t : Nat) : pcW f t 0 f = 0 := by
  unfold pcW
  simp [wc_0]
theorem pcW_next {f t k : Nat} (hk : k < 4) : pcW f t k (wcut f t (k + 1)) = pcW f t (k + 1) (wcut f t (k + 1)) := by
  unfold pcW
  rcases (show k = 0 ∨ k = 1 ∨ k = 2 ∨ k = 3 by omega) with rfl | rfl | rfl | rfl <;> simp [ln, tr]
theorem pcW_end (f t : Nat) : pcW f t 4 t = nParts f t := by
  unfold pcW nParts
  rw [wc_5]
  simp [ln, tr]
  omega
theorem pcW_step {f t k a : Nat} (h1 : wcut f t k ≤ a) : pcW f t k (a + ln (tr k)) = pcW f t k a + 1 := by
  unfold pcW
  have : (a + ln (tr k) - wcut f t k) / ln (tr k) = (a - wcut f t k) / ln (tr k) + 1 := by
    rw [show a + ln (tr k) - wcut f t k = (a - wcut f t k) + ln (tr k) by omega]
    exact Nat.add_div_right _ (ln_pos _)
  rw [this]
  omega
/-- no part ahead of a has expired -/
def KnW (hz : Nat → Nat) (f t k a : Nat) : Prop := (∀ j, j < k → wcut f t j < wcut f t (j + 1) → hz (tr j) < wcut f t j + ln (tr j)) ∧ (wcut f t k < a → hz (tr k) < wcut f t k + ln (tr k))
theorem KnW_0 (hz : Nat → Nat) (f t : Nat) : KnW hz f t 0 f := ⟨fun _ h => absurd h (Nat.not_lt_zero _), fun h => absurd h (by rw [wc_0]; exact Nat.lt_irrefl _)⟩
theorem KnW_next {hz : Nat → Nat} {f t k : Nat} : KnW hz f t k (wcut f t (k + 1)) ↔ KnW hz f t (k + 1) (wcut f t (k + 1)) := by
  unfold KnW
  constructor
  · intro h
    refine ⟨fun j hj z => ?_, fun z => absurd z (Nat.lt_irrefl _)⟩
    rcases Nat.lt_or_ge j k with q | q
    · exact h.1 j q z
    · obtain rfl : j = k := by omega
      exact h.2 z
  · intro h
    exact ⟨fun j hj z => h.1 j (by omega) z, fun z => h.1 k (by omega) z⟩
theorem KnW_end {hz : Nat → Nat} {f t : Nat} : KnW hz f t 4 t ↔ Kn hz f t := by
  unfold KnW Kn
  constructor
  · intro h k hk z
    rcases Nat.lt_or_ge k 4 with q | q
    · exact h.1 k q z
    · obtain rfl : k = 4 := by omega
      exact h.2 z
  · intro h
    exact ⟨fun j hj z => h j (by omega) z, fun z => h 4 (Nat.le_refl _) z⟩
theorem KnW_step {hz : Nat → Nat} {f t k a : Nat} (h1 : wcut f t k ≤ a) (hd : wcut f t k < a → ln (tr k) ∣ wcut f t k ∧ ln (tr k) ∣ a) : KnW hz f t k (a + ln (tr k)) ↔ KnW hz f t k a ∧ hz (tr k) < a + ln (tr k) := by
  have hp := ln_pos (tr k)
  unfold KnW
  constructor
  · intro h
    have := h.2 (by omega)
    exact ⟨⟨h.1, fun _ => this⟩, by omega⟩
  · intro h
    refine ⟨h.1.1, fun _ => ?_⟩
    rcases Nat.lt_or_ge (wcut f t k) a with q | q
    · exact h.1.2 q
    · have : a = wcut f t k := by omega
      rw [← this]
      exact h.2
theorem bg_up {l f : Nat} (h : 0 < l) : bg l f ≤ up l f := by
  have := up_ge (t := f) h
  have := bg_le l f
  omega
theorem nParts_0 (f : Nat) : nParts f f = 0 := by
  have h : ¬ up 3600 f < bg 3600 f := Nat.not_lt.mpr (bg_up (by decide))
  obtain ⟨e1, e2, e3, e4⟩ := wc_no h
  unfold nParts
  rw [e1, e2, e3, e4, wc_0, wc_5]
  simp
theorem Kn_0 (hz : Nat → Nat) (f : Nat) : Kn hz f f := by
  have h : ¬ up 3600 f < bg 3600 f := Nat.not_lt.mpr (bg_up (by decide))
  obtain ⟨e1, e2, e3, e4⟩ := wc_no h
  intro k hk z
  rcases (show k = 0 ∨ k = 1 ∨ k = 2 ∨ k = 3 ∨ k = 4 by omega) with rfl | rfl | rfl | rfl | rfl
  · rw [wc_0, e1] at z; exact absurd z (Nat.lt_irrefl _)
  · rw [e1, e2] at z; exact absurd z (Nat.lt_irrefl _)
  · rw [e2, e3] at z; exact absurd z (Nat.lt_irrefl _)
  · rw [e3, e4] at z; exact absurd z (Nat.lt_irrefl _)
  · rw [e4, wc_5] at z; exact absurd z (Nat.lt_irrefl _)
/-! the rise -/
def okC (V : List Int32) : Prop := ∀ v ∈ V, 0 ≤ v.toInt ∧ v.toInt ≤ 1000000
theorem stp_b {a b : Int32} (ha : 0 ≤ a.toInt ∧ a.toInt ≤ 1000000) (hb : 0 ≤ b.toInt ∧ b.toInt ≤ 1000000) : 0 ≤ (stp a b).toInt ∧ (stp a b).toInt ≤ 1000000 := by
  unfold stp
  rw [Int32.toInt_toInt64]
  by_cases q : b < a
  · rw [if_pos q]; exact hb
  · rw [if_neg q]
    rw [Int32.lt_iff_toInt_lt] at q
    rw [Int32.toInt_sub, Int.bmod_eq_of_le (by omega) (by omega)]
    omega
theorem vIncA_b : ∀ (V : List Int32) (a : Int32), okC V → (0 ≤ a.toInt ∧ a.toInt ≤ 1000000) → V.length < 2 ^ 40 → 0 ≤ (vIncA a V).toInt ∧ (vIncA a V).toInt ≤ 1000000 * (V.length : Int)
  | [], _, _, _, _ => ⟨Int.le_refl _, by simp [vIncA]⟩
  | b :: l, a, h, ha, hl => by
    have hb := h b List.mem_cons_self
    have hl2 : l.length < 2 ^ 40 := by rw [List.length_cons] at hl; omega
    obtain ⟨h1, h2⟩ := vIncA_b l b (fun v hv => h v (List.mem_cons_of_mem _ hv)) hb hl2
    obtain ⟨s1, s2⟩ := stp_b ha hb
    have e : (((b :: l).length : Nat) : Int) = (l.length : Int) + 1 := rfl
    show 0 ≤ (stp a b + vIncA b l).toInt ∧ (stp a b + vIncA b l).toInt ≤ _
    rw [i64_add (by omega) (by omega), e]
    omega
theorem vInc_b {V : List Int32} (h : okC V) (hl : V.length < 2 ^ 40) : 0 ≤ (vInc V).toInt ∧ (vInc V).toInt ≤ 1000000 * (V.length : Int) := by
  cases V with
  | nil => exact ⟨Int.le_refl _, by simp [vInc]⟩
  | cons a l =>
    have hl2 : l.length < 2 ^ 40 := by rw [List.length_cons] at hl; omega
    obtain ⟨h1, h2⟩ := vIncA_b l a (fun v hv => h v (List.mem_cons_of_mem _ hv)) (h a List.mem_cons_self) hl2
    have e : (((a :: l).length : Nat) : Int) = (l.length : Int) + 1 := rfl
    show 0 ≤ (vIncA a l).toInt ∧ (vIncA a l).toInt ≤ _
    rw [e]
    omega
theorem okC_mem {V : List Int32} (h : okC V) {v : Int32} (hv : v ∈ V) : 0 ≤ v.toInt ∧ v.toInt ≤ 1000000 := h v hv
/-- two windows that follow one another -/
theorem vInc_two {A B : List Int32} (hA : okC A) (hB : okC B) (lA : A.length < 2 ^ 30) (lB : B.length < 2 ^ 30) : ¬ lg_cmp (vInc (A ++ B)) (vInc A + vInc B) < 0 ∧ ¬ 0 < lg_cmp (vInc (A ++ B)) (vInc A + vInc B + (1000000 : Int64)) := by
  obtain ⟨a1, a2⟩ := vInc_b hA (by omega)
  obtain ⟨b1, b2⟩ := vInc_b hB (by omega)
  have eAB : (vInc A + vInc B).toInt = (vInc A).toInt + (vInc B).toInt := i64_add (by omega) (by omega)
  have eM : (vInc A + vInc B + (1000000 : Int64)).toInt = (vInc A).toInt + (vInc B).toInt + 1000000 := by
    have em : ((1000000 : Int64)).toInt = 1000000 := by decide
    rw [i64_add (by rw [eAB, em]; omega) (by rw [eAB, em]; omega), eAB, em]
  have key : (vInc A).toInt + (vInc B).toInt ≤ (vInc (A ++ B)).toInt ∧ (vInc (A ++ B)).toInt ≤ (vInc A).toInt + (vInc B).toInt + 1000000 := by
    by_cases qa : A = []
    · rw [qa, List.nil_append, show (vInc []).toInt = 0 from rfl]
      omega
    · by_cases qb : B = []
      · rw [qb, List.append_nil, show (vInc []).toInt = 0 from rfl]
        omega
      · rw [vInc_app qa qb]
        obtain ⟨s1, s2⟩ := stp_b (hA _ (vLst_mem qa)) (hB _ (vFst_mem qb))
        have e1 : (vInc A + stp (vLst A) (vFst B)).toInt = (vInc A).toInt + (stp (vLst A) (vFst B)).toInt := i64_add (by omega) (by omega)
        rw [i64_add (by rw [e1]; omega) (by rw [e1]; omega), e1]
        omega
  refine ⟨fun z => ?_, fun z => ?_⟩
  · rw [lg_cmp_lt, Int64.lt_iff_toInt_lt, eAB] at z
    omega
  · rw [lg_cmp_gt, Int64.lt_iff_toInt_lt, eM] at z
    omega
