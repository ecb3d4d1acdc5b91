/-! WHETHER A WINDOW IS KNOWN, and its values -/
def tr (k : Nat) : Nat := if k = 0 then 1 else if k = 1 then 2 else if k = 2 then 3 else if k = 3 then 2 else 1
theorem sp_isFirstExpired {m : MM} {a b l h : Nat} (ha : a < 2 ^ 31) (hb : b < 2 ^ 31) (hl : a < b → a + l < 2 ^ 31) (hh : h < 2 ^ 31) {Q : Int32 → MM → Prop} (h1 : a < b ∧ a + l ≤ h → Q 1 m) (h0 : ¬ (a < b ∧ a + l ≤ h) → Q 0 m) : wp_X4_isFirstExpired (nI a) (nI b) (nI l) (nI h) m Q := by
  unfold wp_X4_isFirstExpired
  refine ⟨fun c => ?_, fun c => ?_⟩
  · have := (nI_leI hb ha).mp c
    exact h0 (by omega)
  · have hab : a < b := by
      rcases Nat.lt_or_ge a b with q | q
      · exact q
      · exact absurd ((nI_leI hb ha).mpr q) c
    have hs := hl hab
    rw [nI_add]
    refine ⟨fun d => ?_, fun d => ?_⟩
    · have := (nI_ltI hh hs).mp d
      exact h0 (by omega)
    · refine h1 ⟨hab, ?_⟩
      rcases Nat.lt_or_ge h (a + l) with q | q
      · exact absurd ((nI_ltI hh hs).mpr q) d
      · exact q
theorem sp_part {m : MM} {w Z : Nat} {a hz : Nat → Nat} (hw : Win m w a) (hZ : mK m Z = 11) (hN : mN m Z = 4) (hv : ∀ i, i ≤ 3 → mAI m Z i = nI (hz i) ∧ hz i < 2 ^ 31) {k i l : Nat} (hk : k ≤ 4) (hi : i ≤ 3) {iI lI : Int32} (hiI : iI = nI i) (hlI : lI = nI l) (hst : a k < a (k + 1) → a k + l < 2 ^ 31) {Q : Int32 → MM → Prop} (h1 : a k < a (k + 1) ∧ a k + l ≤ hz i → Q 1 m) (h0 : ¬ (a k < a (k + 1) ∧ a k + l ≤ hz i) → Q 0 m) : mK m w = 5 ∧ mK m w = 5 ∧ mK m Z = 11 ∧ vp_in iI (mN m Z) ∧ wp_X4_isFirstExpired (mI m (80 + k) w) (mI m (80 + (k + 1)) w) lI (mAI m Z iI.toNatClampNeg) m Q := by
  obtain ⟨w1, w2⟩ := hw.2 k (by omega)
  obtain ⟨w3, w4⟩ := hw.2 (k + 1) (by omega)
  rw [hiI, hlI, hN, w1, w3, nI_clamp (by omega), (hv i hi).1]
  exact ⟨hw.1, hw.1, hZ, vp_in_nI (by omega) (by omega), sp_isFirstExpired w2 w4 hst (hv i hi).2 h1 h0⟩
theorem sp_X4_hasExpiredPart {m : MM} {w Z : Nat} {a hz : Nat → Nat} (hw : Win m w a) (hZ : mK m Z = 11) (hN : mN m Z = 4) (hv : ∀ i, i ≤ 3 → mAI m Z i = nI (hz i) ∧ hz i < 2 ^ 31) (hst : ∀ k, k ≤ 4 → a k < a (k + 1) → a k + ln (tr k) < 2 ^ 31) {Q : Int32 → MM → Prop} (h1 : (∃ k, k ≤ 4 ∧ a k < a (k + 1) ∧ a k + ln (tr k) ≤ hz (tr k)) → Q 1 m) (h0 : (∀ k, k ≤ 4 → a k < a (k + 1) → hz (tr k) < a k + ln (tr k)) → Q 0 m) : wp_X4_hasExpiredPart w Z m Q := by
  unfold wp_X4_hasExpiredPart
  refine sp_part (k := 0) (i := 1) (l := ln (tr 0)) hw hZ hN hv (by decide) (by decide) (by decide) (by decide) (hst 0 (by decide)) (fun z => ⟨fun _ => h1 ⟨0, by decide, z⟩, fun y => absurd y (by decide)⟩) (fun n0 => ⟨fun y => absurd rfl y, fun _ => ?_⟩)
  refine sp_part (k := 1) (i := 2) (l := ln (tr 1)) hw hZ hN hv (by decide) (by decide) (by decide) (by decide) (hst 1 (by decide)) (fun z => ⟨fun _ => h1 ⟨1, by decide, z⟩, fun y => absurd y (by decide)⟩) (fun n1 => ⟨fun y => absurd rfl y, fun _ => ?_⟩)
  refine sp_part (k := 2) (i := 3) (l := ln (tr 2)) hw hZ hN hv (by decide) (by decide) (by decide) (by decide) (hst 2 (by decide)) (fun z => ⟨fun _ => h1 ⟨2, by decide, z⟩, fun y => absurd y (by decide)⟩) (fun n2 => ⟨fun y => absurd rfl y, fun _ => ?_⟩)
  refine sp_part (k := 3) (i := 2) (l := ln (tr 3)) hw hZ hN hv (by decide) (by decide) (by decide) (by decide) (hst 3 (by decide)) (fun z => ⟨fun _ => h1 ⟨3, by decide, z⟩, fun y => absurd y (by decide)⟩) (fun n3 => ⟨fun y => absurd rfl y, fun _ => ?_⟩)
  refine sp_part (k := 4) (i := 1) (l := ln (tr 4)) hw hZ hN hv (by decide) (by decide) (by decide) (by decide) (hst 4 (by decide)) (fun z => ⟨fun y => absurd y (by decide), fun _ => h1 ⟨4, by decide, z⟩⟩) (fun n4 => ⟨fun _ => h0 (fun k hk hab => ?_), fun y => absurd rfl y⟩)
  have : k = 0 ∨ k = 1 ∨ k = 2 ∨ k = 3 ∨ k = 4 := by omega
  rcases this with rfl | rfl | rfl | rfl | rfl
  · exact Nat.lt_of_not_le fun z => n0 ⟨hab, z⟩
  · exact Nat.lt_of_not_le fun z => n1 ⟨hab, z⟩
  · exact Nat.lt_of_not_le fun z => n2 ⟨hab, z⟩
  · exact Nat.lt_of_not_le fun z => n3 ⟨hab, z⟩
  · exact Nat.lt_of_not_le fun z => n4 ⟨hab, z⟩
/-- the points from a up to b -/
def seg (a b : Nat) (P : List (Nat × Int32)) : List (Nat × Int32) := hi kf a (lo kf b P)
theorem mem_seg {a b : Nat} {P : List (Nat × Int32)} {p : Nat × Int32} : p ∈ seg a b P ↔ p ∈ P ∧ a ≤ p.1 ∧ p.1 < b := by
  unfold seg
  rw [mem_hi, mem_lo]
  exact ⟨fun z => ⟨z.1.1, z.2, z.1.2⟩, fun z => ⟨⟨z.1, z.2.2⟩, z.2.1⟩⟩
theorem seg_srt {P : List (Nat × Int32)} (h : Srt kf P) (a b : Nat) : Srt kf (seg a b P) := (h.filter _).filter _
theorem seg_join {P : List (Nat × Int32)} (h : Srt kf P) {a b c : Nat} (h1 : a ≤ b) (h2 : b ≤ c) : seg a b P ++ seg b c P = seg a c P := by
  refine Srt.ext (f := kf) (Srt.mk (seg_srt h _ _) (seg_srt h _ _) fun p hp q hq => ?_) (seg_srt h _ _) fun p => ?_
  · have := (mem_seg.mp hp).2.2
    have := (mem_seg.mp hq).2.1
    show p.1 < q.1
    omega
  · rw [List.mem_append, mem_seg, mem_seg, mem_seg]
    constructor
    · rintro (⟨q, z⟩ | ⟨q, z⟩) <;> exact ⟨q, by omega⟩
    · rintro ⟨q, z⟩
      rcases Nat.lt_or_ge p.1 b with y | y
      · exact Or.inl ⟨q, by omega⟩
      · exact Or.inr ⟨q, by omega⟩
theorem vw_seg {hz : Nat → Nat} {P : List (Nat × Int32)} {i a b : Nat} (ha : ln i ∣ a) (hb : ln i ∣ b) (hk : a < b → hz i < a + ln i) : vw hz P i a b = (seg a b P).map (·.2) := by
  rw [vw_is]
  unfold seg hi lo
  rw [List.filter_filter]
  congr 1
  refine List.filter_congr fun p _ => ?_
  rw [Bool.eq_iff_iff]
  simp only [Bool.and_eq_true, decide_eq_true_iff]
  have f1 := bg_lt_iff (t := p.1) (ln_pos i) ha
  have f2 := bg_lt_iff (t := p.1) (ln_pos i) hb
  rw [f2]
  show (a ≤ bg (ln i) p.1 ∧ p.1 < b) ∧ _ ↔ a ≤ p.1 ∧ p.1 < b
  omega
