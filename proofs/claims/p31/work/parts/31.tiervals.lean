/-! WHAT A TIER TELLS AFTER ONE POINT CAME OR WENT -/
theorem mem_del' {α : Type} {f : α → Nat} {x : Nat} {l : List α} {c : α} : c ∈ del f x l ↔ c ∈ l ∧ f c ≠ x := mem_del
theorem vl_same {len b t : Nat} {P P' : List (Nat × Int32)} (hP : Srt kf P) (hP' : Srt kf P') (hu : ∀ p : Nat × Int32, p.1 ≠ t → (p ∈ P' ↔ p ∈ P)) (hb : b ≠ bg len t) : vl len b P' = vl len b P := by
  unfold vl
  congr 1
  refine Srt.ext (f := kf) (hP'.filter _) (hP.filter _) fun p => ?_
  rw [List.mem_filter, List.mem_filter, decide_eq_true_iff]
  constructor
  · rintro ⟨h1, h2⟩
    exact ⟨(hu p (fun z => hb (by rw [← h2, z]))).mp h1, h2⟩
  · rintro ⟨h1, h2⟩
    exact ⟨(hu p (fun z => hb (by rw [← h2, z]))).mpr h1, h2⟩
theorem vUp_srt {V : List (Nat × List Int32)} (h : Srt kg V) (b : Nat) (X : List Int32) : Srt kg (vUp b X V) := by
  unfold vUp
  split
  · exact h.filter _
  · exact h.ins _
theorem mem_vUp {V : List (Nat × List Int32)} {b0 b : Nat} {X vs : List Int32} : (b, vs) ∈ vUp b0 X V ↔ (b = b0 ∧ X ≠ [] ∧ vs = X) ∨ (b ≠ b0 ∧ (b, vs) ∈ V) := by
  unfold vUp
  by_cases hX : X = []
  · rw [if_pos hX, mem_del']
    constructor
    · rintro ⟨h1, h2⟩; exact Or.inr ⟨h2, h1⟩
    · rintro (⟨-, h2, -⟩ | ⟨h1, h2⟩)
      · exact absurd hX h2
      · exact ⟨h2, h1⟩
  · rw [if_neg hX, mem_ins]
    constructor
    · rintro (z | ⟨h1, h2⟩)
      · cases z; exact Or.inl ⟨rfl, hX, rfl⟩
      · exact Or.inr ⟨h2, h1⟩
    · rintro (⟨h1, -, h3⟩ | ⟨h1, h2⟩)
      · rw [h1, h3]; exact Or.inl rfl
      · exact Or.inr ⟨h2, h1⟩
theorem vUp_gk {len h t : Nat} {P P' : List (Nat × Int32)} (hP : Srt kf P) (hP' : Srt kf P') (hu : ∀ p : Nat × Int32, p.1 ≠ t → (p ∈ P' ↔ p ∈ P)) (hh : h < bg len t + len) : vUp (bg len t) (vl len (bg len t) P') (gk len h P) = gk len h P' := by
  refine gk_is hP' (vUp_srt (gk_srt hP) _ _) fun b vs => ?_
  rw [mem_vUp, mem_gk hP]
  by_cases e : b = bg len t
  · subst e
    constructor
    · rintro (⟨-, h2, h3⟩ | ⟨h1, -⟩)
      · exact ⟨hh, by rw [h3]; exact h2, h3⟩
      · exact absurd rfl h1
    · rintro ⟨-, h2, h3⟩
      exact Or.inl ⟨rfl, by rw [← h3]; exact h2, h3⟩
  · rw [vl_same hP hP' hu e]
    constructor
    · rintro (⟨h1, -⟩ | ⟨-, h2⟩)
      · exact absurd h1 e
      · exact h2
    · intro h2
      exact Or.inr ⟨e, h2⟩
/-- the values of the points of one minute -/
theorem vals_pts {len b h : Nat} {P : List (Nat × Int32)} (hl : 0 < len) (hb : len ∣ b) (hh : h ≤ b) : (hi kf b (lo kf (b + len) (hi kf h P))).map (·.2) = vl len b P := by
  unfold vl hi lo
  rw [List.filter_filter, List.filter_filter]
  congr 1
  refine List.filter_congr fun p _ => ?_
  rw [Bool.eq_iff_iff]
  simp only [Bool.and_eq_true, decide_eq_true_iff]
  rw [bg_iff hl hb]
  show (b ≤ p.1 ∧ p.1 < b + len) ∧ h ≤ p.1 ↔ _
  omega
theorem bg_self {len b : Nat} (hl : 0 < len) (hb : len ∣ b) : bg len b = b := (bg_iff hl hb b).mpr ⟨Nat.le_refl _, by omega⟩
theorem bg_lt_iff {len e t : Nat} (hl : 0 < len) (he : len ∣ e) : bg len t < e ↔ t < e := by
  constructor
  · intro h
    rcases Nat.lt_or_ge t e with q | q
    · exact q
    · have := bg_mono (len := len) q
      rw [bg_self hl he] at this
      omega
  · intro h
    exact Nat.lt_of_le_of_lt (bg_le _ _) h
/-- the values of the finer rollups of one coarser one -/
theorem vals_gk {l1 len b h : Nat} {P : List (Nat × Int32)} {T : List RT} (hl1 : 0 < l1) (hd : l1 ∣ len) (hl : 0 < len) (hb : len ∣ b) (hh : h ≤ b) (hT : T.map (·.2) = gk l1 h P) : vals (hi kt b (lo kt (b + len) T)) = vl len b P := by
  have e1 : vals (hi kt b (lo kt (b + len) T)) = ((hi kt b (lo kt (b + len) T)).map (·.2)).flatMap (·.2) := by
    unfold vals
    rw [List.flatMap_map]
  rw [e1, map_hi, map_lo, hT]
  unfold gk hi lo
  rw [List.filter_filter, List.filter_filter]
  have e2 := grp_vals l1 (fun x => (decide (b ≤ x) && decide (x < b + len)) && decide (h < x + l1)) P
  refine Eq.trans ?_ (e2.trans ?_)
  · congr 1
  · unfold vl
    congr 1
    refine List.filter_congr fun p _ => ?_
    rw [Bool.eq_iff_iff]
    simp only [Bool.and_eq_true, decide_eq_true_iff]
    have d1 : l1 ∣ b := Nat.dvd_trans hd hb
    have d2 : l1 ∣ b + len := Nat.dvd_add d1 hd
    have f1 := bg_lt_iff (t := p.1) hl1 d1
    have f2 := bg_lt_iff (t := p.1) hl1 d2
    rw [bg_iff hl hb, f2]
    omega
theorem ln_dvd {i : Nat} (h1 : 1 ≤ i) (h3 : i ≤ 3) (h : i ≠ 1) : ln (i - 1) ∣ ln i := by
  have : i = 2 ∨ i = 3 := by omega
  rcases this with rfl | rfl <;> decide
theorem vl_len {len b : Nat} (P : List (Nat × Int32)) : (vl len b P).length ≤ P.length := by
  unfold vl
  rw [List.length_map]
  exact List.length_filter_le _ _
theorem gk_ne {len h : Nat} {P : List (Nat × Int32)} (hP : Srt kf P) {T : List RT} (hT : T.map (·.2) = gk len h P) : ∀ x ∈ T, x.2.2 ≠ [] := by
  intro x hx
  have h1 : x.2 ∈ gk len h P := by rw [← hT]; exact List.mem_map.mpr ⟨x, hx, rfl⟩
  exact ((mem_gk hP).mp h1).2.1
/-- what making the rollup at b costs: nothing if it is there -/
def cst (b C : Nat) (T : List RT) : Nat := if ∃ x ∈ T, x.2.1 = b then 0 else (if C ≤ T.length then gro C else 0) + 8
def csC (b : Nat) (T : List RT) : Nat := if ∃ x ∈ T, x.2.1 = b then 0 else 2
/-- the places behind it -/
def cap1 (b C : Nat) (T : List RT) : Nat := if ∃ x ∈ T, x.2.1 = b then C else if C ≤ T.length then gro C else C
theorem csC_le (b : Nat) (T : List RT) : csC b T ≤ 2 := by unfold csC; split <;> omega
theorem cst_ok {b C : Nat} {T : List RT} (h : ∀ x ∈ T, x.2.1 ≠ b) : 2 ≤ csC b T ∧ (if C ≤ T.length then gro C else 0) + 8 ≤ cst b C T := by
  have hn : ¬ ∃ x ∈ T, x.2.1 = b := fun ⟨x, hx, e⟩ => h x hx e
  unfold csC cst
  rw [if_neg hn, if_neg hn]
  exact ⟨Nat.le_refl _, Nat.le_refl _⟩
/-- one step of the refreshing of a series: tier i, whose finer neighbour is up to date -/
theorem sp_refresh_step {m : MM} {g : Nat → Nat} {c0 s kd p t v : Nat} {L : List (Nat × Int32)} {U W C : Nat → Nat} {T : Nat → List RT} {B : Nat → List Nat} (h : Ser m g c0 s kd p t v L U W C T B) {i : Nat} (h1 : 1 ≤ i) (h3 : i ≤ 3) {x : Nat} (hx : x + 86400 < 2 ^ 31) {P P' : List (Nat × Int32)} {h0 : Nat → Nat} (hP : Srt kf P) (hP' : Srt kf P') (hu : ∀ q : Nat × Int32, q.1 ≠ x → (q ∈ P' ↔ q ∈ P)) (hL : L = hi kf (h0 0) P') (hV : (T i).map (·.2) = gk (ln i) (h0 i) P) (hV1 : i ≠ 1 → (T (i - 1)).map (·.2) = gk (ln (i - 1)) (h0 (i - 1)) P') (hh : h0 (i - 1) ≤ bg (ln i) x) (hh' : h0 i < bg (ln i) x + ln i) (hlen : P'.length < 2 ^ 29) (hroom : (T i).length < 16384) {kc ks : Nat} (hkc : csC (bg (ln i) x) (T i) ≤ kc) (hks : cst (bg (ln i) x) (C i) (T i) ≤ ks) {Q : MM → Prop} (hq : ∀ m' W' T' B', Ser m' (nt m g (c0 + i)) c0 s kd p t v L U W' (va_up C i (cap1 (bg (ln i) x) (C i) (T i))) (va_up T i T') B' → T'.map (·.2) = gk (ln i) (h0 i) P' → Fr (fun a => g a = c0 + i) m m' → Q m') : wp_X3_refreshRollup s (nI i) (nI (bg (ln i) x)) m Q kc ks := by
  have hlp := ln_pos i
  have hbd : ln i ∣ bg (ln i) x := bg_dvd _ _
  have hble := bg_le (ln i) x
  have hll := ln_le i
  refine sp_X3_refreshRollup h h1 h3 (by omega) hroom (X := vl (ln i) (bg (ln i) x) P') (fun z => ?_) (fun e => ?_) (fun e => ?_) (Nat.lt_of_le_of_lt (vl_len P') hlen) (fun e => gk_ne hP' (hV1 e)) (fun m' W' cap' T' B' g1 g2 g3 g4 g5 => ?_)
  · obtain ⟨z1, z2⟩ := cst_ok (C := C i) z
    exact ⟨by omega, by omega⟩
  · subst e
    rw [hL]
    exact (vals_pts (by decide) hbd hh).symm
  · exact (vals_gk (ln_pos _) (ln_dvd h1 h3 e) hlp hbd hh (hV1 e)).symm
  · refine hq m' W' T' B' ?_ (by rw [g2, hV]; exact vUp_gk hP hP' hu hh') g5
    have e : cap1 (bg (ln i) x) (C i) (T i) = cap' := by
      unfold cap1
      by_cases q : ∃ y ∈ T i, y.2.1 = bg (ln i) x
      · rw [if_pos q, g4 q]
      · rw [if_neg q, g3 (fun y hy z => q ⟨y, hy, z⟩)]
    rw [e]
    exact g1
