/-! THE POINTS BY STRETCHES OF len: their groups, in order -/
def bg (len t : Nat) : Nat := t / len * len
abbrev kg : Nat × List Int32 → Nat := fun g => g.1
def vl (len b : Nat) (l : List (Nat × Int32)) : List Int32 := (l.filter (fun p => decide (bg len p.1 = b))).map (·.2)
def grp (len : Nat) : List (Nat × Int32) → List (Nat × List Int32)
  | [] => []
  | p :: l => match grp len l with
    | [] => [(bg len p.1, [p.2])]
    | g :: r => if g.1 = bg len p.1 then (g.1, p.2 :: g.2) :: r else (bg len p.1, [p.2]) :: g :: r
theorem bg_mono {len a b : Nat} (h : a ≤ b) : bg len a ≤ bg len b := Nat.mul_le_mul_right _ (Nat.div_le_div_right h)
theorem bg_le (len t : Nat) : bg len t ≤ t := Nat.div_mul_le_self t len
theorem bg_lt {len : Nat} (h : 0 < len) (t : Nat) : t < bg len t + len := by
  have := Nat.lt_div_mul_add (a := t) h
  exact this
theorem bg_iff {len b : Nat} (h : 0 < len) (hb : len ∣ b) (t : Nat) : bg len t = b ↔ b ≤ t ∧ t < b + len := by
  obtain ⟨c, rfl⟩ := hb
  constructor
  · intro e
    have h1 := bg_le len t
    have h2 := bg_lt h t
    omega
  · rintro ⟨h1, h2⟩
    unfold bg
    have h3 : t / len = c := by
      rw [Nat.div_eq_iff h]
      rw [Nat.mul_comm] at h1 h2
      omega
    rw [h3, Nat.mul_comm]
theorem bg_dvd (len t : Nat) : len ∣ bg len t := ⟨t / len, Nat.mul_comm _ _⟩
theorem grp_head (len : Nat) (p : Nat × Int32) (l : List (Nat × Int32)) : ∃ vs r, grp len (p :: l) = (bg len p.1, vs) :: r := by
  unfold grp
  cases grp len l with
  | nil => exact ⟨_, _, rfl⟩
  | cons g r =>
    by_cases e : g.1 = bg len p.1
    · exact ⟨p.2 :: g.2, r, by simp [e]⟩
    · exact ⟨[p.2], g :: r, by simp [e]⟩
theorem vl_cons (len b : Nat) (p : Nat × Int32) (l : List (Nat × Int32)) : vl len b (p :: l) = if bg len p.1 = b then p.2 :: vl len b l else vl len b l := by
  unfold vl
  rw [List.filter_cons]
  by_cases e : bg len p.1 = b
  · rw [if_pos e, if_pos (decide_eq_true e), List.map_cons]
  · rw [if_neg e, if_neg (by rw [decide_eq_true_iff]; exact e)]
theorem vl_nil_of {len b : Nat} {l : List (Nat × Int32)} (h : ∀ p ∈ l, bg len p.1 ≠ b) : vl len b l = [] := by
  unfold vl
  rw [List.filter_eq_nil_iff.mpr (fun p hp => by rw [decide_eq_true_iff]; exact h p hp)]
  rfl
theorem vl_ne {len b : Nat} {l : List (Nat × Int32)} : vl len b l ≠ [] ↔ ∃ p ∈ l, bg len p.1 = b := by
  constructor
  · intro h
    exact Classical.byContradiction fun z => h (vl_nil_of fun p hp e => z ⟨p, hp, e⟩)
  · rintro ⟨p, hp, e⟩ h
    have : p.2 ∈ vl len b l := List.mem_map.mpr ⟨p, List.mem_filter.mpr ⟨hp, decide_eq_true e⟩, rfl⟩
    rw [h] at this
    exact absurd this List.not_mem_nil
theorem grp_spec {len : Nat} : ∀ {l : List (Nat × Int32)}, Srt kf l → Srt kg (grp len l) ∧ ∀ b vs, (b, vs) ∈ grp len l ↔ vs ≠ [] ∧ vs = vl len b l
  | [], _ => ⟨List.Pairwise.nil, fun b vs => ⟨fun h => absurd h List.not_mem_nil, fun h => absurd h.2 (fun e => h.1 e)⟩⟩
  | [p], _ => by
    refine ⟨List.pairwise_singleton _ _, fun b vs => ?_⟩
    show (b, vs) ∈ [(bg len p.1, [p.2])] ↔ _
    rw [List.mem_singleton, vl_cons]
    constructor
    · intro e
      cases e
      rw [if_pos rfl]
      exact ⟨List.cons_ne_nil _ _, rfl⟩
    · rintro ⟨h1, h2⟩
      by_cases e : bg len p.1 = b
      · rw [if_pos e] at h2
        rw [h2, ← e]; rfl
      · rw [if_neg e] at h2
        exact absurd h2 h1
  | p :: q :: l, h => by
    have hp := List.pairwise_cons.mp h
    obtain ⟨ih1, ih2⟩ := grp_spec (len := len) hp.2
    obtain ⟨vs0, r, e0⟩ := grp_head len q l
    have hpq : p.1 < q.1 := hp.1 q List.mem_cons_self
    have hall : ∀ c ∈ q :: l, bg len q.1 ≤ bg len c.1 := fun c hc => by
      rcases List.mem_cons.mp hc with rfl | hc
      · exact Nat.le_refl _
      · exact bg_mono (Nat.le_of_lt ((List.pairwise_cons.mp hp.2).1 c hc))
    rw [e0] at ih1 ih2
    have hs := List.pairwise_cons.mp ih1
    have hr : ∀ g ∈ r, bg len q.1 < g.1 := hs.1
    have e1 : grp len (p :: q :: l) = if bg len q.1 = bg len p.1 then (bg len q.1, p.2 :: vs0) :: r else (bg len p.1, [p.2]) :: (bg len q.1, vs0) :: r := by
      conv => lhs; unfold grp
      rw [e0]
    have hv0 : vs0 = vl len (bg len q.1) (q :: l) := ((ih2 _ _).mp List.mem_cons_self).2
    rw [e1]
    by_cases e : bg len q.1 = bg len p.1
    · rw [if_pos e]
      refine ⟨List.pairwise_cons.mpr ⟨hr, hs.2⟩, fun b vs => ?_⟩
      rw [List.mem_cons, vl_cons]
      constructor
      · rintro (z | z)
        · cases z
          rw [if_pos e.symm, ← hv0]
          exact ⟨List.cons_ne_nil _ _, rfl⟩
        · have h9 := (ih2 b vs).mp (List.mem_cons_of_mem _ z)
          rw [if_neg (fun y => by have := hr _ z; omega)]
          exact h9
      · rintro ⟨h1, h2⟩
        by_cases e2 : bg len p.1 = b
        · rw [if_pos e2, ← e2, ← e, ← hv0] at h2
          rw [h2, ← e2, e]
          exact Or.inl rfl
        · rw [if_neg e2] at h2
          rcases List.mem_cons.mp ((ih2 b vs).mpr ⟨h1, h2⟩) with z | z
          · exact absurd (congrArg Prod.fst z).symm (fun y => e2 (e ▸ y))
          · exact Or.inr z
    · rw [if_neg e]
      have hlt : bg len p.1 < bg len q.1 := by
        have := bg_mono (len := len) (Nat.le_of_lt hpq)
        omega
      refine ⟨List.pairwise_cons.mpr ⟨fun g hg => ?_, ih1⟩, fun b vs => ?_⟩
      · rcases List.mem_cons.mp hg with rfl | hg
        · exact hlt
        · have := hr g hg
          show bg len p.1 < g.1
          omega
      · rw [List.mem_cons, ih2, vl_cons len b p]
        constructor
        · rintro (z | ⟨h1, h2⟩)
          · cases z
            rw [if_pos rfl, vl_nil_of (fun c hc y => by have := hall c hc; omega)]
            exact ⟨List.cons_ne_nil _ _, rfl⟩
          · by_cases e2 : bg len p.1 = b
            · have : vl len b (q :: l) = [] := vl_nil_of (fun c hc y => by have := hall c hc; omega)
              exact absurd (h2.trans this) h1
            · rw [if_neg e2]; exact ⟨h1, h2⟩
        · rintro ⟨h1, h2⟩
          by_cases e2 : bg len p.1 = b
          · rw [if_pos e2, vl_nil_of (fun c hc y => by have := hall c hc; omega)] at h2
            rw [h2, ← e2]
            exact Or.inl rfl
          · rw [if_neg e2] at h2
            exact Or.inr ⟨h1, h2⟩
/-- the groups that have not expired by the horizon h -/
def gk (len h : Nat) (l : List (Nat × Int32)) : List (Nat × List Int32) := (grp len l).filter (fun g => decide (h < g.1 + len))
theorem mem_gk {len h : Nat} {l : List (Nat × Int32)} (hl : Srt kf l) {b : Nat} {vs : List Int32} : (b, vs) ∈ gk len h l ↔ h < b + len ∧ vs ≠ [] ∧ vs = vl len b l := by
  unfold gk
  rw [List.mem_filter, decide_eq_true_iff, (grp_spec hl).2]
  exact ⟨fun z => ⟨z.2, z.1⟩, fun z => ⟨z.2, z.1⟩⟩
theorem gk_srt {len h : Nat} {l : List (Nat × Int32)} (hl : Srt kf l) : Srt kg (gk len h l) := (grp_spec hl).1.filter _
theorem gk_is {len h : Nat} {l : List (Nat × Int32)} (hl : Srt kf l) {V : List (Nat × List Int32)} (hV : Srt kg V) (hm : ∀ b vs, (b, vs) ∈ V ↔ h < b + len ∧ vs ≠ [] ∧ vs = vl len b l) : V = gk len h l := hV.ext (gk_srt hl) fun ⟨b, vs⟩ => (hm b vs).trans (mem_gk hl).symm
theorem gk_dvd {len h : Nat} {l : List (Nat × Int32)} (hl : Srt kf l) {g : Nat × List Int32} (hg : g ∈ gk len h l) : len ∣ g.1 ∧ ∃ p ∈ l, bg len p.1 = g.1 := by
  obtain ⟨b, vs⟩ := g
  obtain ⟨-, h1, h2⟩ := (mem_gk hl).mp hg
  rw [h2] at h1
  obtain ⟨p, hp, e⟩ := vl_ne.mp h1
  exact ⟨by rw [← e]; exact bg_dvd _ _, p, hp, e⟩
theorem gk_later {len h h' : Nat} {l : List (Nat × Int32)} (hh : h ≤ h') : (gk len h l).filter (fun g => decide (h' < g.1 + len)) = gk len h' l := by
  unfold gk
  rw [List.filter_filter]
  refine List.filter_congr fun g _ => ?_
  rw [← Bool.decide_and, decide_eq_decide]
  omega
theorem grp_vals (len : Nat) (P : Nat → Bool) : ∀ l : List (Nat × Int32), ((grp len l).filter (fun g => P g.1)).flatMap (·.2) = (l.filter (fun p => P (bg len p.1))).map (·.2)
  | [] => rfl
  | p :: l => by
    have ih := grp_vals len P l
    unfold grp
    rw [List.filter_cons (xs := l)]
    cases e : grp len l with
    | nil =>
      rw [e] at ih
      simp only [List.filter_cons, List.filter_nil]
      by_cases hP : P (bg len p.1) = true
      · rw [if_pos hP, if_pos hP, List.map_cons, ← ih]; rfl
      · rw [if_neg hP, if_neg hP, ← ih]; rfl
    | cons g r =>
      rw [e] at ih
      by_cases hb : g.1 = bg len p.1
      · simp only [if_pos hb]
        rw [List.filter_cons] at ih ⊢
        simp only [hb] at ih ⊢
        by_cases hP : P (bg len p.1) = true
        · rw [if_pos hP] at ih ⊢
          rw [if_pos hP, List.map_cons, ← ih, List.flatMap_cons, List.flatMap_cons]; rfl
        · rw [if_neg hP] at ih ⊢
          rw [if_neg hP, ← ih]
      · simp only [if_neg hb]
        rw [List.filter_cons]
        by_cases hP : P (bg len p.1) = true
        · rw [if_pos hP, if_pos hP, List.map_cons, ← ih, List.flatMap_cons]; rfl
        · rw [if_neg hP, if_neg hP, ← ih]
