/-! THE STORE'S SIMPLE QUESTIONS -/
theorem sp_X5_clock {m : MM} {g : Nat → Nat} {o A R Z w su n ck : Nat} {sa kd rt hz : Nat → Nat} {Pl : Nat → List (Nat × Int32)} {Cs : Nat → Nat → Nat} (h : Sto m g o A R Z w su n ck sa kd rt hz Pl Cs) {Q : Int32 → MM → Prop} (hq : Q (nI ck) m) : wp_X5_clock o m Q := by
  unfold wp_X5_clock
  rw [h.1.2.2.2.1]
  exact ⟨h.1.1, hq⟩
theorem rng_nI {p : Int32} {a b : Nat} (ha : a < 2 ^ 31) (hb : b < 2 ^ 31) (h1 : ¬ p < nI a) (h2 : p ≤ nI b) : ∃ i, p = nI i ∧ a ≤ i ∧ i ≤ b := by
  have hp : ¬ p < 0 := fun q => h1 (Int32.lt_of_lt_of_le q (Int32.not_lt.mp (nI_pos ha)))
  obtain ⟨i, hi, e⟩ := nI_of hp
  rw [e] at h1 h2
  refine ⟨i, e, ?_, (nI_leI hi hb).mp h2⟩
  rcases Nat.lt_or_ge i a with q | q
  · exact absurd ((nI_ltI hi ha).mpr q) h1
  · exact q
theorem sp_rng {m : MM} {p : Int32} {a b : Nat} (ha : a < 2 ^ 31) (hb : b < 2 ^ 31) {aI bI : Int32} (ea : aI = nI a) (eb : bI = nI b) {Q : MM → Prop} {X : Nat → MM → Prop} (h1 : ∀ i, p = nI i → a ≤ i → i ≤ b → Q m) (h0 : (∀ i, p = nI i → a ≤ i → b < i ∨ 2 ^ 31 ≤ i) → X 1 m) : wp_X5_needRange p aI bI m Q X := by
  subst ea eb
  refine sp_X5_needRange (fun z => ?_) (fun z => h0 fun i e h => ?_)
  · obtain ⟨i, e, h2, h3⟩ := rng_nI ha hb z.1 z.2
    exact h1 i e h2 h3
  · rcases Nat.lt_or_ge i (2 ^ 31) with q | q
    · refine Or.inl ?_
      rcases z with z | z
      · rw [e] at z
        have := (nI_ltI q ha).mp z
        omega
      · rcases Nat.lt_or_ge b i with y | y
        · exact y
        · exact absurd (by rw [e]; exact (nI_leI q hb).mpr y) z
    · exact Or.inr q
theorem sp_X5_horizon {m : MM} {g : Nat → Nat} {o A R Z w su n ck : Nat} {sa kd rt hz : Nat → Nat} {Pl : Nat → List (Nat × Int32)} {Cs : Nat → Nat → Nat} (h : Sto m g o A R Z w su n ck sa kd rt hz Pl Cs) {p : Int32} {Q : Int32 → MM → Prop} {X : Nat → MM → Prop} (h1 : ∀ i, p = nI i → i ≤ 3 → Q (nI (hz i)) m) (h0 : (∀ i, p = nI i → 3 < i ∨ 2 ^ 31 ≤ i) → X 1 m) : wp_X5_horizon o p m Q X := by
  unfold wp_X5_horizon
  refine sp_rng (a := 0) (b := 3) (by decide) (by decide) (by decide) (by decide) (fun i e _ hi => ?_) (fun z => h0 fun i e => z i e (Nat.zero_le _))
  rw [e]
  refine ⟨h.1.1, Z, h.1.2.2.2.2.2.1, h.2.1.2.2.2.2.1, ?_⟩
  rw [h.2.1.2.2.2.2.2.1, nI_clamp (by omega), (h.2.2.1 i hi).2]
  exact ⟨vp_in_nI (by omega) (by omega), h1 i e hi⟩
theorem sp_X5_rows {m : MM} {g : Nat → Nat} {o A R Z w su n ck : Nat} {sa kd rt hz : Nat → Nat} {Pl : Nat → List (Nat × Int32)} {Cs : Nat → Nat → Nat} (h : Sto m g o A R Z w su n ck sa kd rt hz Pl Cs) {p q : Int32} {Q : Int32 → MM → Prop} {X : Nat → MM → Prop} (hX0 : (p < 0 ∨ ¬ p < nI n) → X 0 m) (hX1 : ∀ i, i < n → p = nI i → (∀ j, q = nI j → 3 < j ∨ 2 ^ 31 ≤ j) → X 1 m) (hQ : ∀ i j, i < n → p = nI i → q = nI j → j ≤ 3 → Q (nI (rws hz (Pl i) j)) m) : wp_X5_rows o p q m Q X := by
  unfold wp_X5_rows
  refine ⟨h.1.1, sp_X5_seriesAt h (fun i hi e => ⟨sa i, rfl, ?_⟩) hX0⟩
  obtain ⟨s1, s2⟩ := h.2.2.2.2.2 i hi
  have k4 : mK m (sa i) = 4 := by
    obtain ⟨p, t, v, U, WW, T, B, s3, -⟩ := s2
    exact s3.1
  refine sp_rng (a := 0) (b := 3) (by decide) (by decide) (by decide) (by decide) (fun j ej _ hj => ?_) (fun z => hX1 i hi e fun j ej => z j ej (Nat.zero_le _))
  rw [ej]
  exact ⟨k4, sp_X3_rowsOf s2 hj (hQ i j hi e ej hj)⟩
