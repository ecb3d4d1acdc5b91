/-! GAPS and what is filled, as numbers -/
def gcN (hz : Nat → Nat) (P : List (Nat × Int32)) (t : Nat) : Nat → Nat → Nat
  | _, 0 => 0
  | a, k + 1 => (if hz t < a + ln t ∧ rl hz P t a = [] then 1 else 0) + gcN hz P t (a + ln t) k
theorem gone_iff {hz : Nat → Nat} {t a : Nat} (ha : ln t ∣ a) : hz t < a + ln t ↔ bg (ln t) (hz t) ≤ a := by
  have hp := ln_pos t
  have h1 := bg_lt_iff (t := hz t) hp (Nat.dvd_add ha (Nat.dvd_refl (ln t)))
  rw [← h1]
  constructor
  · intro h
    rcases Nat.lt_or_ge a (bg (ln t) (hz t)) with q | q
    · have := dv_step ha (bg_dvd (ln t) (hz t)) q
      omega
    · exact q
  · intro h
    omega
theorem hi_gap {l : List GE} {f L : Nat} (h0 : 0 < L) (h : ∀ e ∈ l, L ∣ e.1) (hf : L ∣ f) : hi kg (f + 1) l = hi kg (f + L) l := by
  unfold hi
  refine List.filter_congr fun e he => ?_
  have h1 := h e he
  have : f + 1 ≤ kg e ↔ f + L ≤ kg e := by
    constructor
    · intro q
      exact dv_step hf h1 (show f < e.1 from q)
    · intro q
      have : f + L ≤ kg e := q
      omega
  exact decide_eq_decide.mpr this
theorem gc_is {hz : Nat → Nat} {P : List (Nat × Int32)} (hP : Srt kf P) {t : Nat} {e : Nat} : ∀ (k f : Nat), ln t ∣ f → f + k * ln t = e → gcN hz P t f k + (hi kg (max f (bg (ln t) (hz t))) (lo kg e (gk (ln t) (hz t) P))).length = (e - max f (bg (ln t) (hz t))) / ln t := by
  have hp := ln_pos t
  intro k
  induction k with
  | zero =>
    intro f hf he
    rw [Nat.zero_mul, Nat.add_zero] at he
    have h1 : hi kg (max f (bg (ln t) (hz t))) (lo kg e (gk (ln t) (hz t) P)) = [] := hi_none fun a ha => by
      have := (mem_lo.mp ha).2
      omega
    have h2 : e - max f (bg (ln t) (hz t)) = 0 := by omega
    rw [h1, h2, Nat.zero_div]
    rfl
  | succ k ih =>
    intro f hf he
    have hf2 : ln t ∣ f + ln t := Nat.dvd_add hf (Nat.dvd_refl _)
    have he2 : f + ln t + k * ln t = e := by
      rw [← he, Nat.succ_mul]
      omega
    have := ih (f + ln t) hf2 he2
    have hle : f + ln t ≤ e := by
      rw [← he2]
      exact Nat.le_add_right _ _
    have hg := gone_iff (hz := hz) hf
    show (if hz t < f + ln t ∧ rl hz P t f = [] then 1 else 0) + gcN hz P t (f + ln t) k + _ = _
    rcases Nat.lt_or_ge f (bg (ln t) (hz t)) with q | q
    · have h1 := dv_step hf (bg_dvd (ln t) (hz t)) q
      rw [if_neg (fun z => by have := hg.mp z.1; omega), show max f (bg (ln t) (hz t)) = max (f + ln t) (bg (ln t) (hz t)) by omega, Nat.zero_add]
      exact this
    · have hk := hg.mpr q
      rw [show max (f + ln t) (bg (ln t) (hz t)) = f + ln t by omega] at this
      rw [show max f (bg (ln t) (hz t)) = f by omega]
      have hdiv : (e - f) / ln t = (e - (f + ln t)) / ln t + 1 := by
        rw [show e - f = (e - (f + ln t)) + ln t by omega]
        exact Nat.add_div_right _ hp
      rw [hdiv, ← this]
      generalize hG : lo kg e (gk (ln t) (hz t) P) = G
      have hGm : ∀ y ∈ G, y ∈ gk (ln t) (hz t) P := fun y hy => by rw [← hG] at hy; exact (mem_lo.mp hy).1
      have hGd : ∀ y ∈ G, ln t ∣ y.1 := fun y hy => (gk_e hP (hGm y hy)).1
      have hGs : Srt kg G := by rw [← hG]; exact (gk_srt hP).filter _
      have hgap := hi_gap (l := G) (f := f) hp hGd hf
      have hbg : bg (ln t) f = f := bg_self hp hf
      by_cases r : rl hz P t f = []
      · rw [if_pos ⟨hk, r⟩]
        have hno : ∀ y ∈ G, kg y ≠ f := fun y hy z => by
          obtain ⟨_, _, g3, _, _, g6, _⟩ := gk_e hP (hGm y hy)
          rw [show y.1 = f from z, r] at g6
          exact g3 g6.symm
        rw [← hi_new hno, hgap]
        omega
      · rw [if_neg (fun z => r z.2)]
        have hmem : (f, rl hz P t f) ∈ G := by
          rw [← hG, mem_lo]
          refine ⟨?_, show f < e by omega⟩
          have h9 := (rl_of (hz := hz) (t := t) (x := f) hP (vs := rl hz P t f)).mpr ⟨r, rfl⟩
          rw [hbg] at h9
          exact h9
        have h8 := hi_old hGs hmem
        rw [show kg (f, rl hz P t f) = f from rfl, hgap] at h8
        rw [h8, List.length_cons]
        omega
theorem gaps_is {hz : Nat → Nat} {P : List (Nat × Int32)} (hP : Srt kf P) {t k f : Nat} (hf : ln t ∣ f) : gapsN hz P t f (f + k * ln t) = nI (gcN hz P t f k) := by
  have h := gc_is hP (hz := hz) k f hf rfl
  unfold gapsN
  rw [← h, pk_sub (by omega)]
  congr 1
  omega
/-- a value between two -/
theorem tdiv_in {d : Int} {k K : Nat} (hk : k ≤ K) (hK : 0 < K) : (0 ≤ d → 0 ≤ (d * k).tdiv K ∧ (d * k).tdiv K ≤ d) ∧ (d ≤ 0 → d ≤ (d * k).tdiv K ∧ (d * k).tdiv K ≤ 0) := by
  have pos : ∀ n : Nat, 0 ≤ ((n : Int) * k).tdiv K ∧ ((n : Int) * k).tdiv K ≤ n := fun n => by
    have e : ((n : Int) * k).tdiv K = ((n * k / K : Nat) : Int) := by
      rw [← Int.natCast_mul]
      rfl
    rw [e]
    have : n * k / K ≤ n := Nat.div_le_of_le_mul (by rw [Nat.mul_comm K n]; exact Nat.mul_le_mul_left _ hk)
    exact ⟨Int.natCast_nonneg _, Int.ofNat_le.mpr this⟩
  constructor
  · intro h
    obtain ⟨n, rfl⟩ := Int.eq_ofNat_of_zero_le h
    exact pos n
  · intro h
    obtain ⟨n, hn⟩ := Int.eq_ofNat_of_zero_le (show 0 ≤ -d by omega)
    have e : d = -(n : Int) := by omega
    have h1 := pos n
    rw [e, Int.neg_mul, Int.neg_tdiv]
    omega
theorem btw_in {e l : GE} {b : Nat} (h1 : e.1 ≤ b) (h2 : b ≤ l.1) (h3 : e.1 < l.1) (l31 : l.1 < 2 ^ 31) (ha : -1000000 ≤ (vLst e.2).toInt ∧ (vLst e.2).toInt ≤ 1000000) (hc : -1000000 ≤ (vLst l.2).toInt ∧ (vLst l.2).toInt ≤ 1000000) : ((vLst e.2).toInt ≤ (vLst l.2).toInt → (vLst e.2).toInt ≤ (btw e l b).toInt ∧ (btw e l b).toInt ≤ (vLst l.2).toInt) ∧ ((vLst l.2).toInt ≤ (vLst e.2).toInt → (vLst l.2).toInt ≤ (btw e l b).toInt ∧ (btw e l b).toInt ≤ (vLst e.2).toInt) := by
  have ed : (vLst l.2 - vLst e.2).toInt = (vLst l.2).toInt - (vLst e.2).toInt := by
    rw [Int32.toInt_sub]
    exact Int.bmod_eq_of_le (by omega) (by omega)
  generalize hd : (vLst l.2).toInt - (vLst e.2).toInt = d at ed
  have e1 : (lN (b - e.1)).toInt = ((b - e.1 : Nat) : Int) := lN_toInt (by omega)
  have e2 : (lN (l.1 - e.1)).toInt = ((l.1 - e.1 : Nat) : Int) := lN_toInt (by omega)
  have ew : (vLst l.2 - vLst e.2).toInt64.toInt = d := (Int32.toInt_toInt64 _).trans ed
  generalize hk : b - e.1 = k at e1
  generalize hK : l.1 - e.1 = K at e2
  have bd : -4294967296000000 ≤ d * (k : Int) ∧ d * (k : Int) ≤ 4294967296000000 := by
    have g1 : (-2000000) * (k : Int) ≤ d * (k : Int) := Int.mul_le_mul_of_nonneg_right (by omega) (by omega)
    have g2 : d * (k : Int) ≤ 2000000 * (k : Int) := Int.mul_le_mul_of_nonneg_right (by omega) (by omega)
    omega
  have em : ((vLst l.2 - vLst e.2).toInt64 * lN k).toInt = d * (k : Int) := by
    rw [i64_mul (by rw [ew, e1]; omega) (by rw [ew, e1]; omega), ew, e1]
  obtain ⟨t1, t2⟩ := tdiv_in (d := d) (k := k) (K := K) (by omega) (by omega)
  have hq : -2000000 ≤ (d * (k : Int)).tdiv K ∧ (d * (k : Int)).tdiv K ≤ 2000000 := by
    rcases Int.le_total 0 d with q | q
    · have := t1 q; omega
    · have := t2 q; omega
  have eq : (((vLst l.2 - vLst e.2).toInt64 * lN k) / lN K).toInt = (d * (k : Int)).tdiv K := by
    rw [Int64.toInt_div, em, e2]
    exact Int.bmod_eq_of_le (by omega) (by omega)
  have e3 : (((vLst l.2 - vLst e.2).toInt64 * lN k) / lN K).toInt32.toInt = (d * (k : Int)).tdiv K := by
    rw [Int64.toInt_toInt32, eq]
    exact Int.bmod_eq_of_le (by omega) (by omega)
  have eb : (btw e l b).toInt = (vLst e.2).toInt + (d * (k : Int)).tdiv K := by
    unfold btw
    rw [hk, hK, Int32.toInt_add, e3]
    exact Int.bmod_eq_of_le (by omega) (by omega)
  rw [eb]
  constructor
  · intro h
    have := t1 (by omega)
    omega
  · intro h
    have := t2 (by omega)
    omega
