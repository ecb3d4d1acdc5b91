/-! A ROLLUP OF THE STORE: what the tier t keeps of the series' rollup in which x is -/
def rl (hz : Nat → Nat) (P : List (Nat × Int32)) (t x : Nat) : List Int32 := if hz t < bg (ln t) x + ln t then vl (ln t) (bg (ln t) x) P else []
theorem rl_of {hz : Nat → Nat} {P : List (Nat × Int32)} {t x : Nat} (hP : Srt kf P) {vs : List Int32} : (bg (ln t) x, vs) ∈ gk (ln t) (hz t) P ↔ vs ≠ [] ∧ vs = rl hz P t x := by
  rw [mem_gk hP]
  unfold rl
  by_cases q : hz t < bg (ln t) x + ln t
  · rw [if_pos q]; exact ⟨fun z => z.2, fun z => ⟨q, z⟩⟩
  · rw [if_neg q]; exact ⟨fun z => absurd z.1 q, fun z => absurd z.2 z.1⟩
theorem rl_len (hz : Nat → Nat) (P : List (Nat × Int32)) (t x : Nat) : (rl hz P t x).length ≤ P.length := by
  unfold rl
  by_cases q : hz t < bg (ln t) x + ln t
  · rw [if_pos q]; exact vl_len P
  · rw [if_neg q]; exact Nat.zero_le _
/-- the arguments that tell a rollup -/
def Ask (n : Nat) (p1 p2 p3 : Int32) (i t x : Nat) : Prop := i < n ∧ p1 = nI i ∧ p2 = nI t ∧ 1 ≤ t ∧ t ≤ 3 ∧ p3 = nI x ∧ x < 2 ^ 31
/-- a tier of a series that stands, but that the rest is wrong -/
def NoAsk (n : Nat) (p1 p2 p3 : Int32) : Prop := ∃ i, i < n ∧ p1 = nI i ∧ ∀ t x, ¬ Ask n p1 p2 p3 i t x
theorem sp_X5_rollupsAt {m : MM} {g : Nat → Nat} {o A R Z w su n ck : Nat} {sa kd rt hz : Nat → Nat} {Pl : Nat → List (Nat × Int32)} {Cs : Nat → Nat → Nat} (h : Sto m g o A R Z w su n ck sa kd rt hz Pl Cs) {p1 p2 p3 : Int32} {Q : Option Nat → MM → Prop} {X : Nat → MM → Prop} (hX0 : (p1 < 0 ∨ ¬ p1 < nI n) → X 0 m) (hX1 : NoAsk n p1 p2 p3 → X 1 m) (hQ : ∀ i t x u w' cap T B, Ask n p1 p2 p3 i t x → Rw m u w' (ln t) cap T B → T.map (·.2) = gk (ln t) (hz t) (Pl i) → Q (some u) m) : wp_X5_rollupsAt o p1 p2 p3 m Q X := by
  unfold wp_X5_rollupsAt
  refine ⟨h.1.1, sp_X5_seriesAt h (fun i hin e => ⟨sa i, rfl, ?_⟩) hX0⟩
  obtain ⟨-, p, t9, v, U, WW, T, B, s3, s4⟩ := h.2.2.2.2.2 i hin
  refine sp_rng (a := 1) (b := 3) (by decide) (by decide) (by decide) (by decide) (fun t et t1 t3 => ⟨fun z => ⟨s3.1, ?_⟩, fun z => hX1 ⟨i, hin, e, fun t' x q => z ?_⟩⟩) (fun z => hX1 ⟨i, hin, e, fun t x q => ?_⟩)
  · obtain ⟨x, hx, ex⟩ := nI_of (Int32.not_lt.mpr z)
    rw [et]
    exact sp_X3_rollupsOf s3.1 s3.2.2.2.1 t1 t3 (hQ i t x (U t) (WW t) _ (T t) (B t) ⟨hin, e, et, t1, t3, ex, hx⟩ (s3.2.2.2.2.2.1 t t1 t3) (s4 t t1 t3))
  · rw [q.2.2.2.2.2.1]
    exact Int32.not_lt.mp (nI_pos q.2.2.2.2.2.2)
  · obtain ⟨q1, q2, q3, q4, q5, q6⟩ := q
    have := z t q3 q4
    omega
theorem sp_X5_rollupOrNull {m : MM} {g : Nat → Nat} {o A R Z w su n ck : Nat} {sa kd rt hz : Nat → Nat} {Pl : Nat → List (Nat × Int32)} {Cs : Nat → Nat → Nat} (h : Sto m g o A R Z w su n ck sa kd rt hz Pl Cs) (hP : ∀ i, i < n → Srt kf (Pl i)) {p1 p2 p3 : Int32} {Q : Option Nat → MM → Prop} {X : Nat → MM → Prop} (hX0 : (p1 < 0 ∨ ¬ p1 < nI n) → X 0 m) (hX1 : NoAsk n p1 p2 p3 → X 1 m) (hQ0 : ∀ i t x, Ask n p1 p2 p3 i t x → rl hz (Pl i) t x = [] → Q none m) (hQ1 : ∀ i t x r, Ask n p1 p2 p3 i t x → rl hz (Pl i) t x ≠ [] → RS m r (rl hz (Pl i) t x) → Q (some r) m) : wp_X5_rollupOrNull o p1 p2 p3 m Q X := by
  unfold wp_X5_rollupOrNull
  refine ⟨h.1.1, sp_X5_rollupsAt h hX0 hX1 (fun i t x u w' cap T B ha hR hT => ?_)⟩
  obtain ⟨q1, q2, q3, q4, q5, q6, q7⟩ := id ha
  rw [q3, q6]
  refine sp_X5_beginOf q5 q7 ⟨u, rfl, hR.1.1, sp_X2_find hR (by have := bg_le (ln t) x; omega) (fun y hy ey => ?_) (fun z => ?_)⟩
  · have hm : (bg (ln t) x, y.2.2) ∈ gk (ln t) (hz t) (Pl i) := by
      rw [← hT, ← ey]
      exact List.mem_map.mpr ⟨y, hy, rfl⟩
    obtain ⟨g1, g2⟩ := (rl_of (hP i q1)).mp hm
    rw [g2] at g1
    exact hQ1 i t x y.1 ha g1 (by rw [← g2]; exact (hR.2.1 y hy).2)
  · refine hQ0 i t x ha ?_
    refine Classical.byContradiction fun q => ?_
    have hm := (rl_of (hP i q1)).mpr ⟨q, rfl⟩
    rw [← hT] at hm
    obtain ⟨y, hy, ey⟩ := List.mem_map.mp hm
    exact z y hy (congrArg Prod.fst ey)
theorem sp_X5_rollupAt {m : MM} {g : Nat → Nat} {o A R Z w su n ck : Nat} {sa kd rt hz : Nat → Nat} {Pl : Nat → List (Nat × Int32)} {Cs : Nat → Nat → Nat} (h : Sto m g o A R Z w su n ck sa kd rt hz Pl Cs) (hP : ∀ i, i < n → Srt kf (Pl i)) {p1 p2 p3 : Int32} {Q : Option Nat → MM → Prop} {X : Nat → MM → Prop} (hX0 : (p1 < 0 ∨ ¬ p1 < nI n) → X 0 m) (hX1 : NoAsk n p1 p2 p3 → X 1 m) (hX2 : ∀ i t x, Ask n p1 p2 p3 i t x → rl hz (Pl i) t x = [] → X 2 m) (hQ : ∀ i t x r, Ask n p1 p2 p3 i t x → rl hz (Pl i) t x ≠ [] → RS m r (rl hz (Pl i) t x) → Q (some r) m) : wp_X5_rollupAt o p1 p2 p3 m Q X := by
  unfold wp_X5_rollupAt
  refine ⟨h.1.1, sp_X5_rollupOrNull h hP hX0 hX1 (fun i t x a b => ⟨fun _ => hX2 i t x a b, fun b4 z => ?_⟩) (fun i t x r a b c => ⟨fun z => ?_, fun b4 z => ?_⟩)⟩
  · cases z
  · cases z
  · rw [← z]
    exact hQ i t x r a b c
theorem sp_X5_hasRollup {m : MM} {g : Nat → Nat} {o A R Z w su n ck : Nat} {sa kd rt hz : Nat → Nat} {Pl : Nat → List (Nat × Int32)} {Cs : Nat → Nat → Nat} (h : Sto m g o A R Z w su n ck sa kd rt hz Pl Cs) (hP : ∀ i, i < n → Srt kf (Pl i)) {p1 p2 p3 : Int32} {Q : Int32 → MM → Prop} {X : Nat → MM → Prop} (hX0 : (p1 < 0 ∨ ¬ p1 < nI n) → X 0 m) (hX1 : NoAsk n p1 p2 p3 → X 1 m) (hQ0 : ∀ i t x, Ask n p1 p2 p3 i t x → rl hz (Pl i) t x = [] → Q 0 m) (hQ1 : ∀ i t x, Ask n p1 p2 p3 i t x → rl hz (Pl i) t x ≠ [] → Q 1 m) : wp_X5_hasRollup o p1 p2 p3 m Q X := by
  unfold wp_X5_hasRollup
  refine ⟨h.1.1, sp_X5_rollupOrNull h hP hX0 hX1 (fun i t x a b => ⟨fun _ => hQ0 i t x a b, fun b4 z => ?_⟩) (fun i t x r a b c => ⟨fun z => ?_, fun b4 z => hQ1 i t x a b⟩)⟩
  · cases z
  · cases z
section
variable {m : MM} {g : Nat → Nat} {o A R Z w su n ck : Nat} {sa kd rt hz : Nat → Nat} {Pl : Nat → List (Nat × Int32)} {Cs : Nat → Nat → Nat}
theorem sp_X5_count (h : Sto m g o A R Z w su n ck sa kd rt hz Pl Cs) (hP : ∀ i, i < n → Srt kf (Pl i)) {p1 p2 p3 : Int32} {Q : Int32 → MM → Prop} {X : Nat → MM → Prop} (hX0 : (p1 < 0 ∨ ¬ p1 < nI n) → X 0 m) (hX1 : NoAsk n p1 p2 p3 → X 1 m) (hX2 : ∀ i t x, Ask n p1 p2 p3 i t x → rl hz (Pl i) t x = [] → X 2 m) (hQ : ∀ i t x, Ask n p1 p2 p3 i t x → rl hz (Pl i) t x ≠ [] → Q (nI (rl hz (Pl i) t x).length) m) : wp_X5_count o p1 p2 p3 m Q X := by
  unfold wp_X5_count
  exact ⟨h.1.1, sp_X5_rollupAt h hP hX0 hX1 hX2 (fun i t x r a b c => ⟨r, rfl, c.1, by rw [c.2.1]; exact hQ i t x a b⟩)⟩
theorem sp_X5_sum (h : Sto m g o A R Z w su n ck sa kd rt hz Pl Cs) (hP : ∀ i, i < n → Srt kf (Pl i)) {p1 p2 p3 : Int32} {Q : Int64 → MM → Prop} {X : Nat → MM → Prop} (hX0 : (p1 < 0 ∨ ¬ p1 < nI n) → X 0 m) (hX1 : NoAsk n p1 p2 p3 → X 1 m) (hX2 : ∀ i t x, Ask n p1 p2 p3 i t x → rl hz (Pl i) t x = [] → X 2 m) (hQ : ∀ i t x, Ask n p1 p2 p3 i t x → rl hz (Pl i) t x ≠ [] → Q (vSum (rl hz (Pl i) t x)) m) : wp_X5_sum o p1 p2 p3 m Q X := by
  unfold wp_X5_sum
  exact ⟨h.1.1, sp_X5_rollupAt h hP hX0 hX1 hX2 (fun i t x r a b c => ⟨r, rfl, c.1, by rw [c.2.2.1]; exact hQ i t x a b⟩)⟩
theorem sp_X5_least (h : Sto m g o A R Z w su n ck sa kd rt hz Pl Cs) (hP : ∀ i, i < n → Srt kf (Pl i)) {p1 p2 p3 : Int32} {Q : Int32 → MM → Prop} {X : Nat → MM → Prop} (hX0 : (p1 < 0 ∨ ¬ p1 < nI n) → X 0 m) (hX1 : NoAsk n p1 p2 p3 → X 1 m) (hX2 : ∀ i t x, Ask n p1 p2 p3 i t x → rl hz (Pl i) t x = [] → X 2 m) (hQ : ∀ i t x, Ask n p1 p2 p3 i t x → rl hz (Pl i) t x ≠ [] → Q (vMin (rl hz (Pl i) t x)) m) : wp_X5_least o p1 p2 p3 m Q X := by
  unfold wp_X5_least
  exact ⟨h.1.1, sp_X5_rollupAt h hP hX0 hX1 hX2 (fun i t x r a b c => ⟨r, rfl, c.1, by rw [(c.2.2.2.2 b).1]; exact hQ i t x a b⟩)⟩
theorem sp_X5_greatest (h : Sto m g o A R Z w su n ck sa kd rt hz Pl Cs) (hP : ∀ i, i < n → Srt kf (Pl i)) {p1 p2 p3 : Int32} {Q : Int32 → MM → Prop} {X : Nat → MM → Prop} (hX0 : (p1 < 0 ∨ ¬ p1 < nI n) → X 0 m) (hX1 : NoAsk n p1 p2 p3 → X 1 m) (hX2 : ∀ i t x, Ask n p1 p2 p3 i t x → rl hz (Pl i) t x = [] → X 2 m) (hQ : ∀ i t x, Ask n p1 p2 p3 i t x → rl hz (Pl i) t x ≠ [] → Q (vMax (rl hz (Pl i) t x)) m) : wp_X5_greatest o p1 p2 p3 m Q X := by
  unfold wp_X5_greatest
  exact ⟨h.1.1, sp_X5_rollupAt h hP hX0 hX1 hX2 (fun i t x r a b c => ⟨r, rfl, c.1, by rw [(c.2.2.2.2 b).2.1]; exact hQ i t x a b⟩)⟩
theorem sp_X5_first (h : Sto m g o A R Z w su n ck sa kd rt hz Pl Cs) (hP : ∀ i, i < n → Srt kf (Pl i)) {p1 p2 p3 : Int32} {Q : Int32 → MM → Prop} {X : Nat → MM → Prop} (hX0 : (p1 < 0 ∨ ¬ p1 < nI n) → X 0 m) (hX1 : NoAsk n p1 p2 p3 → X 1 m) (hX2 : ∀ i t x, Ask n p1 p2 p3 i t x → rl hz (Pl i) t x = [] → X 2 m) (hQ : ∀ i t x, Ask n p1 p2 p3 i t x → rl hz (Pl i) t x ≠ [] → Q (vFst (rl hz (Pl i) t x)) m) : wp_X5_first o p1 p2 p3 m Q X := by
  unfold wp_X5_first
  exact ⟨h.1.1, sp_X5_rollupAt h hP hX0 hX1 hX2 (fun i t x r a b c => ⟨r, rfl, c.1, by rw [(c.2.2.2.2 b).2.2.1]; exact hQ i t x a b⟩)⟩
theorem sp_X5_last (h : Sto m g o A R Z w su n ck sa kd rt hz Pl Cs) (hP : ∀ i, i < n → Srt kf (Pl i)) {p1 p2 p3 : Int32} {Q : Int32 → MM → Prop} {X : Nat → MM → Prop} (hX0 : (p1 < 0 ∨ ¬ p1 < nI n) → X 0 m) (hX1 : NoAsk n p1 p2 p3 → X 1 m) (hX2 : ∀ i t x, Ask n p1 p2 p3 i t x → rl hz (Pl i) t x = [] → X 2 m) (hQ : ∀ i t x, Ask n p1 p2 p3 i t x → rl hz (Pl i) t x ≠ [] → Q (vLst (rl hz (Pl i) t x)) m) : wp_X5_last o p1 p2 p3 m Q X := by
  unfold wp_X5_last
  exact ⟨h.1.1, sp_X5_rollupAt h hP hX0 hX1 hX2 (fun i t x r a b c => ⟨r, rfl, c.1, by rw [(c.2.2.2.2 b).2.2.2]; exact hQ i t x a b⟩)⟩
/-- the average, as both sides reckon it -/
def avg (L : List Int32) : UInt64 := FP.ddiv (FP.l2d (vSum L)) (FP.i2d (nI L.length))
theorem sp_X5_average (h : Sto m g o A R Z w su n ck sa kd rt hz Pl Cs) (hP : ∀ i, i < n → Srt kf (Pl i) ∧ (Pl i).length < 2 ^ 26) (hv : ∀ L : List Int32, L ≠ [] → L.length < 2 ^ 26 → vf_n64 (avg L)) {p1 p2 p3 : Int32} {Q : UInt64 → MM → Prop} {X : Nat → MM → Prop} (hX0 : (p1 < 0 ∨ ¬ p1 < nI n) → X 0 m) (hX1 : NoAsk n p1 p2 p3 → X 1 m) (hX2 : ∀ i t x, Ask n p1 p2 p3 i t x → rl hz (Pl i) t x = [] → X 2 m) (hQ : ∀ i t x, Ask n p1 p2 p3 i t x → rl hz (Pl i) t x ≠ [] → Q (avg (rl hz (Pl i) t x)) m) : wp_X5_average o p1 p2 p3 m Q X := by
  unfold wp_X5_average
  refine ⟨h.1.1, sp_X5_rollupAt h (fun i hi => (hP i hi).1) hX0 hX1 hX2 (fun i t x r a b c => ⟨r, rfl, c.1, c.1, ?_⟩)⟩
  have hl := rl_len hz (Pl i) t x
  have hl2 := (hP i a.1).2
  have hpos : 0 < (rl hz (Pl i) t x).length := List.length_pos_iff.mpr b
  have e : (if (1 : Int32) < nI (rl hz (Pl i) t x).length then nI (rl hz (Pl i) t x).length else (1 : Int32)) = nI (rl hz (Pl i) t x).length := by
    by_cases q : (1 : Int32) < nI (rl hz (Pl i) t x).length
    · rw [if_pos q]
    · rw [if_neg q]
      have : ¬ 1 < (rl hz (Pl i) t x).length := fun z => q ((nI_ltI (a := 1) (by omega) (by omega)).mpr z)
      rw [show (rl hz (Pl i) t x).length = 1 by omega]
      exact nI_11.symm
  rw [c.2.1, c.2.2.1, e]
  exact ⟨hv _ b (by omega), hQ i t x a b⟩
end
