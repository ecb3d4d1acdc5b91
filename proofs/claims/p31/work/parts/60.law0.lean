/-! THE PROPERTY'S LAW: what its small methods answer. z: the row of numbers (0, 1 kinds; 2 to 5 retentions; 6 to 9 horizons) -/
def Row (m : MM) (z : Nat) (kd rt hz : Nat → Nat) : Prop := mK m z = 11 ∧ mN m z = 10 ∧ (∀ i, i ≤ 1 → mAI m z i = nI (kd i)) ∧ ∀ i, i ≤ 3 → mAI m z (2 + i) = nI (rt i) ∧ mAI m z (6 + i) = nI (hz i)
/-- the length of a tier's stretch; a point's is 1 -/
def ll (t : Nat) : Nat := if t = 0 then 1 else ln t
theorem ll_pos (t : Nat) : 0 < ll t := by
  unfold ll ln
  split
  · decide
  · split
    · decide
    · split <;> decide
theorem ll_le (t : Nat) : ll t ≤ 86400 := by
  unfold ll ln
  split
  · decide
  · split
    · decide
    · split <;> decide
theorem ll_ln {t : Nat} (h : 1 ≤ t) : ll t = ln t := if_neg (by omega)
theorem sp_L_length {m : MM} {t : Nat} (ht : t ≤ 3) {Q : Int32 → MM → Prop} (hq : Q (nI (ll t)) m) : wp_L_length (nI t) m Q := by
  unfold wp_L_length
  rcases (show t = 0 ∨ t = 1 ∨ t = 2 ∨ t = 3 by omega) with rfl | rfl | rfl | rfl
  · rw [show nI (ll 0) = 1 by decide] at hq
    exact ⟨fun z => absurd (show nI 0 = 0 by decide) z, fun _ => hq⟩
  · rw [show nI (ll 1) = 60 by decide] at hq
    exact ⟨fun _ => ⟨fun z => absurd (show nI 1 = 1 by decide) z, fun _ => hq⟩, fun z => absurd z (by decide)⟩
  · rw [show nI (ll 2) = 3600 by decide] at hq
    exact ⟨fun _ => ⟨fun _ => ⟨fun z => absurd (show nI 2 = 2 by decide) z, fun _ => hq⟩, fun z => absurd z (by decide)⟩, fun z => absurd z (by decide)⟩
  · rw [show nI (ll 3) = 86400 by decide] at hq
    exact ⟨fun _ => ⟨fun _ => ⟨fun _ => hq, fun z => absurd z (by decide)⟩, fun z => absurd z (by decide)⟩, fun z => absurd z (by decide)⟩
theorem sp_L_isGone {m : MM} {z : Nat} {kd rt hz : Nat → Nat} (hR : Row m z kd rt hz) {t b : Nat} (ht : t ≤ 3) (hb : b < 2 ^ 40) (hzb : hz t < 2 ^ 31) {Q : Int32 → MM → Prop} (h1 : b + ll t ≤ hz t → Q 1 m) (h0 : hz t < b + ll t → Q 0 m) : wp_L_isGone z (nI t) (lN b) m Q := by
  unfold wp_L_isGone
  have e : (6 : Int32) + nI t = nI (6 + t) := nI_add 6 t
  have hl := ll_le t
  refine sp_L_length ht ⟨hR.1, ?_⟩
  rw [e, hR.2.1, nI_clamp (by omega), (hR.2.2.2 t ht).2, nI_l hzb, nI_l (by omega), lN_add, lg_cmp_gt, pk_lLT (by omega) (by omega)]
  exact ⟨vp_in_nI (by omega) (by decide), h0, fun q => h1 (by omega)⟩
/-- a number of the script, or one behind it -/
theorem sp_L_draw {m : MM} {j most LL : Nat} {xs : Nat → Int32} (hj : j < 2 ^ 20) (hL : LL ≤ 260) (h0 : 0 < most) (h31 : most < 2 ^ 31) {Q : Int32 → MM → Prop} (hq : ∀ k, k < most → Q (nI k) m) : wp_L_draw (nI j) (nI most) m xs LL Q := by
  have key : ∀ x : Int32, (¬ nI most = 0) ∧ Q ((x &&& (2147483647 : Int32)) - (x &&& (2147483647 : Int32)) / nI most * nI most) m := fun x => by
    obtain ⟨k, hk, e⟩ := pk_andE x (m := (2147483647 : Int32)) 31 (by decide)
    rw [e, pk_rem (by omega) h0 h31]
    exact ⟨nI_ne0 h0 h31, hq _ (Nat.mod_lt _ h0)⟩
  unfold wp_L_draw
  refine ⟨fun _ x _ => key x, fun c => ⟨?_, fun x _ => key x⟩⟩
  have c2 : ¬ nI LL ≤ nI j := c
  exact vp_in_nI (by
    rcases Nat.lt_or_ge j LL with q | q
    · exact q
    · exact absurd (nI_le q (by omega)) c2) (by omega)
theorem Ask.is {n i t x i' t' x' : Nat} (hn : n ≤ 4) (hi : i < n) (ht : t ≤ 3) (hx : x < 2 ^ 31) (h : Ask n (nI i) (nI t) (nI x) i' t' x') : i' = i ∧ t' = t ∧ x' = x := by
  obtain ⟨h1, h2, h3, h4, h5, h6, h7⟩ := h
  exact ⟨((nI_eq (by omega) (by omega)).mp h2).symm, ((nI_eq (by omega) (by omega)).mp h3).symm, ((nI_eq hx h7).mp h6).symm⟩
theorem NoAsk.no {n i t x : Nat} (hn : n ≤ 4) (hi : i < n) (h1 : 1 ≤ t) (h3 : t ≤ 3) (hx : x < 2 ^ 31) (h : NoAsk n (nI i) (nI t) (nI x)) : False := by
  obtain ⟨i', g1, g2, g3⟩ := h
  exact g3 t x ⟨g1, g2, rfl, h1, h3, rfl, hx⟩
theorem ser_no {n i : Nat} (hn : n ≤ 4) (hi : i < n) (h : nI i < 0 ∨ ¬ nI i < nI n) : False := by
  rcases h with h | h
  · exact nI_pos (by omega) h
  · exact h (nI_lt hi (by omega))
section
variable {m : MM} {g : Nat → Nat} {o A R Z w su n ck : Nat} {sa kd rt hz : Nat → Nat} {Pl : Nat → List (Nat × Int32)} {Cs : Nat → Nat → Nat}
theorem Sto.n4 (h : Sto m g o A R Z w su n ck sa kd rt hz Pl Cs) : n ≤ 4 := h.2.2.2.2.1
theorem q_rows (h : Sto m g o A R Z w su n ck sa kd rt hz Pl Cs) {i t : Nat} (hi : i < n) (ht : t ≤ 3) {Q : Int32 → MM → Prop} {X : Nat → MM → Prop} (hQ : Q (nI (rws hz (Pl i) t)) m) : wp_X5_rows o (nI i) (nI t) m Q X := by
  have hn := h.n4
  refine sp_X5_rows h (fun z => (ser_no hn hi z).elim) (fun i' _ _ z => ?_) (fun i' t' h1 e1 e2 h3 => ?_)
  · rcases z t rfl with z | z <;> omega
  · rw [← (nI_eq (by omega) (by omega)).mp e1, ← (nI_eq (by omega) (by omega)).mp e2]
    exact hQ
theorem q_horizon (h : Sto m g o A R Z w su n ck sa kd rt hz Pl Cs) {t : Nat} (ht : t ≤ 3) {Q : Int32 → MM → Prop} {X : Nat → MM → Prop} (hQ : Q (nI (hz t)) m) : wp_X5_horizon o (nI t) m Q X := by
  refine sp_X5_horizon h (fun t' e h3 => ?_) (fun z => ?_)
  · rw [← (nI_eq (by omega) (by omega)).mp e]
    exact hQ
  · rcases z t rfl with z | z <;> omega
theorem q_timeOf (h : Sto m g o A R Z w su n ck sa kd rt hz Pl Cs) {i t k y : Nat} (hi : i < n) (ht : t ≤ 3) (hk : k < 2 ^ 31) (hy : (rowT hz (Pl i) t)[k]? = some y) {Q : Int32 → MM → Prop} {X : Nat → MM → Prop} (hQ : Q (nI y) m) : wp_X5_timeOf o (nI i) (nI t) (nI k) m Q X := by
  have hn := h.n4
  have hlt := (List.getElem?_eq_some_iff.mp hy).1
  rw [rowT_len] at hlt
  refine sp_X5_timeOf h (fun z => (ser_no hn hi z).elim) (fun i' _ _ z => ?_) (fun i' t' h1 e1 e2 h3 z => ?_) (fun i' t' k' y' h1 e1 e2 h3 e3 hk' hy' => ?_)
  · rcases z t rfl with z | z <;> omega
  · rw [← (nI_eq (by omega) (by omega)).mp e1, ← (nI_eq (by omega) (by omega)).mp e2] at z
    have := z k rfl hk
    omega
  · rw [← (nI_eq (by omega) (by omega)).mp e1, ← (nI_eq (by omega) (by omega)).mp e2, ← (nI_eq hk hk').mp e3, hy] at hy'
    cases hy'
    exact hQ
theorem q_valueAt (h : Sto m g o A R Z w su n ck sa kd rt hz Pl Cs) (hP : ∀ i, i < n → Srt kf (Pl i)) {i : Nat} (hin : i < n) {b : Nat × Int32} (hb : b ∈ hi kf (hz 0) (Pl i)) (hx : b.1 < 2 ^ 31) (hP31 : ∀ c ∈ Pl i, c.1 < 2 ^ 31) {Q : Int32 → MM → Prop} {X : Nat → MM → Prop} (hQ : Q b.2 m) : wp_X5_valueAt o (nI i) (nI b.1) m Q X := by
  have hn := h.n4
  refine sp_X5_valueAt h (fun z => (ser_no hn hin z).elim) (fun i' h1 e1 z => ?_) (fun i' c h1 e1 hc e2 => ?_)
  · rw [← (nI_eq (by omega) (by omega)).mp e1] at z
    exact absurd rfl (z b hb)
  · rw [← (nI_eq (by omega) (by omega)).mp e1] at hc
    have e3 := (nI_eq hx (hP31 c (mem_hi.mp hc).1)).mp e2
    have e4 := (hP i hin).one (mem_hi.mp hb).1 (mem_hi.mp hc).1 e3
    rw [← e4]
    exact hQ
theorem q_hasRollup (h : Sto m g o A R Z w su n ck sa kd rt hz Pl Cs) (hP : ∀ i, i < n → Srt kf (Pl i)) {i t x : Nat} (hi : i < n) (h1 : 1 ≤ t) (h3 : t ≤ 3) (hx : x < 2 ^ 31) {Q : Int32 → MM → Prop} {X : Nat → MM → Prop} (hQ1 : rl hz (Pl i) t x ≠ [] → Q 1 m) (hQ0 : rl hz (Pl i) t x = [] → Q 0 m) : wp_X5_hasRollup o (nI i) (nI t) (nI x) m Q X := by
  have hn := h.n4
  refine sp_X5_hasRollup h hP (fun z => (ser_no hn hi z).elim) (fun z => (NoAsk.no hn hi h1 h3 hx z).elim) (fun i' t' x' ha e => ?_) (fun i' t' x' ha e => ?_)
  · obtain ⟨rfl, rfl, rfl⟩ := ha.is hn hi h3 hx
    exact hQ0 e
  · obtain ⟨rfl, rfl, rfl⟩ := ha.is hn hi h3 hx
    exact hQ1 e
theorem q_count (h : Sto m g o A R Z w su n ck sa kd rt hz Pl Cs) (hP : ∀ i, i < n → Srt kf (Pl i)) {i t x : Nat} (hin : i < n) (h1 : 1 ≤ t) (h3 : t ≤ 3) (hx : x < 2 ^ 31) (hne : rl hz (Pl i) t x ≠ []) {Q : Int32 → MM → Prop} {X : Nat → MM → Prop} (hQ : Q (nI (rl hz (Pl i) t x).length) m) : wp_X5_count o (nI i) (nI t) (nI x) m Q X := by
  have hn := h.n4
  refine sp_X5_count h hP (fun z => (ser_no hn hin z).elim) (fun z => (NoAsk.no hn hin h1 h3 hx z).elim) (fun i' t' x' ha e => ?_) (fun i' t' x' ha e => ?_)
  · obtain ⟨rfl, rfl, rfl⟩ := ha.is hn hin h3 hx
    exact absurd e hne
  · obtain ⟨rfl, rfl, rfl⟩ := ha.is hn hin h3 hx
    exact hQ
theorem q_sum (h : Sto m g o A R Z w su n ck sa kd rt hz Pl Cs) (hP : ∀ i, i < n → Srt kf (Pl i)) {i t x : Nat} (hin : i < n) (h1 : 1 ≤ t) (h3 : t ≤ 3) (hx : x < 2 ^ 31) (hne : rl hz (Pl i) t x ≠ []) {Q : Int64 → MM → Prop} {X : Nat → MM → Prop} (hQ : Q (vSum (rl hz (Pl i) t x)) m) : wp_X5_sum o (nI i) (nI t) (nI x) m Q X := by
  have hn := h.n4
  refine sp_X5_sum h hP (fun z => (ser_no hn hin z).elim) (fun z => (NoAsk.no hn hin h1 h3 hx z).elim) (fun i' t' x' ha e => ?_) (fun i' t' x' ha e => ?_)
  · obtain ⟨rfl, rfl, rfl⟩ := ha.is hn hin h3 hx
    exact absurd e hne
  · obtain ⟨rfl, rfl, rfl⟩ := ha.is hn hin h3 hx
    exact hQ
theorem q_least (h : Sto m g o A R Z w su n ck sa kd rt hz Pl Cs) (hP : ∀ i, i < n → Srt kf (Pl i)) {i t x : Nat} (hin : i < n) (h1 : 1 ≤ t) (h3 : t ≤ 3) (hx : x < 2 ^ 31) (hne : rl hz (Pl i) t x ≠ []) {Q : Int32 → MM → Prop} {X : Nat → MM → Prop} (hQ : Q (vMin (rl hz (Pl i) t x)) m) : wp_X5_least o (nI i) (nI t) (nI x) m Q X := by
  have hn := h.n4
  refine sp_X5_least h hP (fun z => (ser_no hn hin z).elim) (fun z => (NoAsk.no hn hin h1 h3 hx z).elim) (fun i' t' x' ha e => ?_) (fun i' t' x' ha e => ?_)
  · obtain ⟨rfl, rfl, rfl⟩ := ha.is hn hin h3 hx
    exact absurd e hne
  · obtain ⟨rfl, rfl, rfl⟩ := ha.is hn hin h3 hx
    exact hQ
theorem q_greatest (h : Sto m g o A R Z w su n ck sa kd rt hz Pl Cs) (hP : ∀ i, i < n → Srt kf (Pl i)) {i t x : Nat} (hin : i < n) (h1 : 1 ≤ t) (h3 : t ≤ 3) (hx : x < 2 ^ 31) (hne : rl hz (Pl i) t x ≠ []) {Q : Int32 → MM → Prop} {X : Nat → MM → Prop} (hQ : Q (vMax (rl hz (Pl i) t x)) m) : wp_X5_greatest o (nI i) (nI t) (nI x) m Q X := by
  have hn := h.n4
  refine sp_X5_greatest h hP (fun z => (ser_no hn hin z).elim) (fun z => (NoAsk.no hn hin h1 h3 hx z).elim) (fun i' t' x' ha e => ?_) (fun i' t' x' ha e => ?_)
  · obtain ⟨rfl, rfl, rfl⟩ := ha.is hn hin h3 hx
    exact absurd e hne
  · obtain ⟨rfl, rfl, rfl⟩ := ha.is hn hin h3 hx
    exact hQ
theorem q_first (h : Sto m g o A R Z w su n ck sa kd rt hz Pl Cs) (hP : ∀ i, i < n → Srt kf (Pl i)) {i t x : Nat} (hin : i < n) (h1 : 1 ≤ t) (h3 : t ≤ 3) (hx : x < 2 ^ 31) (hne : rl hz (Pl i) t x ≠ []) {Q : Int32 → MM → Prop} {X : Nat → MM → Prop} (hQ : Q (vFst (rl hz (Pl i) t x)) m) : wp_X5_first o (nI i) (nI t) (nI x) m Q X := by
  have hn := h.n4
  refine sp_X5_first h hP (fun z => (ser_no hn hin z).elim) (fun z => (NoAsk.no hn hin h1 h3 hx z).elim) (fun i' t' x' ha e => ?_) (fun i' t' x' ha e => ?_)
  · obtain ⟨rfl, rfl, rfl⟩ := ha.is hn hin h3 hx
    exact absurd e hne
  · obtain ⟨rfl, rfl, rfl⟩ := ha.is hn hin h3 hx
    exact hQ
theorem q_last (h : Sto m g o A R Z w su n ck sa kd rt hz Pl Cs) (hP : ∀ i, i < n → Srt kf (Pl i)) {i t x : Nat} (hin : i < n) (h1 : 1 ≤ t) (h3 : t ≤ 3) (hx : x < 2 ^ 31) (hne : rl hz (Pl i) t x ≠ []) {Q : Int32 → MM → Prop} {X : Nat → MM → Prop} (hQ : Q (vLst (rl hz (Pl i) t x)) m) : wp_X5_last o (nI i) (nI t) (nI x) m Q X := by
  have hn := h.n4
  refine sp_X5_last h hP (fun z => (ser_no hn hin z).elim) (fun z => (NoAsk.no hn hin h1 h3 hx z).elim) (fun i' t' x' ha e => ?_) (fun i' t' x' ha e => ?_)
  · obtain ⟨rfl, rfl, rfl⟩ := ha.is hn hin h3 hx
    exact absurd e hne
  · obtain ⟨rfl, rfl, rfl⟩ := ha.is hn hin h3 hx
    exact hQ
theorem q_average (h : Sto m g o A R Z w su n ck sa kd rt hz Pl Cs) (hP : ∀ i, i < n → Srt kf (Pl i) ∧ (Pl i).length < 2 ^ 26) {i t x : Nat} (hin : i < n) (h1 : 1 ≤ t) (h3 : t ≤ 3) (hx : x < 2 ^ 31) (hne : rl hz (Pl i) t x ≠ []) {Q : UInt64 → MM → Prop} {X : Nat → MM → Prop} (hQ : Q (avg (rl hz (Pl i) t x)) m) : wp_X5_average o (nI i) (nI t) (nI x) m Q X := by
  have hn := h.n4
  refine sp_X5_average h hP (fun L h1 h2 => (avg_enc h1 h2).vf) (fun z => (ser_no hn hin z).elim) (fun z => (NoAsk.no hn hin h1 h3 hx z).elim) (fun i' t' x' ha e => ?_) (fun i' t' x' ha e => ?_)
  · obtain ⟨rfl, rfl, rfl⟩ := ha.is hn hin h3 hx
    exact absurd e hne
  · obtain ⟨rfl, rfl, rfl⟩ := ha.is hn hin h3 hx
    exact hQ
theorem sp_L_valueAt (h : Sto m g o A R Z w su n ck sa kd rt hz Pl Cs) (hP : ∀ i, i < n → Srt kf (Pl i)) {i x : Nat} (hin : i < n) (hx : x < 2 ^ 31) (hP31 : ∀ c ∈ Pl i, c.1 < 2 ^ 31) {Q : Int32 → MM → Prop} (h1 : ∀ b ∈ hi kf (hz 0) (Pl i), b.1 = x → Q b.2 m) (h0 : (∀ b ∈ hi kf (hz 0) (Pl i), b.1 ≠ x) → Q (-2000000) m) : wp_L_valueAt o (nI i) (nI x) m Q := by
  have hn := h.n4
  unfold wp_L_valueAt
  refine ⟨h.1.1, sp_X5_valueAt h (fun z => (ser_no hn hin z).elim) (fun i' g1 e1 z => ?_) (fun i' b g1 e1 hb e2 => ?_)⟩
  · refine ⟨fun z => absurd z (by decide), fun z => absurd z (by decide), fun _ _ => h0 fun b hb e => ?_⟩
    rw [← (nI_eq (by omega) (by omega)).mp e1] at z
    exact z b hb (by rw [e])
  · rw [← (nI_eq (by omega) (by omega)).mp e1] at hb
    exact h1 b hb ((nI_eq hx (hP31 b (mem_hi.mp hb).1)).mp e2).symm
/-- what 'filled' tells, or -2000000 where it throws -/
def filM (a b : Option (Nat × List Int32)) (r f : Nat) : Int32 := match a, b with
  | none, _ => -2000000
  | some e, none => if r = 2 then -2000000 else vLst e.2
  | some e, some l => if r = 2 then btw e l f else vLst e.2
def fil (hz : Nat → Nat) (P : List (Nat × Int32)) (t x r : Nat) : Int32 :=
  if rl hz P t x ≠ [] then vLst (rl hz P t x) else if r = 0 then 0 else filM (er hz P t x) (lr hz P t x) r (bg (ln t) x)
theorem sp_L_filled (h : Sto m g o A R Z w su n ck sa kd rt hz Pl Cs) (hP : ∀ i, i < n → Srt kf (Pl i)) {i t x r : Nat} (hin : i < n) (h1 : 1 ≤ t) (h3 : t ≤ 3) (hx : x < 2 ^ 31) (hr : r ≤ 2) {Q : Int32 → MM → Prop} (hq : Q (fil hz (Pl i) t x r) m) : wp_L_filled o (nI i) (nI t) (nI x) (nI r) m Q := by
  have hn := h.n4
  unfold wp_L_filled
  refine ⟨h.1.1, sp_X5_filled h hP (fun z => (ser_no hn hin z).elim) (fun z => (NoAsk.no hn hin h1 h3 hx z).elim) (fun i' t' x' ha z => ?_) (fun i' t' x' r' ha e4 hr' => ?_)⟩
  · rcases z r rfl with z | z <;> omega
  · obtain ⟨rfl, rfl, rfl⟩ := ha.is hn hin h3 hx
    have er' : r' = r := ((nI_eq (by omega) (by omega)).mp e4).symm
    subst er'
    have hX : fil hz (Pl i') t' x' r' = -2000000 → (2 = 0 → False) ∧ (2 = 1 → False) ∧ (¬ 2 = 0 → ¬ 2 = 1 → Q (-2000000) m) := fun e => ⟨fun z => absurd z (by decide), fun z => absurd z (by decide), fun _ _ => by rw [← e]; exact hq⟩
    refine ⟨fun z => ?_, fun z z0 => ?_, fun z z0 ze => hX ?_, fun z z2 zl => hX ?_, fun z z1 e ze => ?_, fun z z2 e l ze zl => ?_⟩
    · rw [fil, if_pos z] at hq; exact hq
    · rw [fil, if_neg (fun y => y z), if_pos z0] at hq; exact hq
    · have e9 : fil hz (Pl i') t' x' r' = filM none (lr hz (Pl i') t' x') r' (bg (ln t') x') := by rw [fil, if_neg (fun y => y z), if_neg z0, ze]
      exact e9
    · have e9 : fil hz (Pl i') t' x' r' = filM (er hz (Pl i') t' x') none r' (bg (ln t') x') := by rw [fil, if_neg (fun y => y z), if_neg (by omega), zl]
      rw [e9]
      cases er hz (Pl i') t' x' with
      | none => rfl
      | some e => exact if_pos z2
    · rw [fil, if_neg (fun y => y z), if_neg (by omega), ze] at hq
      cases hl : lr hz (Pl i') t' x' with
      | none =>
        rw [hl] at hq
        have hq : Q (if r' = 2 then (-2000000 : Int32) else vLst e.2) m := hq
        rw [if_neg (by omega)] at hq
        exact hq
      | some l =>
        rw [hl] at hq
        have hq : Q (if r' = 2 then btw e l (bg (ln t') x') else vLst e.2) m := hq
        rw [if_neg (by omega)] at hq
        exact hq
    · rw [fil, if_neg (fun y => y z), if_neg (by omega), ze, zl] at hq
      have hq : Q (if r' = 2 then btw e l (bg (ln t') x') else vLst e.2) m := hq
      rw [if_pos z2] at hq
      exact hq
/-- all rows of both series -/
theorem sp_L_allRows_loop (h : Sto m g o A R Z w su n ck sa kd rt hz Pl Cs) (hn2 : n = 2) {Q : Int32 → MM → Prop} (hq : Q (nI (all4 hz (Pl 0) + all4 hz (Pl 1))) m) : ∀ (k j a : Nat), j + k = 8 → a = (if 0 < j then rws hz (Pl 0) 0 else 0) + (if 1 < j then rws hz (Pl 0) 1 else 0) + (if 2 < j then rws hz (Pl 0) 2 else 0) + (if 3 < j then rws hz (Pl 0) 3 else 0) + (if 4 < j then rws hz (Pl 1) 0 else 0) + (if 5 < j then rws hz (Pl 1) 1 else 0) + (if 6 < j then rws hz (Pl 1) 2 else 0) + (if 7 < j then rws hz (Pl 1) 3 else 0) → wp_L_allRows_4 Q (k + 1) o (nI a) (nI j) m := by
  intro k
  induction k with
  | zero =>
    intro j a hj ha
    unfold wp_L_allRows_4
    have e : j = 8 := by omega
    subst e
    refine ⟨fun _ => ?_, fun c => absurd (nI_le (a := 8) (b := 8) (by decide) (by decide)) c⟩
    have e2 : a = all4 hz (Pl 0) + all4 hz (Pl 1) := by
      unfold all4
      simpa [Nat.add_assoc] using ha
    rw [e2]; exact hq
  | succ k ih =>
    intro j a hj ha
    unfold wp_L_allRows_4
    refine ⟨fun c => absurd c (nI_ge (a := j) (b := 8) (by omega) (by decide)), fun _ => ⟨h.1.1, ?_⟩⟩
    have e1 : nI j / (4 : Int32) = nI (j / 4) := pk_div (a := j) (d := 4) (by omega) (by decide) (by decide)
    have e2 : nI j - nI j / (4 : Int32) * (4 : Int32) = nI (j % 4) := pk_rem (a := j) (d := 4) (by omega) (by decide) (by decide)
    rw [e2, e1]
    refine q_rows h (by omega) (by omega) ?_
    simp only [forall_eq, nI_add, nI_1]
    refine ih (j + 1) _ (by omega) ?_
    rw [ha]
    rcases (show j = 0 ∨ j = 1 ∨ j = 2 ∨ j = 3 ∨ j = 4 ∨ j = 5 ∨ j = 6 ∨ j = 7 by omega) with rfl | rfl | rfl | rfl | rfl | rfl | rfl | rfl <;> simp <;> omega
theorem sp_L_allRows (h : Sto m g o A R Z w su n ck sa kd rt hz Pl Cs) (hn2 : n = 2) {Q : Int32 → MM → Prop} (hq : Q (nI (all4 hz (Pl 0) + all4 hz (Pl 1))) m) : wp_L_allRows o m Q := by
  unfold wp_L_allRows
  simp only [forall_eq]
  exact ⟨9, sp_L_allRows_loop h hn2 hq 8 0 0 rfl (by simp)⟩
end
