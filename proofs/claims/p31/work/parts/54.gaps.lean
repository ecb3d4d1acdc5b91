/-! PARTS, TOTALBYPOINTS, RATEPERHOUR, GAPS -/
def nParts (f t : Nat) : Nat := (wcut f t 1 - wcut f t 0) / 60 + (wcut f t 5 - wcut f t 4) / 60 + ((wcut f t 2 - wcut f t 1) / 3600 + (wcut f t 4 - wcut f t 3) / 3600) + (wcut f t 3 - wcut f t 2) / 86400
theorem sp_X4_countParts {m : MM} {w f t : Nat} (hW : Win m w (wcut f t)) (hf : 60 ∣ f) (ht : 60 ∣ t) (hft : f ≤ t) {Q : Int32 → MM → Prop} (hq : Q (nI (nParts f t)) m) : wp_X4_countParts w m Q := by
  have W := wcut_ok hf ht hft
  have m0 : wcut f t 0 ≤ wcut f t 1 := (W 0 (by decide)).1
  have m1 : wcut f t 1 ≤ wcut f t 2 := (W 1 (by decide)).1
  have m2 : wcut f t 2 ≤ wcut f t 3 := (W 2 (by decide)).1
  have m3 : wcut f t 3 ≤ wcut f t 4 := (W 3 (by decide)).1
  have m4 : wcut f t 4 ≤ wcut f t 5 := (W 4 (by decide)).1
  have k0 : mI m 80 w = nI (wcut f t 0) := (hW.2 0 (by decide)).1
  have k1 : mI m 81 w = nI (wcut f t 1) := (hW.2 1 (by decide)).1
  have k2 : mI m 82 w = nI (wcut f t 2) := (hW.2 2 (by decide)).1
  have k3 : mI m 83 w = nI (wcut f t 3) := (hW.2 3 (by decide)).1
  have k4 : mI m 84 w = nI (wcut f t 4) := (hW.2 4 (by decide)).1
  have k5 : mI m 85 w = nI (wcut f t 5) := (hW.2 5 (by decide)).1
  have v5 := (hW.2 5 (by decide)).2
  have c60 : ∀ a, a < 2 ^ 31 → nI a / (60 : Int32) = nI (a / 60) := fun a ha => pk_div (d := 60) ha (by decide) (by decide)
  have c36 : ∀ a, a < 2 ^ 31 → nI a / (3600 : Int32) = nI (a / 3600) := fun a ha => pk_div (d := 3600) ha (by decide) (by decide)
  have c86 : ∀ a, a < 2 ^ 31 → nI a / (86400 : Int32) = nI (a / 86400) := fun a ha => pk_div (d := 86400) ha (by decide) (by decide)
  unfold wp_X4_countParts
  refine ⟨hW.1, hW.1, hW.1, hW.1, fun x5 e5 => ⟨hW.1, hW.1, hW.1, hW.1, fun x10 e10 => ⟨hW.1, hW.1, ?_⟩⟩⟩
  rw [k0, k1, k4, k5, pk_sub m0, pk_sub m4, c60 _ (by omega), c60 _ (by omega), nI_add] at e5
  rw [k1, k2, k3, k4, pk_sub m1, pk_sub m3, c36 _ (by omega), c36 _ (by omega), nI_add] at e10
  rw [k2, k3, pk_sub m2, c86 _ (by omega), e5, e10, nI_add, nI_add]
  exact hq
theorem seg_hi {a b h : Nat} (ha : h ≤ a) (P : List (Nat × Int32)) : seg a b (hi kf h P) = seg a b P := by
  unfold seg hi lo
  simp only [List.filter_filter]
  refine List.filter_congr fun c _ => ?_
  rw [Bool.eq_iff_iff]
  simp only [Bool.and_eq_true, decide_eq_true_iff]
  constructor
  · rintro ⟨q1, q2, q3⟩
    exact ⟨q1, q2⟩
  · rintro ⟨q1, q2⟩
    exact ⟨q1, q2, by omega⟩
/-- the rate of an increase over d seconds, as both sides reckon it -/
def rat (inc : Int64) (d : Nat) : UInt64 := FP.ddiv (FP.dmul (FP.l2d inc) (4660134898793709568 : UInt64)) (FP.i2d (nI d))
/-- gaps, as both sides reckon them -/
def gapsN (hz : Nat → Nat) (P : List (Nat × Int32)) (t f e : Nat) : Int32 := nI ((e - max f (bg (ln t) (hz t))) / ln t) - nI (hi kg (max f (bg (ln t) (hz t))) (lo kg e (gk (ln t) (hz t) P))).length
section
variable {m : MM} {g : Nat → Nat} {o A R Z w su n ck : Nat} {sa kd rt hz : Nat → Nat} {Pl : Nat → List (Nat × Int32)} {Cs : Nat → Nat → Nat}
theorem sp_X5_parts (h : Sto m g o A R Z w su n ck sa kd rt hz Pl Cs) {p1 p2 : Int32} {Q : Int32 → MM → Prop} {X : Nat → MM → Prop} (hX1 : ¬ isWin p1 p2 60 → X 1 m) (hQ : ∀ f t, p1 = nI f → p2 = nI t → f < 2 ^ 31 → t < 2 ^ 31 → f ≤ t → 60 ∣ f → 60 ∣ t → ∀ m', Sto m' g o A R Z w su n ck sa kd rt hz Pl Cs → Fr (fun x => x = w ∨ x = su) m m' → Q (nI (nParts f t)) m') : wp_X5_parts o p1 p2 m Q X := by
  unfold wp_X5_parts
  refine sp_X5_needWindow (len := 60) (by decide) (by decide) (fun hw => ?_) hX1
  obtain ⟨f, t, rfl, rfl, w1, w2, w3, w4, w5⟩ := hw
  refine ⟨h.1.1, w, h.1.2.2.2.2.2.2.1, h.2.1.2.2.2.2.2.2.1, sp_X4_cut h.2.1.2.2.2.2.2.2.1 w1 w2 fun m5 W5 F5 => ?_⟩
  have F5' : Fr (fun x => x = w ∨ x = su) m m5 := F5.mono fun _ _ z => Or.inl z
  have S5 := h.scr F5'
  exact ⟨S5.1.1, w, S5.1.2.2.2.2.2.2.1, W5.1, sp_X4_countParts W5 w4 w5 w3 (hQ f t rfl rfl w1 w2 w3 w4 w5 m5 S5 F5')⟩
theorem sp_X5_totalByPoints (h : Sto m g o A R Z w su n ck sa kd rt hz Pl Cs) (hzb : hz 0 < 2 ^ 31) {p1 p2 p3 : Int32} {Q : Int64 → MM → Prop} {X : Nat → MM → Prop} (hX0 : (p1 < 0 ∨ ¬ p1 < nI n) → X 0 m) (hX1 : ∀ i, i < n → p1 = nI i → ¬ isWin p2 p3 60 → X 1 m) (hX2 : ∀ i f t, i < n → p1 = nI i → p2 = nI f → p3 = nI t → f < 2 ^ 31 → t < 2 ^ 31 → f ≤ t → 60 ∣ f → 60 ∣ t → f < hz 0 → X 2 m) (hQ : ∀ i f t, i < n → p1 = nI i → p2 = nI f → p3 = nI t → f < 2 ^ 31 → t < 2 ^ 31 → f ≤ t → 60 ∣ f → 60 ∣ t → hz 0 ≤ f → ∀ m', Sto m' g o A R Z w su n ck sa kd rt hz Pl Cs → Fr (fun x => x = w ∨ x = su) m m' → Q (vSum ((seg f t (Pl i)).map (·.2))) m') : wp_X5_totalByPoints o p1 p2 p3 m Q X := by
  unfold wp_X5_totalByPoints
  obtain ⟨⟨a1, a2, a3, a4, a5, a6, a7, a8⟩, ⟨b1, b2, b3, b4, b5, b6, b7, b8, b9⟩, c, d, e9, F⟩ := id h
  have z0 : (0 : Int32).toNatClampNeg = 0 := by decide
  refine ⟨a1, sp_X5_seriesAt h (fun i hin e => ⟨sa i, rfl, ?_⟩) hX0⟩
  refine sp_X5_needWindow (len := 60) (by decide) (by decide) (fun hw => ?_) (hX1 i hin e)
  obtain ⟨f, t, rfl, rfl, w1, w2, w3, w4, w5⟩ := hw
  refine ⟨a1, Z, a6, b5, by rw [b6]; exact vp_in_nI (n := 0) (by decide) (by decide), ?_⟩
  rw [z0, (c 0 (by decide)).2]
  refine ⟨fun q => ⟨a1, su, a8, b8, sp_X1_clear b8 fun m16 r16 F16 _ => ?_⟩, fun q => hX2 i f t hin e rfl rfl w1 w2 w3 w4 w5 ?_⟩
  · have q2 := (nI_leI hzb w1).mp q
    have F16' : Fr (fun x => x = w ∨ x = su) m m16 := F16.mono fun _ _ z => Or.inr z
    have S16 := h.scr F16'
    obtain ⟨-, p, t9, v, U, WW, T, B, s3, -⟩ := S16.2.2.2.2.2 i hin
    have hPt := s3.2.2.2.2.1
    have hl := hPt.len
    refine ⟨s3.1, p, s3.2.2.1, S16.1.1, su, S16.1.2.2.2.2.2.2.2, hPt.1, sp_X0_addTo hPt r16 w1 w2 (by rw [List.length_nil]; omega) fun m23 r23 F23 _ => ?_⟩
    have F23' : Fr (fun x => x = w ∨ x = su) m16 m23 := F23.mono fun _ _ z => Or.inr z
    have S23 := S16.scr F23'
    refine ⟨S23.1.1, su, S23.1.2.2.2.2.2.2.2, r23.1, ?_⟩
    have es : hi kf f (lo kf t (hi kf (hz 0) (Pl i))) = seg f t (Pl i) := seg_hi q2 (Pl i)
    rw [r23.2.2.1, List.nil_append, es]
    exact hQ i f t hin e rfl rfl w1 w2 w3 w4 w5 q2 m23 S23 (F16'.trans F23')
  · rcases Nat.lt_or_ge f (hz 0) with y | y
    · exact y
    · exact absurd ((nI_leI hzb w1).mpr y) q
theorem sp_X5_ratePerHour (h : Sto m g o A R Z w su n ck sa kd rt hz Pl Cs) (hzb : ∀ i, i ≤ 3 → hz i < 2 ^ 31) (hkd : ∀ i, i < n → kd i ≤ 1) (hP : ∀ i, i < n → Srt kf (Pl i) ∧ (Pl i).length < 2 ^ 26) (hv1 : ∀ x : Int64, vf_n64 (FP.dmul (FP.l2d x) (4660134898793709568 : UInt64))) (hv2 : ∀ (x : Int64) (d : Nat), 0 < d → d < 2 ^ 31 → vf_n64 (rat x d)) {p1 p2 p3 : Int32} {Q : UInt64 → MM → Prop} {X : Nat → MM → Prop} (hX0 : (p1 < 0 ∨ ¬ p1 < nI n) → X 0 m) (hX1 : ∀ i, i < n → p1 = nI i → (¬ isWin p2 p3 60 ∨ p2 = p3) → X 1 m) (hX2 : ∀ i f t, i < n → p1 = nI i → p2 = nI f → p3 = nI t → f < 2 ^ 31 → t < 2 ^ 31 → f < t → 60 ∣ f → 60 ∣ t → ¬ (kd i = 1 ∧ Kn hz f t) → ∀ m', Sto m' g o A R Z w su n ck sa kd rt hz Pl Cs → Fr (fun x => x = w ∨ x = su) m m' → X 2 m') (hQ : ∀ i f t, i < n → p1 = nI i → p2 = nI f → p3 = nI t → f < 2 ^ 31 → t < 2 ^ 31 → f < t → 60 ∣ f → 60 ∣ t → kd i = 1 → Kn hz f t → ∀ m', Sto m' g o A R Z w su n ck sa kd rt hz Pl Cs → Fr (fun x => x = w ∨ x = su) m m' → Q (rat (vInc ((seg f t (Pl i)).map (·.2))) (t - f)) m') : wp_X5_ratePerHour o p1 p2 p3 m Q X := by
  unfold wp_X5_ratePerHour
  refine ⟨h.1.1, sp_X5_seriesAt h (fun i hin e => ⟨sa i, rfl, ?_⟩) hX0⟩
  refine sp_X5_needWindow (len := 60) (by decide) (by decide) (fun hw => ?_) (fun z => hX1 i hin e (Or.inl z))
  obtain ⟨f, t, rfl, rfl, w1, w2, w3, w4, w5⟩ := hw
  refine ⟨fun q => ⟨h.1.1, ?_⟩, fun q => hX1 i hin e (Or.inr q)⟩
  have hft : f < t := by
    rcases Nat.eq_or_lt_of_le w3 with y | y
    · exact absurd (congrArg nI y) q
    · exact y
  refine sp_X5_increaseIn h hzb hkd hin (hP i hin).1 (hP i hin).2 w4 w5 w3 w2 (fun k1 k m' s' f' => ?_) (fun k m' s' f' => hX2 i f t hin e rfl rfl w1 w2 hft w4 w5 k m' s' f')
  rw [pk_sub w3]
  exact ⟨hv1 _, hv2 _ _ (by omega) (by omega), hQ i f t hin e rfl rfl w1 w2 hft w4 w5 k1 k m' s' f'⟩
theorem sp_X5_gaps (h : Sto m g o A R Z w su n ck sa kd rt hz Pl Cs) (hzb : ∀ i, i ≤ 3 → hz i < 2 ^ 31) {p1 p2 p3 p4 : Int32} {Q : Int32 → MM → Prop} {X : Nat → MM → Prop} (hX0 : (p1 < 0 ∨ ¬ p1 < nI n) → X 0 m) (hX1 : NoAsk n p1 p2 0 → X 1 m) (hX1b : ∀ i t x, Ask n p1 p2 0 i t x → ¬ isWin p3 p4 (ln t) → X 1 m) (hQ : ∀ i t x f e, Ask n p1 p2 0 i t x → p3 = nI f → p4 = nI e → f < 2 ^ 31 → e < 2 ^ 31 → f ≤ e → ln t ∣ f → ln t ∣ e → Q (gapsN hz (Pl i) t f e) m) : wp_X5_gaps o p1 p2 p3 p4 m Q X := by
  unfold wp_X5_gaps
  obtain ⟨⟨a1, a2, a3, a4, a5, a6, a7, a8⟩, ⟨b1, b2, b3, b4, b5, b6, b7, b8, b9⟩, c, d, e9, F⟩ := id h
  refine ⟨a1, sp_X5_rollupsAt h hX0 hX1 (fun i t x u w' cap T B ha hR hT => ⟨u, rfl, ?_⟩)⟩
  obtain ⟨q1, q2, q3, q4, q5, q6, q7⟩ := id ha
  have lp0 := ln_pos t
  have lp1 := ln_le t
  rw [q3]
  refine sp_X5_lengthOf q5 (sp_X5_needWindow lp0 (by omega) (fun hw => ?_) (hX1b i t x ha))
  obtain ⟨f, e, rfl, rfl, w1, w2, w3, w4, w5⟩ := hw
  have hQ' := hQ i t x f e ha rfl rfl w1 w2 w3 w4 w5
  refine ⟨a1, Z, a6, b5, by rw [b6]; exact vp_in_nI (by omega) (by omega), ?_⟩
  rw [nI_clamp (by omega), (c t q5).2]
  refine sp_X5_beginOf q5 (hzb t q5) fun x15 e15 => ?_
  have hbz := bg_le (ln t) (hz t)
  have hzt := hzb t q5
  have ex : x15 = nI (max f (bg (ln t) (hz t))) := by
    rw [e15]
    by_cases q : nI f < nI (bg (ln t) (hz t))
    · have := (nI_ltI w1 (by omega)).mp q
      rw [if_pos q, Nat.max_eq_right (by omega)]
    · have : ¬ f < bg (ln t) (hz t) := fun z => q ((nI_ltI w1 (by omega)).mpr z)
      rw [if_neg q, Nat.max_eq_left (by omega)]
  have hs31 : max f (bg (ln t) (hz t)) < 2 ^ 31 := by omega
  unfold gapsN at hQ'
  rw [← hT, ← map_lo, ← map_hi, List.length_map] at hQ'
  rw [ex]
  refine ⟨fun y => ?_, fun y => ?_⟩
  · have y2 := (nI_ltI hs31 w2).mp y
    have hd := congrArg List.length (lo_hi hR.2.2.1 (max f (bg (ln t) (hz t))) e)
    rw [List.length_drop] at hd
    refine sp_X5_lengthOf q5 ⟨nI_ne0 lp0 (by omega), fun x20 e20 => ⟨hR.1.1, sp_X2_placeFrom hR (nI e) ⟨hR.1.1, sp_X2_placeFrom hR (nI (max f (bg (ln t) (hz t)))) ?_⟩⟩⟩
    rw [nI_clamp w2, nI_clamp hs31, e20, pk_sub (by omega), pk_div (by omega) lp0 (by omega), pk_sub (lo_mono T (by omega)), hd]
    exact hQ'
  · have y2 : e ≤ max f (bg (ln t) (hz t)) := by
      rcases Nat.lt_or_ge (max f (bg (ln t) (hz t))) e with q | q
      · exact absurd ((nI_ltI hs31 w2).mpr q) y
      · exact q
    rw [show e - max f (bg (ln t) (hz t)) = 0 by omega, Nat.zero_div, hi_none (fun a' ha' => by
      have := (mem_lo.mp ha').2
      omega)] at hQ'
    exact hQ'
end
