/-! WINDOWS of the law: what the store's calls over windows answer, the scratch aside -/
theorem Row.fr {S : Nat → Prop} {m m' : MM} {z : Nat} {kd rt hz : Nat → Nat} (h : Row m z kd rt hz) (hF : Fr S m m') (hS : ¬ S z) : Row m' z kd rt hz := by
  obtain ⟨f1, f2, f3⟩ := hF z (by rw [h.1]; decide)
  obtain ⟨-, -, -, x4, -⟩ := f3 hS
  exact ⟨f1.trans h.1, f2.trans h.2.1, fun i hi => by rw [x4]; exact h.2.2.1 i hi, fun i hi => by rw [x4]; exact h.2.2.2 i hi⟩
def Ws (m0 m : MM) (g : Nat → Nat) (o A R Z w su n ck : Nat) (sa kd rt hz : Nat → Nat) (Pl : Nat → List (Nat × Int32)) (Cs : Nat → Nat → Nat) (z : Nat) : Prop := Sto m g o A R Z w su n ck sa kd rt hz Pl Cs ∧ Row m z kd rt hz ∧ Fr (fun x => x = w ∨ x = su) m0 m
section
variable {m0 m : MM} {g : Nat → Nat} {o A R Z w su n ck z : Nat} {sa kd rt hz : Nat → Nat} {Pl : Nat → List (Nat × Int32)} {Cs : Nat → Nat → Nat}
theorem Ws.go (h : Ws m0 m g o A R Z w su n ck sa kd rt hz Pl Cs z) {m' : MM} (hS : Sto m' g o A R Z w su n ck sa kd rt hz Pl Cs) (hF : Fr (fun x => x = w ∨ x = su) m m') : Ws m0 m' g o A R Z w su n ck sa kd rt hz Pl Cs z := by
  refine ⟨hS, h.2.1.fr hF (fun c => ?_), h.2.2.trans hF⟩
  have k := h.2.1.1
  obtain ⟨-, ⟨-, -, -, -, -, -, k7, k8, -⟩, -⟩ := h.1
  rcases c with c | c
  · rw [c, k7] at k
    exact absurd k (by decide)
  · rw [c, k8] at k
    exact absurd k (by decide)
theorem q_parts (hW : Ws m0 m g o A R Z w su n ck sa kd rt hz Pl Cs z) {f t : Nat} (hf : 60 ∣ f) (ht : 60 ∣ t) (hft : f ≤ t) (t31 : t < 2 ^ 31) {Q : Int32 → MM → Prop} {X : Nat → MM → Prop} (hQ : ∀ m', Ws m0 m' g o A R Z w su n ck sa kd rt hz Pl Cs z → Q (nI (nParts f t)) m') : wp_X5_parts o (nI f) (nI t) m Q X := by
  refine sp_X5_parts hW.1 (fun y => absurd ⟨f, t, rfl, rfl, by omega, t31, hft, hf, ht⟩ y) (fun f' t' e1 e2 f31 t31' _ _ _ m' hS hF => ?_)
  rw [← (nI_eq (by omega) f31).mp e1, ← (nI_eq t31 t31').mp e2]
  exact hQ m' (hW.go hS hF)
theorem q_isKnown (hW : Ws m0 m g o A R Z w su n ck sa kd rt hz Pl Cs z) (hzb : ∀ i, i ≤ 3 → hz i < 2 ^ 31) {f t : Nat} (hf : 60 ∣ f) (ht : 60 ∣ t) (hft : f ≤ t) (t31 : t < 2 ^ 31) {Q : Int32 → MM → Prop} {X : Nat → MM → Prop} (h1 : Kn hz f t → ∀ m', Ws m0 m' g o A R Z w su n ck sa kd rt hz Pl Cs z → Q 1 m') (h0 : ¬ Kn hz f t → ∀ m', Ws m0 m' g o A R Z w su n ck sa kd rt hz Pl Cs z → Q 0 m') : wp_X5_isKnown o (nI f) (nI t) m Q X := by
  refine sp_X5_isKnown hW.1 hzb (fun y => absurd ⟨f, t, rfl, rfl, by omega, t31, hft, hf, ht⟩ y) (fun f' t' e1 e2 f31 t31' _ _ _ m' hS hF => ?_)
  rw [← (nI_eq (by omega) f31).mp e1, ← (nI_eq t31 t31').mp e2]
  exact ⟨fun k => h1 k m' (hW.go hS hF), fun k => h0 k m' (hW.go hS hF)⟩
theorem q_total (hW : Ws m0 m g o A R Z w su n ck sa kd rt hz Pl Cs z) (hK : Pk n ck kd Pl) (hzb : ∀ i, i ≤ 3 → hz i < 2 ^ 31) {i f t : Nat} (hin : i < n) (hf : 60 ∣ f) (ht : 60 ∣ t) (hft : f ≤ t) (t31 : t < 2 ^ 31) (hk : Kn hz f t) {Q : Int64 → MM → Prop} {X : Nat → MM → Prop} (hQ : ∀ m', Ws m0 m' g o A R Z w su n ck sa kd rt hz Pl Cs z → Q (vSum ((seg f t (Pl i)).map (·.2))) m') : wp_X5_total o (nI i) (nI f) (nI t) m Q X := by
  have hn := hW.1.n4
  refine sp_X5_total hW.1 hzb (fun i hi => ⟨hK.srt i hi, by have := (hK.2 i hi).2.1; omega⟩) (fun y => (ser_no hn hin y).elim) (fun i' _ _ y => absurd ⟨f, t, rfl, rfl, by omega, t31, hft, hf, ht⟩ y) (fun i' f' t' h1 e1 e2 e3 f31 t31' _ _ _ nk => ?_) (fun i' f' t' h1 e1 e2 e3 f31 t31' _ _ _ _ m' hS hF => ?_)
  · rw [← (nI_eq (by omega) f31).mp e2, ← (nI_eq t31 t31').mp e3] at nk
    exact absurd hk nk
  · rw [← (nI_eq (by omega) (by omega)).mp e1, ← (nI_eq (by omega) f31).mp e2, ← (nI_eq t31 t31').mp e3]
    exact hQ m' (hW.go hS hF)
theorem q_byPoints (hW : Ws m0 m g o A R Z w su n ck sa kd rt hz Pl Cs z) (hK : Pk n ck kd Pl) (hzb : ∀ i, i ≤ 3 → hz i < 2 ^ 31) {i f t : Nat} (hin : i < n) (hf : 60 ∣ f) (ht : 60 ∣ t) (hft : f ≤ t) (t31 : t < 2 ^ 31) (hk : hz 0 ≤ f) {Q : Int64 → MM → Prop} {X : Nat → MM → Prop} (hQ : ∀ m', Ws m0 m' g o A R Z w su n ck sa kd rt hz Pl Cs z → Q (vSum ((seg f t (Pl i)).map (·.2))) m') : wp_X5_totalByPoints o (nI i) (nI f) (nI t) m Q X := by
  have hn := hW.1.n4
  refine sp_X5_totalByPoints hW.1 (hzb 0 (by decide)) (fun y => (ser_no hn hin y).elim) (fun i' _ _ y => absurd ⟨f, t, rfl, rfl, by omega, t31, hft, hf, ht⟩ y) (fun i' f' t' h1 e1 e2 e3 f31 t31' _ _ _ nk => ?_) (fun i' f' t' h1 e1 e2 e3 f31 t31' _ _ _ _ m' hS hF => ?_)
  · rw [← (nI_eq (by omega) f31).mp e2] at nk
    omega
  · rw [← (nI_eq (by omega) (by omega)).mp e1, ← (nI_eq (by omega) f31).mp e2, ← (nI_eq t31 t31').mp e3]
    exact hQ m' (hW.go hS hF)
theorem q_increase (hW : Ws m0 m g o A R Z w su n ck sa kd rt hz Pl Cs z) (hK : Pk n ck kd Pl) (hzb : ∀ i, i ≤ 3 → hz i < 2 ^ 31) {i f t : Nat} (hin : i < n) (hf : 60 ∣ f) (ht : 60 ∣ t) (hft : f ≤ t) (t31 : t < 2 ^ 31) (hk : Kn hz f t) (hc : kd i = 1) {Q : Int64 → MM → Prop} {X : Nat → MM → Prop} (hQ : ∀ m', Ws m0 m' g o A R Z w su n ck sa kd rt hz Pl Cs z → Q (vInc ((seg f t (Pl i)).map (·.2))) m') : wp_X5_increase o (nI i) (nI f) (nI t) m Q X := by
  have hn := hW.1.n4
  refine sp_X5_increase hW.1 hzb (fun i hi => (hK.2 i hi).2.2.2) (fun i hi => ⟨hK.srt i hi, by have := (hK.2 i hi).2.1; omega⟩) (fun y => (ser_no hn hin y).elim) (fun i' _ _ y => absurd ⟨f, t, rfl, rfl, by omega, t31, hft, hf, ht⟩ y) (fun i' f' t' h1 e1 e2 e3 f31 t31' _ _ _ nk => ?_) (fun i' f' t' h1 e1 e2 e3 f31 t31' _ _ _ _ _ m' hS hF => ?_)
  · rw [← (nI_eq (by omega) (by omega)).mp e1, ← (nI_eq (by omega) f31).mp e2, ← (nI_eq t31 t31').mp e3] at nk
    exact absurd ⟨hc, hk⟩ nk
  · rw [← (nI_eq (by omega) (by omega)).mp e1, ← (nI_eq (by omega) f31).mp e2, ← (nI_eq t31 t31').mp e3]
    exact hQ m' (hW.go hS hF)
theorem q_rate (hW : Ws m0 m g o A R Z w su n ck sa kd rt hz Pl Cs z) (hK : Pk n ck kd Pl) (hzb : ∀ i, i ≤ 3 → hz i < 2 ^ 31) {i f t : Nat} (hin : i < n) (hf : 60 ∣ f) (ht : 60 ∣ t) (hft : f ≤ t) (t31 : t < 2 ^ 31) (hne : f ≠ t) (hk : Kn hz f t) (hc : kd i = 1) {Q : UInt64 → MM → Prop} {X : Nat → MM → Prop} (hQ : ∀ m', Ws m0 m' g o A R Z w su n ck sa kd rt hz Pl Cs z → Q (rat (vInc ((seg f t (Pl i)).map (·.2))) (t - f)) m') : wp_X5_ratePerHour o (nI i) (nI f) (nI t) m Q X := by
  have hn := hW.1.n4
  refine sp_X5_ratePerHour hW.1 hzb (fun i hi => (hK.2 i hi).2.2.2) (fun i hi => ⟨hK.srt i hi, by have := (hK.2 i hi).2.1; omega⟩) (fun x => (isEnc_mul x).vf) (fun x d h0 h1 => (rat_enc x h0 h1).vf) (fun y => (ser_no hn hin y).elim) (fun i' _ _ y => ?_) (fun i' f' t' h1 e1 e2 e3 f31 t31' _ _ _ nk => ?_) (fun i' f' t' h1 e1 e2 e3 f31 t31' _ _ _ _ _ m' hS hF => ?_)
  · rcases y with y | y
    · exact absurd ⟨f, t, rfl, rfl, by omega, t31, hft, hf, ht⟩ y
    · exact absurd ((nI_eq (by omega) t31).mp y) hne
  · rw [← (nI_eq (by omega) (by omega)).mp e1, ← (nI_eq (by omega) f31).mp e2, ← (nI_eq t31 t31').mp e3] at nk
    exact absurd ⟨hc, hk⟩ nk
  · rw [← (nI_eq (by omega) (by omega)).mp e1, ← (nI_eq (by omega) f31).mp e2, ← (nI_eq t31 t31').mp e3]
    exact hQ m' (hW.go hS hF)
theorem aw205 {Q : Int32 → MM → Prop} {K : Nat → Nat → Int32 → Int32 → Int32 → Int32 → Int32 → Int32 → Int64 → MM → Prop} {q0 q1 : Nat} {q2 q5 q6 q7 : Int32} {p a τ : Nat} {s0 : Int32} (hτ : τ ≤ 3) (hq : K q0 q1 q2 q5 q6 q7 (nI (p + 1)) s0 (lN (a + ll τ)) m) : wp_L_areWindows_205 Q K q0 q1 q2 q5 q6 q7 (nI p) (lN a) (nI τ) s0 m := by
  have := ll_le τ
  unfold wp_L_areWindows_205
  refine sp_L_length hτ ?_
  rw [forall_eq, forall_eq, nI_l (by omega), lN_add, nI_1]
  exact hq
theorem aw182 (hR : Row m z kd rt hz) (hzb : ∀ i, i ≤ 3 → hz i < 2 ^ 31) {Q : Int32 → MM → Prop} {K : Nat → Nat → Int32 → Int32 → Int32 → Int32 → Int32 → Int32 → Int64 → MM → Prop} {q0 : Nat} {q2 q5 q6 q7 : Int32} {p a τ : Nat} (hτ : τ ≤ 3) (ha : a < 2 ^ 40) {kn : Int32} (hq1 : ¬ kn = 0 → hz τ < a + ll τ → K q0 z q2 q5 q6 q7 (nI (p + 1)) 1 (lN (a + ll τ)) m) (hq0 : (kn = 0 ∨ a + ll τ ≤ hz τ) → K q0 z q2 q5 q6 q7 (nI (p + 1)) 0 (lN (a + ll τ)) m) : wp_L_areWindows_182 Q K q0 z q2 q5 q6 q7 (nI p) kn (lN a) (nI τ) m := by
  unfold wp_L_areWindows_182
  refine ⟨fun c => aw205 hτ (hq0 (Or.inl c)), fun c => sp_L_isGone hR hτ ha (hzb τ hτ) (fun y => ⟨fun _ => aw205 hτ (hq0 (Or.inr y)), fun c => absurd c (by decide)⟩) (fun y => ⟨fun c => absurd rfl c, fun _ => aw205 hτ (hq1 c y)⟩)⟩
theorem l_rem {a b : Nat} (ha : a < 2 ^ 40) (h0 : 0 < b) (hb : b < 2 ^ 40) : lg_cmp (lN a - lN a / lN b * lN b) (0 : Int64) = 0 ↔ b ∣ a := by
  have h1 : a % b < b := Nat.mod_lt _ h0
  rw [pk_lRem (by omega) h0 (by omega), lg_cmp_eq, show (0 : Int64) = lN 0 by decide, pk_lEQ (by omega) (by decide)]
  exact (Nat.dvd_iff_mod_eq_zero ..).symm
theorem aw153 {Q : Int32 → MM → Prop} {K : Nat → Nat → Int32 → Int32 → Int32 → Int32 → Int32 → Int32 → Int64 → MM → Prop} {q0 q1 : Nat} {q2 q5 q6 : Int32} {p a t : Nat} {kn : Int32} (ha : a < 2 ^ 31) (t31 : t < 2 ^ 31) (hq : wp_L_areWindows_182 Q K q0 q1 q2 q5 q6 (nI t) (nI p) kn (lN a) (nI (if 3600 ∣ a ∧ a + 3600 ≤ t then 2 else 1)) m) : wp_L_areWindows_153 Q K q0 q1 q2 q5 q6 (nI t) (nI p) kn (lN a) m := by
  unfold wp_L_areWindows_153
  rw [show (3600 : Int64) = lN 3600 by decide, nI_l t31, lN_add, lg_cmp_gt, pk_lLT (by omega) (by omega), l_rem (by omega) (by decide) (by decide)]
  refine ⟨fun c => ?_, fun c => ⟨fun d => ?_, fun d => ?_⟩⟩
  · rw [if_neg (fun y => c y.1)] at hq
    exact hq
  · rw [if_neg (fun y => by omega)] at hq
    exact hq
  · rw [if_pos ⟨c, by omega⟩] at hq
    exact hq
theorem aw_go {Q : Int32 → MM → Prop} {N : Nat} {q0 q1 : Nat} {q2 q5 q6 : Int32} {p a t : Nat} {kn : Int32} (hat : a < t) (t31 : t < 2 ^ 31) (hq : wp_L_areWindows_182 Q (wp_L_areWindows_116 Q N) q0 q1 q2 q5 q6 (nI t) (nI p) kn (lN a) (nI (gt t a)) m) : wp_L_areWindows_116 Q (N + 1) q0 q1 q2 q5 q6 (nI t) (nI p) kn (lN a) m := by
  have ha : a < 2 ^ 31 := by omega
  unfold wp_L_areWindows_116
  refine ⟨fun c => ?_, fun _ => ?_⟩
  · rw [nI_l t31, cmp_ge_N (by omega) (by omega)] at c
    omega
  · rw [show (86400 : Int64) = lN 86400 by decide, nI_l t31, lN_add, lg_cmp_gt, pk_lLT (by omega) (by omega), l_rem (by omega) (by decide) (by decide)]
    unfold gt at hq
    refine ⟨fun c => ?_, fun c => ⟨fun d => ?_, fun d => ?_⟩⟩
    · rw [if_neg (fun y => c y.1)] at hq
      exact aw153 ha t31 hq
    · rw [if_neg (fun y => by omega)] at hq
      exact aw153 ha t31 hq
    · rw [if_pos ⟨c, by omega⟩] at hq
      exact hq
theorem wc_le {f t : Nat} (hf : 60 ∣ f) (ht : 60 ∣ t) (hft : f ≤ t) : ∀ k, k ≤ 5 → wcut f t k ≤ t := fun k hk => by
  have h0 : wcut f t 0 ≤ wcut f t 1 := (wcut_ok hf ht hft 0 (by decide)).1
  have h1 : wcut f t 1 ≤ wcut f t 2 := (wcut_ok hf ht hft 1 (by decide)).1
  have h2 : wcut f t 2 ≤ wcut f t 3 := (wcut_ok hf ht hft 2 (by decide)).1
  have h3 : wcut f t 3 ≤ wcut f t 4 := (wcut_ok hf ht hft 3 (by decide)).1
  have h4 : wcut f t 4 ≤ wcut f t 5 := (wcut_ok hf ht hft 4 (by decide)).1
  rw [wc_5] at h4
  rcases (show k = 0 ∨ k = 1 ∨ k = 2 ∨ k = 3 ∨ k = 4 ∨ k = 5 by omega) with rfl | rfl | rfl | rfl | rfl | rfl
  · omega
  · omega
  · omega
  · omega
  · omega
  · rw [wc_5]
    exact Nat.le_refl _
theorem ln_60 (t : Nat) : 60 ≤ ln t := by
  unfold ln
  split
  · decide
  · split <;> decide
theorem tr_13 {k : Nat} (hk : k ≤ 4) : 1 ≤ tr k ∧ tr k ≤ 3 := by
  rcases (show k = 0 ∨ k = 1 ∨ k = 2 ∨ k = 3 ∨ k = 4 by omega) with rfl | rfl | rfl | rfl | rfl <;> decide
theorem aw_seg (hR : Row m z kd rt hz) (hzb : ∀ i, i ≤ 3 → hz i < 2 ^ 31) {Q : Int32 → MM → Prop} {q0 : Nat} {q2 q5 q6 : Int32} {f t : Nat} (hf : 60 ∣ f) (ht : 60 ∣ t) (hft : f ≤ t) (t31 : t < 2 ^ 31) {N k a : Nat} {kn : Int32} (hk : k ≤ 4) (h1 : wcut f t k ≤ a) (h2 : a < wcut f t (k + 1)) (h3 : ln (tr k) ∣ a) (h4 : KnW hz f t k a → kn = 1) (h5 : ¬ KnW hz f t k a → kn = 0) (hn : ∀ kn', a + ln (tr k) ≤ wcut f t (k + 1) → ln (tr k) ∣ a + ln (tr k) → ((KnW hz f t k (a + ln (tr k)) → kn' = 1) ∧ (¬ KnW hz f t k (a + ln (tr k)) → kn' = 0)) → wp_L_areWindows_116 Q (N + 1) q0 z q2 q5 q6 (nI t) (nI (pcW f t k (a + ln (tr k)))) kn' (lN (a + ln (tr k))) m) : wp_L_areWindows_116 Q (N + 1 + 1) q0 z q2 q5 q6 (nI t) (nI (pcW f t k a)) kn (lN a) m := by
  have hle := wc_le hf ht hft (k + 1) (by omega)
  obtain ⟨t1, t3⟩ := tr_13 hk
  obtain ⟨w1, w2⟩ := wcut_ok hf ht hft k hk
  have w3 := w2 (by omega)
  have hll : ll (tr k) = ln (tr k) := ll_ln t1
  have hs := KnW_step (hz := hz) h1 (fun _ => ⟨w3.1, h3⟩)
  have hb := dv_step h3 w3.2 h2
  have hd : ln (tr k) ∣ a + ln (tr k) := Nat.dvd_add h3 (Nat.dvd_refl _)
  refine aw_go (by omega) t31 ?_
  rw [gt_seg hk h1 h2 h3]
  refine aw182 hR hzb t3 (by omega) (fun c y => ?_) (fun c => ?_)
  · rw [hll, ← pcW_step h1]
    rw [hll] at y
    have hk9 : KnW hz f t k a := Classical.byContradiction fun q => c (h5 q)
    exact hn 1 hb hd ⟨fun _ => rfl, fun q => absurd (hs.mpr ⟨hk9, y⟩) q⟩
  · rw [hll, ← pcW_step h1]
    rw [hll] at c
    refine hn 0 hb hd ⟨fun q => ?_, fun _ => rfl⟩
    have := hs.mp q
    rcases c with c | c
    · rw [h4 this.1] at c
      exact absurd c (by decide)
    · omega
theorem aw116 (hR : Row m z kd rt hz) (hzb : ∀ i, i ≤ 3 → hz i < 2 ^ 31) {Q : Int32 → MM → Prop} {q0 : Nat} {q2 q6 : Int32} {f t : Nat} (hf : 60 ∣ f) (ht : 60 ∣ t) (hft : f ≤ t) (t31 : t < 2 ^ 31) (hx : ∀ N kn, (Kn hz f t → kn = 1) → (¬ Kn hz f t → kn = 0) → wp_L_areWindows_116 Q (N + 1) q0 z q2 (nI f) q6 (nI t) (nI (nParts f t)) kn (lN t) m) : ∀ (N d k a : Nat) (kn : Int32), k + d = 4 → wcut f t k ≤ a → a ≤ wcut f t (k + 1) → (wcut f t k < wcut f t (k + 1) → ln (tr k) ∣ a) → (KnW hz f t k a → kn = 1) → (¬ KnW hz f t k a → kn = 0) → t ≤ a + 60 * N → wp_L_areWindows_116 Q (N + 1) q0 z q2 (nI f) q6 (nI t) (nI (pcW f t k a)) kn (lN a) m := by
  intro N
  induction N with
  | zero =>
    intro d
    induction d with
    | zero =>
      intro k a kn hkd h1 h2 h3 h4 h5 h6
      obtain rfl : k = 4 := by omega
      rw [wc_5] at h2
      obtain rfl : a = t := by omega
      rw [pcW_end]
      exact hx 0 kn (fun y => h4 (KnW_end.mpr y)) (fun y => h5 (fun q => y (KnW_end.mp q)))
    | succ d ihd =>
      intro k a kn hkd h1 h2 h3 h4 h5 h6
      have hle := wc_le hf ht hft (k + 1) (by omega)
      obtain rfl : a = wcut f t (k + 1) := by omega
      rw [pcW_next (by omega)]
      obtain ⟨w1, w2⟩ := wcut_ok hf ht hft (k + 1) (by omega)
      exact ihd (k + 1) _ kn (by omega) (Nat.le_refl _) w1 (fun y => (w2 y).1) (fun y => h4 (KnW_next.mpr y)) (fun y => h5 (fun q => y (KnW_next.mp q))) h6
  | succ N ihN =>
    intro d
    induction d with
    | zero =>
      intro k a kn hkd h1 h2 h3 h4 h5 h6
      obtain rfl : k = 4 := by omega
      rw [wc_5] at h2
      rcases Nat.lt_or_ge a t with q | q
      · exact aw_seg hR hzb hf ht hft t31 (N := N) (k := 4) (by decide) h1 (by rw [wc_5]; exact q) (h3 (by rw [wc_5]; omega)) h4 h5 (fun kn' g1 g2 g3 => ihN 0 4 _ kn' rfl (by omega) g1 (fun _ => g2) g3.1 g3.2 (by have := ln_pos (tr 4); have : ln (tr 4) = 60 := rfl; omega))
      · obtain rfl : a = t := by omega
        rw [pcW_end]
        exact hx _ kn (fun y => h4 (KnW_end.mpr y)) (fun y => h5 (fun q => y (KnW_end.mp q)))
    | succ d ihd =>
      intro k a kn hkd h1 h2 h3 h4 h5 h6
      rcases Nat.lt_or_ge a (wcut f t (k + 1)) with q | q
      · exact aw_seg hR hzb hf ht hft t31 (N := N) (k := k) (by omega) h1 q (h3 (by omega)) h4 h5 (fun kn' g1 g2 g3 => ihN (d + 1) k _ kn' hkd (by omega) g1 (fun _ => g2) g3.1 g3.2 (by have : 60 ≤ ln (tr k) := ln_60 _; omega))
      · obtain rfl : a = wcut f t (k + 1) := by omega
        rw [pcW_next (by omega)]
        obtain ⟨w1, w2⟩ := wcut_ok hf ht hft (k + 1) (by omega)
        exact ihd (k + 1) _ kn (by omega) (Nat.le_refl _) w1 (fun y => (w2 y).1) (fun y => h4 (KnW_next.mpr y)) (fun y => h5 (fun q => y (KnW_next.mp q))) h6
end
