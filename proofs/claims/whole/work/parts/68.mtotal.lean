/-! THE MODEL'S CALLS ABOUT WINDOWS -/
section
variable {m : MM} {g : Nat → Nat} {u K R Z Wh Ti Va Pa n ck : Nat} {kd rt hz : Nat → Nat} {al : List AT}
theorem PaAt.at {m : MM} {Pa f t : Nat} (h : PaAt m Pa f t) {j : Nat} (hj : j ≤ 9) {jI : Int32} (e : jI = nI j) : mAJ m Pa jI.toNatClampNeg = lN (if j % 2 = 0 then pB f t (j / 2) else pE f t (j / 2)) := by
  rw [e, nI_clamp (by omega)]
  obtain ⟨h1, h2⟩ := h (j / 2) (by omega)
  by_cases q : j % 2 = 0
  · rw [if_pos q]
    rw [show 2 * (j / 2) = j by omega] at h1
    exact h1
  · rw [if_neg q]
    rw [show 2 * (j / 2) + 1 = j by omega] at h2
    exact h2
theorem div_add_dvd {a b d : Nat} (hd : 0 < d) (h : d ∣ a) : (a + b) / d = a / d + b / d := by
  obtain ⟨c, rfl⟩ := h
  rw [Nat.mul_add_div hd, Nat.mul_div_cancel_left _ hd]
theorem pa_count {f t : Nat} (hf : 60 ∣ f) (ht : 60 ∣ t) (hft : f ≤ t) (f31 : f < 2 ^ 31) (t31 : t < 2 ^ 31) : (((lN (pE f t 0) - lN (pB f t 0)) / (86400 : Int64) + (((lN (pE f t 1) - lN (pB f t 1)) + lN (pE f t 2)) - lN (pB f t 2)) / (3600 : Int64)) + (((lN (pE f t 3) - lN (pB f t 3)) + lN (pE f t 4)) - lN (pB f t 4)) / (60 : Int64)).toInt32 = nI (nParts f t) := by
  have P := pE_is hf ht hft
  have W := wcut_ok hf ht hft
  have p0 : pE f t 0 - pB f t 0 = wcut f t 3 - wcut f t 2 := (P 0 (by decide)).1
  have p1 : pE f t 1 - pB f t 1 = wcut f t 2 - wcut f t 1 := (P 1 (by decide)).1
  have p2 : pE f t 2 - pB f t 2 = wcut f t 4 - wcut f t 3 := (P 2 (by decide)).1
  have p3 : pE f t 3 - pB f t 3 = wcut f t 1 - wcut f t 0 := (P 3 (by decide)).1
  have p4 : pE f t 4 - pB f t 4 = wcut f t 5 - wcut f t 4 := (P 4 (by decide)).1
  have l0 := pB_le f t 0
  have l1 := pB_le f t 1
  have l2 := pB_le f t 2
  have l3 := pB_le f t 3
  have l4 := pB_le f t 4
  have b : ∀ k, pE f t k < 2 ^ 34 := fun k => by
    have := pB_lt f31 t31 k
    unfold pE
    omega
  have b0 := b 0
  have b1 := b 1
  have b2 := b 2
  have b3 := b 3
  have b4 := b 4
  have d86 : ∀ a, a < 2 ^ 40 → lN a / (86400 : Int64) = lN (a / 86400) := fun a ha => pk_lDiv (b := 86400) (by omega) (by decide) (by decide)
  have d36 : ∀ a, a < 2 ^ 40 → lN a / (3600 : Int64) = lN (a / 3600) := fun a ha => pk_lDiv (b := 3600) (by omega) (by decide) (by decide)
  have d6 : ∀ a, a < 2 ^ 40 → lN a / (60 : Int64) = lN (a / 60) := fun a ha => pk_lDiv (b := 60) (by omega) (by decide) (by decide)
  rw [lN_sub l0, lN_sub l1, lN_add, lN_sub (a := pE f t 1 - pB f t 1 + pE f t 2) (b := pB f t 2) (by omega), lN_sub l3, lN_add, lN_sub (a := pE f t 3 - pB f t 3 + pE f t 4) (b := pB f t 4) (by omega), d86 _ (by omega), d36 _ (by omega), d6 _ (by omega), lN_add, lN_add, lN_i]
  congr 1
  have e1 : pE f t 1 - pB f t 1 + pE f t 2 - pB f t 2 = (wcut f t 2 - wcut f t 1) + (wcut f t 4 - wcut f t 3) := by omega
  have e2 : pE f t 3 - pB f t 3 + pE f t 4 - pB f t 4 = (wcut f t 1 - wcut f t 0) + (wcut f t 5 - wcut f t 4) := by omega
  rw [e1, e2, p0]
  have s1 : ((wcut f t 2 - wcut f t 1) + (wcut f t 4 - wcut f t 3)) / 3600 = (wcut f t 2 - wcut f t 1) / 3600 + (wcut f t 4 - wcut f t 3) / 3600 := by
    refine div_add_dvd (by decide) ?_
    rcases Nat.lt_or_ge (wcut f t 1) (wcut f t 2) with q | q
    · obtain ⟨v1, v2⟩ := (W 1 (by decide)).2 q
      exact Nat.dvd_sub v2 v1
    · rw [show wcut f t 2 - wcut f t 1 = 0 by omega]
      exact Nat.dvd_zero _
  have s2 : ((wcut f t 1 - wcut f t 0) + (wcut f t 5 - wcut f t 4)) / 60 = (wcut f t 1 - wcut f t 0) / 60 + (wcut f t 5 - wcut f t 4) / 60 := by
    refine div_add_dvd (by decide) ?_
    rcases Nat.lt_or_ge (wcut f t 0) (wcut f t 1) with q | q
    · obtain ⟨v1, v2⟩ := (W 0 (by decide)).2 q
      exact Nat.dvd_sub v2 v1
    · rw [show wcut f t 1 - wcut f t 0 = 0 by omega]
      exact Nat.dvd_zero _
  rw [s1, s2]
  unfold nParts
  omega
theorem md_parts (h : Mod m g u K R Z Wh Ti Va Pa n ck kd rt hz al) {p1 p2 : Int32} {Q : Int32 → MM → Prop} (c1 : ¬ isWin p1 p2 60 → ∀ m', Mod m' g u K R Z Wh Ti Va Pa n ck kd rt hz al → mI m' 136 u = 1 → Fr (MS g u) m m' → Q 0 m') (c0 : ∀ f t, p1 = nI f → p2 = nI t → f < 2 ^ 31 → t < 2 ^ 31 → f ≤ t → 60 ∣ f → 60 ∣ t → ∀ m', Mod m' g u K R Z Wh Ti Va Pa n ck kd rt hz al → mI m' 136 u = 0 → Fr (MS g u) m m' → Q (nI (nParts f t)) m') : wp_X6_parts u p1 p2 m Q := by
  unfold wp_X6_parts
  refine md_isWindow (len := 60) (by decide) (by decide) (by decide) (fun hw => ⟨fun z => absurd z (by decide), fun _ => ⟨h.1.1, md_yes h fun m1 h1 u1 f1 => ⟨fun _ => ⟨h1.1.1, ?_⟩, fun y => absurd y (by decide)⟩⟩⟩) (fun hw => ⟨fun _ => ⟨h.1.1, md_no h (by decide) fun m' h' t' f' => ⟨fun y => absurd rfl y, fun _ => c1 hw m' h' t' (fr_u f')⟩⟩, fun y => absurd rfl y⟩)
  obtain ⟨f, t, rfl, rfl, w1, w2, w3, w4, w5⟩ := hw
  refine md_takeApart h1 w1 w2 fun m2 h2 p2 u2 f2 => ?_
  have a1 := h2.1.1
  have a11 := h2.1.2.2.2.2.2.2.2.2.2.2
  obtain ⟨b13, b14⟩ := h2.2.1.2.2.2.2.2.2.2.2.2.2.2.2
  have V : ∀ j, j ≤ 9 → vp_in (nI j) (mN m2 Pa) := fun j hj => by rw [b14]; exact vp_in_nI (by omega) (by decide)
  refine ⟨a1, Pa, a11, b13, V 1 (by decide), a1, Pa, a11, b13, V 0 (by decide), a1, Pa, a11, b13, V 3 (by decide), a1, Pa, a11, b13, V 2 (by decide), a1, Pa, a11, b13, V 5 (by decide), a1, Pa, a11, b13, V 4 (by decide), a1, Pa, a11, b13, V 7 (by decide), a1, Pa, a11, b13, V 6 (by decide), a1, Pa, a11, b13, V 9 (by decide), a1, Pa, a11, b13, V 8 (by decide), fun x99 e99 => ?_⟩
  have A1 : mAJ m2 Pa (1 : Int32).toNatClampNeg = lN (pE f t 0) := p2.at (j := 1) (by decide) (by decide)
  have A0 : mAJ m2 Pa (0 : Int32).toNatClampNeg = lN (pB f t 0) := p2.at (j := 0) (by decide) (by decide)
  have A3 : mAJ m2 Pa (3 : Int32).toNatClampNeg = lN (pE f t 1) := p2.at (j := 3) (by decide) (by decide)
  have A2 : mAJ m2 Pa (2 : Int32).toNatClampNeg = lN (pB f t 1) := p2.at (j := 2) (by decide) (by decide)
  have A5 : mAJ m2 Pa (5 : Int32).toNatClampNeg = lN (pE f t 2) := p2.at (j := 5) (by decide) (by decide)
  have A4 : mAJ m2 Pa (4 : Int32).toNatClampNeg = lN (pB f t 2) := p2.at (j := 4) (by decide) (by decide)
  have A7 : mAJ m2 Pa (7 : Int32).toNatClampNeg = lN (pE f t 3) := p2.at (j := 7) (by decide) (by decide)
  have A6 : mAJ m2 Pa (6 : Int32).toNatClampNeg = lN (pB f t 3) := p2.at (j := 6) (by decide) (by decide)
  have A9 : mAJ m2 Pa (9 : Int32).toNatClampNeg = lN (pE f t 4) := p2.at (j := 9) (by decide) (by decide)
  have A8 : mAJ m2 Pa (8 : Int32).toNatClampNeg = lN (pB f t 4) := p2.at (j := 8) (by decide) (by decide)
  rw [A1, A0, A3, A2, A5, A4, A7, A6, A9, A8] at e99
  rw [e99, pa_count w4 w5 w3 w1 w2]
  exact c0 f t rfl rfl w1 w2 w3 w4 w5 m2 h2 (u2.trans u1) ((fr_u f1).trans f2)
/-- one step of the walk over the five stretches -/
theorem md_knows_loop (h : Mod m g u K R Z Wh Ti Va Pa n ck kd rt hz al) (hzb : ∀ i, i ≤ 3 → hz i < 2 ^ 31) {f t : Nat} (f31 : f < 2 ^ 31) (t31 : t < 2 ^ 31) (hp : PaAt m Pa f t) {Q : Int32 → MM → Prop} (h1 : (∀ k, k ≤ 4 → pB f t k < pE f t k → hz (tk k) < pB f t k + ln (tk k)) → Q 1 m) (h0 : ¬ (∀ k, k ≤ 4 → pB f t k < pE f t k → hz (tk k) < pB f t k + ln (tk k)) → Q 0 m) : ∀ (r k : Nat) (l3 : Int32), k + r = 5 → (l3 = 1 ∧ (∀ j, j < k → pB f t j < pE f t j → hz (tk j) < pB f t j + ln (tk j)) ∨ l3 = 0 ∧ ¬ (∀ j, j ≤ 4 → pB f t j < pE f t j → hz (tk j) < pB f t j + ln (tk j))) → wp_X6_knows_11 Q (r + 1) u l3 (nI k) m := by
  have a1 := h.1.1
  have a11 := h.1.2.2.2.2.2.2.2.2.2.2
  obtain ⟨b13, b14⟩ := h.2.1.2.2.2.2.2.2.2.2.2.2.2.2
  intro r
  induction r with
  | zero =>
    intro k l3 hk hl
    have ek : k = 5 := by omega
    subst ek
    unfold wp_X6_knows_11
    refine ⟨fun _ => ?_, fun z => absurd (Int32.le_refl _) z⟩
    rcases hl with ⟨e, q⟩ | ⟨e, q⟩
    · exact ⟨Or.inr e, by rw [e]; exact h1 fun j hj => q j (by omega)⟩
    · exact ⟨Or.inl e, by rw [e]; exact h0 q⟩
  | succ r ih =>
    intro k l3 hk hl
    have hk4 : k ≤ 4 := by omega
    have e2 : (2 : Int32) * nI k = nI (2 * k) := pk_mul 2 k
    have e3 : nI (2 * k) + (1 : Int32) = nI (2 * k + 1) := nI_1 _
    obtain ⟨p1, p2⟩ := hp k hk4
    have v1 : vp_in (nI (2 * k)) 10 := vp_in_nI (by omega) (by decide)
    have v2 : vp_in (nI (2 * k + 1)) 10 := vp_in_nI (by omega) (by decide)
    have bl := pB_lt f31 t31 k
    have bE : pE f t k < 2 ^ 34 := by unfold pE; omega
    have bB := pB_le f t k
    -- the step with the tier told
    have step : ∀ (T : Int32), T = nI (tk k) → ((l3 = 0 → ∀ x11 : Int32, x11 = (0 : Int32) → ∀ x12 : Int32, x12 = nI (k + 1) → wp_X6_knows_11 Q (r + 1) u x11 x12 m) ∧ (¬ l3 = 0 → mK m u = 7 ∧ ∃ b14 : Nat, mR m 135 u = some b14 ∧ mK m b14 = 12 ∧ vp_in (nI (2 * k)) (mN m b14) ∧ mK m u = 7 ∧ ∃ b18 : Nat, mR m 135 u = some b18 ∧ mK m b18 = 12 ∧ vp_in (nI (2 * k + 1)) (mN m b18) ∧ (((lg_cmp (mAJ m b14 (nI (2 * k)).toNatClampNeg) (mAJ m b18 (nI (2 * k + 1)).toNatClampNeg)) = 0 → ∀ x22 : Int32, x22 = (1 : Int32) → ∀ x23 : Int32, x23 = nI (k + 1) → wp_X6_knows_11 Q (r + 1) u x22 x23 m) ∧ (¬ (lg_cmp (mAJ m b14 (nI (2 * k)).toNatClampNeg) (mAJ m b18 (nI (2 * k + 1)).toNatClampNeg)) = 0 → mK m u = 7 ∧ ∃ b25 : Nat, mR m 135 u = some b25 ∧ mK m b25 = 12 ∧ vp_in (nI (2 * k)) (mN m b25) ∧ mK m u = 7 ∧ wp_X6_isGone u T (mAJ m b25 (nI (2 * k)).toNatClampNeg) m (fun r29 m30 => ((¬ r29 = 0 → ∀ x32 : Int32, x32 = (0 : Int32) → ∀ x33 : Int32, x33 = nI (k + 1) → wp_X6_knows_11 Q (r + 1) u x32 x33 m30) ∧ (r29 = 0 → ∀ x34 : Int32, x34 = (1 : Int32) → ∀ x35 : Int32, x35 = nI (k + 1) → wp_X6_knows_11 Q (r + 1) u x34 x35 m30))))))) := fun T eT => by
      have tk1 : 1 ≤ tk k ∧ tk k ≤ 3 := by
        unfold tk
        split
        · omega
        · split <;> omega
      refine ⟨fun z x11 e11 x12 e12 => ?_, fun z => ⟨a1, Pa, a11, b13, by rw [b14]; exact v1, a1, Pa, a11, b13, by rw [b14]; exact v2, ?_⟩⟩
      · rw [e11, e12]
        rcases hl with ⟨e, q⟩ | ⟨e, q⟩
        · rw [e] at z
          exact absurd z (by decide)
        · exact ih (k + 1) 0 (by omega) (Or.inr ⟨rfl, q⟩)
      · have hq : ∀ j, j < k → pB f t j < pE f t j → hz (tk j) < pB f t j + ln (tk j) := by
          rcases hl with ⟨e, q⟩ | ⟨e, q⟩
          · exact q
          · exact absurd e z
        rw [nI_clamp (by omega), nI_clamp (by omega), p1, p2, lg_cmp_eq, pk_lEQ (by omega) (by omega)]
        have next : (pB f t k < pE f t k → hz (tk k) < pB f t k + ln (tk k)) → wp_X6_knows_11 Q (r + 1) u 1 (nI (k + 1)) m := fun w => ih (k + 1) 1 (by omega) (Or.inl ⟨rfl, fun j hj hlt => by
          by_cases ej : j = k
          · rw [ej] at hlt ⊢
            exact w hlt
          · exact hq j (by omega) hlt⟩)
        refine ⟨fun y x22 e22 x23 e23 => ?_, fun y => ⟨a1, Pa, a11, b13, by rw [b14]; exact v1, a1, ?_⟩⟩
        · rw [e22, e23]
          exact next fun w => by omega
        · rw [eT, p1]
          refine md_isGone h tk1.1 tk1.2 (b := pB f t k) (by omega) (hzb _ tk1.2) rfl (fun w => ⟨fun q => absurd rfl q, fun _ x34 e34 x35 e35 => by rw [e34, e35]; exact next fun _ => w⟩) (fun w => ⟨fun _ x32 e32 x33 e33 => ?_, fun q => absurd q (by decide)⟩)
          rw [e32, e33]
          refine ih (k + 1) 0 (by omega) (Or.inr ⟨rfl, fun q => ?_⟩)
          have := q k hk4 (by omega)
          omega
    unfold wp_X6_knows_11
    rw [e2, e3, nI_1]
    refine ⟨fun z => absurd ((nI_leI (a := 5) (b := k) (by omega) (by omega)).mp z) (by omega), fun _ => ⟨fun w0 => ⟨fun w3 x9 e9 => ?_, fun w3 x36 e36 => ?_⟩, fun w0 x63 e63 => ?_⟩⟩
    · have k0 : k ≠ 0 := fun z => w0 (by rw [z]; exact nI_0)
      have k3 := (nI_leI (a := 3) (b := k) (by omega) (by omega)).mp w3
      refine step x9 (by rw [e9]; unfold tk; rw [if_neg k0, if_neg (by omega)]; exact nI_11.symm)
    · have k0 : k ≠ 0 := fun z => w0 (by rw [z]; exact nI_0)
      have k3 : k < 3 := by
        rcases Nat.lt_or_ge k 3 with q | q
        · exact q
        · exact absurd ((nI_leI (a := 3) (b := k) (by omega) (by omega)).mpr q) w3
      refine step x36 (by rw [e36]; unfold tk; rw [if_neg k0, if_pos k3]; rfl)
    · have k0 : k = 0 := (nI_eq (a := k) (b := 0) (by omega) (by omega)).mp w0
      refine step x63 (by rw [e63]; unfold tk; rw [if_pos k0]; rfl)
theorem md_knows (h : Mod m g u K R Z Wh Ti Va Pa n ck kd rt hz al) (hzb : ∀ i, i ≤ 3 → hz i < 2 ^ 31) {f t : Nat} (f31 : f < 2 ^ 31) (t31 : t < 2 ^ 31) (hft : f ≤ t) (hf : 60 ∣ f) (ht : 60 ∣ t) {Q : Int32 → MM → Prop} (hq : ∀ m', Mod m' g u K R Z Wh Ti Va Pa n ck kd rt hz al → mI m' 136 u = mI m 136 u → Fr (MS g u) m m' → (Kn hz f t → Q 1 m') ∧ (¬ Kn hz f t → Q 0 m')) : wp_X6_knows u (nI f) (nI t) m Q := by
  unfold wp_X6_knows
  refine ⟨h.1.1, md_takeApart h f31 t31 fun m' h' p' t' f' x4 e4 x5 e5 => ?_⟩
  obtain ⟨q1, q0⟩ := hq m' h' t' f'
  rw [Kn_iff hf ht hft] at q1 q0
  rw [e4, e5]
  exact ⟨6, md_knows_loop h' hzb f31 t31 p' q1 q0 5 0 1 rfl (Or.inl ⟨rfl, fun j hj => absurd hj (Nat.not_lt_zero j)⟩)⟩
theorem md_isKnown (h : Mod m g u K R Z Wh Ti Va Pa n ck kd rt hz al) (hzb : ∀ i, i ≤ 3 → hz i < 2 ^ 31) {p1 p2 : Int32} {Q : Int32 → MM → Prop} (c1 : ¬ isWin p1 p2 60 → ∀ m', Mod m' g u K R Z Wh Ti Va Pa n ck kd rt hz al → mI m' 136 u = 1 → Fr (MS g u) m m' → Q 0 m') (c0 : ∀ f t, p1 = nI f → p2 = nI t → f < 2 ^ 31 → t < 2 ^ 31 → f ≤ t → 60 ∣ f → 60 ∣ t → ∀ m', Mod m' g u K R Z Wh Ti Va Pa n ck kd rt hz al → mI m' 136 u = 0 → Fr (MS g u) m m' → (Kn hz f t → Q 1 m') ∧ (¬ Kn hz f t → Q 0 m')) : wp_X6_isKnown u p1 p2 m Q := by
  unfold wp_X6_isKnown
  refine md_isWindow (len := 60) (by decide) (by decide) (by decide) (fun hw => ⟨fun z => absurd z (by decide), fun _ => ⟨h.1.1, md_yes h fun m1 h1 u1 f1 => ⟨fun y => absurd y (by decide), fun _ => ⟨h1.1.1, ?_⟩⟩⟩⟩) (fun hw => ⟨fun _ => ⟨h.1.1, md_no h (by decide) fun m' h' t' f' => ⟨fun _ => c1 hw m' h' t' (fr_u f'), fun y => absurd rfl y⟩⟩, fun y => absurd rfl y⟩)
  obtain ⟨f, t, rfl, rfl, w1, w2, w3, w4, w5⟩ := hw
  refine md_knows h1 hzb w1 w2 w3 w4 w5 fun m2 h2 u2 f2 => ?_
  obtain ⟨q1, q0⟩ := c0 f t rfl rfl w1 w2 w3 w4 w5 m2 h2 (u2.trans u1) ((fr_u f1).trans f2)
  exact ⟨fun k => ⟨fun y => absurd y (by decide), fun _ => q1 k⟩, fun k => ⟨fun _ => q0 k, fun y => absurd rfl y⟩⟩
theorem md_sumOf_loop (h : Mod m g u K R Z Wh Ti Va Pa n ck kd rt hz al) {i f t : Nat} (hin : i < n) (f31 : f < 2 ^ 31) (t31 : t < 2 ^ 31) {Q : Int64 → MM → Prop} : ∀ (r k : Nat) (acc : Int64), k + r = al.length → Q (acc + vSum ((seg f t (sub i (al.drop k))).map (·.2))) m → wp_X6_sumOf_6 Q (r + 1) u (nI i) (nI f) (nI t) acc (nI k) m := by
  have hlen := h.len
  have hn := h.n4
  obtain ⟨⟨a1, a2, a3, a4, a5, a6, a7, a8, a9, a10, a11⟩, ⟨b1, b2, b3, b4, b5, b6, b7, b8, b9, b10, b11, b12, b13, b14⟩, ⟨c1, c2, c3⟩, -⟩ := id h
  intro r
  induction r with
  | zero =>
    intro k acc hk hq
    have ek : k = al.length := by omega
    unfold wp_X6_sumOf_6
    rw [a4, ek]
    refine ⟨a1, fun _ => ?_, fun z => absurd (Int32.le_refl _) z⟩
    rw [ek, List.drop_eq_nil_of_le (Nat.le_refl _), show vSum ((seg f t (sub i ([] : List AT))).map (·.2)) = 0 from rfl, Int64.add_zero] at hq
    exact hq
  | succ r ih =>
    intro k acc hk hq
    have hkl : k < al.length := by omega
    obtain ⟨a, ha, hd, hm⟩ := h.get hkl
    obtain ⟨s1, s2⟩ := h.small a hm
    obtain ⟨v1, v2, v3⟩ := h.at ha
    have hv : vp_in (nI k) 10300 := vp_in_nI (by omega) (by decide)
    unfold wp_X6_sumOf_6
    rw [a4, nI_1, Int64.add_zero]
    refine ⟨a1, fun z => absurd ((nI_leI (by omega) (by omega)).mp z) (by omega), fun _ => ⟨a1, Wh, a8, b7, by rw [b8]; exact hv, ?_⟩⟩
    rw [nI_clamp (by omega), v1]
    refine ⟨fun y x10 e10 x11 e11 => ?_, fun y => ⟨a1, Ti, a9, b9, by rw [b10]; exact hv, ?_⟩⟩
    · rw [e10, e11]
      refine ih (k + 1) acc (by omega) ?_
      rw [hd, sub_cons_ne (fun z => y (by rw [z]))] at hq
      exact hq
    · have hai : a.1 = i := (nI_eq (by omega) (by omega)).mp y
      rw [hd, sub_cons_eq hai] at hq
      have out : ¬ (f ≤ a.2.1 ∧ a.2.1 < t) → wp_X6_sumOf_6 Q (r + 1) u (nI i) (nI f) (nI t) acc (nI (k + 1)) m := fun w => by
        rw [seg_out w] at hq
        exact ih (k + 1) acc (by omega) hq
      rw [v2]
      refine ⟨fun y2 x17 e17 x18 e18 => ?_, fun y2 => ⟨a1, Ti, a9, b9, by rw [b10]; exact hv, ?_⟩⟩
      · rw [e17, e18]
        have := (nI_ltI (by omega) f31).mp y2
        exact out fun w => by omega
      · rw [v2]
        have y3 : f ≤ a.2.1 := by
          rcases Nat.lt_or_ge a.2.1 f with q | q
          · exact absurd ((nI_ltI (by omega) f31).mpr q) y2
          · exact q
        refine ⟨fun y4 x24 e24 x25 e25 => ?_, fun y4 => ⟨a1, Va, a10, b11, by rw [b12]; exact hv, fun x30 e30 x31 e31 => ?_⟩⟩
        · rw [e24, e25]
          have := (nI_leI t31 (by omega)).mp y4
          exact out fun w => by omega
        · have y5 : a.2.1 < t := by
            rcases Nat.lt_or_ge a.2.1 t with q | q
            · exact q
            · exact absurd ((nI_leI t31 (by omega)).mpr q) y4
          rw [v3] at e30
          rw [e30, e31]
          refine ih (k + 1) _ (by omega) ?_
          rw [seg_in y3 y5, List.map_cons, vSum_cons, ← Int64.add_assoc] at hq
          exact hq
theorem md_sumOf (h : Mod m g u K R Z Wh Ti Va Pa n ck kd rt hz al) {i f t : Nat} (hin : i < n) (f31 : f < 2 ^ 31) (t31 : t < 2 ^ 31) {Q : Int64 → MM → Prop} (hq : Q (vSum ((seg f t (sub i al)).map (·.2))) m) : wp_X6_sumOf u (nI i) (nI f) (nI t) m Q := by
  unfold wp_X6_sumOf
  intro x1 e1 x2 e2
  rw [e1, e2]
  refine ⟨_, md_sumOf_loop h hin f31 t31 al.length 0 0 (Nat.zero_add _) ?_⟩
  rw [List.drop_zero, Int64.zero_add]
  exact hq
theorem md_total (h : Mod m g u K R Z Wh Ti Va Pa n ck kd rt hz al) (hzb : ∀ i, i ≤ 3 → hz i < 2 ^ 31) {p1 p2 p3 : Int32} {Q : Int64 → MM → Prop} (c1 : (p1 < 0 ∨ ¬ p1 < nI n) → ∀ m', Mod m' g u K R Z Wh Ti Va Pa n ck kd rt hz al → mI m' 136 u = 1 → Fr (MS g u) m m' → Q 0 m') (c2 : ∀ i, i < n → p1 = nI i → ¬ isWin p2 p3 60 → ∀ m', Mod m' g u K R Z Wh Ti Va Pa n ck kd rt hz al → mI m' 136 u = 2 → Fr (MS g u) m m' → Q 0 m') (c3 : ∀ i f t, i < n → p1 = nI i → p2 = nI f → p3 = nI t → f < 2 ^ 31 → t < 2 ^ 31 → f ≤ t → 60 ∣ f → 60 ∣ t → ¬ Kn hz f t → ∀ m', Mod m' g u K R Z Wh Ti Va Pa n ck kd rt hz al → mI m' 136 u = 3 → Fr (MS g u) m m' → Q 0 m') (c0 : ∀ i f t, i < n → p1 = nI i → p2 = nI f → p3 = nI t → f < 2 ^ 31 → t < 2 ^ 31 → f ≤ t → 60 ∣ f → 60 ∣ t → Kn hz f t → ∀ m', Mod m' g u K R Z Wh Ti Va Pa n ck kd rt hz al → mI m' 136 u = 0 → Fr (MS g u) m m' → Q (vSum ((seg f t (sub i al)).map (·.2))) m') : wp_X6_total u p1 p2 p3 m Q := by
  unfold wp_X6_total
  refine ⟨h.1.1, md_isSeries h (fun i hin e => ⟨fun _ => ?_, fun z => absurd z (by decide)⟩) (fun z => ⟨fun y => absurd rfl y, fun _ => ⟨h.1.1, md_no h (by decide) fun m' h' t' f' => ⟨fun _ => c1 z m' h' t' (fr_u f'), fun y => absurd rfl y⟩⟩⟩)⟩
  refine md_isWindow (len := 60) (by decide) (by decide) (by decide) (fun hw => ⟨fun _ => ⟨h.1.1, ?_⟩, fun z => absurd z (by decide)⟩) (fun hw => ⟨fun y => absurd rfl y, fun _ => ⟨h.1.1, md_no h (by decide) fun m' h' t' f' => ⟨fun _ => c2 i hin e hw m' h' t' (fr_u f'), fun y => absurd rfl y⟩⟩⟩)
  obtain ⟨f, t, rfl, rfl, w1, w2, w3, w4, w5⟩ := hw
  rw [e]
  refine md_knows h hzb w1 w2 w3 w4 w5 fun m1 h1 u1 f1 => ⟨fun k => ⟨fun z => absurd z (by decide), fun _ => ⟨h1.1.1, md_yes h1 fun m2 h2 u2 f2 => ⟨fun y => absurd y (by decide), fun _ => ⟨h2.1.1, md_sumOf h2 hin w1 w2 ?_⟩⟩⟩⟩, fun k => ⟨fun _ => ⟨h1.1.1, md_no h1 (by decide) fun m2 h2 u2 f2 => ⟨fun _ => ?_, fun y => absurd rfl y⟩⟩, fun y => absurd rfl y⟩⟩
  · exact c0 i f t hin e rfl rfl w1 w2 w3 w4 w5 k m2 h2 u2 (f1.trans (fr_u f2))
  · exact c3 i f t hin e rfl rfl w1 w2 w3 w4 w5 k m2 h2 u2 (f1.trans (fr_u f2))
theorem md_totalByPoints (h : Mod m g u K R Z Wh Ti Va Pa n ck kd rt hz al) (hz0 : hz 0 < 2 ^ 31) {p1 p2 p3 : Int32} {Q : Int64 → MM → Prop} (c1 : (p1 < 0 ∨ ¬ p1 < nI n) → ∀ m', Mod m' g u K R Z Wh Ti Va Pa n ck kd rt hz al → mI m' 136 u = 1 → Fr (MS g u) m m' → Q 0 m') (c2 : ∀ i, i < n → p1 = nI i → ¬ isWin p2 p3 60 → ∀ m', Mod m' g u K R Z Wh Ti Va Pa n ck kd rt hz al → mI m' 136 u = 2 → Fr (MS g u) m m' → Q 0 m') (c3 : ∀ i f t, i < n → p1 = nI i → p2 = nI f → p3 = nI t → f < 2 ^ 31 → t < 2 ^ 31 → f ≤ t → 60 ∣ f → 60 ∣ t → f < hz 0 → ∀ m', Mod m' g u K R Z Wh Ti Va Pa n ck kd rt hz al → mI m' 136 u = 3 → Fr (MS g u) m m' → Q 0 m') (c0 : ∀ i f t, i < n → p1 = nI i → p2 = nI f → p3 = nI t → f < 2 ^ 31 → t < 2 ^ 31 → f ≤ t → 60 ∣ f → 60 ∣ t → hz 0 ≤ f → ∀ m', Mod m' g u K R Z Wh Ti Va Pa n ck kd rt hz al → mI m' 136 u = 0 → Fr (MS g u) m m' → Q (vSum ((seg f t (sub i al)).map (·.2))) m') : wp_X6_totalByPoints u p1 p2 p3 m Q := by
  unfold wp_X6_totalByPoints
  refine ⟨h.1.1, md_isSeries h (fun i hin e => ⟨fun _ => ?_, fun z => absurd z (by decide)⟩) (fun z => ⟨fun y => absurd rfl y, fun _ => ⟨h.1.1, md_no h (by decide) fun m' h' t' f' => ⟨fun _ => c1 z m' h' t' (fr_u f'), fun y => absurd rfl y⟩⟩⟩)⟩
  refine md_isWindow (len := 60) (by decide) (by decide) (by decide) (fun hw => ⟨fun _ => ⟨h.1.1, ?_⟩, fun z => absurd z (by decide)⟩) (fun hw => ⟨fun y => absurd rfl y, fun _ => ⟨h.1.1, md_no h (by decide) fun m' h' t' f' => ⟨fun _ => c2 i hin e hw m' h' t' (fr_u f'), fun y => absurd rfl y⟩⟩⟩)
  obtain ⟨f, t, rfl, rfl, w1, w2, w3, w4, w5⟩ := hw
  obtain ⟨⟨a1, a2, a3, a4, a5, a6, a7, -⟩, ⟨b1, b2, b3, b4, b5, b6, -⟩, ⟨c1', -⟩, -⟩ := id h
  have z0 : (0 : Int32).toNatClampNeg = 0 := by decide
  rw [e]
  refine ⟨Z, a7, b5, by rw [b6]; exact vp_in_nI (n := 0) (by decide) (by decide), ?_⟩
  rw [z0, (c1' 0 (by decide)).2]
  refine ⟨fun y => ⟨a1, md_yes h fun m2 h2 u2 f2 => ⟨fun y => absurd y (by decide), fun _ => ⟨h2.1.1, md_sumOf h2 hin w1 w2 ?_⟩⟩⟩, fun y => ⟨a1, md_no h (by decide) fun m2 h2 u2 f2 => ⟨fun _ => ?_, fun y => absurd rfl y⟩⟩⟩
  · exact c0 i f t hin e rfl rfl w1 w2 w3 w4 w5 ((nI_leI hz0 w1).mp y) m2 h2 u2 (fr_u f2)
  · refine c3 i f t hin e rfl rfl w1 w2 w3 w4 w5 ?_ m2 h2 u2 (fr_u f2)
    rcases Nat.lt_or_ge f (hz 0) with q | q
    · exact q
    · exact absurd ((nI_leI hz0 w1).mpr q) y
theorem md_rises_loop (h : Mod m g u K R Z Wh Ti Va Pa n ck kd rt hz al) {i f t : Nat} (hin : i < n) (f31 : f < 2 ^ 31) (t31 : t < 2 ^ 31) (hpos : ∀ p ∈ sub i al, (0 : Int32) ≤ p.2) {Q : Int64 → MM → Prop} : ∀ (r k : Nat) (acc : Int64) (b : Int32) (o : Option Int32), k + r = al.length → (o = none ∧ b = -1 ∨ o = some b ∧ (0 : Int32) ≤ b) → Q (acc + vI o ((seg f t (sub i (al.drop k))).map (·.2))) m → wp_X6_rises_9 Q (r + 1) u (nI i) (nI f) (nI t) acc b (nI k) m := by
  have hlen := h.len
  have hn := h.n4
  obtain ⟨⟨a1, a2, a3, a4, a5, a6, a7, a8, a9, a10, a11⟩, ⟨b1, b2, b3, b4, b5, b6, b7, b8, b9, b10, b11, b12, b13, b14⟩, ⟨c1, c2, c3⟩, -⟩ := id h
  intro r
  induction r with
  | zero =>
    intro k acc b o hk ho hq
    have ek : k = al.length := by omega
    unfold wp_X6_rises_9
    rw [a4, ek]
    refine ⟨a1, fun _ => ?_, fun z => absurd (Int32.le_refl _) z⟩
    have e0 : vI o ((seg f t (sub i ([] : List AT))).map (·.2)) = 0 := by cases o <;> rfl
    rw [ek, List.drop_eq_nil_of_le (Nat.le_refl _), e0, Int64.add_zero] at hq
    exact hq
  | succ r ih =>
    intro k acc b o hk ho hq
    have hkl : k < al.length := by omega
    obtain ⟨a, ha, hd, hm⟩ := h.get hkl
    obtain ⟨s1, s2⟩ := h.small a hm
    obtain ⟨v1, v2, v3⟩ := h.at ha
    have hv : vp_in (nI k) 10300 := vp_in_nI (by omega) (by decide)
    unfold wp_X6_rises_9
    rw [a4, nI_1, Int64.add_zero]
    refine ⟨a1, fun z => absurd ((nI_leI (by omega) (by omega)).mp z) (by omega), fun _ => ⟨a1, Wh, a8, b7, by rw [b8]; exact hv, ?_⟩⟩
    rw [nI_clamp (by omega), v1]
    refine ⟨fun y x11 e11 => ?_, fun y => ⟨a1, Ti, a9, b9, by rw [b10]; exact hv, ?_⟩⟩
    · rw [e11]
      refine ih (k + 1) acc b o (by omega) ho ?_
      rw [hd, sub_cons_ne (fun z => y (by rw [z]))] at hq
      exact hq
    · have hai : a.1 = i := (nI_eq (by omega) (by omega)).mp y
      rw [hd, sub_cons_eq hai] at hq
      have hap : (0 : Int32) ≤ a.2.2 := hpos a.2 (mem_sub.mpr (by rw [← hai]; exact hm))
      have out : ¬ (f ≤ a.2.1 ∧ a.2.1 < t) → wp_X6_rises_9 Q (r + 1) u (nI i) (nI f) (nI t) acc b (nI (k + 1)) m := fun w => by
        rw [seg_out w] at hq
        exact ih (k + 1) acc b o (by omega) ho hq
      rw [v2]
      refine ⟨fun y2 x17 e17 => ?_, fun y2 => ⟨a1, Ti, a9, b9, by rw [b10]; exact hv, ?_⟩⟩
      · rw [e17]
        have := (nI_ltI (by omega) f31).mp y2
        exact out fun w => by omega
      · rw [v2]
        have y3 : f ≤ a.2.1 := by
          rcases Nat.lt_or_ge a.2.1 f with q | q
          · exact absurd ((nI_ltI (by omega) f31).mpr q) y2
          · exact q
        refine ⟨fun y4 x23 e23 => ?_, fun y4 => ?_⟩
        · rw [e23]
          have := (nI_leI t31 (by omega)).mp y4
          exact out fun w => by omega
        · have y5 : a.2.1 < t := by
            rcases Nat.lt_or_ge a.2.1 t with q | q
            · exact q
            · exact absurd ((nI_leI t31 (by omega)).mpr q) y4
          rw [seg_in y3 y5, List.map_cons] at hq
          have hvv : vp_in (nI k) (mN m Va) := by rw [b12]; exact hv
          refine ⟨fun z => ⟨a1, Va, a10, b11, hvv, ?_⟩, fun z x52 e52 => ⟨a1, Va, a10, b11, hvv, fun x57 e57 x58 e58 => ?_⟩⟩
          · rcases ho with ⟨-, eb⟩ | ⟨eo, hb⟩
            · exact absurd eb z
            · subst eo
              have hq : Q (acc + (stp b a.2.2 + vIncA a.2.2 ((seg f t (sub i (al.drop (k + 1)))).map (·.2)))) m := hq
              rw [← Int64.add_assoc] at hq
              rw [v3]
              refine ⟨fun w => ⟨a1, Va, a10, b11, hvv, fun x34 e34 => ⟨a1, Va, a10, b11, hvv, fun x39 e39 x40 e40 => ?_⟩⟩, fun w => ⟨a1, Va, a10, b11, hvv, fun x45 e45 => ⟨a1, Va, a10, b11, hvv, fun x50 e50 x51 e51 => ?_⟩⟩⟩
              · rw [v3] at e34 e39
                rw [e34, e39, e40]
                refine ih (k + 1) _ _ (some a.2.2) (by omega) (Or.inr ⟨rfl, hap⟩) ?_
                have es : stp b a.2.2 = (a.2.2 - b).toInt64 := by unfold stp; rw [if_neg (Int32.not_lt.mpr w)]
                rw [es] at hq
                exact hq
              · rw [v3] at e45 e50
                rw [e45, e50, e51]
                refine ih (k + 1) _ _ (some a.2.2) (by omega) (Or.inr ⟨rfl, hap⟩) ?_
                have es : stp b a.2.2 = a.2.2.toInt64 := by unfold stp; rw [if_pos (Int32.not_le.mp w)]
                rw [es] at hq
                exact hq
          · have eo : o = none := by
              rcases ho with ⟨eo, -⟩ | ⟨eo, hb⟩
              · exact eo
              · rw [z] at hb
                exact absurd hb (by decide)
            subst eo
            rw [v3] at e57
            rw [e52, e57, e58]
            exact ih (k + 1) _ _ (some a.2.2) (by omega) (Or.inr ⟨rfl, hap⟩) hq
theorem md_rises (h : Mod m g u K R Z Wh Ti Va Pa n ck kd rt hz al) {i f t : Nat} (hin : i < n) (f31 : f < 2 ^ 31) (t31 : t < 2 ^ 31) (hpos : ∀ p ∈ sub i al, (0 : Int32) ≤ p.2) {Q : Int64 → MM → Prop} (hq : Q (vInc ((seg f t (sub i al)).map (·.2))) m) : wp_X6_rises u (nI i) (nI f) (nI t) m Q := by
  unfold wp_X6_rises
  intro x1 e1 x2 e2 x3 e3
  rw [e1, e2, e3]
  refine ⟨_, md_rises_loop h hin f31 t31 hpos al.length 0 0 (-1) none (Nat.zero_add _) (Or.inl ⟨rfl, rfl⟩) ?_⟩
  rw [List.drop_zero, Int64.zero_add]
  exact hq
theorem md_increase (h : Mod m g u K R Z Wh Ti Va Pa n ck kd rt hz al) (hzb : ∀ i, i ≤ 3 → hz i < 2 ^ 31) (hkd : ∀ i, i < n → kd i ≤ 1) (hpos : ∀ i, i < n → kd i = 1 → ∀ p ∈ sub i al, (0 : Int32) ≤ p.2) {p1 p2 p3 : Int32} {Q : Int64 → MM → Prop} (c1 : (p1 < 0 ∨ ¬ p1 < nI n) → ∀ m', Mod m' g u K R Z Wh Ti Va Pa n ck kd rt hz al → mI m' 136 u = 1 → Fr (MS g u) m m' → Q 0 m') (c2 : ∀ i, i < n → p1 = nI i → ¬ isWin p2 p3 60 → ∀ m', Mod m' g u K R Z Wh Ti Va Pa n ck kd rt hz al → mI m' 136 u = 2 → Fr (MS g u) m m' → Q 0 m') (c3 : ∀ i f t, i < n → p1 = nI i → p2 = nI f → p3 = nI t → f < 2 ^ 31 → t < 2 ^ 31 → f ≤ t → 60 ∣ f → 60 ∣ t → ¬ (kd i = 1 ∧ Kn hz f t) → ∀ m', Mod m' g u K R Z Wh Ti Va Pa n ck kd rt hz al → mI m' 136 u = 3 → Fr (MS g u) m m' → Q 0 m') (c0 : ∀ i f t, i < n → p1 = nI i → p2 = nI f → p3 = nI t → f < 2 ^ 31 → t < 2 ^ 31 → f ≤ t → 60 ∣ f → 60 ∣ t → kd i = 1 → Kn hz f t → ∀ m', Mod m' g u K R Z Wh Ti Va Pa n ck kd rt hz al → mI m' 136 u = 0 → Fr (MS g u) m m' → Q (vInc ((seg f t (sub i al)).map (·.2))) m') : wp_X6_increase u p1 p2 p3 m Q := by
  unfold wp_X6_increase
  refine ⟨h.1.1, md_isSeries h (fun i hin e => ⟨fun _ => ?_, fun z => absurd z (by decide)⟩) (fun z => ⟨fun y => absurd rfl y, fun _ => ⟨h.1.1, md_no h (by decide) fun m' h' t' f' => ⟨fun _ => c1 z m' h' t' (fr_u f'), fun y => absurd rfl y⟩⟩⟩)⟩
  refine md_isWindow (len := 60) (by decide) (by decide) (by decide) (fun hw => ⟨fun _ => ?_, fun z => absurd z (by decide)⟩) (fun hw => ⟨fun y => absurd rfl y, fun _ => ⟨h.1.1, md_no h (by decide) fun m' h' t' f' => ⟨fun _ => c2 i hin e hw m' h' t' (fr_u f'), fun y => absurd rfl y⟩⟩⟩)
  obtain ⟨f, t, rfl, rfl, w1, w2, w3, w4, w5⟩ := hw
  have hn := h.n4
  have hk := hkd i hin
  obtain ⟨⟨a1, a2, a3, a4, a5, -⟩, ⟨b1, b2, -⟩, ⟨-, c2', -⟩, -⟩ := id h
  rw [e]
  refine ⟨a1, K, a5, b1, by rw [b2]; exact vp_in_nI (by omega) (by decide), ?_⟩
  rw [nI_clamp (by omega), c2' i hin]
  refine ⟨fun y => ⟨a1, md_no h (by decide) fun m2 h2 u2 f2 => ⟨fun _ => c3 i f t hin e rfl rfl w1 w2 w3 w4 w5 (fun z => y (by rw [z.1]; exact nI_11)) m2 h2 u2 (fr_u f2), fun y => absurd rfl y⟩⟩, fun y => ⟨a1, ?_⟩⟩
  have k1 : kd i = 1 := (nI_eq (a := kd i) (b := 1) (by omega) (by omega)).mp y
  refine md_knows h hzb w1 w2 w3 w4 w5 fun m1 h1 u1 f1 => ⟨fun k => ⟨fun _ => ⟨h1.1.1, md_yes h1 fun m2 h2 u2 f2 => ⟨fun y => absurd y (by decide), fun _ => ⟨h2.1.1, md_rises h2 hin w1 w2 (hpos i hin k1) ?_⟩⟩⟩, fun z => absurd z (by decide)⟩, fun k => ⟨fun y => absurd rfl y, fun _ => ⟨h1.1.1, md_no h1 (by decide) fun m2 h2 u2 f2 => ⟨fun _ => ?_, fun y => absurd rfl y⟩⟩⟩⟩
  · exact c0 i f t hin e rfl rfl w1 w2 w3 w4 w5 k1 k m2 h2 u2 (f1.trans (fr_u f2))
  · exact c3 i f t hin e rfl rfl w1 w2 w3 w4 w5 (fun z => k z.2) m2 h2 u2 (f1.trans (fr_u f2))
theorem md_ratePerHour (h : Mod m g u K R Z Wh Ti Va Pa n ck kd rt hz al) (hzb : ∀ i, i ≤ 3 → hz i < 2 ^ 31) (hkd : ∀ i, i < n → kd i ≤ 1) (hpos : ∀ i, i < n → kd i = 1 → ∀ p ∈ sub i al, (0 : Int32) ≤ p.2) (hv1 : ∀ x : Int64, vf_n64 (FP.dmul (FP.l2d x) (4660134898793709568 : UInt64))) (hv2 : ∀ (x : Int64) (d : Nat), 0 < d → d < 2 ^ 31 → vf_n64 (rat x d)) {p1 p2 p3 : Int32} {Q : UInt64 → MM → Prop} (c1 : (p1 < 0 ∨ ¬ p1 < nI n) → ∀ m' r, Mod m' g u K R Z Wh Ti Va Pa n ck kd rt hz al → mI m' 136 u = 1 → Fr (MS g u) m m' → Q r m') (c2 : ∀ i, i < n → p1 = nI i → (¬ isWin p2 p3 60 ∨ p2 = p3) → ∀ m' r, Mod m' g u K R Z Wh Ti Va Pa n ck kd rt hz al → mI m' 136 u = 2 → Fr (MS g u) m m' → Q r m') (c3 : ∀ i f t, i < n → p1 = nI i → p2 = nI f → p3 = nI t → f < 2 ^ 31 → t < 2 ^ 31 → f < t → 60 ∣ f → 60 ∣ t → ¬ (kd i = 1 ∧ Kn hz f t) → ∀ m' r, Mod m' g u K R Z Wh Ti Va Pa n ck kd rt hz al → mI m' 136 u = 3 → Fr (MS g u) m m' → Q r m') (c0 : ∀ i f t, i < n → p1 = nI i → p2 = nI f → p3 = nI t → f < 2 ^ 31 → t < 2 ^ 31 → f < t → 60 ∣ f → 60 ∣ t → kd i = 1 → Kn hz f t → ∀ m', Mod m' g u K R Z Wh Ti Va Pa n ck kd rt hz al → mI m' 136 u = 0 → Fr (MS g u) m m' → Q (rat (vInc ((seg f t (sub i al)).map (·.2))) (t - f)) m') : wp_X6_ratePerHour u p1 p2 p3 m Q := by
  unfold wp_X6_ratePerHour
  refine ⟨h.1.1, md_isSeries h (fun i hin e => ⟨fun _ => ?_, fun z => absurd z (by decide)⟩) (fun z => ⟨fun y => absurd rfl y, fun _ => ?_⟩)⟩
  · have no2 : (¬ isWin p2 p3 60 ∨ p2 = p3) → wp_X6_ratePerHour_28 Q u p1 p2 p3 u m := fun w => by
      unfold wp_X6_ratePerHour_28 wp_X6_ratePerHour_56
      exact ⟨h.1.1, md_no h (by decide) fun m' h' t' f' => ⟨fun _ => c2 i hin e w m' _ h' t' (fr_u f'), fun y => absurd rfl y⟩⟩
    refine md_isWindow (len := 60) (by decide) (by decide) (by decide) (fun hw => ⟨fun z => absurd z (by decide), fun _ => ⟨fun y => ?_, fun y => no2 (Or.inr y)⟩⟩) (fun hw => ⟨fun _ => no2 (Or.inl hw), fun y => absurd rfl y⟩)
    obtain ⟨f, t, rfl, rfl, w1, w2, w3, w4, w5⟩ := hw
    have hft : f < t := by
      rcases Nat.eq_or_lt_of_le w3 with z | z
      · exact absurd (congrArg nI z) y
      · exact z
    have hn := h.n4
    have hk := hkd i hin
    obtain ⟨⟨a1, a2, a3, a4, a5, -⟩, ⟨b1, b2, -⟩, ⟨-, c2', -⟩, -⟩ := id h
    have no3 : ∀ m1, Mod m1 g u K R Z Wh Ti Va Pa n ck kd rt hz al → Fr (MS g u) m m1 → ¬ (kd i = 1 ∧ Kn hz f t) → wp_X6_ratePerHour_51 Q u p1 (nI f) (nI t) u m1 := fun m1 h1 f1 w => by
      unfold wp_X6_ratePerHour_51 wp_X6_ratePerHour_56
      exact ⟨h1.1.1, md_no h1 (by decide) fun m' h' t' f' => ⟨fun _ => c3 i f t hin e rfl rfl w1 w2 hft w4 w5 w m' _ h' t' (f1.trans (fr_u f')), fun y => absurd rfl y⟩⟩
    refine ⟨a1, K, a5, b1, by rw [e, b2]; exact vp_in_nI (by omega) (by decide), ?_⟩
    rw [show (p1.toNatClampNeg) = i by rw [e]; exact nI_clamp (by omega), c2' i hin]
    refine ⟨fun z => no3 m h (Fr.refl _ _) (fun q => z (by rw [q.1]; exact nI_11)), fun z => ⟨a1, ?_⟩⟩
    have k1 : kd i = 1 := (nI_eq (a := kd i) (b := 1) (by omega) (by omega)).mp z
    refine md_knows h hzb w1 w2 w3 w4 w5 fun m1 h1 u1 f1 => ⟨fun k => ⟨fun _ => ?_, fun z => absurd z (by decide)⟩, fun k => ⟨fun y => absurd rfl y, fun _ => no3 m1 h1 f1 (fun q => k q.2)⟩⟩
    unfold wp_X6_ratePerHour_56
    refine ⟨h1.1.1, md_yes h1 fun m2 h2 u2 f2 => ⟨fun y => absurd y (by decide), fun _ => ⟨h2.1.1, ?_⟩⟩⟩
    rw [e]
    refine md_rises h2 hin w1 w2 (hpos i hin k1) ?_
    rw [pk_sub w3]
    exact ⟨hv1 _, hv2 _ _ (by omega) (by omega), c0 i f t hin e rfl rfl w1 w2 hft w4 w5 k1 k m2 h2 u2 (f1.trans (fr_u f2))⟩
  · unfold wp_X6_ratePerHour_56
    exact ⟨h.1.1, md_no h (by decide) fun m' h' t' f' => ⟨fun _ => c1 z m' _ h' t' (fr_u f'), fun y => absurd rfl y⟩⟩
end
