/-! THE MODEL'S GAPS AND WHAT IT TELLS OF A ROLLUP -/
section
variable {m : MM} {g : Nat → Nat} {u K R Z Wh Ti Va Pa n ck : Nat} {kd rt hz : Nat → Nat} {al : List AT}
/-- the rows of a tier that begin from a up to b -/
def inW (a b : Nat) (l : List Nat) : List Nat := l.filter (fun x => decide (a ≤ x ∧ x < b))
theorem inW_gk {t a b : Nat} (ht : t ≠ 0) (P : List (Nat × Int32)) : (inW a b (evs hz t none P)).length = (hi kg a (lo kg b (gk (ln t) (hz t) P))).length := by
  rw [evs_none]
  unfold rowT inW hi lo
  rw [if_neg ht, List.filter_map, List.length_map, List.filter_filter]
  congr 1
  refine List.filter_congr fun c _ => ?_
  rw [← Bool.decide_and]
  rfl
theorem sub_one (acc : Int32) (c : Nat) : acc - nI (c + 1) = acc - 1 - nI c := by
  rw [Int32.sub_sub, show (1 : Int32) = nI 1 from nI_11.symm, nI_add, Nat.add_comm]
theorem md_gaps_loop (h : Mod m g u K R Z Wh Ti Va Pa n ck kd rt hz al) (hzb : ∀ i, i ≤ 3 → hz i < 2 ^ 31) {i t f e : Nat} (hin : i < n) (t1 : 1 ≤ t) (t3 : t ≤ 3) (f31 : f < 2 ^ 31) (e31 : e < 2 ^ 31) (hf : ln t ∣ f) (he : ln t ∣ e) {Q : Int32 → MM → Prop} : ∀ (r k : Nat) (acc : Int32), k + r = al.length → Q (acc - nI (inW f e (evs hz t (pvk al k i t) (sub i (al.drop k)))).length) m → wp_X6_gaps_98 Q (r + 1) u (nI i) (nI t) (nI e) (nI f) acc (nI k) m := by
  have hlen := h.len
  have hn := h.n4
  have t0 : t ≠ 0 := by omega
  obtain ⟨⟨a1, a2, a3, a4, a5, a6, a7, a8, a9, a10, a11⟩, ⟨b1, b2, b3, b4, b5, b6, b7, b8, b9, b10, b11, b12, b13, b14⟩, ⟨c1, c2, c3⟩, -⟩ := id h
  intro r
  induction r with
  | zero =>
    intro k acc hk hq
    have ek : k = al.length := by omega
    unfold wp_X6_gaps_98
    rw [a4, ek]
    refine ⟨a1, fun _ => ?_, fun z => absurd (Int32.le_refl _) z⟩
    rw [ek, List.drop_eq_nil_of_le (Nat.le_refl _), show sub i ([] : List AT) = [] from rfl, evs_nil, show (inW f e []).length = 0 from rfl, nI_0, Int32.sub_zero] at hq
    exact hq
  | succ r ih =>
    intro k acc hk hq
    have hkl : k < al.length := by omega
    obtain ⟨a, ha, hd, hm⟩ := h.get hkl
    obtain ⟨s1, s2⟩ := h.small a hm
    obtain ⟨v1, v2, v3⟩ := h.at ha
    have hv : vp_in (nI k) 10300 := vp_in_nI (by omega) (by decide)
    have other : ¬ nI a.1 = nI i → wp_X6_gaps_98 Q (r + 1) u (nI i) (nI t) (nI e) (nI f) acc (nI (k + 1)) m := fun q => by
      have hne : a.1 ≠ i := fun z => q (by rw [z])
      refine ih (k + 1) acc (by omega) ?_
      rw [hd, sub_cons_ne hne, pvk_skip h.srt (fun b hb => (h.small b hb).2) ha hne] at hq
      rw [pvk_ne ha hne]
      exact hq
    unfold wp_X6_gaps_98
    rw [a4, nI_1, Int32.sub_zero]
    refine ⟨a1, fun z => absurd ((nI_leI (by omega) (by omega)).mp z) (by omega), fun _ => ⟨a1, Wh, a8, b7, by rw [b8]; exact hv, ?_⟩⟩
    rw [nI_clamp (by omega), v1]
    refine ⟨fun y x29 e29 x30 e30 => by rw [e29, e30]; exact other y, fun y => ⟨fun z => absurd z (nI_ne0 (by omega) (by omega)), fun _ => ⟨a1, md_begins h hzb ha t3 (fun z => ⟨fun w => absurd w (by decide), fun _ => ⟨a1, Ti, a9, b9, by rw [b10]; exact hv, ?_⟩⟩) (fun z => ⟨fun _ x38 e38 x39 e39 => ?_, fun w => absurd rfl w⟩)⟩⟩⟩
    · have hai : a.1 = i := (nI_eq (by omega) (by omega)).mp y
      rw [hai] at z
      rw [hd, sub_cons_eq hai, evs_yes _ z] at hq
      have hev : evv t a.2 = bg (ln t) a.2.1 := if_neg t0
      rw [hev] at hq
      have l1 := bg_lt_iff (t := a.2.1) (ln_pos t) hf
      have l2 := bg_lt_iff (t := a.2.1) (ln_pos t) he
      have out : ¬ (f ≤ a.2.1 ∧ a.2.1 < e) → wp_X6_gaps_98 Q (r + 1) u (nI i) (nI t) (nI e) (nI f) acc (nI (k + 1)) m := fun w => by
        refine ih (k + 1) acc (by omega) ?_
        rw [pvk_eq ha hai]
        unfold inW at hq ⊢
        rw [List.filter_cons, if_neg (by rw [decide_eq_true_iff]; omega)] at hq
        exact hq
      rw [v2]
      refine ⟨fun y2 x45 e45 x46 e46 => ?_, fun y2 => ⟨a1, Ti, a9, b9, by rw [b10]; exact hv, ?_⟩⟩
      · rw [e45, e46]
        have := (nI_ltI (by omega) f31).mp y2
        exact out fun w => by omega
      · rw [v2]
        have y3 : f ≤ a.2.1 := by
          rcases Nat.lt_or_ge a.2.1 f with q | q
          · exact absurd ((nI_ltI (by omega) f31).mpr q) y2
          · exact q
        refine ⟨fun y4 x52 e52 x53 e53 => ?_, fun y4 x54 e54 x55 e55 => ?_⟩
        · rw [e52, e53]
          have := (nI_leI e31 (by omega)).mp y4
          exact out fun w => by omega
        · have y5 : a.2.1 < e := by
            rcases Nat.lt_or_ge a.2.1 e with q | q
            · exact q
            · exact absurd ((nI_leI e31 (by omega)).mpr q) y4
          rw [e54, e55]
          refine ih (k + 1) _ (by omega) ?_
          rw [pvk_eq ha hai]
          unfold inW at hq ⊢
          rw [List.filter_cons, if_pos (by rw [decide_eq_true_iff]; omega), List.length_cons, sub_one] at hq
          exact hq
    · have hai : a.1 = i := (nI_eq (by omega) (by omega)).mp y
      rw [hai] at z
      rw [e38, e39]
      refine ih (k + 1) acc (by omega) ?_
      rw [hd, sub_cons_eq hai, evs_no _ z] at hq
      rw [pvk_eq ha hai]
      exact hq
theorem md_gaps (h : Mod m g u K R Z Wh Ti Va Pa n ck kd rt hz al) (hzb : ∀ i, i ≤ 3 → hz i < 2 ^ 31) {p1 p2 p3 p4 : Int32} {Q : Int32 → MM → Prop} (c1 : (p1 < 0 ∨ ¬ p1 < nI n) → ∀ m', Mod m' g u K R Z Wh Ti Va Pa n ck kd rt hz al → mI m' 136 u = 1 → Fr (MS g u) m m' → Q 0 m') (c2 : NoAsk n p1 p2 0 → ∀ m', Mod m' g u K R Z Wh Ti Va Pa n ck kd rt hz al → mI m' 136 u = 2 → Fr (MS g u) m m' → Q 0 m') (c2b : ∀ i t x, Ask n p1 p2 0 i t x → ¬ isWin p3 p4 (ln t) → ∀ m', Mod m' g u K R Z Wh Ti Va Pa n ck kd rt hz al → mI m' 136 u = 2 → Fr (MS g u) m m' → Q 0 m') (c0 : ∀ i t x f e, Ask n p1 p2 0 i t x → p3 = nI f → p4 = nI e → f < 2 ^ 31 → e < 2 ^ 31 → f ≤ e → ln t ∣ f → ln t ∣ e → ∀ m', Mod m' g u K R Z Wh Ti Va Pa n ck kd rt hz al → mI m' 136 u = 0 → Fr (MS g u) m m' → Q (gapsN hz (sub i al) t f e) m') : wp_X6_gaps u p1 p2 p3 p4 m Q := by
  unfold wp_X6_gaps
  have no : ∀ {c : Int32}, ¬ c = 0 → (∀ m', Mod m' g u K R Z Wh Ti Va Pa n ck kd rt hz al → mI m' 136 u = c → Fr (MS g u) m m' → Q 0 m') → wp_X6_gaps_38 Q u p1 p2 p3 p4 c u m := fun hc hq => by
    unfold wp_X6_gaps_38
    exact ⟨h.1.1, md_no h hc fun m' h' t' f' => ⟨fun y => absurd rfl y, fun _ => hq m' h' t' (fr_u f')⟩⟩
  refine ⟨h.1.1, md_isSeries h (fun i hin e => ⟨fun _ => ?_, fun z => absurd z (by decide)⟩) (fun z => ⟨fun y => absurd rfl y, fun _ => no (by decide) (c1 z)⟩)⟩
  refine md_isRolled (fun t et t1 t3 => ⟨fun z => absurd z (by decide), fun _ => ?_⟩) (fun z => ⟨fun _ => ?_, fun y => absurd rfl y⟩)
  · have ha : Ask n p1 p2 0 i t 0 := ⟨hin, e, et, t1, t3, nI_0.symm, by decide⟩
    have lp0 := ln_pos t
    have lp1 := ln_le t
    have t0 : t ≠ 0 := by omega
    rw [et]
    refine md_length t1 t3 ?_
    refine md_isWindow (len := ln t) lp0 (by omega) rfl (fun hw => ⟨fun _ => ?_, fun z => absurd z (by decide)⟩) (fun hw => ⟨fun y => absurd rfl y, fun _ => ?_⟩)
    · obtain ⟨f, e', rfl, rfl, w1, w2, w3, w4, w5⟩ := hw
      have hzt := hzb t t3
      have hbz := bg_le (ln t) (hz t)
      unfold wp_X6_gaps_38
      refine ⟨h.1.1, md_yes h fun m1 h1 u1 f1 => ⟨fun _ => ?_, fun y => absurd y (by decide)⟩⟩
      obtain ⟨⟨a1, a2, a3, a4, a5, a6, a7, -⟩, ⟨b1, b2, b3, b4, b5, b6, -⟩, ⟨c1', -⟩, -⟩ := id h1
      refine ⟨a1, Z, a7, b5, by rw [b6]; exact vp_in_nI (by omega) (by decide), ?_⟩
      rw [nI_clamp (by omega), (c1' t t3).2, e]
      have key := c0 i t 0 f e' ha rfl rfl w1 w2 w3 w4 w5 m1 h1 u1 (fr_u f1)
      unfold gapsN at key
      rw [← inW_gk t0] at key
      -- the count, from the greater of both
      have run : ∀ s, s = max f (bg (ln t) (hz t)) → wp_X6_gaps_70 Q u (nI i) (nI t) (nI e') (nI s) m1 := fun s es => by
        rw [← es] at key
        have hs31 : s < 2 ^ 31 := by omega
        have hds : ln t ∣ s := by
          rcases Nat.le_total f (bg (ln t) (hz t)) with q | q
          · rw [es, Nat.max_eq_right q]; exact bg_dvd _ _
          · rw [es, Nat.max_eq_left q]; exact w4
        have loop : ∀ c, c = (e' - s) / ln t → ∃ n9, wp_X6_gaps_98 Q n9 u (nI i) (nI t) (nI e') (nI s) (nI c) (nI 0) m1 := fun c ec => by
          refine ⟨_, md_gaps_loop h1 hzb hin t1 t3 hs31 w2 hds w5 al.length 0 (nI c) (Nat.zero_add _) ?_⟩
          rw [pvk_0, List.drop_zero, ec]
          exact key
        unfold wp_X6_gaps_70
        refine ⟨fun y x20 e20 x21 e21 => ?_, fun y => md_length t1 t3 ⟨nI_ne0 lp0 (by omega), fun x59 e59 x60 e60 => ?_⟩⟩
        · have y2 := (nI_leI w2 hs31).mp y
          rw [e20, e21]
          exact loop 0 (by rw [show e' - s = 0 by omega, Nat.zero_div])
        · have y2 : s < e' := by
            rcases Nat.lt_or_ge s e' with q | q
            · exact q
            · exact absurd ((nI_leI w2 hs31).mpr q) y
          rw [e59, e60, pk_sub (by omega), pk_div (by omega) lp0 (by omega)]
          exact loop _ rfl
      refine md_begin t1 t3 hzt ⟨fun y => ?_, fun y => ?_⟩
      · have y2 := (nI_leI (by omega) w1).mp y
        exact run f (Nat.max_eq_left y2).symm
      · have y2 : f < bg (ln t) (hz t) := by
          rcases Nat.lt_or_ge f (bg (ln t) (hz t)) with q | q
          · exact q
          · exact absurd ((nI_leI (by omega) w1).mpr q) y
        exact run _ (Nat.max_eq_right (by omega)).symm
    · unfold wp_X6_gaps_33
      have := no (c := 2) (by decide) (c2b i t 0 ha hw)
      rw [et] at this
      exact this
  · unfold wp_X6_gaps_33
    refine no (by decide) (c2 ⟨i, hin, e, fun t x q => ?_⟩)
    obtain ⟨q1, q2, q3, q4, q5, q6⟩ := q
    have := z t q3 q4
    omega
/-- what the model tells of the rollup that is asked for -/
theorem md_count (h : Mod m g u K R Z Wh Ti Va Pa n ck kd rt hz al) (hzb : ∀ i, i ≤ 3 → hz i < 2 ^ 31) {p1 p2 p3 : Int32} {Q : Int32 → MM → Prop} (c1 : (p1 < 0 ∨ ¬ p1 < nI n) → ∀ m', Mod m' g u K R Z Wh Ti Va Pa n ck kd rt hz al → mI m' 136 u = 1 → Fr (MS g u) m m' → Q 0 m') (c2 : NoAsk n p1 p2 p3 → ∀ m', Mod m' g u K R Z Wh Ti Va Pa n ck kd rt hz al → mI m' 136 u = 2 → Fr (MS g u) m m' → Q 0 m') (c3 : ∀ i t x, Ask n p1 p2 p3 i t x → rl hz (sub i al) t x = [] → ∀ m', Mod m' g u K R Z Wh Ti Va Pa n ck kd rt hz al → mI m' 136 u = 3 → Fr (MS g u) m m' → Q 0 m') (c0 : ∀ i t x, Ask n p1 p2 p3 i t x → rl hz (sub i al) t x ≠ [] → ∀ m', Mod m' g u K R Z Wh Ti Va Pa n ck kd rt hz al → mI m' 136 u = 0 → Fr (MS g u) m m' → Q (nI (rl hz (sub i al) t x).length) m') : wp_X6_count u p1 p2 p3 m Q := by
  unfold wp_X6_count
  refine ⟨h.1.1, md_isAsked h hzb (fun a m' h' t' f' => ⟨fun _ => c1 a m' h' t' f', fun y => absurd rfl y⟩) (fun a m' h' t' f' => ⟨fun _ => c2 a m' h' t' f', fun y => absurd rfl y⟩) (fun i t x a b m' h' t' f' => ⟨fun _ => c3 i t x a b m' h' t' f', fun y => absurd rfl y⟩) (fun i t x a b m' h' l' t' f' => ⟨fun y => absurd y (by decide), fun _ => ⟨h'.1.1, ?_⟩⟩)⟩
  rw [l'.1]
  exact c0 i t x a b m' h' t' f'
theorem md_sum (h : Mod m g u K R Z Wh Ti Va Pa n ck kd rt hz al) (hzb : ∀ i, i ≤ 3 → hz i < 2 ^ 31) {p1 p2 p3 : Int32} {Q : Int64 → MM → Prop} (c1 : (p1 < 0 ∨ ¬ p1 < nI n) → ∀ m', Mod m' g u K R Z Wh Ti Va Pa n ck kd rt hz al → mI m' 136 u = 1 → Fr (MS g u) m m' → Q 0 m') (c2 : NoAsk n p1 p2 p3 → ∀ m', Mod m' g u K R Z Wh Ti Va Pa n ck kd rt hz al → mI m' 136 u = 2 → Fr (MS g u) m m' → Q 0 m') (c3 : ∀ i t x, Ask n p1 p2 p3 i t x → rl hz (sub i al) t x = [] → ∀ m', Mod m' g u K R Z Wh Ti Va Pa n ck kd rt hz al → mI m' 136 u = 3 → Fr (MS g u) m m' → Q 0 m') (c0 : ∀ i t x, Ask n p1 p2 p3 i t x → rl hz (sub i al) t x ≠ [] → ∀ m', Mod m' g u K R Z Wh Ti Va Pa n ck kd rt hz al → mI m' 136 u = 0 → Fr (MS g u) m m' → Q (vSum (rl hz (sub i al) t x)) m') : wp_X6_sum u p1 p2 p3 m Q := by
  unfold wp_X6_sum
  refine ⟨h.1.1, md_isAsked h hzb (fun a m' h' t' f' => ⟨fun _ => c1 a m' h' t' f', fun y => absurd rfl y⟩) (fun a m' h' t' f' => ⟨fun _ => c2 a m' h' t' f', fun y => absurd rfl y⟩) (fun i t x a b m' h' t' f' => ⟨fun _ => c3 i t x a b m' h' t' f', fun y => absurd rfl y⟩) (fun i t x a b m' h' l' t' f' => ⟨fun y => absurd y (by decide), fun _ => ⟨h'.1.1, ?_⟩⟩)⟩
  rw [l'.2.1]
  exact c0 i t x a b m' h' t' f'
theorem md_least (h : Mod m g u K R Z Wh Ti Va Pa n ck kd rt hz al) (hzb : ∀ i, i ≤ 3 → hz i < 2 ^ 31) {p1 p2 p3 : Int32} {Q : Int32 → MM → Prop} (c1 : (p1 < 0 ∨ ¬ p1 < nI n) → ∀ m', Mod m' g u K R Z Wh Ti Va Pa n ck kd rt hz al → mI m' 136 u = 1 → Fr (MS g u) m m' → Q 0 m') (c2 : NoAsk n p1 p2 p3 → ∀ m', Mod m' g u K R Z Wh Ti Va Pa n ck kd rt hz al → mI m' 136 u = 2 → Fr (MS g u) m m' → Q 0 m') (c3 : ∀ i t x, Ask n p1 p2 p3 i t x → rl hz (sub i al) t x = [] → ∀ m', Mod m' g u K R Z Wh Ti Va Pa n ck kd rt hz al → mI m' 136 u = 3 → Fr (MS g u) m m' → Q 0 m') (c0 : ∀ i t x, Ask n p1 p2 p3 i t x → rl hz (sub i al) t x ≠ [] → ∀ m', Mod m' g u K R Z Wh Ti Va Pa n ck kd rt hz al → mI m' 136 u = 0 → Fr (MS g u) m m' → Q (vMin (rl hz (sub i al) t x)) m') : wp_X6_least u p1 p2 p3 m Q := by
  unfold wp_X6_least
  refine ⟨h.1.1, md_isAsked h hzb (fun a m' h' t' f' => ⟨fun _ => c1 a m' h' t' f', fun y => absurd rfl y⟩) (fun a m' h' t' f' => ⟨fun _ => c2 a m' h' t' f', fun y => absurd rfl y⟩) (fun i t x a b m' h' t' f' => ⟨fun _ => c3 i t x a b m' h' t' f', fun y => absurd rfl y⟩) (fun i t x a b m' h' l' t' f' => ⟨fun y => absurd y (by decide), fun _ => ⟨h'.1.1, ?_⟩⟩)⟩
  rw [(l'.2.2 b).1]
  exact c0 i t x a b m' h' t' f'
theorem md_greatest (h : Mod m g u K R Z Wh Ti Va Pa n ck kd rt hz al) (hzb : ∀ i, i ≤ 3 → hz i < 2 ^ 31) {p1 p2 p3 : Int32} {Q : Int32 → MM → Prop} (c1 : (p1 < 0 ∨ ¬ p1 < nI n) → ∀ m', Mod m' g u K R Z Wh Ti Va Pa n ck kd rt hz al → mI m' 136 u = 1 → Fr (MS g u) m m' → Q 0 m') (c2 : NoAsk n p1 p2 p3 → ∀ m', Mod m' g u K R Z Wh Ti Va Pa n ck kd rt hz al → mI m' 136 u = 2 → Fr (MS g u) m m' → Q 0 m') (c3 : ∀ i t x, Ask n p1 p2 p3 i t x → rl hz (sub i al) t x = [] → ∀ m', Mod m' g u K R Z Wh Ti Va Pa n ck kd rt hz al → mI m' 136 u = 3 → Fr (MS g u) m m' → Q 0 m') (c0 : ∀ i t x, Ask n p1 p2 p3 i t x → rl hz (sub i al) t x ≠ [] → ∀ m', Mod m' g u K R Z Wh Ti Va Pa n ck kd rt hz al → mI m' 136 u = 0 → Fr (MS g u) m m' → Q (vMax (rl hz (sub i al) t x)) m') : wp_X6_greatest u p1 p2 p3 m Q := by
  unfold wp_X6_greatest
  refine ⟨h.1.1, md_isAsked h hzb (fun a m' h' t' f' => ⟨fun _ => c1 a m' h' t' f', fun y => absurd rfl y⟩) (fun a m' h' t' f' => ⟨fun _ => c2 a m' h' t' f', fun y => absurd rfl y⟩) (fun i t x a b m' h' t' f' => ⟨fun _ => c3 i t x a b m' h' t' f', fun y => absurd rfl y⟩) (fun i t x a b m' h' l' t' f' => ⟨fun y => absurd y (by decide), fun _ => ⟨h'.1.1, ?_⟩⟩)⟩
  rw [(l'.2.2 b).2.1]
  exact c0 i t x a b m' h' t' f'
theorem md_first (h : Mod m g u K R Z Wh Ti Va Pa n ck kd rt hz al) (hzb : ∀ i, i ≤ 3 → hz i < 2 ^ 31) {p1 p2 p3 : Int32} {Q : Int32 → MM → Prop} (c1 : (p1 < 0 ∨ ¬ p1 < nI n) → ∀ m', Mod m' g u K R Z Wh Ti Va Pa n ck kd rt hz al → mI m' 136 u = 1 → Fr (MS g u) m m' → Q 0 m') (c2 : NoAsk n p1 p2 p3 → ∀ m', Mod m' g u K R Z Wh Ti Va Pa n ck kd rt hz al → mI m' 136 u = 2 → Fr (MS g u) m m' → Q 0 m') (c3 : ∀ i t x, Ask n p1 p2 p3 i t x → rl hz (sub i al) t x = [] → ∀ m', Mod m' g u K R Z Wh Ti Va Pa n ck kd rt hz al → mI m' 136 u = 3 → Fr (MS g u) m m' → Q 0 m') (c0 : ∀ i t x, Ask n p1 p2 p3 i t x → rl hz (sub i al) t x ≠ [] → ∀ m', Mod m' g u K R Z Wh Ti Va Pa n ck kd rt hz al → mI m' 136 u = 0 → Fr (MS g u) m m' → Q (vFst (rl hz (sub i al) t x)) m') : wp_X6_first u p1 p2 p3 m Q := by
  unfold wp_X6_first
  refine ⟨h.1.1, md_isAsked h hzb (fun a m' h' t' f' => ⟨fun _ => c1 a m' h' t' f', fun y => absurd rfl y⟩) (fun a m' h' t' f' => ⟨fun _ => c2 a m' h' t' f', fun y => absurd rfl y⟩) (fun i t x a b m' h' t' f' => ⟨fun _ => c3 i t x a b m' h' t' f', fun y => absurd rfl y⟩) (fun i t x a b m' h' l' t' f' => ⟨fun y => absurd y (by decide), fun _ => ⟨h'.1.1, ?_⟩⟩)⟩
  rw [(l'.2.2 b).2.2.1]
  exact c0 i t x a b m' h' t' f'
theorem md_last (h : Mod m g u K R Z Wh Ti Va Pa n ck kd rt hz al) (hzb : ∀ i, i ≤ 3 → hz i < 2 ^ 31) {p1 p2 p3 : Int32} {Q : Int32 → MM → Prop} (c1 : (p1 < 0 ∨ ¬ p1 < nI n) → ∀ m', Mod m' g u K R Z Wh Ti Va Pa n ck kd rt hz al → mI m' 136 u = 1 → Fr (MS g u) m m' → Q 0 m') (c2 : NoAsk n p1 p2 p3 → ∀ m', Mod m' g u K R Z Wh Ti Va Pa n ck kd rt hz al → mI m' 136 u = 2 → Fr (MS g u) m m' → Q 0 m') (c3 : ∀ i t x, Ask n p1 p2 p3 i t x → rl hz (sub i al) t x = [] → ∀ m', Mod m' g u K R Z Wh Ti Va Pa n ck kd rt hz al → mI m' 136 u = 3 → Fr (MS g u) m m' → Q 0 m') (c0 : ∀ i t x, Ask n p1 p2 p3 i t x → rl hz (sub i al) t x ≠ [] → ∀ m', Mod m' g u K R Z Wh Ti Va Pa n ck kd rt hz al → mI m' 136 u = 0 → Fr (MS g u) m m' → Q (vLst (rl hz (sub i al) t x)) m') : wp_X6_last u p1 p2 p3 m Q := by
  unfold wp_X6_last
  refine ⟨h.1.1, md_isAsked h hzb (fun a m' h' t' f' => ⟨fun _ => c1 a m' h' t' f', fun y => absurd rfl y⟩) (fun a m' h' t' f' => ⟨fun _ => c2 a m' h' t' f', fun y => absurd rfl y⟩) (fun i t x a b m' h' t' f' => ⟨fun _ => c3 i t x a b m' h' t' f', fun y => absurd rfl y⟩) (fun i t x a b m' h' l' t' f' => ⟨fun y => absurd y (by decide), fun _ => ⟨h'.1.1, ?_⟩⟩)⟩
  rw [(l'.2.2 b).2.2.2]
  exact c0 i t x a b m' h' t' f'
theorem md_average (h : Mod m g u K R Z Wh Ti Va Pa n ck kd rt hz al) (hzb : ∀ i, i ≤ 3 → hz i < 2 ^ 31) (hv : ∀ L : List Int32, L ≠ [] → L.length < 2 ^ 26 → vf_n64 (avg L)) {p1 p2 p3 : Int32} {Q : UInt64 → MM → Prop} (c1 : (p1 < 0 ∨ ¬ p1 < nI n) → ∀ m' r, Mod m' g u K R Z Wh Ti Va Pa n ck kd rt hz al → mI m' 136 u = 1 → Fr (MS g u) m m' → Q r m') (c2 : NoAsk n p1 p2 p3 → ∀ m' r, Mod m' g u K R Z Wh Ti Va Pa n ck kd rt hz al → mI m' 136 u = 2 → Fr (MS g u) m m' → Q r m') (c3 : ∀ i t x, Ask n p1 p2 p3 i t x → rl hz (sub i al) t x = [] → ∀ m' r, Mod m' g u K R Z Wh Ti Va Pa n ck kd rt hz al → mI m' 136 u = 3 → Fr (MS g u) m m' → Q r m') (c0 : ∀ i t x, Ask n p1 p2 p3 i t x → rl hz (sub i al) t x ≠ [] → ∀ m', Mod m' g u K R Z Wh Ti Va Pa n ck kd rt hz al → mI m' 136 u = 0 → Fr (MS g u) m m' → Q (avg (rl hz (sub i al) t x)) m') : wp_X6_average u p1 p2 p3 m Q := by
  unfold wp_X6_average
  refine ⟨h.1.1, md_isAsked h hzb (fun a m' h' t' f' => ⟨fun _ => c1 a m' _ h' t' f', fun y => absurd rfl y⟩) (fun a m' h' t' f' => ⟨fun _ => c2 a m' _ h' t' f', fun y => absurd rfl y⟩) (fun i t x a b m' h' t' f' => ⟨fun _ => c3 i t x a b m' _ h' t' f', fun y => absurd rfl y⟩) (fun i t x a b m' h' l' t' f' => ⟨fun y => absurd y (by decide), fun _ => ⟨h'.1.1, h'.1.1, ?_⟩⟩)⟩
  have hl := rl_len hz (sub i al) t x
  have hl2 := sub_len i al
  have hl3 := h.len
  rw [l'.1, l'.2.1]
  exact ⟨hv _ b (by omega), c0 i t x a b m' h' t' f'⟩
end
