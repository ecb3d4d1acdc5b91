/-! TIMEOF -/
/-- the times of the rows of a tier -/
def rowT (hz : Nat → Nat) (P : List (Nat × Int32)) (j : Nat) : List Nat := if j = 0 then (hi kf (hz 0) P).map kf else (gk (ln j) (hz j) P).map kg
theorem rowT_len (hz : Nat → Nat) (P : List (Nat × Int32)) (j : Nat) : (rowT hz P j).length = rws hz P j := by
  unfold rowT rws
  by_cases e : j = 0
  · rw [if_pos e, if_pos e, List.length_map]
  · rw [if_neg e, if_neg e, List.length_map]
section
variable {m : MM} {g : Nat → Nat} {o A R Z w su n ck : Nat} {sa kd rt hz : Nat → Nat} {Pl : Nat → List (Nat × Int32)} {Cs : Nat → Nat → Nat}
theorem sp_X5_timeOfPoint {p t v : Nat} {l : List (Nat × Int32)} (h : Pts m p t v l) {p2 : Int32} {Q : Int32 → MM → Prop} {X : Nat → MM → Prop} (hQ : ∀ k x, p2 = nI k → k < 2 ^ 31 → l[k]? = some x → Q (nI x.1) m) (hX : (∀ k, p2 = nI k → k < 2 ^ 31 → l.length ≤ k) → X 2 m) : wp_X5_timeOfPoint p p2 m Q X := by
  obtain ⟨a1, a2, a3, a4, a5, a6, a7, a8, a9, b1, b2, b3, b4⟩ := id h
  unfold wp_X5_timeOfPoint
  refine ⟨fun z => hX fun k ek hk => absurd z (by rw [ek]; exact nI_pos hk), fun z => ⟨a1, fun y => ?_, fun y => ?_⟩⟩
  · obtain ⟨k, hk, ek⟩ := nI_of z
    rw [b1, ek] at y
    have yk := (nI_ltI hk (by omega)).mp y
    obtain ⟨x, hx⟩ : ∃ x, l[k]? = some x := ⟨_, List.getElem?_eq_getElem yk⟩
    refine ⟨a1, t, a2, a5, ?_, ?_⟩
    · rw [a7, ek]
      exact vp_in_nI (by omega) (by omega)
    · rw [ek, nI_clamp hk, (b2 k x hx).1]
      exact hQ k x ek hk hx
  · refine hX fun k ek hk => ?_
    rw [b1, ek] at y
    rcases Nat.lt_or_ge k l.length with q | q
    · exact absurd ((nI_ltI hk (by omega)).mpr q) y
    · exact q
theorem sp_X5_timeOf (h : Sto m g o A R Z w su n ck sa kd rt hz Pl Cs) {p1 p2 p3 : Int32} {Q : Int32 → MM → Prop} {X : Nat → MM → Prop} (hX0 : (p1 < 0 ∨ ¬ p1 < nI n) → X 0 m) (hX1 : ∀ i, i < n → p1 = nI i → (∀ j, p2 = nI j → 3 < j ∨ 2 ^ 31 ≤ j) → X 1 m) (hX2 : ∀ i j, i < n → p1 = nI i → p2 = nI j → j ≤ 3 → (∀ k, p3 = nI k → k < 2 ^ 31 → rws hz (Pl i) j ≤ k) → X 2 m) (hQ : ∀ i j k y, i < n → p1 = nI i → p2 = nI j → j ≤ 3 → p3 = nI k → k < 2 ^ 31 → (rowT hz (Pl i) j)[k]? = some y → Q (nI y) m) : wp_X5_timeOf o p1 p2 p3 m Q X := by
  unfold wp_X5_timeOf
  refine ⟨h.1.1, sp_X5_seriesAt h (fun i hin e => ⟨sa i, rfl, ?_⟩) hX0⟩
  have hS := (h.2.2.2.2.2 i hin).2
  obtain ⟨p, t9, v, U, WW, T, B, s3, s4⟩ := id hS
  have hPt := s3.2.2.2.2.1
  refine sp_rng (a := 0) (b := 3) (by decide) (by decide) (by decide) (by decide) (fun j ej _ hj => ?_) (fun z => hX1 i hin e fun j ej => z j ej (Nat.zero_le _))
  rw [ej]
  refine ⟨fun q => ?_, fun q => ?_⟩
  · have j1 : 1 ≤ j := by
      rcases Nat.eq_zero_or_pos j with r | r
      · rw [r] at q
        exact absurd nI_0 q
      · exact r
    have hR := s3.2.2.2.2.2.1 j j1 hj
    have hcl := hR.len
    have hlen : (T j).length = rws hz (Pl i) j := by
      unfold rws
      rw [if_neg (by omega), ← s4 j j1 hj, List.length_map]
    refine ⟨s3.1, sp_X3_rollupsOf s3.1 s3.2.2.2.1 j1 hj ⟨U j, rfl, hR.1.1, sp_X2_rowOrNull hR (fun k x ek hx => ⟨fun z => (by cases z), fun y hy => ?_⟩) (fun hn => ⟨fun _ => hX2 i j hin e ej hj (fun k ek hk => by rw [← hlen]; exact hn k ek hk), fun y z => (by cases z)⟩)⟩⟩
    cases hy
    have hc := hR.2.1 x (List.mem_of_getElem? hx)
    have hkl := (List.getElem?_eq_some_iff.mp hx).1
    refine ⟨hc.2.1, ?_⟩
    rw [hc.1]
    refine hQ i j k x.2.1 hin e ej hj ek (by omega) ?_
    unfold rowT
    rw [if_neg (by omega), ← s4 j j1 hj, List.getElem?_map, List.getElem?_map, hx]
    rfl
  · have j0 : j = 0 := (nI_eq (a := j) (b := 0) (by omega) (by omega)).mp q
    subst j0
    have hlen : (hi kf (hz 0) (Pl i)).length = rws hz (Pl i) 0 := by
      unfold rws
      rw [if_pos rfl]
    refine ⟨s3.1, p, s3.2.2.1, sp_X5_timeOfPoint hPt (fun k x ek hk hx => ?_) (fun hn => hX2 i 0 hin e ej hj (fun k ek hk => by rw [← hlen]; exact hn k ek hk))⟩
    refine hQ i 0 k x.1 hin e ej hj ek hk ?_
    unfold rowT
    rw [if_pos rfl, List.getElem?_map, hx]
    rfl
end
/-! FILLED: the nearest rollups of a tier around the stretch of x -/
def er (hz : Nat → Nat) (P : List (Nat × Int32)) (t x : Nat) : Option (Nat × List Int32) := (lo kg (bg (ln t) x) (gk (ln t) (hz t) P)).getLast?
def lr (hz : Nat → Nat) (P : List (Nat × Int32)) (t x : Nat) : Option (Nat × List Int32) := (hi kg (bg (ln t) x) (gk (ln t) (hz t) P)).head?
/-- between two rollups -/
def btw (e l : Nat × List Int32) (b : Nat) : Int32 := vLst e.2 + (((vLst l.2 - vLst e.2).toInt64 * lN (b - e.1)) / lN (l.1 - e.1)).toInt32
theorem lo_last {T : List RT} {b k : Nat} (hS : Srt kt T) (hk : (lo kt b T).length = k + 1) : (lo kg b (T.map (·.2))).getLast? = (T[k]?).map (·.2) := by
  rw [← map_lo, List.getLast?_map, List.getLast?_eq_getElem?, hk]
  have e : T[k]? = (lo kt b T ++ hi kt b T)[k]? := by rw [hS.split b]
  rw [e, List.getElem?_append_left (by omega)]
  rfl
theorem lo_last0 {T : List RT} {b : Nat} (hk : (lo kt b T).length = 0) : (lo kg b (T.map (·.2))).getLast? = none := by
  rw [← map_lo, List.length_eq_zero_iff.mp hk]
  rfl
theorem hi_head {T : List RT} {b : Nat} (hS : Srt kt T) : (hi kg b (T.map (·.2))).head? = (T[(lo kt b T).length]?).map (·.2) := by
  rw [← map_hi, List.head?_map, List.head?_eq_getElem?]
  have e : T[(lo kt b T).length]? = (lo kt b T ++ hi kt b T)[(lo kt b T).length]? := by rw [hS.split b]
  rw [e, List.getElem?_append_right (Nat.le_refl _), Nat.sub_self]
theorem sp_X5_valueBetween {m : MM} {y z : RT} (hy : Cn m y) (hz : Cn m z) (y0 : y.2.2 ≠ []) (z0 : z.2.2 ≠ []) {b : Nat} (h1 : y.2.1 ≤ b) (h2 : y.2.1 < z.2.1) (h3 : z.2.1 < 2 ^ 31) (h4 : b < 2 ^ 31) {Q : Int32 → MM → Prop} (hq : Q (btw y.2 z.2 b) m) : wp_X5_valueBetween y.1 z.1 (nI b) m Q := by
  have ky := hy.2.1
  have kz := hz.2.1
  have ly := (hy.2.2.2.2.2 y0).2.2.2
  have lz := (hz.2.2.2.2.2 z0).2.2.2
  unfold wp_X5_valueBetween
  refine ⟨kz, ky, fun x3 e3 => ⟨kz, ky, fun x6 e6 => ⟨ky, ky, ?_⟩⟩⟩
  have e : (if (1 : Int32) < nI (z.2.1 - y.2.1) then nI (z.2.1 - y.2.1) else (1 : Int32)) = nI (z.2.1 - y.2.1) := by
    by_cases q : (1 : Int32) < nI (z.2.1 - y.2.1)
    · rw [if_pos q]
    · rw [if_neg q]
      have : ¬ 1 < z.2.1 - y.2.1 := fun z' => q ((nI_ltI (a := 1) (by omega) (by omega)).mpr z')
      rw [show z.2.1 - y.2.1 = 1 by omega]
      exact nI_11.symm
  rw [hy.1, hz.1, pk_sub (by omega), e, nI_l (by omega)] at e6
  rw [ly, lz] at e3
  rw [e3, e6, ly, hy.1, pk_sub h1, nI_l (n := b - y.2.1) (by omega)]
  refine ⟨fun q => ?_, ?_⟩
  · have := (pk_lEQ (a := z.2.1 - y.2.1) (b := 0) (by omega) (by omega)).mp q
    omega
  · rw [Int64.toInt32_add, Int32.toInt32_toInt64]
    exact hq
section
variable {m : MM} {g : Nat → Nat} {o A R Z w su n ck : Nat} {sa kd rt hz : Nat → Nat} {Pl : Nat → List (Nat × Int32)} {Cs : Nat → Nat → Nat}
theorem rl_at {m : MM} {P : List (Nat × Int32)} {hz : Nat → Nat} {t x u w' cap : Nat} {T : List RT} {B : List Nat} (hP : Srt kf P) (hR : Rw m u w' (ln t) cap T B) (hT : T.map (·.2) = gk (ln t) (hz t) P) {y : RT} (hy : T[(lo kt (bg (ln t) x) T).length]? = some y) (ey : y.2.1 = bg (ln t) x) : rl hz P t x ≠ [] ∧ y.2.2 = rl hz P t x := by
  have hm : (bg (ln t) x, y.2.2) ∈ gk (ln t) (hz t) P := by
    rw [← hT, ← ey]
    exact List.mem_map.mpr ⟨y, List.mem_of_getElem? hy, rfl⟩
  obtain ⟨g1, g2⟩ := (rl_of hP).mp hm
  exact ⟨by rw [← g2]; exact g1, g2⟩
theorem rl_not {m : MM} {P : List (Nat × Int32)} {hz : Nat → Nat} {t x u w' cap : Nat} {T : List RT} {B : List Nat} (hP : Srt kf P) (hR : Rw m u w' (ln t) cap T B) (hT : T.map (·.2) = gk (ln t) (hz t) P) (hn : ∀ y, T[(lo kt (bg (ln t) x) T).length]? = some y → y.2.1 ≠ bg (ln t) x) : rl hz P t x = [] := by
  refine Classical.byContradiction fun q => ?_
  have hm := (rl_of hP).mpr ⟨q, rfl⟩
  rw [← hT] at hm
  obtain ⟨y, hy, ey⟩ := List.mem_map.mp hm
  have e1 : y.2.1 = bg (ln t) x := congrArg Prod.fst ey
  have := hR.2.2.1.at hy
  rw [show kt y = bg (ln t) x from e1] at this
  exact hn y this e1
theorem sp_X5_filled (h : Sto m g o A R Z w su n ck sa kd rt hz Pl Cs) (hP : ∀ i, i < n → Srt kf (Pl i)) {p1 p2 p3 p4 : Int32} {Q : Int32 → MM → Prop} {X : Nat → MM → Prop} (hX0 : (p1 < 0 ∨ ¬ p1 < nI n) → X 0 m) (hX1 : NoAsk n p1 p2 p3 → X 1 m) (hX1b : ∀ i t x, Ask n p1 p2 p3 i t x → (∀ r, p4 = nI r → 2 < r ∨ 2 ^ 31 ≤ r) → X 1 m) (hQ : ∀ i t x r, Ask n p1 p2 p3 i t x → p4 = nI r → r ≤ 2 → (rl hz (Pl i) t x ≠ [] → Q (vLst (rl hz (Pl i) t x)) m) ∧ (rl hz (Pl i) t x = [] → r = 0 → Q 0 m) ∧ (rl hz (Pl i) t x = [] → r ≠ 0 → er hz (Pl i) t x = none → X 2 m) ∧ (rl hz (Pl i) t x = [] → r = 2 → lr hz (Pl i) t x = none → X 2 m) ∧ (rl hz (Pl i) t x = [] → r = 1 → ∀ e, er hz (Pl i) t x = some e → Q (vLst e.2) m) ∧ (rl hz (Pl i) t x = [] → r = 2 → ∀ e l, er hz (Pl i) t x = some e → lr hz (Pl i) t x = some l → Q (btw e l (bg (ln t) x)) m)) : wp_X5_filled o p1 p2 p3 p4 m Q X := by
  unfold wp_X5_filled
  refine ⟨h.1.1, sp_X5_rollupsAt h hX0 hX1 (fun i t x u w' cap T B ha hR hT => ⟨u, rfl, ?_⟩)⟩
  obtain ⟨q1, q2, q3, q4, q5, q6, q7⟩ := id ha
  refine sp_rng (a := 0) (b := 2) (by decide) (by decide) (by decide) (by decide) (fun r e4 _ hr => ?_) (fun z => hX1b i t x ha (fun r e4 => z r e4 (Nat.zero_le _)))
  obtain ⟨g1, g2, g3, g4, g5, g6⟩ := hQ i t x r ha e4 hr
  have hPi := hP i q1
  have hbl : bg (ln t) x < 2 ^ 31 := by
    have := bg_le (ln t) x
    omega
  have hlen := hR.len
  have hT2 : T.length < 2 ^ 31 := by omega
  have hL0 := lo_len kt (bg (ln t) x) T
  have hne := gk_ne hPi hT
  have c0 : p4 = 0 → r = 0 := fun z => (nI_eq (a := r) (b := 0) (by omega) (by omega)).mp (e4.symm.trans z)
  have c1 : p4 = 1 → r = 1 := fun z => (nI_eq (a := r) (b := 1) (by omega) (by omega)).mp (e4.symm.trans z)
  have c2 : p4 = 2 → r = 2 := fun z => (nI_eq (a := r) (b := 2) (by omega) (by omega)).mp (e4.symm.trans z)
  have d0 : ¬ p4 = 0 → r ≠ 0 := fun z q => z (by rw [e4, q]; exact nI_0)
  have d1 : ¬ p4 = 1 → r ≠ 1 := fun z q => z (by rw [e4, q]; exact nI_11)
  have d2 : ¬ p4 = 2 → r ≠ 2 := fun z q => z (by rw [e4, q]; rfl)
  have hlr := hi_head (b := bg (ln t) x) hR.2.2.1
  rw [hT] at hlr
  have hnx : ∀ j, nI (lo kt (bg (ln t) x) T).length = nI j → j < T.length → j = (lo kt (bg (ln t) x) T).length := fun j e hj => ((nI_eq (by omega) (by omega)).mp e).symm
  rw [q3, q6]
  refine sp_X5_beginOf q5 q7 ⟨hR.1.1, sp_X2_placeFrom hR _ ⟨hR.1.1, ?_⟩⟩
  rw [nI_clamp hbl]
  refine sp_X2_rowOrNull hR (fun j y ej hy => ⟨(fun z => by cases z), fun b15 e15 => ⟨hR.1.1, ?_⟩⟩) (fun hn => ⟨fun _ => ⟨hR.1.1, ?_⟩, (fun b15 z => by cases z)⟩)
  · have hjl := (List.getElem?_eq_some_iff.mp hy).1
    have hj : (lo kt (bg (ln t) x) T).length = j + 1 := by
      rcases Nat.eq_zero_or_pos (lo kt (bg (ln t) x) T).length with r0 | r0
      · rw [r0] at ej
        have ej2 := congrArg Int32.toInt ej
        rw [nI_toInt (by omega)] at ej2
        have : (nI 0 - (1 : Int32)).toInt = -1 := by decide
        omega
      · rw [show (1 : Int32) = nI 1 from nI_11.symm, pk_sub r0] at ej
        have := (nI_eq (by omega) (by omega)).mp ej
        omega
    have hE : er hz (Pl i) t x = some y.2 := by
      unfold er
      rw [← hT, lo_last hR.2.2.1 hj, hy]
      rfl
    have hyT := List.mem_of_getElem? hy
    have hyb : y.2.1 < bg (ln t) x := (hR.2.2.1.ix (bg (ln t) x) hy).mpr (by omega)
    have hyc := hR.2.1 y hyT
    have hyv := (hyc.2.2.2.2.2 (hne y hyT)).2.2.2
    have eb : b15 = y.1 := (Option.some.inj e15).symm
    subst eb
    refine sp_X2_rowOrNull hR (fun j2 y2 ej2 hy2 => ⟨(fun z => by cases z), fun b28 e28 => ?_⟩) (fun hn2 => ⟨fun _ => ?_, (fun b28 z => by cases z)⟩)
    · have hj2 := hnx j2 ej2 (List.getElem?_eq_some_iff.mp hy2).1
      rw [hj2] at hy2
      have eb2 : b28 = y2.1 := (Option.some.inj e28).symm
      subst eb2
      have hy2T := List.mem_of_getElem? hy2
      have hy2c := hR.2.1 y2 hy2T
      have hy2s := hR.2.2.2 y2 hy2T
      have hy2v := (hy2c.2.2.2.2.2 (hne y2 hy2T)).2.2.2
      have hy2b : ¬ y2.2.1 < bg (ln t) x := fun z => Nat.lt_irrefl _ ((hR.2.2.1.ix (bg (ln t) x) hy2).mp z)
      rw [hy2c.1]
      refine ⟨hy2c.2.1, fun z => ?_, fun z => ⟨hy2c.2.1, ?_⟩⟩
      · have hno : rl hz (Pl i) t x = [] := rl_not hPi hR hT (fun y' hy' e' => z (by
          rw [hy2] at hy'
          cases hy'
          rw [e']))
        have hL : lr hz (Pl i) t x = some y2.2 := by
          unfold lr
          rw [hlr, hy2]
          rfl
        have hvb : r = 2 → wp_X5_valueBetween y.1 y2.1 (nI (bg (ln t) x)) m (fun r38 m39 => Q r38 m39) := fun r2 => sp_X5_valueBetween hyc hy2c (hne y hyT) (hne y2 hy2T) (by omega) (by omega) hy2s hbl (g6 hno r2 _ _ hE hL)
        have hl1 : p4 = (1 : Int32) → mK m y.1 = 2 ∧ Q (mI m 26 y.1) m := fun z1 => ⟨hyc.2.1, by rw [hyv]; exact g5 hno (c1 z1) _ hE⟩
        exact ⟨fun z0 => ⟨fun z2 => ⟨fun z1 => by have := d0 z0; have := d1 z1; have := d2 z2; omega, hl1⟩, fun z2 => ⟨fun _ => hvb (c2 z2), hl1⟩⟩, fun z0 => g2 hno (c0 z0)⟩
      · obtain ⟨k1, k2⟩ := rl_at hPi hR hT hy2 ((nI_eq (by omega) hbl).mp z)
        rw [hy2v, k2]
        exact g1 k1
    · have hnone : T[(lo kt (bg (ln t) x) T).length]? = none := List.getElem?_eq_none (hn2 _ rfl (by omega))
      have hno : rl hz (Pl i) t x = [] := rl_not hPi hR hT (fun y' hy' => by rw [hnone] at hy'; cases hy')
      have hL : lr hz (Pl i) t x = none := by
        unfold lr
        rw [hlr, hnone]
        rfl
      exact ⟨fun z0 => ⟨fun z2 => ⟨fun z1 => by have := d0 z0; have := d1 z1; have := d2 z2; omega, fun z1 => ⟨hyc.2.1, by rw [hyv]; exact g5 hno (c1 z1) _ hE⟩⟩, fun z2 => g4 hno (c2 z2) hL⟩, fun z0 => g2 hno (c0 z0)⟩
  · have hl0 : (lo kt (bg (ln t) x) T).length = 0 := by
      rcases Nat.eq_zero_or_pos (lo kt (bg (ln t) x) T).length with r0 | r0
      · exact r0
      · have := hn ((lo kt (bg (ln t) x) T).length - 1) (by rw [show (1 : Int32) = nI 1 from nI_11.symm, pk_sub r0]) (by omega)
        omega
    have hE : er hz (Pl i) t x = none := by
      unfold er
      rw [← hT]
      exact lo_last0 hl0
    refine sp_X2_rowOrNull hR (fun j2 y2 ej2 hy2 => ⟨(fun z => by cases z), fun b28 e28 => ?_⟩) (fun hn2 => ⟨fun _ => ?_, (fun b28 z => by cases z)⟩)
    · have hj2 := hnx j2 ej2 (List.getElem?_eq_some_iff.mp hy2).1
      rw [hj2] at hy2
      have eb2 : b28 = y2.1 := (Option.some.inj e28).symm
      subst eb2
      have hy2T := List.mem_of_getElem? hy2
      have hy2c := hR.2.1 y2 hy2T
      have hy2s := hR.2.2.2 y2 hy2T
      have hy2v := (hy2c.2.2.2.2.2 (hne y2 hy2T)).2.2.2
      rw [hy2c.1]
      refine ⟨hy2c.2.1, fun z => ?_, fun z => ⟨hy2c.2.1, ?_⟩⟩
      · have hno : rl hz (Pl i) t x = [] := rl_not hPi hR hT (fun y' hy' e' => z (by
          rw [hy2] at hy'
          cases hy'
          rw [e']))
        exact ⟨fun z0 => g3 hno (d0 z0) hE, fun z0 => g2 hno (c0 z0)⟩
      · obtain ⟨k1, k2⟩ := rl_at hPi hR hT hy2 ((nI_eq (by omega) hbl).mp z)
        rw [hy2v, k2]
        exact g1 k1
    · have hnone : T[(lo kt (bg (ln t) x) T).length]? = none := List.getElem?_eq_none (hn2 _ rfl (by omega))
      have hno : rl hz (Pl i) t x = [] := rl_not hPi hR hT (fun y' hy' => by rw [hnone] at hy'; cases hy')
      exact ⟨fun z0 => g3 hno (d0 z0) hE, fun z0 => g2 hno (c0 z0)⟩
end
