/-! THE MODEL'S ROWS: which points are the first of a row -/
/-- where the groups of points begin, behind one that began at pv -/
def bl (len : Nat) : Option Nat → List (Nat × Int32) → List Nat
  | _, [] => []
  | pv, p :: l => if pv = some (bg len p.1) then bl len (some (bg len p.1)) l else bg len p.1 :: bl len (some (bg len p.1)) l
theorem bl_grp (len : Nat) : ∀ (l : List (Nat × Int32)) (pv : Option Nat), bl len pv l = match grp len l with
    | [] => []
    | g :: r => if pv = some g.1 then r.map kg else g.1 :: r.map kg
  | [], pv => by unfold bl grp; rfl
  | p :: l, pv => by
    have ih := bl_grp len l (some (bg len p.1))
    unfold bl grp
    cases e : grp len l with
    | nil =>
      rw [e] at ih
      rw [ih]
      rfl
    | cons g r =>
      rw [e] at ih
      simp only at ih
      by_cases q : g.1 = bg len p.1
      · rw [if_pos (by rw [q])] at ih
        rw [ih]
        simp only [q, if_true]
      · rw [if_neg (fun z => q (Option.some.inj z).symm)] at ih
        rw [ih]
        simp only [if_neg q, List.map_cons]
theorem bl_none (len : Nat) (l : List (Nat × Int32)) : bl len none l = (grp len l).map kg := by
  rw [bl_grp]
  cases grp len l with
  | nil => rfl
  | cons g r => rfl
/-- the rows of tier t that begin among points, behind one in the stretch pv -/
def evs (hz : Nat → Nat) (t : Nat) (pv : Option Nat) (P : List (Nat × Int32)) : List Nat := if t = 0 then (hi kf (hz 0) P).map kf else (bl (ln t) pv P).filter (fun b => decide (hz t < b + ln t))
theorem evs_none (hz : Nat → Nat) (t : Nat) (P : List (Nat × Int32)) : evs hz t none P = rowT hz P t := by
  unfold evs rowT
  by_cases e : t = 0
  · rw [if_pos e, if_pos e]
  · rw [if_neg e, if_neg e, bl_none, List.filter_map]
    rfl
theorem evs_nil (hz : Nat → Nat) (t : Nat) (pv : Option Nat) : evs hz t pv [] = [] := by
  unfold evs
  by_cases e : t = 0
  · rw [if_pos e]; rfl
  · rw [if_neg e]; rfl
/-- whether a point begins a row -/
def isE (hz : Nat → Nat) (t : Nat) (pv : Option Nat) (p : Nat × Int32) : Prop := (t = 0 → hz 0 ≤ p.1) ∧ (t ≠ 0 → hz t < bg (ln t) p.1 + ln t ∧ pv ≠ some (bg (ln t) p.1))
def evv (t : Nat) (p : Nat × Int32) : Nat := if t = 0 then p.1 else bg (ln t) p.1
theorem evs_yes {hz : Nat → Nat} {t : Nat} {pv : Option Nat} {p : Nat × Int32} (l : List (Nat × Int32)) (h : isE hz t pv p) : evs hz t pv (p :: l) = evv t p :: evs hz t (some (bg (ln t) p.1)) l := by
  unfold evs evv
  by_cases e : t = 0
  · rw [if_pos e, if_pos e, if_pos e, hi_cons_ge (h.1 e)]
    rfl
  · obtain ⟨h1, h2⟩ := h.2 e
    rw [if_neg e, if_neg e, if_neg e]
    conv => lhs; unfold bl
    rw [if_neg h2, List.filter_cons, if_pos (decide_eq_true h1)]
theorem evs_no {hz : Nat → Nat} {t : Nat} {pv : Option Nat} {p : Nat × Int32} (l : List (Nat × Int32)) (h : ¬ isE hz t pv p) : evs hz t pv (p :: l) = evs hz t (some (bg (ln t) p.1)) l := by
  unfold evs
  by_cases e : t = 0
  · have h1 : ¬ hz 0 ≤ p.1 := fun z => h ⟨fun _ => z, fun q => absurd e q⟩
    rw [if_pos e, if_pos e, hi_cons_lt (f := kf) (a := p) (by show p.1 < hz 0; omega)]
  · rw [if_neg e, if_neg e]
    conv => lhs; unfold bl
    by_cases q : pv = some (bg (ln t) p.1)
    · rw [if_pos q]
    · have h1 : ¬ hz t < bg (ln t) p.1 + ln t := fun z => h ⟨fun q => absurd q e, fun _ => ⟨z, q⟩⟩
      rw [if_neg q, List.filter_cons, if_neg (by rw [decide_eq_true_iff]; exact h1)]
/-- the stretch of the point before the place k, if it is of the series i -/
def pvk (al : List AT) (k i t : Nat) : Option Nat := if k = 0 then none else match al[k - 1]? with
  | some b => if b.1 = i then some (bg (ln t) b.2.1) else none
  | none => none
theorem pvk_0 (al : List AT) (i t : Nat) : pvk al 0 i t = none := if_pos rfl
theorem pvk_eq {al : List AT} {k i t : Nat} {a : AT} (h : al[k]? = some a) (e : a.1 = i) : pvk al (k + 1) i t = some (bg (ln t) a.2.1) := by
  unfold pvk
  rw [if_neg (Nat.succ_ne_zero k), Nat.add_sub_cancel, h]
  exact if_pos e
theorem pvk_ne {al : List AT} {k i t : Nat} {a : AT} (h : al[k]? = some a) (e : a.1 ≠ i) : pvk al (k + 1) i t = none := by
  unfold pvk
  rw [if_neg (Nat.succ_ne_zero k), Nat.add_sub_cancel, h]
  exact if_neg e
theorem pvk_skip {hz : Nat → Nat} {al : List AT} (hs : Srt ky al) (hm : ∀ a ∈ al, a.2.1 < 2147483648) {k i t : Nat} {a : AT} (h : al[k]? = some a) (e : a.1 ≠ i) : evs hz t (pvk al k i t) (sub i (al.drop (k + 1))) = evs hz t none (sub i (al.drop (k + 1))) := by
  by_cases q : pvk al k i t = none
  · rw [q]
  · have hk : k ≠ 0 := fun z => q (by rw [z]; exact pvk_0 al i t)
    have hkl := (List.getElem?_eq_some_iff.mp h).1
    obtain ⟨b, hb⟩ : ∃ b, al[k - 1]? = some b := ⟨_, List.getElem?_eq_getElem (by omega)⟩
    have hbi : b.1 = i := Classical.byContradiction fun z => q (by
      unfold pvk
      rw [if_neg hk, hb]
      exact if_neg z)
    have hba : ky b < ky a := (hs.ix (ky a) hb).mpr (by
      have := hs.at (List.mem_of_getElem? h)
      have e2 := nodup_of_Srt hs h this rfl
      omega)
    have hba : b.1 * 2147483648 + b.2.1 < a.1 * 2147483648 + a.2.1 := hba
    have hma := hm a (List.mem_of_getElem? h)
    have hia : i < a.1 := by omega
    have hnil : sub i (al.drop (k + 1)) = [] := by
      refine List.eq_nil_iff_forall_not_mem.mpr fun p hp => ?_
      have hp2 := mem_sub.mp hp
      obtain ⟨j, hj⟩ := List.getElem?_of_mem hp2
      rw [List.getElem?_drop] at hj
      have hpm := hm _ (List.mem_of_getElem? hj)
      have hlt : ky a < ky (i, p) := (hs.ix (ky (i, p)) h).mpr (by
        have := hs.at (List.mem_of_getElem? hj)
        have e2 := nodup_of_Srt hs hj this rfl
        omega)
      have hlt : a.1 * 2147483648 + a.2.1 < i * 2147483648 + p.1 := hlt
      have hpm : p.1 < 2147483648 := hpm
      omega
    rw [hnil, evs_nil, evs_nil]
section
variable {m : MM} {g : Nat → Nat} {u K R Z Wh Ti Va Pa n ck : Nat} {kd rt hz : Nat → Nat} {al : List AT}
theorem md_begins (h : Mod m g u K R Z Wh Ti Va Pa n ck kd rt hz al) (hzb : ∀ i, i ≤ 3 → hz i < 2 ^ 31) {k t : Nat} {a : AT} (hk : al[k]? = some a) (ht : t ≤ 3) {Q : Int32 → MM → Prop} (h1 : isE hz t (pvk al k a.1 t) a.2 → Q 1 m) (h0 : ¬ isE hz t (pvk al k a.1 t) a.2 → Q 0 m) : wp_X6_begins u (nI k) (nI t) m Q := by
  have hlen := h.len
  have hkl := (List.getElem?_eq_some_iff.mp hk).1
  obtain ⟨s1, s2⟩ := h.small a (List.mem_of_getElem? hk)
  have hn := h.n4
  obtain ⟨v1, v2, v3⟩ := h.at hk
  obtain ⟨⟨a1, a2, a3, a4, a5, a6, a7, a8, a9, a10, a11⟩, ⟨b1, b2, b3, b4, b5, b6, b7, b8, b9, b10, b11, b12, b13, b14⟩, ⟨c1, c2, c3⟩, -⟩ := id h
  have hv : vp_in (nI k) 10300 := vp_in_nI (by omega) (by decide)
  have z0 : (0 : Int32).toNatClampNeg = 0 := by decide
  unfold wp_X6_begins
  refine ⟨fun e => ?_, fun e => ?_⟩
  · have t0 : t ≠ 0 := fun z => e (by rw [z]; exact nI_0)
    refine ⟨a1, Ti, a9, b9, by rw [b10]; exact hv, ?_⟩
    rw [nI_clamp (by omega), v2]
    have hbl := bg_le (ln t) a.2.1
    refine md_begin (by omega) ht (by omega) ⟨a1, md_isGone h (b := bg (ln t) a.2.1) (by omega) ht (by omega) (hzb t ht) (nI_l (by omega)) (fun q => ⟨fun z => absurd rfl z, fun _ => ⟨fun z => ?_, fun z => ?_⟩⟩) (fun q => ⟨fun _ => h0 fun w => ?_, fun z => absurd z (by decide)⟩)⟩
    · have k0 : k = 0 := (nI_eq (a := k) (b := 0) (by omega) (by omega)).mp z
      refine h1 ⟨fun q => absurd q t0, fun _ => ⟨q, ?_⟩⟩
      rw [k0, pvk_0]
      exact fun w => nomatch w
    · have k0 : k ≠ 0 := fun w => z (by rw [w]; exact nI_0)
      have ek1 : nI k - (1 : Int32) = nI (k - 1) := pk_sub (a := k) (b := 1) (by omega)
      have hv1 : vp_in (nI (k - 1)) 10300 := vp_in_nI (by omega) (by decide)
      obtain ⟨b, hb, -, hbm⟩ := h.get (k := k - 1) (by omega)
      obtain ⟨w1, w2, w3⟩ := h.at hb
      obtain ⟨r1, r2⟩ := h.small b hbm
      have hpv : ∀ i, pvk al k i t = if b.1 = i then some (bg (ln t) b.2.1) else none := fun i => by
        unfold pvk
        rw [if_neg k0, hb]
      refine ⟨a1, Wh, a8, b7, by rw [ek1, b8]; exact hv1, a1, Wh, a8, b7, by rw [b8]; exact hv, ?_⟩
      rw [ek1, nI_clamp (n := k - 1) (by omega), w1, v1]
      refine ⟨fun y => h1 ⟨fun q => absurd q t0, fun _ => ⟨q, ?_⟩⟩, fun y => ⟨a1, Ti, a9, b9, by rw [b10]; exact hv1, ?_⟩⟩
      · rw [hpv, if_neg (fun z => y (by rw [z]))]
        exact fun w => nomatch w
      · have hab : b.1 = a.1 := (nI_eq (by omega) (by omega)).mp y
        have hbl2 := bg_le (ln t) b.2.1
        rw [w2]
        refine md_begin (by omega) ht (by omega) ⟨fun x => h0 fun w => ?_, fun x => h1 ⟨fun q => absurd q t0, fun _ => ⟨q, ?_⟩⟩⟩
        · refine (w.2 t0).2 ?_
          rw [hpv, if_pos hab, (nI_eq (by omega) (by omega)).mp x]
        · rw [hpv, if_pos hab]
          exact fun w => x (by rw [Option.some.inj w])
    · have := (w.2 t0).1
      omega
  · have t0 : t = 0 := (nI_eq (a := t) (b := 0) (by omega) (by omega)).mp e
    subst t0
    refine ⟨a1, Ti, a9, b9, by rw [b10]; exact hv, a1, Z, a7, b5, by rw [b6]; exact vp_in_nI (n := 0) (by decide) (by decide), ?_⟩
    rw [nI_clamp (by omega), v2, z0, (c1 0 (by decide)).2]
    have hz0 := hzb 0 (by decide)
    refine ⟨fun y => h0 fun w => ?_, fun y => h1 ⟨fun _ => ?_, fun q => absurd rfl q⟩⟩
    · have := (nI_ltI (by omega) hz0).mp y
      have := w.1 rfl
      omega
    · rcases Nat.lt_or_ge a.2.1 (hz 0) with q | q
      · exact absurd ((nI_ltI (by omega) hz0).mpr q) y
      · exact q
theorem md_rowsOf_loop (h : Mod m g u K R Z Wh Ti Va Pa n ck kd rt hz al) (hzb : ∀ i, i ≤ 3 → hz i < 2 ^ 31) {i t : Nat} (hin : i < n) (ht : t ≤ 3) {Q : Int32 → MM → Prop} : ∀ (r k acc : Nat), k + r = al.length → Q (nI (acc + (evs hz t (pvk al k i t) (sub i (al.drop k))).length)) m → wp_X6_rowsOf_5 Q (r + 1) u (nI i) (nI t) (nI acc) (nI k) m := by
  have hlen := h.len
  have hn := h.n4
  obtain ⟨⟨a1, a2, a3, a4, a5, a6, a7, a8, a9, a10, a11⟩, ⟨b1, b2, b3, b4, b5, b6, b7, b8, b9, b10, b11, b12, b13, b14⟩, ⟨c1, c2, c3⟩, -⟩ := id h
  intro r
  induction r with
  | zero =>
    intro k acc hk hq
    have ek : k = al.length := by omega
    unfold wp_X6_rowsOf_5
    rw [a4, ek]
    refine ⟨a1, fun _ => ?_, fun z => absurd (Int32.le_refl _) z⟩
    rw [ek, List.drop_eq_nil_of_le (Nat.le_refl _)] at hq
    rw [show sub i ([] : List AT) = [] from rfl, evs_nil] at hq
    exact hq
  | succ r ih =>
    intro k acc hk hq
    have hkl : k < al.length := by omega
    obtain ⟨a, ha, hd, hm⟩ := h.get hkl
    obtain ⟨s1, s2⟩ := h.small a hm
    obtain ⟨v1, v2, v3⟩ := h.at ha
    have hv : vp_in (nI k) 10300 := vp_in_nI (by omega) (by decide)
    unfold wp_X6_rowsOf_5
    rw [a4, nI_1, nI_1, Int32.add_zero]
    refine ⟨a1, fun z => absurd ((nI_leI (by omega) (by omega)).mp z) (by omega), fun _ => ⟨a1, Wh, a8, b7, by rw [b8]; exact hv, ?_⟩⟩
    rw [nI_clamp (by omega), v1]
    refine ⟨fun y x10 e10 x11 e11 => ?_, fun y => ⟨a1, md_begins h hzb ha ht (fun z => ⟨fun q => absurd q (by decide), fun _ x18 e18 x19 e19 => ?_⟩) (fun z => ⟨fun _ x16 e16 x17 e17 => ?_, fun q => absurd rfl q⟩)⟩⟩
    · have hne : a.1 ≠ i := fun z => y (by rw [z])
      rw [e10, e11]
      refine ih (k + 1) acc (by omega) ?_
      rw [hd, sub_cons_ne hne, pvk_skip h.srt (fun b hb => (h.small b hb).2) ha hne] at hq
      rw [pvk_ne ha hne]
      exact hq
    · have hai : a.1 = i := (nI_eq (by omega) (by omega)).mp y
      rw [hai] at z
      rw [e18, e19]
      refine ih (k + 1) (acc + 1) (by omega) ?_
      rw [hd, sub_cons_eq hai, evs_yes _ z, List.length_cons, ← Nat.add_assoc, Nat.add_right_comm] at hq
      rw [pvk_eq ha hai]
      exact hq
    · have hai : a.1 = i := (nI_eq (by omega) (by omega)).mp y
      rw [hai] at z
      rw [e16, e17]
      refine ih (k + 1) acc (by omega) ?_
      rw [hd, sub_cons_eq hai, evs_no _ z] at hq
      rw [pvk_eq ha hai]
      exact hq
theorem md_rowsOf (h : Mod m g u K R Z Wh Ti Va Pa n ck kd rt hz al) (hzb : ∀ i, i ≤ 3 → hz i < 2 ^ 31) {i t : Nat} (hin : i < n) (ht : t ≤ 3) {Q : Int32 → MM → Prop} (hq : Q (nI (rws hz (sub i al) t)) m) : wp_X6_rowsOf u (nI i) (nI t) m Q := by
  unfold wp_X6_rowsOf
  intro x1 e1 x2 e2
  rw [e1, e2]
  refine ⟨_, md_rowsOf_loop h hzb hin ht al.length 0 0 (Nat.zero_add _) ?_⟩
  rw [Nat.zero_add, pvk_0, List.drop_zero, evs_none, rowT_len]
  exact hq
theorem md_allRows_loop (h : Mod m g u K R Z Wh Ti Va Pa n ck kd rt hz al) (hzb : ∀ i, i ≤ 3 → hz i < 2 ^ 31) {Q : Int32 → MM → Prop} : ∀ (k j acc : Nat), j + k = n → Q (nI (acc + gone (fun i => all4 hz (sub i al)) k j)) m → wp_X6_allRows_4 Q (k + 1) u (nI acc) (nI j) m := by
  have hn := h.n4
  intro k
  induction k with
  | zero =>
    intro j acc hj hq
    unfold wp_X6_allRows_4
    rw [h.1.2.2.1]
    exact ⟨h.1.1, fun _ => hq, fun z => absurd (nI_le (by omega) (by omega)) z⟩
  | succ k ih =>
    intro j acc hj hq
    unfold wp_X6_allRows_4
    rw [h.1.2.2.1]
    refine ⟨h.1.1, fun z => absurd ((nI_leI (by omega) (by omega)).mp z) (by omega), fun _ => ⟨h.1.1, ?_⟩⟩
    refine md_rowsOf (t := 0) h hzb (by omega) (by decide) ⟨h.1.1, md_rowsOf (t := 1) h hzb (by omega) (by decide) ⟨h.1.1, md_rowsOf (t := 2) h hzb (by omega) (by decide) ⟨h.1.1, md_rowsOf (t := 3) h hzb (by omega) (by decide) (fun x17 e17 x18 e18 => ?_)⟩⟩⟩
    rw [e17, e18, nI_add, nI_add, nI_add, nI_add, nI_1]
    refine ih (j + 1) _ (by omega) ?_
    rw [show acc + gone (fun i => all4 hz (sub i al)) (k + 1) j = acc + all4 hz (sub j al) + gone (fun i => all4 hz (sub i al)) k (j + 1) from (Nat.add_assoc _ _ _).symm] at hq
    exact hq
theorem md_allRows (h : Mod m g u K R Z Wh Ti Va Pa n ck kd rt hz al) (hzb : ∀ i, i ≤ 3 → hz i < 2 ^ 31) {Q : Int32 → MM → Prop} (hq : Q (nI (gone (fun i => all4 hz (sub i al)) n 0)) m) : wp_X6_allRows u m Q := by
  unfold wp_X6_allRows
  intro x1 e1 x2 e2
  rw [e1, e2]
  refine ⟨_, md_allRows_loop h hzb n 0 0 (Nat.zero_add _) ?_⟩
  rw [Nat.zero_add]
  exact hq
theorem md_advance (h : Mod m g u K R Z Wh Ti Va Pa n ck kd rt hz al) (hck : ck + 1000000 < 2 ^ 30) (hrt : ∀ i, i ≤ 3 → rt i < 2 ^ 30) (hzb : ∀ i, i ≤ 3 → hz i < 2 ^ 30) {p1 : Int32} {Q : Int32 → MM → Prop} (c1 : (∀ s, p1 = nI s → 1 ≤ s → s ≤ 1000000 → False) → ∀ m', Mod m' g u K R Z Wh Ti Va Pa n ck kd rt hz al → mI m' 136 u = 1 → Fr (MS g u) m m' → Q 0 m') (c0 : ∀ s, p1 = nI s → 1 ≤ s → s ≤ 1000000 → ∀ m', Mod m' g u K R Z Wh Ti Va Pa n (ck + s) kd rt (hzE rt (ck + s) hz 4) al → mI m' 136 u = 0 → Fr (MS g u) m m' → Q (nI (gone (fun i => all4 hz (sub i al)) n 0) - nI (gone (fun i => all4 (hzE rt (ck + s) hz 4) (sub i al)) n 0)) m') : wp_X6_advance u p1 m Q := by
  unfold wp_X6_advance
  refine md_rng (a := 1) (b := 1000000) (by decide) (by decide) (by decide) (by decide) (fun s e s1 s2 => ⟨fun z => absurd z (by decide), fun _ => ⟨h.1.1, md_yes h fun m' h' t' f' => ⟨fun _ => ⟨h'.1.1, ?_⟩, fun y => absurd y (by decide)⟩⟩⟩) (fun z => ⟨fun _ => ⟨h.1.1, md_no h (by decide) fun m' h' t' f' => ⟨fun y => absurd rfl y, fun _ => c1 (fun s e s1 s2 => by
    have := z s e s1
    omega) m' h' t' (fr_u f')⟩⟩, fun y => absurd rfl y⟩)
  refine md_allRows h' (fun i hi => by have := hzb i hi; omega) ⟨h'.1.1, h'.1.1, fun m29 e29 => ?_⟩
  rw [h'.1.2.1, e, nI_add] at e29
  have h29 := h'.clk (ck' := ck + s)
  rw [← e29] at h29
  have f29 : Fr (MS g u) m' m29 := by rw [e29]; exact fr_u (Fr.sI _ _ _ _)
  refine ⟨h29.1.1, md_expire (by omega) hrt hzb h29 fun m32 h32 t32 f32 => ⟨h32.1.1, md_allRows h32 (fun i hi => ?_) ?_⟩⟩
  · have := hzE_lt30 (rt := rt) (ck := ck + s) (k := 4) (hzb i hi) (by omega)
    omega
  · refine c0 s e s1 s2 m32 h32 (t32.trans ?_) (((fr_u f').trans f29).trans f32)
    rw [e29, i_sI, if_neg (fun z => absurd z.1 (by decide))]
    exact t'
theorem md_rows (h : Mod m g u K R Z Wh Ti Va Pa n ck kd rt hz al) (hzb : ∀ i, i ≤ 3 → hz i < 2 ^ 31) {p1 p2 : Int32} {Q : Int32 → MM → Prop} (c1 : (p1 < 0 ∨ ¬ p1 < nI n) → ∀ m', Mod m' g u K R Z Wh Ti Va Pa n ck kd rt hz al → mI m' 136 u = 1 → Fr (MS g u) m m' → Q 0 m') (c2 : ∀ i, i < n → p1 = nI i → (∀ j, p2 = nI j → 3 < j ∨ 2 ^ 31 ≤ j) → ∀ m', Mod m' g u K R Z Wh Ti Va Pa n ck kd rt hz al → mI m' 136 u = 2 → Fr (MS g u) m m' → Q 0 m') (c0 : ∀ i j, i < n → p1 = nI i → p2 = nI j → j ≤ 3 → ∀ m', Mod m' g u K R Z Wh Ti Va Pa n ck kd rt hz al → mI m' 136 u = 0 → Fr (MS g u) m m' → Q (nI (rws hz (sub i al) j)) m') : wp_X6_rows u p1 p2 m Q := by
  unfold wp_X6_rows
  refine ⟨h.1.1, md_isSeries h (fun i hin e => ⟨fun _ => ?_, fun z => absurd z (by decide)⟩) (fun z => ⟨fun y => absurd rfl y, fun _ => ⟨h.1.1, md_no h (by decide) fun m' h' t' f' => ⟨fun _ => c1 z m' h' t' (fr_u f'), fun y => absurd rfl y⟩⟩⟩)⟩
  refine md_isTier (fun j ej hj => ⟨fun _ => ⟨h.1.1, md_yes h fun m' h' t' f' => ⟨fun y => absurd y (by decide), fun _ => ⟨h'.1.1, ?_⟩⟩⟩, fun z => absurd z (by decide)⟩) (fun z => ⟨fun y => absurd rfl y, fun _ => ⟨h.1.1, md_no h (by decide) fun m' h' t' f' => ⟨fun _ => c2 i hin e z m' h' t' (fr_u f'), fun y => absurd rfl y⟩⟩⟩)
  rw [e, ej]
  exact md_rowsOf h' hzb hin hj (c0 i j hin e ej hj m' h' t' (fr_u f'))
theorem md_timeOf_loop (h : Mod m g u K R Z Wh Ti Va Pa n ck kd rt hz al) (hzb : ∀ i, i ≤ 3 → hz i < 2 ^ 31) {i t y : Nat} (hin : i < n) (ht : t ≤ 3) {Q : Int32 → MM → Prop} (hq : Q (nI y) m) : ∀ (r k left : Nat), k + r = al.length → left < 2 ^ 31 → (evs hz t (pvk al k i t) (sub i (al.drop k)))[left]? = some y → wp_X6_timeOf_57 Q (r + 1) u (nI i) (nI t) (nI left) (nI k) m := by
  have hlen := h.len
  have hn := h.n4
  obtain ⟨⟨a1, a2, a3, a4, a5, a6, a7, a8, a9, a10, a11⟩, ⟨b1, b2, b3, b4, b5, b6, b7, b8, b9, b10, b11, b12, b13, b14⟩, ⟨c1, c2, c3⟩, -⟩ := id h
  intro r
  induction r with
  | zero =>
    intro k left hk hl hy
    rw [List.drop_eq_nil_of_le (by omega), show sub i ([] : List AT) = [] from rfl, evs_nil, List.getElem?_nil] at hy
    cases hy
  | succ r ih =>
    intro k left hk hl hy
    have hkl : k < al.length := by omega
    obtain ⟨a, ha, hd, hm⟩ := h.get hkl
    obtain ⟨s1, s2⟩ := h.small a hm
    obtain ⟨v1, v2, v3⟩ := h.at ha
    have hv : vp_in (nI k) 10300 := vp_in_nI (by omega) (by decide)
    have other : ¬ nI a.1 = nI i → wp_X6_timeOf_57 Q (r + 1) u (nI i) (nI t) (nI left) (nI (k + 1)) m := fun q => by
      have hne : a.1 ≠ i := fun z => q (by rw [z])
      refine ih (k + 1) left (by omega) hl ?_
      rw [hd, sub_cons_ne hne, pvk_skip h.srt (fun b hb => (h.small b hb).2) ha hne] at hy
      rw [pvk_ne ha hne]
      exact hy
    have noE : nI a.1 = nI i → ¬ isE hz t (pvk al k a.1 t) a.2 → wp_X6_timeOf_57 Q (r + 1) u (nI i) (nI t) (nI left) (nI (k + 1)) m := fun q z => by
      have hai : a.1 = i := (nI_eq (by omega) (by omega)).mp q
      rw [hai] at z
      refine ih (k + 1) left (by omega) hl ?_
      rw [hd, sub_cons_eq hai, evs_no _ z] at hy
      rw [pvk_eq ha hai]
      exact hy
    have e0 : nI left - (0 : Int32) = nI left := Int32.sub_zero _
    unfold wp_X6_timeOf_57
    rw [e0, nI_1]
    refine ⟨fun hp => ⟨a1, Wh, a8, b7, by rw [b8]; exact hv, ?_⟩, fun hp => ⟨a1, Wh, a8, b7, by rw [b8]; exact hv, ?_⟩⟩
    · have hpos := (nI_ltI (a := 0) (b := left) (by omega) hl).mp hp
      have e1 : nI left - (1 : Int32) = nI (left - 1) := pk_sub (a := left) (b := 1) (by omega)
      rw [nI_clamp (by omega), v1, e1]
      refine ⟨fun q x20 e20 x21 e21 => by rw [e20, e21]; exact other q, fun q => ⟨a1, md_begins h hzb ha ht (fun z => ⟨fun w => absurd w (by decide), fun _ x28 e28 x29 e29 => ?_⟩) (fun z => ⟨fun _ x26 e26 x27 e27 => by rw [e26, e27]; exact noE q z, fun w => absurd rfl w⟩)⟩⟩
      have hai : a.1 = i := (nI_eq (by omega) (by omega)).mp q
      rw [hai] at z
      rw [e28, e29]
      refine ih (k + 1) (left - 1) (by omega) (by omega) ?_
      rw [hd, sub_cons_eq hai, evs_yes _ z] at hy
      rw [pvk_eq ha hai]
      obtain ⟨l', rfl⟩ : ∃ l', left = l' + 1 := ⟨left - 1, by omega⟩
      exact hy
    · have hz9 : left = 0 := by
        rcases Nat.eq_zero_or_pos left with w | w
        · exact w
        · exact absurd ((nI_ltI (a := 0) (b := left) (by omega) hl).mpr w) hp
      rw [nI_clamp (by omega), v1]
      refine ⟨fun q => ⟨a1, Wh, a8, b7, by rw [b8]; exact hv, ?_⟩, fun q => ⟨a1, md_begins h hzb ha ht (fun z => ⟨fun _ => ?_, fun w => absurd w (by decide)⟩) (fun z => ⟨fun w => absurd rfl w, fun _ => ⟨a1, Wh, a8, b7, by rw [b8]; exact hv, ?_⟩⟩)⟩⟩
      · rw [v1]
        exact ⟨fun _ x40 e40 x41 e41 => by rw [e40, e41]; exact other q, fun w => absurd w q⟩
      · have hai : a.1 = i := (nI_eq (by omega) (by omega)).mp q
        rw [hai] at z
        rw [hd, sub_cons_eq hai, evs_yes _ z, hz9] at hy
        have hev : evv t a.2 = y := Option.some.inj hy
        unfold evv at hev
        refine ⟨fun w => ⟨a1, Ti, a9, b9, by rw [b10]; exact hv, ?_⟩, fun w => ⟨a1, Ti, a9, b9, by rw [b10]; exact hv, ?_⟩⟩
        · have t0 : t ≠ 0 := fun z => w (by rw [z]; exact nI_0)
          rw [if_neg t0] at hev
          rw [v2]
          refine md_begin (by omega) ht (by omega) ?_
          rw [hev]
          exact hq
        · have t0 : t = 0 := (nI_eq (a := t) (b := 0) (by omega) (by omega)).mp w
          rw [if_pos t0] at hev
          rw [v2, hev]
          exact hq
      · rw [v1]
        refine ⟨fun w => absurd q w, fun _ => ⟨a1, md_begins h hzb ha ht (fun z2 => absurd z2 z) (fun z2 => ⟨fun _ x76 e76 x77 e77 => by rw [e76, e77]; exact noE q z2, fun w => absurd rfl w⟩)⟩⟩
theorem md_timeOf (h : Mod m g u K R Z Wh Ti Va Pa n ck kd rt hz al) (hzb : ∀ i, i ≤ 3 → hz i < 2 ^ 31) {p1 p2 p3 : Int32} {Q : Int32 → MM → Prop} (c1 : (p1 < 0 ∨ ¬ p1 < nI n) → ∀ m', Mod m' g u K R Z Wh Ti Va Pa n ck kd rt hz al → mI m' 136 u = 1 → Fr (MS g u) m m' → Q 0 m') (c2 : ∀ i, i < n → p1 = nI i → (∀ j, p2 = nI j → 3 < j ∨ 2 ^ 31 ≤ j) → ∀ m', Mod m' g u K R Z Wh Ti Va Pa n ck kd rt hz al → mI m' 136 u = 2 → Fr (MS g u) m m' → Q 0 m') (c3 : ∀ i j, i < n → p1 = nI i → p2 = nI j → j ≤ 3 → (∀ k, p3 = nI k → k < 2 ^ 31 → rws hz (sub i al) j ≤ k) → ∀ m', Mod m' g u K R Z Wh Ti Va Pa n ck kd rt hz al → mI m' 136 u = 3 → Fr (MS g u) m m' → Q 0 m') (c0 : ∀ i j k y, i < n → p1 = nI i → p2 = nI j → j ≤ 3 → p3 = nI k → k < 2 ^ 31 → (rowT hz (sub i al) j)[k]? = some y → ∀ m', Mod m' g u K R Z Wh Ti Va Pa n ck kd rt hz al → mI m' 136 u = 0 → Fr (MS g u) m m' → Q (nI y) m') : wp_X6_timeOf u p1 p2 p3 m Q := by
  unfold wp_X6_timeOf
  refine ⟨h.1.1, md_isSeries h (fun i hin e => ⟨fun _ => ?_, fun z => absurd z (by decide)⟩) (fun z => ⟨fun y => absurd rfl y, fun _ => ⟨h.1.1, md_no h (by decide) fun m' h' t' f' => ⟨fun y => absurd rfl y, fun _ => c1 z m' h' t' (fr_u f')⟩⟩⟩)⟩
  refine md_isTier (fun j ej hj => ⟨fun _ => ⟨fun z => ⟨h.1.1, md_no h (by decide) fun m' h' t' f' => ⟨fun y => absurd rfl y, fun _ => c3 i j hin e ej hj (fun k ek hk => absurd z (by rw [ek]; exact nI_pos hk)) m' h' t' (fr_u f')⟩⟩, fun z => ⟨h.1.1, ?_⟩⟩, fun z => absurd z (by decide)⟩) (fun z => ⟨fun y => absurd rfl y, fun _ => ⟨h.1.1, md_no h (by decide) fun m' h' t' f' => ⟨fun y => absurd rfl y, fun _ => c2 i hin e z m' h' t' (fr_u f')⟩⟩⟩)
  obtain ⟨k, hk, ek⟩ := nI_of z
  have hr : rws hz (sub i al) j < 2 ^ 31 := by
    have h1 := sub_len i al
    have h2 := h.len
    have h3 : rws hz (sub i al) j ≤ (sub i al).length := by
      unfold rws
      by_cases j0 : j = 0
      · rw [if_pos j0]
        exact List.length_filter_le _ _
      · rw [if_neg j0]
        exact gk_len _ _ _
    omega
  rw [e, ej]
  refine md_rowsOf h hzb hin hj ⟨fun q => ⟨h.1.1, md_yes h fun m' h' t' f' => ⟨fun _ x88 e88 => ?_, fun y => absurd y (by decide)⟩⟩, fun q => ⟨h.1.1, md_no h (by decide) fun m' h' t' f' => ⟨fun y => absurd rfl y, fun _ => c3 i j hin e ej hj (fun k' ek' hk' => ?_) m' h' t' (fr_u f')⟩⟩⟩
  · rw [ek] at q
    have q2 := (nI_ltI hk hr).mp q
    obtain ⟨y, hy⟩ : ∃ y, (rowT hz (sub i al) j)[k]? = some y := ⟨_, List.getElem?_eq_getElem (by rw [rowT_len]; exact q2)⟩
    rw [e88, ek]
    refine ⟨_, md_timeOf_loop h' hzb hin hj (y := y) (c0 i j k y hin e ej hj ek hk hy m' h' t' (fr_u f')) al.length 0 k (Nat.zero_add _) hk ?_⟩
    rw [pvk_0, List.drop_zero, evs_none]
    exact hy
  · rcases Nat.lt_or_ge k' (rws hz (sub i al) j) with w | w
    · exact absurd (by rw [ek']; exact (nI_ltI hk' hr).mpr w) q
    · exact w
theorem md_valueAt (h : Mod m g u K R Z Wh Ti Va Pa n ck kd rt hz al) (hz0 : hz 0 < 2 ^ 31) {p1 p2 : Int32} {Q : Int32 → MM → Prop} (c1 : (p1 < 0 ∨ ¬ p1 < nI n) → ∀ m', Mod m' g u K R Z Wh Ti Va Pa n ck kd rt hz al → mI m' 136 u = 1 → Fr (MS g u) m m' → Q 0 m') (c2 : ∀ i, i < n → p1 = nI i → (∀ b ∈ hi kf (hz 0) (sub i al), nI b.1 ≠ p2) → ∀ m', Mod m' g u K R Z Wh Ti Va Pa n ck kd rt hz al → mI m' 136 u = 2 → Fr (MS g u) m m' → Q 0 m') (c0 : ∀ i b, i < n → p1 = nI i → b ∈ hi kf (hz 0) (sub i al) → p2 = nI b.1 → ∀ m', Mod m' g u K R Z Wh Ti Va Pa n ck kd rt hz al → mI m' 136 u = 0 → Fr (MS g u) m m' → Q b.2 m') : wp_X6_valueAt u p1 p2 m Q := by
  unfold wp_X6_valueAt
  refine ⟨h.1.1, md_isSeries h (fun i hin e => ⟨fun _ => ⟨h.1.1, ?_⟩, fun z => absurd z (by decide)⟩) (fun z => ⟨fun y => absurd rfl y, fun _ => ⟨h.1.1, md_no h (by decide) fun m' h' t' f' => ⟨fun _ => c1 z m' h' t' (fr_u f'), fun y => absurd rfl y⟩⟩⟩)⟩
  rw [e]
  refine md_isKept h hz0 hin p2 (fun b hb eb => ⟨fun z => absurd z (by decide), fun _ => ⟨h.1.1, md_yes h fun m' h' t' f' => ⟨fun y => absurd y (by decide), fun _ => ?_⟩⟩⟩) (fun z => ⟨fun _ => ⟨h.1.1, md_no h (by decide) fun m' h' t' f' => ⟨fun _ => c2 i hin e z m' h' t' (fr_u f'), fun y => absurd rfl y⟩⟩, fun y => absurd rfl y⟩)
  have hbm := mem_sub.mp (mem_hi.mp hb).1
  have hat := h.kat hbm eb
  have hlt := (List.getElem?_eq_some_iff.mp hat).1
  have hlen := h.len
  obtain ⟨⟨a1, a2, a3, a4, a5, a6, a7, a8, a9, a10, a11⟩, ⟨b1, b2, b3, b4, b5, b6, b7, b8, b9, b10, b11, b12, b13, b14⟩, -⟩ := id h'
  refine ⟨a1, Va, a10, a1, md_place h' hin p2 ⟨b11, by rw [b12]; exact vp_in_nI (by omega) (by decide), ?_⟩⟩
  rw [nI_clamp (by omega), (h'.at hat).2.2]
  exact c0 i b hin e hb eb.symm m' h' t' (fr_u f')
end
