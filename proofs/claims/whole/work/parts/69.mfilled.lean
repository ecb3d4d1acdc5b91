/-! THE MODEL'S FILLED -/
theorem Srt.last {α : Type} {f : α → Nat} {L : List α} (h : Srt f L) {g0 : α} (hg : g0 ∈ L) (hm : ∀ g ∈ L, f g ≤ f g0) : L.getLast? = some g0 := by
  have e1 : hi f (f g0) L = [g0] := by
    rw [hi_old h hg, hi_none (fun b hb => by have := hm b hb; omega)]
  have e2 := h.split (f g0)
  rw [e1] at e2
  rw [← e2, List.getLast?_append]
  rfl
theorem Srt.head {α : Type} {f : α → Nat} {L : List α} (h : Srt f L) {g0 : α} (hg : g0 ∈ L) (hm : ∀ g ∈ L, f g0 ≤ f g) : L.head? = some g0 := by
  have e1 : lo f (f g0) L = [] := lo_none hm
  have e2 := h.split (f g0)
  rw [e1, List.nil_append, hi_old h hg] at e2
  rw [← e2]
  rfl
section
variable {m : MM} {g : Nat → Nat} {u K R Z Wh Ti Va Pa n ck : Nat} {kd rt hz : Nat → Nat} {al : List AT}
/-- a point of a rollup that is kept and begins earlier, later -/
def PEr (hz : Nat → Nat) (i t b : Nat) (a : AT) : Prop := a.1 = i ∧ hz t < bg (ln t) a.2.1 + ln t ∧ a.2.1 < b
def PLr (hz : Nat → Nat) (i t b : Nat) (a : AT) : Prop := a.1 = i ∧ hz t < bg (ln t) a.2.1 + ln t ∧ b < a.2.1
def InvE (hz : Nat → Nat) (al : List AT) (i t b k : Nat) (l6 : Int32) : Prop := (l6 = -1 ∧ ∀ j a, j < k → al[j]? = some a → ¬ PEr hz i t b a) ∨ (∃ j a, j < k ∧ l6 = nI j ∧ al[j]? = some a ∧ PEr hz i t b a ∧ ∀ j' a', j < j' → j' < k → al[j']? = some a' → ¬ PEr hz i t b a')
def InvL (hz : Nat → Nat) (al : List AT) (i t b k : Nat) (l7 : Int32) : Prop := (l7 = -1 ∧ ∀ j a, j < k → al[j]? = some a → ¬ PLr hz i t b a) ∨ (∃ j a, j < k ∧ l7 = nI j ∧ al[j]? = some a ∧ PLr hz i t b a ∧ ∀ j' a', j' < j → al[j']? = some a' → ¬ PLr hz i t b a')
theorem InvE.no {i t b k : Nat} {l6 : Int32} {a : AT} (h : InvE hz al i t b k l6) (ha : al[k]? = some a) (hn : ¬ PEr hz i t b a) : InvE hz al i t b (k + 1) l6 := by
  have same : ∀ j x, j < k + 1 → al[j]? = some x → (j < k ∨ x = a) := fun j x hj hx => by
    rcases Nat.lt_or_ge j k with q | q
    · exact Or.inl q
    · rw [show j = k by omega, ha] at hx
      exact Or.inr (Option.some.inj hx).symm
  rcases h with ⟨e, q⟩ | ⟨j, x, hj, e, hx, hp, q⟩
  · refine Or.inl ⟨e, fun j x hj hx => ?_⟩
    rcases same j x hj hx with w | w
    · exact q j x w hx
    · rw [w]; exact hn
  · refine Or.inr ⟨j, x, by omega, e, hx, hp, fun j' x' h1 h2 h3 => ?_⟩
    rcases same j' x' h2 h3 with w | w
    · exact q j' x' h1 w h3
    · rw [w]; exact hn
theorem InvE.yes {i t b k : Nat} {l6 : Int32} {a : AT} (h : InvE hz al i t b k l6) (ha : al[k]? = some a) (hn : PEr hz i t b a) : InvE hz al i t b (k + 1) (nI k) := Or.inr ⟨k, a, Nat.lt_succ_self k, rfl, ha, hn, fun j' x' h1 h2 _ => by omega⟩
theorem InvL.no {i t b k : Nat} {l7 : Int32} {a : AT} (h : InvL hz al i t b k l7) (ha : al[k]? = some a) (hn : ¬ PLr hz i t b a) : InvL hz al i t b (k + 1) l7 := by
  rcases h with ⟨e, q⟩ | ⟨j, x, hj, e, hx, hp, q⟩
  · refine Or.inl ⟨e, fun j x hj hx => ?_⟩
    rcases Nat.lt_or_ge j k with w | w
    · exact q j x w hx
    · rw [show j = k by omega, ha] at hx
      rw [← Option.some.inj hx]
      exact hn
  · exact Or.inr ⟨j, x, by omega, e, hx, hp, q⟩
theorem InvL.keep {i t b k : Nat} {l7 : Int32} (hl : al.length < 2 ^ 31) (h : InvL hz al i t b k l7) (h7 : ¬ l7 = -1) : InvL hz al i t b (k + 1) l7 := by
  rcases h with ⟨e, q⟩ | ⟨j, x, hj, e, hx, hp, q⟩
  · exact absurd e h7
  · exact Or.inr ⟨j, x, by omega, e, hx, hp, q⟩
theorem nI_m1 {j : Nat} (hj : j < 2 ^ 31) : ¬ nI j = (-1 : Int32) := fun z => by
  have e := congrArg Int32.toInt z
  rw [nI_toInt hj] at e
  have : (-1 : Int32).toInt = -1 := by decide
  omega
theorem InvL.yes {i t b k : Nat} {l7 : Int32} {a : AT} (hl : al.length < 2 ^ 31) (h : InvL hz al i t b k l7) (h7 : l7 = -1) (ha : al[k]? = some a) (hn : PLr hz i t b a) : InvL hz al i t b (k + 1) (nI k) := by
  rcases h with ⟨e, q⟩ | ⟨j, x, hj, e, hx, hp, q⟩
  · exact Or.inr ⟨k, a, Nat.lt_succ_self k, rfl, ha, hn, fun j' x' h1 h2 => q j' x' h1 h2⟩
  · have := (List.getElem?_eq_some_iff.mp hx).1
    rw [h7] at e
    exact absurd e.symm (nI_m1 (by omega))
/-- in the order of the rows -/
theorem row_le {i j j' : Nat} {a a' : AT} (hs : Srt ky al) (ha : al[j]? = some a) (ha' : al[j']? = some a') (h1 : a.1 = i) (h2 : a'.1 = i) (hj : j ≤ j') : a.2.1 ≤ a'.2.1 := by
  rcases Nat.eq_or_lt_of_le hj with e | e
  · rw [e, ha'] at ha
    rw [Option.some.inj ha]
    exact Nat.le_refl _
  · have hp := List.pairwise_iff_getElem.mp hs j j' (List.getElem?_eq_some_iff.mp ha).1 (List.getElem?_eq_some_iff.mp ha').1 e
    rw [(List.getElem?_eq_some_iff.mp ha).2, (List.getElem?_eq_some_iff.mp ha').2] at hp
    have hp : a.1 * 2147483648 + a.2.1 < a'.1 * 2147483648 + a'.2.1 := hp
    omega
theorem er_none {i t x : Nat} (hs : Srt ky al) (h : ∀ j a, j < al.length → al[j]? = some a → ¬ PEr hz i t (bg (ln t) x) a) : er hz (sub i al) t x = none := by
  have hP := sub_srt hs i
  unfold er
  have e : lo kg (bg (ln t) x) (gk (ln t) (hz t) (sub i al)) = [] := by
    refine List.eq_nil_iff_forall_not_mem.mpr fun q hq => ?_
    obtain ⟨h1, h2⟩ := mem_lo.mp hq
    obtain ⟨d1, p, hp, e⟩ := gk_dvd hP h1
    obtain ⟨h3, -⟩ := (mem_gk hP (b := q.1) (vs := q.2)).mp h1
    have hp2 := mem_sub.mp hp
    obtain ⟨j, hj⟩ := List.getElem?_of_mem hp2
    refine h j _ (List.getElem?_eq_some_iff.mp hj).1 hj ⟨rfl, ?_, ?_⟩
    · show hz t < bg (ln t) p.1 + ln t
      rw [e]; exact h3
    · show p.1 < bg (ln t) x
      have h2 : q.1 < bg (ln t) x := h2
      exact (bg_lt_iff (ln_pos t) (bg_dvd _ _)).mp (by rw [e]; exact h2)
  rw [e]
  rfl
theorem er_some {i t x j : Nat} {a : AT} (hs : Srt ky al) (ha : al[j]? = some a) (hp : PEr hz i t (bg (ln t) x) a) (h : ∀ j' a', j < j' → j' < al.length → al[j']? = some a' → ¬ PEr hz i t (bg (ln t) x) a') : ∃ e, er hz (sub i al) t x = some e ∧ e.1 = bg (ln t) a.2.1 ∧ vLst e.2 = a.2.2 := by
  have hP := sub_srt hs i
  obtain ⟨p1, p2, p3⟩ := hp
  have ham : a.2 ∈ sub i al := mem_sub.mpr (by rw [← p1]; exact List.mem_of_getElem? ha)
  have hab := bg_le (ln t) a.2.1
  -- any point before is not later
  have key : ∀ p ∈ sub i al, hz t < bg (ln t) p.1 + ln t → p.1 < bg (ln t) x → p.1 ≤ a.2.1 := fun p hp q1 q2 => by
    obtain ⟨j', hj'⟩ := List.getElem?_of_mem (mem_sub.mp hp)
    rcases Nat.lt_or_ge j j' with w | w
    · exact absurd ⟨rfl, q1, q2⟩ (h j' _ w (List.getElem?_eq_some_iff.mp hj').1 hj')
    · exact row_le (a := (i, p)) hs hj' ha rfl p1 w
  have hg : (bg (ln t) a.2.1, vl (ln t) (bg (ln t) a.2.1) (sub i al)) ∈ gk (ln t) (hz t) (sub i al) := (mem_gk hP).mpr ⟨p2, vl_ne.mpr ⟨a.2, ham, rfl⟩, rfl⟩
  refine ⟨_, Srt.last (f := kg) ((gk_srt hP).filter _) (mem_lo.mpr ⟨hg, ?_⟩) (fun q hq => ?_), rfl, ?_⟩
  · show bg (ln t) a.2.1 < bg (ln t) x
    omega
  · obtain ⟨h1, h2⟩ := mem_lo.mp hq
    obtain ⟨d1, p, hp, e⟩ := gk_dvd hP h1
    obtain ⟨h3, -⟩ := (mem_gk hP (b := q.1) (vs := q.2)).mp h1
    have h2 : q.1 < bg (ln t) x := h2
    have := key p hp (by rw [e]; exact h3) ((bg_lt_iff (ln_pos t) (bg_dvd _ _)).mp (by rw [e]; exact h2))
    show q.1 ≤ bg (ln t) a.2.1
    rw [← e]
    exact bg_mono this
  · show vLst (vl (ln t) (bg (ln t) a.2.1) (sub i al)) = a.2.2
    have hl : ((sub i al).filter (fun p => decide (bg (ln t) p.1 = bg (ln t) a.2.1))).getLast? = some a.2 := by
      refine Srt.last (f := kf) (hP.filter _) (List.mem_filter.mpr ⟨ham, decide_eq_true rfl⟩) fun p hp => ?_
      obtain ⟨h1, h2⟩ := List.mem_filter.mp hp
      have h2 := of_decide_eq_true h2
      exact key p h1 (by rw [h2]; exact p2) ((bg_lt_iff (ln_pos t) (bg_dvd _ _)).mp (by rw [h2]; omega))
    unfold vLst vl
    rw [List.getLastD_eq_getLast?, List.getLast?_map, hl]
    rfl
theorem lr_none {i t x : Nat} (hs : Srt ky al) (hr : rl hz (sub i al) t x = []) (h : ∀ j a, j < al.length → al[j]? = some a → ¬ PLr hz i t (bg (ln t) x) a) : lr hz (sub i al) t x = none := by
  have hP := sub_srt hs i
  unfold lr
  have e : hi kg (bg (ln t) x) (gk (ln t) (hz t) (sub i al)) = [] := by
    refine List.eq_nil_iff_forall_not_mem.mpr fun q hq => ?_
    obtain ⟨h1, h2⟩ := mem_hi.mp hq
    obtain ⟨d1, p, hp, e⟩ := gk_dvd hP h1
    obtain ⟨h3, h4, h5⟩ := (mem_gk hP (b := q.1) (vs := q.2)).mp h1
    obtain ⟨j, hj⟩ := List.getElem?_of_mem (mem_sub.mp hp)
    have hle := bg_le (ln t) p.1
    have h2 : bg (ln t) x ≤ q.1 := h2
    have hne : q.1 ≠ bg (ln t) x := fun z => by
      have := (rl_of (t := t) (x := x) hP (vs := q.2)).mp (by rw [← z]; exact h1)
      rw [hr] at this
      exact this.1 this.2
    refine h j _ (List.getElem?_eq_some_iff.mp hj).1 hj ⟨rfl, ?_, ?_⟩
    · show hz t < bg (ln t) p.1 + ln t
      rw [e]; exact h3
    · show bg (ln t) x < p.1
      omega
  rw [e]
  rfl
theorem lr_some {i t x j : Nat} {a : AT} (hs : Srt ky al) (hr : rl hz (sub i al) t x = []) (ha : al[j]? = some a) (hp : PLr hz i t (bg (ln t) x) a) (h : ∀ j' a', j' < j → al[j']? = some a' → ¬ PLr hz i t (bg (ln t) x) a') : lr hz (sub i al) t x = some (bg (ln t) a.2.1, rl hz (sub i al) t a.2.1) ∧ bg (ln t) x < bg (ln t) a.2.1 ∧ rl hz (sub i al) t a.2.1 ≠ [] := by
  have hP := sub_srt hs i
  obtain ⟨p1, p2, p3⟩ := hp
  have ham : a.2 ∈ sub i al := mem_sub.mpr (by rw [← p1]; exact List.mem_of_getElem? ha)
  have ev : rl hz (sub i al) t a.2.1 = vl (ln t) (bg (ln t) a.2.1) (sub i al) := if_pos p2
  have hne : vl (ln t) (bg (ln t) a.2.1) (sub i al) ≠ [] := vl_ne.mpr ⟨a.2, ham, rfl⟩
  have hge : bg (ln t) x ≤ bg (ln t) a.2.1 := bg_max (ln_pos t) (bg_dvd _ _) (by omega)
  have hgt : bg (ln t) x ≠ bg (ln t) a.2.1 := fun z => by
    have e2 : rl hz (sub i al) t x = vl (ln t) (bg (ln t) a.2.1) (sub i al) := by
      unfold rl
      rw [z, if_pos p2]
    rw [hr] at e2
    exact hne e2.symm
  have hg : (bg (ln t) a.2.1, vl (ln t) (bg (ln t) a.2.1) (sub i al)) ∈ gk (ln t) (hz t) (sub i al) := (mem_gk hP).mpr ⟨p2, hne, rfl⟩
  rw [ev]
  refine ⟨Srt.head (f := kg) ((gk_srt hP).filter _) (mem_hi.mpr ⟨hg, hge⟩) (fun q hq => ?_), by omega, hne⟩
  obtain ⟨h1, h2⟩ := mem_hi.mp hq
  obtain ⟨d1, p, hp, e⟩ := gk_dvd hP h1
  obtain ⟨h3, h4, h5⟩ := (mem_gk hP (b := q.1) (vs := q.2)).mp h1
  have hle := bg_le (ln t) p.1
  have h2 : bg (ln t) x ≤ q.1 := h2
  have hne2 : q.1 ≠ bg (ln t) x := fun z => by
    have := (rl_of (t := t) (x := x) hP (vs := q.2)).mp (by rw [← z]; exact h1)
    rw [hr] at this
    exact this.1 this.2
  obtain ⟨j', hj'⟩ := List.getElem?_of_mem (mem_sub.mp hp)
  have hPL : PLr hz i t (bg (ln t) x) (i, p) := ⟨rfl, by show hz t < bg (ln t) p.1 + ln t; rw [e]; exact h3, by show bg (ln t) x < p.1; omega⟩
  show bg (ln t) a.2.1 ≤ q.1
  rw [← e]
  refine bg_mono ?_
  rcases Nat.lt_or_ge j' j with w | w
  · exact absurd hPL (h j' _ w hj')
  · exact row_le (a' := (i, p)) hs ha hj' p1 rfl w
theorem md_filled_loop (h : Mod m g u K R Z Wh Ti Va Pa n ck kd rt hz al) {i t b : Nat} (hin : i < n) (t1 : 1 ≤ t) (t3 : t ≤ 3) (hb : b < 2 ^ 31) (hzt : hz t < 2 ^ 31) {l4 : Int32} {Q : Int32 → MM → Prop} (hq : ∀ l6 l7, InvE hz al i t b al.length l6 → InvL hz al i t b al.length l7 → ((l4 = 0 → wp_X6_filled_201 Q u (nI i) (nI t) l4 (nI b) l6 l7 u m) ∧ (¬ l4 = 0 → ((l6 = (-1 : Int32) → wp_X6_filled_213 Q u (nI i) (nI t) l4 (nI b) l6 l7 u m) ∧ (¬ l6 = (-1 : Int32) → wp_X6_filled_201 Q u (nI i) (nI t) l4 (nI b) l6 l7 u m))))) : ∀ (r k : Nat) (l6 l7 : Int32), k + r = al.length → InvE hz al i t b k l6 → InvL hz al i t b k l7 → wp_X6_filled_78 Q (r + 1) u (nI i) (nI t) l4 (nI b) l6 l7 (nI k) m := by
  have hlen := h.len
  have hn := h.n4
  obtain ⟨⟨a1, a2, a3, a4, a5, a6, a7, a8, a9, a10, a11⟩, ⟨b1, b2, b3, b4, b5, b6, b7, b8, b9, b10, b11, b12, b13, b14⟩, ⟨c1, c2, c3⟩, -⟩ := id h
  intro r
  induction r with
  | zero =>
    intro k l6 l7 hk hE hL
    have ek : k = al.length := by omega
    subst ek
    unfold wp_X6_filled_78
    rw [a4]
    exact ⟨a1, fun _ => hq l6 l7 hE hL, fun z => absurd (Int32.le_refl _) z⟩
  | succ r ih =>
    intro k l6 l7 hk hE hL
    have hkl : k < al.length := by omega
    obtain ⟨a, ha, hd, hm⟩ := h.get hkl
    obtain ⟨s1, s2⟩ := h.small a hm
    obtain ⟨v1, v2, v3⟩ := h.at ha
    have hv : vp_in (nI k) 10300 := vp_in_nI (by omega) (by decide)
    have hal : al.length < 2 ^ 31 := by omega
    have hbl := bg_le (ln t) a.2.1
    -- not a point of a kept rollup
    have skip : ¬ (a.1 = i ∧ hz t < bg (ln t) a.2.1 + ln t) → wp_X6_filled_122 Q (wp_X6_filled_78 Q (r + 1)) u (nI i) (nI t) l4 (nI b) l6 l7 (nI k) m := fun w => by
      unfold wp_X6_filled_122 wp_X6_filled_123 wp_X6_filled_147 wp_X6_filled_149
      refine ⟨fun _ => ⟨fun _ x68 e68 => ?_, fun z => absurd rfl z⟩, fun z => absurd rfl z⟩
      rw [e68, nI_1]
      exact ih (k + 1) l6 l7 (by omega) (hE.no ha fun z => w ⟨z.1, z.2.1⟩) (hL.no ha fun z => w ⟨z.1, z.2.1⟩)
    -- what is done with the later one
    have tail : (a.1 = i ∧ hz t < bg (ln t) a.2.1 + ln t) → ∀ s0, InvE hz al i t b (k + 1) s0 → wp_X6_filled_149 Q (wp_X6_filled_78 Q (r + 1)) u (nI i) (nI t) l4 (nI b) l7 (nI k) 1 s0 m := fun w s0 hs0 => by
      unfold wp_X6_filled_149
      rw [nI_1]
      refine ⟨fun z => absurd z (by decide), fun _ => ⟨a1, Ti, a9, b9, by rw [b10]; exact hv, ?_⟩⟩
      rw [nI_clamp (by omega), v2]
      refine ⟨fun y x74 e74 => ?_, fun y => ⟨fun z x76 e76 => ?_, fun z x77 e77 => ?_⟩⟩
      · have y2 := (nI_leI (by omega) hb).mp y
        rw [e74]
        exact ih (k + 1) s0 l7 (by omega) hs0 (hL.no ha fun q => by have := q.2.2; omega)
      · rw [e76]
        exact ih (k + 1) s0 l7 (by omega) hs0 (hL.keep hal z)
      · rw [e77]
        have y2 : b < a.2.1 := by
          rcases Nat.lt_or_ge b a.2.1 with q | q
          · exact q
          · exact absurd ((nI_leI (by omega) hb).mpr q) y
        exact ih (k + 1) s0 (nI k) (by omega) hs0 (hL.yes hal z ha ⟨w.1, w.2, y2⟩)
    unfold wp_X6_filled_78
    rw [a4]
    refine ⟨a1, fun z => absurd ((nI_leI (by omega) (by omega)).mp z) (by omega), fun _ => ⟨a1, Wh, a8, b7, by rw [b8]; exact hv, ?_⟩⟩
    rw [nI_clamp (by omega), v1]
    refine ⟨fun y => skip fun w => y (by rw [w.1]), fun y => ⟨a1, Ti, a9, b9, by rw [b10]; exact hv, ?_⟩⟩
    have hai : a.1 = i := (nI_eq (by omega) (by omega)).mp y
    rw [v2]
    refine md_begin t1 t3 (by omega) ⟨a1, md_isGone h t1 t3 (b := bg (ln t) a.2.1) (by omega) hzt (nI_l (by omega)) (fun w => ⟨fun z => absurd rfl z, fun _ => ?_⟩) (fun w => ⟨fun _ => skip fun q => by have := q.2; omega, fun z => absurd z (by decide)⟩)⟩
    unfold wp_X6_filled_123 wp_X6_filled_147
    refine ⟨fun z => absurd z (by decide), fun _ => ⟨a1, Ti, a9, b9, by rw [b10]; exact hv, ?_⟩⟩
    rw [nI_clamp (by omega), v2]
    refine ⟨fun y2 => tail ⟨hai, w⟩ l6 (hE.no ha fun q => ?_), fun y2 => tail ⟨hai, w⟩ (nI k) (hE.yes ha ⟨hai, w, ?_⟩)⟩
    · have := (nI_leI hb (by omega)).mp y2
      have := q.2.2
      omega
    · rcases Nat.lt_or_ge a.2.1 b with q | q
      · exact q
      · exact absurd ((nI_leI hb (by omega)).mpr q) y2
theorem md_filled (h : Mod m g u K R Z Wh Ti Va Pa n ck kd rt hz al) (hzb : ∀ i, i ≤ 3 → hz i < 2 ^ 31) {p1 p2 p3 p4 : Int32} {Q : Int32 → MM → Prop} (c1 : (p1 < 0 ∨ ¬ p1 < nI n) → ∀ m', Mod m' g u K R Z Wh Ti Va Pa n ck kd rt hz al → mI m' 136 u = 1 → Fr (MS g u) m m' → Q 0 m') (c2 : NoAsk n p1 p2 p3 → ∀ m', Mod m' g u K R Z Wh Ti Va Pa n ck kd rt hz al → mI m' 136 u = 2 → Fr (MS g u) m m' → Q 0 m') (c2b : ∀ i, i < n → p1 = nI i → (∀ r, p4 = nI r → 2 < r ∨ 2 ^ 31 ≤ r) → ∀ m', Mod m' g u K R Z Wh Ti Va Pa n ck kd rt hz al → mI m' 136 u = 2 → Fr (MS g u) m m' → Q 0 m') (c3 : ∀ i t x r, Ask n p1 p2 p3 i t x → p4 = nI r → r ≤ 2 → rl hz (sub i al) t x = [] → (r ≠ 0 ∧ er hz (sub i al) t x = none ∨ r = 2 ∧ lr hz (sub i al) t x = none) → ∀ m', Mod m' g u K R Z Wh Ti Va Pa n ck kd rt hz al → mI m' 136 u = 3 → Fr (MS g u) m m' → Q 0 m') (c0 : ∀ i t x r, Ask n p1 p2 p3 i t x → p4 = nI r → r ≤ 2 → ∀ m', Mod m' g u K R Z Wh Ti Va Pa n ck kd rt hz al → mI m' 136 u = 0 → Fr (MS g u) m m' → (rl hz (sub i al) t x ≠ [] → Q (vLst (rl hz (sub i al) t x)) m') ∧ (rl hz (sub i al) t x = [] → r = 0 → Q 0 m') ∧ (rl hz (sub i al) t x = [] → r = 1 → ∀ e, er hz (sub i al) t x = some e → Q (vLst e.2) m') ∧ (rl hz (sub i al) t x = [] → r = 2 → ∀ e l, er hz (sub i al) t x = some e → lr hz (sub i al) t x = some l → Q (btw e l (bg (ln t) x)) m')) : wp_X6_filled u p1 p2 p3 p4 m Q := by
  unfold wp_X6_filled
  have hlen := h.len
  have no : ∀ {c : Int32}, ¬ c = 0 → (∀ m', Mod m' g u K R Z Wh Ti Va Pa n ck kd rt hz al → mI m' 136 u = c → Fr (MS g u) m m' → Q 0 m') → wp_X6_filled_39 Q u p1 p2 p3 p4 c u m := fun hc hq => by
    unfold wp_X6_filled_39
    exact ⟨h.1.1, md_no h hc fun m' h' t' f' => ⟨fun y => absurd rfl y, fun _ => hq m' h' t' (fr_u f')⟩⟩
  refine ⟨h.1.1, md_isSeries h (fun i hin e => ⟨fun _ => ?_, fun z => absurd z (by decide)⟩) (fun z => ⟨fun y => absurd rfl y, fun _ => no (by decide) (c1 z)⟩)⟩
  refine md_isRolled (fun t et t1 t3 => ⟨fun z => absurd z (by decide), fun _ => ?_⟩) (fun z => ⟨fun _ => ?_, fun y => absurd rfl y⟩)
  · refine md_rng (a := 0) (b := 2) (by decide) (by decide) (by decide) (by decide) (fun r e4 _ hr => ⟨fun z => absurd z (by decide), fun _ => ⟨fun z => ?_, fun z => ?_⟩⟩) (fun z => ⟨fun _ => ?_, fun y => absurd rfl y⟩)
    · obtain ⟨x, hx, ex⟩ := nI_of (Int32.not_lt.mpr z)
      have ha : Ask n p1 p2 p3 i t x := ⟨hin, e, et, t1, t3, ex, hx⟩
      have hzt := hzb t t3
      have hbl := bg_le (ln t) x
      have d0 : r ≠ 0 → ¬ p4 = 0 := fun z q => z ((nI_eq (a := r) (b := 0) (by omega) (by omega)).mp (e4.symm.trans q))
      unfold wp_X6_filled_39
      rw [e, et, ex]
      refine ⟨h.1.1, md_yes h fun m1 h1 u1 f1 => ⟨fun _ => ⟨h1.1.1, md_looks h1 hin t1 t3 hx hzt fun m2 h2 l2 u2 f2 => ⟨fun hne => ⟨fun w => absurd w (by decide), fun _ => ⟨h2.1.1, ?_⟩⟩, fun hnil => ⟨fun _ => ?_, fun w => absurd rfl w⟩⟩⟩, fun y => absurd y (by decide)⟩⟩
      · rw [(l2.2.2 hne).2.2.2]
        exact (c0 i t x r ha e4 hr m2 h2 (u2.trans u1) (fr_u (f1.trans f2))).1 hne
      · refine md_begin t1 t3 hx fun x18 e18 x19 e19 x20 e20 => ?_
        rw [e18, e19, e20]
        have F2 : Fr (MS g u) m m2 := fr_u (f1.trans f2)
        have hs := h2.srt
        refine ⟨_, md_filled_loop h2 hin t1 t3 (by omega) hzt (fun l6 l7 hE hL => ?_) al.length 0 (-1) (-1) (Nat.zero_add _) (Or.inl ⟨rfl, fun j a hj => absurd hj (Nat.not_lt_zero j)⟩) (Or.inl ⟨rfl, fun j a hj => absurd hj (Nat.not_lt_zero j)⟩)⟩
        have fault : (r ≠ 0 ∧ er hz (sub i al) t x = none ∨ r = 2 ∧ lr hz (sub i al) t x = none) → wp_X6_filled_213 Q u (nI i) (nI t) p4 (nI (bg (ln t) x)) l6 l7 u m2 := fun w => by
          unfold wp_X6_filled_213 wp_X6_filled_218
          exact ⟨h2.1.1, md_no h2 (by decide) fun m3 h3 u3 f3 => ⟨fun _ => c3 i t x r ha e4 hr hnil w m3 h3 u3 (F2.trans (fr_u f3)), fun y => absurd rfl y⟩⟩
        -- nothing is refused
        have good : (r ≠ 0 → ¬ l6 = -1) → (r = 2 → ¬ l7 = -1) → wp_X6_filled_217 Q u (nI i) (nI t) p4 (nI (bg (ln t) x)) l6 l7 u m2 := fun w6 w7 => by
          unfold wp_X6_filled_217 wp_X6_filled_218
          refine ⟨h2.1.1, md_yes h2 fun m3 h3 u3 f3 => ⟨fun y => absurd y (by decide), fun _ => ⟨fun y => ?_, fun y => ?_⟩⟩⟩
          · have r0 : r ≠ 0 := fun z => y (by rw [e4, z]; exact nI_0)
            rcases hE with ⟨e6, -⟩ | ⟨j, a, hj, e6, haj, hp, hlast⟩
            · exact absurd e6 (w6 r0)
            · obtain ⟨ee, he1, he2, he3⟩ := er_some hs haj hp hlast
              obtain ⟨s1, s2⟩ := h2.small a (List.mem_of_getElem? haj)
              obtain ⟨v1, v2, v3⟩ := h3.at haj
              have hba := bg_le (ln t) a.2.1
              have hv : vp_in (nI j) 10300 := vp_in_nI (by omega) (by decide)
              obtain ⟨⟨a1, a2, a3, a4, a5, a6, a7, a8, a9, a10, a11⟩, ⟨b1, b2, b3, b4, b5, b6, b7, b8, b9, b10, b11, b12, b13, b14⟩, -⟩ := id h3
              rw [e6]
              refine ⟨a1, Va, a10, b11, by rw [b12]; exact hv, fun x34 e34 => ⟨fun y2 => ⟨a1, Ti, a9, b9, by rw [b10]; exact hv, ?_⟩, fun y2 => ?_⟩⟩
              · have r2 : r = 2 := (nI_eq (a := r) (b := 2) (by omega) (by omega)).mp (e4.symm.trans y2)
                rcases hL with ⟨e7, -⟩ | ⟨jl, al', hjl, e7, hal, hpl, hfirst⟩
                · exact absurd e7 (w7 r2)
                · obtain ⟨hl1, hl2, hl3⟩ := lr_some hs hnil hal hpl hfirst
                  obtain ⟨q1, q2⟩ := h2.small al' (List.mem_of_getElem? hal)
                  obtain ⟨o1, o2, o3⟩ := h3.at hal
                  have hbl' := bg_le (ln t) al'.2.1
                  have hvl : vp_in (nI jl) 10300 := vp_in_nI (by omega) (by decide)
                  rw [nI_clamp (by omega), v3] at e34
                  rw [nI_clamp (by omega), v2, e7]
                  refine md_begin t1 t3 (by omega) fun x42 e42 => ⟨a1, Ti, a9, b9, by rw [b10]; exact hvl, ?_⟩
                  rw [nI_clamp (by omega), o2]
                  refine md_begin t1 t3 (by omega) fun x49 e49 => ⟨a1, Ti, a9, b9, by rw [b10]; exact hvl, a1, ?_⟩
                  rw [o2]
                  refine md_looks h3 hin t1 t3 (by omega) hzt fun m4 h4 l4 u4 f4 => ⟨fun _ => ⟨h4.1.1, ?_, ?_⟩, fun hn' => absurd hn' hl3⟩
                  · have hlt : bg (ln t) a.2.1 < bg (ln t) al'.2.1 := by
                      have := hp.2.2
                      omega
                    rw [e42, e49, nI_l (by omega), nI_l (by omega), lN_sub (by omega)]
                    exact fun z => by
                      have := (pk_lEQ (a := bg (ln t) al'.2.1 - bg (ln t) a.2.1) (b := 0) (by omega) (by omega)).mp z
                      omega
                  · have hlt : bg (ln t) a.2.1 < bg (ln t) al'.2.1 := by
                      have := hp.2.2
                      omega
                    have hle : bg (ln t) a.2.1 ≤ bg (ln t) x := by
                      have := hp.2.2
                      omega
                    have key := (c0 i t x r ha e4 hr m4 h4 (u4.trans u3) ((F2.trans (fr_u f3)).trans (fr_u f4))).2.2.2 hnil r2 ee _ he1 hl1
                    unfold btw at key
                    rw [he2, he3] at key
                    rw [e34, e42, e49, (l4.2.2 hl3).2.2.2, nI_l (by omega), nI_l (by omega), nI_l (by omega), lN_sub hle, lN_sub (by omega)]
                    exact key
              · have r1 : r = 1 := by
                  have : r ≠ 2 := fun z => y2 (by rw [e4, z]; rfl)
                  omega
                rw [nI_clamp (by omega), v3] at e34
                rw [e34, ← he3]
                exact (c0 i t x r ha e4 hr m3 h3 u3 (F2.trans (fr_u f3))).2.2.1 hnil r1 ee he1
          · have r0 : r = 0 := Classical.byContradiction fun z => d0 z y
            exact (c0 i t x r ha e4 hr m3 h3 u3 (F2.trans (fr_u f3))).2.1 hnil r0
        have hal31 : al.length < 2 ^ 31 := by omega
        have n6 : l6 = -1 → er hz (sub i al) t x = none := fun z => by
          rcases hE with ⟨-, q⟩ | ⟨j, a, hj, e6, -⟩
          · exact er_none hs q
          · exact absurd (e6.symm.trans z) (nI_m1 (by omega))
        have n7 : l7 = -1 → lr hz (sub i al) t x = none := fun z => by
          rcases hL with ⟨-, q⟩ | ⟨j, a, hj, e6, -⟩
          · exact lr_none hs hnil q
          · exact absurd (e6.symm.trans z) (nI_m1 (by omega))
        have mid : (r ≠ 0 → ¬ l6 = -1) → wp_X6_filled_201 Q u (nI i) (nI t) p4 (nI (bg (ln t) x)) l6 l7 u m2 := fun w6 => by
          unfold wp_X6_filled_201
          refine ⟨fun y => good w6 (fun r2 => absurd (by rw [e4, r2]; rfl) y), fun y => ?_⟩
          have r2 : r = 2 := (nI_eq (a := r) (b := 2) (by omega) (by omega)).mp (e4.symm.trans y)
          exact ⟨fun z => good w6 (fun _ => z), fun z => fault (Or.inr ⟨r2, n7 z⟩)⟩
        refine ⟨fun y => mid fun w => absurd y (d0 w), fun y => ?_⟩
        have r0 : r ≠ 0 := fun z => y (by rw [e4, z]; exact nI_0)
        exact ⟨fun z => fault (Or.inl ⟨r0, n6 z⟩), fun z => mid fun _ => z⟩
    · unfold wp_X6_filled_34
      refine no (by decide) (c2 ⟨i, hin, e, fun t' x q => z ?_⟩)
      rw [q.2.2.2.2.2.1]
      exact Int32.not_lt.mp (nI_pos q.2.2.2.2.2.2)
    · unfold wp_X6_filled_34
      exact no (by decide) (c2b i hin e (fun r e4 => z r e4 (Nat.zero_le _)))
  · unfold wp_X6_filled_34
    refine no (by decide) (c2 ⟨i, hin, e, fun t x q => ?_⟩)
    obtain ⟨q1, q2, q3, q4, q5, q6⟩ := q
    have := z t q3 q4
    omega
end
