/-! THE MODEL'S PLACES -/
theorem tn_lt (x : Int32) : x.toNatClampNeg < 2147483648 := by
  show x.toInt.toNat < 2147483648
  have := Int32.toInt_lt x
  omega
theorem drop_at {α : Type} {l : List α} {k : Nat} {a : α} (h : l[k]? = some a) : l.drop k = a :: l.drop (k + 1) := by
  obtain ⟨h1, h2⟩ := List.getElem?_eq_some_iff.mp h
  rw [List.drop_eq_getElem_cons h1, h2]
theorem sub_cons_eq {a : AT} {i : Nat} {l : List AT} (h : a.1 = i) : sub i (a :: l) = a.2 :: sub i l := by
  unfold sub
  rw [List.filter_cons, if_pos (decide_eq_true h), List.map_cons]
theorem sub_cons_ne {a : AT} {i : Nat} {l : List AT} (h : a.1 ≠ i) : sub i (a :: l) = sub i l := by
  unfold sub
  rw [List.filter_cons, if_neg (by rw [decide_eq_true_iff]; exact h)]
theorem hi_cons_ge {α : Type} {f : α → Nat} {x : Nat} {a : α} {l : List α} (h : x ≤ f a) : hi f x (a :: l) = a :: hi f x l := List.filter_cons_of_pos (decide_eq_true h)
theorem hi_cons_lt {α : Type} {f : α → Nat} {x : Nat} {a : α} {l : List α} (h : f a < x) : hi f x (a :: l) = hi f x l := List.filter_cons_of_neg (by rw [decide_eq_true_iff]; omega)
/-- the key of a series and a time -/
def kx (i : Nat) (t : Int32) : Nat := i * 2147483648 + t.toNatClampNeg
theorem kx_lt {a : AT} {i : Nat} {t : Int32} (ha : a.2.1 < 2147483648) : ky a < kx i t ↔ a.1 < i ∨ (a.1 = i ∧ nI a.2.1 < t) := by
  have h1 := tn_lt t
  rw [lt_tn (by omega) t]
  show a.1 * 2147483648 + a.2.1 < i * 2147483648 + t.toNatClampNeg ↔ _
  omega
theorem kx_at {i : Nat} {b : Nat × Int32} {t : Int32} (hb : b.1 < 2147483648) (e : nI b.1 = t) : kx i t = ky (i, b) := by
  unfold kx
  rw [← e, nI_clamp hb]
section
variable {m : MM} {g : Nat → Nat} {u K R Z Wh Ti Va Pa n ck : Nat} {kd rt hz : Nat → Nat} {al : List AT}
theorem Mod.at (h : Mod m g u K R Z Wh Ti Va Pa n ck kd rt hz al) {k : Nat} {a : AT} (hk : al[k]? = some a) : mAI m Wh k = nI a.1 ∧ mAI m Ti k = nI a.2.1 ∧ mAI m Va k = a.2.2 := h.2.2.1.2.2 k a hk
theorem Mod.small (h : Mod m g u K R Z Wh Ti Va Pa n ck kd rt hz al) : ∀ a ∈ al, a.1 < n ∧ a.2.1 < 2147483648 := h.2.2.2.2.2.2.1
theorem Mod.srt (h : Mod m g u K R Z Wh Ti Va Pa n ck kd rt hz al) : Srt ky al := h.2.2.2.2.2.2.2
theorem Mod.len (h : Mod m g u K R Z Wh Ti Va Pa n ck kd rt hz al) : al.length ≤ 10300 := h.2.2.2.2.2.1
theorem Mod.n4 (h : Mod m g u K R Z Wh Ti Va Pa n ck kd rt hz al) : n ≤ 4 := h.2.2.2.2.1
/-- what a reading loop asks at the place k of the rows -/
theorem Mod.get (h : Mod m g u K R Z Wh Ti Va Pa n ck kd rt hz al) {k : Nat} (hk : k < al.length) : ∃ a, al[k]? = some a ∧ al.drop k = a :: al.drop (k + 1) ∧ a ∈ al := by
  refine ⟨al[k], List.getElem?_eq_getElem hk, drop_at (List.getElem?_eq_getElem hk), List.getElem_mem hk⟩
theorem md_place_loop (h : Mod m g u K R Z Wh Ti Va Pa n ck kd rt hz al) {i : Nat} (hin : i < n) (t : Int32) {Q : Int32 → MM → Prop} (hq : Q (nI (lo ky (kx i t) al).length) m) : ∀ (r k : Nat), k + r = (lo ky (kx i t) al).length → wp_X6_place_2 Q (r + 1) u (nI i) t (nI k) m := by
  have hlen := h.len
  have hn := h.n4
  have hle := lo_len ky (kx i t) al
  obtain ⟨⟨a1, a2, a3, a4, a5, a6, a7, a8, a9, a10, a11⟩, ⟨b1, b2, b3, b4, b5, b6, b7, b8, b9, b10, b11, b12, b13, b14⟩, -⟩ := id h
  intro r
  induction r with
  | zero =>
    intro k hk
    have ek : k = (lo ky (kx i t) al).length := by omega
    unfold wp_X6_place_2
    rw [a4, ek]
    refine ⟨a1, fun _ => hq, fun z => ⟨a1, Wh, a8, b7, ?_, ?_⟩⟩
    · rw [b8]; exact vp_in_nI (by
        have : (lo ky (kx i t) al).length < al.length := by
          rcases Nat.lt_or_ge (lo ky (kx i t) al).length al.length with q | q
          · exact q
          · exact absurd ((nI_leI (by omega) (by omega)).mpr q) z
        omega) (by decide)
    · have hkl : (lo ky (kx i t) al).length < al.length := by
        rcases Nat.lt_or_ge (lo ky (kx i t) al).length al.length with q | q
        · exact q
        · exact absurd ((nI_leI (by omega) (by omega)).mpr q) z
      obtain ⟨a, ha, -, hm⟩ := h.get hkl
      obtain ⟨s1, s2⟩ := h.small a hm
      obtain ⟨v1, v2, v3⟩ := h.at ha
      have hno : ¬ ky a < kx i t := fun q => Nat.lt_irrefl _ ((h.srt.ix (kx i t) ha).mp q)
      rw [kx_lt s2] at hno
      have hv : vp_in (nI (lo ky (kx i t) al).length) 10300 := vp_in_nI (by omega) (by decide)
      rw [nI_clamp (by omega), v1]
      refine ⟨fun y => absurd (Or.inl ((nI_ltI (by omega) (by omega)).mp y)) hno, fun y => ⟨a1, Wh, a8, b7, by rw [b8]; exact hv, ?_⟩⟩
      rw [v1]
      refine ⟨fun _ => hq, fun y2 => ⟨a1, Ti, a9, b9, by rw [b10]; exact hv, ?_⟩⟩
      rw [v2]
      exact ⟨fun _ => hq, fun y3 => absurd (Or.inr ⟨(nI_eq (by omega) (by omega)).mp y2, Int32.not_le.mp y3⟩) hno⟩
  | succ r ih =>
    intro k hk
    have hkl : k < al.length := by omega
    obtain ⟨a, ha, -, hm⟩ := h.get hkl
    obtain ⟨s1, s2⟩ := h.small a hm
    obtain ⟨v1, v2, v3⟩ := h.at ha
    have hyes : ky a < kx i t := (h.srt.ix (kx i t) ha).mpr (by omega)
    rw [kx_lt s2] at hyes
    have hv : vp_in (nI k) 10300 := vp_in_nI (by omega) (by decide)
    unfold wp_X6_place_2
    rw [a4, nI_1]
    refine ⟨a1, fun z => absurd ((nI_leI (by omega) (by omega)).mp z) (by omega), fun _ => ⟨a1, Wh, a8, b7, by rw [b8]; exact hv, ?_⟩⟩
    rw [nI_clamp (by omega), v1]
    refine ⟨fun _ x9 e9 => by rw [e9]; exact ih (k + 1) (by omega), fun y => ⟨a1, Wh, a8, b7, by rw [b8]; exact hv, ?_⟩⟩
    rw [v1]
    have hai : a.1 = i := by
      rcases hyes with q | q
      · exact absurd ((nI_ltI (by omega) (by omega)).mpr q) y
      · exact q.1
    refine ⟨fun y2 => absurd (by rw [hai]) y2, fun y2 => ⟨a1, Ti, a9, b9, by rw [b10]; exact hv, ?_⟩⟩
    rw [v2]
    refine ⟨fun y3 => ?_, fun y3 x20 e20 => by rw [e20]; exact ih (k + 1) (by omega)⟩
    rcases hyes with q | q
    · omega
    · exact absurd q.2 (Int32.not_lt.mpr y3)
theorem md_place (h : Mod m g u K R Z Wh Ti Va Pa n ck kd rt hz al) {i : Nat} (hin : i < n) (t : Int32) {Q : Int32 → MM → Prop} (hq : Q (nI (lo ky (kx i t) al).length) m) : wp_X6_place u (nI i) t m Q := by
  unfold wp_X6_place
  intro x1 e1
  rw [e1]
  exact ⟨_, md_place_loop h hin t hq (lo ky (kx i t) al).length 0 (Nat.zero_add _)⟩
theorem Mod.kat (h : Mod m g u K R Z Wh Ti Va Pa n ck kd rt hz al) {i : Nat} {t : Int32} {b : Nat × Int32} (hb : (i, b) ∈ al) (e : nI b.1 = t) : al[(lo ky (kx i t) al).length]? = some (i, b) := by
  rw [kx_at (h.small _ hb).2 e]
  exact h.srt.at hb
theorem md_isAt (h : Mod m g u K R Z Wh Ti Va Pa n ck kd rt hz al) {i : Nat} (hin : i < n) (t : Int32) {Q : Int32 → MM → Prop} (h1 : ∀ b, (i, b) ∈ al → nI b.1 = t → Q 1 m) (h0 : (∀ b, (i, b) ∈ al → nI b.1 ≠ t) → Q 0 m) : wp_X6_isAt u (nI (lo ky (kx i t) al).length) (nI i) t m Q := by
  have hlen := h.len
  have hn := h.n4
  have hle := lo_len ky (kx i t) al
  obtain ⟨⟨a1, a2, a3, a4, a5, a6, a7, a8, a9, a10, a11⟩, ⟨b1, b2, b3, b4, b5, b6, b7, b8, b9, b10, b11, b12, b13, b14⟩, -⟩ := id h
  unfold wp_X6_isAt
  rw [a4]
  refine ⟨a1, fun z => h0 fun b hb e => ?_, fun z => ⟨a1, Wh, a8, b7, ?_⟩⟩
  · have := (List.getElem?_eq_some_iff.mp (h.kat hb e)).1
    have := (nI_leI (by omega) (by omega)).mp z
    omega
  · have hkl : (lo ky (kx i t) al).length < al.length := by
      rcases Nat.lt_or_ge (lo ky (kx i t) al).length al.length with q | q
      · exact q
      · exact absurd ((nI_leI (by omega) (by omega)).mpr q) z
    obtain ⟨a, ha, -, hm⟩ := h.get hkl
    obtain ⟨s1, s2⟩ := h.small a hm
    obtain ⟨v1, v2, v3⟩ := h.at ha
    have hv : vp_in (nI (lo ky (kx i t) al).length) 10300 := vp_in_nI (by omega) (by decide)
    rw [b8, nI_clamp (by omega), v1]
    refine ⟨hv, fun y => h0 fun b hb e => ?_, fun y => ⟨a1, Ti, a9, b9, by rw [b10]; exact hv, ?_⟩⟩
    · have := (h.kat hb e).symm.trans ha
      cases this
      exact y rfl
    · rw [v2]
      have hai : a.1 = i := (nI_eq (by omega) (by omega)).mp y
      refine ⟨fun y2 => h0 fun b hb e => ?_, fun y2 => h1 a.2 (by rw [← hai]; exact hm) y2⟩
      have := (h.kat hb e).symm.trans ha
      cases this
      exact y2 e
theorem md_isKept (h : Mod m g u K R Z Wh Ti Va Pa n ck kd rt hz al) (hz0 : hz 0 < 2 ^ 31) {i : Nat} (hin : i < n) (t : Int32) {Q : Int32 → MM → Prop} (h1 : ∀ b ∈ hi kf (hz 0) (sub i al), nI b.1 = t → Q 1 m) (h0 : (∀ b ∈ hi kf (hz 0) (sub i al), nI b.1 ≠ t) → Q 0 m) : wp_X6_isKept u (nI i) t m Q := by
  obtain ⟨⟨a1, a2, a3, a4, a5, a6, a7, a8, a9, a10, a11⟩, ⟨b1, b2, b3, b4, b5, b6, b7, b8, b9, b10, b11, b12, b13, b14⟩, ⟨c1, c2, c3⟩, -⟩ := id h
  have z0 : (0 : Int32).toNatClampNeg = 0 := by decide
  unfold wp_X6_isKept
  refine ⟨a1, md_place h hin t ⟨a1, md_isAt h hin t (fun b hb e => ⟨fun z => absurd z (by decide), fun _ => ⟨a1, Z, a7, b5, by rw [b6]; exact vp_in_nI (n := 0) (by decide) (by decide), ?_⟩⟩) (fun z => ⟨fun _ => h0 fun b hb => z b (mem_sub.mp (mem_hi.mp hb).1), fun y => absurd rfl y⟩)⟩⟩
  have hs := (h.small _ hb).2
  have hs : b.1 < 2147483648 := hs
  rw [z0, (c1 0 (by decide)).2, ← e]
  refine ⟨fun y => h0 fun b' hb' e' => ?_, fun y => h1 b (mem_hi.mpr ⟨mem_sub.mpr hb, ?_⟩) e⟩
  · have y2 := (nI_ltI (by omega) hz0).mp y
    obtain ⟨w1, w2⟩ := mem_hi.mp hb'
    have hs' : b'.1 < 2147483648 := (h.small _ (mem_sub.mp w1)).2
    have := (nI_eq (by omega) (by omega)).mp (e'.trans e.symm)
    have w2 : hz 0 ≤ b'.1 := w2
    omega
  · show hz 0 ≤ b.1
    rcases Nat.lt_or_ge b.1 (hz 0) with q | q
    · exact absurd ((nI_ltI (by omega) hz0).mpr q) y
    · exact q
theorem md_keptPoints_loop (h : Mod m g u K R Z Wh Ti Va Pa n ck kd rt hz al) (hz0 : hz 0 < 2 ^ 31) {i : Nat} (hin : i < n) {Q : Int32 → MM → Prop} : ∀ (r k acc : Nat), k + r = al.length → Q (nI (acc + (hi kf (hz 0) (sub i (al.drop k))).length)) m → wp_X6_keptPoints_4 Q (r + 1) u (nI i) (nI acc) (nI k) m := by
  have hlen := h.len
  have hn := h.n4
  obtain ⟨⟨a1, a2, a3, a4, a5, a6, a7, a8, a9, a10, a11⟩, ⟨b1, b2, b3, b4, b5, b6, b7, b8, b9, b10, b11, b12, b13, b14⟩, ⟨c1, c2, c3⟩, -⟩ := id h
  have z0 : (0 : Int32).toNatClampNeg = 0 := by decide
  intro r
  induction r with
  | zero =>
    intro k acc hk hq
    have ek : k = al.length := by omega
    unfold wp_X6_keptPoints_4
    rw [a4, ek]
    refine ⟨a1, fun _ => ?_, fun z => absurd (Int32.le_refl _) z⟩
    rw [ek, List.drop_eq_nil_of_le (Nat.le_refl _)] at hq
    exact hq
  | succ r ih =>
    intro k acc hk hq
    have hkl : k < al.length := by omega
    obtain ⟨a, ha, hd, hm⟩ := h.get hkl
    obtain ⟨s1, s2⟩ := h.small a hm
    obtain ⟨v1, v2, v3⟩ := h.at ha
    have hv : vp_in (nI k) 10300 := vp_in_nI (by omega) (by decide)
    unfold wp_X6_keptPoints_4
    rw [a4, nI_1, Int32.add_zero]
    refine ⟨a1, fun z => absurd ((nI_leI (by omega) (by omega)).mp z) (by omega), fun _ => ⟨a1, Wh, a8, b7, by rw [b8]; exact hv, ?_⟩⟩
    rw [nI_clamp (by omega), v1]
    refine ⟨fun y x10 e10 x11 e11 => ?_, fun y => ⟨a1, Ti, a9, b9, by rw [b10]; exact hv, a1, Z, a7, b5, by rw [b6]; exact vp_in_nI (n := 0) (by decide) (by decide), ?_⟩⟩
    · rw [e10, e11]
      refine ih (k + 1) acc (by omega) ?_
      rw [hd, sub_cons_ne (fun z => y (by rw [z]))] at hq
      exact hq
    · have hai : a.1 = i := (nI_eq (by omega) (by omega)).mp y
      rw [v2, z0, (c1 0 (by decide)).2]
      rw [hd, sub_cons_eq hai] at hq
      refine ⟨fun y2 x21 e21 x22 e22 => ?_, fun y2 x23 e23 x24 e24 => ?_⟩
      · have y3 := (nI_ltI (by omega) hz0).mp y2
        rw [e21, e22]
        refine ih (k + 1) acc (by omega) ?_
        rw [hi_cons_lt (by exact y3)] at hq
        exact hq
      · have y3 : hz 0 ≤ a.2.1 := by
          rcases Nat.lt_or_ge a.2.1 (hz 0) with q | q
          · exact absurd ((nI_ltI (by omega) hz0).mpr q) y2
          · exact q
        rw [e23, e24, nI_1]
        refine ih (k + 1) (acc + 1) (by omega) ?_
        rw [hi_cons_ge (by exact y3), List.length_cons, ← Nat.add_assoc, Nat.add_right_comm] at hq
        exact hq
theorem md_keptPoints (h : Mod m g u K R Z Wh Ti Va Pa n ck kd rt hz al) (hz0 : hz 0 < 2 ^ 31) {i : Nat} (hin : i < n) {Q : Int32 → MM → Prop} (hq : Q (nI (hi kf (hz 0) (sub i al)).length) m) : wp_X6_keptPoints u (nI i) m Q := by
  unfold wp_X6_keptPoints
  intro x1 e1 x2 e2
  rw [e1, e2]
  refine ⟨_, md_keptPoints_loop h hz0 hin al.length 0 0 (Nat.zero_add _) ?_⟩
  rw [Nat.zero_add]
  exact hq
theorem md_isValue (h : Mod m g u K R Z Wh Ti Va Pa n ck kd rt hz al) (hkd : ∀ i, i < n → kd i ≤ 1) {i : Nat} (hin : i < n) {v : Int32} {Q : Int32 → MM → Prop} (h1 : okV (kd i) v → Q 1 m) (h0 : ¬ okV (kd i) v → Q 0 m) : wp_X6_isValue u (nI i) v m Q := by
  have hn := h.n4
  have hk := hkd i hin
  obtain ⟨⟨a1, a2, a3, a4, a5, a6, a7, a8, a9, a10, a11⟩, ⟨b1, b2, b3, b4, b5, b6, b7, b8, b9, b10, b11, b12, b13, b14⟩, ⟨c1, c2, c3⟩, -⟩ := id h
  unfold wp_X6_isValue
  refine ⟨a1, K, a5, b1, by rw [b2]; exact vp_in_nI (by omega) (by decide), ?_⟩
  rw [nI_clamp (by omega), c2 i hin]
  refine ⟨fun y => md_isIn (fun z1 z2 => ⟨Or.inr rfl, h1 ⟨?_, Int32.not_lt.mp z2⟩⟩) (fun z => ⟨Or.inl rfl, h0 fun q => ?_⟩), fun y => md_isIn (fun z1 z2 => ⟨Or.inr rfl, h1 ⟨?_, Int32.not_lt.mp z2⟩⟩) (fun z => ⟨Or.inl rfl, h0 fun q => ?_⟩)⟩
  · rw [if_neg (fun z => y (by rw [z]; exact nI_11))]
    exact Int32.not_lt.mp z1
  · obtain ⟨q1, q2⟩ := q
    rw [if_neg (fun z => y (by rw [z]; exact nI_11))] at q1
    rcases z with z | z
    · exact Int32.not_lt.mpr q1 z
    · exact Int32.not_lt.mpr q2 z
  · rw [if_pos ((nI_eq (a := kd i) (b := 1) (by omega) (by omega)).mp y)]
    exact Int32.not_lt.mp z1
  · obtain ⟨q1, q2⟩ := q
    rw [if_pos ((nI_eq (a := kd i) (b := 1) (by omega) (by omega)).mp y)] at q1
    rcases z with z | z
    · exact Int32.not_lt.mpr q1 z
    · exact Int32.not_lt.mpr q2 z
theorem md_fault (h : Mod m g u K R Z Wh Ti Va Pa n ck kd rt hz al) (hkd : ∀ i, i < n → kd i ≤ 1) (hck : ck < 2 ^ 31) (hz0 : hz 0 < 2 ^ 31) {i : Nat} (hin : i < n) (h100 : (hi kf (hz 0) (sub i al)).length ≤ 100) {p2 p3 : Int32} {Q : Int32 → MM → Prop} (h2 : (∀ x, p2 = nI x → x ≤ ck → ¬ okV (kd i) p3) → Q 2 m) (h3 : ∀ x, p2 = nI x → x ≤ ck → okV (kd i) p3 → ¬ (ck ≤ x + 3600 ∧ ((hi kf (hz 0) (sub i al)).length < 100 ∨ ∃ b ∈ hi kf (hz 0) (sub i al), b.1 = x)) → Q 3 m) (h0 : ∀ x, p2 = nI x → x ≤ ck → okV (kd i) p3 → (ck ≤ x + 3600 ∧ ((hi kf (hz 0) (sub i al)).length < 100 ∨ ∃ b ∈ hi kf (hz 0) (sub i al), b.1 = x)) → Q 0 m) : wp_X6_fault u (nI i) p2 p3 m Q := by
  have a1 := h.1.1
  have a2 := h.1.2.1
  unfold wp_X6_fault
  rw [a2]
  refine ⟨fun z => h2 fun x e hx _ => ?_, fun z => ⟨a1, fun y => h2 fun x e hx _ => ?_, fun y => ⟨a1, ?_⟩⟩⟩
  · rw [e] at z
    exact nI_pos (by omega) z
  · rw [e] at y
    have := (nI_ltI hck (by omega)).mp y
    omega
  · obtain ⟨x, hx, e⟩ := nI_of z
    have hxc : x ≤ ck := by
      rcases Nat.lt_or_ge ck x with q | q
      · exact absurd (by rw [e]; exact (nI_ltI hck hx).mpr q) y
      · exact q
    refine md_isValue h hkd hin (fun hv => ⟨fun _ => ⟨a1, ?_⟩, fun q => absurd q (by decide)⟩) (fun hv => ⟨fun q => absurd rfl q, fun _ => h2 fun x' _ _ => hv⟩)
    rw [a2, e]
    refine ⟨fun q => h3 x e hxc hv fun w => ?_, fun q => ⟨a1, ?_⟩⟩
    · exact Int32.not_lt.mpr ((old_iff hck hx).mpr w.1) q
    · have hold : ck ≤ x + 3600 := (old_iff hck hx).mp (Int32.not_lt.mp q)
      refine md_isKept h hz0 hin (nI x) (fun b hb eb => ⟨fun _ => h0 x e hxc hv ⟨hold, Or.inr ⟨b, hb, ?_⟩⟩, fun w => absurd w (by decide)⟩) (fun hnb => ⟨fun w => absurd rfl w, fun _ => ⟨a1, md_keptPoints h hz0 hin ?_⟩⟩)
      · have hs : b.1 < 2147483648 := (h.small _ (mem_sub.mp (mem_hi.mp hb).1)).2
        exact (nI_eq (by omega) hx).mp eb
      · refine ⟨fun w => h0 x e hxc hv ⟨hold, Or.inl ?_⟩, fun w => h3 x e hxc hv fun w2 => ?_⟩
        · have : (hi kf (hz 0) (sub i al)).length ≠ 100 := fun w2 => w (by rw [w2]; rfl)
          omega
        · have w9 : (hi kf (hz 0) (sub i al)).length = 100 := (nI_eq (a := (hi kf (hz 0) (sub i al)).length) (b := 100) (by omega) (by omega)).mp w
          rcases w2.2 with w3 | ⟨b, hb, eb⟩
          · omega
          · exact hnb b hb (by rw [eb])
end
