/-! THE MODEL: its rows hold the points of all series, in the order of series and times -/
abbrev AT : Type := Nat × Nat × Int32
abbrev ky : AT → Nat := fun a => a.1 * 2147483648 + a.2.1
/-- the points of a series -/
def sub (i : Nat) (al : List AT) : List (Nat × Int32) := (al.filter (fun a => decide (a.1 = i))).map (·.2)
theorem mem_sub {i : Nat} {al : List AT} {p : Nat × Int32} : p ∈ sub i al ↔ (i, p) ∈ al := by
  unfold sub
  rw [List.mem_map]
  constructor
  · rintro ⟨a, ha, e⟩
    obtain ⟨h1, h2⟩ := List.mem_filter.mp ha
    have h3 := of_decide_eq_true h2
    rw [← e, ← h3]
    exact h1
  · intro h
    exact ⟨(i, p), List.mem_filter.mpr ⟨h, decide_eq_true rfl⟩, rfl⟩
theorem sub_len (i : Nat) (al : List AT) : (sub i al).length ≤ al.length := by
  unfold sub
  rw [List.length_map]
  exact List.length_filter_le _ _
theorem sub_srt {al : List AT} (h : Srt ky al) (i : Nat) : Srt kf (sub i al) := by
  unfold sub Srt
  rw [List.pairwise_map]
  refine List.Pairwise.imp_of_mem (fun {a b} ha hb hab => ?_) (List.Pairwise.filter _ h)
  have h1 := of_decide_eq_true (List.mem_filter.mp ha).2
  have h2 := of_decide_eq_true (List.mem_filter.mp hb).2
  have h3 : a.1 * 2147483648 + a.2.1 < b.1 * 2147483648 + b.2.1 := hab
  show a.2.1 < b.2.1
  omega
theorem sub_ins {al : List AT} (h : Srt ky al) (i x : Nat) (v : Int32) : sub i (ins ky (i, x, v) al) = ins kf (x, v) (sub i al) := by
  refine Srt.ext (f := kf) (sub_srt (h.ins _) i) (Srt.ins (f := kf) (sub_srt h i) _) fun p => ?_
  rw [mem_sub, mem_ins, mem_ins, mem_sub]
  constructor
  · rintro (e | ⟨h1, h2⟩)
    · exact Or.inl (congrArg Prod.snd e)
    · refine Or.inr ⟨h1, fun z => h2 ?_⟩
      show i * 2147483648 + p.1 = i * 2147483648 + x
      have z : p.1 = x := z
      rw [z]
  · rintro (e | ⟨h1, h2⟩)
    · exact Or.inl (by rw [e])
    · refine Or.inr ⟨h1, fun z => h2 ?_⟩
      have z : i * 2147483648 + p.1 = i * 2147483648 + x := z
      show p.1 = x
      omega
theorem sub_ins_ne {al : List AT} (h : Srt ky al) (hs : ∀ a ∈ al, a.2.1 < 2147483648) {i j x : Nat} {v : Int32} (hx : x < 2147483648) (hj : j ≠ i) : sub j (ins ky (i, x, v) al) = sub j al := by
  refine Srt.ext (f := kf) (sub_srt (h.ins _) j) (sub_srt h j) fun p => ?_
  rw [mem_sub, mem_ins, mem_sub]
  constructor
  · rintro (e | ⟨h1, h2⟩)
    · exact absurd (congrArg Prod.fst e) hj
    · exact h1
  · intro h1
    refine Or.inr ⟨h1, fun z => ?_⟩
    have z : j * 2147483648 + p.1 = i * 2147483648 + x := z
    have hp : p.1 < 2147483648 := hs _ h1
    omega
theorem sub_del {al : List AT} (h : Srt ky al) (i x : Nat) : sub i (del ky (i * 2147483648 + x) al) = del kf x (sub i al) := by
  refine Srt.ext (f := kf) (sub_srt (h.del _) i) (Srt.del (f := kf) (sub_srt h i) _) fun p => ?_
  rw [mem_sub, mem_del, mem_del, mem_sub]
  constructor
  · rintro ⟨h1, h2⟩
    refine ⟨h1, fun z => h2 ?_⟩
    have z : p.1 = x := z
    show i * 2147483648 + p.1 = i * 2147483648 + x
    rw [z]
  · rintro ⟨h1, h2⟩
    refine ⟨h1, fun z => h2 ?_⟩
    have z : i * 2147483648 + p.1 = i * 2147483648 + x := z
    show p.1 = x
    omega
theorem sub_del_ne {al : List AT} (h : Srt ky al) (hs : ∀ a ∈ al, a.2.1 < 2147483648) {i j x : Nat} (hx : x < 2147483648) (hj : j ≠ i) : sub j (del ky (i * 2147483648 + x) al) = sub j al := by
  refine Srt.ext (f := kf) (sub_srt (h.del _) j) (sub_srt h j) fun p => ?_
  rw [mem_sub, mem_del, mem_sub]
  constructor
  · exact fun z => z.1
  · intro h1
    refine ⟨h1, fun z => ?_⟩
    have z : j * 2147483648 + p.1 = i * 2147483648 + x := z
    have hp : p.1 < 2147483648 := hs _ h1
    omega
/-- the model: tags of its objects are below 8, 1 its own; no other of tag 1 is touched -/
def Mod (m : MM) (g : Nat → Nat) (u K R Z Wh Ti Va Pa n ck : Nat) (kd rt hz : Nat → Nat) (al : List AT) : Prop :=
  (mK m u = 7 ∧ mI m 120 u = nI ck ∧ mI m 121 u = nI n ∧ mI m 122 u = nI al.length ∧ mR m 123 u = some K ∧ mR m 124 u = some R ∧ mR m 125 u = some Z ∧ mR m 126 u = some Wh ∧ mR m 127 u = some Ti ∧ mR m 128 u = some Va ∧ mR m 135 u = some Pa) ∧
  (mK m K = 11 ∧ mN m K = 4 ∧ mK m R = 11 ∧ mN m R = 4 ∧ mK m Z = 11 ∧ mN m Z = 4 ∧ mK m Wh = 11 ∧ mN m Wh = 10300 ∧ mK m Ti = 11 ∧ mN m Ti = 10300 ∧ mK m Va = 11 ∧ mN m Va = 10300 ∧ mK m Pa = 12 ∧ mN m Pa = 10) ∧
  ((∀ i, i ≤ 3 → mAI m R i = nI (rt i) ∧ mAI m Z i = nI (hz i)) ∧ (∀ i, i < n → mAI m K i = nI (kd i)) ∧ ∀ j a, al[j]? = some a → mAI m Wh j = nI a.1 ∧ mAI m Ti j = nI a.2.1 ∧ mAI m Va j = a.2.2) ∧
  (g u = 1 ∧ g K = 2 ∧ g R = 3 ∧ g Z = 4 ∧ g Wh = 5 ∧ g Ti = 6 ∧ g Va = 7 ∧ g Pa = 0) ∧
  n ≤ 4 ∧ al.length ≤ 10300 ∧ (∀ a ∈ al, a.1 < n ∧ a.2.1 < 2147483648) ∧ Srt ky al
section
variable {m : MM} {g : Nat → Nat} {u K R Z Wh Ti Va Pa n ck : Nat} {kd rt hz : Nat → Nat} {al : List AT}
theorem Mod.fr {S : Nat → Prop} {m' : MM} (h : Mod m g u K R Z Wh Ti Va Pa n ck kd rt hz al) (hf : Fr S m m') (hS : ∀ x, (x = u ∨ (g x < 8 ∧ g x ≠ 1)) → ¬ S x) : Mod m' g u K R Z Wh Ti Va Pa n ck kd rt hz al := by
  obtain ⟨⟨a1, a2, a3, a4, a5, a6, a7, a8, a9, a10, a11⟩, ⟨b1, b2, b3, b4, b5, b6, b7, b8, b9, b10, b11, b12, b13, b14⟩, ⟨c1, c2, c3⟩, ⟨d1, d2, d3, d4, d5, d6, d7, d8⟩, e⟩ := h
  have nS : ∀ x k, g x = k → k < 8 → k ≠ 1 → ¬ S x := fun x k q1 q2 q3 => hS x (Or.inr ⟨by omega, by omega⟩)
  obtain ⟨u1, -, u2⟩ := hf u (by rw [a1]; decide)
  obtain ⟨u3, -, u4, -⟩ := u2 (hS u (Or.inl rfl))
  obtain ⟨k1, k2, k3⟩ := hf K (by rw [b1]; decide)
  obtain ⟨-, -, -, k4, -⟩ := k3 (nS K 2 d2 (by decide) (by decide))
  obtain ⟨r1, r2, r3⟩ := hf R (by rw [b3]; decide)
  obtain ⟨-, -, -, r4, -⟩ := r3 (nS R 3 d3 (by decide) (by decide))
  obtain ⟨z1, z2, z3⟩ := hf Z (by rw [b5]; decide)
  obtain ⟨-, -, -, z4, -⟩ := z3 (nS Z 4 d4 (by decide) (by decide))
  obtain ⟨w1, w2, w3⟩ := hf Wh (by rw [b7]; decide)
  obtain ⟨-, -, -, w4, -⟩ := w3 (nS Wh 5 d5 (by decide) (by decide))
  obtain ⟨t1, t2, t3⟩ := hf Ti (by rw [b9]; decide)
  obtain ⟨-, -, -, t4, -⟩ := t3 (nS Ti 6 d6 (by decide) (by decide))
  obtain ⟨v1, v2, v3⟩ := hf Va (by rw [b11]; decide)
  obtain ⟨-, -, -, v4, -⟩ := v3 (nS Va 7 d7 (by decide) (by decide))
  obtain ⟨p1, p2, -⟩ := hf Pa (by rw [b13]; decide)
  refine ⟨⟨by rw [u1, a1], by rw [u3, a2], by rw [u3, a3], by rw [u3, a4], by rw [u4, a5], by rw [u4, a6], by rw [u4, a7], by rw [u4, a8], by rw [u4, a9], by rw [u4, a10], by rw [u4, a11]⟩, ⟨by rw [k1, b1], by rw [k2, b2], by rw [r1, b3], by rw [r2, b4], by rw [z1, b5], by rw [z2, b6], by rw [w1, b7], by rw [w2, b8], by rw [t1, b9], by rw [t2, b10], by rw [v1, b11], by rw [v2, b12], by rw [p1, b13], by rw [p2, b14]⟩, ⟨fun i hi => by rw [r4, z4]; exact c1 i hi, fun i hi => by rw [k4]; exact c2 i hi, fun j a hj => by rw [w4, t4, v4]; exact c3 j a hj⟩, ⟨d1, d2, d3, d4, d5, d6, d7, d8⟩, e⟩
theorem Mod.tag {g' : Nat → Nat} (h : Mod m g u K R Z Wh Ti Va Pa n ck kd rt hz al) (hg : ∀ a, mK m a ≠ 0 → g' a = g a) : Mod m g' u K R Z Wh Ti Va Pa n ck kd rt hz al := by
  obtain ⟨a, b, c, ⟨d1, d2, d3, d4, d5, d6, d7, d8⟩, e⟩ := h
  obtain ⟨b1, b2, b3, b4, b5, b6, b7, b8, b9, b10, b11, b12, b13, b14⟩ := id b
  exact ⟨a, b, c, ⟨(hg u (by rw [a.1]; decide)).trans d1, (hg K (by rw [b1]; decide)).trans d2, (hg R (by rw [b3]; decide)).trans d3, (hg Z (by rw [b5]; decide)).trans d4, (hg Wh (by rw [b7]; decide)).trans d5, (hg Ti (by rw [b9]; decide)).trans d6, (hg Va (by rw [b11]; decide)).trans d7, (hg Pa (by rw [b13]; decide)).trans d8⟩, e⟩
/-- writes to what the model only reckons with -/
theorem Mod.scr {m' : MM} (h : Mod m g u K R Z Wh Ti Va Pa n ck kd rt hz al) (hK : mK m' = mK m) (hN : mN m' = mN m) (hR : mR m' = mR m) (hA : mAI m' = mAI m) (hI : mI m' 120 u = mI m 120 u ∧ mI m' 121 u = mI m 121 u ∧ mI m' 122 u = mI m 122 u) : Mod m' g u K R Z Wh Ti Va Pa n ck kd rt hz al := by
  obtain ⟨a, b, c, d, e⟩ := h
  refine ⟨?_, ?_, ?_, d, e⟩
  · rw [hK, hR, hI.1, hI.2.1, hI.2.2]; exact a
  · rw [hK, hN]; exact b
  · rw [hA]; exact c
theorem Mod.sI (h : Mod m g u K R Z Wh Ti Va Pa n ck kd rt hz al) {f : Nat} (hf : 123 ≤ f) (x : Int32) : Mod (_root_.Jvm.Pilot.CRollupStoreLaw_law_r5158_f1a2ae.sI m f u x) g u K R Z Wh Ti Va Pa n ck kd rt hz al := by
  refine h.scr rfl rfl rfl rfl ⟨?_, ?_, ?_⟩
  · rw [i_sI, if_neg (fun z => by omega)]
  · rw [i_sI, if_neg (fun z => by omega)]
  · rw [i_sI, if_neg (fun z => by omega)]
/-- can, of a fault and of none -/
theorem md_no (h : Mod m g u K R Z Wh Ti Va Pa n ck kd rt hz al) {c : Int32} (hc : ¬ c = 0) {Q : Int32 → MM → Prop} (hq : ∀ m', Mod m' g u K R Z Wh Ti Va Pa n ck kd rt hz al → mI m' 136 u = c → Fr (fun x => x = u) m m' → Q 0 m') : wp_X6_can u c m Q := by
  unfold wp_X6_can
  refine ⟨h.1.1, fun m2 e2 => ⟨fun _ => ?_, fun z => absurd z hc⟩⟩
  subst e2
  exact hq _ (h.sI (by decide) c) (by rw [i_sI, if_pos ⟨rfl, rfl⟩]) (Fr.sI _ _ _ _)
theorem md_yes (h : Mod m g u K R Z Wh Ti Va Pa n ck kd rt hz al) {Q : Int32 → MM → Prop} (hq : ∀ m', Mod m' g u K R Z Wh Ti Va Pa n ck kd rt hz al → mI m' 136 u = 0 → Fr (fun x => x = u) m m' → Q 1 m') : wp_X6_can u 0 m Q := by
  unfold wp_X6_can
  refine ⟨h.1.1, fun m2 e2 => ⟨fun z => absurd rfl z, fun _ => ?_⟩⟩
  subst e2
  exact hq _ (h.sI (by decide) 0) (by rw [i_sI, if_pos ⟨rfl, rfl⟩]) (Fr.sI _ _ _ _)
theorem md_isSeries (h : Mod m g u K R Z Wh Ti Va Pa n ck kd rt hz al) {p : Int32} {Q : Int32 → MM → Prop} (h1 : ∀ i, i < n → p = nI i → Q 1 m) (h0 : (p < 0 ∨ ¬ p < nI n) → Q 0 m) : wp_X6_isSeries u p m Q := by
  have hn := h.2.2.2.2.1
  unfold wp_X6_isSeries
  rw [h.1.2.2.1]
  refine ⟨fun z => h0 (Or.inl z), fun z => ⟨h.1.1, fun y => h0 (Or.inr (Int32.not_lt.mpr y)), fun y => ?_⟩⟩
  obtain ⟨i, hi, e⟩ := nI_of z
  have y := Int32.not_le.mp y
  rw [e] at y
  exact h1 i ((nI_ltI hi (by omega)).mp y) e
theorem md_isIn {p a b : Int32} {Q : Int32 → MM → Prop} (h1 : ¬ p < a → ¬ b < p → Q 1 m) (h0 : (p < a ∨ b < p) → Q 0 m) : wp_X6_isIn p a b m Q := by
  unfold wp_X6_isIn
  exact ⟨fun z => h0 (Or.inl z), fun z => ⟨fun y => h0 (Or.inr y), fun y => h1 z y⟩⟩
theorem md_rng {p : Int32} {a b : Nat} (ha : a < 2 ^ 31) (hb : b < 2 ^ 31) {aI bI : Int32} (ea : aI = nI a) (eb : bI = nI b) {Q : Int32 → MM → Prop} (h1 : ∀ i, p = nI i → a ≤ i → i ≤ b → Q 1 m) (h0 : (∀ i, p = nI i → a ≤ i → b < i ∨ 2 ^ 31 ≤ i) → Q 0 m) : wp_X6_isIn p aI bI m Q := by
  subst ea eb
  refine md_isIn (fun z y => ?_) (fun z => h0 fun i e h => ?_)
  · obtain ⟨i, e, h2, h3⟩ := rng_nI ha hb z (Int32.not_lt.mp y)
    exact h1 i e h2 h3
  · rcases Nat.lt_or_ge i (2 ^ 31) with q | q
    · refine Or.inl ?_
      rcases z with z | z
      · rw [e] at z
        have := (nI_ltI q ha).mp z
        omega
      · rw [e] at z
        exact (nI_ltI hb q).mp z
    · exact Or.inr q
theorem md_isTier {p : Int32} {Q : Int32 → MM → Prop} (h1 : ∀ i, p = nI i → i ≤ 3 → Q 1 m) (h0 : (∀ i, p = nI i → 3 < i ∨ 2 ^ 31 ≤ i) → Q 0 m) : wp_X6_isTier p m Q :=
  md_rng (m := m) (p := p) (a := 0) (b := 3) (by decide) (by decide) (aI := 0) (bI := 3) (by decide) (by decide) (Q := Q) (fun i e _ h => h1 i e h) (fun z => h0 fun i e => z i e (Nat.zero_le _))
theorem md_isRolled {p : Int32} {Q : Int32 → MM → Prop} (h1 : ∀ i, p = nI i → 1 ≤ i → i ≤ 3 → Q 1 m) (h0 : (∀ i, p = nI i → 1 ≤ i → 3 < i ∨ 2 ^ 31 ≤ i) → Q 0 m) : wp_X6_isRolled p m Q :=
  md_rng (m := m) (p := p) (a := 1) (b := 3) (by decide) (by decide) (aI := 1) (bI := 3) (by decide) (by decide) (Q := Q) h1 h0
theorem md_length {t : Nat} (h1 : 1 ≤ t) (h3 : t ≤ 3) {Q : Int32 → MM → Prop} (hq : Q (nI (ln t)) m) : wp_X6_length (nI t) m Q := by
  unfold wp_X6_length
  have : t = 1 ∨ t = 2 ∨ t = 3 := by omega
  rcases this with rfl | rfl | rfl
  · exact ⟨fun z => absurd rfl z, fun _ => hq⟩
  · exact ⟨fun _ => ⟨fun z => absurd rfl z, fun _ => hq⟩, fun z => absurd z (by decide)⟩
  · exact ⟨fun _ => ⟨fun _ => hq, fun z => absurd z (by decide)⟩, fun z => absurd z (by decide)⟩
theorem md_begin {t x : Nat} (h1 : 1 ≤ t) (h3 : t ≤ 3) (hx : x < 2 ^ 31) {Q : Int32 → MM → Prop} (hq : Q (nI (bg (ln t) x)) m) : wp_X6_begin (nI t) (nI x) m Q := by
  have l0 := ln_pos t
  have l1 := ln_le t
  unfold wp_X6_begin
  refine md_length h1 h3 ⟨nI_ne0 l0 (by omega), md_length h1 h3 ?_⟩
  rw [pk_div hx l0 (by omega), pk_mul]
  exact hq
theorem md_isGone (h : Mod m g u K R Z Wh Ti Va Pa n ck kd rt hz al) {t b : Nat} (h1 : 1 ≤ t) (h3 : t ≤ 3) (hb : b < 2 ^ 62) (hzt : hz t < 2 ^ 31) {B : Int64} (eB : B = lN b) {Q : Int32 → MM → Prop} (q0 : hz t < b + ln t → Q 0 m) (q1 : b + ln t ≤ hz t → Q 1 m) : wp_X6_isGone u (nI t) B m Q := by
  have l1 := ln_le t
  obtain ⟨⟨a1, a2, a3, a4, a5, a6, a7, a8⟩, ⟨b1, b2, b3, b4, b5, b6, b7⟩, ⟨c1, c2, c3⟩, d⟩ := h
  unfold wp_X6_isGone
  refine md_length h1 h3 ⟨a1, Z, a7, b5, by rw [b6]; exact vp_in_nI (by omega) (by decide), ?_⟩
  rw [eB, nI_clamp (by omega), (c1 t h3).2, nI_l (by omega), nI_l hzt, lN_add, lg_cmp_gt, pk_lLT (by omega) (by omega)]
  exact ⟨q0, fun z => q1 (by omega)⟩
end
