/-! ADVANCE AND SETRETENTION -/
theorem Sto.clk {m : MM} {g : Nat → Nat} {o A R Z w su n ck : Nat} {sa kd rt hz : Nat → Nat} {Pl : Nat → List (Nat × Int32)} {Cs : Nat → Nat → Nat} (h : Sto m g o A R Z w su n ck sa kd rt hz Pl Cs) (ck' : Nat) : Sto (sI m 102 o (nI ck')) g o A R Z w su n ck' sa kd rt hz Pl Cs := by
  obtain ⟨⟨a1, a2, a3, a4, a5, a6, a7, a8⟩, ⟨b1, b2, b3, b4, b5, b6, b7, b8, b9⟩, c, d, e, f⟩ := id h
  refine ⟨⟨a1, a2, ?_, ?_, a5, a6, a7, a8⟩, ⟨b1, b2, b3, b4, b5, b6, b7, b8, b9⟩, c, d, e, fun i hi => ⟨(f i hi).1, (f i hi).2.fr (Fr.sI _ _ _ _) (fun a q1 q2 z => ?_)⟩⟩
  · rw [i_sI, if_neg (fun z => absurd z.1 (by decide))]; exact a3
  · rw [i_sI, if_pos ⟨rfl, rfl⟩]
  · have z : a = o := z
    have := d o (by simp)
    rw [z] at q1
    omega
theorem Sto.ret {m : MM} {g : Nat → Nat} {o A R Z w su n ck : Nat} {sa kd rt hz : Nat → Nat} {Pl : Nat → List (Nat × Int32)} {Cs : Nat → Nat → Nat} (h : Sto m g o A R Z w su n ck sa kd rt hz Pl Cs) (t s : Nat) : Sto (sAI m R (va_up (mAI m R) t (nI s))) g o A R Z w su n ck sa kd (va_up rt t s) hz Pl Cs := by
  obtain ⟨⟨a1, a2, a3, a4, a5, a6, a7, a8⟩, ⟨b1, b2, b3, b4, b5, b6, b7, b8, b9⟩, c, d, e, f⟩ := id h
  refine ⟨⟨a1, a2, a3, a4, a5, a6, a7, a8⟩, ⟨b1, b2, b3, b4, b5, b6, b7, b8, b9⟩, fun i hi => ⟨?_, ?_⟩, d, e, fun i hi => ⟨(f i hi).1, (f i hi).2.fr (Fr.sAI _ _ _) (fun a q1 q2 z => ?_)⟩⟩
  · rw [ai_sAI, if_pos rfl]
    by_cases q : i = t
    · rw [q, va_up_self, va_up_self]
    · rw [va_up_ne _ _ q, va_up_ne _ _ q]
      exact (c i hi).1
  · rw [ai_sAI, if_neg (fun z => b9 z.symm)]
    exact (c i hi).2
  · have z : a = R := z
    have := d R (by simp)
    rw [z] at q1
    omega
theorem rws_congr {f f' : Nat → Nat} {P : List (Nat × Int32)} {t : Nat} (h : f t = f' t) : rws f P t = rws f' P t := by
  unfold rws
  by_cases e : t = 0
  · subst e
    rw [if_pos rfl, if_pos rfl, h]
  · rw [if_neg e, if_neg e, h]
theorem rws_mono {f f' : Nat → Nat} {P : List (Nat × Int32)} {t : Nat} (h : f t ≤ f' t) : rws f' P t ≤ rws f P t := by
  unfold rws
  by_cases e : t = 0
  · subst e
    rw [if_pos rfl, if_pos rfl, ← hi_hi h]
    exact List.length_filter_le _ _
  · rw [if_neg e, if_neg e, ← gk_later h]
    exact List.length_filter_le _ _
/-- the horizons when the first k tiers have been moved -/
def hzE (rt : Nat → Nat) (ck : Nat) (hz : Nat → Nat) (k : Nat) : Nat → Nat := fun i => if i < k then max (hz i) (ck - rt i) else hz i
theorem hzE_0 (rt : Nat → Nat) (ck : Nat) (hz : Nat → Nat) : hzE rt ck hz 0 = hz := funext fun i => if_neg (Nat.not_lt_zero i)
theorem hzE_at (rt : Nat → Nat) (ck : Nat) (hz : Nat → Nat) (k : Nat) : hzE rt ck hz k k = hz k := if_neg (Nat.lt_irrefl k)
theorem hzE_lt {rt : Nat → Nat} {ck : Nat} {hz : Nat → Nat} {k i : Nat} (h : i < k) : hzE rt ck hz k i = max (hz i) (ck - rt i) := if_pos h
theorem hzE_up (rt : Nat → Nat) (ck : Nat) (hz : Nat → Nat) (k : Nat) : va_up (hzE rt ck hz k) k (max (hzE rt ck hz k k) (ck - rt k)) = hzE rt ck hz (k + 1) := by
  funext i
  by_cases q : i = k
  · rw [q, va_up_self, hzE_at, hzE_lt (Nat.lt_succ_self k)]
  · rw [va_up_ne _ _ q]
    by_cases q2 : i < k
    · rw [hzE_lt q2, hzE_lt (by omega)]
    · show (if i < k then _ else _) = (if i < k + 1 then _ else _)
      rw [if_neg q2, if_neg (by omega)]
theorem hzE_ge (rt : Nat → Nat) (ck : Nat) (hz : Nat → Nat) (k i : Nat) : hz i ≤ hzE rt ck hz k i := by
  unfold hzE
  by_cases q : i < k
  · rw [if_pos q]; exact Nat.le_max_left _ _
  · rw [if_neg q]; exact Nat.le_refl _
theorem hzE_lt30 {rt : Nat → Nat} {ck : Nat} {hz : Nat → Nat} {k i : Nat} (h : hz i < 2 ^ 30) (hc : ck < 2 ^ 30) : hzE rt ck hz k i < 2 ^ 30 := by
  unfold hzE
  by_cases q : i < k
  · rw [if_pos q]; omega
  · rw [if_neg q]; exact h
theorem gone_congr {a b : Nat → Nat} (h : ∀ i, a i = b i) : ∀ k j, gone a k j = gone b k j
  | 0, _ => rfl
  | k + 1, j => by
    show a j + gone a k (j + 1) = b j + gone b k (j + 1)
    rw [h j, gone_congr h k (j + 1)]
theorem gone_add (a b : Nat → Nat) : ∀ k j, gone (fun i => a i + b i) k j = gone a k j + gone b k j
  | 0, _ => rfl
  | k + 1, j => by
    show (a j + b j) + gone (fun i => a i + b i) k (j + 1) = (a j + gone a k (j + 1)) + (b j + gone b k (j + 1))
    rw [gone_add a b k (j + 1)]
    omega
/-- the rows of a series, of all tiers -/
def all4 (hz : Nat → Nat) (P : List (Nat × Int32)) : Nat := rws hz P 0 + rws hz P 1 + rws hz P 2 + rws hz P 3
/-- what goes of tier t -/
def gon (rt : Nat → Nat) (ck : Nat) (hz : Nat → Nat) (Pl : Nat → List (Nat × Int32)) (n t : Nat) : Nat := gone (fun i => rws hz (Pl i) t - rws (hzE rt ck hz 4) (Pl i) t) n 0
def gonT (rt : Nat → Nat) (ck : Nat) (hz : Nat → Nat) (Pl : Nat → List (Nat × Int32)) (n : Nat) : Nat → Nat → Nat
  | 0, _ => 0
  | k + 1, t => gon rt ck hz Pl n t + gonT rt ck hz Pl n k (t + 1)
theorem gon_all (rt : Nat → Nat) (ck : Nat) (hz : Nat → Nat) (Pl : Nat → List (Nat × Int32)) (n : Nat) : gonT rt ck hz Pl n 4 0 + gone (fun i => all4 (hzE rt ck hz 4) (Pl i)) n 0 = gone (fun i => all4 hz (Pl i)) n 0 := by
  show gon rt ck hz Pl n 0 + (gon rt ck hz Pl n 1 + (gon rt ck hz Pl n 2 + (gon rt ck hz Pl n 3 + 0))) + gone (fun i => all4 (hzE rt ck hz 4) (Pl i)) n 0 = gone (fun i => all4 hz (Pl i)) n 0
  have e := gone_congr (a := fun i => all4 hz (Pl i)) (b := fun i => ((((rws hz (Pl i) 0 - rws (hzE rt ck hz 4) (Pl i) 0) + (rws hz (Pl i) 1 - rws (hzE rt ck hz 4) (Pl i) 1)) + (rws hz (Pl i) 2 - rws (hzE rt ck hz 4) (Pl i) 2)) + (rws hz (Pl i) 3 - rws (hzE rt ck hz 4) (Pl i) 3)) + all4 (hzE rt ck hz 4) (Pl i)) (fun i => by
    have r0 := rws_mono (P := Pl i) (hzE_ge rt ck hz 4 0)
    have r1 := rws_mono (P := Pl i) (hzE_ge rt ck hz 4 1)
    have r2 := rws_mono (P := Pl i) (hzE_ge rt ck hz 4 2)
    have r3 := rws_mono (P := Pl i) (hzE_ge rt ck hz 4 3)
    unfold all4
    omega) n 0
  rw [e, gone_add, gone_add, gone_add, gone_add]
  unfold gon
  omega
theorem sp_X5_advance_loop {o A R Z w su n ck : Nat} {sa kd rt hz : Nat → Nat} {Pl : Nat → List (Nat × Int32)} {Cs : Nat → Nat → Nat} (hck : ck < 2 ^ 30) (hrt : ∀ i, i ≤ 3 → rt i < 2 ^ 30) (hzb : ∀ i, i ≤ 3 → hz i < 2 ^ 30) (hP : ∀ i, i < n → Srt kf (Pl i)) {Q : Int32 → MM → Prop} {X : Nat → MM → Prop} : ∀ (k t : Nat) (m : MM) (g : Nat → Nat) (a : Nat), t + k = 4 → Sto m g o A R Z w su n ck sa kd rt (hzE rt ck hz t) Pl Cs → (∀ m' g', Sto m' g' o A R Z w su n ck sa kd rt (hzE rt ck hz 4) Pl Cs → (∀ a, mK m a ≠ 0 → g' a = g a) → Fr (fun a => 8 ≤ g a) m m' → Q (nI (a + gonT rt ck hz Pl n k t)) m') → wp_X5_advance_26 Q X (k + 1) o (nI a) (nI t) m := by
  intro k
  induction k with
  | zero =>
    intro t m g a htk h hq
    have t4 : t = 4 := by omega
    subst t4
    unfold wp_X5_advance_26
    exact ⟨fun _ => hq m g h (fun _ _ => rfl) (Fr.refl _ _), fun z => absurd (by decide) z⟩
  | succ k ih =>
    intro t m g a htk h hq
    have ht : t ≤ 3 := by omega
    unfold wp_X5_advance_26
    refine ⟨fun z => absurd ((nI_ltI (a := 3) (b := t) (by omega) (by omega)).mp z) (by omega), fun _ => ⟨h.1.1, sp_X5_moveHorizon h ht hck (hrt t ht) (hzE_lt30 (hzb t ht) hck) hP fun m' g' s' t' f' x12 e12 x13 e13 => ?_⟩⟩
    rw [hzE_up] at s'
    rw [e12, e13, nI_add, nI_1]
    have eg : gone (fun i => rws (hzE rt ck hz t) (Pl i) t - rws (va_up (hzE rt ck hz t) t (max (hzE rt ck hz t t) (ck - rt t))) (Pl i) t) n 0 = gon rt ck hz Pl n t := gone_congr (fun i => by
      rw [rws_congr (f := hzE rt ck hz t) (f' := hz) (hzE_at rt ck hz t), hzE_up, rws_congr (f := hzE rt ck hz (t + 1)) (f' := hzE rt ck hz 4) (by rw [hzE_lt (Nat.lt_succ_self t), hzE_lt (by omega)])]) n 0
    rw [eg]
    refine ih (t + 1) m' g' _ (by omega) s' fun m'' g'' r1 r2 r3 => ?_
    have hold : ∀ b, mK m b ≠ 0 → mK m' b ≠ 0 := fun b hb => by rw [(f' b hb).1]; exact hb
    have := hq m'' g'' r1 (fun b hb => (r2 b (hold b hb)).trans (t' b hb)) (f'.then r3 fun b hb z => by rw [t' b hb] at z; exact z)
    rw [show a + gonT rt ck hz Pl n (k + 1) t = a + gon rt ck hz Pl n t + gonT rt ck hz Pl n k (t + 1) from (Nat.add_assoc _ _ _).symm] at this
    exact this
theorem sp_X5_advance {m : MM} {g : Nat → Nat} {o A R Z w su n ck : Nat} {sa kd rt hz : Nat → Nat} {Pl : Nat → List (Nat × Int32)} {Cs : Nat → Nat → Nat} (h : Sto m g o A R Z w su n ck sa kd rt hz Pl Cs) (hck : ck + 1000000 < 2 ^ 30) (hrt : ∀ i, i ≤ 3 → rt i < 2 ^ 30) (hzb : ∀ i, i ≤ 3 → hz i < 2 ^ 30) (hP : ∀ i, i < n → Srt kf (Pl i)) {p1 : Int32} {Q : Int32 → MM → Prop} {X : Nat → MM → Prop} (hX1 : (∀ s, p1 = nI s → 1 ≤ s → s ≤ 1000000 → False) → X 1 m) (hQ : ∀ s, p1 = nI s → 1 ≤ s → s ≤ 1000000 → ∀ m' g' r, Sto m' g' o A R Z w su n (ck + s) sa kd rt (hzE rt (ck + s) hz 4) Pl Cs → (∀ a, mK m a ≠ 0 → g' a = g a) → Fr (fun a => 8 ≤ g a) m m' → r + gone (fun i => all4 (hzE rt (ck + s) hz 4) (Pl i)) n 0 = gone (fun i => all4 hz (Pl i)) n 0 → Q (nI r) m') : wp_X5_advance o p1 m Q X := by
  unfold wp_X5_advance
  refine sp_rng (a := 1) (b := 1000000) (by decide) (by decide) (by decide) (by decide) (fun s e s1 s2 => ⟨h.1.1, h.1.1, fun m5 e5 x6 e6 x7 e7 => ?_⟩) (fun z => hX1 fun s e s1 s2 => by
    have := z s e s1
    omega)
  have nl : ¬ (2000000000 : Int32) < nI (ck + s) := fun z => by
    have := (nI_ltI (a := 2000000000) (b := ck + s) (by omega) (by omega)).mp z
    omega
  rw [h.1.2.2.2.1, e, nI_add, if_neg nl] at e5
  have s5 := h.clk (ck + s)
  have f5 : Fr (fun x => x = o) m m5 := by rw [e5]; exact Fr.sI _ _ _ _
  rw [← e5, ← hzE_0 rt (ck + s) hz] at s5
  have go := h.2.2.2.1 o (by simp)
  refine ⟨5, ?_⟩
  rw [e6, e7]
  refine sp_X5_advance_loop (A := A) (R := R) (Z := Z) (w := w) (su := su) (ck := ck + s) (sa := sa) (kd := kd) (rt := rt) (hz := hz) (Pl := Pl) (Cs := Cs) (by omega) hrt hzb hP 4 0 m5 g 0 rfl s5 fun m' g' r1 r2 r3 => ?_
  have hold : ∀ b, mK m b ≠ 0 → mK m5 b ≠ 0 := fun b hb => by rw [(f5 b hb).1]; exact hb
  refine hQ s e s1 s2 m' g' _ r1 (fun b hb => r2 b (hold b hb)) ((f5.mono fun b _ z => ?_).then r3 fun b _ z => z) ?_
  · have z : b = o := z
    show 8 ≤ g b
    rw [z, go]
    exact Nat.le_refl _
  · rw [Nat.zero_add]
    exact gon_all rt (ck + s) hz Pl n
theorem sp_X5_setRetention {m : MM} {g : Nat → Nat} {o A R Z w su n ck : Nat} {sa kd rt hz : Nat → Nat} {Pl : Nat → List (Nat × Int32)} {Cs : Nat → Nat → Nat} (h : Sto m g o A R Z w su n ck sa kd rt hz Pl Cs) (hck : ck < 2 ^ 30) (hzb : ∀ i, i ≤ 3 → hz i < 2 ^ 30) (hP : ∀ i, i < n → Srt kf (Pl i)) {p1 p2 : Int32} {Q : Int32 → MM → Prop} {X : Nat → MM → Prop} (hX1 : (∀ t s, p1 = nI t → t ≤ 3 → p2 = nI s → (if t ≤ 1 then 7200 else 90000) ≤ s → s ≤ 100000000 → False) → X 1 m) (hQ : ∀ t s, p1 = nI t → t ≤ 3 → p2 = nI s → (if t ≤ 1 then 7200 else 90000) ≤ s → s ≤ 100000000 → ∀ m' g', Sto m' g' o A R Z w su n ck sa kd (va_up rt t s) (va_up hz t (max (hz t) (ck - s))) Pl Cs → (∀ a, mK m a ≠ 0 → g' a = g a) → Fr (fun a => 8 ≤ g a) m m' → Q (nI (rt t)) m') : wp_X5_setRetention o p1 p2 m Q X := by
  have gR := h.2.2.2.1 R (by simp)
  obtain ⟨⟨a1, a2, a3, a4, a5, a6, a7, a8⟩, ⟨b1, b2, b3, b4, b5, b6, b7, b8, b9⟩, c, d, e, f⟩ := id h
  have key : ∀ t s, p1 = nI t → t ≤ 3 → p2 = nI s → (if t ≤ 1 then 7200 else 90000) ≤ s → s ≤ 100000000 → mK m o = 6 ∧ ∃ b7 : Nat, mR m 103 o = some b7 ∧ mK m b7 = 11 ∧ vp_in p1 (mN m b7) ∧ ∀ x10 : Int32, x10 = (mAI m b7 p1.toNatClampNeg) → mK m o = 6 ∧ ∃ b12 : Nat, mR m 103 o = some b12 ∧ mK m b12 = 11 ∧ vp_in p1 (mN m b12) ∧ ∀ m15 : MM, m15 = sAI m b12 (va_up (mAI m b12) p1.toNatClampNeg p2) → mK m15 o = 6 ∧ wp_X5_moveHorizon o p1 m15 (fun r17 m18 => Q x10 m18) X := by
    intro t s e1 ht e2 s1 s2
    have hv : vp_in p1 (mN m R) := by rw [e1, b4]; exact vp_in_nI (by omega) (by omega)
    refine ⟨a1, R, a5, b3, hv, fun x10 e10 => ⟨a1, R, a5, b3, hv, fun m15 e15 => ?_⟩⟩
    rw [e1, nI_clamp (by omega), (c t ht).1] at e10
    rw [e1, e2, nI_clamp (by omega)] at e15
    have s15 := h.ret t s
    rw [← e15] at s15
    have f15 : Fr (fun x => x = R) m m15 := by rw [e15]; exact Fr.sAI _ _ _
    have hold : ∀ b, mK m b ≠ 0 → mK m15 b ≠ 0 := fun b hb => by rw [(f15 b hb).1]; exact hb
    refine ⟨s15.1.1, ?_⟩
    rw [e1]
    refine sp_X5_moveHorizon s15 ht hck (by rw [va_up_self]; omega) (hzb t ht) hP fun m' g' r1 r2 r3 => ?_
    rw [va_up_self] at r1
    rw [e10]
    refine hQ t s e1 ht e2 s1 s2 m' g' r1 (fun b hb => r2 b (hold b hb)) ((f15.mono fun b _ z => ?_).then r3 fun b _ z => z)
    have z : b = R := z
    show 8 ≤ g b
    rw [z, gR]
    exact Nat.le_refl _
  unfold wp_X5_setRetention
  refine sp_rng (a := 0) (b := 3) (by decide) (by decide) (by decide) (by decide) (fun t e1 _ ht => ⟨fun y => ?_, fun y => ?_⟩) (fun z => hX1 fun t s e1 ht _ _ _ => by
    have := z t e1 (Nat.zero_le _)
    omega)
  · rw [e1] at y
    have t2 := (nI_ltI (a := 1) (b := t) (by omega) (by omega)).mp y
    refine sp_rng (a := 90000) (b := 100000000) (by decide) (by decide) (by decide) (by decide) (fun s e2 s1 s2 => key t s e1 ht e2 (by rw [if_neg (by omega)]; exact s1) s2) (fun z => hX1 fun t' s e1' ht' e2 s1 s2 => ?_)
    have et := (nI_eq (a := t) (b := t') (by omega) (by omega)).mp (e1.symm.trans e1')
    rw [if_neg (by omega)] at s1
    have := z s e2 s1
    omega
  · rw [e1] at y
    have t2 : t ≤ 1 := by
      rcases Nat.lt_or_ge 1 t with q | q
      · exact absurd ((nI_ltI (a := 1) (b := t) (by omega) (by omega)).mpr q) y
      · exact q
    refine sp_rng (a := 7200) (b := 100000000) (by decide) (by decide) (by decide) (by decide) (fun s e2 s1 s2 => key t s e1 ht e2 (by rw [if_pos t2]; exact s1) s2) (fun z => hX1 fun t' s e1' ht' e2 s1 s2 => ?_)
    have et := (nI_eq (a := t) (b := t') (by omega) (by omega)).mp (e1.symm.trans e1')
    rw [if_pos (by omega)] at s1
    have := z s e2 s1
    omega
