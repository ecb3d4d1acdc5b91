/-! THE MODEL'S WINDOWS -/
/-- the five stretches that the model takes a window apart into: days, hours, hours, minutes, minutes -/
def pB (f t k : Nat) : Nat :=
  if k = 0 then up 86400 f
  else if k = 1 then up 3600 f
  else if k = 2 then (if up 86400 f < bg 86400 t then bg 86400 t else bg 3600 t)
  else if k = 3 then f
  else (if up 3600 f < bg 3600 t then bg 3600 t else t)
def pT (f t k : Nat) : Nat :=
  if k = 0 then bg 86400 t
  else if k = 1 then (if up 86400 f < bg 86400 t then up 86400 f else bg 3600 t)
  else if k = 2 then bg 3600 t
  else if k = 3 then (if up 3600 f < bg 3600 t then up 3600 f else t)
  else t
def pE (f t k : Nat) : Nat := max (pB f t k) (pT f t k)
/-- the tier of each, and which stretch of the store's cut it is -/
def tk (k : Nat) : Nat := if k = 0 then 3 else if k < 3 then 2 else 1
def pw5 (k : Nat) : Nat := if k = 0 then 2 else if k = 1 then 1 else if k = 2 then 3 else if k = 3 then 0 else 4
theorem tk_pw (k : Nat) (hk : k ≤ 4) : tk k = tr (pw5 k) := by
  have : k = 0 ∨ k = 1 ∨ k = 2 ∨ k = 3 ∨ k = 4 := by omega
  rcases this with rfl | rfl | rfl | rfl | rfl <;> rfl
theorem pE_is {f t : Nat} (hf : 60 ∣ f) (ht : 60 ∣ t) (hft : f ≤ t) : ∀ k, k ≤ 4 → pE f t k - pB f t k = wcut f t (pw5 k + 1) - wcut f t (pw5 k) ∧ (pB f t k < pE f t k → pB f t k = wcut f t (pw5 k)) := by
  have g1 : f ≤ up 3600 f := up_ge (by decide)
  have g2 : bg 3600 t ≤ t := bg_le _ _
  have g3 : up 3600 f ≤ up 86400 f := up_min (by decide) (d3600 (up_dvd _ _)) (up_ge (by decide))
  have g4 : bg 86400 t ≤ bg 3600 t := bg_max (by decide) (d3600 (bg_dvd _ _)) (bg_le _ _)
  have b0 : pB f t 0 = up 86400 f := rfl
  have b1 : pB f t 1 = up 3600 f := rfl
  have b2 : pB f t 2 = if up 86400 f < bg 86400 t then bg 86400 t else bg 3600 t := rfl
  have b3 : pB f t 3 = f := rfl
  have b4 : pB f t 4 = if up 3600 f < bg 3600 t then bg 3600 t else t := rfl
  have e0 : pT f t 0 = bg 86400 t := rfl
  have e1 : pT f t 1 = if up 86400 f < bg 86400 t then up 86400 f else bg 3600 t := rfl
  have e2 : pT f t 2 = bg 3600 t := rfl
  have e3 : pT f t 3 = if up 3600 f < bg 3600 t then up 3600 f else t := rfl
  have e4 : pT f t 4 = t := rfl
  intro k hk
  have hk5 : k = 0 ∨ k = 1 ∨ k = 2 ∨ k = 3 ∨ k = 4 := by omega
  unfold pE
  by_cases h : up 3600 f < bg 3600 t
  · rw [if_pos h] at b4 e3
    by_cases d : up 86400 f < bg 86400 t
    · rw [if_pos d] at b2 e1
      obtain ⟨w1, w2, w3, w4⟩ := wc_d h d
      rcases hk5 with rfl | rfl | rfl | rfl | rfl
      · rw [b0, e0, show pw5 0 = 2 from rfl, w3, w2]; omega
      · rw [b1, e1, show pw5 1 = 1 from rfl, w2, w1]; omega
      · rw [b2, e2, show pw5 2 = 3 from rfl, w4, w3]; omega
      · rw [b3, e3, show pw5 3 = 0 from rfl, w1, wc_0]; omega
      · rw [b4, e4, show pw5 4 = 4 from rfl, wc_5, w4]; omega
    · rw [if_neg d] at b2 e1
      obtain ⟨w1, w2, w3, w4⟩ := wc_h h d
      rcases hk5 with rfl | rfl | rfl | rfl | rfl
      · rw [b0, e0, show pw5 0 = 2 from rfl, w3, w2]; omega
      · rw [b1, e1, show pw5 1 = 1 from rfl, w2, w1]; omega
      · rw [b2, e2, show pw5 2 = 3 from rfl, w4, w3]; omega
      · rw [b3, e3, show pw5 3 = 0 from rfl, w1, wc_0]; omega
      · rw [b4, e4, show pw5 4 = 4 from rfl, wc_5, w4]; omega
  · rw [if_neg h] at b4 e3
    have d : ¬ up 86400 f < bg 86400 t := by omega
    rw [if_neg d] at b2 e1
    obtain ⟨w1, w2, w3, w4⟩ := wc_no h
    rcases hk5 with rfl | rfl | rfl | rfl | rfl
    · rw [b0, e0, show pw5 0 = 2 from rfl, w3, w2]; omega
    · rw [b1, e1, show pw5 1 = 1 from rfl, w2, w1]; omega
    · rw [b2, e2, show pw5 2 = 3 from rfl, w4, w3]; omega
    · rw [b3, e3, show pw5 3 = 0 from rfl, w1, wc_0]; omega
    · rw [b4, e4, show pw5 4 = 4 from rfl, wc_5, w4]; omega
theorem pB_le (f t k : Nat) : pB f t k ≤ pE f t k := Nat.le_max_left _ _
theorem pB_lt {f t : Nat} (hf : f < 2 ^ 31) (ht : t < 2 ^ 31) (k : Nat) : pB f t k < 2 ^ 33 ∧ pT f t k < 2 ^ 33 := by
  have u1 : up 3600 f ≤ f + 3600 - 1 := Nat.div_mul_le_self _ _
  have u2 : up 86400 f ≤ f + 86400 - 1 := Nat.div_mul_le_self _ _
  have g2 : bg 3600 t ≤ t := bg_le _ _
  have g4 : bg 86400 t ≤ t := bg_le _ _
  unfold pB pT
  constructor
  · split
    · omega
    · split
      · omega
      · split
        · split <;> omega
        · split
          · omega
          · split <;> omega
  · split
    · omega
    · split
      · split <;> omega
      · split
        · omega
        · split
          · split <;> omega
          · omega
/-- whether the model knows a window, as the store does -/
theorem Kn_iff {hz : Nat → Nat} {f t : Nat} (hf : 60 ∣ f) (ht : 60 ∣ t) (hft : f ≤ t) : Kn hz f t ↔ ∀ k, k ≤ 4 → pB f t k < pE f t k → hz (tk k) < pB f t k + ln (tk k) := by
  have P := pE_is hf ht hft
  have W := wcut_ok hf ht hft
  constructor
  · intro h k hk hlt
    obtain ⟨p1, p2⟩ := P k hk
    have hb := p2 hlt
    have := h (pw5 k) (by unfold pw5; split <;> (try split) <;> (try split) <;> (try split) <;> omega) (by omega)
    rw [tk_pw k hk, hb]
    exact this
  · intro h k hk hlt
    have go : ∀ j, j ≤ 4 → pw5 j = k → hz (tr k) < wcut f t k + ln (tr k) := fun j hj e => by
      obtain ⟨p1, p2⟩ := P j hj
      rw [e] at p1 p2
      have hjl : pB f t j < pE f t j := by omega
      have := h j hj hjl
      rw [tk_pw j hj, e, p2 hjl] at this
      exact this
    have : k = 0 ∨ k = 1 ∨ k = 2 ∨ k = 3 ∨ k = 4 := by omega
    rcases this with rfl | rfl | rfl | rfl | rfl
    · exact go 3 (by decide) rfl
    · exact go 1 (by decide) rfl
    · exact go 0 (by decide) rfl
    · exact go 2 (by decide) rfl
    · exact go 4 (by decide) rfl
theorem vSum_cons (v : Int32) (l : List Int32) : vSum (v :: l) = v.toInt64 + vSum l := by
  unfold vSum
  rw [List.foldl_cons, vSum_from, Int64.zero_add]
  rfl
theorem seg_in {a b : Nat} {p : Nat × Int32} {l : List (Nat × Int32)} (h1 : a ≤ p.1) (h2 : p.1 < b) : seg a b (p :: l) = p :: seg a b l := by
  unfold seg hi lo
  rw [List.filter_cons, if_pos (decide_eq_true h2), List.filter_cons, if_pos (decide_eq_true h1)]
theorem seg_out {a b : Nat} {p : Nat × Int32} {l : List (Nat × Int32)} (h : ¬ (a ≤ p.1 ∧ p.1 < b)) : seg a b (p :: l) = seg a b l := by
  unfold seg hi lo
  rw [List.filter_cons]
  by_cases q : p.1 < b
  · rw [if_pos (decide_eq_true q), List.filter_cons, if_neg (by rw [decide_eq_true_iff]; exact fun z => h ⟨z, q⟩)]
  · rw [if_neg (by rw [decide_eq_true_iff]; exact q)]
/-- how much values rise behind one, if there is one -/
def vI (o : Option Int32) (W : List Int32) : Int64 := match o with
  | none => vInc W
  | some a => vIncA a W
section
variable {m : MM} {g : Nat → Nat} {u K R Z Wh Ti Va Pa n ck : Nat} {kd rt hz : Nat → Nat} {al : List AT}
theorem md_isWindow {f t : Int32} {len : Nat} (hl : 0 < len) (hl2 : len < 2 ^ 31) {lI : Int32} (el : lI = nI len) {Q : Int32 → MM → Prop} (h1 : isWin f t len → Q 1 m) (h0 : ¬ isWin f t len → Q 0 m) : wp_X6_isWindow f t lI m Q := by
  have hn0 : ¬ nI len = 0 := nI_ne0 hl hl2
  subst el
  unfold wp_X6_isWindow
  refine ⟨fun z => h0 ?_, fun z => ⟨hn0, fun x => h0 ?_, fun x => ⟨fun y => h0 ?_, fun y => ⟨hn0, fun v => h0 ?_, fun v => h1 ?_⟩⟩⟩⟩
  · rintro ⟨a, b, rfl, rfl, h⟩
    exact nI_pos h.1 z
  · rintro ⟨a, b, rfl, rfl, h⟩
    exact x ((rem_nI h.1 hl hl2).mpr h.2.2.2.1)
  · rintro ⟨a, b, rfl, rfl, h⟩
    have := (nI_ltI h.2.1 h.1).mp y
    omega
  · rintro ⟨a, b, rfl, rfl, h⟩
    exact v ((rem_nI h.2.1 hl hl2).mpr h.2.2.2.2)
  · obtain ⟨a, ha, rfl⟩ := nI_of z
    have tz : ¬ t < 0 := fun q => y (Int32.lt_of_lt_of_le q (Int32.not_lt.mp z))
    obtain ⟨b, hb, rfl⟩ := nI_of tz
    refine ⟨a, b, rfl, rfl, ha, hb, ?_, (rem_nI ha hl hl2).mp x, (rem_nI hb hl hl2).mp v⟩
    rcases Nat.lt_or_ge b a with q | q
    · exact absurd ((nI_ltI hb ha).mpr q) y
    · exact q
theorem md_putPart (h : Mod m g u K R Z Wh Ti Va Pa n ck kd rt hz al) {k a b : Nat} (hk : k ≤ 4) {kI : Int32} (ek : kI = nI k) {aL bL : Int64} (ea : aL = lN a) (eb : bL = lN b) (ha : a < 2 ^ 62) (hb : b < 2 ^ 62) {Q : MM → Prop} (hq : ∀ m', Mod m' g u K R Z Wh Ti Va Pa n ck kd rt hz al → mAJ m' Pa = va_up (va_up (mAJ m Pa) (2 * k) (lN a)) (2 * k + 1) (lN (max a b)) → mI m' 136 u = mI m 136 u → Fr (MS g u) m m' → Q m') : wp_X6_putPart u kI aL bL m Q := by
  subst ek ea eb
  have hPa := h.1.2.2.2.2.2.2.2.2.2.2
  obtain ⟨b13, b14⟩ := h.2.1.2.2.2.2.2.2.2.2.2.2.2.2
  have e2 : (2 : Int32) * nI k = nI (2 * k) := pk_mul 2 k
  have e3 : nI (2 * k) + (1 : Int32) = nI (2 * k + 1) := nI_1 _
  have hMS : ∀ {x : MM} {F : Nat → Int64}, Fr (MS g u) x (sAJ x Pa F) := (Fr.sAJ _ _ _).mono fun y _ z => Or.inr (by rw [show y = Pa from z, h.2.2.2.1.2.2.2.2.2.2.2]; decide)
  unfold wp_X6_putPart
  rw [e2, e3]
  refine ⟨h.1.1, Pa, hPa, b13, by rw [b14]; exact vp_in_nI (by omega) (by decide), fun m5 e5 => ?_⟩
  rw [nI_clamp (by omega)] at e5
  have h5 : Mod m5 g u K R Z Wh Ti Va Pa n ck kd rt hz al := by rw [e5]; exact h.scr rfl rfl rfl rfl ⟨rfl, rfl, rfl⟩
  have A5 : mAJ m5 Pa = va_up (mAJ m Pa) (2 * k) (lN a) := by rw [e5, aj_sAJ, if_pos rfl]
  have k5 : mK m5 Pa = 12 := h5.2.1.2.2.2.2.2.2.2.2.2.2.2.2.1
  have n5 : mN m5 Pa = 10 := h5.2.1.2.2.2.2.2.2.2.2.2.2.2.2.2
  refine ⟨h5.1.1, Pa, h5.1.2.2.2.2.2.2.2.2.2.2, fun z => ⟨k5, by rw [n5]; exact vp_in_nI (by omega) (by decide), fun m11 e11 => ?_⟩, fun z => ⟨k5, by rw [n5]; exact vp_in_nI (by omega) (by decide), fun m14 e14 => ?_⟩⟩
  · rw [lg_cmp_le, pk_lLE (by omega) (by omega)] at z
    rw [nI_clamp (by omega), A5] at e11
    refine hq m11 (by rw [e11]; exact h5.scr rfl rfl rfl rfl ⟨rfl, rfl, rfl⟩) ?_ (by rw [e11, i_sAJ, e5, i_sAJ]) ?_
    · rw [e11, aj_sAJ, if_pos rfl, Nat.max_eq_left z]
    · rw [e11, e5]
      exact hMS.trans hMS
  · rw [lg_cmp_le, pk_lLE (by omega) (by omega)] at z
    rw [nI_clamp (by omega), A5] at e14
    refine hq m14 (by rw [e14]; exact h5.scr rfl rfl rfl rfl ⟨rfl, rfl, rfl⟩) ?_ (by rw [e14, i_sAJ, e5, i_sAJ]) ?_
    · rw [e14, aj_sAJ, if_pos rfl, Nat.max_eq_right (by omega)]
    · rw [e14, e5]
      exact hMS.trans hMS
/-- the row of parts holds the window from f to t, taken apart -/
def PaAt (m : MM) (Pa f t : Nat) : Prop := ∀ k, k ≤ 4 → mAJ m Pa (2 * k) = lN (pB f t k) ∧ mAJ m Pa (2 * k + 1) = lN (pE f t k)
theorem up_l {f len : Nat} (hf : f < 2 ^ 31) (h0 : 0 < len) (hl : len < 2 ^ 31) : ((nI f).toInt64 + lN len - (1 : Int64)) / lN len * lN len = lN (up len f) := by
  rw [nI_l hf, lN_add, lN_one, lN_sub (by omega), pk_lDiv (by omega) h0 (by omega), lN_mul]
  rfl
theorem md_takeApart (h : Mod m g u K R Z Wh Ti Va Pa n ck kd rt hz al) {f t : Nat} (hf : f < 2 ^ 31) (ht : t < 2 ^ 31) {Q : MM → Prop} (hq : ∀ m', Mod m' g u K R Z Wh Ti Va Pa n ck kd rt hz al → PaAt m' Pa f t → mI m' 136 u = mI m 136 u → Fr (MS g u) m m' → Q m') : wp_X6_takeApart u (nI f) (nI t) m Q := by
  have g2 : bg 3600 t ≤ t := bg_le _ _
  have g4 : bg 86400 t ≤ t := bg_le _ _
  have u1 : up 3600 f ≤ f + 3600 - 1 := Nat.div_mul_le_self _ _
  have u2 : up 86400 f ≤ f + 86400 - 1 := Nat.div_mul_le_self _ _
  have q86 : ((nI t / (86400 : Int32)) * (86400 : Int32)).toInt64 = lN (bg 86400 t) := by
    have : nI t / (86400 : Int32) = nI (t / 86400) := pk_div (d := 86400) ht (by decide) (by decide)
    rw [this]
    have : nI (t / 86400) * (86400 : Int32) = nI (t / 86400 * 86400) := pk_mul _ 86400
    rw [this, nI_l (by have := Nat.div_mul_le_self t 86400; omega)]
    rfl
  have q36 : ((nI t / (3600 : Int32)) * (3600 : Int32)).toInt64 = lN (bg 3600 t) := by
    have : nI t / (3600 : Int32) = nI (t / 3600) := pk_div (d := 3600) ht (by decide) (by decide)
    rw [this]
    have : nI (t / 3600) * (3600 : Int32) = nI (t / 3600 * 3600) := pk_mul _ 3600
    rw [this, nI_l (by have := Nat.div_mul_le_self t 3600; omega)]
    rfl
  have l86 : ((nI f).toInt64 + (86400 : Int64) - (1 : Int64)) / (86400 : Int64) * (86400 : Int64) = lN (up 86400 f) := up_l hf (by decide) (by decide)
  have l36 : ((nI f).toInt64 + (3600 : Int64) - (1 : Int64)) / (3600 : Int64) * (3600 : Int64) = lN (up 3600 f) := up_l hf (by decide) (by decide)
  -- the five writes
  have five : ∀ l11 l12 : Int32, (l11 = 0 ∧ ¬ up 86400 f < bg 86400 t ∨ l11 = 1 ∧ up 86400 f < bg 86400 t) → (l12 = 0 ∧ ¬ up 3600 f < bg 3600 t ∨ l12 = 1 ∧ up 3600 f < bg 3600 t) → wp_X6_takeApart_68 Q u (nI f) (nI t) (lN (up 86400 f)) (lN (bg 86400 t)) (lN (up 3600 f)) (lN (bg 3600 t)) l11 l12 m := fun l11 l12 h11 h12 => by
    have x11 : ∀ {A B : Prop}, (¬ up 86400 f < bg 86400 t → A) → (up 86400 f < bg 86400 t → B) → (l11 = 0 → A) ∧ (¬ l11 = 0 → B) := fun a b => by
      rcases h11 with ⟨e, q⟩ | ⟨e, q⟩
      · exact ⟨fun _ => a q, fun z => absurd e z⟩
      · exact ⟨fun z => absurd (e.symm.trans z) (by decide), fun _ => b q⟩
    have x12 : ∀ {A B : Prop}, (¬ up 3600 f < bg 3600 t → A) → (up 3600 f < bg 3600 t → B) → (l12 = 0 → A) ∧ (¬ l12 = 0 → B) := fun a b => by
      rcases h12 with ⟨e, q⟩ | ⟨e, q⟩
      · exact ⟨fun _ => a q, fun z => absurd e z⟩
      · exact ⟨fun z => absurd (e.symm.trans z) (by decide), fun _ => b q⟩
    -- what is left behind the third
    have last2 : ∀ m19, Mod m19 g u K R Z Wh Ti Va Pa n ck kd rt hz al → mI m19 136 u = mI m 136 u → Fr (MS g u) m m19 → (∀ k, k ≤ 2 → mAJ m19 Pa (2 * k) = lN (pB f t k) ∧ mAJ m19 Pa (2 * k + 1) = lN (pE f t k)) → ((l12 = 0 → wp_X6_takeApart_131 Q u (nI t) (lN (bg 3600 t)) l12 (nI t).toInt64 (nI f).toInt64 (3 : Int32) u m19) ∧ (¬ l12 = 0 → wp_X6_takeApart_131 Q u (nI t) (lN (bg 3600 t)) l12 (lN (up 3600 f)) (nI f).toInt64 (3 : Int32) u m19)) := fun m19 h19 t19 f19 p19 => by
      have do3 : ∀ b, b = pT f t 3 → b < 2 ^ 62 → wp_X6_takeApart_131 Q u (nI t) (lN (bg 3600 t)) l12 (lN b) (nI f).toInt64 (3 : Int32) u m19 := fun b eb hb => by
        unfold wp_X6_takeApart_131
        refine ⟨h19.1.1, md_putPart h19 (k := 3) (a := f) (b := b) (by decide) (by decide) (nI_l hf) rfl (by omega) hb fun m23 h23 a23 t23 f23 => ?_⟩
        have do4 : ∀ a, a = pB f t 4 → a < 2 ^ 62 → wp_X6_putPart u (4 : Int32) (lN a) (nI t).toInt64 m23 Q := fun a ea ha => by
          refine md_putPart h23 (k := 4) (a := a) (b := t) (by decide) (by decide) rfl (nI_l ht) ha (by omega) fun m27 h27 a27 t27 f27 => ?_
          refine hq m27 h27 (fun k hk => ?_) ((t27.trans t23).trans t19) ((f19.trans f23).trans f27)
          rw [a27, a23]
          have : k = 0 ∨ k = 1 ∨ k = 2 ∨ k = 3 ∨ k = 4 := by omega
          rcases this with rfl | rfl | rfl | rfl | rfl
          · obtain ⟨q1, q2⟩ := p19 0 (by decide)
            rw [va_up_ne _ _ (by decide), va_up_ne _ _ (by decide), va_up_ne _ _ (by decide), va_up_ne _ _ (by decide), va_up_ne _ _ (by decide), va_up_ne _ _ (by decide), va_up_ne _ _ (by decide), va_up_ne _ _ (by decide)]
            exact ⟨q1, q2⟩
          · obtain ⟨q1, q2⟩ := p19 1 (by decide)
            rw [va_up_ne _ _ (by decide), va_up_ne _ _ (by decide), va_up_ne _ _ (by decide), va_up_ne _ _ (by decide), va_up_ne _ _ (by decide), va_up_ne _ _ (by decide), va_up_ne _ _ (by decide), va_up_ne _ _ (by decide)]
            exact ⟨q1, q2⟩
          · obtain ⟨q1, q2⟩ := p19 2 (by decide)
            rw [va_up_ne _ _ (by decide), va_up_ne _ _ (by decide), va_up_ne _ _ (by decide), va_up_ne _ _ (by decide), va_up_ne _ _ (by decide), va_up_ne _ _ (by decide), va_up_ne _ _ (by decide), va_up_ne _ _ (by decide)]
            exact ⟨q1, q2⟩
          · refine ⟨?_, ?_⟩
            · rw [va_up_ne _ _ (by decide), va_up_ne _ _ (by decide), va_up_ne _ _ (by decide), va_up_self]
              rfl
            · rw [va_up_ne _ _ (by decide), va_up_ne _ _ (by decide), va_up_self, eb]
              rfl
          · refine ⟨?_, ?_⟩
            · rw [va_up_ne _ _ (by decide), va_up_self, ea]
            · rw [va_up_self, ea]
              rfl
        refine x12 (fun q => ⟨h23.1.1, ?_⟩) (fun q => ⟨h23.1.1, do4 _ ?_ (by omega)⟩)
        · have := do4 t (by show t = if up 3600 f < bg 3600 t then bg 3600 t else t; rw [if_neg q]) (by omega)
          rw [← nI_l ht] at this
          exact this
        · show bg 3600 t = if up 3600 f < bg 3600 t then bg 3600 t else t
          rw [if_pos q]
      refine x12 (fun q => ?_) (fun q => do3 _ ?_ (by omega))
      · have := do3 t (by show t = if up 3600 f < bg 3600 t then up 3600 f else t; rw [if_neg q]) (by omega)
        rw [← nI_l ht] at this
        exact this
      · show up 3600 f = if up 3600 f < bg 3600 t then up 3600 f else t
        rw [if_pos q]
    unfold wp_X6_takeApart_68
    refine ⟨h.1.1, md_putPart h (k := 0) (a := up 86400 f) (b := bg 86400 t) (by decide) (by decide) rfl rfl (by omega) (by omega) fun m11 h11' a11 t11 f11 => ?_⟩
    have do1 : ∀ b, b = pT f t 1 → b < 2 ^ 62 → wp_X6_takeApart_93 Q u (nI f) (nI t) (lN (bg 86400 t)) (lN (up 3600 f)) (lN (bg 3600 t)) l11 l12 (lN b) (lN (up 3600 f)) (1 : Int32) u m11 := fun b eb hb => by
      unfold wp_X6_takeApart_93
      refine ⟨h11'.1.1, md_putPart h11' (k := 1) (a := up 3600 f) (b := b) (by decide) (by decide) rfl rfl (by omega) hb fun m15 h15 a15 t15 f15 => ?_⟩
      have do2 : ∀ a, a = pB f t 2 → a < 2 ^ 62 → wp_X6_takeApart_110 Q u (nI f) (nI t) (lN (up 3600 f)) (lN (bg 3600 t)) l12 (lN a) (2 : Int32) u m15 := fun a ea ha => by
        unfold wp_X6_takeApart_110
        refine ⟨h15.1.1, md_putPart h15 (k := 2) (a := a) (b := bg 3600 t) (by decide) (by decide) rfl rfl ha (by omega) fun m19 h19 a19 t19 f19 => ?_⟩
        refine last2 m19 h19 ((t19.trans t15).trans t11) ((f11.trans f15).trans f19) (fun k hk => ?_)
        rw [a19, a15, a11]
        have : k = 0 ∨ k = 1 ∨ k = 2 := by omega
        rcases this with rfl | rfl | rfl
        · refine ⟨?_, ?_⟩
          · rw [va_up_ne _ _ (by decide), va_up_ne _ _ (by decide), va_up_ne _ _ (by decide), va_up_ne _ _ (by decide), va_up_ne _ _ (by decide), va_up_self]
            rfl
          · rw [va_up_ne _ _ (by decide), va_up_ne _ _ (by decide), va_up_ne _ _ (by decide), va_up_ne _ _ (by decide), va_up_self]
            rfl
        · refine ⟨?_, ?_⟩
          · rw [va_up_ne _ _ (by decide), va_up_ne _ _ (by decide), va_up_ne _ _ (by decide), va_up_self]
            rfl
          · rw [va_up_ne _ _ (by decide), va_up_ne _ _ (by decide), va_up_self, eb]
            rfl
        · refine ⟨?_, ?_⟩
          · rw [va_up_ne _ _ (by decide), va_up_self, ea]
          · rw [va_up_self, ea]
            rfl
      refine x11 (fun q => do2 _ ?_ (by omega)) (fun q => do2 _ ?_ (by omega))
      · show bg 3600 t = if up 86400 f < bg 86400 t then bg 86400 t else bg 3600 t
        rw [if_neg q]
      · show bg 86400 t = if up 86400 f < bg 86400 t then bg 86400 t else bg 3600 t
        rw [if_pos q]
    refine x11 (fun q => do1 _ ?_ (by omega)) (fun q => do1 _ ?_ (by omega))
    · show bg 3600 t = if up 86400 f < bg 86400 t then up 86400 f else bg 3600 t
      rw [if_neg q]
    · show up 86400 f = if up 86400 f < bg 86400 t then up 86400 f else bg 3600 t
      rw [if_pos q]
  unfold wp_X6_takeApart wp_X6_up
  rw [l86, l36, q86, q36]
  refine ⟨by decide, fun x3 e3 => ⟨by decide, fun x6 e6 => ?_⟩⟩
  rw [e3, e6]
  unfold wp_X6_takeApart_53
  rw [cmp_ge_N (by omega) (by omega), cmp_ge_N (by omega) (by omega)]
  exact ⟨fun z => ⟨fun y => five 0 0 (Or.inl ⟨rfl, by omega⟩) (Or.inl ⟨rfl, by omega⟩), fun y => five 0 1 (Or.inl ⟨rfl, by omega⟩) (Or.inr ⟨rfl, by omega⟩)⟩, fun z => ⟨fun y => five 1 0 (Or.inr ⟨rfl, by omega⟩) (Or.inl ⟨rfl, by omega⟩), fun y => five 1 1 (Or.inr ⟨rfl, by omega⟩) (Or.inr ⟨rfl, by omega⟩)⟩⟩
end
