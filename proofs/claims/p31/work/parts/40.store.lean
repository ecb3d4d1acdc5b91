/-! THE STORE as a whole: its objects have tag 8, those of its series i the tags 16 + 8 * i to 19 + 8 * i -/
def Sto (m : MM) (g : Nat → Nat) (o A R Z w su n ck : Nat) (sa kd rt hz : Nat → Nat) (Pl : Nat → List (Nat × Int32)) (Cs : Nat → Nat → Nat) : Prop :=
  (mK m o = 6 ∧ mR m 100 o = some A ∧ mI m 101 o = nI n ∧ mI m 102 o = nI ck ∧ mR m 103 o = some R ∧ mR m 104 o = some Z ∧ mR m 105 o = some w ∧ mR m 106 o = some su) ∧
  (mK m A = 15 ∧ mN m A = 4 ∧ mK m R = 11 ∧ mN m R = 4 ∧ mK m Z = 11 ∧ mN m Z = 4 ∧ mK m w = 5 ∧ mK m su = 2 ∧ R ≠ Z) ∧
  (∀ i, i ≤ 3 → mAI m R i = nI (rt i) ∧ mAI m Z i = nI (hz i)) ∧
  (∀ x, x = o ∨ x = A ∨ x = R ∨ x = Z ∨ x = w ∨ x = su → g x = 8) ∧ n ≤ 4 ∧
  ∀ i, i < n → mAR m A i = some (sa i) ∧ Srs m g (16 + 8 * i) (sa i) (kd i) hz (Pl i) (Cs i)
theorem Sto.fr {S : Nat → Prop} {m m' : MM} {g : Nat → Nat} {o A R Z w su n ck : Nat} {sa kd rt hz : Nat → Nat} {Pl : Nat → List (Nat × Int32)} {Cs : Nat → Nat → Nat} (h : Sto m g o A R Z w su n ck sa kd rt hz Pl Cs) (hf : Fr S m m') (h1 : ∀ x, x = o ∨ x = A ∨ x = R ∨ x = Z → ¬ S x) (h2 : ∀ x, 16 ≤ g x → ¬ S x) : Sto m' g o A R Z w su n ck sa kd rt hz Pl Cs := by
  obtain ⟨⟨a1, a2, a3, a4, a5, a6, a7, a8⟩, ⟨b1, b2, b3, b4, b5, b6, b7, b8, b9⟩, c, d, e, f⟩ := h
  obtain ⟨x1, -, x2⟩ := hf o (by rw [a1]; decide)
  obtain ⟨x3, -, x4, -⟩ := x2 (h1 o (Or.inl rfl))
  obtain ⟨y1, y2, y3⟩ := hf A (by rw [b1]; decide)
  obtain ⟨-, -, -, -, -, -, y4⟩ := y3 (h1 A (Or.inr (Or.inl rfl)))
  obtain ⟨z1, z2, z3⟩ := hf R (by rw [b3]; decide)
  obtain ⟨-, -, -, z4, -⟩ := z3 (h1 R (Or.inr (Or.inr (Or.inl rfl))))
  obtain ⟨u1, u2, u3⟩ := hf Z (by rw [b5]; decide)
  obtain ⟨-, -, -, u4, -⟩ := u3 (h1 Z (Or.inr (Or.inr (Or.inr rfl))))
  refine ⟨⟨by rw [x1, a1], by rw [x4, a2], by rw [x3, a3], by rw [x3, a4], by rw [x4, a5], by rw [x4, a6], by rw [x4, a7], by rw [x4, a8]⟩, ⟨by rw [y1, b1], by rw [y2, b2], by rw [z1, b3], by rw [z2, b4], by rw [u1, b5], by rw [u2, b6], hf.K b7 (by decide), hf.K b8 (by decide), b9⟩, fun i hi => by rw [z4, u4]; exact c i hi, d, e, fun i hi => ?_⟩
  obtain ⟨f1, f2⟩ := f i hi
  exact ⟨by rw [y4]; exact f1, f2.fr hf (fun x q1 q2 => h2 x (by omega))⟩
theorem Sto.ns {m : MM} {g : Nat → Nat} {o A R Z w su n ck : Nat} {sa kd rt hz : Nat → Nat} {Pl : Nat → List (Nat × Int32)} {Cs : Nat → Nat → Nat} (h : Sto m g o A R Z w su n ck sa kd rt hz Pl Cs) : (∀ x, x = o ∨ x = A ∨ x = R ∨ x = Z → ¬ (x = w ∨ x = su)) ∧ (∀ x, 16 ≤ g x → ¬ (x = w ∨ x = su)) ∧ w ≠ su := by
  obtain ⟨⟨a1, -⟩, ⟨b1, b2, b3, b4, b5, b6, b7, b8, b9⟩, c, d, e, f⟩ := h
  refine ⟨fun x hx z => ?_, fun x hx z => ?_, fun z => ?_⟩
  · rcases hx with rfl | rfl | rfl | rfl <;> rcases z with rfl | rfl <;> simp_all
  · have := d x (by rcases z with rfl | rfl <;> simp)
    omega
  · rw [z, b8] at b7
    exact absurd b7 (by decide)
/-- the window and the summary are the store's scratch -/
theorem Sto.scr {m m' : MM} {g : Nat → Nat} {o A R Z w su n ck : Nat} {sa kd rt hz : Nat → Nat} {Pl : Nat → List (Nat × Int32)} {Cs : Nat → Nat → Nat} (h : Sto m g o A R Z w su n ck sa kd rt hz Pl Cs) (hf : Fr (fun x => x = w ∨ x = su) m m') : Sto m' g o A R Z w su n ck sa kd rt hz Pl Cs := h.fr hf h.ns.1 h.ns.2.1
theorem Sto.tag {m : MM} {g g' : Nat → Nat} {o A R Z w su n ck : Nat} {sa kd rt hz : Nat → Nat} {Pl : Nat → List (Nat × Int32)} {Cs : Nat → Nat → Nat} (h : Sto m g o A R Z w su n ck sa kd rt hz Pl Cs) (hg : ∀ a, mK m a ≠ 0 → g' a = g a) : Sto m g' o A R Z w su n ck sa kd rt hz Pl Cs := by
  obtain ⟨a, b, c, d, e, f⟩ := h
  refine ⟨a, b, c, fun x hx => ?_, e, fun i hi => ⟨(f i hi).1, (f i hi).2.tag hg⟩⟩
  refine (hg x ?_).trans (d x hx)
  rcases hx with rfl | rfl | rfl | rfl | rfl | rfl
  · rw [a.1]; decide
  · rw [b.1]; decide
  · rw [b.2.2.1]; decide
  · rw [b.2.2.2.2.1]; decide
  · rw [b.2.2.2.2.2.2.1]; decide
  · rw [b.2.2.2.2.2.2.2.1]; decide
theorem sp_X5_seriesAt {m : MM} {g : Nat → Nat} {o A R Z w su n ck : Nat} {sa kd rt hz : Nat → Nat} {Pl : Nat → List (Nat × Int32)} {Cs : Nat → Nat → Nat} (h : Sto m g o A R Z w su n ck sa kd rt hz Pl Cs) {p : Int32} {Q : Option Nat → MM → Prop} {X : Nat → MM → Prop} (h1 : ∀ i, i < n → p = nI i → Q (some (sa i)) m) (h0 : (p < 0 ∨ ¬ p < nI n) → X 0 m) : wp_X5_seriesAt o p m Q X := by
  obtain ⟨⟨a1, a2, a3, a4, a5, a6, a7, a8⟩, ⟨b1, b2, b3, b4, b5, b6, b7, b8, b9⟩, c, d, e, f⟩ := h
  unfold wp_X5_seriesAt
  refine ⟨fun z => h0 (Or.inl z), fun z => ⟨a1, fun y => ⟨a1, A, a2, b1, ?_⟩, fun y => h0 (Or.inr (by rw [a3] at y; exact y))⟩⟩
  obtain ⟨j, hj, ej⟩ := nI_of z
  rw [a3, ej] at y
  have hjn := (nI_ltI hj (by omega)).mp y
  rw [ej, b2, nI_clamp hj]
  refine ⟨vp_in_nI (by omega) (by omega), fun o8 e8 => ⟨sa j, e8.trans (f j hjn).1, h1 j hjn ej⟩⟩
theorem sp_X5_needRange {m : MM} {p a b : Int32} {Q : MM → Prop} {X : Nat → MM → Prop} (h1 : ¬ p < a ∧ p ≤ b → Q m) (h0 : (p < a ∨ ¬ p ≤ b) → X 1 m) : wp_X5_needRange p a b m Q X := by
  unfold wp_X5_needRange
  exact ⟨fun z => h0 (Or.inl z), fun z => ⟨fun y => h1 ⟨z, y⟩, fun y => h0 (Or.inr y)⟩⟩
/-- a window of the store: from and to are multiples of len -/
def isWin (f t : Int32) (len : Nat) : Prop := ∃ a b, f = nI a ∧ t = nI b ∧ a < 2 ^ 31 ∧ b < 2 ^ 31 ∧ a ≤ b ∧ len ∣ a ∧ len ∣ b
theorem rem_nI {a l : Nat} (ha : a < 2 ^ 31) (hl : 0 < l) (hl2 : l < 2 ^ 31) : nI a - nI a / nI l * nI l = 0 ↔ l ∣ a := by
  have e : nI a - nI a / nI l * nI l = nI (a % l) := pk_rem ha hl hl2
  rw [e, Nat.dvd_iff_mod_eq_zero]
  have := Nat.mod_lt a hl
  constructor
  · intro z
    exact (nI_eq (a := a % l) (b := 0) (by omega) (by omega)).mp z
  · intro z
    rw [z]; rfl
theorem sp_X5_needWindow {m : MM} {f t : Int32} {len : Nat} (hl : 0 < len) (hl2 : len < 2 ^ 31) {Q : MM → Prop} {X : Nat → MM → Prop} (h1 : isWin f t len → Q m) (h0 : ¬ isWin f t len → X 1 m) : wp_X5_needWindow f t (nI len) m Q X := by
  unfold wp_X5_needWindow
  have hn0 : ¬ nI len = 0 := nI_ne0 hl hl2
  refine ⟨fun z => h0 ?_, fun z => ⟨fun y => h0 ?_, fun y => ⟨fun x => ?_, fun _ => ⟨hn0, fun x => h0 ?_, fun x => ⟨hn0, fun v => h1 ?_, fun v => h0 ?_⟩⟩⟩⟩⟩
  · rintro ⟨a, b, rfl, rfl, h⟩
    exact nI_pos h.1 z
  · rintro ⟨a, b, rfl, rfl, h⟩
    have := (nI_ltI h.2.1 h.1).mp y
    omega
  · have := (nI_ltI (a := len) (b := 1) hl2 (by omega)).mp x
    omega
  · rintro ⟨a, b, rfl, rfl, h⟩
    exact x ((rem_nI h.1 hl hl2).mpr h.2.2.2.1)
  · obtain ⟨a, ha, rfl⟩ := nI_of z
    have tz : ¬ t < 0 := fun q => y (Int32.lt_of_lt_of_le q (Int32.not_lt.mp z))
    obtain ⟨b, hb, rfl⟩ := nI_of tz
    refine ⟨a, b, rfl, rfl, ha, hb, ?_, (rem_nI ha hl hl2).mp x, (rem_nI hb hl hl2).mp v⟩
    rcases Nat.lt_or_ge b a with q | q
    · exact absurd ((nI_ltI hb ha).mpr q) y
    · exact q
  · rintro ⟨a, b, rfl, rfl, h⟩
    exact v ((rem_nI h.2.1 hl hl2).mpr h.2.2.2.2)
/-- whether the window from f to t is known by the horizons -/
def Kn (hz : Nat → Nat) (f t : Nat) : Prop := ∀ k, k ≤ 4 → wcut f t k < wcut f t (k + 1) → hz (tr k) < wcut f t k + ln (tr k)
theorem sp_X5_summarize {m : MM} {g : Nat → Nat} {o A R Z w su n ck : Nat} {sa kd rt hz : Nat → Nat} {Pl : Nat → List (Nat × Int32)} {Cs : Nat → Nat → Nat} (h : Sto m g o A R Z w su n ck sa kd rt hz Pl Cs) (hzb : ∀ i, i ≤ 3 → hz i < 2 ^ 31) {i : Nat} (hi : i < n) (hP : Srt kf (Pl i)) (hL : (Pl i).length < 2 ^ 26) {f t : Nat} (hf : 60 ∣ f) (ht : 60 ∣ t) (hft : f ≤ t) (h31 : t < 2 ^ 31) {Q : MM → Prop} {X : Nat → MM → Prop} (h1 : Kn hz f t → ∀ m', Sto m' g o A R Z w su n ck sa kd rt hz Pl Cs → RS m' su ((seg f t (Pl i)).map (·.2)) → Fr (fun x => x = w ∨ x = su) m m' → Q m') (h0 : ¬ Kn hz f t → ∀ m', Sto m' g o A R Z w su n ck sa kd rt hz Pl Cs → Fr (fun x => x = w ∨ x = su) m m' → X 2 m') : wp_X5_summarize o (sa i) (nI f) (nI t) m Q X := by
  have hs := h
  obtain ⟨⟨a1, a2, a3, a4, a5, a6, a7, a8⟩, ⟨b1, b2, b3, b4, b5, b6, b7, b8, b9⟩, c, d, e, F⟩ := hs
  unfold wp_X5_summarize
  refine ⟨a1, w, a7, b7, sp_X4_cut b7 (by omega) h31 fun m5 W5 F5 => ?_⟩
  have S5 := h.scr (F5.mono fun _ _ z => Or.inl z)
  obtain ⟨⟨p1, p2, p3, p4, p5, p6, p7, p8⟩, ⟨q1, q2, q3, q4, q5, q6, q7, q8, q9⟩, pc, pd, pe, pF⟩ := id S5
  refine ⟨p1, w, p7, p1, Z, p6, q7, sp_X4_hasExpiredPart W5 q5 q6 (fun j hj => ⟨(pc j hj).2, hzb j hj⟩) (wcut_end hf ht hft h31) (fun y => ⟨fun z => absurd z (by decide), fun _ => ?_⟩) (fun y => ⟨fun _ => ?_, fun z => absurd rfl z⟩)⟩
  · obtain ⟨k, k1, k2, k3⟩ := y
    refine h0 (fun z => ?_) m5 S5 (F5.mono fun _ _ z => Or.inl z)
    have := z k k1 k2
    omega
  · refine ⟨p1, su, p8, q8, sp_X1_clear q8 fun m18 r18 F18 _ => ?_⟩
    have S18 := S5.scr (F18.mono fun _ _ z => Or.inr z)
    have W18 := W5.fr F18 h.ns.2.2
    obtain ⟨s1, s2⟩ := S18.2.2.2.2.2 i hi
    obtain ⟨⟨v1, v2, v3, v4, v5, v6, v7, v8⟩, -⟩ := id S18
    have gsu : g su = 8 := d su (by simp)
    have k4 : mK m18 (sa i) = 4 := by
      obtain ⟨p, t, v, U, WW, T, B, s3, -⟩ := s2
      exact s3.1
    refine ⟨v1, su, v8, v1, w, v7, k4, sp_X3_addTo s2 hP W18 r18 (by omega) hL fun m25 r25 F25 => ?_⟩
    rw [win_vals hP hf ht hft y] at r25
    exact h1 y m25 (S18.scr (F25.mono fun _ _ z => Or.inr z)) r25 (((F5.mono fun _ _ z => Or.inl z).trans (F18.mono fun _ _ z => Or.inr z)).trans (F25.mono fun _ _ z => Or.inr z))
