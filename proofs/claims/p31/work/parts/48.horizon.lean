/-! MOVING A HORIZON: between two horizons each series has its own -/
def Sth (m : MM) (g : Nat → Nat) (o A R Z w su n ck : Nat) (sa kd rt hz : Nat → Nat) (hs : Nat → Nat → Nat) (Pl : Nat → List (Nat × Int32)) (Cs : Nat → Nat → Nat) : Prop :=
  (mK m o = 6 ∧ mR m 100 o = some A ∧ mI m 101 o = nI n ∧ mI m 102 o = nI ck ∧ mR m 103 o = some R ∧ mR m 104 o = some Z ∧ mR m 105 o = some w ∧ mR m 106 o = some su) ∧
  (mK m A = 15 ∧ mN m A = 4 ∧ mK m R = 11 ∧ mN m R = 4 ∧ mK m Z = 11 ∧ mN m Z = 4 ∧ mK m w = 5 ∧ mK m su = 2 ∧ R ≠ Z) ∧
  (∀ i, i ≤ 3 → mAI m R i = nI (rt i) ∧ mAI m Z i = nI (hz i)) ∧
  (∀ x, x = o ∨ x = A ∨ x = R ∨ x = Z ∨ x = w ∨ x = su → g x = 8) ∧ n ≤ 4 ∧
  ∀ i, i < n → mAR m A i = some (sa i) ∧ Srs m g (16 + 8 * i) (sa i) (kd i) (hs i) (Pl i) (Cs i)
theorem Sth.wr {m m' : MM} {g g' : Nat → Nat} {o A R Z w su n ck : Nat} {sa kd rt hz : Nat → Nat} {hs hs' : Nat → Nat → Nat} {Pl : Nat → List (Nat × Int32)} {Cs : Nat → Nat → Nat} (h : Sth m g o A R Z w su n ck sa kd rt hz hs Pl Cs) {i : Nat} (hS : Srs m' g' (16 + 8 * i) (sa i) (kd i) (hs' i) (Pl i) (Cs i)) (hne : ∀ j, j ≠ i → hs' j = hs j) (hg : ∀ a, mK m a ≠ 0 → g' a = g a) (hF : Fr (fun a => 16 + 8 * i ≤ g a ∧ g a ≤ 16 + 8 * i + 3) m m') : Sth m' g' o A R Z w su n ck sa kd rt hz hs' Pl Cs := by
  have h' := h
  obtain ⟨⟨a1, a2, a3, a4, a5, a6, a7, a8⟩, ⟨b1, b2, b3, b4, b5, b6, b7, b8, b9⟩, c, d, e, f⟩ := h'
  have hd : ∀ x, x = o ∨ x = A ∨ x = R ∨ x = Z ∨ x = w ∨ x = su → ¬ (16 + 8 * i ≤ g x ∧ g x ≤ 16 + 8 * i + 3) := fun x hx z => by
    have := d x hx
    omega
  obtain ⟨x1, -, x2⟩ := hF o (by rw [a1]; decide)
  obtain ⟨x3, -, x4, -⟩ := x2 (hd o (by simp))
  obtain ⟨y1, y2, y3⟩ := hF A (by rw [b1]; decide)
  obtain ⟨-, -, -, -, -, -, y4⟩ := y3 (hd A (by simp))
  obtain ⟨z1, z2, z3⟩ := hF R (by rw [b3]; decide)
  obtain ⟨-, -, -, z4, -⟩ := z3 (hd R (by simp))
  obtain ⟨u1, u2, u3⟩ := hF Z (by rw [b5]; decide)
  obtain ⟨-, -, -, u4, -⟩ := u3 (hd Z (by simp))
  have hk : ∀ x, x = o ∨ x = A ∨ x = R ∨ x = Z ∨ x = w ∨ x = su → mK m x ≠ 0 := fun x hx => by
    rcases hx with rfl | rfl | rfl | rfl | rfl | rfl
    · rw [a1]; decide
    · rw [b1]; decide
    · rw [b3]; decide
    · rw [b5]; decide
    · rw [b7]; decide
    · rw [b8]; decide
  refine ⟨⟨by rw [x1, a1], by rw [x4, a2], by rw [x3, a3], by rw [x3, a4], by rw [x4, a5], by rw [x4, a6], by rw [x4, a7], by rw [x4, a8]⟩, ⟨by rw [y1, b1], by rw [y2, b2], by rw [z1, b3], by rw [z2, b4], by rw [u1, b5], by rw [u2, b6], hF.K b7 (by decide), hF.K b8 (by decide), b9⟩, fun j hj => by rw [z4, u4]; exact c j hj, fun x hx => (hg x (hk x hx)).trans (d x hx), e, fun j hj => ?_⟩
  obtain ⟨f1, f2⟩ := f j hj
  refine ⟨by rw [y4]; exact f1, ?_⟩
  by_cases ej : j = i
  · subst ej
    exact hS
  · rw [hne j ej]
    exact (f2.tag hg).fr (S := fun a => mK m a ≠ 0 ∧ 16 + 8 * i ≤ g a ∧ g a ≤ 16 + 8 * i + 3) (fun a ha => ⟨(hF a ha).1, (hF a ha).2.1, fun z => (hF a ha).2.2 (fun y => z ⟨ha, y⟩)⟩) (fun a q1 q2 z => by
      have := hg a z.1
      omega)
/-- the sum of what goes, from series j on -/
def gone (d : Nat → Nat) : Nat → Nat → Nat
  | 0, _ => 0
  | k + 1, j => d j + gone d k (j + 1)
theorem sp_X5_moveHorizon_loop {o A R Z w su n ck : Nat} {sa kd rt hz : Nat → Nat} {Pl : Nat → List (Nat × Int32)} {Cs : Nat → Nat → Nat} {t H : Nat} (ht : t ≤ 3) (hH : H < 2 ^ 30) (hle : hz t ≤ H) (hP : ∀ i, i < n → Srt kf (Pl i)) {Q : Int32 → MM → Prop} {X : Nat → MM → Prop} : ∀ (k j : Nat) (m : MM) (g : Nat → Nat) (a : Nat), j + k = n → Sth m g o A R Z w su n ck sa kd rt (va_up hz t H) (fun i => if i < j then va_up hz t H else hz) Pl Cs → (∀ m' g', Sto m' g' o A R Z w su n ck sa kd rt (va_up hz t H) Pl Cs → (∀ a, mK m a ≠ 0 → g' a = g a) → Fr (fun a => 16 ≤ g a) m m' → Q (nI (a + gone (fun i => rws hz (Pl i) t - rws (va_up hz t H) (Pl i) t) k j)) m') → wp_X5_moveHorizon_30 Q X (k + 1) o (nI t) (nI a) (nI j) m := by
  intro k
  induction k with
  | zero =>
    intro j m g a hjk h hq
    obtain ⟨⟨a1, a2, a3, a4, a5, a6, a7, a8⟩, b, c, d, e, f⟩ := id h
    unfold wp_X5_moveHorizon_30
    rw [a3]
    refine ⟨a1, fun _ => ?_, fun z => absurd ((nI_leI (by omega) (by omega)).mpr (by omega)) z⟩
    exact hq m g ⟨h.1, h.2.1, h.2.2.1, h.2.2.2.1, h.2.2.2.2.1, fun i hi => by
      obtain ⟨f1, f2⟩ := f i hi
      refine ⟨f1, ?_⟩
      have f2 : Srs m g (16 + 8 * i) (sa i) (kd i) (if i < j then va_up hz t H else hz) (Pl i) (Cs i) := f2
      rw [if_pos (by omega)] at f2
      exact f2⟩ (fun _ _ => rfl) (Fr.refl _ _)
  | succ k ih =>
    intro j m g a hjk h hq
    obtain ⟨⟨a1, a2, a3, a4, a5, a6, a7, a8⟩, ⟨b1, b2, b3, b4, b5, b6, b7, b8, b9⟩, c, d, e, f⟩ := id h
    obtain ⟨f1, f2⟩ := f j (by omega)
    have f2 : Srs m g (16 + 8 * j) (sa j) (kd j) (if j < j then va_up hz t H else hz) (Pl j) (Cs j) := f2
    rw [if_neg (Nat.lt_irrefl _)] at f2
    have k4 : mK m (sa j) = 4 := by
      obtain ⟨p, t9, v, U, WW, T, B, s3, -⟩ := id f2
      exact s3.1
    have hjn : nI j < nI n := (nI_ltI (by omega) (by omega)).mpr (by omega)
    unfold wp_X5_moveHorizon_30
    refine ⟨a1, fun z => absurd (by rw [a3] at z; exact (nI_leI (by omega) (by omega)).mp z) (by omega), fun _ => ⟨a1, ?_⟩⟩
    unfold wp_X5_seriesAt
    refine ⟨fun z => absurd z (nI_pos (by omega)), fun _ => ⟨a1, fun _ => ⟨a1, A, a2, b1, by rw [b2]; exact vp_in_nI (by omega) (by omega), fun o8 e8 => ⟨sa j, e8.trans (by rw [nI_clamp (by omega)]; exact f1), a1, Z, a6, b5, by rw [b6]; exact vp_in_nI (by omega) (by omega), sa j, rfl, k4, ?_⟩⟩, fun z => absurd (by rw [a3]; exact hjn) z⟩⟩
    rw [nI_clamp (by omega), (c t ht).2, va_up_self]
    refine sp_X3_expire f2 (hP j (by omega)) ht hH hle fun m' g' q1 q2 q3 x30 e30 x31 e31 => ?_
    rw [e30, e31, nI_add, nI_1]
    refine ih (j + 1) m' g' _ (by omega) (h.wr (hs' := fun i => if i < j + 1 then va_up hz t H else hz) (i := j) (by show Srs _ _ _ _ _ (if j < j + 1 then va_up hz t H else hz) _ _; rw [if_pos (Nat.lt_succ_self j)]; exact q1) (fun i hi => ?_) q2 q3) (fun m'' g'' r1 r2 r3 => ?_)
    · by_cases q : i < j
      · show (if i < j + 1 then _ else _) = (if i < j then _ else _)
        rw [if_pos q, if_pos (by omega)]
      · show (if i < j + 1 then _ else _) = (if i < j then _ else _)
        rw [if_neg q, if_neg (by omega)]
    · have hold : ∀ b, mK m b ≠ 0 → mK m' b ≠ 0 := fun b hb => by rw [(q3 b hb).1]; exact hb
      have := hq m'' g'' r1 (fun b hb => (r2 b (hold b hb)).trans (q2 b hb)) ((q3.mono fun b _ z => Nat.le_trans (Nat.le_add_right _ _) z.1).then r3 fun b hb z => by rw [q2 b hb] at z; exact z)
      rw [show a + gone (fun i => rws hz (Pl i) t - rws (va_up hz t H) (Pl i) t) (k + 1) j = a + (rws hz (Pl j) t - rws (va_up hz t H) (Pl j) t) + gone (fun i => rws hz (Pl i) t - rws (va_up hz t H) (Pl i) t) k (j + 1) from (Nat.add_assoc _ _ _).symm] at this
      exact this
