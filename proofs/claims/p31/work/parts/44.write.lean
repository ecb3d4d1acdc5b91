/-! PUTTING A POINT -/
theorem Sto.wr {m m' : MM} {g g' : Nat → Nat} {o A R Z w su n ck : Nat} {sa kd rt hz : Nat → Nat} {Pl : Nat → List (Nat × Int32)} {Cs : Nat → Nat → Nat} (h : Sto m g o A R Z w su n ck sa kd rt hz Pl Cs) {i : Nat} (hin : i < n) {P' : List (Nat × Int32)} {C' : Nat → Nat} (hS : Srs m' g' (16 + 8 * i) (sa i) (kd i) hz P' C') (hg : ∀ a, mK m a ≠ 0 → g' a = g a) (hF : Fr (fun a => 16 + 8 * i ≤ g a ∧ g a ≤ 16 + 8 * i + 3) m m') : Sto m' g' o A R Z w su n ck sa kd rt hz (va_up Pl i P') (va_up Cs i C') := by
  have h' := h
  obtain ⟨⟨a1, a2, a3, a4, a5, a6, a7, a8⟩, ⟨b1, b2, b3, b4, b5, b6, b7, b8, b9⟩, c, d, e, f⟩ := h'
  have hd : ∀ x, x = o ∨ x = A ∨ x = R ∨ x = Z ∨ x = w ∨ x = su → ¬ (16 + 8 * i ≤ g x ∧ g x ≤ 16 + 8 * i + 3) := fun x hx z => by
    have := d x hx
    omega
  obtain ⟨x1, -, x2⟩ := hF o (by rw [a1]; decide)
  obtain ⟨x3, -, x4, -⟩ := x2 (hd o (by simp))
  obtain ⟨y1, y2, y3⟩ := hF A (by rw [b1]; decide)
  obtain ⟨-, -, -, -, -, -, y4⟩ := y3 (hd A (by simp))
  obtain ⟨z1, z2, z3⟩ := hF R (by rw [b3]; decide)
  obtain ⟨-, -, -, z4, -⟩ := z3 (hd R (by simp))
  obtain ⟨u1, u2, u3⟩ := hF Z (by rw [b5]; decide)
  obtain ⟨-, -, -, u4, -⟩ := u3 (hd Z (by simp))
  have hk : ∀ x, x = o ∨ x = A ∨ x = R ∨ x = Z ∨ x = w ∨ x = su → mK m x ≠ 0 := fun x hx => by
    rcases hx with rfl | rfl | rfl | rfl | rfl | rfl
    · rw [a1]; decide
    · rw [b1]; decide
    · rw [b3]; decide
    · rw [b5]; decide
    · rw [b7]; decide
    · rw [b8]; decide
  refine ⟨⟨by rw [x1, a1], by rw [x4, a2], by rw [x3, a3], by rw [x3, a4], by rw [x4, a5], by rw [x4, a6], by rw [x4, a7], by rw [x4, a8]⟩, ⟨by rw [y1, b1], by rw [y2, b2], by rw [z1, b3], by rw [z2, b4], by rw [u1, b5], by rw [u2, b6], hF.K b7 (by decide), hF.K b8 (by decide), b9⟩, fun j hj => by rw [z4, u4]; exact c j hj, fun x hx => (hg x (hk x hx)).trans (d x hx), e, fun j hj => ?_⟩
  obtain ⟨f1, f2⟩ := f j hj
  refine ⟨by rw [y4]; exact f1, ?_⟩
  by_cases ej : j = i
  · subst ej
    rw [va_up_self, va_up_self]
    exact hS
  · rw [va_up_ne _ _ ej, va_up_ne _ _ ej]
    have f3 := f2.tag hg
    exact (f2.tag hg).fr (S := fun a => mK m a ≠ 0 ∧ 16 + 8 * i ≤ g a ∧ g a ≤ 16 + 8 * i + 3) (fun a ha => ⟨(hF a ha).1, (hF a ha).2.1, fun z => (hF a ha).2.2 (fun y => z ⟨ha, y⟩)⟩) (fun a q1 q2 z => by
      have := hg a z.1
      omega)
/-- what the horizons are below the clock, and what that gives for a time that is not too old -/
theorem hz_ok {hz : Nat → Nat} {ck x : Nat} (h0 : hz 0 = 0 ∨ hz 0 + 7200 ≤ ck) (h1 : hz 1 = 0 ∨ hz 1 + 7200 ≤ ck) (h2 : hz 2 = 0 ∨ hz 2 + 90000 ≤ ck) (h3 : hz 3 = 0 ∨ hz 3 + 90000 ≤ ck) (hx : ck ≤ x + 3600) : hz 0 ≤ x ∧ ∀ i, 1 ≤ i → i ≤ 3 → hz (i - 1) ≤ bg (ln i) x ∧ hz i < bg (ln i) x + ln i := by
  have b1 := bg_lt (len := 60) (by decide) x
  have b2 := bg_lt (len := 3600) (by decide) x
  have b3 := bg_lt (len := 86400) (by decide) x
  refine ⟨by omega, fun i a b => ?_⟩
  have : i = 1 ∨ i = 2 ∨ i = 3 := by omega
  rcases this with rfl | rfl | rfl
  · show hz 0 ≤ bg 60 x ∧ hz 1 < bg 60 x + 60
    omega
  · show hz 1 ≤ bg 3600 x ∧ hz 2 < bg 3600 x + 3600
    omega
  · show hz 2 ≤ bg 86400 x ∧ hz 3 < bg 86400 x + 86400
    omega
/-- a value of a series of the kind k -/
def okV (k : Nat) (v : Int32) : Prop := (if k = 1 then (0 : Int32) else (-1000000 : Int32)) ≤ v ∧ v ≤ (1000000 : Int32)
theorem sp_X5_isPoint {m : MM} {g : Nat → Nat} {o A R Z w su n ck : Nat} {sa kd rt hz : Nat → Nat} {Pl : Nat → List (Nat × Int32)} {Cs : Nat → Nat → Nat} (h : Sto m g o A R Z w su n ck sa kd rt hz Pl Cs) (hkd : ∀ i, i < n → kd i ≤ 1) (hc : ck < 2 ^ 31) {i : Nat} (hin : i < n) {p2 p3 : Int32} {Q : Int32 → MM → Prop} (h1 : ∀ x, p2 = nI x → x ≤ ck → okV (kd i) p3 → Q 1 m) (h0 : (∀ x, p2 = nI x → x ≤ ck → ¬ okV (kd i) p3) → Q 0 m) : wp_X5_isPoint o (sa i) p2 p3 m Q := by
  obtain ⟨-, p, t, v, U, WW, T, B, s3, -⟩ := h.2.2.2.2.2 i hin
  have hk := hkd i hin
  have go : ∀ lo9 : Int32, lo9 = (if kd i = 1 then (0 : Int32) else (-1000000 : Int32)) → ((p2 < 0 → Q (0 : Int32) m) ∧ (¬ p2 < 0 → mK m o = 6 ∧ (((mI m 102 o) < p2 → Q (0 : Int32) m) ∧ (¬ (mI m 102 o) < p2 → ((p3 < lo9 → Q (0 : Int32) m) ∧ (¬ p3 < lo9 → (((1000000 : Int32) < p3 → Q (0 : Int32) m) ∧ (¬ (1000000 : Int32) < p3 → Q (1 : Int32) m)))))))) := by
    intro lo9 el
    rw [h.1.2.2.2.1]
    refine ⟨fun z => h0 fun x e _ _ => ?_, fun z => ⟨h.1.1, fun y => h0 fun x e hx _ => ?_, fun y => ⟨fun a => h0 fun x e hx b => ?_, fun a => ⟨fun b => h0 fun x e hx d => ?_, fun b => ?_⟩⟩⟩⟩
    · rw [e] at z
      rcases Nat.lt_or_ge x (2 ^ 31) with q | q
      · exact nI_pos q z
      · omega
    · rw [e] at y
      have := (nI_ltI hc (by omega)).mp y
      omega
    · exact absurd (Int32.not_lt.mpr (by rw [el]; exact b.1)) (fun q => q a)
    · exact absurd (Int32.not_lt.mpr d.2) (fun q => q b)
    · obtain ⟨x, hx, e⟩ := nI_of z
      rw [e] at y
      refine h1 x e ?_ ⟨by rw [← el]; exact Int32.not_lt.mp a, Int32.not_lt.mp b⟩
      rcases Nat.lt_or_ge ck x with q | q
      · exact absurd ((nI_ltI hc hx).mpr q) y
      · exact q
  unfold wp_X5_isPoint
  rw [s3.2.1]
  refine ⟨s3.1, fun z x3 e3 => go x3 (by rw [e3, if_neg (fun y => z (by rw [y]; exact nI_11))]), fun z x9 e9 => go x9 (by rw [e9, if_pos ((nI_eq (a := kd i) (b := 1) (by omega) (by omega)).mp (z.trans nI_11.symm))])⟩
