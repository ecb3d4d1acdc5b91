theorem max_nI {a c r : Nat} (ha : a < 2 ^ 30) (hc : c < 2 ^ 30) (hr : r < 2 ^ 30) : (if nI a < nI c - nI r then nI c - nI r else nI a) = nI (max a (c - r)) := by
  rcases Nat.lt_or_ge c r with q | q
  · have h : ¬ nI a < nI c - nI r := fun z => by
      have z := Int32.lt_iff_toInt_lt.mp z
      rw [nI_toInt (by omega), pk_sub_toInt hc hr] at z
      omega
    rw [if_neg h, show max a (c - r) = a by omega]
  · rw [pk_sub q]
    by_cases z : nI a < nI (c - r)
    · have := (nI_ltI (by omega) (by omega)).mp z
      rw [if_pos z, show max a (c - r) = c - r by omega]
    · have : ¬ a < c - r := fun y => z ((nI_ltI (by omega) (by omega)).mpr y)
      rw [if_neg z, show max a (c - r) = a by omega]
theorem sp_X5_moveHorizon {m : MM} {g : Nat → Nat} {o A R Z w su n ck : Nat} {sa kd rt hz : Nat → Nat} {Pl : Nat → List (Nat × Int32)} {Cs : Nat → Nat → Nat} (h : Sto m g o A R Z w su n ck sa kd rt hz Pl Cs) {t : Nat} (ht : t ≤ 3) (hck : ck < 2 ^ 30) (hrt : rt t < 2 ^ 30) (hzt : hz t < 2 ^ 30) (hP : ∀ i, i < n → Srt kf (Pl i)) {Q : Int32 → MM → Prop} {X : Nat → MM → Prop} (hq : ∀ m' g', Sto m' g' o A R Z w su n ck sa kd rt (va_up hz t (max (hz t) (ck - rt t))) Pl Cs → (∀ a, mK m a ≠ 0 → g' a = g a) → Fr (fun a => 8 ≤ g a) m m' → Q (nI (gone (fun i => rws hz (Pl i) t - rws (va_up hz t (max (hz t) (ck - rt t))) (Pl i) t) n 0)) m') : wp_X5_moveHorizon o (nI t) m Q X := by
  obtain ⟨⟨a1, a2, a3, a4, a5, a6, a7, a8⟩, ⟨b1, b2, b3, b4, b5, b6, b7, b8, b9⟩, c, d, e, f⟩ := id h
  have i4 : vp_in (nI t) 4 := vp_in_nI (by omega) (by omega)
  unfold wp_X5_moveHorizon
  refine ⟨a1, Z, a6, a1, Z, a6, b5, by rw [b6]; exact i4, a1, a1, R, a5, b3, by rw [b4]; exact i4, b5, by rw [b6]; exact i4, fun m14 e14 x15 e15 x16 e16 => ?_⟩
  rw [nI_clamp (by omega), (c t ht).1, (c t ht).2, a4, max_nI hzt hck hrt] at e14
  have F14 : Fr (fun x => x = Z) m m14 := by rw [e14]; exact Fr.sAI _ _ _
  rw [e15, e16]
  refine ⟨n + 1, sp_X5_moveHorizon_loop (A := A) (R := R) (Z := Z) (w := w) (su := su) (ck := ck) (sa := sa) (kd := kd) (rt := rt) (Pl := Pl) (Cs := Cs) (hz := hz) (H := max (hz t) (ck - rt t)) ht (by omega) (by omega) hP n 0 m14 g 0 (by omega) ?_ (fun m' g' r1 r2 r3 => ?_)⟩
  · have hZ14 : mAI m14 Z = va_up (mAI m Z) t (nI (max (hz t) (ck - rt t))) := by rw [e14, ai_sAI, if_pos rfl]
    have hR14 : mAI m14 R = mAI m R := by rw [e14, ai_sAI, if_neg b9]
    have hrest : mK m14 = mK m ∧ mN m14 = mN m ∧ mI m14 = mI m ∧ mR m14 = mR m ∧ mAR m14 = mAR m := by
      rw [e14]; exact ⟨rfl, rfl, rfl, rfl, rfl⟩
    obtain ⟨k1, k2, k3, k5, k6⟩ := hrest
    refine ⟨⟨by rw [k1, a1], by rw [k5, a2], by rw [k3, a3], by rw [k3, a4], by rw [k5, a5], by rw [k5, a6], by rw [k5, a7], by rw [k5, a8]⟩, ⟨by rw [k1, b1], by rw [k2, b2], by rw [k1, b3], by rw [k2, b4], by rw [k1, b5], by rw [k2, b6], by rw [k1, b7], by rw [k1, b8], b9⟩, fun i hi => ?_, d, e, fun i hi => ⟨by rw [k6]; exact (f i hi).1, ?_⟩⟩
    · rw [hR14, hZ14]
      refine ⟨(c i hi).1, ?_⟩
      by_cases q : i = t
      · rw [q, va_up_self, va_up_self]
      · rw [va_up_ne _ _ q, va_up_ne _ _ q]
        exact (c i hi).2
    · show Srs m14 g (16 + 8 * i) (sa i) (kd i) (if i < 0 then _ else hz) (Pl i) (Cs i)
      rw [if_neg (Nat.not_lt_zero i)]
      refine (f i hi).2.fr F14 fun a q1 q2 z => ?_
      have := d Z (by simp)
      rw [z] at q1
      omega
  · have hold : ∀ b, mK m b ≠ 0 → mK m14 b ≠ 0 := fun b hb => by rw [(F14 b hb).1]; exact hb
    have := hq m' g' r1 (fun b hb => r2 b (hold b hb)) ((F14.mono fun b _ z => by rw [z, d Z (by simp)]; exact Nat.le_refl _).then r3 fun b _ z => Nat.le_trans (by decide) z)
    rw [Nat.zero_add]
    exact this
