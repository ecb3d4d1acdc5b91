/-! TWO STORES side by side, and the row of numbers -/
def rmin (i : Nat) : Nat := if i ≤ 1 then 7200 else 90000
abbrev S6 (x : Nat → Nat) (m : MM) (g : Nat → Nat) (n ck : Nat) (sa kd rt hz : Nat → Nat) (Pl : Nat → List (Nat × Int32)) (Cs : Nat → Nat → Nat) : Prop := Sto m g (x 0) (x 1) (x 2) (x 3) (x 4) (x 5) n ck sa kd rt hz Pl Cs
/-- no cell is of both, and the row is of none -/
def Dj (m : MM) (g h : Nat → Nat) (z : Nat) : Prop := (∀ a, mK m a ≠ 0 → ¬ (8 ≤ g a ∧ 8 ≤ h a)) ∧ ¬ 8 ≤ g z ∧ ¬ 8 ≤ h z
def ot (m : MM) (h : Nat → Nat) : Nat → Nat := fun a => if mK m a = 0 then 0 else h a
def T2 (x y : Nat → Nat) (z : Nat) (kd rt hz : Nat → Nat) (ck : Nat) (m : MM) (Pl Pp : Nat → List (Nat × Int32)) (Cs Ds : Nat → Nat → Nat) : Prop := ∃ g h sa sb, S6 x m g 2 ck sa kd rt hz Pl Cs ∧ S6 y m h 2 ck sb kd rt hz Pp Ds ∧ Row m z kd rt hz ∧ Dj m g h z
theorem Dj.sw {m : MM} {g h : Nat → Nat} {z : Nat} (hD : Dj m g h z) : Dj m h g z := ⟨fun a ha c => hD.1 a ha ⟨c.2, c.1⟩, hD.2.2, hD.2.1⟩
theorem T2.sw {x y : Nat → Nat} {z : Nat} {kd rt hz : Nat → Nat} {ck : Nat} {m : MM} {Pl Pp : Nat → List (Nat × Int32)} {Cs Ds : Nat → Nat → Nat} (hT : T2 x y z kd rt hz ck m Pl Pp Cs Ds) : T2 y x z kd rt hz ck m Pp Pl Ds Cs := by
  obtain ⟨g, h, sa, sb, h1, h2, h3, h4⟩ := hT
  exact ⟨h, g, sb, sa, h2, h1, h3, h4.sw⟩
theorem S6.oth {y : Nat → Nat} {m m' : MM} {g g' h : Nat → Nat} {z n ck : Nat} {sb kd rt hz : Nat → Nat} {Pp : Nat → List (Nat × Int32)} {Ds : Nat → Nat → Nat} (hP : S6 y m h n ck sb kd rt hz Pp Ds) (hD : Dj m g h z) (hz0 : mK m z ≠ 0) (hg : ∀ a, mK m a ≠ 0 → g' a = g a) (hF : Fr (fun a => 8 ≤ g a) m m') : S6 y m' (ot m h) n ck sb kd rt hz Pp Ds ∧ Dj m' g' (ot m h) z := by
  have ho : ∀ a, mK m a ≠ 0 → ot m h a = h a := fun a ha => if_neg ha
  have hn : ∀ a, mK m a = 0 → ot m h a = 0 := fun a ha => if_pos ha
  have t := Sto.tag hP (g' := ot m h) ho
  have key : ∀ q, 8 ≤ ot m h q → ¬ 8 ≤ g q := fun q hq hS => by
    by_cases k : mK m q = 0
    · rw [hn q k] at hq
      omega
    · rw [ho q k] at hq
      exact hD.1 q k ⟨hS, hq⟩
  refine ⟨t.fr hF (fun q hq => key q ?_) (fun q hq => key q (by omega)), fun a ha c => ?_, ?_, ?_⟩
  · have := t.2.2.2.1 q (by rcases hq with e | e | e | e <;> simp [e])
    omega
  · by_cases k : mK m a = 0
    · rw [hn a k] at c
      omega
    · rw [ho a k, hg a k] at c
      exact hD.1 a k c
  · rw [hg z hz0]
    exact hD.2.1
  · rw [ho z hz0]
    exact hD.2.2
/-- the pair behind an operation of the first store -/
theorem T2.mk1 {x y : Nat → Nat} {z : Nat} {kd rt hz rt' hz' kd2 rt2 hz2 : Nat → Nat} {ck ck' : Nat} {m m' : MM} {Pl' Pp : Nat → List (Nat × Int32)} {Cs' Ds : Nat → Nat → Nat} {g g' h sa' sb : Nat → Nat} (hS : S6 x m' g' 2 ck' sa' kd rt' hz' Pl' Cs') (hP : S6 y m h 2 ck sb kd rt hz Pp Ds) (hR : Row m z kd2 rt2 hz2) (hD : Dj m g h z) (hg : ∀ a, mK m a ≠ 0 → g' a = g a) (hF : Fr (fun a => 8 ≤ g a) m m') : S6 x m' g' 2 ck' sa' kd rt' hz' Pl' Cs' ∧ S6 y m' (ot m h) 2 ck sb kd rt hz Pp Ds ∧ Row m' z kd2 rt2 hz2 ∧ Dj m' g' (ot m h) z := by
  obtain ⟨h1, h2⟩ := S6.oth hP hD (by rw [hR.1]; decide) hg hF
  exact ⟨hS, h1, hR.fr hF hD.2.1, h2⟩
theorem fr16 {m m' : MM} {g : Nat → Nat} (hF : Fr (fun a => 16 ≤ g a) m m') : Fr (fun a => 8 ≤ g a) m m' := hF.mono fun _ _ z => Nat.le_trans (by decide) z
theorem frws {x : Nat → Nat} {m m' : MM} {g : Nat → Nat} {n ck : Nat} {sa kd rt hz : Nat → Nat} {Pl : Nat → List (Nat × Int32)} {Cs : Nat → Nat → Nat} (h : S6 x m g n ck sa kd rt hz Pl Cs) (hF : Fr (fun y => y = x 4 ∨ y = x 5) m m') : Fr (fun a => 8 ≤ g a) m m' := hF.mono fun y _ q => by
  show 8 ≤ g y
  rw [h.2.2.2.1 y (by rcases q with q | q <;> simp [q])]
  exact Nat.le_refl _
/-- the numbers -/
def Nm (ck : Nat) (kd rt hz : Nat → Nat) : Prop := kd 0 = 0 ∧ kd 1 = 1 ∧ 0 ≤ ck ∧ ck ≤ 5000000 ∧ (∀ i, i ≤ 3 → rmin i ≤ rt i ∧ rt i ≤ 10000000) ∧ (∀ i, i ≤ 3 → ck - rt i ≤ hz i) ∧ ∀ i, i ≤ 3 → hz i = 0 ∨ hz i + rmin i ≤ ck
def Pn (ck : Nat) (kd : Nat → Nat) (B : Nat) (Pl : Nat → List (Nat × Int32)) : Prop := B ≤ 1000 ∧ ∀ i, i < 2 → Srt kf (Pl i) ∧ (Pl i).length ≤ B ∧ ∀ b ∈ Pl i, b.1 ≤ ck ∧ okV (kd i) b.2
def C2 (Cs : Nat → Nat → Nat) : Prop := ∀ i, i < 2 → ∀ j, 1 ≤ j → j ≤ 3 → pw (Cs i j) ∧ Cs i j ≤ 2048
section
variable {ck B : Nat} {kd rt hz : Nat → Nat} {Pl : Nat → List (Nat × Int32)} {Cs : Nat → Nat → Nat}
theorem Nm.kd1 (h : Nm ck kd rt hz) : ∀ i, i < 2 → kd i ≤ 1 := fun i hi => by
  rcases (show i = 0 ∨ i = 1 by omega) with e | e
  · rw [e, h.1]; decide
  · rw [e, h.2.1]; decide
theorem Nm.hzb (h : Nm ck kd rt hz) : ∀ i, i ≤ 3 → hz i < 2 ^ 30 := fun i hi => by
  have := h.2.2.2.2.2.2 i hi
  have := h.2.2.2.1
  omega
theorem Nm.hzb1 (h : Nm ck kd rt hz) : ∀ i, i ≤ 3 → hz i < 2 ^ 31 := fun i hi => by
  have := h.hzb i hi
  omega
theorem Nm.hzs (h : Nm ck kd rt hz) : (hz 0 = 0 ∨ hz 0 + 7200 ≤ ck) ∧ (hz 1 = 0 ∨ hz 1 + 7200 ≤ ck) ∧ (hz 2 = 0 ∨ hz 2 + 90000 ≤ ck) ∧ (hz 3 = 0 ∨ hz 3 + 90000 ≤ ck) := by
  have k := h.2.2.2.2.2.2
  exact ⟨k 0 (by decide), k 1 (by decide), k 2 (by decide), k 3 (by decide)⟩
theorem Nm.rtb (h : Nm ck kd rt hz) : ∀ i, i ≤ 3 → rt i < 2 ^ 30 := fun i hi => by
  have := (h.2.2.2.2.1 i hi).2
  omega
theorem Pn.pk (hN : Nm ck kd rt hz) (h : Pn ck kd B Pl) : Pk 2 ck kd Pl := by
  have h1 := hN.2.2.2.1
  refine ⟨by omega, fun i hi => ?_⟩
  obtain ⟨a, b, c⟩ := h.2 i hi
  have := h.1
  exact ⟨a, by omega, c, hN.kd1 i hi⟩
theorem Pn.t31 (hN : Nm ck kd rt hz) (h : Pn ck kd B Pl) {i : Nat} (hi : i < 2) : ∀ c ∈ Pl i, c.1 < 2 ^ 31 := (h.pk hN).t31 hi
/-! what writes cost: no tier ever has more than 2048 places -/
def bd (C : Nat → Nat) : Nat := 2 * (2048 - C 1) + 2 * (2048 - C 2) + 2 * (2048 - C 3)
theorem bd_le (C : Nat → Nat) : bd C ≤ 12288 := by
  unfold bd
  omega
theorem cV_two {b C : Nat} {V : List (Nat × List Int32)} (h : pw C) (hC : C ≤ 2048) (hl : V.length < 2048) : cV b C V + 2 * (2048 - capV b C V) ≤ 8 + 2 * (2048 - C) ∧ pw (capV b C V) ∧ capV b C V ≤ 2048 := by
  unfold cV capV
  by_cases q : ∃ x ∈ V, x.1 = b
  · rw [if_pos q, if_pos q]
    exact ⟨by omega, h, hC⟩
  · rw [if_neg q, if_neg q]
    by_cases r : C ≤ V.length
    · obtain ⟨e1, e2⟩ := pw_gro h (by omega)
      rw [if_pos r, if_pos r, e1]
      have h2 : 2 * C ≤ 2048 := by
        have h3 : C < 2048 := by omega
        unfold pw at h
        omega
      exact ⟨by omega, e2, h2⟩
    · rw [if_neg r, if_neg r]
      exact ⟨by omega, h, hC⟩
theorem sV_two {P : List (Nat × Int32)} {C : Nat → Nat} {x : Nat} (h : ∀ j, 1 ≤ j → j ≤ 3 → pw (C j) ∧ C j ≤ 2048) (hl : P.length < 2048) : sV hz P C x + bd (cN hz P C x) ≤ 24 + bd C ∧ ∀ j, 1 ≤ j → j ≤ 3 → pw (cN hz P C x j) ∧ cN hz P C x j ≤ 2048 := by
  have k : ∀ j, 1 ≤ j → j ≤ 3 → cV (bg (ln j) x) (C j) (gk (ln j) (hz j) P) + 2 * (2048 - cN hz P C x j) ≤ 8 + 2 * (2048 - C j) ∧ pw (cN hz P C x j) ∧ cN hz P C x j ≤ 2048 := fun j a b => cV_two (h j a b).1 (h j a b).2 (Nat.lt_of_le_of_lt (gk_len _ _ _) hl)
  have k1 := k 1 (by decide) (by decide)
  have k2 := k 2 (by decide) (by decide)
  have k3 := k 3 (by decide) (by decide)
  refine ⟨?_, fun j a b => (k j a b).2⟩
  unfold sV bd
  omega
theorem PM_two {ck kdi x0 st : Nat} {v0 rs : Int32} : ∀ (k d : Nat) (P : List (Nat × Int32)) (C : Nat → Nat) (d' : Nat) (P' : List (Nat × Int32)) (C' : Nat → Nat) (s : Nat), PM hz ck kdi x0 st v0 rs k d P C d' P' C' s → Srt kf P → P.length + k < 2048 → (∀ j, 1 ≤ j → j ≤ 3 → pw (C j) ∧ C j ≤ 2048) → (∀ b ∈ P, b.1 ≤ ck ∧ okV kdi b.2) → s + bd C' ≤ 24 * k + bd C ∧ (∀ j, 1 ≤ j → j ≤ 3 → pw (C' j) ∧ C' j ≤ 2048) ∧ Srt kf P' ∧ P'.length ≤ P.length + k ∧ (∀ b ∈ P', b.1 ≤ ck ∧ okV kdi b.2) ∧ d ≤ d' ∧ d' ≤ d + k
  | 0, d, P, C, d', P', C', s, h, hP, hl, hC, hv => by
    obtain ⟨rfl, rfl, rfl, rfl⟩ := h
    exact ⟨by omega, hC, hP, Nat.le_refl _, hv, Nat.le_refl _, Nat.le_refl _⟩
  | k + 1, d, P, C, d', P', C', s, h, hP, hl, hC, hv => by
    rcases h with ⟨q, s1, h, rfl⟩ | ⟨q, rfl, rfl, rfl, rfl⟩
    · obtain ⟨c1, c2⟩ := sV_two (hz := hz) (P := P) (C := C) (x := x0 + d * st) hC (by omega)
      have hil := ins_len (x := x0 + d * st) (y := v0 + nI d * rs) hP
      obtain ⟨i1, i2, i3, i4, i5, i6, i7⟩ := PM_two k (d + 1) _ _ d' P' C' s1 h (hP.ins _) (by omega) c2 (fun b hb => by
        rcases mem_ins.mp hb with rfl | ⟨z, -⟩
        · exact q.1
        · exact hv b z)
      exact ⟨by omega, i2, i3, by omega, i5, by omega, by omega⟩
    · exact ⟨by omega, hC, hP, by omega, hv, Nat.le_refl _, by omega⟩
theorem gk16 (h : Pn ck kd B Pl) {i : Nat} (hi : i < 2) : ∀ j, 1 ≤ j → j ≤ 3 → (gk (ln j) (hz j) (Pl i)).length < 16384 := fun j _ _ => by
  have := gk_len (ln j) (hz j) (Pl i)
  have := (h.2 i hi).2.1
  have := h.1
  omega
end
section
variable {x y : Nat → Nat} {z ck B : Nat} {kd rt hz : Nat → Nat} {m : MM} {Pl Pp : Nat → List (Nat × Int32)} {Cs Ds : Nat → Nat → Nat}
theorem t2_put (hT : T2 x y z kd rt hz ck m Pl Pp Cs Ds) (hN : Nm ck kd rt hz) (hP : Pn ck kd B Pl) {i tt : Nat} {v : Int32} (hin : i < 2) (t31 : tt < 2 ^ 31) (hv : okV (kd i) v) {Q : Int32 → MM → Prop} {X : Nat → MM → Prop} {kc ks : Nat} (hkc : 9 ≤ kc) (hks : 18 ≤ ks) (hks2 : okP hz ck (kd i) (Pl i) tt v → sV hz (Pl i) (Cs i) tt + 18 ≤ ks) (h1 : okP hz ck (kd i) (Pl i) tt v → ∀ (r : Int32) m' C', ((∃ b ∈ Pl i, b.1 = tt) → r = 1) → ((∀ b ∈ Pl i, b.1 ≠ tt) → r = 0) → T2 x y z kd rt hz ck m' (va_up Pl i (ins kf (tt, v) (Pl i))) Pp (va_up Cs i C') Ds → (∀ j, 1 ≤ j → j ≤ 3 → C' j = cN hz (Pl i) (Cs i) tt j) → Q r m') (h2 : ck < tt → X 1 m) (h3 : tt ≤ ck → ¬ okP hz ck (kd i) (Pl i) tt v → X 2 m) : wp_X5_put (x 0) (nI i) (nI tt) v m Q X kc ks := by
  obtain ⟨g, h, sa, sb, hO, hO2, hR, hD⟩ := hT
  have hck := hN.2.2.2.1
  refine sp_X5_put hO hN.kd1 (by omega) hN.hzs (fun i hi => ⟨(hP.2 i hi).1, by have := (hP.2 i hi).2.1; have := hP.1; omega, gk16 hP hi⟩) (by omega) hks (fun i' t' g1 e1 e2 g3 hv' hpl => ?_) (fun q => (ser_no (by decide) hin q).elim) (fun i' g1 e1 nn => ?_) (fun i' t' g1 e1 e2 g3 hv' hpl => ?_) (fun i' t' g1 e1 e2 g3 hv' hpl r m' g' C' r1 r0 hS hC hg hF => ?_)
  · obtain rfl : i = i' := (nI_eq (by omega) (by omega)).mp e1
    obtain rfl : tt = t' := (nI_eq t31 (by omega)).mp e2
    have := sC_le hz (Pl i) tt
    have := hks2 ⟨⟨g3, hv⟩, hpl⟩
    omega
  · obtain rfl : i = i' := (nI_eq (by omega) (by omega)).mp e1
    refine h2 ?_
    rcases Nat.lt_or_ge ck tt with q | q
    · exact q
    · exact absurd hv (nn tt rfl q)
  · obtain rfl : i = i' := (nI_eq (by omega) (by omega)).mp e1
    obtain rfl : tt = t' := (nI_eq t31 (by omega)).mp e2
    exact h3 g3 fun q => hpl q.2
  · obtain rfl : i = i' := (nI_eq (by omega) (by omega)).mp e1
    obtain rfl : tt = t' := (nI_eq t31 (by omega)).mp e2
    obtain ⟨k1, k2, k3, k4⟩ := T2.mk1 hS hO2 hR hD hg (fr16 hF)
    exact h1 ⟨⟨g3, hv⟩, hpl⟩ r m' C' r1 r0 ⟨g', ot m h, sa, sb, k1, k2, k3, k4⟩ hC
theorem t2_Lput (hT : T2 x y z kd rt hz ck m Pl Pp Cs Ds) (hN : Nm ck kd rt hz) (hP : Pn ck kd B Pl) {i tt : Nat} {v : Int32} (hin : i < 2) (t31 : tt < 2 ^ 31) (hv : okV (kd i) v) {Q : Int32 → MM → Prop} {kc ks : Nat} (hkc : 9 ≤ kc) (hks : 18 ≤ ks) (hks2 : okP hz ck (kd i) (Pl i) tt v → sV hz (Pl i) (Cs i) tt + 18 ≤ ks) (h1 : okP hz ck (kd i) (Pl i) tt v → ∀ (r : Int32) m' C', ((∃ b ∈ Pl i, b.1 = tt) → r = 1) → ((∀ b ∈ Pl i, b.1 ≠ tt) → r = 0) → T2 x y z kd rt hz ck m' (va_up Pl i (ins kf (tt, v) (Pl i))) Pp (va_up Cs i C') Ds → (∀ j, 1 ≤ j → j ≤ 3 → C' j = cN hz (Pl i) (Cs i) tt j) → Q r m') (h2 : ck < tt → Q (-1) m) (h3 : tt ≤ ck → ¬ okP hz ck (kd i) (Pl i) tt v → Q (-2) m) : wp_L_put (x 0) (nI i) (nI tt) v m Q kc ks := by
  have hK : mK m (x 0) = 6 := by
    obtain ⟨g, h, sa, sb, hO, -⟩ := hT
    exact hO.1.1
  unfold wp_L_put
  refine ⟨kc, ks, Nat.le_refl _, Nat.le_refl _, hK, t2_put hT hN hP hin t31 hv hkc hks hks2 (fun hok r m' C' r1 r0 hT' hC => ?_) (fun c => ⟨fun q => absurd q (by decide), fun _ => h2 c, fun _ q => absurd rfl q⟩) (fun c d => ⟨fun q => absurd q (by decide), fun q => absurd q (by decide), fun _ _ => h3 c d⟩)⟩
  have hq := h1 hok r m' C' r1 r0 hT' hC
  intro kc8 ks9 _ _
  by_cases q : ∃ b ∈ Pl i, b.1 = tt
  · rw [r1 q] at hq ⊢
    exact ⟨fun c => absurd c (by decide), fun _ => hq⟩
  · rw [r0 (fun b hb e => q ⟨b, hb, e⟩)] at hq ⊢
    exact ⟨fun _ => hq, fun c => absurd rfl c⟩
end
