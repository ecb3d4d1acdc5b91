/-! THE STORE'S CALLS ABOUT WINDOWS -/
theorem sp_X5_total {m : MM} {g : Nat → Nat} {o A R Z w su n ck : Nat} {sa kd rt hz : Nat → Nat} {Pl : Nat → List (Nat × Int32)} {Cs : Nat → Nat → Nat} (h : Sto m g o A R Z w su n ck sa kd rt hz Pl Cs) (hzb : ∀ i, i ≤ 3 → hz i < 2 ^ 31) (hP : ∀ i, i < n → Srt kf (Pl i) ∧ (Pl i).length < 2 ^ 26) {p1 p2 p3 : Int32} {Q : Int64 → MM → Prop} {X : Nat → MM → Prop} (hX0 : (p1 < 0 ∨ ¬ p1 < nI n) → X 0 m) (hX1 : ∀ i, i < n → p1 = nI i → ¬ isWin p2 p3 60 → X 1 m) (hX2 : ∀ i f t, i < n → p1 = nI i → p2 = nI f → p3 = nI t → f < 2 ^ 31 → t < 2 ^ 31 → f ≤ t → 60 ∣ f → 60 ∣ t → ¬ Kn hz f t → ∀ m', Sto m' g o A R Z w su n ck sa kd rt hz Pl Cs → Fr (fun x => x = w ∨ x = su) m m' → X 2 m') (hQ : ∀ i f t, i < n → p1 = nI i → p2 = nI f → p3 = nI t → f < 2 ^ 31 → t < 2 ^ 31 → f ≤ t → 60 ∣ f → 60 ∣ t → Kn hz f t → ∀ m', Sto m' g o A R Z w su n ck sa kd rt hz Pl Cs → Fr (fun x => x = w ∨ x = su) m m' → Q (vSum ((seg f t (Pl i)).map (·.2))) m') : wp_X5_total o p1 p2 p3 m Q X := by
  unfold wp_X5_total
  refine ⟨h.1.1, sp_X5_seriesAt h (fun i hi e => ⟨sa i, rfl, ?_⟩) hX0⟩
  refine sp_X5_needWindow (len := 60) (by decide) (by decide) (fun hw => ⟨h.1.1, ?_⟩) (hX1 i hi e)
  obtain ⟨f, t, rfl, rfl, w1, w2, w3, w4, w5⟩ := hw
  refine sp_X5_summarize h hzb hi (hP i hi).1 (hP i hi).2 w4 w5 w3 w2 (fun k m' s' r' f' => ?_) (hX2 i f t hi e rfl rfl w1 w2 w3 w4 w5)
  refine ⟨s'.1.1, su, s'.1.2.2.2.2.2.2.2, r'.1, ?_⟩
  rw [r'.2.2.1]
  exact hQ i f t hi e rfl rfl w1 w2 w3 w4 w5 k m' s' f'
theorem sp_X5_increaseIn {m : MM} {g : Nat → Nat} {o A R Z w su n ck : Nat} {sa kd rt hz : Nat → Nat} {Pl : Nat → List (Nat × Int32)} {Cs : Nat → Nat → Nat} (h : Sto m g o A R Z w su n ck sa kd rt hz Pl Cs) (hzb : ∀ i, i ≤ 3 → hz i < 2 ^ 31) (hkd : ∀ i, i < n → kd i ≤ 1) {i : Nat} (hi : i < n) (hP : Srt kf (Pl i)) (hL : (Pl i).length < 2 ^ 26) {f t : Nat} (hf : 60 ∣ f) (ht : 60 ∣ t) (hft : f ≤ t) (h31 : t < 2 ^ 31) {Q : Int64 → MM → Prop} {X : Nat → MM → Prop} (h1 : kd i = 1 → Kn hz f t → ∀ m', Sto m' g o A R Z w su n ck sa kd rt hz Pl Cs → Fr (fun x => x = w ∨ x = su) m m' → Q (vInc ((seg f t (Pl i)).map (·.2))) m') (h0 : ¬ (kd i = 1 ∧ Kn hz f t) → ∀ m', Sto m' g o A R Z w su n ck sa kd rt hz Pl Cs → Fr (fun x => x = w ∨ x = su) m m' → X 2 m') : wp_X5_increaseIn o (sa i) (nI f) (nI t) m Q X := by
  obtain ⟨-, p, t9, v, U, WW, T, B, s3, -⟩ := h.2.2.2.2.2 i hi
  have hk := hkd i hi
  unfold wp_X5_increaseIn
  rw [s3.2.1]
  refine ⟨s3.1, fun z => ⟨h.1.1, ?_⟩, fun z => h0 (fun y => z (by rw [y.1]; exact nI_11)) m h (Fr.refl _ _)⟩
  have k1 : kd i = 1 := (nI_eq (a := kd i) (b := 1) (by omega) (by omega)).mp (z.trans nI_11.symm)
  refine sp_X5_summarize h hzb hi hP hL hf ht hft h31 (fun k m' s' r' f' => ?_) (fun k => h0 (fun y => k y.2))
  refine ⟨s'.1.1, su, s'.1.2.2.2.2.2.2.2, r'.1, ?_⟩
  rw [r'.2.2.2.1]
  exact h1 k1 k m' s' f'
theorem sp_X5_isKnown {m : MM} {g : Nat → Nat} {o A R Z w su n ck : Nat} {sa kd rt hz : Nat → Nat} {Pl : Nat → List (Nat × Int32)} {Cs : Nat → Nat → Nat} (h : Sto m g o A R Z w su n ck sa kd rt hz Pl Cs) (hzb : ∀ i, i ≤ 3 → hz i < 2 ^ 31) {p1 p2 : Int32} {Q : Int32 → MM → Prop} {X : Nat → MM → Prop} (hX1 : ¬ isWin p1 p2 60 → X 1 m) (hQ : ∀ f t, p1 = nI f → p2 = nI t → f < 2 ^ 31 → t < 2 ^ 31 → f ≤ t → 60 ∣ f → 60 ∣ t → ∀ m', Sto m' g o A R Z w su n ck sa kd rt hz Pl Cs → Fr (fun x => x = w ∨ x = su) m m' → (Kn hz f t → Q 1 m') ∧ (¬ Kn hz f t → Q 0 m')) : wp_X5_isKnown o p1 p2 m Q X := by
  unfold wp_X5_isKnown
  refine sp_X5_needWindow (len := 60) (by decide) (by decide) (fun hw => ?_) hX1
  obtain ⟨f, t, rfl, rfl, w1, w2, w3, w4, w5⟩ := hw
  refine ⟨h.1.1, w, h.1.2.2.2.2.2.2.1, h.2.1.2.2.2.2.2.2.1, sp_X4_cut h.2.1.2.2.2.2.2.2.1 w1 w2 fun m5 W5 F5 => ?_⟩
  have F5' : Fr (fun x => x = w ∨ x = su) m m5 := F5.mono fun _ _ z => Or.inl z
  have S5 := h.scr F5'
  obtain ⟨⟨p1, p2, p3, p4, p5, p6, p7, p8⟩, ⟨q1, q2, q3, q4, q5, q6, q7, q8, q9⟩, pc, pd, pe, pF⟩ := id S5
  obtain ⟨y1, y0⟩ := hQ f t rfl rfl w1 w2 w3 w4 w5 m5 S5 F5'
  refine ⟨p1, w, p7, p1, Z, p6, q7, sp_X4_hasExpiredPart W5 q5 q6 (fun j hj => ⟨(pc j hj).2, hzb j hj⟩) (wcut_end w4 w5 w3 w2) (fun y => ⟨fun _ => y0 fun z => ?_, fun z => absurd z (by decide)⟩) (fun y => ⟨fun z => absurd rfl z, fun _ => y1 y⟩)⟩
  obtain ⟨k, k1, k2, k3⟩ := y
  have := z k k1 k2
  omega
