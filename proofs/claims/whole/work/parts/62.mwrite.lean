/-! THE MODEL WRITES -/
section
variable {m : MM} {g : Nat → Nat} {u K R Z Wh Ti Va Pa n ck : Nat} {kd rt hz : Nat → Nat} {al : List AT}
theorem Mod.ne (h : Mod m g u K R Z Wh Ti Va Pa n ck kd rt hz al) : Wh ≠ Ti ∧ Wh ≠ Va ∧ Ti ≠ Va ∧ Wh ≠ u ∧ Ti ≠ u ∧ Va ≠ u := by
  obtain ⟨-, -, -, ⟨d1, d2, d3, d4, d5, d6, d7, d8⟩, -⟩ := h
  refine ⟨fun z => ?_, fun z => ?_, fun z => ?_, fun z => ?_, fun z => ?_, fun z => ?_⟩
  · rw [z] at d5; omega
  · rw [z] at d5; omega
  · rw [z] at d6; omega
  · rw [z] at d5; omega
  · rw [z] at d6; omega
  · rw [z] at d7; omega
theorem Mod.rows {m' : MM} {al' : List AT} (h : Mod m g u K R Z Wh Ti Va Pa n ck kd rt hz al) (hf : Fr (fun y => y = u ∨ y = Wh ∨ y = Ti ∨ y = Va) m m') (hI : mI m' 120 u = mI m 120 u ∧ mI m' 121 u = mI m 121 u) (hR : ∀ f, mR m' f u = mR m f u) (hL : mI m' 122 u = nI al'.length) (hr : ∀ j a, al'[j]? = some a → mAI m' Wh j = nI a.1 ∧ mAI m' Ti j = nI a.2.1 ∧ mAI m' Va j = a.2.2) (hlen : al'.length ≤ 10300) (hm : ∀ a ∈ al', a.1 < n ∧ a.2.1 < 2147483648) (hs : Srt ky al') : Mod m' g u K R Z Wh Ti Va Pa n ck kd rt hz al' := by
  obtain ⟨⟨a1, a2, a3, a4, a5, a6, a7, a8, a9, a10, a11⟩, ⟨b1, b2, b3, b4, b5, b6, b7, b8, b9, b10, b11, b12, b13, b14⟩, ⟨c1, c2, c3⟩, ⟨d1, d2, d3, d4, d5, d6, d7, d8⟩, e1, e2, e3, e4⟩ := h
  have nS : ∀ x, g x = 2 ∨ g x = 3 ∨ g x = 4 ∨ g x = 0 → ¬ (x = u ∨ x = Wh ∨ x = Ti ∨ x = Va) := fun x hx z => by
    rcases z with z | z | z | z <;> rw [z] at hx <;> omega
  obtain ⟨k1, k2, k3⟩ := hf K (by rw [b1]; decide)
  obtain ⟨-, -, -, k4, -⟩ := k3 (nS K (by omega))
  obtain ⟨r1, r2, r3⟩ := hf R (by rw [b3]; decide)
  obtain ⟨-, -, -, r4, -⟩ := r3 (nS R (by omega))
  obtain ⟨z1, z2, z3⟩ := hf Z (by rw [b5]; decide)
  obtain ⟨-, -, -, z4, -⟩ := z3 (nS Z (by omega))
  obtain ⟨w1, w2, -⟩ := hf Wh (by rw [b7]; decide)
  obtain ⟨t1, t2, -⟩ := hf Ti (by rw [b9]; decide)
  obtain ⟨v1, v2, -⟩ := hf Va (by rw [b11]; decide)
  obtain ⟨p1, p2, -⟩ := hf Pa (by rw [b13]; decide)
  exact ⟨⟨hf.K a1 (by decide), by rw [hI.1, a2], by rw [hI.2, a3], hL, by rw [hR, a5], by rw [hR, a6], by rw [hR, a7], by rw [hR, a8], by rw [hR, a9], by rw [hR, a10], by rw [hR, a11]⟩, ⟨by rw [k1, b1], by rw [k2, b2], by rw [r1, b3], by rw [r2, b4], by rw [z1, b5], by rw [z2, b6], by rw [w1, b7], by rw [w2, b8], by rw [t1, b9], by rw [t2, b10], by rw [v1, b11], by rw [v2, b12], by rw [p1, b13], by rw [p2, b14]⟩, ⟨fun i hi => by rw [r4, z4]; exact c1 i hi, fun i hi => by rw [k4]; exact c2 i hi, hr⟩, ⟨d1, d2, d3, d4, d5, d6, d7, d8⟩, e1, hlen, hm, hs⟩
/-- what three writes to the rows at the place j make -/
theorem row3 {Wh Ti Va j : Nat} {x1 x2 x3 : Int32} (n1 : Wh ≠ Ti) (n2 : Wh ≠ Va) (n3 : Ti ≠ Va) {m m1 m2 m3 : MM} (e1 : m1 = sAI m Wh (va_up (mAI m Wh) j x1)) (e2 : m2 = sAI m1 Ti (va_up (mAI m1 Ti) j x2)) (e3 : m3 = sAI m2 Va (va_up (mAI m2 Va) j x3)) : mAI m3 Wh = va_up (mAI m Wh) j x1 ∧ mAI m3 Ti = va_up (mAI m Ti) j x2 ∧ mAI m3 Va = va_up (mAI m Va) j x3 ∧ mI m3 = mI m ∧ mR m3 = mR m ∧ mK m3 = mK m ∧ mN m3 = mN m ∧ Fr (fun y => y = Wh ∨ y = Ti ∨ y = Va) m m3 := by
  have s1 : mAI m1 = fun b => if b = Wh then va_up (mAI m Wh) j x1 else mAI m b := by rw [e1]; rfl
  have s2 : mAI m2 = fun b => if b = Ti then va_up (mAI m1 Ti) j x2 else mAI m1 b := by rw [e2]; rfl
  have s3 : mAI m3 = fun b => if b = Va then va_up (mAI m2 Va) j x3 else mAI m2 b := by rw [e3]; rfl
  have t1 : mAI m1 Ti = mAI m Ti := by rw [s1]; exact if_neg (fun z => n1 z.symm)
  have t2 : mAI m2 Va = mAI m Va := by
    rw [s2]
    show (if Va = Ti then _ else mAI m1 Va) = _
    rw [if_neg (fun z => n3 z.symm), s1]
    exact if_neg (fun z => n2 z.symm)
  refine ⟨?_, ?_, ?_, by rw [e3, e2, e1]; rfl, by rw [e3, e2, e1]; rfl, by rw [e3, e2, e1]; rfl, by rw [e3, e2, e1]; rfl, ?_⟩
  · rw [s3]
    show (if Wh = Va then _ else mAI m2 Wh) = _
    rw [if_neg n2, s2]
    show (if Wh = Ti then _ else mAI m1 Wh) = _
    rw [if_neg n1, s1]
    exact if_pos rfl
  · rw [s3]
    show (if Ti = Va then _ else mAI m2 Ti) = _
    rw [if_neg n3, s2]
    show (if Ti = Ti then va_up (mAI m1 Ti) j x2 else mAI m1 Ti) = _
    rw [if_pos rfl, t1]
  · rw [s3]
    show (if Va = Va then va_up (mAI m2 Va) j x3 else mAI m2 Va) = _
    rw [if_pos rfl, t2]
  · rw [e3, e2, e1]
    exact (((Fr.sAI _ _ _).mono fun _ _ z => Or.inl z).trans ((Fr.sAI _ _ _).mono fun _ _ z => Or.inr (Or.inl z))).trans ((Fr.sAI _ _ _).mono fun _ _ z => Or.inr (Or.inr z))
theorem md_writes_loop (h : Mod m g u K R Z Wh Ti Va Pa n ck kd rt hz al) {i x L : Nat} {v l5 : Int32} (hL : L ≤ al.length) (hroom : al.length < 10300) {Q : Int32 → MM → Prop} (h5 : l5 = 0 ∨ l5 = 1) (hq : ∀ m', Fr (fun y => y = u ∨ y = Wh ∨ y = Ti ∨ y = Va) m m' → (∀ f, f ≠ 122 → mI m' f u = mI m f u) → (∀ f, mR m' f u = mR m f u) → mI m' 122 u = nI (al.length + 1) → (∀ q, q ≤ al.length → mAI m' Wh q = (if q = L then nI i else if L < q then mAI m Wh (q - 1) else mAI m Wh q) ∧ mAI m' Ti q = (if q = L then nI x else if L < q then mAI m Ti (q - 1) else mAI m Ti q) ∧ mAI m' Va q = (if q = L then v else if L < q then mAI m Va (q - 1) else mAI m Va q)) → Q l5 m') : ∀ (r j : Nat) (m1 : MM), j = L + r → j ≤ al.length → Fr (fun y => y = Wh ∨ y = Ti ∨ y = Va) m m1 → (∀ q, q ≤ al.length → mAI m1 Wh q = (if j < q then mAI m Wh (q - 1) else mAI m Wh q) ∧ mAI m1 Ti q = (if j < q then mAI m Ti (q - 1) else mAI m Ti q) ∧ mAI m1 Va q = (if j < q then mAI m Va (q - 1) else mAI m Va q)) → wp_X6_writes_29 Q (r + 1) u (nI i) (nI x) v (nI L) l5 (nI j) m1 := by
  obtain ⟨n1, n2, n3, n4, n5, n6⟩ := h.ne
  obtain ⟨⟨a1, a2, a3, a4, a5, a6, a7, a8, a9, a10, a11⟩, ⟨b1, b2, b3, b4, b5, b6, b7, b8, b9, b10, b11, b12, b13, b14⟩, -⟩ := id h
  have nu : ¬ (u = Wh ∨ u = Ti ∨ u = Va) := fun z => by
    rcases z with z | z | z
    · exact n4 z.symm
    · exact n5 z.symm
    · exact n6 z.symm
  -- what stands at each step
  have std : ∀ m1, Fr (fun y => y = Wh ∨ y = Ti ∨ y = Va) m m1 → mK m1 u = 7 ∧ (∀ f, mI m1 f u = mI m f u) ∧ (∀ f, mR m1 f u = mR m f u) ∧ mK m1 Wh = 11 ∧ mN m1 Wh = 10300 ∧ mK m1 Ti = 11 ∧ mN m1 Ti = 10300 ∧ mK m1 Va = 11 ∧ mN m1 Va = 10300 := fun m1 hF => by
    obtain ⟨u1, -, u2⟩ := hF u (by rw [a1]; decide)
    obtain ⟨u3, -, u4, -⟩ := u2 nu
    exact ⟨by rw [u1, a1], u3, u4, hF.K b7 (by decide), by rw [(hF Wh (by rw [b7]; decide)).2.1, b8], hF.K b9 (by decide), by rw [(hF Ti (by rw [b9]; decide)).2.1, b10], hF.K b11 (by decide), by rw [(hF Va (by rw [b11]; decide)).2.1, b12]⟩
  intro r
  induction r with
  | zero =>
    intro j m1 hj hjl hF hr
    have ej : j = L := by omega
    subst ej
    obtain ⟨s1, s2, s3, s4, s5, s6, s7, s8, s9⟩ := std m1 hF
    have hv : vp_in (nI j) 10300 := vp_in_nI (by omega) (by decide)
    unfold wp_X6_writes_29
    refine ⟨fun _ => ⟨s1, s1, fun m28 e28 => ?_⟩, fun z => absurd (Int32.le_refl _) z⟩
    rw [s2, a4, nI_1] at e28
    have k28 : mK m28 = mK m1 := by rw [e28, k_sI]
    have n28 : mN m28 = mN m1 := by rw [e28, n_sI]
    have r28 : mR m28 = mR m1 := by rw [e28, r_sI]
    have A28 : mAI m28 = mAI m1 := by rw [e28, ai_sI]
    refine ⟨by rw [k28, s1], Wh, by rw [r28, s3, a8], by rw [k28, s4], by rw [n28, s5]; exact hv, fun m33 e33 => ?_⟩
    have k33 : mK m33 = mK m28 := by rw [e33, k_sAI]
    have n33 : mN m33 = mN m28 := by rw [e33, n_sAI]
    have r33 : mR m33 = mR m28 := by rw [e33, r_sAI]
    refine ⟨by rw [k33, k28, s1], Ti, by rw [r33, r28, s3, a9], by rw [k33, k28, s6], by rw [n33, n28, s7]; exact hv, fun m38 e38 => ?_⟩
    have k38 : mK m38 = mK m33 := by rw [e38, k_sAI]
    have n38 : mN m38 = mN m33 := by rw [e38, n_sAI]
    have r38 : mR m38 = mR m33 := by rw [e38, r_sAI]
    refine ⟨by rw [k38, k33, k28, s1], Va, by rw [r38, r33, r28, s3, a10], by rw [k38, k33, k28, s8], by rw [n38, n33, n28, s9]; exact hv, fun m43 e43 => ⟨h5, ?_⟩⟩
    rw [nI_clamp (by omega)] at e33 e38 e43
    obtain ⟨t1, t2, t3, t4, t5, -, -, t6⟩ := row3 n1 n2 n3 e33 e38 e43
    have F28 : Fr (fun y => y = u ∨ y = Wh ∨ y = Ti ∨ y = Va) m1 m28 := by rw [e28]; exact (Fr.sI _ _ _ _).mono fun _ _ z => Or.inl z
    refine hq m43 (((hF.mono fun _ _ z => Or.inr z).trans F28).trans (t6.mono fun _ _ z => Or.inr z)) (fun f hf => ?_) (fun f => ?_) ?_ (fun q hq' => ?_)
    · rw [t4, e28, i_sI, if_neg (fun z => hf z.1), s2]
    · rw [t5, r28, s3]
    · rw [t4, e28, i_sI, if_pos ⟨rfl, rfl⟩]
    · obtain ⟨w1, w2, w3⟩ := hr q hq'
      rw [t1, t2, t3, A28]
      by_cases e : q = j
      · rw [e, va_up_self, va_up_self, va_up_self, if_pos rfl, if_pos rfl, if_pos rfl]
        exact ⟨rfl, rfl, rfl⟩
      · rw [va_up_ne _ _ e, va_up_ne _ _ e, va_up_ne _ _ e, if_neg e, if_neg e, if_neg e]
        exact ⟨w1, w2, w3⟩
  | succ r ih =>
    intro j m1 hj hjl hF hr
    obtain ⟨s1, s2, s3, s4, s5, s6, s7, s8, s9⟩ := std m1 hF
    have hv : vp_in (nI j) 10300 := vp_in_nI (by omega) (by decide)
    have hv1 : vp_in (nI (j - 1)) 10300 := vp_in_nI (by omega) (by decide)
    have ej : nI j - (1 : Int32) = nI (j - 1) := pk_sub (a := j) (b := 1) (by omega)
    have ej2 : nI j + (-1) = nI (j - 1) := by
      obtain ⟨q, rfl⟩ : ∃ q, j = q + 1 := ⟨j - 1, by omega⟩
      exact pk_m1 q
    unfold wp_X6_writes_29
    rw [ej, ej2]
    refine ⟨fun z => absurd ((nI_leI (by omega) (by omega)).mp z) (by omega), fun _ => ⟨s1, Wh, by rw [s3, a8], s1, Wh, by rw [s3, a8], s4, by rw [s5]; exact hv1, s4, by rw [s5]; exact hv, fun m52 e52 => ?_⟩⟩
    have k52 : mK m52 = mK m1 := by rw [e52, k_sAI]
    have n52 : mN m52 = mN m1 := by rw [e52, n_sAI]
    have r52 : mR m52 = mR m1 := by rw [e52, r_sAI]
    refine ⟨by rw [k52, s1], Ti, by rw [r52, s3, a9], by rw [k52, s1], Ti, by rw [r52, s3, a9], by rw [k52, s6], by rw [n52, s7]; exact hv1, by rw [k52, s6], by rw [n52, s7]; exact hv, fun m61 e61 => ?_⟩
    have k61 : mK m61 = mK m52 := by rw [e61, k_sAI]
    have n61 : mN m61 = mN m52 := by rw [e61, n_sAI]
    have r61 : mR m61 = mR m52 := by rw [e61, r_sAI]
    refine ⟨by rw [k61, k52, s1], Va, by rw [r61, r52, s3, a10], by rw [k61, k52, s1], Va, by rw [r61, r52, s3, a10], by rw [k61, k52, s8], by rw [n61, n52, s9]; exact hv1, by rw [k61, k52, s8], by rw [n61, n52, s9]; exact hv, fun m70 e70 x71 e71 => ?_⟩
    rw [nI_clamp (by omega), nI_clamp (by omega)] at e52 e61 e70
    obtain ⟨t1, t2, t3, t4, t5, -, -, t6⟩ := row3 n1 n2 n3 e52 e61 e70
    have u1 : mAI m52 Ti = mAI m1 Ti := by rw [e52, ai_sAI, if_neg (fun z => n1 z.symm)]
    have u2 : mAI m61 Va = mAI m1 Va := by rw [e61, ai_sAI, if_neg (fun z => n3 z.symm), e52, ai_sAI, if_neg (fun z => n2 z.symm)]
    rw [u1] at t2
    rw [u2] at t3
    rw [e71]
    refine ih (j - 1) m70 (by omega) (by omega) (hF.trans t6) (fun q hq' => ?_)
    rw [t1, t2, t3]
    obtain ⟨y1, y2, y3⟩ := hr (j - 1) (by omega)
    rw [if_neg (by omega)] at y1 y2 y3
    by_cases e : q = j
    · rw [e, va_up_self, va_up_self, va_up_self, if_pos (by omega), if_pos (by omega), if_pos (by omega)]
      exact ⟨y1, y2, y3⟩
    · rw [va_up_ne _ _ e, va_up_ne _ _ e, va_up_ne _ _ e]
      obtain ⟨w1, w2, w3⟩ := hr q hq'
      by_cases c : j < q
      · rw [if_pos c] at w1 w2 w3
        rw [if_pos (by omega), if_pos (by omega), if_pos (by omega)]
        exact ⟨w1, w2, w3⟩
      · rw [if_neg c] at w1 w2 w3
        rw [if_neg (by omega), if_neg (by omega), if_neg (by omega)]
        exact ⟨w1, w2, w3⟩
theorem md_writes (h : Mod m g u K R Z Wh Ti Va Pa n ck kd rt hz al) {i x : Nat} {v : Int32} (hin : i < n) (hx : x < 2147483648) (hroom : al.length < 10300) {Q : Int32 → MM → Prop} (hq : ∀ (r : Int32) m', ((∃ b ∈ sub i al, b.1 = x) → r = 1) → ((∀ b ∈ sub i al, b.1 ≠ x) → r = 0) → Mod m' g u K R Z Wh Ti Va Pa n ck kd rt hz (ins ky (i, x, v) al) → mI m' 136 u = mI m 136 u → Fr (fun y => y = u ∨ y = Wh ∨ y = Ti ∨ y = Va) m m' → Q r m') : wp_X6_writes u (nI i) (nI x) v m Q := by
  obtain ⟨n1, n2, n3, n4, n5, n6⟩ := h.ne
  have hkx : kx i (nI x) = i * 2147483648 + x := by unfold kx; rw [nI_clamp (by omega)]
  have hle := lo_len ky (kx i (nI x)) al
  obtain ⟨⟨a1, a2, a3, a4, a5, a6, a7, a8, a9, a10, a11⟩, ⟨b1, b2, b3, b4, b5, b6, b7, b8, b9, b10, b11, b12, b13, b14⟩, -⟩ := id h
  have hmem : ∀ a ∈ ins ky (i, x, v) al, a.1 < n ∧ a.2.1 < 2147483648 := fun a ha => by
    rcases mem_ins.mp ha with rfl | ⟨q, -⟩
    · exact ⟨hin, hx⟩
    · exact h.small a q
  unfold wp_X6_writes
  refine ⟨a1, md_place h hin (nI x) ⟨a1, md_isAt h hin (nI x) (fun b hb e => ⟨fun _ => ?_, fun z => absurd z (by decide)⟩) (fun hn => ⟨fun z => absurd rfl z, fun _ => ⟨a1, fun x24 e24 => ?_⟩⟩)⟩⟩
  · have hbs : b.1 < 2147483648 := (h.small _ hb).2
    have ebx : b.1 = x := (nI_eq (by omega) (by omega)).mp e
    have hlt := (List.getElem?_eq_some_iff.mp (h.kat hb e)).1
    have hv : vp_in (nI (lo ky (kx i (nI x)) al).length) 10300 := vp_in_nI (by omega) (by decide)
    refine ⟨a1, Wh, a8, b7, by rw [b8]; exact hv, fun m12 e12 => ?_⟩
    have k12 : mK m12 = mK m := by rw [e12, k_sAI]
    have n12 : mN m12 = mN m := by rw [e12, n_sAI]
    have r12 : mR m12 = mR m := by rw [e12, r_sAI]
    refine ⟨by rw [k12, a1], Ti, by rw [r12, a9], by rw [k12, b9], by rw [n12, b10]; exact hv, fun m17 e17 => ?_⟩
    have k17 : mK m17 = mK m12 := by rw [e17, k_sAI]
    have n17 : mN m17 = mN m12 := by rw [e17, n_sAI]
    have r17 : mR m17 = mR m12 := by rw [e17, r_sAI]
    refine ⟨by rw [k17, k12, a1], Va, by rw [r17, r12, a10], by rw [k17, k12, b11], by rw [n17, n12, b12]; exact hv, fun m22 e22 => ⟨Or.inr rfl, ?_⟩⟩
    rw [nI_clamp (by omega)] at e12 e17 e22
    obtain ⟨t1, t2, t3, t4, t5, -, -, t6⟩ := row3 n1 n2 n3 e12 e17 e22
    have F : Fr (fun y => y = u ∨ y = Wh ∨ y = Ti ∨ y = Va) m m22 := t6.mono fun _ _ z => Or.inr z
    have ek : ky (i, b) = ky (i, x, v) := by
      show i * 2147483648 + b.1 = i * 2147483648 + x
      rw [ebx]
    have hlen : (ins ky (i, x, v) al).length = al.length := ins_old_len h.srt hb ek
    refine hq 1 m22 (fun _ => rfl) (fun z => absurd ebx (z b (mem_sub.mpr hb))) (h.rows F ⟨by rw [t4], by rw [t4]⟩ (fun f => by rw [t5]) (by rw [t4, hlen]; exact a4) (fun j a hj => ?_) (by rw [hlen]; exact h.len) hmem (h.srt.ins _)) (by rw [t4]) F
    rw [ins_old h.srt hb ek] at hj
    rw [hkx] at t1 t2 t3
    rw [t1, t2, t3]
    have hj : (if j = (lo ky (i * 2147483648 + x) al).length then some (i, x, v) else al[j]?) = some a := hj
    by_cases q : j = (lo ky (i * 2147483648 + x) al).length
    · rw [if_pos q] at hj
      cases hj
      rw [q, va_up_self, va_up_self, va_up_self]
      exact ⟨rfl, rfl, rfl⟩
    · rw [if_neg q] at hj
      rw [va_up_ne _ _ q, va_up_ne _ _ q, va_up_ne _ _ q]
      exact h.at hj
  · have hnew : ∀ b ∈ al, ky b ≠ ky (i, x, v) := fun b hb e => by
      have e : b.1 * 2147483648 + b.2.1 = i * 2147483648 + x := e
      obtain ⟨s1, s2⟩ := h.small b hb
      have eb1 : b.1 = i := by omega
      have eb2 : b.2.1 = x := by omega
      exact hn b.2 (by rw [← eb1]; exact hb) (by rw [eb2])
    have hlen : (ins ky (i, x, v) al).length = al.length + 1 := ins_new_len h.srt hnew
    rw [e24, a4]
    refine ⟨_, md_writes_loop h hle hroom (Or.inl rfl) (fun m' F g1 g2 g3 g4 => ?_) (al.length - (lo ky (kx i (nI x)) al).length) al.length m (by omega) (Nat.le_refl _) (Fr.refl _ _) (fun q hq' => by
      rw [if_neg (by omega), if_neg (by omega), if_neg (by omega)]
      exact ⟨rfl, rfl, rfl⟩)⟩
    refine hq 0 m' (fun z => ?_) (fun _ => rfl) (h.rows F ⟨g1 120 (by decide), g1 121 (by decide)⟩ g2 (by rw [hlen]; exact g3) (fun j a hj => ?_) (by omega) hmem (h.srt.ins _)) (g1 136 (by decide)) F
    · obtain ⟨b, hb, e⟩ := z
      exact absurd (by rw [e]) (hn b (mem_sub.mp hb))
    · have hjl := (List.getElem?_eq_some_iff.mp hj).1
      rw [ins_new h.srt hnew] at hj
      obtain ⟨w1, w2, w3⟩ := g4 j (by omega)
      rw [w1, w2, w3, hkx]
      have hj : (if j < (lo ky (i * 2147483648 + x) al).length then al[j]? else if j = (lo ky (i * 2147483648 + x) al).length then some (i, x, v) else al[j - 1]?) = some a := hj
      by_cases q : j < (lo ky (i * 2147483648 + x) al).length
      · rw [if_pos q] at hj
        rw [if_neg (by omega), if_neg (by omega), if_neg (by omega), if_neg (by omega), if_neg (by omega), if_neg (by omega)]
        exact h.at hj
      · rw [if_neg q] at hj
        by_cases q2 : j = (lo ky (i * 2147483648 + x) al).length
        · rw [if_pos q2] at hj
          cases hj
          rw [if_pos q2, if_pos q2, if_pos q2]
          exact ⟨rfl, rfl, rfl⟩
        · rw [if_neg q2] at hj
          rw [if_neg q2, if_neg q2, if_neg q2, if_pos (by omega), if_pos (by omega), if_pos (by omega)]
          exact h.at hj
end
