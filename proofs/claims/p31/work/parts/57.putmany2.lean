/-! PUTMANY AND THE CONSTRUCTOR -/
/-- arguments that putMany takes -/
def GoodMany (ck kdi : Nat) (p2 p3 p4 p5 p6 : Int32) (x st k : Nat) : Prop := (p2 = nI x ∧ x ≤ ck ∧ okV kdi p3) ∧ (p4 = nI st ∧ 1 ≤ st ∧ st ≤ 3600) ∧ (¬ p5 < (-1000 : Int32) ∧ p5 ≤ (1000 : Int32)) ∧ (p6 = nI k ∧ 1 ≤ k ∧ k ≤ 20)
section
variable {m : MM} {g : Nat → Nat} {o A R Z w su n ck : Nat} {sa kd rt hz : Nat → Nat} {Pl : Nat → List (Nat × Int32)} {Cs : Nat → Nat → Nat}
theorem sp_X5_putMany (h : Sto m g o A R Z w su n ck sa kd rt hz Pl Cs) (hkd : ∀ i, i < n → kd i ≤ 1) (hc : ck + 86400 < 2 ^ 31) (hzs : (hz 0 = 0 ∨ hz 0 + 7200 ≤ ck) ∧ (hz 1 = 0 ∨ hz 1 + 7200 ≤ ck) ∧ (hz 2 = 0 ∨ hz 2 + 90000 ≤ ck) ∧ (hz 3 = 0 ∨ hz 3 + 90000 ≤ ck)) (hP : ∀ i, i < n → Srt kf (Pl i) ∧ (Pl i).length + 20 < 16384) {p1 p2 p3 p4 p5 p6 : Int32} {kc ks : Nat} (hkc : 6 ≤ kc) (hks : 36 ≤ ks) (hb : ∀ i x st k d' P' C' s, i < n → p1 = nI i → GoodMany ck (kd i) p2 p3 p4 p5 p6 x st k → PM hz ck (kd i) x st p3 p5 k 0 (Pl i) (Cs i) d' P' C' s → 6 * k + 6 ≤ kc ∧ s + 36 ≤ ks) {Q : Int32 → MM → Prop} {X : Nat → MM → Prop} (hX0 : (p1 < 0 ∨ ¬ p1 < nI n) → X 0 m) (hX1 : ∀ i, i < n → p1 = nI i → (∀ x st k, ¬ GoodMany ck (kd i) p2 p3 p4 p5 p6 x st k) → X 1 m) (hX2 : ∀ i x st k, i < n → p1 = nI i → GoodMany ck (kd i) p2 p3 p4 p5 p6 x st k → ¬ (ck ≤ x + 3600 ∧ ((hi kf (hz 0) (Pl i)).length < 100 ∨ ∃ b ∈ hi kf (hz 0) (Pl i), b.1 = x)) → X 2 m) (hQ : ∀ i x st k d' P' C' s, i < n → p1 = nI i → GoodMany ck (kd i) p2 p3 p4 p5 p6 x st k → (ck ≤ x + 3600 ∧ ((hi kf (hz 0) (Pl i)).length < 100 ∨ ∃ b ∈ hi kf (hz 0) (Pl i), b.1 = x)) → PM hz ck (kd i) x st p3 p5 k 0 (Pl i) (Cs i) d' P' C' s → ∀ m' g', Sto m' g' o A R Z w su n ck sa kd rt hz (va_up Pl i P') (va_up Cs i C') → (∀ a, mK m a ≠ 0 → g' a = g a) → Fr (fun a => 16 ≤ g a) m m' → Q (nI d') m') : wp_X5_putMany o p1 p2 p3 p4 p5 p6 m Q X kc ks := by
  unfold wp_X5_putMany
  refine ⟨by omega, by omega, h.1.1, sp_X5_seriesAt h (fun i hin e kc6 ks7 ek es => ⟨sa i, rfl, by omega, by omega, h.1.1, ?_⟩) hX0⟩
  unfold wp_X5_needPoint
  refine ⟨h.1.1, sp_X5_isPoint h hkd (by omega) hin (fun x ex hx hv => ⟨fun _ kc16 ks17 ek2 es2 => ⟨by omega, by omega, ?_⟩, fun z => absurd z (by decide)⟩) (fun z => ⟨fun y => absurd rfl y, fun _ => hX1 i hin e (fun x st k q => z x q.1.1 q.1.2.1 q.1.2.2)⟩)⟩
  refine sp_rng (a := 1) (b := 3600) (by decide) (by decide) (by decide) (by decide) (fun st e4 s1 s2 kc24 ks25 ek3 es3 => ⟨by omega, by omega, ?_⟩) (fun z => hX1 i hin e (fun x st k q => by
    have := z st q.2.1.1 q.2.1.2.1
    have := q.2.1.2.2
    omega))
  refine sp_X5_needRange (fun r5 kc32 ks33 ek4 es4 => ⟨by omega, by omega, ?_⟩) (fun z => hX1 i hin e (fun x st k q => by
    rcases z with z | z
    · exact q.2.2.1.1 z
    · exact z q.2.2.1.2))
  refine sp_rng (a := 1) (b := 20) (by decide) (by decide) (by decide) (by decide) (fun k e6 k1 k2 kc40 ks41 ek5 es5 => ⟨by omega, by omega, h.1.1, ?_⟩) (fun z => hX1 i hin e (fun x st k q => by
    have := z k q.2.2.2.1 q.2.2.2.2.1
    have := q.2.2.2.2.2
    omega))
  have hgood : GoodMany ck (kd i) p2 p3 p4 p5 p6 x st k := ⟨⟨ex, hx, hv⟩, ⟨e4, s1, s2⟩, r5, ⟨e6, k1, k2⟩⟩
  unfold wp_X5_needPlace
  rw [ex]
  refine ⟨h.1.1, sp_X5_hasPlace h (by omega) hin (by omega) (fun y => ⟨fun _ kc49 ks50 ek6 es6 x53 e53 => ?_, fun z => absurd z (by decide)⟩) (fun y => ⟨fun z => absurd rfl z, fun _ => hX2 i x st k hin e hgood y⟩)⟩
  obtain ⟨d', P', C', s, hPM⟩ := PM_ex hz ck (kd i) x st p3 p5 k 0 (Pl i) (Cs i)
  obtain ⟨b1, b2⟩ := hb i x st k d' P' C' s hin e hgood hPM
  have hP1 := (hP i hin).1
  have hP2 := (hP i hin).2
  refine ⟨k + 1, ?_⟩
  rw [e53, e4, e6]
  have key := sp_X5_putMany_loop (X := X) (sa := sa) (kd := kd) (rt := rt) (hz := hz) hin hkd hc hx (by omega) s2 hzs (Q := Q) k 0 m g Pl Cs s kc49 ks50 (by omega) h hP1 (by omega) hPM (by clear y; omega) (by clear y; omega) (fun m' g' r1 r2 r3 => hQ i x st k d' P' C' s hin e hgood y hPM m' g' r1 r2 r3)
  rw [Nat.zero_add] at key
  exact key
end
/-- the retentions at first -/
def rt0 (i : Nat) : Nat := if i = 0 then 7200 else if i = 1 then 86400 else if i = 2 then 864000 else 8640000
theorem sp_X5_init {m : MM} {o : Nat} {sa kd : Nat → Nat} {Pl : Nat → List (Nat × Int32)} {Cs : Nat → Nat → Nat} (hK : mK m o = 6) (h101 : mI m 101 o = 0) (h102 : mI m 102 o = 0) {Q : MM → Prop} (hq : ∀ m' A R Z w su, Sto m' (fun _ => 8) o A R Z w su 0 0 sa kd rt0 (fun _ => 0) Pl Cs → Fr (fun x => x = o) m m' → Q m') : wp_X5_init o m Q := by
  have no : ∀ {S : Nat → Prop} {a b : MM}, Fr (fun _ => False) a b → Fr S a b := fun f => f.mono fun _ _ z => z.elim
  unfold wp_X5_init
  intro a1 h1 m2 e2
  have F2 : Fr (fun _ => False) m m2 := by rw [e2]; exact Fr.nw m 15 4 a1 h1 _
  obtain ⟨n1, n2, -⟩ := nw_get e2
  have K2 := F2.K hK (by decide)
  refine ⟨K2, fun m4 e4 a5 h5 m6 e6 => ?_⟩
  have F4 : Fr (fun x => x = o) m2 m4 := by rw [e4]; exact Fr.sR _ _ _ _
  have K4 := F4.K K2 (by decide)
  have F6 : Fr (fun _ => False) m4 m6 := by rw [e6]; exact Fr.nw m4 11 4 a5 h5 _
  have K6 := F6.K K4 (by decide)
  obtain ⟨n5, n6, -, -, -, n7, -⟩ := nw_get e6
  have c0 : (0 : Int32).toNatClampNeg = 0 := by decide
  have c1 : (1 : Int32).toNatClampNeg = 1 := by decide
  have c2 : (2 : Int32).toNatClampNeg = 2 := by decide
  have c3 : (3 : Int32).toNatClampNeg = 3 := by decide
  refine ⟨n5, by rw [n6]; exact vp_in_nI (n := 0) (by decide) (by decide), fun m9 e9 => ?_⟩
  have F9 : Fr (fun x => x = a5) m6 m9 := by rw [e9]; exact Fr.sAI _ _ _
  have k9 := F9.K n5 (by decide)
  have l9 : mN m9 a5 = 4 := by rw [(F9 a5 (by rw [n5]; decide)).2.1, n6]
  have v9 : mAI m9 a5 = va_up (fun _ => 0) 0 7200 := by rw [e9, ai_sAI, if_pos rfl, n7, c0]
  refine ⟨k9, by rw [l9]; exact vp_in_nI (n := 1) (by decide) (by decide), fun m12 e12 => ?_⟩
  have F12 : Fr (fun x => x = a5) m9 m12 := by rw [e12]; exact Fr.sAI _ _ _
  have k12 := F12.K k9 (by decide)
  have l12 : mN m12 a5 = 4 := by rw [(F12 a5 (by rw [k9]; decide)).2.1, l9]
  have v12 : mAI m12 a5 = va_up (va_up (fun _ => 0) 0 7200) 1 86400 := by rw [e12, ai_sAI, if_pos rfl, v9, c1]
  refine ⟨k12, by rw [l12]; exact vp_in_nI (n := 2) (by decide) (by decide), fun m15 e15 => ?_⟩
  have F15 : Fr (fun x => x = a5) m12 m15 := by rw [e15]; exact Fr.sAI _ _ _
  have k15 := F15.K k12 (by decide)
  have l15 : mN m15 a5 = 4 := by rw [(F15 a5 (by rw [k12]; decide)).2.1, l12]
  have v15 : mAI m15 a5 = va_up (va_up (va_up (fun _ => 0) 0 7200) 1 86400) 2 864000 := by rw [e15, ai_sAI, if_pos rfl, v12, c2]
  refine ⟨k15, by rw [l15]; exact vp_in_nI (n := 3) (by decide) (by decide), fun m18 e18 => ?_⟩
  have F18 : Fr (fun x => x = a5) m15 m18 := by rw [e18]; exact Fr.sAI _ _ _
  have k18 := F18.K k15 (by decide)
  have l18 : mN m18 a5 = 4 := by rw [(F18 a5 (by rw [k15]; decide)).2.1, l15]
  have v18 : mAI m18 a5 = va_up (va_up (va_up (va_up (fun _ => 0) 0 7200) 1 86400) 2 864000) 3 8640000 := by rw [e18, ai_sAI, if_pos rfl, v15, c3]
  have F618 : Fr (fun x => x = a5) m6 m18 := ((F9.trans F12).trans F15).trans F18
  have K18 := F618.K K6 (by decide)
  refine ⟨K18, fun m20 e20 a21 h21 m22 e22 => ?_⟩
  have F20 : Fr (fun x => x = o) m18 m20 := by rw [e20]; exact Fr.sR _ _ _ _
  have K20 := F20.K K18 (by decide)
  have F22 : Fr (fun _ => False) m20 m22 := by rw [e22]; exact Fr.nw m20 11 4 a21 h21 _
  have K22 := F22.K K20 (by decide)
  obtain ⟨n21, n22, -, -, -, n23, -⟩ := nw_get e22
  refine ⟨K22, fun m24 e24 a25 h25 m26 e26 => ?_⟩
  have F24 : Fr (fun x => x = o) m22 m24 := by rw [e24]; exact Fr.sR _ _ _ _
  have K24 := F24.K K22 (by decide)
  have F26 : Fr (fun _ => False) m24 m26 := by rw [e26]; exact Fr.nw m24 5 0 a25 h25 _
  have K26 := F26.K K24 (by decide)
  obtain ⟨n25, -⟩ := nw_get e26
  unfold wp_X4_init
  refine ⟨K26, fun m30 e30 a31 h31 m32 e32 => ?_⟩
  have F30 : Fr (fun x => x = o) m26 m30 := by rw [e30]; exact Fr.sR _ _ _ _
  have K30 := F30.K K26 (by decide)
  have F32 : Fr (fun _ => False) m30 m32 := by rw [e32]; exact Fr.nw m30 2 0 a31 h31 _
  have K32 := F32.K K30 (by decide)
  obtain ⟨n31, -⟩ := nw_get e32
  unfold wp_X1_init
  refine ⟨K32, fun m36 e36 => ?_⟩
  have F36 : Fr (fun x => x = o) m32 m36 := by rw [e36]; exact Fr.sR _ _ _ _
  -- frames to the last state
  have L26 : Fr (fun x => x = o) m26 m36 := (F30.trans (no F32)).trans F36
  have L22 : Fr (fun x => x = o) m22 m36 := (F24.trans (no F26)).trans L26
  have L18 : Fr (fun x => x = o) m18 m36 := (F20.trans (no F22)).trans L22
  have L6 : Fr (fun x => x = o ∨ x = a5) m6 m36 := (F618.mono fun _ _ z => Or.inr z).trans (L18.mono fun _ _ z => Or.inl z)
  have L2 : Fr (fun x => x = o ∨ x = a5) m2 m36 := ((F4.mono fun _ _ z => Or.inl z).trans (no F6)).trans L6
  have k1' : mK m4 a1 = 15 := F4.K n1 (by decide)
  have d15 : ¬ a1 = a5 := fr_ne (by rw [k1']; decide) h5
  have do5 : ¬ o = a5 := fr_ne (by rw [K4]; decide) h5
  have d1o : ¬ a1 = o := fun z => by rw [z, K2] at n1; exact absurd n1 (by decide)
  have k5' : mK m20 a5 = 11 := F20.K k18 (by decide)
  have d521 : ¬ a5 = a21 := fr_ne (by rw [k5']; decide) h21
  have d21o : ¬ a21 = o := fun z => by rw [z, K22] at n21; exact absurd n21 (by decide)
  have d5o : ¬ a5 = o := fun z => do5 z.symm
  have K36 := L26.K K26 (by decide)
  have zo : ∀ {a b : MM}, Fr (fun _ => False) a b → mK a o = 6 → (∀ f, mR b f o = mR a f o) ∧ (∀ f, mI b f o = mI a f o) := fun f k => ⟨((f o (by rw [k]; decide)).2.2 (fun z => z)).2.2.1, ((f o (by rw [k]; decide)).2.2 (fun z => z)).1⟩
  have z5 : ∀ f, mR m18 f o = mR m6 f o := ((F618 o (by rw [K6]; decide)).2.2 do5).2.2.1
  have z5i : ∀ f, mI m18 f o = mI m6 f o := ((F618 o (by rw [K6]; decide)).2.2 do5).1
  have ne : ∀ {a b : Nat} {P : Prop}, a ≠ b → ¬ (a = b ∧ P) := fun h z => h z.1
  have r106 : mR m36 106 o = some a31 := by rw [e36, r_sR, if_pos ⟨rfl, rfl⟩]
  have r105 : mR m36 105 o = some a25 := by rw [e36, r_sR, if_neg (ne (by decide)), (zo F32 K30).1, e30, r_sR, if_pos ⟨rfl, rfl⟩]
  have r104 : mR m36 104 o = some a21 := by rw [e36, r_sR, if_neg (ne (by decide)), (zo F32 K30).1, e30, r_sR, if_neg (ne (by decide)), (zo F26 K24).1, e24, r_sR, if_pos ⟨rfl, rfl⟩]
  have r103 : mR m36 103 o = some a5 := by rw [e36, r_sR, if_neg (ne (by decide)), (zo F32 K30).1, e30, r_sR, if_neg (ne (by decide)), (zo F26 K24).1, e24, r_sR, if_neg (ne (by decide)), (zo F22 K20).1, e20, r_sR, if_pos ⟨rfl, rfl⟩]
  have r100 : mR m36 100 o = some a1 := by rw [e36, r_sR, if_neg (ne (by decide)), (zo F32 K30).1, e30, r_sR, if_neg (ne (by decide)), (zo F26 K24).1, e24, r_sR, if_neg (ne (by decide)), (zo F22 K20).1, e20, r_sR, if_neg (ne (by decide)), z5, (zo F6 K4).1, e4, r_sR, if_pos ⟨rfl, rfl⟩]
  have iall : ∀ f, mI m36 f o = mI m f o := fun f => by rw [e36, i_sR, (zo F32 K30).2, e30, i_sR, (zo F26 K24).2, e24, i_sR, (zo F22 K20).2, e20, i_sR, z5i, (zo F6 K4).2, e4, i_sR, (zo F2 hK).2]
  have vR : mAI m36 a5 = va_up (va_up (va_up (va_up (fun _ => 0) 0 7200) 1 86400) 2 864000) 3 8640000 := by rw [((L18 a5 (by rw [k18]; decide)).2.2 d5o).2.2.2.1, v18]
  have vZ : mAI m36 a21 = fun _ => 0 := by rw [((L22 a21 (by rw [n21]; decide)).2.2 d21o).2.2.2.1, n23]
  refine hq m36 a1 a5 a21 a25 a31 ⟨⟨K36, r100, (iall 101).trans h101, (iall 102).trans h102, r103, r104, r105, r106⟩, ⟨L2.K n1 (by decide), ?_, L18.K k18 (by decide), ?_, L22.K n21 (by decide), ?_, L26.K n25 (by decide), F36.K n31 (by decide), d521⟩, fun i hi => ?_, fun _ _ => rfl, Nat.zero_le _, fun i hi => absurd hi (Nat.not_lt_zero i)⟩ ?_
  · rw [(L2 a1 (by rw [n1]; decide)).2.1, n2]
  · rw [(L18 a5 (by rw [k18]; decide)).2.1, l18]
  · rw [(L22 a21 (by rw [n21]; decide)).2.1, n22]
  · rw [vR, vZ]
    have : i = 0 ∨ i = 1 ∨ i = 2 ∨ i = 3 := by omega
    rcases this with rfl | rfl | rfl | rfl
    · exact ⟨rfl, rfl⟩
    · exact ⟨rfl, rfl⟩
    · exact ⟨rfl, rfl⟩
    · exact ⟨rfl, rfl⟩
  · have M5 : mK m a5 = 0 := F2.old0 (F4.old0 h5)
    exact (no F2).then L2 fun a ha z => by
      rcases z with z | z
      · exact z
      · exact absurd (by rw [z]; exact M5) ha
