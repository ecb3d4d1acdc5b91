/-! NEW OBJECTS -/
theorem Fr.old0 {S : Nat → Prop} {m m' : MM} (h : Fr S m m') {a : Nat} (ha : mK m' a = 0) : mK m a = 0 := Classical.byContradiction fun q => q ((h a q).1.symm.trans ha)
/-- what is made and written to in between is new -/
theorem fr_new {S : Nat → Prop} {m m2 m4 : MM} {a k n : Nat} (h : mK m a = 0) (e : m2 = nw m k n a) (f : Fr (fun x => x = a) m2 m4) : Fr S m m4 := by
  have f2 : Fr S m m2 := by rw [e]; exact Fr.nw m k n a h S
  exact f2.then f (fun b hb z => absurd (by rw [show b = a from z]; exact h) hb)
theorem nw_get {m m2 : MM} {a k n : Nat} (e : m2 = nw m k n a) : mK m2 a = k ∧ mN m2 a = n ∧ (∀ f, mI m2 f a = 0) ∧ (∀ f, mJ m2 f a = 0) ∧ (∀ f, mR m2 f a = none) ∧ mAI m2 a = (fun _ => 0) ∧ mAJ m2 a = (fun _ => 0) ∧ mAD m2 a = (fun _ => 0) ∧ mAR m2 a = (fun _ => none) := by
  rw [e]
  refine ⟨?_, ?_, fun f => ?_, fun f => ?_, fun f => ?_, ?_, ?_, ?_, ?_⟩
  · rw [k_nw, if_pos rfl]
  · rw [n_nw, if_pos rfl]
  · rw [i_nw, if_pos rfl]
  · rw [j_nw, if_pos rfl]
  · rw [r_nw, if_pos rfl]
  · rw [ai_nw, if_pos rfl]
  · rw [aj_nw, if_pos rfl]
  · rw [ad_nw, if_pos rfl]
  · rw [ar_nw, if_pos rfl]
theorem fr_ne {m : MM} {a b : Nat} (ha : mK m a ≠ 0) (hb : mK m b = 0) : a ≠ b := fun z => ha (by rw [z]; exact hb)
theorem sp_X0_init {m : MM} {p : Nat} (hK : mK m p = 1) (h2 : mI m 2 p = 0) {Q : MM → Prop} (hq : ∀ m' t v, Pts m' p t v [] → Fr (fun x => x = p) m m' → mK m t = 0 → mK m v = 0 → Q m') : wp_X0_init p m Q := by
  unfold wp_X0_init
  intro a1 h1 m2 e2
  have F2 : Fr (fun x => x = p) m m2 := by rw [e2]; exact Fr.nw m 11 100 a1 h1 _
  obtain ⟨n1, n2, -⟩ := nw_get e2
  have K2 := F2.K hK (by decide)
  refine ⟨K2, fun m4 e4 a5 h5 m6 e6 => ?_⟩
  have F4 : Fr (fun x => x = p) m2 m4 := by rw [e4]; exact Fr.sR _ _ _ _
  have K4 := F4.K K2 (by decide)
  have n3 := F4.K n1 (by decide)
  have F6 : Fr (fun x => x = p) m4 m6 := by rw [e6]; exact Fr.nw m4 11 100 a5 h5 _
  obtain ⟨n5, n6, -⟩ := nw_get e6
  have K6 := F6.K K4 (by decide)
  refine ⟨K6, fun m8 e8 => ?_⟩
  have F8 : Fr (fun x => x = p) m6 m8 := by rw [e8]; exact Fr.sR _ _ _ _
  have hp1 : p ≠ a1 := fr_ne (by rw [hK]; decide) h1
  have hp5 : p ≠ a5 := fr_ne (by rw [K4]; decide) h5
  have h15 : a1 ≠ a5 := fr_ne (by rw [n3]; decide) h5
  have F46 : Fr (fun _ => False) m4 m6 := by rw [e6]; exact Fr.nw m4 11 100 a5 h5 _
  have F02 : Fr (fun _ => False) m m2 := by rw [e2]; exact Fr.nw m 11 100 a1 h1 _
  refine hq m8 a1 a5 ⟨F8.K K6 (by decide), ?_, ?_, h15, ?_, F8.K n5 (by decide), ?_, ?_, Nat.zero_le _, ?_, fun j a hj => ?_, fun a ha => absurd ha List.not_mem_nil, List.Pairwise.nil⟩ (((F2.trans F4).trans F6).trans F8) h1 (F2.old0 (F4.old0 h5))
  · rw [e8, r_sR, if_neg (fun z => absurd z.1 (by decide)), ((F46 p (by rw [K4]; decide)).2.2 (fun z => z)).2.2.1, e4, r_sR, if_pos ⟨rfl, rfl⟩]
  · rw [e8, r_sR, if_pos ⟨rfl, rfl⟩]
  · exact F8.K (F6.K n3 (by decide)) (by decide)
  · rw [(F8 a1 (by rw [F6.K n3 (by decide)]; decide)).2.1, (F6 a1 (by rw [n3]; decide)).2.1, (F4 a1 (by rw [n1]; decide)).2.1, n2]
  · rw [(F8 a5 (by rw [n5]; decide)).2.1, n6]
  · rw [e8, i_sR, ((F46 p (by rw [K4]; decide)).2.2 (fun z => z)).1, e4, i_sR, ((F02 p (by rw [hK]; decide)).2.2 (fun z => z)).1, h2]
    rfl
  · rw [List.getElem?_nil] at hj
    cases hj
theorem sp_X2_init {m : MM} {u len : Nat} (hK : mK m u = 3) (h42 : mI m 42 u = 0) {Q : MM → Prop} (hq : ∀ m' w, Rw m' u w len 8 [] [] → Fr (fun x => x = u) m m' → mK m w = 0 → Q m') : wp_X2_init u (nI len) m Q := by
  unfold wp_X2_init
  intro a1 h1 m2 e2
  have F2 : Fr (fun x => x = u) m m2 := by rw [e2]; exact Fr.nw m 14 8 a1 h1 _
  have F02 : Fr (fun _ => False) m m2 := by rw [e2]; exact Fr.nw m 14 8 a1 h1 _
  obtain ⟨n1, n2, -, -, -, -, -, -, n9⟩ := nw_get e2
  have K2 := F2.K hK (by decide)
  refine ⟨K2, fun m4 e4 => ?_⟩
  have F4 : Fr (fun x => x = u) m2 m4 := by rw [e4]; exact Fr.sR _ _ _ _
  have K4 := F4.K K2 (by decide)
  refine ⟨K4, fun m6 e6 => ?_⟩
  have F6 : Fr (fun x => x = u) m4 m6 := by rw [e6]; exact Fr.sI _ _ _ _
  have F26 := F4.trans F6
  have hu1 : u ≠ a1 := fr_ne (by rw [hK]; decide) h1
  refine hq m6 a1 ⟨⟨F6.K K4 (by decide), ?_, F26.K n1 (by decide), ?_, ?_, ?_, Nat.zero_le _, Nat.zero_le _, Nat.le_refl _, by decide, fun j hj => ?_, List.nodup_nil, fun r hr => absurd hr List.not_mem_nil⟩, fun x hx => absurd hx List.not_mem_nil, List.Pairwise.nil, fun x hx => absurd hx List.not_mem_nil⟩ (F2.trans F26) h1
  · rw [e6, r_sI, e4, r_sR, if_pos ⟨rfl, rfl⟩]
  · rw [(F26 a1 (by rw [n1]; decide)).2.1, n2]
  · rw [e6, i_sI, if_pos ⟨rfl, rfl⟩]
  · rw [e6, i_sI, if_neg (fun z => absurd z.1 (by decide)), e4, i_sR, ((F02 u (by rw [hK]; decide)).2.2 (fun z => z)).1, h42]
    rfl
  · have := ((F26 a1 (by rw [n1]; decide)).2.2 (fun z => hu1 z.symm)).2.2.2.2.2.2
    rw [this, n9]
    rfl
theorem nt_new {m : MM} {g : Nat → Nat} {c a : Nat} (h : mK m a = 0) : nt m g c a = c := if_pos h
theorem sp_X3_init {m0 m : MM} {g : Nat → Nat} {c0 s kd : Nat} {hz : Nat → Nat} (hK : mK m s = 4) (h0 : mK m0 s = 0) (hF : Fr (fun _ => False) m0 m) {Q : MM → Prop} (hq : ∀ m' g', Srs m' g' c0 s kd hz [] (fun _ => 8) → (∀ a, mK m0 a ≠ 0 → g' a = g a) → Fr (fun _ => False) m0 m' → Q m') : wp_X3_init s (nI kd) m Q := by
  unfold wp_X3_init
  intro a1 h1 m2 e2
  obtain ⟨n1, -, i1, -⟩ := nw_get e2
  refine sp_X0_init n1 (i1 2) fun m4 t v P4 F24 ht2 hv2 => ?_
  have F04 : Fr (fun x => x = s) m m4 := fr_new h1 e2 F24
  have K4 := F04.K hK (by decide)
  have Fm2 : Fr (fun x => x = s) m m2 := by rw [e2]; exact Fr.nw m 1 0 a1 h1 _
  have zt := Fm2.old0 ht2
  have zv := Fm2.old0 hv2
  refine ⟨K4, fun m6 e6 a7 h7 m8 e8 => ?_⟩
  have F46 : Fr (fun x => x = s) m4 m6 := by rw [e6]; exact Fr.sR _ _ _ _
  have K6 := F46.K K4 (by decide)
  obtain ⟨n7, -, i7, -⟩ := nw_get e8
  have F68' : Fr (fun x => x = s) m6 m8 := by rw [e8]; exact Fr.nw m6 3 0 a7 h7 _
  refine sp_X2_init (len := 60) n7 (i7 42) fun m10 w1 R10 F810 hw1 => ?_
  have F610 : Fr (fun _ => False) m6 m10 := fr_new h7 e8 F810
  have K10 := F610.K K6 (by decide)
  refine ⟨K10, fun m12 e12 a13 h13 m14 e14 => ?_⟩
  have F1012 : Fr (fun x => x = s) m10 m12 := by rw [e12]; exact Fr.sR _ _ _ _
  have K12 := F1012.K K10 (by decide)
  obtain ⟨n13, -, i13, -⟩ := nw_get e14
  have F1214' : Fr (fun x => x = s) m12 m14 := by rw [e14]; exact Fr.nw m12 3 0 a13 h13 _
  refine sp_X2_init (len := 3600) n13 (i13 42) fun m16 w2 R16 F1416 hw2 => ?_
  have F1216 : Fr (fun _ => False) m12 m16 := fr_new h13 e14 F1416
  have K16 := F1216.K K12 (by decide)
  refine ⟨K16, fun m18 e18 a19 h19 m20 e20 => ?_⟩
  have F1618 : Fr (fun x => x = s) m16 m18 := by rw [e18]; exact Fr.sR _ _ _ _
  have K18 := F1618.K K16 (by decide)
  obtain ⟨n19, -, i19, -⟩ := nw_get e20
  have F1820' : Fr (fun x => x = s) m18 m20 := by rw [e20]; exact Fr.nw m18 3 0 a19 h19 _
  refine sp_X2_init (len := 86400) n19 (i19 42) fun m22 w3 R22 F2022 hw3 => ?_
  have F1822 : Fr (fun _ => False) m18 m22 := fr_new h19 e20 F2022
  have K22 := F1822.K K18 (by decide)
  refine ⟨K22, fun m24 e24 => ?_⟩
  have F2224 : Fr (fun x => x = s) m22 m24 := by rw [e24]; exact Fr.sR _ _ _ _
  have K24 := F2224.K K22 (by decide)
  refine ⟨K24, fun m26 e26 => ?_⟩
  have F2426 : Fr (fun x => x = s) m24 m26 := by rw [e26]; exact Fr.sI _ _ _ _
  have K26 := F2426.K K24 (by decide)
  have no : ∀ {a b : MM}, Fr (fun _ => False) a b → Fr (fun x => x = s) a b := fun f => f.mono fun _ _ z => z.elim
  -- frames from each state on to the last
  have L22 : Fr (fun x => x = s) m22 m26 := F2224.trans F2426
  have L18 : Fr (fun x => x = s) m18 m26 := (no F1822).trans L22
  have L16 : Fr (fun x => x = s) m16 m26 := F1618.trans L18
  have L12 : Fr (fun x => x = s) m12 m26 := (no F1216).trans L16
  have L10 : Fr (fun x => x = s) m10 m26 := F1012.trans L12
  have L6 : Fr (fun x => x = s) m6 m26 := (no F610).trans L10
  have L4 : Fr (fun x => x = s) m4 m26 := F46.trans L6
  have L0 : Fr (fun x => x = s) m m26 := F04.trans L4
  have M06 : Fr (fun x => x = s) m m6 := F04.trans F46
  have M612 : Fr (fun x => x = s) m6 m12 := (no F610).trans F1012
  have M1218 : Fr (fun x => x = s) m12 m18 := (no F1216).trans F1618
  -- the fields of s
  have r61 : mR m26 61 s = some a1 := by
    rw [e26, r_sI, e24, r_sR, if_neg (fun z => absurd z.1 (by decide)), ((F1822 s (by rw [K18]; decide)).2.2 (fun z => z)).2.2.1, e18, r_sR, if_neg (fun z => absurd z.1 (by decide)), ((F1216 s (by rw [K12]; decide)).2.2 (fun z => z)).2.2.1, e12, r_sR, if_neg (fun z => absurd z.1 (by decide)), ((F610 s (by rw [K6]; decide)).2.2 (fun z => z)).2.2.1, e6, r_sR, if_pos ⟨rfl, rfl⟩]
  have r62 : mR m26 62 s = some a7 := by
    rw [e26, r_sI, e24, r_sR, if_neg (fun z => absurd z.1 (by decide)), ((F1822 s (by rw [K18]; decide)).2.2 (fun z => z)).2.2.1, e18, r_sR, if_neg (fun z => absurd z.1 (by decide)), ((F1216 s (by rw [K12]; decide)).2.2 (fun z => z)).2.2.1, e12, r_sR, if_pos ⟨rfl, rfl⟩]
  have r63 : mR m26 63 s = some a13 := by
    rw [e26, r_sI, e24, r_sR, if_neg (fun z => absurd z.1 (by decide)), ((F1822 s (by rw [K18]; decide)).2.2 (fun z => z)).2.2.1, e18, r_sR, if_pos ⟨rfl, rfl⟩]
  have r64 : mR m26 64 s = some a19 := by
    rw [e26, r_sI, e24, r_sR, if_pos ⟨rfl, rfl⟩]
  have i60 : mI m26 60 s = nI kd := by rw [e26, i_sI, if_pos ⟨rfl, rfl⟩]
  -- kinds
  have kp4 := P4.1
  have kt4 := P4.2.2.2.2.1
  have kv4 := P4.2.2.2.2.2.1
  have ns : ∀ {a : Nat} {q : MM} {k : Nat}, mK q s = 4 → mK q a = k → k ≠ 4 → ¬ a = s := fun h1 h2 h3 z => h3 (by rw [← h2, z, h1])
  have P26 : Pts m26 a1 t v [] := P4.fr L4 (ns K4 kp4 (by decide)) (ns K4 kt4 (by decide)) (ns K4 kv4 (by decide))
  have Q10 := R10.1
  have Q16 := R16.1
  have Q22 := R22.1
  have R26a : Rw m26 a7 w1 60 8 [] [] := R10.fr L10 (ns K10 Q10.1 (by decide)) (ns K10 Q10.2.2.1 (by decide)) (fun x hx => absurd hx List.not_mem_nil)
  have R26b : Rw m26 a13 w2 3600 8 [] [] := R16.fr L16 (ns K16 Q16.1 (by decide)) (ns K16 Q16.2.2.1 (by decide)) (fun x hx => absurd hx List.not_mem_nil)
  have R26c : Rw m26 a19 w3 86400 8 [] [] := R22.fr L22 (ns K22 Q22.1 (by decide)) (ns K22 Q22.2.2.1 (by decide)) (fun x hx => absurd hx List.not_mem_nil)
  -- the tags
  have zs0 := h0
  have up6 : ∀ a, mK m0 a ≠ 0 → mK m6 a ≠ 0 := fun a ha => by rw [(M06 a (by rw [(hF a ha).1]; exact ha)).1, (hF a ha).1]; exact ha
  have up12 : ∀ a, mK m6 a ≠ 0 → mK m12 a ≠ 0 := fun a ha => by rw [(M612 a ha).1]; exact ha
  have up18 : ∀ a, mK m12 a ≠ 0 → mK m18 a ≠ 0 := fun a ha => by rw [(M1218 a ha).1]; exact ha
  have t0 : ∀ a, mK m0 a = 0 → mK m6 a ≠ 0 → nt m18 (nt m12 (nt m6 (nt m0 g c0) (c0 + 1)) (c0 + 2)) (c0 + 3) a = c0 := fun a z q => by
    rw [nt_old (up18 a (up12 a q)), nt_old (up12 a q), nt_old q, nt_new z]
  have t1 : ∀ a, mK m6 a = 0 → mK m12 a ≠ 0 → nt m18 (nt m12 (nt m6 (nt m0 g c0) (c0 + 1)) (c0 + 2)) (c0 + 3) a = c0 + 1 := fun a z q => by
    rw [nt_old (up18 a q), nt_old q, nt_new z]
  have t2 : ∀ a, mK m12 a = 0 → mK m18 a ≠ 0 → nt m18 (nt m12 (nt m6 (nt m0 g c0) (c0 + 1)) (c0 + 2)) (c0 + 3) a = c0 + 2 := fun a z q => by
    rw [nt_old q, nt_new z]
  have t3 : ∀ a, mK m18 a = 0 → nt m18 (nt m12 (nt m6 (nt m0 g c0) (c0 + 1)) (c0 + 2)) (c0 + 3) a = c0 + 3 := fun a z => nt_new z
  have k6 : ∀ a k, mK m4 a = k → k ≠ 0 → mK m6 a ≠ 0 := fun a k h hk => by rw [(F46 a (by rw [h]; exact hk)).1, h]; exact hk
  have k12 : ∀ a k, mK m10 a = k → k ≠ 0 → mK m12 a ≠ 0 := fun a k h hk => by rw [(F1012 a (by rw [h]; exact hk)).1, h]; exact hk
  have k18 : ∀ a k, mK m16 a = k → k ≠ 0 → mK m18 a ≠ 0 := fun a k h hk => by rw [(F1618 a (by rw [h]; exact hk)).1, h]; exact hk
  refine hq m26 (nt m18 (nt m12 (nt m6 (nt m0 g c0) (c0 + 1)) (c0 + 2)) (c0 + 3)) ⟨a1, t, v, (fun i => if i = 1 then a7 else if i = 2 then a13 else a19), (fun i => if i = 1 then w1 else if i = 2 then w2 else w3), fun _ => [], fun _ => [], ⟨K26, i60, r61, fun i i1 i3 => ?_, P26, fun i i1 i3 => ?_, t0 s h0 (by rw [K6]; decide), t0 a1 (hF.old0 h1) (k6 a1 1 kp4 (by decide)), t0 t (hF.old0 zt) (k6 t 11 kt4 (by decide)), t0 v (hF.old0 zv) (k6 v 11 kv4 (by decide)), fun i i1 i3 => ?_⟩, fun i i1 i3 => rfl⟩ (fun a ha => ?_) ((hF.mono fun _ _ z => z).then L0 (fun a ha z => ha (by rw [show a = s from z]; exact h0)))
  · have : i = 1 ∨ i = 2 ∨ i = 3 := by omega
    rcases this with rfl | rfl | rfl
    · exact r62
    · exact r63
    · exact r64
  · have : i = 1 ∨ i = 2 ∨ i = 3 := by omega
    rcases this with rfl | rfl | rfl
    · exact R26a
    · exact R26b
    · exact R26c
  · have : i = 1 ∨ i = 2 ∨ i = 3 := by omega
    rcases this with rfl | rfl | rfl
    · exact ⟨t1 a7 h7 (k12 a7 3 Q10.1 (by decide)), t1 w1 (F68'.old0 hw1) (k12 w1 14 Q10.2.2.1 (by decide)), fun y hy => absurd hy List.not_mem_nil⟩
    · exact ⟨t2 a13 h13 (k18 a13 3 Q16.1 (by decide)), t2 w2 (F1214'.old0 hw2) (k18 w2 14 Q16.2.2.1 (by decide)), fun y hy => absurd hy List.not_mem_nil⟩
    · exact ⟨t3 a19 h19, t3 w3 (F1820'.old0 hw3), fun y hy => absurd hy List.not_mem_nil⟩
  · rw [nt_old (up18 a (up12 a (up6 a ha))), nt_old (up12 a (up6 a ha)), nt_old (up6 a ha), nt_old ha]
section
variable {m : MM} {g : Nat → Nat} {o A R Z w su n ck : Nat} {sa kd rt hz : Nat → Nat} {Pl : Nat → List (Nat × Int32)} {Cs : Nat → Nat → Nat}
/-- one more series -/
theorem Sto.add (h : Sto m g o A R Z w su n ck sa kd rt hz Pl Cs) (hn : n < 4) {s k : Nat} {C : Nat → Nat} (hS : Srs m g (16 + 8 * n) s k hz [] C) {m15 m18 : MM} (e15 : m15 = sAR m A (va_up (mAR m A) n (some s))) (e18 : m18 = sI m15 101 o (nI (n + 1))) : Sto m18 g o A R Z w su (n + 1) ck (va_up sa n s) (va_up kd n k) rt hz (va_up Pl n []) (va_up Cs n C) ∧ Fr (fun x => x = A ∨ x = o) m m18 := by
  obtain ⟨⟨a1, a2, a3, a4, a5, a6, a7, a8⟩, ⟨b1, b2, b3, b4, b5, b6, b7, b8, b9⟩, c, d, e, f⟩ := id h
  have hAo : ¬ o = A := fun z => by rw [z, b1] at a1; exact absurd a1 (by decide)
  have F : Fr (fun x => x = A ∨ x = o) m m18 := by
    rw [e18, e15]
    exact ((Fr.sAR _ _ _).mono fun _ _ z => Or.inl z).trans ((Fr.sI _ _ _ _).mono fun _ _ z => Or.inr z)
  have hA : mAR m18 A = va_up (mAR m A) n (some s) := by rw [e18, ar_sI, e15, ar_sAR, if_pos rfl]
  have rest : mK m18 = mK m ∧ mN m18 = mN m ∧ mR m18 = mR m ∧ mAI m18 = mAI m := by rw [e18, e15]; exact ⟨rfl, rfl, rfl, rfl⟩
  obtain ⟨g1, g2, g3, g4⟩ := rest
  have i1 : mI m18 101 o = nI (n + 1) := by rw [e18, i_sI, if_pos ⟨rfl, rfl⟩]
  have i2 : mI m18 102 o = nI ck := by rw [e18, i_sI, if_neg (fun z => absurd z.1 (by decide)), e15, i_sAR, a4]
  have ntag : ∀ x, 16 ≤ g x → ¬ (x = A ∨ x = o) := fun x hx z => by
    rcases z with rfl | rfl
    · have := d x (by simp); omega
    · have := d x (by simp); omega
  refine ⟨⟨⟨by rw [g1, a1], by rw [g3, a2], i1, i2, by rw [g3, a5], by rw [g3, a6], by rw [g3, a7], by rw [g3, a8]⟩, ⟨by rw [g1, b1], by rw [g2, b2], by rw [g1, b3], by rw [g2, b4], by rw [g1, b5], by rw [g2, b6], by rw [g1, b7], by rw [g1, b8], b9⟩, fun i hi => by rw [g4]; exact c i hi, d, by omega, fun i hi => ?_⟩, F⟩
  rw [hA]
  by_cases q : i = n
  · subst q
    rw [va_up_self, va_up_self, va_up_self, va_up_self, va_up_self]
    exact ⟨rfl, hS.fr F (fun x q1 _ => ntag x (by omega))⟩
  · rw [va_up_ne _ _ q, va_up_ne _ _ q, va_up_ne _ _ q, va_up_ne _ _ q, va_up_ne _ _ q]
    obtain ⟨f1, f2⟩ := f i (by omega)
    exact ⟨f1, f2.fr F (fun x q1 _ => ntag x (by omega))⟩
theorem sp_X5_addSeries (h : Sto m g o A R Z w su n ck sa kd rt hz Pl Cs) {p1 : Int32} {Q : Int32 → MM → Prop} {X : Nat → MM → Prop} (hX1 : (∀ k, p1 = nI k → 1 < k ∨ 2 ^ 31 ≤ k) → X 1 m) (hX2 : ∀ k, p1 = nI k → k ≤ 1 → n = 4 → X 2 m) (hQ : ∀ k, p1 = nI k → k ≤ 1 → n < 4 → ∀ m' g' s, Sto m' g' o A R Z w su (n + 1) ck (va_up sa n s) (va_up kd n k) rt hz (va_up Pl n []) (va_up Cs n (fun _ => 8)) → (∀ a, mK m a ≠ 0 → g' a = g a) → Fr (fun a => 8 ≤ g a) m m' → Q (nI n) m') : wp_X5_addSeries o p1 m Q X := by
  obtain ⟨⟨a1, a2, a3, a4, a5, a6, a7, a8⟩, ⟨b1, b2, b3, b4, b5, b6, b7, b8, b9⟩, c, d, e, f⟩ := id h
  unfold wp_X5_addSeries
  refine sp_rng (a := 0) (b := 1) (by decide) (by decide) (by decide) (by decide) (fun k ek _ hk => ⟨a1, ?_⟩) (fun z => hX1 fun k ek => z k ek (Nat.zero_le _))
  rw [a3]
  refine ⟨fun q => ⟨a1, A, a2, a1, fun a8' h8 m9 e9 => ?_⟩, fun q => hX2 k ek hk ?_⟩
  · have hn : n < 4 := (nI_ltI (a := n) (b := 4) (by omega) (by omega)).mp q
    obtain ⟨n8, -⟩ := nw_get e9
    have F9 : Fr (fun _ => False) m m9 := by rw [e9]; exact Fr.nw m 4 0 a8' h8 _
    rw [ek]
    refine sp_X3_init (m0 := m) (g := g) (c0 := 16 + 8 * n) (hz := hz) n8 h8 F9 fun m11 g' S11 T11 F11 => ?_
    have H11 := (h.tag (g' := g') T11).fr F11 (fun _ _ z => z) (fun _ _ z => z)
    obtain ⟨⟨p1, p2, p3, p4, p5, p6, p7, p8⟩, ⟨q1, q2, q3, q4, q5, q6, q7, q8, q9⟩, pc, pd, pe, pf⟩ := id H11
    have gA : g' A = 8 := pd A (by simp)
    have go : g' o = 8 := pd o (by simp)
    have k8 : mK m11 a8' = 4 := by
      obtain ⟨p, t, v, U, WW, T, B, s3, -⟩ := S11
      exact s3.1
    refine ⟨q1, by rw [q2]; exact vp_in_nI hn (by decide), k8, fun m15 e15 => ?_⟩
    rw [nI_clamp (by omega)] at e15
    have k15 : mK m15 o = 6 := by rw [e15, k_sAR]; exact p1
    refine ⟨k15, k15, fun m18 e18 => ?_⟩
    have i15 : mI m15 101 o = nI n := by rw [e15, i_sAR]; exact p3
    rw [i15, nI_1] at e18
    obtain ⟨S18, F18⟩ := H11.add hn S11 e15 e18
    refine ⟨S18.1.1, ?_⟩
    rw [S18.1.2.2.1, nI_pred]
    refine hQ k ek hk hn m18 g' a8' S18 T11 ((F11.mono fun _ _ z => z.elim).then F18 fun a ha z => ?_)
    have := T11 a ha
    rcases z with rfl | rfl
    · show 8 ≤ g a
      omega
    · show 8 ≤ g a
      omega
  · rcases Nat.lt_or_ge n 4 with y | y
    · exact absurd ((nI_ltI (a := n) (b := 4) (by omega) (by omega)).mpr y) q
    · omega
end
