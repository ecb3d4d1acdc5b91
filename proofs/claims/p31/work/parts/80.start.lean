/-! A STORE of the law, from its two objects on; the law -/
theorem sp_X5_init2 {m : MM} {o : Nat} {sa kd : Nat → Nat} {Pl : Nat → List (Nat × Int32)} {Cs : Nat → Nat → Nat} (hK : mK m o = 6) (h101 : mI m 101 o = 0) (h102 : mI m 102 o = 0) {Q : MM → Prop} (hq : ∀ m' A R Z w su, Sto m' (fun _ => 8) o A R Z w su 0 0 sa kd rt0 (fun _ => 0) Pl Cs → (∀ q, q = A ∨ q = R ∨ q = Z ∨ q = w ∨ q = su → mK m q = 0) → Fr (fun x => x = o) m m' → Q m') : wp_X5_init o m Q := by
  have no : ∀ {S : Nat → Prop} {a b : MM}, Fr (fun _ => False) a b → Fr S a b := fun f => f.mono fun _ _ z => z.elim
  unfold wp_X5_init
  intro a1 h1 m2 e2
  have F2 : Fr (fun _ => False) m m2 := by rw [e2]; exact Fr.nw m 15 4 a1 h1 _
  obtain ⟨n1, n2, -⟩ := nw_get e2
  have K2 := F2.K hK (by decide)
  refine ⟨K2, fun m4 e4 a5 h5 m6 e6 => ?_⟩
  have F4 : Fr (fun x => x = o) m2 m4 := by rw [e4]; exact Fr.sR _ _ _ _
  have K4 := F4.K K2 (by decide)
  have F6 : Fr (fun _ => False) m4 m6 := by rw [e6]; exact Fr.nw m4 11 4 a5 h5 _
  have K6 := F6.K K4 (by decide)
  obtain ⟨n5, n6, -, -, -, n7, -⟩ := nw_get e6
  have c0 : (0 : Int32).toNatClampNeg = 0 := by decide
  have c1 : (1 : Int32).toNatClampNeg = 1 := by decide
  have c2 : (2 : Int32).toNatClampNeg = 2 := by decide
  have c3 : (3 : Int32).toNatClampNeg = 3 := by decide
  refine ⟨n5, by rw [n6]; exact vp_in_nI (n := 0) (by decide) (by decide), fun m9 e9 => ?_⟩
  have F9 : Fr (fun x => x = a5) m6 m9 := by rw [e9]; exact Fr.sAI _ _ _
  have k9 := F9.K n5 (by decide)
  have l9 : mN m9 a5 = 4 := by rw [(F9 a5 (by rw [n5]; decide)).2.1, n6]
  have v9 : mAI m9 a5 = va_up (fun _ => 0) 0 7200 := by rw [e9, ai_sAI, if_pos rfl, n7, c0]
  refine ⟨k9, by rw [l9]; exact vp_in_nI (n := 1) (by decide) (by decide), fun m12 e12 => ?_⟩
  have F12 : Fr (fun x => x = a5) m9 m12 := by rw [e12]; exact Fr.sAI _ _ _
  have k12 := F12.K k9 (by decide)
  have l12 : mN m12 a5 = 4 := by rw [(F12 a5 (by rw [k9]; decide)).2.1, l9]
  have v12 : mAI m12 a5 = va_up (va_up (fun _ => 0) 0 7200) 1 86400 := by rw [e12, ai_sAI, if_pos rfl, v9, c1]
  refine ⟨k12, by rw [l12]; exact vp_in_nI (n := 2) (by decide) (by decide), fun m15 e15 => ?_⟩
  have F15 : Fr (fun x => x = a5) m12 m15 := by rw [e15]; exact Fr.sAI _ _ _
  have k15 := F15.K k12 (by decide)
  have l15 : mN m15 a5 = 4 := by rw [(F15 a5 (by rw [k12]; decide)).2.1, l12]
  have v15 : mAI m15 a5 = va_up (va_up (va_up (fun _ => 0) 0 7200) 1 86400) 2 864000 := by rw [e15, ai_sAI, if_pos rfl, v12, c2]
  refine ⟨k15, by rw [l15]; exact vp_in_nI (n := 3) (by decide) (by decide), fun m18 e18 => ?_⟩
  have F18 : Fr (fun x => x = a5) m15 m18 := by rw [e18]; exact Fr.sAI _ _ _
  have k18 := F18.K k15 (by decide)
  have l18 : mN m18 a5 = 4 := by rw [(F18 a5 (by rw [k15]; decide)).2.1, l15]
  have v18 : mAI m18 a5 = va_up (va_up (va_up (va_up (fun _ => 0) 0 7200) 1 86400) 2 864000) 3 8640000 := by rw [e18, ai_sAI, if_pos rfl, v15, c3]
  have F618 : Fr (fun x => x = a5) m6 m18 := ((F9.trans F12).trans F15).trans F18
  have K18 := F618.K K6 (by decide)
  refine ⟨K18, fun m20 e20 a21 h21 m22 e22 => ?_⟩
  have F20 : Fr (fun x => x = o) m18 m20 := by rw [e20]; exact Fr.sR _ _ _ _
  have K20 := F20.K K18 (by decide)
  have F22 : Fr (fun _ => False) m20 m22 := by rw [e22]; exact Fr.nw m20 11 4 a21 h21 _
  have K22 := F22.K K20 (by decide)
  obtain ⟨n21, n22, -, -, -, n23, -⟩ := nw_get e22
  refine ⟨K22, fun m24 e24 a25 h25 m26 e26 => ?_⟩
  have F24 : Fr (fun x => x = o) m22 m24 := by rw [e24]; exact Fr.sR _ _ _ _
  have K24 := F24.K K22 (by decide)
  have F26 : Fr (fun _ => False) m24 m26 := by rw [e26]; exact Fr.nw m24 5 0 a25 h25 _
  have K26 := F26.K K24 (by decide)
  obtain ⟨n25, -⟩ := nw_get e26
  unfold wp_X4_init
  refine ⟨K26, fun m30 e30 a31 h31 m32 e32 => ?_⟩
  have F30 : Fr (fun x => x = o) m26 m30 := by rw [e30]; exact Fr.sR _ _ _ _
  have K30 := F30.K K26 (by decide)
  have F32 : Fr (fun _ => False) m30 m32 := by rw [e32]; exact Fr.nw m30 2 0 a31 h31 _
  have K32 := F32.K K30 (by decide)
  obtain ⟨n31, -⟩ := nw_get e32
  unfold wp_X1_init
  refine ⟨K32, fun m36 e36 => ?_⟩
  have F36 : Fr (fun x => x = o) m32 m36 := by rw [e36]; exact Fr.sR _ _ _ _
  -- frames to the last state
  have L26 : Fr (fun x => x = o) m26 m36 := (F30.trans (no F32)).trans F36
  have L22 : Fr (fun x => x = o) m22 m36 := (F24.trans (no F26)).trans L26
  have L18 : Fr (fun x => x = o) m18 m36 := (F20.trans (no F22)).trans L22
  have L6 : Fr (fun x => x = o ∨ x = a5) m6 m36 := (F618.mono fun _ _ z => Or.inr z).trans (L18.mono fun _ _ z => Or.inl z)
  have L2 : Fr (fun x => x = o ∨ x = a5) m2 m36 := ((F4.mono fun _ _ z => Or.inl z).trans (no F6)).trans L6
  have k1' : mK m4 a1 = 15 := F4.K n1 (by decide)
  have d15 : ¬ a1 = a5 := fr_ne (by rw [k1']; decide) h5
  have do5 : ¬ o = a5 := fr_ne (by rw [K4]; decide) h5
  have d1o : ¬ a1 = o := fun z => by rw [z, K2] at n1; exact absurd n1 (by decide)
  have k5' : mK m20 a5 = 11 := F20.K k18 (by decide)
  have d521 : ¬ a5 = a21 := fr_ne (by rw [k5']; decide) h21
  have d21o : ¬ a21 = o := fun z => by rw [z, K22] at n21; exact absurd n21 (by decide)
  have d5o : ¬ a5 = o := fun z => do5 z.symm
  have K36 := L26.K K26 (by decide)
  have zo : ∀ {a b : MM}, Fr (fun _ => False) a b → mK a o = 6 → (∀ f, mR b f o = mR a f o) ∧ (∀ f, mI b f o = mI a f o) := fun f k => ⟨((f o (by rw [k]; decide)).2.2 (fun z => z)).2.2.1, ((f o (by rw [k]; decide)).2.2 (fun z => z)).1⟩
  have z5 : ∀ f, mR m18 f o = mR m6 f o := ((F618 o (by rw [K6]; decide)).2.2 do5).2.2.1
  have z5i : ∀ f, mI m18 f o = mI m6 f o := ((F618 o (by rw [K6]; decide)).2.2 do5).1
  have ne : ∀ {a b : Nat} {P : Prop}, a ≠ b → ¬ (a = b ∧ P) := fun h z => h z.1
  have r106 : mR m36 106 o = some a31 := by rw [e36, r_sR, if_pos ⟨rfl, rfl⟩]
  have r105 : mR m36 105 o = some a25 := by rw [e36, r_sR, if_neg (ne (by decide)), (zo F32 K30).1, e30, r_sR, if_pos ⟨rfl, rfl⟩]
  have r104 : mR m36 104 o = some a21 := by rw [e36, r_sR, if_neg (ne (by decide)), (zo F32 K30).1, e30, r_sR, if_neg (ne (by decide)), (zo F26 K24).1, e24, r_sR, if_pos ⟨rfl, rfl⟩]
  have r103 : mR m36 103 o = some a5 := by rw [e36, r_sR, if_neg (ne (by decide)), (zo F32 K30).1, e30, r_sR, if_neg (ne (by decide)), (zo F26 K24).1, e24, r_sR, if_neg (ne (by decide)), (zo F22 K20).1, e20, r_sR, if_pos ⟨rfl, rfl⟩]
  have r100 : mR m36 100 o = some a1 := by rw [e36, r_sR, if_neg (ne (by decide)), (zo F32 K30).1, e30, r_sR, if_neg (ne (by decide)), (zo F26 K24).1, e24, r_sR, if_neg (ne (by decide)), (zo F22 K20).1, e20, r_sR, if_neg (ne (by decide)), z5, (zo F6 K4).1, e4, r_sR, if_pos ⟨rfl, rfl⟩]
  have iall : ∀ f, mI m36 f o = mI m f o := fun f => by rw [e36, i_sR, (zo F32 K30).2, e30, i_sR, (zo F26 K24).2, e24, i_sR, (zo F22 K20).2, e20, i_sR, z5i, (zo F6 K4).2, e4, i_sR, (zo F2 hK).2]
  have vR : mAI m36 a5 = va_up (va_up (va_up (va_up (fun _ => 0) 0 7200) 1 86400) 2 864000) 3 8640000 := by rw [((L18 a5 (by rw [k18]; decide)).2.2 d5o).2.2.2.1, v18]
  have vZ : mAI m36 a21 = fun _ => 0 := by rw [((L22 a21 (by rw [n21]; decide)).2.2 d21o).2.2.2.1, n23]
  have o4 : ∀ q, mK m4 q = 0 → mK m q = 0 := fun q h => F2.old0 (F4.old0 h)
  have o20 : ∀ q, mK m20 q = 0 → mK m q = 0 := fun q h => o4 q (F6.old0 (F618.old0 (F20.old0 h)))
  have o24 : ∀ q, mK m24 q = 0 → mK m q = 0 := fun q h => o20 q (F22.old0 (F24.old0 h))
  have o30 : ∀ q, mK m30 q = 0 → mK m q = 0 := fun q h => o24 q (F26.old0 (F30.old0 h))
  have hnew : ∀ q, q = a1 ∨ q = a5 ∨ q = a21 ∨ q = a25 ∨ q = a31 → mK m q = 0 := fun q hq9 => by
    rcases hq9 with z | z | z | z | z
    · rw [z]; exact h1
    · rw [z]; exact o4 _ h5
    · rw [z]; exact o20 _ h21
    · rw [z]; exact o24 _ h25
    · rw [z]; exact o30 _ h31
  refine hq m36 a1 a5 a21 a25 a31 ⟨⟨K36, r100, (iall 101).trans h101, (iall 102).trans h102, r103, r104, r105, r106⟩, ⟨L2.K n1 (by decide), ?_, L18.K k18 (by decide), ?_, L22.K n21 (by decide), ?_, L26.K n25 (by decide), F36.K n31 (by decide), d521⟩, fun i hi => ?_, fun _ _ => rfl, Nat.zero_le _, fun i hi => absurd hi (Nat.not_lt_zero i)⟩ hnew ?_
  · rw [(L2 a1 (by rw [n1]; decide)).2.1, n2]
  · rw [(L18 a5 (by rw [k18]; decide)).2.1, l18]
  · rw [(L22 a21 (by rw [n21]; decide)).2.1, n22]
  · rw [vR, vZ]
    have : i = 0 ∨ i = 1 ∨ i = 2 ∨ i = 3 := by omega
    rcases this with rfl | rfl | rfl | rfl
    · exact ⟨rfl, rfl⟩
    · exact ⟨rfl, rfl⟩
    · exact ⟨rfl, rfl⟩
    · exact ⟨rfl, rfl⟩
  · have M5 : mK m a5 = 0 := F2.old0 (F4.old0 h5)
    exact (no F2).then L2 fun a ha z => by
      rcases z with z | z
      · exact z
      · exact absurd (by rw [z]; exact M5) ha

def mk6 (a b c d e f : Nat) : Nat → Nat := fun k => match k with
  | 0 => a
  | 1 => b
  | 2 => c
  | 3 => d
  | 4 => e
  | _ => f
/-- the tag of six cells -/
def t6 (x : Nat → Nat) : Nat → Nat := fun q => if q = x 0 ∨ q = x 1 ∨ q = x 2 ∨ q = x 3 ∨ q = x 4 ∨ q = x 5 then 8 else 0
theorem t6_8 {x : Nat → Nat} {q : Nat} (h : 8 ≤ t6 x q) : q = x 0 ∨ q = x 1 ∨ q = x 2 ∨ q = x 3 ∨ q = x 4 ∨ q = x 5 := by
  unfold t6 at h
  split at h
  · assumption
  · omega
theorem S6.re0 {x : Nat → Nat} {m : MM} {g : Nat → Nat} {ck : Nat} {sa kd rt hz : Nat → Nat} {Pl : Nat → List (Nat × Int32)} {Cs : Nat → Nat → Nat} (h : S6 x m g 0 ck sa kd rt hz Pl Cs) : S6 x m (t6 x) 0 ck sa kd rt hz Pl Cs :=
  ⟨h.1, h.2.1, h.2.2.1, fun q hq => if_pos hq, Nat.zero_le _, fun i hi => absurd hi (Nat.not_lt_zero i)⟩
/-- the six cells stand -/
theorem S6.al {x : Nat → Nat} {m : MM} {g : Nat → Nat} {n ck : Nat} {sa kd rt hz : Nat → Nat} {Pl : Nat → List (Nat × Int32)} {Cs : Nat → Nat → Nat} (h : S6 x m g n ck sa kd rt hz Pl Cs) {q : Nat} (hq : q = x 0 ∨ q = x 1 ∨ q = x 2 ∨ q = x 3 ∨ q = x 4 ∨ q = x 5) : mK m q ≠ 0 := by
  obtain ⟨⟨a1, -⟩, ⟨b1, -, b3, -, b5, -, b7, b8, -⟩, -⟩ := h
  rcases hq with e | e | e | e | e | e
  · rw [e, a1]; decide
  · rw [e, b1]; decide
  · rw [e, b3]; decide
  · rw [e, b5]; decide
  · rw [e, b7]; decide
  · rw [e, b8]; decide
theorem S6.fr0 {x : Nat → Nat} {m m' : MM} {g : Nat → Nat} {n ck : Nat} {sa kd rt hz : Nat → Nat} {Pl : Nat → List (Nat × Int32)} {Cs : Nat → Nat → Nat} (h : S6 x m g n ck sa kd rt hz Pl Cs) (hF : Fr (fun _ => False) m m') : S6 x m' g n ck sa kd rt hz Pl Cs := Sto.fr h hF (fun _ _ => id) (fun _ _ => id)
def KD : Nat → Nat := fun i => i
def PE : Nat → List (Nat × Int32) := fun _ => []
def CE : Nat → Nat → Nat := fun _ _ => 8
def Z0 : Nat → Nat := fun _ => 0
theorem up_KD (i : Nat) : va_up KD i i = KD := up_self2 KD i
theorem up_PE (i : Nat) : va_up PE i [] = PE := up_self2 PE i
theorem up_CE (i : Nat) : va_up CE i (fun _ => 8) = CE := up_self2 CE i
theorem PE_Pn (ck : Nat) (kd : Nat → Nat) : Pn ck kd 0 PE := ⟨by decide, fun _ _ => ⟨List.Pairwise.nil, Nat.le_refl _, fun b hb => absurd hb List.not_mem_nil⟩⟩
theorem CE_C2 : C2 CE := fun _ _ _ _ _ => ⟨Or.inl rfl, (by decide : (8 : Nat) ≤ 2048)⟩
theorem Nm_0 : Nm 0 KD rt0 Z0 := by
  refine ⟨rfl, rfl, Nat.le_refl _, by decide, fun i hi => ?_, fun i hi => by rw [Nat.zero_sub]; exact Nat.le_refl _, fun i hi => Or.inl rfl⟩
  rcases (show i = 0 ∨ i = 1 ∨ i = 2 ∨ i = 3 by omega) with rfl | rfl | rfl | rfl <;> decide
section
variable {x y : Nat → Nat} {z : Nat} {m : MM} {xs : Nat → Int32} {LL : Nat} {Q : Int32 → MM → Prop}
/-- the two stores, with n and k series -/
def Tn (x y : Nat → Nat) (z n k : Nat) (m : MM) : Prop := ∃ g h sa sb, S6 x m g n 0 sa KD rt0 Z0 PE CE ∧ S6 y m h k 0 sb KD rt0 Z0 PE CE ∧ Row m z KD rt0 Z0 ∧ Dj m g h z
theorem Tn.sw {n k : Nat} (h : Tn x y z n k m) : Tn y x z k n m := by
  obtain ⟨g, h, sa, sb, h1, h2, h3, h4⟩ := h
  exact ⟨h, g, sb, sa, h2, h1, h3, h4.sw⟩
theorem Tn.K {n k : Nat} (h : Tn x y z n k m) : mK m (x 0) = 6 := by
  obtain ⟨g, h, sa, sb, hO, -⟩ := h
  exact hO.1.1
theorem Tn.add {n k : Nat} (h : Tn x y z n k m) (hn : n ≤ 1) {p : Int32} (hp : p = nI n) {X : Nat → MM → Prop} {Q : Int32 → MM → Prop} (hq : ∀ m', Tn x y z (n + 1) k m' → Q (nI n) m') : wp_X5_addSeries (x 0) p m Q X := by
  subst hp
  obtain ⟨g, h, sa, sb, hO, hO2, hR, hD⟩ := h
  refine sp_X5_addSeries hO (fun q => ?_) (fun k' e1 e2 e3 => by omega) (fun k' e1 h1 h4 m' g' s hS hg hF => ?_)
  · rcases q n rfl with q | q <;> omega
  · obtain rfl : n = k' := (nI_eq (by omega) (by omega)).mp e1
    rw [up_KD, up_PE, up_CE] at hS
    obtain ⟨u1, u2⟩ := S6.oth hO2 hD (by rw [hR.1]; decide) hg hF
    exact hq m' ⟨g', ot m h, _, sb, hS, u1, hR.fr hF hD.2.1, u2⟩
/-- from the four series on -/
theorem st_run {f : Nat} (hf : f ≤ 300) (hL : LL ≤ 260) (h : Tn x y z 2 2 m) {kc ks : Nat} (hkc : 40000 ≤ kc) (hks : 1100000 ≤ ks) (hq : ∀ m', Q 1 m') : wp_L_draw (nI f) (200000 : Int32) m xs LL (fun r99 m100 => wp_L_goesOn (x 0) (y 0) z ((1 : Int32) + r99) m100 (fun r101 m102 => ((¬ r101 = 0 → ∀ x104 : Int32, x104 = (0 : Int32) → (∃ n9, wp_L_store_115 xs LL Q n9 (nI f) (x 0) (y 0) z x104 m102 kc ks)) ∧ (r101 = 0 → Q (0 : Int32) m102)))) := by
  have hT : T2 x y z KD rt0 Z0 0 m PE PE CE CE := h
  rw [show (200000 : Int32) = nI 200000 by decide]
  refine sp_L_draw (by omega) hL (by decide) (by decide) (fun r hr => ?_)
  rw [show (1 : Int32) + nI r = nI (1 + r) from nI_add 1 r]
  refine t2_goesOn hT Nm_0 (PE_Pn 0 KD) (by omega) (by omega) (by omega) (fun m' hz' n1 t1 => ⟨fun _ => ?_, fun c => absurd c (by decide)⟩)
  rw [forall_eq]
  have cb0 : CB 0 = 200001 := rfl
  exact ⟨_, sl115 hf hL hq 36 0 m' rt0 hz' (0 + (1 + r)) kc ks rfl n1 ⟨PE, CE, CE, t1, PE_Pn _ _, CE_C2, CE_C2⟩ (by omega) (by omega) (by omega)⟩
theorem sp_L_store {f : Nat} (hf : f ≤ 300) (hL : LL ≤ 260) {kc ks : Nat} (hkc : 50000 ≤ kc) (hks : 1110000 ≤ ks) (hq : ∀ m', Q 1 m') : wp_L_store (nI f) m xs LL Q kc ks := by
  unfold wp_L_store
  refine ⟨by omega, by omega, fun a1 h1 m4 e4 kc5 ks6 ekc5 eks6 => ⟨by omega, by omega, ?_⟩⟩
  have F4 : Fr (fun _ => False) m m4 := by rw [e4]; exact Fr.nw m 6 0 a1 h1 _
  obtain ⟨n1, -, n2, -⟩ := nw_get e4
  refine sp_X5_init2 (sa := KD) (kd := KD) (Pl := PE) (Cs := CE) n1 (n2 101) (n2 102) (fun m12 A R Z w su hS1 hn1 hF1 => ?_)
  intro kc13 ks14 ekc13 eks14
  refine ⟨by omega, by omega, fun a17 h17 m20 e20 kc21 ks22 ekc21 eks22 => ⟨by omega, by omega, ?_⟩⟩
  have F20 : Fr (fun _ => False) m12 m20 := by rw [e20]; exact Fr.nw m12 6 0 a17 h17 _
  obtain ⟨n3, -, n4, -⟩ := nw_get e20
  refine sp_X5_init2 (sa := KD) (kd := KD) (Pl := PE) (Cs := CE) n3 (n4 101) (n4 102) (fun m28 A2 R2 Z2 w2 su2 hS2 hn2 hF2 => ?_)
  intro kc29 ks30 ekc29 eks30
  refine ⟨by omega, by omega, fun a33 h33 m36 e36 kc37 ks38 ekc37 eks38 => ?_⟩
  have F36 : Fr (fun _ => False) m28 m36 := by rw [e36]; exact Fr.nw m28 11 10 a33 h33 _
  obtain ⟨n5, n6, -, -, -, n7, -⟩ := nw_get e36
  -- the two stores, apart
  have hO1 : S6 (mk6 a1 A R Z w su) m12 (t6 (mk6 a1 A R Z w su)) 0 0 KD KD rt0 Z0 PE CE := S6.re0 (x := mk6 a1 A R Z w su) hS1
  have hO2 : S6 (mk6 a17 A2 R2 Z2 w2 su2) m28 (t6 (mk6 a17 A2 R2 Z2 w2 su2)) 0 0 KD KD rt0 Z0 PE CE := S6.re0 (x := mk6 a17 A2 R2 Z2 w2 su2) hS2
  generalize hx : mk6 a1 A R Z w su = x at hO1
  generalize hy : mk6 a17 A2 R2 Z2 w2 su2 = y at hO2
  have x0 : x 0 = a1 := by rw [← hx]; rfl
  have y0 : y 0 = a17 := by rw [← hy]; rfl
  have hO20 : S6 x m20 (t6 x) 0 0 KD KD rt0 Z0 PE CE := hO1.fr0 F20
  have yn : ∀ q, (q = y 0 ∨ q = y 1 ∨ q = y 2 ∨ q = y 3 ∨ q = y 4 ∨ q = y 5) → q = a17 ∨ mK m20 q = 0 := fun q hq9 => by
    rw [← hy] at hq9
    rcases hq9 with e | e
    · exact Or.inl e
    · exact Or.inr (hn2 q e)
  have ap : ∀ q, 8 ≤ t6 x q → ¬ 8 ≤ t6 y q := fun q c1 c2 => by
    have k1 := t6_8 c1
    rcases yn q (t6_8 c2) with e | e
    · have := hO1.al k1
      rw [e] at this
      exact this h17
    · exact hO20.al k1 e
  have n17 : ¬ 8 ≤ t6 x a17 := fun c => by
    have := hO1.al (t6_8 c)
    exact this h17
  have hO28 : S6 x m28 (t6 x) 0 0 KD KD rt0 Z0 PE CE := Sto.fr hO20 hF2 (fun q hq9 e => by
    have e : q = a17 := e
    refine n17 ?_
    rw [← e]
    have := hO20.2.2.2.1 q (by rcases hq9 with k | k | k | k <;> simp [k])
    rw [this]
    exact Nat.le_refl _) (fun q hq9 e => by
    have e : q = a17 := e
    rw [e] at hq9
    omega)
  have hZx : ¬ 8 ≤ t6 x a33 := fun c => hO28.al (t6_8 c) h33
  have hZy : ¬ 8 ≤ t6 y a33 := fun c => hO2.al (t6_8 c) h33
  have hA : S6 x m36 (t6 x) 0 0 KD KD rt0 Z0 PE CE := hO28.fr0 F36
  have hB : S6 y m36 (t6 y) 0 0 KD KD rt0 Z0 PE CE := hO2.fr0 F36
  have hD : Dj m36 (t6 x) (t6 y) a33 := ⟨fun a _ c => ap a c.1 c.2, hZx, hZy⟩
  -- the row
  have c0 : (0 : Int32).toNatClampNeg = 0 := by decide
  have c1 : (1 : Int32).toNatClampNeg = 1 := by decide
  have c2 : (2 : Int32).toNatClampNeg = 2 := by decide
  have c3 : (3 : Int32).toNatClampNeg = 3 := by decide
  have c4 : (4 : Int32).toNatClampNeg = 4 := by decide
  have c5 : (5 : Int32).toNatClampNeg = 5 := by decide
  have vv : ∀ j, j < 10 → vp_in (nI j) 10 := fun j hj => vp_in_nI hj (by decide)
  have wA : ∀ (m : MM) (f : Nat → Int32), S6 x m (t6 x) 0 0 KD KD rt0 Z0 PE CE ∧ S6 y m (t6 y) 0 0 KD KD rt0 Z0 PE CE ∧ Dj m (t6 x) (t6 y) a33 → S6 x (sAI m a33 f) (t6 x) 0 0 KD KD rt0 Z0 PE CE ∧ S6 y (sAI m a33 f) (t6 y) 0 0 KD KD rt0 Z0 PE CE ∧ Dj (sAI m a33 f) (t6 x) (t6 y) a33 := fun m f ⟨k1, k2, k3⟩ => ⟨S6.w k1 k3.2.1 f, S6.w k2 k3.2.2 f, k3.w f⟩
  have s0 := wA m36 (va_up (mAI m36 a33) (0 : Int32).toNatClampNeg 0) ⟨hA, hB, hD⟩
  refine ⟨n5, by rw [n6]; exact vv 0 (by decide), fun m43 e43 => ?_⟩
  rw [← e43] at s0
  have r43 : mK m43 a33 = 11 ∧ mN m43 a33 = 10 ∧ mAI m43 a33 = va_up (fun _ => 0) 0 0 := by rw [e43]; exact ⟨n5, n6, by rw [ai_sAI, if_pos rfl, n7, c0]⟩
  have s1 := wA m43 (va_up (mAI m43 a33) (1 : Int32).toNatClampNeg 1) s0
  refine ⟨r43.1, by rw [r43.2.1]; exact vv 1 (by decide), fun m46 e46 => ?_⟩
  rw [← e46] at s1
  have r46 : mK m46 a33 = 11 ∧ mN m46 a33 = 10 ∧ mAI m46 a33 = va_up (va_up (fun _ => 0) 0 0) 1 1 := by rw [e46]; exact ⟨r43.1, r43.2.1, by rw [ai_sAI, if_pos rfl, r43.2.2, c1]⟩
  have s2 := wA m46 (va_up (mAI m46 a33) (2 : Int32).toNatClampNeg 7200) s1
  refine ⟨r46.1, by rw [r46.2.1]; exact vv 2 (by decide), fun m49 e49 => ?_⟩
  rw [← e49] at s2
  have r49 : mK m49 a33 = 11 ∧ mN m49 a33 = 10 ∧ mAI m49 a33 = va_up (va_up (va_up (fun _ => 0) 0 0) 1 1) 2 7200 := by rw [e49]; exact ⟨r46.1, r46.2.1, by rw [ai_sAI, if_pos rfl, r46.2.2, c2]⟩
  have s3 := wA m49 (va_up (mAI m49 a33) (3 : Int32).toNatClampNeg 86400) s2
  refine ⟨r49.1, by rw [r49.2.1]; exact vv 3 (by decide), fun m52 e52 => ?_⟩
  rw [← e52] at s3
  have r52 : mK m52 a33 = 11 ∧ mN m52 a33 = 10 ∧ mAI m52 a33 = va_up (va_up (va_up (va_up (fun _ => 0) 0 0) 1 1) 2 7200) 3 86400 := by rw [e52]; exact ⟨r49.1, r49.2.1, by rw [ai_sAI, if_pos rfl, r49.2.2, c3]⟩
  have s4 := wA m52 (va_up (mAI m52 a33) (4 : Int32).toNatClampNeg 864000) s3
  refine ⟨r52.1, by rw [r52.2.1]; exact vv 4 (by decide), fun m55 e55 => ?_⟩
  rw [← e55] at s4
  have r55 : mK m55 a33 = 11 ∧ mN m55 a33 = 10 ∧ mAI m55 a33 = va_up (va_up (va_up (va_up (va_up (fun _ => 0) 0 0) 1 1) 2 7200) 3 86400) 4 864000 := by rw [e55]; exact ⟨r52.1, r52.2.1, by rw [ai_sAI, if_pos rfl, r52.2.2, c4]⟩
  have s5 := wA m55 (va_up (mAI m55 a33) (5 : Int32).toNatClampNeg 8640000) s4
  refine ⟨r55.1, by rw [r55.2.1]; exact vv 5 (by decide), fun m58 e58 => ?_⟩
  rw [← e58] at s5
  have r58 : mK m58 a33 = 11 ∧ mN m58 a33 = 10 ∧ mAI m58 a33 = va_up (va_up (va_up (va_up (va_up (va_up (fun _ => 0) 0 0) 1 1) 2 7200) 3 86400) 4 864000) 5 8640000 := by rw [e58]; exact ⟨r55.1, r55.2.1, by rw [ai_sAI, if_pos rfl, r55.2.2, c5]⟩
  have hRow : Row m58 a33 KD rt0 Z0 := by
    refine ⟨r58.1, r58.2.1, fun i hi => ?_, fun i hi => ?_⟩
    · rw [r58.2.2]
      rcases (show i = 0 ∨ i = 1 by omega) with rfl | rfl <;> rfl
    · rw [r58.2.2]
      rcases (show i = 0 ∨ i = 1 ∨ i = 2 ∨ i = 3 by omega) with rfl | rfl | rfl | rfl <;> exact ⟨rfl, rfl⟩
  have hT : Tn x y a33 0 0 m58 := ⟨_, _, _, _, s5.1, s5.2.1, hRow, s5.2.2⟩
  rw [← x0, ← y0]
  refine ⟨by omega, by omega, hT.K, hT.add (by decide) nI_0.symm (fun m63 t63 => ?_)⟩
  intro kc64 ks65 ekc64 eks65
  refine ⟨fun c => absurd nI_0 c, fun _ => ⟨by omega, by omega, t63.sw.K, t63.sw.add (by decide) nI_0.symm (fun m73 t73 => ?_)⟩⟩
  intro kc74 ks75 ekc74 eks75
  refine ⟨fun c => absurd nI_0 c, fun _ => ⟨by omega, by omega, t73.sw.K, t73.sw.add (by decide) (show (1 : Int32) = nI 1 by decide) (fun m83 t83 => ?_)⟩⟩
  intro kc84 ks85 ekc84 eks85
  refine ⟨fun c => absurd (show nI 1 = 1 by decide) c, fun _ => ⟨by omega, by omega, t83.sw.K, t83.sw.add (by decide) (show (1 : Int32) = nI 1 by decide) (fun m93 t93 => ?_)⟩⟩
  intro kc94 ks95 ekc94 eks95
  exact ⟨fun c => absurd (show nI 1 = 1 by decide) c, fun _ => st_run hf hL t93.sw (by omega) (by omega) hq⟩
theorem lw_start {m0 : MM} {xs : Nat → Int32} {LL : Nat} (hL : LL ≤ 260) : wp_L_law m0 xs LL 600074 7301550 := by
  unfold wp_L_law
  refine ⟨50000, 1110000, by decide, by decide, sp_L_store (f := 0) (by decide) hL (Nat.le_refl _) (Nat.le_refl _) (fun m1 => ?_)⟩
  intro kc7 ks8 e7 e8
  refine ⟨fun c => absurd c (by decide), fun _ => ⟨50000, 1110000, by omega, by omega, sp_L_store (f := 115) (by decide) hL (Nat.le_refl _) (Nat.le_refl _) (fun m2 => ?_)⟩⟩
  intro kc18 ks19 e18 e19
  refine ⟨fun c => absurd c (by decide), fun _ => ⟨50000, 1110000, by omega, by omega, sp_L_store (f := 230) (by decide) hL (Nat.le_refl _) (Nat.le_refl _) (fun m3 => ?_)⟩⟩
  intro _ _ _ _
  exact ⟨fun c => absurd c (by decide), fun _ => trivial⟩
end
