/-! MANY POINTS at once are as one after the other -/
theorem PM_ge {hz : Nat → Nat} {ck kdi x0 st : Nat} {v0 rs : Int32} : ∀ (k d : Nat) (P : List (Nat × Int32)) (C : Nat → Nat) (d' : Nat) (P' : List (Nat × Int32)) (C' : Nat → Nat) (s : Nat), PM hz ck kdi x0 st v0 rs k d P C d' P' C' s → d ≤ d' ∧ (d' = d → P' = P)
  | 0, d, P, C, d', P', C', s, h => by
    obtain ⟨rfl, rfl, rfl, rfl⟩ := h
    exact ⟨Nat.le_refl _, fun _ => rfl⟩
  | k + 1, d, P, C, d', P', C', s, h => by
    rcases h with ⟨q, s1, h, rfl⟩ | ⟨q, rfl, rfl, rfl, rfl⟩
    · have := (PM_ge k (d + 1) _ _ d' P' C' s1 h).1
      exact ⟨by omega, fun e => by omega⟩
    · exact ⟨Nat.le_refl _, fun _ => rfl⟩
theorem PM_det {hz : Nat → Nat} {ck kdi x0 st : Nat} {v0 rs : Int32} : ∀ (k d : Nat) (P : List (Nat × Int32)) (C : Nat → Nat) (d' : Nat) (P' : List (Nat × Int32)) (C' : Nat → Nat) (s : Nat) (E : Nat → Nat) (d2 : Nat) (P2 : List (Nat × Int32)) (C2 : Nat → Nat) (s2 : Nat), PM hz ck kdi x0 st v0 rs k d P C d' P' C' s → PM hz ck kdi x0 st v0 rs k d P E d2 P2 C2 s2 → d2 = d' ∧ P2 = P'
  | 0, d, P, C, d', P', C', s, E, d2, P2, C2, s2, h, h2 => by
    obtain ⟨rfl, rfl, rfl, rfl⟩ := h
    obtain ⟨rfl, rfl, rfl, rfl⟩ := h2
    exact ⟨rfl, rfl⟩
  | k + 1, d, P, C, d', P', C', s, E, d2, P2, C2, s2, h, h2 => by
    rcases h with ⟨q, s1, h, rfl⟩ | ⟨q, rfl, rfl, rfl, rfl⟩
    · rcases h2 with ⟨q2, s3, h2, rfl⟩ | ⟨q2, rfl, rfl, rfl, rfl⟩
      · exact PM_det k (d + 1) _ _ d' P' C' s1 _ d2 P2 C2 s3 h h2
      · exact absurd q q2
    · rcases h2 with ⟨q2, s3, h2, rfl⟩ | ⟨q2, rfl, rfl, rfl, rfl⟩
      · exact absurd q2 q
      · exact ⟨rfl, rfl⟩
theorem sV_congr {hz : Nat → Nat} {P : List (Nat × Int32)} {C E : Nat → Nat} {a : Nat} (h : ∀ j, 1 ≤ j → j ≤ 3 → C j = E j) : sV hz P C a = sV hz P E a := by
  unfold sV
  rw [h 1 (by decide) (by decide), h 2 (by decide) (by decide), h 3 (by decide) (by decide)]
section
variable {x y : Nat → Nat} {z ck B : Nat} {kd rt hz : Nat → Nat} {m : MM} {Pl Pp : Nat → List (Nat × Int32)} {Cs Ds : Nat → Nat → Nat}
def FM (Q : Int32 → MM → Prop) (o : Nat) (q2 q3 q4 q5 q6 q7 l9 : Int32) (m0 : MM) (kc ks : Nat) : Prop := ((l9 = 0 → Q (1 : Int32) m0) ∧ (¬ l9 = 0 → ∃ c5 s6 : Nat, c5 ≤ kc ∧ s6 ≤ ks ∧ mK m0 o = 6 ∧ wp_X5_putMany o q2 q3 q4 q5 q6 q7 m0 (fun r10 m11 => ∀ kc12 ks13 : Nat, kc12 = kc - c5 → ks13 = ks - s6 → ((¬ r10 = l9 → Q (0 : Int32) m11) ∧ (r10 = l9 → Q (1 : Int32) m11))) (fun _ _ => False) c5 s6))
theorem wm_ref {Q : Int32 → MM → Prop} {n o p d kc ks : Nat} {q2 q3 q4 q5 q6 q7 q8 : Int32} (hd : d < 100) (h : FM Q o q2 q3 q4 q5 q6 q7 (nI d) m kc ks) : wp_L_writesMany_6 Q (n + 1) o p q2 q3 q4 q5 q6 q7 q8 (nI d) (nI (d + 1)) m kc ks := by
  unfold wp_L_writesMany_6
  exact ⟨fun _ => h, fun _ => ⟨fun _ => h, fun c => by have := (nI_eq (by omega) (by omega)).mp c; omega⟩⟩
theorem wm_loop (hN : Nm ck kd rt hz) {i a st K : Nat} {v rs cf : Int32} (hin : i < 2) (ha : a ≤ ck + 5) (hst : st ≤ 3600) (hK : K ≤ 20) (hcf0 : cf = 0 → kd i = 0) (hcf1 : ¬ cf = 0 → kd i = 1) {Q : Int32 → MM → Prop} {F0 C0 : Nat} {d' : Nat} {P' : List (Nat × Int32)} {C' : Nat → Nat} (hfin : ∀ m' Ds' kc ks, T2 x y z kd rt hz ck m' Pl (va_up Pl i P') Cs Ds' → C2 Ds' → C0 ≤ kc → F0 ≤ ks → FM Q (x 0) (nI i) (nI a) v (nI st) rs (nI K) (nI d') m' kc ks) : ∀ (k d : Nat) (m : MM) (P : List (Nat × Int32)) (E : Nat → Nat) (Ds' : Nat → Nat → Nat) (s kc ks B : Nat), d + k = K → T2 x y z kd rt hz ck m Pl (va_up Pl i P) Cs Ds' → Pn ck kd B (va_up Pl i P) → B + k ≤ 1000 → C2 Ds' → (∀ j, 1 ≤ j → j ≤ 3 → Ds' i j = E j) → PM hz ck (kd i) a st v rs k d P E d' P' C' s → 9 * k + C0 ≤ kc → s + 18 * k + F0 ≤ ks → wp_L_writesMany_6 Q (k + 2) (x 0) (y 0) (nI i) (nI a) v (nI st) rs (nI K) cf (nI d) (nI d) m kc ks := by
  have hck := hN.2.2.2.1
  intro k
  induction k with
  | zero =>
    intro d m P E Ds' s kc ks B hdk hT hP hB hC2 hE hPM hkc hks
    obtain ⟨rfl, rfl, rfl, rfl⟩ := hPM
    unfold wp_L_writesMany_6
    exact ⟨fun _ => hfin m Ds' kc ks hT hC2 (by omega) (by omega), fun c => absurd (nI_le (by omega) (by omega)) c⟩
  | succ k ih =>
    intro d m P E Ds' s kc ks B hdk hT hP hB hC2 hE hPM hkc hks
    have hP0 : (va_up Pl i P) i = P := va_up_self _ _ _
    have ref : ¬ okP hz ck (kd i) P (a + d * st) (v + nI d * rs) → ∀ kc' ks' m', m' = m → C0 ≤ kc' → F0 ≤ ks' → wp_L_writesMany_6 Q (k + 2) (x 0) (y 0) (nI i) (nI a) v (nI st) rs (nI K) cf (nI d) (nI (d + 1)) m' kc' ks' := fun hno kc' ks' m' em hc hs => by
      subst em
      rcases hPM with ⟨q, -⟩ | ⟨q, rfl, rfl, rfl, rfl⟩
      · exact absurd q hno
      · exact wm_ref (by omega) (hfin m' Ds' kc' ks' hT hC2 hc hs)
    have t31 : a + d * st < 2 ^ 31 := by
      have : d * st ≤ 20 * 3600 := Nat.mul_le_mul (by omega) hst
      omega
    have et : nI a + (nI d * nI st) = nI (a + d * st) := by rw [pk_mul, nI_add]
    have inner : ∀ lw : Int32, (okV (kd i) (v + nI d * rs) ↔ ¬ (v + nI d * rs) < lw ∧ ¬ (1000000 : Int32) < (v + nI d * rs)) → (((v + (nI d * rs)) < lw → ∀ x34 : Int32, x34 = (nI d + (0 : Int32)) → ∀ x35 : Int32, x35 = nI d + 1 → wp_L_writesMany_6 Q (k + 2) (x 0) (y 0) (nI i) (nI a) v (nI st) rs (nI K) cf x34 x35 m kc ks) ∧ (¬ (v + (nI d * rs)) < lw → (((1000000 : Int32) < (v + (nI d * rs)) → ∀ x34 : Int32, x34 = (nI d + (0 : Int32)) → ∀ x35 : Int32, x35 = nI d + 1 → wp_L_writesMany_6 Q (k + 2) (x 0) (y 0) (nI i) (nI a) v (nI st) rs (nI K) cf x34 x35 m kc ks) ∧ (¬ (1000000 : Int32) < (v + (nI d * rs)) → ∃ c39 s40 : Nat, c39 ≤ kc ∧ s40 ≤ ks ∧ wp_L_put (y 0) (nI i) (nI a + (nI d * nI st)) (v + (nI d * rs)) m (fun r43 m44 => ∀ kc45 ks46 : Nat, kc45 = kc - c39 → ks46 = ks - s40 → ((r43 < 0 → ∀ x50 : Int32, x50 = (nI d + (0 : Int32)) → ∀ x51 : Int32, x51 = nI d + 1 → wp_L_writesMany_6 Q (k + 2) (x 0) (y 0) (nI i) (nI a) v (nI st) rs (nI K) cf x50 x51 m44 kc45 ks46) ∧ (¬ r43 < 0 → ∀ x52 : Int32, x52 = (nI d + (1 : Int32)) → ∀ x53 : Int32, x53 = nI d + 1 → wp_L_writesMany_6 Q (k + 2) (x 0) (y 0) (nI i) (nI a) v (nI st) rs (nI K) cf x52 x53 m44 kc45 ks46))) c39 s40)))) := fun lw hlw => by
      have e0 : nI d + (0 : Int32) = nI d := Int32.add_zero _
      refine ⟨fun c => ?_, fun c => ⟨fun c2 => ?_, fun c2 => ?_⟩⟩
      · rw [forall_eq, forall_eq, e0, nI_1]
        exact ref (fun q => (hlw.mp q.1.2).1 c) kc ks m rfl (by omega) (by omega)
      · rw [forall_eq, forall_eq, e0, nI_1]
        exact ref (fun q => (hlw.mp q.1.2).2 c2) kc ks m rfl (by omega) (by omega)
      · have hv := hlw.mpr ⟨c, c2⟩
        rw [et]
        by_cases hok : okP hz ck (kd i) P (a + d * st) (v + nI d * rs)
        · rcases hPM with ⟨-, s1, hPM, rfl⟩ | ⟨q, -⟩
          · refine ⟨9, sV hz P E (a + d * st) + 18, by omega, by omega, t2_Lput hT.sw hN hP hin t31 hv (by decide) (by omega) (fun _ => ?_) (fun _ r m2 C2' r1 r0 hT2 hC2' => ?_) (fun c => by have := hok.1.1; omega) (fun _ c => ?_)⟩
            · rw [hP0, sV_congr hE]
              exact Nat.le_refl _
            · intro kc45 ks46 e45 e46
              have hr : ¬ r < 0 := by
                by_cases q : ∃ b ∈ va_up Pl i P i, b.1 = a + d * st
                · rw [r1 q]; decide
                · rw [r0 (fun b hb e => q ⟨b, hb, e⟩)]; decide
              refine ⟨fun c => absurd c hr, fun _ => ?_⟩
              rw [forall_eq, forall_eq, show nI d + (1 : Int32) = nI (d + 1) from nI_1 d]
              rw [hP0] at hT2 hC2'
              have hPi := hP.ins (by omega) hin hok.1.1 hv
              rw [hP0, up_up] at hPi
              have hT3 := hT2.sw
              rw [up_up] at hT3
              refine ih (d + 1) m2 _ (cN hz P E (a + d * st)) _ s1 kc45 ks46 (B + 1) (by omega) hT3 hPi (by omega) (hC2.up hP hin (fun j h1 h3 => by rw [hP0]; exact hC2' j h1 h3)) (fun j h1 h3 => ?_) hPM (by omega) (by omega)
              rw [va_up_self, hC2' j h1 h3]
              unfold cN
              rw [hE j h1 h3]
            · rw [hP0] at c
              exact absurd hok c
          · exact absurd hok q
        · have neg : ∀ r : Int32, r < 0 → ∀ kc45 ks46 : Nat, kc45 = kc - 9 → ks46 = ks - 18 → ((r < 0 → ∀ x50 : Int32, x50 = (nI d + (0 : Int32)) → ∀ x51 : Int32, x51 = nI d + 1 → wp_L_writesMany_6 Q (k + 2) (x 0) (y 0) (nI i) (nI a) v (nI st) rs (nI K) cf x50 x51 m kc45 ks46) ∧ (¬ r < 0 → ∀ x52 : Int32, x52 = (nI d + (1 : Int32)) → ∀ x53 : Int32, x53 = nI d + 1 → wp_L_writesMany_6 Q (k + 2) (x 0) (y 0) (nI i) (nI a) v (nI st) rs (nI K) cf x52 x53 m kc45 ks46)) := fun r hr kc45 ks46 e45 e46 => by
            refine ⟨fun _ => ?_, fun c => absurd hr c⟩
            rw [forall_eq, forall_eq, e0, nI_1]
            exact ref hok _ _ m rfl (by omega) (by omega)
          exact ⟨9, 18, by omega, by omega, t2_Lput hT.sw hN hP hin t31 hv (by decide) (by decide) (fun c => absurd (by rw [hP0] at c; exact c) hok) (fun c => absurd (by rw [hP0] at c; exact c) hok) (fun _ => neg (-1) (by decide)) (fun _ _ => neg (-2) (by decide))⟩
    unfold wp_L_writesMany_6
    refine ⟨fun c => absurd c (nI_ge (by omega) (by omega)), fun _ => ⟨fun c => absurd rfl c, fun _ => ?_⟩⟩
    rw [forall_eq]
    refine ⟨fun c => inner (-1000000) ?_, fun c => inner 0 ?_⟩
    · unfold okV
      rw [hcf0 c, if_neg (by decide)]
      exact ⟨fun q => ⟨Int32.not_lt.mpr q.1, Int32.not_lt.mpr q.2⟩, fun q => ⟨Int32.not_lt.mp q.1, Int32.not_lt.mp q.2⟩⟩
    · unfold okV
      rw [hcf1 c, if_pos rfl]
      exact ⟨fun q => ⟨Int32.not_lt.mpr q.1, Int32.not_lt.mpr q.2⟩, fun q => ⟨Int32.not_lt.mp q.1, Int32.not_lt.mp q.2⟩⟩
theorem Pn.PM (hP : Pn ck kd B Pl) {i K : Nat} (hin : i < 2) (hB : B + K ≤ 1000) {P' : List (Nat × Int32)} (h1 : Srt kf P') (h2 : P'.length ≤ (Pl i).length + K) (h3 : ∀ b ∈ P', b.1 ≤ ck ∧ okV (kd i) b.2) : Pn ck kd (B + K) (va_up Pl i P') := by
  refine ⟨hB, fun j hj => ?_⟩
  obtain ⟨k1, k2, k3⟩ := hP.2 j hj
  by_cases q : j = i
  · subst q
    rw [va_up_self]
    exact ⟨h1, by omega, h3⟩
  · rw [va_up_ne _ _ q]
    exact ⟨k1, by omega, k3⟩
theorem t2_many (hT : T2 x y z kd rt hz ck m Pl Pl Cs Ds) (hN : Nm ck kd rt hz) (hP : Pn ck kd B Pl) (hB : B + 20 ≤ 1000) (hC : C2 Cs) (hD : C2 Ds) {i a st K : Nat} {v rs cf : Int32} (hin : i < 2) (ha : a ≤ ck + 5) (hst : 1 ≤ st ∧ st ≤ 3600) (hK : 1 ≤ K ∧ K ≤ 20) (hrs : ¬ rs < (-1000 : Int32) ∧ rs ≤ (1000 : Int32)) (hcf0 : cf = 0 → kd i = 0) (hcf1 : ¬ cf = 0 → kd i = 1) {Q : Int32 → MM → Prop} {kc ks : Nat} (hkc : 400 ≤ kc) (hks : 27000 ≤ ks) (hq : ∀ m', In x y z kd rt hz ck (B + 20) m' → Q 1 m') : wp_L_writesMany (x 0) (y 0) (nI i) (nI a) v (nI st) rs (nI K) cf m Q kc ks := by
  have hck := hN.2.2.2.1
  obtain ⟨p1, p2, p3⟩ := hP.2 i hin
  have hP0 := hP.1
  obtain ⟨d', P', C', s, hPM⟩ := PM_ex hz ck (kd i) a st v rs K 0 (Pl i) (Ds i)
  obtain ⟨w1, w2, w3, w4, w5, w6, w7⟩ := PM_two K 0 _ _ d' P' C' s hPM p1 (by omega) (hD i hin) p3
  have hbd := bd_le (Ds i)
  have hPn' : Pn ck kd (B + 20) (va_up Pl i P') := (hP.PM hin (by omega) w3 w4 w5).mono (by omega) hB
  have hself : va_up Pl i (Pl i) = Pl := up_self2 _ _
  unfold wp_L_writesMany
  rw [forall_eq, forall_eq]
  refine ⟨K + 2, wm_loop (Cs := Cs) hN hin ha hst.2 hK.2 hcf0 hcf1 (F0 := 13000) (C0 := 130) (fun m' Ds' kc' ks' hT' hC' hkc' hks' => ?_) K 0 m (Pl i) (Ds i) Ds s kc ks B (Nat.zero_add _) (by rw [hself]; exact hT) (by rw [hself]; exact hP) (by omega) hD (fun _ _ _ => rfl) hPM (by omega) (by omega)⟩
  unfold FM
  refine ⟨fun c => ?_, fun c => ?_⟩
  · have d0 : d' = 0 := (nI_eq (a := d') (b := 0) (by omega) (by decide)).mp c
    have := (PM_ge K 0 _ _ d' P' C' s hPM).2 d0
    rw [this, hself] at hT'
    exact hq m' ⟨Pl, Cs, Ds', hT', hP.mono (by omega) hB, hC, hC'⟩
  · have d1 : d' ≠ 0 := fun e => c (by rw [e]; exact nI_0)
    have hok : okP hz ck (kd i) (Pl i) a v := by
      obtain ⟨k, rfl⟩ : ∃ k, K = k + 1 := ⟨K - 1, by omega⟩
      rcases hPM with ⟨q, -⟩ | ⟨-, e, -⟩
      · rw [Nat.zero_mul, Nat.add_zero, nI_0, Int32.zero_mul, Int32.add_zero] at q
        exact q
      · exact absurd e d1
    have hG : ∀ x' st' k', GoodMany ck (kd i) (nI a) v (nI st) rs (nI K) x' st' k' → x' = a ∧ st' = st ∧ k' = K := fun x' st' k' ⟨⟨g1, g2, g3⟩, ⟨g4, g5, g6⟩, g7, g8, g9, g10⟩ =>
      ⟨((nI_eq (by omega) (by omega)).mp g1).symm, ((nI_eq (by omega) (by omega)).mp g4).symm, ((nI_eq (by omega) (by omega)).mp g8).symm⟩
    have hcost : ∀ d2 P2 C2' s2, PM hz ck (kd i) a st v rs K 0 (Pl i) (Cs i) d2 P2 C2' s2 → s2 + bd C2' ≤ 24 * K + bd (Cs i) ∧ (∀ j, 1 ≤ j → j ≤ 3 → pw (C2' j) ∧ C2' j ≤ 2048) := fun d2 P2 C2' s2 h2 => by
      obtain ⟨u1, u2, -⟩ := PM_two K 0 _ _ d2 P2 C2' s2 h2 p1 (by omega) (hC i hin) p3
      exact ⟨u1, u2⟩
    have hbc := bd_le (Cs i)
    refine ⟨130, 13000, hkc', hks', hT'.K, ?_⟩
    obtain ⟨g, h, sa, sb, hO, hO2, hR, hDj⟩ := hT'
    refine sp_X5_putMany hO hN.kd1 (by omega) hN.hzs (fun i hi => ⟨(hP.2 i hi).1, by have := (hP.2 i hi).2.1; omega⟩) (by decide) (by decide) (fun i' x' st' k' d2 P2 C2' s2 g1 e1 hg hp => ?_) (fun q => (ser_no (by decide) hin q).elim) (fun i' g1 e1 nn => ?_) (fun i' x' st' k' g1 e1 hg nn => ?_) (fun i' x' st' k' d2 P2 C2' s2 g1 e1 hg hpl hp m2 g' hS hgt hF => ?_)
    · obtain rfl : i = i' := (nI_eq (by omega) (by omega)).mp e1
      obtain ⟨rfl, rfl, rfl⟩ := hG x' st' k' hg
      have := (hcost d2 P2 C2' s2 hp).1
      omega
    · obtain rfl : i = i' := (nI_eq (by omega) (by omega)).mp e1
      exact nn a st K ⟨⟨rfl, hok.1⟩, ⟨rfl, hst⟩, hrs, rfl, hK⟩
    · obtain rfl : i = i' := (nI_eq (by omega) (by omega)).mp e1
      obtain ⟨rfl, rfl, rfl⟩ := hG x' st' k' hg
      exact nn hok.2
    · obtain rfl : i = i' := (nI_eq (by omega) (by omega)).mp e1
      obtain ⟨rfl, rfl, rfl⟩ := hG x' st' k' hg
      obtain ⟨rfl, rfl⟩ := PM_det k' 0 _ _ d' P' C' s _ d2 P2 C2' s2 hPM hp
      intro kc12 ks13 _ _
      refine ⟨fun c => absurd rfl c, fun _ => ?_⟩
      obtain ⟨k1, k2, k3, k4⟩ := T2.mk1 hS hO2 hR hDj hgt (fr16 hF)
      refine hq m2 ⟨_, _, _, ⟨g', ot m' h, sa, sb, k1, k2, k3, k4⟩, hPn', fun k hk j h1 h3 => ?_, hC'⟩
      by_cases q : k = i
      · subst q
        rw [va_up_self]
        exact (hcost d2 P2 C2' s2 hp).2 j h1 h3
      · rw [va_up_ne _ _ q]
        exact hC k hk j h1 h3
end
