/-! A STEP -/
section
variable {x y : Nat → Nat} {z ck B : Nat} {kd rt hz : Nat → Nat} {m : MM} {Pl Pp : Nat → List (Nat × Int32)} {Cs Ds : Nat → Nat → Nat}
theorem Pn.later (hP : Pn ck kd B Pl) {ck' : Nat} (h : ck ≤ ck') : Pn ck' kd B Pl := ⟨hP.1, fun i hi => ⟨(hP.2 i hi).1, (hP.2 i hi).2.1, fun b hb => ⟨Nat.le_trans ((hP.2 i hi).2.2 b hb).1 h, ((hP.2 i hi).2.2 b hb).2⟩⟩⟩
theorem In.mono (h : In x y z kd rt hz ck B m) {B' : Nat} (hb : B ≤ B') (h2 : B' ≤ 1000) : In x y z kd rt hz ck B' m := by
  obtain ⟨Pl, Cs, Ds, k1, k2, k3, k4⟩ := h
  exact ⟨Pl, Cs, Ds, k1, k2.mono hb h2, k3, k4⟩
theorem okV_i {k : Nat} {v : Int32} (h1 : k = 1 → 0 ≤ v.toInt) (h2 : -1000000 ≤ v.toInt) (h3 : v.toInt ≤ 1000000) : okV k v := by
  unfold okV
  rw [Int32.le_iff_toInt_le, Int32.le_iff_toInt_le, show (1000000 : Int32).toInt = 1000000 by decide]
  refine ⟨?_, h3⟩
  by_cases q : k = 1
  · rw [if_pos q, show (0 : Int32).toInt = 0 by decide]
    exact h1 q
  · rw [if_neg q, show (-1000000 : Int32).toInt = -1000000 by decide]
    exact h2
/-- the changes that a step may make -/
def Sq (x y : Nat → Nat) (z : Nat) (kd : Nat → Nat) (ck B : Nat) (Q : Int32 → MM → Prop) : Prop := ∀ m' rt' hz' ck', Nm ck' kd rt' hz' → ck' ≤ ck + 100001 → In x y z kd rt' hz' ck' (B + 20) m' → Q 1 m'
theorem st250 (hT : T2 x y z kd rt hz ck m Pl Pl Cs Ds) (hN : Nm ck kd rt hz) (hP : Pn ck kd B Pl) (hB : B + 20 ≤ 1000) (hC : C2 Cs) (hD : C2 Ds) {i a X Y : Nat} {v cf : Int32} (hin : i < 2) (ha : a ≤ ck + 5) (hX : X < 2 ^ 30) (hY : Y < 2 ^ 30) (hcf0 : cf = 0 → kd i = 0) (hcf1 : ¬ cf = 0 → kd i = 1) {Q : Int32 → MM → Prop} {kc ks : Nat} (hkc : 1000 ≤ kc) (hks : 30000 ≤ ks) (hq : ∀ m', In x y z kd rt hz ck (B + 20) m' → Q 1 m') : wp_L_step_250 Q (x 0) (y 0) (nI X) (nI Y) (nI i) cf (nI a) v m kc ks := by
  have key : ∀ s0, 0 < s0 → s0 ≤ 900 → wp_L_step_279 Q (nI X) (nI Y) cf (nI s0) (nI Y / (9 : Int32)) 1 v (nI a) (nI i) (y 0) (x 0) m kc ks := fun s0 h0 h9 => by
    have e1 : nI Y / (9 : Int32) = nI (Y / 9) := pk_div (a := Y) (d := 9) (by omega) (by decide) (by decide)
    have e2 : nI (Y / 9) - nI (Y / 9) / nI s0 * nI s0 = nI (Y / 9 % s0) := pk_rem (by omega) h0 (by omega)
    have hm : Y / 9 % s0 < s0 := Nat.mod_lt _ h0
    have e3 : (1 : Int32) + nI (Y / 9 % s0) = nI (1 + Y / 9 % s0) := nI_add 1 _
    have e4 : nI Y / (11 : Int32) = nI (Y / 11) := pk_div (a := Y) (d := 11) (by omega) (by decide) (by decide)
    have e5 : nI (Y / 11) - nI (Y / 11) / (20 : Int32) * (20 : Int32) = nI (Y / 11 % 20) := pk_rem (a := Y / 11) (d := 20) (by omega) (by decide) (by decide)
    have e6 : (1 : Int32) + nI (Y / 11 % 20) = nI (1 + Y / 11 % 20) := nI_add 1 _
    have e7 : nI X / (7 : Int32) = nI (X / 7) := pk_div (a := X) (d := 7) (by omega) (by decide) (by decide)
    have e8 : nI (X / 7) - nI (X / 7) / (2001 : Int32) * (2001 : Int32) = nI (X / 7 % 2001) := pk_rem (a := X / 7) (d := 2001) (by omega) (by decide) (by decide)
    have e9 : (nI (X / 7 % 2001) - (1000 : Int32)).toInt = ((X / 7 % 2001 : Nat) : Int) - 1000 := sub_toInt (a := X / 7 % 2001) (b := 1000) (by omega) (by decide)
    have hrs : ¬ nI (X / 7 % 2001) - (1000 : Int32) < (-1000 : Int32) ∧ nI (X / 7 % 2001) - (1000 : Int32) ≤ (1000 : Int32) := by
      constructor
      · intro q
        rw [Int32.lt_iff_toInt_lt, e9, show (-1000 : Int32).toInt = -1000 by decide] at q
        omega
      · rw [Int32.le_iff_toInt_le, e9, show (1000 : Int32).toInt = 1000 by decide]
        omega
    unfold wp_L_step_279
    rw [e1, e2, e3, e4, e5, e6, e7, e8]
    refine ⟨nI_ne0 h0 (by omega), 400, 27000, by omega, by omega, t2_many hT hN hP hB hC hD hin ha ⟨by omega, by omega⟩ ⟨by omega, by omega⟩ hrs hcf0 hcf1 (by decide) (by decide) (fun m' hI => ?_)⟩
    intro _ _ _ _
    exact ⟨Or.inr rfl, hq m' hI⟩
  unfold wp_L_step_250
  exact ⟨fun _ => key 900 (by decide) (by decide), fun _ => key 100 (by decide) (by decide)⟩
theorem st116 (hT : T2 x y z kd rt hz ck m Pl Pl Cs Ds) (hN : Nm ck kd rt hz) (hP : Pn ck kd B Pl) (hB : B + 20 ≤ 1000) (hC : C2 Cs) (hD : C2 Ds) (h5 : ck + 100001 ≤ 5000000) {i a X Y : Nat} {w v cf : Int32} (hin : i < 2) (ha : a ≤ ck + 5) (hX : X < 2 ^ 30) (hY : Y < 2 ^ 30) (hv : okV (kd i) v) (hcf0 : cf = 0 → kd i = 0) (hcf1 : ¬ cf = 0 → kd i = 1) {Q : Int32 → MM → Prop} {kc ks : Nat} (hkc : 1000 ≤ kc) (hks : 30000 ≤ ks) (hq : Sq x y z kd ck B Q) : wp_L_step_116 Q (x 0) (y 0) w (nI X) (nI Y) z (nI i) cf (nI a) v m kc ks := by
  have hck := hN.2.2.2.1
  have q20 : ∀ m', In x y z kd rt hz ck (B + 20) m' → Q 1 m' := fun m' hI => hq m' rt hz ck hN (by omega) hI
  have q1 : ∀ m', In x y z kd rt hz ck (B + 1) m' → Q 1 m' := fun m' hI => q20 m' (hI.mono (by omega) hB)
  have k168 : wp_L_step_168 Q (x 0) (y 0) z (nI i) (nI a) v m kc ks := st168 hT hN hP (by omega) hC hD hin (by omega) hv (by omega) (by omega) q1
  have k250 : wp_L_step_250 Q (x 0) (y 0) (nI X) (nI Y) (nI i) cf (nI a) v m kc ks := st250 hT hN hP hB hC hD hin ha hX hY hcf0 hcf1 hkc hks q20
  have e4 : nI Y - nI Y / (4 : Int32) * (4 : Int32) = nI (Y % 4) := pk_rem (a := Y) (d := 4) (by omega) (by decide) (by decide)
  have e3000 : (1 : Int32) + (nI X - nI X / (3000 : Int32) * (3000 : Int32)) = nI (1 + X % 3000) := by
    rw [show nI X - nI X / (3000 : Int32) * (3000 : Int32) = nI (X % 3000) from pk_rem (a := X) (d := 3000) (by omega) (by decide) (by decide)]
    exact nI_add 1 _
  have e100 : (1 : Int32) + (nI X - nI X / (100000 : Int32) * (100000 : Int32)) = nI (1 + X % 100000) := by
    rw [show nI X - nI X / (100000 : Int32) * (100000 : Int32) = nI (X % 100000) from pk_rem (a := X) (d := 100000) (by omega) (by decide) (by decide)]
    exact nI_add 1 _
  have kgo : ∀ s, 1 ≤ s → s ≤ 100000 → wp_L_goesOn (x 0) (y 0) z (nI s) m (fun r138 m139 => ((r138 = 0 ∨ r138 = 1) ∧ Q r138 m139)) := fun s s1 s2 => t2_goesOn hT hN hP s1 (by omega) (by omega) (fun m' hz' n1 t1 => ⟨Or.inr rfl, hq m' rt hz' (ck + s) n1 (by omega) ⟨Pl, Cs, Ds, t1, (hP.later (Nat.le_add_right _ _)).mono (by omega) hB, hC, hD⟩⟩)
  unfold wp_L_step_116
  rw [e3000, e100]
  refine ⟨fun _ => k168, fun _ => k168, fun _ => k168, fun _ => k250, fun _ => k250, fun _ => k250, fun _ => st309 hT hN hP (by omega) hC hD hin (by omega) hv (by omega) (by omega) q1, fun _ => st344 hT hN hP (by omega) hC hD hin (by omega) (by omega) (by omega) q1, fun _ => ?_, fun _ => ⟨fun _ => kgo _ (by omega) (by omega), fun _ => kgo _ (by omega) (by omega)⟩⟩
  unfold wp_L_step_480
  rw [e4]
  exact t2_retains hT hN hP (by omega) hX (fun m' rt' hz' n1 t1 => ⟨Or.inr rfl, hq m' rt' hz' ck n1 (by omega) ⟨Pl, Cs, Ds, t1, hP.mono (by omega) hB, hC, hD⟩⟩)
theorem st75 (hT : T2 x y z kd rt hz ck m Pl Pl Cs Ds) (hN : Nm ck kd rt hz) (hP : Pn ck kd B Pl) (hB : B + 20 ≤ 1000) (hC : C2 Cs) (hD : C2 Ds) (h5 : ck + 100001 ≤ 5000000) {i a X Y : Nat} {w cf : Int32} (hin : i < 2) (ha : a ≤ ck + 5) (hX : X < 2 ^ 30) (hY : Y < 2 ^ 30) (hcf0 : cf = 0 → kd i = 0) (hcf1 : ¬ cf = 0 → kd i = 1) {Q : Int32 → MM → Prop} {kc ks : Nat} (hkc : 1000 ≤ kc) (hks : 30000 ≤ ks) (hq : Sq x y z kd ck B Q) : wp_L_step_75 Q (x 0) (y 0) w (nI X) (nI Y) z (nI i) cf (nI a) m kc ks := by
  have e5 : nI X / (5 : Int32) = nI (X / 5) := pk_div (a := X) (d := 5) (by omega) (by decide) (by decide)
  have e10 : nI X / (10 : Int32) = nI (X / 10) := pk_div (a := X) (d := 10) (by omega) (by decide) (by decide)
  have f1 : nI (X / 5) - nI (X / 5) / (300 : Int32) * (300 : Int32) = nI (X / 5 % 300) := pk_rem (a := X / 5) (d := 300) (by omega) (by decide) (by decide)
  have f2 : nI (X / 5) - nI (X / 5) / (1000001 : Int32) * (1000001 : Int32) = nI (X / 5 % 1000001) := pk_rem (a := X / 5) (d := 1000001) (by omega) (by decide) (by decide)
  have f3 : nI (X / 10) - nI (X / 10) / (1000001 : Int32) * (1000001 : Int32) = nI (X / 10 % 1000001) := pk_rem (a := X / 10) (d := 1000001) (by omega) (by decide) (by decide)
  have k116 : ∀ v, okV (kd i) v → wp_L_step_116 Q (x 0) (y 0) w (nI X) (nI Y) z (nI i) cf (nI a) v m kc ks := fun v hv => st116 hT hN hP hB hC hD h5 hin ha hX hY hv hcf0 hcf1 hkc hks hq
  unfold wp_L_step_75 wp_L_step_105
  rw [e5, e10, f1, f2, f3]
  refine ⟨fun _ => k116 _ (okV_i (fun _ => ?_) ?_ ?_), fun _ => ⟨fun c => k116 _ (okV_i (fun q => ?_) ?_ ?_), fun c => k116 _ (okV_i (fun _ => ?_) ?_ ?_)⟩⟩
  · rw [nI_toInt (by omega)]; omega
  · rw [nI_toInt (by omega)]; omega
  · rw [nI_toInt (by omega)]; omega
  · rw [hcf0 c] at q; exact absurd q (by decide)
  · rw [sub_toInt (by omega) (by omega)]; omega
  · rw [sub_toInt (by omega) (by omega)]; omega
  · rw [show nI (X / 5 % 1000001) - (0 : Int32) = nI (X / 5 % 1000001) from Int32.sub_zero _, nI_toInt (by omega)]; omega
  · rw [show nI (X / 5 % 1000001) - (0 : Int32) = nI (X / 5 % 1000001) from Int32.sub_zero _, nI_toInt (by omega)]; omega
  · rw [show nI (X / 5 % 1000001) - (0 : Int32) = nI (X / 5 % 1000001) from Int32.sub_zero _, nI_toInt (by omega)]; omega
theorem st53 (hT : T2 x y z kd rt hz ck m Pl Pl Cs Ds) (hN : Nm ck kd rt hz) (hP : Pn ck kd B Pl) (hB : B + 20 ≤ 1000) (hC : C2 Cs) (hD : C2 Ds) (h5 : ck + 100001 ≤ 5000000) {i X Y : Nat} {w cf s0 : Int32} (hin : i < 2) (hs : -5 ≤ s0.toInt ∧ s0.toInt ≤ 4000) (hX : X < 2 ^ 30) (hY : Y < 2 ^ 30) (hcf0 : cf = 0 → kd i = 0) (hcf1 : ¬ cf = 0 → kd i = 1) {Q : Int32 → MM → Prop} {kc ks : Nat} (hkc : 1000 ≤ kc) (hks : 30000 ≤ ks) (hq : Sq x y z kd ck B Q) : wp_L_step_53 Q (x 0) (y 0) w (nI X) (nI Y) z (nI i) cf s0 (nI ck) m kc ks := by
  have hck := hN.2.2.2.1
  have ev : (nI ck - s0).toInt = (ck : Int) - s0.toInt := by
    rw [Int32.toInt_sub, nI_toInt (by omega)]
    exact Int.bmod_eq_of_le (by omega) (by omega)
  unfold wp_L_step_53
  rw [forall_eq]
  refine ⟨fun c => ?_, fun _ => ⟨hT.K, t2_clock hT ?_⟩⟩
  · obtain ⟨j, hj, ej⟩ := nI_of (Int32.not_lt.mpr c)
    rw [ej, nI_toInt hj] at ev
    rw [ej]
    exact st75 hT hN hP hB hC hD h5 hin (by omega) hX hY hcf0 hcf1 hkc hks hq
  · have hm : Y % (ck + 1) < ck + 1 := Nat.mod_lt _ (by omega)
    rw [nI_1, pk_rem (by omega) (by omega) (by omega)]
    exact ⟨nI_ne0 (by omega) (by omega), st75 hT hN hP hB hC hD h5 hin (by omega) hX hY hcf0 hcf1 hkc hks hq⟩
theorem sp_L_step (hI : In x y z kd rt hz ck B m) (hN : Nm ck kd rt hz) (hB : B + 20 ≤ 1000) (h5 : ck + 100001 ≤ 5000000) {X Y : Nat} {w : Int32} (hX : X < 2 ^ 30) (hY : Y < 2 ^ 30) {Q : Int32 → MM → Prop} {kc ks : Nat} (hkc : 1000 ≤ kc) (hks : 30000 ≤ ks) (hq : Sq x y z kd ck B Q) : wp_L_step (x 0) (y 0) w (nI X) (nI Y) z m Q kc ks := by
  obtain ⟨Pl, Cs, Ds, hT, hP, hC, hD⟩ := hI
  have hR : Row m z kd rt hz := by
    obtain ⟨g, h, sa, sb, -, -, hR, -⟩ := hT
    exact hR
  have e2 : nI X - nI X / (2 : Int32) * (2 : Int32) = nI (X % 2) := pk_rem (a := X) (d := 2) (by omega) (by decide) (by decide)
  have e4 : nI Y / (4 : Int32) = nI (Y / 4) := pk_div (a := Y) (d := 4) (by omega) (by decide) (by decide)
  have f1 : nI (Y / 4) - nI (Y / 4) / (700 : Int32) * (700 : Int32) = nI (Y / 4 % 700) := pk_rem (a := Y / 4) (d := 700) (by omega) (by decide) (by decide)
  have f2 : nI (Y / 4) - nI (Y / 4) / (4000 : Int32) * (4000 : Int32) = nI (Y / 4 % 4000) := pk_rem (a := Y / 4) (d := 4000) (by omega) (by decide) (by decide)
  have hi2 : X % 2 < 2 := Nat.mod_lt _ (by decide)
  have hkd := hN.kd1 (X % 2) hi2
  have k19 : ∀ cf : Int32, (cf = 0 → kd (X % 2) = 0) → (¬ cf = 0 → kd (X % 2) = 1) → wp_L_step_19 Q (x 0) (y 0) w (nI X) (nI Y) z (nI (X % 2)) cf m kc ks := fun cf c0 c1 => by
    unfold wp_L_step_19
    rw [e4, f1, f2]
    refine ⟨hT.K, t2_clock hT ⟨fun _ => st53 hT hN hP hB hC hD h5 hi2 ?_ hX hY c0 c1 hkc hks hq, fun _ => st53 hT hN hP hB hC hD h5 hi2 ?_ hX hY c0 c1 hkc hks hq⟩⟩
    · rw [nI_toInt (by omega)]
      omega
    · have e9 : (nI (Y / 4 % 4000) - (5 : Int32)).toInt = ((Y / 4 % 4000 : Nat) : Int) - 5 := sub_toInt (a := Y / 4 % 4000) (b := 5) (by omega) (by decide)
      rw [e9]
      omega
  unfold wp_L_step
  rw [e2, forall_eq, hR.2.1, nI_clamp (by omega), hR.2.2.1 _ (by omega)]
  refine ⟨hR.1, vp_in_nI (by omega) (by decide), fun c => k19 0 (fun _ => ?_) (fun q => absurd rfl q), fun c => k19 1 (fun q => absurd q (by decide)) (fun _ => ?_)⟩
  · rcases (show kd (X % 2) = 0 ∨ kd (X % 2) = 1 by omega) with e | e
    · exact e
    · exact absurd (by rw [e]; rfl) c
  · exact (nI_eq (a := kd (X % 2)) (b := 1) (by omega) (by decide)).mp c
end
