/-! THE LAW'S START -/
def Ar (m : MM) (b k l : Nat) (c : Nat → Int32) : Prop := mK m b = k ∧ mN m b = l ∧ mAI m b = c
theorem Ar.fr {S : Nat → Prop} {m m' : MM} {b k l : Nat} {c : Nat → Int32} (h : Ar m b k l c) (hF : Fr S m m') (hk : k ≠ 0) (hS : ¬ S b) : Ar m' b k l c := by
  obtain ⟨q1, q2, q3⟩ := hF b (by rw [h.1]; exact hk)
  exact ⟨q1.trans h.1, q2.trans h.2.1, (q3 hS).2.2.2.1.trans h.2.2⟩
theorem ini_step {m n : MM} {u a k l f : Nat} (hu : mK m u = 7) (ha : mK m a = 0) (hk : k ≠ 0) (hk7 : k ≠ 7) (e : n = nw m k l a) : mK n u = 7 ∧ ∀ m', m' = sR n f u (some a) → mK m' u = 7 ∧ Ar m' a k l (fun _ => 0) ∧ mR m' f u = some a ∧ (∀ f', f' ≠ f → mR m' f' u = mR m f' u) ∧ (∀ f', mI m' f' u = mI m f' u) ∧ Fr (fun y => y = u) m m' := by
  have F : Fr (fun _ => False) m n := by rw [e]; exact Fr.nw m k l a ha _
  obtain ⟨n1, n2, -, -, -, n3, -⟩ := nw_get e
  have K2 := F.K hu (by decide)
  refine ⟨K2, fun m' e' => ?_⟩
  have F' : Fr (fun y => y = u) n m' := by rw [e']; exact Fr.sR _ _ _ _
  have hau : ¬ a = u := fun z => by rw [z, K2] at n1; exact hk7 n1.symm
  refine ⟨F'.K K2 (by decide), Ar.fr ⟨n1, n2, n3⟩ F' hk hau, by rw [e', r_sR, if_pos ⟨rfl, rfl⟩], fun f' hf => ?_, fun f' => ?_, (F.mono fun _ _ z => z.elim).trans F'⟩
  · rw [e', r_sR, if_neg (fun z => hf z.1)]
    exact ((F u (by rw [hu]; decide)).2.2 (fun z => z)).2.2.1 f'
  · rw [e', i_sR]
    exact ((F u (by rw [hu]; decide)).2.2 (fun z => z)).1 f'
theorem ini_wr {m m' : MM} {b l i : Nat} {p v : Int32} {c : Nat → Int32} (h : Ar m b 11 l c) (hp : p.toNatClampNeg = i) (e : m' = sAI m b (va_up (mAI m b) p.toNatClampNeg v)) : Ar m' b 11 l (va_up c i v) ∧ Fr (fun y => y = b) m m' := by
  have F : Fr (fun y => y = b) m m' := by rw [e]; exact Fr.sAI _ _ _
  refine ⟨⟨F.K h.1 (by decide), by rw [(F b (by rw [h.1]; decide)).2.1, h.2.1], ?_⟩, F⟩
  rw [e, ai_sAI, if_pos rfl, h.2.2, hp]
theorem md_init {m : MM} {u : Nat} (hU : mK m u = 7) (h120 : mI m 120 u = 0) (h121 : mI m 121 u = 0) (h122 : mI m 122 u = 0) {Q : MM → Prop} (hq : ∀ m' g' K R Z W T V P, Mod m' g' u K R Z W T V P 0 0 (fun _ => 0) rt0 (fun _ => 0) [] → (∀ a, mK m a ≠ 0 → a ≠ u → g' a = 8) → Fr (fun y => y = u) m m' → Q m') : wp_X6_init u m Q := by
  have c0 : (0 : Int32).toNatClampNeg = 0 := by decide
  have c1 : (1 : Int32).toNatClampNeg = 1 := by decide
  have c2 : (2 : Int32).toNatClampNeg = 2 := by decide
  have c3 : (3 : Int32).toNatClampNeg = 3 := by decide
  unfold wp_X6_init
  intro K hK nK enK
  obtain ⟨yK, zK⟩ := ini_step (f := 123) hU hK (by decide) (by decide) enK
  refine ⟨yK, fun sK eK => ?_⟩
  obtain ⟨uK, AK, rK, oK, iK, FK⟩ := zK sK eK
  have dK : ¬ K = u := fun z => by have q := AK.1; rw [z, uK] at q; exact absurd q (by decide)
  intro R hR nR enR
  obtain ⟨yR, zR⟩ := ini_step (f := 124) uK hR (by decide) (by decide) enR
  refine ⟨yR, fun sR eR => ?_⟩
  obtain ⟨uR, AR, rR, oR, iR, FR⟩ := zR sR eR
  have dR : ¬ R = u := fun z => by have q := AR.1; rw [z, uR] at q; exact absurd q (by decide)
  intro Z hZ nZ enZ
  obtain ⟨yZ, zZ⟩ := ini_step (f := 125) uR hZ (by decide) (by decide) enZ
  refine ⟨yZ, fun sZ eZ => ?_⟩
  obtain ⟨uZ, AZ, rZ, oZ, iZ, FZ⟩ := zZ sZ eZ
  have dZ : ¬ Z = u := fun z => by have q := AZ.1; rw [z, uZ] at q; exact absurd q (by decide)
  intro W hW nW enW
  obtain ⟨yW, zW⟩ := ini_step (f := 126) uZ hW (by decide) (by decide) enW
  refine ⟨yW, fun sW eW => ?_⟩
  obtain ⟨uW, AW, rW, oW, iW, FW⟩ := zW sW eW
  have dW : ¬ W = u := fun z => by have q := AW.1; rw [z, uW] at q; exact absurd q (by decide)
  intro T hT nT enT
  obtain ⟨yT, zT⟩ := ini_step (f := 127) uW hT (by decide) (by decide) enT
  refine ⟨yT, fun sT eT => ?_⟩
  obtain ⟨uT, AT, rT, oT, iT, FT⟩ := zT sT eT
  have dT : ¬ T = u := fun z => by have q := AT.1; rw [z, uT] at q; exact absurd q (by decide)
  intro V hV nV enV
  obtain ⟨yV, zV⟩ := ini_step (f := 128) uT hV (by decide) (by decide) enV
  refine ⟨yV, fun sV eV => ?_⟩
  obtain ⟨uV, AV, rV, oV, iV, FV⟩ := zV sV eV
  have dV : ¬ V = u := fun z => by have q := AV.1; rw [z, uV] at q; exact absurd q (by decide)
  intro P hP nP enP
  obtain ⟨yP, zP⟩ := ini_step (f := 135) uV hP (by decide) (by decide) enP
  refine ⟨yP, fun sP eP => ?_⟩
  obtain ⟨uP, AP, rP, oP, iP, FP⟩ := zP sP eP
  have dP : ¬ P = u := fun z => by have q := AP.1; rw [z, uP] at q; exact absurd q (by decide)
  have BK : Ar sP K 11 4 (fun _ => 0) := ((((((AK.fr FR (by decide) dK).fr FZ (by decide) dK).fr FW (by decide) dK).fr FT (by decide) dK).fr FV (by decide) dK).fr FP (by decide) dK)
  have RK : mR sP 123 u = some K := (oP 123 (by decide)).trans <| (oV 123 (by decide)).trans <| (oT 123 (by decide)).trans <| (oW 123 (by decide)).trans <| (oZ 123 (by decide)).trans <| (oR 123 (by decide)).trans <| rK
  have BR : Ar sP R 11 4 (fun _ => 0) := (((((AR.fr FZ (by decide) dR).fr FW (by decide) dR).fr FT (by decide) dR).fr FV (by decide) dR).fr FP (by decide) dR)
  have RR : mR sP 124 u = some R := (oP 124 (by decide)).trans <| (oV 124 (by decide)).trans <| (oT 124 (by decide)).trans <| (oW 124 (by decide)).trans <| (oZ 124 (by decide)).trans <| rR
  have BZ : Ar sP Z 11 4 (fun _ => 0) := ((((AZ.fr FW (by decide) dZ).fr FT (by decide) dZ).fr FV (by decide) dZ).fr FP (by decide) dZ)
  have RZ : mR sP 125 u = some Z := (oP 125 (by decide)).trans <| (oV 125 (by decide)).trans <| (oT 125 (by decide)).trans <| (oW 125 (by decide)).trans <| rZ
  have BW : Ar sP W 11 10300 (fun _ => 0) := (((AW.fr FT (by decide) dW).fr FV (by decide) dW).fr FP (by decide) dW)
  have RW : mR sP 126 u = some W := (oP 126 (by decide)).trans <| (oV 126 (by decide)).trans <| (oT 126 (by decide)).trans <| rW
  have BT : Ar sP T 11 10300 (fun _ => 0) := ((AT.fr FV (by decide) dT).fr FP (by decide) dT)
  have RT : mR sP 127 u = some T := (oP 127 (by decide)).trans <| (oV 127 (by decide)).trans <| rT
  have BV : Ar sP V 11 10300 (fun _ => 0) := (AV.fr FP (by decide) dV)
  have RV : mR sP 128 u = some V := (oP 128 (by decide)).trans <| rV
  have BP : Ar sP P 12 10 (fun _ => 0) := AP
  have RP : mR sP 135 u = some P :=  rP
  have I0 : ∀ f, mI sP f u = mI m f u := fun f => (iP f).trans <| (iV f).trans <| (iT f).trans <| (iW f).trans <| (iZ f).trans <| (iR f).trans <| iK f
  have FP : Fr (fun y => y = u) m sP := ((((((FK.trans FR).trans FZ).trans FW).trans FT).trans FV).trans FP)
  have nRu : ¬ u = R := fun z => dR z.symm
  refine ⟨uP, R, RR, BR.1, by rw [BR.2.1]; exact vp_in_nI (n := 0) (by decide) (by decide), fun m1 e1 => ?_⟩
  obtain ⟨C1, G1⟩ := ini_wr BR c0 e1
  have ru : ∀ {S : Nat → Prop} {a b : MM}, Fr S a b → mK a u = 7 → ¬ S u → (∀ f, mR b f u = mR a f u) ∧ ∀ f, mI b f u = mI a f u := fun h k s => ⟨((h u (by rw [k]; decide)).2.2 s).2.2.1, ((h u (by rw [k]; decide)).2.2 s).1⟩
  have U1 := G1.K uP (by decide)
  have X1 := ru G1 uP nRu
  refine ⟨U1, R, (X1.1 124).trans RR, C1.1, by rw [C1.2.1]; exact vp_in_nI (n := 1) (by decide) (by decide), fun m2 e2 => ?_⟩
  obtain ⟨C2, G2⟩ := ini_wr C1 c1 e2
  have U2 := G2.K U1 (by decide)
  have X2 := ru G2 U1 nRu
  refine ⟨U2, R, (X2.1 124).trans ((X1.1 124).trans RR), C2.1, by rw [C2.2.1]; exact vp_in_nI (n := 2) (by decide) (by decide), fun m3 e3 => ?_⟩
  obtain ⟨C3, G3⟩ := ini_wr C2 c2 e3
  have U3 := G3.K U2 (by decide)
  have X3 := ru G3 U2 nRu
  refine ⟨U3, R, (X3.1 124).trans ((X2.1 124).trans ((X1.1 124).trans RR)), C3.1, by rw [C3.2.1]; exact vp_in_nI (n := 3) (by decide) (by decide), fun m4 e4 => ?_⟩
  obtain ⟨C4, G4⟩ := ini_wr C3 c3 e4
  have U4 := G4.K U3 (by decide)
  have G : Fr (fun y => y = R) sP m4 := ((G1.trans G2).trans G3).trans G4
  have X := ru G uP nRu
  have hR0 : mK m R = 0 := FK.old0 hR
  have FF : Fr (fun y => y = u) m m4 := FP.then G fun a ha z => absurd (by rw [show a = R from z]; exact hR0) ha
  have nRK : ¬ K = R := fr_ne (by rw [AK.1]; decide) hR
  have DK := BK.fr G (by decide) nRK
  have nRZ : ¬ Z = R := fun z => fr_ne (by rw [AR.1]; decide) hZ z.symm
  have DZ := BZ.fr G (by decide) nRZ
  have nRW : ¬ W = R := fun z => fr_ne (by rw [(AR.fr FZ (by decide) dR).1]; decide) hW z.symm
  have DW := BW.fr G (by decide) nRW
  have nRT : ¬ T = R := fun z => fr_ne (by rw [((AR.fr FZ (by decide) dR).fr FW (by decide) dR).1]; decide) hT z.symm
  have DT := BT.fr G (by decide) nRT
  have nRV : ¬ V = R := fun z => fr_ne (by rw [(((AR.fr FZ (by decide) dR).fr FW (by decide) dR).fr FT (by decide) dR).1]; decide) hV z.symm
  have DV := BV.fr G (by decide) nRV
  have nRP : ¬ P = R := fun z => fr_ne (by rw [((((AR.fr FZ (by decide) dR).fr FW (by decide) dR).fr FT (by decide) dR).fr FV (by decide) dR).1]; decide) hP z.symm
  have DP := BP.fr G (by decide) nRP
  refine hq m4 (nt sV (nt sT (nt sW (nt sZ (nt sR (nt sK (nt m (fun y => if y = u then 1 else 8) 2) 3) 4) 5) 6) 7) 0) K R Z W T V P ⟨⟨U4, ?_, ?_, ?_, (X.1 123).trans RK, (X.1 124).trans RR, (X.1 125).trans RZ, (X.1 126).trans RW, (X.1 127).trans RT, (X.1 128).trans RV, (X.1 135).trans RP⟩, ⟨DK.1, DK.2.1, C4.1, C4.2.1, DZ.1, DZ.2.1, DW.1, DW.2.1, DT.1, DT.2.1, DV.1, DV.2.1, DP.1, DP.2.1⟩, ⟨fun i hi => ?_, fun i hi => absurd hi (Nat.not_lt_zero i), fun j a hj => absurd hj (by simp)⟩, ⟨?_, ?_, ?_, ?_, ?_, ?_, ?_, ?_⟩, Nat.zero_le _, Nat.zero_le _, fun a ha => absurd ha List.not_mem_nil, List.Pairwise.nil⟩ (fun a ha hau => ?_) FF
  · exact (X.2 120).trans ((I0 120).trans h120)
  · exact (X.2 121).trans ((I0 121).trans h121)
  · exact (X.2 122).trans ((I0 122).trans h122)
  · rw [C4.2.2, DZ.2.2]
    have : i = 0 ∨ i = 1 ∨ i = 2 ∨ i = 3 := by omega
    rcases this with rfl | rfl | rfl | rfl
    · exact ⟨rfl, rfl⟩
    · exact ⟨rfl, rfl⟩
    · exact ⟨rfl, rfl⟩
    · exact ⟨rfl, rfl⟩
  · rw [nt_old (by rw [uV]; decide), nt_old (by rw [uT]; decide), nt_old (by rw [uW]; decide), nt_old (by rw [uZ]; decide), nt_old (by rw [uR]; decide), nt_old (by rw [uK]; decide), nt_old (by rw [hU]; decide)]
    exact if_pos rfl
  · rw [nt_old (by rw [(((((AK.fr FR (by decide) dK).fr FZ (by decide) dK).fr FW (by decide) dK).fr FT (by decide) dK).fr FV (by decide) dK).1]; decide), nt_old (by rw [((((AK.fr FR (by decide) dK).fr FZ (by decide) dK).fr FW (by decide) dK).fr FT (by decide) dK).1]; decide), nt_old (by rw [(((AK.fr FR (by decide) dK).fr FZ (by decide) dK).fr FW (by decide) dK).1]; decide), nt_old (by rw [((AK.fr FR (by decide) dK).fr FZ (by decide) dK).1]; decide), nt_old (by rw [(AK.fr FR (by decide) dK).1]; decide), nt_old (by rw [AK.1]; decide), nt_new hK]
  · rw [nt_old (by rw [((((AR.fr FZ (by decide) dR).fr FW (by decide) dR).fr FT (by decide) dR).fr FV (by decide) dR).1]; decide), nt_old (by rw [(((AR.fr FZ (by decide) dR).fr FW (by decide) dR).fr FT (by decide) dR).1]; decide), nt_old (by rw [((AR.fr FZ (by decide) dR).fr FW (by decide) dR).1]; decide), nt_old (by rw [(AR.fr FZ (by decide) dR).1]; decide), nt_old (by rw [AR.1]; decide), nt_new hR]
  · rw [nt_old (by rw [(((AZ.fr FW (by decide) dZ).fr FT (by decide) dZ).fr FV (by decide) dZ).1]; decide), nt_old (by rw [((AZ.fr FW (by decide) dZ).fr FT (by decide) dZ).1]; decide), nt_old (by rw [(AZ.fr FW (by decide) dZ).1]; decide), nt_old (by rw [AZ.1]; decide), nt_new hZ]
  · rw [nt_old (by rw [((AW.fr FT (by decide) dW).fr FV (by decide) dW).1]; decide), nt_old (by rw [(AW.fr FT (by decide) dW).1]; decide), nt_old (by rw [AW.1]; decide), nt_new hW]
  · rw [nt_old (by rw [(AT.fr FV (by decide) dT).1]; decide), nt_old (by rw [AT.1]; decide), nt_new hT]
  · rw [nt_old (by rw [AV.1]; decide), nt_new hV]
  · rw [nt_new hP]
  · rw [nt_old (by rw [((((((FK.trans FR).trans FZ).trans FW).trans FT).trans FV) a ha).1]; exact ha), nt_old (by rw [(((((FK.trans FR).trans FZ).trans FW).trans FT) a ha).1]; exact ha), nt_old (by rw [((((FK.trans FR).trans FZ).trans FW) a ha).1]; exact ha), nt_old (by rw [(((FK.trans FR).trans FZ) a ha).1]; exact ha), nt_old (by rw [((FK.trans FR) a ha).1]; exact ha), nt_old (by rw [(FK a ha).1]; exact ha), nt_old ha]
    exact if_neg hau
theorem lw_start {m0 : MM} {xs : Nat → Int32} {LL : Nat} (hL : LL ≤ 3584) : wp_L_law m0 xs LL 601024 7293034 := by
  have no : ∀ {S : Nat → Prop} {a b : MM}, Fr (fun _ => False) a b → Fr S a b := fun f => f.mono fun _ _ z => z.elim
  unfold wp_L_law
  refine ⟨by decide, by decide, fun a1 h1 m4 e4 kc5 ks6 e5 e6 => ?_⟩
  obtain ⟨q1, -, q2, -⟩ := nw_get e4
  refine ⟨by omega, by omega, sp_X5_init (sa := fun _ => 0) (kd := fun _ => 0) (Pl := pl []) (Cs := fun _ _ => 8) q1 (q2 101) (q2 102) fun m12 A R Z w su hS F12 kc13 ks14 e13 e14 => ⟨by omega, by omega, fun a17 h17 m20 e20 kc21 ks22 e21 e22 => ?_⟩⟩
  obtain ⟨v1, -, v2, -⟩ := nw_get e20
  have F20 : Fr (fun _ => False) m12 m20 := by rw [e20]; exact Fr.nw m12 7 0 a17 h17 _
  refine ⟨by omega, by omega, md_init v1 (v2 120) (v2 121) (v2 122) fun m28 g' K' R' Z' W' T' V' P' hM hg F28 kc29 ks30 e29 e30 => ⟨by omega, by omega, fun a33 h33 m36 e36 kc37 ks38 e37 e38 => ⟨by omega, by omega, fun a41 h41 m44 e44 kc45 ks46 e45 e46 x49 e49 => ⟨LL / 7 + 1, ?_⟩⟩⟩⟩
  obtain ⟨p1, p2, -⟩ := nw_get e36
  obtain ⟨p3, p4, -⟩ := nw_get e44
  have F36 : Fr (fun _ => False) m28 m36 := by rw [e36]; exact Fr.nw m28 12 1 a33 h33 _
  have F44 : Fr (fun _ => False) m36 m44 := by rw [e44]; exact Fr.nw m36 13 1 a41 h41 _
  have F2844 := F36.trans F44
  have F1228 : Fr (fun _ => False) m12 m28 := F20.then F28 fun a ha z => absurd (by rw [show a = a17 from z]; exact h17) ha
  have F1244 := F1228.trans F2844
  have S1 : Sto m12 (nt m28 g' 1) a1 A R Z w su 0 0 (fun _ => 0) (fun _ => 0) rt0 (fun _ => 0) (pl []) (fun _ _ => 8) := hS.tag fun a ha => by
    rw [nt_old (by rw [(F1228 a ha).1]; exact ha)]
    exact hg a (by rw [(F20 a ha).1]; exact ha) (fr_ne ha h17)
  have S2 := S1.fr F1244 (fun _ _ z => z) (fun _ _ z => z)
  have M1 := hM.tag (g' := nt m28 g' 1) fun a ha => nt_old ha
  have M2 := M1.fr F2844 (fun _ _ z => z)
  have k33 : mK m44 a33 = 12 := F44.K p1 (by decide)
  have key := lw_loop (x := fun i => [a1, A, R, Z, w, su, a17, K', R', Z', W', T', V', P', a33, a41].getD i 0) (xs := xs) hL (LL / 7) 0 m44 kc45 ks46 ⟨nt m28 g' 1, 0, 0, fun _ => 0, fun _ => 0, rt0, fun _ => 0, fun _ _ => 8, [], ⟨S2, M2, ?_⟩, ?_, by omega, ?_⟩ (by omega) (by omega)
  · rw [e49]
    exact key
  · exact ⟨k33, ((F44 a33 (by rw [p1]; decide)).2.1).trans p2, nt_new h33, p3, p4, nt_new (F36.old0 h41)⟩
  · refine ⟨fun i hi => absurd hi (Nat.not_lt_zero i), by omega, fun i hi => ?_, fun i hi => by show 0 - rt0 i ≤ 0; omega, fun i hi => Or.inl rfl, ?_, fun a ha => absurd ha List.not_mem_nil, fun i hi => absurd hi (Nat.not_lt_zero i)⟩
    · have : i = 0 ∨ i = 1 ∨ i = 2 ∨ i = 3 := by omega
      rcases this with rfl | rfl | rfl | rfl <;> decide
    · rw [List.length_nil]
      omega
  · show 600 * (LL / 7) + (0 + (4 - 0) * 98304) ≤ ks46
    omega
