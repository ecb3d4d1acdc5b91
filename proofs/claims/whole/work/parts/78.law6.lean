/-! THE LAW'S PUTMANY -/
theorem good_eq {n ck kdi i i' : Nat} {p1 p2 p3 p4 p5 p6 : Int32} {y st k y' st' k' kdi' : Nat} (hc : ck < 2 ^ 31) (h : GoodMany ck kdi p2 p3 p4 p5 p6 y st k) (h' : GoodMany ck kdi' p2 p3 p4 p5 p6 y' st' k') : y' = y ∧ st' = st ∧ k' = k := by
  obtain ⟨⟨a1, a2, -⟩, ⟨a3, a4, a5⟩, -, ⟨a6, a7, a8⟩⟩ := h
  obtain ⟨⟨b1, b2, -⟩, ⟨b3, b4, b5⟩, -, ⟨b6, b7, b8⟩⟩ := h'
  exact ⟨win_eq (by omega) (by omega) a1 b1, win_eq (by omega) (by omega) a3 b3, win_eq (by omega) (by omega) a6 b6⟩
section
variable {x : Nat → Nat} {m : MM} {g : Nat → Nat} {n ck : Nat} {sa kd rt hz : Nat → Nat} {Cs : Nat → Nat → Nat} {al : List AT} {c : Nat} {kc ks : Nat} {xs : Nat → Int32} {LL : Nat} {K : Nat → Nat → Nat → Nat → Int32 → MM → Nat → Nat → Prop} {l5 : Int32}
theorem lc_315 (hB : Bo x m g n ck sa kd rt hz Cs al) (hI : Iv n ck kd rt hz Cs al (c + 1)) (hkc : 200 * (c + 1) ≤ kc) (hks : 600 * (c + 1) + bS n Cs ≤ ks) (hv : ∀ j, 1 ≤ j → j ≤ 6 → vp_in (l5 + nI j) LL) (hK : ∀ m' kc' ks', Lw x m' c kc' ks' → K (x 0) (x 6) (x 14) (x 15) (l5 + 7) m' kc' ks') : wp_L_law_315 xs LL K (x 0) (x 6) (x 14) (x 15) l5 m kc ks := by
  unfold wp_L_law_315
  have v1 : vp_in (l5 + (1 : Int32)) LL := hv 1 (by decide) (by decide)
  have v2 : vp_in (l5 + (2 : Int32)) LL := hv 2 (by decide) (by decide)
  have v3 : vp_in (l5 + (3 : Int32)) LL := hv 3 (by decide) (by decide)
  have v4 : vp_in (l5 + (4 : Int32)) LL := hv 4 (by decide) (by decide)
  have v5 : vp_in (l5 + (5 : Int32)) LL := hv 5 (by decide) (by decide)
  have v6 : vp_in (l5 + (6 : Int32)) LL := hv 6 (by decide) (by decide)
  obtain ⟨hS, hM, hO⟩ := id hB
  have hn := hB.n4
  have hck := hI.2.1
  have hall := hI.2.2.2.2.2.1
  generalize xs (l5 + (1 : Int32)).toNatClampNeg = p1
  generalize xs (l5 + (2 : Int32)).toNatClampNeg = p2
  generalize xs (l5 + (3 : Int32)).toNatClampNeg = p3
  generalize xs (l5 + (4 : Int32)).toNatClampNeg = p4
  generalize xs (l5 + (5 : Int32)).toNatClampNeg = p5
  generalize xs (l5 + (6 : Int32)).toNatClampNeg = p6
  have h100 : ∀ i, i < n → (_root_.Jvm.Pilot.CRollupStoreLaw_law_r5158_f1a2ae.hi kf (hz 0) (sub i al)).length ≤ 100 := fun i hin => hS.h100 i hin
  -- what a run of writes makes
  have hPM : ∀ i y st k d' P' C' s, i < n → k ≤ 20 → PM hz ck (kd i) y st p3 p5 k 0 (sub i al) (Cs i) d' P' C' s → s + bud C' ≤ 24 * k + bud (Cs i) ∧ (∀ j, 1 ≤ j → j ≤ 3 → pw (C' j)) ∧ P'.length ≤ (sub i al).length + k ∧ (∀ b ∈ P', b.1 ≤ ck ∧ okV (kd i) b.2) := fun i y st k d' P' C' s hi hk h => by
    obtain ⟨w1, w2, w3, w4, w5, -⟩ := PM_is hz ck (kd i) y st p3 p5 k 0 _ _ d' P' C' s h (sub_srt hM.srt i) (by have := hI.len i; omega) (hI.2.2.2.2.2.2.2 i hi) (fun b hb => hI.2.2.2.2.2.2.1 (i, b) (mem_sub.mp hb))
    exact ⟨w1, w2, w4, w5⟩
  have hcost : ∃ s0, (∀ i y st k d' P' C' s, i < n → p1 = nI i → GoodMany ck (kd i) p2 p3 p4 p5 p6 y st k → PM hz ck (kd i) y st p3 p5 k 0 (sub i al) (Cs i) d' P' C' s → s = s0) ∧ ((∀ i y st k, i < n → p1 = nI i → ¬ GoodMany ck (kd i) p2 p3 p4 p5 p6 y st k) → s0 = 0) ∧ s0 + 36 ≤ ks := by
    by_cases hex : ∃ i y st k, i < n ∧ p1 = nI i ∧ GoodMany ck (kd i) p2 p3 p4 p5 p6 y st k
    · obtain ⟨i, y, st, k, hi, e, hg⟩ := hex
      obtain ⟨d', P', C', s, hpm⟩ := PM_ex hz ck (kd i) y st p3 p5 k 0 (sub i al) (Cs i)
      have hk := hg.2.2.2.2.2
      refine ⟨s, fun i' y' st' k' d2 P2 C2 s2 hi' e' hg' hpm' => ?_, fun q => absurd hg (q i y st k hi e), ?_⟩
      · rw [same_i hi hi' hn e e'] at hg' hpm'
        obtain ⟨w1, w2, w3⟩ := good_eq (n := n) (i := i) (i' := i) (p1 := p1) (by omega) hg hg'
        rw [w1, w2, w3] at hpm'
        exact (PM_det hz ck (kd i) y st p3 p5 k 0 _ _ _ _ _ _ _ _ _ _ hpm hpm').2.2.2
      · have h1 := (hPM i y st k d' P' C' s hi hk hpm).1
        have h2 := bS_up hi Cs C'
        omega
    · exact ⟨0, fun i y st k _ _ _ _ a1 a2 a3 _ => absurd ⟨i, y, st, k, a1, a2, a3⟩ hex, fun _ => rfl, by omega⟩
  obtain ⟨s0, hs1, hs0, hs2⟩ := hcost
  have KK : s0 = 0 → ∀ m', Bo x m' g n ck sa kd rt hz Cs al → KX K x l5 (kc - 126) (ks - (s0 + 36)) m' := fun z m' h y e => by
    rw [e, z]
    exact hK _ _ _ (h.less hI hkc hks (by decide) (by decide))
  unfold wp_L_putMany
  refine ⟨v1, v2, v3, v4, v5, v6, 126, s0 + 36, by omega, hs2, 126, s0 + 36, Nat.le_refl _, Nat.le_refl _, hS.1.1, sp_X5_putMany hS hI.1 (by omega) hI.hzs (fun i hi => ⟨hB.srt i hi, by have := hI.len i; show (sub i al).length + 20 < 16384; omega⟩) (by decide) (by omega) (fun i y st k d' P' C' s hi e hg hpm => ?_) (fun hb => ⟨fun _ kc1 ks1 e1 e2 => ?_, fun z => absurd z (by decide), fun z => absurd rfl z⟩) (fun i hi e hno => ⟨fun z => absurd z (by decide), fun _ kc1 ks1 e1 e2 => ?_, fun _ z => absurd rfl z⟩) (fun i y st k hi e hg hno => ⟨fun z => absurd z (by decide), fun z => absurd z (by decide), fun _ _ kc1 ks1 e1 e2 => ?_⟩) (fun i y st k d' P' C' s hi e hg hpl hpm m1 g1 S1 T1 F1 kc8 ks9 _ _ => ⟨(hO.st T1 F1).1, by rw [(hO.st T1 F1).2.1]; exact vp_in_nI (n := 0) (by decide) (by decide), fun m6 e6 kc1 ks1 e1 e2 => ?_⟩)⟩
  · have h1 := hs1 i y st k d' P' C' s hi e hg hpm
    have h2 := hg.2.2.2.2.2
    omega
  · rw [e1, e2]
    have z0 := hs0 (fun i y st k hi e => (ex_bad hb hi hn e).elim)
    exact ⟨v1, v2, v3, v4, v5, v6, hM.1.1, md_putMany hM hI.1 (by omega) (hI.hzb1 0 (by decide)) hI.hzs.1 h100 (by omega) (fun _ m' d' t' f' => fin_ro_I (Kx := KX K x l5 (kc - 126) (ks - (s0 + 36))) hS hM hO d' t' f' (fun z => absurd z (by decide)) (KK z0)) (fun i hi e _ => (ex_bad hb hi hn e).elim) (fun i y st k hi e _ _ => (ex_bad hb hi hn e).elim) (fun i y st k hi e _ _ => (ex_bad hb hi hn e).elim)⟩
  · rw [e1, e2]
    have z0 := hs0 (fun i' y st k hi' e' hg => by
      rw [same_i hi hi' hn e e'] at hg
      exact hno y st k hg)
    refine ⟨v1, v2, v3, v4, v5, v6, hM.1.1, md_putMany hM hI.1 (by omega) (hI.hzb1 0 (by decide)) hI.hzs.1 h100 (by omega) (fun q => (ex_bad q hi hn e).elim) (fun _ _ _ _ m' d' t' f' => fin_ro_I (Kx := KX K x l5 (kc - 126) (ks - (s0 + 36))) hS hM hO d' t' f' (fun z => absurd z (by decide)) (KK z0)) (fun i' y st k hi' e' hg _ m' d' t' f' => ?_) (fun i' y st k hi' e' hg _ => ?_)⟩
    · rw [same_i hi hi' hn e e'] at hg
      exact absurd hg (hno y st k)
    · rw [same_i hi hi' hn e e'] at hg
      exact absurd hg (hno y st k)
  · rw [e1, e2]
    have hno : ¬ (ck ≤ y + 3600 ∧ ((_root_.Jvm.Pilot.CRollupStoreLaw_law_r5158_f1a2ae.hi kf (hz 0) (sub i al)).length < 100 ∨ ∃ b ∈ _root_.Jvm.Pilot.CRollupStoreLaw_law_r5158_f1a2ae.hi kf (hz 0) (sub i al), b.1 = y)) := hno
    -- nothing was written
    have z0 : s0 = 0 := by
      obtain ⟨d', P', C', s, hpm⟩ := PM_ex hz ck (kd i) y st p3 p5 k 0 (sub i al) (Cs i)
      have h1 := hs1 i y st k d' P' C' s hi e hg hpm
      have hk1 := hg.2.2.2.2.1
      obtain ⟨k2, rfl⟩ : ∃ k2, k = k2 + 1 := ⟨k - 1, by omega⟩
      rcases hpm with ⟨q, -⟩ | ⟨-, -, -, -, q⟩
      · have q2 := q.2
        rw [Nat.zero_mul, Nat.add_zero] at q2
        exact absurd q2 hno
      · rw [← h1, q]
    refine ⟨v1, v2, v3, v4, v5, v6, hM.1.1, md_putMany hM hI.1 (by omega) (hI.hzb1 0 (by decide)) hI.hzs.1 h100 (by omega) (fun q => (ex_bad q hi hn e).elim) (fun i' hi' e' q m' d' t' f' => ?_) (fun _ _ _ _ _ _ _ _ m' d' t' f' => fin_ro_I (Kx := KX K x l5 (kc - 126) (ks - (s0 + 36))) hS hM hO d' t' f' (fun z => absurd z (by decide)) (KK z0)) (fun i' y' st' k' hi' e' hg' hpl => ?_)⟩
    · rw [same_i hi hi' hn e e'] at q
      exact absurd hg (q y st k)
    · rw [same_i hi hi' hn e e'] at hg' hpl
      obtain ⟨w1, w2, w3⟩ := good_eq (n := n) (i := i) (i' := i) (p1 := p1) (by omega) hg hg'
      rw [w1] at hpl
      exact absurd hpl hno
  · rw [e1, e2]
    have hpl : ck ≤ y + 3600 ∧ ((_root_.Jvm.Pilot.CRollupStoreLaw_law_r5158_f1a2ae.hi kf (hz 0) (sub i al)).length < 100 ∨ ∃ b ∈ _root_.Jvm.Pilot.CRollupStoreLaw_law_r5158_f1a2ae.hi kf (hz 0) (sub i al), b.1 = y) := hpl
    have hpm : PM hz ck (kd i) y st p3 p5 k 0 (sub i al) (Cs i) d' P' C' s := hpm
    have d1 := hM.st T1 (fr_16 F1)
    have o1 := hO.st T1 F1
    have es := hs1 i y st k d' P' C' s hi e hg hpm
    have hk := hg.2.2.2.2.2
    obtain ⟨s6, d6, o6, w6⟩ := out3 S1 d1 o1 e6
    refine ⟨v1, v2, v3, v4, v5, v6, d6.1.1, md_putMany d6 hI.1 (by omega) (hI.hzb1 0 (by decide)) hI.hzs.1 h100 (by omega) (fun q => (ex_bad q hi hn e).elim) (fun i' hi' e' q m' d' t' f' => ?_) (fun i' y' st' k' hi' e' hg' q m' d' t' f' => ?_) (fun i' y' st' k' hi' e' hg' _ => ?_)⟩
    · rw [same_i hi hi' hn e e'] at q
      exact absurd hg (q y st k)
    · rw [same_i hi hi' hn e e'] at hg' q
      obtain ⟨w1, w2, w3⟩ := good_eq (n := n) (i := i) (i' := i) (p1 := p1) (by omega) hg hg'
      rw [w1] at q
      exact absurd hpl q
    · rw [same_i hi hi' hn e e'] at hg' ⊢
      obtain ⟨w1, w2, w3⟩ := good_eq (n := n) (i := i) (i' := i) (p1 := p1) (by omega) hg hg'
      rw [w1, w2, w3]
      refine ⟨Cs i, d', P', C', s, hpm, fun m' al' dm es1 es2 t' f' => ?_⟩
      obtain ⟨q1, q2, q3, -⟩ := mod3 s6 d6 o6 f'
      refine fin_I (Kx := KX K x l5 (kc - 126) (ks - (s0 + 36))) dm.1.1 q2 t' (fun _ => ?_) (fun z ez => ?_)
      · rw [q3, w6]
      · rw [ez]
        have S2 : St x m' g1 n ck sa kd rt hz (pl al') (va_up Cs i C') := q1.plc fun j hj => by
          by_cases q : j = i
          · rw [q, va_up_self]
            exact es1
          · rw [va_up_ne _ _ q]
            exact es2 j q
        obtain ⟨z1, z2, z3, z4⟩ := hPM i y st k d' P' C' s hi hk hpm
        have hlen := al_len_up hi (fun a ha => (hM.small a ha).1) (fun a ha => (dm.small a ha).1) es2
        rw [es1] at hlen
        rw [es] at z1
        refine hK _ _ _ (Lw.wr (E := 24 * k) hI hkc hks hi ⟨S2, dm, q2⟩ z1 z2 (by omega) (fun a ha => ?_) (by decide) (by omega))
        by_cases q : a.1 = i
        · have hm2 : a.2 ∈ sub i al' := mem_sub.mpr (by rw [← q]; exact ha)
          rw [es1] at hm2
          rw [q]
          exact z4 a.2 hm2
        · have hm2 : a.2 ∈ sub a.1 al' := mem_sub.mpr ha
          rw [es2 a.1 q] at hm2
          exact hI.2.2.2.2.2.2.1 a (mem_sub.mp hm2)
end
