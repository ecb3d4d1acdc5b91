/-! THE LAW'S OTHER CALLS THAT ONLY ASK (made by wip/whole/gen_calls2.py) -/
theorem win_eq {p : Int32} {f f' : Nat} (h1 : f < 2 ^ 31) (h2 : f' < 2 ^ 31) (e : p = nI f) (e' : p = nI f') : f' = f := ((nI_eq h1 h2).mp (e.symm.trans e')).symm
theorem tier_eq {p : Int32} {f f' : Nat} (h1 : f ≤ 3) (h2 : f' ≤ 3) (e : p = nI f) (e' : p = nI f') : f' = f := win_eq (by omega) (by omega) e e'
section
variable {x : Nat → Nat} {m : MM} {g : Nat → Nat} {n ck : Nat} {sa kd rt hz : Nat → Nat} {Cs : Nat → Nat → Nat} {al : List AT} {c : Nat} {xs : Nat → Int32} {LL : Nat} {K : Nat → Nat → Nat → Nat → Int32 → MM → Nat → Nat → Prop} {l5 : Int32} {kc ks : Nat}
theorem lc_625 (hB : Bo x m g n ck sa kd rt hz Cs al) (hI : Iv n ck kd rt hz Cs al (c + 1)) (hkc : 200 * (c + 1) ≤ kc) (hks : 600 * (c + 1) + bS n Cs ≤ ks) (hv : ∀ j, 1 ≤ j → j ≤ 6 → vp_in (l5 + nI j) LL) (hK : ∀ m' kc' ks', Lw x m' c kc' ks' → K (x 0) (x 6) (x 14) (x 15) (l5 + 7) m' kc' ks') : wp_L_law_625 xs LL K (x 0) (x 6) (x 14) (x 15) l5 m kc ks := by
  unfold wp_L_law_625
  obtain ⟨hS, hM, hO⟩ := id hB
  refine ⟨hS.1.1, sp_X5_clock hS ⟨hM.1.1, md_clock hM fun m' d' f' => ⟨fun _ y e => ?_, fun z => z rfl⟩⟩⟩
  obtain ⟨q1, q2, -, -⟩ := mod3 hS hM hO f'
  rw [e]
  exact hK m' kc ks ⟨g, n, ck, sa, kd, rt, hz, Cs, al, ⟨q1, d', q2⟩, hI.less, by omega, by omega⟩
theorem lc_638 (hB : Bo x m g n ck sa kd rt hz Cs al) (hI : Iv n ck kd rt hz Cs al (c + 1)) (hkc : 200 * (c + 1) ≤ kc) (hks : 600 * (c + 1) + bS n Cs ≤ ks) (hv : ∀ j, 1 ≤ j → j ≤ 6 → vp_in (l5 + nI j) LL) (hK : ∀ m' kc' ks', Lw x m' c kc' ks' → K (x 0) (x 6) (x 14) (x 15) (l5 + 7) m' kc' ks') : wp_L_law_638 xs LL K (x 0) (x 6) (x 14) (x 15) l5 m kc ks := by
  unfold wp_L_law_638
  obtain ⟨hS, hM, hO⟩ := id hB
  refine ⟨hS.1.1, sp_X5_series hS ⟨hM.1.1, md_series hM fun m' d' f' => ⟨fun _ y e => ?_, fun z => z rfl⟩⟩⟩
  obtain ⟨q1, q2, -, -⟩ := mod3 hS hM hO f'
  rw [e]
  exact hK m' kc ks ⟨g, n, ck, sa, kd, rt, hz, Cs, al, ⟨q1, d', q2⟩, hI.less, by omega, by omega⟩
theorem lc_651 (hB : Bo x m g n ck sa kd rt hz Cs al) (hI : Iv n ck kd rt hz Cs al (c + 1)) (hkc : 200 * (c + 1) ≤ kc) (hks : 600 * (c + 1) + bS n Cs ≤ ks) (hv : ∀ j, 1 ≤ j → j ≤ 6 → vp_in (l5 + nI j) LL) (hK : ∀ m' kc' ks', Lw x m' c kc' ks' → K (x 0) (x 6) (x 14) (x 15) (l5 + 7) m' kc' ks') : wp_L_law_651 xs LL K (x 0) (x 6) (x 14) (x 15) l5 m kc ks := by
  unfold wp_L_law_651 wp_L_horizon
  have v1 : vp_in (l5 + (1 : Int32)) LL := hv 1 (by decide) (by decide)
  obtain ⟨hS, hM, hO⟩ := id hB
  have hn := hB.n4
  have hz9 := hI.hzb1
  have hv0 : vp_in (0 : Int32) (mN m (x 14)) := by rw [hO.2.1]; exact vp_in_nI (n := 0) (by decide) (by decide)
  have hv5 : vp_in (0 : Int32) (mN m (x 15)) := by rw [hO.2.2.2.2.1]; exact vp_in_nI (n := 0) (by decide) (by decide)
  have KK : ∀ m', Bo x m' g n ck sa kd rt hz Cs al → KX K x l5 (kc - 1) (ks - 6) m' := fun m' h y e => by rw [e]; exact hK _ _ _ (h.less hI hkc hks (by decide) (by decide))
  refine ⟨v1, by omega, by omega, hS.1.1, sp_X5_horizon hS (fun i e hi => ⟨hO.1, hv0, fun m6 e6 kc1 ks1 e1 e2 => ?_⟩) (fun hno => ⟨fun z => absurd z (by decide), fun _ kc1 ks1 e1 e2 => ?_, fun _ z => absurd rfl z⟩)⟩
  · rw [e1, e2]
    obtain ⟨s6, d6, o6, w6⟩ := out3 hS hM hO e6
    refine ⟨v1, d6.1.1, md_horizon d6 (fun q => ?_) (fun i' e' hi' m' d' t' f' => ?_)⟩
    · have := q i e
      omega
    · rw [tier_eq hi hi' e e']
      exact fin_ro_I (Kx := KX K x l5 (kc - 1) (ks - 6)) s6 d6 o6 d' t' f' (fun _ => w6) KK
  · rw [e1, e2]
    refine ⟨v1, hM.1.1, md_horizon hM (fun _ m' d' t' f' => fin_ro_I (Kx := KX K x l5 (kc - 1) (ks - 6)) hS hM hO d' t' f' (fun z => absurd z (by decide)) KK) (fun i' e' hi' m' d' t' f' => ?_)⟩
    have := hno i' e'
    omega
theorem lc_707 (hB : Bo x m g n ck sa kd rt hz Cs al) (hI : Iv n ck kd rt hz Cs al (c + 1)) (hkc : 200 * (c + 1) ≤ kc) (hks : 600 * (c + 1) + bS n Cs ≤ ks) (hv : ∀ j, 1 ≤ j → j ≤ 6 → vp_in (l5 + nI j) LL) (hK : ∀ m' kc' ks', Lw x m' c kc' ks' → K (x 0) (x 6) (x 14) (x 15) (l5 + 7) m' kc' ks') : wp_L_law_707 xs LL K (x 0) (x 6) (x 14) (x 15) l5 m kc ks := by
  unfold wp_L_law_707 wp_L_rows
  have v1 : vp_in (l5 + (1 : Int32)) LL := hv 1 (by decide) (by decide)
  have v2 : vp_in (l5 + (2 : Int32)) LL := hv 2 (by decide) (by decide)
  obtain ⟨hS, hM, hO⟩ := id hB
  have hn := hB.n4
  have hz9 := hI.hzb1
  have hv0 : vp_in (0 : Int32) (mN m (x 14)) := by rw [hO.2.1]; exact vp_in_nI (n := 0) (by decide) (by decide)
  have hv5 : vp_in (0 : Int32) (mN m (x 15)) := by rw [hO.2.2.2.2.1]; exact vp_in_nI (n := 0) (by decide) (by decide)
  have KK : ∀ m', Bo x m' g n ck sa kd rt hz Cs al → KX K x l5 (kc - 2) (ks - 12) m' := fun m' h y e => by rw [e]; exact hK _ _ _ (h.less hI hkc hks (by decide) (by decide))
  refine ⟨v1, v2, by omega, by omega, hS.1.1, sp_X5_rows hS (fun hb => ⟨fun _ kc1 ks1 e1 e2 => ?_, fun z => absurd z (by decide), fun z => absurd rfl z⟩) (fun i hi e hno => ⟨fun z => absurd z (by decide), fun _ kc1 ks1 e1 e2 => ?_, fun _ z => absurd rfl z⟩) (fun i j hi e ej hj => ⟨hO.1, hv0, fun m6 e6 kc1 ks1 e1 e2 => ?_⟩)⟩
  · rw [e1, e2]
    exact ⟨v1, v2, hM.1.1, md_rows hM hz9 (fun _ m' d' t' f' => fin_ro_I (Kx := KX K x l5 (kc - 2) (ks - 12)) hS hM hO d' t' f' (fun z => absurd z (by decide)) KK) (fun i hi e _ => (ex_bad hb hi hn e).elim) (fun i j hi e _ _ => (ex_bad hb hi hn e).elim)⟩
  · rw [e1, e2]
    refine ⟨v1, v2, hM.1.1, md_rows hM hz9 (fun q => (ex_bad q hi hn e).elim) (fun _ _ _ _ m' d' t' f' => fin_ro_I (Kx := KX K x l5 (kc - 2) (ks - 12)) hS hM hO d' t' f' (fun z => absurd z (by decide)) KK) (fun i' j hi' e' ej hj m' d' t' f' => ?_)⟩
    have := hno j ej
    omega
  · rw [e1, e2]
    obtain ⟨s6, d6, o6, w6⟩ := out3 hS hM hO e6
    refine ⟨v1, v2, d6.1.1, md_rows d6 hz9 (fun q => (ex_bad q hi hn e).elim) (fun i' hi' e' q m' d' t' f' => ?_) (fun i' j' hi' e' ej' hj' m' d' t' f' => ?_)⟩
    · have := q j ej
      omega
    · rw [same_i hi hi' hn e e', tier_eq hj hj' ej ej']
      exact fin_ro_I (Kx := KX K x l5 (kc - 2) (ks - 12)) s6 d6 o6 d' t' f' (fun _ => w6) KK
theorem lc_775 (hB : Bo x m g n ck sa kd rt hz Cs al) (hI : Iv n ck kd rt hz Cs al (c + 1)) (hkc : 200 * (c + 1) ≤ kc) (hks : 600 * (c + 1) + bS n Cs ≤ ks) (hv : ∀ j, 1 ≤ j → j ≤ 6 → vp_in (l5 + nI j) LL) (hK : ∀ m' kc' ks', Lw x m' c kc' ks' → K (x 0) (x 6) (x 14) (x 15) (l5 + 7) m' kc' ks') : wp_L_law_775 xs LL K (x 0) (x 6) (x 14) (x 15) l5 m kc ks := by
  unfold wp_L_law_775 wp_L_timeOf
  have v1 : vp_in (l5 + (1 : Int32)) LL := hv 1 (by decide) (by decide)
  have v2 : vp_in (l5 + (2 : Int32)) LL := hv 2 (by decide) (by decide)
  have v3 : vp_in (l5 + (3 : Int32)) LL := hv 3 (by decide) (by decide)
  obtain ⟨hS, hM, hO⟩ := id hB
  have hn := hB.n4
  have hz9 := hI.hzb1
  have hv0 : vp_in (0 : Int32) (mN m (x 14)) := by rw [hO.2.1]; exact vp_in_nI (n := 0) (by decide) (by decide)
  have hv5 : vp_in (0 : Int32) (mN m (x 15)) := by rw [hO.2.2.2.2.1]; exact vp_in_nI (n := 0) (by decide) (by decide)
  have KK : ∀ m', Bo x m' g n ck sa kd rt hz Cs al → KX K x l5 (kc - 3) (ks - 18) m' := fun m' h y e => by rw [e]; exact hK _ _ _ (h.less hI hkc hks (by decide) (by decide))
  refine ⟨v1, v2, v3, by omega, by omega, hS.1.1, sp_X5_timeOf hS (fun hb => ⟨fun _ kc1 ks1 e1 e2 => ?_, fun z => absurd z (by decide), fun z => absurd rfl z⟩) (fun i hi e hno => ⟨fun z => absurd z (by decide), fun _ kc1 ks1 e1 e2 => ?_, fun _ z => absurd rfl z⟩) (fun i j hi e ej hj hno => ⟨fun z => absurd z (by decide), fun z => absurd z (by decide), fun _ _ kc1 ks1 e1 e2 => ?_⟩) (fun i j k y hi e ej hj ek hk hy => ⟨hO.1, hv0, fun m6 e6 kc1 ks1 e1 e2 => ?_⟩)⟩
  · rw [e1, e2]
    exact ⟨v1, v2, v3, hM.1.1, md_timeOf hM hz9 (fun _ m' d' t' f' => fin_ro_I (Kx := KX K x l5 (kc - 3) (ks - 18)) hS hM hO d' t' f' (fun z => absurd z (by decide)) KK) (fun i hi e _ => (ex_bad hb hi hn e).elim) (fun i j hi e _ _ _ => (ex_bad hb hi hn e).elim) (fun i j k y hi e _ _ _ _ _ => (ex_bad hb hi hn e).elim)⟩
  · rw [e1, e2]
    refine ⟨v1, v2, v3, hM.1.1, md_timeOf hM hz9 (fun q => (ex_bad q hi hn e).elim) (fun _ _ _ _ m' d' t' f' => fin_ro_I (Kx := KX K x l5 (kc - 3) (ks - 18)) hS hM hO d' t' f' (fun z => absurd z (by decide)) KK) (fun i' j hi' e' ej hj _ m' d' t' f' => ?_) (fun i' j k y hi' e' ej hj ek hk hy m' d' t' f' => ?_)⟩
    · have := hno j ej
      omega
    · have := hno j ej
      omega
  · rw [e1, e2]
    refine ⟨v1, v2, v3, hM.1.1, md_timeOf hM hz9 (fun q => (ex_bad q hi hn e).elim) (fun i' hi' e' q m' d' t' f' => ?_) (fun _ _ _ _ _ _ _ m' d' t' f' => fin_ro_I (Kx := KX K x l5 (kc - 3) (ks - 18)) hS hM hO d' t' f' (fun z => absurd z (by decide)) KK) (fun i' j' k y hi' e' ej' hj' ek hk hy m' d' t' f' => ?_)⟩
    · have := q j ej
      omega
    · rw [same_i hi hi' hn e e', tier_eq hj hj' ej ej'] at hy
      have h1 := hno k ek hk
      have h2 := (List.getElem?_eq_some_iff.mp hy).1
      rw [rowT_len] at h2
      have h1 : rws hz (sub i al) j ≤ k := h1
      omega
  · rw [e1, e2]
    obtain ⟨s6, d6, o6, w6⟩ := out3 hS hM hO e6
    have hy : (rowT hz (sub i al) j)[k]? = some y := hy
    refine ⟨v1, v2, v3, d6.1.1, md_timeOf d6 hz9 (fun q => (ex_bad q hi hn e).elim) (fun i' hi' e' q m' d' t' f' => ?_) (fun i' j' hi' e' ej' hj' q m' d' t' f' => ?_) (fun i' j' k' y' hi' e' ej' hj' ek' hk' hy' m' d' t' f' => ?_)⟩
    · have := q j ej
      omega
    · rw [same_i hi hi' hn e e', tier_eq hj hj' ej ej'] at q
      have h1 := q k ek hk
      have h2 := (List.getElem?_eq_some_iff.mp hy).1
      rw [rowT_len] at h2
      omega
    · rw [same_i hi hi' hn e e', tier_eq hj hj' ej ej', win_eq hk hk' ek ek', hy] at hy'
      rw [← Option.some.inj hy']
      exact fin_ro_I (Kx := KX K x l5 (kc - 3) (ks - 18)) s6 d6 o6 d' t' f' (fun _ => w6) KK
theorem lc_855 (hB : Bo x m g n ck sa kd rt hz Cs al) (hI : Iv n ck kd rt hz Cs al (c + 1)) (hkc : 200 * (c + 1) ≤ kc) (hks : 600 * (c + 1) + bS n Cs ≤ ks) (hv : ∀ j, 1 ≤ j → j ≤ 6 → vp_in (l5 + nI j) LL) (hK : ∀ m' kc' ks', Lw x m' c kc' ks' → K (x 0) (x 6) (x 14) (x 15) (l5 + 7) m' kc' ks') : wp_L_law_855 xs LL K (x 0) (x 6) (x 14) (x 15) l5 m kc ks := by
  unfold wp_L_law_855 wp_L_valueAt
  have v1 : vp_in (l5 + (1 : Int32)) LL := hv 1 (by decide) (by decide)
  have v2 : vp_in (l5 + (2 : Int32)) LL := hv 2 (by decide) (by decide)
  obtain ⟨hS, hM, hO⟩ := id hB
  have hn := hB.n4
  have hz9 := hI.hzb1
  have hv0 : vp_in (0 : Int32) (mN m (x 14)) := by rw [hO.2.1]; exact vp_in_nI (n := 0) (by decide) (by decide)
  have hv5 : vp_in (0 : Int32) (mN m (x 15)) := by rw [hO.2.2.2.2.1]; exact vp_in_nI (n := 0) (by decide) (by decide)
  have KK : ∀ m', Bo x m' g n ck sa kd rt hz Cs al → KX K x l5 (kc - 2) (ks - 12) m' := fun m' h y e => by rw [e]; exact hK _ _ _ (h.less hI hkc hks (by decide) (by decide))
  refine ⟨v1, v2, by omega, by omega, hS.1.1, sp_X5_valueAt hS (fun hb => ⟨fun _ kc1 ks1 e1 e2 => ?_, fun z => absurd z (by decide), fun z => absurd rfl z⟩) (fun i hi e hno => ⟨fun z => absurd z (by decide), fun z => absurd z (by decide), fun _ _ kc1 ks1 e1 e2 => ?_⟩) (fun i b hi e hb eb => ⟨hO.1, hv0, fun m6 e6 kc1 ks1 e1 e2 => ?_⟩)⟩
  · rw [e1, e2]
    exact ⟨v1, v2, hM.1.1, md_valueAt hM (hz9 0 (by decide)) (fun _ m' d' t' f' => fin_ro_I (Kx := KX K x l5 (kc - 2) (ks - 12)) hS hM hO d' t' f' (fun z => absurd z (by decide)) KK) (fun i hi e _ => (ex_bad hb hi hn e).elim) (fun i b hi e _ _ => (ex_bad hb hi hn e).elim)⟩
  · rw [e1, e2]
    refine ⟨v1, v2, hM.1.1, md_valueAt hM (hz9 0 (by decide)) (fun q => (ex_bad q hi hn e).elim) (fun _ _ _ _ m' d' t' f' => fin_ro_I (Kx := KX K x l5 (kc - 2) (ks - 12)) hS hM hO d' t' f' (fun z => absurd z (by decide)) KK) (fun i' b hi' e' hb eb m' d' t' f' => ?_)⟩
    rw [same_i hi hi' hn e e'] at hb
    exact absurd eb.symm (hno b hb)
  · rw [e1, e2]
    obtain ⟨s6, d6, o6, w6⟩ := out3 hS hM hO e6
    have hb : b ∈ _root_.Jvm.Pilot.CRollupStoreLaw_law_r5158_f1a2ae.hi kf (hz 0) (sub i al) := hb
    refine ⟨v1, v2, d6.1.1, md_valueAt d6 (hz9 0 (by decide)) (fun q => (ex_bad q hi hn e).elim) (fun i' hi' e' q m' d' t' f' => ?_) (fun i' b' hi' e' hb' eb' m' d' t' f' => ?_)⟩
    · rw [same_i hi hi' hn e e'] at q
      exact absurd eb.symm (q b hb)
    · rw [same_i hi hi' hn e e'] at hb'
      have s1 : b.1 < 2147483648 := (hM.small _ (mem_sub.mp (mem_hi.mp hb).1)).2
      have s2 : b'.1 < 2147483648 := (hM.small _ (mem_sub.mp (mem_hi.mp hb').1)).2
      have e3 := win_eq (by omega) (by omega) eb eb'
      have e4 : b' = b := Srt.one (f := kf) ((sub_srt hM.srt i).filter _) hb' hb e3
      rw [e4]
      exact fin_ro_I (Kx := KX K x l5 (kc - 2) (ks - 12)) s6 d6 o6 d' t' f' (fun _ => w6) KK
end
