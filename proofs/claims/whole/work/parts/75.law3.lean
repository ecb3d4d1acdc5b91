/-! THE LAW'S CALLS ABOUT WINDOWS (made by wip/whole/gen_calls3.py) -/
section
variable {x : Nat → Nat} {m : MM} {g : Nat → Nat} {n ck : Nat} {sa kd rt hz : Nat → Nat} {Cs : Nat → Nat → Nat} {al : List AT} {c : Nat} {xs : Nat → Int32} {LL : Nat} {K : Nat → Nat → Nat → Nat → Int32 → MM → Nat → Nat → Prop} {l5 : Int32} {kc ks : Nat}
theorem lc_1682 (hB : Bo x m g n ck sa kd rt hz Cs al) (hI : Iv n ck kd rt hz Cs al (c + 1)) (hkc : 200 * (c + 1) ≤ kc) (hks : 600 * (c + 1) + bS n Cs ≤ ks) (hv : ∀ j, 1 ≤ j → j ≤ 6 → vp_in (l5 + nI j) LL) (hK : ∀ m' kc' ks', Lw x m' c kc' ks' → K (x 0) (x 6) (x 14) (x 15) (l5 + 7) m' kc' ks') : wp_L_law_1682 xs LL K (x 0) (x 6) (x 14) (x 15) l5 m kc ks := by
  unfold wp_L_law_1682 wp_L_parts
  have v1 : vp_in (l5 + (1 : Int32)) LL := hv 1 (by decide) (by decide)
  have v2 : vp_in (l5 + (2 : Int32)) LL := hv 2 (by decide) (by decide)
  obtain ⟨hS, hM, hO⟩ := id hB
  have hn := hB.n4
  have hz9 := hI.hzb1
  have hv0 : vp_in (0 : Int32) (mN m (x 14)) := by rw [hO.2.1]; exact vp_in_nI (n := 0) (by decide) (by decide)
  have hv5 : vp_in (0 : Int32) (mN m (x 15)) := by rw [hO.2.2.2.2.1]; exact vp_in_nI (n := 0) (by decide) (by decide)
  have KK : ∀ m', Bo x m' g n ck sa kd rt hz Cs al → KX K x l5 (kc - 1) (ks - 6) m' := fun m' h y e => by rw [e]; exact hK _ _ _ (h.less hI hkc hks (by decide) (by decide))
  refine ⟨v1, v2, by omega, by omega, hS.1.1, sp_X5_parts hS (fun hw => ⟨fun z => absurd z (by decide), fun _ kc1 ks1 e1 e2 => ?_, fun _ z => absurd rfl z⟩) (fun f t ef et b1 b2 b3 b4 b5 m1 s1 F1 => ⟨(hO.fr F1).1, by rw [(hO.fr F1).2.1]; exact vp_in_nI (n := 0) (by decide) (by decide), fun m6 e6 kc1 ks1 e1 e2 => ?_⟩)⟩
  · rw [e1, e2]
    exact ⟨v1, v2, hM.1.1, md_parts hM (fun _ m' d' t' f' => fin_ro_I (Kx := KX K x l5 (kc - 1) (ks - 6)) hS hM hO d' t' f' (fun z => absurd z (by decide)) KK) (fun f t ef et b1 b2 b3 b4 b5 => (hw ⟨f, t, ef, et, b1, b2, b3, b4, b5⟩).elim)⟩
  · rw [e1, e2]
    have s1 : St x m1 g n ck sa kd rt hz (pl al) Cs := s1
    have d1 : Md x m1 g n ck kd rt hz al := hM.st (fun _ _ => rfl) (fr_scr hS F1)
    have o1 := hO.fr F1
    obtain ⟨s6, d6, o6, w6⟩ := out3 s1 d1 o1 e6
    refine ⟨v1, v2, d6.1.1, md_parts d6 (fun hw => (hw ⟨f, t, ef, et, b1, b2, b3, b4, b5⟩).elim) (fun f1 t1 ef1 et1 c1 c2 c3 c4 c5 m' d' t' f' => ?_)⟩
    rw [win_eq b1 c1 ef ef1, win_eq b2 c2 et et1]
    exact fin_ro_I (Kx := KX K x l5 (kc - 1) (ks - 6)) s6 d6 o6 d' t' f' (fun _ => w6) KK
theorem lc_1750 (hB : Bo x m g n ck sa kd rt hz Cs al) (hI : Iv n ck kd rt hz Cs al (c + 1)) (hkc : 200 * (c + 1) ≤ kc) (hks : 600 * (c + 1) + bS n Cs ≤ ks) (hv : ∀ j, 1 ≤ j → j ≤ 6 → vp_in (l5 + nI j) LL) (hK : ∀ m' kc' ks', Lw x m' c kc' ks' → K (x 0) (x 6) (x 14) (x 15) (l5 + 7) m' kc' ks') : wp_L_law_1750 xs LL K (x 0) (x 6) (x 14) (x 15) l5 m kc ks := by
  unfold wp_L_law_1750 wp_L_isKnown
  have v1 : vp_in (l5 + (1 : Int32)) LL := hv 1 (by decide) (by decide)
  have v2 : vp_in (l5 + (2 : Int32)) LL := hv 2 (by decide) (by decide)
  obtain ⟨hS, hM, hO⟩ := id hB
  have hn := hB.n4
  have hz9 := hI.hzb1
  have hv0 : vp_in (0 : Int32) (mN m (x 14)) := by rw [hO.2.1]; exact vp_in_nI (n := 0) (by decide) (by decide)
  have hv5 : vp_in (0 : Int32) (mN m (x 15)) := by rw [hO.2.2.2.2.1]; exact vp_in_nI (n := 0) (by decide) (by decide)
  have KK : ∀ m', Bo x m' g n ck sa kd rt hz Cs al → KX K x l5 (kc - 1) (ks - 6) m' := fun m' h y e => by rw [e]; exact hK _ _ _ (h.less hI hkc hks (by decide) (by decide))
  refine ⟨v1, v2, by omega, by omega, hS.1.1, sp_X5_isKnown hS hz9 (fun hw => ⟨fun z => absurd z (by decide), fun _ kc1 ks1 e1 e2 => ?_, fun _ z => absurd rfl z⟩) (fun f t ef et b1 b2 b3 b4 b5 m1 s1 F1 => ⟨fun kn => ⟨fun z => absurd z (by decide), fun _ => ⟨(hO.fr F1).1, by rw [(hO.fr F1).2.1]; exact vp_in_nI (n := 0) (by decide) (by decide), fun m6 e6 kc1 ks1 e1 e2 => ?_⟩⟩, fun kn => ⟨fun _ => ⟨(hO.fr F1).1, by rw [(hO.fr F1).2.1]; exact vp_in_nI (n := 0) (by decide) (by decide), fun m6 e6 kc1 ks1 e1 e2 => ?_⟩, fun z => absurd rfl z⟩⟩)⟩
  · rw [e1, e2]
    exact ⟨v1, v2, hM.1.1, md_isKnown hM hz9 (fun _ m' d' t' f' => fin_ro_B (Kx := KX K x l5 (kc - 1) (ks - 6)) hS hM hO d' t' f' (fun z => absurd z (by decide)) KK) (fun f t ef et b1 b2 b3 b4 b5 => (hw ⟨f, t, ef, et, b1, b2, b3, b4, b5⟩).elim)⟩
  · rw [e1, e2]
    have s1 : St x m1 g n ck sa kd rt hz (pl al) Cs := s1
    have d1 : Md x m1 g n ck kd rt hz al := hM.st (fun _ _ => rfl) (fr_scr hS F1)
    have o1 := hO.fr F1
    obtain ⟨s6, d6, o6, w6⟩ := out3 s1 d1 o1 e6
    refine ⟨v1, v2, d6.1.1, md_isKnown d6 hz9 (fun hw => (hw ⟨f, t, ef, et, b1, b2, b3, b4, b5⟩).elim) (fun f1 t1 ef1 et1 c1 c2 c3 c4 c5 m' d' t' f' => ?_)⟩
    rw [win_eq b1 c1 ef ef1, win_eq b2 c2 et et1]
    exact ⟨fun _ => fin_ro_B (Kx := KX K x l5 (kc - 1) (ks - 6)) s6 d6 o6 d' t' f' (fun _ => Or.inr ⟨by decide, w6⟩) KK, fun z => absurd kn z⟩
  · rw [e1, e2]
    have s1 : St x m1 g n ck sa kd rt hz (pl al) Cs := s1
    have d1 : Md x m1 g n ck kd rt hz al := hM.st (fun _ _ => rfl) (fr_scr hS F1)
    have o1 := hO.fr F1
    obtain ⟨s6, d6, o6, w6⟩ := out3 s1 d1 o1 e6
    refine ⟨v1, v2, d6.1.1, md_isKnown d6 hz9 (fun hw => (hw ⟨f, t, ef, et, b1, b2, b3, b4, b5⟩).elim) (fun f1 t1 ef1 et1 c1 c2 c3 c4 c5 m' d' t' f' => ?_)⟩
    rw [win_eq b1 c1 ef ef1, win_eq b2 c2 et et1]
    exact ⟨fun z => absurd z kn, fun _ => fin_ro_B (Kx := KX K x l5 (kc - 1) (ks - 6)) s6 d6 o6 d' t' f' (fun _ => Or.inl ⟨rfl, w6⟩) KK⟩
theorem lc_1825 (hB : Bo x m g n ck sa kd rt hz Cs al) (hI : Iv n ck kd rt hz Cs al (c + 1)) (hkc : 200 * (c + 1) ≤ kc) (hks : 600 * (c + 1) + bS n Cs ≤ ks) (hv : ∀ j, 1 ≤ j → j ≤ 6 → vp_in (l5 + nI j) LL) (hK : ∀ m' kc' ks', Lw x m' c kc' ks' → K (x 0) (x 6) (x 14) (x 15) (l5 + 7) m' kc' ks') : wp_L_law_1825 xs LL K (x 0) (x 6) (x 14) (x 15) l5 m kc ks := by
  unfold wp_L_law_1825 wp_L_total
  have v1 : vp_in (l5 + (1 : Int32)) LL := hv 1 (by decide) (by decide)
  have v2 : vp_in (l5 + (2 : Int32)) LL := hv 2 (by decide) (by decide)
  have v3 : vp_in (l5 + (3 : Int32)) LL := hv 3 (by decide) (by decide)
  obtain ⟨hS, hM, hO⟩ := id hB
  have hn := hB.n4
  have hz9 := hI.hzb1
  have hv0 : vp_in (0 : Int32) (mN m (x 14)) := by rw [hO.2.1]; exact vp_in_nI (n := 0) (by decide) (by decide)
  have hv5 : vp_in (0 : Int32) (mN m (x 15)) := by rw [hO.2.2.2.2.1]; exact vp_in_nI (n := 0) (by decide) (by decide)
  have KK : ∀ m', Bo x m' g n ck sa kd rt hz Cs al → KX K x l5 (kc - 3) (ks - 18) m' := fun m' h y e => by rw [e]; exact hK _ _ _ (h.less hI hkc hks (by decide) (by decide))
  have hP2 : ∀ i, i < n → Srt kf (pl al i) ∧ (pl al i).length < 2 ^ 26 := fun i hi => ⟨hB.srt i hi, by have := hI.len i; show (sub i al).length < 2 ^ 26; omega⟩
  refine ⟨v1, v2, v3, by omega, by omega, hS.1.1, sp_X5_total hS hz9 hP2 (fun hb => ⟨fun _ kc1 ks1 e1 e2 => ?_, fun z => absurd z (by decide), fun z => absurd rfl z⟩) (fun i hi e hw => ⟨fun z => absurd z (by decide), fun _ kc1 ks1 e1 e2 => ?_, fun _ z => absurd rfl z⟩) (fun i f t hi e ef et b1 b2 b3 b4 b5 nk m1 s1 F1 => ⟨fun z => absurd z (by decide), fun z => absurd z (by decide), fun _ _ kc1 ks1 e1 e2 => ?_⟩) (fun i f t hi e ef et b1 b2 b3 b4 b5 kn m1 s1 F1 => ⟨(hO.fr F1).1, by rw [(hO.fr F1).2.1]; exact vp_in_nI (n := 0) (by decide) (by decide), fun m6 e6 kc1 ks1 e1 e2 => ?_⟩)⟩
  · rw [e1, e2]
    exact ⟨v1, v2, v3, hM.1.1, md_total hM hz9 (fun _ m' d' t' f' => fin_ro_I (Kx := KX K x l5 (kc - 3) (ks - 18)) hS hM hO d' t' f' (fun z => absurd z (by decide)) KK) (fun i hi e _ => (ex_bad hb hi hn e).elim) (fun i f t hi e _ _ _ _ _ _ _ _ => (ex_bad hb hi hn e).elim) (fun i f t hi e _ _ _ _ _ _ _ _ => (ex_bad hb hi hn e).elim)⟩
  · rw [e1, e2]
    exact ⟨v1, v2, v3, hM.1.1, md_total hM hz9 (fun q => (ex_bad q hi hn e).elim) (fun _ _ _ _ m' d' t' f' => fin_ro_I (Kx := KX K x l5 (kc - 3) (ks - 18)) hS hM hO d' t' f' (fun z => absurd z (by decide)) KK) (fun i f t _ _ ef et b1 b2 b3 b4 b5 _ => (hw ⟨f, t, ef, et, b1, b2, b3, b4, b5⟩).elim) (fun i f t _ _ ef et b1 b2 b3 b4 b5 _ => (hw ⟨f, t, ef, et, b1, b2, b3, b4, b5⟩).elim)⟩
  · rw [e1, e2]
    have s1 : St x m1 g n ck sa kd rt hz (pl al) Cs := s1
    have d1 : Md x m1 g n ck kd rt hz al := hM.st (fun _ _ => rfl) (fr_scr hS F1)
    have o1 := hO.fr F1
    refine ⟨v1, v2, v3, d1.1.1, md_total d1 hz9 (fun q => (ex_bad q hi hn e).elim) (fun _ _ _ hw => (hw ⟨f, t, ef, et, b1, b2, b3, b4, b5⟩).elim) (fun _ _ _ _ _ _ _ _ _ _ _ _ _ m' d' t' f' => fin_ro_I (Kx := KX K x l5 (kc - 3) (ks - 18)) s1 d1 o1 d' t' f' (fun z => absurd z (by decide)) KK) (fun i' f1 t1 hi' e' ef1 et1 c1 c2 c3 c4 c5 kn1 m' d' t' f' => ?_)⟩
    rw [win_eq b1 c1 ef ef1, win_eq b2 c2 et et1] at kn1
    exact absurd kn1 (fun kn1 => (nk kn1))
  · rw [e1, e2]
    have s1 : St x m1 g n ck sa kd rt hz (pl al) Cs := s1
    have d1 : Md x m1 g n ck kd rt hz al := hM.st (fun _ _ => rfl) (fr_scr hS F1)
    have o1 := hO.fr F1
    obtain ⟨s6, d6, o6, w6⟩ := out3 s1 d1 o1 e6
    refine ⟨v1, v2, v3, d6.1.1, md_total d6 hz9 (fun q => (ex_bad q hi hn e).elim) (fun _ _ _ hw => (hw ⟨f, t, ef, et, b1, b2, b3, b4, b5⟩).elim) (fun i' f1 t1 hi' e' ef1 et1 c1 c2 c3 c4 c5 nk m' d' t' f' => ?_) (fun i' f1 t1 hi' e' ef1 et1 c1 c2 c3 c4 c5 _ m' d' t' f' => ?_)⟩
    · rw [win_eq b1 c1 ef ef1, win_eq b2 c2 et et1] at nk
      exact absurd kn nk
    · rw [same_i hi hi' hn e e', win_eq b1 c1 ef ef1, win_eq b2 c2 et et1]
      exact fin_ro_I (Kx := KX K x l5 (kc - 3) (ks - 18)) s6 d6 o6 d' t' f' (fun _ => w6) KK
theorem lc_1983 (hB : Bo x m g n ck sa kd rt hz Cs al) (hI : Iv n ck kd rt hz Cs al (c + 1)) (hkc : 200 * (c + 1) ≤ kc) (hks : 600 * (c + 1) + bS n Cs ≤ ks) (hv : ∀ j, 1 ≤ j → j ≤ 6 → vp_in (l5 + nI j) LL) (hK : ∀ m' kc' ks', Lw x m' c kc' ks' → K (x 0) (x 6) (x 14) (x 15) (l5 + 7) m' kc' ks') : wp_L_law_1983 xs LL K (x 0) (x 6) (x 14) (x 15) l5 m kc ks := by
  unfold wp_L_law_1983 wp_L_increase
  have v1 : vp_in (l5 + (1 : Int32)) LL := hv 1 (by decide) (by decide)
  have v2 : vp_in (l5 + (2 : Int32)) LL := hv 2 (by decide) (by decide)
  have v3 : vp_in (l5 + (3 : Int32)) LL := hv 3 (by decide) (by decide)
  obtain ⟨hS, hM, hO⟩ := id hB
  have hn := hB.n4
  have hz9 := hI.hzb1
  have hv0 : vp_in (0 : Int32) (mN m (x 14)) := by rw [hO.2.1]; exact vp_in_nI (n := 0) (by decide) (by decide)
  have hv5 : vp_in (0 : Int32) (mN m (x 15)) := by rw [hO.2.2.2.2.1]; exact vp_in_nI (n := 0) (by decide) (by decide)
  have KK : ∀ m', Bo x m' g n ck sa kd rt hz Cs al → KX K x l5 (kc - 3) (ks - 18) m' := fun m' h y e => by rw [e]; exact hK _ _ _ (h.less hI hkc hks (by decide) (by decide))
  have hP2 : ∀ i, i < n → Srt kf (pl al i) ∧ (pl al i).length < 2 ^ 26 := fun i hi => ⟨hB.srt i hi, by have := hI.len i; show (sub i al).length < 2 ^ 26; omega⟩
  refine ⟨v1, v2, v3, by omega, by omega, hS.1.1, sp_X5_increase hS hz9 hI.1 hP2 (fun hb => ⟨fun _ kc1 ks1 e1 e2 => ?_, fun z => absurd z (by decide), fun z => absurd rfl z⟩) (fun i hi e hw => ⟨fun z => absurd z (by decide), fun _ kc1 ks1 e1 e2 => ?_, fun _ z => absurd rfl z⟩) (fun i f t hi e ef et b1 b2 b3 b4 b5 nk m1 s1 F1 => ⟨fun z => absurd z (by decide), fun z => absurd z (by decide), fun _ _ kc1 ks1 e1 e2 => ?_⟩) (fun i f t hi e ef et b1 b2 b3 b4 b5 k1 kn m1 s1 F1 => ⟨(hO.fr F1).1, by rw [(hO.fr F1).2.1]; exact vp_in_nI (n := 0) (by decide) (by decide), fun m6 e6 kc1 ks1 e1 e2 => ?_⟩)⟩
  · rw [e1, e2]
    exact ⟨v1, v2, v3, hM.1.1, md_increase hM hz9 hI.1 hI.pos (fun _ m' d' t' f' => fin_ro_I (Kx := KX K x l5 (kc - 3) (ks - 18)) hS hM hO d' t' f' (fun z => absurd z (by decide)) KK) (fun i hi e _ => (ex_bad hb hi hn e).elim) (fun i f t hi e _ _ _ _ _ _ _ _ => (ex_bad hb hi hn e).elim) (fun i f t hi e _ _ _ _ _ _ _ _ _ => (ex_bad hb hi hn e).elim)⟩
  · rw [e1, e2]
    exact ⟨v1, v2, v3, hM.1.1, md_increase hM hz9 hI.1 hI.pos (fun q => (ex_bad q hi hn e).elim) (fun _ _ _ _ m' d' t' f' => fin_ro_I (Kx := KX K x l5 (kc - 3) (ks - 18)) hS hM hO d' t' f' (fun z => absurd z (by decide)) KK) (fun i f t _ _ ef et b1 b2 b3 b4 b5 _ => (hw ⟨f, t, ef, et, b1, b2, b3, b4, b5⟩).elim) (fun i f t _ _ ef et b1 b2 b3 b4 b5 _ _ => (hw ⟨f, t, ef, et, b1, b2, b3, b4, b5⟩).elim)⟩
  · rw [e1, e2]
    have s1 : St x m1 g n ck sa kd rt hz (pl al) Cs := s1
    have d1 : Md x m1 g n ck kd rt hz al := hM.st (fun _ _ => rfl) (fr_scr hS F1)
    have o1 := hO.fr F1
    refine ⟨v1, v2, v3, d1.1.1, md_increase d1 hz9 hI.1 hI.pos (fun q => (ex_bad q hi hn e).elim) (fun _ _ _ hw => (hw ⟨f, t, ef, et, b1, b2, b3, b4, b5⟩).elim) (fun _ _ _ _ _ _ _ _ _ _ _ _ _ m' d' t' f' => fin_ro_I (Kx := KX K x l5 (kc - 3) (ks - 18)) s1 d1 o1 d' t' f' (fun z => absurd z (by decide)) KK) (fun i' f1 t1 hi' e' ef1 et1 c1 c2 c3 c4 c5 k2 kn1 m' d' t' f' => ?_)⟩
    rw [win_eq b1 c1 ef ef1, win_eq b2 c2 et et1] at kn1
    rw [same_i hi hi' hn e e'] at k2
    exact absurd kn1 (fun kn1 => (nk ⟨k2, kn1⟩))
  · rw [e1, e2]
    have s1 : St x m1 g n ck sa kd rt hz (pl al) Cs := s1
    have d1 : Md x m1 g n ck kd rt hz al := hM.st (fun _ _ => rfl) (fr_scr hS F1)
    have o1 := hO.fr F1
    obtain ⟨s6, d6, o6, w6⟩ := out3 s1 d1 o1 e6
    refine ⟨v1, v2, v3, d6.1.1, md_increase d6 hz9 hI.1 hI.pos (fun q => (ex_bad q hi hn e).elim) (fun _ _ _ hw => (hw ⟨f, t, ef, et, b1, b2, b3, b4, b5⟩).elim) (fun i' f1 t1 hi' e' ef1 et1 c1 c2 c3 c4 c5 nk m' d' t' f' => ?_) (fun i' f1 t1 hi' e' ef1 et1 c1 c2 c3 c4 c5 _ _ m' d' t' f' => ?_)⟩
    · rw [win_eq b1 c1 ef ef1, win_eq b2 c2 et et1, same_i hi hi' hn e e'] at nk
      exact absurd ⟨k1, kn⟩ nk
    · rw [same_i hi hi' hn e e', win_eq b1 c1 ef ef1, win_eq b2 c2 et et1]
      exact fin_ro_I (Kx := KX K x l5 (kc - 3) (ks - 18)) s6 d6 o6 d' t' f' (fun _ => w6) KK
theorem lc_2062 (hB : Bo x m g n ck sa kd rt hz Cs al) (hI : Iv n ck kd rt hz Cs al (c + 1)) (hkc : 200 * (c + 1) ≤ kc) (hks : 600 * (c + 1) + bS n Cs ≤ ks) (hv : ∀ j, 1 ≤ j → j ≤ 6 → vp_in (l5 + nI j) LL) (hK : ∀ m' kc' ks', Lw x m' c kc' ks' → K (x 0) (x 6) (x 14) (x 15) (l5 + 7) m' kc' ks') : wp_L_law_2062 xs LL K (x 0) (x 6) (x 14) (x 15) l5 m kc ks := by
  unfold wp_L_law_2062 wp_L_ratePerHour
  have v1 : vp_in (l5 + (1 : Int32)) LL := hv 1 (by decide) (by decide)
  have v2 : vp_in (l5 + (2 : Int32)) LL := hv 2 (by decide) (by decide)
  have v3 : vp_in (l5 + (3 : Int32)) LL := hv 3 (by decide) (by decide)
  obtain ⟨hS, hM, hO⟩ := id hB
  have hn := hB.n4
  have hz9 := hI.hzb1
  have hv0 : vp_in (0 : Int32) (mN m (x 14)) := by rw [hO.2.1]; exact vp_in_nI (n := 0) (by decide) (by decide)
  have hv5 : vp_in (0 : Int32) (mN m (x 15)) := by rw [hO.2.2.2.2.1]; exact vp_in_nI (n := 0) (by decide) (by decide)
  have KK : ∀ m', Bo x m' g n ck sa kd rt hz Cs al → KX K x l5 (kc - 3) (ks - 18) m' := fun m' h y e => by rw [e]; exact hK _ _ _ (h.less hI hkc hks (by decide) (by decide))
  have hP2 : ∀ i, i < n → Srt kf (pl al i) ∧ (pl al i).length < 2 ^ 26 := fun i hi => ⟨hB.srt i hi, by have := hI.len i; show (sub i al).length < 2 ^ 26; omega⟩
  have r1 : ∀ y : Int64, vf_n64 (FP.dmul (FP.l2d y) (4660134898793709568 : UInt64)) := fun y => (isEnc_mul y).vf
  have r2 : ∀ (y : Int64) (d : Nat), 0 < d → d < 2 ^ 31 → vf_n64 (rat y d) := fun y d h1 h2 => (rat_enc y h1 h2).vf
  refine ⟨v1, v2, v3, by omega, by omega, hS.1.1, sp_X5_ratePerHour hS hz9 hI.1 hP2 r1 r2 (fun hb => ⟨fun _ kc1 ks1 e1 e2 => ?_, fun z => absurd z (by decide), fun z => absurd rfl z⟩) (fun i hi e hw => ⟨fun z => absurd z (by decide), fun _ kc1 ks1 e1 e2 => ?_, fun _ z => absurd rfl z⟩) (fun i f t hi e ef et b1 b2 b3 b4 b5 nk m1 s1 F1 => ⟨fun z => absurd z (by decide), fun z => absurd z (by decide), fun _ _ kc1 ks1 e1 e2 => ?_⟩) (fun i f t hi e ef et b1 b2 b3 b4 b5 k1 kn m1 s1 F1 => ⟨(hO.fr F1).2.2.2.1, by rw [(hO.fr F1).2.2.2.2.1]; exact vp_in_nI (n := 0) (by decide) (by decide), fun m6 e6 kc1 ks1 e1 e2 => ?_⟩)⟩
  · rw [e1, e2]
    exact ⟨v1, v2, v3, hM.1.1, md_ratePerHour hM hz9 hI.1 hI.pos r1 r2 (fun _ m' r d' t' f' => fin_ro_D (Kx := KX K x l5 (kc - 3) (ks - 18)) hS hM hO d' t' f' (fun z => absurd z (by decide)) KK) (fun i hi e _ => (ex_bad hb hi hn e).elim) (fun i f t hi e _ _ _ _ _ _ _ _ => (ex_bad hb hi hn e).elim) (fun i f t hi e _ _ _ _ _ _ _ _ _ => (ex_bad hb hi hn e).elim)⟩
  · rw [e1, e2]
    have nw : ∀ f t, (xs (l5 + (2 : Int32)).toNatClampNeg) = nI f → (xs (l5 + (3 : Int32)).toNatClampNeg) = nI t → f < 2 ^ 31 → t < 2 ^ 31 → f < t → 60 ∣ f → 60 ∣ t → False := fun f t ef et b1 b2 b3 b4 b5 => by
      rcases hw with hw | hw
      · exact hw ⟨f, t, ef, et, b1, b2, Nat.le_of_lt b3, b4, b5⟩
      · rw [ef, et] at hw
        have := (nI_eq b1 b2).mp hw
        omega
    exact ⟨v1, v2, v3, hM.1.1, md_ratePerHour hM hz9 hI.1 hI.pos r1 r2 (fun q => (ex_bad q hi hn e).elim) (fun _ _ _ _ m' r d' t' f' => fin_ro_D (Kx := KX K x l5 (kc - 3) (ks - 18)) hS hM hO d' t' f' (fun z => absurd z (by decide)) KK) (fun i f t _ _ ef et b1 b2 b3 b4 b5 _ => (nw f t ef et b1 b2 b3 b4 b5).elim) (fun i f t _ _ ef et b1 b2 b3 b4 b5 _ _ => (nw f t ef et b1 b2 b3 b4 b5).elim)⟩
  · rw [e1, e2]
    have s1 : St x m1 g n ck sa kd rt hz (pl al) Cs := s1
    have d1 : Md x m1 g n ck kd rt hz al := hM.st (fun _ _ => rfl) (fr_scr hS F1)
    have o1 := hO.fr F1
    refine ⟨v1, v2, v3, d1.1.1, md_ratePerHour d1 hz9 hI.1 hI.pos r1 r2 (fun q => (ex_bad q hi hn e).elim) (fun _ _ _ hw => by
      rcases hw with hw | hw
      · exact (hw ⟨f, t, ef, et, b1, b2, Nat.le_of_lt b3, b4, b5⟩).elim
      · rw [ef, et] at hw
        have := (nI_eq b1 b2).mp hw
        omega) (fun _ _ _ _ _ _ _ _ _ _ _ _ _ m' r d' t' f' => fin_ro_D (Kx := KX K x l5 (kc - 3) (ks - 18)) s1 d1 o1 d' t' f' (fun z => absurd z (by decide)) KK) (fun i' f1 t1 hi' e' ef1 et1 c1 c2 c3 c4 c5 k2 kn1 m' d' t' f' => ?_)⟩
    rw [win_eq b1 c1 ef ef1, win_eq b2 c2 et et1] at kn1
    rw [same_i hi hi' hn e e'] at k2
    exact absurd ⟨k2, kn1⟩ nk
  · rw [e1, e2]
    have s1 : St x m1 g n ck sa kd rt hz (pl al) Cs := s1
    have d1 : Md x m1 g n ck kd rt hz al := hM.st (fun _ _ => rfl) (fr_scr hS F1)
    have o1 := hO.fr F1
    obtain ⟨s6, d6, o6, w6⟩ := out3D s1 d1 o1 e6
    refine ⟨v1, v2, v3, d6.1.1, md_ratePerHour d6 hz9 hI.1 hI.pos r1 r2 (fun q => (ex_bad q hi hn e).elim) (fun _ _ _ hw => by
      rcases hw with hw | hw
      · exact (hw ⟨f, t, ef, et, b1, b2, Nat.le_of_lt b3, b4, b5⟩).elim
      · rw [ef, et] at hw
        have := (nI_eq b1 b2).mp hw
        omega) (fun i' f1 t1 hi' e' ef1 et1 c1 c2 c3 c4 c5 nk m' r d' t' f' => ?_) (fun i' f1 t1 hi' e' ef1 et1 c1 c2 c3 c4 c5 _ _ m' d' t' f' => ?_)⟩
    · rw [win_eq b1 c1 ef ef1, win_eq b2 c2 et et1, same_i hi hi' hn e e'] at nk
      exact absurd ⟨k1, kn⟩ nk
    · rw [same_i hi hi' hn e e', win_eq b1 c1 ef ef1, win_eq b2 c2 et et1]
      exact fin_ro_D (Kx := KX K x l5 (kc - 3) (ks - 18)) s6 d6 o6 d' t' f' (fun _ => ⟨w6, rat_enc _ (by omega) (by omega)⟩) KK
theorem lc_1904 (hB : Bo x m g n ck sa kd rt hz Cs al) (hI : Iv n ck kd rt hz Cs al (c + 1)) (hkc : 200 * (c + 1) ≤ kc) (hks : 600 * (c + 1) + bS n Cs ≤ ks) (hv : ∀ j, 1 ≤ j → j ≤ 6 → vp_in (l5 + nI j) LL) (hK : ∀ m' kc' ks', Lw x m' c kc' ks' → K (x 0) (x 6) (x 14) (x 15) (l5 + 7) m' kc' ks') : wp_L_law_1904 xs LL K (x 0) (x 6) (x 14) (x 15) l5 m kc ks := by
  unfold wp_L_law_1904 wp_L_totalByPoints
  have v1 : vp_in (l5 + (1 : Int32)) LL := hv 1 (by decide) (by decide)
  have v2 : vp_in (l5 + (2 : Int32)) LL := hv 2 (by decide) (by decide)
  have v3 : vp_in (l5 + (3 : Int32)) LL := hv 3 (by decide) (by decide)
  obtain ⟨hS, hM, hO⟩ := id hB
  have hn := hB.n4
  have hz9 := hI.hzb1
  have hv0 : vp_in (0 : Int32) (mN m (x 14)) := by rw [hO.2.1]; exact vp_in_nI (n := 0) (by decide) (by decide)
  have hv5 : vp_in (0 : Int32) (mN m (x 15)) := by rw [hO.2.2.2.2.1]; exact vp_in_nI (n := 0) (by decide) (by decide)
  have KK : ∀ m', Bo x m' g n ck sa kd rt hz Cs al → KX K x l5 (kc - 3) (ks - 18) m' := fun m' h y e => by rw [e]; exact hK _ _ _ (h.less hI hkc hks (by decide) (by decide))
  refine ⟨v1, v2, v3, by omega, by omega, hS.1.1, sp_X5_totalByPoints hS (hz9 0 (by decide)) (fun hb => ⟨fun _ kc1 ks1 e1 e2 => ?_, fun z => absurd z (by decide), fun z => absurd rfl z⟩) (fun i hi e hw => ⟨fun z => absurd z (by decide), fun _ kc1 ks1 e1 e2 => ?_, fun _ z => absurd rfl z⟩) (fun i f t hi e ef et b1 b2 b3 b4 b5 nk => ⟨fun z => absurd z (by decide), fun z => absurd z (by decide), fun _ _ kc1 ks1 e1 e2 => ?_⟩) (fun i f t hi e ef et b1 b2 b3 b4 b5 kn m1 s1 F1 => ⟨(hO.fr F1).1, by rw [(hO.fr F1).2.1]; exact vp_in_nI (n := 0) (by decide) (by decide), fun m6 e6 kc1 ks1 e1 e2 => ?_⟩)⟩
  · rw [e1, e2]
    exact ⟨v1, v2, v3, hM.1.1, md_totalByPoints hM (hz9 0 (by decide)) (fun _ m' d' t' f' => fin_ro_I (Kx := KX K x l5 (kc - 3) (ks - 18)) hS hM hO d' t' f' (fun z => absurd z (by decide)) KK) (fun i hi e _ => (ex_bad hb hi hn e).elim) (fun i f t hi e _ _ _ _ _ _ _ _ => (ex_bad hb hi hn e).elim) (fun i f t hi e _ _ _ _ _ _ _ _ => (ex_bad hb hi hn e).elim)⟩
  · rw [e1, e2]
    exact ⟨v1, v2, v3, hM.1.1, md_totalByPoints hM (hz9 0 (by decide)) (fun q => (ex_bad q hi hn e).elim) (fun _ _ _ _ m' d' t' f' => fin_ro_I (Kx := KX K x l5 (kc - 3) (ks - 18)) hS hM hO d' t' f' (fun z => absurd z (by decide)) KK) (fun i f t _ _ ef et b1 b2 b3 b4 b5 _ => (hw ⟨f, t, ef, et, b1, b2, b3, b4, b5⟩).elim) (fun i f t _ _ ef et b1 b2 b3 b4 b5 _ => (hw ⟨f, t, ef, et, b1, b2, b3, b4, b5⟩).elim)⟩
  · rw [e1, e2]
    refine ⟨v1, v2, v3, hM.1.1, md_totalByPoints hM (hz9 0 (by decide)) (fun q => (ex_bad q hi hn e).elim) (fun _ _ _ hw => (hw ⟨f, t, ef, et, b1, b2, b3, b4, b5⟩).elim) (fun _ _ _ _ _ _ _ _ _ _ _ _ _ m' d' t' f' => fin_ro_I (Kx := KX K x l5 (kc - 3) (ks - 18)) hS hM hO d' t' f' (fun z => absurd z (by decide)) KK) (fun i' f1 t1 hi' e' ef1 et1 c1 c2 c3 c4 c5 kn1 m' d' t' f' => ?_)⟩
    rw [win_eq b1 c1 ef ef1] at kn1
    exact absurd nk (by omega)
  · rw [e1, e2]
    have s1 : St x m1 g n ck sa kd rt hz (pl al) Cs := s1
    have d1 : Md x m1 g n ck kd rt hz al := hM.st (fun _ _ => rfl) (fr_scr hS F1)
    have o1 := hO.fr F1
    obtain ⟨s6, d6, o6, w6⟩ := out3 s1 d1 o1 e6
    refine ⟨v1, v2, v3, d6.1.1, md_totalByPoints d6 (hz9 0 (by decide)) (fun q => (ex_bad q hi hn e).elim) (fun _ _ _ hw => (hw ⟨f, t, ef, et, b1, b2, b3, b4, b5⟩).elim) (fun i' f1 t1 hi' e' ef1 et1 c1 c2 c3 c4 c5 nk m' d' t' f' => ?_) (fun i' f1 t1 hi' e' ef1 et1 c1 c2 c3 c4 c5 _ m' d' t' f' => ?_)⟩
    · rw [win_eq b1 c1 ef ef1] at nk
      exact absurd nk (by omega)
    · rw [same_i hi hi' hn e e', win_eq b1 c1 ef ef1, win_eq b2 c2 et et1]
      exact fin_ro_I (Kx := KX K x l5 (kc - 3) (ks - 18)) s6 d6 o6 d' t' f' (fun _ => w6) KK
theorem lc_2163 (hB : Bo x m g n ck sa kd rt hz Cs al) (hI : Iv n ck kd rt hz Cs al (c + 1)) (hkc : 200 * (c + 1) ≤ kc) (hks : 600 * (c + 1) + bS n Cs ≤ ks) (hv : ∀ j, 1 ≤ j → j ≤ 6 → vp_in (l5 + nI j) LL) (hK : ∀ m' kc' ks', Lw x m' c kc' ks' → K (x 0) (x 6) (x 14) (x 15) (l5 + 7) m' kc' ks') : wp_L_law_2163 xs LL K (x 0) (x 6) (x 14) (x 15) l5 m kc ks := by
  unfold wp_L_law_2163 wp_L_gaps
  have v1 : vp_in (l5 + (1 : Int32)) LL := hv 1 (by decide) (by decide)
  have v2 : vp_in (l5 + (2 : Int32)) LL := hv 2 (by decide) (by decide)
  have v3 : vp_in (l5 + (3 : Int32)) LL := hv 3 (by decide) (by decide)
  have v4 : vp_in (l5 + (4 : Int32)) LL := hv 4 (by decide) (by decide)
  obtain ⟨hS, hM, hO⟩ := id hB
  have hn := hB.n4
  have hz9 := hI.hzb1
  have hv0 : vp_in (0 : Int32) (mN m (x 14)) := by rw [hO.2.1]; exact vp_in_nI (n := 0) (by decide) (by decide)
  have hv5 : vp_in (0 : Int32) (mN m (x 15)) := by rw [hO.2.2.2.2.1]; exact vp_in_nI (n := 0) (by decide) (by decide)
  have KK : ∀ m', Bo x m' g n ck sa kd rt hz Cs al → KX K x l5 (kc - 4) (ks - 24) m' := fun m' h y e => by rw [e]; exact hK _ _ _ (h.less hI hkc hks (by decide) (by decide))
  refine ⟨v1, v2, v3, v4, by omega, by omega, hS.1.1, sp_X5_gaps hS hz9 (fun hb => ⟨fun _ kc1 ks1 e1 e2 => ?_, fun z => absurd z (by decide), fun z => absurd rfl z⟩) (fun hno => ⟨fun z => absurd z (by decide), fun _ kc1 ks1 e1 e2 => ?_, fun _ z => absurd rfl z⟩) (fun i t y ha hw => ⟨fun z => absurd z (by decide), fun _ kc1 ks1 e1 e2 => ?_, fun _ z => absurd rfl z⟩) (fun i t y f e' ha ef ee b1 b2 b3 b4 b5 => ⟨hO.1, hv0, fun m6 e6 kc1 ks1 e1 e2 => ?_⟩)⟩
  · rw [e1, e2]
    exact ⟨v1, v2, v3, v4, hM.1.1, md_gaps hM hz9 (fun _ m' d' t' f' => fin_ro_I (Kx := KX K x l5 (kc - 4) (ks - 24)) hS hM hO d' t' f' (fun z => absurd z (by decide)) KK) (fun q => (ex_bad_no hb hn q).elim) (fun i t y a _ => (ex_bad_ask hb hn a).elim) (fun i t y f e a _ _ _ _ _ _ _ => (ex_bad_ask hb hn a).elim)⟩
  · rw [e1, e2]
    exact ⟨v1, v2, v3, v4, hM.1.1, md_gaps hM hz9 (fun q => (ex_bad_no q hn hno).elim) (fun _ m' d' t' f' => fin_ro_I (Kx := KX K x l5 (kc - 4) (ks - 24)) hS hM hO d' t' f' (fun z => absurd z (by decide)) KK) (fun i t y a _ => (ex_no_ask hn hno a).elim) (fun i t y f e a _ _ _ _ _ _ _ => (ex_no_ask hn hno a).elim)⟩
  · rw [e1, e2]
    refine ⟨v1, v2, v3, v4, hM.1.1, md_gaps hM hz9 (fun q => (ex_bad_ask q hn ha).elim) (fun q => (ex_no_ask hn q ha).elim) (fun _ _ _ _ _ m' d' t' f' => fin_ro_I (Kx := KX K x l5 (kc - 4) (ks - 24)) hS hM hO d' t' f' (fun z => absurd z (by decide)) KK) (fun i' t1 y' f e a ef ee b1 b2 b3 b4 b5 m' d' t' f' => ?_)⟩
    obtain ⟨h1, h2, h3⟩ := ask_eq hn ha a
    rw [h2] at b4 b5
    exact absurd ⟨f, e, ef, ee, b1, b2, b3, b4, b5⟩ hw
  · rw [e1, e2]
    obtain ⟨s6, d6, o6, w6⟩ := out3 hS hM hO e6
    refine ⟨v1, v2, v3, v4, d6.1.1, md_gaps d6 hz9 (fun q => (ex_bad_ask q hn ha).elim) (fun q => (ex_no_ask hn q ha).elim) (fun i' t1 y' a hw m' d' t' f' => ?_) (fun i' t1 y' f1 e'1 a ef1 ee1 c1 c2 c3 c4 c5 m' d' t' f' => ?_)⟩
    · obtain ⟨h1, h2, h3⟩ := ask_eq hn ha a
      rw [h2] at hw
      exact absurd ⟨f, e', ef, ee, b1, b2, b3, b4, b5⟩ hw
    · obtain ⟨h1, h2, h3⟩ := ask_eq hn ha a
      rw [h1, h2, win_eq b1 c1 ef ef1, win_eq b2 c2 ee ee1]
      exact fin_ro_I (Kx := KX K x l5 (kc - 4) (ks - 24)) s6 d6 o6 d' t' f' (fun _ => w6) KK
theorem lc_1590 (hB : Bo x m g n ck sa kd rt hz Cs al) (hI : Iv n ck kd rt hz Cs al (c + 1)) (hkc : 200 * (c + 1) ≤ kc) (hks : 600 * (c + 1) + bS n Cs ≤ ks) (hv : ∀ j, 1 ≤ j → j ≤ 6 → vp_in (l5 + nI j) LL) (hK : ∀ m' kc' ks', Lw x m' c kc' ks' → K (x 0) (x 6) (x 14) (x 15) (l5 + 7) m' kc' ks') : wp_L_law_1590 xs LL K (x 0) (x 6) (x 14) (x 15) l5 m kc ks := by
  unfold wp_L_law_1590 wp_L_filled
  have v1 : vp_in (l5 + (1 : Int32)) LL := hv 1 (by decide) (by decide)
  have v2 : vp_in (l5 + (2 : Int32)) LL := hv 2 (by decide) (by decide)
  have v3 : vp_in (l5 + (3 : Int32)) LL := hv 3 (by decide) (by decide)
  have v4 : vp_in (l5 + (4 : Int32)) LL := hv 4 (by decide) (by decide)
  obtain ⟨hS, hM, hO⟩ := id hB
  have hn := hB.n4
  have hz9 := hI.hzb1
  have hv0 : vp_in (0 : Int32) (mN m (x 14)) := by rw [hO.2.1]; exact vp_in_nI (n := 0) (by decide) (by decide)
  have hv5 : vp_in (0 : Int32) (mN m (x 15)) := by rw [hO.2.2.2.2.1]; exact vp_in_nI (n := 0) (by decide) (by decide)
  have KK : ∀ m', Bo x m' g n ck sa kd rt hz Cs al → KX K x l5 (kc - 5) (ks - 30) m' := fun m' h y e => by rw [e]; exact hK _ _ _ (h.less hI hkc hks (by decide) (by decide))
  have ans : ∀ (i t y r : Nat) (v : Int32), Ask n (xs (l5 + (1 : Int32)).toNatClampNeg) (xs (l5 + (2 : Int32)).toNatClampNeg) (xs (l5 + (3 : Int32)).toNatClampNeg) i t y → xs (l5 + (4 : Int32)).toNatClampNeg = nI r → r ≤ 2 → ¬ (rl hz (sub i al) t y = [] ∧ (r ≠ 0 ∧ er hz (sub i al) t y = none ∨ r = 2 ∧ lr hz (sub i al) t y = none)) → (rl hz (sub i al) t y ≠ [] → v = vLst (rl hz (sub i al) t y)) → (rl hz (sub i al) t y = [] → r = 0 → v = 0) → (rl hz (sub i al) t y = [] → r = 1 → ∀ e, er hz (sub i al) t y = some e → v = vLst e.2) → (rl hz (sub i al) t y = [] → r = 2 → ∀ e l, er hz (sub i al) t y = some e → lr hz (sub i al) t y = some l → v = btw e l (bg (ln t) y)) → ∀ m6 : MM, m6 = sAJ m (x 14) (va_up (mAJ m (x 14)) (0 : Int32).toNatClampNeg v.toInt64) → wp_X6_filled (x 6) (xs (l5 + (1 : Int32)).toNatClampNeg) (xs (l5 + (2 : Int32)).toNatClampNeg) (xs (l5 + (3 : Int32)).toNatClampNeg) (xs (l5 + (4 : Int32)).toNatClampNeg) m6 (fun rb mb => mK mb (x 6) = 7 ∧ wp_X6_thrown (x 6) mb (fun kt mt => TI (x 14) (KX K x l5 (kc - 5) (ks - 30)) 0 rb.toInt64 kt mt)) := fun i t y r v ha e4 hr hno w1 w2 w3 w4 m6 e6 => by
    obtain ⟨s6, d6, o6, w6⟩ := out3 hS hM hO e6
    refine md_filled d6 hz9 (fun q => (ex_bad_ask q hn ha).elim) (fun q => (ex_no_ask hn q ha).elim) (fun i' hi' e' q m' d' t' f' => ?_) (fun i' t1 y' r' a e4' hr' hnil q m' d' t' f' => ?_) (fun i' t1 y' r' a e4' hr' m' d' t' f' => ?_)
    · have := q r e4
      omega
    · obtain ⟨h1, h2, h3⟩ := ask_eq hn ha a
      rw [h1, h2, h3, tier_eq (by omega) (by omega) e4 e4'] at q
      rw [h1, h2, h3] at hnil
      exact absurd ⟨hnil, q⟩ hno
    · obtain ⟨h1, h2, h3⟩ := ask_eq hn ha a
      have h4 := tier_eq (by omega) (by omega) e4 e4'
      rw [h1, h2, h3, h4]
      refine ⟨fun z => ?_, fun z y0 => ?_, fun z y0 e9 z2 => ?_, fun z y0 e9 l9 z2 z3 => ?_⟩
      · rw [← w1 z]
        exact fin_ro_I s6 d6 o6 d' t' f' (fun _ => w6) KK
      · rw [w2 z y0] at w6
        exact fin_ro_I s6 d6 o6 d' t' f' (fun _ => w6) KK
      · rw [← w3 z y0 e9 z2]
        exact fin_ro_I s6 d6 o6 d' t' f' (fun _ => w6) KK
      · rw [← w4 z y0 e9 l9 z2 z3]
        exact fin_ro_I s6 d6 o6 d' t' f' (fun _ => w6) KK
  have bad3 : ∀ (i t y r : Nat), Ask n (xs (l5 + (1 : Int32)).toNatClampNeg) (xs (l5 + (2 : Int32)).toNatClampNeg) (xs (l5 + (3 : Int32)).toNatClampNeg) i t y → xs (l5 + (4 : Int32)).toNatClampNeg = nI r → r ≤ 2 → rl hz (sub i al) t y = [] → (r ≠ 0 ∧ er hz (sub i al) t y = none ∨ r = 2 ∧ lr hz (sub i al) t y = none) → wp_X6_filled (x 6) (xs (l5 + (1 : Int32)).toNatClampNeg) (xs (l5 + (2 : Int32)).toNatClampNeg) (xs (l5 + (3 : Int32)).toNatClampNeg) (xs (l5 + (4 : Int32)).toNatClampNeg) m (fun rb mb => mK mb (x 6) = 7 ∧ wp_X6_thrown (x 6) mb (fun kt mt => TI (x 14) (KX K x l5 (kc - 5) (ks - 30)) 3 rb.toInt64 kt mt)) := fun i t y r ha e4 hr hnil hno => by
    refine md_filled hM hz9 (fun q => (ex_bad_ask q hn ha).elim) (fun q => (ex_no_ask hn q ha).elim) (fun i' hi' e' q m' d' t' f' => ?_) (fun i' t1 y' r' a e4' hr' hnil q m' d' t' f' => fin_ro_I hS hM hO d' t' f' (fun z => absurd z (by decide)) KK) (fun i' t1 y' r' a e4' hr' m' d' t' f' => ?_)
    · have := q r e4
      omega
    · obtain ⟨h1, h2, h3⟩ := ask_eq hn ha a
      have h4 := tier_eq (by omega) (by omega) e4 e4'
      rw [h1, h2, h3, h4]
      refine ⟨fun z => absurd hnil z, fun z y0 => ?_, fun z y0 e9 z2 => ?_, fun z y0 e9 l9 z2 z3 => ?_⟩
      · rcases hno with ⟨q, -⟩ | ⟨q, -⟩
        · exact absurd y0 q
        · omega
      · rcases hno with ⟨-, q⟩ | ⟨q, -⟩
        · rw [q] at z2
          cases z2
        · omega
      · rcases hno with ⟨-, q⟩ | ⟨-, q⟩
        · rw [q] at z2
          cases z2
        · rw [q] at z3
          cases z3
  refine ⟨v1, v2, v3, v4, by omega, by omega, hS.1.1, sp_X5_filled hS hB.srt (fun hb => ⟨fun _ kc1 ks1 e1 e2 => ?_, fun z => absurd z (by decide), fun z => absurd rfl z⟩) (fun hno => ⟨fun z => absurd z (by decide), fun _ kc1 ks1 e1 e2 => ?_, fun _ z => absurd rfl z⟩) (fun i t y ha hno => ⟨fun z => absurd z (by decide), fun _ kc1 ks1 e1 e2 => ?_, fun _ z => absurd rfl z⟩) (fun i t y r ha e4 hr => ⟨fun z => ⟨hO.1, hv0, fun m6 e6 kc1 ks1 e1 e2 => ?_⟩, fun z y0 => ⟨hO.1, hv0, fun m6 e6 kc1 ks1 e1 e2 => ?_⟩, fun z y0 z2 => ⟨fun z => absurd z (by decide), fun z => absurd z (by decide), fun _ _ kc1 ks1 e1 e2 => ?_⟩, fun z y0 z2 => ⟨fun z => absurd z (by decide), fun z => absurd z (by decide), fun _ _ kc1 ks1 e1 e2 => ?_⟩, fun z y0 e9 z2 => ⟨hO.1, hv0, fun m6 e6 kc1 ks1 e1 e2 => ?_⟩, fun z y0 e9 l9 z2 z3 => ⟨hO.1, hv0, fun m6 e6 kc1 ks1 e1 e2 => ?_⟩⟩)⟩
  · rw [e1, e2]
    exact ⟨v1, v2, v3, v4, hM.1.1, md_filled hM hz9 (fun _ m' d' t' f' => fin_ro_I (Kx := KX K x l5 (kc - 5) (ks - 30)) hS hM hO d' t' f' (fun z => absurd z (by decide)) KK) (fun q => (ex_bad_no hb hn q).elim) (fun i hi e _ => (ex_bad hb hi hn e).elim) (fun i t y r a _ _ _ _ => (ex_bad_ask hb hn a).elim) (fun i t y r a _ _ => (ex_bad_ask hb hn a).elim)⟩
  · rw [e1, e2]
    exact ⟨v1, v2, v3, v4, hM.1.1, md_filled hM hz9 (fun q => (ex_bad_no q hn hno).elim) (fun _ m' d' t' f' => fin_ro_I (Kx := KX K x l5 (kc - 5) (ks - 30)) hS hM hO d' t' f' (fun z => absurd z (by decide)) KK) (fun _ _ _ _ m' d' t' f' => fin_ro_I (Kx := KX K x l5 (kc - 5) (ks - 30)) hS hM hO d' t' f' (fun z => absurd z (by decide)) KK) (fun i t y r a _ _ _ _ => (ex_no_ask hn hno a).elim) (fun i t y r a _ _ => (ex_no_ask hn hno a).elim)⟩
  · rw [e1, e2]
    refine ⟨v1, v2, v3, v4, hM.1.1, md_filled hM hz9 (fun q => (ex_bad_ask q hn ha).elim) (fun _ m' d' t' f' => fin_ro_I (Kx := KX K x l5 (kc - 5) (ks - 30)) hS hM hO d' t' f' (fun z => absurd z (by decide)) KK) (fun _ _ _ _ m' d' t' f' => fin_ro_I (Kx := KX K x l5 (kc - 5) (ks - 30)) hS hM hO d' t' f' (fun z => absurd z (by decide)) KK) (fun i t y r a e4 hr _ _ m' d' t' f' => ?_) (fun i t y r a e4 hr m' d' t' f' => ?_)⟩
    · have := hno r e4
      omega
    · have := hno r e4
      omega
  · rw [e1, e2]
    exact ⟨v1, v2, v3, v4, by rw [e6]; exact hM.1.1, ans i t y r _ ha e4 hr (fun q => z q.1) (fun _ => rfl) (fun q => absurd q z) (fun q => absurd q z) (fun q => absurd q z) m6 e6⟩
  · rw [e1, e2]
    exact ⟨v1, v2, v3, v4, by rw [e6]; exact hM.1.1, ans i t y r 0 ha e4 hr (fun q => by rcases q.2 with w | w <;> omega) (fun q => absurd z q) (fun _ _ => rfl) (fun _ q => by omega) (fun _ q => by omega) m6 e6⟩
  · rw [e1, e2]
    exact ⟨v1, v2, v3, v4, hM.1.1, bad3 i t y r ha e4 hr z (Or.inl ⟨y0, z2⟩)⟩
  · rw [e1, e2]
    exact ⟨v1, v2, v3, v4, hM.1.1, bad3 i t y r ha e4 hr z (Or.inr ⟨y0, z2⟩)⟩
  · rw [e1, e2]
    have z2 : er hz (sub i al) t y = some e9 := z2
    exact ⟨v1, v2, v3, v4, by rw [e6]; exact hM.1.1, ans i t y r _ ha e4 hr (fun q => by
      rcases q.2 with w | w
      · rw [w.2] at z2
        cases z2
      · omega) (fun q => absurd z q) (fun _ q => by omega) (fun _ _ e8 z8 => by
      rw [z2] at z8
      rw [Option.some.inj z8]) (fun _ q => by omega) m6 e6⟩
  · rw [e1, e2]
    have z2 : er hz (sub i al) t y = some e9 := z2
    have z3 : lr hz (sub i al) t y = some l9 := z3
    exact ⟨v1, v2, v3, v4, by rw [e6]; exact hM.1.1, ans i t y r _ ha e4 hr (fun q => by
      rcases q.2 with w | w
      · rw [w.2] at z2
        cases z2
      · rw [w.2] at z3
        cases z3) (fun q => absurd z q) (fun _ q => by omega) (fun _ q => by omega) (fun _ _ e8 l8 z8 z7 => by
      rw [z2] at z8
      rw [z3] at z7
      rw [Option.some.inj z8, Option.some.inj z7]) m6 e6⟩
end
