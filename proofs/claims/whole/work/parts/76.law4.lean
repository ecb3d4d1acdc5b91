/-! THE LAW'S CALLS THAT CHANGE THE STORE: what holds behind them -/
theorem gone_lt {a b : Nat → Nat} : ∀ k j, (∀ i, j ≤ i → i < j + k → a i = b i) → gone a k j = gone b k j
  | 0, _, _ => rfl
  | k + 1, j, h => by
    show a j + gone a k (j + 1) = b j + gone b k (j + 1)
    rw [h j (Nat.le_refl _) (by omega), gone_lt k (j + 1) (fun i h1 h2 => h i (by omega) (by omega))]
theorem gone_snoc (d : Nat → Nat) : ∀ k j, gone d (k + 1) j = gone d k j + d (j + k)
  | 0, j => by
    show d j + 0 = 0 + d j
    omega
  | k + 1, j => by
    show d j + gone d (k + 1) (j + 1) = (d j + gone d k (j + 1)) + d (j + (k + 1))
    rw [gone_snoc d k (j + 1), show j + 1 + k = j + (k + 1) by omega]
    omega
theorem gone_up (d : Nat → Nat) (i v : Nat) : ∀ k j, j ≤ i → i < j + k → gone (va_up d i v) k j + d i = gone d k j + v
  | 0, j, h1, h2 => by omega
  | k + 1, j, h1, h2 => by
    show va_up d i v j + gone (va_up d i v) k (j + 1) + d i = d j + gone d k (j + 1) + v
    by_cases e : j = i
    · rw [e, va_up_self, gone_lt (a := va_up d i v) (b := d) k (i + 1) (fun q h3 h4 => va_up_ne _ _ (by omega))]
      omega
    · have := gone_up d i v k (j + 1) (by omega) (by omega)
      rw [va_up_ne _ _ e]
      omega
theorem bS_up {n i : Nat} (hin : i < n) (Cs : Nat → Nat → Nat) (C' : Nat → Nat) : bS n (va_up Cs i C') + bud (Cs i) = bS n Cs + bud C' := by
  have e : gone (fun j => bud (va_up Cs i C' j)) n 0 = gone (va_up (fun j => bud (Cs j)) i (bud C')) n 0 := gone_lt n 0 fun j _ _ => by
    by_cases q : j = i
    · rw [q, va_up_self, va_up_self]
    · rw [va_up_ne _ _ q, va_up_ne _ _ q]
  have := gone_up (fun j => bud (Cs j)) i (bud C') n 0 (Nat.zero_le _) (by omega)
  unfold bS
  rw [e]
  have this : gone (va_up (fun j => bud (Cs j)) i (bud C')) n 0 + bud (Cs i) = gone (fun j => bud (Cs j)) n 0 + bud C' := this
  omega
theorem bS_add {n : Nat} (hn : n < 4) (Cs : Nat → Nat → Nat) : bS (n + 1) (va_up Cs n (fun _ => 8)) ≤ bS n Cs := by
  unfold bS
  rw [gone_snoc, gone_lt (a := fun i => bud (va_up Cs n (fun _ => 8) i)) (b := fun i => bud (Cs i)) n 0 (fun i _ h => by rw [va_up_ne _ _ (by omega)]), Nat.zero_add, va_up_self]
  have : bud (fun _ => 8) = 98256 := by decide
  rw [this]
  have : (4 - n) * 98304 = (4 - (n + 1)) * 98304 + 98304 := by
    rw [show 4 - n = (4 - (n + 1)) + 1 by omega, Nat.add_mul, Nat.one_mul]
  omega
section
variable {x : Nat → Nat} {m : MM} {g : Nat → Nat} {n ck : Nat} {sa kd rt hz : Nat → Nat} {Cs : Nat → Nat → Nat} {al : List AT} {c : Nat} {kc ks : Nat}
theorem Iv.adv (hI : Iv n ck kd rt hz Cs al (c + 1)) {s : Nat} (hs : s ≤ 1000000) : Iv n (ck + s) kd rt (hzE rt (ck + s) hz 4) Cs al c := by
  obtain ⟨h1, h2, h3, h4, h5, h6, h7, h8⟩ := hI
  refine ⟨h1, by omega, h3, fun i hi => ?_, fun i hi => ?_, by omega, fun a ha => ⟨by have := (h7 a ha).1; omega, (h7 a ha).2⟩, h8⟩
  · rw [hzE_lt (by omega)]
    omega
  · rw [hzE_lt (by omega)]
    have w1 := h5 i hi
    have w2 := (h3 i hi).1
    omega
theorem Iv.ret (hI : Iv n ck kd rt hz Cs al (c + 1)) {t s : Nat} (h1s : rmin t ≤ s) (h2s : s ≤ 100000000) : Iv n ck kd (va_up rt t s) (va_up hz t (max (hz t) (ck - s))) Cs al c ∧ ∀ i, i ≤ 3 → va_up hz t (max (hz t) (ck - s)) i = hzE (va_up rt t s) ck hz 4 i := by
  obtain ⟨h1, h2, h3, h4, h5, h6, h7, h8⟩ := hI
  refine ⟨⟨h1, by omega, fun i hi => ?_, fun i hi => ?_, fun i hi => ?_, by omega, h7, h8⟩, fun i hi => ?_⟩
  · by_cases q : i = t
    · rw [q, va_up_self]; exact ⟨h1s, h2s⟩
    · rw [va_up_ne _ _ q]; exact h3 i hi
  · by_cases q : i = t
    · rw [q, va_up_self, va_up_self]; omega
    · rw [va_up_ne _ _ q, va_up_ne _ _ q]; exact h4 i hi
  · by_cases q : i = t
    · have w1 := h5 i hi
      rw [q] at w1
      rw [q, va_up_self]
      omega
    · rw [va_up_ne _ _ q]; exact h5 i hi
  · rw [hzE_lt (by omega)]
    by_cases q : i = t
    · rw [q, va_up_self, va_up_self]
    · rw [va_up_ne _ _ q, va_up_ne _ _ q]
      have := h4 i hi
      omega
theorem Iv.add (hI : Iv n ck kd rt hz Cs al (c + 1)) (hal : ∀ a ∈ al, a.1 < n) {k : Nat} (hk : k ≤ 1) : Iv (n + 1) ck (va_up kd n k) rt hz (va_up Cs n (fun _ => 8)) al c := by
  obtain ⟨h1, h2, h3, h4, h5, h6, h7, h8⟩ := hI
  refine ⟨fun i hi => ?_, by omega, h3, h4, h5, by omega, fun a ha => ⟨(h7 a ha).1, ?_⟩, fun i hi j j1 j3 => ?_⟩
  · by_cases q : i = n
    · rw [q, va_up_self]; exact hk
    · rw [va_up_ne _ _ q]; exact h1 i (by omega)
  · have := hal a ha
    rw [va_up_ne _ _ (by omega)]
    exact (h7 a ha).2
  · by_cases q : i = n
    · rw [q, va_up_self]; exact Or.inl rfl
    · rw [va_up_ne _ _ q]; exact h8 i (by omega) j j1 j3
/-- behind writes to the series i -/
theorem Lw.wr {m' : MM} {g' : Nat → Nat} {C' : Nat → Nat} {al' : List AT} {i s E a b : Nat} (hI : Iv n ck kd rt hz Cs al (c + 1)) (hkc : 200 * (c + 1) ≤ kc) (hks : 600 * (c + 1) + bS n Cs ≤ ks) (hin : i < n) (hB : Bo x m' g' n ck sa kd rt hz (va_up Cs i C') al') (hbud : s + bud C' ≤ E + bud (Cs i)) (hpw : ∀ j, 1 ≤ j → j ≤ 3 → pw (C' j)) (hlen : al'.length ≤ al.length + 20) (hval : ∀ a ∈ al', a.2.1 ≤ ck ∧ okV (kd a.1) a.2.2) (ha : a ≤ 200) (hb : E + b ≤ 600) : Lw x m' c (kc - a) (ks - (s + b)) := by
  obtain ⟨h1, h2, h3, h4, h5, h6, h7, h8⟩ := hI
  have := bS_up hin Cs C'
  refine ⟨g', n, ck, sa, kd, rt, hz, va_up Cs i C', al', hB, ⟨h1, by omega, h3, h4, h5, by omega, hval, fun q hq j j1 j3 => ?_⟩, by omega, by omega⟩
  by_cases e : q = i
  · rw [e, va_up_self]; exact hpw j j1 j3
  · rw [va_up_ne _ _ e]; exact h8 q hq j j1 j3
theorem Ou.st {m' : MM} {g' : Nat → Nat} {S : Nat → Prop} (h : Ou x m g) (hg : ∀ a, mK m a ≠ 0 → g' a = g a) (hF : Fr S m m') : Ou x m' g' := (h.tag hg).fr hF
variable {xs : Nat → Int32} {LL : Nat} {K : Nat → Nat → Nat → Nat → Int32 → MM → Nat → Nat → Prop} {l5 : Int32}
theorem lc_501 (hB : Bo x m g n ck sa kd rt hz Cs al) (hI : Iv n ck kd rt hz Cs al (c + 1)) (hkc : 200 * (c + 1) ≤ kc) (hks : 600 * (c + 1) + bS n Cs ≤ ks) (hv : ∀ j, 1 ≤ j → j ≤ 6 → vp_in (l5 + nI j) LL) (hK : ∀ m' kc' ks', Lw x m' c kc' ks' → K (x 0) (x 6) (x 14) (x 15) (l5 + 7) m' kc' ks') : wp_L_law_501 xs LL K (x 0) (x 6) (x 14) (x 15) l5 m kc ks := by
  unfold wp_L_law_501 wp_L_advance
  have v1 : vp_in (l5 + (1 : Int32)) LL := hv 1 (by decide) (by decide)
  obtain ⟨hS, hM, hO⟩ := id hB
  have hck := hI.2.1
  refine ⟨v1, by omega, by omega, hS.1.1, sp_X5_advance hS (by omega) hI.rtb hI.hzb hB.srt (fun hno => ⟨fun z => absurd z (by decide), fun _ kc1 ks1 e1 e2 => ?_, fun _ z => absurd rfl z⟩) (fun s es s1 s2 m1 g1 r S1 T1 F1 hr => ⟨(hO.st T1 F1).1, by rw [(hO.st T1 F1).2.1]; exact vp_in_nI (n := 0) (by decide) (by decide), fun m6 e6 kc1 ks1 e1 e2 => ?_⟩)⟩
  · rw [e1, e2]
    refine ⟨v1, hM.1.1, md_advance hM (by omega) hI.rtb hI.hzb (fun _ m' d' t' f' => fin_ro_I (Kx := KX K x l5 (kc - 1) (ks - 6)) hS hM hO d' t' f' (fun z => absurd z (by decide)) (fun m' h y e => by rw [e]; exact hK _ _ _ (h.less hI hkc hks (by decide) (by decide)))) (fun s es s1 s2 => (hno s es s1 s2).elim)⟩
  · rw [e1, e2]
    have d1 := hM.st T1 F1
    have o1 := hO.st T1 F1
    obtain ⟨s6, d6, o6, w6⟩ := out3 S1 d1 o1 e6
    refine ⟨v1, d6.1.1, md_advance d6 (by omega) hI.rtb hI.hzb (fun q => (q s es s1 s2).elim) (fun s' es' s1' s2' m' d' t' f' => ?_)⟩
    have ess := win_eq (f := s) (f' := s') (by omega) (by omega) es es'
    subst ess
    obtain ⟨q1, q2, q3, -⟩ := mod3 s6 d6 o6 f'
    refine fin_I (Kx := KX K x l5 (kc - 1) (ks - 6)) d'.1.1 q2 t' (fun _ => ?_) (fun y e => ?_)
    · rw [q3, w6]
      have hr : r + gone (fun i => all4 (hzE rt (ck + s') hz 4) (sub i al)) n 0 = gone (fun i => all4 hz (sub i al)) n 0 := hr
      rw [pk_sub (by omega), show gone (fun i => all4 hz (sub i al)) n 0 - gone (fun i => all4 (hzE rt (ck + s') hz 4) (sub i al)) n 0 = r by omega]
    · rw [e]
      exact hK _ _ _ ⟨g1, n, ck + s', sa, kd, rt, _, Cs, al, ⟨q1, d', q2⟩, hI.adv s2', by omega, by omega⟩
theorem lc_557 (hB : Bo x m g n ck sa kd rt hz Cs al) (hI : Iv n ck kd rt hz Cs al (c + 1)) (hkc : 200 * (c + 1) ≤ kc) (hks : 600 * (c + 1) + bS n Cs ≤ ks) (hv : ∀ j, 1 ≤ j → j ≤ 6 → vp_in (l5 + nI j) LL) (hK : ∀ m' kc' ks', Lw x m' c kc' ks' → K (x 0) (x 6) (x 14) (x 15) (l5 + 7) m' kc' ks') : wp_L_law_557 xs LL K (x 0) (x 6) (x 14) (x 15) l5 m kc ks := by
  unfold wp_L_law_557 wp_L_setRetention
  have v1 : vp_in (l5 + (1 : Int32)) LL := hv 1 (by decide) (by decide)
  have v2 : vp_in (l5 + (2 : Int32)) LL := hv 2 (by decide) (by decide)
  obtain ⟨hS, hM, hO⟩ := id hB
  have hck := hI.2.1
  refine ⟨v1, v2, by omega, by omega, hS.1.1, sp_X5_setRetention hS (by omega) hI.hzb hB.srt (fun hno => ⟨fun z => absurd z (by decide), fun _ kc1 ks1 e1 e2 => ?_, fun _ z => absurd rfl z⟩) (fun t s et ht es s1 s2 m1 g1 S1 T1 F1 => ⟨(hO.st T1 F1).1, by rw [(hO.st T1 F1).2.1]; exact vp_in_nI (n := 0) (by decide) (by decide), fun m6 e6 kc1 ks1 e1 e2 => ?_⟩)⟩
  · rw [e1, e2]
    refine ⟨v1, v2, hM.1.1, md_setRetention (by omega) hI.rtb hI.hzb hM (fun _ m' d' t' f' => fin_ro_I (Kx := KX K x l5 (kc - 2) (ks - 12)) hS hM hO d' t' f' (fun z => absurd z (by decide)) (fun m' h y e => by rw [e]; exact hK _ _ _ (h.less hI hkc hks (by decide) (by decide)))) (fun t s et ht es s1 s2 => (hno t s et ht es s1 s2).elim)⟩
  · rw [e1, e2]
    have d1 := hM.st T1 F1
    have o1 := hO.st T1 F1
    obtain ⟨s6, d6, o6, w6⟩ := out3 S1 d1 o1 e6
    refine ⟨v1, v2, d6.1.1, md_setRetention (by omega) hI.rtb hI.hzb d6 (fun q => (q t s et ht es s1 s2).elim) (fun t9 s9 et9 ht9 es9 s19 s29 m' d' t' f' => ?_)⟩
    have et2 := tier_eq ht ht9 et et9
    have es2 := win_eq (f := s) (f' := s9) (by omega) (by omega) es es9
    subst et2
    subst es2
    obtain ⟨q1, q2, q3, -⟩ := mod3 s6 d6 o6 f'
    obtain ⟨i1, i2⟩ := hI.ret (t := t9) (s := s9) s19 s29
    refine fin_I (Kx := KX K x l5 (kc - 2) (ks - 12)) d'.1.1 q2 t' (fun _ => ?_) (fun y e => ?_)
    · rw [q3, w6]
    · rw [e]
      exact hK _ _ _ ⟨g1, n, ck, sa, kd, _, _, Cs, al, ⟨q1, d'.hzc i2, q2⟩, i1, by omega, by omega⟩
theorem lc_172 (hB : Bo x m g n ck sa kd rt hz Cs al) (hI : Iv n ck kd rt hz Cs al (c + 1)) (hkc : 200 * (c + 1) ≤ kc) (hks : 600 * (c + 1) + bS n Cs ≤ ks) (hv : ∀ j, 1 ≤ j → j ≤ 6 → vp_in (l5 + nI j) LL) (hK : ∀ m' kc' ks', Lw x m' c kc' ks' → K (x 0) (x 6) (x 14) (x 15) (l5 + 7) m' kc' ks') : wp_L_law_172 xs LL K (x 0) (x 6) (x 14) (x 15) l5 m kc ks := by
  unfold wp_L_law_172 wp_L_addSeries
  have v1 : vp_in (l5 + (1 : Int32)) LL := hv 1 (by decide) (by decide)
  obtain ⟨hS, hM, hO⟩ := id hB
  refine ⟨v1, by omega, by omega, hS.1.1, sp_X5_addSeries hS (fun hno => ⟨fun z => absurd z (by decide), fun _ kc1 ks1 e1 e2 => ?_, fun _ z => absurd rfl z⟩) (fun k ek hk n4 => ⟨fun z => absurd z (by decide), fun z => absurd z (by decide), fun _ _ kc1 ks1 e1 e2 => ?_⟩) (fun k ek hk hn m1 g1 s S1 T1 F1 => ⟨(hO.st T1 F1).1, by rw [(hO.st T1 F1).2.1]; exact vp_in_nI (n := 0) (by decide) (by decide), fun m6 e6 kc1 ks1 e1 e2 => ?_⟩)⟩
  · rw [e1, e2]
    refine ⟨v1, hM.1.1, md_addSeries hM (fun _ m' d' t' f' => fin_ro_I (Kx := KX K x l5 (kc - 11) (ks - 247)) hS hM hO d' t' f' (fun z => absurd z (by decide)) (fun m' h y e => by rw [e]; exact hK _ _ _ (h.less hI hkc hks (by decide) (by decide)))) (fun k ek hk _ m' d' t' f' => ?_) (fun k ek hk _ m' d' t' f' => ?_)⟩
    · have := hno k ek
      omega
    · have := hno k ek
      omega
  · rw [e1, e2]
    refine ⟨v1, hM.1.1, md_addSeries hM (fun q m' d' t' f' => ?_) (fun _ _ _ _ m' d' t' f' => fin_ro_I (Kx := KX K x l5 (kc - 11) (ks - 247)) hS hM hO d' t' f' (fun z => absurd z (by decide)) (fun m' h y e => by rw [e]; exact hK _ _ _ (h.less hI hkc hks (by decide) (by decide)))) (fun k' ek' hk' hn m' d' t' f' => by omega)⟩
    have := q k ek
    omega
  · rw [e1, e2]
    have d1 := hM.st T1 F1
    have o1 := hO.st T1 F1
    obtain ⟨s6, d6, o6, w6⟩ := out3 S1 d1 o1 e6
    refine ⟨v1, d6.1.1, md_addSeries d6 (fun q m' d' t' f' => ?_) (fun k' ek' hk' n4 m' d' t' f' => by omega) (fun k' ek' hk' _ m' d' t' f' => ?_)⟩
    · have := q k ek
      omega
    · have ek2 := win_eq (f := k) (f' := k') (by omega) (by omega) ek ek'
      subst ek2
      obtain ⟨q1, q2, q3, -⟩ := mod3 s6 d6 o6 f'
      refine fin_I (Kx := KX K x l5 (kc - 11) (ks - 247)) d'.1.1 q2 t' (fun _ => ?_) (fun y e => ?_)
      · rw [q3, w6]
      · rw [e]
        have hb := bS_add hn Cs
        have S2 : St x m' g1 (n + 1) ck (va_up sa n s) (va_up kd n k') rt hz (pl al) (va_up Cs n (fun _ => 8)) := q1.plc fun i hi => by
          by_cases q : i = n
          · rw [q, va_up_self]
            refine List.eq_nil_iff_forall_not_mem.mpr fun p hp => ?_
            have := (hM.small _ (mem_sub.mp hp)).1
            exact absurd this (Nat.lt_irrefl _)
          · rw [va_up_ne _ _ q]
        exact hK _ _ _ ⟨g1, n + 1, ck, _, _, rt, hz, _, al, ⟨S2, d', q2⟩, hI.add (fun a ha => (hM.small a ha).1) hk, by omega, by omega⟩
end
