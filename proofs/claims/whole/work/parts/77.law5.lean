/-! THE LAW'S WRITES -/
theorem PM_det (hz : Nat → Nat) (ck kdi x0 st : Nat) (v0 rs : Int32) : ∀ (k d : Nat) (P : List (Nat × Int32)) (C : Nat → Nat) (d1 d2 : Nat) (P1 P2 : List (Nat × Int32)) (C1 C2 : Nat → Nat) (s1 s2 : Nat), PM hz ck kdi x0 st v0 rs k d P C d1 P1 C1 s1 → PM hz ck kdi x0 st v0 rs k d P C d2 P2 C2 s2 → d2 = d1 ∧ P2 = P1 ∧ C2 = C1 ∧ s2 = s1
  | 0, d, P, C, d1, d2, P1, P2, C1, C2, s1, s2, h1, h2 => by
    obtain ⟨rfl, rfl, rfl, rfl⟩ := h1
    obtain ⟨rfl, rfl, rfl, rfl⟩ := h2
    exact ⟨rfl, rfl, rfl, rfl⟩
  | k + 1, d, P, C, d1, d2, P1, P2, C1, C2, s1, s2, h1, h2 => by
    rcases h1 with ⟨q1, t1, h1, e1⟩ | ⟨q1, rfl, rfl, rfl, rfl⟩ <;> rcases h2 with ⟨q2, t2, h2, e2⟩ | ⟨q2, rfl, rfl, rfl, rfl⟩
    · obtain ⟨w1, w2, w3, w4⟩ := PM_det hz ck kdi x0 st v0 rs k (d + 1) _ _ d1 d2 P1 P2 C1 C2 t1 t2 h1 h2
      exact ⟨w1, w2, w3, by rw [e1, e2, w4]⟩
    · exact absurd q1 q2
    · exact absurd q2 q1
    · exact ⟨rfl, rfl, rfl, rfl⟩
theorem al_len {n : Nat} : ∀ (al : List AT), (∀ a ∈ al, a.1 < n) → al.length = gone (fun i => (sub i al).length) n 0
  | [], _ => by
    have : ∀ k j, gone (fun i => (sub i ([] : List AT)).length) k j = 0 := fun k => by
      induction k with
      | zero => intro j; rfl
      | succ k ih =>
        intro j
        show 0 + gone (fun i => (sub i ([] : List AT)).length) k (j + 1) = 0
        rw [ih]
    rw [this]
    rfl
  | a :: l, h => by
    have ih := al_len l (fun b hb => h b (List.mem_cons_of_mem _ hb))
    have ha := h a List.mem_cons_self
    have e : gone (fun i => (sub i (a :: l)).length) n 0 = gone (va_up (fun i => (sub i l).length) a.1 ((sub a.1 l).length + 1)) n 0 := gone_congr (fun i => by
      by_cases q : i = a.1
      · rw [q, va_up_self, sub_cons_eq rfl, List.length_cons]
      · rw [va_up_ne _ _ q, sub_cons_ne (fun z => q z.symm)]) n 0
    have w := gone_up (fun i => (sub i l).length) a.1 ((sub a.1 l).length + 1) n 0 (Nat.zero_le _) (by omega)
    rw [e, List.length_cons]
    have w : gone (va_up (fun i => (sub i l).length) a.1 ((sub a.1 l).length + 1)) n 0 + (sub a.1 l).length = gone (fun i => (sub i l).length) n 0 + ((sub a.1 l).length + 1) := w
    omega
theorem al_len_up {n i : Nat} {al al' : List AT} (hin : i < n) (h : ∀ a ∈ al, a.1 < n) (h' : ∀ a ∈ al', a.1 < n) (he : ∀ j, j ≠ i → sub j al' = sub j al) : al'.length + (sub i al).length = al.length + (sub i al').length := by
  rw [al_len al h, al_len al' h']
  have e : gone (fun j => (sub j al').length) n 0 = gone (va_up (fun j => (sub j al).length) i (sub i al').length) n 0 := gone_congr (fun j => by
    by_cases q : j = i
    · rw [q, va_up_self]
    · rw [va_up_ne _ _ q, he j q]) n 0
  have w := gone_up (fun j => (sub j al).length) i (sub i al').length n 0 (Nat.zero_le _) (by omega)
  rw [e]
  exact w
theorem bud_cN {hz : Nat → Nat} {P : List (Nat × Int32)} {C C' : Nat → Nat} {y : Nat} (hC : ∀ j, 1 ≤ j → j ≤ 3 → C' j = capV (bg (ln j) y) (C j) (gk (ln j) (hz j) P)) : bud C' = bud (cN hz P C y) := by
  unfold bud
  rw [hC 1 (by decide) (by decide), hC 2 (by decide) (by decide), hC 3 (by decide) (by decide)]
  rfl
section
variable {x : Nat → Nat} {m : MM} {g : Nat → Nat} {n ck : Nat} {sa kd rt hz : Nat → Nat} {Cs : Nat → Nat → Nat} {al : List AT} {c : Nat} {kc ks : Nat} {xs : Nat → Int32} {LL : Nat} {K : Nat → Nat → Nat → Nat → Int32 → MM → Nat → Nat → Prop} {l5 : Int32}
theorem lc_228 (hB : Bo x m g n ck sa kd rt hz Cs al) (hI : Iv n ck kd rt hz Cs al (c + 1)) (hkc : 200 * (c + 1) ≤ kc) (hks : 600 * (c + 1) + bS n Cs ≤ ks) (hv : ∀ j, 1 ≤ j → j ≤ 6 → vp_in (l5 + nI j) LL) (hK : ∀ m' kc' ks', Lw x m' c kc' ks' → K (x 0) (x 6) (x 14) (x 15) (l5 + 7) m' kc' ks') : wp_L_law_228 xs LL K (x 0) (x 6) (x 14) (x 15) l5 m kc ks := by
  unfold wp_L_law_228
  have v1 : vp_in (l5 + (1 : Int32)) LL := hv 1 (by decide) (by decide)
  have v2 : vp_in (l5 + (2 : Int32)) LL := hv 2 (by decide) (by decide)
  have v3 : vp_in (l5 + (3 : Int32)) LL := hv 3 (by decide) (by decide)
  obtain ⟨hS, hM, hO⟩ := id hB
  have hn := hB.n4
  have hck := hI.2.1
  have hall := hI.2.2.2.2.2.1
  generalize xs (l5 + (1 : Int32)).toNatClampNeg = p1
  generalize xs (l5 + (2 : Int32)).toNatClampNeg = p2
  generalize xs (l5 + (3 : Int32)).toNatClampNeg = p3
  have h100 : ∀ i, i < n → (_root_.Jvm.Pilot.CRollupStoreLaw_law_r5158_f1a2ae.hi kf (hz 0) (sub i al)).length ≤ 100 := fun i hin => hS.h100 i hin
  -- what the write costs, if there is one
  have hcost : ∃ s0, (∀ i y, i < n → p1 = nI i → p2 = nI y → y ≤ ck → okV (kd i) p3 → (ck ≤ y + 3600 ∧ ((_root_.Jvm.Pilot.CRollupStoreLaw_law_r5158_f1a2ae.hi kf (hz 0) (sub i al)).length < 100 ∨ ∃ b ∈ _root_.Jvm.Pilot.CRollupStoreLaw_law_r5158_f1a2ae.hi kf (hz 0) (sub i al), b.1 = y)) → s0 = sV hz (sub i al) (Cs i) y) ∧ ((∀ i y, i < n → p1 = nI i → p2 = nI y → y ≤ ck → okV (kd i) p3 → ¬ (ck ≤ y + 3600 ∧ ((_root_.Jvm.Pilot.CRollupStoreLaw_law_r5158_f1a2ae.hi kf (hz 0) (sub i al)).length < 100 ∨ ∃ b ∈ _root_.Jvm.Pilot.CRollupStoreLaw_law_r5158_f1a2ae.hi kf (hz 0) (sub i al), b.1 = y))) → s0 = 0) ∧ s0 + 18 ≤ ks := by
    by_cases hex : ∃ i y, i < n ∧ p1 = nI i ∧ p2 = nI y ∧ y ≤ ck ∧ okV (kd i) p3 ∧ (ck ≤ y + 3600 ∧ ((_root_.Jvm.Pilot.CRollupStoreLaw_law_r5158_f1a2ae.hi kf (hz 0) (sub i al)).length < 100 ∨ ∃ b ∈ _root_.Jvm.Pilot.CRollupStoreLaw_law_r5158_f1a2ae.hi kf (hz 0) (sub i al), b.1 = y))
    · obtain ⟨i, y, hi, e, ey, hy, hvv, hpl⟩ := hex
      refine ⟨sV hz (sub i al) (Cs i) y, fun i' y' hi' e' ey' hy' _ _ => ?_, fun q => absurd hpl (q i y hi e ey hy hvv), ?_⟩
      · rw [same_i hi hi' hn e e', win_eq (f := y) (f' := y') (by omega) (by omega) ey ey']
      · have h1 := (sV_one (hz := hz) (P := sub i al) (C := Cs i) (x := y) (hI.2.2.2.2.2.2.2 i hi) (by have := hI.len i; omega)).1
        have h2 := bS_up hi Cs (cN hz (sub i al) (Cs i) y)
        omega
    · exact ⟨0, fun i y a1 a2 a3 a4 a5 a6 => absurd ⟨i, y, a1, a2, a3, a4, a5, a6⟩ hex, fun _ => rfl, by omega⟩
  obtain ⟨s0, hs1, hs0, hs2⟩ := hcost
  -- nothing is written
  have KK : s0 = 0 → ∀ m', Bo x m' g n ck sa kd rt hz Cs al → KX K x l5 (kc - 9) (ks - (s0 + 18)) m' := fun z m' h y e => by
    rw [e, z]
    exact hK _ _ _ (h.less hI hkc hks (by decide) (by decide))
  unfold wp_L_put
  refine ⟨v1, v2, v3, 9, s0 + 18, by omega, hs2, 9, s0 + 18, Nat.le_refl _, Nat.le_refl _, hS.1.1, sp_X5_put hS hI.1 (by omega) hI.hzs (fun i hi => ⟨hB.srt i hi, by have := hI.len i; show (sub i al).length + 1 < 2 ^ 29; omega, fun j _ _ => Nat.lt_of_le_of_lt (gk_len _ _ _) (by have := hI.len i; show (sub i al).length < 16384; omega)⟩) (by decide) (by omega) (fun i y hi e ey hy hvv hpl => ?_) (fun hb => ⟨fun _ kc1 ks1 e1 e2 => ?_, fun z => absurd z (by decide), fun z => absurd rfl z⟩) (fun i hi e hno => ⟨fun z => absurd z (by decide), fun _ kc1 ks1 e1 e2 => ?_, fun _ z => absurd rfl z⟩) (fun i y hi e ey hy hvv hno => ⟨fun z => absurd z (by decide), fun z => absurd z (by decide), fun _ _ kc1 ks1 e1 e2 => ?_⟩) (fun i y hi e ey hy hvv hpl r m1 g1 C' r1 r0 S1 hC T1 F1 kc8 ks9 _ _ => ?_)⟩
  · have h1 := hs1 i y hi e ey hy hvv hpl
    have h2 := sC_le hz (sub i al) y
    have h3 : sC hz (pl al i) y ≤ 6 := h2
    have h4 : sV hz (pl al i) (Cs i) y = s0 := h1.symm
    omega
  · rw [e1, e2]
    have z0 := hs0 (fun i y hi e _ _ _ => (ex_bad hb hi hn e).elim)
    exact ⟨v1, v2, v3, hM.1.1, md_put hM hI.1 (by omega) (hI.hzb1 0 (by decide)) h100 (by omega) (fun _ m' d' t' f' => fin_ro_B (Kx := KX K x l5 (kc - 9) (ks - (s0 + 18))) hS hM hO d' t' f' (fun z => absurd z (by decide)) (KK z0)) (fun i hi e _ => (ex_bad hb hi hn e).elim) (fun i y hi e _ _ _ _ => (ex_bad hb hi hn e).elim) (fun i y hi e _ _ _ _ => (ex_bad hb hi hn e).elim)⟩
  · rw [e1, e2]
    have z0 := hs0 (fun i' y hi' e' ey hy hvv => by
      rw [same_i hi hi' hn e e'] at hvv
      exact absurd hvv (hno y ey hy))
    refine ⟨v1, v2, v3, hM.1.1, md_put hM hI.1 (by omega) (hI.hzb1 0 (by decide)) h100 (by omega) (fun q => (ex_bad q hi hn e).elim) (fun _ _ _ _ m' d' t' f' => fin_ro_B (Kx := KX K x l5 (kc - 9) (ks - (s0 + 18))) hS hM hO d' t' f' (fun z => absurd z (by decide)) (KK z0)) (fun i' y hi' e' ey hy hvv _ m' d' t' f' => ?_) (fun i' y hi' e' ey hy hvv _ r m' _ _ d' t' f' => ?_)⟩
    · rw [same_i hi hi' hn e e'] at hvv
      exact absurd hvv (hno y ey hy)
    · rw [same_i hi hi' hn e e'] at hvv
      exact absurd hvv (hno y ey hy)
  · rw [e1, e2]
    have z0 := hs0 (fun i' y' hi' e' ey' hy' hvv' => by
      rw [same_i hi hi' hn e e', win_eq (f := y) (f' := y') (by omega) (by omega) ey ey']
      exact hno)
    refine ⟨v1, v2, v3, hM.1.1, md_put hM hI.1 (by omega) (hI.hzb1 0 (by decide)) h100 (by omega) (fun q => (ex_bad q hi hn e).elim) (fun i' hi' e' q m' d' t' f' => ?_) (fun _ _ _ _ _ _ _ _ m' d' t' f' => fin_ro_B (Kx := KX K x l5 (kc - 9) (ks - (s0 + 18))) hS hM hO d' t' f' (fun z => absurd z (by decide)) (KK z0)) (fun i' y' hi' e' ey' hy' hvv' hpl r m' _ _ d' t' f' => ?_)⟩
    · rw [same_i hi hi' hn e e'] at q
      exact absurd hvv (q y ey hy)
    · rw [same_i hi hi' hn e e', win_eq (f := y) (f' := y') (by omega) (by omega) ey ey'] at hpl
      exact absurd hpl hno
  · have d1 := hM.st T1 (fr_16 F1)
    have o1 := hO.st T1 F1
    have es := hs1 i y hi e ey hy hvv hpl
    have ho : vp_in (0 : Int32) (mN m1 (x 14)) := by rw [o1.2.1]; exact vp_in_nI (n := 0) (by decide) (by decide)
    have done : ∀ (v : Int64), (r = 0 ∧ v = 0 ∨ ¬ r = 0 ∧ v = 1) → ∀ m6, m6 = sAJ m1 (x 14) (va_up (mAJ m1 (x 14)) (0 : Int32).toNatClampNeg v) → ∀ kc1 ks1, kc1 = kc - 9 → ks1 = ks - (s0 + 18) → vp_in (l5 + (1 : Int32)) LL ∧ vp_in (l5 + (2 : Int32)) LL ∧ vp_in (l5 + (3 : Int32)) LL ∧ mK m6 (x 6) = 7 ∧ wp_X6_put (x 6) p1 p2 p3 m6 (fun rb mb => mK mb (x 6) = 7 ∧ wp_X6_thrown (x 6) mb (fun kt mt => TB (x 14) (KX K x l5 kc1 ks1) 0 rb kt mt)) := fun v hrv m6 e6 kc1 ks1 e1 e2 => by
      obtain ⟨s6, d6, o6, w6⟩ := out3 S1 d1 o1 e6
      refine ⟨v1, v2, v3, d6.1.1, md_put d6 hI.1 (by omega) (hI.hzb1 0 (by decide)) h100 (by omega) (fun q => (ex_bad q hi hn e).elim) (fun i' hi' e' q m' d' t' f' => ?_) (fun i' y' hi' e' ey' hy' hvv' q m' d' t' f' => ?_) (fun i' y' hi' e' ey' hy' hvv' _ r' m' p1' p0' d' t' f' => ?_)⟩
      · rw [same_i hi hi' hn e e'] at q
        exact absurd hvv (q y ey hy)
      · rw [same_i hi hi' hn e e', win_eq (f := y) (f' := y') (by omega) (by omega) ey ey'] at q
        exact absurd hpl q
      · have ei := same_i hi hi' hn e e'
        have eyy := win_eq (f := y) (f' := y') (by omega) (by omega) ey ey'
        rw [ei, eyy] at d' p1' p0'
        have er : r' = r := by
          by_cases q : ∃ b ∈ sub i al, b.1 = y
          · rw [p1' q, r1 q]
          · rw [p0' (fun b hb e => q ⟨b, hb, e⟩), r0 (fun b hb e => q ⟨b, hb, e⟩)]
        obtain ⟨q1, q2, q3, -⟩ := mod3 s6 d6 o6 f'
        refine fin_B d'.1.1 q2 t' (fun _ => ?_) (fun z ez => ?_)
        · rw [q3, w6, er]
          exact hrv
        · rw [ez, e1, e2]
          have S2 : St x m' g1 n ck sa kd rt hz (pl (ins ky (i, y, p3) al)) (va_up Cs i C') := q1.plc fun j hj => by
            by_cases q : j = i
            · rw [q, va_up_self]
              exact sub_ins hM.srt i y p3
            · rw [va_up_ne _ _ q]
              exact sub_ins_ne hM.srt (fun a ha => (hM.small a ha).2) (by omega) q
          have hone := sV_one (hz := hz) (P := sub i al) (C := Cs i) (x := y) (hI.2.2.2.2.2.2.2 i hi) (by have := hI.len i; omega)
          have hbc : bud C' = bud (cN hz (sub i al) (Cs i) y) := bud_cN hC
          have hil := ins_le hM.srt (i, y, p3)
          refine hK _ _ _ (Lw.wr (E := 24) hI hkc hks hi ⟨S2, d', q2⟩ (by rw [hbc, es]; exact hone.1) (fun j j1 j3 => ?_) (by omega) (fun a ha => ?_) (by decide) (by decide))
          · have := hone.2 j j1 j3
            rw [hC j j1 j3]
            exact this
          · rcases mem_ins.mp ha with rfl | ⟨q, -⟩
            · exact ⟨hy, hvv⟩
            · exact hI.2.2.2.2.2.2.1 a q
    exact ⟨fun z => ⟨o1.1, ho, fun m6 e6 kc1 ks1 e1 e2 => done 0 (Or.inl ⟨z, rfl⟩) m6 e6 kc1 ks1 e1 e2⟩, fun z => ⟨o1.1, ho, fun m6 e6 kc1 ks1 e1 e2 => done 1 (Or.inr ⟨z, rfl⟩) m6 e6 kc1 ks1 e1 e2⟩⟩
theorem lc_433 (hB : Bo x m g n ck sa kd rt hz Cs al) (hI : Iv n ck kd rt hz Cs al (c + 1)) (hkc : 200 * (c + 1) ≤ kc) (hks : 600 * (c + 1) + bS n Cs ≤ ks) (hv : ∀ j, 1 ≤ j → j ≤ 6 → vp_in (l5 + nI j) LL) (hK : ∀ m' kc' ks', Lw x m' c kc' ks' → K (x 0) (x 6) (x 14) (x 15) (l5 + 7) m' kc' ks') : wp_L_law_433 xs LL K (x 0) (x 6) (x 14) (x 15) l5 m kc ks := by
  unfold wp_L_law_433
  have v1 : vp_in (l5 + (1 : Int32)) LL := hv 1 (by decide) (by decide)
  have v2 : vp_in (l5 + (2 : Int32)) LL := hv 2 (by decide) (by decide)
  obtain ⟨hS, hM, hO⟩ := id hB
  have hn := hB.n4
  have hck := hI.2.1
  have hall := hI.2.2.2.2.2.1
  generalize xs (l5 + (1 : Int32)).toNatClampNeg = p1
  generalize xs (l5 + (2 : Int32)).toNatClampNeg = p2
  have htimes : ∀ i b, b ∈ _root_.Jvm.Pilot.CRollupStoreLaw_law_r5158_f1a2ae.hi kf (hz 0) (sub i al) → b.1 ≤ ck := fun i b hb => (hI.2.2.2.2.2.2.1 _ (mem_sub.mp (mem_hi.mp hb).1)).1
  have hone' : ∀ i b b', i < n → b ∈ _root_.Jvm.Pilot.CRollupStoreLaw_law_r5158_f1a2ae.hi kf (hz 0) (sub i al) → b' ∈ _root_.Jvm.Pilot.CRollupStoreLaw_law_r5158_f1a2ae.hi kf (hz 0) (sub i al) → p2 = nI b.1 → p2 = nI b'.1 → b' = b := fun i b b' hi hb hb' e e' => by
    have h1 := htimes i b hb
    have h2 := htimes i b' hb'
    have h3 : b'.1 = b.1 := win_eq (by omega) (by omega) e e'
    exact Srt.one (f := kf) ((sub_srt hM.srt i).filter _) hb' hb h3
  have hcost : ∃ s0, (∀ i b, i < n → p1 = nI i → b ∈ _root_.Jvm.Pilot.CRollupStoreLaw_law_r5158_f1a2ae.hi kf (hz 0) (sub i al) → p2 = nI b.1 → ck ≤ b.1 + 3600 → s0 = sV hz (sub i al) (Cs i) b.1) ∧ ((∀ i b, i < n → p1 = nI i → b ∈ _root_.Jvm.Pilot.CRollupStoreLaw_law_r5158_f1a2ae.hi kf (hz 0) (sub i al) → p2 = nI b.1 → ¬ ck ≤ b.1 + 3600) → s0 = 0) ∧ s0 + 18 ≤ ks := by
    by_cases hex : ∃ i b, i < n ∧ p1 = nI i ∧ b ∈ _root_.Jvm.Pilot.CRollupStoreLaw_law_r5158_f1a2ae.hi kf (hz 0) (sub i al) ∧ p2 = nI b.1 ∧ ck ≤ b.1 + 3600
    · obtain ⟨i, b, hi, e, hb, eb, ho⟩ := hex
      refine ⟨sV hz (sub i al) (Cs i) b.1, fun i' b' hi' e' hb' eb' _ => ?_, fun q => absurd ho (q i b hi e hb eb), ?_⟩
      · rw [same_i hi hi' hn e e'] at hb' ⊢
        rw [hone' i b b' hi hb hb' eb eb']
      · have h1 := (sV_one (hz := hz) (P := sub i al) (C := Cs i) (x := b.1) (hI.2.2.2.2.2.2.2 i hi) (by have := hI.len i; omega)).1
        have h2 := bS_up hi Cs (cN hz (sub i al) (Cs i) b.1)
        omega
    · exact ⟨0, fun i b a1 a2 a3 a4 a5 => absurd ⟨i, b, a1, a2, a3, a4, a5⟩ hex, fun _ => rfl, by omega⟩
  obtain ⟨s0, hs1, hs0, hs2⟩ := hcost
  have KK : s0 = 0 → ∀ m', Bo x m' g n ck sa kd rt hz Cs al → KX K x l5 (kc - 9) (ks - (s0 + 18)) m' := fun z m' h y e => by
    rw [e, z]
    exact hK _ _ _ (h.less hI hkc hks (by decide) (by decide))
  unfold wp_L_erase
  refine ⟨v1, v2, 9, s0 + 18, by omega, hs2, 9, s0 + 18, Nat.le_refl _, Nat.le_refl _, hS.1.1, sp_X5_erase hS (by omega) hI.hzs (fun i hi => ⟨hB.srt i hi, by have := hI.len i; show (sub i al).length + 1 < 2 ^ 29; omega, fun b hb => (hI.2.2.2.2.2.2.1 _ (mem_sub.mp hb)).1, fun j _ _ => Nat.lt_of_le_of_lt (gk_len _ _ _) (by have := hI.len i; show (sub i al).length < 16384; omega)⟩) (by decide) (by omega) (fun i b hi e hb eb ho => ?_) (fun hb => ⟨fun _ kc1 ks1 e1 e2 => ?_, fun z => absurd z (by decide), fun z => absurd rfl z⟩) (fun i hi e hno => ⟨fun z => absurd z (by decide), fun z => absurd z (by decide), fun _ _ kc1 ks1 e1 e2 => ?_⟩) (fun i b hi e hb eb ho m1 g1 C' S1 hC T1 F1 kc8 ks9 _ _ => ⟨(hO.st T1 F1).1, by rw [(hO.st T1 F1).2.1]; exact vp_in_nI (n := 0) (by decide) (by decide), fun m6 e6 kc1 ks1 e1 e2 => ?_⟩)⟩
  · have h1 := hs1 i b hi e hb eb ho
    have h2 := sC_le hz (sub i al) b.1
    have h3 : sC hz (pl al i) b.1 ≤ 6 := h2
    have h4 : sV hz (pl al i) (Cs i) b.1 = s0 := h1.symm
    omega
  · rw [e1, e2]
    have z0 := hs0 (fun i b hi e _ _ => (ex_bad hb hi hn e).elim)
    exact ⟨v1, v2, hM.1.1, md_erase hM (by omega) (hI.hzb1 0 (by decide)) (fun _ m' d' t' f' => fin_ro_I (Kx := KX K x l5 (kc - 9) (ks - (s0 + 18))) hS hM hO d' t' f' (fun z => absurd z (by decide)) (KK z0)) (fun i hi e _ => (ex_bad hb hi hn e).elim) (fun i b hi e _ _ _ => (ex_bad hb hi hn e).elim)⟩
  · rw [e1, e2]
    have hno : ∀ b ∈ _root_.Jvm.Pilot.CRollupStoreLaw_law_r5158_f1a2ae.hi kf (hz 0) (sub i al), p2 = nI b.1 → b.1 + 3600 < ck := hno
    have z0 := hs0 (fun i' b hi' e' hb eb => by
      rw [same_i hi hi' hn e e'] at hb
      have := hno b hb eb
      omega)
    refine ⟨v1, v2, hM.1.1, md_erase hM (by omega) (hI.hzb1 0 (by decide)) (fun q => (ex_bad q hi hn e).elim) (fun _ _ _ _ m' d' t' f' => fin_ro_I (Kx := KX K x l5 (kc - 9) (ks - (s0 + 18))) hS hM hO d' t' f' (fun z => absurd z (by decide)) (KK z0)) (fun i' b hi' e' hb eb ho m' d' t' f' => ?_)⟩
    rw [same_i hi hi' hn e e'] at hb
    have := hno b hb eb
    omega
  · rw [e1, e2]
    have hb : b ∈ _root_.Jvm.Pilot.CRollupStoreLaw_law_r5158_f1a2ae.hi kf (hz 0) (sub i al) := hb
    have d1 := hM.st T1 (fr_16 F1)
    have o1 := hO.st T1 F1
    have es := hs1 i b hi e hb eb ho
    have hbc0 := htimes i b hb
    obtain ⟨s6, d6, o6, w6⟩ := out3 S1 d1 o1 e6
    refine ⟨v1, v2, d6.1.1, md_erase d6 (by omega) (hI.hzb1 0 (by decide)) (fun q => (ex_bad q hi hn e).elim) (fun i' hi' e' q m' d' t' f' => ?_) (fun i' b' hi' e' hb' eb' ho' m' d' t' f' => ?_)⟩
    · rw [same_i hi hi' hn e e'] at q
      have := q b hb eb
      omega
    · have ei := same_i hi hi' hn e e'
      rw [ei] at hb' d'
      have ebb := hone' i b b' hi hb hb' eb eb'
      rw [ebb] at d' ⊢
      obtain ⟨q1, q2, q3, -⟩ := mod3 s6 d6 o6 f'
      refine fin_I (Kx := KX K x l5 (kc - 9) (ks - (s0 + 18))) d'.1.1 q2 t' (fun _ => ?_) (fun z ez => ?_)
      · rw [q3, w6]
      · rw [ez]
        have S2 : St x m' g1 n ck sa kd rt hz (pl (del ky (i * 2147483648 + b.1) al)) (va_up Cs i C') := q1.plc fun j hj => by
          by_cases q : j = i
          · rw [q, va_up_self]
            exact sub_del hM.srt i b.1
          · rw [va_up_ne _ _ q]
            exact sub_del_ne hM.srt (fun a ha => (hM.small a ha).2) (by omega) q
        have hone := sV_one (hz := hz) (P := sub i al) (C := Cs i) (x := b.1) (hI.2.2.2.2.2.2.2 i hi) (by have := hI.len i; omega)
        have hbc : bud C' = bud (cN hz (sub i al) (Cs i) b.1) := bud_cN hC
        have hdl : (del ky (i * 2147483648 + b.1) al).length ≤ al.length := List.length_filter_le _ _
        refine hK _ _ _ (Lw.wr (E := 24) hI hkc hks hi ⟨S2, d', q2⟩ (by rw [hbc, es]; exact hone.1) (fun j j1 j3 => ?_) (by omega) (fun a ha => hI.2.2.2.2.2.2.1 a (mem_del.mp ha).1) (by decide) (by decide))
        have := hone.2 j j1 j3
        rw [hC j j1 j3]
        exact this
end
