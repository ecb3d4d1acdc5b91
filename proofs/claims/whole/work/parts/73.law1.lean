/-! THE LAW'S CALLS ABOUT A ROLLUP (made by wip/whole/gen_calls.py) -/
/-- the law goes on behind a call -/
def KX (K : Nat → Nat → Nat → Nat → Int32 → MM → Nat → Nat → Prop) (x : Nat → Nat) (l5 : Int32) (a b : Nat) : MM → Prop := fun mt => ∀ y : Int32, y = l5 + 7 → K (x 0) (x 6) (x 14) (x 15) y mt a b
section
variable {x : Nat → Nat} {m : MM} {g : Nat → Nat} {n ck : Nat} {sa kd rt hz : Nat → Nat} {Cs : Nat → Nat → Nat} {al : List AT}
theorem fin_ro_I {m' : MM} {k : Int32} {r : Int64} {Kx : MM → Prop} (hS : St x m g n ck sa kd rt hz (pl al) Cs) (hM : Md x m g n ck kd rt hz al) (hO : Ou x m g) (d' : Md x m' g n ck kd rt hz al) (t' : mI m' 136 (x 6) = k) (f' : Fr (MS g (x 6)) m m') (hr : k = 0 → mAJ m (x 14) 0 = r) (hK : ∀ m', Bo x m' g n ck sa kd rt hz Cs al → Kx m') : mK m' (x 6) = 7 ∧ wp_X6_thrown (x 6) m' (fun kt mt => TI (x 14) Kx k r kt mt) := by
  obtain ⟨q1, q2, q3, -⟩ := mod3 hS hM hO f'
  exact fin_I d'.1.1 q2 t' (fun e => by rw [q3]; exact hr e) (hK m' ⟨q1, d', q2⟩)
theorem fin_ro_B {m' : MM} {k r : Int32} {Kx : MM → Prop} (hS : St x m g n ck sa kd rt hz (pl al) Cs) (hM : Md x m g n ck kd rt hz al) (hO : Ou x m g) (d' : Md x m' g n ck kd rt hz al) (t' : mI m' 136 (x 6) = k) (f' : Fr (MS g (x 6)) m m') (hr : k = 0 → (r = 0 ∧ mAJ m (x 14) 0 = 0) ∨ (¬ r = 0 ∧ mAJ m (x 14) 0 = 1)) (hK : ∀ m', Bo x m' g n ck sa kd rt hz Cs al → Kx m') : mK m' (x 6) = 7 ∧ wp_X6_thrown (x 6) m' (fun kt mt => TB (x 14) Kx k r kt mt) := by
  obtain ⟨q1, q2, q3, -⟩ := mod3 hS hM hO f'
  exact fin_B d'.1.1 q2 t' (fun e => by rw [q3]; exact hr e) (hK m' ⟨q1, d', q2⟩)
theorem fin_ro_D {m' : MM} {k : Int32} {r : UInt64} {Kx : MM → Prop} (hS : St x m g n ck sa kd rt hz (pl al) Cs) (hM : Md x m g n ck kd rt hz al) (hO : Ou x m g) (d' : Md x m' g n ck kd rt hz al) (t' : mI m' 136 (x 6) = k) (f' : Fr (MS g (x 6)) m m') (hr : k = 0 → mAD m (x 15) 0 = r ∧ isEnc r) (hK : ∀ m', Bo x m' g n ck sa kd rt hz Cs al → Kx m') : mK m' (x 6) = 7 ∧ wp_X6_thrown (x 6) m' (fun kt mt => TD (x 15) Kx k r kt mt) := by
  obtain ⟨q1, q2, -, q4⟩ := mod3 hS hM hO f'
  exact fin_D d'.1.1 q2 t' (fun e => by rw [q4]; exact hr e) (hK m' ⟨q1, d', q2⟩)
end
section
variable {x : Nat → Nat} {m : MM} {g : Nat → Nat} {n ck : Nat} {sa kd rt hz : Nat → Nat} {Cs : Nat → Nat → Nat} {al : List AT} {c : Nat} {xs : Nat → Int32} {LL : Nat} {K : Nat → Nat → Nat → Nat → Int32 → MM → Nat → Nat → Prop} {l5 : Int32} {kc ks : Nat}
theorem lc_923 (hB : Bo x m g n ck sa kd rt hz Cs al) (hI : Iv n ck kd rt hz Cs al (c + 1)) (hkc : 200 * (c + 1) ≤ kc) (hks : 600 * (c + 1) + bS n Cs ≤ ks) (hv : ∀ j, 1 ≤ j → j ≤ 6 → vp_in (l5 + nI j) LL) (hK : ∀ m' kc' ks', Lw x m' c kc' ks' → K (x 0) (x 6) (x 14) (x 15) (l5 + 7) m' kc' ks') : wp_L_law_923 xs LL K (x 0) (x 6) (x 14) (x 15) l5 m kc ks := by
  unfold wp_L_law_923 wp_L_hasRollup
  have v1 : vp_in (l5 + (1 : Int32)) LL := hv 1 (by decide) (by decide)
  have v2 : vp_in (l5 + (2 : Int32)) LL := hv 2 (by decide) (by decide)
  have v3 : vp_in (l5 + (3 : Int32)) LL := hv 3 (by decide) (by decide)
  obtain ⟨hS, hM, hO⟩ := id hB
  have hn := hB.n4
  have hz9 := hI.hzb1
  have hv0 : vp_in (0 : Int32) (mN m (x 14)) := by rw [hO.2.1]; exact vp_in_nI (n := 0) (by decide) (by decide)
  have hv5 : vp_in (0 : Int32) (mN m (x 15)) := by rw [hO.2.2.2.2.1]; exact vp_in_nI (n := 0) (by decide) (by decide)
  have KK : ∀ m', Bo x m' g n ck sa kd rt hz Cs al → KX K x l5 (kc - 3) (ks - 18) m' := fun m' h y e => by rw [e]; exact hK _ _ _ (h.less hI hkc hks (by decide) (by decide))
  refine ⟨v1, v2, v3, by omega, by omega, hS.1.1, ?_⟩
  refine sp_X5_hasRollup hS hB.srt (fun hb => ⟨fun _ kc1 ks1 e1 e2 => ?_, fun z => absurd z (by decide), fun z => absurd rfl z⟩) (fun hno => ⟨fun z => absurd z (by decide), fun _ kc1 ks1 e1 e2 => ?_, fun _ z => absurd rfl z⟩) (fun i t y ha hr => ⟨fun _ => ⟨hO.1, hv0, fun m6 e6 kc1 ks1 e1 e2 => ?_⟩, fun z => absurd rfl z⟩) (fun i t y ha hr => ⟨fun z => absurd z (by decide), fun _ => ⟨hO.1, hv0, fun m6 e6 kc1 ks1 e1 e2 => ?_⟩⟩)
  · rw [e1, e2]
    exact ⟨v1, v2, v3, hM.1.1, md_hasRollup hM hz9 (fun _ m' d' t' f' => fin_ro_B (Kx := KX K x l5 (kc - 3) (ks - 18)) hS hM hO d' t' f' (fun z => absurd z (by decide)) KK) (fun q => (ex_bad_no hb hn q).elim) (fun i t y a _ => (ex_bad_ask hb hn a).elim) (fun i t y a _ => (ex_bad_ask hb hn a).elim)⟩
  · rw [e1, e2]
    exact ⟨v1, v2, v3, hM.1.1, md_hasRollup hM hz9 (fun q => (ex_bad_no q hn hno).elim) (fun _ m' d' t' f' => fin_ro_B (Kx := KX K x l5 (kc - 3) (ks - 18)) hS hM hO d' t' f' (fun z => absurd z (by decide)) KK) (fun i t y a _ => (ex_no_ask hn hno a).elim) (fun i t y a _ => (ex_no_ask hn hno a).elim)⟩
  · rw [e1, e2]
    obtain ⟨s6, d6, o6, w6⟩ := out3 hS hM hO e6
    refine ⟨v1, v2, v3, d6.1.1, md_hasRollup d6 hz9 (fun q => (ex_bad_ask q hn ha).elim) (fun q => (ex_no_ask hn q ha).elim) (fun i' t1 y' a hr' m' d' t' f' => ?_) (fun i' t1 y' a hr' m' d' t' f' => ?_)⟩
    · exact fin_ro_B (Kx := KX K x l5 (kc - 3) (ks - 18)) s6 d6 o6 d' t' f' (fun _ => Or.inl ⟨rfl, w6⟩) KK
    · obtain ⟨h1, h2, h3⟩ := ask_eq hn ha a
      rw [h1, h2, h3] at hr'
      exact absurd hr hr'
  · rw [e1, e2]
    obtain ⟨s6, d6, o6, w6⟩ := out3 hS hM hO e6
    refine ⟨v1, v2, v3, d6.1.1, md_hasRollup d6 hz9 (fun q => (ex_bad_ask q hn ha).elim) (fun q => (ex_no_ask hn q ha).elim) (fun i' t1 y' a hr' m' d' t' f' => ?_) (fun i' t1 y' a hr' m' d' t' f' => ?_)⟩
    · obtain ⟨h1, h2, h3⟩ := ask_eq hn ha a
      rw [h1, h2, h3] at hr'
      exact absurd hr' hr
    · exact fin_ro_B (Kx := KX K x l5 (kc - 3) (ks - 18)) s6 d6 o6 d' t' f' (fun _ => Or.inr ⟨by decide, w6⟩) KK
theorem lc_1010 (hB : Bo x m g n ck sa kd rt hz Cs al) (hI : Iv n ck kd rt hz Cs al (c + 1)) (hkc : 200 * (c + 1) ≤ kc) (hks : 600 * (c + 1) + bS n Cs ≤ ks) (hv : ∀ j, 1 ≤ j → j ≤ 6 → vp_in (l5 + nI j) LL) (hK : ∀ m' kc' ks', Lw x m' c kc' ks' → K (x 0) (x 6) (x 14) (x 15) (l5 + 7) m' kc' ks') : wp_L_law_1010 xs LL K (x 0) (x 6) (x 14) (x 15) l5 m kc ks := by
  unfold wp_L_law_1010 wp_L_count
  have v1 : vp_in (l5 + (1 : Int32)) LL := hv 1 (by decide) (by decide)
  have v2 : vp_in (l5 + (2 : Int32)) LL := hv 2 (by decide) (by decide)
  have v3 : vp_in (l5 + (3 : Int32)) LL := hv 3 (by decide) (by decide)
  obtain ⟨hS, hM, hO⟩ := id hB
  have hn := hB.n4
  have hz9 := hI.hzb1
  have hv0 : vp_in (0 : Int32) (mN m (x 14)) := by rw [hO.2.1]; exact vp_in_nI (n := 0) (by decide) (by decide)
  have hv5 : vp_in (0 : Int32) (mN m (x 15)) := by rw [hO.2.2.2.2.1]; exact vp_in_nI (n := 0) (by decide) (by decide)
  have KK : ∀ m', Bo x m' g n ck sa kd rt hz Cs al → KX K x l5 (kc - 4) (ks - 24) m' := fun m' h y e => by rw [e]; exact hK _ _ _ (h.less hI hkc hks (by decide) (by decide))
  refine ⟨v1, v2, v3, by omega, by omega, hS.1.1, ?_⟩
  refine sp_X5_count hS hB.srt (fun hb => ⟨fun _ kc1 ks1 e1 e2 => ?_, fun z => absurd z (by decide), fun z => absurd rfl z⟩) (fun hno => ⟨fun z => absurd z (by decide), fun _ kc1 ks1 e1 e2 => ?_, fun _ z => absurd rfl z⟩) (fun i t y ha hr => ⟨fun z => absurd z (by decide), fun z => absurd z (by decide), fun _ _ kc1 ks1 e1 e2 => ?_⟩) (fun i t y ha hr => ⟨hO.1, hv0, fun m6 e6 kc1 ks1 e1 e2 => ?_⟩)
  · rw [e1, e2]
    exact ⟨v1, v2, v3, hM.1.1, md_count hM hz9 (fun _ m' d' t' f' => fin_ro_I (Kx := KX K x l5 (kc - 4) (ks - 24)) hS hM hO d' t' f' (fun z => absurd z (by decide)) KK) (fun q => (ex_bad_no hb hn q).elim) (fun i t y a _ => (ex_bad_ask hb hn a).elim) (fun i t y a _ => (ex_bad_ask hb hn a).elim)⟩
  · rw [e1, e2]
    exact ⟨v1, v2, v3, hM.1.1, md_count hM hz9 (fun q => (ex_bad_no q hn hno).elim) (fun _ m' d' t' f' => fin_ro_I (Kx := KX K x l5 (kc - 4) (ks - 24)) hS hM hO d' t' f' (fun z => absurd z (by decide)) KK) (fun i t y a _ => (ex_no_ask hn hno a).elim) (fun i t y a _ => (ex_no_ask hn hno a).elim)⟩
  · rw [e1, e2]
    refine ⟨v1, v2, v3, hM.1.1, md_count hM hz9 (fun q => (ex_bad_ask q hn ha).elim) (fun q => (ex_no_ask hn q ha).elim) (fun i' t1 y' a hr' m' d' t' f' => fin_ro_I (Kx := KX K x l5 (kc - 4) (ks - 24)) hS hM hO d' t' f' (fun z => absurd z (by decide)) KK) (fun i' t1 y' a hr' m' d' t' f' => ?_)⟩
    obtain ⟨h1, h2, h3⟩ := ask_eq hn ha a
    rw [h1, h2, h3] at hr'
    exact absurd hr hr'
  · rw [e1, e2]
    obtain ⟨s6, d6, o6, w6⟩ := out3 hS hM hO e6
    refine ⟨v1, v2, v3, d6.1.1, md_count d6 hz9 (fun q => (ex_bad_ask q hn ha).elim) (fun q => (ex_no_ask hn q ha).elim) (fun i' t1 y' a hr' m' d' t' f' => ?_) (fun i' t1 y' a hr' m' d' t' f' => ?_)⟩
    · obtain ⟨h1, h2, h3⟩ := ask_eq hn ha a
      rw [h1, h2, h3] at hr'
      exact absurd hr' hr
    · obtain ⟨h1, h2, h3⟩ := ask_eq hn ha a
      rw [h1, h2, h3]
      exact fin_ro_I (Kx := KX K x l5 (kc - 4) (ks - 24)) s6 d6 o6 d' t' f' (fun _ => w6) KK
theorem lc_1090 (hB : Bo x m g n ck sa kd rt hz Cs al) (hI : Iv n ck kd rt hz Cs al (c + 1)) (hkc : 200 * (c + 1) ≤ kc) (hks : 600 * (c + 1) + bS n Cs ≤ ks) (hv : ∀ j, 1 ≤ j → j ≤ 6 → vp_in (l5 + nI j) LL) (hK : ∀ m' kc' ks', Lw x m' c kc' ks' → K (x 0) (x 6) (x 14) (x 15) (l5 + 7) m' kc' ks') : wp_L_law_1090 xs LL K (x 0) (x 6) (x 14) (x 15) l5 m kc ks := by
  unfold wp_L_law_1090 wp_L_sum
  have v1 : vp_in (l5 + (1 : Int32)) LL := hv 1 (by decide) (by decide)
  have v2 : vp_in (l5 + (2 : Int32)) LL := hv 2 (by decide) (by decide)
  have v3 : vp_in (l5 + (3 : Int32)) LL := hv 3 (by decide) (by decide)
  obtain ⟨hS, hM, hO⟩ := id hB
  have hn := hB.n4
  have hz9 := hI.hzb1
  have hv0 : vp_in (0 : Int32) (mN m (x 14)) := by rw [hO.2.1]; exact vp_in_nI (n := 0) (by decide) (by decide)
  have hv5 : vp_in (0 : Int32) (mN m (x 15)) := by rw [hO.2.2.2.2.1]; exact vp_in_nI (n := 0) (by decide) (by decide)
  have KK : ∀ m', Bo x m' g n ck sa kd rt hz Cs al → KX K x l5 (kc - 4) (ks - 24) m' := fun m' h y e => by rw [e]; exact hK _ _ _ (h.less hI hkc hks (by decide) (by decide))
  refine ⟨v1, v2, v3, by omega, by omega, hS.1.1, ?_⟩
  refine sp_X5_sum hS hB.srt (fun hb => ⟨fun _ kc1 ks1 e1 e2 => ?_, fun z => absurd z (by decide), fun z => absurd rfl z⟩) (fun hno => ⟨fun z => absurd z (by decide), fun _ kc1 ks1 e1 e2 => ?_, fun _ z => absurd rfl z⟩) (fun i t y ha hr => ⟨fun z => absurd z (by decide), fun z => absurd z (by decide), fun _ _ kc1 ks1 e1 e2 => ?_⟩) (fun i t y ha hr => ⟨hO.1, hv0, fun m6 e6 kc1 ks1 e1 e2 => ?_⟩)
  · rw [e1, e2]
    exact ⟨v1, v2, v3, hM.1.1, md_sum hM hz9 (fun _ m' d' t' f' => fin_ro_I (Kx := KX K x l5 (kc - 4) (ks - 24)) hS hM hO d' t' f' (fun z => absurd z (by decide)) KK) (fun q => (ex_bad_no hb hn q).elim) (fun i t y a _ => (ex_bad_ask hb hn a).elim) (fun i t y a _ => (ex_bad_ask hb hn a).elim)⟩
  · rw [e1, e2]
    exact ⟨v1, v2, v3, hM.1.1, md_sum hM hz9 (fun q => (ex_bad_no q hn hno).elim) (fun _ m' d' t' f' => fin_ro_I (Kx := KX K x l5 (kc - 4) (ks - 24)) hS hM hO d' t' f' (fun z => absurd z (by decide)) KK) (fun i t y a _ => (ex_no_ask hn hno a).elim) (fun i t y a _ => (ex_no_ask hn hno a).elim)⟩
  · rw [e1, e2]
    refine ⟨v1, v2, v3, hM.1.1, md_sum hM hz9 (fun q => (ex_bad_ask q hn ha).elim) (fun q => (ex_no_ask hn q ha).elim) (fun i' t1 y' a hr' m' d' t' f' => fin_ro_I (Kx := KX K x l5 (kc - 4) (ks - 24)) hS hM hO d' t' f' (fun z => absurd z (by decide)) KK) (fun i' t1 y' a hr' m' d' t' f' => ?_)⟩
    obtain ⟨h1, h2, h3⟩ := ask_eq hn ha a
    rw [h1, h2, h3] at hr'
    exact absurd hr hr'
  · rw [e1, e2]
    obtain ⟨s6, d6, o6, w6⟩ := out3 hS hM hO e6
    refine ⟨v1, v2, v3, d6.1.1, md_sum d6 hz9 (fun q => (ex_bad_ask q hn ha).elim) (fun q => (ex_no_ask hn q ha).elim) (fun i' t1 y' a hr' m' d' t' f' => ?_) (fun i' t1 y' a hr' m' d' t' f' => ?_)⟩
    · obtain ⟨h1, h2, h3⟩ := ask_eq hn ha a
      rw [h1, h2, h3] at hr'
      exact absurd hr' hr
    · obtain ⟨h1, h2, h3⟩ := ask_eq hn ha a
      rw [h1, h2, h3]
      exact fin_ro_I (Kx := KX K x l5 (kc - 4) (ks - 24)) s6 d6 o6 d' t' f' (fun _ => w6) KK
theorem lc_1169 (hB : Bo x m g n ck sa kd rt hz Cs al) (hI : Iv n ck kd rt hz Cs al (c + 1)) (hkc : 200 * (c + 1) ≤ kc) (hks : 600 * (c + 1) + bS n Cs ≤ ks) (hv : ∀ j, 1 ≤ j → j ≤ 6 → vp_in (l5 + nI j) LL) (hK : ∀ m' kc' ks', Lw x m' c kc' ks' → K (x 0) (x 6) (x 14) (x 15) (l5 + 7) m' kc' ks') : wp_L_law_1169 xs LL K (x 0) (x 6) (x 14) (x 15) l5 m kc ks := by
  unfold wp_L_law_1169 wp_L_average
  have v1 : vp_in (l5 + (1 : Int32)) LL := hv 1 (by decide) (by decide)
  have v2 : vp_in (l5 + (2 : Int32)) LL := hv 2 (by decide) (by decide)
  have v3 : vp_in (l5 + (3 : Int32)) LL := hv 3 (by decide) (by decide)
  obtain ⟨hS, hM, hO⟩ := id hB
  have hn := hB.n4
  have hz9 := hI.hzb1
  have hv0 : vp_in (0 : Int32) (mN m (x 14)) := by rw [hO.2.1]; exact vp_in_nI (n := 0) (by decide) (by decide)
  have hv5 : vp_in (0 : Int32) (mN m (x 15)) := by rw [hO.2.2.2.2.1]; exact vp_in_nI (n := 0) (by decide) (by decide)
  have KK : ∀ m', Bo x m' g n ck sa kd rt hz Cs al → KX K x l5 (kc - 4) (ks - 24) m' := fun m' h y e => by rw [e]; exact hK _ _ _ (h.less hI hkc hks (by decide) (by decide))
  refine ⟨v1, v2, v3, by omega, by omega, hS.1.1, ?_⟩
  refine sp_X5_average hS (fun i hi => ⟨hB.srt i hi, by have := hI.len i; show (sub i al).length < 2 ^ 26; omega⟩) (fun L h1 h2 => (avg_enc h1 h2).vf) (fun hb => ⟨fun _ kc1 ks1 e1 e2 => ?_, fun z => absurd z (by decide), fun z => absurd rfl z⟩) (fun hno => ⟨fun z => absurd z (by decide), fun _ kc1 ks1 e1 e2 => ?_, fun _ z => absurd rfl z⟩) (fun i t y ha hr => ⟨fun z => absurd z (by decide), fun z => absurd z (by decide), fun _ _ kc1 ks1 e1 e2 => ?_⟩) (fun i t y ha hr => ⟨hO.2.2.2.1, hv5, fun m6 e6 kc1 ks1 e1 e2 => ?_⟩)
  · rw [e1, e2]
    exact ⟨v1, v2, v3, hM.1.1, md_average hM hz9 (fun L h1 h2 => (avg_enc h1 h2).vf) (fun _ m' r d' t' f' => fin_ro_D (Kx := KX K x l5 (kc - 4) (ks - 24)) hS hM hO d' t' f' (fun z => absurd z (by decide)) KK) (fun q => (ex_bad_no hb hn q).elim) (fun i t y a _ => (ex_bad_ask hb hn a).elim) (fun i t y a _ => (ex_bad_ask hb hn a).elim)⟩
  · rw [e1, e2]
    exact ⟨v1, v2, v3, hM.1.1, md_average hM hz9 (fun L h1 h2 => (avg_enc h1 h2).vf) (fun q => (ex_bad_no q hn hno).elim) (fun _ m' r d' t' f' => fin_ro_D (Kx := KX K x l5 (kc - 4) (ks - 24)) hS hM hO d' t' f' (fun z => absurd z (by decide)) KK) (fun i t y a _ => (ex_no_ask hn hno a).elim) (fun i t y a _ => (ex_no_ask hn hno a).elim)⟩
  · rw [e1, e2]
    refine ⟨v1, v2, v3, hM.1.1, md_average hM hz9 (fun L h1 h2 => (avg_enc h1 h2).vf) (fun q => (ex_bad_ask q hn ha).elim) (fun q => (ex_no_ask hn q ha).elim) (fun i' t1 y' a hr' m' r d' t' f' => fin_ro_D (Kx := KX K x l5 (kc - 4) (ks - 24)) hS hM hO d' t' f' (fun z => absurd z (by decide)) KK) (fun i' t1 y' a hr' m' d' t' f' => ?_)⟩
    obtain ⟨h1, h2, h3⟩ := ask_eq hn ha a
    rw [h1, h2, h3] at hr'
    exact absurd hr hr'
  · rw [e1, e2]
    obtain ⟨s6, d6, o6, w6⟩ := out3D hS hM hO e6
    refine ⟨v1, v2, v3, d6.1.1, md_average d6 hz9 (fun L h1 h2 => (avg_enc h1 h2).vf) (fun q => (ex_bad_ask q hn ha).elim) (fun q => (ex_no_ask hn q ha).elim) (fun i' t1 y' a hr' m' r d' t' f' => ?_) (fun i' t1 y' a hr' m' d' t' f' => ?_)⟩
    · obtain ⟨h1, h2, h3⟩ := ask_eq hn ha a
      rw [h1, h2, h3] at hr'
      exact absurd hr' hr
    · obtain ⟨h1, h2, h3⟩ := ask_eq hn ha a
      rw [h1, h2, h3]
      exact fin_ro_D (Kx := KX K x l5 (kc - 4) (ks - 24)) s6 d6 o6 d' t' f' (fun _ => ⟨w6, avg_enc hr (by have := hI.len i; have h9 := rl_len hz (sub i al) t y; show (rl hz (sub i al) t y).length < 2 ^ 26; omega)⟩) KK
theorem lc_1270 (hB : Bo x m g n ck sa kd rt hz Cs al) (hI : Iv n ck kd rt hz Cs al (c + 1)) (hkc : 200 * (c + 1) ≤ kc) (hks : 600 * (c + 1) + bS n Cs ≤ ks) (hv : ∀ j, 1 ≤ j → j ≤ 6 → vp_in (l5 + nI j) LL) (hK : ∀ m' kc' ks', Lw x m' c kc' ks' → K (x 0) (x 6) (x 14) (x 15) (l5 + 7) m' kc' ks') : wp_L_law_1270 xs LL K (x 0) (x 6) (x 14) (x 15) l5 m kc ks := by
  unfold wp_L_law_1270 wp_L_least
  have v1 : vp_in (l5 + (1 : Int32)) LL := hv 1 (by decide) (by decide)
  have v2 : vp_in (l5 + (2 : Int32)) LL := hv 2 (by decide) (by decide)
  have v3 : vp_in (l5 + (3 : Int32)) LL := hv 3 (by decide) (by decide)
  obtain ⟨hS, hM, hO⟩ := id hB
  have hn := hB.n4
  have hz9 := hI.hzb1
  have hv0 : vp_in (0 : Int32) (mN m (x 14)) := by rw [hO.2.1]; exact vp_in_nI (n := 0) (by decide) (by decide)
  have hv5 : vp_in (0 : Int32) (mN m (x 15)) := by rw [hO.2.2.2.2.1]; exact vp_in_nI (n := 0) (by decide) (by decide)
  have KK : ∀ m', Bo x m' g n ck sa kd rt hz Cs al → KX K x l5 (kc - 4) (ks - 24) m' := fun m' h y e => by rw [e]; exact hK _ _ _ (h.less hI hkc hks (by decide) (by decide))
  refine ⟨v1, v2, v3, by omega, by omega, hS.1.1, ?_⟩
  refine sp_X5_least hS hB.srt (fun hb => ⟨fun _ kc1 ks1 e1 e2 => ?_, fun z => absurd z (by decide), fun z => absurd rfl z⟩) (fun hno => ⟨fun z => absurd z (by decide), fun _ kc1 ks1 e1 e2 => ?_, fun _ z => absurd rfl z⟩) (fun i t y ha hr => ⟨fun z => absurd z (by decide), fun z => absurd z (by decide), fun _ _ kc1 ks1 e1 e2 => ?_⟩) (fun i t y ha hr => ⟨hO.1, hv0, fun m6 e6 kc1 ks1 e1 e2 => ?_⟩)
  · rw [e1, e2]
    exact ⟨v1, v2, v3, hM.1.1, md_least hM hz9 (fun _ m' d' t' f' => fin_ro_I (Kx := KX K x l5 (kc - 4) (ks - 24)) hS hM hO d' t' f' (fun z => absurd z (by decide)) KK) (fun q => (ex_bad_no hb hn q).elim) (fun i t y a _ => (ex_bad_ask hb hn a).elim) (fun i t y a _ => (ex_bad_ask hb hn a).elim)⟩
  · rw [e1, e2]
    exact ⟨v1, v2, v3, hM.1.1, md_least hM hz9 (fun q => (ex_bad_no q hn hno).elim) (fun _ m' d' t' f' => fin_ro_I (Kx := KX K x l5 (kc - 4) (ks - 24)) hS hM hO d' t' f' (fun z => absurd z (by decide)) KK) (fun i t y a _ => (ex_no_ask hn hno a).elim) (fun i t y a _ => (ex_no_ask hn hno a).elim)⟩
  · rw [e1, e2]
    refine ⟨v1, v2, v3, hM.1.1, md_least hM hz9 (fun q => (ex_bad_ask q hn ha).elim) (fun q => (ex_no_ask hn q ha).elim) (fun i' t1 y' a hr' m' d' t' f' => fin_ro_I (Kx := KX K x l5 (kc - 4) (ks - 24)) hS hM hO d' t' f' (fun z => absurd z (by decide)) KK) (fun i' t1 y' a hr' m' d' t' f' => ?_)⟩
    obtain ⟨h1, h2, h3⟩ := ask_eq hn ha a
    rw [h1, h2, h3] at hr'
    exact absurd hr hr'
  · rw [e1, e2]
    obtain ⟨s6, d6, o6, w6⟩ := out3 hS hM hO e6
    refine ⟨v1, v2, v3, d6.1.1, md_least d6 hz9 (fun q => (ex_bad_ask q hn ha).elim) (fun q => (ex_no_ask hn q ha).elim) (fun i' t1 y' a hr' m' d' t' f' => ?_) (fun i' t1 y' a hr' m' d' t' f' => ?_)⟩
    · obtain ⟨h1, h2, h3⟩ := ask_eq hn ha a
      rw [h1, h2, h3] at hr'
      exact absurd hr' hr
    · obtain ⟨h1, h2, h3⟩ := ask_eq hn ha a
      rw [h1, h2, h3]
      exact fin_ro_I (Kx := KX K x l5 (kc - 4) (ks - 24)) s6 d6 o6 d' t' f' (fun _ => w6) KK
theorem lc_1350 (hB : Bo x m g n ck sa kd rt hz Cs al) (hI : Iv n ck kd rt hz Cs al (c + 1)) (hkc : 200 * (c + 1) ≤ kc) (hks : 600 * (c + 1) + bS n Cs ≤ ks) (hv : ∀ j, 1 ≤ j → j ≤ 6 → vp_in (l5 + nI j) LL) (hK : ∀ m' kc' ks', Lw x m' c kc' ks' → K (x 0) (x 6) (x 14) (x 15) (l5 + 7) m' kc' ks') : wp_L_law_1350 xs LL K (x 0) (x 6) (x 14) (x 15) l5 m kc ks := by
  unfold wp_L_law_1350 wp_L_greatest
  have v1 : vp_in (l5 + (1 : Int32)) LL := hv 1 (by decide) (by decide)
  have v2 : vp_in (l5 + (2 : Int32)) LL := hv 2 (by decide) (by decide)
  have v3 : vp_in (l5 + (3 : Int32)) LL := hv 3 (by decide) (by decide)
  obtain ⟨hS, hM, hO⟩ := id hB
  have hn := hB.n4
  have hz9 := hI.hzb1
  have hv0 : vp_in (0 : Int32) (mN m (x 14)) := by rw [hO.2.1]; exact vp_in_nI (n := 0) (by decide) (by decide)
  have hv5 : vp_in (0 : Int32) (mN m (x 15)) := by rw [hO.2.2.2.2.1]; exact vp_in_nI (n := 0) (by decide) (by decide)
  have KK : ∀ m', Bo x m' g n ck sa kd rt hz Cs al → KX K x l5 (kc - 4) (ks - 24) m' := fun m' h y e => by rw [e]; exact hK _ _ _ (h.less hI hkc hks (by decide) (by decide))
  refine ⟨v1, v2, v3, by omega, by omega, hS.1.1, ?_⟩
  refine sp_X5_greatest hS hB.srt (fun hb => ⟨fun _ kc1 ks1 e1 e2 => ?_, fun z => absurd z (by decide), fun z => absurd rfl z⟩) (fun hno => ⟨fun z => absurd z (by decide), fun _ kc1 ks1 e1 e2 => ?_, fun _ z => absurd rfl z⟩) (fun i t y ha hr => ⟨fun z => absurd z (by decide), fun z => absurd z (by decide), fun _ _ kc1 ks1 e1 e2 => ?_⟩) (fun i t y ha hr => ⟨hO.1, hv0, fun m6 e6 kc1 ks1 e1 e2 => ?_⟩)
  · rw [e1, e2]
    exact ⟨v1, v2, v3, hM.1.1, md_greatest hM hz9 (fun _ m' d' t' f' => fin_ro_I (Kx := KX K x l5 (kc - 4) (ks - 24)) hS hM hO d' t' f' (fun z => absurd z (by decide)) KK) (fun q => (ex_bad_no hb hn q).elim) (fun i t y a _ => (ex_bad_ask hb hn a).elim) (fun i t y a _ => (ex_bad_ask hb hn a).elim)⟩
  · rw [e1, e2]
    exact ⟨v1, v2, v3, hM.1.1, md_greatest hM hz9 (fun q => (ex_bad_no q hn hno).elim) (fun _ m' d' t' f' => fin_ro_I (Kx := KX K x l5 (kc - 4) (ks - 24)) hS hM hO d' t' f' (fun z => absurd z (by decide)) KK) (fun i t y a _ => (ex_no_ask hn hno a).elim) (fun i t y a _ => (ex_no_ask hn hno a).elim)⟩
  · rw [e1, e2]
    refine ⟨v1, v2, v3, hM.1.1, md_greatest hM hz9 (fun q => (ex_bad_ask q hn ha).elim) (fun q => (ex_no_ask hn q ha).elim) (fun i' t1 y' a hr' m' d' t' f' => fin_ro_I (Kx := KX K x l5 (kc - 4) (ks - 24)) hS hM hO d' t' f' (fun z => absurd z (by decide)) KK) (fun i' t1 y' a hr' m' d' t' f' => ?_)⟩
    obtain ⟨h1, h2, h3⟩ := ask_eq hn ha a
    rw [h1, h2, h3] at hr'
    exact absurd hr hr'
  · rw [e1, e2]
    obtain ⟨s6, d6, o6, w6⟩ := out3 hS hM hO e6
    refine ⟨v1, v2, v3, d6.1.1, md_greatest d6 hz9 (fun q => (ex_bad_ask q hn ha).elim) (fun q => (ex_no_ask hn q ha).elim) (fun i' t1 y' a hr' m' d' t' f' => ?_) (fun i' t1 y' a hr' m' d' t' f' => ?_)⟩
    · obtain ⟨h1, h2, h3⟩ := ask_eq hn ha a
      rw [h1, h2, h3] at hr'
      exact absurd hr' hr
    · obtain ⟨h1, h2, h3⟩ := ask_eq hn ha a
      rw [h1, h2, h3]
      exact fin_ro_I (Kx := KX K x l5 (kc - 4) (ks - 24)) s6 d6 o6 d' t' f' (fun _ => w6) KK
theorem lc_1430 (hB : Bo x m g n ck sa kd rt hz Cs al) (hI : Iv n ck kd rt hz Cs al (c + 1)) (hkc : 200 * (c + 1) ≤ kc) (hks : 600 * (c + 1) + bS n Cs ≤ ks) (hv : ∀ j, 1 ≤ j → j ≤ 6 → vp_in (l5 + nI j) LL) (hK : ∀ m' kc' ks', Lw x m' c kc' ks' → K (x 0) (x 6) (x 14) (x 15) (l5 + 7) m' kc' ks') : wp_L_law_1430 xs LL K (x 0) (x 6) (x 14) (x 15) l5 m kc ks := by
  unfold wp_L_law_1430 wp_L_first
  have v1 : vp_in (l5 + (1 : Int32)) LL := hv 1 (by decide) (by decide)
  have v2 : vp_in (l5 + (2 : Int32)) LL := hv 2 (by decide) (by decide)
  have v3 : vp_in (l5 + (3 : Int32)) LL := hv 3 (by decide) (by decide)
  obtain ⟨hS, hM, hO⟩ := id hB
  have hn := hB.n4
  have hz9 := hI.hzb1
  have hv0 : vp_in (0 : Int32) (mN m (x 14)) := by rw [hO.2.1]; exact vp_in_nI (n := 0) (by decide) (by decide)
  have hv5 : vp_in (0 : Int32) (mN m (x 15)) := by rw [hO.2.2.2.2.1]; exact vp_in_nI (n := 0) (by decide) (by decide)
  have KK : ∀ m', Bo x m' g n ck sa kd rt hz Cs al → KX K x l5 (kc - 4) (ks - 24) m' := fun m' h y e => by rw [e]; exact hK _ _ _ (h.less hI hkc hks (by decide) (by decide))
  refine ⟨v1, v2, v3, by omega, by omega, hS.1.1, ?_⟩
  refine sp_X5_first hS hB.srt (fun hb => ⟨fun _ kc1 ks1 e1 e2 => ?_, fun z => absurd z (by decide), fun z => absurd rfl z⟩) (fun hno => ⟨fun z => absurd z (by decide), fun _ kc1 ks1 e1 e2 => ?_, fun _ z => absurd rfl z⟩) (fun i t y ha hr => ⟨fun z => absurd z (by decide), fun z => absurd z (by decide), fun _ _ kc1 ks1 e1 e2 => ?_⟩) (fun i t y ha hr => ⟨hO.1, hv0, fun m6 e6 kc1 ks1 e1 e2 => ?_⟩)
  · rw [e1, e2]
    exact ⟨v1, v2, v3, hM.1.1, md_first hM hz9 (fun _ m' d' t' f' => fin_ro_I (Kx := KX K x l5 (kc - 4) (ks - 24)) hS hM hO d' t' f' (fun z => absurd z (by decide)) KK) (fun q => (ex_bad_no hb hn q).elim) (fun i t y a _ => (ex_bad_ask hb hn a).elim) (fun i t y a _ => (ex_bad_ask hb hn a).elim)⟩
  · rw [e1, e2]
    exact ⟨v1, v2, v3, hM.1.1, md_first hM hz9 (fun q => (ex_bad_no q hn hno).elim) (fun _ m' d' t' f' => fin_ro_I (Kx := KX K x l5 (kc - 4) (ks - 24)) hS hM hO d' t' f' (fun z => absurd z (by decide)) KK) (fun i t y a _ => (ex_no_ask hn hno a).elim) (fun i t y a _ => (ex_no_ask hn hno a).elim)⟩
  · rw [e1, e2]
    refine ⟨v1, v2, v3, hM.1.1, md_first hM hz9 (fun q => (ex_bad_ask q hn ha).elim) (fun q => (ex_no_ask hn q ha).elim) (fun i' t1 y' a hr' m' d' t' f' => fin_ro_I (Kx := KX K x l5 (kc - 4) (ks - 24)) hS hM hO d' t' f' (fun z => absurd z (by decide)) KK) (fun i' t1 y' a hr' m' d' t' f' => ?_)⟩
    obtain ⟨h1, h2, h3⟩ := ask_eq hn ha a
    rw [h1, h2, h3] at hr'
    exact absurd hr hr'
  · rw [e1, e2]
    obtain ⟨s6, d6, o6, w6⟩ := out3 hS hM hO e6
    refine ⟨v1, v2, v3, d6.1.1, md_first d6 hz9 (fun q => (ex_bad_ask q hn ha).elim) (fun q => (ex_no_ask hn q ha).elim) (fun i' t1 y' a hr' m' d' t' f' => ?_) (fun i' t1 y' a hr' m' d' t' f' => ?_)⟩
    · obtain ⟨h1, h2, h3⟩ := ask_eq hn ha a
      rw [h1, h2, h3] at hr'
      exact absurd hr' hr
    · obtain ⟨h1, h2, h3⟩ := ask_eq hn ha a
      rw [h1, h2, h3]
      exact fin_ro_I (Kx := KX K x l5 (kc - 4) (ks - 24)) s6 d6 o6 d' t' f' (fun _ => w6) KK
theorem lc_1510 (hB : Bo x m g n ck sa kd rt hz Cs al) (hI : Iv n ck kd rt hz Cs al (c + 1)) (hkc : 200 * (c + 1) ≤ kc) (hks : 600 * (c + 1) + bS n Cs ≤ ks) (hv : ∀ j, 1 ≤ j → j ≤ 6 → vp_in (l5 + nI j) LL) (hK : ∀ m' kc' ks', Lw x m' c kc' ks' → K (x 0) (x 6) (x 14) (x 15) (l5 + 7) m' kc' ks') : wp_L_law_1510 xs LL K (x 0) (x 6) (x 14) (x 15) l5 m kc ks := by
  unfold wp_L_law_1510 wp_L_last
  have v1 : vp_in (l5 + (1 : Int32)) LL := hv 1 (by decide) (by decide)
  have v2 : vp_in (l5 + (2 : Int32)) LL := hv 2 (by decide) (by decide)
  have v3 : vp_in (l5 + (3 : Int32)) LL := hv 3 (by decide) (by decide)
  obtain ⟨hS, hM, hO⟩ := id hB
  have hn := hB.n4
  have hz9 := hI.hzb1
  have hv0 : vp_in (0 : Int32) (mN m (x 14)) := by rw [hO.2.1]; exact vp_in_nI (n := 0) (by decide) (by decide)
  have hv5 : vp_in (0 : Int32) (mN m (x 15)) := by rw [hO.2.2.2.2.1]; exact vp_in_nI (n := 0) (by decide) (by decide)
  have KK : ∀ m', Bo x m' g n ck sa kd rt hz Cs al → KX K x l5 (kc - 4) (ks - 24) m' := fun m' h y e => by rw [e]; exact hK _ _ _ (h.less hI hkc hks (by decide) (by decide))
  refine ⟨v1, v2, v3, by omega, by omega, hS.1.1, ?_⟩
  refine sp_X5_last hS hB.srt (fun hb => ⟨fun _ kc1 ks1 e1 e2 => ?_, fun z => absurd z (by decide), fun z => absurd rfl z⟩) (fun hno => ⟨fun z => absurd z (by decide), fun _ kc1 ks1 e1 e2 => ?_, fun _ z => absurd rfl z⟩) (fun i t y ha hr => ⟨fun z => absurd z (by decide), fun z => absurd z (by decide), fun _ _ kc1 ks1 e1 e2 => ?_⟩) (fun i t y ha hr => ⟨hO.1, hv0, fun m6 e6 kc1 ks1 e1 e2 => ?_⟩)
  · rw [e1, e2]
    exact ⟨v1, v2, v3, hM.1.1, md_last hM hz9 (fun _ m' d' t' f' => fin_ro_I (Kx := KX K x l5 (kc - 4) (ks - 24)) hS hM hO d' t' f' (fun z => absurd z (by decide)) KK) (fun q => (ex_bad_no hb hn q).elim) (fun i t y a _ => (ex_bad_ask hb hn a).elim) (fun i t y a _ => (ex_bad_ask hb hn a).elim)⟩
  · rw [e1, e2]
    exact ⟨v1, v2, v3, hM.1.1, md_last hM hz9 (fun q => (ex_bad_no q hn hno).elim) (fun _ m' d' t' f' => fin_ro_I (Kx := KX K x l5 (kc - 4) (ks - 24)) hS hM hO d' t' f' (fun z => absurd z (by decide)) KK) (fun i t y a _ => (ex_no_ask hn hno a).elim) (fun i t y a _ => (ex_no_ask hn hno a).elim)⟩
  · rw [e1, e2]
    refine ⟨v1, v2, v3, hM.1.1, md_last hM hz9 (fun q => (ex_bad_ask q hn ha).elim) (fun q => (ex_no_ask hn q ha).elim) (fun i' t1 y' a hr' m' d' t' f' => fin_ro_I (Kx := KX K x l5 (kc - 4) (ks - 24)) hS hM hO d' t' f' (fun z => absurd z (by decide)) KK) (fun i' t1 y' a hr' m' d' t' f' => ?_)⟩
    obtain ⟨h1, h2, h3⟩ := ask_eq hn ha a
    rw [h1, h2, h3] at hr'
    exact absurd hr hr'
  · rw [e1, e2]
    obtain ⟨s6, d6, o6, w6⟩ := out3 hS hM hO e6
    refine ⟨v1, v2, v3, d6.1.1, md_last d6 hz9 (fun q => (ex_bad_ask q hn ha).elim) (fun q => (ex_no_ask hn q ha).elim) (fun i' t1 y' a hr' m' d' t' f' => ?_) (fun i' t1 y' a hr' m' d' t' f' => ?_)⟩
    · obtain ⟨h1, h2, h3⟩ := ask_eq hn ha a
      rw [h1, h2, h3] at hr'
      exact absurd hr' hr
    · obtain ⟨h1, h2, h3⟩ := ask_eq hn ha a
      rw [h1, h2, h3]
      exact fin_ro_I (Kx := KX K x l5 (kc - 4) (ks - 24)) s6 d6 o6 d' t' f' (fun _ => w6) KK
end
