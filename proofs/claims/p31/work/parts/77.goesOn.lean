/-! TIME GOES ON; a retention is changed -/
section
variable {x : Nat → Nat} {m : MM} {g h : Nat → Nat} {z n ck : Nat} {sa kd rt hz : Nat → Nat} {Pl : Nat → List (Nat × Int32)} {Cs : Nat → Nat → Nat}
/-- the row is written -/
theorem S6.w (hO : S6 x m g n ck sa kd rt hz Pl Cs) (hg : ¬ 8 ≤ g z) (f : Nat → Int32) : S6 x (sAI m z f) g n ck sa kd rt hz Pl Cs := Sto.fr hO (Fr.sAI m z f) (fun q hq e => by
  have e : q = z := e
  have := hO.2.2.2.1 q (by rcases hq with k | k | k | k <;> simp [k])
  rw [e] at this
  omega) (fun q hq e => by
  have e : q = z := e
  rw [e] at hq
  omega)
theorem Dj.w (hD : Dj m g h z) (f : Nat → Int32) : Dj (sAI m z f) g h z := ⟨fun a ha => hD.1 a ha, hD.2⟩
theorem Row.wh (hR : Row m z kd rt hz) {j : Nat} (hj : j ≤ 3) (v : Nat) : Row (sAI m z (va_up (mAI m z) (6 + j) (nI v))) z kd rt (va_up hz j v) := by
  have e : mAI (sAI m z (va_up (mAI m z) (6 + j) (nI v))) z = va_up (mAI m z) (6 + j) (nI v) := by rw [ai_sAI, if_pos rfl]
  refine ⟨hR.1, hR.2.1, fun i hi => ?_, fun i hi => ⟨?_, ?_⟩⟩
  · rw [e, va_up_ne _ _ (by omega)]
    exact hR.2.2.1 i hi
  · rw [e, va_up_ne _ _ (by omega)]
    exact (hR.2.2.2 i hi).1
  · rw [e]
    by_cases q : i = j
    · rw [q, va_up_self, va_up_self]
    · rw [va_up_ne _ _ (by omega), va_up_ne _ _ q]
      exact (hR.2.2.2 i hi).2
theorem Row.wr (hR : Row m z kd rt hz) {j : Nat} (hj : j ≤ 3) (v : Nat) : Row (sAI m z (va_up (mAI m z) (2 + j) (nI v))) z kd (va_up rt j v) hz := by
  have e : mAI (sAI m z (va_up (mAI m z) (2 + j) (nI v))) z = va_up (mAI m z) (2 + j) (nI v) := by rw [ai_sAI, if_pos rfl]
  refine ⟨hR.1, hR.2.1, fun i hi => ?_, fun i hi => ⟨?_, ?_⟩⟩
  · rw [e, va_up_ne _ _ (by omega)]
    exact hR.2.2.1 i hi
  · rw [e]
    by_cases q : i = j
    · rw [q, va_up_self, va_up_self]
    · rw [va_up_ne _ _ (by omega), va_up_ne _ _ q]
      exact (hR.2.2.2 i hi).1
  · rw [e, va_up_ne _ _ (by omega)]
    exact (hR.2.2.2 i hi).2
theorem gone_2 (d : Nat → Nat) : gone d 2 0 = d 0 + d 1 := by
  show d 0 + (d 1 + 0) = d 0 + d 1
  omega
/-- where the greatest number so far is told -/
theorem sub_le {c r v : Nat} (hc : c < 2 ^ 31) (hr : r < 2 ^ 31) (hv : v < 2 ^ 31) : nI c - nI r ≤ nI v ↔ c ≤ v + r := by
  rw [Int32.le_iff_toInt_le, sub_toInt hc hr, nI_toInt hv]
  omega
end
section
variable {x y : Nat → Nat} {z ck B : Nat} {kd rt hz : Nat → Nat} {m : MM} {Pl Pp : Nat → List (Nat × Int32)} {Cs Ds : Nat → Nat → Nat}
theorem go62 (hck : ck ≤ 5000000) (hrt : ∀ i, i ≤ 3 → rt i < 2 ^ 30) (hzb : ∀ i, i ≤ 3 → hz i < 2 ^ 30) {hzF : Nat → Nat} {g h sa sb : Nat → Nat} {r : Nat} (hr : r < 2 ^ 31) {Q : Int32 → MM → Prop} (hq : ∀ m', S6 x m' g 2 ck sa kd rt hzF Pl Cs → S6 y m' h 2 ck sb kd rt hzF Pl Ds → Row m' z kd rt (hzE rt ck hz 4) → Dj m' g h z → Q 1 m') : ∀ (k j : Nat) (m : MM), j + k = 4 → S6 x m g 2 ck sa kd rt hzF Pl Cs → S6 y m h 2 ck sb kd rt hzF Pl Ds → Row m z kd rt (hzE rt ck hz j) → Dj m g h z → wp_L_goesOn_62 Q (k + 1) (x 0) z (nI r) 1 (nI j) m := by
  intro k
  induction k with
  | zero =>
    intro j m hj h1 h2 h3 h4
    obtain rfl : j = 4 := by omega
    unfold wp_L_goesOn_62
    exact ⟨fun _ => ⟨fun c => absurd c (by decide), fun _ => ⟨fun c => absurd c (nI_pos hr), fun _ => hq m h1 h2 h3 h4⟩⟩, fun c => absurd (nI_le (a := 4) (b := 4) (by decide) (by decide)) c⟩
  | succ k ih =>
    intro j m hj h1 h2 h3 h4
    have hj3 : j ≤ 3 := by omega
    have e2 : (2 : Int32) + nI j = nI (2 + j) := nI_add 2 j
    have e6 : (6 : Int32) + nI j = nI (6 + j) := nI_add 6 j
    have v2 : vp_in (nI (2 + j)) (mN m z) := by rw [h3.2.1]; exact vp_in_nI (by omega) (by decide)
    have v6 : vp_in (nI (6 + j)) (mN m z) := by rw [h3.2.1]; exact vp_in_nI (by omega) (by decide)
    have er : mAI m z (2 + j) = nI (rt j) := (h3.2.2.2 j hj3).1
    have eh : mAI m z (6 + j) = nI (hz j) := by
      have := (h3.2.2.2 j hj3).2
      rw [hzE_at] at this
      exact this
    have hrj := hrt j hj3
    have hzj := hzb j hj3
    have go : ∀ w, w = max (hz j) (ck - rt j) → wp_L_goesOn_62 Q (k + 1) (x 0) z (nI r) 1 (nI j + 1) (sAI m z (va_up (mAI m z) (6 + j) (nI w))) := fun w ew => by
      have hR := h3.wh hj3 w
      have e9 := hzE_up rt ck hz j
      rw [hzE_at, ← ew] at e9
      rw [e9] at hR
      rw [nI_1]
      exact ih (j + 1) _ (by omega) (S6.w h1 h4.2.1 _) (S6.w h2 h4.2.2 _) hR (h4.w _)
    unfold wp_L_goesOn_62
    rw [e2, e6, nI_clamp (by omega), nI_clamp (by omega)]
    refine ⟨fun c => absurd c (nI_ge (a := j) (b := 4) (by omega) (by decide)), fun _ => ⟨h1.1.1, sp_X5_clock h1 ⟨h3.1, v2, ?_⟩⟩⟩
    rw [er, forall_eq, eh]
    refine ⟨h3.1, v6, fun c => ⟨h3.1, v6, h3.1, v6, ?_⟩, fun c => ⟨h3.1, v6, ?_⟩⟩
    · have c2 := (sub_le (by omega) (by omega) (by omega)).mp c
      rw [forall_eq, forall_eq]
      exact go _ (by omega)
    · have c2 : ¬ ck ≤ hz j + rt j := fun q => c ((sub_le (by omega) (by omega) (by omega)).mpr q)
      rw [pk_sub (by omega), forall_eq, forall_eq]
      exact go _ (by omega)
theorem t2_goesOn (hT : T2 x y z kd rt hz ck m Pl Pl Cs Ds) (hN : Nm ck kd rt hz) (hP : Pn ck kd B Pl) {s : Nat} (h1 : 1 ≤ s) (h2 : s ≤ 200001) (h5 : ck + s ≤ 5000000) {Q : Int32 → MM → Prop} (hq : ∀ m' hz', Nm (ck + s) kd rt hz' → T2 x y z kd rt hz' (ck + s) m' Pl Pl Cs Ds → Q 1 m') : wp_L_goesOn (x 0) (y 0) z (nI s) m Q := by
  have hck := hN.2.2.2.1
  obtain ⟨g, h, sa, sb, hO, hO2, hR, hD⟩ := hT
  have hsrt := (hP.pk hN).srt
  have all31 : ∀ hz' i, i < 2 → all4 hz' (Pl i) ≤ 4000 := fun hz' i hi => by
    have h0 := (hP.2 i hi).2.1
    have h9 := hP.1
    have k0 : rws hz' (Pl i) 0 ≤ (Pl i).length := by rw [rws_0]; exact List.length_filter_le ..
    have kj : ∀ j, j ≠ 0 → rws hz' (Pl i) j ≤ (Pl i).length := fun j hj => by unfold rws; rw [if_neg hj]; exact gk_len _ _ _
    have k1 := kj 1 (by decide)
    have k2 := kj 2 (by decide)
    have k3 := kj 3 (by decide)
    unfold all4
    omega
  have a0 := all31 hz 0 (by decide)
  have a1 := all31 hz 1 (by decide)
  unfold wp_L_goesOn
  refine sp_L_allRows hO rfl ⟨hO.1.1, sp_X5_clock hO ⟨hO.1.1, sp_X5_advance hO (by omega) hN.rtb hN.hzb hsrt (fun q => (q s rfl h1 (by omega)).elim) (fun s' es g1 g2 m1 g' r hS hg hF hr => ?_)⟩⟩
  obtain rfl : s = s' := (nI_eq (by omega) (by omega)).mp es
  obtain ⟨k1, k2, k3, k4⟩ := T2.mk1 hS hO2 hR hD hg hF
  refine ⟨k2.1.1, sp_X5_advance k2 (by omega) hN.rtb hN.hzb hsrt (fun q => (q s rfl h1 (by omega)).elim) (fun s' es g1 g2 m2 h' r' hS' hg' hF' hr' => ?_)⟩
  obtain rfl : s = s' := (nI_eq (by omega) (by omega)).mp es
  obtain ⟨j1, j2, j3, j4⟩ := T2.mk1 hS' k1 k3 k4.sw hg' hF'
  rw [gone_2, gone_2] at hr hr'
  have b0 := all31 (hzE rt (ck + s) hz 4) 0 (by decide)
  have b1 := all31 (hzE rt (ck + s) hz 4) 1 (by decide)
  have er : r' = r := by omega
  subst er
  have ea : nI (all4 (hzE rt (ck + s) hz 4) (Pl 0) + all4 (hzE rt (ck + s) hz 4) (Pl 1)) = nI (all4 hz (Pl 0) + all4 hz (Pl 1)) - nI r' := by
    rw [pk_sub (by omega)]
    congr 1
    omega
  refine ⟨fun c => absurd rfl c, fun _ => ⟨j2.1.1, sp_X5_clock j2 ⟨fun c => absurd (nI_add ck s).symm c, fun _ => sp_L_allRows j2 rfl ⟨fun c => absurd ea c, fun _ => ?_⟩⟩⟩⟩
  rw [forall_eq, forall_eq]
  rw [← hzE_0 rt (ck + s) hz] at j3
  refine ⟨5, go62 h5 hN.rtb hN.hzb (by omega) (fun m' u1 u2 u3 u4 => hq m' _ ⟨hN.1, hN.2.1, Nat.zero_le _, h5, hN.2.2.2.2.1, fun i hi => ?_, fun i hi => ?_⟩ ⟨_, _, _, _, u1, u2, u3, u4⟩) 4 0 m2 rfl j2 j1 j3 j4.sw⟩
  · rw [hzE_lt (by omega)]
    omega
  · have w1 := hN.2.2.2.2.2.2 i hi
    have w2 := hN.2.2.2.2.1 i hi
    rw [hzE_lt (by omega)]
    omega
theorem t2_retains (hT : T2 x y z kd rt hz ck m Pl Pl Cs Ds) (hN : Nm ck kd rt hz) (hP : Pn ck kd B Pl) {t X : Nat} (ht : t ≤ 3) (hX : X < 2 ^ 30) {Q : Int32 → MM → Prop} (hq : ∀ m' rt' hz', Nm ck kd rt' hz' → T2 x y z kd rt' hz' ck m' Pl Pl Cs Ds → Q 1 m') : wp_L_retains (x 0) (y 0) z (nI t) (nI X) m Q := by
  have hck := hN.2.2.2.1
  obtain ⟨g, h, sa, sb, hO, hO2, hR, hD⟩ := hT
  have hsrt := (hP.pk hN).srt
  have e2 : (2 : Int32) + nI t = nI (2 + t) := nI_add 2 t
  have e6 : (6 : Int32) + nI t = nI (6 + t) := nI_add 6 t
  have hrt := hN.2.2.2.2.1 t ht
  have hrt9 := hN.2.2.2.2.2.1 t ht
  have hzt := hN.hzb t ht
  have all31 : ∀ hz' i, i < 2 → all4 hz' (Pl i) ≤ 4000 := fun hz' i hi => by
    have h0 := (hP.2 i hi).2.1
    have h9 := hP.1
    have k0 : rws hz' (Pl i) 0 ≤ (Pl i).length := by rw [rws_0]; exact List.length_filter_le ..
    have kj : ∀ j, j ≠ 0 → rws hz' (Pl i) j ≤ (Pl i).length := fun j hj => by unfold rws; rw [if_neg hj]; exact gk_len _ _ _
    have k1 := kj 1 (by decide)
    have k2 := kj 2 (by decide)
    have k3 := kj 3 (by decide)
    unfold all4
    omega
  have a0 := all31 hz 0 (by decide)
  have a1 := all31 hz 1 (by decide)
  have k38 : ∀ b s, (if t ≤ 1 then 7200 else 90000) = b → s ≤ 1000000 → wp_L_retains_38 Q (x 0) (y 0) z (nI t) (nI s) (nI b) m := fun b s hb hs => by
    have hb2 : b ≤ 90000 := by rw [← hb]; split <;> decide
    have hb3 : (if t ≤ 1 then 7200 else 90000) ≤ b + s := by rw [hb]; exact Nat.le_add_right _ _
    generalize hsec : b + s = sec at hb3
    have hs9 : sec ≤ 1090000 := by omega
    have v2 : vp_in (nI (2 + t)) (mN m z) := by rw [hR.2.1]; exact vp_in_nI (by omega) (by decide)
    have er : mAI m z (2 + t) = nI (rt t) := (hR.2.2.2 t ht).1
    unfold wp_L_retains_38
    rw [nI_add, hsec, forall_eq, e2, e6, nI_clamp (by omega), er, forall_eq]
    refine ⟨hR.1, v2, sp_L_allRows hO rfl ⟨hR.1, v2, ?_⟩⟩
    rw [forall_eq]
    have hO1 := S6.w hO hD.2.1 (va_up (mAI m z) (2 + t) (nI sec))
    have hO21 := S6.w hO2 hD.2.2 (va_up (mAI m z) (2 + t) (nI sec))
    have hR1 := hR.wr ht sec
    have hD1 := hD.w (va_up (mAI m z) (2 + t) (nI sec))
    generalize sAI m z (va_up (mAI m z) (2 + t) (nI sec)) = m1 at hO1 hO21 hR1 hD1
    have v6 : vp_in (nI (6 + t)) (mN m1 z) := by rw [hR1.2.1]; exact vp_in_nI (by omega) (by decide)
    have eh : mAI m1 z (6 + t) = nI (hz t) := (hR1.2.2.2 t ht).2
    refine ⟨hO1.1.1, sp_X5_clock hO1 ?_⟩
    rw [forall_eq, nI_clamp (by omega), eh]
    have go : ∀ w, w = max (hz t) (ck - sec) → wp_L_retains_97 Q (x 0) (y 0) (nI t) (nI sec) (nI (rt t)) (nI (all4 hz (Pl 0) + all4 hz (Pl 1))) (nI w) (nI (6 + t)) z m1 := fun w ew => by
      unfold wp_L_retains_97
      refine ⟨hR1.1, v6, ?_⟩
      rw [forall_eq, nI_clamp (by omega)]
      have hO3 := S6.w hO1 hD1.2.1 (va_up (mAI m1 z) (6 + t) (nI w))
      have hO23 := S6.w hO21 hD1.2.2 (va_up (mAI m1 z) (6 + t) (nI w))
      have hR3 := hR1.wh ht w
      have hD3 := hD1.w (va_up (mAI m1 z) (6 + t) (nI w))
      generalize sAI m1 z (va_up (mAI m1 z) (6 + t) (nI w)) = m3 at hO3 hO23 hR3 hD3
      refine ⟨hO3.1.1, sp_X5_setRetention hO3 (by omega) hN.hzb hsrt (fun q => (q t sec rfl ht rfl hb3 (by omega)).elim) (fun t' s' et g1 es g2 g3 m4 g' hS hg hF => ?_)⟩
      obtain rfl : t = t' := (nI_eq (by omega) (by omega)).mp et
      obtain rfl : sec = s' := (nI_eq (by omega) (by omega)).mp es
      obtain ⟨k1, k2, k3, k4⟩ := T2.mk1 hS hO23 hR3 hD3 hg hF
      refine ⟨fun c => absurd rfl c, fun _ => ⟨k2.1.1, sp_X5_setRetention k2 (by omega) hN.hzb hsrt (fun q => (q t sec rfl ht rfl hb3 (by omega)).elim) (fun t' s' et g1 es g2 g3 m5 h' hS' hg' hF' => ?_)⟩⟩
      obtain rfl : t = t' := (nI_eq (by omega) (by omega)).mp et
      obtain rfl : sec = s' := (nI_eq (by omega) (by omega)).mp es
      obtain ⟨j1, j2, j3, j4⟩ := T2.mk1 hS' k1 k3 k4.sw hg' hF'
      rw [ew] at j3
      have hNm : Nm ck kd (va_up rt t sec) (va_up hz t (max (hz t) (ck - sec))) := by
        refine ⟨hN.1, hN.2.1, Nat.zero_le _, hck, fun i hi => ?_, fun i hi => ?_, fun i hi => ?_⟩
        · by_cases q : i = t
          · subst q
            rw [va_up_self]
            unfold rmin
            exact ⟨hb3, by omega⟩
          · rw [va_up_ne _ _ q]
            exact hN.2.2.2.2.1 i hi
        · by_cases q : i = t
          · subst q
            rw [va_up_self, va_up_self]
            omega
          · rw [va_up_ne _ _ q, va_up_ne _ _ q]
            exact hN.2.2.2.2.2.1 i hi
        · by_cases q : i = t
          · subst q
            have w1 := hN.2.2.2.2.2.2 i hi
            rw [va_up_self]
            unfold rmin at w1 ⊢
            omega
          · rw [va_up_ne _ _ q]
            exact hN.2.2.2.2.2.2 i hi
      have fin : Q 1 m5 := hq m5 _ _ hNm ⟨_, _, _, _, j2, j1, j3, j4.sw⟩
      have hmono : ∀ i, all4 (va_up hz t (max (hz t) (ck - sec))) (Pl i) ≤ all4 hz (Pl i) := fun i => by
        have k : ∀ j, rws (va_up hz t (max (hz t) (ck - sec))) (Pl i) j ≤ rws hz (Pl i) j := fun j => by
          by_cases q : j = t
          · subst q
            exact rws_mono (by rw [va_up_self]; omega)
          · exact Nat.le_of_eq (rws_congr (va_up_ne _ _ q))
        have k0 := k 0
        have k1 := k 1
        have k2 := k 2
        have k3 := k 3
        unfold all4
        omega
      have m0 := hmono 0
      have m1 := hmono 1
      refine ⟨fun c => absurd rfl c, fun _ => sp_L_allRows j2 rfl ⟨fun c => absurd c (nI_nlt (by omega) (by omega)), fun _ => ⟨fun _ => fin, fun c => sp_L_allRows j2 rfl ⟨fun d => absurd ?_ d, fun _ => fin⟩⟩⟩⟩
      have hge : rt t ≤ sec := by
        rcases Nat.lt_or_ge sec (rt t) with q | q
        · exact absurd (nI_lt q (by omega)) c
        · exact q
      rw [show max (hz t) (ck - sec) = hz t by omega, up_self2]
    refine ⟨hR1.1, v6, fun c => ⟨hR1.1, v6, ?_⟩, fun c => ?_⟩
    · have c2 := (sub_le (by omega) (by omega) (by omega)).mp c
      exact go _ (by omega)
    · have c2 : ¬ ck ≤ hz t + sec := fun q => c ((sub_le (by omega) (by omega) (by omega)).mpr q)
      rw [pk_sub (by omega)]
      exact go _ (by omega)
  have k13 : ∀ b, (if t ≤ 1 then 7200 else 90000) = b → wp_L_retains_13 Q (x 0) (y 0) z (nI t) (nI X) (nI b) m := fun b hb => by
    have f1 : nI X / (3 : Int32) = nI (X / 3) := pk_div (a := X) (d := 3) (by omega) (by decide) (by decide)
    have f2 : nI (X / 3) - nI (X / 3) / (4000 : Int32) * (4000 : Int32) = nI (X / 3 % 4000) := pk_rem (a := X / 3) (d := 4000) (by omega) (by decide) (by decide)
    have f3 : nI (X / 3) - nI (X / 3) / (1000000 : Int32) * (1000000 : Int32) = nI (X / 3 % 1000000) := pk_rem (a := X / 3) (d := 1000000) (by omega) (by decide) (by decide)
    unfold wp_L_retains_13
    rw [f1, f2, f3]
    exact ⟨fun _ => k38 b _ hb (by omega), fun _ => k38 b _ hb (by omega)⟩
  unfold wp_L_retains
  refine ⟨fun c => k13 90000 ?_, fun c => k13 7200 ?_⟩
  · have := (nI_leI (a := 2) (b := t) (by decide) (by omega)).mp c
    exact if_neg (by omega)
  · refine if_pos ?_
    rcases Nat.lt_or_ge t 2 with q | q
    · omega
    · exact absurd (nI_le q (by omega)) c
end
