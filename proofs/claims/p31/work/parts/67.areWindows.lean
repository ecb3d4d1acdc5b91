/-! areWindows -/
section
variable {m0 m : MM} {g : Nat → Nat} {o A R Z w su n ck z : Nat} {sa kd rt hz : Nat → Nat} {Pl : Nat → List (Nat × Int32)} {Cs : Nat → Nat → Nat}
theorem seg_len (a b : Nat) (P : List (Nat × Int32)) : (seg a b P).length ≤ P.length := Nat.le_trans (List.length_filter_le ..) (List.length_filter_le ..)
theorem Pk.okC (hK : Pk n ck kd Pl) {i : Nat} (hin : i < n) (hc : kd i = 1) (f t : Nat) : okC ((seg f t (Pl i)).map (·.2)) := fun v hv => by
  obtain ⟨p, hp, rfl⟩ := List.mem_map.mp hv
  have h1 := ((hK.2 i hin).2.2.1 p (mem_seg.mp hp).1).2
  have h2 := (w_int (okV_w h1)).2
  have h3 : (if kd i = 1 then (0 : Int32) else (-1000000 : Int32)) ≤ p.2 := h1.1
  rw [if_pos hc, Int32.le_iff_toInt_le] at h3
  exact ⟨h3, h2⟩
theorem aw468 (hW : Ws m0 m g o A R Z w su n ck sa kd rt hz Pl Cs z) (hK : Pk n ck kd Pl) (hzb : ∀ i, i ≤ 3 → hz i < 2 ^ 31) {i f t : Nat} (hin : i < n) (hf : 60 ∣ f) (ht : 60 ∣ t) (hft : f ≤ t) (t31 : t < 2 ^ 31) (hk : Kn hz f t) (hc : kd i = 1) {Q : Int32 → MM → Prop} (hq : ∀ m', Ws m0 m' g o A R Z w su n ck sa kd rt hz Pl Cs z → Q 1 m') : wp_L_areWindows_468 Q o (nI i) (nI f) (nI t) 1 (vInc ((seg f t (Pl i)).map (·.2))) 1 m := by
  have hl := seg_len f t (Pl i)
  have hl2 := (hK.2 i hin).2.1
  obtain ⟨b1, b2⟩ := vInc_b (hK.okC hin hc f t) (by rw [List.length_map]; omega)
  unfold wp_L_areWindows_468
  refine ⟨fun c => absurd c (by decide), fun _ => ⟨fun c => ?_, fun _ => ⟨fun c => absurd c (by decide), fun _ => ⟨fun _ => hq m hW, fun c => ⟨hW.1.1.1, q_rate hW hK hzb hin hf ht hft t31 (fun y => c (by rw [y])) hk hc (fun m' hW' => ?_)⟩⟩⟩⟩⟩
  · rw [lg_cmp_lt, Int64.lt_iff_toInt_lt, show ((0 : Int64)).toInt = 0 by decide] at c
    omega
  · have hne : f ≠ t := fun y => c (by rw [y])
    have hen := rat_enc (vInc ((seg f t (Pl i)).map (·.2))) (d := t - f) (by omega) (by omega)
    rw [show nI t - nI f = nI (t - f) from pk_sub hft]
    refine ⟨(isEnc_mul _).vf, hen.vf, fun c => absurd ?_ c, fun _ => hq m' hW'⟩
    have e9 : FP.dcmp (rat (vInc ((seg f t (Pl i)).map (·.2))) (t - f)) (FP.ddiv (FP.dmul (FP.l2d (vInc ((seg f t (Pl i)).map (·.2)))) (4660134898793709568 : UInt64)) (FP.i2d (nI (t - f)))) = some .eq := hen.eq
    rw [e9]
    rfl
theorem aw379 (hW : Ws m0 m g o A R Z w su n ck sa kd rt hz Pl Cs z) (hK : Pk n ck kd Pl) (hzb : ∀ i, i ≤ 3 → hz i < 2 ^ 31) {i f d t : Nat} (hin : i < n) (hi1 : i ≤ 1) (hf : 60 ∣ f) (hd : 60 ∣ d) (ht : 60 ∣ t) (hfd : f ≤ d) (hdt : d ≤ t) (t31 : t < 2 ^ 31) (hk : Kn hz f t) (hk1 : Kn hz f d) (hk2 : Kn hz d t) {Q : Int32 → MM → Prop} (hq : ∀ m', Ws m0 m' g o A R Z w su n ck sa kd rt hz Pl Cs z → Q 1 m') : wp_L_areWindows_379 Q o z (nI i) (nI f) (nI d) (nI t) 1 m := by
  have hR := hW.2.1
  have hl2 := (hK.2 i hin).2.1
  unfold wp_L_areWindows_379
  rw [hR.2.1, nI_clamp (by omega), hR.2.2.1 i hi1]
  refine ⟨hR.1, vp_in_nI (by omega) (by decide), fun c => ?_, fun _ => ⟨Or.inr rfl, hq m hW⟩⟩
  have hc : kd i = 1 := by
    have := (hK.2 i hin).2.2.2
    rcases (show kd i = 0 ∨ kd i = 1 by omega) with e | e
    · exact absurd (by rw [e]; exact nI_0) c
    · exact e
  refine ⟨hW.1.1.1, q_increase hW hK hzb hin hf ht (by omega) t31 hk hc (fun m1 hW1 => ⟨hW1.1.1.1, q_increase hW1 hK hzb hin hf hd hfd (by omega) hk1 hc (fun m2 hW2 => ⟨hW2.1.1.1, q_increase hW2 hK hzb hin hd ht hdt t31 hk2 hc (fun m3 hW3 => ?_)⟩)⟩)⟩
  have W463 : wp_L_areWindows_463 Q o (nI i) (nI f) (nI t) 1 (vInc ((seg f t (Pl i)).map (·.2))) m3 := aw468 hW3 hK hzb hin hf ht (by omega) t31 hk hc hq
  obtain ⟨k1, k2⟩ := vInc_two (hK.okC hin hc f d) (hK.okC hin hc d t) (by rw [List.length_map]; have := seg_len f d (Pl i); omega) (by rw [List.length_map]; have := seg_len d t (Pl i); omega)
  rw [← List.map_append, seg_join (hK.srt i hin) hfd hdt] at k1 k2
  exact ⟨fun _ => W463, fun _ => ⟨fun _ => W463, fun _ => ⟨fun c => absurd c k1, fun _ => ⟨fun c => absurd c k2, fun _ => W463⟩⟩⟩⟩
theorem aw277 (hW : Ws m0 m g o A R Z w su n ck sa kd rt hz Pl Cs z) (hK : Pk n ck kd Pl) (hzb : ∀ i, i ≤ 3 → hz i < 2 ^ 31) {i f d t : Nat} (hin : i < n) (hi1 : i ≤ 1) (hf : 60 ∣ f) (hd : 60 ∣ d) (ht : 60 ∣ t) (hfd : f ≤ d) (hdt : d ≤ t) (t31 : t < 2 ^ 31) {kn : Int32} (hkn : ¬ Kn hz f t → kn = 0) {Q : Int32 → MM → Prop} (hq : ∀ m', Ws m0 m' g o A R Z w su n ck sa kd rt hz Pl Cs z → Q 1 m') : wp_L_areWindows_277 Q o z (nI i) (nI f) (nI d) (nI t) kn 1 m := by
  unfold wp_L_areWindows_277
  refine ⟨fun _ => ⟨Or.inr rfl, hq m hW⟩, fun c => ⟨hW.1.1.1, q_isKnown hW hzb hf hd hfd (by omega) (fun hk1 m1 hW1 => ⟨fun c => absurd c (by decide), fun _ => ⟨hW1.1.1.1, q_isKnown hW1 hzb hd ht hdt t31 (fun hk2 m2 hW2 => ⟨fun _ => ?_, fun c => absurd c (by decide)⟩) (fun _ m2 hW2 => ⟨fun c => absurd rfl c, fun _ => ⟨Or.inr rfl, hq m2 hW2⟩⟩)⟩⟩) (fun _ m1 hW1 => ⟨fun _ => ⟨Or.inr rfl, hq m1 hW1⟩, fun c => absurd rfl c⟩)⟩⟩
  have hk : Kn hz f t := Classical.byContradiction fun q => c (hkn q)
  refine ⟨hW2.1.1.1, q_total hW2 hK hzb hin hf ht (by omega) t31 hk (fun m3 hW3 => ⟨fun c => absurd c (by decide), fun _ => ⟨hW3.1.1.1, q_total hW3 hK hzb hin hf hd hfd (by omega) hk1 (fun m4 hW4 => ⟨hW4.1.1.1, q_total hW4 hK hzb hin hd ht hdt t31 hk2 (fun m5 hW5 => ⟨fun c => absurd ?_ c, fun _ => ?_⟩)⟩)⟩⟩)⟩
  · rw [lg_cmp_eq, ← vSum_app, ← List.map_append, seg_join (hK.srt i hin) hfd hdt]
  · have hR := hW5.2.1
    have e6 : mAI m5 z 6 = nI (hz 0) := (hR.2.2.2 0 (by decide)).2
    refine ⟨hR.1, by rw [hR.2.1]; exact vp_in_nI (n := 6) (by decide) (by decide), ?_⟩
    rw [show (6 : Int32).toNatClampNeg = 6 by decide, e6]
    refine ⟨fun _ => aw379 hW5 hK hzb hin hi1 hf hd ht hfd hdt t31 hk hk1 hk2 hq, fun c => ⟨hW5.1.1.1, q_byPoints hW5 hK hzb hin hf ht (by omega) t31 ?_ (fun m6 hW6 => ⟨fun c => absurd ((lg_cmp_eq _ _).mpr rfl) c, fun _ => aw379 hW6 hK hzb hin hi1 hf hd ht hfd hdt t31 hk hk1 hk2 hq⟩)⟩⟩
    rcases Nat.lt_or_ge f (hz 0) with q | q
    · exact absurd (nI_lt q (hzb 0 (by decide))) c
    · exact q
theorem aw_exit (hW : Ws m0 m g o A R Z w su n ck sa kd rt hz Pl Cs z) (hK : Pk n ck kd Pl) (hzb : ∀ i, i ≤ 3 → hz i < 2 ^ 31) {i f d t : Nat} (hin : i < n) (hi1 : i ≤ 1) (hf : 60 ∣ f) (hd : 60 ∣ d) (ht : 60 ∣ t) (hfd : f ≤ d) (hdt : d ≤ t) (t31 : t < 2 ^ 31) {Q : Int32 → MM → Prop} (hq : ∀ m', Ws m0 m' g o A R Z w su n ck sa kd rt hz Pl Cs z → Q 1 m') (N : Nat) (kn : Int32) (h1 : Kn hz f t → kn = 1) (h0 : ¬ Kn hz f t → kn = 0) : wp_L_areWindows_116 Q (N + 1) o z (nI i) (nI f) (nI d) (nI t) (nI (nParts f t)) kn (lN t) m := by
  have go : ∀ m2, Ws m0 m2 g o A R Z w su n ck sa kd rt hz Pl Cs z → mK m2 o = 6 ∧ wp_X5_parts o (nI f) (nI f) m2 (fun r75 m76 => ((¬ r75 = 0 → wp_L_areWindows_276 Q o z (nI i) (nI f) (nI d) (nI t) kn m76) ∧ (r75 = 0 → mK m76 o = 6 ∧ wp_X5_isKnown o (nI f) (nI f) m76 (fun r79 m80 => ((r79 = 0 → wp_L_areWindows_276 Q o z (nI i) (nI f) (nI d) (nI t) kn m80) ∧ (¬ r79 = 0 → wp_L_areWindows_277 Q o z (nI i) (nI f) (nI d) (nI t) kn (1 : Int32) m80))) (fun _ _ => False)))) (fun _ _ => False) := fun m2 hW2 =>
    ⟨hW2.1.1.1, q_parts hW2 hf hf (Nat.le_refl _) (by omega) (fun m3 hW3 => ⟨fun c => absurd (by rw [nParts_0]; exact nI_0) c, fun _ => ⟨hW3.1.1.1, q_isKnown hW3 hzb hf hf (Nat.le_refl _) (by omega) (fun _ m4 hW4 => ⟨fun c => absurd c (by decide), fun _ => aw277 hW4 hK hzb hin hi1 hf hd ht hfd hdt t31 h0 hq⟩) (fun q => absurd (Kn_0 hz f) q)⟩⟩)⟩
  unfold wp_L_areWindows_116
  refine ⟨fun _ => ⟨hW.1.1.1, q_parts hW hf ht (by omega) t31 (fun m1 hW1 => ⟨fun c => absurd rfl c, fun _ => ⟨hW1.1.1.1, q_isKnown hW1 hzb hf ht (by omega) t31 (fun k m2 hW2 => ⟨fun c => absurd (h1 k).symm c, fun _ => go m2 hW2⟩) (fun k m2 hW2 => ⟨fun c => absurd (h0 k).symm c, fun _ => go m2 hW2⟩)⟩⟩)⟩, fun c => absurd ?_ c⟩
  rw [nI_l t31, cmp_ge_N (by omega) (by omega)]
  exact Nat.le_refl _
theorem aw102 (hW : Ws m0 m g o A R Z w su n ck sa kd rt hz Pl Cs z) (hK : Pk n ck kd Pl) (hzb : ∀ i, i ≤ 3 → hz i < 2 ^ 31) {i f d b : Nat} (hin : i < n) (hi1 : i ≤ 1) (hf : 60 ∣ f) (hd : 60 ∣ d) (hb : 60 ∣ b) (hfd : f ≤ d) (t31 : d + b < 2 ^ 31) {Q : Int32 → MM → Prop} (hq : ∀ m', Ws m0 m' g o A R Z w su n ck sa kd rt hz Pl Cs z → Q 1 m') : wp_L_areWindows_102 Q o z (nI i) (nI f) (nI d) (nI b) (nI d) m := by
  have ht : 60 ∣ d + b := Nat.dvd_add hd hb
  have hft : f ≤ d + b := by omega
  have key := aw116 (q0 := o) (q2 := nI i) (q6 := nI d) (Q := Q) hW.2.1 hzb hf ht hft t31 (fun N kn h1 h0 => aw_exit hW hK hzb hin hi1 hf hd ht hfd (by omega) t31 hq N kn h1 h0) (d + b) 4 0 f 1 rfl (Nat.le_refl _) ?_ ?_ (fun _ => rfl) (fun q => absurd (KnW_0 hz f _) q) (by omega)
  · rw [pcW_0, nI_0] at key
    unfold wp_L_areWindows_102
    rw [forall_eq, forall_eq, forall_eq, forall_eq, nI_add, nI_l (by omega)]
    exact ⟨_, key⟩
  · exact (wcut_ok hf ht hft 0 (by decide)).1
  · exact fun y => ((wcut_ok hf ht hft 0 (by decide)).2 y).1
theorem aw53 (hW : Ws m0 m g o A R Z w su n ck sa kd rt hz Pl Cs z) (hK : Pk n ck kd Pl) (hzb : ∀ i, i ≤ 3 → hz i < 2 ^ 31) {i f y : Nat} (hin : i < n) (hi1 : i ≤ 1) (hf : 60 ∣ f) (f30 : f < 2 ^ 30) (hy : y < 2 ^ 30) {Q : Int32 → MM → Prop} (hq : ∀ m', Ws m0 m' g o A R Z w su n ck sa kd rt hz Pl Cs z → Q 1 m') : wp_L_areWindows_53 Q o z (nI i) (nI y) (nI f) m := by
  unfold wp_L_areWindows_53
  have e1 : nI y - nI y / (200 : Int32) * (200 : Int32) = nI (y % 200) := pk_rem (a := y) (d := 200) (by omega) (by decide) (by decide)
  have e2 : nI (y % 200) * (60 : Int32) = nI (y % 200 * 60) := pk_mul (y % 200) 60
  have e3 : nI y / (5 : Int32) = nI (y / 5) := pk_div (a := y) (d := 5) (by omega) (by decide) (by decide)
  have e4 : nI (y / 5) - nI (y / 5) / (100 : Int32) * (100 : Int32) = nI (y / 5 % 100) := pk_rem (a := y / 5) (d := 100) (by omega) (by decide) (by decide)
  have e5 : nI (y / 5) - nI (y / 5) / (50 : Int32) * (50 : Int32) = nI (y / 5 % 50) := pk_rem (a := y / 5) (d := 50) (by omega) (by decide) (by decide)
  have e6 : nI (y / 5 % 100) * (60 : Int32) = nI (y / 5 % 100 * 60) := pk_mul (y / 5 % 100) 60
  have e7 : nI (y / 5 % 50) * (3600 : Int32) = nI (y / 5 % 50 * 3600) := pk_mul (y / 5 % 50) 3600
  have hd : 60 ∣ f + y % 200 * 60 := Nat.dvd_add hf ⟨y % 200, Nat.mul_comm _ _⟩
  rw [forall_eq, e1, e2, nI_add]
  refine ⟨fun _ => ?_, fun _ => ?_⟩
  · rw [e3, e4, e6]
    exact aw102 hW hK hzb hin hi1 hf hd ⟨y / 5 % 100, Nat.mul_comm _ _⟩ (by omega) (by omega) hq
  · rw [e3, e5, e7]
    exact aw102 hW hK hzb hin hi1 hf hd (by omega) (by omega) (by omega) hq
theorem sp_L_areWindows (hW : Ws m0 m g o A R Z w su n ck sa kd rt hz Pl Cs z) (hK : Pk n ck kd Pl) (hzb : ∀ i, i ≤ 3 → hz i < 2 ^ 31) {i x y : Nat} (hin : i < n) (hi1 : i ≤ 1) (hx : x < 2 ^ 30) (hy : y < 2 ^ 30) {Q : Int32 → MM → Prop} (hq : ∀ m', Ws m0 m' g o A R Z w su n ck sa kd rt hz Pl Cs z → Q 1 m') : wp_L_areWindows o z (nI i) (nI x) (nI y) m Q := by
  have hck := hK.1
  have f40 : ∀ f, 60 ∣ f → f < 2 ^ 30 → wp_L_areWindows_40 Q o z (nI i) (nI y) (nI f) m := fun f hf f30 => by
    unfold wp_L_areWindows_40
    exact ⟨fun _ => aw53 hW hK hzb hin hi1 hf f30 hy hq, fun c => absurd (nI_pos' (by omega)) c⟩
  have e1 : nI x / (3 : Int32) = nI (x / 3) := pk_div (a := x) (d := 3) (by omega) (by decide) (by decide)
  have e2 : nI (x / 3) - nI (x / 3) / (300 : Int32) * (300 : Int32) = nI (x / 3 % 300) := pk_rem (a := x / 3) (d := 300) (by omega) (by decide) (by decide)
  have e3 : nI (x / 3) - nI (x / 3) / (40 : Int32) * (40 : Int32) = nI (x / 3 % 40) := pk_rem (a := x / 3) (d := 40) (by omega) (by decide) (by decide)
  have e4 : nI (x / 3 % 300) * (60 : Int32) = nI (x / 3 % 300 * 60) := pk_mul (x / 3 % 300) 60
  have e5 : nI (x / 3 % 40) * (3600 : Int32) = nI (x / 3 % 40 * 3600) := pk_mul (x / 3 % 40) 3600
  have e6 : nI ck / (60 : Int32) = nI (ck / 60) := pk_div (a := ck) (d := 60) (by omega) (by decide) (by decide)
  have e7 : nI (ck / 60) * (60 : Int32) = nI (ck / 60 * 60) := pk_mul (ck / 60) 60
  unfold wp_L_areWindows
  refine ⟨fun _ => ⟨hW.1.1.1, sp_X5_clock hW.1 ?_⟩, fun _ => ?_⟩
  · rw [e1, e2, e4, e6, e7]
    rcases Nat.lt_or_ge (ck / 60 * 60) (x / 3 % 300 * 60) with q | q
    · have hneg := pk_sneg (a := ck / 60 * 60) (b := x / 3 % 300 * 60) (by omega) q
      unfold wp_L_areWindows_40
      exact ⟨fun c => absurd c (Int32.not_le.mpr hneg), fun _ => aw53 hW hK hzb hin hi1 (f := 0) ⟨0, rfl⟩ (by decide) hy hq⟩
    · rw [pk_sub q]
      exact f40 _ (by omega) (by omega)
  · rw [e1, e3, e5]
    exact f40 _ (by omega) (by omega)
end
