/-! THE MODEL LOOKS AT A ROLLUP -/
/-- the model has looked at the values V -/
def LK (m : MM) (u : Nat) (V : List Int32) : Prop := mI m 129 u = nI V.length ∧ mJ m 130 u = vSum V ∧ (V ≠ [] → mI m 131 u = vMin V ∧ mI m 132 u = vMax V ∧ mI m 133 u = vFst V ∧ mI m 134 u = vLst V)
section
variable {m : MM} {g : Nat → Nat} {u K R Z Wh Ti Va Pa n ck : Nat} {kd rt hz : Nat → Nat} {al : List AT}
theorem Mod.sJ (h : Mod m g u K R Z Wh Ti Va Pa n ck kd rt hz al) (f a : Nat) (x : Int64) : Mod (_root_.Jvm.Pilot.CRollupStoreLaw_law_r5158_f1a2ae.sJ m f a x) g u K R Z Wh Ti Va Pa n ck kd rt hz al := h.scr rfl rfl rfl rfl ⟨rfl, rfl, rfl⟩
theorem md_look167 (h : Mod m g u K R Z Wh Ti Va Pa n ck kd rt hz al) {k : Nat} {a : AT} (hk : al[k]? = some a) {s0 l1 l2 l4 : Int32} {Q : Int32 → MM → Prop} {Kc : Nat → Int32 → Int32 → Int32 → Int32 → MM → Prop} (hq : ∀ m', Mod m' g u K R Z Wh Ti Va Pa n ck kd rt hz al → Fr (fun y => y = u) m m' → mI m' 136 u = mI m 136 u → mI m' 129 u = mI m 129 u + 1 → mJ m' 130 u = mJ m 130 u + a.2.2.toInt64 → mI m' 131 u = mI m 131 u → mI m' 132 u = mI m 132 u → mI m' 133 u = s0 → mI m' 134 u = a.2.2 → Kc u l1 l2 l4 (nI (k + 1)) m') : wp_X6_looks_167 Q Kc u l1 l2 l4 (nI k) s0 u m := by
  have hkl := (List.getElem?_eq_some_iff.mp hk).1
  have hlen := h.len
  have hv : vp_in (nI k) 10300 := vp_in_nI (by omega) (by decide)
  obtain ⟨v1, v2, v3⟩ := h.at hk
  unfold wp_X6_looks_167
  refine ⟨h.1.1, fun m50 e50 => ?_⟩
  have h50 := h.sI (f := 133) (by decide) s0
  rw [← e50] at h50
  have A50 : mAI m50 = mAI m := by rw [e50, ai_sI]
  obtain ⟨⟨a1, a2, a3, a4, a5, a6, a7, a8, a9, a10, a11⟩, ⟨b1, b2, b3, b4, b5, b6, b7, b8, b9, b10, b11, b12, b13, b14⟩, -⟩ := id h50
  refine ⟨a1, Va, a10, b11, by rw [b12]; exact hv, a1, fun m56 e56 => ?_⟩
  rw [nI_clamp (by omega), A50, v3] at e56
  have h56 := h50.sI (f := 134) (by decide) a.2.2
  rw [← e56] at h56
  have A56 : mAI m56 = mAI m := by rw [e56, ai_sI, A50]
  have hc := h56.1.1
  refine ⟨hc, hc, Va, h56.1.2.2.2.2.2.2.2.2.2.1, h56.2.1.2.2.2.2.2.2.2.2.2.2.1, by rw [h56.2.1.2.2.2.2.2.2.2.2.2.2.2.1]; exact hv, hc, fun m63 e63 => ?_⟩
  rw [nI_clamp (by omega), A56, v3] at e63
  have h63 := h56.sJ 130 u (mJ m56 130 u + a.2.2.toInt64)
  rw [← e63] at h63
  refine ⟨h63.1.1, h63.1.1, fun m66 e66 x67 e67 => ?_⟩
  have h66 := h63.sI (f := 129) (by decide) (mI m63 129 u + 1)
  rw [← e66] at h66
  rw [e67, nI_1]
  have I : ∀ f, f ≠ 129 → f ≠ 133 → f ≠ 134 → mI m66 f u = mI m f u := fun f f1 f2 f3 => by
    rw [e66, i_sI, if_neg (fun z => f1 z.1), e63, i_sJ, e56, i_sI, if_neg (fun z => f3 z.1), e50, i_sI, if_neg (fun z => f2 z.1)]
  refine hq m66 h66 ?_ (I 136 (by decide) (by decide) (by decide)) ?_ ?_ (I 131 (by decide) (by decide) (by decide)) (I 132 (by decide) (by decide) (by decide)) ?_ ?_
  · rw [e66, e63, e56, e50]
    exact (((Fr.sI _ _ _ _).trans (Fr.sI _ _ _ _)).trans (Fr.sJ _ _ _ _)).trans (Fr.sI _ _ _ _)
  · rw [e66, i_sI, if_pos ⟨rfl, rfl⟩, e63, i_sJ, e56, i_sI, if_neg (fun z => absurd z.1 (by decide)), e50, i_sI, if_neg (fun z => absurd z.1 (by decide))]
  · rw [e66, j_sI, e63, j_sJ, if_pos ⟨rfl, rfl⟩, e56, j_sI, e50, j_sI]
  · rw [e66, i_sI, if_neg (fun z => absurd z.1 (by decide)), e63, i_sJ, e56, i_sI, if_neg (fun z => absurd z.1 (by decide)), e50, i_sI, if_pos ⟨rfl, rfl⟩]
  · rw [e66, i_sI, if_neg (fun z => absurd z.1 (by decide)), e63, i_sJ, e56, i_sI, if_pos ⟨rfl, rfl⟩]
/-- one more value is looked at -/
theorem md_look_add (h : Mod m g u K R Z Wh Ti Va Pa n ck kd rt hz al) {V : List Int32} (hl : LK m u V) (hVl : V.length < 2 ^ 30) {k : Nat} {a : AT} (hk : al[k]? = some a) {l1 l2 l4 : Int32} {Q : Int32 → MM → Prop} {Kc : Nat → Int32 → Int32 → Int32 → Int32 → MM → Prop} (hq : ∀ m', Mod m' g u K R Z Wh Ti Va Pa n ck kd rt hz al → Fr (fun y => y = u) m m' → mI m' 136 u = mI m 136 u → LK m' u (V ++ [a.2.2]) → Kc u l1 l2 l4 (nI (k + 1)) m') : ((mI m 129 u) = 0 → wp_X6_looks_89 Q Kc u l1 l2 l4 (nI k) u m) ∧ (¬ (mI m 129 u) = 0 → mK m u = 7 ∧ ∃ b80 : Nat, mR m 128 u = some b80 ∧ mK m b80 = 11 ∧ vp_in (nI k) (mN m b80) ∧ mK m u = 7 ∧ (((mI m 131 u) ≤ (mAI m b80 (nI k).toNatClampNeg) → mK m u = 7 ∧ wp_X6_looks_103 Q Kc u l1 l2 l4 (nI k) (mI m 131 u) u m) ∧ (¬ (mI m 131 u) ≤ (mAI m b80 (nI k).toNatClampNeg) → wp_X6_looks_89 Q Kc u l1 l2 l4 (nI k) u m))) := by
  have hkl := (List.getElem?_eq_some_iff.mp hk).1
  have hlen := h.len
  have hv : vp_in (nI k) 10300 := vp_in_nI (by omega) (by decide)
  obtain ⟨v1, v2, v3⟩ := h.at hk
  obtain ⟨l129, l130, lrest⟩ := hl
  have hlen1 : (V ++ [a.2.2]).length = V.length + 1 := by rw [List.length_append]; rfl
  obtain ⟨⟨a1, a2, a3, a4, a5, a6, a7, a8, a9, a10, a11⟩, ⟨b1, b2, b3, b4, b5, b6, b7, b8, b9, b10, b11, b12, b13, b14⟩, -⟩ := id h
  -- from looks_142 on
  have st142 : ∀ (m37 : MM) (s1 s2 : Int32), m37 = sI m 131 u s1 → (V = [] → s1 = a.2.2 ∧ s2 = a.2.2) → (V ≠ [] → s1 = mn (vMin V) a.2.2 ∧ s2 = mx (vMax V) a.2.2) → wp_X6_looks_142 Q Kc u l1 l2 l4 (nI k) s2 u m37 := fun m37 s1 s2 e37 w0 w1 => by
    have h37 := h.sI (f := 131) (by decide) s1
    rw [← e37] at h37
    unfold wp_X6_looks_142
    refine ⟨h37.1.1, fun m45 e45 => ?_⟩
    have h45 := h37.sI (f := 132) (by decide) s2
    rw [← e45] at h45
    have i129 : mI m45 129 u = mI m 129 u := by rw [e45, i_sI, if_neg (fun z => absurd z.1 (by decide)), e37, i_sI, if_neg (fun z => absurd z.1 (by decide))]
    have i131 : mI m45 131 u = s1 := by rw [e45, i_sI, if_neg (fun z => absurd z.1 (by decide)), e37, i_sI, if_pos ⟨rfl, rfl⟩]
    have i132 : mI m45 132 u = s2 := by rw [e45, i_sI, if_pos ⟨rfl, rfl⟩]
    have i133 : mI m45 133 u = mI m 133 u := by rw [e45, i_sI, if_neg (fun z => absurd z.1 (by decide)), e37, i_sI, if_neg (fun z => absurd z.1 (by decide))]
    have i136 : mI m45 136 u = mI m 136 u := by rw [e45, i_sI, if_neg (fun z => absurd z.1 (by decide)), e37, i_sI, if_neg (fun z => absurd z.1 (by decide))]
    have j130 : mJ m45 130 u = mJ m 130 u := by rw [e45, j_sI, e37, j_sI]
    have A45 : mAI m45 = mAI m := by rw [e45, ai_sI, e37, ai_sI]
    have F45 : Fr (fun y => y = u) m m45 := by rw [e45, e37]; exact (Fr.sI _ _ _ _).trans (Fr.sI _ _ _ _)
    refine ⟨h45.1.1, fun z => ⟨h45.1.1, md_look167 h45 hk (fun m' h' f' t' p1 p2 p3 p4 p5 p6 => ?_)⟩, fun z => ⟨h45.1.1, Va, h45.1.2.2.2.2.2.2.2.2.2.1, h45.2.1.2.2.2.2.2.2.2.2.2.2.1, by rw [h45.2.1.2.2.2.2.2.2.2.2.2.2.2.1]; exact hv, ?_⟩⟩
    · have hV : V ≠ [] := fun w => z (by rw [i129, l129, w]; rfl)
      obtain ⟨w2, w3⟩ := w1 hV
      obtain ⟨r1, r2, r3, r4⟩ := lrest hV
      refine hq m' h' (F45.trans f') (t'.trans i136) ⟨?_, ?_, fun _ => ⟨?_, ?_, ?_, ?_⟩⟩
      · rw [p1, i129, l129, hlen1, nI_1]
      · rw [p2, j130, l130, vSum_1]
      · rw [p3, i131, w2, vMin_app hV (List.cons_ne_nil _ _), vMin_1]
      · rw [p4, i132, w3, vMax_app hV (List.cons_ne_nil _ _), vMax_1]
      · rw [p5, i133, r3, vFst_app _ hV]
      · rw [p6, vLst_app _ (List.cons_ne_nil _ _), vLst_1]
    · have hV : V = [] := by
        rw [i129, l129] at z
        have := (nI_eq (a := V.length) (b := 0) (by omega) (by omega)).mp z
        exact List.length_eq_zero_iff.mp this
      obtain ⟨w2, w3⟩ := w0 hV
      rw [nI_clamp (by omega), A45, v3]
      refine md_look167 h45 hk (fun m' h' f' t' p1 p2 p3 p4 p5 p6 => ?_)
      refine hq m' h' (F45.trans f') (t'.trans i136) ⟨?_, ?_, fun _ => ⟨?_, ?_, ?_, ?_⟩⟩
      · rw [p1, i129, l129, hlen1, nI_1]
      · rw [p2, j130, l130, vSum_1]
      · rw [p3, i131, w2, hV]; rfl
      · rw [p4, i132, w3, hV]; rfl
      · rw [p5, hV]; rfl
      · rw [p6, hV]; rfl
  have st103 : ∀ s1 : Int32, (V = [] → s1 = a.2.2) → (V ≠ [] → s1 = mn (vMin V) a.2.2) → wp_X6_looks_103 Q Kc u l1 l2 l4 (nI k) s1 u m := fun s1 w0 w1 => by
    unfold wp_X6_looks_103
    refine ⟨a1, fun m37 e37 => ?_⟩
    have h37 := h.sI (f := 131) (by decide) s1
    rw [← e37] at h37
    have i129 : mI m37 129 u = nI V.length := by rw [e37, i_sI, if_neg (fun z => absurd z.1 (by decide)), l129]
    have i132 : mI m37 132 u = mI m 132 u := by rw [e37, i_sI, if_neg (fun z => absurd z.1 (by decide))]
    have A37 : mAI m37 = mAI m := by rw [e37, ai_sI]
    have hVa : mR m37 128 u = some Va ∧ mK m37 Va = 11 ∧ vp_in (nI k) (mN m37 Va) := ⟨h37.1.2.2.2.2.2.2.2.2.2.1, h37.2.1.2.2.2.2.2.2.2.2.2.2.1, by rw [h37.2.1.2.2.2.2.2.2.2.2.2.2.2.1]; exact hv⟩
    have st128 : (V ≠ [] → a.2.2 = mx (vMax V) a.2.2) → wp_X6_looks_128 Q Kc u l1 l2 l4 (nI k) u m37 := fun w => by
      unfold wp_X6_looks_128
      refine ⟨h37.1.1, Va, hVa.1, hVa.2.1, hVa.2.2, ?_⟩
      rw [nI_clamp (by omega), A37, v3]
      exact st142 m37 s1 _ e37 (fun q => ⟨w0 q, rfl⟩) (fun q => ⟨w1 q, w q⟩)
    refine ⟨h37.1.1, fun z => st128 fun q => ?_, fun z => ⟨h37.1.1, Va, hVa.1, hVa.2.1, hVa.2.2, h37.1.1, ?_⟩⟩
    · rw [i129] at z
      have := (nI_eq (a := V.length) (b := 0) (by omega) (by omega)).mp z
      exact absurd (List.length_eq_zero_iff.mp this) q
    · have hV : V ≠ [] := fun w => z (by rw [i129, w]; rfl)
      rw [nI_clamp (by omega), A37, v3, i132, (lrest hV).2.1]
      refine ⟨fun y => ⟨h37.1.1, st142 m37 s1 _ e37 (fun q => absurd q hV) (fun q => ⟨w1 q, ?_⟩)⟩, fun y => st128 fun _ => ?_⟩
      · rw [mx_is, if_neg (Int32.not_lt.mpr y)]
      · rw [mx_is, if_pos (Int32.not_le.mp y)]
  have st89 : (V ≠ [] → a.2.2 = mn (vMin V) a.2.2) → wp_X6_looks_89 Q Kc u l1 l2 l4 (nI k) u m := fun w => by
    unfold wp_X6_looks_89
    refine ⟨a1, Va, a10, b11, by rw [b12]; exact hv, ?_⟩
    rw [nI_clamp (by omega), v3]
    exact st103 _ (fun _ => rfl) w
  refine ⟨fun z => st89 fun q => ?_, fun z => ⟨a1, Va, a10, b11, by rw [b12]; exact hv, a1, ?_⟩⟩
  · rw [l129] at z
    have := (nI_eq (a := V.length) (b := 0) (by omega) (by omega)).mp z
    exact absurd (List.length_eq_zero_iff.mp this) q
  · have hV : V ≠ [] := fun w => z (by rw [l129, w]; rfl)
    rw [nI_clamp (by omega), v3, (lrest hV).1]
    refine ⟨fun y => ⟨a1, st103 _ (fun q => absurd q hV) (fun _ => ?_)⟩, fun y => st89 fun _ => ?_⟩
    · rw [mn_is, if_neg (Int32.not_lt.mpr y)]
    · rw [mn_is, if_pos (Int32.not_le.mp y)]
theorem md_looks_end (h : Mod m g u K R Z Wh Ti Va Pa n ck kd rt hz al) {V : List Int32} (hl : LK m u V) (hVl : V.length < 2 ^ 30) {Q : Int32 → MM → Prop} (h1 : V ≠ [] → Q 1 m) (h0 : V = [] → Q 0 m) : wp_X6_looks_214 Q u m := by
  unfold wp_X6_looks_214
  rw [hl.1]
  refine ⟨h.1.1, fun z => h0 ?_, fun z => h1 fun w => z (by rw [w]; exact Int32.le_refl _)⟩
  have := (nI_leI (a := V.length) (b := 0) (by omega) (by omega)).mp z
  exact List.length_eq_zero_iff.mp (by omega)
theorem md_looks_loop {i t b : Nat} (hin : i < n) (t1 : 1 ≤ t) (t3 : t ≤ 3) (hb : b < 2 ^ 31) (hzt : hz t < 2 ^ 31) (hng : hz t < b + ln t) {Q : Int32 → MM → Prop} : ∀ (r k : Nat) (m : MM) (V : List Int32), k + r = al.length → Mod m g u K R Z Wh Ti Va Pa n ck kd rt hz al → LK m u V → V.length + r < 2 ^ 30 → (∀ m', Mod m' g u K R Z Wh Ti Va Pa n ck kd rt hz al → LK m' u (V ++ vl (ln t) b (sub i (al.drop k))) → mI m' 136 u = mI m 136 u → Fr (fun y => y = u) m m' → (V ++ vl (ln t) b (sub i (al.drop k)) ≠ [] → Q 1 m') ∧ (V ++ vl (ln t) b (sub i (al.drop k)) = [] → Q 0 m')) → wp_X6_looks_20 Q (r + 1) u (nI i) (nI t) (nI b) (nI k) m := by
  intro r
  induction r with
  | zero =>
    intro k m V hk h hl hVl hq
    have ek : k = al.length := by omega
    rw [ek, List.drop_eq_nil_of_le (Nat.le_refl _), show vl (ln t) b (sub i ([] : List AT)) = [] from rfl, List.append_nil] at hq
    unfold wp_X6_looks_20
    rw [h.1.2.2.2.1, ek]
    obtain ⟨q1, q0⟩ := hq m h hl rfl (Fr.refl _ _)
    exact ⟨h.1.1, fun _ => md_looks_end h hl (by omega) q1 q0, fun z => absurd (Int32.le_refl _) z⟩
  | succ r ih =>
    intro k m V hk h hl hVl hq
    have hlen := h.len
    have hn := h.n4
    have hkl : k < al.length := by omega
    obtain ⟨a, ha, hd, hm⟩ := h.get hkl
    obtain ⟨s1, s2⟩ := h.small a hm
    obtain ⟨v1, v2, v3⟩ := h.at ha
    have hv : vp_in (nI k) 10300 := vp_in_nI (by omega) (by decide)
    obtain ⟨⟨a1, a2, a3, a4, a5, a6, a7, a8, a9, a10, a11⟩, ⟨b1, b2, b3, b4, b5, b6, b7, b8, b9, b10, b11, b12, b13, b14⟩, -⟩ := id h
    have hbl := bg_le (ln t) a.2.1
    have next : vl (ln t) b (sub i (al.drop k)) = vl (ln t) b (sub i (al.drop (k + 1))) → wp_X6_looks_20 Q (r + 1) u (nI i) (nI t) (nI b) (nI (k + 1)) m := fun e => by
      rw [e] at hq
      exact ih (k + 1) m V (by omega) h hl (by omega) hq
    unfold wp_X6_looks_20
    rw [a4, nI_1]
    refine ⟨a1, fun z => absurd ((nI_leI (by omega) (by omega)).mp z) (by omega), fun _ => ⟨a1, md_isGone h t1 t3 (b := b) (by omega) hzt (nI_l hb) (fun _ => ⟨fun z => absurd rfl z, fun _ => ⟨a1, Wh, a8, b7, by rw [b8]; exact hv, ?_⟩⟩) (fun w => by omega)⟩⟩
    rw [nI_clamp (by omega), v1]
    refine ⟨fun y x21 e21 => ?_, fun y => ⟨a1, Ti, a9, b9, by rw [b10]; exact hv, ?_⟩⟩
    · rw [e21]
      exact next (by rw [hd, sub_cons_ne (fun z => y (by rw [z]))])
    · have hai : a.1 = i := (nI_eq (by omega) (by omega)).mp y
      rw [v2]
      refine md_begin t1 t3 (by omega) ⟨fun y2 x29 e29 => ?_, fun y2 => ⟨a1, ?_⟩⟩
      · rw [e29]
        refine next ?_
        rw [hd, sub_cons_eq hai, vl_cons, if_neg (fun z => y2 (by rw [z]))]
      · have hab : bg (ln t) a.2.1 = b := (nI_eq (by omega) hb).mp y2
        have ev : vl (ln t) b (sub i (al.drop k)) = a.2.2 :: vl (ln t) b (sub i (al.drop (k + 1))) := by
          rw [hd, sub_cons_eq hai, vl_cons, if_pos hab]
        have eV : V ++ vl (ln t) b (sub i (al.drop k)) = (V ++ [a.2.2]) ++ vl (ln t) b (sub i (al.drop (k + 1))) := by
          rw [ev, List.append_assoc]
          rfl
        rw [eV] at hq
        have key := md_look_add h hl (by omega) ha (l1 := nI i) (l2 := nI t) (l4 := nI b) (Q := Q) (Kc := wp_X6_looks_20 Q (r + 1)) (fun m' h' f' t' l' => ih (k + 1) m' (V ++ [a.2.2]) (by omega) h' l' (by rw [List.length_append]; show V.length + 1 + r < 2 ^ 30; omega) (fun m'' w1 w2 w3 w4 => hq m'' w1 w2 (w3.trans t') (f'.trans w4)))
        rw [nI_clamp (n := k) (by omega)] at key
        exact key
/-- looking: what the model tells of the rollup in which x is -/
theorem md_looks (h : Mod m g u K R Z Wh Ti Va Pa n ck kd rt hz al) {i t x : Nat} (hin : i < n) (t1 : 1 ≤ t) (t3 : t ≤ 3) (hx : x < 2 ^ 31) (hzt : hz t < 2 ^ 31) {Q : Int32 → MM → Prop} (hq : ∀ m', Mod m' g u K R Z Wh Ti Va Pa n ck kd rt hz al → LK m' u (rl hz (sub i al) t x) → mI m' 136 u = mI m 136 u → Fr (fun y => y = u) m m' → (rl hz (sub i al) t x ≠ [] → Q 1 m') ∧ (rl hz (sub i al) t x = [] → Q 0 m')) : wp_X6_looks u (nI i) (nI t) (nI x) m Q := by
  have hlen := h.len
  have hbl := bg_le (ln t) x
  unfold wp_X6_looks
  refine md_begin t1 t3 hx ⟨h.1.1, fun m4 e4 => ?_⟩
  have h4 := h.sI (f := 129) (by decide) 0
  rw [← e4] at h4
  refine ⟨h4.1.1, fun m6 e6 x7 e7 => ?_⟩
  have h6 := h4.sJ 130 u 0
  rw [← e6] at h6
  have l6 : LK m6 u [] := ⟨by rw [e6, i_sJ, e4, i_sI, if_pos ⟨rfl, rfl⟩]; rfl, by rw [e6, j_sJ, if_pos ⟨rfl, rfl⟩]; rfl, fun z => absurd rfl z⟩
  have t6 : mI m6 136 u = mI m 136 u := by rw [e6, i_sJ, e4, i_sI, if_neg (fun z => absurd z.1 (by decide))]
  have f6 : Fr (fun y => y = u) m m6 := by rw [e6, e4]; exact (Fr.sI _ _ _ _).trans (Fr.sJ _ _ _ _)
  rw [e7]
  by_cases hng : hz t < bg (ln t) x + ln t
  · have er : rl hz (sub i al) t x = vl (ln t) (bg (ln t) x) (sub i al) := if_pos hng
    rw [er] at hq
    refine ⟨_, md_looks_loop hin t1 t3 (by omega) hzt hng al.length 0 m6 [] (Nat.zero_add _) h6 l6 (by rw [List.length_nil]; omega) (fun m' w1 w2 w3 w4 => ?_)⟩
    rw [List.drop_zero, List.nil_append] at w2 ⊢
    exact hq m' w1 w2 (w3.trans t6) (f6.trans w4)
  · have er : rl hz (sub i al) t x = [] := if_neg hng
    rw [er] at hq
    obtain ⟨q1, q0⟩ := hq m6 h6 l6 t6 f6
    refine ⟨1, ?_⟩
    unfold wp_X6_looks_20
    refine ⟨h6.1.1, fun _ => md_looks_end h6 l6 (by decide) q1 q0, fun _ => ⟨h6.1.1, md_isGone h6 t1 t3 (b := bg (ln t) x) (by omega) hzt (nI_l (by omega)) (fun w => absurd w hng) (fun _ => ⟨fun _ => md_looks_end h6 l6 (by decide) q1 q0, fun z => absurd z (by decide)⟩)⟩⟩
theorem md_noL (h : Mod m g u K R Z Wh Ti Va Pa n ck kd rt hz al) {V : List Int32} (hl : LK m u V) {Q : Int32 → MM → Prop} (hq : ∀ m', Mod m' g u K R Z Wh Ti Va Pa n ck kd rt hz al → LK m' u V → mI m' 136 u = 0 → Fr (fun x => x = u) m m' → Q 1 m') : wp_X6_can u 0 m Q := by
  unfold wp_X6_can
  refine ⟨h.1.1, fun m2 e2 => ⟨fun z => absurd rfl z, fun _ => ?_⟩⟩
  have h2 := h.sI (f := 136) (by decide) 0
  rw [← e2] at h2
  have I : ∀ f, f ≠ 136 → mI m2 f u = mI m f u := fun f hf => by rw [e2, i_sI, if_neg (fun z => hf z.1)]
  refine hq m2 h2 ⟨(I 129 (by decide)).trans hl.1, by rw [e2, j_sI]; exact hl.2.1, fun hV => ?_⟩ (by rw [e2, i_sI, if_pos ⟨rfl, rfl⟩]) (by rw [e2]; exact Fr.sI _ _ _ _)
  obtain ⟨r1, r2, r3, r4⟩ := hl.2.2 hV
  exact ⟨(I 131 (by decide)).trans r1, (I 132 (by decide)).trans r2, (I 133 (by decide)).trans r3, (I 134 (by decide)).trans r4⟩
theorem md_isAsked (h : Mod m g u K R Z Wh Ti Va Pa n ck kd rt hz al) (hzb : ∀ i, i ≤ 3 → hz i < 2 ^ 31) {p1 p2 p3 : Int32} {Q : Int32 → MM → Prop} (c1 : (p1 < 0 ∨ ¬ p1 < nI n) → ∀ m', Mod m' g u K R Z Wh Ti Va Pa n ck kd rt hz al → mI m' 136 u = 1 → Fr (MS g u) m m' → Q 0 m') (c2 : NoAsk n p1 p2 p3 → ∀ m', Mod m' g u K R Z Wh Ti Va Pa n ck kd rt hz al → mI m' 136 u = 2 → Fr (MS g u) m m' → Q 0 m') (c3 : ∀ i t x, Ask n p1 p2 p3 i t x → rl hz (sub i al) t x = [] → ∀ m', Mod m' g u K R Z Wh Ti Va Pa n ck kd rt hz al → mI m' 136 u = 3 → Fr (MS g u) m m' → Q 0 m') (c0 : ∀ i t x, Ask n p1 p2 p3 i t x → rl hz (sub i al) t x ≠ [] → ∀ m', Mod m' g u K R Z Wh Ti Va Pa n ck kd rt hz al → LK m' u (rl hz (sub i al) t x) → mI m' 136 u = 0 → Fr (MS g u) m m' → Q 1 m') : wp_X6_isAsked u p1 p2 p3 m Q := by
  unfold wp_X6_isAsked
  refine ⟨h.1.1, md_isSeries h (fun i hin e => ⟨fun _ => ?_, fun z => absurd z (by decide)⟩) (fun z => ⟨fun y => absurd rfl y, fun _ => ⟨h.1.1, md_no h (by decide) fun m' h' t' f' => ⟨Or.inl rfl, c1 z m' h' t' (fr_u f')⟩⟩⟩)⟩
  refine md_isRolled (fun t et t1 t3 => ⟨fun z => absurd z (by decide), fun _ => ⟨fun z => ⟨h.1.1, ?_⟩, fun z => ⟨h.1.1, md_no h (by decide) fun m' h' t' f' => ⟨Or.inl rfl, c2 ⟨i, hin, e, fun t' x q => z ?_⟩ m' h' t' (fr_u f')⟩⟩⟩⟩) (fun z => ⟨fun _ => ⟨h.1.1, md_no h (by decide) fun m' h' t' f' => ⟨Or.inl rfl, c2 ⟨i, hin, e, fun t x q => ?_⟩ m' h' t' (fr_u f')⟩⟩, fun y => absurd rfl y⟩)
  · obtain ⟨x, hx, ex⟩ := nI_of (Int32.not_lt.mpr z)
    have ha : Ask n p1 p2 p3 i t x := ⟨hin, e, et, t1, t3, ex, hx⟩
    rw [e, et, ex]
    refine md_looks h hin t1 t3 hx (hzb t t3) fun m' h' l' t' f' => ⟨fun hne => ⟨fun w => absurd w (by decide), fun _ => ⟨h'.1.1, md_noL h' l' fun m'' h'' l'' t'' f'' => ⟨Or.inr rfl, ?_⟩⟩⟩, fun hnil => ⟨fun _ => ⟨h'.1.1, md_no h' (by decide) fun m'' h'' t'' f'' => ⟨Or.inl rfl, ?_⟩⟩, fun w => absurd rfl w⟩⟩
    · exact c0 i t x ha hne m'' h'' l'' t'' (fr_u (f'.trans f''))
    · exact c3 i t x ha hnil m'' h'' t'' (fr_u (f'.trans f''))
  · rw [q.2.2.2.2.2.1]
    exact Int32.not_lt.mp (nI_pos q.2.2.2.2.2.2)
  · obtain ⟨q1, q2, q3, q4, q5, q6⟩ := q
    have := z t q3 q4
    omega
theorem md_hasRollup (h : Mod m g u K R Z Wh Ti Va Pa n ck kd rt hz al) (hzb : ∀ i, i ≤ 3 → hz i < 2 ^ 31) {p1 p2 p3 : Int32} {Q : Int32 → MM → Prop} (c1 : (p1 < 0 ∨ ¬ p1 < nI n) → ∀ m', Mod m' g u K R Z Wh Ti Va Pa n ck kd rt hz al → mI m' 136 u = 1 → Fr (MS g u) m m' → Q 0 m') (c2 : NoAsk n p1 p2 p3 → ∀ m', Mod m' g u K R Z Wh Ti Va Pa n ck kd rt hz al → mI m' 136 u = 2 → Fr (MS g u) m m' → Q 0 m') (c3 : ∀ i t x, Ask n p1 p2 p3 i t x → rl hz (sub i al) t x = [] → ∀ m', Mod m' g u K R Z Wh Ti Va Pa n ck kd rt hz al → mI m' 136 u = 0 → Fr (MS g u) m m' → Q 0 m') (c0 : ∀ i t x, Ask n p1 p2 p3 i t x → rl hz (sub i al) t x ≠ [] → ∀ m', Mod m' g u K R Z Wh Ti Va Pa n ck kd rt hz al → mI m' 136 u = 0 → Fr (MS g u) m m' → Q 1 m') : wp_X6_hasRollup u p1 p2 p3 m Q := by
  unfold wp_X6_hasRollup
  refine ⟨h.1.1, md_isSeries h (fun i hin e => ⟨fun _ => ?_, fun z => absurd z (by decide)⟩) (fun z => ⟨fun y => absurd rfl y, fun _ => ⟨h.1.1, md_no h (by decide) fun m' h' t' f' => ⟨fun _ => c1 z m' h' t' (fr_u f'), fun y => absurd rfl y⟩⟩⟩)⟩
  refine md_isRolled (fun t et t1 t3 => ⟨fun z => absurd z (by decide), fun _ => ⟨fun z => ⟨h.1.1, md_yes h fun m1 h1 u1 f1 => ⟨fun y => absurd y (by decide), fun _ => ⟨h1.1.1, ?_⟩⟩⟩, fun z => ⟨h.1.1, md_no h (by decide) fun m' h' t' f' => ⟨fun _ => c2 ⟨i, hin, e, fun t' x q => z ?_⟩ m' h' t' (fr_u f'), fun y => absurd rfl y⟩⟩⟩⟩) (fun z => ⟨fun _ => ⟨h.1.1, md_no h (by decide) fun m' h' t' f' => ⟨fun _ => c2 ⟨i, hin, e, fun t x q => ?_⟩ m' h' t' (fr_u f'), fun y => absurd rfl y⟩⟩, fun y => absurd rfl y⟩)
  · obtain ⟨x, hx, ex⟩ := nI_of (Int32.not_lt.mpr z)
    have ha : Ask n p1 p2 p3 i t x := ⟨hin, e, et, t1, t3, ex, hx⟩
    rw [e, et, ex]
    exact md_looks h1 hin t1 t3 hx (hzb t t3) fun m' h' l' t' f' => ⟨fun hne => ⟨fun w => absurd w (by decide), fun _ => c0 i t x ha hne m' h' (t'.trans u1) (fr_u (f1.trans f'))⟩, fun hnil => ⟨fun _ => c3 i t x ha hnil m' h' (t'.trans u1) (fr_u (f1.trans f')), fun w => absurd rfl w⟩⟩
  · rw [q.2.2.2.2.2.1]
    exact Int32.not_lt.mp (nI_pos q.2.2.2.2.2.2)
  · obtain ⟨q1, q2, q3, q4, q5, q6⟩ := q
    have := z t q3 q4
    omega
end
