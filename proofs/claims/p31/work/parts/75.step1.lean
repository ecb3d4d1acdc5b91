/-! A STEP: one point, a try, an erasing -/
section
variable {x y : Nat → Nat} {z ck B : Nat} {kd rt hz : Nat → Nat} {m : MM} {Pl Pp : Nat → List (Nat × Int32)} {Cs Ds : Nat → Nat → Nat}
/-- what holds between the steps -/
def In (x y : Nat → Nat) (z : Nat) (kd rt hz : Nat → Nat) (ck B : Nat) (m : MM) : Prop := ∃ Pl Cs Ds, T2 x y z kd rt hz ck m Pl Pl Cs Ds ∧ Pn ck kd B Pl ∧ C2 Cs ∧ C2 Ds
theorem Pn.mono (hP : Pn ck kd B Pl) {B' : Nat} (h : B ≤ B') (h2 : B' ≤ 1000) : Pn ck kd B' Pl := ⟨h2, fun i hi => ⟨(hP.2 i hi).1, Nat.le_trans (hP.2 i hi).2.1 h, (hP.2 i hi).2.2⟩⟩
theorem st168 (hT : T2 x y z kd rt hz ck m Pl Pl Cs Ds) (hN : Nm ck kd rt hz) (hP : Pn ck kd B Pl) (hB : B + 1 ≤ 1000) (hC : C2 Cs) (hD : C2 Ds) {i a : Nat} {v : Int32} (hin : i < 2) (t31 : a < 2 ^ 31) (hv : okV (kd i) v) {Q : Int32 → MM → Prop} {kc ks : Nat} (hkc : 40 ≤ kc) (hks : 25000 ≤ ks) (hq : ∀ m', In x y z kd rt hz ck (B + 1) m' → Q 1 m') : wp_L_step_168 Q (x 0) (y 0) z (nI i) (nI a) v m kc ks := by
  have hck := hN.2.2.2.1
  have h100 := t2_h100 hT hin
  unfold wp_L_step_168
  refine ⟨20, 12400, by omega, by omega, t2_writes hT hN hP hB hC hin t31 hv (by decide) (by decide) (fun hok m1 C1 hT1 hC1 => ?_) (fun hok => ?_)⟩
  · intro kc18 ks19 e18 e19
    refine ⟨fun c => absurd c (by decide), fun _ => ⟨9, 12330, by omega, by omega, t2_Lput hT1.sw hN hP hin t31 hv (by decide) (by decide) (fun _ => sV_cost hD hP hin a) (fun _ r m2 C2' r1 r0 hT2 hC2 => ?_) (fun c => by have := hok.1.1; omega) (fun _ c => absurd hok c)⟩⟩
    intro kc29 ks30 e29 e30
    have hT3 := hT2.sw
    have hP1 := hP.ins hB hin hok.1.1 hv
    have hfin : Q 1 m2 := hq m2 ⟨_, _, _, hT3, hP1, hC.up hP hin hC1, hD.up hP hin hC2⟩
    have hv1 : vat hz (va_up Pl i (ins kf (a, v) (Pl i)) i) a = v := by
      rw [va_up_self]
      exact vat_in (b := (a, v)) ((hP.2 i hin).1.ins _) (mem_hi.mpr ⟨mem_ins.mpr (Or.inl rfl), hN.keep0 hok.2.1⟩)
    have h201 : wp_L_step_201 Q (x 0) (y 0) (nI i) (nI a) v 1 m2 kc29 ks30 := by
      unfold wp_L_step_201
      refine ⟨hT2.K, t2_clock hT2 ⟨fun c => absurd ((old_iff (by omega) t31).mpr hok.2.1) (Int32.not_le.mpr c), fun _ => ⟨hT2.K, t2_clock hT2 ⟨fun c => absurd c (nI_nlt hok.1.1 (by omega)), fun _ => ⟨by omega, by omega, t2_valueAt hT3 hN hP1 hin t31 ?_⟩⟩⟩⟩⟩
      intro _ _ _ _
      exact ⟨fun c => absurd hv1 c, fun _ => ⟨fun c => absurd rfl c, fun _ => hfin⟩⟩
    refine ⟨fun c => absurd c ?_, fun _ => h201⟩
    by_cases q : ∃ b ∈ Pl i, b.1 = a
    · rw [r1 q]; decide
    · rw [r0 (fun b hb e => q ⟨b, hb, e⟩)]; decide
  · intro kc18 ks19 e18 e19
    have hfin : Q 1 m := hq m ⟨Pl, Cs, Ds, hT, hP.mono (Nat.le_succ _) hB, hC, hD⟩
    have h240 : ∀ kc' ks', wp_L_step_240 Q 0 m kc' ks' := fun kc' ks' => by
      unfold wp_L_step_240
      exact ⟨fun c => absurd rfl c, fun _ => hfin⟩
    have h201 : ∀ kc29 ks30, kc29 = kc18 - 9 → ks30 = ks19 - 12330 → wp_L_step_201 Q (x 0) (y 0) (nI i) (nI a) v 0 m kc29 ks30 := fun kc29 ks30 e29 e30 => by
      unfold wp_L_step_201
      refine ⟨hT.sw.K, t2_clock hT.sw ⟨fun _ => h240 _ _, fun c1 => ⟨hT.sw.K, t2_clock hT.sw ⟨fun _ => h240 _ _, fun c2 => ⟨by omega, by omega, t2_valueAt hT hN hP hin t31 ?_⟩⟩⟩⟩⟩
      intro _ _ _ _
      refine ⟨fun _ => h240 _ _, fun c3 => ?_⟩
      exfalso
      have ha : a ≤ ck := by
        rcases Nat.lt_or_ge ck a with q | q
        · exact absurd (nI_lt q t31) c2
        · exact q
      have hc : ck ≤ a + 3600 := (old_iff (by omega) t31).mp (Int32.not_lt.mp c1)
      refine hok ((okP_law hP hin ha hv h100).mpr ⟨hc, fun q => ?_⟩)
      rw [q.1] at c3
      exact okV_ne hv c3.symm
    refine ⟨fun c => absurd c (by decide), fun _ => ⟨9, 12330, by omega, by omega, t2_Lput hT.sw hN hP hin t31 hv (by decide) (by decide) (fun c => absurd c hok) (fun c => absurd c hok) (fun _ => ?_) (fun _ _ => ?_)⟩⟩
    · intro kc29 ks30 e29 e30
      exact ⟨fun _ => h201 _ _ e29 e30, fun c => absurd (by decide) c⟩
    · intro kc29 ks30 e29 e30
      exact ⟨fun _ => h201 _ _ e29 e30, fun c => absurd (by decide) c⟩
theorem st309 (hT : T2 x y z kd rt hz ck m Pl Pl Cs Ds) (hN : Nm ck kd rt hz) (hP : Pn ck kd B Pl) (hB : B + 1 ≤ 1000) (hC : C2 Cs) (hD : C2 Ds) {i a : Nat} {v : Int32} (hin : i < 2) (t31 : a < 2 ^ 31) (hv : okV (kd i) v) {Q : Int32 → MM → Prop} {kc ks : Nat} (hkc : 40 ≤ kc) (hks : 25000 ≤ ks) (hq : ∀ m', In x y z kd rt hz ck (B + 1) m' → Q 1 m') : wp_L_step_309 Q (x 0) (y 0) (nI i) (nI a) v m kc ks := by
  unfold wp_L_step_309
  refine ⟨30, 24700, by omega, by omega, t2_tries hT hN hP hB hC hin t31 hv (by decide) (by decide) (fun m1 Cs1 hT1 hC1 => ?_)⟩
  intro kc71 ks72 _ _
  exact ⟨fun c => absurd c (by decide), fun _ => t2_tale hT1.sw hN hP hin (t2_tale hT1 hN hP hin ⟨fun c => absurd ((lg_cmp_eq _ _).mpr rfl) c, fun _ => hq m1 ⟨_, _, _, hT1, hP.mono (Nat.le_succ _) hB, hC1, hD⟩⟩)⟩
theorem del_len {l : List (Nat × Int32)} (h : Srt kf l) {b : Nat × Int32} (hb : b ∈ l) : (del kf b.1 l).length = l.length - 1 := by
  have h1 := del_drop h hb
  have h2 := (List.getElem?_eq_some_iff.mp (h.at hb)).1
  rw [show kf b = b.1 from rfl] at h1 h2
  rw [← h1, List.length_append, List.length_take, List.length_drop]
  omega
theorem st389 (hT : T2 x y z kd rt hz ck m Pl Pl Cs Ds) (hN : Nm ck kd rt hz) (hP : Pn ck kd B Pl) (hB : B + 1 ≤ 1000) (hC : C2 Cs) (hD : C2 Ds) {i : Nat} (hin : i < 2) {b : Nat × Int32} (hb : b ∈ hi kf (hz 0) (Pl i)) {Q : Int32 → MM → Prop} {kc ks : Nat} (hkc : 40 ≤ kc) (hks : 25000 ≤ ks) (hq : ∀ m', In x y z kd rt hz ck (B + 1) m' → Q 1 m') : wp_L_step_389 Q (x 0) (y 0) (nI i) (nI (hi kf (hz 0) (Pl i)).length) (nI b.1) m kc ks := by
  have hck := hN.2.2.2.1
  have h100 := t2_h100 hT hin
  have hb31 := hP.t31 hN hin b (mem_hi.mp hb).1
  have hfin : Q 1 m := hq m ⟨Pl, Cs, Ds, hT, hP.mono (Nat.le_succ _) hB, hC, hD⟩
  have hpos := List.length_pos_of_mem hb
  unfold wp_L_step_389
  refine ⟨fun _ => hfin, fun _ => ⟨hT.K, t2_clock hT ⟨fun c => ⟨hT.K, t2_X5valueAt hT hN hP hin hb ⟨9, 12330, by omega, by omega, hT.K, ?_⟩⟩, fun _ => hfin⟩⟩⟩
  have hc : ck ≤ b.1 + 3600 := (old_iff (by omega) hb31).mp c
  refine t2_erase hT hN hP hC hin hb hc (by decide) (by decide) (fun m1 C1 hT1 hC1 => ?_)
  intro kc105 ks106 e105 e106
  refine ⟨fun c => absurd rfl c, fun _ => ⟨9, 12330, by omega, by omega, hT1.sw.K, t2_erase hT1.sw hN hP hD hin hb hc (by decide) (by decide) (fun m2 C2' hT2 hC2 => ?_)⟩⟩
  intro kc117 ks118 e117 e118
  have hT3 := hT2.sw
  have hP3 : Pn ck kd B (va_up Pl i (del kf b.1 (Pl i))) := hP.del
  refine ⟨fun c => absurd rfl c, fun _ => ⟨by omega, by omega, t2_valueAt hT3 hN hP3 hin hb31 ?_⟩⟩
  intro _ _ _ _
  have hvn : vat hz (va_up Pl i (del kf b.1 (Pl i)) i) b.1 = -2000000 := by
    rw [va_up_self]
    exact vat_no fun q hq9 => (mem_del.mp (mem_hi.mp hq9).1).2
  have hrn : nI (rws hz (va_up Pl i (del kf b.1 (Pl i)) i) 0) = nI (hi kf (hz 0) (Pl i)).length - 1 := by
    rw [va_up_self, rws_0, hi_del, del_len (l := hi kf (hz 0) (Pl i)) ((hP.2 i hin).1.filter _) hb]
    exact (pk_sub (a := (hi kf (hz 0) (Pl i)).length) (b := 1) hpos).symm
  exact ⟨fun c => absurd hvn c, fun _ => ⟨hT3.K, t2_rows hT3 hin (t := 0) (by decide) ⟨fun c => absurd hrn c, fun _ => hq m2 ⟨_, _, _, hT3, hP3.mono (Nat.le_succ _) hB, hC.up hP hin hC1, hD.up hP hin hC2⟩⟩⟩⟩
theorem st344 (hT : T2 x y z kd rt hz ck m Pl Pl Cs Ds) (hN : Nm ck kd rt hz) (hP : Pn ck kd B Pl) (hB : B + 1 ≤ 1000) (hC : C2 Cs) (hD : C2 Ds) {i yy : Nat} (hin : i < 2) (hy : yy < 2 ^ 31) {Q : Int32 → MM → Prop} {kc ks : Nat} (hkc : 40 ≤ kc) (hks : 25000 ≤ ks) (hq : ∀ m', In x y z kd rt hz ck (B + 1) m' → Q 1 m') : wp_L_step_344 Q (x 0) (y 0) (nI yy) (nI i) m kc ks := by
  have h100 := t2_h100 hT hin
  have hfin : Q 1 m := hq m ⟨Pl, Cs, Ds, hT, hP.mono (Nat.le_succ _) hB, hC, hD⟩
  have key : ∀ s0, 0 < s0 → s0 ≤ (hi kf (hz 0) (Pl i)).length → wp_L_step_384 Q (x 0) (y 0) (nI i) (nI (hi kf (hz 0) (Pl i)).length) (nI s0) (nI yy) (nI (hi kf (hz 0) (Pl i)).length - 1) 0 (nI i) (x 0) m kc ks := fun s0 h0 h1 => by
    have hm : yy % s0 < s0 := Nat.mod_lt _ h0
    have e1 : nI (hi kf (hz 0) (Pl i)).length - (1 : Int32) = nI ((hi kf (hz 0) (Pl i)).length - 1) := pk_sub (a := (hi kf (hz 0) (Pl i)).length) (b := 1) (by omega)
    unfold wp_L_step_384
    rw [pk_rem hy h0 (by omega), e1, pk_sub (by omega)]
    obtain ⟨b, hb⟩ : ∃ b, (hi kf (hz 0) (Pl i))[(hi kf (hz 0) (Pl i)).length - 1 - yy % s0]? = some b := ⟨_, List.getElem?_eq_getElem (by omega)⟩
    obtain ⟨g, h, sa, sb, hO, -⟩ := id hT
    exact ⟨nI_ne0 h0 (by omega), hT.K, q_timeOf hO hin (t := 0) (by decide) (by omega) (rowT_p hb) (st389 hT hN hP hB hC hD hin (List.mem_of_getElem? hb) hkc hks hq)⟩
  unfold wp_L_step_344
  refine ⟨hT.K, t2_rows hT hin (t := 0) (by decide) ?_⟩
  rw [rws_0]
  refine ⟨fun c => ⟨fun d => ?_, fun d => ?_⟩, fun c => ?_⟩
  · exact key 5 (by decide) ((nI_leI (a := 5) (by decide) (by omega)).mp d)
  · refine key _ ?_ (Nat.le_refl _)
    rcases Nat.eq_zero_or_pos (hi kf (hz 0) (Pl i)).length with q | q
    · exact absurd (by rw [q]; exact nI_0) c
    · exact q
  · unfold wp_L_step_389
    exact ⟨fun _ => hfin, fun d => absurd c d⟩
end
