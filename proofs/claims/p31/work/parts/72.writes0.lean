/-! WRITES: a point is written, or refused and nothing changes -/
section
variable {x y : Nat → Nat} {z ck B : Nat} {kd rt hz : Nat → Nat} {m : MM} {Pl Pp : Nat → List (Nat × Int32)} {Cs Ds : Nat → Nat → Nat}
theorem okV_ne {k : Nat} {v : Int32} (h : okV k v) : v ≠ -2000000 := fun e => by
  have h1 := (w_int (okV_w h)).1
  rw [e, show (-2000000 : Int32).toInt = -2000000 by decide] at h1
  omega
/-- what valueAt tells, or -2000000 -/
def vat (hz : Nat → Nat) (P : List (Nat × Int32)) (t : Nat) : Int32 := match (hi kf (hz 0) P).find? (fun b => decide (b.1 = t)) with
  | none => -2000000
  | some b => b.2
theorem vat_in {P : List (Nat × Int32)} (hP : Srt kf P) {b : Nat × Int32} (hb : b ∈ hi kf (hz 0) P) : vat hz P b.1 = b.2 := by
  unfold vat
  cases e : (hi kf (hz 0) P).find? (fun c => decide (c.1 = b.1)) with
  | none =>
    have := List.find?_eq_none.mp e b hb
    exact absurd (decide_eq_true rfl) this
  | some c =>
    have h1 := List.mem_of_find?_eq_some e
    have h3 := List.find?_some e
    have h2 : c.1 = b.1 := of_decide_eq_true (p := c.1 = b.1) h3
    have := hP.one (mem_hi.mp h1).1 (mem_hi.mp hb).1 h2
    rw [this]
theorem vat_no {P : List (Nat × Int32)} {t : Nat} (h : ∀ b ∈ hi kf (hz 0) P, b.1 ≠ t) : vat hz P t = -2000000 := by
  unfold vat
  rw [List.find?_eq_none.mpr (fun b hb => by rw [decide_eq_true_iff]; exact h b hb)]
theorem t2_valueAt (hT : T2 x y z kd rt hz ck m Pl Pp Cs Ds) (hN : Nm ck kd rt hz) (hP : Pn ck kd B Pl) {i t : Nat} (hin : i < 2) (t31 : t < 2 ^ 31) {Q : Int32 → MM → Prop} (hq : Q (vat hz (Pl i) t) m) : wp_L_valueAt (x 0) (nI i) (nI t) m Q := by
  obtain ⟨g, h, sa, sb, hO, hO2, hR, hD⟩ := hT
  refine sp_L_valueAt hO (hP.pk hN).srt hin t31 (hP.t31 hN hin) (fun b hb e => ?_) (fun hn => ?_)
  · rw [← e, vat_in (hP.2 i hin).1 hb] at hq
    exact hq
  · rw [vat_no hn] at hq
    exact hq
theorem T2.K (hT : T2 x y z kd rt hz ck m Pl Pp Cs Ds) : mK m (x 0) = 6 := by
  obtain ⟨g, h, sa, sb, hO, -⟩ := hT
  exact hO.1.1
theorem t2_rows (hT : T2 x y z kd rt hz ck m Pl Pp Cs Ds) {i t : Nat} (hin : i < 2) (ht : t ≤ 3) {Q : Int32 → MM → Prop} {X : Nat → MM → Prop} (hq : Q (nI (rws hz (Pl i) t)) m) : wp_X5_rows (x 0) (nI i) (nI t) m Q X := by
  obtain ⟨g, h, sa, sb, hO, -⟩ := hT
  exact q_rows hO hin ht hq
theorem t2_clock (hT : T2 x y z kd rt hz ck m Pl Pp Cs Ds) {Q : Int32 → MM → Prop} (hq : Q (nI ck) m) : wp_X5_clock (x 0) m Q := by
  obtain ⟨g, h, sa, sb, hO, -⟩ := hT
  exact sp_X5_clock hO hq
theorem t2_tale (hT : T2 x y z kd rt hz ck m Pl Pp Cs Ds) (hN : Nm ck kd rt hz) (hP : Pn ck kd B Pl) {i : Nat} (hin : i < 2) {Q : Int64 → MM → Prop} (hq : Q (taleF hz (Pl i)) m) : wp_L_tale (x 0) (nI i) m Q := by
  obtain ⟨g, h, sa, sb, hO, -⟩ := hT
  exact sp_L_tale hO (hP.pk hN).srt hin (hP.t31 hN hin) hq
theorem t2_h100 (hT : T2 x y z kd rt hz ck m Pl Pp Cs Ds) {i : Nat} (hin : i < 2) : (hi kf (hz 0) (Pl i)).length ≤ 100 := by
  obtain ⟨g, h, sa, sb, hO, -⟩ := hT
  exact Sto.h100' hO hin
/-- a point's stretch, kept -/
theorem rl_ins {P : List (Nat × Int32)} (hP : Srt kf P) {t a : Nat} {v : Int32} (hk : hz t < bg (ln t) a + ln t) : v ∈ rl hz (ins kf (a, v) P) t a := by
  unfold rl
  rw [if_pos hk]
  unfold vl
  exact List.mem_map.mpr ⟨(a, v), List.mem_filter.mpr ⟨mem_ins.mpr (Or.inl rfl), decide_eq_true rfl⟩, rfl⟩
theorem Nm.keep (hN : Nm ck kd rt hz) {t a : Nat} (ht : t ≤ 3) (ha : ck ≤ a + 3600) : hz t < bg (ln t) a + ln t := by
  have h1 := hN.2.2.2.2.2.2 t ht
  have h2 := bg_lt (ln_pos t) a
  have h3 := hN.2.2.1
  unfold rmin at h1
  split at h1 <;> omega
theorem Nm.keep0 (hN : Nm ck kd rt hz) {a : Nat} (ha : ck ≤ a + 3600) : hz 0 ≤ a := by
  have h1 := hN.2.2.2.2.2.2 0 (by decide)
  have h3 := hN.2.2.1
  unfold rmin at h1
  split at h1 <;> omega
theorem Pn.ins (hP : Pn ck kd B Pl) (hB : B + 1 ≤ 1000) {i a : Nat} {v : Int32} (hin : i < 2) (ha : a ≤ ck) (hv : okV (kd i) v) : Pn ck kd (B + 1) (va_up Pl i (ins kf (a, v) (Pl i))) := by
  refine ⟨hB, fun j hj => ?_⟩
  obtain ⟨h1, h2, h3⟩ := hP.2 j hj
  by_cases q : j = i
  · subst q
    rw [va_up_self]
    have := ins_len (x := a) (y := v) h1
    refine ⟨h1.ins _, by omega, fun b hb => ?_⟩
    rcases mem_ins.mp hb with rfl | ⟨k, -⟩
    · exact ⟨ha, hv⟩
    · exact h3 b k
  · rw [va_up_ne _ _ q]
    exact ⟨h1, by omega, h3⟩
theorem C2.up (hC : C2 Cs) (hP : Pn ck kd B Pl) {i a : Nat} {C' : Nat → Nat} (hin : i < 2) (h : ∀ j, 1 ≤ j → j ≤ 3 → C' j = cN hz (Pl i) (Cs i) a j) : C2 (va_up Cs i C') := fun k hk j h1 h3 => by
  by_cases q : k = i
  · subst q
    rw [va_up_self, h j h1 h3]
    exact (sV_two (hC k hk) (by have := (hP.2 k hk).2.1; have := hP.1; omega)).2 j h1 h3
  · rw [va_up_ne _ _ q]
    exact hC k hk j h1 h3
theorem wr185 (hT : T2 x y z kd rt hz ck m Pl Pp Cs Ds) (hN : Nm ck kd rt hz) (hP : Pn ck kd B Pl) {i a : Nat} {v : Int32} (hin : i < 2) (ha : a ≤ ck) (hmem : ∀ t, 1 ≤ t → t ≤ 3 → v ∈ rl hz (Pl i) t a) {Q : Int32 → MM → Prop} {kc ks : Nat} (hq : Q 1 m) : ∃ n9, wp_L_writes_185 Q n9 (x 0) (nI i) (nI a) v 1 1 m kc ks := by
  obtain ⟨g, h, sa, sb, hO, -⟩ := hT
  have hck := hN.2.2.2.1
  have st : ∀ nn t, 1 ≤ t → t ≤ 3 → wp_L_writes_185 Q nn (x 0) (nI i) (nI a) v 1 (nI (t + 1)) m kc ks → wp_L_writes_185 Q (nn + 1) (x 0) (nI i) (nI a) v 1 (nI t) m kc ks := fun nn t h1 h3 hn => by
    have hm := hmem t h1 h3
    have hne : rl hz (Pl i) t a ≠ [] := fun e => by rw [e] at hm; exact absurd hm List.not_mem_nil
    unfold wp_L_writes_185
    refine ⟨fun c => absurd c (nI_ge (a := t) (b := 4) (by omega) (by decide)), fun _ => ⟨fun c => absurd c (by decide), fun _ => ⟨hO.1.1, q_least hO (hP.pk hN).srt hin h1 h3 (by omega) hne ⟨fun c => absurd c (n_lt_of ((vMin_ok hne).2 v hm)), fun _ => ⟨hO.1.1, q_greatest hO (hP.pk hN).srt hin h1 h3 (by omega) hne ⟨fun c => absurd c (n_lt_of ((vMax_ok hne).2 v hm)), fun _ => ?_⟩⟩⟩⟩⟩⟩
    rw [forall_eq, forall_eq, nI_1]
    exact hn
  refine ⟨4, st 3 1 (by decide) (by decide) (st 2 2 (by decide) (by decide) (st 1 3 (by decide) (by decide) ?_))⟩
  unfold wp_L_writes_185
  exact ⟨fun _ => ⟨Or.inr rfl, hq⟩, fun c => absurd (nI_le (a := 4) (b := 4) (by decide) (by decide)) c⟩
theorem T2.no_wr96 (hT : T2 x y z kd rt hz ck m Pl Pp Cs Ds) (hN : Nm ck kd rt hz) (hP : Pn ck kd B Pl) {i a : Nat} (hin : i < 2) (t31 : a < 2 ^ 31) {Q : Int32 → MM → Prop} {kc ks : Nat} (hkc : 2 ≤ kc) (hks : 12 ≤ ks) (hq : Q 1 m) : wp_L_writes_96 Q (x 0) (nI i) (nI a) (vat hz (Pl i) a) (nI (rws hz (Pl i) 0)) (-2) m kc ks := by
  unfold wp_L_writes_96
  refine ⟨fun c => absurd rfl c, fun _ => ⟨hkc, hks, t2_valueAt hT hN hP hin t31 ?_⟩⟩
  intro _ _ _ _
  exact ⟨fun c => absurd rfl c, fun _ => ⟨hT.K, t2_rows hT hin (t := 0) (by decide) ⟨fun c => absurd rfl c, fun _ => hq⟩⟩⟩
theorem rws_0 (P : List (Nat × Int32)) : rws hz P 0 = (hi kf (hz 0) P).length := by unfold rws; exact if_pos rfl
/-- whether the law holds a point for too old, or the series for full -/
theorem okP_law (hP : Pn ck kd B Pl) {i a : Nat} {v : Int32} (hin : i < 2) (ha : a ≤ ck) (hv : okV (kd i) v) (h100 : (hi kf (hz 0) (Pl i)).length ≤ 100) : okP hz ck (kd i) (Pl i) a v ↔ ck ≤ a + 3600 ∧ ¬ (vat hz (Pl i) a = -2000000 ∧ rws hz (Pl i) 0 = 100) := by
  rw [rws_0]
  have hvo : ∀ b ∈ hi kf (hz 0) (Pl i), b.2 ≠ -2000000 := fun b hb => okV_ne ((hP.2 i hin).2.2 b (mem_hi.mp hb).1).2
  unfold okP
  constructor
  · rintro ⟨-, h1, h2⟩
    refine ⟨h1, fun c => ?_⟩
    rcases h2 with h2 | ⟨b, hb, rfl⟩
    · omega
    · exact hvo b hb ((vat_in (hP.2 i hin).1 hb).symm.trans c.1)
  · rintro ⟨h1, h2⟩
    refine ⟨⟨ha, hv⟩, h1, ?_⟩
    by_cases q : ∃ b ∈ hi kf (hz 0) (Pl i), b.1 = a
    · exact Or.inr q
    · refine Or.inl ?_
      have := vat_no (hz := hz) (P := Pl i) (t := a) fun b hb e => q ⟨b, hb, e⟩
      have h3 : ¬ (hi kf (hz 0) (Pl i)).length = 100 := fun e => h2 ⟨this, e⟩
      omega
/-- what is told behind an accepted point: rows, value -/
theorem told_1 (hN : Nm ck kd rt hz) (hP : Pn ck kd B Pl) {i a : Nat} {v r : Int32} (hin : i < 2) (hc : ck ≤ a + 3600) (r1 : (∃ b ∈ Pl i, b.1 = a) → r = 1) (r0 : (∀ b ∈ Pl i, b.1 ≠ a) → r = 0) : r = (if vat hz (Pl i) a = -2000000 then 0 else 1) ∧ nI (rws hz (ins kf (a, v) (Pl i)) 0) = nI (rws hz (Pl i) 0) + 1 - r ∧ (∃ b ∈ hi kf (hz 0) (ins kf (a, v) (Pl i)), b = (a, v)) := by
  have h0 := hN.keep0 hc
  have hs := (hP.2 i hin).1
  have hsh : Srt kf (hi kf (hz 0) (Pl i)) := hs.filter _
  refine ⟨?_, ?_, (a, v), mem_hi.mpr ⟨mem_ins.mpr (Or.inl rfl), h0⟩, rfl⟩
  · by_cases q : ∃ b ∈ Pl i, b.1 = a
    · rw [r1 q]
      obtain ⟨b, hb, rfl⟩ := q
      have hbm : b ∈ hi kf (hz 0) (Pl i) := mem_hi.mpr ⟨hb, h0⟩
      rw [vat_in hs hbm, if_neg (okV_ne ((hP.2 i hin).2.2 b hb).2)]
    · rw [r0 (fun b hb e => q ⟨b, hb, e⟩), vat_no (fun b hb e => q ⟨b, (mem_hi.mp hb).1, e⟩), if_pos rfl]
  · rw [rws_0, rws_0, hi_ins hs h0]
    by_cases q : ∃ b ∈ Pl i, b.1 = a
    · rw [r1 q]
      obtain ⟨b, hb, e⟩ := q
      rw [ins_old_len hsh (a := (a, v)) (b := b) (mem_hi.mpr ⟨hb, by rw [show kf b = a from e]; exact h0⟩) e, nI_1, nI_pred]
    · rw [r0 (fun b hb e => q ⟨b, hb, e⟩), ins_new_len hsh (a := (a, v)) (fun b hb e => q ⟨b, (mem_hi.mp hb).1, e⟩), nI_1]
      exact (Int32.sub_zero _).symm
end
