/-! WRITES, the law's check -/
section
variable {x y : Nat → Nat} {z ck B : Nat} {kd rt hz : Nat → Nat} {m : MM} {Pl Pp : Nat → List (Nat × Int32)} {Cs Ds : Nat → Nat → Nat}
theorem t2_X5valueAt (hT : T2 x y z kd rt hz ck m Pl Pp Cs Ds) (hN : Nm ck kd rt hz) (hP : Pn ck kd B Pl) {i : Nat} (hin : i < 2) {b : Nat × Int32} (hb : b ∈ hi kf (hz 0) (Pl i)) {Q : Int32 → MM → Prop} {X : Nat → MM → Prop} (hq : Q b.2 m) : wp_X5_valueAt (x 0) (nI i) (nI b.1) m Q X := by
  obtain ⟨g, h, sa, sb, hO, -⟩ := hT
  exact q_valueAt hO (hP.pk hN).srt hin hb (hP.t31 hN hin b (mem_hi.mp hb).1) (hP.t31 hN hin) hq
theorem sV_cost (hC : C2 Cs) (hP : Pn ck kd B Pl) {i : Nat} (hin : i < 2) (a : Nat) : sV hz (Pl i) (Cs i) a + 18 ≤ 12330 := by
  have h1 := (sV_two (hz := hz) (P := Pl i) (C := Cs i) (x := a) (hC i hin) (by have := (hP.2 i hin).2.1; have := hP.1; omega)).1
  have h2 := bd_le (Cs i)
  omega
theorem t2_54 (hT : T2 x y z kd rt hz ck m Pl Pp Cs Ds) (hN : Nm ck kd rt hz) (hP : Pn ck kd B Pl) (hB : B + 1 ≤ 1000) (hC : C2 Cs) {i a : Nat} {v ol fu : Int32} (hin : i < 2) (t31 : a < 2 ^ 31) (hv : okV (kd i) v) (ol0 : ck ≤ a + 3600 → ol = 0) (ol1 : ¬ ck ≤ a + 3600 → ol = 1) (fu1 : vat hz (Pl i) a = -2000000 ∧ rws hz (Pl i) 0 = 100 → fu = 1) (fu0 : ¬ (vat hz (Pl i) a = -2000000 ∧ rws hz (Pl i) 0 = 100) → fu = 0) {Q : Int32 → MM → Prop} {kc ks : Nat} (hkc : 11 ≤ kc) (hks : 12342 ≤ ks) (h1 : okP hz ck (kd i) (Pl i) a v → ∀ m' C', T2 x y z kd rt hz ck m' (va_up Pl i (ins kf (a, v) (Pl i))) Pp (va_up Cs i C') Ds → (∀ j, 1 ≤ j → j ≤ 3 → C' j = cN hz (Pl i) (Cs i) a j) → Q 1 m') (h0 : ¬ okP hz ck (kd i) (Pl i) a v → Q 1 m) : wp_L_writes_54 Q (x 0) (nI i) (nI a) v (vat hz (Pl i) a) (nI (rws hz (Pl i) 0)) ol fu m kc ks := by
  have hck := hN.2.2.2.1
  have h100 := t2_h100 hT hin
  unfold wp_L_writes_54
  refine ⟨9, 12330, by omega, by omega, t2_Lput hT hN hP hin t31 hv (by decide) (by decide) (fun _ => sV_cost hC hP hin a) (fun hok r m' C' r1 r0 hT' hC' => ?_) (fun c => ?_) (fun c d => ?_)⟩
  · intro kc23 ks24 _ _
    have hok2 := (okP_law hP hin hok.1.1 hv h100).mp hok
    have hol := ol0 hok2.1
    have hfu := fu0 hok2.2
    have hP' := hP.ins hB hin hok.1.1 hv
    obtain ⟨e1, e2, b, e3, e4⟩ := told_1 hN hP (v := v) hin hok2.1 r1 r0
    subst e4
    have k145 : ∀ s0 : Int32, r = s0 → wp_L_writes_145 Q (x 0) (nI i) (nI a) v (nI (rws hz (Pl i) 0)) r s0 r m' kc23 ks24 := fun s0 es => by
      unfold wp_L_writes_145
      refine ⟨fun c => absurd es c, fun _ => ⟨hT'.K, t2_X5valueAt hT' hN hP' hin (b := (a, v)) (by rw [va_up_self]; exact e3) ⟨fun c => absurd rfl c, fun _ => ⟨hT'.K, t2_rows hT' hin (t := 0) (by decide) ⟨fun c => absurd ?_ c, fun _ => ?_⟩⟩⟩⟩⟩
      · rw [va_up_self]
        exact e2
      · rw [forall_eq, forall_eq]
        refine wr185 hT' hN hP' hin hok.1.1 (fun t h1 h3 => ?_) (h1 hok m' C' hT' hC')
        rw [va_up_self]
        exact rl_ins (hP.2 i hin).1 (hN.keep h3 hok2.1)
    refine ⟨hT'.K, t2_clock hT' ⟨fun _ => ⟨fun c => absurd hol c, fun _ => ⟨fun _ => ⟨fun c => k145 1 ?_, fun c => k145 0 ?_⟩, fun c => absurd hfu c⟩⟩, fun c => absurd (nI_le hok.1.1 (by omega)) c⟩⟩
    · rw [e1, if_neg c]
    · rw [e1, if_pos c]
  · intro kc23 ks24 _ _
    refine ⟨hT.K, t2_clock hT ⟨fun d => absurd d (nI_ge c t31), fun _ => ⟨fun d => absurd rfl d, fun _ => h0 fun d => ?_⟩⟩⟩
    have := d.1.1
    omega
  · intro kc23 ks24 e23 e24
    have w96 := T2.no_wr96 (Q := Q) (kc := kc23) (ks := ks24) hT hN hP hin t31 (by omega) (by omega) (h0 d)
    refine ⟨hT.K, t2_clock hT ⟨fun _ => ⟨fun _ => w96, fun c1 => ⟨fun c2 => ?_, fun _ => w96⟩⟩, fun c1 => absurd (nI_le c (by omega)) c1⟩⟩
    exfalso
    refine d ((okP_law hP hin c hv h100).mpr ⟨?_, fun q => ?_⟩)
    · refine Classical.byContradiction fun q => ?_
      rw [ol1 q] at c1
      exact absurd c1 (by decide)
    · rw [fu1 q] at c2
      exact absurd c2 (by decide)
theorem t2_writes (hT : T2 x y z kd rt hz ck m Pl Pp Cs Ds) (hN : Nm ck kd rt hz) (hP : Pn ck kd B Pl) (hB : B + 1 ≤ 1000) (hC : C2 Cs) {i a : Nat} {v : Int32} (hin : i < 2) (t31 : a < 2 ^ 31) (hv : okV (kd i) v) {Q : Int32 → MM → Prop} {kc ks : Nat} (hkc : 20 ≤ kc) (hks : 12400 ≤ ks) (h1 : okP hz ck (kd i) (Pl i) a v → ∀ m' C', T2 x y z kd rt hz ck m' (va_up Pl i (ins kf (a, v) (Pl i))) Pp (va_up Cs i C') Ds → (∀ j, 1 ≤ j → j ≤ 3 → C' j = cN hz (Pl i) (Cs i) a j) → Q 1 m') (h0 : ¬ okP hz ck (kd i) (Pl i) a v → Q 1 m) : wp_L_writes (x 0) z (nI i) (nI a) v m Q kc ks := by
  have hck := hN.2.2.2.1
  have h100 := t2_h100 hT hin
  unfold wp_L_writes
  refine ⟨by omega, by omega, t2_valueAt hT hN hP hin t31 ?_⟩
  intro kc5 ks6 e5 e6
  have go : ∀ ol : Int32, (ck ≤ a + 3600 → ol = 0) → (¬ ck ≤ a + 3600 → ol = 1) → wp_L_writes_33 Q (x 0) (nI i) (nI a) v (vat hz (Pl i) a) (nI (rws hz (Pl i) 0)) ol m kc5 ks6 := fun ol ol0 ol1 => by
    have h53 : ¬ (vat hz (Pl i) a = -2000000 ∧ rws hz (Pl i) 0 = 100) → wp_L_writes_53 Q (x 0) (nI i) (nI a) v (vat hz (Pl i) a) (nI (rws hz (Pl i) 0)) ol m kc5 ks6 := fun q => t2_54 hT hN hP hB hC hin t31 hv ol0 ol1 (fun c => absurd c q) (fun _ => rfl) (by omega) (by omega) h1 h0
    unfold wp_L_writes_33
    refine ⟨fun c => h53 fun q => c q.1, fun c => ⟨fun d => h53 fun q => d (by rw [q.2]; rfl), fun d => ?_⟩⟩
    have e9 : rws hz (Pl i) 0 = 100 := (nI_eq (a := rws hz (Pl i) 0) (b := 100) (by rw [rws_0]; omega) (by decide)).mp d
    exact t2_54 hT hN hP hB hC hin t31 hv ol0 ol1 (fun _ => rfl) (fun q => absurd ⟨c, e9⟩ q) (by omega) (by omega) h1 h0
  refine ⟨hT.K, t2_rows hT hin (t := 0) (by decide) ⟨hT.K, t2_clock hT ?_⟩⟩
  rw [old_iff (by omega) t31]
  exact ⟨fun c => go 0 (fun _ => rfl) (fun q => absurd c q), fun c => go 1 (fun q => absurd q c) (fun _ => rfl)⟩
end
