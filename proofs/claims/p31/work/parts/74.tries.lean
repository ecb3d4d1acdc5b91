/-! ERASING; a point that comes and is erased -/
section
variable {x y : Nat → Nat} {z ck B : Nat} {kd rt hz : Nat → Nat} {m : MM} {Pl Pp : Nat → List (Nat × Int32)} {Cs Ds : Nat → Nat → Nat}
theorem t2_erase (hT : T2 x y z kd rt hz ck m Pl Pp Cs Ds) (hN : Nm ck kd rt hz) (hP : Pn ck kd B Pl) (hC : C2 Cs) {i : Nat} (hin : i < 2) {b : Nat × Int32} (hb : b ∈ hi kf (hz 0) (Pl i)) (hc : ck ≤ b.1 + 3600) {Q : Int32 → MM → Prop} {X : Nat → MM → Prop} {kc ks : Nat} (hkc : 9 ≤ kc) (hks : 12330 ≤ ks) (hq : ∀ m' C', T2 x y z kd rt hz ck m' (va_up Pl i (del kf b.1 (Pl i))) Pp (va_up Cs i C') Ds → (∀ j, 1 ≤ j → j ≤ 3 → C' j = cN hz (Pl i) (Cs i) b.1 j) → Q b.2 m') : wp_X5_erase (x 0) (nI i) (nI b.1) m Q X kc ks := by
  have hck := hN.2.2.2.1
  have hb31 := hP.t31 hN hin b (mem_hi.mp hb).1
  obtain ⟨g, h, sa, sb, hO, hO2, hR, hD⟩ := hT
  refine sp_X5_erase hO (by omega) hN.hzs (fun i hi => ⟨(hP.2 i hi).1, by have := (hP.2 i hi).2.1; have := hP.1; omega, fun c hc => ((hP.2 i hi).2.2 c hc).1, gk16 hP hi⟩) (by omega) (by omega) (fun i' b' g1 e1 hb' e2 hc' => ?_) (fun q => (ser_no (by decide) hin q).elim) (fun i' g1 e1 nn => ?_) (fun i' b' g1 e1 hb' e2 hc' m' g' C' hS hC' hg hF => ?_)
  · obtain rfl : i = i' := (nI_eq (by omega) (by omega)).mp e1
    have e3 := (nI_eq hb31 (hP.t31 hN hin b' (mem_hi.mp hb').1)).mp e2
    have := sC_le hz (Pl i) b'.1
    have := sV_cost (hz := hz) hC hP hin b'.1
    omega
  · obtain rfl : i = i' := (nI_eq (by omega) (by omega)).mp e1
    have := nn b hb rfl
    omega
  · obtain rfl : i = i' := (nI_eq (by omega) (by omega)).mp e1
    have e3 := (nI_eq hb31 (hP.t31 hN hin b' (mem_hi.mp hb').1)).mp e2
    obtain rfl : b = b' := (hP.2 i hin).1.one (mem_hi.mp hb).1 (mem_hi.mp hb').1 e3
    obtain ⟨k1, k2, k3, k4⟩ := T2.mk1 hS hO2 hR hD hg (fr16 hF)
    exact hq m' C' ⟨g', ot m h, sa, sb, k1, k2, k3, k4⟩ hC'
theorem Pn.del (hP : Pn ck kd B Pl) {i a : Nat} : Pn ck kd B (va_up Pl i (del kf a (Pl i))) := by
  refine ⟨hP.1, fun j hj => ?_⟩
  obtain ⟨h1, h2, h3⟩ := hP.2 j hj
  by_cases q : j = i
  · subst q
    rw [va_up_self]
    exact ⟨h1.del _, Nat.le_trans (List.length_filter_le ..) h2, fun b hb => h3 b (mem_del.mp hb).1⟩
  · rw [va_up_ne _ _ q]
    exact ⟨h1, h2, h3⟩
theorem vat_some {P : List (Nat × Int32)} (hP : Srt kf P) (hv : ∀ b ∈ P, b.2 ≠ -2000000) {t : Nat} (h : vat hz P t = -2000000) : ∀ b ∈ hi kf (hz 0) P, b.1 ≠ t := fun b hb e => by
  rw [← e, vat_in hP hb] at h
  exact hv b (mem_hi.mp hb).1 h
theorem Pn.vne (hP : Pn ck kd B Pl) {i : Nat} (hin : i < 2) : ∀ b ∈ Pl i, b.2 ≠ -2000000 := fun b hb => okV_ne ((hP.2 i hin).2.2 b hb).2
theorem ins_del {P : List (Nat × Int32)} (hP : Srt kf P) {a : Nat} {v : Int32} (hn : ∀ b ∈ P, b.1 ≠ a) : del kf a (ins kf (a, v) P) = P := by
  have h1 := del_ins hP (a, v)
  rw [show kf (a, v) = a from rfl] at h1
  rw [h1]
  exact List.filter_eq_self.mpr fun b hb => decide_eq_true (hn b hb)
theorem t2_tries (hT : T2 x y z kd rt hz ck m Pl Pp Cs Ds) (hN : Nm ck kd rt hz) (hP : Pn ck kd B Pl) (hB : B + 1 ≤ 1000) (hC : C2 Cs) {i a : Nat} {v : Int32} (hin : i < 2) (t31 : a < 2 ^ 31) (hv : okV (kd i) v) {Q : Int32 → MM → Prop} {kc ks : Nat} (hkc : 30 ≤ kc) (hks : 24700 ≤ ks) (hq : ∀ m' Cs', T2 x y z kd rt hz ck m' Pl Pp Cs' Ds → C2 Cs' → Q 1 m') : wp_L_tries (x 0) (nI i) (nI a) v m Q kc ks := by
  have hck := hN.2.2.2.1
  have h100 := t2_h100 hT hin
  have q0 := hq m Cs hT hC
  unfold wp_L_tries
  refine ⟨hT.K, t2_clock hT ⟨fun _ => q0, fun c1 => ⟨hT.K, t2_clock hT ⟨fun _ => q0, fun c2 => ⟨hT.K, t2_rows hT hin (t := 0) (by decide) ⟨fun _ => q0, fun c3 => ⟨by omega, by omega, t2_valueAt hT hN hP hin t31 ?_⟩⟩⟩⟩⟩⟩⟩
  intro kc17 ks18 e17 e18
  refine ⟨fun c4 => t2_tale hT hN hP hin ⟨9, 12330, by omega, by omega, hT.K, ?_⟩, fun _ => q0⟩
  have ha : a ≤ ck := by
    rcases Nat.lt_or_ge ck a with q | q
    · exact absurd (nI_lt q t31) c1
    · exact q
  have hc : ck ≤ a + 3600 := (old_iff (by omega) t31).mp (Int32.not_lt.mp c2)
  have h0 := hN.keep0 hc
  have hno : ∀ b ∈ Pl i, b.1 ≠ a := fun b hb e => vat_some (hP.2 i hin).1 (hP.vne hin) c4 b (mem_hi.mpr ⟨hb, by rw [show kf b = a from e]; exact h0⟩) e
  have hok : okP hz ck (kd i) (Pl i) a v := (okP_law hP hin ha hv h100).mpr ⟨hc, fun q => c3 (by rw [q.2]; rfl)⟩
  refine t2_put hT hN hP hin t31 hv (by decide) (by decide) (fun _ => sV_cost hC hP hin a) (fun _ r m1 C1 r1 r0 hT1 hC1 => ?_) (fun c => by omega) (fun _ c => absurd hok c)
  intro kc31 ks32 e31 e32
  have hP1 := hP.ins hB hin ha hv
  have hCC := hC.up hP hin hC1
  have hbm : (a, v) ∈ hi kf (hz 0) (va_up Pl i (ins kf (a, v) (Pl i)) i) := by
    rw [va_up_self]
    exact mem_hi.mpr ⟨mem_ins.mpr (Or.inl rfl), h0⟩
  refine ⟨fun c => absurd (r0 hno) c, fun _ => ⟨9, 12330, by omega, by omega, hT1.K, t2_erase hT1 hN hP1 hCC hin hbm hc (by decide) (by decide) (fun m2 C2' hT2 hC2 => ?_)⟩⟩
  intro kc57 ks58 e57 e58
  rw [up_up, up_up, va_up_self, ins_del (hP.2 i hin).1 hno, up_self2] at hT2
  have hCC2 := hCC.up hP1 hin hC2
  rw [up_up] at hCC2
  refine ⟨fun c => absurd rfl c, fun _ => ?_⟩
  rw [forall_eq]
  refine ⟨fun c => absurd c (by decide), fun _ => t2_tale hT2 hN hP hin ⟨fun c => absurd ((lg_cmp_eq _ _).mpr rfl) c, fun _ => ⟨by omega, by omega, t2_valueAt hT2 hN hP hin t31 ?_⟩⟩⟩
  intro _ _ _ _
  exact ⟨fun c => absurd c4 c, fun _ => hq m2 _ hT2 hCC2⟩
end
