/-! A STORE'S STEPS, and what is held behind each -/
/-- the latest time behind k steps -/
def CB (k : Nat) : Nat := 200001 + 100001 * k
theorem CB_s (k : Nat) : CB k + 100001 = CB (k + 1) := by
  unfold CB
  rw [Nat.mul_succ, Nat.add_assoc]
theorem CB_le {k : Nat} (h : k ≤ 36) : CB k ≤ 4000000 := Nat.le_trans (Nat.add_le_add_left (Nat.mul_le_mul_left 100001 h) 200001) (Nat.le_of_ble_eq_true rfl)
section
variable {x y : Nat → Nat} {z ck B : Nat} {kd rt hz : Nat → Nat} {m : MM} {Pl Pp : Nat → List (Nat × Int32)} {Cs Ds : Nat → Nat → Nat}
variable {xs : Nat → Int32} {LL : Nat} {Q : Int32 → MM → Prop}
theorem sl316 {g sa : Nat → Nat} (h : S6 x m g 2 ck sa kd rt hz Pl Cs) (hK : Pk 2 ck kd Pl) (hzb : ∀ i, i ≤ 3 → hz i < 2 ^ 31) (hR : Row m z kd rt hz) {i t : Nat} (hin : i < 2) (h1 : 1 ≤ t) (h3 : t ≤ 3) {K115 : Int32 → Nat → Nat → Nat → Int32 → MM → Nat → Nat → Prop} {K194 : Int32 → Nat → Nat → Nat → Int32 → Int32 → Int32 → Int32 → Int32 → MM → Nat → Nat → Prop} {K282 : Int32 → Nat → Nat → Nat → Int32 → Int32 → Int32 → Int32 → Int32 → Int32 → MM → Nat → Nat → Prop} {l1 l5 l6 l7 : Int32} {p kc ks : Nat} (hQ : K282 l1 (x 0) p z l5 l6 l7 1 (nI i) (nI (t + 1)) m kc ks) : ∀ (k j : Nat), (gk (ln t) (hz t) (Pl i)).length ≤ j + 3 * k → j < 2 ^ 20 → wp_L_store_316 xs LL Q K115 K194 K282 (k + 1) l1 (x 0) p z l5 l6 l7 1 (nI i) (nI t) (nI j) m kc ks := by
  have hb := Sto.rwsb h hin h3
  have hr : rws hz (Pl i) t = (gk (ln t) (hz t) (Pl i)).length := by unfold rws; exact if_neg (by omega)
  intro k
  induction k with
  | zero =>
    intro j hj hj2
    unfold wp_L_store_316
    refine ⟨h.1.1, q_rows h hin h3 ⟨fun _ => ?_, fun c => absurd (nI_le (by omega) (by omega)) c⟩⟩
    rw [forall_eq, nI_1]
    exact hQ
  | succ k ih =>
    intro j hj hj2
    unfold wp_L_store_316
    refine ⟨h.1.1, q_rows h hin h3 ⟨fun _ => ?_, fun c => ⟨fun d => absurd d (by decide), fun _ => ?_⟩⟩⟩
    · rw [forall_eq, nI_1]
      exact hQ
    · have hlt : j < (gk (ln t) (hz t) (Pl i)).length := by
        rcases Nat.lt_or_ge j (gk (ln t) (hz t) (Pl i)).length with q | q
        · exact q
        · exact absurd (nI_le (by omega) (by omega)) c
      obtain ⟨e, he⟩ : ∃ e, (gk (ln t) (hz t) (Pl i))[j]? = some e := ⟨_, List.getElem?_eq_getElem hlt⟩
      refine ⟨h.1.1, q_timeOf h hin h3 (by omega) (rowT_g h1 he) (sp_L_isRollup h hK hzb hR hin h1 h3 (List.mem_of_getElem? he) ?_)⟩
      rw [forall_eq, show nI j + (3 : Int32) = nI (j + 3) from nI_add j 3]
      exact ih (j + 3) (by omega) (by omega)
theorem sl282 {g sa : Nat → Nat} (h : S6 x m g 2 ck sa kd rt hz Pl Cs) (hK : Pk 2 ck kd Pl) (hzb : ∀ i, i ≤ 3 → hz i < 2 ^ 31) (hR : Row m z kd rt hz) {i X Y : Nat} (hin : i < 2) (hX : X < 2 ^ 30) (hY : Y < 2 ^ 30) {K115 : Int32 → Nat → Nat → Nat → Int32 → MM → Nat → Nat → Prop} {K194 : Int32 → Nat → Nat → Nat → Int32 → Int32 → Int32 → Int32 → Int32 → MM → Nat → Nat → Prop} {l1 l5 : Int32} {p kc ks : Nat} (hkc : 45 ≤ kc) (hks : 270 ≤ ks) (hQ : K194 l1 (x 0) p z l5 (nI X) (nI Y) 1 (nI (i + 1)) m (kc - 15 - 15 - 15) (ks - 90 - 90 - 90)) : ∃ n9, wp_L_store_282 xs LL Q K115 K194 n9 l1 (x 0) p z l5 (nI X) (nI Y) 1 (nI i) 1 m kc ks := by
  have e11 : nI X / (11 : Int32) = nI (X / 11) := pk_div (a := X) (d := 11) (by omega) (by decide) (by decide)
  have e3 : nI Y - nI Y / (3 : Int32) * (3 : Int32) = nI (Y % 3) := pk_rem (a := Y) (d := 3) (by omega) (by decide) (by decide)
  have st : ∀ nn t kc ks, 1 ≤ t → t ≤ 3 → 15 ≤ kc → 90 ≤ ks → wp_L_store_282 xs LL Q K115 K194 nn l1 (x 0) p z l5 (nI X) (nI Y) 1 (nI i) (nI (t + 1)) m (kc - 15) (ks - 90) → wp_L_store_282 xs LL Q K115 K194 (nn + 1) l1 (x 0) p z l5 (nI X) (nI Y) 1 (nI i) (nI t) m kc ks := fun nn t kc ks h1 h3 c1 c2 hn => by
    unfold wp_L_store_282
    rw [e11, e3]
    refine ⟨fun c => absurd c (nI_ge (a := t) (b := 4) (by omega) (by decide)), fun _ => ⟨fun c => absurd c (by decide), fun _ => ⟨c1, c2, sp_L_areGaps h hK hzb hR hin h1 h3 (by omega) ?_⟩⟩⟩
    intro kc143 ks144 e1 e2
    rw [forall_eq, e1, e2]
    exact ⟨_, sl316 h hK hzb hR hin h1 h3 hn _ _ (Nat.le_trans (Nat.le_trans (Nat.le_refl _) (Nat.le_mul_of_pos_left _ (by decide : 0 < 3))) (Nat.le_add_left _ _)) (by omega)⟩
  refine ⟨4, st 3 1 kc ks (by decide) (by decide) (by omega) (by omega) (st 2 2 _ _ (by decide) (by decide) (by omega) (by omega) (st 1 3 _ _ (by decide) (by decide) (by omega) (by omega) ?_))⟩
  unfold wp_L_store_282
  refine ⟨fun _ => ?_, fun c => absurd (nI_le (a := 4) (b := 4) (by decide) (by decide)) c⟩
  rw [forall_eq, nI_1]
  exact hQ
theorem sl194 (hI : In x y z kd rt hz ck B m) (hN : Nm ck kd rt hz) {X Y k : Nat} (hX : X < 2 ^ 30) (hY : Y < 2 ^ 30) {K : Int32 → Nat → Nat → Nat → Int32 → MM → Nat → Nat → Prop} {l1 : Int32} {kc ks : Nat} (hkc : 90 ≤ kc) (hks : 540 ≤ ks) (hK : ∀ m' kc' ks', In x y z kd rt hz ck B m' → kc - 90 ≤ kc' → ks - 540 ≤ ks' → K l1 (x 0) (y 0) z (nI (k + 1)) m' kc' ks') : ∃ n9, wp_L_store_194 xs LL Q K n9 l1 (x 0) (y 0) z (nI k) (nI X) (nI Y) 1 0 m kc ks := by
  have hck := hN.2.2.2.1
  have e1 : nI X / (3 : Int32) = nI (X / 3) := pk_div (a := X) (d := 3) (by omega) (by decide) (by decide)
  have e2 : nI Y / (3 : Int32) = nI (Y / 3) := pk_div (a := Y) (d := 3) (by omega) (by decide) (by decide)
  have e3 : nI Y / (7 : Int32) = nI (Y / 7) := pk_div (a := Y) (d := 7) (by omega) (by decide) (by decide)
  have e4 : nI X / (7 : Int32) = nI (X / 7) := pk_div (a := X) (d := 7) (by omega) (by decide) (by decide)
  have st : ∀ nn s m kc ks, s < 2 → In x y z kd rt hz ck B m → 45 ≤ kc → 270 ≤ ks → (∀ m', In x y z kd rt hz ck B m' → wp_L_store_194 xs LL Q K nn l1 (x 0) (y 0) z (nI k) (nI X) (nI Y) 1 (nI (s + 1)) m' (kc - 15 - 15 - 15) (ks - 90 - 90 - 90)) → wp_L_store_194 xs LL Q K (nn + 1) l1 (x 0) (y 0) z (nI k) (nI X) (nI Y) 1 (nI s) m kc ks := fun nn s m kc ks hs hI c1 c2 hn => by
    obtain ⟨Pl, Cs, Ds, hT, hP, hC, hD⟩ := hI
    have hT0 := hT
    obtain ⟨g, h, sa, sb, hO, hO2, hR, hDj⟩ := hT
    have hPk := hP.pk hN
    unfold wp_L_store_194
    rw [e1, e2, e3, e4]
    refine ⟨fun c => absurd c (nI_ge (a := s) (b := 2) (by omega) (by decide)), fun _ => ⟨fun c => absurd c (by decide), fun _ => sp_L_areRows hO hPk hN.hzb1 hR hs ⟨fun c => absurd c (by decide), fun _ => t2_tale hT0 hN hP hs (t2_tale hT0.sw hN hP hs ⟨fun c => absurd ((lg_cmp_eq _ _).mpr rfl) c, fun _ => sp_L_areWindows (m0 := m) ⟨hO, hR, Fr.refl _ _⟩ hPk hN.hzb1 hs (by omega) (by omega) (by omega) (fun m1 hW1 => ⟨fun c => absurd c (by decide), fun _ => sp_L_areWindows hW1 hPk hN.hzb1 hs (by omega) (by omega) (by omega) (fun m2 hW2 => ⟨fun c => absurd c (by decide), fun _ => ?_⟩)⟩)⟩)⟩⟩⟩
    obtain ⟨u1, u2⟩ := S6.oth (g' := g) hO2 hDj (by rw [hR.1]; decide) (fun _ _ => rfl) (frws hO hW2.2.2)
    rw [forall_eq, forall_eq]
    exact sl282 hW2.1 hPk hN.hzb1 hW2.2.1 hs hX hY c1 c2 (hn m2 ⟨Pl, Cs, Ds, ⟨g, ot m h, sa, sb, hW2.1, u1, hW2.2.1, u2⟩, hP, hC, hD⟩)
  refine ⟨3, st 2 0 m kc ks (by decide) hI (by omega) (by omega) (fun m1 hI1 => st 1 1 m1 _ _ (by decide) hI1 (by omega) (by omega) (fun m2 hI2 => ?_))⟩
  unfold wp_L_store_194
  refine ⟨fun _ => ⟨fun _ => ?_, fun c => absurd c (by decide)⟩, fun c => absurd (nI_le (a := 2) (b := 2) (by decide) (by decide)) c⟩
  rw [forall_eq, nI_1]
  exact hK m2 _ _ hI2 (by omega) (by omega)
theorem sl115 {f : Nat} (hf : f ≤ 300) (hL : LL ≤ 260) (hq : ∀ m', Q 1 m') : ∀ (c k : Nat) (m : MM) (rt hz : Nat → Nat) (ck kc ks : Nat), k + c = 36 → Nm ck kd rt hz → In x y z kd rt hz ck (20 * k) m → ck ≤ CB k → 1090 * c ≤ kc → 30540 * c ≤ ks → wp_L_store_115 xs LL Q (c + 1) (nI f) (x 0) (y 0) z (nI k) m kc ks := by
  intro c
  induction c with
  | zero =>
    intro k m rt hz ck kc ks hk hN hI hck hkc hks
    obtain rfl : k = 36 := by omega
    unfold wp_L_store_115
    exact ⟨fun _ => hq m, fun c => absurd (nI_le (a := 36) (b := 36) (by decide) (by decide)) c⟩
  | succ c ih =>
    intro k m rt hz ck kc ks hk hN hI hck hkc hks
    have hcb := CB_le (k := k) (by omega)
    have e0 : nI f + ((3 : Int32) * nI k) = nI (f + 3 * k) := by
      rw [show (3 : Int32) * nI k = nI (3 * k) from pk_mul 3 k, nI_add]
    have d1 : nI (f + 3 * k) + (1 : Int32) = nI (f + 3 * k + 1) := nI_add _ 1
    have d2 : nI (f + 3 * k) + (2 : Int32) = nI (f + 3 * k + 2) := nI_add _ 2
    have d3 : nI (f + 3 * k) + (3 : Int32) = nI (f + 3 * k + 3) := nI_add _ 3
    have m30 : (1073741824 : Int32) = nI 1073741824 := by decide
    have m12 : (12 : Int32) = nI 12 := by decide
    have go : ∀ (w : Int32) X Y, X < 2 ^ 30 → Y < 2 ^ 30 → wp_L_step (x 0) (y 0) w (nI X) (nI Y) z m (fun r117 m118 => ∀ kc119 ks120 : Nat, kc119 = kc - 1000 → ks120 = ks - 30000 → ∀ x123 : Int32, x123 = (0 : Int32) → (∃ n9, wp_L_store_194 xs LL Q (wp_L_store_115 xs LL Q (c + 1)) n9 (nI f) (x 0) (y 0) z (nI k) (nI X) (nI Y) r117 x123 m118 kc119 ks120)) 1000 30000 := fun w X Y hX hY => by
      refine sp_L_step hI hN (by omega) (by omega) hX hY (Nat.le_refl _) (Nat.le_refl _) (fun m' rt' hz' ck' n1 n2 hI' => ?_)
      intro kc119 ks120 e1 e2
      rw [forall_eq]
      have b1 : 90 ≤ kc119 := by omega
      have b2 : 540 ≤ ks120 := by omega
      have b3 : k + 1 + c = 36 := by omega
      have b4 : ck' ≤ CB (k + 1) := by
        rw [← CB_s]
        omega
      refine sl194 hI' n1 hX hY b1 b2 (fun m2 kc' ks' hI2 g1 g2 => ?_)
      have b5 : 1090 * c ≤ kc' := by omega
      have b6 : 30540 * c ≤ ks' := by omega
      have hI3 : In x y z kd rt' hz' ck' (20 * (k + 1)) m2 := by
        have e : 20 * (k + 1) = 20 * k + 20 := by omega
        rw [e]
        exact hI2
      exact ih (k + 1) m2 rt' hz' ck' kc' ks' b3 n1 hI3 b4 b5 b6
    unfold wp_L_store_115
    refine ⟨fun c => absurd c (nI_ge (a := k) (b := 36) (by omega) (by decide)), fun _ => ?_⟩
    rw [e0, d1, d2, d3, m30, m12]
    refine sp_L_draw (by omega) hL (by decide) (by decide) (fun X hX => sp_L_draw (by omega) hL (by decide) (by decide) (fun Y hY => ⟨fun _ => sp_L_draw (by omega) hL (by decide) (by decide) (fun w hw => ⟨1000, 30000, by omega, by omega, go (nI w) X Y hX hY⟩), fun _ => ⟨1000, 30000, by omega, by omega, go 3 X Y hX hY⟩⟩))
end
