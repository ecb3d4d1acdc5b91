/-! THE MODEL'S ERASE, ADDSERIES, SETRETENTION -/
section
variable {m : MM} {g : Nat → Nat} {u K R Z Wh Ti Va Pa n ck : Nat} {kd rt hz : Nat → Nat} {al : List AT}
theorem md_erase_loop (h : Mod m g u K R Z Wh Ti Va Pa n ck kd rt hz al) {L : Nat} (hL : L < al.length) {l4 : Int32} {Q : Int32 → MM → Prop} (hq : ∀ m', Fr (fun y => y = u ∨ y = Wh ∨ y = Ti ∨ y = Va) m m' → (∀ f, mI m' f u = (if f = 122 then nI (al.length - 1) else mI m f u)) → (∀ f, mR m' f u = mR m f u) → (∀ q, q + 1 < al.length → mAI m' Wh q = (if L ≤ q then mAI m Wh (q + 1) else mAI m Wh q) ∧ mAI m' Ti q = (if L ≤ q then mAI m Ti (q + 1) else mAI m Ti q) ∧ mAI m' Va q = (if L ≤ q then mAI m Va (q + 1) else mAI m Va q)) → Q l4 m') : ∀ (r k : Nat) (m1 : MM), k + r + 1 = al.length → L ≤ k → Fr (fun y => y = u ∨ y = Wh ∨ y = Ti ∨ y = Va) m m1 → (∀ f, mI m1 f u = (if f = 122 then nI (al.length - 1) else mI m f u)) → (∀ f, mR m1 f u = mR m f u) → (∀ q, q < al.length → mAI m1 Wh q = (if L ≤ q ∧ q < k then mAI m Wh (q + 1) else mAI m Wh q) ∧ mAI m1 Ti q = (if L ≤ q ∧ q < k then mAI m Ti (q + 1) else mAI m Ti q) ∧ mAI m1 Va q = (if L ≤ q ∧ q < k then mAI m Va (q + 1) else mAI m Va q)) → wp_X6_erase_75 Q (r + 1) u l4 (nI k) m1 := by
  obtain ⟨n1, n2, n3, n4, n5, n6⟩ := h.ne
  have hlen := h.len
  obtain ⟨⟨a1, a2, a3, a4, a5, a6, a7, a8, a9, a10, a11⟩, ⟨b1, b2, b3, b4, b5, b6, b7, b8, b9, b10, b11, b12, b13, b14⟩, -⟩ := id h
  intro r
  induction r with
  | zero =>
    intro k m1 hk hLk hF hI hR hr
    have i122 : mI m1 122 u = nI (al.length - 1) := by rw [hI, if_pos rfl]
    unfold wp_X6_erase_75
    rw [i122]
    refine ⟨hF.K a1 (by decide), fun _ => hq m1 hF hI hR (fun q hq' => ?_), fun z => absurd (nI_le (by omega) (by omega)) z⟩
    obtain ⟨w1, w2, w3⟩ := hr q (by omega)
    by_cases c : L ≤ q
    · rw [if_pos ⟨c, by omega⟩] at w1 w2 w3
      rw [if_pos c, if_pos c, if_pos c]
      exact ⟨w1, w2, w3⟩
    · rw [if_neg (fun z => c z.1)] at w1 w2 w3
      rw [if_neg c, if_neg c, if_neg c]
      exact ⟨w1, w2, w3⟩
  | succ r ih =>
    intro k m1 hk hLk hF hI hR hr
    have i122 : mI m1 122 u = nI (al.length - 1) := by rw [hI, if_pos rfl]
    have s1 := hF.K a1 (by decide)
    have s4 := hF.K b7 (by decide)
    have s5 : mN m1 Wh = 10300 := by rw [(hF Wh (by rw [b7]; decide)).2.1, b8]
    have s6 := hF.K b9 (by decide)
    have s7 : mN m1 Ti = 10300 := by rw [(hF Ti (by rw [b9]; decide)).2.1, b10]
    have s8 := hF.K b11 (by decide)
    have s9 : mN m1 Va = 10300 := by rw [(hF Va (by rw [b11]; decide)).2.1, b12]
    have hv : vp_in (nI k) 10300 := vp_in_nI (by omega) (by decide)
    have hv1 : vp_in (nI (k + 1)) 10300 := vp_in_nI (by omega) (by decide)
    have ek : nI k + (1 : Int32) = nI (k + 1) := nI_1 k
    unfold wp_X6_erase_75
    rw [i122, ek]
    refine ⟨s1, fun z => absurd ((nI_leI (by omega) (by omega)).mp z) (by omega), fun _ => ⟨s1, Wh, by rw [hR, a8], s1, Wh, by rw [hR, a8], s4, by rw [s5]; exact hv1, s4, by rw [s5]; exact hv, fun m52 e52 => ?_⟩⟩
    have k52 : mK m52 = mK m1 := by rw [e52, k_sAI]
    have n52 : mN m52 = mN m1 := by rw [e52, n_sAI]
    have r52 : mR m52 = mR m1 := by rw [e52, r_sAI]
    refine ⟨by rw [k52, s1], Ti, by rw [r52, hR, a9], by rw [k52, s1], Ti, by rw [r52, hR, a9], by rw [k52, s6], by rw [n52, s7]; exact hv1, by rw [k52, s6], by rw [n52, s7]; exact hv, fun m61 e61 => ?_⟩
    have k61 : mK m61 = mK m52 := by rw [e61, k_sAI]
    have n61 : mN m61 = mN m52 := by rw [e61, n_sAI]
    have r61 : mR m61 = mR m52 := by rw [e61, r_sAI]
    refine ⟨by rw [k61, k52, s1], Va, by rw [r61, r52, hR, a10], by rw [k61, k52, s1], Va, by rw [r61, r52, hR, a10], by rw [k61, k52, s8], by rw [n61, n52, s9]; exact hv1, by rw [k61, k52, s8], by rw [n61, n52, s9]; exact hv, fun m70 e70 x71 e71 => ?_⟩
    rw [nI_clamp (by omega), nI_clamp (by omega)] at e52 e61 e70
    obtain ⟨t1, t2, t3, t4, t5, -, -, t6⟩ := row3 n1 n2 n3 e52 e61 e70
    have u1 : mAI m52 Ti = mAI m1 Ti := by rw [e52, ai_sAI, if_neg (fun z => n1 z.symm)]
    have u2 : mAI m61 Va = mAI m1 Va := by rw [e61, ai_sAI, if_neg (fun z => n3 z.symm), e52, ai_sAI, if_neg (fun z => n2 z.symm)]
    rw [u1] at t2
    rw [u2] at t3
    rw [e71]
    refine ih (k + 1) m70 (by omega) (by omega) (hF.trans (t6.mono fun _ _ z => Or.inr z)) (fun f => by rw [t4]; exact hI f) (fun f => by rw [t5]; exact hR f) (fun q hq' => ?_)
    rw [t1, t2, t3]
    obtain ⟨y1, y2, y3⟩ := hr (k + 1) (by omega)
    rw [if_neg (fun z => by omega)] at y1 y2 y3
    by_cases e : q = k
    · rw [e, va_up_self, va_up_self, va_up_self, if_pos ⟨hLk, Nat.lt_succ_self k⟩, if_pos ⟨hLk, Nat.lt_succ_self k⟩, if_pos ⟨hLk, Nat.lt_succ_self k⟩]
      exact ⟨y1, y2, y3⟩
    · rw [va_up_ne _ _ e, va_up_ne _ _ e, va_up_ne _ _ e]
      obtain ⟨w1, w2, w3⟩ := hr q hq'
      by_cases c : L ≤ q ∧ q < k
      · rw [if_pos c] at w1 w2 w3
        rw [if_pos ⟨c.1, by omega⟩, if_pos ⟨c.1, by omega⟩, if_pos ⟨c.1, by omega⟩]
        exact ⟨w1, w2, w3⟩
      · rw [if_neg c] at w1 w2 w3
        rw [if_neg (fun z => c ⟨z.1, by omega⟩), if_neg (fun z => c ⟨z.1, by omega⟩), if_neg (fun z => c ⟨z.1, by omega⟩)]
        exact ⟨w1, w2, w3⟩
theorem md_erase (h : Mod m g u K R Z Wh Ti Va Pa n ck kd rt hz al) (hck : ck < 2147483648) (hz0 : hz 0 < 2 ^ 31) {p1 p2 : Int32} {Q : Int32 → MM → Prop} (c1 : (p1 < 0 ∨ ¬ p1 < nI n) → ∀ m', Mod m' g u K R Z Wh Ti Va Pa n ck kd rt hz al → mI m' 136 u = 1 → Fr (MS g u) m m' → Q 0 m') (c2 : ∀ i, i < n → p1 = nI i → (∀ b ∈ hi kf (hz 0) (sub i al), p2 = nI b.1 → b.1 + 3600 < ck) → ∀ m', Mod m' g u K R Z Wh Ti Va Pa n ck kd rt hz al → mI m' 136 u = 2 → Fr (MS g u) m m' → Q 0 m') (c0 : ∀ i b, i < n → p1 = nI i → b ∈ hi kf (hz 0) (sub i al) → p2 = nI b.1 → ck ≤ b.1 + 3600 → ∀ m', Mod m' g u K R Z Wh Ti Va Pa n ck kd rt hz (del ky (i * 2147483648 + b.1) al) → mI m' 136 u = 0 → Fr (MS g u) m m' → Q b.2 m') : wp_X6_erase u p1 p2 m Q := by
  unfold wp_X6_erase
  refine ⟨h.1.1, md_isSeries h (fun i hin e => ⟨fun _ => ⟨h.1.1, ?_⟩, fun z => absurd z (by decide)⟩) (fun z => ⟨fun y => absurd rfl y, fun _ => ⟨h.1.1, md_no h (by decide) fun m' h' t' f' => ⟨fun y => absurd rfl y, fun _ => c1 z m' h' t' (fr_u f')⟩⟩⟩)⟩
  rw [e]
  refine md_isKept h hz0 hin p2 (fun b hb eb => ⟨fun z => absurd z (by decide), fun _ => ⟨h.1.1, ?_⟩⟩) (fun z => ⟨fun _ => ⟨h.1.1, md_no h (by decide) fun m' h' t' f' => ⟨fun y => absurd rfl y, fun _ => c2 i hin e (fun b hb e2 => absurd e2.symm (z b hb)) m' h' t' (fr_u f')⟩⟩, fun y => absurd rfl y⟩)
  have hbm := mem_sub.mp (mem_hi.mp hb).1
  have hbs : b.1 < 2147483648 := (h.small _ hbm).2
  rw [h.1.2.1, ← eb, old_iff hck hbs]
  refine ⟨fun z => ⟨h.1.1, md_yes h fun m' h' t' f' => ⟨fun _ => ⟨h'.1.1, md_place h' hin (nI b.1) ?_⟩, fun y => absurd y (by decide)⟩⟩, fun z => ⟨h.1.1, md_no h (by decide) fun m' h' t' f' => ⟨fun y => absurd rfl y, fun _ => c2 i hin e (fun b' hb' e' => ?_) m' h' t' (fr_u f')⟩⟩⟩
  · have hkx : kx i (nI b.1) = i * 2147483648 + b.1 := by unfold kx; rw [nI_clamp (by omega)]
    have hat := h.kat (t := nI b.1) hbm rfl
    have hlt := (List.getElem?_eq_some_iff.mp hat).1
    have hlen := h.len
    obtain ⟨⟨a1, a2, a3, a4, a5, a6, a7, a8, a9, a10, a11⟩, ⟨b1, b2, b3, b4, b5, b6, b7, b8, b9, b10, b11, b12, b13, b14⟩, -⟩ := id h'
    refine ⟨a1, Va, a10, b11, by rw [b12]; exact vp_in_nI (by omega) (by decide), fun x67 e67 => ⟨a1, a1, fun m70 e70 => ?_⟩⟩
    rw [nI_clamp (by omega), (h'.at hat).2.2] at e67
    have e1l : nI al.length - (1 : Int32) = nI (al.length - 1) := pk_sub (a := al.length) (b := 1) (by omega)
    rw [a4, e1l] at e70
    have F70 : Fr (fun y => y = u ∨ y = Wh ∨ y = Ti ∨ y = Va) m' m70 := by rw [e70]; exact (Fr.sI _ _ _ _).mono fun _ _ z => Or.inl z
    have A70 : mAI m70 = mAI m' := by rw [e70, ai_sI]
    refine ⟨_, md_erase_loop h' hlt (fun m'' F g1 g2 g3 => ?_) (al.length - 1 - (lo ky (kx i (nI b.1)) al).length) _ m70 (by omega) (Nat.le_refl _) F70 (fun f => ?_) (fun f => by rw [e70, r_sI]) (fun q _ => ?_)⟩
    · rw [e67]
      have hdd : al.take (lo ky (kx i (nI b.1)) al).length ++ al.drop ((lo ky (kx i (nI b.1)) al).length + 1) = del ky (i * 2147483648 + b.1) al := by
        rw [hkx]
        have z9 := del_drop h.srt hbm
        rw [show ky (i, b) = i * 2147483648 + b.1 from rfl] at z9
        exact z9
      have hdl : (del ky (i * 2147483648 + b.1) al).length = al.length - 1 := by
        rw [← hdd, List.length_append, List.length_take, List.length_drop]
        omega
      refine c0 i b hin e hb eb.symm z m'' (h'.rows F ⟨by rw [g1, if_neg (by decide)], by rw [g1, if_neg (by decide)]⟩ g2 (by rw [g1, if_pos rfl, hdl]) (fun j a hj => ?_) (by rw [hdl]; omega) (fun a ha => h.small a (mem_del.mp ha).1) (h.srt.del _)) ((g1 136).trans t') ((fr_u f').trans (h'.fr4 F))
      have hjl := (List.getElem?_eq_some_iff.mp hj).1
      obtain ⟨w1, w2, w3⟩ := g3 j (by omega)
      rw [w1, w2, w3]
      rw [← hdd] at hj
      by_cases c : (lo ky (kx i (nI b.1)) al).length ≤ j
      · rw [List.getElem?_append_right (by rw [List.length_take]; omega), List.length_take, List.getElem?_drop] at hj
        rw [show (lo ky (kx i (nI b.1)) al).length + 1 + (j - min (lo ky (kx i (nI b.1)) al).length al.length) = j + 1 by omega] at hj
        rw [if_pos c, if_pos c, if_pos c]
        exact h'.at hj
      · rw [List.getElem?_append_left (by rw [List.length_take]; omega), List.getElem?_take, if_pos (by omega)] at hj
        rw [if_neg c, if_neg c, if_neg c]
        exact h'.at hj
    · rw [e70, i_sI]
      by_cases c : f = 122
      · rw [if_pos ⟨c, rfl⟩, if_pos c]
      · rw [if_neg (fun z => c z.1), if_neg c]
    · rw [A70, if_neg (fun z => by omega), if_neg (fun z => by omega), if_neg (fun z => by omega)]
      exact ⟨rfl, rfl, rfl⟩
  · obtain ⟨w1, w2⟩ := mem_hi.mp hb'
    have hs' : b'.1 < 2147483648 := (h.small _ (mem_sub.mp w1)).2
    have := (nI_eq (a := b.1) (b := b'.1) (by omega) (by omega)).mp (eb.trans e')
    omega
theorem Mod.hzc {hz' : Nat → Nat} (h : Mod m g u K R Z Wh Ti Va Pa n ck kd rt hz al) (e : ∀ i, i ≤ 3 → hz' i = hz i) : Mod m g u K R Z Wh Ti Va Pa n ck kd rt hz' al := by
  obtain ⟨a, b, ⟨c1, c2, c3⟩, d⟩ := h
  exact ⟨a, b, ⟨fun i hi => by rw [e i hi]; exact c1 i hi, c2, c3⟩, d⟩
theorem Mod.clk {ck' : Nat} (h : Mod m g u K R Z Wh Ti Va Pa n ck kd rt hz al) : Mod (_root_.Jvm.Pilot.CRollupStoreLaw_law_r5158_f1a2ae.sI m 120 u (nI ck')) g u K R Z Wh Ti Va Pa n ck' kd rt hz al := by
  obtain ⟨⟨a1, a2, a3, a4, a5, a6, a7, a8, a9, a10, a11⟩, b, c, d⟩ := h
  refine ⟨⟨a1, ?_, ?_, ?_, a5, a6, a7, a8, a9, a10, a11⟩, b, c, d⟩
  · rw [i_sI, if_pos ⟨rfl, rfl⟩]
  · rw [i_sI, if_neg (fun z => absurd z.1 (by decide))]; exact a3
  · rw [i_sI, if_neg (fun z => absurd z.1 (by decide))]; exact a4
theorem Mod.hzu (h : Mod m g u K R Z Wh Ti Va Pa n ck kd rt hz al) (t v : Nat) : Mod (sAI m Z (va_up (mAI m Z) t (nI v))) g u K R Z Wh Ti Va Pa n ck kd rt (va_up hz t v) al := by
  obtain ⟨a, b, ⟨c1, c2, c3⟩, ⟨d1, d2, d3, d4, d5, d6, d7, d8⟩, e⟩ := h
  have ne : ∀ x, g x ≠ 4 → ¬ x = Z := fun x hx z => hx (by rw [z]; exact d4)
  refine ⟨a, b, ⟨fun i hi => ⟨?_, ?_⟩, fun i hi => ?_, fun j x hj => ?_⟩, ⟨d1, d2, d3, d4, d5, d6, d7, d8⟩, e⟩
  · rw [ai_sAI, if_neg (ne R (by omega))]; exact (c1 i hi).1
  · rw [ai_sAI, if_pos rfl]
    by_cases q : i = t
    · rw [q, va_up_self, va_up_self]
    · rw [va_up_ne _ _ q, va_up_ne _ _ q]
      exact (c1 i hi).2
  · rw [ai_sAI, if_neg (ne K (by omega))]; exact c2 i hi
  · rw [ai_sAI, if_neg (ne Wh (by omega)), ai_sAI, if_neg (ne Ti (by omega)), ai_sAI, if_neg (ne Va (by omega))]
    exact c3 j x hj
theorem Mod.rtu (h : Mod m g u K R Z Wh Ti Va Pa n ck kd rt hz al) (t v : Nat) : Mod (sAI m R (va_up (mAI m R) t (nI v))) g u K R Z Wh Ti Va Pa n ck kd (va_up rt t v) hz al := by
  obtain ⟨a, b, ⟨c1, c2, c3⟩, ⟨d1, d2, d3, d4, d5, d6, d7, d8⟩, e⟩ := h
  have ne : ∀ x, g x ≠ 3 → ¬ x = R := fun x hx z => hx (by rw [z]; exact d3)
  refine ⟨a, b, ⟨fun i hi => ⟨?_, ?_⟩, fun i hi => ?_, fun j x hj => ?_⟩, ⟨d1, d2, d3, d4, d5, d6, d7, d8⟩, e⟩
  · rw [ai_sAI, if_pos rfl]
    by_cases q : i = t
    · rw [q, va_up_self, va_up_self]
    · rw [va_up_ne _ _ q, va_up_ne _ _ q]
      exact (c1 i hi).1
  · rw [ai_sAI, if_neg (ne Z (by omega))]; exact (c1 i hi).2
  · rw [ai_sAI, if_neg (ne K (by omega))]; exact c2 i hi
  · rw [ai_sAI, if_neg (ne Wh (by omega)), ai_sAI, if_neg (ne Ti (by omega)), ai_sAI, if_neg (ne Va (by omega))]
    exact c3 j x hj
theorem max_le_nI {a c r : Nat} (ha : a < 2 ^ 30) (hc : c < 2 ^ 30) (hr : r < 2 ^ 30) : (nI c - nI r ≤ nI a → a = max a (c - r)) ∧ (¬ nI c - nI r ≤ nI a → nI c - nI r = nI (max a (c - r))) := by
  have key : nI c - nI r ≤ nI a ↔ (c : Int) - r ≤ a := by rw [Int32.le_iff_toInt_le, pk_sub_toInt hc hr, nI_toInt (by omega)]
  rw [key]
  refine ⟨fun z => by omega, fun z => ?_⟩
  rw [pk_sub (by omega), show max a (c - r) = c - r by omega]
theorem md_expire_loop (hck : ck < 2 ^ 30) (hrt : ∀ i, i ≤ 3 → rt i < 2 ^ 30) (hzb : ∀ i, i ≤ 3 → hz i < 2 ^ 30) {Q : MM → Prop} : ∀ (k t : Nat) (m : MM), t + k = 4 → Mod m g u K R Z Wh Ti Va Pa n ck kd rt (hzE rt ck hz t) al → (∀ m', Mod m' g u K R Z Wh Ti Va Pa n ck kd rt (hzE rt ck hz 4) al → mI m' 136 u = mI m 136 u → Fr (MS g u) m m' → Q m') → wp_X6_expire_2 Q (k + 1) u (nI t) m := by
  intro k
  induction k with
  | zero =>
    intro t m htk h hq
    have t4 : t = 4 := by omega
    subst t4
    unfold wp_X6_expire_2
    exact ⟨fun _ => hq m h rfl (Fr.refl _ _), fun z => absurd (by decide) z⟩
  | succ k ih =>
    intro t m htk h hq
    have ht : t ≤ 3 := by omega
    have hx := max_le_nI (a := hzE rt ck hz t t) (c := ck) (r := rt t) (by rw [hzE_at]; exact hzb t ht) hck (hrt t ht)
    have hup := h.hzu t (max (hzE rt ck hz t t) (ck - rt t))
    rw [hzE_up] at hup
    have hF : Fr (MS g u) m (sAI m Z (va_up (mAI m Z) t (nI (max (hzE rt ck hz t t) (ck - rt t))))) := (Fr.sAI _ _ _).mono fun y _ z => Or.inr (by rw [show y = Z from z, h.2.2.2.1.2.2.2.1]; decide)
    have go : ∀ m2, m2 = sAI m Z (va_up (mAI m Z) t (nI (max (hzE rt ck hz t t) (ck - rt t)))) → wp_X6_expire_2 Q (k + 1) u (nI (t + 1)) m2 := fun m2 e2 => by
      rw [← e2] at hup hF
      have e3 : mI m2 136 u = mI m 136 u := by rw [e2, i_sAI]
      exact ih (t + 1) m2 (by omega) hup (fun m' w1 w2 w3 => hq m' w1 (w2.trans e3) (hF.trans w3))
    obtain ⟨⟨a1, a2, a3, a4, a5, a6, a7, a8, a9, a10, a11⟩, ⟨b1, b2, b3, b4, b5, b6, b7, b8, b9, b10, b11, b12, b13, b14⟩, ⟨c1, c2, c3⟩, -⟩ := id h
    have hv : vp_in (nI t) 4 := vp_in_nI (by omega) (by decide)
    unfold wp_X6_expire_2
    rw [a2, nI_1, nI_clamp (by omega)]
    refine ⟨fun z => absurd ((nI_ltI (a := 3) (b := t) (by omega) (by omega)).mp z) (by omega), fun _ => ⟨a1, a1, R, a6, b3, by rw [b4]; exact hv, fun x8 e8 => ⟨a1, Z, a7, a1, Z, a7, b5, by rw [b6]; exact hv, ?_⟩⟩⟩
    rw [(c1 t ht).1] at e8
    rw [e8, (c1 t ht).2]
    refine ⟨fun z => ⟨a1, Z, a7, b5, by rw [b6]; exact hv, b5, by rw [b6]; exact hv, fun m22 e22 x23 e23 => ?_⟩, fun z => ⟨b5, by rw [b6]; exact hv, fun m26 e26 x27 e27 => ?_⟩⟩
    · rw [(c1 t ht).2, congrArg nI (hx.1 z)] at e22
      rw [e23]
      exact go m22 e22
    · rw [hx.2 z] at e26
      rw [e27]
      exact go m26 e26
theorem md_expire (hck : ck < 2 ^ 30) (hrt : ∀ i, i ≤ 3 → rt i < 2 ^ 30) (hzb : ∀ i, i ≤ 3 → hz i < 2 ^ 30) (h : Mod m g u K R Z Wh Ti Va Pa n ck kd rt hz al) {Q : MM → Prop} (hq : ∀ m', Mod m' g u K R Z Wh Ti Va Pa n ck kd rt (hzE rt ck hz 4) al → mI m' 136 u = mI m 136 u → Fr (MS g u) m m' → Q m') : wp_X6_expire u m Q := by
  unfold wp_X6_expire
  intro x1 e1
  rw [e1]
  exact ⟨5, md_expire_loop hck hrt hzb 4 0 m rfl (by rw [hzE_0]; exact h) hq⟩
theorem md_setRetention (hck : ck < 2 ^ 30) (hrt : ∀ i, i ≤ 3 → rt i < 2 ^ 30) (hzb : ∀ i, i ≤ 3 → hz i < 2 ^ 30) (h : Mod m g u K R Z Wh Ti Va Pa n ck kd rt hz al) {p1 p2 : Int32} {Q : Int32 → MM → Prop} (c1 : (∀ t s, p1 = nI t → t ≤ 3 → p2 = nI s → (if t ≤ 1 then 7200 else 90000) ≤ s → s ≤ 100000000 → False) → ∀ m', Mod m' g u K R Z Wh Ti Va Pa n ck kd rt hz al → mI m' 136 u = 1 → Fr (MS g u) m m' → Q 0 m') (c0 : ∀ t s, p1 = nI t → t ≤ 3 → p2 = nI s → (if t ≤ 1 then 7200 else 90000) ≤ s → s ≤ 100000000 → ∀ m', Mod m' g u K R Z Wh Ti Va Pa n ck kd (va_up rt t s) (hzE (va_up rt t s) ck hz 4) al → mI m' 136 u = 0 → Fr (MS g u) m m' → Q (nI (rt t)) m') : wp_X6_setRetention u p1 p2 m Q := by
  have no : ∀ {F : Int32 → MM → Prop}, (∀ t s, p1 = nI t → t ≤ 3 → p2 = nI s → (if t ≤ 1 then 7200 else 90000) ≤ s → s ≤ 100000000 → False) → mK m u = 7 ∧ wp_X6_can u (1 : Int32) m (fun r5 m6 => ((¬ r5 = 0 → F r5 m6) ∧ (r5 = 0 → Q (0 : Int32) m6))) := fun z => ⟨h.1.1, md_no h (by decide) fun m' h' t' f' => ⟨fun y => absurd rfl y, fun _ => c1 z m' h' t' (fr_u f')⟩⟩
  have yes : ∀ t s, p1 = nI t → t ≤ 3 → p2 = nI s → (if t ≤ 1 then 7200 else 90000) ≤ s → s ≤ 100000000 → mK m u = 7 ∧ wp_X6_can u (0 : Int32) m (fun r43 m44 => ((¬ r43 = 0 → mK m44 u = 7 ∧ ∃ b47 : Nat, mR m44 124 u = some b47 ∧ mK m44 b47 = 11 ∧ vp_in p1 (mN m44 b47) ∧ ∀ x50 : Int32, x50 = (mAI m44 b47 p1.toNatClampNeg) → mK m44 u = 7 ∧ ∃ b52 : Nat, mR m44 124 u = some b52 ∧ mK m44 b52 = 11 ∧ vp_in p1 (mN m44 b52) ∧ ∀ m55 : MM, m55 = sAI m44 b52 (va_up (mAI m44 b52) p1.toNatClampNeg p2) → mK m55 u = 7 ∧ wp_X6_expire u m55 (fun m58 => Q x50 m58)) ∧ (r43 = 0 → Q (0 : Int32) m44))) := fun t s e1 ht e2 s1 s2 => ⟨h.1.1, md_yes h fun m' h' t' f' => ⟨fun _ => ?_, fun y => absurd y (by decide)⟩⟩
  · unfold wp_X6_setRetention
    refine md_isTier (fun t e1 ht => ⟨fun z => absurd z (by decide), fun _ => ⟨fun y => ?_, fun y => ?_⟩⟩) (fun z => ⟨fun _ => no fun t s e1 ht _ _ _ => ?_, fun y => absurd rfl y⟩)
    · rw [e1] at y
      have t2 := (nI_ltI (a := 1) (b := t) (by omega) (by omega)).mp y
      refine md_rng (a := 90000) (b := 100000000) (by decide) (by decide) (by decide) (by decide) (fun s e2 s1 s2 => ⟨fun z => absurd z (by decide), fun _ => yes t s e1 ht e2 (by rw [if_neg (by omega)]; exact s1) s2⟩) (fun z => ⟨fun _ => no fun t' s e1' ht' e2 s1 s2 => ?_, fun y => absurd rfl y⟩)
      have et := (nI_eq (a := t) (b := t') (by omega) (by omega)).mp (e1.symm.trans e1')
      rw [if_neg (by omega)] at s1
      have := z s e2 s1
      omega
    · rw [e1] at y
      have t2 : t ≤ 1 := by
        rcases Nat.lt_or_ge 1 t with q | q
        · exact absurd ((nI_ltI (a := 1) (b := t) (by omega) (by omega)).mpr q) y
        · exact q
      refine md_rng (a := 7200) (b := 100000000) (by decide) (by decide) (by decide) (by decide) (fun s e2 s1 s2 => ⟨fun z => absurd z (by decide), fun _ => yes t s e1 ht e2 (by rw [if_pos t2]; exact s1) s2⟩) (fun z => ⟨fun _ => no fun t' s e1' ht' e2 s1 s2 => ?_, fun y => absurd rfl y⟩)
      have et := (nI_eq (a := t) (b := t') (by omega) (by omega)).mp (e1.symm.trans e1')
      rw [if_pos (by omega)] at s1
      have := z s e2 s1
      omega
    · have := z t e1
      omega
  · obtain ⟨⟨a1, a2, a3, a4, a5, a6, a7, a8, a9, a10, a11⟩, ⟨b1, b2, b3, b4, b5, b6, b7, b8, b9, b10, b11, b12, b13, b14⟩, ⟨c1', c2', c3'⟩, -⟩ := id h'
    have hv : vp_in p1 (mN m' R) := by rw [e1, b4]; exact vp_in_nI (by omega) (by decide)
    refine ⟨a1, R, a6, b3, hv, fun x50 e50 => ⟨a1, R, a6, b3, hv, fun m55 e55 => ?_⟩⟩
    rw [e1, nI_clamp (by omega), (c1' t ht).1] at e50
    rw [e1, e2, nI_clamp (by omega)] at e55
    have h55 := h'.rtu t s
    rw [← e55] at h55
    have f55 : Fr (MS g u) m' m55 := by rw [e55]; exact (Fr.sAI _ _ _).mono fun y _ z => Or.inr (by rw [show y = R from z, h'.2.2.2.1.2.2.1]; decide)
    refine ⟨h55.1.1, md_expire hck (fun i hi => ?_) hzb h55 (fun m'' w1 w2 w3 => ?_)⟩
    · by_cases q : i = t
      · rw [q, va_up_self]; omega
      · rw [va_up_ne _ _ q]; exact hrt i hi
    · rw [e50]
      exact c0 t s e1 ht e2 s1 s2 m'' w1 (w2.trans (by rw [e55, i_sAI]; exact t')) (((fr_u f').trans f55).trans w3)
/-- one more series -/
theorem md_addSeries (h : Mod m g u K R Z Wh Ti Va Pa n ck kd rt hz al) {p1 : Int32} {Q : Int32 → MM → Prop} (c1 : (∀ k, p1 = nI k → 1 < k ∨ 2 ^ 31 ≤ k) → ∀ m', Mod m' g u K R Z Wh Ti Va Pa n ck kd rt hz al → mI m' 136 u = 1 → Fr (MS g u) m m' → Q 0 m') (c2 : ∀ k, p1 = nI k → k ≤ 1 → n = 4 → ∀ m', Mod m' g u K R Z Wh Ti Va Pa n ck kd rt hz al → mI m' 136 u = 2 → Fr (MS g u) m m' → Q 0 m') (c0 : ∀ k, p1 = nI k → k ≤ 1 → n < 4 → ∀ m', Mod m' g u K R Z Wh Ti Va Pa (n + 1) ck (va_up kd n k) rt hz al → mI m' 136 u = 0 → Fr (MS g u) m m' → Q (nI n) m') : wp_X6_addSeries u p1 m Q := by
  have hn4 := h.n4
  unfold wp_X6_addSeries
  refine md_rng (a := 0) (b := 1) (by decide) (by decide) (by decide) (by decide) (fun k ek _ hk => ⟨fun _ => ⟨h.1.1, ?_⟩, fun z => absurd z (by decide)⟩) (fun z => ⟨fun y => absurd rfl y, fun _ => ⟨h.1.1, md_no h (by decide) fun m' h' t' f' => ⟨fun y => absurd rfl y, fun _ => c1 (fun k e => z k e (Nat.zero_le _)) m' h' t' (fr_u f')⟩⟩⟩)
  rw [h.1.2.2.1]
  refine ⟨fun z => ⟨h.1.1, md_yes h fun m' h' t' f' => ⟨fun _ => ?_, fun y => absurd y (by decide)⟩⟩, fun z => ⟨h.1.1, md_no h (by decide) fun m' h' t' f' => ⟨fun y => absurd rfl y, fun _ => c2 k ek hk ((nI_eq (a := n) (b := 4) (by omega) (by omega)).mp z) m' h' t' (fr_u f')⟩⟩⟩
  have hn : n < 4 := by
    rcases Nat.lt_or_ge n 4 with q | q
    · exact q
    · exact absurd (by rw [show n = 4 by omega]; rfl) z
  obtain ⟨⟨a1, a2, a3, a4, a5, a6, a7, a8, a9, a10, a11⟩, ⟨b1, b2, b3, b4, b5, b6, b7, b8, b9, b10, b11, b12, b13, b14⟩, ⟨c1', c2', c3'⟩, ⟨d1, d2, d3, d4, d5, d6, d7, d8⟩, e1, e2, e3, e4⟩ := id h'
  rw [a3]
  refine ⟨a1, K, a5, a1, b1, by rw [b2]; exact vp_in_nI hn (by decide), fun m15 e15 => ?_⟩
  rw [nI_clamp (by omega), ek] at e15
  refine ⟨by rw [e15, k_sAI]; exact a1, by rw [e15, k_sAI]; exact a1, fun m18 e18 => ?_⟩
  rw [e15, i_sAI, a3, nI_1] at e18
  have ne : ∀ x, g x ≠ 2 → ¬ x = K := fun x hx z => hx (by rw [z]; exact d2)
  have A18 : mAI m18 = fun b => if b = K then va_up (mAI m' K) n (nI k) else mAI m' b := by rw [e18]; rfl
  have I18 : ∀ f, f ≠ 121 → mI m18 f u = mI m' f u := fun f hf => by rw [e18, i_sI, if_neg (fun z => hf z.1), i_sAI]
  have i121 : mI m18 121 u = nI (n + 1) := by rw [e18, i_sI, if_pos ⟨rfl, rfl⟩]
  have K18 : mK m18 = mK m' := by rw [e18]; rfl
  have N18 : mN m18 = mN m' := by rw [e18]; rfl
  have R18 : mR m18 = mR m' := by rw [e18]; rfl
  have g18 : ∀ x, g x ≠ 2 → mAI m18 x = mAI m' x := fun x hx => by rw [A18]; exact if_neg (ne x hx)
  refine ⟨by rw [K18]; exact a1, ?_⟩
  rw [i121, nI_pred]
  refine c0 k ek hk hn m18 ⟨⟨by rw [K18]; exact a1, by rw [I18 120 (by decide)]; exact a2, i121, by rw [I18 122 (by decide)]; exact a4, by rw [R18]; exact a5, by rw [R18]; exact a6, by rw [R18]; exact a7, by rw [R18]; exact a8, by rw [R18]; exact a9, by rw [R18]; exact a10, by rw [R18]; exact a11⟩, by rw [K18, N18]; exact ⟨b1, b2, b3, b4, b5, b6, b7, b8, b9, b10, b11, b12, b13, b14⟩, ⟨fun i hi => by rw [g18 R (by omega), g18 Z (by omega)]; exact c1' i hi, fun i hi => ?_, fun j a hj => by rw [g18 Wh (by omega), g18 Ti (by omega), g18 Va (by omega)]; exact c3' j a hj⟩, ⟨d1, d2, d3, d4, d5, d6, d7, d8⟩, by omega, e2, fun a ha => ⟨by have := (e3 a ha).1; omega, (e3 a ha).2⟩, e4⟩ ((I18 136 (by decide)).trans t') ((fr_u f').trans ?_)
  · rw [A18]
    show (if K = K then va_up (mAI m' K) n (nI k) else mAI m' K) i = nI (va_up kd n k i)
    rw [if_pos rfl]
    by_cases q : i = n
    · rw [q, va_up_self, va_up_self]
    · rw [va_up_ne _ _ q, va_up_ne _ _ q]
      exact c2' i (by omega)
  · rw [e18]
    exact ((Fr.sAI _ _ _).mono fun y _ z => Or.inr (by rw [show y = K from z, d2]; decide)).trans ((Fr.sI _ _ _ _).mono fun y _ z => Or.inl z)
/-- the clock, the number of series, a horizon -/
theorem md_clock (h : Mod m g u K R Z Wh Ti Va Pa n ck kd rt hz al) {Q : Int32 → MM → Prop} (hq : ∀ m', Mod m' g u K R Z Wh Ti Va Pa n ck kd rt hz al → Fr (MS g u) m m' → Q (nI ck) m') : wp_X6_clock u m Q := by
  unfold wp_X6_clock
  refine ⟨h.1.1, fun m2 e2 => ?_⟩
  have h2 := h.sI (f := 136) (by decide) 0
  rw [← e2] at h2
  refine ⟨h2.1.1, ?_⟩
  rw [h2.1.2.1]
  exact hq m2 h2 (by rw [e2]; exact fr_u (Fr.sI _ _ _ _))
theorem md_series (h : Mod m g u K R Z Wh Ti Va Pa n ck kd rt hz al) {Q : Int32 → MM → Prop} (hq : ∀ m', Mod m' g u K R Z Wh Ti Va Pa n ck kd rt hz al → Fr (MS g u) m m' → Q (nI n) m') : wp_X6_series u m Q := by
  unfold wp_X6_series
  refine ⟨h.1.1, fun m2 e2 => ?_⟩
  have h2 := h.sI (f := 136) (by decide) 0
  rw [← e2] at h2
  refine ⟨h2.1.1, ?_⟩
  rw [h2.1.2.2.1]
  exact hq m2 h2 (by rw [e2]; exact fr_u (Fr.sI _ _ _ _))
theorem md_horizon (h : Mod m g u K R Z Wh Ti Va Pa n ck kd rt hz al) {p1 : Int32} {Q : Int32 → MM → Prop} (c1 : (∀ i, p1 = nI i → 3 < i ∨ 2 ^ 31 ≤ i) → ∀ m', Mod m' g u K R Z Wh Ti Va Pa n ck kd rt hz al → mI m' 136 u = 1 → Fr (MS g u) m m' → Q 0 m') (c0 : ∀ i, p1 = nI i → i ≤ 3 → ∀ m', Mod m' g u K R Z Wh Ti Va Pa n ck kd rt hz al → mI m' 136 u = 0 → Fr (MS g u) m m' → Q (nI (hz i)) m') : wp_X6_horizon u p1 m Q := by
  unfold wp_X6_horizon
  refine md_isTier (fun i e hi => ⟨fun z => absurd z (by decide), fun _ => ⟨h.1.1, md_yes h fun m' h' t' f' => ⟨fun y => absurd y (by decide), fun _ => ?_⟩⟩⟩) (fun z => ⟨fun _ => ⟨h.1.1, md_no h (by decide) fun m' h' t' f' => ⟨fun _ => c1 z m' h' t' (fr_u f'), fun y => absurd rfl y⟩⟩, fun y => absurd rfl y⟩)
  obtain ⟨⟨a1, a2, a3, a4, a5, a6, a7, -⟩, ⟨b1, b2, b3, b4, b5, b6, -⟩, ⟨c1', -⟩, -⟩ := id h'
  refine ⟨a1, Z, a7, b5, by rw [e, b6]; exact vp_in_nI (by omega) (by decide), ?_⟩
  rw [e, nI_clamp (by omega), (c1' i hi).2]
  exact c0 i e hi m' h' t' (fr_u f')
end
