/-! THE MODEL'S PUT AND PUTMANY -/
/-- what the model's calls write to -/
def MS (g : Nat → Nat) (u : Nat) : Nat → Prop := fun y => y = u ∨ (g y < 8 ∧ g y ≠ 1)
theorem ins_le {α : Type} {f : α → Nat} {l : List α} (h : Srt f l) (a : α) : (ins f a l).length ≤ l.length + 1 := by
  by_cases q : ∃ b ∈ l, f b = f a
  · obtain ⟨b, hb, e⟩ := q
    rw [ins_old_len h hb e]
    exact Nat.le_succ _
  · rw [ins_new_len h (fun b hb e => q ⟨b, hb, e⟩)]
    exact Nat.le_refl _
/-- at most 100 points are kept, behind a write too -/
theorem hundred {h x : Nat} {v : Int32} {P : List (Nat × Int32)} (hP : Srt kf P) (hx : h ≤ x) (h1 : (hi kf h P).length ≤ 100) (h2 : (hi kf h P).length < 100 ∨ ∃ b ∈ hi kf h P, b.1 = x) : (hi kf h (ins kf (x, v) P)).length ≤ 100 := by
  have hS : Srt kf (hi kf h P) := hP.filter _
  rw [hi_ins hP hx]
  rcases h2 with q | ⟨b, hb, e⟩
  · have := ins_le hS (x, v)
    omega
  · rw [ins_old_len (f := kf) hS hb e]
    exact h1
section
variable {m : MM} {g : Nat → Nat} {u K R Z Wh Ti Va Pa n ck : Nat} {kd rt hz : Nat → Nat} {al : List AT}
theorem fr_u {m' : MM} (f : Fr (fun x => x = u) m m') : Fr (MS g u) m m' := f.mono fun _ _ z => Or.inl z
theorem Mod.fr4 {m' : MM} (h : Mod m g u K R Z Wh Ti Va Pa n ck kd rt hz al) {q : MM} (f : Fr (fun y => y = u ∨ y = Wh ∨ y = Ti ∨ y = Va) q m') : Fr (MS g u) q m' := f.mono fun y _ z => by
  obtain ⟨-, -, -, ⟨d1, d2, d3, d4, d5, d6, d7, d8⟩, -⟩ := h
  rcases z with z | z | z | z
  · exact Or.inl z
  · exact Or.inr (by rw [z, d5]; decide)
  · exact Or.inr (by rw [z, d6]; decide)
  · exact Or.inr (by rw [z, d7]; decide)
theorem md_put (h : Mod m g u K R Z Wh Ti Va Pa n ck kd rt hz al) (hkd : ∀ i, i < n → kd i ≤ 1) (hck : ck < 2147483648) (hz0 : hz 0 < 2 ^ 31) (h100 : ∀ i, i < n → (hi kf (hz 0) (sub i al)).length ≤ 100) (hroom : al.length < 10300) {p1 p2 p3 : Int32} {Q : Int32 → MM → Prop} (c1 : (p1 < 0 ∨ ¬ p1 < nI n) → ∀ m', Mod m' g u K R Z Wh Ti Va Pa n ck kd rt hz al → mI m' 136 u = 1 → Fr (MS g u) m m' → Q 0 m') (c2 : ∀ i, i < n → p1 = nI i → (∀ x, p2 = nI x → x ≤ ck → ¬ okV (kd i) p3) → ∀ m', Mod m' g u K R Z Wh Ti Va Pa n ck kd rt hz al → mI m' 136 u = 2 → Fr (MS g u) m m' → Q 0 m') (c3 : ∀ i x, i < n → p1 = nI i → p2 = nI x → x ≤ ck → okV (kd i) p3 → ¬ (ck ≤ x + 3600 ∧ ((hi kf (hz 0) (sub i al)).length < 100 ∨ ∃ b ∈ hi kf (hz 0) (sub i al), b.1 = x)) → ∀ m', Mod m' g u K R Z Wh Ti Va Pa n ck kd rt hz al → mI m' 136 u = 3 → Fr (MS g u) m m' → Q 0 m') (c0 : ∀ i x, i < n → p1 = nI i → p2 = nI x → x ≤ ck → okV (kd i) p3 → (ck ≤ x + 3600 ∧ ((hi kf (hz 0) (sub i al)).length < 100 ∨ ∃ b ∈ hi kf (hz 0) (sub i al), b.1 = x)) → ∀ (r : Int32) m', ((∃ b ∈ sub i al, b.1 = x) → r = 1) → ((∀ b ∈ sub i al, b.1 ≠ x) → r = 0) → Mod m' g u K R Z Wh Ti Va Pa n ck kd rt hz (ins ky (i, x, p3) al) → mI m' 136 u = 0 → Fr (MS g u) m m' → Q r m') : wp_X6_put u p1 p2 p3 m Q := by
  unfold wp_X6_put
  refine ⟨h.1.1, md_isSeries h (fun i hin e => ⟨fun _ => ⟨h.1.1, ?_⟩, fun z => absurd z (by decide)⟩) (fun z => ⟨fun y => absurd rfl y, fun _ => ⟨h.1.1, md_no h (by decide) fun m' h' t' f' => ⟨fun _ => c1 z m' h' t' (fr_u f'), fun y => absurd rfl y⟩⟩⟩)⟩
  rw [e]
  refine md_fault h hkd hck hz0 hin (h100 i hin) (fun z => ⟨h.1.1, md_no h (by decide) fun m' h' t' f' => ⟨fun _ => c2 i hin e z m' h' t' (fr_u f'), fun y => absurd rfl y⟩⟩) (fun x ex hx hv z => ⟨h.1.1, md_no h (by decide) fun m' h' t' f' => ⟨fun _ => c3 i x hin e ex hx hv z m' h' t' (fr_u f'), fun y => absurd rfl y⟩⟩) (fun x ex hx hv z => ⟨h.1.1, md_yes h fun m' h' t' f' => ⟨fun y => absurd y (by decide), fun _ => ⟨h'.1.1, ?_⟩⟩⟩)
  rw [ex]
  refine md_writes h' hin (by omega) hroom fun r m'' r1 r0 h'' t'' f'' => ?_
  have key := c0 i x hin e ex hx hv z r m'' r1 r0 h'' (t''.trans t') ((fr_u f').trans (h'.fr4 f''))
  refine ⟨fun y => by rw [y] at key; exact key, fun y => ?_⟩
  by_cases q : ∃ b ∈ sub i al, b.1 = x
  · rw [r1 q] at key
    exact key
  · exact absurd (r0 fun b hb e' => q ⟨b, hb, e'⟩) y
theorem md_putMany_loop {i x0 st : Nat} {v0 rs : Int32} (hin : i < n) (hkd : ∀ i, i < n → kd i ≤ 1) (hx0 : x0 ≤ ck) (hck : ck + 72000 < 2147483648) (hst : st ≤ 3600) (hz0 : hz 0 < 2 ^ 31) (hzs : hz 0 = 0 ∨ hz 0 + 7200 ≤ ck) {Q : Int32 → MM → Prop} {d' : Nat} {P' : List (Nat × Int32)} {C' : Nat → Nat} : ∀ (k d : Nat) (m : MM) (al : List AT) (C : Nat → Nat) (s : Nat), d + k ≤ 20 → Mod m g u K R Z Wh Ti Va Pa n ck kd rt hz al → al.length + k ≤ 10300 → (hi kf (hz 0) (sub i al)).length ≤ 100 → PM hz ck (kd i) x0 st v0 rs k d (sub i al) C d' P' C' s → (∀ m' al', Mod m' g u K R Z Wh Ti Va Pa n ck kd rt hz al' → sub i al' = P' → (∀ j, j ≠ i → sub j al' = sub j al) → mI m' 136 u = mI m 136 u → Fr (MS g u) m m' → Q (nI d') m') → wp_X6_putMany_84 Q (k + 1) u (nI i) (nI x0) v0 (nI st) rs (nI (d + k)) (nI d) m := by
  intro k
  induction k with
  | zero =>
    intro d m al C s hdk h hl h100 hPM hq
    obtain ⟨rfl, rfl, rfl, rfl⟩ := hPM
    unfold wp_X6_putMany_84
    exact ⟨fun _ => hq m al h rfl (fun _ _ => rfl) rfl (Fr.refl _ _), fun z => absurd (Int32.le_refl _) z⟩
  | succ k ih =>
    intro d m al C s hdk h hl h100 hPM hq
    have hle : d * st ≤ 19 * 3600 := Nat.mul_le_mul (by omega) hst
    have e1 : nI x0 + nI d * nI st = nI (x0 + d * st) := by rw [pk_mul, nI_add]
    have hx31 : x0 + d * st < 2 ^ 31 := by omega
    have hstay : ¬ okP hz ck (kd i) (sub i al) (x0 + d * st) (v0 + nI d * rs) → Q (nI d) m := fun z => by
      rcases hPM with ⟨q, -⟩ | ⟨q, rfl, rfl, rfl, rfl⟩
      · exact absurd q z
      · exact hq m al h rfl (fun _ _ => rfl) rfl (Fr.refl _ _)
    have same : ∀ {x : Nat}, nI (x0 + d * st) = nI x → x ≤ ck → x0 + d * st = x := fun e hx => (nI_eq hx31 (by omega)).mp e
    unfold wp_X6_putMany_84
    refine ⟨fun z => absurd ((nI_leI (by omega) (by omega)).mp z) (by omega), fun _ => ⟨h.1.1, ?_⟩⟩
    rw [e1, nI_1]
    refine md_fault h hkd (by omega) hz0 hin h100 (fun z => ⟨fun _ => hstay fun y => ?_, fun y => absurd y (by decide)⟩) (fun x ex hx hv z => ⟨fun _ => hstay fun y => ?_, fun y => absurd y (by decide)⟩) (fun x ex hx hv z => ⟨fun y => absurd rfl y, fun _ => ⟨h.1.1, ?_⟩⟩)
    · exact z _ rfl y.1.1 y.1.2
    · rw [same ex hx] at y
      exact z y.2
    · have exx := same ex hx
      rcases hPM with ⟨q, s9, hPM, es⟩ | ⟨q, -⟩
      · refine md_writes h hin (by omega) (by omega) fun r m' r1 r0 h' t' f' x26 e26 => ?_
        rw [e26, show d + (k + 1) = d + 1 + k by omega]
        have hsub := sub_ins h.srt i (x0 + d * st) (v0 + nI d * rs)
        have hil := ins_le h.srt (i, x0 + d * st, v0 + nI d * rs)
        refine ih (d + 1) m' (ins ky (i, x0 + d * st, v0 + nI d * rs) al) _ s9 (by omega) h' (by omega) ?_ (by rw [hsub]; exact hPM) (fun m'' al'' w1 w2 w3 w4 w5 => ?_)
        · rw [hsub]
          exact hundred (sub_srt h.srt i) (by have := q.2.1; omega) h100 q.2.2
        · refine hq m'' al'' w1 w2 (fun j hj => ?_) (w4.trans t') ((h.fr4 f').trans w5)
          rw [w3 j hj]
          exact sub_ins_ne h.srt (fun a ha => (h.small a ha).2) (by omega) hj
      · exact absurd ⟨⟨by omega, hv⟩, by rw [exx]; exact z⟩ q
theorem md_putMany (h : Mod m g u K R Z Wh Ti Va Pa n ck kd rt hz al) (hkd : ∀ i, i < n → kd i ≤ 1) (hck : ck + 72000 < 2147483648) (hz0 : hz 0 < 2 ^ 31) (hzs : hz 0 = 0 ∨ hz 0 + 7200 ≤ ck) (h100 : ∀ i, i < n → (hi kf (hz 0) (sub i al)).length ≤ 100) (hroom : al.length + 20 ≤ 10300) {p1 p2 p3 p4 p5 p6 : Int32} {Q : Int32 → MM → Prop} (c1 : (p1 < 0 ∨ ¬ p1 < nI n) → ∀ m', Mod m' g u K R Z Wh Ti Va Pa n ck kd rt hz al → mI m' 136 u = 1 → Fr (MS g u) m m' → Q 0 m') (c2 : ∀ i, i < n → p1 = nI i → (∀ x st k, ¬ GoodMany ck (kd i) p2 p3 p4 p5 p6 x st k) → ∀ m', Mod m' g u K R Z Wh Ti Va Pa n ck kd rt hz al → mI m' 136 u = 2 → Fr (MS g u) m m' → Q 0 m') (c3 : ∀ i x st k, i < n → p1 = nI i → GoodMany ck (kd i) p2 p3 p4 p5 p6 x st k → ¬ (ck ≤ x + 3600 ∧ ((hi kf (hz 0) (sub i al)).length < 100 ∨ ∃ b ∈ hi kf (hz 0) (sub i al), b.1 = x)) → ∀ m', Mod m' g u K R Z Wh Ti Va Pa n ck kd rt hz al → mI m' 136 u = 3 → Fr (MS g u) m m' → Q 0 m') (c0 : ∀ i x st k, i < n → p1 = nI i → GoodMany ck (kd i) p2 p3 p4 p5 p6 x st k → (ck ≤ x + 3600 ∧ ((hi kf (hz 0) (sub i al)).length < 100 ∨ ∃ b ∈ hi kf (hz 0) (sub i al), b.1 = x)) → ∃ C d' P' C' s, PM hz ck (kd i) x st p3 p5 k 0 (sub i al) C d' P' C' s ∧ ∀ m' al', Mod m' g u K R Z Wh Ti Va Pa n ck kd rt hz al' → sub i al' = P' → (∀ j, j ≠ i → sub j al' = sub j al) → mI m' 136 u = 0 → Fr (MS g u) m m' → Q (nI d') m') : wp_X6_putMany u p1 p2 p3 p4 p5 p6 m Q := by
  -- the two refusals that come first, where the numbers are wrong
  have bad : (∀ i, i < n → p1 = nI i → ∀ x st k, ¬ GoodMany ck (kd i) p2 p3 p4 p5 p6 x st k) → ∀ {F1 F2 F3 : Int32 → MM → Prop} {G : MM → Prop}, wp_X6_isSeries u p1 m (fun r6 m7 => ((¬ r6 = 0 → ((¬ (0 : Int32) = 0 → G m7) ∧ ((0 : Int32) = 0 → mK m7 u = 7 ∧ wp_X6_can u (2 : Int32) m7 (fun r28 m29 => ((¬ r28 = 0 → F2 r28 m29) ∧ (r28 = 0 → Q (0 : Int32) m29)))))) ∧ (r6 = 0 → mK m7 u = 7 ∧ wp_X6_can u (1 : Int32) m7 (fun r33 m34 => ((¬ r33 = 0 → F3 r33 m34) ∧ (r33 = 0 → Q (0 : Int32) m34)))))) := fun hbad F1 F2 F3 G => by
    refine md_isSeries h (fun i hin e => ⟨fun _ => ⟨fun z => absurd rfl z, fun _ => ⟨h.1.1, md_no h (by decide) fun m' h' t' f' => ⟨fun y => absurd rfl y, fun _ => c2 i hin e (hbad i hin e) m' h' t' (fr_u f')⟩⟩⟩, fun z => absurd z (by decide)⟩) (fun z => ⟨fun y => absurd rfl y, fun _ => ⟨h.1.1, md_no h (by decide) fun m' h' t' f' => ⟨fun y => absurd rfl y, fun _ => c1 z m' h' t' (fr_u f')⟩⟩⟩)
  unfold wp_X6_putMany
  refine md_rng (a := 1) (b := 3600) (by decide) (by decide) (by decide) (by decide) (fun st e4 s1 s2 => ⟨fun z => absurd z (by decide), fun _ => ?_⟩) (fun z => ⟨fun _ x4 ex4 => ⟨h.1.1, ?_⟩, fun y => absurd rfl y⟩)
  · refine md_isIn (fun r1 r2 => ⟨fun z => absurd z (by decide), fun _ => ?_⟩) (fun z => ⟨fun _ x4 ex4 => ⟨h.1.1, ?_⟩, fun y => absurd rfl y⟩)
    · refine md_rng (a := 1) (b := 20) (by decide) (by decide) (by decide) (by decide) (fun k e6 k1 k2 => ⟨fun z => absurd z (by decide), fun _ x91 e91 => ⟨h.1.1, ?_⟩⟩) (fun z => ⟨fun _ x4 ex4 => ⟨h.1.1, ?_⟩, fun y => absurd rfl y⟩)
      · rw [e91]
        refine md_isSeries h (fun i hin e => ⟨fun _ => ⟨fun _ => ⟨h.1.1, ?_⟩, fun z => absurd z (by decide)⟩, fun z => absurd z (by decide)⟩) (fun z => ⟨fun y => absurd rfl y, fun _ => ⟨h.1.1, md_no h (by decide) fun m' h' t' f' => ⟨fun y => absurd rfl y, fun _ => c1 z m' h' t' (fr_u f')⟩⟩⟩)
        rw [e]
        have mkG : ∀ x, p2 = nI x → x ≤ ck → okV (kd i) p3 → GoodMany ck (kd i) p2 p3 p4 p5 p6 x st k := fun x ex hx hv => ⟨⟨ex, hx, hv⟩, ⟨e4, s1, s2⟩, ⟨r1, Int32.not_lt.mp r2⟩, ⟨e6, k1, k2⟩⟩
        refine md_fault h hkd (by omega) hz0 hin (h100 i hin) (fun z => ⟨h.1.1, md_no h (by decide) fun m' h' t' f' => ⟨fun y => absurd rfl y, fun _ => c2 i hin e (fun x st k q => z x q.1.1 q.1.2.1 q.1.2.2) m' h' t' (fr_u f')⟩⟩) (fun x ex hx hv z => ⟨h.1.1, md_no h (by decide) fun m' h' t' f' => ⟨fun y => absurd rfl y, fun _ => c3 i x st k hin e (mkG x ex hx hv) z m' h' t' (fr_u f')⟩⟩) (fun x ex hx hv z => ⟨h.1.1, md_yes h fun m' h' t' f' => ⟨fun _ x104 e104 => ?_, fun y => absurd y (by decide)⟩⟩)
        obtain ⟨C, d', P', C', s, hPM, hq⟩ := c0 i x st k hin e (mkG x ex hx hv) z
        refine ⟨k + 1, ?_⟩
        have key := md_putMany_loop (g := g) (u := u) (K := K) (R := R) (Z := Z) (Wh := Wh) (Ti := Ti) (Va := Va) (Pa := Pa) (rt := rt) (Q := Q) hin hkd hx hck s2 hz0 hzs k 0 m' al C s (by omega) h' (by omega) (h100 i hin) hPM (fun m'' al'' w1 w2 w3 w4 w5 => hq m'' al'' w1 w2 w3 (w4.trans t') ((fr_u f').trans w5))
        rw [Nat.zero_add] at key
        rw [e104, ex, e4, e6]
        exact key
      · rw [ex4]
        exact bad (F1 := fun _ _ => True) (fun i hin e x st' k q => by
          have := z k q.2.2.2.1 q.2.2.2.2.1
          have := q.2.2.2.2.2
          omega)
    · rw [ex4]
      exact bad (F1 := fun _ _ => True) (fun i hin e x st' k q => by
        rcases z with z | z
        · exact q.2.2.1.1 z
        · exact Int32.not_lt.mpr q.2.2.1.2 z)
  · rw [ex4]
    exact bad (F1 := fun _ _ => True) (fun i hin e x st' k q => by
      have := z st' q.2.1.1 q.2.1.2.1
      have := q.2.1.2.2
      omega)
end
