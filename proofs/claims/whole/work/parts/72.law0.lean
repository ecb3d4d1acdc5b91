/-! THE LAW: what holds between its calls. x tells the addresses: 0 to 5 the store's, 6 to 13 the model's, 14 and 15 the law's two rows for answers -/
def Ou (x : Nat → Nat) (m : MM) (g : Nat → Nat) : Prop := mK m (x 14) = 12 ∧ mN m (x 14) = 1 ∧ g (x 14) = 1 ∧ mK m (x 15) = 13 ∧ mN m (x 15) = 1 ∧ g (x 15) = 1
abbrev St (x : Nat → Nat) (m : MM) (g : Nat → Nat) (n ck : Nat) (sa kd rt hz : Nat → Nat) (Pl : Nat → List (Nat × Int32)) (Cs : Nat → Nat → Nat) : Prop := Sto m g (x 0) (x 1) (x 2) (x 3) (x 4) (x 5) n ck sa kd rt hz Pl Cs
abbrev Md (x : Nat → Nat) (m : MM) (g : Nat → Nat) (n ck : Nat) (kd rt hz : Nat → Nat) (al : List AT) : Prop := Mod m g (x 6) (x 7) (x 8) (x 9) (x 10) (x 11) (x 12) (x 13) n ck kd rt hz al
/-- the points of the series, as the model tells them -/
abbrev pl (al : List AT) : Nat → List (Nat × Int32) := fun i => sub i al
def Bo (x : Nat → Nat) (m : MM) (g : Nat → Nat) (n ck : Nat) (sa kd rt hz : Nat → Nat) (Cs : Nat → Nat → Nat) (al : List AT) : Prop := St x m g n ck sa kd rt hz (pl al) Cs ∧ Md x m g n ck kd rt hz al ∧ Ou x m g
/-- the least retention of a tier -/
def rmin (i : Nat) : Nat := if i ≤ 1 then 7200 else 90000
/-- what holds of the numbers, with c calls left -/
def Iv (n ck : Nat) (kd rt hz : Nat → Nat) (Cs : Nat → Nat → Nat) (al : List AT) (c : Nat) : Prop := (∀ i, i < n → kd i ≤ 1) ∧ ck + 1000000 * c ≤ 512000000 ∧ (∀ i, i ≤ 3 → rmin i ≤ rt i ∧ rt i ≤ 100000000) ∧ (∀ i, i ≤ 3 → ck - rt i ≤ hz i) ∧ (∀ i, i ≤ 3 → hz i = 0 ∨ hz i + rmin i ≤ ck) ∧ al.length + 20 * c ≤ 10240 ∧ (∀ a ∈ al, a.2.1 ≤ ck ∧ okV (kd a.1) a.2.2) ∧ (∀ i, i < n → ∀ j, 1 ≤ j → j ≤ 3 → pw (Cs i j))
/-- what may still be spent on places -/
def bS (n : Nat) (Cs : Nat → Nat → Nat) : Nat := gone (fun i => bud (Cs i)) n 0 + (4 - n) * 98304
def Lw (x : Nat → Nat) (m : MM) (c kc ks : Nat) : Prop := ∃ g n ck sa kd rt hz Cs al, Bo x m g n ck sa kd rt hz Cs al ∧ Iv n ck kd rt hz Cs al c ∧ 200 * c ≤ kc ∧ 600 * c + bS n Cs ≤ ks
section
variable {x : Nat → Nat} {m : MM} {g : Nat → Nat} {n ck : Nat} {sa kd rt hz : Nat → Nat} {Pl : Nat → List (Nat × Int32)} {Cs : Nat → Nat → Nat} {al : List AT} {c : Nat}
theorem Iv.less (h : Iv n ck kd rt hz Cs al (c + 1)) : Iv n ck kd rt hz Cs al c := by
  obtain ⟨h1, h2, h3, h4, h5, h6, h7, h8⟩ := h
  exact ⟨h1, by omega, h3, h4, h5, by omega, h7, h8⟩
theorem Iv.hzb (h : Iv n ck kd rt hz Cs al c) : ∀ i, i ≤ 3 → hz i < 2 ^ 30 := fun i hi => by
  obtain ⟨h1, h2, h3, h4, h5, h6, h7, h8⟩ := h
  have := h5 i hi
  omega
theorem Iv.hzb1 (h : Iv n ck kd rt hz Cs al c) : ∀ i, i ≤ 3 → hz i < 2 ^ 31 := fun i hi => by
  have := h.hzb i hi
  omega
theorem Iv.hzs (h : Iv n ck kd rt hz Cs al c) : (hz 0 = 0 ∨ hz 0 + 7200 ≤ ck) ∧ (hz 1 = 0 ∨ hz 1 + 7200 ≤ ck) ∧ (hz 2 = 0 ∨ hz 2 + 90000 ≤ ck) ∧ (hz 3 = 0 ∨ hz 3 + 90000 ≤ ck) := by
  obtain ⟨h1, h2, h3, h4, h5, h6, h7, h8⟩ := h
  exact ⟨h5 0 (by decide), h5 1 (by decide), h5 2 (by decide), h5 3 (by decide)⟩
theorem Iv.rtb (h : Iv n ck kd rt hz Cs al c) : ∀ i, i ≤ 3 → rt i < 2 ^ 30 := fun i hi => by
  have := (h.2.2.1 i hi).2
  omega
theorem Iv.len (h : Iv n ck kd rt hz Cs al c) (i : Nat) : (sub i al).length ≤ 10240 := by
  have := sub_len i al
  have := h.2.2.2.2.2.1
  omega
theorem Iv.pos (h : Iv n ck kd rt hz Cs al c) : ∀ i, i < n → kd i = 1 → ∀ p ∈ sub i al, (0 : Int32) ≤ p.2 := fun i hi k p hp => by
  have := (h.2.2.2.2.2.2.1 (i, p) (mem_sub.mp hp)).2
  have h1 : (if kd i = 1 then (0 : Int32) else (-1000000 : Int32)) ≤ p.2 := this.1
  rw [if_pos k] at h1
  exact h1
theorem Bo.srt (h : Bo x m g n ck sa kd rt hz Cs al) : ∀ i, i < n → Srt kf (sub i al) := fun i _ => sub_srt h.2.1.srt i
theorem Bo.n4 (h : Bo x m g n ck sa kd rt hz Cs al) : n ≤ 4 := h.2.1.n4
theorem Sto.h100 (h : St x m g n ck sa kd rt hz Pl Cs) : ∀ i, i < n → (hi kf (hz 0) (Pl i)).length ≤ 100 := fun i hin => by
  obtain ⟨-, p, t, v, U, WW, T, B, s3, -⟩ := h.2.2.2.2.2 i hin
  exact s3.2.2.2.2.1.len
theorem Sto.plc {Pl' : Nat → List (Nat × Int32)} (h : St x m g n ck sa kd rt hz Pl Cs) (e : ∀ i, i < n → Pl' i = Pl i) : St x m g n ck sa kd rt hz Pl' Cs := by
  obtain ⟨a, b, c, d, f, k⟩ := h
  exact ⟨a, b, c, d, f, fun i hi => by rw [e i hi]; exact k i hi⟩
theorem Ou.fr {S : Nat → Prop} {m' : MM} (h : Ou x m g) (hf : Fr S m m') : Ou x m' g := by
  obtain ⟨h1, h2, h3, h4, h5, h6⟩ := h
  exact ⟨hf.K h1 (by decide), by rw [(hf _ (by rw [h1]; decide)).2.1]; exact h2, h3, hf.K h4 (by decide), by rw [(hf _ (by rw [h4]; decide)).2.1]; exact h5, h6⟩
theorem Ou.tag {g' : Nat → Nat} (h : Ou x m g) (hg : ∀ a, mK m a ≠ 0 → g' a = g a) : Ou x m g' := by
  obtain ⟨h1, h2, h3, h4, h5, h6⟩ := h
  exact ⟨h1, h2, (hg _ (by rw [h1]; decide)).trans h3, h4, h5, (hg _ (by rw [h4]; decide)).trans h6⟩
/-- the model, behind a call of the store -/
theorem Mod.st {m' : MM} {g' : Nat → Nat} (h : Md x m g n ck kd rt hz al) (hg : ∀ a, mK m a ≠ 0 → g' a = g a) (hF : Fr (fun a => 8 ≤ g a) m m') : Md x m' g' n ck kd rt hz al := by
  have h1 := h.fr hF (fun y hy z => by
    have z : 8 ≤ g y := z
    rcases hy with e | e
    · rw [e, h.2.2.2.1.1] at z
      omega
    · omega)
  exact ⟨h1.1, h1.2.1, h1.2.2.1, (h.tag hg).2.2.2.1, h1.2.2.2.2⟩
theorem fr_16 {m' : MM} (hF : Fr (fun a => 16 ≤ g a) m m') : Fr (fun a => 8 ≤ g a) m m' := hF.mono fun _ _ z => Nat.le_trans (by decide) z
theorem fr_scr {m' : MM} (h : St x m g n ck sa kd rt hz Pl Cs) (hF : Fr (fun y => y = x 4 ∨ y = x 5) m m') : Fr (fun a => 8 ≤ g a) m m' := hF.mono fun y _ z => by
  show 8 ≤ g y
  rw [h.2.2.2.1 y (by rcases z with z | z <;> simp [z])]
  exact Nat.le_refl _
/-- an answer is written -/
theorem out3 {nM ckM : Nat} {kdM rtM hzM : Nat → Nat} {alM : List AT} (hS : St x m g n ck sa kd rt hz Pl Cs) (hM : Md x m g nM ckM kdM rtM hzM alM) (hO : Ou x m g) {m6 : MM} {v : Int64} (e : m6 = sAJ m (x 14) (va_up (mAJ m (x 14)) (0 : Int32).toNatClampNeg v)) : St x m6 g n ck sa kd rt hz Pl Cs ∧ Md x m6 g nM ckM kdM rtM hzM alM ∧ Ou x m6 g ∧ mAJ m6 (x 14) 0 = v := by
  have hF : Fr (fun y => y = x 14) m m6 := by rw [e]; exact Fr.sAJ _ _ _
  have hne : ∀ y, g y ≠ 1 → ¬ y = x 14 := fun y hy z => hy (by rw [z]; exact hO.2.2.1)
  refine ⟨hS.fr hF (fun y hy => hne y ?_) (fun y hy => hne y (by omega)), hM.fr hF (fun y hy z => ?_), hO.fr hF, ?_⟩
  · have := hS.2.2.2.1 y (by rcases hy with h | h | h | h <;> simp [h])
    omega
  · have z : y = x 14 := z
    rcases hy with h | h
    · have k1 := hM.1.1
      rw [← h, z, hO.1] at k1
      exact absurd k1 (by decide)
    · rw [z] at h
      exact h.2 hO.2.2.1
  · rw [e, aj_sAJ, if_pos rfl, show (0 : Int32).toNatClampNeg = 0 by decide, va_up_self]
theorem out3D {nM ckM : Nat} {kdM rtM hzM : Nat → Nat} {alM : List AT} (hS : St x m g n ck sa kd rt hz Pl Cs) (hM : Md x m g nM ckM kdM rtM hzM alM) (hO : Ou x m g) {m6 : MM} {v : UInt64} (e : m6 = sAD m (x 15) (va_up (mAD m (x 15)) (0 : Int32).toNatClampNeg v)) : St x m6 g n ck sa kd rt hz Pl Cs ∧ Md x m6 g nM ckM kdM rtM hzM alM ∧ Ou x m6 g ∧ mAD m6 (x 15) 0 = v := by
  have hF : Fr (fun y => y = x 15) m m6 := by rw [e]; exact Fr.sAD _ _ _
  have hne : ∀ y, g y ≠ 1 → ¬ y = x 15 := fun y hy z => hy (by rw [z]; exact hO.2.2.2.2.2)
  refine ⟨hS.fr hF (fun y hy => hne y ?_) (fun y hy => hne y (by omega)), hM.fr hF (fun y hy z => ?_), hO.fr hF, ?_⟩
  · have := hS.2.2.2.1 y (by rcases hy with h | h | h | h <;> simp [h])
    omega
  · have z : y = x 15 := z
    rcases hy with h | h
    · have k1 := hM.1.1
      rw [← h, z, hO.2.2.2.1] at k1
      exact absurd k1 (by decide)
    · rw [z] at h
      exact h.2 hO.2.2.2.2.2
  · rw [e, ad_sAD, if_pos rfl, show (0 : Int32).toNatClampNeg = 0 by decide, va_up_self]
/-- the store and the answers, behind a call of the model -/
theorem mod3 {nM ckM : Nat} {kdM rtM hzM : Nat → Nat} {alM : List AT} (hS : St x m g n ck sa kd rt hz Pl Cs) (hM : Md x m g nM ckM kdM rtM hzM alM) (hO : Ou x m g) {m' : MM} (hF : Fr (MS g (x 6)) m m') : St x m' g n ck sa kd rt hz Pl Cs ∧ Ou x m' g ∧ mAJ m' (x 14) = mAJ m (x 14) ∧ mAD m' (x 15) = mAD m (x 15) := by
  have hu : g (x 6) = 1 := hM.2.2.2.1.1
  have hne : ∀ y, 8 ≤ g y → ¬ MS g (x 6) y := fun y hy z => by
    rcases z with z | z
    · rw [z, hu] at hy
      omega
    · omega
  have n14 : ¬ MS g (x 6) (x 14) := fun z => by
    rcases z with z | z
    · have k1 := hM.1.1
      rw [← z, hO.1] at k1
      exact absurd k1 (by decide)
    · exact z.2 hO.2.2.1
  have n15 : ¬ MS g (x 6) (x 15) := fun z => by
    rcases z with z | z
    · have k1 := hM.1.1
      rw [← z, hO.2.2.2.1] at k1
      exact absurd k1 (by decide)
    · exact z.2 hO.2.2.2.2.2
  refine ⟨hS.fr hF (fun y hy => hne y ?_) (fun y hy => hne y (by omega)), hO.fr hF, ((hF _ (by rw [hO.1]; decide)).2.2 n14).2.2.2.2.1, ((hF _ (by rw [hO.2.2.2.1]; decide)).2.2 n15).2.2.2.2.2.1⟩
  have := hS.2.2.2.1 y (by rcases hy with h | h | h | h <;> simp [h])
  omega
/-! how the law compares -/
def TI (O : Nat) (Kx : MM → Prop) (k : Int32) (r : Int64) (kt : Int32) (m : MM) : Prop := (kt = k → ((¬ k = 0 → Kx m) ∧ (k = 0 → mK m O = 12 ∧ vp_in (0 : Int32) (mN m O) ∧ (((lg_cmp (mAJ m O (0 : Int32).toNatClampNeg) r) = 0 → Kx m) ∧ (¬ (lg_cmp (mAJ m O (0 : Int32).toNatClampNeg) r) = 0 → False))))) ∧ (¬ kt = k → False)
def TB (O : Nat) (Kx : MM → Prop) (k : Int32) (r : Int32) (kt : Int32) (m : MM) : Prop := (kt = k → ((¬ k = 0 → Kx m) ∧ (k = 0 → mK m O = 12 ∧ vp_in (0 : Int32) (mN m O) ∧ ((r = 0 → (((lg_cmp (mAJ m O (0 : Int32).toNatClampNeg) (0 : Int64)) = 0 → Kx m) ∧ (¬ (lg_cmp (mAJ m O (0 : Int32).toNatClampNeg) (0 : Int64)) = 0 → False))) ∧ (¬ r = 0 → (((lg_cmp (mAJ m O (0 : Int32).toNatClampNeg) (1 : Int64)) = 0 → Kx m) ∧ (¬ (lg_cmp (mAJ m O (0 : Int32).toNatClampNeg) (1 : Int64)) = 0 → False))))))) ∧ (¬ kt = k → False)
def TD (D : Nat) (Kx : MM → Prop) (k : Int32) (r : UInt64) (kt : Int32) (m : MM) : Prop := (kt = k → ((¬ k = 0 → Kx m) ∧ (k = 0 → mK m D = 13 ∧ vp_in (0 : Int32) (mN m D) ∧ (((Op.cmpValue (FP.dcmp (mAD m D (0 : Int32).toNatClampNeg) r) .l) = 0 → Kx m) ∧ (¬ (Op.cmpValue (FP.dcmp (mAD m D (0 : Int32).toNatClampNeg) r) .l) = 0 → mK m D = 13 ∧ vp_in (0 : Int32) (mN m D) ∧ mK m D = 13 ∧ vp_in (0 : Int32) (mN m D) ∧ (((Op.cmpValue (FP.dcmp (mAD m D (0 : Int32).toNatClampNeg) (mAD m D (0 : Int32).toNatClampNeg)) .l) = 0 → False) ∧ (¬ (Op.cmpValue (FP.dcmp (mAD m D (0 : Int32).toNatClampNeg) (mAD m D (0 : Int32).toNatClampNeg)) .l) = 0 → ((¬ (Op.cmpValue (FP.dcmp r r) .l) = 0 → Kx m) ∧ ((Op.cmpValue (FP.dcmp r r) .l) = 0 → False))))))))) ∧ (¬ kt = k → False)
theorem c00 : (0 : Int32).toNatClampNeg = 0 := by decide
theorem fin_I {k : Int32} {r : Int64} {Kx : MM → Prop} (hu : mK m (x 6) = 7) (hO : Ou x m g) (ht : mI m 136 (x 6) = k) (hr : k = 0 → mAJ m (x 14) 0 = r) (hK : Kx m) : mK m (x 6) = 7 ∧ wp_X6_thrown (x 6) m (fun kt mt => TI (x 14) Kx k r kt mt) := by
  unfold wp_X6_thrown TI
  rw [ht]
  refine ⟨hu, hu, fun _ => ⟨fun _ => hK, fun e => ⟨hO.1, by rw [hO.2.1]; exact vp_in_nI (n := 0) (by decide) (by decide), fun _ => hK, fun z => z ?_⟩⟩, fun z => z rfl⟩
  rw [c00, lg_cmp_eq]
  exact hr e
theorem fin_B {k r : Int32} {Kx : MM → Prop} (hu : mK m (x 6) = 7) (hO : Ou x m g) (ht : mI m 136 (x 6) = k) (hr : k = 0 → (r = 0 ∧ mAJ m (x 14) 0 = 0) ∨ (¬ r = 0 ∧ mAJ m (x 14) 0 = 1)) (hK : Kx m) : mK m (x 6) = 7 ∧ wp_X6_thrown (x 6) m (fun kt mt => TB (x 14) Kx k r kt mt) := by
  unfold wp_X6_thrown TB
  rw [ht]
  refine ⟨hu, hu, fun _ => ⟨fun _ => hK, fun e => ⟨hO.1, by rw [hO.2.1]; exact vp_in_nI (n := 0) (by decide) (by decide), fun r0 => ⟨fun _ => hK, fun z => z ?_⟩, fun r0 => ⟨fun _ => hK, fun z => z ?_⟩⟩⟩, fun z => z rfl⟩
  · rw [c00, lg_cmp_eq]
    rcases hr e with ⟨-, w⟩ | ⟨w, -⟩
    · exact w
    · exact absurd r0 w
  · rw [c00, lg_cmp_eq]
    rcases hr e with ⟨w, -⟩ | ⟨-, w⟩
    · exact absurd w r0
    · exact w
theorem fin_D {k : Int32} {r : UInt64} {Kx : MM → Prop} (hu : mK m (x 6) = 7) (hO : Ou x m g) (ht : mI m 136 (x 6) = k) (hr : k = 0 → mAD m (x 15) 0 = r ∧ isEnc r) (hK : Kx m) : mK m (x 6) = 7 ∧ wp_X6_thrown (x 6) m (fun kt mt => TD (x 15) Kx k r kt mt) := by
  have hv : vp_in (0 : Int32) (mN m (x 15)) := by rw [hO.2.2.2.2.1]; exact vp_in_nI (n := 0) (by decide) (by decide)
  unfold wp_X6_thrown TD
  rw [ht]
  refine ⟨hu, hu, fun _ => ⟨fun _ => hK, fun e => ⟨hO.2.2.2.1, hv, fun _ => hK, fun z => absurd ?_ z⟩⟩, fun z => z rfl⟩
  obtain ⟨h1, h2⟩ := hr e
  rw [c00, h1, h2.eq]
  rfl
/-! what excludes what -/
theorem ex_bad {i : Nat} {p : Int32} (hb : p < 0 ∨ ¬ p < nI n) (hi : i < n) (hn : n ≤ 4) (e : p = nI i) : False := by
  rcases hb with z | z
  · rw [e] at z
    exact nI_pos (by omega) z
  · exact z (by rw [e]; exact nI_lt hi (by omega))
theorem same_i {i j : Nat} {p : Int32} (hi : i < n) (hj : j < n) (hn : n ≤ 4) (e : p = nI i) (e' : p = nI j) : j = i := ((nI_eq (by omega) (by omega)).mp (e.symm.trans e')).symm
theorem ex_bad_no {p1 p2 p3 : Int32} (hb : p1 < 0 ∨ ¬ p1 < nI n) (hn : n ≤ 4) (h : NoAsk n p1 p2 p3) : False := by
  obtain ⟨i, hi, e, -⟩ := h
  exact ex_bad hb hi hn e
theorem ex_bad_ask {p1 p2 p3 : Int32} {i t y : Nat} (hb : p1 < 0 ∨ ¬ p1 < nI n) (hn : n ≤ 4) (h : Ask n p1 p2 p3 i t y) : False := ex_bad hb h.1 hn h.2.1
theorem ex_no_ask {p1 p2 p3 : Int32} {i t y : Nat} (hn : n ≤ 4) (h : NoAsk n p1 p2 p3) (ha : Ask n p1 p2 p3 i t y) : False := by
  obtain ⟨j, hj, e, q⟩ := h
  have := same_i ha.1 hj hn ha.2.1 e
  rw [this] at q
  exact q t y ha
theorem ask_eq {p1 p2 p3 : Int32} {i t y i' t' y' : Nat} (hn : n ≤ 4) (h : Ask n p1 p2 p3 i t y) (h' : Ask n p1 p2 p3 i' t' y') : i' = i ∧ t' = t ∧ y' = y := by
  obtain ⟨a1, a2, a3, a4, a5, a6, a7⟩ := h
  obtain ⟨b1, b2, b3, b4, b5, b6, b7⟩ := h'
  exact ⟨same_i a1 b1 hn a2 b2, ((nI_eq (by omega) (by omega)).mp (a3.symm.trans b3)).symm, ((nI_eq (by omega) (by omega)).mp (a6.symm.trans b6)).symm⟩
/-- nothing but the scratch has changed: one call less -/
theorem Bo.less (h : Bo x m g n ck sa kd rt hz Cs al) (hI : Iv n ck kd rt hz Cs al (c + 1)) {kc ks a b : Nat} (hkc : 200 * (c + 1) ≤ kc) (hks : 600 * (c + 1) + bS n Cs ≤ ks) (ha : a ≤ 200) (hb : b ≤ 600) : Lw x m c (kc - a) (ks - b) := ⟨g, n, ck, sa, kd, rt, hz, Cs, al, h, hI.less, by omega, by omega⟩
end
